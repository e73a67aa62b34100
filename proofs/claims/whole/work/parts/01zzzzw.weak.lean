/-! The reference's words on TOKENS where no program is being read: CELL TEXTS -/
def rEw (G : xG_) (q : Nat) (B : Nat → Int) (n : Nat) (lm : Bool) : Prop := rTx G q B n ∧ G 0 11 = (if lm = true then 1 else 0) ∧ rC G
section
variable {f q n i : Nat} {B : Nat → Int} {lm : Bool} {G : xG_} {L : Nat → Int}
theorem l_pass' (hf : n + 20 < f) (hE : rEw G q B n lm) (hA : rAt q B n lm i L) (h6 : L 6 = -1) (hK : kK (tstr B n lm) i ≠ 0) (hK5 : kK (tstr B n lm) i ≠ 5) : ∃ L', g213 f (xlx G L) = some (xlx G L') ∧ rAt q B n lm (i + 1) L' := by
  have htk := hA.tk hE.1.2.1
  have hS := tS_le hE.1.2.1 i
  have hen := ten_le hE.1.2.1 hS.1
  obtain ⟨h7, hT, hi, h8, h8', h8l⟩ := hA
  have h5 : L 5 = (q : Int) + ten B n (tS B n i) := htk.2.2.2.2.2.2.2.2.2.2.2.1 hK5
  have hlt : tS B n i < ten B n (tS B n i) := htk.2.2.2.2.2.2.2.2.2.2.2.2.1 hK
  have hlen := hE.1.len
  obtain ⟨L', e, r1, r2, r3⟩ := rl_lex (f := f) (L := L) hE.1 hf hen.2.1 h5 (by omega)
  have hsk := tsk_le hE.1.2.1 _ (ten B n (tS B n i)) false rfl hen.2.1
  refine ⟨L', ?_, by rw [r2]; exact h7, ?_, ?_, by omega, by omega, ?_⟩
  · unfold g213 g213_31
    simp only [xlx_2, xlx_3, xlx_4, xlx_5, xlx_6, xlx_7, xlx_8, xlx_9, xlx_10, xlx_u2, xlx_u3, xlx_u4, xlx_u5, xlx_u6, xlx_u7, xlx_u8, xlx_u9, xlx_u10, xu_e, eq_self, reduceIte, Nat.reduceEqDiff, if_true, if_false, not_true_eq_false, not_false_eq_true, Option.bind_some, i10, i01, true_and, false_and, and_false, ne_eq, Int.reduceEq, Int.reduceNeg, l_bad, h7, h6, e]
  · have hc : (0 ≤ B (tS B n (i + 1)) ∧ G 0 11 ≠ 0 ∧ 60 < L' 8) ↔ (0 ≤ B (tS B n (i + 1)) ∧ lm = true ∧ 62 ≤ i + 1) := by
      rw [hE.2.1, r3]
      by_cases c : lm = true
      · have := h8l c
        rw [if_pos c]
        constructor
        · rintro ⟨a, b, d⟩; exact ⟨a, c, by omega⟩
        · rintro ⟨a, b, d⟩; exact ⟨a, by decide, by omega⟩
      · rw [if_neg c]
        simp [c]
    have r1' : rTk q B n (tS B n (i + 1)) (0 ≤ B (tS B n (i + 1)) ∧ G 0 11 ≠ 0 ∧ 60 < L' 8) L' := r1
    unfold rTk at r1' ⊢
    simp only [hc] at r1'
    exact r1'
  · show i + 1 ≤ tsk B n false (ten B n (tS B n i))
    omega
  · intro c
    have := h8l c
    omega
theorem l_need_no' {c : Int} (hE : rEw G q B n lm) (hA : rAt q B n lm i L) (hc : isSg c) (hK : kK (tstr B n lm) i ≠ c) : g222 f (rsc c) (xlx G L) = some (xlx G (xu L 7 ((q : Int) + kS (tstr B n lm) i))) := by
  have htk := hA.tk hE.1.2.1
  have h1 := htk.2.1 c hc
  unfold g222 g222_23
  simp only [xlx_2, xlx_3, xlx_4, xlx_5, xlx_6, xlx_7, xlx_8, xlx_9, xlx_10, xlx_u2, xlx_u3, xlx_u4, xlx_u5, xlx_u6, xlx_u7, xlx_u8, xlx_u9, xlx_u10, xu_e, eq_self, reduceIte, Nat.reduceEqDiff, if_true, if_false, not_true_eq_false, not_false_eq_true, Option.bind_some, i10, i01, true_and, false_and, and_false, ne_eq, Int.reduceEq, Int.reduceNeg, l_sign, l_fail, hA.1, htk.1]
  rw [if_pos (fun q => hK (h1.mp q))]
theorem l_need' (hf : n + 20 < f) {c : Int} (hE : rEw G q B n lm) (hA : rAt q B n lm i L) (hc : isSg c) (hK : kK (tstr B n lm) i = c) : ∃ L', g222 f (rsc c) (xlx G L) = some (xlx G L') ∧ rAt q B n lm (i + 1) L' := by
  have htk := hA.tk hE.1.2.1
  have h1 := (htk.2.1 c hc).mpr hK
  have h6 : L 6 = -1 := by rw [htk.2.2.2.2.2.2.2.2.2.2.1, h1.1]; rfl
  have hc2 := hc
  unfold isSg at hc2
  obtain ⟨L', e, a⟩ := l_pass' hf hE hA h6 (by omega) (by omega)
  refine ⟨L', ?_, a⟩
  unfold g222 g222_23
  simp only [xlx_2, xlx_3, xlx_4, xlx_5, xlx_6, xlx_7, xlx_8, xlx_9, xlx_10, xlx_u2, xlx_u3, xlx_u4, xlx_u5, xlx_u6, xlx_u7, xlx_u8, xlx_u9, xlx_u10, xu_e, eq_self, reduceIte, Nat.reduceEqDiff, if_true, if_false, not_true_eq_false, not_false_eq_true, Option.bind_some, i10, i01, true_and, false_and, and_false, ne_eq, Int.reduceEq, Int.reduceNeg, l_sign, hA.1, h1.1, h1.2, and_self, e]
/-- what reading a FORMULA may change -/
def xff (G G' : xG_) : Prop := ∀ a j, ¬ (a = 0 ∧ (j = 21 ∨ j = 25 ∨ j = 89)) → ¬ (258 ≤ a ∧ a ≤ 262) → G' a j = G a j
theorem xff.rf (G : xG_) : xff G G := fun _ _ _ _ => rfl
theorem xff.tr {G G1 G2 : xG_} (h : xff G G1) (h1 : xff G1 G2) : xff G G2 := fun a j y1 y2 => by rw [h1 a j y1 y2, h a j y1 y2]
theorem xff.up {G : xG_} {a j : Nat} {v : Int} (h : a = 0 ∧ (j = 21 ∨ j = 25 ∨ j = 89) ∨ 258 ≤ a ∧ a ≤ 262) : xff G (xup2 G a j v) := fun x y y1 y2 => xup2_n (by omega)
theorem rEw.fr {G' : xG_} (h : rEw G q B n lm) (hf : xff G G') : rEw G' q B n lm := by
  obtain ⟨⟨⟨a1, a2, a3⟩, a4, a5, a6, a7⟩, b1, b2⟩ := h
  have e0 : G' 0 0 = G 0 0 := hf _ _ (by omega) (by omega)
  have e1 : G' 0 1 = G 0 1 := hf _ _ (by omega) (by omega)
  have eb : ∀ j, G' (G 0 0).toNat j = G (G 0 0).toNat j := fun j => hf _ _ (by omega) (by omega)
  refine ⟨⟨⟨by rw [e0]; exact a1, by rw [e1]; exact a2, by rw [e0, e1]; exact a3⟩, a4, by rw [e1]; exact a5, fun p => ?_, fun p hp => ?_⟩, by rw [hf _ _ (by omega) (by omega)]; exact b1, ?_⟩
  · have := a6 p
    unfold gB at this ⊢
    rw [e0, e1, eb]
    exact this
  · rw [e0, eb]
    exact a7 p hp
  · obtain ⟨k1, k2, k3, k4, k5, k6, k7, k8, k9⟩ := b2
    unfold rC
    simp (disch := omega) only [hf _ _]
    exact ⟨k1, k2, k3, k4, k5, k6, k7, k8, k9⟩
theorem rEw.u {k : Nat} {v : Int} (h : rEw G q B n lm) (hk : k = 21 ∨ k = 25) : rEw (xup2 G 0 k v) q B n lm := h.fr (xff.up (by omega))
theorem l_value' (hf : n + 20 < f) (hE : rEw G q B n lm) (hA : rAt q B n lm i L) :
    pok (pVal (tstr B n lm) i) (fun w => ∃ L', g227 f (xlx G L) = some (0, xlx G L') ∧ L' 7 = (q : Int) + w)
      (fun r => ∃ L', g227 f (xlx G L) = some (1, xlx (xup2 G 0 21 r.1) L') ∧ rAt q B n lm r.2 L' ∧ -1000000000000 ≤ r.1 ∧ r.1 ≤ 9000000000000000) := by
  have htk := hA.tk hE.1.2.1
  obtain ⟨t4, tsg, tn, tv, tu, tnum, tend, tn9, tv9, tnum9, t6, t5, tlt, t3⟩ := htk
  have h7 := hA.1
  unfold pVal
  by_cases c1 : kK (tstr B n lm) i = 4 ∧ kC (tstr B n lm) i ≤ 1000000000000
  · rw [if_pos c1]
    have k2 := tnum.mpr c1
    have k9 := tnum9 k2
    have h6 : L 6 = -1 := by rw [t6, k2]; rfl
    obtain ⟨L', e, a⟩ := l_pass' (G := xup2 G 0 21 (kC (tstr B n lm) i)) hf (hE.u (by omega)) hA h6 (by omega) (by omega)
    refine ⟨L', ?_, a, ?_, by omega⟩
    · unfold g227 g227_32
      simp only [xlx_2, xlx_3, xlx_4, xlx_5, xlx_6, xlx_7, xlx_8, xlx_9, xlx_10, xlx_u2, xlx_u3, xlx_u4, xlx_u5, xlx_u6, xlx_u7, xlx_u8, xlx_u9, xlx_u10, xu_e, eq_self, reduceIte, Nat.reduceEqDiff, if_true, if_false, not_true_eq_false, not_false_eq_true, Option.bind_some, i10, i01, true_and, false_and, and_false, ne_eq, Int.reduceEq, Int.reduceNeg, l_kind, h7, k2, and_self, k9]
      rw [xlx_upo G L _ (by decide), e]
      simp only [xlx_2, xlx_3, xlx_4, xlx_5, xlx_6, xlx_7, xlx_8, xlx_9, xlx_10, xlx_u2, xlx_u3, xlx_u4, xlx_u5, xlx_u6, xlx_u7, xlx_u8, xlx_u9, xlx_u10, xu_e, eq_self, reduceIte, Nat.reduceEqDiff, if_true, if_false, not_true_eq_false, not_false_eq_true, Option.bind_some, i10, i01, true_and, false_and, and_false, ne_eq, Int.reduceEq, Int.reduceNeg, l_bad, a.1]
      simp
    · have := tok_num hE.1.2.1 (i := i) (lm := lm) c1.1; omega
  · rw [if_neg c1]
    have k5 : ¬ L 2 = 5 := fun q => c1 (tnum.mp q)
    have e0 : g227 f (xlx G L) = if kK (tstr B n lm) i = 45 then ((g209 f (L 5) (xlx G L)).bind fun R143 => ((g208 f (R143.1) R143.2).bind fun R148 => (if ¬ (R148.1) = 0 then ((g213 f R148.2).bind fun R154 => ((g221 f (5) R154).bind fun R159 => (if ¬ (R159.1) = 0 then ((some (xup2 R159.2 (0) 21 (xneg8 (R159.2 (0) 9)))).bind fun G168 => ((g213 f G168).bind fun R169 => ((g211 f R169).bind fun R174 => (if ¬ (R174.1) = 0 then g227_113 f (0) R174.2 else g227_113 f (1) R174.2)))) else ((g210 f (R159.2 (0) 4) R159.2).bind fun R180 => (some (0, R180)))))) else ((g210 f (R148.2 (0) 4) R148.2).bind fun R185 => (some (0, R185))))))
        else (if kK (tstr B n lm) i = 1 then (if ¬ L 10 = (-1) then ((some (xup2 (xlx G L) (0) 21 (L 10))).bind fun G131 => ((g213 f G131).bind fun R132 => ((g211 f R132).bind fun R137 => (if ¬ (R137.1) = 0 then g227_166 f (0) R137.2 else g227_166 f (1) R137.2)))) else g227_132 f (xlx G L)) else g227_132 f (xlx G L)) := by
      unfold g227
      have s45 := tsg 45 (by unfold isSg; omega)
      have hr45 : rsc 45 = 45 := rfl
      rw [hr45] at s45
      have k1 : (L 2 = 2 ∧ tres (L 9) = 1) ↔ kK (tstr B n lm) i = 1 := by
        constructor
        · rintro ⟨a, b⟩
          have := tn9 a
          rw [← this.2.2, ← this.1]; exact b
        · intro c3
          have k2 := tn.mpr (.inl c3)
          have k9 := tn9 k2
          exact ⟨k2, by rw [k9.1, k9.2.2]; exact c3⟩
      simp only [xlx_2, xlx_3, xlx_4, xlx_5, xlx_6, xlx_7, xlx_8, xlx_9, xlx_10, xlx_u2, xlx_u3, xlx_u4, xlx_u5, xlx_u6, xlx_u7, xlx_u8, xlx_u9, xlx_u10, xu_e, eq_self, reduceIte, Nat.reduceEqDiff, if_true, if_false, not_true_eq_false, not_false_eq_true, Option.bind_some, i10, i01, true_and, false_and, and_false, ne_eq, Int.reduceEq, Int.reduceNeg, l_kind, l_sign, l_name hE.2.2, h7, k5, s45, k1]
      by_cases c2 : kK (tstr B n lm) i = 45
      · rw [if_neg (by simp [c2]), if_pos c2]
      · rw [if_pos c2, if_neg c2]
        by_cases c3 : kK (tstr B n lm) i = 1
        · simp [c3]
        · simp [c3]
    by_cases c2 : kK (tstr B n lm) i = 45
    · have k2 := (tsg 45 (by unfold isSg; omega)).mpr c2
      have h6 : L 6 = -1 := by rw [t6, k2.1]; rfl
      have h5 := t5 (by omega)
      have ed : kE (tstr B n lm) i = ten B n (tS B n i) := rfl
      have hb := hE.1.2.1.le (ten B n (tS B n i))
      rw [if_pos c2, h5, ed, hE.1.see rfl] at e0
      simp only [Option.bind_some, gdigit] at e0
      have kd : kD (tstr B n lm) i = decide (tDi (B (ten B n (tS B n i)))) := rfl
      by_cases c3 : tDi (B (ten B n (tS B n i)))
      · rw [if_pos ⟨c2, by rw [kd]; exact decide_eq_true c3⟩]
        obtain ⟨L1, e1, a1⟩ := l_pass' hf hE hA h6 (by omega) (by omega)
        have htk1 := a1.tk hE.1.2.1
        rw [if_pos c3, if_pos (by decide), e1] at e0
        simp only [Option.bind_some, l_kind, a1.1, true_and] at e0
        by_cases c4 : kK (tstr B n lm) (i + 1) = 4 ∧ kC (tstr B n lm) (i + 1) ≤ 1000000000000
        · rw [if_pos c4]
          have k3 := htk1.2.2.2.2.2.1.mpr c4
          have k9 := htk1.2.2.2.2.2.2.2.2.2.1 k3
          have h61 : L1 6 = -1 := by rw [htk1.2.2.2.2.2.2.2.2.2.2.1, k3]; rfl
          have hc0 : 0 ≤ kC (tstr B n lm) (i + 1) := (tok_num hE.1.2.1 c4.1)
          have en : xneg8 (L1 9) = -(kC (tstr B n lm) (i + 1)) := by rw [k9, xneg8_g _ (by omega) (by omega)]
          obtain ⟨L', e, a⟩ := l_pass' (G := xup2 G 0 21 (-(kC (tstr B n lm) (i + 1)))) hf (hE.u (by omega)) a1 h61 (by omega) (by omega)
          refine ⟨L', ?_, a, by omega, by omega⟩
          rw [e0, if_pos k3, if_pos (by decide), xlx_9, en, xlx_upo G L1 _ (by decide), e]
          simp only [Option.bind_some, l_bad, a.1]
          unfold g227_113
          simp
        · rw [if_neg c4]
          refine ⟨xu L1 7 ((q : Int) + kS (tstr B n lm) (i + 1)), ?_, rfl⟩
          rw [e0, if_neg (fun q => c4 (htk1.2.2.2.2.2.1.mp q)), if_neg (by decide), xlx_4, htk1.1, l_fail]
          simp only [Option.bind_some, a1.1, if_true]
      · rw [if_neg (fun q => c3 (by have := q.2; rw [kd] at this; exact of_decide_eq_true this)), if_neg (by omega)]
        refine ⟨xu L 7 ((q : Int) + kS (tstr B n lm) i), ?_, rfl⟩
        rw [e0, if_neg c3, if_neg (by decide), xlx_4, t4, l_fail]
        simp only [Option.bind_some, h7, if_true]
    · rw [if_neg (fun q => c2 q.1)]
      rw [if_neg c2] at e0
      by_cases c3 : kK (tstr B n lm) i = 1
      · rw [if_pos c3] at e0
        have k2 := tn.mpr (.inl c3)
        have k9 := tn9 k2
        by_cases c4 : kW (tstr B n lm) i = -1
        · rw [if_neg (fun q => q.2 c4)]
          refine ⟨xu L 7 ((q : Int) + kS (tstr B n lm) i), ?_, rfl⟩
          rw [e0, if_neg (by rw [k9.2.1]; omega)]
          unfold g227_132
          rw [xlx_4, t4, l_fail]
          simp only [Option.bind_some, h7, if_true]
        · rw [if_pos ⟨c3, c4⟩]
          have hw : kE (tstr B n lm) i - kS (tstr B n lm) i ≤ 8 ∧ 2000000000000 ≤ kW (tstr B n lm) i ∧ kW (tstr B n lm) i ≤ 9000000000000000 := tok_word hE.1.2.1 c3 c4
          have h6 : L 6 = -1 := by rw [t6, k2, if_neg (by omega), if_neg (by omega)]
          obtain ⟨L', e, a⟩ := l_pass' (G := xup2 G 0 21 (kW (tstr B n lm) i)) hf (hE.u (by omega)) hA h6 (by omega) (by omega)
          refine ⟨L', ?_, a, by omega, by omega⟩
          rw [e0, if_pos (by rw [k9.2.1]; exact c4), k9.2.1, xlx_upo G L _ (by decide)]
          simp only [Option.bind_some, e, l_bad, a.1]
          unfold g227_166
          simp
      · rw [if_neg (fun q => c3 q.1)]
        rw [if_neg c3] at e0
        refine ⟨xu L 7 ((q : Int) + kS (tstr B n lm) i), ?_, rfl⟩
        rw [e0]
        unfold g227_132
        rw [xlx_4, t4, l_fail]
        simp only [Option.bind_some, h7, if_true]
theorem l_num' {hi : Int} (hf : n + 20 < f) (hE : rEw G q B n lm) (hA : rAt q B n lm i L) (hh : hi ≤ 4) :
    pok (pNum (tstr B n lm) hi i) (fun w => ∃ L', g233 f 1 hi (xlx G L) = some (1, xlx G L') ∧ L' 7 = (q : Int) + w)
      (fun x => ∃ L', g233 f 1 hi (xlx G L) = some (x.1, xlx G L') ∧ rAt q B n lm x.2 L' ∧ 1 ≤ x.1 ∧ x.1 ≤ hi) := by
  obtain ⟨t4, tsg, tn, tv, tu, tnum, tend, tn9, tv9, tnum9, t6, t5, tlt, t3⟩ := hA.tk hE.1.2.1
  have h7 := hA.1
  unfold pNum
  by_cases c : kK (tstr B n lm) i = 4 ∧ 1 ≤ kC (tstr B n lm) i ∧ kC (tstr B n lm) i ≤ hi
  · rw [if_pos c]
    have k2 := tnum.mpr ⟨c.1, by omega⟩
    have k9 := tnum9 k2
    have h6 : L 6 = -1 := by rw [t6, k2]; rfl
    obtain ⟨L', e, a⟩ := l_pass' hf hE hA h6 (by omega) (by omega)
    refine ⟨L', ?_, a, c.2⟩
    unfold g233
    simp only [xlx_2, xlx_3, xlx_4, xlx_5, xlx_6, xlx_7, xlx_8, xlx_9, xlx_10, xlx_u2, xlx_u3, xlx_u4, xlx_u5, xlx_u6, xlx_u7, xlx_u8, xlx_u9, xlx_u10, xu_e, eq_self, reduceIte, Nat.reduceEqDiff, if_true, if_false, not_true_eq_false, not_false_eq_true, Option.bind_some, i10, i01, true_and, false_and, and_false, ne_eq, Int.reduceEq, Int.reduceNeg, l_kind, h7, k2, k9, e]
    rw [if_neg (by omega), if_pos (by omega), xwr_g _ (by omega) (by omega)]
  · rw [if_neg c]
    refine ⟨xu L 7 (L 4), ?_, t4⟩
    unfold g233 g233_28
    simp only [xlx_2, xlx_3, xlx_4, xlx_5, xlx_6, xlx_7, xlx_8, xlx_9, xlx_10, xlx_u2, xlx_u3, xlx_u4, xlx_u5, xlx_u6, xlx_u7, xlx_u8, xlx_u9, xlx_u10, xu_e, eq_self, reduceIte, Nat.reduceEqDiff, if_true, if_false, not_true_eq_false, not_false_eq_true, Option.bind_some, i10, i01, true_and, false_and, and_false, ne_eq, Int.reduceEq, Int.reduceNeg, l_kind, h7, l_fail]
    by_cases k2 : L 2 = 5
    · have k9 := tnum9 k2
      have k3 := tnum.mp k2
      rw [if_neg (by simp [k2]), k9]
      by_cases c1 : kC (tstr B n lm) i < 1
      · rw [if_pos c1]
      · rw [if_neg c1, if_neg (by omega)]
    · rw [if_pos (by simp [k2])]
theorem rAt.sg' {G : xG_} {L : Nat → Int} {i : Nat} {k : Int} (hf : n + 20 < f) (hE : rEw G q B n lm) (hA : rAt q B n lm i L) (hK : kK (tstr B n lm) i = k) (hk : isSg k) : L 3 = rsc k ∧ ∃ L', g213 f (xlx G L) = some (xlx G L') ∧ rAt q B n lm (i + 1) L' := by
  obtain ⟨t4, tsg, tn, tv, tu, tnum, tend, tn9, tv9, tnum9, t6, t5, tlt, t3⟩ := hA.tk hE.1.2.1
  have a1 := (tsg k hk).mpr hK
  have h6 : L 6 = -1 := by rw [t6, a1.1]; rfl
  unfold isSg at hk
  exact ⟨a1.2, l_pass' hf hE hA h6 (by omega) (by omega)⟩
end
