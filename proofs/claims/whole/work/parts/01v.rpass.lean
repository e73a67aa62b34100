/-! The reference goes on to the next TOKEN; needs a sign; a value -/
def pok {α : Type} (x : Nat ⊕ α) (P : Nat → Prop) (Q : α → Prop) : Prop := match x with
  | .inl w => P w
  | .inr a => Q a
/-- the text that is read, the limit of TOKENS, the words with a meaning, the program that is read into -/
def rEv (G : xG_) (q : Nat) (B : Nat → Int) (n : Nat) (lm : Bool) (o : Nat) : Prop := rTx G q B n ∧ G 0 11 = (if lm = true then 1 else 0) ∧ rC G ∧ G 0 22 = (o : Int) ∧ (o = 2 ∨ o = 37 ∨ o = 72)
theorem xneg8_g (a : Int) (h1 : -9223372036854775808 < a) (h2 : a < 9223372036854775808) : xneg8 a = -a := by
  unfold xneg8
  rw [Int64.toInt_neg, Int64.toInt_ofInt_of_le (by omega) h2]
  exact Int.bmod_eq_of_le (by omega) (by omega)
theorem tkd_inv {B : Nat → Int} {n s : Nat} : (tkd B n s = 4 → ¬ B s < 0 ∧ ¬ tSm (B s) ∧ ¬ tGr (B s) ∧ tDi (B s)) ∧ (tkd B n s = 1 → ¬ B s < 0 ∧ tSm (B s)) := by
  have k3 := tsgn_in (B s) (B (s + 1))
  unfold isSg at k3
  have k4 := tres_in (tncode B s (tnend B n s))
  unfold tkd
  constructor
  · intro h
    by_cases c1 : B s < 0
    · rw [if_pos c1] at h; omega
    rw [if_neg c1] at h
    by_cases c2 : tSm (B s)
    · rw [if_pos c2] at h; omega
    rw [if_neg c2] at h
    by_cases c3 : tGr (B s)
    · rw [if_pos c3] at h; omega
    rw [if_neg c3] at h
    by_cases c4 : tDi (B s)
    · exact ⟨c1, c2, c3, c4⟩
    rw [if_neg c4] at h; omega
  · intro h
    by_cases c1 : B s < 0
    · rw [if_pos c1] at h; omega
    rw [if_neg c1] at h
    by_cases c2 : tSm (B s)
    · exact ⟨c1, c2⟩
    rw [if_neg c2] at h
    by_cases c3 : tGr (B s)
    · rw [if_pos c3] at h; omega
    rw [if_neg c3] at h
    by_cases c4 : tDi (B s)
    · rw [if_pos c4] at h; omega
    rw [if_neg c4] at h; omega
theorem kK_inv {B : Nat → Int} {n i : Nat} {lm : Bool} {k : Int} (h : kK (tstr B n lm) i = k) (hk : k ≠ 5) : tkd B n (tS B n i) = k := by
  have e : kK (tstr B n lm) i = if 0 ≤ B (tS B n i) ∧ lm = true ∧ 62 ≤ i then 5 else tkd B n (tS B n i) := rfl
  rw [e] at h
  split at h
  · exact absurd h.symm hk
  · exact h
theorem tok_num {B : Nat → Int} {n i : Nat} {lm : Bool} (hB : tTx B n) (h : kK (tstr B n lm) i = 4) : 0 ≤ kC (tstr B n lm) i := by
  have hS := tS_le hB i
  obtain ⟨c1, c2, c3, c4⟩ := tkd_inv.1 (kK_inv h (by decide))
  show 0 ≤ tco B n (tS B n i)
  have hen := ten_le hB hS.1
  have hr := trun_is (P := tDi) hB (by decide) (n - tS B n i) (tS B n i) (Nat.le_refl _) hS.1
  unfold tco
  rw [if_neg c2, if_neg c3, if_pos c4]
  refine (tnum_in (by decide) _ (fun j hj => ?_)).1
  unfold tdend at hj
  split at hj
  · obtain rfl : j = 0 := by omega
    exact c4
  · exact hr.2.2.1 _ (by omega) (by omega)
theorem tword_in {B : Nat → Int} {s e : Nat} (h : ∀ j, s ≤ j → j < e → tSm (B j)) : ∀ k, 0 ≤ tword B s e k ∧ tword B s e k < 27 ^ k := by
  intro k
  induction k with
  | zero => exact ⟨Int.le_refl _, (by decide : (0 : Int) < 27 ^ 0)⟩
  | succ k ih =>
    have h1 : tword B s e (k + 1) = tword B s e k * 27 + (if s + k < e then B (s + k) - 96 else 0) := rfl
    have h2 : 0 ≤ (if s + k < e then B (s + k) - 96 else 0) ∧ (if s + k < e then B (s + k) - 96 else 0) ≤ 26 := by
      split
      · have := h (s + k) (by omega) (by omega)
        omega
      · omega
    rw [h1, Int.pow_succ]
    omega
theorem tok_word {B : Nat → Int} {n i : Nat} {lm : Bool} (hB : tTx B n) (h : kK (tstr B n lm) i = 1) (hw : ¬ kW (tstr B n lm) i = -1) : kE (tstr B n lm) i - kS (tstr B n lm) i ≤ 8 ∧ 2000000000000 ≤ kW (tstr B n lm) i ∧ kW (tstr B n lm) i ≤ 9000000000000000 := by
  obtain ⟨c1, c2⟩ := tkd_inv.2 (kK_inv h (by decide))
  have eW : kW (tstr B n lm) i = tse B n (tS B n i) := rfl
  have eE : kE (tstr B n lm) i = ten B n (tS B n i) := rfl
  have eS : kS (tstr B n lm) i = tS B n i := rfl
  rw [eW] at hw ⊢
  rw [eE, eS]
  have k2 : ten B n (tS B n i) = tnend B n (tS B n i) := by unfold ten; rw [if_neg c1, if_pos c2]
  have k4 : tse B n (tS B n i) = tsens B (tS B n i) (tnend B n (tS B n i)) := if_pos c2
  rw [k4] at hw ⊢
  rw [k2]
  unfold tsens at hw ⊢
  split at hw
  · rename_i c
    rw [if_pos c]
    have := tword_in (B := B) (s := tS B n i) (e := tnend B n (tS B n i)) (fun j j1 j2 => by have := c.1 (j - tS B n i) (by omega); rw [show tS B n i + (j - tS B n i) = j by omega] at this; exact this) 8
    have e8 : (27 : Int) ^ 8 = 282429536481 := by decide
    omega
  · exact absurd rfl hw
section
variable {f q n o i : Nat} {B : Nat → Int} {lm : Bool} {G : xG_} {L : Nat → Int}
theorem l_pass_bad (h : L 7 ≠ -1) : g213 f (xlx G L) = some (xlx G L) := by
  unfold g213
  simp only [xlx_2, xlx_3, xlx_4, xlx_5, xlx_6, xlx_7, xlx_8, xlx_9, xlx_10, xlx_u2, xlx_u3, xlx_u4, xlx_u5, xlx_u6, xlx_u7, xlx_u8, xlx_u9, xlx_u10, xu_e, eq_self, reduceIte, Nat.reduceEqDiff, if_true, if_false, not_true_eq_false, not_false_eq_true, Option.bind_some, i10, i01, true_and, false_and, and_false, ne_eq, Int.reduceEq, Int.reduceNeg, l_bad, h]
theorem l_pass_wr (h : L 7 = -1) (h6 : L 6 ≠ -1) : g213 f (xlx G L) = some (xlx G (xu L 7 (L 6))) := by
  unfold g213 g213_31
  simp only [xlx_2, xlx_3, xlx_4, xlx_5, xlx_6, xlx_7, xlx_8, xlx_9, xlx_10, xlx_u2, xlx_u3, xlx_u4, xlx_u5, xlx_u6, xlx_u7, xlx_u8, xlx_u9, xlx_u10, xu_e, eq_self, reduceIte, Nat.reduceEqDiff, if_true, if_false, not_true_eq_false, not_false_eq_true, Option.bind_some, i10, i01, true_and, false_and, and_false, ne_eq, Int.reduceEq, Int.reduceNeg, l_bad, h, h6, l_fail]
theorem l_pass (hf : n + 20 < f) (hE : rEv G q B n lm o) (hA : rAt q B n lm i L) (h6 : L 6 = -1) (hK : kK (tstr B n lm) i ≠ 0) (hK5 : kK (tstr B n lm) i ≠ 5) : ∃ L', g213 f (xlx G L) = some (xlx G L') ∧ rAt q B n lm (i + 1) L' := by
  have htk := hA.tk hE.1.2.1
  have hS := tS_le hE.1.2.1 i
  have hen := ten_le hE.1.2.1 hS.1
  obtain ⟨h7, hT, hi, h8, h8', h8l⟩ := hA
  have h5 : L 5 = (q : Int) + ten B n (tS B n i) := htk.2.2.2.2.2.2.2.2.2.2.2.1 hK5
  have hlt : tS B n i < ten B n (tS B n i) := htk.2.2.2.2.2.2.2.2.2.2.2.2.1 hK
  have hlen := hE.1.len
  obtain ⟨L', e, r1, r2, r3⟩ := rl_lex (f := f) (L := L) hE.1 hf hen.2.1 h5 (by omega)
  have hsk := tsk_le hE.1.2.1 _ (ten B n (tS B n i)) false rfl hen.2.1
  refine ⟨L', ?_, by rw [r2]; exact h7, ?_, ?_, by omega, by omega, ?_⟩
  · unfold g213 g213_31
    simp only [xlx_2, xlx_3, xlx_4, xlx_5, xlx_6, xlx_7, xlx_8, xlx_9, xlx_10, xlx_u2, xlx_u3, xlx_u4, xlx_u5, xlx_u6, xlx_u7, xlx_u8, xlx_u9, xlx_u10, xu_e, eq_self, reduceIte, Nat.reduceEqDiff, if_true, if_false, not_true_eq_false, not_false_eq_true, Option.bind_some, i10, i01, true_and, false_and, and_false, ne_eq, Int.reduceEq, Int.reduceNeg, l_bad, h7, h6, e]
  · have hc : (0 ≤ B (tS B n (i + 1)) ∧ G 0 11 ≠ 0 ∧ 60 < L' 8) ↔ (0 ≤ B (tS B n (i + 1)) ∧ lm = true ∧ 62 ≤ i + 1) := by
      rw [hE.2.1, r3]
      by_cases c : lm = true
      · have := h8l c
        rw [if_pos c]
        constructor
        · rintro ⟨a, b, d⟩; exact ⟨a, c, by omega⟩
        · rintro ⟨a, b, d⟩; exact ⟨a, by decide, by omega⟩
      · rw [if_neg c]
        simp [c]
    have r1' : rTk q B n (tS B n (i + 1)) (0 ≤ B (tS B n (i + 1)) ∧ G 0 11 ≠ 0 ∧ 60 < L' 8) L' := r1
    unfold rTk at r1' ⊢
    simp only [hc] at r1'
    exact r1'
  · show i + 1 ≤ tsk B n false (ten B n (tS B n i))
    omega
  · intro c
    have := h8l c
    omega
theorem l_need_bad (h : L 7 ≠ -1) (c : Int) : g222 f c (xlx G L) = some (xlx G L) := by
  unfold g222 g222_23
  simp only [xlx_2, xlx_3, xlx_4, xlx_5, xlx_6, xlx_7, xlx_8, xlx_9, xlx_10, xlx_u2, xlx_u3, xlx_u4, xlx_u5, xlx_u6, xlx_u7, xlx_u8, xlx_u9, xlx_u10, xu_e, eq_self, reduceIte, Nat.reduceEqDiff, if_true, if_false, not_true_eq_false, not_false_eq_true, Option.bind_some, i10, i01, true_and, false_and, and_false, ne_eq, Int.reduceEq, Int.reduceNeg, l_sign, h, l_fail, false_and]
theorem l_need_no {c : Int} (hE : rEv G q B n lm o) (hA : rAt q B n lm i L) (hc : isSg c) (hK : kK (tstr B n lm) i ≠ c) : g222 f (rsc c) (xlx G L) = some (xlx G (xu L 7 ((q : Int) + kS (tstr B n lm) i))) := by
  have htk := hA.tk hE.1.2.1
  have h1 := htk.2.1 c hc
  unfold g222 g222_23
  simp only [xlx_2, xlx_3, xlx_4, xlx_5, xlx_6, xlx_7, xlx_8, xlx_9, xlx_10, xlx_u2, xlx_u3, xlx_u4, xlx_u5, xlx_u6, xlx_u7, xlx_u8, xlx_u9, xlx_u10, xu_e, eq_self, reduceIte, Nat.reduceEqDiff, if_true, if_false, not_true_eq_false, not_false_eq_true, Option.bind_some, i10, i01, true_and, false_and, and_false, ne_eq, Int.reduceEq, Int.reduceNeg, l_sign, l_fail, hA.1, htk.1]
  rw [if_pos (fun q => hK (h1.mp q))]
theorem l_need (hf : n + 20 < f) {c : Int} (hE : rEv G q B n lm o) (hA : rAt q B n lm i L) (hc : isSg c) (hK : kK (tstr B n lm) i = c) : ∃ L', g222 f (rsc c) (xlx G L) = some (xlx G L') ∧ rAt q B n lm (i + 1) L' := by
  have htk := hA.tk hE.1.2.1
  have h1 := (htk.2.1 c hc).mpr hK
  have h6 : L 6 = -1 := by rw [htk.2.2.2.2.2.2.2.2.2.2.1, h1.1]; rfl
  have hc2 := hc
  unfold isSg at hc2
  obtain ⟨L', e, a⟩ := l_pass hf hE hA h6 (by omega) (by omega)
  refine ⟨L', ?_, a⟩
  unfold g222 g222_23
  simp only [xlx_2, xlx_3, xlx_4, xlx_5, xlx_6, xlx_7, xlx_8, xlx_9, xlx_10, xlx_u2, xlx_u3, xlx_u4, xlx_u5, xlx_u6, xlx_u7, xlx_u8, xlx_u9, xlx_u10, xu_e, eq_self, reduceIte, Nat.reduceEqDiff, if_true, if_false, not_true_eq_false, not_false_eq_true, Option.bind_some, i10, i01, true_and, false_and, and_false, ne_eq, Int.reduceEq, Int.reduceNeg, l_sign, hA.1, h1.1, h1.2, and_self, e]
/-- a field that the lexer hasn't -/
theorem xlx_upo (G : xG_) (L : Nat → Int) {p k : Nat} (v : Int) (h : ¬ (p = 0 ∧ 2 ≤ k ∧ k ≤ 10)) : xup2 (xlx G L) p k v = xlx (xup2 G p k v) L := by
  funext a j
  unfold xup2 xlx
  grind
theorem rEv.u {k : Nat} {v : Int} (h : rEv G q B n lm o) (hk : 21 = k ∨ 23 = k ∨ 24 = k ∨ 25 = k) : rEv (xup2 G 0 k v) q B n lm o := by
  obtain ⟨⟨a1, a2, a3, a4, a5⟩, b, c, d, e⟩ := h
  have g0 : ∀ j, j ≤ 20 ∨ j = 22 → xup2 G 0 k v 0 j = G 0 j := fun j hj => xup2_n (by omega)
  have gb : ∀ j, xup2 G 0 k v (G 0 0).toNat j = G (G 0 0).toNat j := fun j => xup2_n (by have := a1.1; omega)
  refine ⟨⟨?_, a2, ?_, ?_, ?_⟩, ?_, ?_, ?_, e⟩
  · unfold gT
    rw [g0 0 (by omega), g0 1 (by omega)]
    exact a1
  · rw [g0 1 (by omega)]; exact a3
  · intro p
    rw [← a4 p]
    unfold gB
    rw [g0 0 (by omega), g0 1 (by omega), gb]
  · intro p hp
    rw [g0 0 (by omega), gb]
    exact a5 p hp
  · rw [g0 11 (by omega)]; exact b
  · unfold rC
    rw [g0 12 (by omega), g0 13 (by omega), g0 14 (by omega), g0 15 (by omega), g0 16 (by omega), g0 17 (by omega), g0 18 (by omega), g0 19 (by omega), g0 20 (by omega)]
    exact c
  · rw [g0 22 (by omega)]; exact d
/-- a value: what was passed stands in field 21 -/
theorem l_value_bad (hC : rC G) (h : L 7 ≠ -1) : g227 f (xlx G L) = some (0, xlx G L) := by
  unfold g227 g227_132
  simp only [xlx_2, xlx_3, xlx_4, xlx_5, xlx_6, xlx_7, xlx_8, xlx_9, xlx_10, xlx_u2, xlx_u3, xlx_u4, xlx_u5, xlx_u6, xlx_u7, xlx_u8, xlx_u9, xlx_u10, xu_e, eq_self, reduceIte, Nat.reduceEqDiff, if_true, if_false, not_true_eq_false, not_false_eq_true, Option.bind_some, i10, i01, true_and, false_and, and_false, ne_eq, Int.reduceEq, Int.reduceNeg, l_kind, l_sign, l_name hC, l_fail, h, false_and]
theorem l_value (hf : n + 20 < f) (hE : rEv G q B n lm o) (hA : rAt q B n lm i L) :
    pok (pVal (tstr B n lm) i) (fun w => ∃ L', g227 f (xlx G L) = some (0, xlx G L') ∧ L' 7 = (q : Int) + w)
      (fun r => ∃ L', g227 f (xlx G L) = some (1, xlx (xup2 G 0 21 r.1) L') ∧ rAt q B n lm r.2 L' ∧ -1000000000000 ≤ r.1 ∧ r.1 ≤ 9000000000000000) := by
  have htk := hA.tk hE.1.2.1
  obtain ⟨t4, tsg, tn, tv, tu, tnum, tend, tn9, tv9, tnum9, t6, t5, tlt, t3⟩ := htk
  have h7 := hA.1
  unfold pVal
  by_cases c1 : kK (tstr B n lm) i = 4 ∧ kC (tstr B n lm) i ≤ 1000000000000
  · rw [if_pos c1]
    have k2 := tnum.mpr c1
    have k9 := tnum9 k2
    have h6 : L 6 = -1 := by rw [t6, k2]; rfl
    obtain ⟨L', e, a⟩ := l_pass (G := xup2 G 0 21 (kC (tstr B n lm) i)) hf (hE.u (by omega)) hA h6 (by omega) (by omega)
    refine ⟨L', ?_, a, ?_, by omega⟩
    · unfold g227 g227_32
      simp only [xlx_2, xlx_3, xlx_4, xlx_5, xlx_6, xlx_7, xlx_8, xlx_9, xlx_10, xlx_u2, xlx_u3, xlx_u4, xlx_u5, xlx_u6, xlx_u7, xlx_u8, xlx_u9, xlx_u10, xu_e, eq_self, reduceIte, Nat.reduceEqDiff, if_true, if_false, not_true_eq_false, not_false_eq_true, Option.bind_some, i10, i01, true_and, false_and, and_false, ne_eq, Int.reduceEq, Int.reduceNeg, l_kind, h7, k2, and_self, k9]
      rw [xlx_upo G L _ (by decide), e]
      simp only [xlx_2, xlx_3, xlx_4, xlx_5, xlx_6, xlx_7, xlx_8, xlx_9, xlx_10, xlx_u2, xlx_u3, xlx_u4, xlx_u5, xlx_u6, xlx_u7, xlx_u8, xlx_u9, xlx_u10, xu_e, eq_self, reduceIte, Nat.reduceEqDiff, if_true, if_false, not_true_eq_false, not_false_eq_true, Option.bind_some, i10, i01, true_and, false_and, and_false, ne_eq, Int.reduceEq, Int.reduceNeg, l_bad, a.1]
      simp
    · have := tok_num hE.1.2.1 (i := i) (lm := lm) c1.1; omega
  · rw [if_neg c1]
    have k5 : ¬ L 2 = 5 := fun q => c1 (tnum.mp q)
    have e0 : g227 f (xlx G L) = if kK (tstr B n lm) i = 45 then ((g209 f (L 5) (xlx G L)).bind fun R143 => ((g208 f (R143.1) R143.2).bind fun R148 => (if ¬ (R148.1) = 0 then ((g213 f R148.2).bind fun R154 => ((g221 f (5) R154).bind fun R159 => (if ¬ (R159.1) = 0 then ((some (xup2 R159.2 (0) 21 (xneg8 (R159.2 (0) 9)))).bind fun G168 => ((g213 f G168).bind fun R169 => ((g211 f R169).bind fun R174 => (if ¬ (R174.1) = 0 then g227_113 f (0) R174.2 else g227_113 f (1) R174.2)))) else ((g210 f (R159.2 (0) 4) R159.2).bind fun R180 => (some (0, R180)))))) else ((g210 f (R148.2 (0) 4) R148.2).bind fun R185 => (some (0, R185))))))
        else (if kK (tstr B n lm) i = 1 then (if ¬ L 10 = (-1) then ((some (xup2 (xlx G L) (0) 21 (L 10))).bind fun G131 => ((g213 f G131).bind fun R132 => ((g211 f R132).bind fun R137 => (if ¬ (R137.1) = 0 then g227_166 f (0) R137.2 else g227_166 f (1) R137.2)))) else g227_132 f (xlx G L)) else g227_132 f (xlx G L)) := by
      unfold g227
      have s45 := tsg 45 (by unfold isSg; omega)
      have hr45 : rsc 45 = 45 := rfl
      rw [hr45] at s45
      have k1 : (L 2 = 2 ∧ tres (L 9) = 1) ↔ kK (tstr B n lm) i = 1 := by
        constructor
        · rintro ⟨a, b⟩
          have := tn9 a
          rw [← this.2.2, ← this.1]; exact b
        · intro c3
          have k2 := tn.mpr (.inl c3)
          have k9 := tn9 k2
          exact ⟨k2, by rw [k9.1, k9.2.2]; exact c3⟩
      simp only [xlx_2, xlx_3, xlx_4, xlx_5, xlx_6, xlx_7, xlx_8, xlx_9, xlx_10, xlx_u2, xlx_u3, xlx_u4, xlx_u5, xlx_u6, xlx_u7, xlx_u8, xlx_u9, xlx_u10, xu_e, eq_self, reduceIte, Nat.reduceEqDiff, if_true, if_false, not_true_eq_false, not_false_eq_true, Option.bind_some, i10, i01, true_and, false_and, and_false, ne_eq, Int.reduceEq, Int.reduceNeg, l_kind, l_sign, l_name hE.2.2.1, h7, k5, s45, k1]
      by_cases c2 : kK (tstr B n lm) i = 45
      · rw [if_neg (by simp [c2]), if_pos c2]
      · rw [if_pos c2, if_neg c2]
        by_cases c3 : kK (tstr B n lm) i = 1
        · simp [c3]
        · simp [c3]
    by_cases c2 : kK (tstr B n lm) i = 45
    · have k2 := (tsg 45 (by unfold isSg; omega)).mpr c2
      have h6 : L 6 = -1 := by rw [t6, k2.1]; rfl
      have h5 := t5 (by omega)
      have ed : kE (tstr B n lm) i = ten B n (tS B n i) := rfl
      have hb := hE.1.2.1.le (ten B n (tS B n i))
      rw [if_pos c2, h5, ed, hE.1.see rfl] at e0
      simp only [Option.bind_some, gdigit] at e0
      have kd : kD (tstr B n lm) i = decide (tDi (B (ten B n (tS B n i)))) := rfl
      by_cases c3 : tDi (B (ten B n (tS B n i)))
      · rw [if_pos ⟨c2, by rw [kd]; exact decide_eq_true c3⟩]
        obtain ⟨L1, e1, a1⟩ := l_pass hf hE hA h6 (by omega) (by omega)
        have htk1 := a1.tk hE.1.2.1
        rw [if_pos c3, if_pos (by decide), e1] at e0
        simp only [Option.bind_some, l_kind, a1.1, true_and] at e0
        by_cases c4 : kK (tstr B n lm) (i + 1) = 4 ∧ kC (tstr B n lm) (i + 1) ≤ 1000000000000
        · rw [if_pos c4]
          have k3 := htk1.2.2.2.2.2.1.mpr c4
          have k9 := htk1.2.2.2.2.2.2.2.2.2.1 k3
          have h61 : L1 6 = -1 := by rw [htk1.2.2.2.2.2.2.2.2.2.2.1, k3]; rfl
          have hc0 : 0 ≤ kC (tstr B n lm) (i + 1) := (tok_num hE.1.2.1 c4.1)
          have en : xneg8 (L1 9) = -(kC (tstr B n lm) (i + 1)) := by rw [k9, xneg8_g _ (by omega) (by omega)]
          obtain ⟨L', e, a⟩ := l_pass (G := xup2 G 0 21 (-(kC (tstr B n lm) (i + 1)))) hf (hE.u (by omega)) a1 h61 (by omega) (by omega)
          refine ⟨L', ?_, a, by omega, by omega⟩
          rw [e0, if_pos k3, if_pos (by decide), xlx_9, en, xlx_upo G L1 _ (by decide), e]
          simp only [Option.bind_some, l_bad, a.1]
          unfold g227_113
          simp
        · rw [if_neg c4]
          refine ⟨xu L1 7 ((q : Int) + kS (tstr B n lm) (i + 1)), ?_, rfl⟩
          rw [e0, if_neg (fun q => c4 (htk1.2.2.2.2.2.1.mp q)), if_neg (by decide), xlx_4, htk1.1, l_fail]
          simp only [Option.bind_some, a1.1, if_true]
      · rw [if_neg (fun q => c3 (by have := q.2; rw [kd] at this; exact of_decide_eq_true this)), if_neg (by omega)]
        refine ⟨xu L 7 ((q : Int) + kS (tstr B n lm) i), ?_, rfl⟩
        rw [e0, if_neg c3, if_neg (by decide), xlx_4, t4, l_fail]
        simp only [Option.bind_some, h7, if_true]
    · rw [if_neg (fun q => c2 q.1)]
      rw [if_neg c2] at e0
      by_cases c3 : kK (tstr B n lm) i = 1
      · rw [if_pos c3] at e0
        have k2 := tn.mpr (.inl c3)
        have k9 := tn9 k2
        by_cases c4 : kW (tstr B n lm) i = -1
        · rw [if_neg (fun q => q.2 c4)]
          refine ⟨xu L 7 ((q : Int) + kS (tstr B n lm) i), ?_, rfl⟩
          rw [e0, if_neg (by rw [k9.2.1]; omega)]
          unfold g227_132
          rw [xlx_4, t4, l_fail]
          simp only [Option.bind_some, h7, if_true]
        · rw [if_pos ⟨c3, c4⟩]
          have hw : kE (tstr B n lm) i - kS (tstr B n lm) i ≤ 8 ∧ 2000000000000 ≤ kW (tstr B n lm) i ∧ kW (tstr B n lm) i ≤ 9000000000000000 := tok_word hE.1.2.1 c3 c4
          have h6 : L 6 = -1 := by rw [t6, k2, if_neg (by omega), if_neg (by omega)]
          obtain ⟨L', e, a⟩ := l_pass (G := xup2 G 0 21 (kW (tstr B n lm) i)) hf (hE.u (by omega)) hA h6 (by omega) (by omega)
          refine ⟨L', ?_, a, by omega, by omega⟩
          rw [e0, if_pos (by rw [k9.2.1]; exact c4), k9.2.1, xlx_upo G L _ (by decide)]
          simp only [Option.bind_some, e, l_bad, a.1]
          unfold g227_166
          simp
      · rw [if_neg (fun q => c3 q.1)]
        rw [if_neg c3] at e0
        refine ⟨xu L 7 ((q : Int) + kS (tstr B n lm) i), ?_, rfl⟩
        rw [e0]
        unfold g227_132
        rw [xlx_4, t4, l_fail]
        simp only [Option.bind_some, h7, if_true]
end
