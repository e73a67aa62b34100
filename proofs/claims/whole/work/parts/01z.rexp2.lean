/-! The reference reads EXPRESSIONS: signs between operands; all of it -/
section
variable {f q n o r b cb : Nat} {B : Nat → Int} {lm : Bool} {e : xG_ → Option xG_}
theorem l_isOf0 {G : xG_} {L : Nat → Int} : g242 f 0 (xlx G L) = some (if L 7 = -1 ∧ L 2 = 6 ∧ (L 3 = 43 ∨ L 3 = 45) then 1 else 0, xlx G L) := by
  unfold g242 g242_31 g242_57 g242_62
  simp only [xlx_2, xlx_3, xlx_4, xlx_5, xlx_6, xlx_7, xlx_8, xlx_9, xlx_10, xlx_u2, xlx_u3, xlx_u4, xlx_u5, xlx_u6, xlx_u7, xlx_u8, xlx_u9, xlx_u10, xu_e, eq_self, reduceIte, Nat.reduceEqDiff, if_true, if_false, not_true_eq_false, not_false_eq_true, Option.bind_some, i10, i01, true_and, false_and, and_false, ne_eq, Int.reduceEq, Int.reduceNeg, l_sign]
  grind
theorem l_isOf1 {G : xG_} {L : Nat → Int} : g242 f 1 (xlx G L) = some (if L 7 = -1 ∧ L 2 = 6 ∧ (L 3 = 42 ∨ L 3 = 47 ∨ L 3 = 37) then 1 else 0, xlx G L) := by
  unfold g242 g242_31 g242_57 g242_62
  simp only [xlx_2, xlx_3, xlx_4, xlx_5, xlx_6, xlx_7, xlx_8, xlx_9, xlx_10, xlx_u2, xlx_u3, xlx_u4, xlx_u5, xlx_u6, xlx_u7, xlx_u8, xlx_u9, xlx_u10, xu_e, eq_self, reduceIte, Nat.reduceEqDiff, if_true, if_false, not_true_eq_false, not_false_eq_true, Option.bind_some, i10, i01, true_and, false_and, and_false, ne_eq, Int.reduceEq, Int.reduceNeg, l_sign]
  grind
theorem l_strong {G : xG_} {L : Nat → Int} {i : Nat} (hB : tTx B n) (hA : rAt q B n lm i L) : g242 f 1 (xlx G L) = some (if kK (tstr B n lm) i = 42 ∨ kK (tstr B n lm) i = 47 ∨ kK (tstr B n lm) i = 37 then 1 else 0, xlx G L) := by
  obtain ⟨t4, tsg, tn, tv, tu, tnum, tend, tn9, tv9, tnum9, t6, t5, tlt, t3⟩ := hA.tk hB
  have a1 := tsg 42 (by unfold isSg; omega)
  have a2 := tsg 47 (by unfold isSg; omega)
  have a3 := tsg 37 (by unfold isSg; omega)
  rw [show rsc 42 = 42 from rfl] at a1
  rw [show rsc 47 = 47 from rfl] at a2
  rw [show rsc 37 = 37 from rfl] at a3
  have h7 := hA.1
  rw [l_isOf1]
  have : (L 7 = -1 ∧ L 2 = 6 ∧ (L 3 = 42 ∨ L 3 = 47 ∨ L 3 = 37)) ↔ (kK (tstr B n lm) i = 42 ∨ kK (tstr B n lm) i = 47 ∨ kK (tstr B n lm) i = 37) := by omega
  simp only [this]
theorem l_weak {G : xG_} {L : Nat → Int} {i : Nat} (hB : tTx B n) (hA : rAt q B n lm i L) : g242 f 0 (xlx G L) = some (if kK (tstr B n lm) i = 43 ∨ kK (tstr B n lm) i = 45 then 1 else 0, xlx G L) := by
  obtain ⟨t4, tsg, tn, tv, tu, tnum, tend, tn9, tv9, tnum9, t6, t5, tlt, t3⟩ := hA.tk hB
  have a1 := tsg 43 (by unfold isSg; omega)
  have a2 := tsg 45 (by unfold isSg; omega)
  rw [show rsc 43 = 43 from rfl] at a1
  rw [show rsc 45 = 45 from rfl] at a2
  have h7 := hA.1
  rw [l_isOf0]
  have : (L 7 = -1 ∧ L 2 = 6 ∧ (L 3 = 43 ∨ L 3 = 45)) ↔ (kK (tstr B n lm) i = 43 ∨ kK (tstr B n lm) i = 45) := by omega
  simp only [this]
theorem l_isOf_bad {G : xG_} {L : Nat → Int} (h : L 7 ≠ -1) {a : Int} (ha : a = 0 ∨ a = 1) : g242 f a (xlx G L) = some (0, xlx G L) := by
  rcases ha with rfl | rfl
  · rw [l_isOf0]
    simp [h]
  · rw [l_isOf1]
    simp [h]
theorem l_prod_bad (hf : 0 < f) : rXB (g245 e f) := by
  intro G L hC h
  obtain ⟨g, rfl⟩ : ∃ g, f = g + 1 := ⟨f - 1, by omega⟩
  unfold g245
  show g245_0b e (g245_0 e (g + 1) g) (g + 1) _ = _
  unfold g245_0b
  rw [l_isOf_bad h (by omega)]
  rfl
/-- a sign at which the reference is -/
theorem rAt.sg {G : xG_} {L : Nat → Int} {i : Nat} {k : Int} (hf : n + 20 < f) (hE : rEv G q B n lm o) (hA : rAt q B n lm i L) (hK : kK (tstr B n lm) i = k) (hk : isSg k) : L 3 = rsc k ∧ ∃ L', g213 f (xlx G L) = some (xlx G L') ∧ rAt q B n lm (i + 1) L' := by
  obtain ⟨t4, tsg, tn, tv, tu, tnum, tend, tn9, tv9, tnum9, t6, t5, tlt, t3⟩ := hA.tk hE.1.2.1
  have a1 := (tsg k hk).mpr hK
  have h6 : L 6 = -1 := by rw [t6, a1.1]; rfl
  unfold isSg at hk
  exact ⟨a1.2, l_pass hf hE hA h6 (by omega) (by omega)⟩
theorem l_prod (hf : n + 20 < f) (hcb : cb + n + 3 ≤ 6200) (hP : rXP f q B n lm o r cb 0 b (g241 e f)) (hPB : rXB (g241 e f)) : ∀ (k fu : Nat), k < fu → ∀ (F : Nat) (G : xG_) (L : Nat → Int) (V : List (Int × Nat)) (Q : pCd) (i c0 : Nat), n + 1 - i ≤ k → 4 * (n + 1 - i) + 1 ≤ F → rX G q B n lm o r V c0 Q b → rAt q B n lm i L → c0 + Q.length ≤ cb + i →
    pok (pX (tstr B n lm) F 3 b (V, Q, i)) (fun w => ∃ G' L', g245_0 e f fu (xlx G L) = some (xlx G' L') ∧ L' 7 = (q : Int) + w ∧ xfe o r V.length (c0 + Q.length) G G' ∧ 0 ≤ G' (o + 20) r ∧ G' (o + 20) r ≤ 8)
      (fun x => ∃ G' L', g245_0 e f fu (xlx G L) = some (xlx G' L') ∧ rAt q B n lm x.2.2 L' ∧ xfe o r V.length (c0 + Q.length) G G' ∧ rX G' q B n lm o r x.1 c0 x.2.1 b) := by
  intro k
  induction k with
  | zero =>
    intro fu _ F G L V Q i c0 hk hF hX hA hc
    have := hA.le hX.1.1.2.1
    omega
  | succ k ih =>
    intro fu hfu F G L V Q i c0 hk hF hX hA hc
    obtain ⟨fu, rfl⟩ : ∃ t, fu = t + 1 := ⟨fu - 1, by omega⟩
    obtain ⟨F, rfl⟩ : ∃ t, F = t + 1 := ⟨F - 1, by omega⟩
    have hB := hX.1.1.2.1
    have hi := hA.le hB
    rw [pX_3]
    have es : g245_0 e f (fu + 1) (xlx G L) = g245_0b e (g245_0 e f fu) f (xlx G L) := rfl
    rw [es]
    unfold g245_0b
    rw [l_strong hB hA]
    simp only [Option.bind_some, i10]
    by_cases c : kK (tstr B n lm) i = 42 ∨ kK (tstr B n lm) i = 47 ∨ kK (tstr B n lm) i = 37
    · simp only [if_pos c, if_neg (fun q : ¬ _ => q c)]
      obtain ⟨h3, L1, e1, a1⟩ := hA.sg (f := f) hf hX.1 rfl (by unfold isSg; omega)
      have h3' : L 3 = kK (tstr B n lm) i := by rw [h3]; unfold rsc; rw [if_neg (by omega)]
      rw [e1]
      simp only [Option.bind_some]
      have h1 := hP F G L1 V Q (i + 1) c0 (by rw [if_neg (by decide)]; omega) hX a1 (by omega)
      cases hp : pX (tstr B n lm) F 0 b (V, Q, i + 1) with
      | inl w =>
        rw [hp] at h1
        obtain ⟨G1, L2, e2, e3, e4, e5⟩ := h1
        have hbad : L2 7 ≠ -1 := by omega
        refine ⟨G1, L2, ?_, e3, e4, e5⟩
        rw [e2]
        simp only [Option.bind_some]
        rw [l_put_bad hbad]
        simp only [Option.bind_some]
        have hC1 : rC G1 := (hX.1.fe e4).2.2.1
        have := l_prod_bad (f := f) (e := e) (by omega) G1 L2 hC1 hbad
        obtain ⟨fu, rfl⟩ : ∃ t, fu = t + 1 := ⟨fu - 1, by omega⟩
        show g245_0b e (g245_0 e f fu) f _ = _
        unfold g245_0b
        rw [l_isOf_bad hbad (by omega)]
        rfl
      | inr x =>
        rw [hp] at h1
        obtain ⟨G1, L2, e2, e3, e4, e5⟩ := h1
        have hle := pX_le F 0 b (V, Q, i + 1) x (by decide) hp
        simp only at hle
        have hi2 := e3.le hB
        have h2 := ih fu (by omega) F (rPut G1 o (c0 + x.2.1.length) 3 (kK (tstr B n lm) i)) L2 x.1 (x.2.1 ++ [(3, kK (tstr B n lm) i)]) x.2.2 c0 (by omega) (by omega) (e5.put 3 _) e3 (by rw [len1]; omega)
        have e6 : (g241 e f (xlx G L1)).bind (fun R112 => (g240 f 3 (xlx G L 0 3) R112).bind fun R117 => g245_0 e f fu R117) = g245_0 e f fu (xlx (rPut G1 o (c0 + x.2.1.length) 3 (kK (tstr B n lm) i)) L2) := by
          rw [e2]
          simp only [Option.bind_some]
          rw [xlx_3, h3', l_put e5.1 e3.1 e5.2.2.2.2.1 (by omega)]
          rfl
        rw [e6]
        have hfe := e4.tr (rPut_fe G1 o r x.1.length (Nat.le_refl (c0 + x.2.1.length)) 3 (kK (tstr B n lm) i)) hle.2.2.2.2.1 (by omega)
        show pok (pX (tstr B n lm) F 3 b (x.1, x.2.1 ++ [(3, kK (tstr B n lm) i)], x.2.2)) _ _
        cases hp2 : pX (tstr B n lm) F 3 b (x.1, x.2.1 ++ [(3, kK (tstr B n lm) i)], x.2.2) with
        | inl w =>
          rw [hp2] at h2
          obtain ⟨G2, L3, d1, d2, d3, d4⟩ := h2
          exact ⟨G2, L3, d1, d2, hfe.tr d3 hle.2.2.2.2.1 (by rw [len1]; omega), d4⟩
        | inr y =>
          rw [hp2] at h2
          obtain ⟨G2, L3, d1, d2, d3, d4⟩ := h2
          exact ⟨G2, L3, d1, d2, hfe.tr d3 hle.2.2.2.2.1 (by rw [len1]; omega), d4⟩
    · simp only [if_pos c, if_neg c]
      exact ⟨G, L, rfl, hA, .rf _ _ _ _ _, hX⟩
theorem l_more_bad (hf : 0 < f) : rXB (g244 e f) := by
  intro G L hC h
  unfold g244
  rw [l_prod_bad hf G L hC h]
  simp only [Option.bind_some]
  obtain ⟨g, hg⟩ : ∃ g, f = g + 1 := ⟨f - 1, by omega⟩
  have : g244_4 e f f (xlx G L) = g244_4b e (g244_4 e f g) f (xlx G L) := by rw [hg]; rfl
  rw [this]
  unfold g244_4b
  rw [l_isOf_bad h (by omega)]
  rfl
theorem l_sums (hf : n + 20 < f) (hcb : cb + n + 3 ≤ 6200) (hP : rXP f q B n lm o r cb 0 b (g241 e f)) (hPB : rXB (g241 e f)) : ∀ (k fu : Nat), k < fu → ∀ (F : Nat) (G : xG_) (L : Nat → Int) (V : List (Int × Nat)) (Q : pCd) (i c0 : Nat), n + 1 - i ≤ k → 4 * (n + 1 - i) + 1 ≤ F → rX G q B n lm o r V c0 Q b → rAt q B n lm i L → c0 + Q.length ≤ cb + i →
    pok (pX (tstr B n lm) F 4 b (V, Q, i)) (fun w => ∃ G' L', g244_4 e f fu (xlx G L) = some (xlx G' L') ∧ L' 7 = (q : Int) + w ∧ xfe o r V.length (c0 + Q.length) G G' ∧ 0 ≤ G' (o + 20) r ∧ G' (o + 20) r ≤ 8)
      (fun x => ∃ G' L', g244_4 e f fu (xlx G L) = some (xlx G' L') ∧ rAt q B n lm x.2.2 L' ∧ xfe o r V.length (c0 + Q.length) G G' ∧ rX G' q B n lm o r x.1 c0 x.2.1 b) := by
  intro k
  induction k with
  | zero =>
    intro fu _ F G L V Q i c0 hk hF hX hA hc
    have := hA.le hX.1.1.2.1
    omega
  | succ k ih =>
    intro fu hfu F G L V Q i c0 hk hF hX hA hc
    obtain ⟨fu, rfl⟩ : ∃ t, fu = t + 1 := ⟨fu - 1, by omega⟩
    obtain ⟨F, rfl⟩ : ∃ t, F = t + 1 := ⟨F - 1, by omega⟩
    have hB := hX.1.1.2.1
    have hi := hA.le hB
    rw [pX_4]
    have es : g244_4 e f (fu + 1) (xlx G L) = g244_4b e (g244_4 e f fu) f (xlx G L) := rfl
    rw [es]
    unfold g244_4b
    rw [l_weak hB hA]
    simp only [Option.bind_some, i10]
    by_cases c : kK (tstr B n lm) i = 43 ∨ kK (tstr B n lm) i = 45
    · simp only [if_pos c, if_neg (fun q : ¬ _ => q c)]
      obtain ⟨h3, L1, e1, a1⟩ := hA.sg (f := f) hf hX.1 rfl (by unfold isSg; omega)
      have h3' : L 3 = kK (tstr B n lm) i := by rw [h3]; unfold rsc; rw [if_neg (by omega)]
      have bad : ∀ {G1 L2}, rC G1 → L2 7 ≠ -1 → g244_4 e f fu (xlx G1 L2) = some (xlx G1 L2) := by
        intro G1 L2 hC1 hbad
        obtain ⟨fu, rfl⟩ : ∃ t, fu = t + 1 := ⟨fu - 1, by omega⟩
        show g244_4b e (g244_4 e f fu) f _ = _
        unfold g244_4b
        rw [l_isOf_bad hbad (by omega)]
        rfl
      rw [e1]
      simp only [Option.bind_some]
      have h1 := hP F G L1 V Q (i + 1) c0 (by rw [if_neg (by decide)]; omega) hX a1 (by omega)
      cases hp : pX (tstr B n lm) F 0 b (V, Q, i + 1) with
      | inl w =>
        rw [hp] at h1
        obtain ⟨G1, L2, e2, e3, e4, e5⟩ := h1
        have hbad : L2 7 ≠ -1 := by omega
        have hC1 : rC G1 := (hX.1.fe e4).2.2.1
        refine ⟨G1, L2, ?_, e3, e4, e5⟩
        rw [e2]
        simp only [Option.bind_some]
        rw [l_prod_bad (by omega) G1 L2 hC1 hbad]
        simp only [Option.bind_some]
        rw [l_put_bad hbad]
        simp only [Option.bind_some]
        exact bad hC1 hbad
      | inr x =>
        rw [hp] at h1
        obtain ⟨G1, L2, e2, e3, e4, e5⟩ := h1
        have hle := pX_le F 0 b (V, Q, i + 1) x (by decide) hp
        simp only at hle
        have hi2 := e3.le hB
        have h2 := l_prod hf hcb hP hPB (n + 1) f (by omega) F G1 L2 x.1 x.2.1 x.2.2 c0 (by omega) (by omega) e5 e3 (by omega)
        show pok (pbind (pX (tstr B n lm) F 3 b x) _) _ _
        rw [e2]
        simp only [Option.bind_some]
        have eg : g245 e f (xlx G1 L2) = g245_0 e f f (xlx G1 L2) := rfl
        rw [eg]
        cases hp2 : pX (tstr B n lm) F 3 b x with
        | inl w =>
          have hp2' : pX (tstr B n lm) F 3 b (x.1, x.2.1, x.2.2) = .inl w := hp2
          rw [hp2'] at h2
          obtain ⟨G2, L3, d1, d2, d3, d4⟩ := h2
          have hbad : L3 7 ≠ -1 := by omega
          have hf2 := e4.tr d3 hle.2.2.2.2.1 (by omega)
          refine ⟨G2, L3, ?_, d2, hf2, d4⟩
          rw [d1]
          simp only [Option.bind_some]
          rw [l_put_bad hbad]
          simp only [Option.bind_some]
          exact bad (hX.1.fe hf2).2.2.1 hbad
        | inr y =>
          have hp2' : pX (tstr B n lm) F 3 b (x.1, x.2.1, x.2.2) = .inr y := hp2
          rw [hp2'] at h2
          obtain ⟨G2, L3, d1, d2, d3, d4⟩ := h2
          have hle2 := pX_le F 3 b x y (by decide) hp2
          have hi3 := d2.le hB
          have hf2 := e4.tr d3 hle.2.2.2.2.1 (by omega)
          have h4 := ih fu (by omega) F (rPut G2 o (c0 + y.2.1.length) 3 (kK (tstr B n lm) i)) L3 y.1 (y.2.1 ++ [(3, kK (tstr B n lm) i)]) y.2.2 c0 (by omega) (by omega) (d4.put 3 _) d2 (by rw [len1]; omega)
          have e6 : (g245_0 e f f (xlx G1 L2)).bind (fun R117 => (g240 f 3 (xlx G L 0 3) R117).bind fun R122 => g244_4 e f fu R122) = g244_4 e f fu (xlx (rPut G2 o (c0 + y.2.1.length) 3 (kK (tstr B n lm) i)) L3) := by
            rw [d1]
            simp only [Option.bind_some]
            rw [xlx_3, h3', l_put d4.1 d2.1 d4.2.2.2.2.1 (by omega)]
            rfl
          rw [e6]
          have hfe := hf2.tr (rPut_fe G2 o r y.1.length (Nat.le_refl (c0 + y.2.1.length)) 3 (kK (tstr B n lm) i)) (by omega) (by omega)
          show pok (pX (tstr B n lm) F 4 b (y.1, y.2.1 ++ [(3, kK (tstr B n lm) i)], y.2.2)) _ _
          cases hp3 : pX (tstr B n lm) F 4 b (y.1, y.2.1 ++ [(3, kK (tstr B n lm) i)], y.2.2) with
          | inl w =>
            rw [hp3] at h4
            obtain ⟨G3, L4, k1, k2, k3, k4⟩ := h4
            exact ⟨G3, L4, k1, k2, hfe.tr k3 (by omega) (by rw [len1]; omega), k4⟩
          | inr z =>
            rw [hp3] at h4
            obtain ⟨G3, L4, k1, k2, k3, k4⟩ := h4
            exact ⟨G3, L4, k1, k2, hfe.tr k3 (by omega) (by rw [len1]; omega), k4⟩
    · simp only [if_pos c, if_neg c]
      exact ⟨G, L, rfl, hA, .rf _ _ _ _ _, hX⟩
theorem l_more (hf : n + 20 < f) (hcb : cb + n + 3 ≤ 6200) (hP : rXP f q B n lm o r cb 0 b (g241 e f)) (hPB : rXB (g241 e f)) : rXP f q B n lm o r cb 2 b (g244 e f) := by
  intro F G L V Q i c0 hF hX hA hc
  rw [if_pos (.inr rfl)] at hF
  obtain ⟨F, rfl⟩ : ∃ t, F = t + 1 := ⟨F - 1, by omega⟩
  have hB := hX.1.1.2.1
  rw [pX_2]
  unfold g244
  have eg : g245 e f (xlx G L) = g245_0 e f f (xlx G L) := rfl
  rw [eg]
  have h1 := l_prod hf hcb hP hPB (n + 1) f (by omega) F G L V Q i c0 (by omega) (by omega) hX hA hc
  cases hp : pX (tstr B n lm) F 3 b (V, Q, i) with
  | inl w =>
    rw [hp] at h1
    obtain ⟨G1, L2, e2, e3, e4, e5⟩ := h1
    have hbad : L2 7 ≠ -1 := by omega
    refine ⟨G1, L2, ?_, e3, e4, e5⟩
    have := l_more_bad (f := f) (e := e) (by omega) G1 L2 (hX.1.fe e4).2.2.1 hbad
    unfold g244 at this
    rw [l_prod_bad (by omega) G1 L2 (hX.1.fe e4).2.2.1 hbad] at this
    rw [e2]
    exact this
  | inr x =>
    rw [hp] at h1
    obtain ⟨G1, L2, e2, e3, e4, e5⟩ := h1
    have hle := pX_le F 3 b (V, Q, i) x (by decide) hp
    simp only at hle
    have h2 := l_sums hf hcb hP hPB (n + 1) f (by omega) F G1 L2 x.1 x.2.1 x.2.2 c0 (by omega) (by omega) e5 e3 (by omega)
    rw [e2]
    simp only [Option.bind_some]
    show pok (pX (tstr B n lm) F 4 b (x.1, x.2.1, x.2.2)) _ _
    cases hp2 : pX (tstr B n lm) F 4 b (x.1, x.2.1, x.2.2) with
    | inl w =>
      rw [hp2] at h2
      obtain ⟨G3, L4, k1, k2, k3, k4⟩ := h2
      exact ⟨G3, L4, k1, k2, e4.tr k3 (by omega) (by omega), k4⟩
    | inr z =>
      rw [hp2] at h2
      obtain ⟨G3, L4, k1, k2, k3, k4⟩ := h2
      exact ⟨G3, L4, k1, k2, e4.tr k3 (by omega) (by omega), k4⟩
theorem l_expb_bad (hf : 0 < f) (hq : rXB e) : rXB (g243b e f) := by
  intro G L hC h
  unfold g243b
  rw [l_prim_bad hq G L hC h]
  simp only [Option.bind_some]
  rw [l_more_bad hf G L hC h]
  rfl
theorem l_expb (hf : n + 20 < f) (hcb : cb + n + 3 ≤ 6200) (hb : b ≤ 4) (hq : rXB e) (hQ : b < 4 → rXP f q B n lm o r cb 1 (b + 1) e) : rXP f q B n lm o r cb 1 b (g243b e f) := by
  intro F G L V Q i c0 hF hX hA hc
  rw [if_pos (.inl rfl)] at hF
  obtain ⟨F, rfl⟩ : ∃ t, F = t + 1 := ⟨F - 1, by omega⟩
  have hP := l_prim hf hcb hb hq hQ
  have hPB := l_prim_bad (f := f) hq
  rw [pX_1]
  unfold g243b
  have h1 := hP F G L V Q i c0 (by rw [if_neg (by decide)]; omega) hX hA hc
  have hin := hA.le hX.1.1.2.1
  cases hp : pX (tstr B n lm) F 0 b (V, Q, i) with
  | inl w =>
    rw [hp] at h1
    obtain ⟨G1, L2, e2, e3, e4, e5⟩ := h1
    have hbad : L2 7 ≠ -1 := by omega
    refine ⟨G1, L2, ?_, e3, e4, e5⟩
    rw [e2]
    simp only [Option.bind_some]
    rw [l_more_bad (by omega) G1 L2 (hX.1.fe e4).2.2.1 hbad]
    rfl
  | inr x =>
    rw [hp] at h1
    obtain ⟨G1, L2, e2, e3, e4, e5⟩ := h1
    have hle := pX_le F 0 b (V, Q, i) x (by decide) hp
    simp only at hle
    have h2 := l_more hf hcb hP hPB F G1 L2 x.1 x.2.1 x.2.2 c0 (by rw [if_pos (.inr rfl)]; omega) e5 e3 (by omega)
    rw [e2]
    simp only [Option.bind_some]
    show pok (pX (tstr B n lm) F 2 b (x.1, x.2.1, x.2.2)) _ _
    cases hp2 : pX (tstr B n lm) F 2 b (x.1, x.2.1, x.2.2) with
    | inl w =>
      rw [hp2] at h2
      obtain ⟨G3, L4, k1, k2, k3, k4⟩ := h2
      exact ⟨G3, L4, by rw [k1]; rfl, k2, e4.tr k3 (by omega) (by omega), k4⟩
    | inr z =>
      rw [hp2] at h2
      obtain ⟨G3, L4, k1, k2, k3, k4⟩ := h2
      exact ⟨G3, L4, by rw [k1]; rfl, k2, e4.tr k3 (by omega) (by omega), k4⟩
theorem l_expr (hf : n + 20 < f) (hcb : cb + n + 3 ≤ 6200) : ∀ (d b : Nat), b ≤ 4 → 5 ≤ b + d → rXP f q B n lm o r cb 1 b (g243r f (d + 1)) := by
  have hbd : ∀ d, rXB (g243r f (d + 1)) := by
    intro d
    induction d with
    | zero =>
      intro G L hC h
      show g243b (g243r f 0) f _ = _
      unfold g243b g241 g241_101
      simp only [xlx_2, xlx_3, xlx_4, xlx_5, xlx_6, xlx_7, xlx_8, xlx_9, xlx_10, xlx_u2, xlx_u3, xlx_u4, xlx_u5, xlx_u6, xlx_u7, xlx_u8, xlx_u9, xlx_u10, xu_e, eq_self, reduceIte, Nat.reduceEqDiff, if_true, if_false, not_true_eq_false, not_false_eq_true, Option.bind_some, i10, i01, true_and, false_and, and_false, ne_eq, Int.reduceEq, Int.reduceNeg, l_kind, l_sign, h, l_value_bad hC h]
      rw [l_more_bad (by omega) G L hC h]
      rfl
    | succ d ih => exact l_expb_bad (by omega) ih
  intro d
  induction d with
  | zero =>
    intro b hb hd
    omega
  | succ d ih =>
    intro b hb hd
    exact l_expb hf hcb hb (hbd d) (fun h => ih (b + 1) (by omega) (by omega))
end
