section
/-! The reference reads what compares -/
def xfC (o r x v0 c0 : Nat) (G G' : xG_) : Prop := ∀ a j, ¬ ((a = 0 ∧ (j = 21 ∨ j = 25)) ∨ (a = o ∧ j = 37) ∨ (a = o + 20 ∧ j = r) ∨ ((a = o + 23 ∨ a = o + 24) ∧ 8 * r + v0 ≤ j) ∨ (o + 25 ≤ a ∧ a ≤ o + 30 ∧ j = x) ∨ ((a = o + 33 ∨ a = o + 34) ∧ c0 ≤ j)) → G' a j = G a j
theorem xfC.fl {o r x v0 c0 m0 n0 : Nat} {G G1 : xG_} (h : xfC o r x v0 c0 G G1) : xfl o r x v0 c0 m0 n0 G G1 := fun a j hj => h a j (by omega)
theorem xfe.fC {o r x v0 c0 : Nat} {G G1 : xG_} (h : xfe o r v0 c0 G G1) : xfC o r x v0 c0 G G1 := fun a j hj => h a j (by omega)
theorem xfC.tr {o r x v0 c0 v1 c1 : Nat} {G G1 G2 : xG_} (h : xfC o r x v0 c0 G G1) (h1 : xfC o r x v1 c1 G1 G2) (hv : v0 ≤ v1) (hc : c0 ≤ c1) : xfC o r x v0 c0 G G2 := by
  intro a j hj
  rw [h1 a j (by omega), h a j hj]
theorem xfC.up {o r x v0 c0 a j : Nat} {v : Int} (G : xG_) (h : (a = 0 ∧ (j = 21 ∨ j = 25)) ∨ (a = o ∧ j = 37) ∨ (a = o + 20 ∧ j = r) ∨ ((a = o + 23 ∨ a = o + 24) ∧ 8 * r + v0 ≤ j) ∨ (o + 25 ≤ a ∧ a ≤ o + 30 ∧ j = x) ∨ ((a = o + 33 ∨ a = o + 34) ∧ c0 ≤ j)) : xfC o r x v0 c0 G (xup2 G a j v) := by
  intro a' j' hj
  exact xup2_n (fun e => hj (by rw [e.1, e.2]; exact h))
theorem rEv.fC {G G' : xG_} {q n o r x v0 c0 : Nat} {B : Nat → Int} {lm : Bool} (h : rEv G q B n lm o) (hf : xfC o r x v0 c0 G G') : rEv G' q B n lm o := h.fl (hf.fl (m0 := 0) (n0 := 0))
abbrev isCs (k : Int) : Prop := k = 61 ∨ k = 257 ∨ k = 60 ∨ k = 258 ∨ k = 62 ∨ k = 259
theorem isCs_sg {k : Int} (h : isCs k) : isSg k := by
  unfold isSg
  rcases h with h | h | h | h | h | h <;> rw [h] <;> decide
section
variable {f q n o r x c0 cb : Nat} {B : Nat → Int} {lm : Bool} {G G' : xG_} {L : Nat → Int} {V : List (Int × Nat)} {Q : pCd}
theorem rX.u {a : Nat} {v : Int} (h : rX G q B n lm o r V c0 Q 0) (ha : o + 25 ≤ a ∧ a ≤ o + 30) : rX (xup2 G a x v) q B n lm o r V c0 Q 0 := by
  obtain ⟨a1, a2, a3, a4, a5, a6, a7⟩ := h
  have ho := a1.2.2.2.2
  have f1 : xfC o r x V.length c0 G (xup2 G a x v) := xfC.up G (by omega)
  refine ⟨a1.fC f1, by rw [xup2_n (by omega)]; exact a2, a3, a4.ot (fun j => xup2_n (by omega)) (fun j => xup2_n (by omega)) (fun j => xup2_n (by omega)), by rw [xup2_n (by omega)]; exact a5, fun j hj => by rw [xup2_n (by omega), xup2_n (by omega)]; exact a6 j hj, by rw [xup2_n (by omega)]; exact a7⟩
/-- a new list of codes begins behind the last one -/
theorem rX.new (h : rX G q B n lm o r V c0 Q 0) : rX G q B n lm o r V (c0 + Q.length) [] 0 := ⟨h.1, h.2.1, h.2.2.1, h.2.2.2.1, h.2.2.2.2.1, fun j hj => absurd hj (by simp), h.2.2.2.2.2.2⟩
theorem l_ex {i F : Nat} (hf : n + 20 < f) (hcb : cb + n + 3 ≤ 6200) (hF : 4 * (n + 1 - i) + 2 ≤ F) (hX : rX G q B n lm o r V c0 Q 0) (hA : rAt q B n lm i L) (hc : c0 + Q.length ≤ cb + i) :
    pok (pX (tstr B n lm) F 1 0 (V, Q, i)) (fun w => ∃ G' L', g243 f (xlx G L) = some (xlx G' L') ∧ L' 7 = (q : Int) + w ∧ xfe o r V.length (c0 + Q.length) G G' ∧ 0 ≤ G' (o + 20) r ∧ G' (o + 20) r ≤ 8)
      (fun x => ∃ G' L', g243 f (xlx G L) = some (xlx G' L') ∧ rAt q B n lm x.2.2 L' ∧ xfe o r V.length (c0 + Q.length) G G' ∧ rX G' q B n lm o r x.1 c0 x.2.1 0) := by
  have h := l_expr (f := f) (q := q) (B := B) (lm := lm) (o := o) (r := r) hf hcb 7 0 (by omega) (by omega)
  have hF' : 4 * (n + 1 - i) + (if 1 = 1 ∨ 1 = 2 then 2 else 1) ≤ F := hF
  exact h F G L V Q i c0 hF' hX hA hc
theorem l_cmp_bad (hE : rEv G q B n lm o) (hx : x < 200) (h : L 7 ≠ -1) : ∃ v, g248 f x (xlx G L) = some (xlx (xup2 (xup2 G (o + 25) x 3) (o + 29) x v) L) := by
  have h22 := hE.2.2.2.1
  have ho := hE.2.2.2.2
  refine ⟨G o 37, ?_⟩
  unfold g248
  rw [xlx_o _ _ (by omega), h22, if_neg (by omega), if_pos (by omega), Int.toNat_natCast, Int.toNat_natCast, xlx_upo _ _ _ (by omega)]
  simp only [Option.bind_some]
  rw [xlx_o _ _ (by omega), xup2_n (by omega), h22, if_neg (by omega), if_neg (by omega), if_pos (by omega), Int.toNat_natCast, xlx_o _ _ (by omega), xup2_n (by omega), xlx_upo _ _ _ (by omega)]
  simp only [xlx_2, xlx_3, xlx_4, xlx_5, xlx_6, xlx_7, xlx_8, xlx_9, xlx_10, xlx_u2, xlx_u3, xlx_u4, xlx_u5, xlx_u6, xlx_u7, xlx_u8, xlx_u9, xlx_u10, xu_e, eq_self, reduceIte, Nat.reduceEqDiff, if_true, if_false, not_true_eq_false, not_false_eq_true, Option.bind_some, i10, i01, true_and, false_and, and_false, ne_eq, Int.reduceEq, Int.reduceNeg, l_sign, h, l_fail]
theorem l_cmp {i F : Nat} (hf : n + 20 < f) (hcb : cb + n + 3 ≤ 6200) (hx : x < 200) (hF : 4 * (n + 1 - i) + 2 ≤ F) (hX : rX G q B n lm o r V c0 Q 0) (hA : rAt q B n lm i L) (hc : c0 + Q.length ≤ cb + i) :
    pok (if isCs (kK (tstr B n lm) i) then pbind (pX (tstr B n lm) F 1 0 (V, [], i + 1)) fun b => .inr b else .inl (kS (tstr B n lm) i) : Nat ⊕ pEx) (fun w => ∃ G' L', g248 f x (xlx G L) = some (xlx G' L') ∧ L' 7 = (q : Int) + w ∧ xfC o r x V.length (c0 + Q.length) G G' ∧ 0 ≤ G' (o + 20) r ∧ G' (o + 20) r ≤ 8)
      (fun b => ∃ G' L', g248 f x (xlx G L) = some (xlx G' L') ∧ rAt q B n lm b.2.2 L' ∧ xfC o r x V.length (c0 + Q.length) G G' ∧ rX G' q B n lm o r b.1 (c0 + Q.length) b.2.1 0 ∧ G' (o + 25) x = 3 ∧ G' (o + 26) x = rsc (kK (tstr B n lm) i) ∧ G' (o + 28) x = G (o + 28) x ∧ G' (o + 29) x = ((c0 + Q.length : Nat) : Int) ∧ G' (o + 30) x = ((c0 + Q.length + b.2.1.length : Nat) : Int)) := by
  have hF2 : 4 * (n + 1 - (i + 1)) + 2 ≤ F := by omega
  have hc2 : c0 + Q.length + ([] : pCd).length ≤ cb + (i + 1) := by show c0 + Q.length + 0 ≤ _; omega
  have hE := hX.1
  have h22 := hE.2.2.2.1
  have ho := hE.2.2.2.2
  have h37 := hX.2.2.2.2.1
  obtain ⟨t4, tsg, tn, tv, tu, tnum, tend, tn9, tv9, tnum9, t6, t5, tlt, t3⟩ := hA.tk hE.1.2.1
  have h7 := hA.1
  have hX1 : rX (xup2 (xup2 G (o + 25) x 3) (o + 29) x ((c0 + Q.length : Nat) : Int)) q B n lm o r V c0 Q 0 := (hX.u (x := x) (by omega)).u (by omega)
  have f1 : xfC o r x V.length (c0 + Q.length) G (xup2 (xup2 G (o + 25) x 3) (o + 29) x ((c0 + Q.length : Nat) : Int)) := (xfC.up G (by omega)).tr (xfC.up _ (by omega)) (Nat.le_refl _) (Nat.le_refl _)
  have v25 : xup2 (xup2 G (o + 25) x 3) (o + 29) x ((c0 + Q.length : Nat) : Int) (o + 25) x = 3 := by rw [xup2_n (by omega), xup2_s]
  have v28 : xup2 (xup2 G (o + 25) x 3) (o + 29) x ((c0 + Q.length : Nat) : Int) (o + 28) x = G (o + 28) x := by rw [xup2_n (by omega), xup2_n (by omega)]
  have v29 : xup2 (xup2 G (o + 25) x 3) (o + 29) x ((c0 + Q.length : Nat) : Int) (o + 29) x = ((c0 + Q.length : Nat) : Int) := xup2_s _ _ _ _
  have e0 : g248 f x (xlx G L) = if isCs (kK (tstr B n lm) i) then g248_92 f x (xlx (xup2 (xup2 G (o + 25) x 3) (o + 29) x ((c0 + Q.length : Nat) : Int)) L) else some (xlx (xup2 (xup2 G (o + 25) x 3) (o + 29) x ((c0 + Q.length : Nat) : Int)) (xu L 7 (L 4))) := by
    have a1 := tsg 61 (by unfold isSg; omega)
    have a2 := tsg 257 (by unfold isSg; omega)
    have a3 := tsg 60 (by unfold isSg; omega)
    have a4 := tsg 258 (by unfold isSg; omega)
    have a5 := tsg 62 (by unfold isSg; omega)
    have a6 := tsg 259 (by unfold isSg; omega)
    rw [show rsc 61 = 61 from rfl] at a1
    rw [show rsc 257 = 301 from rfl] at a2
    rw [show rsc 60 = 60 from rfl] at a3
    rw [show rsc 258 = 302 from rfl] at a4
    rw [show rsc 62 = 62 from rfl] at a5
    rw [show rsc 259 = 303 from rfl] at a6
    unfold g248
    rw [xlx_o _ _ (by omega), h22, if_neg (by omega), if_pos (by omega), Int.toNat_natCast, Int.toNat_natCast, xlx_upo _ _ _ (by omega)]
    simp only [Option.bind_some]
    rw [xlx_o _ _ (by omega), xup2_n (by omega), h22, if_neg (by omega), if_neg (by omega), if_pos (by omega), Int.toNat_natCast, xlx_o _ _ (by omega), xup2_n (by omega), h37, xlx_upo _ _ _ (by omega)]
    simp only [xlx_2, xlx_3, xlx_4, xlx_5, xlx_6, xlx_7, xlx_8, xlx_9, xlx_10, xlx_u2, xlx_u3, xlx_u4, xlx_u5, xlx_u6, xlx_u7, xlx_u8, xlx_u9, xlx_u10, xu_e, eq_self, reduceIte, Nat.reduceEqDiff, if_true, if_false, not_true_eq_false, not_false_eq_true, Option.bind_some, i10, i01, true_and, false_and, and_false, ne_eq, Int.reduceEq, Int.reduceNeg, l_sign, h7, l_fail, a1, a2, a3, a4, a5, a6, Classical.not_not]
    unfold isCs
    by_cases d1 : kK (tstr B n lm) i = 61
    · simp [d1]
    by_cases d2 : kK (tstr B n lm) i = 257
    · simp [d2]
    by_cases d3 : kK (tstr B n lm) i = 60
    · simp [d3]
    by_cases d4 : kK (tstr B n lm) i = 258
    · simp [d4]
    by_cases d5 : kK (tstr B n lm) i = 62
    · simp [d5]
    by_cases d6 : kK (tstr B n lm) i = 259
    · simp [d6]
    simp [d1, d2, d3, d4, d5, d6]
  rw [e0]
  clear e0 tsg tn tv tu tnum tend tn9 tv9 tnum9 t6 t5 tlt t3
  generalize xup2 (xup2 G (o + 25) x 3) (o + 29) x ((c0 + Q.length : Nat) : Int) = G1 at *
  by_cases c : isCs (kK (tstr B n lm) i)
  · rw [if_pos c, if_pos c]
    have f2 : xfC o r x V.length (c0 + Q.length) G1 (xup2 G1 (o + 26) x (L 3)) := xfC.up _ (by omega)
    have hX2 : rX (xup2 G1 (o + 26) x (L 3)) q B n lm o r V c0 Q 0 := hX1.u (by omega)
    obtain ⟨h3, L1, p1, p2⟩ := hA.sg (f := f) hf hX2.1 rfl (isCs_sg c)
    have h1 := l_ex (f := f) hf hcb hF2 hX2.new p2 hc2
    have e1 : g248_92 f x (xlx G1 L) = (g243 f (xlx (xup2 G1 (o + 26) x (L 3)) L1)).bind fun R112 => (if R112 0 22 < 0 then none else (if R112 0 22 < 0 then none else (if 0 ≤ (x : Int) ∧ (x : Int) < 200 then some (xup2 R112 ((R112 0 22).toNat + 30) x (R112 ((R112 0 22).toNat) 37)) else none))) := by
      unfold g248_92
      rw [xlx_o _ _ (by omega), hX1.1.2.2.2.1, if_neg (by omega), if_pos (by omega), Int.toNat_natCast, Int.toNat_natCast, xlx_3, xlx_upo _ _ _ (by omega)]
      simp only [Option.bind_some]
      rw [p1]
      simp only [Option.bind_some]
    rw [e1]
    clear e1
    cases hp : pX (tstr B n lm) F 1 0 (V, [], i + 1) with
    | inl w =>
      rw [hp] at h1
      obtain ⟨G2, L2, d1, d2, d3, d4, d5⟩ := h1
      have d3' : xfe o r V.length (c0 + Q.length) (xup2 G1 (o + 26) x (L 3)) G2 := d3
      have hE2 := hX2.1.fe d3
      refine ⟨xup2 G2 (o + 30) x (G2 o 37), L2, ?_, d2, ((f1.tr f2 (Nat.le_refl _) (Nat.le_refl _)).tr d3'.fC (Nat.le_refl _) (Nat.le_refl _)).tr (xfC.up _ (by omega)) (Nat.le_refl _) (Nat.le_refl _), by rw [xup2_n (by omega)]; exact ⟨d4, d5⟩⟩
      rw [d1]
      simp only [Option.bind_some]
      rw [xlx_o _ _ (by omega), hE2.2.2.2.1, if_neg (by omega), if_neg (by omega), if_pos (by omega), Int.toNat_natCast, xlx_o _ _ (by omega), xlx_upo _ _ _ (by omega)]
    | inr b =>
      rw [hp] at h1
      obtain ⟨G2, L2, d1, d2, d3, d4⟩ := h1
      have d3' : xfe o r V.length (c0 + Q.length) (xup2 G1 (o + 26) x (L 3)) G2 := d3
      have hE2 := d4.1
      have hle := pX_le F 1 0 (V, [], i + 1) b (by decide) hp
      refine ⟨xup2 G2 (o + 30) x ((c0 + Q.length + b.2.1.length : Nat) : Int), L2, ?_, d2, ((f1.tr f2 (Nat.le_refl _) (Nat.le_refl _)).tr d3'.fC (Nat.le_refl _) (Nat.le_refl _)).tr (xfC.up _ (by omega)) (Nat.le_refl _) (Nat.le_refl _), d4.u (by omega), ?_, ?_, ?_, ?_, xup2_s _ _ _ _⟩
      · rw [d1]
        simp only [Option.bind_some]
        rw [xlx_o _ _ (by omega), hE2.2.2.2.1, if_neg (by omega), if_neg (by omega), if_pos (by omega), Int.toNat_natCast, xlx_o _ _ (by omega), d4.2.2.2.2.1, xlx_upo _ _ _ (by omega)]
      · rw [xup2_n (by omega), d3' _ _ (by omega), xup2_n (by omega)]; exact v25
      · rw [xup2_n (by omega), d3' _ _ (by omega), xup2_s]; exact h3
      · rw [xup2_n (by omega), d3' _ _ (by omega), xup2_n (by omega)]; exact v28
      · rw [xup2_n (by omega), d3' _ _ (by omega), xup2_n (by omega)]; exact v29
  · rw [if_neg c, if_neg c]
    refine ⟨G1, xu L 7 (L 4), rfl, t4, f1, ?_⟩
    have := hX1.2.2.2.1
    have h1 := this.1
    have h2 := this.2.1
    omega
end
end
section
/-! The reference reads LITERALS -/
theorem tres_inv {x : Int} : (tres x = 6 → x = 19558354) ∧ (tres x = 7 → x = 1233436738) ∧ (tres x = 8 → x = 16099) ∧ (tres x = 9 → x = 20806) ∧ (tres x = 10 → x = 7109364) ∧ (tres x = 11 → x = 28247) ∧ (tres x = 12 → x = 25298178) ∧ (tres x = 13 → x = 735738) := by
  unfold tres
  by_cases a1 : x = 19558354
  · simp [a1]
  by_cases a2 : x = 1233436738
  · simp [a2]
  by_cases a3 : x = 16099
  · simp [a3]
  by_cases a4 : x = 20806
  · simp [a4]
  by_cases a5 : x = 7109364
  · simp [a5]
  by_cases a6 : x = 28247
  · simp [a6]
  by_cases a7 : x = 25298178
  · simp [a7]
  by_cases a8 : x = 735738
  · simp [a8]
  simp [a1, a2, a3, a4, a5, a6, a7, a8]
section
variable {f q n o r i : Nat} {B : Nat → Int} {lm : Bool} {G G' : xG_} {L : Nat → Int}
theorem rAt.isname (hE : rEv G q B n lm o) (hA : rAt q B n lm i L) : g226 f (xlx G L) = some (if kK (tstr B n lm) i = 1 then 1 else 0, xlx G L) := by
  obtain ⟨t4, tsg, tn, tv, tu, tnum, tend, tn9, tv9, tnum9, t6, t5, tlt, t3⟩ := hA.tk hE.1.2.1
  rw [l_name hE.2.2.1]
  have : (L 7 = -1 ∧ L 2 = 2 ∧ tres (L 9) = 1) ↔ kK (tstr B n lm) i = 1 := by
    constructor
    · rintro ⟨_, a, b⟩
      have := tn9 a
      rw [← this.2.2, ← this.1]; exact b
    · intro c3
      have k2 := tn.mpr (.inl c3)
      have k9 := tn9 k2
      exact ⟨hA.1, k2, by rw [k9.1, k9.2.2]; exact c3⟩
  simp only [this]
theorem rAt.isword {c k : Int} (hE : rEv G q B n lm o) (hA : rAt q B n lm i L) (h1 : tres c = k) (h2 : ∀ x, tres x = k → x = c) (hk : 6 ≤ k ∧ k ≤ 13) : g225 f c (xlx G L) = some (if kK (tstr B n lm) i = k then 1 else 0, xlx G L) := by
  obtain ⟨t4, tsg, tn, tv, tu, tnum, tend, tn9, tv9, tnum9, t6, t5, tlt, t3⟩ := hA.tk hE.1.2.1
  rw [l_word]
  have : (L 7 = -1 ∧ L 2 = 2 ∧ L 9 = c) ↔ kK (tstr B n lm) i = k := by
    constructor
    · rintro ⟨_, a, b⟩
      have := tn9 a
      rw [← this.2.2, ← this.1, b]; exact h1
    · intro c3
      have k2 := tn.mpr (.inr (by rw [c3]; exact hk))
      have k9 := tn9 k2
      exact ⟨hA.1, k2, by rw [k9.1]; exact h2 _ (by rw [k9.2.2]; exact c3)⟩
  simp only [this]
theorem rAt.issign {c : Int} (hE : rEv G q B n lm o) (hA : rAt q B n lm i L) (hc : isSg c) : g220 f (rsc c) (xlx G L) = some (if kK (tstr B n lm) i = c then 1 else 0, xlx G L) := by
  have := (hA.tk hE.1.2.1).2.1 c hc
  rw [l_sign]
  simp only [hA.1, true_and, this]
theorem rAt.at4 (hE : rEv G q B n lm o) (hA : rAt q B n lm i L) : L 4 = (q : Int) + kS (tstr B n lm) i := (hA.tk hE.1.2.1).1
/-- a NAME -/
theorem rAt.nm (hE : rEv G q B n lm o) (hA : rAt q B n lm i L) (hK : kK (tstr B n lm) i = 1) : L 9 = kC (tstr B n lm) i ∧ L 10 = kW (tstr B n lm) i ∧ L 6 = (if 12 < kE (tstr B n lm) i - kS (tstr B n lm) i then (q : Int) + kS (tstr B n lm) i + 12 else -1) := by
  obtain ⟨t4, tsg, tn, tv, tu, tnum, tend, tn9, tv9, tnum9, t6, t5, tlt, t3⟩ := hA.tk hE.1.2.1
  have k2 := tn.mpr (.inl hK)
  refine ⟨(tn9 k2).1, (tn9 k2).2.1, ?_⟩
  rw [t6, k2]
  simp
theorem rAt.wd (hf : n + 20 < f) (hE : rEv G q B n lm o) (hA : rAt q B n lm i L) (hK : 6 ≤ kK (tstr B n lm) i ∧ kK (tstr B n lm) i ≤ 13) : ∃ L', g213 f (xlx G L) = some (xlx G L') ∧ rAt q B n lm (i + 1) L' := by
  obtain ⟨t4, tsg, tn, tv, tu, tnum, tend, tn9, tv9, tnum9, t6, t5, tlt, t3⟩ := hA.tk hE.1.2.1
  have k2 := tn.mpr (.inr hK)
  have k9 := tn9 k2
  have hS := tS_le hE.1.2.1 i
  have h6 : L 6 = -1 := by
    rw [t6, k2]
    rw [if_neg, if_neg (by omega)]
    rintro ⟨_, h12⟩
    have hkd := kK_inv (lm := lm) (i := i) (B := B) (n := n) rfl (by omega)
    have hsm : tSm (B (tS B n i)) ∧ ¬ B (tS B n i) < 0 := by
      have k3 := tsgn_in (B (tS B n i)) (B (tS B n i + 1))
      unfold isSg at k3
      unfold tkd at hkd
      by_cases c1 : B (tS B n i) < 0
      · rw [if_pos c1] at hkd; omega
      rw [if_neg c1] at hkd
      by_cases c2 : tSm (B (tS B n i))
      · exact ⟨c2, c1⟩
      rw [if_neg c2] at hkd
      by_cases c3 : tGr (B (tS B n i))
      · rw [if_pos c3] at hkd; omega
      rw [if_neg c3] at hkd
      by_cases c4 : tDi (B (tS B n i))
      · rw [if_pos c4] at hkd; omega
      rw [if_neg c4] at hkd; omega
    have eE : kE (tstr B n lm) i = tnend B n (tS B n i) := by show ten B n (tS B n i) = _; unfold ten; rw [if_neg hsm.2, if_pos hsm.1]
    have eS : kS (tstr B n lm) i = tS B n i := rfl
    rw [eE, eS] at h12
    have hr := trun_is (P := tNm) hE.1.2.1 (by decide) (n - tS B n i) (tS B n i) (Nat.le_refl _) hS.1
    have e38 := tenc_in (b := 38) (d := xdig) (B := B) (s := tS B n i) (by decide) 11 (fun j hj => tNm_dig (hr.2.2.1 _ (by omega) (by have : trun B tNm (n - tS B n i) (tS B n i) = tnend B n (tS B n i) := rfl; omega)))
    have hco : kC (tstr B n lm) i = tenc 38 xdig B (tS B n i) 12 := by
      show tco B n (tS B n i) = _
      unfold tco tncode
      rw [if_pos hsm.1, show min (tnend B n (tS B n i) - tS B n i) 12 = 12 by omega]
    have hlo : ∀ k, k ≤ 12 → 1 ≤ k → 38 ^ (k - 1) ≤ tenc 38 xdig B (tS B n i) k := by
      intro k
      induction k with
      | zero => intro _ h; omega
      | succ k ih =>
        intro hk _
        have hd := tNm_dig (hr.2.2.1 (tS B n i + k) (by omega) (by have : trun B tNm (n - tS B n i) (tS B n i) = tnend B n (tS B n i) := rfl; omega))
        rw [tenc_s]
        cases k with
        | zero => show (1 : Int) ≤ 0 * 38 + _; omega
        | succ k =>
          have := ih (by omega) (by omega)
          have e1 : (38 : Int) ^ (k + 1 + 1 - 1) = 38 ^ k * 38 := Int.pow_succ 38 k
          have e2 : (38 : Int) ^ (k + 1 - 1) = 38 ^ k := rfl
          rw [e1]
          rw [e2] at this
          omega
    have h11 := hlo 12 (by omega) (by omega)
    have e11 : (38 : Int) ^ (12 - 1) = 238572050223552512 := by decide
    rw [e11, ← hco] at h11
    have hin := @tres_inv (kC (tstr B n lm) i)
    rw [k9.2.2] at hin
    omega
  exact l_pass hf hE hA h6 (by omega) (by omega)
end
end
section
/-! The reference reads LITERALS: one -/
def rLt (G : xG_) (o x c : Nat) (l : pLt) : Prop := G (o + 25) x = l.1 ∧ l.2.2.2.1.length ≤ 4 ∧ (l.1 ≠ 3 → G (o + 26) x = l.2.1 ∧ G (o + 27) x = (l.2.2.2.1.length : Int) ∧ rTs G o x l.2.2.2.1) ∧
  (l.1 = 3 → G (o + 26) x = rsc l.2.1 ∧ ∃ a : Nat, G (o + 28) x = (a : Int) ∧ G (o + 29) x = ((a + l.2.2.2.2.1.length : Nat) : Int) ∧ G (o + 30) x = ((a + l.2.2.2.2.1.length + l.2.2.2.2.2.length : Nat) : Int) ∧ a + l.2.2.2.2.1.length + l.2.2.2.2.2.length ≤ c ∧ rCo G o a l.2.2.2.2.1 ∧ rCo G o (a + l.2.2.2.2.1.length) l.2.2.2.2.2)
def dLt : pLt := (0, 0, 0, [], [], [])
def rLs (G : xG_) (o r c : Nat) (l : List pLt) : Prop := G (o + 19) r = (l.length : Int) ∧ l.length ≤ 8 ∧ ∀ k, k < l.length → rLt G o (8 * r + k) c (l.getD k dLt)
def rRS (G : xG_) (q : Nat) (B : Nat → Int) (n : Nat) (lm : Bool) (o r c : Nat) (N : List Int) (V : List (Int × Nat)) (l : List pLt) (M : List pMn) : Prop :=
  rEv G q B n lm o ∧ G 0 23 = (r : Int) ∧ r ≤ 24 ∧ rNs G o N ∧ rVs G o q r V ∧ G o 37 = (c : Int) ∧ rLs G o r c l ∧ rMs G o q M ∧ G 0 24 = (pAtoms l : Int) ∧ pAtoms l ≤ 3 ∧ G 0 25 = 0
def rSb (G : xG_) (o r : Nat) : Prop := 0 ≤ G (o + 19) r ∧ G (o + 19) r ≤ 8 ∧ 0 ≤ G (o + 20) r ∧ G (o + 20) r ≤ 8 ∧ 0 ≤ G o 14 ∧ G o 14 ≤ 420 ∧ 0 ≤ G o 8 ∧ G o 8 ≤ 16
theorem rLt.fr {G G' : xG_} {o x c c' : Nat} {l : pLt} (h : rLt G o x c l) (hc : c ≤ c') (h1 : ∀ a, o + 25 ≤ a → a ≤ o + 30 → G' a x = G a x) (h2 : ∀ k, k < 4 → G' (o + 31) (4 * x + k) = G (o + 31) (4 * x + k) ∧ G' (o + 32) (4 * x + k) = G (o + 32) (4 * x + k)) (h3 : ∀ j, j < c → G' (o + 33) j = G (o + 33) j ∧ G' (o + 34) j = G (o + 34) j) : rLt G' o x c' l := by
  obtain ⟨a1, a2, a3, a4⟩ := h
  refine ⟨by rw [h1 _ (by omega) (by omega)]; exact a1, a2, fun h => ?_, fun h => ?_⟩
  · obtain ⟨b1, b2, b3⟩ := a3 h
    refine ⟨by rw [h1 _ (by omega) (by omega)]; exact b1, by rw [h1 _ (by omega) (by omega)]; exact b2, fun k hk => ?_⟩
    have := h2 k (by omega)
    rw [this.1, this.2]
    exact b3 k hk
  · obtain ⟨b0, a, b1, b2, b3, b4, b5, b6⟩ := a4 h
    refine ⟨by rw [h1 _ (by omega) (by omega)]; exact b0, a, by rw [h1 _ (by omega) (by omega)]; exact b1, by rw [h1 _ (by omega) (by omega)]; exact b2, by rw [h1 _ (by omega) (by omega)]; exact b3, by omega, fun j hj => ?_, fun j hj => ?_⟩
    · have := h3 (a + j) (by omega)
      rw [this.1, this.2]
      exact b5 j hj
    · have := h3 (a + l.2.2.2.2.1.length + j) (by omega)
      rw [this.1, this.2]
      exact b6 j hj
theorem rLt.fl {G G' : xG_} {o r x x0 c c' v0 m0 n0 : Nat} {l : pLt} (h : rLt G o x c l) (hc : c ≤ c') (hf : xfl o r x0 v0 c m0 n0 G G') (hx : x < x0) : rLt G' o x c' l := h.fr hc (fun a h1 h2 => hf _ _ (by omega)) (fun k hk => ⟨hf _ _ (by omega), hf _ _ (by omega)⟩) (fun j hj => ⟨hf _ _ (by omega), hf _ _ (by omega)⟩)
theorem rLs.add {G G' : xG_} {o r c c' v0 m0 n0 : Nat} {l : List pLt} {y : pLt} (h : rLs G o r c l) (hf : xfl o r (8 * r + l.length) v0 c m0 n0 G G') (hc : c ≤ c') (hy : rLt G' o (8 * r + l.length) c' y) (h19 : G' (o + 19) r = ((l.length + 1 : Nat) : Int)) (h8 : l.length < 8) : rLs G' o r c' (l ++ [y]) := by
  obtain ⟨a1, a2, a3⟩ := h
  refine ⟨by rw [len1]; exact h19, by rw [len1]; omega, fun k hk => ?_⟩
  rw [len1] at hk
  rw [getD_1]
  by_cases c : k = l.length
  · rw [if_pos c, c]
    exact hy
  · rw [if_neg c]
    exact (a3 k (by omega)).fl hc hf (by omega)
theorem pAtoms_1 (l : List pLt) (y : pLt) : pAtoms (l ++ [y]) = pAtoms l + (if y.1 = 1 then 1 else 0) := by
  unfold pAtoms
  rw [List.filter_append, List.length_append]
  by_cases h : y.1 = 1
  · rw [if_pos h]
    simp [h]
  · rw [if_neg h]
    simp [h]
section
variable {f q n o r i c cb F : Nat} {B : Nat → Int} {lm tell : Bool} {G G' : xG_} {L : Nat → Int} {N : List Int} {V : List (Int × Nat)} {l : List pLt} {M : List pMn}
theorem l_inc {m : Nat} (hE : rEv G q B n lm o) (h23 : G 0 23 = (r : Int)) (hr : r ≤ 24) (hm : G (o + 19) r = (m : Int)) (hm8 : m ≤ 8) : g247_261 f (xlx G L) = some (xlx (xup2 G (o + 19) r ((m + 1 : Nat) : Int)) L) := by
  have h22 := hE.2.2.2.1
  have ho := hE.2.2.2.2
  unfold g247_261
  rw [xlx_o _ _ (by omega), h22, if_neg (by omega), xlx_o _ _ (by omega), h23, if_pos (by omega), if_pos (by omega), Int.toNat_natCast, Int.toNat_natCast, xlx_o _ _ (by omega), hm, xwr_g _ (by omega) (by omega), xlx_upo _ _ _ (by omega)]
  rfl
theorem rSb.of (hN : rNs G o N) (hV : rVs G o q r V) (hM : rMs G o q M) {m : Nat} (hm : G (o + 19) r = (m : Int)) (h8 : m ≤ 8) : rSb G o r := by
  have h1 := hN.1
  have h2 := hN.2.1
  have h3 := hV.1
  have h4 := hV.2.1
  have h5 := hM.1
  unfold rSb
  omega
/-- behind an ATOM that was read well or not: one LITERAL more -/
theorem l_lit_atom {k : Int} {pl j : Nat} {y : Int} {L : Nat → Int} (hf : n + 20 < f) (htell : tell = true ↔ r ≠ 24) (hS : rRS G q B n lm o r c N V l M) (h8 : l.length < 8) (G1 : xG_) (hG1 : k = 2 ∧ G1 = G ∨ k = 1 ∧ pAtoms l < 3 ∧ G1 = xup2 G 0 24 ((pAtoms l + 1 : Nat) : Int)) (hA : rAt q B n lm j L) :
    pok (pbind (pP tell N y pl) fun p => pbind (pA48 (tstr B n lm) V j) fun z => .inr (p.2, z.2.1, l ++ [(k, p.1, pl, z.1, [], [])], M ++ [(p.1, pl, (z.1.length : Int), 4)], z.2.2)) (fun w => ∃ G' L', (g249 f ((8 * r + l.length : Nat) : Int) k y ((q : Int) + pl) (xlx G1 L)).bind (fun R => g247_261 f R) = some (xlx G' L') ∧ L' 7 = (q : Int) + w ∧ xfl o r (8 * r + l.length) V.length c (min M.length 420) N.length G G' ∧ rSb G' o r)
      (fun s => ∃ G' L', (g249 f ((8 * r + l.length : Nat) : Int) k y ((q : Int) + pl) (xlx G1 L)).bind (fun R => g247_261 f R) = some (xlx G' L') ∧ rAt q B n lm s.2.2.2.2 L' ∧ xfl o r (8 * r + l.length) V.length c (min M.length 420) N.length G G' ∧ rRS G' q B n lm o r c s.1 s.2.1 s.2.2.1 s.2.2.2.1) := by
  obtain ⟨hE, h23, hr, hN, hV, h37, hL, hM, h24, ha3, h25⟩ := hS
  have ho := hE.2.2.2.2
  have hg : ∀ a b, ¬ (a = 0 ∧ b = 24) → G1 a b = G a b := by
    intro a b hab
    rcases hG1 with ⟨_, e⟩ | ⟨_, _, e⟩
    · rw [e]
    · rw [e, xup2_n (by omega)]
  have f0 : xfl o r (8 * r + l.length) V.length c (min M.length 420) N.length G G1 := fun a b hb => hg a b (by omega)
  have hE1 : rEv G1 q B n lm o := hE.fl f0
  have hN1 : rNs G1 o N := ⟨by rw [hg _ _ (by omega)]; exact hN.1, hN.2.1, fun j hj => by rw [hg _ _ (by omega)]; exact hN.2.2 j hj⟩
  have hV1 : rVs G1 o q r V := hV.ot (fun j => hg _ _ (by omega)) (fun j => hg _ _ (by omega)) (fun j => hg _ _ (by omega))
  have hM1 : rMs G1 o q M := hM.fr (hg _ _ (by omega)) (fun a j _ _ => hg _ _ (by omega))
  have h1 := l_atom (f := f) (x := 8 * r + l.length) (k := k) (pl := pl) (y := y) hf hr htell (by omega) hE1 (by rw [hg _ _ (by omega)]; exact h23) hN1 hV1 hM1 hA
  have hL1 : G1 (o + 19) r = (l.length : Int) := by rw [hg _ _ (by omega)]; exact hL.1
  cases hp : pP tell N y pl with
  | inl w =>
    rw [hp] at h1
    obtain ⟨G2, L2, a1, a2, a3, a4, a5, a6, a7, a8, a9⟩ := h1
    have hE2 := hE1.fA a3
    have e19 : G2 (o + 19) r = (l.length : Int) := by rw [a3 _ _ (by omega)]; exact hL1
    have hi := l_inc (f := f) (L := L2) hE2 (by rw [a3 _ _ (by omega), hg _ _ (by omega)]; exact h23) hr e19 (by omega)
    refine ⟨_, L2, by rw [a1]; exact hi, a2, (f0.tr a3.fl (Nat.le_refl _) (Nat.le_refl _) (Nat.le_refl c) (Nat.le_refl _) (Nat.le_refl _)).tr (xfl.up _ (by omega)) (Nat.le_refl _) (Nat.le_refl _) (Nat.le_refl _) (Nat.le_refl _) (Nat.le_refl _), ?_⟩
    unfold rSb
    rw [xup2_s, xup2_n (by omega), xup2_n (by omega), xup2_n (by omega)]
    omega
  | inr p =>
    rw [hp] at h1
    show pok (pbind (pA48 (tstr B n lm) V j) _) _ _
    cases hp2 : pA48 (tstr B n lm) V j with
    | inl w =>
      have h1' : pok (pbind (pA48 (tstr B n lm) V j) fun z => .inr (p, z)) _ _ := h1
      rw [hp2] at h1'
      obtain ⟨G2, L2, a1, a2, a3, a4, a5, a6, a7, a8, a9⟩ := h1'
      have hE2 := hE1.fA a3
      have e19 : G2 (o + 19) r = (l.length : Int) := by rw [a3 _ _ (by omega)]; exact hL1
      have hi := l_inc (f := f) (L := L2) hE2 (by rw [a3 _ _ (by omega), hg _ _ (by omega)]; exact h23) hr e19 (by omega)
      refine ⟨_, L2, by rw [a1]; exact hi, a2, (f0.tr a3.fl (Nat.le_refl _) (Nat.le_refl _) (Nat.le_refl c) (Nat.le_refl _) (Nat.le_refl _)).tr (xfl.up _ (by omega)) (Nat.le_refl _) (Nat.le_refl _) (Nat.le_refl _) (Nat.le_refl _) (Nat.le_refl _), ?_⟩
      unfold rSb
      rw [xup2_s, xup2_n (by omega), xup2_n (by omega), xup2_n (by omega)]
      omega
    | inr z =>
      have h1' : pok (pbind (pA48 (tstr B n lm) V j) fun z => .inr (p, z)) _ _ := h1
      rw [hp2] at h1'
      obtain ⟨G2, L2, a1, a2, a3, a4, a5, a6, a7, a8, a9, a10⟩ := h1'
      have hE2 := hE1.fA a3
      have e19 : G2 (o + 19) r = (l.length : Int) := by rw [a3 _ _ (by omega)]; exact hL1
      have h23' : G2 0 23 = (r : Int) := by rw [a3 _ _ (by omega), hg _ _ (by omega)]; exact h23
      have hi := l_inc (f := f) (L := L2) hE2 h23' hr e19 (by omega)
      have fF : xfl o r (8 * r + l.length) V.length c (min M.length 420) N.length G (xup2 G2 (o + 19) r ((l.length + 1 : Nat) : Int)) := (f0.tr a3.fl (Nat.le_refl _) (Nat.le_refl _) (Nat.le_refl c) (Nat.le_refl _) (Nat.le_refl _)).tr (xfl.up _ (by omega)) (Nat.le_refl _) (Nat.le_refl _) (Nat.le_refl _) (Nat.le_refl _) (Nat.le_refl _)
      have hT4 : z.1.length ≤ 4 := by
        unfold pA48 at hp2
        obtain ⟨_, _, q2⟩ := pbind_inr hp2
        obtain ⟨_, _, q3⟩ := pbind_inr q2
        obtain ⟨zz, q4, q5⟩ := pbind_inr q3
        obtain ⟨_, _, q6⟩ := pbind_inr q5
        have := pTerms_le q4
        cases q6
        simp only [List.length_singleton] at this
        simp only
        omega
      refine ⟨_, L2, by rw [a1]; exact hi, a2, fF, hE2.fl (xfl.up (r := r) (x := 8 * r + l.length) (v0 := 0) (c0 := 0) (m0 := 0) (n0 := 0) _ (by omega)), by rw [xup2_n (by omega)]; exact h23', hr, ?_, ?_, ?_, ?_, ?_, ?_, ?_, ?_⟩
      · exact ⟨by rw [xup2_n (by omega)]; exact a4.1, a4.2.1, fun j hj => by rw [xup2_n (by omega)]; exact a4.2.2 j hj⟩
      · exact a5.ot (fun j => xup2_n (by omega)) (fun j => xup2_n (by omega)) (fun j => xup2_n (by omega))
      · rw [xup2_n (by omega), a3 _ _ (by omega), hg _ _ (by omega)]; exact h37
      · refine hL.add fF (Nat.le_refl _) ⟨?_, hT4, fun _ => ⟨?_, ?_, fun k hk => ?_⟩, fun h => ?_⟩ (xup2_s _ _ _ _) h8
        · rw [xup2_n (by omega)]; exact a6
        · rw [xup2_n (by omega)]; exact a7
        · rw [xup2_n (by omega)]; exact a9
        · rw [xup2_n (by omega), xup2_n (by omega)]; exact a8 k hk
        · exact absurd h (by show ¬ k = 3; omega)
      · exact a10.fr (xup2_n (by omega)) (fun a j _ _ => xup2_n (by omega))
      · rw [xup2_n (by omega), a3 _ _ (by omega), pAtoms_1]
        rcases hG1 with ⟨k1, e⟩ | ⟨k1, _, e⟩
        · rw [e, h24, if_neg (by show ¬ k = 1; omega)]
          rfl
        · rw [e, if_pos (by show k = 1; omega)]
          exact xup2_s _ _ _ _
      · rw [pAtoms_1]
        rcases hG1 with ⟨k1, e⟩ | ⟨k1, k3, e⟩
        · rw [if_neg (by show ¬ k = 1; omega)]; omega
        · rw [if_pos (by show k = 1; omega)]; omega
      · rw [xup2_n (by omega), a3 _ _ (by omega), hg _ _ (by omega)]; exact h25
/-- behind what compares -/
theorem l_lit_cmp {Q : pCd} {V' : List (Int × Nat)} {j pl : Nat} (hf : n + 20 < f) (hcb : cb + n + 3 ≤ 6200) (hF : 4 * (n + 1 - j) + 2 ≤ F) (hS : rRS G q B n lm o r c N V l M) (h8 : l.length < 8) (hV : V.length ≤ V'.length) (hfe : xfC o r (8 * r + l.length) V.length c G G') (h28 : G' (o + 28) (8 * r + l.length) = (c : Int)) (hX : rX G' q B n lm o r V' c Q 0) (hA : rAt q B n lm j L) (hc : c + Q.length ≤ cb + j) :
    pok (if isCs (kK (tstr B n lm) j) then pbind (pX (tstr B n lm) F 1 0 (V', [], j + 1)) fun b => .inr (N, b.1, l ++ [(3, kK (tstr B n lm) j, pl, [], Q, b.2.1)], M, b.2.2) else .inl (kS (tstr B n lm) j)) (fun w => ∃ G1 L', (g248 f ((8 * r + l.length : Nat) : Int) (xlx G' L)).bind (fun R => g247_261 f R) = some (xlx G1 L') ∧ L' 7 = (q : Int) + w ∧ xfl o r (8 * r + l.length) V.length c (min M.length 420) N.length G G1 ∧ rSb G1 o r)
      (fun s => ∃ G1 L' c', (g248 f ((8 * r + l.length : Nat) : Int) (xlx G' L)).bind (fun R => g247_261 f R) = some (xlx G1 L') ∧ rAt q B n lm s.2.2.2.2 L' ∧ xfl o r (8 * r + l.length) V.length c (min M.length 420) N.length G G1 ∧ rRS G1 q B n lm o r c' s.1 s.2.1 s.2.2.1 s.2.2.2.1 ∧ c ≤ c' ∧ c' ≤ cb + s.2.2.2.2) := by
  obtain ⟨hE, h23, hr, hN, hV0, h37, hL, hM, h24, ha3, h25⟩ := hS
  have ho := hE.2.2.2.2
  have h1 := l_cmp (f := f) (x := 8 * r + l.length) hf hcb (by omega) hF hX hA hc
  have key : ∀ G1, xfC o r (8 * r + l.length) V'.length (c + Q.length) G' G1 → 0 ≤ G1 (o + 20) r → G1 (o + 20) r ≤ 8 → rEv G1 q B n lm o ∧ G1 0 23 = (r : Int) ∧ G1 (o + 19) r = (l.length : Int) ∧ xfC o r (8 * r + l.length) V.length c G G1 := by
    intro G1 g1 g2 g3
    have g4 := hfe.tr g1 hV (by omega)
    exact ⟨hE.fC g4, by rw [g4 _ _ (by omega)]; exact h23, by rw [g4 _ _ (by omega)]; exact hL.1, g4⟩
  by_cases hcs : isCs (kK (tstr B n lm) j)
  · rw [if_pos hcs] at h1 ⊢
    cases hp : pX (tstr B n lm) F 1 0 (V', [], j + 1) with
    | inl w =>
      rw [hp] at h1
      obtain ⟨G1, L1, a1, a2, a3, a4, a5⟩ := h1
      obtain ⟨k1, k2, k3, k4⟩ := key G1 a3 a4 a5
      have hi := l_inc (f := f) (L := L1) k1 k2 hr k3 (by omega)
      refine ⟨_, L1, by rw [a1]; exact hi, a2, k4.fl.tr (xfl.up _ (by omega)) (Nat.le_refl _) (Nat.le_refl _) (Nat.le_refl _) (Nat.le_refl _) (Nat.le_refl _), ?_⟩
      unfold rSb
      rw [xup2_s, xup2_n (by omega), xup2_n (by omega), xup2_n (by omega), k4 o 14 (by omega), k4 o 8 (by omega), hM.1, hN.1]
      have := hN.2.1
      omega
    | inr b =>
      rw [hp] at h1
      obtain ⟨G1, L1, a1, a2, a3, a4, a5, a6, a7, a8, a9⟩ := h1
      have hle := pX_le F 1 0 (V', [], j + 1) b (by decide) hp
      simp only [List.length_nil] at hle
      obtain ⟨k1, k2, k3, k4⟩ := key G1 a3 (by rw [a4.2.2.2.1.1]; omega) (by rw [a4.2.2.2.1.1]; have := a4.2.2.2.1.2.1; omega)
      have hi := l_inc (f := f) (L := L1) k1 k2 hr k3 (by omega)
      have fF : xfl o r (8 * r + l.length) V.length c (min M.length 420) N.length G (xup2 G1 (o + 19) r ((l.length + 1 : Nat) : Int)) := k4.fl.tr (xfl.up _ (by omega)) (Nat.le_refl _) (Nat.le_refl _) (Nat.le_refl _) (Nat.le_refl _) (Nat.le_refl _)
      refine ⟨_, L1, c + Q.length + b.2.1.length, by rw [a1]; exact hi, a2, fF, ⟨k1.fl (xfl.up (r := r) (x := 8 * r + l.length) (v0 := 0) (c0 := 0) (m0 := 0) (n0 := 0) _ (by omega)), by rw [xup2_n (by omega)]; exact k2, hr, ?_, ?_, ?_, ?_, ?_, ?_, ?_, ?_⟩, by omega, by show c + Q.length + b.2.1.length ≤ cb + b.2.2; omega⟩
      · exact ⟨by rw [xup2_n (by omega), k4 _ _ (by omega)]; exact hN.1, hN.2.1, fun j hj => by rw [xup2_n (by omega), k4 _ _ (by omega)]; exact hN.2.2 j hj⟩
      · exact a4.2.2.2.1.ot (fun j => xup2_n (by omega)) (fun j => xup2_n (by omega)) (fun j => xup2_n (by omega))
      · rw [xup2_n (by omega)]; exact a4.2.2.2.2.1
      · refine hL.add fF (by omega) ⟨?_, by show 0 ≤ 4; omega, fun h => absurd rfl h, fun _ => ⟨?_, c, ?_, ?_, ?_, Nat.le_refl _, ?_, ?_⟩⟩ (xup2_s _ _ _ _) h8
        · rw [xup2_n (by omega)]; exact a5
        · rw [xup2_n (by omega)]; exact a6
        · rw [xup2_n (by omega), a7]; exact h28
        · rw [xup2_n (by omega)]; exact a8
        · rw [xup2_n (by omega)]; exact a9
        · intro j hj
          have hj' : j < Q.length := hj
          rw [xup2_n (by omega), xup2_n (by omega), a3 _ _ (by omega), a3 _ _ (by omega)]
          exact hX.2.2.2.2.2.1 j hj
        · intro j hj
          rw [xup2_n (by omega), xup2_n (by omega)]
          exact a4.2.2.2.2.2.1 j hj
      · exact hM.fr (by rw [xup2_n (by omega), k4 _ _ (by omega)]) (fun a j _ _ => by rw [xup2_n (by omega), k4 _ _ (by omega)])
      · rw [xup2_n (by omega), k4 _ _ (by omega), pAtoms_1, if_neg (show ¬ (3 : Int) = 1 by decide)]; exact h24
      · rw [pAtoms_1, if_neg (show ¬ (3 : Int) = 1 by decide)]; exact ha3
      · rw [xup2_n (by omega)]; exact a4.2.2.2.2.2.2
  · rw [if_neg hcs] at h1 ⊢
    obtain ⟨G1, L1, a1, a2, a3, a4, a5⟩ := h1
    obtain ⟨k1, k2, k3, k4⟩ := key G1 a3 a4 a5
    have hi := l_inc (f := f) (L := L1) k1 k2 hr k3 (by omega)
    refine ⟨_, L1, by rw [a1]; exact hi, a2, k4.fl.tr (xfl.up _ (by omega)) (Nat.le_refl _) (Nat.le_refl _) (Nat.le_refl _) (Nat.le_refl _) (Nat.le_refl _), ?_⟩
    unfold rSb
    rw [xup2_s, xup2_n (by omega), xup2_n (by omega), xup2_n (by omega), k4 o 14 (by omega), k4 o 8 (by omega), hM.1, hN.1]
    have := hN.2.1
    omega
end
end
section
/-! The reference reads LITERALS: all -/
theorem pbind_as {α β γ : Type} (x : Nat ⊕ α) (f : α → Nat ⊕ β) (g : β → Nat ⊕ γ) : pbind (pbind x f) g = pbind x (fun a => pbind (f a) g) := by
  cases x <;> rfl
theorem pbind_r {α β : Type} (a : α) (f : α → Nat ⊕ β) : pbind (.inr a) f = f a := rfl
theorem pAtom_e {t : tStr} {tell : Bool} {k : Int} {N : List Int} {V : List (Int × Nat)} {l : List pLt} {M : List pMn} {i : Nat} (hK : kK t i = 1) (h12 : ¬ 12 < kE t i - kS t i) :
    pAtom t tell k (N, V, l, M, i) = pbind (pP tell N (kC t i) (kS t i)) fun p => pbind (pA48 t V (i + 1)) fun z => .inr (p.2, z.2.1, l ++ [(k, p.1, kS t i, z.1, [], [])], M ++ [(p.1, kS t i, (z.1.length : Int), 4)], z.2.2) := by
  have e1 : pName t i = .inr (kC t i, i + 1) := by unfold pName; rw [if_neg (fun h => h hK), if_neg h12]
  unfold pAtom pA48 pP
  simp only [pbind_as, pbind_r]
  by_cases ht : tell = true
  · rw [if_pos ht, if_pos ht]
    unfold pPred
    simp only [e1, pbind_r]
    by_cases c1 : pIdx N (kC t i) = -1
    · rw [if_pos c1, if_pos c1]
      by_cases c2 : N.length = 16
      · rw [if_pos c2, if_pos c2]
        rfl
      · rw [if_neg c2, if_neg c2]
        rfl
    · rw [if_neg c1, if_neg c1]
      rfl
  · rw [if_neg ht, if_neg ht]
    simp only [e1, pbind_r]
theorem pAtom_w {t : tStr} {tell : Bool} {k : Int} {N : List Int} {V : List (Int × Nat)} {l : List pLt} {M : List pMn} {i w : Nat} (h : pName t i = .inl w) : pAtom t tell k (N, V, l, M, i) = .inl w := by
  unfold pAtom
  by_cases ht : tell = true
  · rw [if_pos ht]
    unfold pPred
    simp only [h]
    rfl
  · rw [if_neg ht]
    simp only [h]
    rfl
section
variable {f q n o r i c cb F : Nat} {B : Nat → Int} {lm tell : Bool} {G : xG_} {L : Nat → Int} {N : List Int} {V : List (Int × Nat)} {l : List pLt} {M : List pMn}
theorem l_lit_bad (h : L 7 ≠ -1) : g247 f (xlx G L) = some (xlx G L) := by
  unfold g247
  rw [l_bad, if_neg h]
  simp only [Option.bind_some]
  rw [if_neg (by decide)]
theorem l_lit_e (hS : rRS G q B n lm o r c N V l M) (hA : rAt q B n lm i L) : g247 f (xlx G L) = if l.length = 8 then some (xlx G (xu L 7 (L 4))) else
    if kK (tstr B n lm) i = 9 then ((g213 f (xlx G L)).bind fun R202 => ((g226 f R202).bind fun R207 => (if ¬ (R207.1) = 0 then ((g213 f R207.2).bind fun R213 => ((g249 f ((8 * r + l.length : Nat) : Int) (2) (R207.2 (0) 9) (R207.2 (0) 4) R213).bind fun R218 => g247_261 f R218)) else ((g210 f (R207.2 (0) 4) R207.2).bind fun R223 => (some R223)))))
    else if kK (tstr B n lm) i = 1 then ((g213 f (xlx G L)).bind fun R157 => ((g220 f (40) R157).bind fun R162 => (if (R162.1) = 0 then (if ¬ (L 10) = (-1) then (if R162.2 0 22 < 0 then none else (if R162.2 0 22 < 0 then none else (if 0 ≤ ((8 * r + l.length : Nat) : Int) ∧ ((8 * r + l.length : Nat) : Int) < 200 then ((g240 f (1) (L 10) (xup2 R162.2 ((R162.2 0 22).toNat + 28) (8 * r + l.length) (R162.2 ((R162.2 0 22).toNat) 37))).bind fun R176 => ((g244 (g243r f 8) f R176).bind fun R181 => ((g248 f ((8 * r + l.length : Nat) : Int) R181).bind fun R186 => g247_261 f R186))) else none))) else ((g210 f (R162.2 (0) 4) R162.2).bind fun R191 => g247_261 f R191)) else (if ¬ (R162.2 (0) 24) = (3) then g247_160 f ((8 * r + l.length : Nat) : Int) (L 4) (L 9) R162.2 else ((g210 f (L 4) R162.2).bind fun R197 => g247_160 f ((8 * r + l.length : Nat) : Int) (L 4) (L 9) R197)))))
    else ((g243 f (xlx (xup2 G (o + 28) (8 * r + l.length) (c : Int)) L)).bind fun R147 => ((g248 f ((8 * r + l.length : Nat) : Int) R147).bind fun R152 => g247_261 f R152)) := by
  obtain ⟨hE, h23, hr, hN, hV, h37, hL, hM, h24, ha3, h25⟩ := hS
  have h22 := hE.2.2.2.1
  have ho := hE.2.2.2.2
  have hl8 := hL.2.1
  have ex : xwr (xwr ((r : Int) * 8) + (l.length : Int)) = ((8 * r + l.length : Nat) : Int) := by rw [xwr_g ((r : Int) * 8) (by omega) (by omega), xwr_g _ (by omega) (by omega)]; omega
  unfold g247
  rw [l_bad, if_pos hA.1]
  simp only [Option.bind_some]
  rw [if_pos trivial, xlx_o _ _ (by omega), h22, if_neg (by omega), xlx_o _ _ (by omega), h23, if_pos (by omega), Int.toNat_natCast, Int.toNat_natCast, xlx_o _ _ (by omega), hL.1]
  by_cases c8 : l.length = 8
  · rw [if_neg (by omega), if_pos c8, xlx_4, l_fail, if_pos hA.1]
    rfl
  · rw [if_pos (by omega), if_neg c8, if_neg (by omega), if_pos (by omega), ex, xlx_o _ _ (by omega), hE.2.2.1.2.2.2.1, hA.isword hE (c := 20806) (k := 9) rfl (fun x h => tres_inv.2.2.2.1 h) (by decide)]
    simp only [Option.bind_some, i10]
    by_cases c9 : kK (tstr B n lm) i = 9
    · rw [if_neg (fun h => h c9), if_pos c9]
    · rw [if_pos c9, if_neg c9, hA.isname hE]
      simp only [Option.bind_some, i10]
      by_cases c1 : kK (tstr B n lm) i = 1
      · rw [if_neg (fun h => h c1), if_pos c1]
        rfl
      · rw [if_pos c1, if_neg c1, xlx_o _ _ (by omega), h22, if_neg (by omega), if_neg (by omega), if_pos (by omega), Int.toNat_natCast, Int.toNat_natCast, xlx_o _ _ (by omega), h37, xlx_upo _ _ _ (by omega)]
theorem l_160_bad {x y : Int} {L : Nat → Int} (hf : 20 < f) (hS : rRS G q B n lm o r c N V l M) (h8 : l.length < 8) (h : L 7 ≠ -1) (ha : G 0 24 = 3) : ∃ G', g247_160 f ((8 * r + l.length : Nat) : Int) x y (xlx G L) = some (xlx G' L) ∧ xfl o r (8 * r + l.length) V.length c (min M.length 420) N.length G G' ∧ rSb G' o r := by
  obtain ⟨hE, h23, hr, hN, hV, h37, hL, hM, h24, ha3, h25⟩ := hS
  have ho := hE.2.2.2.2
  have f1 : xfl o r (8 * r + l.length) V.length c (min M.length 420) N.length G (xup2 G 0 24 4) := xfl.up _ (by omega)
  have hN1 : rNs (xup2 G 0 24 4) o N := ⟨by rw [xup2_n (by omega)]; exact hN.1, hN.2.1, fun j hj => by rw [xup2_n (by omega)]; exact hN.2.2 j hj⟩
  obtain ⟨p, e⟩ := l_atom_bad (f := f) (x := 8 * r + l.length) (k := 1) (y := y) (a := x) (L := L) hf (hE.fl f1) (by rw [xup2_n (by omega)]; exact h23) hr hN1 h (by omega)
  have f2 : xfl o r (8 * r + l.length) V.length c (min M.length 420) N.length G (xup2 (xup2 (xup2 (xup2 G 0 24 4) (o + 25) (8 * r + l.length) 1) (o + 26) (8 * r + l.length) p) (o + 27) (8 * r + l.length) 1) := ((f1.tr (xfl.up _ (by omega)) (Nat.le_refl _) (Nat.le_refl _) (Nat.le_refl _) (Nat.le_refl _) (Nat.le_refl _)).tr (xfl.up _ (by omega)) (Nat.le_refl _) (Nat.le_refl _) (Nat.le_refl _) (Nat.le_refl _) (Nat.le_refl _)).tr (xfl.up _ (by omega)) (Nat.le_refl _) (Nat.le_refl _) (Nat.le_refl _) (Nat.le_refl _) (Nat.le_refl _)
  have e19 : ∀ v : Nat, v ≤ 24 → xup2 (xup2 (xup2 (xup2 G 0 24 4) (o + 25) (8 * r + l.length) 1) (o + 26) (8 * r + l.length) p) (o + 27) (8 * r + l.length) 1 (o + v) r = G (o + v) r ∨ 25 ≤ v := by
    intro v hv
    left
    rw [xup2_n (by omega), xup2_n (by omega), xup2_n (by omega), xup2_n (by omega)]
  have hi := l_inc (f := f) (L := L) (m := l.length) (hE.fl f2) (by rw [xup2_n (by omega), xup2_n (by omega), xup2_n (by omega), xup2_n (by omega)]; exact h23) hr (by rw [xup2_n (by omega), xup2_n (by omega), xup2_n (by omega), xup2_n (by omega)]; exact hL.1) (by omega)
  refine ⟨xup2 (xup2 (xup2 (xup2 (xup2 G 0 24 4) (o + 25) (8 * r + l.length) 1) (o + 26) (8 * r + l.length) p) (o + 27) (8 * r + l.length) 1) (o + 19) r ((l.length + 1 : Nat) : Int), ?_, f2.tr (xfl.up _ (by omega)) (Nat.le_refl _) (Nat.le_refl _) (Nat.le_refl _) (Nat.le_refl _) (Nat.le_refl _), ?_⟩
  · unfold g247_160 g247_233
    rw [xlx_o _ _ (by omega), ha, xwr_g _ (by decide) (by decide), xlx_upo _ _ _ (by omega)]
    simp only [Option.bind_some]
    rw [show (3 : Int) + 1 = 4 from rfl, e]
    exact hi
  · unfold rSb
    rw [xup2_s, xup2_n (by omega), xup2_n (by omega), xup2_n (by omega), xup2_n (by omega), xup2_n (by omega), xup2_n (by omega), xup2_n (by omega), xup2_n (by omega), xup2_n (by omega), xup2_n (by omega), xup2_n (by omega), xup2_n (by omega), xup2_n (by omega), xup2_n (by omega), xup2_n (by omega), hV.1, hM.1, hN.1]
    have := hV.2.1
    have := hN.2.1
    omega
/-- what reading of a LITERAL (or of LITERALS) does -/
def rLP (f q : Nat) (B : Nat → Int) (n : Nat) (lm : Bool) (o r cb : Nat) (G : xG_) (L : Nat → Int) (c : Nat) (N : List Int) (V : List (Int × Nat)) (l : List pLt) (M : List pMn) (e : xG_ → Option xG_) (p : Nat ⊕ pRs) : Prop :=
  pok p (fun w => ∃ G' L', e (xlx G L) = some (xlx G' L') ∧ L' 7 = (q : Int) + w ∧ xfl o r (8 * r + l.length) V.length c (min M.length 420) N.length G G' ∧ rSb G' o r)
    (fun s => ∃ G' L' c', e (xlx G L) = some (xlx G' L') ∧ rAt q B n lm s.2.2.2.2 L' ∧ xfl o r (8 * r + l.length) V.length c (min M.length 420) N.length G G' ∧ rRS G' q B n lm o r c' s.1 s.2.1 s.2.2.1 s.2.2.2.1 ∧ c ≤ c' ∧ c' ≤ cb + s.2.2.2.2)
/-- WRONG, and the LITERAL is counted all the same -/
theorem l_lit_w {e : xG_ → Option xG_} {w : Nat} {L' : Nat → Int} (hS : rRS G q B n lm o r c N V l M) (h8 : l.length < 8) (h : e (xlx G L) = g247_261 f (xlx G L')) (hw : L' 7 = (q : Int) + w) : rLP f q B n lm o r cb G L c N V l M e (.inl w) := by
  obtain ⟨hE, h23, hr, hN, hV, h37, hL, hM, h24, ha3, h25⟩ := hS
  have ho := hE.2.2.2.2
  have hi := l_inc (f := f) (L := L') hE h23 hr hL.1 (by omega)
  refine ⟨xup2 G (o + 19) r ((l.length + 1 : Nat) : Int), L', by rw [h]; exact hi, hw, xfl.up _ (by omega), ?_⟩
  unfold rSb
  rw [xup2_s, xup2_n (by omega), xup2_n (by omega), xup2_n (by omega), hV.1, hM.1, hN.1]
  have := hV.2.1
  have := hN.2.1
  omega
theorem rLP.eq {e e' : xG_ → Option xG_} {p : Nat ⊕ pRs} (h : rLP f q B n lm o r cb G L c N V l M e' p) (he : e (xlx G L) = e' (xlx G L)) : rLP f q B n lm o r cb G L c N V l M e p := by
  unfold rLP at *
  rw [he]
  exact h
theorem rSb.st (hS : rRS G q B n lm o r c N V l M) : rSb G o r := by
  obtain ⟨hE, h23, hr, hN, hV, h37, hL, hM, h24, ha3, h25⟩ := hS
  exact rSb.of hN hV hM hL.1 hL.2.1
theorem pA48_le {t : tStr} {V : List (Int × Nat)} {i : Nat} {z : pCd × List (Int × Nat) × Nat} (h : pA48 t V i = .inr z) : i < z.2.2 := by
  unfold pA48 at h
  obtain ⟨a1, q1, q2⟩ := pbind_inr h
  obtain ⟨a2, q3, q4⟩ := pbind_inr q2
  obtain ⟨a3, q5, q6⟩ := pbind_inr q4
  obtain ⟨a4, q7, q8⟩ := pbind_inr q6
  have h1 := pNeed_le q1
  have h2 := pTerm_le q3
  have h3 := pTerms_le q5
  have h4 := pNeed_le q7
  cases q8
  simp only
  omega
theorem rLP_atom {k y : Int} {pl j : Nat} {L1 : Nat → Int} (hf : n + 20 < f) (htell : tell = true ↔ r ≠ 24) (hS : rRS G q B n lm o r c N V l M) (h8 : l.length < 8) (G1 : xG_) (hG1 : k = 2 ∧ G1 = G ∨ k = 1 ∧ pAtoms l < 3 ∧ G1 = xup2 G 0 24 ((pAtoms l + 1 : Nat) : Int)) (hA : rAt q B n lm j L1) (hc : c ≤ cb + j) (he : g247 f (xlx G L) = (g249 f ((8 * r + l.length : Nat) : Int) k y ((q : Int) + pl) (xlx G1 L1)).bind (fun R => g247_261 f R)) :
    rLP f q B n lm o r cb G L c N V l M (g247 f) (pbind (pP tell N y pl) fun p => pbind (pA48 (tstr B n lm) V j) fun z => .inr (p.2, z.2.1, l ++ [(k, p.1, pl, z.1, [], [])], M ++ [(p.1, pl, (z.1.length : Int), 4)], z.2.2)) := by
  have h1 := l_lit_atom (f := f) (pl := pl) (y := y) (k := k) hf htell hS h8 G1 hG1 hA
  rw [← he] at h1
  unfold rLP
  cases hp : (pbind (pP tell N y pl) fun p => pbind (pA48 (tstr B n lm) V j) fun z => (.inr (p.2, z.2.1, l ++ [(k, p.1, pl, z.1, [], [])], M ++ [(p.1, pl, (z.1.length : Int), 4)], z.2.2) : Nat ⊕ pRs)) with
  | inl w =>
    rw [hp] at h1
    exact h1
  | inr s =>
    rw [hp] at h1
    obtain ⟨G', L', a1, a2, a3, a4⟩ := h1
    obtain ⟨p, _, q2⟩ := pbind_inr hp
    obtain ⟨z, q3, q4⟩ := pbind_inr q2
    have hz := pA48_le q3
    refine ⟨G', L', c, a1, a2, a3, a4, Nat.le_refl _, ?_⟩
    cases q4
    simp only
    omega
/-- not ATOM -/
theorem l_lit_not (hf : n + 20 < f) (htell : tell = true ↔ r ≠ 24) (hS : rRS G q B n lm o r c N V l M) (hA : rAt q B n lm i L) (hc : c ≤ cb + i) (h8 : l.length < 8) (hK : kK (tstr B n lm) i = 9) : rLP f q B n lm o r cb G L c N V l M (g247 f) (pAtom (tstr B n lm) tell 2 (N, V, l, M, i + 1)) := by
  have hE := hS.1
  have e0 := l_lit_e (f := f) hS hA
  rw [if_neg (by omega), if_pos hK] at e0
  obtain ⟨L1, p1, p2⟩ := hA.wd (f := f) hf hE (by omega)
  rw [p1] at e0
  simp only [Option.bind_some] at e0
  rw [p2.isname hE] at e0
  simp only [Option.bind_some, i10, Classical.not_not] at e0
  by_cases c1 : kK (tstr B n lm) (i + 1) = 1
  · have hnm := p2.nm hE c1
    rw [if_pos c1, xlx_9, xlx_4, hnm.1, p2.at4 hE] at e0
    by_cases c2 : 12 < kE (tstr B n lm) (i + 1) - kS (tstr B n lm) (i + 1)
    · have e1 : pName (tstr B n lm) (i + 1) = .inl (kS (tstr B n lm) (i + 1) + 12) := by unfold pName; rw [if_neg (fun h => h c1), if_pos c2]
      rw [pAtom_w e1]
      rw [if_pos c2] at hnm
      rw [l_pass_wr p2.1 (by omega)] at e0
      simp only [Option.bind_some] at e0
      obtain ⟨hE', h23, hr, hN, hV, h37, hL, hM, h24, ha3, h25⟩ := hS
      have ho := hE.2.2.2.2
      have hbad : xu L1 7 (L1 6) 7 ≠ -1 := by show L1 6 ≠ -1; omega
      obtain ⟨p, e2⟩ := l_atom_bad (f := f) (x := 8 * r + l.length) (k := 2) (y := kC (tstr B n lm) (i + 1)) (a := (q : Int) + kS (tstr B n lm) (i + 1)) (by omega) hE h23 hr hN hbad (by omega)
      rw [e2] at e0
      simp only [Option.bind_some] at e0
      have f2 : xfl o r (8 * r + l.length) V.length c (min M.length 420) N.length G (xup2 (xup2 (xup2 G (o + 25) (8 * r + l.length) 2) (o + 26) (8 * r + l.length) p) (o + 27) (8 * r + l.length) 1) := ((xfl.up _ (by omega)).tr (xfl.up _ (by omega)) (Nat.le_refl _) (Nat.le_refl _) (Nat.le_refl _) (Nat.le_refl _) (Nat.le_refl _)).tr (xfl.up _ (by omega)) (Nat.le_refl _) (Nat.le_refl _) (Nat.le_refl _) (Nat.le_refl _) (Nat.le_refl _)
      have hi := l_inc (f := f) (L := xu L1 7 (L1 6)) (m := l.length) (hE.fl f2) (by rw [xup2_n (by omega), xup2_n (by omega), xup2_n (by omega)]; exact h23) hr (by rw [xup2_n (by omega), xup2_n (by omega), xup2_n (by omega)]; exact hL.1) (by omega)
      refine ⟨xup2 (xup2 (xup2 (xup2 G (o + 25) (8 * r + l.length) 2) (o + 26) (8 * r + l.length) p) (o + 27) (8 * r + l.length) 1) (o + 19) r ((l.length + 1 : Nat) : Int), _, by rw [e0]; exact hi, by show L1 6 = _; rw [hnm.2.2]; omega, f2.tr (xfl.up _ (by omega)) (Nat.le_refl _) (Nat.le_refl _) (Nat.le_refl _) (Nat.le_refl _) (Nat.le_refl _), ?_⟩
      unfold rSb
      rw [xup2_s, xup2_n (by omega), xup2_n (by omega), xup2_n (by omega), xup2_n (by omega), xup2_n (by omega), xup2_n (by omega), xup2_n (by omega), xup2_n (by omega), xup2_n (by omega), xup2_n (by omega), xup2_n (by omega), xup2_n (by omega), hV.1, hM.1, hN.1]
      have := hV.2.1
      have := hN.2.1
      omega
    · rw [pAtom_e c1 c2]
      rw [if_neg c2] at hnm
      obtain ⟨L2, p3, p4⟩ := l_pass hf hE p2 hnm.2.2 (by omega) (by omega)
      rw [p3] at e0
      simp only [Option.bind_some] at e0
      exact rLP_atom hf htell hS h8 G (.inl ⟨rfl, rfl⟩) p4 (by omega) e0
  · have e1 : pName (tstr B n lm) (i + 1) = .inl (kS (tstr B n lm) (i + 1)) := by unfold pName; rw [if_pos c1]
    rw [pAtom_w e1]
    rw [if_neg c1, xlx_4, l_fail, if_pos p2.1] at e0
    exact ⟨G, xu L1 7 (L1 4), e0, p2.at4 hE, .rf _ _ _ _ _ _ _ _, rSb.st hS⟩
/-- what begins with a NAME and is an ATOM, or WRONG -/
theorem l_lit_nm (hf : n + 20 < f) (htell : tell = true ↔ r ≠ 24) (hS : rRS G q B n lm o r c N V l M) (hA : rAt q B n lm i L) (hc : c ≤ cb + i) (h8 : l.length < 8) (hK : kK (tstr B n lm) i = 1) (hn : 12 < kE (tstr B n lm) i - kS (tstr B n lm) i ∨ kK (tstr B n lm) (i + 1) = 40 ∨ kW (tstr B n lm) i = -1) :
    rLP f q B n lm o r cb G L c N V l M (g247 f) (if 12 < kE (tstr B n lm) i - kS (tstr B n lm) i then .inl (kS (tstr B n lm) i + 12)
     else if kK (tstr B n lm) (i + 1) = 40 then (if pAtoms l = 3 then .inl (kS (tstr B n lm) i) else pAtom (tstr B n lm) tell 1 (N, V, l, M, i)) else .inl (kS (tstr B n lm) (i + 1))) := by
  have hE := hS.1
  have e0 := l_lit_e (f := f) hS hA
  rw [if_neg (by omega), if_neg (by omega), if_pos hK] at e0
  have hnm := hA.nm hE hK
  have h4 := hA.at4 hE
  have ho := hE.2.2.2.2
  by_cases c2 : 12 < kE (tstr B n lm) i - kS (tstr B n lm) i
  · rw [if_pos c2]
    rw [if_pos c2] at hnm
    have hw : kW (tstr B n lm) i = -1 := Classical.byContradiction fun h => by have := tok_word hE.1.2.1 hK h; omega
    have hbad : xu L 7 (L 6) 7 ≠ -1 := by show L 6 ≠ -1; omega
    rw [l_pass_wr hA.1 (by omega)] at e0
    simp only [Option.bind_some] at e0
    rw [l_sign, if_neg (fun h => hbad h.1)] at e0
    simp only [Option.bind_some] at e0
    rw [if_pos trivial, hnm.2.1, hw, if_neg (fun h => h rfl), l_fail, if_neg hbad] at e0
    exact l_lit_w hS h8 e0 (by show L 6 = _; rw [hnm.2.2]; omega)
  · rw [if_neg c2]
    rw [if_neg c2] at hnm
    obtain ⟨L1, p1, p2⟩ := l_pass hf hE hA hnm.2.2 (by omega) (by omega)
    rw [p1] at e0
    simp only [Option.bind_some] at e0
    rw [show (40 : Int) = rsc 40 from rfl, p2.issign hE (c := 40) (by unfold isSg; omega)] at e0
    simp only [Option.bind_some, i10] at e0
    by_cases c3 : kK (tstr B n lm) (i + 1) = 40
    · rw [if_pos c3]
      rw [if_neg (fun h => h c3), xlx_o _ _ (by omega), hS.2.2.2.2.2.2.2.2.1] at e0
      by_cases c4 : pAtoms l = 3
      · rw [if_pos c4]
        rw [if_neg (by omega), l_fail, if_pos p2.1] at e0
        simp only [Option.bind_some] at e0
        have hbad : xu L1 7 (L 4) 7 ≠ -1 := by show L 4 ≠ -1; omega
        obtain ⟨G', d1, d2, d3⟩ := l_160_bad (f := f) (x := L 4) (y := L 9) (L := xu L1 7 (L 4)) (by omega) hS h8 hbad (by rw [hS.2.2.2.2.2.2.2.2.1, c4]; rfl)
        exact ⟨G', _, by rw [e0]; exact d1, h4, d2, d3⟩
      · rw [if_neg c4, pAtom_e hK c2]
        rw [if_pos (by omega)] at e0
        have ha3 := hS.2.2.2.2.2.2.2.2.2.1
        refine rLP_atom hf htell hS h8 (xup2 G 0 24 ((pAtoms l + 1 : Nat) : Int)) (.inr ⟨rfl, by omega, rfl⟩) p2 (by omega) ?_
        rw [e0]
        unfold g247_160
        rw [xlx_o _ _ (by omega), hS.2.2.2.2.2.2.2.2.1, xwr_g _ (by omega) (by omega), xlx_upo _ _ _ (by omega), h4, hnm.1]
        rfl
    · rw [if_neg c3]
      have hw : kW (tstr B n lm) i = -1 := by
        rcases hn with h | h | h
        · exact absurd h c2
        · exact absurd h c3
        · exact h
      rw [if_pos c3, hnm.2.1, hw, if_neg (fun h => h rfl), xlx_4, l_fail, if_pos p2.1] at e0
      exact l_lit_w hS h8 e0 (p2.at4 hE)
/-- what compares, from its first sign on -/
theorem l_lit_c {x0 : xG_} {L1 : Nat → Int} {V0 : List (Int × Nat)} {Q0 : pCd} {i0 m F0 : Nat} {fn : xG_ → Option xG_} (hf : n + 20 < f) (hcb : cb + n + 3 ≤ 6200) (hF : 4 * (n + 1 - i) + 2 ≤ F) (hS : rRS G q B n lm o r c N V l M) (h8 : l.length < 8) (hi : i ≤ i0)
    (hx : xfC o r (8 * r + l.length) V.length c G x0) (h28 : x0 (o + 28) (8 * r + l.length) = (c : Int)) (hV0 : V.length ≤ V0.length) (hm : m ≤ 4)
    (h1 : pok (pX (tstr B n lm) F0 m 0 (V0, Q0, i0)) (fun w => ∃ G' L', fn (xlx x0 L1) = some (xlx G' L') ∧ L' 7 = (q : Int) + w ∧ xfe o r V0.length (c + Q0.length) x0 G' ∧ 0 ≤ G' (o + 20) r ∧ G' (o + 20) r ≤ 8)
      (fun x => ∃ G' L', fn (xlx x0 L1) = some (xlx G' L') ∧ rAt q B n lm x.2.2 L' ∧ xfe o r V0.length (c + Q0.length) x0 G' ∧ rX G' q B n lm o r x.1 c x.2.1 0)) (hQ0 : c + Q0.length ≤ cb + i0)
    (he : g247 f (xlx G L) = (fn (xlx x0 L1)).bind fun R181 => (g248 f ((8 * r + l.length : Nat) : Int) R181).bind fun R186 => g247_261 f R186) (hp0 : pX (tstr B n lm) F 1 0 (V, [], i) = pX (tstr B n lm) F0 m 0 (V0, Q0, i0)) :
    rLP f q B n lm o r cb G L c N V l M (g247 f) (pCmp (tstr B n lm) F (N, V, l, M, i)) := by
  have hE := hS.1
  have ho := hE.2.2.2.2
  unfold pCmp
  show rLP f q B n lm o r cb G L c N V l M (g247 f) (pbind (pX (tstr B n lm) F 1 0 (V, [], i)) _)
  rw [hp0]
  cases hp : pX (tstr B n lm) F0 m 0 (V0, Q0, i0) with
  | inl w =>
    rw [hp] at h1
    obtain ⟨G1, L2, a1, a2, a3, a4, a5⟩ := h1
    have hbad : L2 7 ≠ -1 := by omega
    have f1 : xfC o r (8 * r + l.length) V.length c G G1 := hx.tr a3.fC hV0 (by omega)
    obtain ⟨hE', h23, hr, hN, hV, h37, hL, hM, h24, ha3, h25⟩ := hS
    obtain ⟨v, e2⟩ := l_cmp_bad (f := f) (x := 8 * r + l.length) (L := L2) (hE.fC f1) (by omega) hbad
    have f2 : xfC o r (8 * r + l.length) V.length c G (xup2 (xup2 G1 (o + 25) (8 * r + l.length) 3) (o + 29) (8 * r + l.length) v) := (f1.tr (xfC.up _ (by omega)) (Nat.le_refl _) (Nat.le_refl _)).tr (xfC.up _ (by omega)) (Nat.le_refl _) (Nat.le_refl _)
    have hi := l_inc (f := f) (L := L2) (m := l.length) (hE.fC f2) (by rw [f2 _ _ (by omega)]; exact h23) hr (by rw [f2 _ _ (by omega)]; exact hL.1) (by omega)
    refine ⟨xup2 (xup2 (xup2 G1 (o + 25) (8 * r + l.length) 3) (o + 29) (8 * r + l.length) v) (o + 19) r ((l.length + 1 : Nat) : Int), L2, ?_, a2, f2.fl.tr (xfl.up _ (by omega)) (Nat.le_refl _) (Nat.le_refl _) (Nat.le_refl _) (Nat.le_refl _) (Nat.le_refl _), ?_⟩
    · rw [he, a1]
      simp only [Option.bind_some]
      rw [e2]
      exact hi
    · unfold rSb
      simp (disch := omega) only [xup2_s, xup2_n]
      rw [f1 o 14 (by omega), f1 o 8 (by omega), hM.1, hN.1]
      have := hN.2.1
      omega
  | inr a =>
    rw [hp] at h1
    obtain ⟨G1, L2, a1, a2, a3, a4⟩ := h1
    have hle := pX_le F0 m 0 (V0, Q0, i0) a hm hp
    simp only at hle
    have f1 : xfC o r (8 * r + l.length) V.length c G G1 := hx.tr a3.fC hV0 (by omega)
    have h2 := l_lit_cmp (f := f) (F := F) (pl := kS (tstr B n lm) i) (L := L2) hf hcb (show 4 * (n + 1 - a.2.2) + 2 ≤ F by omega) hS h8 (show V.length ≤ a.1.length by omega) f1 (by rw [a3 _ _ (by omega)]; exact h28) a4 a2 (by omega)
    have he2 : g247 f (xlx G L) = (g248 f ((8 * r + l.length : Nat) : Int) (xlx G1 L2)).bind (fun R => g247_261 f R) := by
      rw [he, a1]
      rfl
    rw [← he2] at h2
    exact h2
end
end
section
/-! The reference reads LITERALS: one by one -/
section
variable {f q n o r cb F : Nat} {B : Nat → Int} {lm tell : Bool}
theorem l_lit {i c : Nat} {G : xG_} {L : Nat → Int} {N : List Int} {V : List (Int × Nat)} {l : List pLt} {M : List pMn} (hf : n + 20 < f) (hcb : cb + n + 3 ≤ 6200) (htell : tell = true ↔ r ≠ 24) (hF : 4 * (n + 1 - i) + 4 ≤ F) (hS : rRS G q B n lm o r c N V l M) (hA : rAt q B n lm i L) (hc : c ≤ cb + i) :
    rLP f q B n lm o r cb G L c N V l M (g247 f) (pLit (tstr B n lm) tell F (N, V, l, M, i)) := by
  have hE := hS.1
  have ho := hE.2.2.2.2
  have hl8 := hS.2.2.2.2.2.2.1.2.1
  have hin := hA.le hE.1.2.1
  have h4 := hA.at4 hE
  unfold pLit
  by_cases c8 : l.length = 8
  · rw [if_pos c8]
    have e0 := l_lit_e (f := f) hS hA
    rw [if_pos c8] at e0
    exact ⟨G, xu L 7 (L 4), e0, h4, .rf _ _ _ _ _ _ _ _, rSb.st hS⟩
  rw [if_neg c8]
  have h8 : l.length < 8 := by omega
  show rLP f q B n lm o r cb G L c N V l M (g247 f) (if kK (tstr B n lm) i = 9 then _ else if kK (tstr B n lm) i = 1 then _ else _)
  by_cases c9 : kK (tstr B n lm) i = 9
  · rw [if_pos c9]
    exact l_lit_not hf htell hS hA hc h8 c9
  rw [if_neg c9]
  have f0 : xfC o r (8 * r + l.length) V.length c G (xup2 G (o + 28) (8 * r + l.length) (c : Int)) := xfC.up _ (by omega)
  have hX0 : rX (xup2 G (o + 28) (8 * r + l.length) (c : Int)) q B n lm o r V c [] 0 := by
    obtain ⟨hE', h23, hr, hN, hV, h37, hL, hM, h24, ha3, h25⟩ := hS
    exact ⟨hE.fC f0, by rw [xup2_n (by omega)]; exact h23, hr, hV.ot (fun j => xup2_n (by omega)) (fun j => xup2_n (by omega)) (fun j => xup2_n (by omega)), by rw [xup2_n (by omega)]; exact h37, fun j hj => absurd hj (by simp), by rw [xup2_n (by omega)]; exact h25⟩
  by_cases c1 : kK (tstr B n lm) i = 1
  · rw [if_pos c1]
    show rLP f q B n lm o r cb G L c N V l M (g247 f) (if 12 < kE (tstr B n lm) i - kS (tstr B n lm) i then .inl (kS (tstr B n lm) i + 12)
      else if kK (tstr B n lm) (i + 1) = 40 then (if pAtoms l = 3 then .inl (kS (tstr B n lm) i) else pAtom (tstr B n lm) tell 1 (N, V, l, M, i)) else if kW (tstr B n lm) i = -1 then .inl (kS (tstr B n lm) (i + 1)) else pCmp (tstr B n lm) F (N, V, l, M, i))
    by_cases cn : 12 < kE (tstr B n lm) i - kS (tstr B n lm) i ∨ kK (tstr B n lm) (i + 1) = 40 ∨ kW (tstr B n lm) i = -1
    · have h1 := l_lit_nm hf htell hS hA hc h8 c1 cn
      by_cases d1 : 12 < kE (tstr B n lm) i - kS (tstr B n lm) i
      · rw [if_pos d1] at h1 ⊢
        exact h1
      · rw [if_neg d1] at h1 ⊢
        by_cases d2 : kK (tstr B n lm) (i + 1) = 40
        · rw [if_pos d2] at h1 ⊢
          exact h1
        · rw [if_neg d2] at h1 ⊢
          rw [if_pos (by rcases cn with h | h | h; exact absurd h d1; exact absurd h d2; exact h)]
          exact h1
    · have d1 : ¬ 12 < kE (tstr B n lm) i - kS (tstr B n lm) i := fun h => cn (.inl h)
      have d2 : ¬ kK (tstr B n lm) (i + 1) = 40 := fun h => cn (.inr (.inl h))
      have d3 : ¬ kW (tstr B n lm) i = -1 := fun h => cn (.inr (.inr h))
      rw [if_neg d1, if_neg d2, if_neg d3]
      have hnm := hA.nm hE c1
      rw [if_neg d1] at hnm
      obtain ⟨L1, p1, p2⟩ := l_pass hf hE hA hnm.2.2 (by omega) (by omega)
      have e0 := l_lit_e (f := f) hS hA
      rw [if_neg c8, if_neg c9, if_pos c1, p1] at e0
      simp only [Option.bind_some] at e0
      rw [show (40 : Int) = rsc 40 from rfl, p2.issign hE (c := 40) (by unfold isSg; omega)] at e0
      simp only [Option.bind_some, i10] at e0
      have hr := hS.2.2.1
      rw [if_pos d2, hnm.2.1, if_pos d3, xlx_o _ _ (by omega), hE.2.2.2.1, if_neg (by omega), if_neg (by omega), if_pos (by omega), Int.toNat_natCast, xlx_o _ _ (by omega), hS.2.2.2.2.2.1, xlx_upo _ _ _ (by omega), l_put hX0.1 p2.1 (c := c) hX0.2.2.2.2.1 (by omega)] at e0
      simp only [Option.bind_some] at e0
      have hX1 := hX0.put 1 (kW (tstr B n lm) i)
      have hX1' : rX (rPut (xup2 G (o + 28) (8 * r + l.length) (c : Int)) o c 1 (kW (tstr B n lm) i)) q B n lm o r V c [(1, kW (tstr B n lm) i)] 0 := hX1
      obtain ⟨F', rfl⟩ : ∃ t, F = t + 2 := ⟨F - 2, by omega⟩
      have hbd : ∀ d, rXB (g243r f (d + 1)) := by
        intro d
        induction d with
        | zero =>
          intro G L hC h
          show g243b (g243r f 0) f _ = _
          unfold g243b g241 g241_101
          simp only [xlx_2, xlx_3, xlx_4, xlx_5, xlx_6, xlx_7, xlx_8, xlx_9, xlx_10, xlx_u2, xlx_u3, xlx_u4, xlx_u5, xlx_u6, xlx_u7, xlx_u8, xlx_u9, xlx_u10, xu_e, eq_self, reduceIte, Nat.reduceEqDiff, if_true, if_false, not_true_eq_false, not_false_eq_true, Option.bind_some, i10, i01, true_and, false_and, and_false, ne_eq, Int.reduceEq, Int.reduceNeg, l_kind, l_sign, h, l_value_bad hC h]
          rw [l_more_bad (by omega) G L hC h]
          rfl
        | succ d ih => exact l_expb_bad (by omega) ih
      have hP := l_prim (f := f) (q := q) (B := B) (lm := lm) (o := o) (r := r) (cb := cb) (b := 0) hf hcb (by omega) (hbd 7) (fun _ => l_expr hf hcb 7 1 (by omega) (by omega))
      have hM2 := l_more hf hcb hP (l_prim_bad (hbd 7)) (F' + 1) _ L1 V [(1, kW (tstr B n lm) i)] (i + 1) c (by show 4 * (n + 1 - (i + 1)) + 2 ≤ F' + 1; omega) hX1' p2 (by show c + 1 ≤ cb + (i + 1); omega)
      refine l_lit_c (fn := g244 (g243r f 8) f) hf hcb (show 4 * (n + 1 - i) + 2 ≤ F' + 2 by omega) hS h8 (show i ≤ i + 1 by omega) (f0.tr (rPut_fe _ o r V.length (Nat.le_refl c) _ _).fC (Nat.le_refl _) (Nat.le_refl _)) (by rw [rPut_o (by omega), xup2_s]) (Nat.le_refl _) (by decide) hM2 (by show c + 1 ≤ cb + (i + 1); omega) e0 ?_
      rw [pX_1, pX_0, if_neg (show ¬ kK (tstr B n lm) i = 2 by omega), if_neg (show ¬ kK (tstr B n lm) i = 40 by omega)]
      show pbind (pbind (pVal (tstr B n lm) i) _) _ = _
      unfold pVal
      rw [if_neg (by omega), if_neg (by omega), if_pos ⟨c1, d3⟩]
      rfl
  · rw [if_neg c1]
    have e0 := l_lit_e (f := f) hS hA
    rw [if_neg c8, if_neg c9, if_neg c1] at e0
    have h1 := l_ex (f := f) hf hcb (show 4 * (n + 1 - i) + 2 ≤ F by omega) hX0 hA (by show c + 0 ≤ cb + i; omega)
    exact l_lit_c (fn := g243 f) hf hcb (show 4 * (n + 1 - i) + 2 ≤ F by omega) hS h8 (Nat.le_refl _) f0 (xup2_s _ _ _ _) (Nat.le_refl _) (by decide) h1 (by show c + 0 ≤ cb + i; omega) e0 rfl
end
end
section
/-! The reference reads LITERALS: all of a rule -/
theorem pName_le {t : tStr} {i : Nat} {x : Int × Nat} (h : pName t i = .inr x) : x.2 = i + 1 ∧ kK t i = 1 ∧ x.1 = kC t i ∧ ¬ 12 < kE t i - kS t i := by
  unfold pName at h
  split at h
  · cases h
  split at h
  · cases h
  rename_i h1 h2
  cases h
  exact ⟨rfl, Classical.not_not.mp h1, rfl, h2⟩
theorem pPred_le {t : tStr} {N : List Int} {i : Nat} {p : Int × List Int × Nat} (h : pPred t N i = .inr p) : p.2.2 = i + 1 ∧ N.length ≤ p.2.1.length ∧ kK t i = 1 ∧ 0 ≤ p.1 ∧ p.1 < p.2.1.length := by
  unfold pPred at h
  obtain ⟨a, h1, h2⟩ := pbind_inr h
  have h3 := pName_le h1
  split at h2
  · split at h2
    · cases h2
    · cases h2
      simp only [len1]
      omega
  · cases h2
    have := pIdx_in N a.1
    simp only
    omega
theorem pAtom_le {t : tStr} {tell : Bool} {k : Int} {s s' : pRs} (h : pAtom t tell k s = .inr s') : s'.2.2.1.length = s.2.2.1.length + 1 ∧ s.1.length ≤ s'.1.length ∧ s.2.1.length ≤ s'.2.1.length ∧ s.2.2.2.1.length ≤ s'.2.2.2.1.length ∧ s.2.2.2.2 < s'.2.2.2.2 := by
  unfold pAtom at h
  obtain ⟨p, h1, h2⟩ := pbind_inr h
  obtain ⟨j, h3, h4⟩ := pbind_inr h2
  obtain ⟨y, h5, h6⟩ := pbind_inr h4
  obtain ⟨z, h7, h8⟩ := pbind_inr h6
  obtain ⟨u, h9, h10⟩ := pbind_inr h8
  have a1 := pNeed_le h3
  have a2 := pTerm_le h5
  have a3 := pTerms_le h7
  have a4 := pNeed_le h9
  have a0 : s.1.length ≤ p.2.1.length ∧ s.2.2.2.2 < p.2.2 := by
    split at h1
    · have := pPred_le h1
      omega
    · obtain ⟨x, g1, g2⟩ := pbind_inr h1
      have := pName_le g1
      cases g2
      simp only
      omega
  cases h10
  simp only [len1, true_and]
  omega
theorem pCmp_le {t : tStr} {F : Nat} {s s' : pRs} (h : pCmp t F s = .inr s') : s'.2.2.1.length = s.2.2.1.length + 1 ∧ s.1.length ≤ s'.1.length ∧ s.2.1.length ≤ s'.2.1.length ∧ s.2.2.2.1.length ≤ s'.2.2.2.1.length ∧ s.2.2.2.2 < s'.2.2.2.2 := by
  unfold pCmp at h
  obtain ⟨a, h1, h2⟩ := pbind_inr h
  split at h2
  · obtain ⟨b, h3, h4⟩ := pbind_inr h2
    have g1 := pX_le _ _ _ _ _ (by decide) h1
    have g2 := pX_le _ _ _ _ _ (by decide) h3
    cases h4
    simp only [len1, true_and] at g1 g2 ⊢
    omega
  · cases h2
theorem pLit_le {t : tStr} {tell : Bool} {F : Nat} {s s' : pRs} (h : pLit t tell F s = .inr s') : s'.2.2.1.length = s.2.2.1.length + 1 ∧ s.1.length ≤ s'.1.length ∧ s.2.1.length ≤ s'.2.1.length ∧ s.2.2.2.1.length ≤ s'.2.2.2.1.length ∧ s.2.2.2.2 < s'.2.2.2.2 := by
  unfold pLit at h
  split at h
  · cases h
  split at h
  · have := pAtom_le h
    simp only at this
    omega
  split at h
  · split at h
    · cases h
    split at h
    · split at h
      · cases h
      · exact pAtom_le h
    split at h
    · cases h
    · exact pCmp_le h
  · exact pCmp_le h
section
variable {f q n o r cb F : Nat} {B : Nat → Int} {lm tell : Bool}
theorem l_lits_bad {G : xG_} {L : Nat → Int} {fu : Nat} (hfu : 0 < fu) (h : L 7 ≠ -1) : g246_4 f fu (xlx G L) = some (xlx G L) := by
  obtain ⟨fu, rfl⟩ : ∃ t, fu = t + 1 := ⟨fu - 1, by omega⟩
  show g246_4b (g246_4 f fu) f _ = _
  unfold g246_4b
  rw [l_sign, if_neg (fun q => h q.1)]
  simp only [Option.bind_some]
  rw [if_pos trivial]
theorem l_litsl (hf : n + 20 < f) (hcb : cb + n + 3 ≤ 6200) (htell : tell = true ↔ r ≠ 24) : ∀ (k fu : Nat), k < fu → ∀ (i c : Nat) (G : xG_) (L : Nat → Int) (N : List Int) (V : List (Int × Nat)) (l : List pLt) (M : List pMn), 9 ≤ l.length + k → 4 * (n + 1 - i) + 4 ≤ F → rRS G q B n lm o r c N V l M → rAt q B n lm i L → c ≤ cb + i →
    rLP f q B n lm o r cb G L c N V l M (g246_4 f fu) (pLits (tstr B n lm) tell F k (N, V, l, M, i)) := by
  intro k
  induction k with
  | zero =>
    intro fu _ i c G L N V l M h9 hF hS
    have := hS.2.2.2.2.2.2.1.2.1
    omega
  | succ k ih =>
    intro fu hfu i c G L N V l M h9 hF hS hA hc
    obtain ⟨fu, rfl⟩ : ∃ t, fu = t + 1 := ⟨fu - 1, by omega⟩
    have hE := hS.1
    have es : g246_4 f (fu + 1) (xlx G L) = if kK (tstr B n lm) i = 44 then ((g213 f (xlx G L)).bind fun R107 => ((g247 f R107).bind fun R112 => g246_4 f fu R112)) else some (xlx G L) := by
      show g246_4b (g246_4 f fu) f _ = _
      unfold g246_4b
      have hs := hA.issign (f := f) hE (c := 44) (by unfold isSg; omega)
      rw [show rsc 44 = 44 from rfl] at hs
      rw [hs]
      simp only [Option.bind_some, i10]
      by_cases c1 : kK (tstr B n lm) i = 44
      · rw [if_neg (fun h => h c1), if_pos c1]
      · rw [if_pos c1, if_neg c1]
    unfold pLits
    by_cases c1 : kK (tstr B n lm) i = 44
    · show rLP f q B n lm o r cb G L c N V l M (g246_4 f (fu + 1)) (if kK (tstr B n lm) i = 44 then pbind (pLit (tstr B n lm) tell F (N, V, l, M, i + 1)) fun s' => pLits (tstr B n lm) tell F k s' else .inr (N, V, l, M, i))
      rw [if_pos c1]
      rw [if_pos c1] at es
      obtain ⟨_, L1, p1, p2⟩ := hA.sg (f := f) hf hE c1 (by unfold isSg; omega)
      rw [p1] at es
      simp only [Option.bind_some] at es
      have h1 := l_lit (f := f) (F := F) hf hcb htell (show 4 * (n + 1 - (i + 1)) + 4 ≤ F by omega) hS p2 (show c ≤ cb + (i + 1) by omega)
      unfold rLP at h1 ⊢
      cases hp : pLit (tstr B n lm) tell F (N, V, l, M, i + 1) with
      | inl w =>
        rw [hp] at h1
        obtain ⟨G1, L2, a1, a2, a3, a4⟩ := h1
        refine ⟨G1, L2, ?_, a2, a3, a4⟩
        rw [es, a1]
        simp only [Option.bind_some]
        exact l_lits_bad (by omega) (by omega)
      | inr s =>
        rw [hp] at h1
        obtain ⟨G1, L2, c1', a1, a2, a3, a4, a5, a6⟩ := h1
        have hle := pLit_le hp
        simp only at hle
        have h2 := ih fu (by omega) s.2.2.2.2 c1' G1 L2 s.1 s.2.1 s.2.2.1 s.2.2.2.1 (by omega) (by omega) a4 a2 a6
        have es2 : g246_4 f (fu + 1) (xlx G L) = g246_4 f fu (xlx G1 L2) := by
          rw [es, a1]
          rfl
        show pok (pLits (tstr B n lm) tell F k s) _ _
        unfold rLP at h2
        rw [es2]
        cases hp2 : pLits (tstr B n lm) tell F k s with
        | inl w =>
          have hp2' : pLits (tstr B n lm) tell F k (s.1, s.2.1, s.2.2.1, s.2.2.2.1, s.2.2.2.2) = .inl w := hp2
          rw [hp2'] at h2
          obtain ⟨G2, L3, b1, b2, b3, b4⟩ := h2
          exact ⟨G2, L3, b1, b2, a3.tr b3 (by omega) (by omega) (by omega) (by omega) (by omega), b4⟩
        | inr u =>
          have hp2' : pLits (tstr B n lm) tell F k (s.1, s.2.1, s.2.2.1, s.2.2.2.1, s.2.2.2.2) = .inr u := hp2
          rw [hp2'] at h2
          obtain ⟨G2, L3, c2, b1, b2, b3, b4, b5, b6⟩ := h2
          exact ⟨G2, L3, c2, b1, b2, a3.tr b3 (by omega) (by omega) (by omega) (by omega) (by omega), b4, by omega, b6⟩
    · show rLP f q B n lm o r cb G L c N V l M (g246_4 f (fu + 1)) (if kK (tstr B n lm) i = 44 then pbind (pLit (tstr B n lm) tell F (N, V, l, M, i + 1)) fun s' => pLits (tstr B n lm) tell F k s' else .inr (N, V, l, M, i))
      rw [if_neg c1]
      rw [if_neg c1] at es
      exact ⟨G, L, c, es, hA, .rf _ _ _ _ _ _ _ _, hS, Nat.le_refl _, hc⟩
theorem l_lits {i c : Nat} {G : xG_} {L : Nat → Int} {N : List Int} {V : List (Int × Nat)} {M : List pMn} (hf : n + 20 < f) (hcb : cb + n + 3 ≤ 6200) (htell : tell = true ↔ r ≠ 24) (hF : 4 * (n + 1 - i) + 4 ≤ F) (hS : rRS G q B n lm o r c N V [] M) (hA : rAt q B n lm i L) (hc : c ≤ cb + i) :
    rLP f q B n lm o r cb G L c N V [] M (g246 f) (pbind (pLit (tstr B n lm) tell F (N, V, [], M, i)) (pLits (tstr B n lm) tell F 9)) := by
  have h1 := l_lit (f := f) (F := F) hf hcb htell hF hS hA hc
  unfold rLP at h1 ⊢
  unfold g246
  cases hp : pLit (tstr B n lm) tell F (N, V, [], M, i) with
  | inl w =>
    rw [hp] at h1
    obtain ⟨G1, L2, a1, a2, a3, a4⟩ := h1
    refine ⟨G1, L2, ?_, a2, a3, a4⟩
    rw [a1]
    simp only [Option.bind_some]
    exact l_lits_bad (by omega) (by omega)
  | inr s =>
    rw [hp] at h1
    obtain ⟨G1, L2, c1', a1, a2, a3, a4, a5, a6⟩ := h1
    have hle := pLit_le hp
    simp only [List.length_nil] at hle
    have h2 := l_litsl (f := f) (F := F) (tell := tell) hf hcb htell 9 f (by omega) s.2.2.2.2 c1' G1 L2 s.1 s.2.1 s.2.2.1 s.2.2.2.1 (by omega) (by omega) a4 a2 a6
    have es2 : (g247 f (xlx G L)).bind (fun R117 => g246_4 f f R117) = g246_4 f f (xlx G1 L2) := by
      rw [a1]
      rfl
    show pok (pLits (tstr B n lm) tell F 9 s) _ _
    unfold rLP at h2
    rw [es2]
    cases hp2 : pLits (tstr B n lm) tell F 9 s with
    | inl w =>
      have hp2' : pLits (tstr B n lm) tell F 9 (s.1, s.2.1, s.2.2.1, s.2.2.2.1, s.2.2.2.2) = .inl w := hp2
      rw [hp2'] at h2
      obtain ⟨G2, L3, b1, b2, b3, b4⟩ := h2
      exact ⟨G2, L3, b1, b2, a3.tr b3 (by show 8 * r + 0 ≤ _; omega) (by omega) (by omega) (by omega) (by omega), b4⟩
    | inr u =>
      have hp2' : pLits (tstr B n lm) tell F 9 (s.1, s.2.1, s.2.2.1, s.2.2.2.1, s.2.2.2.2) = .inr u := hp2
      rw [hp2'] at h2
      obtain ⟨G2, L3, c2, b1, b2, b3, b4, b5, b6⟩ := h2
      exact ⟨G2, L3, c2, b1, b2, a3.tr b3 (by show 8 * r + 0 ≤ _; omega) (by omega) (by omega) (by omega) (by omega), b4, by omega, b6⟩
end
end
section
/-! The reference reads ITEMS -/
def xfi (o r x v0 c0 : Nat) (G G' : xG_) : Prop := ∀ a j, ¬ ((a = 0 ∧ (j = 21 ∨ j = 25)) ∨ (a = o ∧ j = 37) ∨ (o + 15 ≤ a ∧ a ≤ o + 18 ∧ j = r) ∨ (a = o + 20 ∧ j = r) ∨ ((a = o + 21 ∨ a = o + 22) ∧ x ≤ j) ∨ ((a = o + 23 ∨ a = o + 24) ∧ 8 * r + v0 ≤ j) ∨ ((a = o + 33 ∨ a = o + 34) ∧ c0 ≤ j)) → G' a j = G a j
theorem xfi.tr {o r x v0 c0 x1 v1 c1 : Nat} {G G1 G2 : xG_} (h : xfi o r x v0 c0 G G1) (h1 : xfi o r x1 v1 c1 G1 G2) (hx : x ≤ x1) (hv : v0 ≤ v1) (hc : c0 ≤ c1) : xfi o r x v0 c0 G G2 := by
  intro a j hj
  rw [h1 a j (by omega), h a j hj]
theorem xfi.rf (o r x v0 c0 : Nat) (G : xG_) : xfi o r x v0 c0 G G := fun _ _ _ => rfl
theorem xfi.up {o r x v0 c0 a j : Nat} {v : Int} (G : xG_) (h : (a = 0 ∧ (j = 21 ∨ j = 25)) ∨ (a = o ∧ j = 37) ∨ (o + 15 ≤ a ∧ a ≤ o + 18 ∧ j = r) ∨ (a = o + 20 ∧ j = r) ∨ ((a = o + 21 ∨ a = o + 22) ∧ x ≤ j) ∨ ((a = o + 23 ∨ a = o + 24) ∧ 8 * r + v0 ≤ j) ∨ ((a = o + 33 ∨ a = o + 34) ∧ c0 ≤ j)) : xfi o r x v0 c0 G (xup2 G a j v) := by
  intro a' j' hj
  exact xup2_n (fun e => hj (by rw [e.1, e.2]; exact h))
theorem xfe.fi {o r x v0 c0 : Nat} {G G1 : xG_} (h : xfe o r v0 c0 G G1) : xfi o r x v0 c0 G G1 := fun a j hj => h a j (by omega)
theorem rEv.fi {G G' : xG_} {q n o r x v0 c0 : Nat} {B : Nat → Int} {lm : Bool} (h : rEv G q B n lm o) (hf : xfi o r x v0 c0 G G') : rEv G' q B n lm o := by
  obtain ⟨⟨a1, a2, a3, a4, a5⟩, b, c, d, e⟩ := h
  have g0 : ∀ j, j ≤ 20 ∨ j = 22 → G' 0 j = G 0 j := fun j hj => hf 0 j (by omega)
  have gb : ∀ j, G' (G 0 0).toNat j = G (G 0 0).toNat j := fun j => hf _ j (by have := a1.1; omega)
  refine ⟨⟨?_, a2, ?_, ?_, ?_⟩, ?_, ?_, ?_, e⟩
  · unfold gT
    rw [g0 0 (by omega), g0 1 (by omega)]
    exact a1
  · rw [g0 1 (by omega)]; exact a3
  · intro p
    rw [← a4 p]
    unfold gB
    rw [g0 0 (by omega), g0 1 (by omega), gb]
  · intro p hp
    rw [g0 0 (by omega), gb]
    exact a5 p hp
  · rw [g0 11 (by omega)]; exact b
  · unfold rC
    rw [g0 12 (by omega), g0 13 (by omega), g0 14 (by omega), g0 15 (by omega), g0 16 (by omega), g0 17 (by omega), g0 18 (by omega), g0 19 (by omega), g0 20 (by omega)]
    exact c
  · rw [g0 22 (by omega)]; exact d
/-- an ITEM's codes -/
def rIc (G : xG_) (o x c : Nat) (Q : pCd) : Prop := ∃ a : Nat, G (o + 21) x = (a : Int) ∧ G (o + 22) x = ((a + Q.length : Nat) : Int) ∧ a + Q.length ≤ c ∧ rCo G o a Q
def rGa (G : xG_) (o r : Nat) (g : Int × Int × Int) : Prop := G (o + 16) r = (if g.1 = 0 then 0 else g.1 - 9) ∧ G (o + 17) r = g.2.1 ∧ G (o + 18) r = g.2.2 ∧ (g.1 = 0 ∧ g.2.1 = -1 ∧ g.2.2 = -1 ∨ 10 ≤ g.1 ∧ g.1 ≤ 13)
def rIS (G : xG_) (q : Nat) (B : Nat → Int) (n : Nat) (lm : Bool) (o r c : Nat) (V : List (Int × Nat)) (g : Int × Int × Int) (I : List pCd) : Prop :=
  rX G q B n lm o r V c [] 0 ∧ G (o + 15) r = (I.length : Int) ∧ I.length ≤ 4 ∧ rGa G o r g ∧ ∀ k, k < I.length → rIc G o (4 * r + k) c (I.getD k [])
theorem rIc.fi {G G' : xG_} {o r x c c' v0 x0 : Nat} {Q : pCd} (h : rIc G o x c Q) (hf : xfi o r x0 v0 c G G') (hx : x < x0) (hc : c ≤ c') : rIc G' o x c' Q := by
  obtain ⟨a, a1, a2, a3, a4⟩ := h
  refine ⟨a, by rw [hf _ _ (by omega)]; exact a1, by rw [hf _ _ (by omega)]; exact a2, by omega, fun j hj => ?_⟩
  rw [hf _ _ (by omega), hf _ _ (by omega)]
  exact a4 j hj
section
variable {f q n o r c cb F : Nat} {B : Nat → Int} {lm : Bool} {G : xG_} {L : Nat → Int} {V : List (Int × Nat)} {g : Int × Int × Int} {I : List pCd}
theorem l_i236 {x m c : Nat} (hE : rEv G q B n lm o) (h23 : G 0 23 = (r : Int)) (hr : r ≤ 24) (hx : x < 100) (hm : G (o + 15) r = (m : Int)) (hm4 : m ≤ 4) : g238_236 f (x : Int) (xlx G L) = some (xlx (xup2 (xup2 G (o + 22) x (G o 37)) (o + 15) r ((m + 1 : Nat) : Int)) L) := by
  have h22 := hE.2.2.2.1
  have ho := hE.2.2.2.2
  unfold g238_236
  rw [xlx_o _ _ (by omega), h22, if_neg (by omega), if_neg (by omega), if_pos (by omega), Int.toNat_natCast, Int.toNat_natCast, xlx_o _ _ (by omega), xlx_upo _ _ _ (by omega)]
  simp only [Option.bind_some]
  rw [xlx_o _ _ (by omega), xup2_n (by omega), h22, if_neg (by omega), xlx_o _ _ (by omega), xup2_n (by omega), h23, if_pos (by omega), if_pos (by omega), Int.toNat_natCast, Int.toNat_natCast, xlx_o _ _ (by omega), xup2_n (by omega), hm, xwr_g _ (by omega) (by omega), xlx_upo _ _ _ (by omega)]
  rfl
theorem l_item_bad (h : L 7 ≠ -1) : g238 f (xlx G L) = some (xlx G L) := by
  unfold g238
  rw [l_bad, if_neg h]
  simp only [Option.bind_some]
  rw [if_neg (by decide)]
theorem l_item_e {i : Nat} (hS : rIS G q B n lm o r c V g I) (hA : rAt q B n lm i L) : g238 f (xlx G L) = g238_89 f ((4 * r + I.length : Nat) : Int) (if 10 ≤ kK (tstr B n lm) i ∧ kK (tstr B n lm) i ≤ 13 then kK (tstr B n lm) i - 9 else 0) (xlx G L) := by
  obtain ⟨⟨hE, h23, hr, hV, h37, _, h25⟩, h15, hI4, hg, hI⟩ := hS
  have h22 := hE.2.2.2.1
  have ho := hE.2.2.2.2
  have hC := hE.2.2.1
  have ex : xwr (xwr ((r : Int) * 4) + (I.length : Int)) = ((4 * r + I.length : Nat) : Int) := by rw [xwr_g ((r : Int) * 4) (by omega) (by omega), xwr_g _ (by omega) (by omega)]; omega
  unfold g238
  rw [l_bad, if_pos hA.1]
  simp only [Option.bind_some]
  rw [if_pos trivial, xlx_o _ _ (by omega), h22, if_neg (by omega), xlx_o _ _ (by omega), h23, if_pos (by omega), Int.toNat_natCast, Int.toNat_natCast, xlx_o G L (o := o + 15) (by omega), h15, ex, xlx_o _ _ (by omega), hC.2.2.2.2.1, hA.isword hE (c := 7109364) (k := 10) rfl (fun x h => tres_inv.2.2.2.2.1 h) (by decide)]
  simp only [Option.bind_some, i10]
  by_cases c1 : kK (tstr B n lm) i = 10
  · rw [if_neg (fun h => h c1), c1]
    rfl
  rw [if_pos c1, xlx_o _ _ (by omega), hC.2.2.2.2.2.1, hA.isword hE (c := 28247) (k := 11) rfl (fun x h => tres_inv.2.2.2.2.2.1 h) (by decide)]
  simp only [Option.bind_some, i10]
  by_cases c2 : kK (tstr B n lm) i = 11
  · rw [if_neg (fun h => h c2), c2]
    rfl
  rw [if_pos c2, xlx_o _ _ (by omega), hC.2.2.2.2.2.2.1, hA.isword hE (c := 25298178) (k := 12) rfl (fun x h => tres_inv.2.2.2.2.2.2.1 h) (by decide)]
  simp only [Option.bind_some, i10]
  by_cases c3 : kK (tstr B n lm) i = 12
  · rw [if_neg (fun h => h c3), c3]
    rfl
  rw [if_pos c3, xlx_o _ _ (by omega), hC.2.2.2.2.2.2.2.1, hA.isword hE (c := 735738) (k := 13) rfl (fun x h => tres_inv.2.2.2.2.2.2.2 h) (by decide)]
  simp only [Option.bind_some, i10]
  by_cases c4 : kK (tstr B n lm) i = 13
  · rw [if_neg (fun h => h c4), c4]
    rfl
  rw [if_pos c4, if_neg (by omega)]
/-- what reading of an ITEM does -/
def rIP (f q : Nat) (B : Nat → Int) (n : Nat) (lm : Bool) (o r cb : Nat) (G : xG_) (L : Nat → Int) (c : Nat) (V : List (Int × Nat)) (I : List pCd) (e : xG_ → Option xG_) (p : Nat ⊕ pIt) : Prop :=
  pok p (fun w => ∃ G' L', e (xlx G L) = some (xlx G' L') ∧ L' 7 = (q : Int) + w ∧ xfi o r (4 * r + I.length) V.length c G G' ∧ 0 ≤ G' (o + 20) r ∧ G' (o + 20) r ≤ 8 ∧ 0 ≤ G' (o + 15) r ∧ G' (o + 15) r ≤ 4)
    (fun s => ∃ G' L' c', e (xlx G L) = some (xlx G' L') ∧ rAt q B n lm s.2.2.2 L' ∧ xfi o r (4 * r + I.length) V.length c G G' ∧ rIS G' q B n lm o r c' s.1 s.2.1 s.2.2.1 ∧ c ≤ c' ∧ c' ≤ cb + s.2.2.2)
/-- the end of an ITEM, well or not -/
theorem l_iend {G1 : xG_} {L1 : Nat → Int} (hS : rIS G q B n lm o r c V g I) (h4 : I.length < 4) (hf1 : xfi o r (4 * r + I.length) V.length c G G1) (h15 : G1 (o + 15) r = (I.length : Int)) : g238_236 f ((4 * r + I.length : Nat) : Int) (xlx G1 L1) = some (xlx (xup2 (xup2 G1 (o + 22) (4 * r + I.length) (G1 o 37)) (o + 15) r ((I.length + 1 : Nat) : Int)) L1) ∧ xfi o r (4 * r + I.length) V.length c G (xup2 (xup2 G1 (o + 22) (4 * r + I.length) (G1 o 37)) (o + 15) r ((I.length + 1 : Nat) : Int)) := by
  obtain ⟨⟨hE, h23, hr, hV, h37, _, h25⟩, _, hI4, hg, hI⟩ := hS
  have ho := hE.2.2.2.2
  refine ⟨l_i236 (c := 0) (hE.fi hf1) (by rw [hf1 _ _ (by omega)]; exact h23) hr (by omega) h15 (by omega), (hf1.tr (xfi.up _ (by omega)) (Nat.le_refl _) (Nat.le_refl _) (Nat.le_refl _)).tr (xfi.up _ (by omega)) (Nat.le_refl _) (Nat.le_refl _) (Nat.le_refl _)⟩
/-- an EXPRESSION as an ITEM -/
theorem l_item_x {i : Nat} (hf : n + 20 < f) (hcb : cb + n + 3 ≤ 6200) (hF : 4 * (n + 1 - i) + 2 ≤ F) (hS : rIS G q B n lm o r c V g I) (hA : rAt q B n lm i L) (hc : c ≤ cb + i) (h4 : I.length < 4) (hK : ¬ (10 ≤ kK (tstr B n lm) i ∧ kK (tstr B n lm) i ≤ 13)) :
    rIP f q B n lm o r cb G L c V I (g238 f) (pbind (pX (tstr B n lm) F 1 0 (V, [], i)) fun e => .inr (e.1, g, I ++ [e.2.1], e.2.2)) := by
  have e0 := l_item_e (f := f) hS hA
  rw [if_neg hK] at e0
  have hS' := hS
  obtain ⟨⟨hE, h23, hr, hV, h37, hCo, h25⟩, h15, hI4, hg, hI⟩ := hS'
  have h22 := hE.2.2.2.1
  have ho := hE.2.2.2.2
  have h37' : G o 37 = (c : Int) := h37
  have f0 : xfi o r (4 * r + I.length) V.length c G (xup2 G (o + 21) (4 * r + I.length) (c : Int)) := xfi.up _ (by omega)
  have e1 : g238 f (xlx G L) = (g243 f (xlx (xup2 G (o + 21) (4 * r + I.length) (c : Int)) L)).bind fun R183 => g238_236 f ((4 * r + I.length : Nat) : Int) R183 := by
    rw [e0]
    unfold g238_89
    rw [xlx_o _ _ (by omega), h22, if_neg (by omega), if_neg (by omega), if_pos (by omega), Int.toNat_natCast, Int.toNat_natCast, xlx_o _ _ (by omega), h37', xlx_upo _ _ _ (by omega)]
    simp only [Option.bind_some]
    rw [if_neg (fun h => h trivial)]
  have hX0 : rX (xup2 G (o + 21) (4 * r + I.length) (c : Int)) q B n lm o r V c [] 0 := ⟨hE.fi f0, by rw [xup2_n (by omega)]; exact h23, hr, hV.ot (fun j => xup2_n (by omega)) (fun j => xup2_n (by omega)) (fun j => xup2_n (by omega)), by rw [xup2_n (by omega)]; exact h37, fun j hj => absurd hj (by simp), by rw [xup2_n (by omega)]; exact h25⟩
  have h1 := l_ex (f := f) hf hcb hF hX0 hA (by show c + 0 ≤ cb + i; omega)
  unfold rIP
  rw [e1]
  cases hp : pX (tstr B n lm) F 1 0 (V, [], i) with
  | inl w =>
    rw [hp] at h1
    obtain ⟨G1, L1, a1, a2, a3, a4, a5⟩ := h1
    have a3' : xfe o r V.length c (xup2 G (o + 21) (4 * r + I.length) (c : Int)) G1 := a3
    have f1 := f0.tr (a3'.fi (x := 4 * r + I.length)) (Nat.le_refl _) (Nat.le_refl _) (Nat.le_refl _)
    have k15 : G1 (o + 15) r = (I.length : Int) := by rw [a3 _ _ (by omega), xup2_n (by omega)]; exact h15
    obtain ⟨b1, b2⟩ := l_iend (f := f) (L1 := L1) hS h4 f1 k15
    refine ⟨_, L1, by rw [a1]; exact b1, a2, b2, ?_⟩
    rw [xup2_n (by omega), xup2_n (by omega), xup2_s]
    omega
  | inr e =>
    rw [hp] at h1
    obtain ⟨G1, L1, a1, a2, a3, a4⟩ := h1
    have a3' : xfe o r V.length c (xup2 G (o + 21) (4 * r + I.length) (c : Int)) G1 := a3
    have hle := pX_le F 1 0 (V, [], i) e (by decide) hp
    simp only [List.length_nil] at hle
    have f1 := f0.tr (a3'.fi (x := 4 * r + I.length)) (Nat.le_refl _) (Nat.le_refl _) (Nat.le_refl _)
    have k15 : G1 (o + 15) r = (I.length : Int) := by rw [a3 _ _ (by omega), xup2_n (by omega)]; exact h15
    obtain ⟨b1, b2⟩ := l_iend (f := f) (L1 := L1) hS h4 f1 k15
    obtain ⟨d1, d2, d3, d4, d5, d6, d7⟩ := a4
    refine ⟨_, L1, c + e.2.1.length, by rw [a1]; exact b1, a2, b2, ⟨⟨hE.fi b2, by rw [xup2_n (by omega), xup2_n (by omega)]; exact d2, hr, d4.ot (fun j => ?_) (fun j => ?_) (fun j => ?_), ?_, fun j hj => absurd hj (by simp), ?_⟩, ?_, by rw [len1]; omega, ⟨?_, ?_, ?_, hg.2.2.2⟩, fun k hk => ?_⟩, by omega, by show c + e.2.1.length ≤ cb + e.2.2; omega⟩
    · rw [xup2_n (by omega), xup2_n (by omega)]
    · rw [xup2_n (by omega), xup2_n (by omega)]
    · rw [xup2_n (by omega), xup2_n (by omega)]
    · rw [xup2_n (by omega), xup2_n (by omega)]; exact d5
    · rw [xup2_n (by omega), xup2_n (by omega)]; exact d7
    · rw [len1, xup2_s]
    · rw [xup2_n (by omega), xup2_n (by omega), a3 _ _ (by omega), xup2_n (by omega)]; exact hg.1
    · rw [xup2_n (by omega), xup2_n (by omega), a3 _ _ (by omega), xup2_n (by omega)]; exact hg.2.1
    · rw [xup2_n (by omega), xup2_n (by omega), a3 _ _ (by omega), xup2_n (by omega)]; exact hg.2.2.1
    · rw [len1] at hk
      rw [getD_1]
      by_cases ck : k = I.length
      · rw [if_pos ck, ck]
        refine ⟨c, ?_, ?_, Nat.le_refl _, fun j hj => ?_⟩
        · rw [xup2_n (by omega), xup2_n (by omega), a3 _ _ (by omega), xup2_s]
        · rw [xup2_n (by omega), xup2_s]; exact d5
        · rw [xup2_n (by omega), xup2_n (by omega), xup2_n (by omega), xup2_n (by omega)]
          exact d6 j hj
      · rw [if_neg ck]
        exact (hI k (by omega)).fi b2 (by omega) (by omega)
end
end
section
/-! The reference reads ITEMS that gather -/
section
variable {f q n o r c cb F : Nat} {B : Nat → Int} {lm : Bool} {G : xG_} {L : Nat → Int} {V : List (Int × Nat)} {g : Int × Int × Int} {I : List pCd}
/-- the ) of what gathers -/
theorem l_i230 {G1 : xG_} {L1 : Nat → Int} {V1 : List (Int × Nat)} {g1 : Int × Int × Int} {j : Nat} (hf : n + 20 < f) (hS : rIS G q B n lm o r c V g I) (h4 : I.length < 4) (hf1 : xfi o r (4 * r + I.length) V.length c G G1) (h15 : G1 (o + 15) r = (I.length : Int)) (h21 : G1 (o + 21) (4 * r + I.length) = (c : Int)) (h37 : G1 o 37 = (c : Int)) (hV1 : rVs G1 o q r V1) (hVV : V.length ≤ V1.length) (hg1 : rGa G1 o r g1) (h25 : G1 0 25 = 0) (hA : rAt q B n lm j L1) (hc : c ≤ cb + j) (he : g238 f (xlx G L) = g238_230 f ((4 * r + I.length : Nat) : Int) (xlx G1 L1)) :
    rIP f q B n lm o r cb G L c V I (g238 f) (pbind (pNeed (tstr B n lm) 41 j) fun j => .inr (V1, g1, I ++ [[]], j)) := by
  have hE := hS.1.1
  have ho := hE.2.2.2.2
  have hE1 := hE.fi hf1
  unfold rIP
  rw [he]
  unfold g238_230 pNeed
  have h20 := hV1.1
  have h20' := hV1.2.1
  have h23 := hS.1.2.1
  have hr := hS.1.2.2.1
  by_cases c1 : kK (tstr B n lm) j = 41
  · rw [if_pos c1]
    obtain ⟨L2, n1, n2⟩ := l_need hf hE1 hA (c := 41) (by unfold isSg; omega) c1
    rw [show rsc 41 = 41 from rfl] at n1
    obtain ⟨b1, b2⟩ := l_iend (f := f) (L1 := L2) hS h4 hf1 h15
    refine ⟨_, L2, c, by rw [n1]; exact b1, n2, b2, ⟨⟨hE.fi b2, ?_, hr, hV1.ot (fun j => ?_) (fun j => ?_) (fun j => ?_), ?_, fun j hj => absurd hj (by simp), ?_⟩, by rw [len1, xup2_s], by rw [len1]; omega, ⟨?_, ?_, ?_, hg1.2.2.2⟩, fun k hk => ?_⟩, Nat.le_refl _, by show c ≤ cb + (j + 1); omega⟩
    · rw [xup2_n (by omega), xup2_n (by omega), hf1 _ _ (by omega)]; exact h23
    · rw [xup2_n (by omega), xup2_n (by omega)]
    · rw [xup2_n (by omega), xup2_n (by omega)]
    · rw [xup2_n (by omega), xup2_n (by omega)]
    · rw [xup2_n (by omega), xup2_n (by omega)]; exact h37
    · rw [xup2_n (by omega), xup2_n (by omega)]; exact h25
    · rw [xup2_n (by omega), xup2_n (by omega)]; exact hg1.1
    · rw [xup2_n (by omega), xup2_n (by omega)]; exact hg1.2.1
    · rw [xup2_n (by omega), xup2_n (by omega)]; exact hg1.2.2.1
    · rw [len1] at hk
      rw [getD_1]
      by_cases ck : k = I.length
      · rw [if_pos ck, ck]
        refine ⟨c, ?_, ?_, Nat.le_refl _, fun j hj => absurd hj (by simp)⟩
        · rw [xup2_n (by omega), xup2_n (by omega)]; exact h21
        · rw [xup2_n (by omega), xup2_s]; exact h37
      · rw [if_neg ck]
        exact (hS.2.2.2.2 k (by omega)).fi b2 (by omega) (Nat.le_refl _)
  · rw [if_neg c1]
    have n1 := l_need_no (f := f) hE1 hA (c := 41) (by unfold isSg; omega) c1
    rw [show rsc 41 = 41 from rfl] at n1
    obtain ⟨b1, b2⟩ := l_iend (f := f) (L1 := xu L1 7 ((q : Int) + kS (tstr B n lm) j)) hS h4 hf1 h15
    refine ⟨_, _, by rw [n1]; exact b1, rfl, b2, ?_⟩
    rw [xup2_n (by omega), xup2_n (by omega), xup2_s, h20]
    omega
theorem l_i230_bad {G1 : xG_} {L1 : Nat → Int} {w : Nat} (hS : rIS G q B n lm o r c V g I) (h4 : I.length < 4) (hf1 : xfi o r (4 * r + I.length) V.length c G G1) (h15 : G1 (o + 15) r = (I.length : Int)) (h20 : 0 ≤ G1 (o + 20) r ∧ G1 (o + 20) r ≤ 8) (hw : L1 7 = (q : Int) + w) (he : g238 f (xlx G L) = g238_230 f ((4 * r + I.length : Nat) : Int) (xlx G1 L1)) : rIP f q B n lm o r cb G L c V I (g238 f) (.inl w) := by
  have hbad : L1 7 ≠ -1 := by omega
  have ho := hS.1.1.2.2.2.2
  obtain ⟨b1, b2⟩ := l_iend (f := f) (L1 := L1) hS h4 hf1 h15
  refine ⟨_, L1, ?_, hw, b2, ?_⟩
  · rw [he]
    unfold g238_230
    rw [l_need_bad hbad]
    exact b1
  · rw [xup2_n (by omega), xup2_n (by omega), xup2_s]
    omega
theorem l_item_g {i : Nat} (hf : n + 20 < f) (hS : rIS G q B n lm o r c V g I) (hA : rAt q B n lm i L) (hc : c ≤ cb + i) (h4 : I.length < 4) (hK : 10 ≤ kK (tstr B n lm) i ∧ kK (tstr B n lm) i ≤ 13) :
    rIP f q B n lm o r cb G L c V I (g238 f) (if g.1 ≠ 0 then .inl (kS (tstr B n lm) i)
     else pbind (pNeed (tstr B n lm) 40 (i + 1)) fun j =>
       if kK (tstr B n lm) i = 10 then pbind (pNeed (tstr B n lm) 41 j) fun j => .inr (V, (10, (I.length : Int), -1), I ++ [[]], j)
       else pbind (pVar (tstr B n lm) V j) fun r => pbind (pNeed (tstr B n lm) 41 r.2.2) fun j => .inr (r.2.1, (kK (tstr B n lm) i, (I.length : Int), r.1), I ++ [[]], j)) := by
  have e0 := l_item_e (f := f) hS hA
  rw [if_pos hK] at e0
  have hS' := hS
  obtain ⟨⟨hE, h23, hr, hV, h37, hCo, h25⟩, h15, hI4, hg, hI⟩ := hS'
  have h22 := hE.2.2.2.1
  have ho := hE.2.2.2.2
  have h37' : G o 37 = (c : Int) := h37
  have hV20 := hV.1
  have hV8 := hV.2.1
  have f0 : xfi o r (4 * r + I.length) V.length c G (xup2 G (o + 21) (4 * r + I.length) (c : Int)) := xfi.up _ (by omega)
  unfold g238_89 at e0
  rw [xlx_o _ _ (by omega), h22, if_neg (by omega), if_neg (by omega), if_pos (by omega), Int.toNat_natCast, Int.toNat_natCast, xlx_o _ _ (by omega), h37', xlx_upo _ _ _ (by omega)] at e0
  simp only [Option.bind_some] at e0
  rw [if_pos (by omega), xlx_o _ _ (by omega), xup2_n (by omega), h22, if_neg (by omega), xlx_o _ _ (by omega), xup2_n (by omega), h23, if_pos (by omega), Int.toNat_natCast, Int.toNat_natCast, xlx_o _ _ (by omega), xup2_n (by omega), hg.1] at e0
  by_cases cg : g.1 = 0
  · rw [if_neg (fun h => h cg)]
    rw [if_pos cg, if_pos rfl, if_neg (by omega), if_pos (by omega), xlx_upo _ _ _ (by omega)] at e0
    rw [xlx_o _ _ (by omega), xup2_n (by omega), xup2_n (by omega), h22, if_neg (by omega), if_neg (by omega), xlx_o _ _ (by omega), xup2_n (by omega), xup2_n (by omega), h23, if_pos (by omega), if_pos (by omega), Int.toNat_natCast, Int.toNat_natCast, xlx_o _ _ (by omega), xup2_n (by omega), xup2_n (by omega), h15, xlx_upo _ _ _ (by omega)] at e0
    have f2 : xfi o r (4 * r + I.length) V.length c G (xup2 (xup2 (xup2 G (o + 21) (4 * r + I.length) (c : Int)) (o + 16) r (kK (tstr B n lm) i - 9)) (o + 17) r (I.length : Int)) := (f0.tr (xfi.up _ (by omega)) (Nat.le_refl _) (Nat.le_refl _) (Nat.le_refl _)).tr (xfi.up _ (by omega)) (Nat.le_refl _) (Nat.le_refl _) (Nat.le_refl _)
    have v15 : xup2 (xup2 (xup2 G (o + 21) (4 * r + I.length) (c : Int)) (o + 16) r (kK (tstr B n lm) i - 9)) (o + 17) r (I.length : Int) (o + 15) r = (I.length : Int) := by rw [xup2_n (by omega), xup2_n (by omega), xup2_n (by omega)]; exact h15
    have v16 : xup2 (xup2 (xup2 G (o + 21) (4 * r + I.length) (c : Int)) (o + 16) r (kK (tstr B n lm) i - 9)) (o + 17) r (I.length : Int) (o + 16) r = kK (tstr B n lm) i - 9 := by rw [xup2_n (by omega), xup2_s]
    have v17 : xup2 (xup2 (xup2 G (o + 21) (4 * r + I.length) (c : Int)) (o + 16) r (kK (tstr B n lm) i - 9)) (o + 17) r (I.length : Int) (o + 17) r = (I.length : Int) := xup2_s _ _ _ _
    have v18 : xup2 (xup2 (xup2 G (o + 21) (4 * r + I.length) (c : Int)) (o + 16) r (kK (tstr B n lm) i - 9)) (o + 17) r (I.length : Int) (o + 18) r = G (o + 18) r := by rw [xup2_n (by omega), xup2_n (by omega), xup2_n (by omega)]
    have v21 : xup2 (xup2 (xup2 G (o + 21) (4 * r + I.length) (c : Int)) (o + 16) r (kK (tstr B n lm) i - 9)) (o + 17) r (I.length : Int) (o + 21) (4 * r + I.length) = (c : Int) := by rw [xup2_n (by omega), xup2_n (by omega), xup2_s]
    have vo : ∀ a b, ¬ (o + 16 ≤ a ∧ a ≤ o + 17) → a ≠ o + 21 → xup2 (xup2 (xup2 G (o + 21) (4 * r + I.length) (c : Int)) (o + 16) r (kK (tstr B n lm) i - 9)) (o + 17) r (I.length : Int) a b = G a b := fun a b _ _ => by rw [xup2_n (by omega), xup2_n (by omega), xup2_n (by omega)]
    generalize xup2 (xup2 (xup2 G (o + 21) (4 * r + I.length) (c : Int)) (o + 16) r (kK (tstr B n lm) i - 9)) (o + 17) r (I.length : Int) = G2 at *
    have hE2 := hE.fi f2
    have hV2 : rVs G2 o q r V := hV.ot (fun j => vo _ _ (by omega) (by omega)) (fun j => vo _ _ (by omega) (by omega)) (fun j => vo _ _ (by omega) (by omega))
    have hg18 : G (o + 18) r = g.2.2 := hg.2.2.1
    obtain ⟨L1, p1, p2⟩ := hA.wd (f := f) hf hE2 (by omega)
    simp only [p1, Option.bind_some] at e0
    unfold pNeed
    by_cases c40 : kK (tstr B n lm) (i + 1) = 40
    · rw [if_pos c40]
      obtain ⟨L2, n1, n2⟩ := l_need hf hE2 p2 (c := 40) (by unfold isSg; omega) c40
      rw [show rsc 40 = 40 from rfl] at n1
      simp only [n1, Option.bind_some] at e0
      show rIP f q B n lm o r cb G L c V I (g238 f) (if kK (tstr B n lm) i = 10 then _ else _)
      by_cases c10 : kK (tstr B n lm) i = 10
      · rw [if_pos c10]
        rw [if_pos (by omega)] at e0
        refine l_i230 hf hS h4 f2 v15 v21 (by rw [vo _ _ (by omega) (by omega)]; exact h37') hV2 (Nat.le_refl _) ⟨?_, v17, ?_, .inr (show (10 : Int) ≤ 10 ∧ (10 : Int) ≤ 13 by decide)⟩ (by rw [vo _ _ (by omega) (by omega)]; exact h25) n2 (by omega) e0
        · rw [v16, c10]; rfl
        · rw [v18, hg18]
          show g.2.2 = -1
          have := hg.2.2.2
          omega
      · rw [if_neg c10]
        rw [if_neg (by omega), l_kind] at e0
        simp only [Option.bind_some, i10, n2.1, true_and] at e0
        have htk := n2.tk hE2.1.2.1
        by_cases c2 : kK (tstr B n lm) (i + 1 + 1) = 2
        · have k2 := htk.2.2.2.1.mpr c2
          rw [if_neg (fun h => h k2), xlx_o _ _ (by omega), hE2.2.2.2.1, if_neg (by omega), xlx_o _ _ (by omega), vo 0 23 (by omega) (by omega), h23, Int.toNat_natCast, Int.toNat_natCast] at e0
          have h1 := l_var hf hE2 (by rw [vo 0 23 (by omega) (by omega)]; exact h23) hr hV2 n2 c2 c
          cases hp : pVar (tstr B n lm) V (i + 1 + 1) with
          | inl w =>
            rw [hp] at h1
            obtain ⟨L3, a1, a2⟩ := h1
            rw [a1] at e0
            simp only [Option.bind_some] at e0
            rw [if_pos (by omega), xlx_upo _ _ _ (by omega)] at e0
            exact l_i230_bad hS h4 (f2.tr (xfi.up _ (by omega)) (Nat.le_refl _) (Nat.le_refl _) (Nat.le_refl _)) (by rw [xup2_n (by omega)]; exact v15) (by rw [xup2_n (by omega), vo _ _ (by omega) (by omega), hV20]; omega) a2 e0
          | inr x =>
            rw [hp] at h1
            obtain ⟨G3, L3, a1, a2, a3, a4, a5, a6, a7, a8⟩ := h1
            rw [a1] at e0
            simp only [Option.bind_some] at e0
            rw [if_pos (by omega), xlx_upo _ _ _ (by omega)] at e0
            have hle := pVar_le hp
            show rIP f q B n lm o r cb G L c V I (g238 f) (pbind (pNeed (tstr B n lm) 41 x.2.2) fun j => .inr (x.2.1, (kK (tstr B n lm) i, (I.length : Int), x.1), I ++ [[]], j))
            refine l_i230 hf hS h4 ((f2.tr (a3.fi (x := 4 * r + I.length)) (Nat.le_refl _) (Nat.le_refl _) (Nat.le_refl _)).tr (xfi.up _ (by omega)) (Nat.le_refl _) (Nat.le_refl _) (Nat.le_refl _)) ?_ ?_ ?_ (a4.ot (fun j => xup2_n (by omega)) (fun j => xup2_n (by omega)) (fun j => xup2_n (by omega))) hle.2.1 ⟨?_, ?_, xup2_s _ _ _ _, .inr hK⟩ ?_ a2 (by omega) e0
            · rw [xup2_n (by omega), a3 _ _ (by omega)]; exact v15
            · rw [xup2_n (by omega), a3 _ _ (by omega)]; exact v21
            · rw [xup2_n (by omega), a5, vo _ _ (by omega) (by omega)]; exact h37'
            · rw [xup2_n (by omega), a3 _ _ (by omega), v16]
              show _ = if kK (tstr B n lm) i = 0 then 0 else kK (tstr B n lm) i - 9
              rw [if_neg (by omega)]
            · rw [xup2_n (by omega), a3 _ _ (by omega)]; exact v17
            · rw [xup2_n (by omega), a6, vo _ _ (by omega) (by omega)]; exact h25
        · have k2 : ¬ L2 2 = 3 := fun h => c2 (htk.2.2.2.1.mp h)
          have hp : pVar (tstr B n lm) V (i + 1 + 1) = .inl (kS (tstr B n lm) (i + 1 + 1)) := by unfold pVar; rw [if_pos c2]
          rw [hp]
          rw [if_pos k2, xlx_4, l_fail, if_pos n2.1] at e0
          exact l_i230_bad hS h4 f2 v15 (by rw [vo _ _ (by omega) (by omega), hV20]; omega) (show xu L2 7 (L2 4) 7 = _ from n2.at4 hE2) e0
    · rw [if_neg c40]
      have n1 := l_need_no (f := f) hE2 p2 (c := 40) (by unfold isSg; omega) c40
      rw [show rsc 40 = 40 from rfl] at n1
      simp only [n1, Option.bind_some] at e0
      have hbad : xu L1 7 ((q : Int) + kS (tstr B n lm) (i + 1)) 7 ≠ -1 := by show (q : Int) + _ ≠ -1; omega
      refine l_i230_bad (L1 := xu L1 7 ((q : Int) + kS (tstr B n lm) (i + 1))) hS h4 f2 v15 (by rw [vo _ _ (by omega) (by omega), hV20]; omega) rfl ?_
      rw [e0]
      split
      · rfl
      · rw [l_kind, if_neg (fun h => hbad h.1)]
        simp only [Option.bind_some]
        rw [if_pos trivial, l_fail, if_neg hbad]
        rfl
  · rw [if_pos cg]
    rw [if_neg cg, if_neg (by have := hg.2.2.2; omega), xlx_4, l_fail, if_pos hA.1] at e0
    obtain ⟨b1, b2⟩ := l_iend (f := f) (L1 := xu L 7 (L 4)) hS h4 f0 (by rw [xup2_n (by omega)]; exact h15)
    refine ⟨_, xu L 7 (L 4), by rw [e0]; exact b1, hA.at4 hE, b2, ?_⟩
    rw [xup2_n (by omega), xup2_n (by omega), xup2_n (by omega), xup2_s, hV20]
    omega
theorem l_item {i : Nat} (hf : n + 20 < f) (hcb : cb + n + 3 ≤ 6200) (hF : 4 * (n + 1 - i) + 2 ≤ F) (hS : rIS G q B n lm o r c V g I) (hA : rAt q B n lm i L) (hc : c ≤ cb + i) (h4 : I.length < 4) : rIP f q B n lm o r cb G L c V I (g238 f) (pItem (tstr B n lm) F (V, g, I, i)) := by
  unfold pItem
  by_cases hK : 10 ≤ kK (tstr B n lm) i ∧ kK (tstr B n lm) i ≤ 13
  · show rIP f q B n lm o r cb G L c V I (g238 f) (if 10 ≤ kK (tstr B n lm) i ∧ kK (tstr B n lm) i ≤ 13 then _ else _)
    rw [if_pos hK]
    exact l_item_g hf hS hA hc h4 hK
  · show rIP f q B n lm o r cb G L c V I (g238 f) (if 10 ≤ kK (tstr B n lm) i ∧ kK (tstr B n lm) i ≤ 13 then _ else _)
    rw [if_neg hK]
    exact l_item_x hf hcb hF hS hA hc h4 hK
end
theorem pItem_le {t : tStr} {F : Nat} {s s' : pIt} (h : pItem t F s = .inr s') : s.1.length ≤ s'.1.length ∧ s'.2.2.1.length = s.2.2.1.length + 1 ∧ s.2.2.2 < s'.2.2.2 := by
  unfold pItem at h
  split at h
  · split at h
    · cases h
    · obtain ⟨j, h1, h2⟩ := pbind_inr h
      have a1 := pNeed_le h1
      split at h2
      · obtain ⟨j2, h3, h4⟩ := pbind_inr h2
        have a2 := pNeed_le h3
        cases h4
        simp only [len1, true_and]
        omega
      · obtain ⟨x, h3, h4⟩ := pbind_inr h2
        obtain ⟨j2, h5, h6⟩ := pbind_inr h4
        have a2 := pVar_le h3
        have a3 := pNeed_le h5
        cases h6
        simp only [len1, true_and]
        omega
  · obtain ⟨e, h1, h2⟩ := pbind_inr h
    have a1 := pX_le _ _ _ _ _ (by decide) h1
    cases h2
    simp only [len1, true_and] at a1 ⊢
    omega
end
section
/-! The reference reads rules -/
def xfg (o r c0 m0 n0 : Nat) (G G' : xG_) : Prop := ∀ a j, ¬ ((a = 0 ∧ (j = 21 ∨ j = 23 ∨ j = 24 ∨ j = 25)) ∨ (a = o ∧ (j = 8 ∨ j = 9 ∨ j = 14 ∨ j = 37)) ∨ (a = o + 1 ∧ n0 ≤ j) ∨ (a = o + 3) ∨ (o + 6 ≤ a ∧ a ≤ o + 8) ∨ (o + 9 ≤ a ∧ a ≤ o + 12 ∧ m0 ≤ j) ∨ (o + 13 ≤ a ∧ a ≤ o + 20 ∧ r ≤ j) ∨ ((a = o + 21 ∨ a = o + 22) ∧ 4 * r ≤ j) ∨ (o + 23 ≤ a ∧ a ≤ o + 30 ∧ 8 * r ≤ j) ∨ ((a = o + 31 ∨ a = o + 32) ∧ 32 * r ≤ j) ∨ ((a = o + 33 ∨ a = o + 34) ∧ c0 ≤ j)) → G' a j = G a j
section
variable {o r c0 m0 n0 r1 c1 m1 n1 : Nat} {G G1 G2 : xG_}
theorem xfg.rf (o r c0 m0 n0 : Nat) (G : xG_) : xfg o r c0 m0 n0 G G := fun _ _ _ => rfl
theorem xfg.tr (h : xfg o r c0 m0 n0 G G1) (h1 : xfg o r1 c1 m1 n1 G1 G2) (hr : r ≤ r1) (hc : c0 ≤ c1) (hm : m0 ≤ m1) (hn : n0 ≤ n1) : xfg o r c0 m0 n0 G G2 := by
  intro a j hj
  rw [h1 a j (by omega), h a j hj]
theorem xfg.up {a j : Nat} {v : Int} (G : xG_) (h : (a = 0 ∧ (j = 21 ∨ j = 23 ∨ j = 24 ∨ j = 25)) ∨ (a = o ∧ (j = 8 ∨ j = 9 ∨ j = 14 ∨ j = 37)) ∨ (a = o + 1 ∧ n0 ≤ j) ∨ (a = o + 3) ∨ (o + 6 ≤ a ∧ a ≤ o + 8) ∨ (o + 9 ≤ a ∧ a ≤ o + 12 ∧ m0 ≤ j) ∨ (o + 13 ≤ a ∧ a ≤ o + 20 ∧ r ≤ j) ∨ ((a = o + 21 ∨ a = o + 22) ∧ 4 * r ≤ j) ∨ (o + 23 ≤ a ∧ a ≤ o + 30 ∧ 8 * r ≤ j) ∨ ((a = o + 31 ∨ a = o + 32) ∧ 32 * r ≤ j) ∨ ((a = o + 33 ∨ a = o + 34) ∧ c0 ≤ j)) : xfg o r c0 m0 n0 G (xup2 G a j v) := by
  intro a' j' hj
  exact xup2_n (fun e => hj (by rw [e.1, e.2]; exact h))
theorem xfl.fg {x v0 : Nat} (h : xfl o r x v0 c0 m0 n0 G G1) (hx : 8 * r ≤ x) : xfg o r c0 m0 n0 G G1 := fun a j hj => h a j (by omega)
theorem xfi.fg {x v0 m0 n0 : Nat} (h : xfi o r x v0 c0 G G1) (hx : 4 * r ≤ x) : xfg o r c0 m0 n0 G G1 := fun a j hj => h a j (by omega)
end
theorem rEv.fg {G G' : xG_} {q n o r c0 m0 n0 : Nat} {B : Nat → Int} {lm : Bool} (h : rEv G q B n lm o) (hf : xfg o r c0 m0 n0 G G') : rEv G' q B n lm o := by
  obtain ⟨⟨a1, a2, a3, a4, a5⟩, b, c, d, e⟩ := h
  have g0 : ∀ j, j ≤ 20 ∨ j = 22 → G' 0 j = G 0 j := fun j hj => hf 0 j (by omega)
  have gb : ∀ j, G' (G 0 0).toNat j = G (G 0 0).toNat j := fun j => hf _ j (by have := a1.1; omega)
  refine ⟨⟨?_, a2, ?_, ?_, ?_⟩, ?_, ?_, ?_, e⟩
  · unfold gT
    rw [g0 0 (by omega), g0 1 (by omega)]
    exact a1
  · rw [g0 1 (by omega)]; exact a3
  · intro p
    rw [← a4 p]
    unfold gB
    rw [g0 0 (by omega), g0 1 (by omega), gb]
  · intro p hp
    rw [g0 0 (by omega), gb]
    exact a5 p hp
  · rw [g0 11 (by omega)]; exact b
  · unfold rC
    rw [g0 12 (by omega), g0 13 (by omega), g0 14 (by omega), g0 15 (by omega), g0 16 (by omega), g0 17 (by omega), g0 18 (by omega), g0 19 (by omega), g0 20 (by omega)]
    exact c
  · rw [g0 22 (by omega)]; exact d
/-- a rule as it stands -/
def rRu (G : xG_) (o q r c : Nat) (u : pRu) : Prop := G (o + 13) r = u.1 ∧ G (o + 14) r = (q : Int) + u.2.1 ∧ rGa G o r u.2.2.1 ∧ G (o + 15) r = (u.2.2.2.1.length : Int) ∧ u.2.2.2.1.length ≤ 4 ∧ (∀ k, k < u.2.2.2.1.length → rIc G o (4 * r + k) c (u.2.2.2.1.getD k [])) ∧ rVs G o q r u.2.2.2.2.1 ∧ rLs G o r c u.2.2.2.2.2
theorem rRu.fg {G G' : xG_} {o q r r0 c c' m0 n0 : Nat} {u : pRu} (h : rRu G o q r c u) (hf : xfg o r0 c m0 n0 G G') (hr : r < r0) (hc : c ≤ c') : rRu G' o q r c' u := by
  obtain ⟨a1, a2, a3, a4, a5, a6, a7, a8⟩ := h
  have hv8 := a7.2.1
  have hl8 := a8.2.1
  refine ⟨by rw [hf _ _ (by omega)]; exact a1, by rw [hf _ _ (by omega)]; exact a2, ⟨by rw [hf _ _ (by omega)]; exact a3.1, by rw [hf _ _ (by omega)]; exact a3.2.1, by rw [hf _ _ (by omega)]; exact a3.2.2.1, a3.2.2.2⟩, by rw [hf _ _ (by omega)]; exact a4, a5, fun k hk => ?_, ⟨by rw [hf _ _ (by omega)]; exact a7.1, hv8, fun v hv => ?_⟩, ⟨by rw [hf _ _ (by omega)]; exact a8.1, hl8, fun k hk => ?_⟩⟩
  · obtain ⟨a, b1, b2, b3, b4⟩ := a6 k hk
    refine ⟨a, by rw [hf _ _ (by omega)]; exact b1, by rw [hf _ _ (by omega)]; exact b2, by omega, fun j hj => ?_⟩
    rw [hf _ _ (by omega), hf _ _ (by omega)]
    exact b4 j hj
  · rw [hf _ _ (by omega), hf _ _ (by omega)]
    exact a7.2.2 v hv
  · exact (a8.2.2 k hk).fr hc (fun a h1 h2 => hf _ _ (by omega)) (fun k' hk' => ⟨hf _ _ (by omega), hf _ _ (by omega)⟩) (fun j hj => ⟨hf _ _ (by omega), hf _ _ (by omega)⟩)
section
variable {f q n o r i c cb F : Nat} {B : Nat → Int} {lm : Bool} {G : xG_} {L : Nat → Int} {N : List Int} {V : List (Int × Nat)} {g : Int × Int × Int} {I : List pCd}
/-- a NAME must stand here: its predicate -/
theorem l_nname (hf : 20 < f) (hE : rEv G q B n lm o) (hN : rNs G o N) (hA : rAt q B n lm i L) :
    pok (pPred (tstr B n lm) N i) (fun w => ∃ L', g232 f (xlx G L) = some (-1, xlx G L') ∧ L' 7 = (q : Int) + w)
      (fun p => ∃ G', g232 f (xlx G L) = some (p.1, xlx G' L) ∧ rNs G' o p.2.1 ∧ (∀ a j, ¬ (a = o + 1 ∧ N.length ≤ j) → ¬ (a = o ∧ j = 8) → G' a j = G a j) ∧ L 6 = -1) := by
  have ho := hE.2.2.2.2
  unfold g232 pPred
  rw [hA.isname hE]
  simp only [Option.bind_some, i10, Classical.not_not]
  by_cases c1 : kK (tstr B n lm) i = 1
  · have hnm := hA.nm hE c1
    rw [xlx_6]
    by_cases c2 : 12 < kE (tstr B n lm) i - kS (tstr B n lm) i
    · rw [if_pos c2] at hnm
      have e1 : pName (tstr B n lm) i = .inl (kS (tstr B n lm) i + 12) := by unfold pName; rw [if_neg (fun h => h c1), if_pos c2]
      rw [e1]
      refine ⟨xu L 7 (L 6), ?_, by show L 6 = _; rw [hnm.2.2]; omega⟩
      rw [if_pos c1, if_neg (by omega), l_fail, if_pos hA.1]
      rfl
    · rw [if_neg c2] at hnm
      have e1 : pName (tstr B n lm) i = .inr (kC (tstr B n lm) i, i + 1) := by unfold pName; rw [if_neg (fun h => h c1), if_neg c2]
      rw [e1]
      have e2 := l_pred (f := f) (x := kC (tstr B n lm) i) (a := L 4) (L := L) hf hE hN hA.1
      rw [xlx_9, xlx_4, hnm.1, e2]
      show pok (if pIdx N (kC (tstr B n lm) i) = -1 then _ else _) _ _
      by_cases c3 : pIdx N (kC (tstr B n lm) i) = -1
      · rw [if_pos c3, if_pos c3]
        by_cases c4 : N.length = 16
        · rw [if_pos c4, if_pos c4]
          refine ⟨xu L 7 (L 4), ?_, hA.at4 hE⟩
          rw [if_pos c1, if_pos hnm.2.2]
          rfl
        · rw [if_neg c4, if_neg c4]
          refine ⟨_, ?_, hN.add _ c4, fun a j h1 h2 => by rw [xup2_n (by omega), xup2_n (by omega)], hnm.2.2⟩
          rw [if_pos c1, if_pos hnm.2.2]
          rfl
      · rw [if_neg c3, if_neg c3]
        refine ⟨G, ?_, hN, fun _ _ _ _ => rfl, hnm.2.2⟩
        rw [if_pos c1, if_pos hnm.2.2]
        rfl
  · have e1 : pName (tstr B n lm) i = .inl (kS (tstr B n lm) i) := by unfold pName; rw [if_pos c1]
    rw [e1]
    refine ⟨xu L 7 (L 4), ?_, hA.at4 hE⟩
    rw [if_neg c1, xlx_4, l_fail, if_pos hA.1]
    rfl
/-- a rule begins -/
def rBeg (G : xG_) (o r : Nat) : xG_ := xup2 (xup2 (xup2 (xup2 (xup2 (xup2 (xup2 (xup2 (xup2 G 0 23 (r : Int)) 0 24 0) 0 25 0) (o + 19) r 0) (o + 20) r 0) (o + 15) r 0) (o + 16) r 0) (o + 17) r (-1)) (o + 18) r (-1)
theorem l_beg (hE : rEv G q B n lm o) (hr : r ≤ 24) : g236 f (r : Int) (xlx G L) = some (xlx (rBeg G o r) L) := by
  have h22 := hE.2.2.2.1
  have ho := hE.2.2.2.2
  refine xok_is ?_
  unfold g236
  repeat' (first | with_reducible refine xok_sb ?_ | with_reducible refine xok_it (by first | omega | (simp (disch := omega) only [eq_self, not_true_eq_false, not_false_eq_true, true_and, and_true, and_self, xlx_o, xup2_n, xup2_s, xlx_2, xlx_3, xlx_4, xlx_5, xlx_6, xlx_7, xlx_8, xlx_9, xlx_10, Int.toNat_natCast, h22]; done) | (simp (disch := omega) only [eq_self, not_true_eq_false, not_false_eq_true, true_and, and_true, and_self, xlx_o, xup2_n, xup2_s, xlx_2, xlx_3, xlx_4, xlx_5, xlx_6, xlx_7, xlx_8, xlx_9, xlx_10, Int.toNat_natCast, h22]; omega)) ?_ | with_reducible refine xok_if (by first | omega | (simp (disch := omega) only [eq_self, not_true_eq_false, not_false_eq_true, true_and, and_true, and_self, xlx_o, xup2_n, xup2_s, xlx_2, xlx_3, xlx_4, xlx_5, xlx_6, xlx_7, xlx_8, xlx_9, xlx_10, Int.toNat_natCast, h22]; done) | (simp (disch := omega) only [eq_self, not_true_eq_false, not_false_eq_true, true_and, and_true, and_self, xlx_o, xup2_n, xup2_s, xlx_2, xlx_3, xlx_4, xlx_5, xlx_6, xlx_7, xlx_8, xlx_9, xlx_10, Int.toNat_natCast, h22]; omega)) ?_ | fail)
  simp (disch := omega) only [xlx_upo, eq_self, not_true_eq_false, not_false_eq_true, true_and, and_true, and_self, xlx_o, xup2_n, xup2_s, xlx_2, xlx_3, xlx_4, xlx_5, xlx_6, xlx_7, xlx_8, xlx_9, xlx_10, Int.toNat_natCast, h22]
  exact xok_some.mpr rfl
theorem rBeg_o {a j : Nat} (h : ¬ (a = 0 ∧ (j = 23 ∨ j = 24 ∨ j = 25))) (h2 : ¬ (o + 15 ≤ a ∧ a ≤ o + 20 ∧ j = r)) : rBeg G o r a j = G a j := by
  unfold rBeg
  rw [xup2_n (by omega), xup2_n (by omega), xup2_n (by omega), xup2_n (by omega), xup2_n (by omega), xup2_n (by omega), xup2_n (by omega), xup2_n (by omega), xup2_n (by omega)]
theorem rBeg_fg {c0 m0 n0 : Nat} : xfg o r c0 m0 n0 G (rBeg G o r) := fun a j hj => rBeg_o (by omega) (by omega)
theorem rBeg_st (hE : rEv G q B n lm o) (hr : r ≤ 24) (h37 : G o 37 = (c : Int)) : rIS (rBeg G o r) q B n lm o r c [] (0, -1, -1) [] ∧ rBeg G o r (o + 19) r = 0 ∧ rBeg G o r 0 24 = 0 := by
  have ho := hE.2.2.2.2
  refine ⟨⟨⟨hE.fg (rBeg_fg (c0 := 0) (m0 := 0) (n0 := 0)), ?_, hr, ⟨?_, by decide, fun v hv => absurd hv (by simp)⟩, ?_, fun j hj => absurd hj (by simp), ?_⟩, ?_, by decide, ⟨?_, ?_, ?_, .inl ⟨rfl, rfl, rfl⟩⟩, fun k hk => absurd hk (by simp)⟩, ?_, ?_⟩
  · unfold rBeg; simp (disch := omega) only [xup2_n, xup2_s]
  · unfold rBeg; simp (disch := omega) only [xup2_n, xup2_s]; rfl
  · rw [rBeg_o (by omega) (by omega)]; exact h37
  · unfold rBeg; simp (disch := omega) only [xup2_n, xup2_s]; rfl
  · unfold rBeg; simp (disch := omega) only [xup2_n, xup2_s]; rfl
  · unfold rBeg; simp (disch := omega) only [xup2_n, xup2_s]; rfl
  · unfold rBeg; simp (disch := omega) only [xup2_n, xup2_s]
  · unfold rBeg; simp (disch := omega) only [xup2_n, xup2_s]
  · unfold rBeg; simp (disch := omega) only [xup2_n, xup2_s]
  · unfold rBeg; simp (disch := omega) only [xup2_n, xup2_s]
end
end
section
/-! The reference reads rules: from the ) of the HEAD on -/
section
variable {f q n o r i c cb F : Nat} {B : Nat → Int} {lm : Bool} {G : xG_} {L : Nat → Int} {N : List Int} {V : List (Int × Nat)} {g : Int × Int × Int} {I : List pCd} {M : List pMn}
theorem l_r176 (hf : n + 20 < f) (hE : rEv G q B n lm o) (h9 : G o 9 = (r : Int)) (hr : r < 24) (hA : rAt q B n lm i L) :
    pok (pNeed (tstr B n lm) 46 i) (fun w => ∃ G' L', g237_176 f (xlx G L) = some (xlx G' L') ∧ L' 7 = (q : Int) + w ∧ G' = xup2 G o 9 ((r + 1 : Nat) : Int))
      (fun j => ∃ L', g237_176 f (xlx G L) = some (xlx (xup2 G o 9 ((r + 1 : Nat) : Int)) L') ∧ rAt q B n lm j L') := by
  have h22 := hE.2.2.2.1
  have ho := hE.2.2.2.2
  have key : ∀ L1, g222 f 46 (xlx G L) = some (xlx G L1) → g237_176 f (xlx G L) = some (xlx (xup2 G o 9 ((r + 1 : Nat) : Int)) L1) := by
    intro L1 e
    unfold g237_176
    rw [e]
    simp only [Option.bind_some]
    rw [xlx_o _ _ (by omega), h22, if_neg (by omega), Int.toNat_natCast, xlx_o _ _ (by omega), h9, xwr_g _ (by omega) (by omega), xlx_upo _ _ _ (by omega)]
    rfl
  unfold pNeed
  by_cases c1 : kK (tstr B n lm) i = 46
  · rw [if_pos c1]
    obtain ⟨L1, n1, n2⟩ := l_need hf hE hA (c := 46) (by unfold isSg; omega) c1
    exact ⟨L1, key L1 n1, n2⟩
  · rw [if_neg c1]
    have n1 := l_need_no (f := f) hE hA (c := 46) (by unfold isSg; omega) c1
    exact ⟨_, _, key _ n1, rfl, rfl⟩
theorem l_r176_bad (hE : rEv G q B n lm o) (h9 : G o 9 = (r : Int)) (hr : r < 24) (h : L 7 ≠ -1) : g237_176 f (xlx G L) = some (xlx (xup2 G o 9 ((r + 1 : Nat) : Int)) L) := by
  have h22 := hE.2.2.2.1
  have ho := hE.2.2.2.2
  unfold g237_176
  rw [l_need_bad h]
  simp only [Option.bind_some]
  rw [xlx_o _ _ (by omega), h22, if_neg (by omega), Int.toNat_natCast, xlx_o _ _ (by omega), h9, xwr_g _ (by omega) (by omega), xlx_upo _ _ _ (by omega)]
  rfl
/-- a rule behind its HEAD's ) -/
def pBody (t : tStr) (F : Nat) (N : List Int) (V : List (Int × Nat)) (M : List pMn) (i : Nat) : Nat ⊕ (pRs × Nat) :=
  pbind (if kK t i = 256 then pbind (pLit t true F (N, V, [], M, i + 1)) (pLits t true F 9) else .inr (N, V, [], M, i)) fun l => pbind (pNeed t 46 l.2.2.2.2) fun i => .inr (l, i)
def rFl (o : Nat) (p : Int) (G G' : xG_) : Prop := ∀ a j, (o + 2 ≤ a ∧ a ≤ o + 3 ∨ o + 6 ≤ a ∧ a ≤ o + 8) → G' a j = if a = o + 8 ∧ (j : Int) = p then 1 else G a j
theorem l_body (hf : n + 20 < f) (hcb : cb + n + 3 ≤ 6200) (hF : 4 * (n + 1 - i) + 4 ≤ F) (hr : r < 24) (hS : rRS G q B n lm o r c N V [] M) (h9 : G o 9 = (r : Int)) (hA : rAt q B n lm i L) (hc : c ≤ cb + i) :
    pok (pBody (tstr B n lm) F N V M i) (fun w => ∃ G' L', ((g220 f (300) (xlx G L)).bind fun R147 => (if (R147.1) = 0 then g237_176 f R147.2 else ((g213 f R147.2).bind fun R153 => ((g246 f R153).bind fun R158 => g237_176 f R158)))) = some (xlx G' L') ∧ L' 7 = (q : Int) + w ∧ xfg o r c (min M.length 420) N.length G G')
      (fun z => ∃ G' L' c', ((g220 f (300) (xlx G L)).bind fun R147 => (if (R147.1) = 0 then g237_176 f R147.2 else ((g213 f R147.2).bind fun R153 => ((g246 f R153).bind fun R158 => g237_176 f R158)))) = some (xlx G' L') ∧ rAt q B n lm z.2 L' ∧ xfl o r (8 * r) V.length c (min M.length 420) N.length G (xup2 G' o 9 (r : Int)) ∧ G' o 9 = ((r + 1 : Nat) : Int) ∧ rRS G' q B n lm o r c' z.1.1 z.1.2.1 z.1.2.2.1 z.1.2.2.2.1 ∧ c ≤ c' ∧ c' ≤ cb + z.2) := by
  have hE := hS.1
  have ho := hE.2.2.2.2
  have hs := hA.issign (f := f) hE (c := 256) (by unfold isSg; omega)
  rw [show rsc 256 = 300 from rfl] at hs
  rw [hs]
  simp only [Option.bind_some, i10]
  have fin : ∀ (G1 : xG_) (L1 : Nat → Int) (s : pRs) (c1 : Nat), rRS G1 q B n lm o r c1 s.1 s.2.1 s.2.2.1 s.2.2.2.1 → rAt q B n lm s.2.2.2.2 L1 → G1 o 9 = (r : Int) → xfl o r (8 * r) V.length c (min M.length 420) N.length G G1 → c ≤ c1 → c1 ≤ cb + s.2.2.2.2 →
      pok (pbind (pNeed (tstr B n lm) 46 s.2.2.2.2) fun i => (.inr (s, i) : Nat ⊕ (pRs × Nat))) (fun w => ∃ G' L', g237_176 f (xlx G1 L1) = some (xlx G' L') ∧ L' 7 = (q : Int) + w ∧ xfg o r c (min M.length 420) N.length G G')
      (fun z => ∃ G' L' c', g237_176 f (xlx G1 L1) = some (xlx G' L') ∧ rAt q B n lm z.2 L' ∧ xfl o r (8 * r) V.length c (min M.length 420) N.length G (xup2 G' o 9 (r : Int)) ∧ G' o 9 = ((r + 1 : Nat) : Int) ∧ rRS G' q B n lm o r c' z.1.1 z.1.2.1 z.1.2.2.1 z.1.2.2.2.1 ∧ c ≤ c' ∧ c' ≤ cb + z.2) := by
    intro G1 L1 s c1 k1 k2 k3 k4 k5 k6
    have h1 := l_r176 (f := f) hf k1.1 k3 hr k2
    cases hp : pNeed (tstr B n lm) 46 s.2.2.2.2 with
    | inl w =>
      rw [hp] at h1
      obtain ⟨G', L', a1, a2, a3⟩ := h1
      exact ⟨G', L', a1, a2, by rw [a3]; exact (k4.fg (Nat.le_refl _)).tr (xfg.up _ (by omega)) (Nat.le_refl _) (Nat.le_refl _) (Nat.le_refl _) (Nat.le_refl _)⟩
    | inr j =>
      rw [hp] at h1
      obtain ⟨L', a1, a2⟩ := h1
      have hj := pNeed_le hp
      have e9 : xup2 (xup2 G1 o 9 ((r + 1 : Nat) : Int)) o 9 (r : Int) = G1 := by rw [xup2_w, xup2_id k3]
      obtain ⟨hE', h23, hr', hN, hV, h37, hL, hM, h24, ha3, h25⟩ := k1
      refine ⟨_, L', c1, a1, a2, by rw [e9]; exact k4, xup2_s _ _ _ _, ⟨hE'.fg (r := r) (c0 := 0) (m0 := 0) (n0 := 0) (xfg.up _ (by omega)), by rw [xup2_n (by omega)]; exact h23, hr', ⟨by rw [xup2_n (by omega)]; exact hN.1, hN.2.1, fun k hk => by rw [xup2_n (by omega)]; exact hN.2.2 k hk⟩, hV.ot (fun j => xup2_n (by omega)) (fun j => xup2_n (by omega)) (fun j => xup2_n (by omega)), by rw [xup2_n (by omega)]; exact h37, ⟨by rw [xup2_n (by omega)]; exact hL.1, hL.2.1, fun k hk => (hL.2.2 k hk).fr (Nat.le_refl _) (fun a _ _ => xup2_n (by omega)) (fun k' _ => ⟨xup2_n (by omega), xup2_n (by omega)⟩) (fun j _ => ⟨xup2_n (by omega), xup2_n (by omega)⟩)⟩, hM.fr (xup2_n (by omega)) (fun a j _ _ => xup2_n (by omega)), by rw [xup2_n (by omega)]; exact h24, ha3, by rw [xup2_n (by omega)]; exact h25⟩, k5, by show c1 ≤ cb + j; omega⟩
  unfold pBody
  by_cases c1 : kK (tstr B n lm) i = 256
  · rw [if_pos c1]
    simp only [if_neg (fun h : ¬ _ => h c1)]
    obtain ⟨_, L1, p1, p2⟩ := hA.sg (f := f) hf hE c1 (by unfold isSg; omega)
    rw [p1]
    simp only [Option.bind_some]
    have h1 := l_lits (f := f) (F := F) (tell := true) hf hcb (by constructor <;> intro _ <;> first | omega | rfl) (show 4 * (n + 1 - (i + 1)) + 4 ≤ F by omega) hS p2 (show c ≤ cb + (i + 1) by omega)
    unfold rLP at h1
    cases hp : pbind (pLit (tstr B n lm) true F (N, V, [], M, i + 1)) (pLits (tstr B n lm) true F 9) with
    | inl w =>
      rw [hp] at h1
      obtain ⟨G1, L2, a1, a2, a3, a4⟩ := h1
      have a3' : xfl o r (8 * r) V.length c (min M.length 420) N.length G G1 := a3
      refine ⟨xup2 G1 o 9 ((r + 1 : Nat) : Int), L2, ?_, a2, (a3'.fg (Nat.le_refl _)).tr (xfg.up _ (by omega)) (Nat.le_refl _) (Nat.le_refl _) (Nat.le_refl _) (Nat.le_refl _)⟩
      rw [a1]
      exact l_r176_bad (hE.fl a3) (by rw [a3' _ _ (by omega)]; exact h9) hr (by omega)
    | inr s =>
      rw [hp] at h1
      obtain ⟨G1, L2, c2, a1, a2, a3, a4, a5, a6⟩ := h1
      have a3' : xfl o r (8 * r) V.length c (min M.length 420) N.length G G1 := a3
      rw [a1]
      exact fin G1 L2 s c2 a4 a2 (by rw [a3' _ _ (by omega)]; exact h9) a3' a5 a6
  · rw [if_neg c1]
    simp only [if_pos c1]
    exact fin G L (N, V, [], M, i) c hS hA h9 (.rf _ _ _ _ _ _ _ _) (Nat.le_refl _) hc
end
end
