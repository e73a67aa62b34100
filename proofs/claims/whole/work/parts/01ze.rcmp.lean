/-! The reference reads what compares -/
def xfC (o r x v0 c0 : Nat) (G G' : xG_) : Prop := ∀ a j, ¬ ((a = 0 ∧ (j = 21 ∨ j = 25)) ∨ (a = o ∧ j = 37) ∨ (a = o + 20 ∧ j = r) ∨ ((a = o + 23 ∨ a = o + 24) ∧ 8 * r + v0 ≤ j) ∨ (o + 25 ≤ a ∧ a ≤ o + 30 ∧ j = x) ∨ ((a = o + 33 ∨ a = o + 34) ∧ c0 ≤ j)) → G' a j = G a j
theorem xfC.fl {o r x v0 c0 m0 n0 : Nat} {G G1 : xG_} (h : xfC o r x v0 c0 G G1) : xfl o r x v0 c0 m0 n0 G G1 := fun a j hj => h a j (by omega)
theorem xfe.fC {o r x v0 c0 : Nat} {G G1 : xG_} (h : xfe o r v0 c0 G G1) : xfC o r x v0 c0 G G1 := fun a j hj => h a j (by omega)
theorem xfC.tr {o r x v0 c0 v1 c1 : Nat} {G G1 G2 : xG_} (h : xfC o r x v0 c0 G G1) (h1 : xfC o r x v1 c1 G1 G2) (hv : v0 ≤ v1) (hc : c0 ≤ c1) : xfC o r x v0 c0 G G2 := by
  intro a j hj
  rw [h1 a j (by omega), h a j hj]
theorem xfC.up {o r x v0 c0 a j : Nat} {v : Int} (G : xG_) (h : (a = 0 ∧ (j = 21 ∨ j = 25)) ∨ (a = o ∧ j = 37) ∨ (a = o + 20 ∧ j = r) ∨ ((a = o + 23 ∨ a = o + 24) ∧ 8 * r + v0 ≤ j) ∨ (o + 25 ≤ a ∧ a ≤ o + 30 ∧ j = x) ∨ ((a = o + 33 ∨ a = o + 34) ∧ c0 ≤ j)) : xfC o r x v0 c0 G (xup2 G a j v) := by
  intro a' j' hj
  exact xup2_n (fun e => hj (by rw [e.1, e.2]; exact h))
theorem rEv.fC {G G' : xG_} {q n o r x v0 c0 : Nat} {B : Nat → Int} {lm : Bool} (h : rEv G q B n lm o) (hf : xfC o r x v0 c0 G G') : rEv G' q B n lm o := h.fl (hf.fl (m0 := 0) (n0 := 0))
abbrev isCs (k : Int) : Prop := k = 61 ∨ k = 257 ∨ k = 60 ∨ k = 258 ∨ k = 62 ∨ k = 259
theorem isCs_sg {k : Int} (h : isCs k) : isSg k := by
  unfold isSg
  rcases h with h | h | h | h | h | h <;> rw [h] <;> decide
section
variable {f q n o r x c0 cb : Nat} {B : Nat → Int} {lm : Bool} {G G' : xG_} {L : Nat → Int} {V : List (Int × Nat)} {Q : pCd}
theorem rX.u {a : Nat} {v : Int} (h : rX G q B n lm o r V c0 Q 0) (ha : o + 25 ≤ a ∧ a ≤ o + 30) : rX (xup2 G a x v) q B n lm o r V c0 Q 0 := by
  obtain ⟨a1, a2, a3, a4, a5, a6, a7⟩ := h
  have ho := a1.2.2.2.2
  have f1 : xfC o r x V.length c0 G (xup2 G a x v) := xfC.up G (by omega)
  refine ⟨a1.fC f1, by rw [xup2_n (by omega)]; exact a2, a3, a4.ot (fun j => xup2_n (by omega)) (fun j => xup2_n (by omega)) (fun j => xup2_n (by omega)), by rw [xup2_n (by omega)]; exact a5, fun j hj => by rw [xup2_n (by omega), xup2_n (by omega)]; exact a6 j hj, by rw [xup2_n (by omega)]; exact a7⟩
/-- a new list of codes begins behind the last one -/
theorem rX.new (h : rX G q B n lm o r V c0 Q 0) : rX G q B n lm o r V (c0 + Q.length) [] 0 := ⟨h.1, h.2.1, h.2.2.1, h.2.2.2.1, h.2.2.2.2.1, fun j hj => absurd hj (by simp), h.2.2.2.2.2.2⟩
theorem l_ex {i F : Nat} (hf : n + 20 < f) (hcb : cb + n + 3 ≤ 6200) (hF : 4 * (n + 1 - i) + 2 ≤ F) (hX : rX G q B n lm o r V c0 Q 0) (hA : rAt q B n lm i L) (hc : c0 + Q.length ≤ cb + i) :
    pok (pX (tstr B n lm) F 1 0 (V, Q, i)) (fun w => ∃ G' L', g243 f (xlx G L) = some (xlx G' L') ∧ L' 7 = (q : Int) + w ∧ xfe o r V.length (c0 + Q.length) G G' ∧ 0 ≤ G' (o + 20) r ∧ G' (o + 20) r ≤ 8)
      (fun x => ∃ G' L', g243 f (xlx G L) = some (xlx G' L') ∧ rAt q B n lm x.2.2 L' ∧ xfe o r V.length (c0 + Q.length) G G' ∧ rX G' q B n lm o r x.1 c0 x.2.1 0) := by
  have h := l_expr (f := f) (q := q) (B := B) (lm := lm) (o := o) (r := r) hf hcb 7 0 (by omega) (by omega)
  have hF' : 4 * (n + 1 - i) + (if 1 = 1 ∨ 1 = 2 then 2 else 1) ≤ F := hF
  exact h F G L V Q i c0 hF' hX hA hc
theorem l_cmp_bad (hE : rEv G q B n lm o) (hx : x < 200) (h : L 7 ≠ -1) : ∃ v, g248 f x (xlx G L) = some (xlx (xup2 (xup2 G (o + 25) x 3) (o + 29) x v) L) := by
  have h22 := hE.2.2.2.1
  have ho := hE.2.2.2.2
  refine ⟨G o 37, ?_⟩
  unfold g248
  rw [xlx_o _ _ (by omega), h22, if_neg (by omega), if_pos (by omega), Int.toNat_natCast, Int.toNat_natCast, xlx_upo _ _ _ (by omega)]
  simp only [Option.bind_some]
  rw [xlx_o _ _ (by omega), xup2_n (by omega), h22, if_neg (by omega), if_neg (by omega), if_pos (by omega), Int.toNat_natCast, xlx_o _ _ (by omega), xup2_n (by omega), xlx_upo _ _ _ (by omega)]
  simp only [xlx_2, xlx_3, xlx_4, xlx_5, xlx_6, xlx_7, xlx_8, xlx_9, xlx_10, xlx_u2, xlx_u3, xlx_u4, xlx_u5, xlx_u6, xlx_u7, xlx_u8, xlx_u9, xlx_u10, xu_e, eq_self, reduceIte, Nat.reduceEqDiff, if_true, if_false, not_true_eq_false, not_false_eq_true, Option.bind_some, i10, i01, true_and, false_and, and_false, ne_eq, Int.reduceEq, Int.reduceNeg, l_sign, h, l_fail]
theorem l_cmp {i F : Nat} (hf : n + 20 < f) (hcb : cb + n + 3 ≤ 6200) (hx : x < 200) (hF : 4 * (n + 1 - i) + 2 ≤ F) (hX : rX G q B n lm o r V c0 Q 0) (hA : rAt q B n lm i L) (hc : c0 + Q.length ≤ cb + i) :
    pok (if isCs (kK (tstr B n lm) i) then pbind (pX (tstr B n lm) F 1 0 (V, [], i + 1)) fun b => .inr b else .inl (kS (tstr B n lm) i) : Nat ⊕ pEx) (fun w => ∃ G' L', g248 f x (xlx G L) = some (xlx G' L') ∧ L' 7 = (q : Int) + w ∧ xfC o r x V.length (c0 + Q.length) G G' ∧ 0 ≤ G' (o + 20) r ∧ G' (o + 20) r ≤ 8)
      (fun b => ∃ G' L', g248 f x (xlx G L) = some (xlx G' L') ∧ rAt q B n lm b.2.2 L' ∧ xfC o r x V.length (c0 + Q.length) G G' ∧ rX G' q B n lm o r b.1 (c0 + Q.length) b.2.1 0 ∧ G' (o + 25) x = 3 ∧ G' (o + 26) x = rsc (kK (tstr B n lm) i) ∧ G' (o + 28) x = G (o + 28) x ∧ G' (o + 29) x = ((c0 + Q.length : Nat) : Int) ∧ G' (o + 30) x = ((c0 + Q.length + b.2.1.length : Nat) : Int)) := by
  have hF2 : 4 * (n + 1 - (i + 1)) + 2 ≤ F := by omega
  have hc2 : c0 + Q.length + ([] : pCd).length ≤ cb + (i + 1) := by show c0 + Q.length + 0 ≤ _; omega
  have hE := hX.1
  have h22 := hE.2.2.2.1
  have ho := hE.2.2.2.2
  have h37 := hX.2.2.2.2.1
  obtain ⟨t4, tsg, tn, tv, tu, tnum, tend, tn9, tv9, tnum9, t6, t5, tlt, t3⟩ := hA.tk hE.1.2.1
  have h7 := hA.1
  have hX1 : rX (xup2 (xup2 G (o + 25) x 3) (o + 29) x ((c0 + Q.length : Nat) : Int)) q B n lm o r V c0 Q 0 := (hX.u (x := x) (by omega)).u (by omega)
  have f1 : xfC o r x V.length (c0 + Q.length) G (xup2 (xup2 G (o + 25) x 3) (o + 29) x ((c0 + Q.length : Nat) : Int)) := (xfC.up G (by omega)).tr (xfC.up _ (by omega)) (Nat.le_refl _) (Nat.le_refl _)
  have v25 : xup2 (xup2 G (o + 25) x 3) (o + 29) x ((c0 + Q.length : Nat) : Int) (o + 25) x = 3 := by rw [xup2_n (by omega), xup2_s]
  have v28 : xup2 (xup2 G (o + 25) x 3) (o + 29) x ((c0 + Q.length : Nat) : Int) (o + 28) x = G (o + 28) x := by rw [xup2_n (by omega), xup2_n (by omega)]
  have v29 : xup2 (xup2 G (o + 25) x 3) (o + 29) x ((c0 + Q.length : Nat) : Int) (o + 29) x = ((c0 + Q.length : Nat) : Int) := xup2_s _ _ _ _
  have e0 : g248 f x (xlx G L) = if isCs (kK (tstr B n lm) i) then g248_92 f x (xlx (xup2 (xup2 G (o + 25) x 3) (o + 29) x ((c0 + Q.length : Nat) : Int)) L) else some (xlx (xup2 (xup2 G (o + 25) x 3) (o + 29) x ((c0 + Q.length : Nat) : Int)) (xu L 7 (L 4))) := by
    have a1 := tsg 61 (by unfold isSg; omega)
    have a2 := tsg 257 (by unfold isSg; omega)
    have a3 := tsg 60 (by unfold isSg; omega)
    have a4 := tsg 258 (by unfold isSg; omega)
    have a5 := tsg 62 (by unfold isSg; omega)
    have a6 := tsg 259 (by unfold isSg; omega)
    rw [show rsc 61 = 61 from rfl] at a1
    rw [show rsc 257 = 301 from rfl] at a2
    rw [show rsc 60 = 60 from rfl] at a3
    rw [show rsc 258 = 302 from rfl] at a4
    rw [show rsc 62 = 62 from rfl] at a5
    rw [show rsc 259 = 303 from rfl] at a6
    unfold g248
    rw [xlx_o _ _ (by omega), h22, if_neg (by omega), if_pos (by omega), Int.toNat_natCast, Int.toNat_natCast, xlx_upo _ _ _ (by omega)]
    simp only [Option.bind_some]
    rw [xlx_o _ _ (by omega), xup2_n (by omega), h22, if_neg (by omega), if_neg (by omega), if_pos (by omega), Int.toNat_natCast, xlx_o _ _ (by omega), xup2_n (by omega), h37, xlx_upo _ _ _ (by omega)]
    simp only [xlx_2, xlx_3, xlx_4, xlx_5, xlx_6, xlx_7, xlx_8, xlx_9, xlx_10, xlx_u2, xlx_u3, xlx_u4, xlx_u5, xlx_u6, xlx_u7, xlx_u8, xlx_u9, xlx_u10, xu_e, eq_self, reduceIte, Nat.reduceEqDiff, if_true, if_false, not_true_eq_false, not_false_eq_true, Option.bind_some, i10, i01, true_and, false_and, and_false, ne_eq, Int.reduceEq, Int.reduceNeg, l_sign, h7, l_fail, a1, a2, a3, a4, a5, a6, Classical.not_not]
    unfold isCs
    by_cases d1 : kK (tstr B n lm) i = 61
    · simp [d1]
    by_cases d2 : kK (tstr B n lm) i = 257
    · simp [d2]
    by_cases d3 : kK (tstr B n lm) i = 60
    · simp [d3]
    by_cases d4 : kK (tstr B n lm) i = 258
    · simp [d4]
    by_cases d5 : kK (tstr B n lm) i = 62
    · simp [d5]
    by_cases d6 : kK (tstr B n lm) i = 259
    · simp [d6]
    simp [d1, d2, d3, d4, d5, d6]
  rw [e0]
  clear e0 tsg tn tv tu tnum tend tn9 tv9 tnum9 t6 t5 tlt t3
  generalize xup2 (xup2 G (o + 25) x 3) (o + 29) x ((c0 + Q.length : Nat) : Int) = G1 at *
  by_cases c : isCs (kK (tstr B n lm) i)
  · rw [if_pos c, if_pos c]
    have f2 : xfC o r x V.length (c0 + Q.length) G1 (xup2 G1 (o + 26) x (L 3)) := xfC.up _ (by omega)
    have hX2 : rX (xup2 G1 (o + 26) x (L 3)) q B n lm o r V c0 Q 0 := hX1.u (by omega)
    obtain ⟨h3, L1, p1, p2⟩ := hA.sg (f := f) hf hX2.1 rfl (isCs_sg c)
    have h1 := l_ex (f := f) hf hcb hF2 hX2.new p2 hc2
    have e1 : g248_92 f x (xlx G1 L) = (g243 f (xlx (xup2 G1 (o + 26) x (L 3)) L1)).bind fun R112 => (if R112 0 22 < 0 then none else (if R112 0 22 < 0 then none else (if 0 ≤ (x : Int) ∧ (x : Int) < 200 then some (xup2 R112 ((R112 0 22).toNat + 30) x (R112 ((R112 0 22).toNat) 37)) else none))) := by
      unfold g248_92
      rw [xlx_o _ _ (by omega), hX1.1.2.2.2.1, if_neg (by omega), if_pos (by omega), Int.toNat_natCast, Int.toNat_natCast, xlx_3, xlx_upo _ _ _ (by omega)]
      simp only [Option.bind_some]
      rw [p1]
      simp only [Option.bind_some]
    rw [e1]
    clear e1
    cases hp : pX (tstr B n lm) F 1 0 (V, [], i + 1) with
    | inl w =>
      rw [hp] at h1
      obtain ⟨G2, L2, d1, d2, d3, d4, d5⟩ := h1
      have d3' : xfe o r V.length (c0 + Q.length) (xup2 G1 (o + 26) x (L 3)) G2 := d3
      have hE2 := hX2.1.fe d3
      refine ⟨xup2 G2 (o + 30) x (G2 o 37), L2, ?_, d2, ((f1.tr f2 (Nat.le_refl _) (Nat.le_refl _)).tr d3'.fC (Nat.le_refl _) (Nat.le_refl _)).tr (xfC.up _ (by omega)) (Nat.le_refl _) (Nat.le_refl _), by rw [xup2_n (by omega)]; exact ⟨d4, d5⟩⟩
      rw [d1]
      simp only [Option.bind_some]
      rw [xlx_o _ _ (by omega), hE2.2.2.2.1, if_neg (by omega), if_neg (by omega), if_pos (by omega), Int.toNat_natCast, xlx_o _ _ (by omega), xlx_upo _ _ _ (by omega)]
    | inr b =>
      rw [hp] at h1
      obtain ⟨G2, L2, d1, d2, d3, d4⟩ := h1
      have d3' : xfe o r V.length (c0 + Q.length) (xup2 G1 (o + 26) x (L 3)) G2 := d3
      have hE2 := d4.1
      have hle := pX_le F 1 0 (V, [], i + 1) b (by decide) hp
      refine ⟨xup2 G2 (o + 30) x ((c0 + Q.length + b.2.1.length : Nat) : Int), L2, ?_, d2, ((f1.tr f2 (Nat.le_refl _) (Nat.le_refl _)).tr d3'.fC (Nat.le_refl _) (Nat.le_refl _)).tr (xfC.up _ (by omega)) (Nat.le_refl _) (Nat.le_refl _), d4.u (by omega), ?_, ?_, ?_, ?_, xup2_s _ _ _ _⟩
      · rw [d1]
        simp only [Option.bind_some]
        rw [xlx_o _ _ (by omega), hE2.2.2.2.1, if_neg (by omega), if_neg (by omega), if_pos (by omega), Int.toNat_natCast, xlx_o _ _ (by omega), d4.2.2.2.2.1, xlx_upo _ _ _ (by omega)]
      · rw [xup2_n (by omega), d3' _ _ (by omega), xup2_n (by omega)]; exact v25
      · rw [xup2_n (by omega), d3' _ _ (by omega), xup2_s]; exact h3
      · rw [xup2_n (by omega), d3' _ _ (by omega), xup2_n (by omega)]; exact v28
      · rw [xup2_n (by omega), d3' _ _ (by omega), xup2_n (by omega)]; exact v29
  · rw [if_neg c, if_neg c]
    refine ⟨G1, xu L 7 (L 4), rfl, t4, f1, ?_⟩
    have := hX1.2.2.2.1
    have h1 := this.1
    have h2 := this.2.1
    omega
end
