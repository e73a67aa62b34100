/-! The reference reads EXPRESSIONS -/
def rCo (G : xG_) (o c0 : Nat) (Q : pCd) : Prop := ∀ j, j < Q.length → G (o + 33) (c0 + j) = (Q.getD j (0, 0)).1 ∧ G (o + 34) (c0 + j) = (Q.getD j (0, 0)).2
def rPut (G : xG_) (o c : Nat) (a b : Int) : xG_ := xup2 (xup2 (xup2 G (o + 33) c a) (o + 34) c b) o 37 ((c + 1 : Nat) : Int)
def rX (G : xG_) (q : Nat) (B : Nat → Int) (n : Nat) (lm : Bool) (o r : Nat) (V : List (Int × Nat)) (c0 : Nat) (Q : pCd) (b : Nat) : Prop :=
  rEv G q B n lm o ∧ G 0 23 = (r : Int) ∧ r ≤ 24 ∧ rVs G o q r V ∧ G o 37 = ((c0 + Q.length : Nat) : Int) ∧ rCo G o c0 Q ∧ G 0 25 = (b : Int)
section
variable {f q n o r i c0 b : Nat} {B : Nat → Int} {lm : Bool} {G G' : xG_} {L : Nat → Int} {V : List (Int × Nat)} {Q : pCd}
theorem l_put_bad (h : L 7 ≠ -1) (a b : Int) : g240 f a b (xlx G L) = some (xlx G L) := by
  unfold g240
  simp only [xlx_2, xlx_3, xlx_4, xlx_5, xlx_6, xlx_7, xlx_8, xlx_9, xlx_10, xlx_u2, xlx_u3, xlx_u4, xlx_u5, xlx_u6, xlx_u7, xlx_u8, xlx_u9, xlx_u10, xu_e, eq_self, reduceIte, Nat.reduceEqDiff, if_true, if_false, not_true_eq_false, not_false_eq_true, Option.bind_some, i10, i01, true_and, false_and, and_false, ne_eq, Int.reduceEq, Int.reduceNeg, l_bad, h]
theorem l_put (hE : rEv G q B n lm o) (h7 : L 7 = -1) {c : Nat} (hc : G o 37 = (c : Int)) (hc2 : c < 6200) (a b : Int) : g240 f a b (xlx G L) = some (xlx (rPut G o c a b) L) := by
  have h22 := hE.2.2.2.1
  have ho := hE.2.2.2.2
  refine xok_is ?_
  unfold g240
  rw [l_bad, if_pos h7]
  repeat' (first | with_reducible refine xok_sb ?_ | with_reducible refine xok_it (by first | omega | (simp (disch := omega) only [eq_self, not_true_eq_false, not_false_eq_true, true_and, and_true, and_self, xlx_o, xup2_n, xup2_s, xlx_2, xlx_3, xlx_4, xlx_5, xlx_6, xlx_7, xlx_8, xlx_9, xlx_10, Int.toNat_natCast, h22, hc]; done) | (simp (disch := omega) only [eq_self, not_true_eq_false, not_false_eq_true, true_and, and_true, and_self, xlx_o, xup2_n, xup2_s, xlx_2, xlx_3, xlx_4, xlx_5, xlx_6, xlx_7, xlx_8, xlx_9, xlx_10, Int.toNat_natCast, h22, hc]; omega)) ?_ | with_reducible refine xok_if (by first | omega | (simp (disch := omega) only [eq_self, not_true_eq_false, not_false_eq_true, true_and, and_true, and_self, xlx_o, xup2_n, xup2_s, xlx_2, xlx_3, xlx_4, xlx_5, xlx_6, xlx_7, xlx_8, xlx_9, xlx_10, Int.toNat_natCast, h22, hc]; done) | (simp (disch := omega) only [eq_self, not_true_eq_false, not_false_eq_true, true_and, and_true, and_self, xlx_o, xup2_n, xup2_s, xlx_2, xlx_3, xlx_4, xlx_5, xlx_6, xlx_7, xlx_8, xlx_9, xlx_10, Int.toNat_natCast, h22, hc]; omega)) ?_ | fail)
  simp (disch := omega) only [xlx_upo, eq_self, not_true_eq_false, not_false_eq_true, true_and, and_true, and_self, xlx_o, xup2_n, xup2_s, xlx_2, xlx_3, xlx_4, xlx_5, xlx_6, xlx_7, xlx_8, xlx_9, xlx_10, Int.toNat_natCast, h22, hc]
  rw [xwr_g _ (by omega) (by omega)]
  exact xok_some.mpr rfl
theorem rPut_fe (G : xG_) (o r v0 : Nat) {c0 c : Nat} (h : c0 ≤ c) (a b : Int) : xfe o r v0 c0 G (rPut G o c a b) := ((xfe.up G (by omega)).tr (xfe.up _ (by omega)) (Nat.le_refl _) (Nat.le_refl _)).tr (xfe.up _ (by omega)) (Nat.le_refl _) (Nat.le_refl _)
theorem rPut_o {c a j : Nat} {x y : Int} (h : ¬ (a = o + 33 ∨ a = o + 34 ∨ a = o ∧ j = 37)) : rPut G o c x y a j = G a j := by
  unfold rPut
  rw [xup2_n (by omega), xup2_n (by omega), xup2_n (by omega)]
theorem rVs.ot (h : rVs G o q r V) (h1 : ∀ j, G' (o + 20) j = G (o + 20) j) (h2 : ∀ j, G' (o + 23) j = G (o + 23) j) (h3 : ∀ j, G' (o + 24) j = G (o + 24) j) : rVs G' o q r V := ⟨by rw [h1]; exact h.1, h.2.1, fun v hv => by rw [h2, h3]; exact h.2.2 v hv⟩
theorem rCo.put (h : rCo G o c0 Q) (x y : Int) : rCo (rPut G o (c0 + Q.length) x y) o c0 (Q ++ [(x, y)]) := by
  intro j hj
  rw [len1] at hj
  rw [getD_1]
  unfold rPut
  by_cases c : j = Q.length
  · rw [if_pos c, c]
    rw [xup2_n (by omega), xup2_n (by omega), xup2_s, xup2_n (by omega), xup2_s]
    exact ⟨rfl, rfl⟩
  · rw [if_neg c, xup2_n (by omega), xup2_n (by omega), xup2_n (by omega), xup2_n (by omega), xup2_n (by omega), xup2_n (by omega)]
    exact h j (by omega)
theorem rCo.fe {v0 c : Nat} (h : rCo G o c0 Q) (hf : xfe o r v0 c G G') (hc : c0 + Q.length ≤ c) : rCo G' o c0 Q := by
  intro j hj
  rw [hf _ _ (by omega), hf _ _ (by omega)]
  exact h j hj
theorem rX.put (h : rX G q B n lm o r V c0 Q b) (x y : Int) : rX (rPut G o (c0 + Q.length) x y) q B n lm o r V c0 (Q ++ [(x, y)]) b := by
  obtain ⟨a1, a2, a3, a4, a5, a6, a7⟩ := h
  have ho := a1.2.2.2.2
  refine ⟨a1.fe (rPut_fe G o r 0 (Nat.le_refl _) x y), ?_, a3, a4.ot (fun j => rPut_o (by omega)) (fun j => rPut_o (by omega)) (fun j => rPut_o (by omega)), ?_, a6.put x y, ?_⟩
  · rw [rPut_o (by omega)]; exact a2
  · rw [len1]; exact xup2_s _ _ _ _
  · rw [rPut_o (by omega)]; exact a7
/-- what reading an EXPRESSION (or a part of one) does -/
def rXP (f q : Nat) (B : Nat → Int) (n : Nat) (lm : Bool) (o r cb m b : Nat) (e : xG_ → Option xG_) : Prop :=
  ∀ (F : Nat) (G : xG_) (L : Nat → Int) (V : List (Int × Nat)) (Q : pCd) (i c0 : Nat), 4 * (n + 1 - i) + (if m = 1 ∨ m = 2 then 2 else 1) ≤ F → rX G q B n lm o r V c0 Q b → rAt q B n lm i L → c0 + Q.length ≤ cb + i →
    pok (pX (tstr B n lm) F m b (V, Q, i)) (fun w => ∃ G' L', e (xlx G L) = some (xlx G' L') ∧ L' 7 = (q : Int) + w ∧ xfe o r V.length (c0 + Q.length) G G' ∧ 0 ≤ G' (o + 20) r ∧ G' (o + 20) r ≤ 8)
      (fun x => ∃ G' L', e (xlx G L) = some (xlx G' L') ∧ rAt q B n lm x.2.2 L' ∧ xfe o r V.length (c0 + Q.length) G G' ∧ rX G' q B n lm o r x.1 c0 x.2.1 b)
def rXB (e : xG_ → Option xG_) : Prop := ∀ (G : xG_) (L : Nat → Int), rC G → L 7 ≠ -1 → e (xlx G L) = some (xlx G L)
theorem rAt.le (hB : tTx B n) (h : rAt q B n lm i L) : i ≤ n := Nat.le_trans h.2.2.1 (tS_le hB i).1
theorem l_prim_bad {e : xG_ → Option xG_} (hq : rXB e) : rXB (g241 e f) := by
  intro G L hC h
  unfold g241 g241_101
  simp only [xlx_2, xlx_3, xlx_4, xlx_5, xlx_6, xlx_7, xlx_8, xlx_9, xlx_10, xlx_u2, xlx_u3, xlx_u4, xlx_u5, xlx_u6, xlx_u7, xlx_u8, xlx_u9, xlx_u10, xu_e, eq_self, reduceIte, Nat.reduceEqDiff, if_true, if_false, not_true_eq_false, not_false_eq_true, Option.bind_some, i10, i01, true_and, false_and, and_false, ne_eq, Int.reduceEq, Int.reduceNeg, l_kind, l_sign, h, l_value_bad hC h]
theorem rC.u {k : Nat} {v : Int} (h : rC G) (hk : k = 25) : rC (xup2 G 0 k v) := by
  subst hk
  unfold rC
  rw [xup2_n (by omega), xup2_n (by omega), xup2_n (by omega), xup2_n (by omega), xup2_n (by omega), xup2_n (by omega), xup2_n (by omega), xup2_n (by omega), xup2_n (by omega)]
  exact h
theorem l_prim_e {e : xG_ → Option xG_} {G : xG_} {L : Nat → Int} {i : Nat} (hE : rEv G q B n lm o) (hA : rAt q B n lm i L) : g241 e f (xlx G L) = if kK (tstr B n lm) i = 2 then ((g239 f (xlx G L)).bind fun R153 => ((g240 f (2) (R153.1) R153.2).bind fun R158 => some R158))
      else if kK (tstr B n lm) i = 40 then (if ¬ G 0 25 = (4) then g241_48 e f (xlx G L) else g241_48 e f (xlx G (xu L 7 (L 4))))
      else ((g227 f (xlx G L)).bind fun R136 => (if (R136.1) = 0 then some R136.2 else ((g240 f (1) (R136.2 (0) 21) R136.2).bind fun R142 => some R142))) := by
  obtain ⟨t4, tsg, tn, tv, tu, tnum, tend, tn9, tv9, tnum9, t6, t5, tlt, t3⟩ := hA.tk hE.1.2.1
  have h7 := hA.1
  have s40 := tsg 40 (by unfold isSg; omega)
  rw [show rsc 40 = 40 from rfl] at s40
  unfold g241 g241_101
  simp only [xlx_2, xlx_3, xlx_4, xlx_5, xlx_6, xlx_7, xlx_8, xlx_9, xlx_10, xlx_u2, xlx_u3, xlx_u4, xlx_u5, xlx_u6, xlx_u7, xlx_u8, xlx_u9, xlx_u10, xu_e, eq_self, reduceIte, Nat.reduceEqDiff, if_true, if_false, not_true_eq_false, not_false_eq_true, Option.bind_some, i10, i01, true_and, false_and, and_false, ne_eq, Int.reduceEq, Int.reduceNeg, l_kind, l_sign, h7, tv, s40, l_fail]
  rw [xlx_o G L (by omega)]
  by_cases c1 : kK (tstr B n lm) i = 2
  · simp [c1]
  · by_cases c2 : kK (tstr B n lm) i = 40
    · simp [c2]
    · simp [c1, c2]
theorem l_prim_var {cb : Nat} {e : xG_ → Option xG_} (hf : n + 20 < f) (hcb : cb + n + 3 ≤ 6200) {G : xG_} {L : Nat → Int} {V : List (Int × Nat)} {Q : pCd} {i c0 : Nat} (hX : rX G q B n lm o r V c0 Q b) (hA : rAt q B n lm i L) (hc : c0 + Q.length ≤ cb + i) (c1 : kK (tstr B n lm) i = 2) :
    pok (pbind (pVar (tstr B n lm) V i) fun r => .inr (r.2.1, Q ++ [(2, r.1)], r.2.2)) (fun w => ∃ G' L', g241 e f (xlx G L) = some (xlx G' L') ∧ L' 7 = (q : Int) + w ∧ xfe o r V.length (c0 + Q.length) G G' ∧ 0 ≤ G' (o + 20) r ∧ G' (o + 20) r ≤ 8)
      (fun x => ∃ G' L', g241 e f (xlx G L) = some (xlx G' L') ∧ rAt q B n lm x.2.2 L' ∧ xfe o r V.length (c0 + Q.length) G G' ∧ rX G' q B n lm o r x.1 c0 x.2.1 b) := by
  have hX' := hX
  obtain ⟨hE, h23, hr, hV, h37, hCo, h25⟩ := hX'
  have hin := hA.le hE.1.2.1
  have ho := hE.2.2.2.2
  have htk := hA.tk hE.1.2.1
  obtain ⟨t4, tsg, tn, tv, tu, tnum, tend, tn9, tv9, tnum9, t6, t5, tlt, t3⟩ := htk
  have h7 := hA.1
  have h1 := l_var hf hE h23 hr hV hA c1 (c0 + Q.length)
  have e0 := l_prim_e (e := e) (f := f) hE hA
  rw [if_pos c1] at e0
  cases hp : pVar (tstr B n lm) V i with
  | inl w =>
    rw [hp] at h1
    obtain ⟨L', e1, e2⟩ := h1
    refine ⟨G, L', ?_, e2, .rf _ _ _ _ _, ?_⟩
    · rw [e0, e1, Option.bind_some, l_put_bad (by omega)]
      rfl
    · have := hV.1; have := hV.2.1; omega
  | inr x =>
    rw [hp] at h1
    obtain ⟨G1, L', e1, e2, e3, e4, e5, e6, e7, e8⟩ := h1
    have hX1 : rX G1 q B n lm o r x.2.1 c0 Q b := ⟨hE.fe e3, by rw [e3 _ _ (by omega)]; exact h23, hr, e4, by rw [e5]; exact h37, hCo.fe e3 (Nat.le_refl _), by rw [e6]; exact h25⟩
    refine ⟨rPut G1 o (c0 + Q.length) 2 x.1, L', ?_, e2, e3.tr (rPut_fe G1 o r x.2.1.length (Nat.le_refl _) _ _) (pVar_le hp).2.1 (Nat.le_refl _), hX1.put 2 x.1⟩
    rw [e0, e1, Option.bind_some, l_put hX1.1 e2.1 hX1.2.2.2.2.1 (by omega)]
    rfl
theorem l_prim_val {cb : Nat} {e : xG_ → Option xG_} (hf : n + 20 < f) (hcb : cb + n + 3 ≤ 6200) {G : xG_} {L : Nat → Int} {V : List (Int × Nat)} {Q : pCd} {i c0 : Nat} (hX : rX G q B n lm o r V c0 Q b) (hA : rAt q B n lm i L) (hc : c0 + Q.length ≤ cb + i) (c1 : ¬ kK (tstr B n lm) i = 2) (c2 : ¬ kK (tstr B n lm) i = 40) :
    pok (pbind (pVal (tstr B n lm) i) fun r => .inr (V, Q ++ [(1, r.1)], r.2)) (fun w => ∃ G' L', g241 e f (xlx G L) = some (xlx G' L') ∧ L' 7 = (q : Int) + w ∧ xfe o r V.length (c0 + Q.length) G G' ∧ 0 ≤ G' (o + 20) r ∧ G' (o + 20) r ≤ 8)
      (fun x => ∃ G' L', g241 e f (xlx G L) = some (xlx G' L') ∧ rAt q B n lm x.2.2 L' ∧ xfe o r V.length (c0 + Q.length) G G' ∧ rX G' q B n lm o r x.1 c0 x.2.1 b) := by
  have hX' := hX
  obtain ⟨hE, h23, hr, hV, h37, hCo, h25⟩ := hX'
  have hin := hA.le hE.1.2.1
  have ho := hE.2.2.2.2
  have htk := hA.tk hE.1.2.1
  obtain ⟨t4, tsg, tn, tv, tu, tnum, tend, tn9, tv9, tnum9, t6, t5, tlt, t3⟩ := htk
  have h7 := hA.1
  have h1 := l_value (f := f) hf hE hA
  have e0 := l_prim_e (e := e) (f := f) hE hA
  rw [if_neg c1, if_neg c2] at e0
  cases hp : pVal (tstr B n lm) i with
  | inl w =>
    rw [hp] at h1
    obtain ⟨L', e1, e2⟩ := h1
    refine ⟨G, L', ?_, e2, .rf _ _ _ _ _, ?_⟩
    · rw [e0, e1, Option.bind_some, if_pos rfl]
    · have := hV.1; have := hV.2.1; omega
  | inr x =>
    rw [hp] at h1
    obtain ⟨L', e1, e2, _, _⟩ := h1
    have f1 : xfe o r V.length (c0 + Q.length) G (xup2 G 0 21 x.1) := xfe.up G (by omega)
    have hX1 : rX (xup2 G 0 21 x.1) q B n lm o r V c0 Q b := ⟨hE.fe f1, by rw [xup2_n (by omega)]; exact h23, hr, hV.ot (fun j => xup2_n (by omega)) (fun j => xup2_n (by omega)) (fun j => xup2_n (by omega)), by rw [xup2_n (by omega)]; exact h37, hCo.fe f1 (Nat.le_refl _), by rw [xup2_n (by omega)]; exact h25⟩
    refine ⟨rPut (xup2 G 0 21 x.1) o (c0 + Q.length) 1 x.1, L', ?_, e2, f1.tr (rPut_fe _ o r V.length (Nat.le_refl _) _ _) (Nat.le_refl _) (Nat.le_refl _), hX1.put 1 x.1⟩
    rw [e0, e1]
    simp only [Option.bind_some]
    rw [if_neg (by decide), xlx_o _ _ (by omega), xup2_s, l_put hX1.1 e2.1 hX1.2.2.2.2.1 (by omega)]
    rfl
theorem l_par4 {e : xG_ → Option xG_} {G : xG_} {L : Nat → Int} (hq : rXB e) (hC : rC G) (hbad : L 7 ≠ -1) (h25 : G 0 25 = 4) : g241_48 e f (xlx G L) = some (xlx (xup2 (xup2 G 0 25 5) 0 25 4) L) := by
  have g25 : xlx (xup2 G 0 25 5) L 0 25 = 5 := rfl
  unfold g241_48 g241_101
  rw [xlx_o G _ (by omega), h25, xwr_g _ (by decide) (by decide), xlx_upo _ _ _ (by omega)]
  simp only [Option.bind_some]
  rw [show (4 : Int) + 1 = 5 from rfl, l_pass_bad hbad]
  simp only [Option.bind_some]
  rw [hq _ _ (hC.u rfl) hbad]
  simp only [Option.bind_some]
  rw [g25, xwr_g _ (by decide) (by decide), xlx_upo _ _ _ (by omega), show (5 : Int) - 1 = 4 from rfl, l_need_bad hbad]
  rfl
theorem l_prim_par {cb F : Nat} {e : xG_ → Option xG_} (hf : n + 20 < f) (hcb : cb + n + 3 ≤ 6200) (hb : b ≤ 4) (hq : rXB e) (hQ : b < 4 → rXP f q B n lm o r cb 1 (b + 1) e) {G : xG_} {L : Nat → Int} {V : List (Int × Nat)} {Q : pCd} {i c0 : Nat} (hX : rX G q B n lm o r V c0 Q b) (hA : rAt q B n lm i L) (hc : c0 + Q.length ≤ cb + i) (hF : 4 * (n + 1 - i) + 1 ≤ F + 1) (c2 : kK (tstr B n lm) i = 40) :
    pok (if b = 4 then .inl (kS (tstr B n lm) i) else pbind (pX (tstr B n lm) F 1 (b + 1) (V, Q, i + 1)) fun e' => pbind (pNeed (tstr B n lm) 41 e'.2.2) fun i => .inr (e'.1, e'.2.1, i)) (fun w => ∃ G' L', g241 e f (xlx G L) = some (xlx G' L') ∧ L' 7 = (q : Int) + w ∧ xfe o r V.length (c0 + Q.length) G G' ∧ 0 ≤ G' (o + 20) r ∧ G' (o + 20) r ≤ 8)
      (fun x => ∃ G' L', g241 e f (xlx G L) = some (xlx G' L') ∧ rAt q B n lm x.2.2 L' ∧ xfe o r V.length (c0 + Q.length) G G' ∧ rX G' q B n lm o r x.1 c0 x.2.1 b) := by
  have hX' := hX
  obtain ⟨hE, h23, hr, hV, h37, hCo, h25⟩ := hX'
  have hin := hA.le hE.1.2.1
  have ho := hE.2.2.2.2
  have htk := hA.tk hE.1.2.1
  obtain ⟨t4, tsg, tn, tv, tu, tnum, tend, tn9, tv9, tnum9, t6, t5, tlt, t3⟩ := htk
  have h7 := hA.1
  have s40 := tsg 40 (by unfold isSg; omega)
  rw [show rsc 40 = 40 from rfl] at s40
  have e0 := l_prim_e (e := e) (f := f) hE hA
  rw [if_neg (by omega), if_pos c2, h25] at e0
  have k2 := s40.mpr c2
  have h6 : L 6 = -1 := by rw [t6, k2.1]; rfl
  by_cases c4 : b = 4
  · rw [if_pos c4]
    rw [if_neg (by omega)] at e0
    have hbad : xu L 7 (L 4) 7 ≠ -1 := by show L 4 ≠ -1; omega
    refine ⟨xup2 (xup2 G 0 25 5) 0 25 4, xu L 7 (L 4), ?_, t4, ((xfe.up G (by omega)).tr (xfe.up _ (by omega)) (Nat.le_refl _) (Nat.le_refl _)), ?_⟩
    · rw [e0, l_par4 hq hE.2.2.1 hbad (by rw [h25, c4]; rfl)]
    · rw [xup2_n (by omega), xup2_n (by omega)]
      have := hV.1; have := hV.2.1; omega
  · rw [if_neg c4]
    rw [if_pos (by omega)] at e0
    have hE1 : rEv (xup2 G 0 25 ((b + 1 : Nat) : Int)) q B n lm o := hE.u (by omega)
    obtain ⟨L1, p1, p2⟩ := l_pass hf hE1 hA h6 (by omega) (by omega)
    have f0 : xfe o r V.length (c0 + Q.length) G (xup2 G 0 25 ((b + 1 : Nat) : Int)) := xfe.up G (by omega)
    have hX1 : rX (xup2 G 0 25 ((b + 1 : Nat) : Int)) q B n lm o r V c0 Q (b + 1) := ⟨hE1, by rw [xup2_n (by omega)]; exact h23, hr, hV.ot (fun j => xup2_n (by omega)) (fun j => xup2_n (by omega)) (fun j => xup2_n (by omega)), by rw [xup2_n (by omega)]; exact h37, hCo.fe f0 (Nat.le_refl _), xup2_s _ _ _ _⟩
    have h1 := hQ (by omega) F _ L1 V Q (i + 1) c0 (by rw [if_pos (.inl rfl)]; omega) hX1 p2 (by omega)
    have e1 : g241_48 e f (xlx G L) = (e (xlx (xup2 G 0 25 ((b + 1 : Nat) : Int)) L1)).bind fun R110 => ((some (xup2 R110 (0) 25 (xwr ((R110 (0) 25) - (1))))).bind fun G118 => ((g222 f (41) G118).bind fun R119 => some R119)) := by
      unfold g241_48 g241_101
      rw [xlx_o G _ (by omega), h25, xwr_g _ (by omega) (by omega), xlx_upo _ _ _ (by omega)]
      simp only [Option.bind_some]
      rw [show (b : Int) + 1 = ((b + 1 : Nat) : Int) by omega, p1]
      simp only [Option.bind_some]
    rw [e1] at e0
    cases hp : pX (tstr B n lm) F 1 (b + 1) (V, Q, i + 1) with
    | inl w =>
      rw [hp] at h1
      obtain ⟨G1, L', e2, e3, e4, e5, e6⟩ := h1
      have hbad : L' 7 ≠ -1 := by omega
      refine ⟨xup2 G1 0 25 (xwr (G1 0 25 - 1)), L', ?_, e3, (f0.tr e4 (Nat.le_refl _) (Nat.le_refl _)).tr (xfe.up _ (by omega)) (Nat.le_refl _) (Nat.le_refl _), by rw [xup2_n (by omega)]; omega⟩
      rw [e0, e2]
      simp only [Option.bind_some]
      rw [xlx_o G1 L' (by omega), xlx_upo _ _ _ (by omega), l_need_bad hbad]
      rfl
    | inr x =>
      rw [hp] at h1
      obtain ⟨G1, L2, e2, e3, e4, e5⟩ := h1
      have e5' := e5
      obtain ⟨b1, b2, b3, b4, b5, b6, b7⟩ := e5'
      have hE2 : rEv (xup2 G1 0 25 (b : Int)) q B n lm o := b1.u (by omega)
      have hx25 : xwr (((b + 1 : Nat) : Int) - 1) = (b : Int) := by rw [xwr_g _ (by omega) (by omega)]; omega
      have f2 : xfe o r V.length (c0 + Q.length) G (xup2 G1 0 25 (b : Int)) := (f0.tr e4 (Nat.le_refl _) (Nat.le_refl _)).tr (xfe.up _ (by omega)) (Nat.le_refl _) (Nat.le_refl _)
      have f3 : xfe o r x.1.length (c0 + x.2.1.length) G1 (xup2 G1 0 25 (b : Int)) := xfe.up _ (by omega)
      show pok (pbind (pNeed (tstr B n lm) 41 x.2.2) fun i => .inr (x.1, x.2.1, i)) _ _
      unfold pNeed
      rw [e2] at e0
      simp only [Option.bind_some] at e0
      rw [xlx_o G1 L2 (by omega), b7, hx25, xlx_upo _ _ _ (by omega), show (41 : Int) = rsc 41 from rfl] at e0
      by_cases c5 : kK (tstr B n lm) x.2.2 = 41
      · rw [if_pos c5]
        obtain ⟨L3, n1, n2⟩ := l_need hf hE2 e3 (c := 41) (by unfold isSg; omega) c5
        refine ⟨_, L3, ?_, n2, f2, ⟨hE2, by rw [xup2_n (by omega)]; exact b2, b3, b4.ot (fun j => xup2_n (by omega)) (fun j => xup2_n (by omega)) (fun j => xup2_n (by omega)), by rw [xup2_n (by omega)]; exact b5, b6.fe f3 (Nat.le_refl _), xup2_s _ _ _ _⟩⟩
        rw [e0, n1]
        rfl
      · rw [if_neg c5]
        have n1 := l_need_no (f := f) hE2 e3 (c := 41) (by unfold isSg; omega) c5
        refine ⟨_, xu L2 7 ((q : Int) + kS (tstr B n lm) x.2.2), ?_, rfl, f2, by rw [xup2_n (by omega)]; have := b4.1; have := b4.2.1; omega⟩
        rw [e0, n1]
        rfl
theorem l_prim {cb : Nat} {e : xG_ → Option xG_} (hf : n + 20 < f) (hcb : cb + n + 3 ≤ 6200) (hb : b ≤ 4) (hq : rXB e) (hQ : b < 4 → rXP f q B n lm o r cb 1 (b + 1) e) : rXP f q B n lm o r cb 0 b (g241 e f) := by
  intro F G L V Q i c0 hF hX hA hc
  rw [if_neg (by decide)] at hF
  obtain ⟨F, rfl⟩ : ∃ t, F = t + 1 := ⟨F - 1, by omega⟩
  rw [pX_0]
  by_cases c1 : kK (tstr B n lm) i = 2
  · rw [if_pos c1]
    exact l_prim_var hf hcb hX hA hc c1
  · rw [if_neg c1]
    by_cases c2 : kK (tstr B n lm) i = 40
    · rw [if_pos c2]
      exact l_prim_par hf hcb hb hq hQ hX hA hc hF c2
    · rw [if_neg c2]
      exact l_prim_val hf hcb hX hA hc c1 c2
end
