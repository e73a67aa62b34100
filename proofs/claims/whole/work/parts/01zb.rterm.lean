/-! The reference reads TERMS, ATOMS -/
def xft (o r v0 t0 : Nat) (G G' : xG_) : Prop := ∀ a j, ¬ ((a = 0 ∧ j = 21) ∨ (a = o + 20 ∧ j = r) ∨ ((a = o + 23 ∨ a = o + 24) ∧ 8 * r + v0 ≤ j) ∨ ((a = o + 31 ∨ a = o + 32) ∧ t0 ≤ j)) → G' a j = G a j
theorem xft.fl {o r v0 t0 x c0 m0 n0 : Nat} {G G1 : xG_} (h : xft o r v0 t0 G G1) (hx : 4 * x ≤ t0) : xfl o r x v0 c0 m0 n0 G G1 := fun a j hj => h a j (by omega)
theorem xft.tr {o r v0 t0 v1 t1 : Nat} {G G1 G2 : xG_} (h : xft o r v0 t0 G G1) (h1 : xft o r v1 t1 G1 G2) (hv : v0 ≤ v1) (ht : t0 ≤ t1) : xft o r v0 t0 G G2 := by
  intro a j hj
  rw [h1 a j (by omega), h a j hj]
theorem xft.rf (o r v0 t0 : Nat) (G : xG_) : xft o r v0 t0 G G := fun _ _ _ => rfl
theorem xft.up {o r v0 t0 a j : Nat} {v : Int} (G : xG_) (h : (a = 0 ∧ j = 21) ∨ (a = o + 20 ∧ j = r) ∨ ((a = o + 23 ∨ a = o + 24) ∧ 8 * r + v0 ≤ j) ∨ ((a = o + 31 ∨ a = o + 32) ∧ t0 ≤ j)) : xft o r v0 t0 G (xup2 G a j v) := by
  intro a' j' hj
  exact xup2_n (fun e => hj (by rw [e.1, e.2]; exact h))
def rTs (G : xG_) (o x : Nat) (T : pCd) : Prop := ∀ k, k < T.length → G (o + 31) (4 * x + k) = (T.getD k (0, 0)).1 ∧ ((T.getD k (0, 0)).1 ≠ 2 → G (o + 32) (4 * x + k) = (T.getD k (0, 0)).2)
theorem rEv.ft {G G' : xG_} {q n o r v0 t0 : Nat} {B : Nat → Int} {lm : Bool} (h : rEv G q B n lm o) (hf : xft o r v0 t0 G G') : rEv G' q B n lm o := h.fl (hf.fl (x := t0 / 4) (c0 := 0) (m0 := 0) (n0 := 0) (by omega))
section
variable {f q n o r i x k : Nat} {B : Nat → Int} {lm : Bool} {G G' : xG_} {L : Nat → Int} {V : List (Int × Nat)} {T : pCd}
theorem l_term_bad (h : L 7 ≠ -1) (a b : Int) : g250 f a b (xlx G L) = some (xlx G L) := by
  unfold g250
  simp only [xlx_2, xlx_3, xlx_4, xlx_5, xlx_6, xlx_7, xlx_8, xlx_9, xlx_10, xlx_u2, xlx_u3, xlx_u4, xlx_u5, xlx_u6, xlx_u7, xlx_u8, xlx_u9, xlx_u10, xu_e, eq_self, reduceIte, Nat.reduceEqDiff, if_true, if_false, not_true_eq_false, not_false_eq_true, Option.bind_some, i10, i01, true_and, false_and, and_false, ne_eq, Int.reduceEq, Int.reduceNeg, l_bad, h]
theorem l_term (hf : n + 20 < f) (hE : rEv G q B n lm o) (h23 : G 0 23 = (r : Int)) (hr : r ≤ 24) (hV : rVs G o q r V) (hA : rAt q B n lm i L) (hx : x < 200) (hk : k < 4) :
    pok (pTerm (tstr B n lm) V i) (fun w => ∃ G' L', g250 f x k (xlx G L) = some (xlx G' L') ∧ L' 7 = (q : Int) + w ∧ xft o r V.length (4 * x + k) G G' ∧ 0 ≤ G' (o + 20) r ∧ G' (o + 20) r ≤ 8)
      (fun y => ∃ G' L', g250 f x k (xlx G L) = some (xlx G' L') ∧ rAt q B n lm y.2.2 L' ∧ xft o r V.length (4 * x + k) G G' ∧ rVs G' o q r y.2.1 ∧ G' (o + 31) (4 * x + k) = y.1.1 ∧ (y.1.1 ≠ 2 → G' (o + 32) (4 * x + k) = y.1.2)) := by
  obtain ⟨t4, tsg, tn, tv, tu, tnum, tend, tn9, tv9, tnum9, t6, t5, tlt, t3⟩ := hA.tk hE.1.2.1
  have h7 := hA.1
  have h22 := hE.2.2.2.1
  have ho := hE.2.2.2.2
  have ex : xwr (xwr ((x : Int) * 4) + k) = ((4 * x + k : Nat) : Int) := by rw [xwr_g ((x : Int) * 4) (by omega) (by omega), xwr_g _ (by omega) (by omega)]; omega
  have hV8 := hV.1
  have hV9 := hV.2.1
  unfold pTerm
  have hb0 : ∀ c : Prop, [Decidable c] → (if c then (1 : Int) else 0) = 0 ↔ ¬ c := fun c _ => by rw [i10]
  by_cases c1 : kK (tstr B n lm) i = 2
  · rw [if_pos c1]
    have k2 := tv.mpr c1
    have f1 : xft o r V.length (4 * x + k) G (xup2 G (o + 31) (4 * x + k) 1) := xft.up G (by omega)
    have hE1 := hE.ft f1
    have hV1 : rVs (xup2 G (o + 31) (4 * x + k) 1) o q r V := hV.ot (fun j => xup2_n (by omega)) (fun j => xup2_n (by omega)) (fun j => xup2_n (by omega))
    have h1 := l_var hf hE1 (by rw [xup2_n (by omega)]; exact h23) hr hV1 hA c1 0
    have e0 : g250 f x k (xlx G L) = (g239 f (xlx (xup2 G (o + 31) (4 * x + k) 1) L)).bind fun R155 => some (xup2 R155.2 (o + 32) (4 * x + k) R155.1) := by
      unfold g250 g250_104
      rw [l_bad, if_pos h7]
      simp only [Option.bind_some]
      rw [if_pos trivial, l_kind, if_pos ⟨h7, k2⟩]
      simp only [Option.bind_some]
      rw [if_neg (by decide), xlx_o _ _ (by omega), h22, if_neg (by omega), Int.toNat_natCast, ex, if_pos (by omega), Int.toNat_natCast, xlx_upo _ _ _ (by omega)]
      try simp only [Option.bind_some]
      rw [xlx_o _ _ (by omega), xup2_n (by omega), h22, if_neg (by omega), Int.toNat_natCast]
      refine congrArg (Option.bind _) (funext fun R => ?_)
      rw [if_pos (by omega)]
    rw [e0]
    cases hp : pVar (tstr B n lm) V i with
    | inl w =>
      rw [hp] at h1
      obtain ⟨L', e1, e2⟩ := h1
      refine ⟨xup2 (xup2 G (o + 31) (4 * x + k) 1) (o + 32) (4 * x + k) 0, L', ?_, e2, f1.tr (xft.up _ (by omega)) (Nat.le_refl _) (Nat.le_refl _), ?_⟩
      · rw [e1]
        simp only [Option.bind_some]
        rw [xlx_upo _ _ _ (by omega)]
      · rw [xup2_n (by omega), xup2_n (by omega)]
        omega
    | inr y =>
      rw [hp] at h1
      obtain ⟨G1, L', e1, e2, e3, e4, e5, e6, e7, e8⟩ := h1
      have f2 : xft o r V.length (4 * x + k) (xup2 G (o + 31) (4 * x + k) 1) G1 := by
        intro a j hj
        by_cases c : a = o ∧ j = 37
        · rw [c.1, c.2, e5]
        by_cases c' : a = 0 ∧ j = 25
        · rw [c'.1, c'.2, e6]
        by_cases c2 : (a = o + 33 ∨ a = o + 34)
        · have h2 := l_var hf hE1 (by rw [xup2_n (by omega)]; exact h23) hr hV1 hA c1 (j + 1)
          rw [hp] at h2
          obtain ⟨G2, L2, d1, d2, d3, _⟩ := h2
          rw [e1] at d1
          have eG : xlx G1 L' = xlx G2 L2 := by injection d1 with d1; injection d1
          have := congrFun (congrFun eG a) j
          rw [xlx_o _ _ (by omega), xlx_o _ _ (by omega)] at this
          rw [this]
          exact d3 a j (by omega)
        · exact e3 a j (by omega)
      refine ⟨xup2 G1 (o + 32) (4 * x + k) y.1, L', ?_, e2, (f1.tr f2 (Nat.le_refl _) (Nat.le_refl _)).tr (xft.up _ (by omega)) (Nat.le_refl _) (Nat.le_refl _), e4.ot (fun j => xup2_n (by omega)) (fun j => xup2_n (by omega)) (fun j => xup2_n (by omega)), ?_, fun _ => xup2_s _ _ _ _⟩
      · rw [e1]
        simp only [Option.bind_some]
        rw [xlx_upo _ _ _ (by omega)]
      · rw [xup2_n (by omega), e3 _ _ (by omega), xup2_s]
  · rw [if_neg c1]
    have k2 : ¬ L 2 = 3 := fun q => c1 (tv.mp q)
    by_cases c2 : kK (tstr B n lm) i = 3
    · rw [if_pos c2]
      have k3 := tu.mpr c2
      have h6 : L 6 = -1 := by rw [t6, k3]; rfl
      have f1 : xft o r V.length (4 * x + k) G (xup2 G (o + 31) (4 * x + k) 2) := xft.up G (by omega)
      obtain ⟨L', p1, p2⟩ := l_pass hf (hE.ft f1) hA h6 (by omega) (by omega)
      refine ⟨_, L', ?_, p2, f1, hV.ot (fun j => xup2_n (by omega)) (fun j => xup2_n (by omega)) (fun j => xup2_n (by omega)), xup2_s _ _ _ _, fun h => absurd rfl h⟩
      unfold g250 g250_104
      rw [l_bad, if_pos h7]
      simp only [Option.bind_some]
      rw [if_pos trivial, l_kind, if_neg (fun q => k2 q.2)]
      simp only [Option.bind_some]
      rw [if_pos trivial, l_kind, if_pos ⟨h7, k3⟩]
      simp only [Option.bind_some]
      rw [if_neg (by decide), xlx_o _ _ (by omega), h22, if_neg (by omega), Int.toNat_natCast, ex, if_pos (by omega), Int.toNat_natCast, xlx_upo _ _ _ (by omega)]
      try simp only [Option.bind_some]
      rw [p1]
      rfl
    · rw [if_neg c2]
      have k3 : ¬ L 2 = 4 := fun q => c2 (tu.mp q)
      have h1 := l_value (f := f) hf hE hA
      have e0 : g250 f x k (xlx G L) = (g227 f (xlx G L)).bind fun R119 => (if (R119.1) = 0 then g250_104 f R119.2 else (if R119.2 0 22 < 0 then none else (if 0 ≤ ((4 * x + k : Nat) : Int) ∧ ((4 * x + k : Nat) : Int) < 800 then ((some (xup2 R119.2 ((R119.2 0 22).toNat + 31) (((4 * x + k : Nat) : Int)).toNat (3))).bind fun G130 => (if G130 0 22 < 0 then none else (if 0 ≤ ((4 * x + k : Nat) : Int) ∧ ((4 * x + k : Nat) : Int) < 800 then ((some (xup2 G130 ((G130 0 22).toNat + 32) (((4 * x + k : Nat) : Int)).toNat (G130 (0) 21))).bind fun G136 => g250_104 f G136) else none))) else none))) := by
        unfold g250
        rw [l_bad, if_pos h7]
        simp only [Option.bind_some]
        rw [if_pos trivial, l_kind, if_neg (fun q => k2 q.2)]
        simp only [Option.bind_some]
        rw [if_pos trivial, l_kind, if_neg (fun q => k3 q.2)]
        simp only [Option.bind_some]
        rw [if_pos trivial, ex]
      rw [e0]
      cases hp : pVal (tstr B n lm) i with
      | inl w =>
        rw [hp] at h1
        obtain ⟨L', e1, e2⟩ := h1
        refine ⟨G, L', ?_, e2, .rf _ _ _ _ _, by omega⟩
        rw [e1]
        rfl
      | inr y =>
        rw [hp] at h1
        obtain ⟨L', e1, e2, _, _⟩ := h1
        refine ⟨xup2 (xup2 (xup2 G 0 21 y.1) (o + 31) (4 * x + k) 3) (o + 32) (4 * x + k) y.1, L', ?_, e2, ((xft.up G (by omega)).tr (xft.up _ (by omega)) (Nat.le_refl _) (Nat.le_refl _)).tr (xft.up _ (by omega)) (Nat.le_refl _) (Nat.le_refl _), hV.ot (fun j => ?_) (fun j => ?_) (fun j => ?_), ?_, fun _ => xup2_s _ _ _ _⟩
        · rw [e1]
          simp only [Option.bind_some]
          rw [if_neg (by decide), xlx_o _ _ (by omega), xup2_n (by omega), h22, if_neg (by omega), Int.toNat_natCast, if_pos (by omega), Int.toNat_natCast, xlx_upo _ _ _ (by omega)]
          rw [xlx_o _ _ (by omega), xup2_n (by omega), xup2_n (by omega), h22, if_neg (by omega), Int.toNat_natCast, if_pos (by omega), xlx_o _ _ (by omega), xup2_n (by omega), xup2_s, xlx_upo _ _ _ (by omega)]
          rfl
        · rw [xup2_n (by omega), xup2_n (by omega), xup2_n (by omega)]
        · rw [xup2_n (by omega), xup2_n (by omega), xup2_n (by omega)]
        · rw [xup2_n (by omega), xup2_n (by omega), xup2_n (by omega)]
        · show xup2 _ _ _ _ _ _ = 3
          rw [xup2_n (by omega), xup2_s]
end
