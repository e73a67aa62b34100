/-! The reference reads rules -/
def xfg (o r c0 m0 n0 : Nat) (G G' : xG_) : Prop := ∀ a j, ¬ ((a = 0 ∧ (j = 21 ∨ j = 23 ∨ j = 24 ∨ j = 25)) ∨ (a = o ∧ (j = 8 ∨ j = 9 ∨ j = 14 ∨ j = 37)) ∨ (a = o + 1 ∧ n0 ≤ j) ∨ (a = o + 3) ∨ (o + 6 ≤ a ∧ a ≤ o + 8) ∨ (o + 9 ≤ a ∧ a ≤ o + 12 ∧ m0 ≤ j) ∨ (o + 13 ≤ a ∧ a ≤ o + 20 ∧ r ≤ j) ∨ ((a = o + 21 ∨ a = o + 22) ∧ 4 * r ≤ j) ∨ (o + 23 ≤ a ∧ a ≤ o + 30 ∧ 8 * r ≤ j) ∨ ((a = o + 31 ∨ a = o + 32) ∧ 32 * r ≤ j) ∨ ((a = o + 33 ∨ a = o + 34) ∧ c0 ≤ j)) → G' a j = G a j
section
variable {o r c0 m0 n0 r1 c1 m1 n1 : Nat} {G G1 G2 : xG_}
theorem xfg.rf (o r c0 m0 n0 : Nat) (G : xG_) : xfg o r c0 m0 n0 G G := fun _ _ _ => rfl
theorem xfg.tr (h : xfg o r c0 m0 n0 G G1) (h1 : xfg o r1 c1 m1 n1 G1 G2) (hr : r ≤ r1) (hc : c0 ≤ c1) (hm : m0 ≤ m1) (hn : n0 ≤ n1) : xfg o r c0 m0 n0 G G2 := by
  intro a j hj
  rw [h1 a j (by omega), h a j hj]
theorem xfg.up {a j : Nat} {v : Int} (G : xG_) (h : (a = 0 ∧ (j = 21 ∨ j = 23 ∨ j = 24 ∨ j = 25)) ∨ (a = o ∧ (j = 8 ∨ j = 9 ∨ j = 14 ∨ j = 37)) ∨ (a = o + 1 ∧ n0 ≤ j) ∨ (a = o + 3) ∨ (o + 6 ≤ a ∧ a ≤ o + 8) ∨ (o + 9 ≤ a ∧ a ≤ o + 12 ∧ m0 ≤ j) ∨ (o + 13 ≤ a ∧ a ≤ o + 20 ∧ r ≤ j) ∨ ((a = o + 21 ∨ a = o + 22) ∧ 4 * r ≤ j) ∨ (o + 23 ≤ a ∧ a ≤ o + 30 ∧ 8 * r ≤ j) ∨ ((a = o + 31 ∨ a = o + 32) ∧ 32 * r ≤ j) ∨ ((a = o + 33 ∨ a = o + 34) ∧ c0 ≤ j)) : xfg o r c0 m0 n0 G (xup2 G a j v) := by
  intro a' j' hj
  exact xup2_n (fun e => hj (by rw [e.1, e.2]; exact h))
theorem xfl.fg {x v0 : Nat} (h : xfl o r x v0 c0 m0 n0 G G1) (hx : 8 * r ≤ x) : xfg o r c0 m0 n0 G G1 := fun a j hj => h a j (by omega)
theorem xfi.fg {x v0 m0 n0 : Nat} (h : xfi o r x v0 c0 G G1) (hx : 4 * r ≤ x) : xfg o r c0 m0 n0 G G1 := fun a j hj => h a j (by omega)
end
theorem rEv.fg {G G' : xG_} {q n o r c0 m0 n0 : Nat} {B : Nat → Int} {lm : Bool} (h : rEv G q B n lm o) (hf : xfg o r c0 m0 n0 G G') : rEv G' q B n lm o := by
  obtain ⟨⟨a1, a2, a3, a4, a5⟩, b, c, d, e⟩ := h
  have g0 : ∀ j, j ≤ 20 ∨ j = 22 → G' 0 j = G 0 j := fun j hj => hf 0 j (by omega)
  have gb : ∀ j, G' (G 0 0).toNat j = G (G 0 0).toNat j := fun j => hf _ j (by have := a1.1; omega)
  refine ⟨⟨?_, a2, ?_, ?_, ?_⟩, ?_, ?_, ?_, e⟩
  · unfold gT
    rw [g0 0 (by omega), g0 1 (by omega)]
    exact a1
  · rw [g0 1 (by omega)]; exact a3
  · intro p
    rw [← a4 p]
    unfold gB
    rw [g0 0 (by omega), g0 1 (by omega), gb]
  · intro p hp
    rw [g0 0 (by omega), gb]
    exact a5 p hp
  · rw [g0 11 (by omega)]; exact b
  · unfold rC
    rw [g0 12 (by omega), g0 13 (by omega), g0 14 (by omega), g0 15 (by omega), g0 16 (by omega), g0 17 (by omega), g0 18 (by omega), g0 19 (by omega), g0 20 (by omega)]
    exact c
  · rw [g0 22 (by omega)]; exact d
/-- a rule as it stands -/
def rRu (G : xG_) (o q r c : Nat) (u : pRu) : Prop := G (o + 13) r = u.1 ∧ G (o + 14) r = (q : Int) + u.2.1 ∧ rGa G o r u.2.2.1 ∧ G (o + 15) r = (u.2.2.2.1.length : Int) ∧ u.2.2.2.1.length ≤ 4 ∧ (∀ k, k < u.2.2.2.1.length → rIc G o (4 * r + k) c (u.2.2.2.1.getD k [])) ∧ rVs G o q r u.2.2.2.2.1 ∧ rLs G o r c u.2.2.2.2.2
theorem rRu.fg {G G' : xG_} {o q r r0 c c' m0 n0 : Nat} {u : pRu} (h : rRu G o q r c u) (hf : xfg o r0 c m0 n0 G G') (hr : r < r0) (hc : c ≤ c') : rRu G' o q r c' u := by
  obtain ⟨a1, a2, a3, a4, a5, a6, a7, a8⟩ := h
  have hv8 := a7.2.1
  have hl8 := a8.2.1
  refine ⟨by rw [hf _ _ (by omega)]; exact a1, by rw [hf _ _ (by omega)]; exact a2, ⟨by rw [hf _ _ (by omega)]; exact a3.1, by rw [hf _ _ (by omega)]; exact a3.2.1, by rw [hf _ _ (by omega)]; exact a3.2.2.1, a3.2.2.2⟩, by rw [hf _ _ (by omega)]; exact a4, a5, fun k hk => ?_, ⟨by rw [hf _ _ (by omega)]; exact a7.1, hv8, fun v hv => ?_⟩, ⟨by rw [hf _ _ (by omega)]; exact a8.1, hl8, fun k hk => ?_⟩⟩
  · obtain ⟨a, b1, b2, b3, b4⟩ := a6 k hk
    refine ⟨a, by rw [hf _ _ (by omega)]; exact b1, by rw [hf _ _ (by omega)]; exact b2, by omega, fun j hj => ?_⟩
    rw [hf _ _ (by omega), hf _ _ (by omega)]
    exact b4 j hj
  · rw [hf _ _ (by omega), hf _ _ (by omega)]
    exact a7.2.2 v hv
  · exact (a8.2.2 k hk).fr hc (fun a h1 h2 => hf _ _ (by omega)) (fun k' hk' => ⟨hf _ _ (by omega), hf _ _ (by omega)⟩) (fun j hj => ⟨hf _ _ (by omega), hf _ _ (by omega)⟩)
section
variable {f q n o r i c cb F : Nat} {B : Nat → Int} {lm : Bool} {G : xG_} {L : Nat → Int} {N : List Int} {V : List (Int × Nat)} {g : Int × Int × Int} {I : List pCd}
/-- a NAME must stand here: its predicate -/
theorem l_nname (hf : 20 < f) (hE : rEv G q B n lm o) (hN : rNs G o N) (hA : rAt q B n lm i L) :
    pok (pPred (tstr B n lm) N i) (fun w => ∃ L', g232 f (xlx G L) = some (-1, xlx G L') ∧ L' 7 = (q : Int) + w)
      (fun p => ∃ G', g232 f (xlx G L) = some (p.1, xlx G' L) ∧ rNs G' o p.2.1 ∧ (∀ a j, ¬ (a = o + 1 ∧ N.length ≤ j) → ¬ (a = o ∧ j = 8) → G' a j = G a j) ∧ L 6 = -1) := by
  have ho := hE.2.2.2.2
  unfold g232 pPred
  rw [hA.isname hE]
  simp only [Option.bind_some, i10, Classical.not_not]
  by_cases c1 : kK (tstr B n lm) i = 1
  · have hnm := hA.nm hE c1
    rw [xlx_6]
    by_cases c2 : 12 < kE (tstr B n lm) i - kS (tstr B n lm) i
    · rw [if_pos c2] at hnm
      have e1 : pName (tstr B n lm) i = .inl (kS (tstr B n lm) i + 12) := by unfold pName; rw [if_neg (fun h => h c1), if_pos c2]
      rw [e1]
      refine ⟨xu L 7 (L 6), ?_, by show L 6 = _; rw [hnm.2.2]; omega⟩
      rw [if_pos c1, if_neg (by omega), l_fail, if_pos hA.1]
      rfl
    · rw [if_neg c2] at hnm
      have e1 : pName (tstr B n lm) i = .inr (kC (tstr B n lm) i, i + 1) := by unfold pName; rw [if_neg (fun h => h c1), if_neg c2]
      rw [e1]
      have e2 := l_pred (f := f) (x := kC (tstr B n lm) i) (a := L 4) (L := L) hf hE hN hA.1
      rw [xlx_9, xlx_4, hnm.1, e2]
      show pok (if pIdx N (kC (tstr B n lm) i) = -1 then _ else _) _ _
      by_cases c3 : pIdx N (kC (tstr B n lm) i) = -1
      · rw [if_pos c3, if_pos c3]
        by_cases c4 : N.length = 16
        · rw [if_pos c4, if_pos c4]
          refine ⟨xu L 7 (L 4), ?_, hA.at4 hE⟩
          rw [if_pos c1, if_pos hnm.2.2]
          rfl
        · rw [if_neg c4, if_neg c4]
          refine ⟨_, ?_, hN.add _ c4, fun a j h1 h2 => by rw [xup2_n (by omega), xup2_n (by omega)], hnm.2.2⟩
          rw [if_pos c1, if_pos hnm.2.2]
          rfl
      · rw [if_neg c3, if_neg c3]
        refine ⟨G, ?_, hN, fun _ _ _ _ => rfl, hnm.2.2⟩
        rw [if_pos c1, if_pos hnm.2.2]
        rfl
  · have e1 : pName (tstr B n lm) i = .inl (kS (tstr B n lm) i) := by unfold pName; rw [if_pos c1]
    rw [e1]
    refine ⟨xu L 7 (L 4), ?_, hA.at4 hE⟩
    rw [if_neg c1, xlx_4, l_fail, if_pos hA.1]
    rfl
/-- a rule begins -/
def rBeg (G : xG_) (o r : Nat) : xG_ := xup2 (xup2 (xup2 (xup2 (xup2 (xup2 (xup2 (xup2 (xup2 G 0 23 (r : Int)) 0 24 0) 0 25 0) (o + 19) r 0) (o + 20) r 0) (o + 15) r 0) (o + 16) r 0) (o + 17) r (-1)) (o + 18) r (-1)
theorem l_beg (hE : rEv G q B n lm o) (hr : r ≤ 24) : g236 f (r : Int) (xlx G L) = some (xlx (rBeg G o r) L) := by
  have h22 := hE.2.2.2.1
  have ho := hE.2.2.2.2
  refine xok_is ?_
  unfold g236
  repeat' (first | with_reducible refine xok_sb ?_ | with_reducible refine xok_it (by first | omega | (simp (disch := omega) only [eq_self, not_true_eq_false, not_false_eq_true, true_and, and_true, and_self, xlx_o, xup2_n, xup2_s, xlx_2, xlx_3, xlx_4, xlx_5, xlx_6, xlx_7, xlx_8, xlx_9, xlx_10, Int.toNat_natCast, h22]; done) | (simp (disch := omega) only [eq_self, not_true_eq_false, not_false_eq_true, true_and, and_true, and_self, xlx_o, xup2_n, xup2_s, xlx_2, xlx_3, xlx_4, xlx_5, xlx_6, xlx_7, xlx_8, xlx_9, xlx_10, Int.toNat_natCast, h22]; omega)) ?_ | with_reducible refine xok_if (by first | omega | (simp (disch := omega) only [eq_self, not_true_eq_false, not_false_eq_true, true_and, and_true, and_self, xlx_o, xup2_n, xup2_s, xlx_2, xlx_3, xlx_4, xlx_5, xlx_6, xlx_7, xlx_8, xlx_9, xlx_10, Int.toNat_natCast, h22]; done) | (simp (disch := omega) only [eq_self, not_true_eq_false, not_false_eq_true, true_and, and_true, and_self, xlx_o, xup2_n, xup2_s, xlx_2, xlx_3, xlx_4, xlx_5, xlx_6, xlx_7, xlx_8, xlx_9, xlx_10, Int.toNat_natCast, h22]; omega)) ?_ | fail)
  simp (disch := omega) only [xlx_upo, eq_self, not_true_eq_false, not_false_eq_true, true_and, and_true, and_self, xlx_o, xup2_n, xup2_s, xlx_2, xlx_3, xlx_4, xlx_5, xlx_6, xlx_7, xlx_8, xlx_9, xlx_10, Int.toNat_natCast, h22]
  exact xok_some.mpr rfl
theorem rBeg_o {a j : Nat} (h : ¬ (a = 0 ∧ (j = 23 ∨ j = 24 ∨ j = 25))) (h2 : ¬ (o + 15 ≤ a ∧ a ≤ o + 20 ∧ j = r)) : rBeg G o r a j = G a j := by
  unfold rBeg
  rw [xup2_n (by omega), xup2_n (by omega), xup2_n (by omega), xup2_n (by omega), xup2_n (by omega), xup2_n (by omega), xup2_n (by omega), xup2_n (by omega), xup2_n (by omega)]
theorem rBeg_fg {c0 m0 n0 : Nat} : xfg o r c0 m0 n0 G (rBeg G o r) := fun a j hj => rBeg_o (by omega) (by omega)
theorem rBeg_st (hE : rEv G q B n lm o) (hr : r ≤ 24) (h37 : G o 37 = (c : Int)) : rIS (rBeg G o r) q B n lm o r c [] (0, -1, -1) [] ∧ rBeg G o r (o + 19) r = 0 ∧ rBeg G o r 0 24 = 0 := by
  have ho := hE.2.2.2.2
  refine ⟨⟨⟨hE.fg (rBeg_fg (c0 := 0) (m0 := 0) (n0 := 0)), ?_, hr, ⟨?_, by decide, fun v hv => absurd hv (by simp)⟩, ?_, fun j hj => absurd hj (by simp), ?_⟩, ?_, by decide, ⟨?_, ?_, ?_, .inl ⟨rfl, rfl, rfl⟩⟩, fun k hk => absurd hk (by simp)⟩, ?_, ?_⟩
  · unfold rBeg; simp (disch := omega) only [xup2_n, xup2_s]
  · unfold rBeg; simp (disch := omega) only [xup2_n, xup2_s]; rfl
  · rw [rBeg_o (by omega) (by omega)]; exact h37
  · unfold rBeg; simp (disch := omega) only [xup2_n, xup2_s]; rfl
  · unfold rBeg; simp (disch := omega) only [xup2_n, xup2_s]; rfl
  · unfold rBeg; simp (disch := omega) only [xup2_n, xup2_s]; rfl
  · unfold rBeg; simp (disch := omega) only [xup2_n, xup2_s]
  · unfold rBeg; simp (disch := omega) only [xup2_n, xup2_s]
  · unfold rBeg; simp (disch := omega) only [xup2_n, xup2_s]
  · unfold rBeg; simp (disch := omega) only [xup2_n, xup2_s]
end
