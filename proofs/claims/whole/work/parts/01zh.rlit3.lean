/-! The reference reads LITERALS: all -/
theorem pbind_as {α β γ : Type} (x : Nat ⊕ α) (f : α → Nat ⊕ β) (g : β → Nat ⊕ γ) : pbind (pbind x f) g = pbind x (fun a => pbind (f a) g) := by
  cases x <;> rfl
theorem pbind_r {α β : Type} (a : α) (f : α → Nat ⊕ β) : pbind (.inr a) f = f a := rfl
theorem pAtom_e {t : tStr} {tell : Bool} {k : Int} {N : List Int} {V : List (Int × Nat)} {l : List pLt} {M : List pMn} {i : Nat} (hK : kK t i = 1) (h12 : ¬ 12 < kE t i - kS t i) :
    pAtom t tell k (N, V, l, M, i) = pbind (pP tell N (kC t i) (kS t i)) fun p => pbind (pA48 t V (i + 1)) fun z => .inr (p.2, z.2.1, l ++ [(k, p.1, kS t i, z.1, [], [])], M ++ [(p.1, kS t i, (z.1.length : Int), 4)], z.2.2) := by
  have e1 : pName t i = .inr (kC t i, i + 1) := by unfold pName; rw [if_neg (fun h => h hK), if_neg h12]
  unfold pAtom pA48 pP
  simp only [pbind_as, pbind_r]
  by_cases ht : tell = true
  · rw [if_pos ht, if_pos ht]
    unfold pPred
    simp only [e1, pbind_r]
    by_cases c1 : pIdx N (kC t i) = -1
    · rw [if_pos c1, if_pos c1]
      by_cases c2 : N.length = 16
      · rw [if_pos c2, if_pos c2]
        rfl
      · rw [if_neg c2, if_neg c2]
        rfl
    · rw [if_neg c1, if_neg c1]
      rfl
  · rw [if_neg ht, if_neg ht]
    simp only [e1, pbind_r]
theorem pAtom_w {t : tStr} {tell : Bool} {k : Int} {N : List Int} {V : List (Int × Nat)} {l : List pLt} {M : List pMn} {i w : Nat} (h : pName t i = .inl w) : pAtom t tell k (N, V, l, M, i) = .inl w := by
  unfold pAtom
  by_cases ht : tell = true
  · rw [if_pos ht]
    unfold pPred
    simp only [h]
    rfl
  · rw [if_neg ht]
    simp only [h]
    rfl
section
variable {f q n o r i c cb F : Nat} {B : Nat → Int} {lm tell : Bool} {G : xG_} {L : Nat → Int} {N : List Int} {V : List (Int × Nat)} {l : List pLt} {M : List pMn}
theorem l_lit_bad (h : L 7 ≠ -1) : g247 f (xlx G L) = some (xlx G L) := by
  unfold g247
  rw [l_bad, if_neg h]
  simp only [Option.bind_some]
  rw [if_neg (by decide)]
theorem l_lit_e (hS : rRS G q B n lm o r c N V l M) (hA : rAt q B n lm i L) : g247 f (xlx G L) = if l.length = 8 then some (xlx G (xu L 7 (L 4))) else
    if kK (tstr B n lm) i = 9 then ((g213 f (xlx G L)).bind fun R202 => ((g226 f R202).bind fun R207 => (if ¬ (R207.1) = 0 then ((g213 f R207.2).bind fun R213 => ((g249 f ((8 * r + l.length : Nat) : Int) (2) (R207.2 (0) 9) (R207.2 (0) 4) R213).bind fun R218 => g247_261 f R218)) else ((g210 f (R207.2 (0) 4) R207.2).bind fun R223 => (some R223)))))
    else if kK (tstr B n lm) i = 1 then ((g213 f (xlx G L)).bind fun R157 => ((g220 f (40) R157).bind fun R162 => (if (R162.1) = 0 then (if ¬ (L 10) = (-1) then (if R162.2 0 22 < 0 then none else (if R162.2 0 22 < 0 then none else (if 0 ≤ ((8 * r + l.length : Nat) : Int) ∧ ((8 * r + l.length : Nat) : Int) < 200 then ((g240 f (1) (L 10) (xup2 R162.2 ((R162.2 0 22).toNat + 28) (8 * r + l.length) (R162.2 ((R162.2 0 22).toNat) 37))).bind fun R176 => ((g244 (g243r f 8) f R176).bind fun R181 => ((g248 f ((8 * r + l.length : Nat) : Int) R181).bind fun R186 => g247_261 f R186))) else none))) else ((g210 f (R162.2 (0) 4) R162.2).bind fun R191 => g247_261 f R191)) else (if ¬ (R162.2 (0) 24) = (3) then g247_160 f ((8 * r + l.length : Nat) : Int) (L 4) (L 9) R162.2 else ((g210 f (L 4) R162.2).bind fun R197 => g247_160 f ((8 * r + l.length : Nat) : Int) (L 4) (L 9) R197)))))
    else ((g243 f (xlx (xup2 G (o + 28) (8 * r + l.length) (c : Int)) L)).bind fun R147 => ((g248 f ((8 * r + l.length : Nat) : Int) R147).bind fun R152 => g247_261 f R152)) := by
  obtain ⟨hE, h23, hr, hN, hV, h37, hL, hM, h24, ha3, h25⟩ := hS
  have h22 := hE.2.2.2.1
  have ho := hE.2.2.2.2
  have hl8 := hL.2.1
  have ex : xwr (xwr ((r : Int) * 8) + (l.length : Int)) = ((8 * r + l.length : Nat) : Int) := by rw [xwr_g ((r : Int) * 8) (by omega) (by omega), xwr_g _ (by omega) (by omega)]; omega
  unfold g247
  rw [l_bad, if_pos hA.1]
  simp only [Option.bind_some]
  rw [if_pos trivial, xlx_o _ _ (by omega), h22, if_neg (by omega), xlx_o _ _ (by omega), h23, if_pos (by omega), Int.toNat_natCast, Int.toNat_natCast, xlx_o _ _ (by omega), hL.1]
  by_cases c8 : l.length = 8
  · rw [if_neg (by omega), if_pos c8, xlx_4, l_fail, if_pos hA.1]
    rfl
  · rw [if_pos (by omega), if_neg c8, if_neg (by omega), if_pos (by omega), ex, xlx_o _ _ (by omega), hE.2.2.1.2.2.2.1, hA.isword hE (c := 20806) (k := 9) rfl (fun x h => tres_inv.2.2.2.1 h) (by decide)]
    simp only [Option.bind_some, i10]
    by_cases c9 : kK (tstr B n lm) i = 9
    · rw [if_neg (fun h => h c9), if_pos c9]
    · rw [if_pos c9, if_neg c9, hA.isname hE]
      simp only [Option.bind_some, i10]
      by_cases c1 : kK (tstr B n lm) i = 1
      · rw [if_neg (fun h => h c1), if_pos c1]
        rfl
      · rw [if_pos c1, if_neg c1, xlx_o _ _ (by omega), h22, if_neg (by omega), if_neg (by omega), if_pos (by omega), Int.toNat_natCast, Int.toNat_natCast, xlx_o _ _ (by omega), h37, xlx_upo _ _ _ (by omega)]
theorem l_160_bad {x y : Int} {L : Nat → Int} (hf : 20 < f) (hS : rRS G q B n lm o r c N V l M) (h8 : l.length < 8) (h : L 7 ≠ -1) (ha : G 0 24 = 3) : ∃ G', g247_160 f ((8 * r + l.length : Nat) : Int) x y (xlx G L) = some (xlx G' L) ∧ xfl o r (8 * r + l.length) V.length c (min M.length 420) N.length G G' ∧ rSb G' o r := by
  obtain ⟨hE, h23, hr, hN, hV, h37, hL, hM, h24, ha3, h25⟩ := hS
  have ho := hE.2.2.2.2
  have f1 : xfl o r (8 * r + l.length) V.length c (min M.length 420) N.length G (xup2 G 0 24 4) := xfl.up _ (by omega)
  have hN1 : rNs (xup2 G 0 24 4) o N := ⟨by rw [xup2_n (by omega)]; exact hN.1, hN.2.1, fun j hj => by rw [xup2_n (by omega)]; exact hN.2.2 j hj⟩
  obtain ⟨p, e⟩ := l_atom_bad (f := f) (x := 8 * r + l.length) (k := 1) (y := y) (a := x) (L := L) hf (hE.fl f1) (by rw [xup2_n (by omega)]; exact h23) hr hN1 h (by omega)
  have f2 : xfl o r (8 * r + l.length) V.length c (min M.length 420) N.length G (xup2 (xup2 (xup2 (xup2 G 0 24 4) (o + 25) (8 * r + l.length) 1) (o + 26) (8 * r + l.length) p) (o + 27) (8 * r + l.length) 1) := ((f1.tr (xfl.up _ (by omega)) (Nat.le_refl _) (Nat.le_refl _) (Nat.le_refl _) (Nat.le_refl _) (Nat.le_refl _)).tr (xfl.up _ (by omega)) (Nat.le_refl _) (Nat.le_refl _) (Nat.le_refl _) (Nat.le_refl _) (Nat.le_refl _)).tr (xfl.up _ (by omega)) (Nat.le_refl _) (Nat.le_refl _) (Nat.le_refl _) (Nat.le_refl _) (Nat.le_refl _)
  have e19 : ∀ v : Nat, v ≤ 24 → xup2 (xup2 (xup2 (xup2 G 0 24 4) (o + 25) (8 * r + l.length) 1) (o + 26) (8 * r + l.length) p) (o + 27) (8 * r + l.length) 1 (o + v) r = G (o + v) r ∨ 25 ≤ v := by
    intro v hv
    left
    rw [xup2_n (by omega), xup2_n (by omega), xup2_n (by omega), xup2_n (by omega)]
  have hi := l_inc (f := f) (L := L) (m := l.length) (hE.fl f2) (by rw [xup2_n (by omega), xup2_n (by omega), xup2_n (by omega), xup2_n (by omega)]; exact h23) hr (by rw [xup2_n (by omega), xup2_n (by omega), xup2_n (by omega), xup2_n (by omega)]; exact hL.1) (by omega)
  refine ⟨xup2 (xup2 (xup2 (xup2 (xup2 G 0 24 4) (o + 25) (8 * r + l.length) 1) (o + 26) (8 * r + l.length) p) (o + 27) (8 * r + l.length) 1) (o + 19) r ((l.length + 1 : Nat) : Int), ?_, f2.tr (xfl.up _ (by omega)) (Nat.le_refl _) (Nat.le_refl _) (Nat.le_refl _) (Nat.le_refl _) (Nat.le_refl _), ?_⟩
  · unfold g247_160 g247_233
    rw [xlx_o _ _ (by omega), ha, xwr_g _ (by decide) (by decide), xlx_upo _ _ _ (by omega)]
    simp only [Option.bind_some]
    rw [show (3 : Int) + 1 = 4 from rfl, e]
    exact hi
  · unfold rSb
    rw [xup2_s, xup2_n (by omega), xup2_n (by omega), xup2_n (by omega), xup2_n (by omega), xup2_n (by omega), xup2_n (by omega), xup2_n (by omega), xup2_n (by omega), xup2_n (by omega), xup2_n (by omega), xup2_n (by omega), xup2_n (by omega), xup2_n (by omega), xup2_n (by omega), xup2_n (by omega), hV.1, hM.1, hN.1]
    have := hV.2.1
    have := hN.2.1
    omega
/-- what reading of a LITERAL (or of LITERALS) does -/
def rLP (f q : Nat) (B : Nat → Int) (n : Nat) (lm : Bool) (o r cb : Nat) (G : xG_) (L : Nat → Int) (c : Nat) (N : List Int) (V : List (Int × Nat)) (l : List pLt) (M : List pMn) (e : xG_ → Option xG_) (p : Nat ⊕ pRs) : Prop :=
  pok p (fun w => ∃ G' L', e (xlx G L) = some (xlx G' L') ∧ L' 7 = (q : Int) + w ∧ xfl o r (8 * r + l.length) V.length c (min M.length 420) N.length G G' ∧ rSb G' o r)
    (fun s => ∃ G' L' c', e (xlx G L) = some (xlx G' L') ∧ rAt q B n lm s.2.2.2.2 L' ∧ xfl o r (8 * r + l.length) V.length c (min M.length 420) N.length G G' ∧ rRS G' q B n lm o r c' s.1 s.2.1 s.2.2.1 s.2.2.2.1 ∧ c ≤ c' ∧ c' ≤ cb + s.2.2.2.2)
/-- WRONG, and the LITERAL is counted all the same -/
theorem l_lit_w {e : xG_ → Option xG_} {w : Nat} {L' : Nat → Int} (hS : rRS G q B n lm o r c N V l M) (h8 : l.length < 8) (h : e (xlx G L) = g247_261 f (xlx G L')) (hw : L' 7 = (q : Int) + w) : rLP f q B n lm o r cb G L c N V l M e (.inl w) := by
  obtain ⟨hE, h23, hr, hN, hV, h37, hL, hM, h24, ha3, h25⟩ := hS
  have ho := hE.2.2.2.2
  have hi := l_inc (f := f) (L := L') hE h23 hr hL.1 (by omega)
  refine ⟨xup2 G (o + 19) r ((l.length + 1 : Nat) : Int), L', by rw [h]; exact hi, hw, xfl.up _ (by omega), ?_⟩
  unfold rSb
  rw [xup2_s, xup2_n (by omega), xup2_n (by omega), xup2_n (by omega), hV.1, hM.1, hN.1]
  have := hV.2.1
  have := hN.2.1
  omega
theorem rLP.eq {e e' : xG_ → Option xG_} {p : Nat ⊕ pRs} (h : rLP f q B n lm o r cb G L c N V l M e' p) (he : e (xlx G L) = e' (xlx G L)) : rLP f q B n lm o r cb G L c N V l M e p := by
  unfold rLP at *
  rw [he]
  exact h
theorem rSb.st (hS : rRS G q B n lm o r c N V l M) : rSb G o r := by
  obtain ⟨hE, h23, hr, hN, hV, h37, hL, hM, h24, ha3, h25⟩ := hS
  exact rSb.of hN hV hM hL.1 hL.2.1
theorem pA48_le {t : tStr} {V : List (Int × Nat)} {i : Nat} {z : pCd × List (Int × Nat) × Nat} (h : pA48 t V i = .inr z) : i < z.2.2 := by
  unfold pA48 at h
  obtain ⟨a1, q1, q2⟩ := pbind_inr h
  obtain ⟨a2, q3, q4⟩ := pbind_inr q2
  obtain ⟨a3, q5, q6⟩ := pbind_inr q4
  obtain ⟨a4, q7, q8⟩ := pbind_inr q6
  have h1 := pNeed_le q1
  have h2 := pTerm_le q3
  have h3 := pTerms_le q5
  have h4 := pNeed_le q7
  cases q8
  simp only
  omega
theorem rLP_atom {k y : Int} {pl j : Nat} {L1 : Nat → Int} (hf : n + 20 < f) (htell : tell = true ↔ r ≠ 24) (hS : rRS G q B n lm o r c N V l M) (h8 : l.length < 8) (G1 : xG_) (hG1 : k = 2 ∧ G1 = G ∨ k = 1 ∧ pAtoms l < 3 ∧ G1 = xup2 G 0 24 ((pAtoms l + 1 : Nat) : Int)) (hA : rAt q B n lm j L1) (hc : c ≤ cb + j) (he : g247 f (xlx G L) = (g249 f ((8 * r + l.length : Nat) : Int) k y ((q : Int) + pl) (xlx G1 L1)).bind (fun R => g247_261 f R)) :
    rLP f q B n lm o r cb G L c N V l M (g247 f) (pbind (pP tell N y pl) fun p => pbind (pA48 (tstr B n lm) V j) fun z => .inr (p.2, z.2.1, l ++ [(k, p.1, pl, z.1, [], [])], M ++ [(p.1, pl, (z.1.length : Int), 4)], z.2.2)) := by
  have h1 := l_lit_atom (f := f) (pl := pl) (y := y) (k := k) hf htell hS h8 G1 hG1 hA
  rw [← he] at h1
  unfold rLP
  cases hp : (pbind (pP tell N y pl) fun p => pbind (pA48 (tstr B n lm) V j) fun z => (.inr (p.2, z.2.1, l ++ [(k, p.1, pl, z.1, [], [])], M ++ [(p.1, pl, (z.1.length : Int), 4)], z.2.2) : Nat ⊕ pRs)) with
  | inl w =>
    rw [hp] at h1
    exact h1
  | inr s =>
    rw [hp] at h1
    obtain ⟨G', L', a1, a2, a3, a4⟩ := h1
    obtain ⟨p, _, q2⟩ := pbind_inr hp
    obtain ⟨z, q3, q4⟩ := pbind_inr q2
    have hz := pA48_le q3
    refine ⟨G', L', c, a1, a2, a3, a4, Nat.le_refl _, ?_⟩
    cases q4
    simp only
    omega
/-- not ATOM -/
theorem l_lit_not (hf : n + 20 < f) (htell : tell = true ↔ r ≠ 24) (hS : rRS G q B n lm o r c N V l M) (hA : rAt q B n lm i L) (hc : c ≤ cb + i) (h8 : l.length < 8) (hK : kK (tstr B n lm) i = 9) : rLP f q B n lm o r cb G L c N V l M (g247 f) (pAtom (tstr B n lm) tell 2 (N, V, l, M, i + 1)) := by
  have hE := hS.1
  have e0 := l_lit_e (f := f) hS hA
  rw [if_neg (by omega), if_pos hK] at e0
  obtain ⟨L1, p1, p2⟩ := hA.wd (f := f) hf hE (by omega)
  rw [p1] at e0
  simp only [Option.bind_some] at e0
  rw [p2.isname hE] at e0
  simp only [Option.bind_some, i10, Classical.not_not] at e0
  by_cases c1 : kK (tstr B n lm) (i + 1) = 1
  · have hnm := p2.nm hE c1
    rw [if_pos c1, xlx_9, xlx_4, hnm.1, p2.at4 hE] at e0
    by_cases c2 : 12 < kE (tstr B n lm) (i + 1) - kS (tstr B n lm) (i + 1)
    · have e1 : pName (tstr B n lm) (i + 1) = .inl (kS (tstr B n lm) (i + 1) + 12) := by unfold pName; rw [if_neg (fun h => h c1), if_pos c2]
      rw [pAtom_w e1]
      rw [if_pos c2] at hnm
      rw [l_pass_wr p2.1 (by omega)] at e0
      simp only [Option.bind_some] at e0
      obtain ⟨hE', h23, hr, hN, hV, h37, hL, hM, h24, ha3, h25⟩ := hS
      have ho := hE.2.2.2.2
      have hbad : xu L1 7 (L1 6) 7 ≠ -1 := by show L1 6 ≠ -1; omega
      obtain ⟨p, e2⟩ := l_atom_bad (f := f) (x := 8 * r + l.length) (k := 2) (y := kC (tstr B n lm) (i + 1)) (a := (q : Int) + kS (tstr B n lm) (i + 1)) (by omega) hE h23 hr hN hbad (by omega)
      rw [e2] at e0
      simp only [Option.bind_some] at e0
      have f2 : xfl o r (8 * r + l.length) V.length c (min M.length 420) N.length G (xup2 (xup2 (xup2 G (o + 25) (8 * r + l.length) 2) (o + 26) (8 * r + l.length) p) (o + 27) (8 * r + l.length) 1) := ((xfl.up _ (by omega)).tr (xfl.up _ (by omega)) (Nat.le_refl _) (Nat.le_refl _) (Nat.le_refl _) (Nat.le_refl _) (Nat.le_refl _)).tr (xfl.up _ (by omega)) (Nat.le_refl _) (Nat.le_refl _) (Nat.le_refl _) (Nat.le_refl _) (Nat.le_refl _)
      have hi := l_inc (f := f) (L := xu L1 7 (L1 6)) (m := l.length) (hE.fl f2) (by rw [xup2_n (by omega), xup2_n (by omega), xup2_n (by omega)]; exact h23) hr (by rw [xup2_n (by omega), xup2_n (by omega), xup2_n (by omega)]; exact hL.1) (by omega)
      refine ⟨xup2 (xup2 (xup2 (xup2 G (o + 25) (8 * r + l.length) 2) (o + 26) (8 * r + l.length) p) (o + 27) (8 * r + l.length) 1) (o + 19) r ((l.length + 1 : Nat) : Int), _, by rw [e0]; exact hi, by show L1 6 = _; rw [hnm.2.2]; omega, f2.tr (xfl.up _ (by omega)) (Nat.le_refl _) (Nat.le_refl _) (Nat.le_refl _) (Nat.le_refl _) (Nat.le_refl _), ?_⟩
      unfold rSb
      rw [xup2_s, xup2_n (by omega), xup2_n (by omega), xup2_n (by omega), xup2_n (by omega), xup2_n (by omega), xup2_n (by omega), xup2_n (by omega), xup2_n (by omega), xup2_n (by omega), xup2_n (by omega), xup2_n (by omega), xup2_n (by omega), hV.1, hM.1, hN.1]
      have := hV.2.1
      have := hN.2.1
      omega
    · rw [pAtom_e c1 c2]
      rw [if_neg c2] at hnm
      obtain ⟨L2, p3, p4⟩ := l_pass hf hE p2 hnm.2.2 (by omega) (by omega)
      rw [p3] at e0
      simp only [Option.bind_some] at e0
      exact rLP_atom hf htell hS h8 G (.inl ⟨rfl, rfl⟩) p4 (by omega) e0
  · have e1 : pName (tstr B n lm) (i + 1) = .inl (kS (tstr B n lm) (i + 1)) := by unfold pName; rw [if_pos c1]
    rw [pAtom_w e1]
    rw [if_neg c1, xlx_4, l_fail, if_pos p2.1] at e0
    exact ⟨G, xu L1 7 (L1 4), e0, p2.at4 hE, .rf _ _ _ _ _ _ _ _, rSb.st hS⟩
/-- what begins with a NAME and is an ATOM, or WRONG -/
theorem l_lit_nm (hf : n + 20 < f) (htell : tell = true ↔ r ≠ 24) (hS : rRS G q B n lm o r c N V l M) (hA : rAt q B n lm i L) (hc : c ≤ cb + i) (h8 : l.length < 8) (hK : kK (tstr B n lm) i = 1) (hn : 12 < kE (tstr B n lm) i - kS (tstr B n lm) i ∨ kK (tstr B n lm) (i + 1) = 40 ∨ kW (tstr B n lm) i = -1) :
    rLP f q B n lm o r cb G L c N V l M (g247 f) (if 12 < kE (tstr B n lm) i - kS (tstr B n lm) i then .inl (kS (tstr B n lm) i + 12)
     else if kK (tstr B n lm) (i + 1) = 40 then (if pAtoms l = 3 then .inl (kS (tstr B n lm) i) else pAtom (tstr B n lm) tell 1 (N, V, l, M, i)) else .inl (kS (tstr B n lm) (i + 1))) := by
  have hE := hS.1
  have e0 := l_lit_e (f := f) hS hA
  rw [if_neg (by omega), if_neg (by omega), if_pos hK] at e0
  have hnm := hA.nm hE hK
  have h4 := hA.at4 hE
  have ho := hE.2.2.2.2
  by_cases c2 : 12 < kE (tstr B n lm) i - kS (tstr B n lm) i
  · rw [if_pos c2]
    rw [if_pos c2] at hnm
    have hw : kW (tstr B n lm) i = -1 := Classical.byContradiction fun h => by have := tok_word hE.1.2.1 hK h; omega
    have hbad : xu L 7 (L 6) 7 ≠ -1 := by show L 6 ≠ -1; omega
    rw [l_pass_wr hA.1 (by omega)] at e0
    simp only [Option.bind_some] at e0
    rw [l_sign, if_neg (fun h => hbad h.1)] at e0
    simp only [Option.bind_some] at e0
    rw [if_pos trivial, hnm.2.1, hw, if_neg (fun h => h rfl), l_fail, if_neg hbad] at e0
    exact l_lit_w hS h8 e0 (by show L 6 = _; rw [hnm.2.2]; omega)
  · rw [if_neg c2]
    rw [if_neg c2] at hnm
    obtain ⟨L1, p1, p2⟩ := l_pass hf hE hA hnm.2.2 (by omega) (by omega)
    rw [p1] at e0
    simp only [Option.bind_some] at e0
    rw [show (40 : Int) = rsc 40 from rfl, p2.issign hE (c := 40) (by unfold isSg; omega)] at e0
    simp only [Option.bind_some, i10] at e0
    by_cases c3 : kK (tstr B n lm) (i + 1) = 40
    · rw [if_pos c3]
      rw [if_neg (fun h => h c3), xlx_o _ _ (by omega), hS.2.2.2.2.2.2.2.2.1] at e0
      by_cases c4 : pAtoms l = 3
      · rw [if_pos c4]
        rw [if_neg (by omega), l_fail, if_pos p2.1] at e0
        simp only [Option.bind_some] at e0
        have hbad : xu L1 7 (L 4) 7 ≠ -1 := by show L 4 ≠ -1; omega
        obtain ⟨G', d1, d2, d3⟩ := l_160_bad (f := f) (x := L 4) (y := L 9) (L := xu L1 7 (L 4)) (by omega) hS h8 hbad (by rw [hS.2.2.2.2.2.2.2.2.1, c4]; rfl)
        exact ⟨G', _, by rw [e0]; exact d1, h4, d2, d3⟩
      · rw [if_neg c4, pAtom_e hK c2]
        rw [if_pos (by omega)] at e0
        have ha3 := hS.2.2.2.2.2.2.2.2.2.1
        refine rLP_atom hf htell hS h8 (xup2 G 0 24 ((pAtoms l + 1 : Nat) : Int)) (.inr ⟨rfl, by omega, rfl⟩) p2 (by omega) ?_
        rw [e0]
        unfold g247_160
        rw [xlx_o _ _ (by omega), hS.2.2.2.2.2.2.2.2.1, xwr_g _ (by omega) (by omega), xlx_upo _ _ _ (by omega), h4, hnm.1]
        rfl
    · rw [if_neg c3]
      have hw : kW (tstr B n lm) i = -1 := by
        rcases hn with h | h | h
        · exact absurd h c2
        · exact absurd h c3
        · exact h
      rw [if_pos c3, hnm.2.1, hw, if_neg (fun h => h rfl), xlx_4, l_fail, if_pos p2.1] at e0
      exact l_lit_w hS h8 e0 (p2.at4 hE)
/-- what compares, from its first sign on -/
theorem l_lit_c {x0 : xG_} {L1 : Nat → Int} {V0 : List (Int × Nat)} {Q0 : pCd} {i0 m F0 : Nat} {fn : xG_ → Option xG_} (hf : n + 20 < f) (hcb : cb + n + 3 ≤ 6200) (hF : 4 * (n + 1 - i) + 2 ≤ F) (hS : rRS G q B n lm o r c N V l M) (h8 : l.length < 8) (hi : i ≤ i0)
    (hx : xfC o r (8 * r + l.length) V.length c G x0) (h28 : x0 (o + 28) (8 * r + l.length) = (c : Int)) (hV0 : V.length ≤ V0.length) (hm : m ≤ 4)
    (h1 : pok (pX (tstr B n lm) F0 m 0 (V0, Q0, i0)) (fun w => ∃ G' L', fn (xlx x0 L1) = some (xlx G' L') ∧ L' 7 = (q : Int) + w ∧ xfe o r V0.length (c + Q0.length) x0 G' ∧ 0 ≤ G' (o + 20) r ∧ G' (o + 20) r ≤ 8)
      (fun x => ∃ G' L', fn (xlx x0 L1) = some (xlx G' L') ∧ rAt q B n lm x.2.2 L' ∧ xfe o r V0.length (c + Q0.length) x0 G' ∧ rX G' q B n lm o r x.1 c x.2.1 0)) (hQ0 : c + Q0.length ≤ cb + i0)
    (he : g247 f (xlx G L) = (fn (xlx x0 L1)).bind fun R181 => (g248 f ((8 * r + l.length : Nat) : Int) R181).bind fun R186 => g247_261 f R186) (hp0 : pX (tstr B n lm) F 1 0 (V, [], i) = pX (tstr B n lm) F0 m 0 (V0, Q0, i0)) :
    rLP f q B n lm o r cb G L c N V l M (g247 f) (pCmp (tstr B n lm) F (N, V, l, M, i)) := by
  have hE := hS.1
  have ho := hE.2.2.2.2
  unfold pCmp
  show rLP f q B n lm o r cb G L c N V l M (g247 f) (pbind (pX (tstr B n lm) F 1 0 (V, [], i)) _)
  rw [hp0]
  cases hp : pX (tstr B n lm) F0 m 0 (V0, Q0, i0) with
  | inl w =>
    rw [hp] at h1
    obtain ⟨G1, L2, a1, a2, a3, a4, a5⟩ := h1
    have hbad : L2 7 ≠ -1 := by omega
    have f1 : xfC o r (8 * r + l.length) V.length c G G1 := hx.tr a3.fC hV0 (by omega)
    obtain ⟨hE', h23, hr, hN, hV, h37, hL, hM, h24, ha3, h25⟩ := hS
    obtain ⟨v, e2⟩ := l_cmp_bad (f := f) (x := 8 * r + l.length) (L := L2) (hE.fC f1) (by omega) hbad
    have f2 : xfC o r (8 * r + l.length) V.length c G (xup2 (xup2 G1 (o + 25) (8 * r + l.length) 3) (o + 29) (8 * r + l.length) v) := (f1.tr (xfC.up _ (by omega)) (Nat.le_refl _) (Nat.le_refl _)).tr (xfC.up _ (by omega)) (Nat.le_refl _) (Nat.le_refl _)
    have hi := l_inc (f := f) (L := L2) (m := l.length) (hE.fC f2) (by rw [f2 _ _ (by omega)]; exact h23) hr (by rw [f2 _ _ (by omega)]; exact hL.1) (by omega)
    refine ⟨xup2 (xup2 (xup2 G1 (o + 25) (8 * r + l.length) 3) (o + 29) (8 * r + l.length) v) (o + 19) r ((l.length + 1 : Nat) : Int), L2, ?_, a2, f2.fl.tr (xfl.up _ (by omega)) (Nat.le_refl _) (Nat.le_refl _) (Nat.le_refl _) (Nat.le_refl _) (Nat.le_refl _), ?_⟩
    · rw [he, a1]
      simp only [Option.bind_some]
      rw [e2]
      exact hi
    · unfold rSb
      simp (disch := omega) only [xup2_s, xup2_n]
      rw [f1 o 14 (by omega), f1 o 8 (by omega), hM.1, hN.1]
      have := hN.2.1
      omega
  | inr a =>
    rw [hp] at h1
    obtain ⟨G1, L2, a1, a2, a3, a4⟩ := h1
    have hle := pX_le F0 m 0 (V0, Q0, i0) a hm hp
    simp only at hle
    have f1 : xfC o r (8 * r + l.length) V.length c G G1 := hx.tr a3.fC hV0 (by omega)
    have h2 := l_lit_cmp (f := f) (F := F) (pl := kS (tstr B n lm) i) (L := L2) hf hcb (show 4 * (n + 1 - a.2.2) + 2 ≤ F by omega) hS h8 (show V.length ≤ a.1.length by omega) f1 (by rw [a3 _ _ (by omega)]; exact h28) a4 a2 (by omega)
    have he2 : g247 f (xlx G L) = (g248 f ((8 * r + l.length : Nat) : Int) (xlx G1 L2)).bind (fun R => g247_261 f R) := by
      rw [he, a1]
      rfl
    rw [← he2] at h2
    exact h2
end
