/-! The reference reads LITERALS: one -/
def rLt (G : xG_) (o x c : Nat) (l : pLt) : Prop := G (o + 25) x = l.1 ∧ l.2.2.2.1.length ≤ 4 ∧ (l.1 ≠ 3 → G (o + 26) x = l.2.1 ∧ G (o + 27) x = (l.2.2.2.1.length : Int) ∧ rTs G o x l.2.2.2.1) ∧
  (l.1 = 3 → G (o + 26) x = rsc l.2.1 ∧ ∃ a : Nat, G (o + 28) x = (a : Int) ∧ G (o + 29) x = ((a + l.2.2.2.2.1.length : Nat) : Int) ∧ G (o + 30) x = ((a + l.2.2.2.2.1.length + l.2.2.2.2.2.length : Nat) : Int) ∧ a + l.2.2.2.2.1.length + l.2.2.2.2.2.length ≤ c ∧ rCo G o a l.2.2.2.2.1 ∧ rCo G o (a + l.2.2.2.2.1.length) l.2.2.2.2.2)
def dLt : pLt := (0, 0, 0, [], [], [])
def rLs (G : xG_) (o r c : Nat) (l : List pLt) : Prop := G (o + 19) r = (l.length : Int) ∧ l.length ≤ 8 ∧ ∀ k, k < l.length → rLt G o (8 * r + k) c (l.getD k dLt)
def rRS (G : xG_) (q : Nat) (B : Nat → Int) (n : Nat) (lm : Bool) (o r c : Nat) (N : List Int) (V : List (Int × Nat)) (l : List pLt) (M : List pMn) : Prop :=
  rEv G q B n lm o ∧ G 0 23 = (r : Int) ∧ r ≤ 24 ∧ rNs G o N ∧ rVs G o q r V ∧ G o 37 = (c : Int) ∧ rLs G o r c l ∧ rMs G o q M ∧ G 0 24 = (pAtoms l : Int) ∧ pAtoms l ≤ 3 ∧ G 0 25 = 0
def rSb (G : xG_) (o r : Nat) : Prop := 0 ≤ G (o + 19) r ∧ G (o + 19) r ≤ 8 ∧ 0 ≤ G (o + 20) r ∧ G (o + 20) r ≤ 8 ∧ 0 ≤ G o 14 ∧ G o 14 ≤ 420 ∧ 0 ≤ G o 8 ∧ G o 8 ≤ 16
theorem rLt.fr {G G' : xG_} {o x c c' : Nat} {l : pLt} (h : rLt G o x c l) (hc : c ≤ c') (h1 : ∀ a, o + 25 ≤ a → a ≤ o + 30 → G' a x = G a x) (h2 : ∀ k, k < 4 → G' (o + 31) (4 * x + k) = G (o + 31) (4 * x + k) ∧ G' (o + 32) (4 * x + k) = G (o + 32) (4 * x + k)) (h3 : ∀ j, j < c → G' (o + 33) j = G (o + 33) j ∧ G' (o + 34) j = G (o + 34) j) : rLt G' o x c' l := by
  obtain ⟨a1, a2, a3, a4⟩ := h
  refine ⟨by rw [h1 _ (by omega) (by omega)]; exact a1, a2, fun h => ?_, fun h => ?_⟩
  · obtain ⟨b1, b2, b3⟩ := a3 h
    refine ⟨by rw [h1 _ (by omega) (by omega)]; exact b1, by rw [h1 _ (by omega) (by omega)]; exact b2, fun k hk => ?_⟩
    have := h2 k (by omega)
    rw [this.1, this.2]
    exact b3 k hk
  · obtain ⟨b0, a, b1, b2, b3, b4, b5, b6⟩ := a4 h
    refine ⟨by rw [h1 _ (by omega) (by omega)]; exact b0, a, by rw [h1 _ (by omega) (by omega)]; exact b1, by rw [h1 _ (by omega) (by omega)]; exact b2, by rw [h1 _ (by omega) (by omega)]; exact b3, by omega, fun j hj => ?_, fun j hj => ?_⟩
    · have := h3 (a + j) (by omega)
      rw [this.1, this.2]
      exact b5 j hj
    · have := h3 (a + l.2.2.2.2.1.length + j) (by omega)
      rw [this.1, this.2]
      exact b6 j hj
theorem rLt.fl {G G' : xG_} {o r x x0 c c' v0 m0 n0 : Nat} {l : pLt} (h : rLt G o x c l) (hc : c ≤ c') (hf : xfl o r x0 v0 c m0 n0 G G') (hx : x < x0) : rLt G' o x c' l := h.fr hc (fun a h1 h2 => hf _ _ (by omega)) (fun k hk => ⟨hf _ _ (by omega), hf _ _ (by omega)⟩) (fun j hj => ⟨hf _ _ (by omega), hf _ _ (by omega)⟩)
theorem rLs.add {G G' : xG_} {o r c c' v0 m0 n0 : Nat} {l : List pLt} {y : pLt} (h : rLs G o r c l) (hf : xfl o r (8 * r + l.length) v0 c m0 n0 G G') (hc : c ≤ c') (hy : rLt G' o (8 * r + l.length) c' y) (h19 : G' (o + 19) r = ((l.length + 1 : Nat) : Int)) (h8 : l.length < 8) : rLs G' o r c' (l ++ [y]) := by
  obtain ⟨a1, a2, a3⟩ := h
  refine ⟨by rw [len1]; exact h19, by rw [len1]; omega, fun k hk => ?_⟩
  rw [len1] at hk
  rw [getD_1]
  by_cases c : k = l.length
  · rw [if_pos c, c]
    exact hy
  · rw [if_neg c]
    exact (a3 k (by omega)).fl hc hf (by omega)
theorem pAtoms_1 (l : List pLt) (y : pLt) : pAtoms (l ++ [y]) = pAtoms l + (if y.1 = 1 then 1 else 0) := by
  unfold pAtoms
  rw [List.filter_append, List.length_append]
  by_cases h : y.1 = 1
  · rw [if_pos h]
    simp [h]
  · rw [if_neg h]
    simp [h]
section
variable {f q n o r i c cb F : Nat} {B : Nat → Int} {lm tell : Bool} {G G' : xG_} {L : Nat → Int} {N : List Int} {V : List (Int × Nat)} {l : List pLt} {M : List pMn}
theorem l_inc {m : Nat} (hE : rEv G q B n lm o) (h23 : G 0 23 = (r : Int)) (hr : r ≤ 24) (hm : G (o + 19) r = (m : Int)) (hm8 : m ≤ 8) : g247_261 f (xlx G L) = some (xlx (xup2 G (o + 19) r ((m + 1 : Nat) : Int)) L) := by
  have h22 := hE.2.2.2.1
  have ho := hE.2.2.2.2
  unfold g247_261
  rw [xlx_o _ _ (by omega), h22, if_neg (by omega), xlx_o _ _ (by omega), h23, if_pos (by omega), if_pos (by omega), Int.toNat_natCast, Int.toNat_natCast, xlx_o _ _ (by omega), hm, xwr_g _ (by omega) (by omega), xlx_upo _ _ _ (by omega)]
  rfl
theorem rSb.of (hN : rNs G o N) (hV : rVs G o q r V) (hM : rMs G o q M) {m : Nat} (hm : G (o + 19) r = (m : Int)) (h8 : m ≤ 8) : rSb G o r := by
  have h1 := hN.1
  have h2 := hN.2.1
  have h3 := hV.1
  have h4 := hV.2.1
  have h5 := hM.1
  unfold rSb
  omega
/-- behind an ATOM that was read well or not: one LITERAL more -/
theorem l_lit_atom {k : Int} {pl j : Nat} {y : Int} {L : Nat → Int} (hf : n + 20 < f) (htell : tell = true ↔ r ≠ 24) (hS : rRS G q B n lm o r c N V l M) (h8 : l.length < 8) (G1 : xG_) (hG1 : k = 2 ∧ G1 = G ∨ k = 1 ∧ pAtoms l < 3 ∧ G1 = xup2 G 0 24 ((pAtoms l + 1 : Nat) : Int)) (hA : rAt q B n lm j L) :
    pok (pbind (pP tell N y pl) fun p => pbind (pA48 (tstr B n lm) V j) fun z => .inr (p.2, z.2.1, l ++ [(k, p.1, pl, z.1, [], [])], M ++ [(p.1, pl, (z.1.length : Int), 4)], z.2.2)) (fun w => ∃ G' L', (g249 f ((8 * r + l.length : Nat) : Int) k y ((q : Int) + pl) (xlx G1 L)).bind (fun R => g247_261 f R) = some (xlx G' L') ∧ L' 7 = (q : Int) + w ∧ xfl o r (8 * r + l.length) V.length c (min M.length 420) N.length G G' ∧ rSb G' o r)
      (fun s => ∃ G' L', (g249 f ((8 * r + l.length : Nat) : Int) k y ((q : Int) + pl) (xlx G1 L)).bind (fun R => g247_261 f R) = some (xlx G' L') ∧ rAt q B n lm s.2.2.2.2 L' ∧ xfl o r (8 * r + l.length) V.length c (min M.length 420) N.length G G' ∧ rRS G' q B n lm o r c s.1 s.2.1 s.2.2.1 s.2.2.2.1) := by
  obtain ⟨hE, h23, hr, hN, hV, h37, hL, hM, h24, ha3, h25⟩ := hS
  have ho := hE.2.2.2.2
  have hg : ∀ a b, ¬ (a = 0 ∧ b = 24) → G1 a b = G a b := by
    intro a b hab
    rcases hG1 with ⟨_, e⟩ | ⟨_, _, e⟩
    · rw [e]
    · rw [e, xup2_n (by omega)]
  have f0 : xfl o r (8 * r + l.length) V.length c (min M.length 420) N.length G G1 := fun a b hb => hg a b (by omega)
  have hE1 : rEv G1 q B n lm o := hE.fl f0
  have hN1 : rNs G1 o N := ⟨by rw [hg _ _ (by omega)]; exact hN.1, hN.2.1, fun j hj => by rw [hg _ _ (by omega)]; exact hN.2.2 j hj⟩
  have hV1 : rVs G1 o q r V := hV.ot (fun j => hg _ _ (by omega)) (fun j => hg _ _ (by omega)) (fun j => hg _ _ (by omega))
  have hM1 : rMs G1 o q M := hM.fr (hg _ _ (by omega)) (fun a j _ _ => hg _ _ (by omega))
  have h1 := l_atom (f := f) (x := 8 * r + l.length) (k := k) (pl := pl) (y := y) hf hr htell (by omega) hE1 (by rw [hg _ _ (by omega)]; exact h23) hN1 hV1 hM1 hA
  have hL1 : G1 (o + 19) r = (l.length : Int) := by rw [hg _ _ (by omega)]; exact hL.1
  cases hp : pP tell N y pl with
  | inl w =>
    rw [hp] at h1
    obtain ⟨G2, L2, a1, a2, a3, a4, a5, a6, a7, a8, a9⟩ := h1
    have hE2 := hE1.fA a3
    have e19 : G2 (o + 19) r = (l.length : Int) := by rw [a3 _ _ (by omega)]; exact hL1
    have hi := l_inc (f := f) (L := L2) hE2 (by rw [a3 _ _ (by omega), hg _ _ (by omega)]; exact h23) hr e19 (by omega)
    refine ⟨_, L2, by rw [a1]; exact hi, a2, (f0.tr a3.fl (Nat.le_refl _) (Nat.le_refl _) (Nat.le_refl c) (Nat.le_refl _) (Nat.le_refl _)).tr (xfl.up _ (by omega)) (Nat.le_refl _) (Nat.le_refl _) (Nat.le_refl _) (Nat.le_refl _) (Nat.le_refl _), ?_⟩
    unfold rSb
    rw [xup2_s, xup2_n (by omega), xup2_n (by omega), xup2_n (by omega)]
    omega
  | inr p =>
    rw [hp] at h1
    show pok (pbind (pA48 (tstr B n lm) V j) _) _ _
    cases hp2 : pA48 (tstr B n lm) V j with
    | inl w =>
      have h1' : pok (pbind (pA48 (tstr B n lm) V j) fun z => .inr (p, z)) _ _ := h1
      rw [hp2] at h1'
      obtain ⟨G2, L2, a1, a2, a3, a4, a5, a6, a7, a8, a9⟩ := h1'
      have hE2 := hE1.fA a3
      have e19 : G2 (o + 19) r = (l.length : Int) := by rw [a3 _ _ (by omega)]; exact hL1
      have hi := l_inc (f := f) (L := L2) hE2 (by rw [a3 _ _ (by omega), hg _ _ (by omega)]; exact h23) hr e19 (by omega)
      refine ⟨_, L2, by rw [a1]; exact hi, a2, (f0.tr a3.fl (Nat.le_refl _) (Nat.le_refl _) (Nat.le_refl c) (Nat.le_refl _) (Nat.le_refl _)).tr (xfl.up _ (by omega)) (Nat.le_refl _) (Nat.le_refl _) (Nat.le_refl _) (Nat.le_refl _) (Nat.le_refl _), ?_⟩
      unfold rSb
      rw [xup2_s, xup2_n (by omega), xup2_n (by omega), xup2_n (by omega)]
      omega
    | inr z =>
      have h1' : pok (pbind (pA48 (tstr B n lm) V j) fun z => .inr (p, z)) _ _ := h1
      rw [hp2] at h1'
      obtain ⟨G2, L2, a1, a2, a3, a4, a5, a6, a7, a8, a9, a10⟩ := h1'
      have hE2 := hE1.fA a3
      have e19 : G2 (o + 19) r = (l.length : Int) := by rw [a3 _ _ (by omega)]; exact hL1
      have h23' : G2 0 23 = (r : Int) := by rw [a3 _ _ (by omega), hg _ _ (by omega)]; exact h23
      have hi := l_inc (f := f) (L := L2) hE2 h23' hr e19 (by omega)
      have fF : xfl o r (8 * r + l.length) V.length c (min M.length 420) N.length G (xup2 G2 (o + 19) r ((l.length + 1 : Nat) : Int)) := (f0.tr a3.fl (Nat.le_refl _) (Nat.le_refl _) (Nat.le_refl c) (Nat.le_refl _) (Nat.le_refl _)).tr (xfl.up _ (by omega)) (Nat.le_refl _) (Nat.le_refl _) (Nat.le_refl _) (Nat.le_refl _) (Nat.le_refl _)
      have hT4 : z.1.length ≤ 4 := by
        unfold pA48 at hp2
        obtain ⟨_, _, q2⟩ := pbind_inr hp2
        obtain ⟨_, _, q3⟩ := pbind_inr q2
        obtain ⟨zz, q4, q5⟩ := pbind_inr q3
        obtain ⟨_, _, q6⟩ := pbind_inr q5
        have := pTerms_le q4
        cases q6
        simp only [List.length_singleton] at this
        simp only
        omega
      refine ⟨_, L2, by rw [a1]; exact hi, a2, fF, hE2.fl (xfl.up (r := r) (x := 8 * r + l.length) (v0 := 0) (c0 := 0) (m0 := 0) (n0 := 0) _ (by omega)), by rw [xup2_n (by omega)]; exact h23', hr, ?_, ?_, ?_, ?_, ?_, ?_, ?_, ?_⟩
      · exact ⟨by rw [xup2_n (by omega)]; exact a4.1, a4.2.1, fun j hj => by rw [xup2_n (by omega)]; exact a4.2.2 j hj⟩
      · exact a5.ot (fun j => xup2_n (by omega)) (fun j => xup2_n (by omega)) (fun j => xup2_n (by omega))
      · rw [xup2_n (by omega), a3 _ _ (by omega), hg _ _ (by omega)]; exact h37
      · refine hL.add fF (Nat.le_refl _) ⟨?_, hT4, fun _ => ⟨?_, ?_, fun k hk => ?_⟩, fun h => ?_⟩ (xup2_s _ _ _ _) h8
        · rw [xup2_n (by omega)]; exact a6
        · rw [xup2_n (by omega)]; exact a7
        · rw [xup2_n (by omega)]; exact a9
        · rw [xup2_n (by omega), xup2_n (by omega)]; exact a8 k hk
        · exact absurd h (by show ¬ k = 3; omega)
      · exact a10.fr (xup2_n (by omega)) (fun a j _ _ => xup2_n (by omega))
      · rw [xup2_n (by omega), a3 _ _ (by omega), pAtoms_1]
        rcases hG1 with ⟨k1, e⟩ | ⟨k1, _, e⟩
        · rw [e, h24, if_neg (by show ¬ k = 1; omega)]
          rfl
        · rw [e, if_pos (by show k = 1; omega)]
          exact xup2_s _ _ _ _
      · rw [pAtoms_1]
        rcases hG1 with ⟨k1, e⟩ | ⟨k1, k3, e⟩
        · rw [if_neg (by show ¬ k = 1; omega)]; omega
        · rw [if_pos (by show k = 1; omega)]; omega
      · rw [xup2_n (by omega), a3 _ _ (by omega), hg _ _ (by omega)]; exact h25
/-- behind what compares -/
theorem l_lit_cmp {Q : pCd} {V' : List (Int × Nat)} {j pl : Nat} (hf : n + 20 < f) (hcb : cb + n + 3 ≤ 6200) (hF : 4 * (n + 1 - j) + 2 ≤ F) (hS : rRS G q B n lm o r c N V l M) (h8 : l.length < 8) (hV : V.length ≤ V'.length) (hfe : xfC o r (8 * r + l.length) V.length c G G') (h28 : G' (o + 28) (8 * r + l.length) = (c : Int)) (hX : rX G' q B n lm o r V' c Q 0) (hA : rAt q B n lm j L) (hc : c + Q.length ≤ cb + j) :
    pok (if isCs (kK (tstr B n lm) j) then pbind (pX (tstr B n lm) F 1 0 (V', [], j + 1)) fun b => .inr (N, b.1, l ++ [(3, kK (tstr B n lm) j, pl, [], Q, b.2.1)], M, b.2.2) else .inl (kS (tstr B n lm) j)) (fun w => ∃ G1 L', (g248 f ((8 * r + l.length : Nat) : Int) (xlx G' L)).bind (fun R => g247_261 f R) = some (xlx G1 L') ∧ L' 7 = (q : Int) + w ∧ xfl o r (8 * r + l.length) V.length c (min M.length 420) N.length G G1 ∧ rSb G1 o r)
      (fun s => ∃ G1 L' c', (g248 f ((8 * r + l.length : Nat) : Int) (xlx G' L)).bind (fun R => g247_261 f R) = some (xlx G1 L') ∧ rAt q B n lm s.2.2.2.2 L' ∧ xfl o r (8 * r + l.length) V.length c (min M.length 420) N.length G G1 ∧ rRS G1 q B n lm o r c' s.1 s.2.1 s.2.2.1 s.2.2.2.1 ∧ c ≤ c' ∧ c' ≤ cb + s.2.2.2.2) := by
  obtain ⟨hE, h23, hr, hN, hV0, h37, hL, hM, h24, ha3, h25⟩ := hS
  have ho := hE.2.2.2.2
  have h1 := l_cmp (f := f) (x := 8 * r + l.length) hf hcb (by omega) hF hX hA hc
  have key : ∀ G1, xfC o r (8 * r + l.length) V'.length (c + Q.length) G' G1 → 0 ≤ G1 (o + 20) r → G1 (o + 20) r ≤ 8 → rEv G1 q B n lm o ∧ G1 0 23 = (r : Int) ∧ G1 (o + 19) r = (l.length : Int) ∧ xfC o r (8 * r + l.length) V.length c G G1 := by
    intro G1 g1 g2 g3
    have g4 := hfe.tr g1 hV (by omega)
    exact ⟨hE.fC g4, by rw [g4 _ _ (by omega)]; exact h23, by rw [g4 _ _ (by omega)]; exact hL.1, g4⟩
  by_cases hcs : isCs (kK (tstr B n lm) j)
  · rw [if_pos hcs] at h1 ⊢
    cases hp : pX (tstr B n lm) F 1 0 (V', [], j + 1) with
    | inl w =>
      rw [hp] at h1
      obtain ⟨G1, L1, a1, a2, a3, a4, a5⟩ := h1
      obtain ⟨k1, k2, k3, k4⟩ := key G1 a3 a4 a5
      have hi := l_inc (f := f) (L := L1) k1 k2 hr k3 (by omega)
      refine ⟨_, L1, by rw [a1]; exact hi, a2, k4.fl.tr (xfl.up _ (by omega)) (Nat.le_refl _) (Nat.le_refl _) (Nat.le_refl _) (Nat.le_refl _) (Nat.le_refl _), ?_⟩
      unfold rSb
      rw [xup2_s, xup2_n (by omega), xup2_n (by omega), xup2_n (by omega), k4 o 14 (by omega), k4 o 8 (by omega), hM.1, hN.1]
      have := hN.2.1
      omega
    | inr b =>
      rw [hp] at h1
      obtain ⟨G1, L1, a1, a2, a3, a4, a5, a6, a7, a8, a9⟩ := h1
      have hle := pX_le F 1 0 (V', [], j + 1) b (by decide) hp
      simp only [List.length_nil] at hle
      obtain ⟨k1, k2, k3, k4⟩ := key G1 a3 (by rw [a4.2.2.2.1.1]; omega) (by rw [a4.2.2.2.1.1]; have := a4.2.2.2.1.2.1; omega)
      have hi := l_inc (f := f) (L := L1) k1 k2 hr k3 (by omega)
      have fF : xfl o r (8 * r + l.length) V.length c (min M.length 420) N.length G (xup2 G1 (o + 19) r ((l.length + 1 : Nat) : Int)) := k4.fl.tr (xfl.up _ (by omega)) (Nat.le_refl _) (Nat.le_refl _) (Nat.le_refl _) (Nat.le_refl _) (Nat.le_refl _)
      refine ⟨_, L1, c + Q.length + b.2.1.length, by rw [a1]; exact hi, a2, fF, ⟨k1.fl (xfl.up (r := r) (x := 8 * r + l.length) (v0 := 0) (c0 := 0) (m0 := 0) (n0 := 0) _ (by omega)), by rw [xup2_n (by omega)]; exact k2, hr, ?_, ?_, ?_, ?_, ?_, ?_, ?_, ?_⟩, by omega, by show c + Q.length + b.2.1.length ≤ cb + b.2.2; omega⟩
      · exact ⟨by rw [xup2_n (by omega), k4 _ _ (by omega)]; exact hN.1, hN.2.1, fun j hj => by rw [xup2_n (by omega), k4 _ _ (by omega)]; exact hN.2.2 j hj⟩
      · exact a4.2.2.2.1.ot (fun j => xup2_n (by omega)) (fun j => xup2_n (by omega)) (fun j => xup2_n (by omega))
      · rw [xup2_n (by omega)]; exact a4.2.2.2.2.1
      · refine hL.add fF (by omega) ⟨?_, by show 0 ≤ 4; omega, fun h => absurd rfl h, fun _ => ⟨?_, c, ?_, ?_, ?_, Nat.le_refl _, ?_, ?_⟩⟩ (xup2_s _ _ _ _) h8
        · rw [xup2_n (by omega)]; exact a5
        · rw [xup2_n (by omega)]; exact a6
        · rw [xup2_n (by omega), a7]; exact h28
        · rw [xup2_n (by omega)]; exact a8
        · rw [xup2_n (by omega)]; exact a9
        · intro j hj
          have hj' : j < Q.length := hj
          rw [xup2_n (by omega), xup2_n (by omega), a3 _ _ (by omega), a3 _ _ (by omega)]
          exact hX.2.2.2.2.2.1 j hj
        · intro j hj
          rw [xup2_n (by omega), xup2_n (by omega)]
          exact a4.2.2.2.2.2.1 j hj
      · exact hM.fr (by rw [xup2_n (by omega), k4 _ _ (by omega)]) (fun a j _ _ => by rw [xup2_n (by omega), k4 _ _ (by omega)])
      · rw [xup2_n (by omega), k4 _ _ (by omega), pAtoms_1, if_neg (show ¬ (3 : Int) = 1 by decide)]; exact h24
      · rw [pAtoms_1, if_neg (show ¬ (3 : Int) = 1 by decide)]; exact ha3
      · rw [xup2_n (by omega)]; exact a4.2.2.2.2.2.2
  · rw [if_neg hcs] at h1 ⊢
    obtain ⟨G1, L1, a1, a2, a3, a4, a5⟩ := h1
    obtain ⟨k1, k2, k3, k4⟩ := key G1 a3 a4 a5
    have hi := l_inc (f := f) (L := L1) k1 k2 hr k3 (by omega)
    refine ⟨_, L1, by rw [a1]; exact hi, a2, k4.fl.tr (xfl.up _ (by omega)) (Nat.le_refl _) (Nat.le_refl _) (Nat.le_refl _) (Nat.le_refl _) (Nat.le_refl _), ?_⟩
    unfold rSb
    rw [xup2_s, xup2_n (by omega), xup2_n (by omega), xup2_n (by omega), k4 o 14 (by omega), k4 o 8 (by omega), hM.1, hN.1]
    have := hN.2.1
    omega
end
