/-! The reference reads ATOMS: all of one -/
def xfA (o r x v0 m0 n0 : Nat) (G G' : xG_) : Prop := ∀ a j, ¬ ((a = 0 ∧ j = 21) ∨ (a = o ∧ (j = 8 ∧ r ≠ 24 ∨ j = 14)) ∨ (a = o + 1 ∧ n0 ≤ j ∧ r ≠ 24) ∨ (o + 9 ≤ a ∧ a ≤ o + 12 ∧ m0 ≤ j) ∨ (a = o + 20 ∧ j = r) ∨ ((a = o + 23 ∨ a = o + 24) ∧ 8 * r + v0 ≤ j) ∨ (o + 25 ≤ a ∧ a ≤ o + 27 ∧ j = x) ∨ ((a = o + 31 ∨ a = o + 32) ∧ 4 * x ≤ j)) → G' a j = G a j
theorem xfA.fl {o r x v0 m0 n0 c0 : Nat} {G G1 : xG_} (h : xfA o r x v0 m0 n0 G G1) : xfl o r x v0 c0 m0 n0 G G1 := fun a j hj => h a j (by omega)
theorem xfa.fA {o r x v0 m0 n0 : Nat} {G G1 : xG_} (h : xfa o r v0 x m0 G G1) : xfA o r x v0 m0 n0 G G1 := fun a j hj => h a j (by omega)
theorem xfA.tr {o r x v0 m0 n0 v1 m1 n1 : Nat} {G G1 G2 : xG_} (h : xfA o r x v0 m0 n0 G G1) (h1 : xfA o r x v1 m1 n1 G1 G2) (hv : v0 ≤ v1) (hm : m0 ≤ m1) (hn : n0 ≤ n1) : xfA o r x v0 m0 n0 G G2 := by
  intro a j hj
  rw [h1 a j (by omega), h a j hj]
theorem xfA.up {o r x v0 m0 n0 a j : Nat} {v : Int} (G : xG_) (h : (a = 0 ∧ j = 21) ∨ (a = o ∧ (j = 8 ∧ r ≠ 24 ∨ j = 14)) ∨ (a = o + 1 ∧ n0 ≤ j ∧ r ≠ 24) ∨ (o + 9 ≤ a ∧ a ≤ o + 12 ∧ m0 ≤ j) ∨ (a = o + 20 ∧ j = r) ∨ ((a = o + 23 ∨ a = o + 24) ∧ 8 * r + v0 ≤ j) ∨ (o + 25 ≤ a ∧ a ≤ o + 27 ∧ j = x) ∨ ((a = o + 31 ∨ a = o + 32) ∧ 4 * x ≤ j)) : xfA o r x v0 m0 n0 G (xup2 G a j v) := by
  intro a' j' hj
  exact xup2_n (fun e => hj (by rw [e.1, e.2]; exact h))
theorem rEv.fA {G G' : xG_} {q n o r x v0 m0 n0 : Nat} {B : Nat → Int} {lm : Bool} (h : rEv G q B n lm o) (hf : xfA o r x v0 m0 n0 G G') : rEv G' q B n lm o := h.fl (hf.fl (c0 := 0))
section
variable {f q n o r x : Nat} {B : Nat → Int} {lm : Bool} {G G' : xG_} {L : Nat → Int}
theorem l_a48_bad {y p : Int} (hE : rEv G q B n lm o) (h : L 7 ≠ -1) (hx : x < 200) (hf : 0 < f) : g249_48 f x y p (xlx G L) = some (xlx (xup2 (xup2 G (o + 26) x p) (o + 27) x 1) L) := by
  have h22 := hE.2.2.2.1
  have ho := hE.2.2.2.2
  unfold g249_48
  rw [xlx_o _ _ (by omega), h22, if_neg (by omega), if_pos (by omega), Int.toNat_natCast, Int.toNat_natCast, xlx_upo _ _ _ (by omega)]
  simp only [Option.bind_some]
  rw [l_need_bad h]
  simp only [Option.bind_some]
  rw [l_term_bad h]
  simp only [Option.bind_some]
  rw [xwr_g _ (by decide) (by decide)]
  have := l_aloop_bad (f := f) (G := xup2 G (o + 26) x p) (y := y) (p := p) (fu := f) (m := 1) (L := L) (hE.fA (xfA.up (r := 0) (v0 := 0) (m0 := 0) (n0 := 0) (x := x) G (by omega))) h hx hf
  exact this
def pA48 (t : tStr) (V : List (Int × Nat)) (i : Nat) : Nat ⊕ (pCd × List (Int × Nat) × Nat) := pbind (pNeed t 40 i) fun i => pbind (pTerm t V i) fun y => pbind (pTerms t 3 [y.1] y.2.1 y.2.2) fun z => pbind (pNeed t 41 z.2.2) fun j => .inr (z.1, z.2.1, j)
theorem l_a48 {M : List pMn} {V : List (Int × Nat)} {i pl : Nat} {p : Int} (hf : n + 20 < f) (hr : r ≤ 24) (hx : x < 200) (hE : rEv G q B n lm o) (h23 : G 0 23 = (r : Int)) (hV : rVs G o q r V) (hM : rMs G o q M) (hA : rAt q B n lm i L) :
    pok (pA48 (tstr B n lm) V i) (fun w => ∃ G' L', g249_48 f x ((q : Int) + pl) p (xlx G L) = some (xlx G' L') ∧ L' 7 = (q : Int) + w ∧ xfa o r V.length x (min M.length 420) (xup2 G (o + 26) x p) G' ∧ 0 ≤ G' (o + 20) r ∧ G' (o + 20) r ≤ 8 ∧ 0 ≤ G' o 14 ∧ G' o 14 ≤ 420)
      (fun y => ∃ G' L', g249_48 f x ((q : Int) + pl) p (xlx G L) = some (xlx G' L') ∧ rAt q B n lm y.2.2 L' ∧ xfa o r V.length x (min M.length 420) (xup2 G (o + 26) x p) G' ∧ rVs G' o q r y.2.1 ∧ rTs G' o x y.1 ∧ G' (o + 27) x = (y.1.length : Int) ∧ rMs G' o q (M ++ [(p, pl, (y.1.length : Int), 4)])) := by
  have h22 := hE.2.2.2.1
  have ho := hE.2.2.2.2
  have hE0 : rEv (xup2 G (o + 26) x p) q B n lm o := hE.fA (xfA.up (r := 0) (v0 := 0) (m0 := 0) (n0 := 0) (x := x) G (by omega))
  have hM0 : rMs (xup2 G (o + 26) x p) o q M := hM.fr (xup2_n (by omega)) (fun a j _ _ => xup2_n (by omega))
  have hV0 : rVs (xup2 G (o + 26) x p) o q r V := hV.ot (fun j => xup2_n (by omega)) (fun j => xup2_n (by omega)) (fun j => xup2_n (by omega))
  have h23' : xup2 G (o + 26) x p 0 23 = (r : Int) := by rw [xup2_n (by omega)]; exact h23
  have e0 : g249_48 f x ((q : Int) + pl) p (xlx G L) = (g222 f 40 (xlx (xup2 G (o + 26) x p) L)).bind fun R146 => ((g250 f x ((0 : Nat) : Int) R146).bind fun R151 => g249_79 f f x ((q : Int) + pl) p ((1 : Nat) : Int) R151) := by
    unfold g249_48
    rw [xlx_o _ _ (by omega), h22, if_neg (by omega), if_pos (by omega), Int.toNat_natCast, Int.toNat_natCast, xlx_upo _ _ _ (by omega)]
    simp only [Option.bind_some]
    rw [xwr_g _ (by decide) (by decide)]
    rfl
  rw [e0]
  generalize xup2 G (o + 26) x p = G0 at *
  unfold pA48 pNeed
  by_cases c : kK (tstr B n lm) i = 40
  · rw [if_pos c]
    obtain ⟨L1, n1, n2⟩ := l_need hf hE0 hA (c := 40) (by unfold isSg; omega) c
    rw [show rsc 40 = 40 from rfl] at n1
    rw [n1]
    simp only [Option.bind_some]
    have h1 := l_term (f := f) (x := x) (k := 0) hf hE0 h23' hr hV0 n2 hx (by omega)
    show pok (pbind (pTerm (tstr B n lm) V (i + 1)) _) _ _
    cases hp : pTerm (tstr B n lm) V (i + 1) with
    | inl w =>
      rw [hp] at h1
      obtain ⟨G1, L2, e2, e3, e4, e5, e6⟩ := h1
      have hE1 := hE0.ft e4
      refine ⟨xup2 G1 (o + 27) x (1 : Nat), L2, ?_, e3, (e4.fa (by omega)).tr (xfa.up _ (by omega)) (Nat.le_refl _) (Nat.le_refl _), ?_⟩
      · rw [e2]
        simp only [Option.bind_some]
        rw [l_aloop_bad hE1 (by omega) hx (by omega)]
      · rw [xup2_n (by omega), xup2_n (by omega), e4 o 14 (by omega), hM0.1]
        omega
    | inr y =>
      rw [hp] at h1
      obtain ⟨G1, L2, e2, e3, e4, e5, e6, e7⟩ := h1
      have hle := pTerm_le hp
      have hM1 : rMs G1 o q M := hM0.fr (e4 _ _ (by omega)) (fun a j _ _ => e4 _ _ (by omega))
      have hT1 : rTs G1 o x [y.1] := rTs.add (T := []) (G := G1) (fun k hk => absurd hk (by simp)) (fun a j ha hj => rfl) e6 e7
      have h2 := l_aloop (M := M) (pl := pl) (p := p) hf hr hx 3 f (by omega) G1 L2 y.2.1 [y.1] y.2.2 rfl (hE0.ft e4) (by rw [e4 _ _ (by omega)]; exact h23') e5 hM1 hT1 e3
      rw [e2]
      simp only [Option.bind_some]
      show pok (pbind (pTerms (tstr B n lm) 3 [y.1] y.2.1 y.2.2) _) _ _
      cases hp2 : pbind (pTerms (tstr B n lm) 3 [y.1] y.2.1 y.2.2) (fun y => pbind (pNeed (tstr B n lm) 41 y.2.2) fun j => (.inr (y.1, y.2.1, j) : Nat ⊕ (pCd × List (Int × Nat) × Nat))) with
      | inl w =>
        rw [hp2] at h2
        obtain ⟨G2, L3, d1, d2, d3, d4⟩ := h2
        have hp3 := hp2
        unfold pNeed at hp3
        rw [hp3]
        exact ⟨G2, L3, d1, d2, (e4.fa (by omega)).tr d3 hle.1 (Nat.le_refl _), d4⟩
      | inr z =>
        rw [hp2] at h2
        obtain ⟨G2, L3, d1, d2, d3, d4⟩ := h2
        have hp3 := hp2
        unfold pNeed at hp3
        rw [hp3]
        exact ⟨G2, L3, d1, d2, (e4.fa (by omega)).tr d3 hle.1 (Nat.le_refl _), d4⟩
  · rw [if_neg c]
    have n1 := l_need_no (f := f) hE0 hA (c := 40) (by unfold isSg; omega) c
    rw [show rsc 40 = 40 from rfl] at n1
    have hbad : xu L 7 ((q : Int) + kS (tstr B n lm) i) 7 ≠ -1 := by show (q : Int) + _ ≠ -1; omega
    refine ⟨xup2 G0 (o + 27) x (1 : Nat), xu L 7 ((q : Int) + kS (tstr B n lm) i), ?_, rfl, xfa.up _ (by omega), ?_⟩
    · rw [n1]
      simp only [Option.bind_some]
      rw [l_term_bad hbad]
      simp only [Option.bind_some]
      rw [l_aloop_bad hE0 hbad hx (by omega)]
    · rw [xup2_n (by omega), xup2_n (by omega), hM0.1, hV0.1]
      have := hV0.2.1
      omega
/-- the predicate's number, as the program itself is read or not -/
def pP (tell : Bool) (N : List Int) (y : Int) (w : Nat) : Nat ⊕ (Int × List Int) :=
  if tell = true then (if pIdx N y = -1 then (if N.length = 16 then .inl w else .inr ((N.length : Int), N ++ [y])) else .inr (pIdx N y, N)) else .inr (pIdx N y, N)
theorem pP_le {tell : Bool} {N : List Int} {y : Int} {w : Nat} {p : Int × List Int} (h : pP tell N y w = .inr p) : N.length ≤ p.2.length ∧ (N.length ≤ 16 → p.2.length ≤ 16) := by
  unfold pP at h
  split at h
  · split at h
    · split at h
      · cases h
      · cases h
        simp only [len1]
        omega
    · cases h
      exact ⟨Nat.le_refl _, id⟩
  · cases h
    exact ⟨Nat.le_refl _, id⟩
theorem l_atom_bad {k y a : Int} {N : List Int} (hf : 20 < f) (hE : rEv G q B n lm o) (h23 : G 0 23 = (r : Int)) (hr : r ≤ 24) (hN : rNs G o N) (h : L 7 ≠ -1) (hx : x < 200) : ∃ p, g249 f x k y a (xlx G L) = some (xlx (xup2 (xup2 (xup2 G (o + 25) x k) (o + 26) x p) (o + 27) x 1) L) := by
  have h22 := hE.2.2.2.1
  have ho := hE.2.2.2.2
  have hE0 : rEv (xup2 G (o + 25) x k) q B n lm o := hE.fA (xfA.up (r := 0) (v0 := 0) (m0 := 0) (n0 := 0) (x := x) G (by omega))
  have hN0 : rNs (xup2 G (o + 25) x k) o N := ⟨by rw [xup2_n (by omega)]; exact hN.1, hN.2.1, fun j hj => by rw [xup2_n (by omega)]; exact hN.2.2 j hj⟩
  unfold g249
  rw [xlx_o _ _ (by omega), h22, if_neg (by omega), if_pos (by omega), Int.toNat_natCast, Int.toNat_natCast, xlx_upo _ _ _ (by omega)]
  simp only [Option.bind_some]
  rw [xlx_o _ _ (by omega), xup2_n (by omega), h23]
  by_cases c : (r : Int) = 24
  · rw [if_neg (fun q => q c), xlx_o _ _ (by omega), xup2_n (by omega), h22, if_neg (by omega), Int.toNat_natCast, rNs.idx (by omega) hf (hN0.x (by omega))]
    simp only [Option.bind_some]
    exact ⟨_, l_a48_bad hE0 h hx (by omega)⟩
  · rw [if_pos c, l_bad, if_neg h]
    simp only [Option.bind_some]
    rw [if_neg (by decide)]
    exact ⟨_, l_a48_bad hE0 h hx (by omega)⟩
theorem l_atom {k : Int} {N : List Int} {M : List pMn} {V : List (Int × Nat)} {i pl : Nat} {y : Int} {tell : Bool} (hf : n + 20 < f) (hr : r ≤ 24) (htell : tell = true ↔ r ≠ 24) (hx : x < 200) (hE : rEv G q B n lm o) (h23 : G 0 23 = (r : Int)) (hN : rNs G o N) (hV : rVs G o q r V) (hM : rMs G o q M) (hA : rAt q B n lm i L) :
    pok (pbind (pP tell N y pl) fun p => pbind (pA48 (tstr B n lm) V i) fun z => .inr (p, z)) (fun w => ∃ G' L', g249 f x k y ((q : Int) + pl) (xlx G L) = some (xlx G' L') ∧ L' 7 = (q : Int) + w ∧ xfA o r x V.length (min M.length 420) N.length G G' ∧ 0 ≤ G' (o + 20) r ∧ G' (o + 20) r ≤ 8 ∧ 0 ≤ G' o 14 ∧ G' o 14 ≤ 420 ∧ 0 ≤ G' o 8 ∧ G' o 8 ≤ 16)
      (fun z => ∃ G' L', g249 f x k y ((q : Int) + pl) (xlx G L) = some (xlx G' L') ∧ rAt q B n lm z.2.2.2 L' ∧ xfA o r x V.length (min M.length 420) N.length G G' ∧ rNs G' o z.1.2 ∧ rVs G' o q r z.2.2.1 ∧ G' (o + 25) x = k ∧ G' (o + 26) x = z.1.1 ∧ rTs G' o x z.2.1 ∧ G' (o + 27) x = (z.2.1.length : Int) ∧ rMs G' o q (M ++ [(z.1.1, pl, (z.2.1.length : Int), 4)])) := by
  have h22 := hE.2.2.2.1
  have ho := hE.2.2.2.2
  have f0 : xfA o r x V.length (min M.length 420) N.length G (xup2 G (o + 25) x k) := xfA.up G (by omega)
  have hE0 : rEv (xup2 G (o + 25) x k) q B n lm o := hE.fA f0
  have hN0 : rNs (xup2 G (o + 25) x k) o N := ⟨by rw [xup2_n (by omega)]; exact hN.1, hN.2.1, fun j hj => by rw [xup2_n (by omega)]; exact hN.2.2 j hj⟩
  have hM0 : rMs (xup2 G (o + 25) x k) o q M := hM.fr (xup2_n (by omega)) (fun a j _ _ => xup2_n (by omega))
  have hV0 : rVs (xup2 G (o + 25) x k) o q r V := hV.ot (fun j => xup2_n (by omega)) (fun j => xup2_n (by omega)) (fun j => xup2_n (by omega))
  have hk0 : xup2 G (o + 25) x k (o + 25) x = k := xup2_s _ _ _ _
  have h23' : xup2 G (o + 25) x k 0 23 = (r : Int) := by rw [xup2_n (by omega)]; exact h23
  have h22' : xup2 G (o + 25) x k 0 22 = (o : Int) := by rw [xup2_n (by omega)]; exact h22
  have e0 : g249 f x k y ((q : Int) + pl) (xlx G L) = if r = 24 then g249_48 f x ((q : Int) + pl) (pIdx N y) (xlx (xup2 G (o + 25) x k) L) else (g230 f y ((q : Int) + pl) (xlx (xup2 G (o + 25) x k) L)).bind fun R169 => g249_48 f x ((q : Int) + pl) (R169.1) R169.2 := by
    unfold g249
    rw [xlx_o _ _ (by omega), h22, if_neg (by omega), if_pos (by omega), Int.toNat_natCast, Int.toNat_natCast, xlx_upo _ _ _ (by omega)]
    simp only [Option.bind_some]
    rw [xlx_o _ _ (by omega), h23']
    by_cases c : r = 24
    · rw [if_neg (by omega), xlx_o _ _ (by omega), h22', if_neg (by omega), Int.toNat_natCast, rNs.idx (by omega) (by omega) (hN0.x (by omega)), if_pos c]
      rfl
    · rw [if_pos (by omega), l_bad, if_pos hA.1, if_neg c]
      simp only [Option.bind_some]
      rw [if_pos trivial]
  rw [e0]
  clear e0
  generalize xup2 G (o + 25) x k = G0 at *
  have rest : ∀ (p : Int) (N1 : List Int) (G1 : xG_), xfA o r x V.length (min M.length 420) N.length G0 G1 → rNs G1 o N1 → G1 (o + 25) x = k → (∀ a j, a ≠ o + 1 → ¬ (a = o ∧ j = 8) → G1 a j = G0 a j) → pok (pbind (pA48 (tstr B n lm) V i) fun z => (.inr ((p, N1), z) : Nat ⊕ ((Int × List Int) × pCd × List (Int × Nat) × Nat))) (fun w => ∃ G' L', g249_48 f x ((q : Int) + pl) p (xlx G1 L) = some (xlx G' L') ∧ L' 7 = (q : Int) + w ∧ xfA o r x V.length (min M.length 420) N.length G G' ∧ 0 ≤ G' (o + 20) r ∧ G' (o + 20) r ≤ 8 ∧ 0 ≤ G' o 14 ∧ G' o 14 ≤ 420 ∧ 0 ≤ G' o 8 ∧ G' o 8 ≤ 16)
      (fun z => ∃ G' L', g249_48 f x ((q : Int) + pl) p (xlx G1 L) = some (xlx G' L') ∧ rAt q B n lm z.2.2.2 L' ∧ xfA o r x V.length (min M.length 420) N.length G G' ∧ rNs G' o z.1.2 ∧ rVs G' o q r z.2.2.1 ∧ G' (o + 25) x = k ∧ G' (o + 26) x = z.1.1 ∧ rTs G' o x z.2.1 ∧ G' (o + 27) x = (z.2.1.length : Int) ∧ rMs G' o q (M ++ [(z.1.1, pl, (z.2.1.length : Int), 4)])) := by
    intro p N1 G1 g1 g2 g3 g4
    have h1 := l_a48 (M := M) (V := V) (pl := pl) (p := p) (x := x) hf hr hx (hE0.fA g1) (by rw [g4 _ _ (by omega) (by omega)]; exact h23') (hV0.ot (fun j => g4 _ _ (by omega) (by omega)) (fun j => g4 _ _ (by omega) (by omega)) (fun j => g4 _ _ (by omega) (by omega))) (hM0.fr (g4 _ _ (by omega) (by omega)) (fun a j _ _ => g4 _ _ (by omega) (by omega))) hA
    have fr : ∀ {G'}, xfa o r V.length x (min M.length 420) (xup2 G1 (o + 26) x p) G' → xfA o r x V.length (min M.length 420) N.length G G' := fun h => ((f0.tr g1 (Nat.le_refl _) (Nat.le_refl _) (Nat.le_refl _)).tr (xfA.up G1 (by omega)) (Nat.le_refl _) (Nat.le_refl _) (Nat.le_refl _)).tr h.fA (Nat.le_refl _) (Nat.le_refl _) (Nat.le_refl _)
    have hn : ∀ {G'}, xfa o r V.length x (min M.length 420) (xup2 G1 (o + 26) x p) G' → rNs G' o N1 := fun h => ⟨by rw [h _ _ (by omega), xup2_n (by omega)]; exact g2.1, g2.2.1, fun j hj => by rw [h _ _ (by omega), xup2_n (by omega)]; exact g2.2.2 j hj⟩
    cases hp : pA48 (tstr B n lm) V i with
    | inl w =>
      rw [hp] at h1
      obtain ⟨G2, L2, a1, a2, a3, a4, a5, a6, a7⟩ := h1
      exact ⟨G2, L2, a1, a2, fr a3, a4, a5, a6, a7, by rw [(hn a3).1]; omega, by rw [(hn a3).1]; have := (hn a3).2.1; omega⟩
    | inr z =>
      rw [hp] at h1
      obtain ⟨G2, L2, a1, a2, a3, a4, a5, a6, a7⟩ := h1
      exact ⟨G2, L2, a1, a2, fr a3, hn a3, a4, by rw [a3 _ _ (by omega), xup2_n (by omega)]; exact g3, by rw [a3 _ _ (by omega), xup2_s], a5, a6, a7⟩
  by_cases c : r = 24
  · rw [if_pos c]
    have ht : ¬ tell = true := fun h => htell.mp h c
    have e1 : pP tell N y pl = .inr (pIdx N y, N) := if_neg ht
    rw [e1]
    exact rest (pIdx N y) N G0 (fun a j _ => rfl) hN0 hk0 (fun a j _ _ => rfl)
  · rw [if_neg c]
    have ht : tell = true := htell.mpr c
    have e2 := l_pred (f := f) (x := y) (a := (q : Int) + pl) (L := L) (by omega) hE0 hN0 hA.1
    unfold pP
    rw [if_pos ht, e2]
    by_cases c1 : pIdx N y = -1
    · rw [if_pos c1, if_pos c1]
      by_cases c2 : N.length = 16
      · rw [if_pos c2, if_pos c2]
        simp only [Option.bind_some]
        have hbad : xu L 7 ((q : Int) + pl) 7 ≠ -1 := by show (q : Int) + _ ≠ -1; omega
        refine ⟨_, _, l_a48_bad hE0 hbad hx (by omega), rfl, (f0.tr (xfA.up _ (by omega)) (Nat.le_refl _) (Nat.le_refl _) (Nat.le_refl _)).tr (xfA.up _ (by omega)) (Nat.le_refl _) (Nat.le_refl _) (Nat.le_refl _), ?_⟩
        rw [xup2_n (by omega), xup2_n (by omega), xup2_n (by omega), xup2_n (by omega), xup2_n (by omega), xup2_n (by omega), hV0.1, hM0.1, hN0.1]
        have := hV0.2.1
        omega
      · rw [if_neg c2, if_neg c2]
        simp only [Option.bind_some]
        exact rest _ _ _ ((xfA.up _ (by omega)).tr (xfA.up _ (by omega)) (Nat.le_refl _) (Nat.le_refl _) (Nat.le_refl _)) (hN0.add y c2) (by rw [xup2_n (by omega), xup2_n (by omega)]; exact hk0) (fun a j h1 h2 => by rw [xup2_n (by omega), xup2_n (by omega)])
    · rw [if_neg c1, if_neg c1]
      simp only [Option.bind_some]
      exact rest (pIdx N y) N G0 (fun a j _ => rfl) hN0 hk0 (fun a j _ _ => rfl)
end
