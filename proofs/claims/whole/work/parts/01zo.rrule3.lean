/-! The reference reads rules: behind the last ITEM; all ITEMS; all of a rule -/
section
variable {f q n o r i c cb F : Nat} {B : Nat → Int} {lm : Bool} {G : xG_} {L : Nat → Int} {N : List Int} {V : List (Int × Nat)} {g : Int × Int × Int} {I : List pCd} {M : List pMn}
/-- what the rest of a rule does: p its HEAD, pl its place, P NAMES, LITERALS and TOKEN -/
def rRP (f q : Nat) (B : Nat → Int) (n : Nat) (lm : Bool) (o r cb : Nat) (G : xG_) (L : Nat → Int) (c : Nat) (N : List Int) (M : List pMn) (p : Int) (pl : Nat) (e : xG_ → Option xG_) (P : Nat ⊕ (((Int × Int × Int) × List pCd) × pRs × Nat)) : Prop :=
  pok P (fun w => ∃ G' L', e (xlx G L) = some (xlx G' L') ∧ L' 7 = (q : Int) + w ∧ xfg o r c (min M.length 420) N.length G G')
    (fun z => ∃ G' L', ∃ c' : Nat, e (xlx G L) = some (xlx G' L') ∧ rAt q B n lm z.2.2 L' ∧ xfg o r c (min M.length 420) N.length G G' ∧ rFl o p G G' ∧ rNs G' o z.2.1.1 ∧ rMs G' o q z.2.1.2.2.2.1 ∧ G' o 37 = (c' : Int) ∧ G' o 9 = ((r + 1 : Nat) : Int) ∧ rRu G' o q r c' (p, pl, z.1.1, z.1.2, z.2.1.2.1, z.2.1.2.2.1) ∧ c ≤ c' ∧ c' ≤ cb + z.2.2)
theorem l_r89 {p : Int} {pl : Nat} (hf : n + 20 < f) (hcb : cb + n + 3 ≤ 6200) (hF : 4 * (n + 1 - i) + 4 ≤ F) (hr : r < 24) (hS : rIS G q B n lm o r c V g I) (hN : rNs G o N) (hM : rMs G o q M) (h19 : G (o + 19) r = 0) (h24 : G 0 24 = 0) (h9 : G o 9 = (r : Int)) (hp : 0 ≤ p ∧ p < 16) (hA : rAt q B n lm i L) (hc : c ≤ cb + i) :
    rRP f q B n lm o r cb G L c N M p pl (g237_89 f ((q : Int) + pl) p) (pbind (pNeed (tstr B n lm) 41 i) fun j => pbind (pBody (tstr B n lm) F N V (M ++ [(p, pl, (I.length : Int), 3)]) j) fun z => .inr ((g, I), z)) := by
  obtain ⟨⟨hE, h23, hr', hV, h37, hCo, h25⟩, h15, hI4, hg, hI⟩ := hS
  have h22 := hE.2.2.2.1
  have ho := hE.2.2.2.2
  have h37' : G o 37 = (c : Int) := h37
  unfold rRP pNeed
  by_cases c1 : kK (tstr B n lm) i = 41
  · rw [if_pos c1]
    obtain ⟨L1, n1, n2⟩ := l_need hf hE hA (c := 41) (by unfold isSg; omega) c1
    rw [show rsc 41 = 41 from rfl] at n1
    let G2 := xup2 (xup2 (xup2 G (o + 13) r p) (o + 14) r ((q : Int) + pl)) (o + 8) p.toNat 1
    have go : ∀ a j, ¬ (a = o + 13 ∨ a = o + 14 ∨ a = o + 8) → G2 a j = G a j := fun a j _ => by
      show xup2 (xup2 (xup2 G (o + 13) r p) (o + 14) r ((q : Int) + pl)) (o + 8) p.toNat 1 a j = _
      rw [xup2_n (by omega), xup2_n (by omega), xup2_n (by omega)]
    have g13 : G2 (o + 13) r = p := by
      show xup2 (xup2 (xup2 G (o + 13) r p) (o + 14) r ((q : Int) + pl)) (o + 8) p.toNat 1 (o + 13) r = _
      rw [xup2_n (by omega), xup2_n (by omega), xup2_s]
    have g14 : G2 (o + 14) r = (q : Int) + pl := by
      show xup2 (xup2 (xup2 G (o + 13) r p) (o + 14) r ((q : Int) + pl)) (o + 8) p.toNat 1 (o + 14) r = _
      rw [xup2_n (by omega), xup2_s]
    have g8 : ∀ j, G2 (o + 8) j = if (j : Int) = p then 1 else G (o + 8) j := fun j => by
      show xup2 (xup2 (xup2 G (o + 13) r p) (o + 14) r ((q : Int) + pl)) (o + 8) p.toNat 1 (o + 8) j = _
      rw [xup2_e]
      by_cases cj : (j : Int) = p
      · rw [if_pos ⟨rfl, by omega⟩, if_pos cj]
      · rw [if_neg (by omega), if_neg cj, xup2_n (by omega), xup2_n (by omega)]
    have f2 : xfg o r c (min M.length 420) N.length G G2 := ((xfg.up _ (by omega)).tr (xfg.up _ (by omega)) (Nat.le_refl _) (Nat.le_refl _) (Nat.le_refl _) (Nat.le_refl _)).tr (xfg.up _ (by omega)) (Nat.le_refl _) (Nat.le_refl _) (Nat.le_refl _) (Nat.le_refl _)
    have hE2 := hE.fg f2
    have hM2 : rMs G2 o q M := hM.fr (go _ _ (by omega)) (fun a j _ _ => go _ _ (by omega))
    have e0 : g237_89 f ((q : Int) + pl) p (xlx G L) = ((g220 f (300) (xlx (rMen G2 o (min M.length 420) p ((q : Int) + pl) (I.length : Int) 3) L1)).bind fun R147 => (if (R147.1) = 0 then g237_176 f R147.2 else ((g213 f R147.2).bind fun R153 => ((g246 f R153).bind fun R158 => g237_176 f R158)))) := by
      unfold g237_89
      rw [n1]
      simp only [Option.bind_some]
      rw [l_bad, if_pos n2.1]
      simp only [Option.bind_some]
      rw [if_pos trivial, xlx_o _ _ (by omega), h22, if_neg (by omega), xlx_o _ _ (by omega), h23, if_pos (by omega), Int.toNat_natCast, Int.toNat_natCast, xlx_upo _ _ _ (by omega)]
      rw [xlx_o _ _ (by omega), xup2_n (by omega), h22, if_neg (by omega), xlx_o _ _ (by omega), xup2_n (by omega), h23, if_pos (by omega), Int.toNat_natCast, Int.toNat_natCast, xlx_upo _ _ _ (by omega)]
      rw [xlx_o _ _ (by omega), xup2_n (by omega), xup2_n (by omega), h22, if_neg (by omega), if_pos hp, Int.toNat_natCast, xlx_upo _ _ _ (by omega)]
      show (if (xlx G2 L1) 0 22 < 0 then none else if 0 ≤ (xlx G2 L1) 0 23 ∧ (xlx G2 L1) 0 23 < 25 then (g229 f p ((q : Int) + pl) ((xlx G2 L1) (((xlx G2 L1) 0 22).toNat + 15) ((xlx G2 L1) 0 23).toNat) 3 (xlx G2 L1)).bind _ else none) = _
      rw [xlx_o _ _ (by omega), go 0 22 (by omega), h22, if_neg (by omega), xlx_o _ _ (by omega), go 0 23 (by omega), h23, if_pos (by omega), Int.toNat_natCast, Int.toNat_natCast, xlx_o _ _ (by omega), go (o + 15) r (by omega), h15, l_men hE2 hM2.1 (by omega)]
      rfl
    let G3 := rMen G2 o (min M.length 420) p ((q : Int) + pl) (I.length : Int) 3
    have go3 : ∀ a j, ¬ (o + 9 ≤ a ∧ a ≤ o + 12 ∨ a = o ∧ j = 14) → G3 a j = G2 a j := fun a j h => rMen_o h
    have f3 : xfg o r c (min M.length 420) N.length G G3 := f2.tr ((rMen_fl (r := r) (x := 8 * r) (v0 := 0) (c0 := c) (n0 := N.length) G2).fg (Nat.le_refl _)) (Nat.le_refl _) (Nat.le_refl _) (Nat.le_refl _) (Nat.le_refl _)
    have hS3 : rRS G3 q B n lm o r c N V [] (M ++ [(p, pl, (I.length : Int), 3)]) := by
      refine ⟨hE.fg f3, by rw [go3 _ _ (by omega), go _ _ (by omega)]; exact h23, hr', ⟨by rw [go3 _ _ (by omega), go _ _ (by omega)]; exact hN.1, hN.2.1, fun k hk => by rw [go3 _ _ (by omega), go _ _ (by omega)]; exact hN.2.2 k hk⟩, hV.ot (fun j => by rw [go3 _ _ (by omega), go _ _ (by omega)]) (fun j => by rw [go3 _ _ (by omega), go _ _ (by omega)]) (fun j => by rw [go3 _ _ (by omega), go _ _ (by omega)]), by rw [go3 _ _ (by omega), go _ _ (by omega)]; exact h37', ⟨by rw [go3 _ _ (by omega), go _ _ (by omega)]; exact h19, by decide, fun k hk => absurd hk (by simp)⟩, hM2.add (p, pl, (I.length : Int), 3), by rw [go3 _ _ (by omega), go _ _ (by omega)]; exact h24, by decide, by rw [go3 _ _ (by omega), go _ _ (by omega)]; exact h25⟩
    have h1 := l_body (f := f) (F := F) hf hcb (show 4 * (n + 1 - (i + 1)) + 4 ≤ F by omega) hr hS3 (by rw [go3 _ _ (by omega), go _ _ (by omega)]; exact h9) n2 (show c ≤ cb + (i + 1) by omega)
    rw [e0]
    show pok (pbind (pBody (tstr B n lm) F N V (M ++ [(p, pl, (I.length : Int), 3)]) (i + 1)) _) _ _
    have hm1 : min M.length 420 ≤ min (M ++ [(p, pl, (I.length : Int), (3 : Int))]).length 420 := by rw [len1]; omega
    cases hb : pBody (tstr B n lm) F N V (M ++ [(p, pl, (I.length : Int), 3)]) (i + 1) with
    | inl w =>
      rw [hb] at h1
      obtain ⟨G', L', a1, a2, a3⟩ := h1
      exact ⟨G', L', a1, a2, f3.tr a3 (Nat.le_refl _) (Nat.le_refl _) hm1 (Nat.le_refl _)⟩
    | inr z =>
      rw [hb] at h1
      obtain ⟨G', L', c', a1, a2, a3, a4, a5, a6, a7⟩ := h1
      have gg : ∀ a j, ¬ (a = o ∧ j = 9) → xup2 G' o 9 (r : Int) a j = G' a j := fun a j h => xup2_n h
      have fF : xfg o r c (min M.length 420) N.length G G' := by
        intro a j hj
        rw [← gg a j (by omega), a3 a j (by omega)]
        exact f3 a j hj
      have gi : ∀ a j, ¬ (a = o ∧ j = 9) → ¬ ((a = 0 ∧ (j = 21 ∨ j = 24 ∨ j = 25)) ∨ (a = o ∧ (j = 8 ∨ j = 14 ∨ j = 37)) ∨ (a = o + 1) ∨ (o + 9 ≤ a ∧ a ≤ o + 12) ∨ (a = o + 19 ∨ a = o + 20) ∨ (a = o + 23 ∨ a = o + 24) ∨ (o + 25 ≤ a ∧ a ≤ o + 32) ∨ ((a = o + 33 ∨ a = o + 34) ∧ c ≤ j)) → G' a j = G3 a j := fun a j h1 h2 => by rw [← gg a j h1, a3 a j (by omega)]
      obtain ⟨b1, b2, b3, b4, b5, b6, b7, b8, b9, b10, b11⟩ := a5
      refine ⟨G', L', c', a1, a2, fF, ?_, b4, b8, b6, a4, ⟨?_, ?_, ⟨?_, ?_, ?_, hg.2.2.2⟩, ?_, hI4, fun k hk => ?_, b5, b7⟩, a6, a7⟩
      · intro a j ha
        rw [gi a j (by omega) (by omega), go3 _ _ (by omega)]
        by_cases c8 : a = o + 8
        · rw [c8, g8]
          by_cases cj : (j : Int) = p
          · rw [if_pos cj, if_pos ⟨rfl, cj⟩]
          · rw [if_neg cj, if_neg (fun h => cj h.2)]
        · rw [if_neg (fun h => c8 h.1), go _ _ (by omega)]
      · rw [gi _ _ (by omega) (by omega), go3 _ _ (by omega)]; exact g13
      · rw [gi _ _ (by omega) (by omega), go3 _ _ (by omega)]; exact g14
      · rw [gi _ _ (by omega) (by omega), go3 _ _ (by omega), go _ _ (by omega)]; exact hg.1
      · rw [gi _ _ (by omega) (by omega), go3 _ _ (by omega), go _ _ (by omega)]; exact hg.2.1
      · rw [gi _ _ (by omega) (by omega), go3 _ _ (by omega), go _ _ (by omega)]; exact hg.2.2.1
      · rw [gi _ _ (by omega) (by omega), go3 _ _ (by omega), go _ _ (by omega)]; exact h15
      · show rIc G' o (4 * r + k) c' (I.getD k [])
        have hk' : k < I.length := hk
        obtain ⟨a, d1, d2, d3, d4⟩ := hI k hk'
        refine ⟨a, ?_, ?_, by omega, fun j hj => ?_⟩
        · rw [gi _ _ (by omega) (by omega), go3 _ _ (by omega), go _ _ (by omega)]; exact d1
        · rw [gi _ _ (by omega) (by omega), go3 _ _ (by omega), go _ _ (by omega)]; exact d2
        · have hj' : j < (I.getD k []).length := hj
          rw [gi _ _ (by omega) (by omega), gi _ _ (by omega) (by omega), go3 _ _ (by omega), go3 _ _ (by omega), go _ _ (by omega), go _ _ (by omega)]
          exact d4 j hj
  · rw [if_neg c1]
    have n1 := l_need_no (f := f) hE hA (c := 41) (by unfold isSg; omega) c1
    rw [show rsc 41 = 41 from rfl] at n1
    refine ⟨G, xu L 7 ((q : Int) + kS (tstr B n lm) i), ?_, rfl, .rf _ _ _ _ _ _⟩
    unfold g237_89
    rw [n1]
    simp only [Option.bind_some]
    rw [l_bad, if_neg (by show ¬ (q : Int) + _ = -1; omega)]
    simp only [Option.bind_some]
    rw [if_neg (by decide)]
theorem l_r89_bad {x p : Int} (h : L 7 ≠ -1) : g237_89 f x p (xlx G L) = some (xlx G L) := by
  unfold g237_89
  rw [l_need_bad h]
  simp only [Option.bind_some]
  rw [l_bad, if_neg h]
  simp only [Option.bind_some]
  rw [if_neg (by decide)]
end
