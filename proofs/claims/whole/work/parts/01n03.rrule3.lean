section
/-! The reference reads rules: behind the last ITEM; all ITEMS; all of a rule -/
section
variable {f q n o r i c cb F : Nat} {B : Nat → Int} {lm : Bool} {G : xG_} {L : Nat → Int} {N : List Int} {V : List (Int × Nat)} {g : Int × Int × Int} {I : List pCd} {M : List pMn}
/-- what the rest of a rule does: p its HEAD, pl its place, P NAMES, LITERALS and TOKEN -/
def rRP (f q : Nat) (B : Nat → Int) (n : Nat) (lm : Bool) (o r cb : Nat) (G : xG_) (L : Nat → Int) (c : Nat) (N : List Int) (M : List pMn) (p : Int) (pl : Nat) (e : xG_ → Option xG_) (P : Nat ⊕ (((Int × Int × Int) × List pCd) × pRs × Nat)) : Prop :=
  pok P (fun w => ∃ G' L', e (xlx G L) = some (xlx G' L') ∧ L' 7 = (q : Int) + w ∧ xfg o r c (min M.length 420) N.length G G')
    (fun z => ∃ G' L', ∃ c' : Nat, e (xlx G L) = some (xlx G' L') ∧ rAt q B n lm z.2.2 L' ∧ xfg o r c (min M.length 420) N.length G G' ∧ rFl o p G G' ∧ rNs G' o z.2.1.1 ∧ rMs G' o q z.2.1.2.2.2.1 ∧ G' o 37 = (c' : Int) ∧ G' o 9 = ((r + 1 : Nat) : Int) ∧ rRu G' o q r c' (p, pl, z.1.1, z.1.2, z.2.1.2.1, z.2.1.2.2.1) ∧ c ≤ c' ∧ c' ≤ cb + z.2.2)
theorem l_r89 {p : Int} {pl : Nat} (hf : n + 20 < f) (hcb : cb + n + 3 ≤ 6200) (hF : 4 * (n + 1 - i) + 4 ≤ F) (hr : r < 24) (hS : rIS G q B n lm o r c V g I) (hN : rNs G o N) (hM : rMs G o q M) (h19 : G (o + 19) r = 0) (h24 : G 0 24 = 0) (h9 : G o 9 = (r : Int)) (hp : 0 ≤ p ∧ p < 16) (hA : rAt q B n lm i L) (hc : c ≤ cb + i) :
    rRP f q B n lm o r cb G L c N M p pl (g237_89 f ((q : Int) + pl) p) (pbind (pNeed (tstr B n lm) 41 i) fun j => pbind (pBody (tstr B n lm) F N V (M ++ [(p, pl, (I.length : Int), 3)]) j) fun z => .inr ((g, I), z)) := by
  obtain ⟨⟨hE, h23, hr', hV, h37, hCo, h25⟩, h15, hI4, hg, hI⟩ := hS
  have h22 := hE.2.2.2.1
  have ho := hE.2.2.2.2
  have h37' : G o 37 = (c : Int) := h37
  unfold rRP pNeed
  by_cases c1 : kK (tstr B n lm) i = 41
  · rw [if_pos c1]
    obtain ⟨L1, n1, n2⟩ := l_need hf hE hA (c := 41) (by unfold isSg; omega) c1
    rw [show rsc 41 = 41 from rfl] at n1
    let G2 := xup2 (xup2 (xup2 G (o + 13) r p) (o + 14) r ((q : Int) + pl)) (o + 8) p.toNat 1
    have go : ∀ a j, ¬ (a = o + 13 ∨ a = o + 14 ∨ a = o + 8) → G2 a j = G a j := fun a j _ => by
      show xup2 (xup2 (xup2 G (o + 13) r p) (o + 14) r ((q : Int) + pl)) (o + 8) p.toNat 1 a j = _
      rw [xup2_n (by omega), xup2_n (by omega), xup2_n (by omega)]
    have g13 : G2 (o + 13) r = p := by
      show xup2 (xup2 (xup2 G (o + 13) r p) (o + 14) r ((q : Int) + pl)) (o + 8) p.toNat 1 (o + 13) r = _
      rw [xup2_n (by omega), xup2_n (by omega), xup2_s]
    have g14 : G2 (o + 14) r = (q : Int) + pl := by
      show xup2 (xup2 (xup2 G (o + 13) r p) (o + 14) r ((q : Int) + pl)) (o + 8) p.toNat 1 (o + 14) r = _
      rw [xup2_n (by omega), xup2_s]
    have g8 : ∀ j, G2 (o + 8) j = if (j : Int) = p then 1 else G (o + 8) j := fun j => by
      show xup2 (xup2 (xup2 G (o + 13) r p) (o + 14) r ((q : Int) + pl)) (o + 8) p.toNat 1 (o + 8) j = _
      rw [xup2_e]
      by_cases cj : (j : Int) = p
      · rw [if_pos ⟨rfl, by omega⟩, if_pos cj]
      · rw [if_neg (by omega), if_neg cj, xup2_n (by omega), xup2_n (by omega)]
    have f2 : xfg o r c (min M.length 420) N.length G G2 := ((xfg.up _ (by omega)).tr (xfg.up _ (by omega)) (Nat.le_refl _) (Nat.le_refl _) (Nat.le_refl _) (Nat.le_refl _)).tr (xfg.up _ (by omega)) (Nat.le_refl _) (Nat.le_refl _) (Nat.le_refl _) (Nat.le_refl _)
    have hE2 := hE.fg f2
    have hM2 : rMs G2 o q M := hM.fr (go _ _ (by omega)) (fun a j _ _ => go _ _ (by omega))
    have e0 : g237_89 f ((q : Int) + pl) p (xlx G L) = ((g220 f (300) (xlx (rMen G2 o (min M.length 420) p ((q : Int) + pl) (I.length : Int) 3) L1)).bind fun R147 => (if (R147.1) = 0 then g237_176 f R147.2 else ((g213 f R147.2).bind fun R153 => ((g246 f R153).bind fun R158 => g237_176 f R158)))) := by
      unfold g237_89
      rw [n1]
      simp only [Option.bind_some]
      rw [l_bad, if_pos n2.1]
      simp only [Option.bind_some]
      rw [if_pos trivial, xlx_o _ _ (by omega), h22, if_neg (by omega), xlx_o _ _ (by omega), h23, if_pos (by omega), Int.toNat_natCast, Int.toNat_natCast, xlx_upo _ _ _ (by omega)]
      rw [xlx_o _ _ (by omega), xup2_n (by omega), h22, if_neg (by omega), xlx_o _ _ (by omega), xup2_n (by omega), h23, if_pos (by omega), Int.toNat_natCast, Int.toNat_natCast, xlx_upo _ _ _ (by omega)]
      rw [xlx_o _ _ (by omega), xup2_n (by omega), xup2_n (by omega), h22, if_neg (by omega), if_pos hp, Int.toNat_natCast, xlx_upo _ _ _ (by omega)]
      show (if (xlx G2 L1) 0 22 < 0 then none else if 0 ≤ (xlx G2 L1) 0 23 ∧ (xlx G2 L1) 0 23 < 25 then (g229 f p ((q : Int) + pl) ((xlx G2 L1) (((xlx G2 L1) 0 22).toNat + 15) ((xlx G2 L1) 0 23).toNat) 3 (xlx G2 L1)).bind _ else none) = _
      rw [xlx_o _ _ (by omega), go 0 22 (by omega), h22, if_neg (by omega), xlx_o _ _ (by omega), go 0 23 (by omega), h23, if_pos (by omega), Int.toNat_natCast, Int.toNat_natCast, xlx_o _ _ (by omega), go (o + 15) r (by omega), h15, l_men hE2 hM2.1 (by omega)]
      rfl
    let G3 := rMen G2 o (min M.length 420) p ((q : Int) + pl) (I.length : Int) 3
    have go3 : ∀ a j, ¬ (o + 9 ≤ a ∧ a ≤ o + 12 ∨ a = o ∧ j = 14) → G3 a j = G2 a j := fun a j h => rMen_o h
    have f3 : xfg o r c (min M.length 420) N.length G G3 := f2.tr ((rMen_fl (r := r) (x := 8 * r) (v0 := 0) (c0 := c) (n0 := N.length) G2).fg (Nat.le_refl _)) (Nat.le_refl _) (Nat.le_refl _) (Nat.le_refl _) (Nat.le_refl _)
    have hS3 : rRS G3 q B n lm o r c N V [] (M ++ [(p, pl, (I.length : Int), 3)]) := by
      refine ⟨hE.fg f3, by rw [go3 _ _ (by omega), go _ _ (by omega)]; exact h23, hr', ⟨by rw [go3 _ _ (by omega), go _ _ (by omega)]; exact hN.1, hN.2.1, fun k hk => by rw [go3 _ _ (by omega), go _ _ (by omega)]; exact hN.2.2 k hk⟩, hV.ot (fun j => by rw [go3 _ _ (by omega), go _ _ (by omega)]) (fun j => by rw [go3 _ _ (by omega), go _ _ (by omega)]) (fun j => by rw [go3 _ _ (by omega), go _ _ (by omega)]), by rw [go3 _ _ (by omega), go _ _ (by omega)]; exact h37', ⟨by rw [go3 _ _ (by omega), go _ _ (by omega)]; exact h19, by decide, fun k hk => absurd hk (by simp)⟩, hM2.add (p, pl, (I.length : Int), 3), by rw [go3 _ _ (by omega), go _ _ (by omega)]; exact h24, by decide, by rw [go3 _ _ (by omega), go _ _ (by omega)]; exact h25⟩
    have h1 := l_body (f := f) (F := F) hf hcb (show 4 * (n + 1 - (i + 1)) + 4 ≤ F by omega) hr hS3 (by rw [go3 _ _ (by omega), go _ _ (by omega)]; exact h9) n2 (show c ≤ cb + (i + 1) by omega)
    rw [e0]
    show pok (pbind (pBody (tstr B n lm) F N V (M ++ [(p, pl, (I.length : Int), 3)]) (i + 1)) _) _ _
    have hm1 : min M.length 420 ≤ min (M ++ [(p, pl, (I.length : Int), (3 : Int))]).length 420 := by rw [len1]; omega
    cases hb : pBody (tstr B n lm) F N V (M ++ [(p, pl, (I.length : Int), 3)]) (i + 1) with
    | inl w =>
      rw [hb] at h1
      obtain ⟨G', L', a1, a2, a3⟩ := h1
      exact ⟨G', L', a1, a2, f3.tr a3 (Nat.le_refl _) (Nat.le_refl _) hm1 (Nat.le_refl _)⟩
    | inr z =>
      rw [hb] at h1
      obtain ⟨G', L', c', a1, a2, a3, a4, a5, a6, a7⟩ := h1
      have gg : ∀ a j, ¬ (a = o ∧ j = 9) → xup2 G' o 9 (r : Int) a j = G' a j := fun a j h => xup2_n h
      have fF : xfg o r c (min M.length 420) N.length G G' := by
        intro a j hj
        rw [← gg a j (by omega), a3 a j (by omega)]
        exact f3 a j hj
      have gi : ∀ a j, ¬ (a = o ∧ j = 9) → ¬ ((a = 0 ∧ (j = 21 ∨ j = 24 ∨ j = 25)) ∨ (a = o ∧ (j = 8 ∨ j = 14 ∨ j = 37)) ∨ (a = o + 1) ∨ (o + 9 ≤ a ∧ a ≤ o + 12) ∨ (a = o + 19 ∨ a = o + 20) ∨ (a = o + 23 ∨ a = o + 24) ∨ (o + 25 ≤ a ∧ a ≤ o + 32) ∨ ((a = o + 33 ∨ a = o + 34) ∧ c ≤ j)) → G' a j = G3 a j := fun a j h1 h2 => by rw [← gg a j h1, a3 a j (by omega)]
      obtain ⟨b1, b2, b3, b4, b5, b6, b7, b8, b9, b10, b11⟩ := a5
      refine ⟨G', L', c', a1, a2, fF, ?_, b4, b8, b6, a4, ⟨?_, ?_, ⟨?_, ?_, ?_, hg.2.2.2⟩, ?_, hI4, fun k hk => ?_, b5, b7⟩, a6, a7⟩
      · intro a j ha
        rw [gi a j (by omega) (by omega), go3 _ _ (by omega)]
        by_cases c8 : a = o + 8
        · rw [c8, g8]
          by_cases cj : (j : Int) = p
          · rw [if_pos cj, if_pos ⟨rfl, cj⟩]
          · rw [if_neg cj, if_neg (fun h => cj h.2)]
        · rw [if_neg (fun h => c8 h.1), go _ _ (by omega)]
      · rw [gi _ _ (by omega) (by omega), go3 _ _ (by omega)]; exact g13
      · rw [gi _ _ (by omega) (by omega), go3 _ _ (by omega)]; exact g14
      · rw [gi _ _ (by omega) (by omega), go3 _ _ (by omega), go _ _ (by omega)]; exact hg.1
      · rw [gi _ _ (by omega) (by omega), go3 _ _ (by omega), go _ _ (by omega)]; exact hg.2.1
      · rw [gi _ _ (by omega) (by omega), go3 _ _ (by omega), go _ _ (by omega)]; exact hg.2.2.1
      · rw [gi _ _ (by omega) (by omega), go3 _ _ (by omega), go _ _ (by omega)]; exact h15
      · show rIc G' o (4 * r + k) c' (I.getD k [])
        have hk' : k < I.length := hk
        obtain ⟨a, d1, d2, d3, d4⟩ := hI k hk'
        refine ⟨a, ?_, ?_, by omega, fun j hj => ?_⟩
        · rw [gi _ _ (by omega) (by omega), go3 _ _ (by omega), go _ _ (by omega)]; exact d1
        · rw [gi _ _ (by omega) (by omega), go3 _ _ (by omega), go _ _ (by omega)]; exact d2
        · have hj' : j < (I.getD k []).length := hj
          rw [gi _ _ (by omega) (by omega), gi _ _ (by omega) (by omega), go3 _ _ (by omega), go3 _ _ (by omega), go _ _ (by omega), go _ _ (by omega)]
          exact d4 j hj
  · rw [if_neg c1]
    have n1 := l_need_no (f := f) hE hA (c := 41) (by unfold isSg; omega) c1
    rw [show rsc 41 = 41 from rfl] at n1
    refine ⟨G, xu L 7 ((q : Int) + kS (tstr B n lm) i), ?_, rfl, .rf _ _ _ _ _ _⟩
    unfold g237_89
    rw [n1]
    simp only [Option.bind_some]
    rw [l_bad, if_neg (by show ¬ (q : Int) + _ = -1; omega)]
    simp only [Option.bind_some]
    rw [if_neg (by decide)]
theorem l_r89_bad {x p : Int} (h : L 7 ≠ -1) : g237_89 f x p (xlx G L) = some (xlx G L) := by
  unfold g237_89
  rw [l_need_bad h]
  simp only [Option.bind_some]
  rw [l_bad, if_neg h]
  simp only [Option.bind_some]
  rw [if_neg (by decide)]
end
end
section
/-! The reference reads rules: all ITEMS; all of a rule -/
section
variable {f q n o r cb F : Nat} {B : Nat → Int} {lm : Bool} {N : List Int} {M : List pMn}
theorem l_ritl_bad {x p : Int} {fu : Nat} {G : xG_} {L : Nat → Int} (hfu : 0 < fu) (h : L 7 ≠ -1) : g237_53 f fu x p (xlx G L) = some (xlx G L) := by
  obtain ⟨fu, rfl⟩ : ∃ t, fu = t + 1 := ⟨fu - 1, by omega⟩
  show g237_53b (g237_53 f fu) f _ _ _ = _
  unfold g237_53b
  rw [l_sign, if_neg (fun q => h q.1)]
  simp only [Option.bind_some]
  rw [if_pos trivial, l_r89_bad h]
theorem rRP.frame {G G1 : xG_} {L L1 : Nat → Int} {c c1 : Nat} {p : Int} {pl : Nat} {e e1 : xG_ → Option xG_} {P : Nat ⊕ (((Int × Int × Int) × List pCd) × pRs × Nat)} (h : rRP f q B n lm o r cb G1 L1 c1 N M p pl e1 P) (he : e (xlx G L) = e1 (xlx G1 L1)) (hf : xfg o r c (min M.length 420) N.length G G1) (hfl : ∀ a j, (o + 2 ≤ a ∧ a ≤ o + 3 ∨ o + 6 ≤ a ∧ a ≤ o + 8) → G1 a j = G a j) (hc : c ≤ c1) : rRP f q B n lm o r cb G L c N M p pl e P := by
  unfold rRP at *
  rw [he]
  cases P with
  | inl w =>
    obtain ⟨G', L', a1, a2, a3⟩ := h
    exact ⟨G', L', a1, a2, hf.tr a3 (Nat.le_refl _) hc (Nat.le_refl _) (Nat.le_refl _)⟩
  | inr z =>
    obtain ⟨G', L', c', a1, a2, a3, a4, a5, a6, a7, a8, a9, a10, a11⟩ := h
    refine ⟨G', L', c', a1, a2, hf.tr a3 (Nat.le_refl _) hc (Nat.le_refl _) (Nat.le_refl _), fun a j ha => ?_, a5, a6, a7, a8, a9, by omega, a11⟩
    rw [a4 a j ha, hfl a j ha]
/-- ITEMS behind the first one, and what is behind them -/
def pRest (t : tStr) (F : Nat) (N : List Int) (M : List pMn) (p : Int) (pl k : Nat) (s : pIt) : Nat ⊕ (((Int × Int × Int) × List pCd) × pRs × Nat) :=
  pbind (pItems t F k s) fun a => pbind (pNeed t 41 a.2.2.2) fun j => pbind (pBody t F N a.1 (M ++ [(p, pl, (a.2.2.1.length : Int), 3)]) j) fun z => .inr ((a.2.1, a.2.2.1), z)
theorem l_ritl {p : Int} {pl : Nat} (hf : n + 20 < f) (hcb : cb + n + 3 ≤ 6200) (hr : r < 24) (hp : 0 ≤ p ∧ p < 16) : ∀ (k fu : Nat), k < fu → ∀ (i c : Nat) (G : xG_) (L : Nat → Int) (V : List (Int × Nat)) (g : Int × Int × Int) (I : List pCd), I.length + k = 4 → 4 * (n + 1 - i) + 4 ≤ F → rIS G q B n lm o r c V g I → rNs G o N → rMs G o q M → G (o + 19) r = 0 → G 0 24 = 0 → G o 9 = (r : Int) → rAt q B n lm i L → c ≤ cb + i →
    rRP f q B n lm o r cb G L c N M p pl (g237_53 f fu ((q : Int) + pl) p) (pRest (tstr B n lm) F N M p pl k (V, g, I, i)) := by
  intro k
  induction k with
  | zero =>
    intro fu hfu i c G L V g I hk hF hS hN hM h19 h24 h9 hA hc
    obtain ⟨fu, rfl⟩ : ∃ t, fu = t + 1 := ⟨fu - 1, by omega⟩
    have hE := hS.1.1
    have ho := hE.2.2.2.2
    have h1 := l_r89 (f := f) (F := F) (pl := pl) hf hcb hF hr hS hN hM h19 h24 h9 hp hA hc
    refine rRP.frame h1 ?_ (.rf _ _ _ _ _ _) (fun _ _ _ => rfl) (Nat.le_refl _)
    show g237_53b (g237_53 f fu) f _ _ _ = _
    unfold g237_53b
    rw [l_sign]
    simp only [Option.bind_some, i10]
    split
    · rfl
    · rw [xlx_o _ _ (by omega), hE.2.2.2.1, if_neg (by omega), xlx_o _ _ (by omega), hS.1.2.1, if_pos (by omega), Int.toNat_natCast, Int.toNat_natCast, xlx_o _ _ (by omega), hS.2.1, if_pos (by omega)]
  | succ k ih =>
    intro fu hfu i c G L V g I hk hF hS hN hM h19 h24 h9 hA hc
    obtain ⟨fu, rfl⟩ : ∃ t, fu = t + 1 := ⟨fu - 1, by omega⟩
    have hE := hS.1.1
    have ho := hE.2.2.2.2
    have hs := hA.issign (f := f) hE (c := 44) (by unfold isSg; omega)
    rw [show rsc 44 = 44 from rfl] at hs
    have es : g237_53 f (fu + 1) ((q : Int) + pl) p (xlx G L) = if kK (tstr B n lm) i = 44 then ((g213 f (xlx G L)).bind fun R172 => ((g238 f R172).bind fun R177 => g237_53 f fu ((q : Int) + pl) p R177)) else g237_89 f ((q : Int) + pl) p (xlx G L) := by
      show g237_53b (g237_53 f fu) f _ _ _ = _
      unfold g237_53b
      rw [hs]
      simp only [Option.bind_some, i10]
      by_cases c1 : kK (tstr B n lm) i = 44
      · rw [if_neg (fun h => h c1), if_pos c1, xlx_o _ _ (by omega), hE.2.2.2.1, if_neg (by omega), xlx_o _ _ (by omega), hS.1.2.1, if_pos (by omega), Int.toNat_natCast, Int.toNat_natCast, xlx_o _ _ (by omega), hS.2.1, if_neg (by omega)]
      · rw [if_pos c1, if_neg c1]
    unfold pRest pItems
    by_cases c1 : kK (tstr B n lm) i = 44
    · show rRP f q B n lm o r cb G L c N M p pl (g237_53 f (fu + 1) ((q : Int) + pl) p) (pbind (if kK (tstr B n lm) i = 44 then pbind (pItem (tstr B n lm) F (V, g, I, i + 1)) fun s' => pItems (tstr B n lm) F k s' else .inr (V, g, I, i)) _)
      rw [if_pos c1, pbind_as]
      rw [if_pos c1] at es
      obtain ⟨_, L1, p1, p2⟩ := hA.sg (f := f) hf hE c1 (by unfold isSg; omega)
      rw [p1] at es
      simp only [Option.bind_some] at es
      have h1 := l_item (f := f) (F := F) hf hcb (show 4 * (n + 1 - (i + 1)) + 2 ≤ F by omega) hS p2 (show c ≤ cb + (i + 1) by omega) (by omega)
      unfold rIP at h1
      cases hp2 : pItem (tstr B n lm) F (V, g, I, i + 1) with
      | inl w =>
        rw [hp2] at h1
        obtain ⟨G1, L2, a1, a2, a3, a4⟩ := h1
        refine ⟨G1, L2, ?_, a2, a3.fg (by omega)⟩
        rw [es, a1]
        exact l_ritl_bad (by omega) (by omega)
      | inr s =>
        rw [hp2] at h1
        obtain ⟨G1, L2, c2, a1, a2, a3, a4, a5, a6⟩ := h1
        have hle := pItem_le hp2
        simp only at hle
        have h2 := ih fu (by omega) s.2.2.2 c2 G1 L2 s.1 s.2.1 s.2.2.1 (by omega) (by omega) a4 ⟨by rw [a3 _ _ (by omega)]; exact hN.1, hN.2.1, fun j hj => by rw [a3 _ _ (by omega)]; exact hN.2.2 j hj⟩ (hM.fr (a3 _ _ (by omega)) (fun a j _ _ => a3 _ _ (by omega))) (by rw [a3 _ _ (by omega)]; exact h19) (by rw [a3 _ _ (by omega)]; exact h24) (by rw [a3 _ _ (by omega)]; exact h9) a2 a6
        refine rRP.frame (P := pRest (tstr B n lm) F N M p pl k s) h2 ?_ (a3.fg (by omega)) (fun a j ha => a3 _ _ (by omega)) a5
        rw [es, a1]
        rfl
    · show rRP f q B n lm o r cb G L c N M p pl (g237_53 f (fu + 1) ((q : Int) + pl) p) (pbind (if kK (tstr B n lm) i = 44 then pbind (pItem (tstr B n lm) F (V, g, I, i + 1)) fun s' => pItems (tstr B n lm) F k s' else .inr (V, g, I, i)) _)
      rw [if_neg c1]
      rw [if_neg c1] at es
      exact rRP.frame (l_r89 (f := f) (F := F) (pl := pl) hf hcb hF hr hS hN hM h19 h24 h9 hp hA hc) es (.rf _ _ _ _ _ _) (fun _ _ _ => rfl) (Nat.le_refl _)
/-- a rule, but for its HEAD's predicate -/
theorem pRule_e {t : tStr} {N : List Int} {ins : List (Int × Int × Int)} {outs : List Int} {M : List pMn} {R : List pRu} {i : Nat} : pRule t F (N, ins, outs, M, R, i) = if R.length = 24 then .inl (kS t i) else pbind (pPred t N i) fun p => pbind (pbind (pNeed t 40 p.2.2) fun j => pbind (pItem t F ([], (0, -1, -1), [], j)) fun a => pRest t F p.2.1 M p.1 (kS t i) 3 a) fun z => .inr (z.2.1.1, ins, outs, z.2.1.2.2.2.1, R ++ [(p.1, kS t i, z.1.1, z.1.2, z.2.1.2.1, z.2.1.2.2.1)], z.2.2) := by
  unfold pRule pRest pBody
  simp only [pbind_as, pbind_r]
end
end
section
/-! The reference reads programs -/
def pIn (l : List (Int × Int × Int)) (p : Int) : Bool := l.any (fun x => decide (x.1 = p))
def pKy (l : List (Int × Int × Int)) (p : Int) : Int := match l.find? (fun x => decide (x.1 = p)) with
  | some x => x.2.2
  | none => 0
def pOu (l : List Int) (p : Int) : Bool := l.any (fun x => decide (x = p))
def pHd (l : List pRu) (p : Int) : Bool := l.any (fun x => decide (x.1 = p))
def b01 (b : Bool) : Int := if b = true then 1 else 0
def dRu : pRu := (0, 0, (0, 0, 0), [], [], [])
/-- a program as far as it is read -/
def rPS (G : xG_) (q : Nat) (B : Nat → Int) (n : Nat) (lm : Bool) (o c : Nat) (N : List Int) (ins : List (Int × Int × Int)) (outs : List Int) (M : List pMn) (R : List pRu) : Prop :=
  rEv G q B n lm o ∧ rNs G o N ∧ rMs G o q M ∧ G o 37 = (c : Int) ∧ G o 9 = (R.length : Int) ∧ R.length ≤ 24 ∧ (∀ r, r < R.length → rRu G o q r c (R.getD r dRu)) ∧
  (∀ p : Nat, p < 16 → G (o + 6) p = b01 (pIn ins p) ∧ G (o + 3) p = pKy ins p ∧ G (o + 7) p = b01 (pOu outs p) ∧ G (o + 8) p = b01 (pHd R p))
theorem any_1 {α : Type} (l : List α) (a : α) (f : α → Bool) : (l ++ [a]).any f = (l.any f || f a) := by simp
theorem pHd_1 (R : List pRu) (u : pRu) (p : Int) : b01 (pHd (R ++ [u]) p) = if p = u.1 then 1 else b01 (pHd R p) := by
  unfold pHd b01
  rw [any_1]
  by_cases h : p = u.1
  · simp [h]
  · have h' : ¬ u.1 = p := fun e => h e.symm
    rw [decide_eq_false h', Bool.or_false, if_neg h]
theorem pOu_1 (l : List Int) (u p : Int) : b01 (pOu (l ++ [u]) p) = if p = u then 1 else b01 (pOu l p) := by
  unfold pOu b01
  rw [any_1]
  by_cases h : p = u
  · simp [h]
  · have h' : ¬ u = p := fun e => h e.symm
    simp [h, h']
theorem pIn_1 (l : List (Int × Int × Int)) (u : Int × Int × Int) (p : Int) : b01 (pIn (l ++ [u]) p) = if p = u.1 then 1 else b01 (pIn l p) := by
  unfold pIn b01
  rw [any_1]
  by_cases h : p = u.1
  · simp [h]
  · have h' : ¬ u.1 = p := fun e => h e.symm
    rw [decide_eq_false h', Bool.or_false, if_neg h]
theorem pKy_1 (l : List (Int × Int × Int)) (u : Int × Int × Int) (p : Int) : pKy (l ++ [u]) p = if p = u.1 ∧ pIn l p = false then u.2.2 else pKy l p := by
  unfold pKy pIn
  rw [List.find?_append]
  cases h : l.find? (fun x => decide (x.1 = p)) with
  | some x =>
    have hx := List.find?_some h
    have : l.any (fun x => decide (x.1 = p)) = true := List.any_eq_true.mpr ⟨x, List.mem_of_find?_eq_some h, hx⟩
    rw [this]
    simp
  | none =>
    have : l.any (fun x => decide (x.1 = p)) = false := by
      rw [List.any_eq_false]
      intro x hx
      have := List.find?_eq_none.mp h x hx
      simpa using this
    rw [this]
    by_cases h2 : p = u.1
    · simp [h2]
    · have h' : ¬ u.1 = p := fun e => h2 e.symm
      simp [h2, h']
section
variable {f q n o i c cb F : Nat} {B : Nat → Int} {lm : Bool} {G : xG_} {L : Nat → Int} {N : List Int} {ins : List (Int × Int × Int)} {outs : List Int} {M : List pMn} {R : List pRu}
/-- what reading of a statement does -/
def rGP (f q : Nat) (B : Nat → Int) (n : Nat) (lm : Bool) (o cb : Nat) (G : xG_) (L : Nat → Int) (c : Nat) (e : xG_ → Option xG_) (P : Nat ⊕ pPg) : Prop :=
  pok P (fun w => ∃ G' L', e (xlx G L) = some (xlx G' L') ∧ L' 7 = (q : Int) + w ∧ xfg o 0 0 0 0 G G')
    (fun s => ∃ G' L', ∃ c' : Nat, e (xlx G L) = some (xlx G' L') ∧ rAt q B n lm s.2.2.2.2.2 L' ∧ xfg o 0 0 0 0 G G' ∧ rPS G' q B n lm o c' s.1 s.2.1 s.2.2.1 s.2.2.2.1 s.2.2.2.2.1 ∧ c ≤ c' ∧ c' ≤ cb + s.2.2.2.2.2)
theorem xfg.w {r c0 m0 n0 : Nat} {G' : xG_} (h : xfg o r c0 m0 n0 G G') : xfg o 0 0 0 0 G G' := fun a j hj => h a j (by omega)
theorem l_rule (hf : n + 20 < f) (hcb : cb + n + 3 ≤ 6200) (hF : 4 * (n + 1 - i) + 4 ≤ F) (hS : rPS G q B n lm o c N ins outs M R) (hA : rAt q B n lm i L) (hc : c ≤ cb + i) : rGP f q B n lm o cb G L c (g237 f) (pRule (tstr B n lm) F (N, ins, outs, M, R, i)) := by
  obtain ⟨hE, hN, hM, h37, h9, hR24, hR, hfl⟩ := hS
  have h22 := hE.2.2.2.1
  have ho := hE.2.2.2.2
  rw [pRule_e]
  unfold rGP
  by_cases c24 : R.length = 24
  · rw [if_pos c24]
    refine ⟨G, xu L 7 (L 4), ?_, hA.at4 hE, .rf _ _ _ _ _ _⟩
    unfold g237
    rw [xlx_o _ _ (by omega), h22, if_neg (by omega), Int.toNat_natCast, xlx_o _ _ (by omega), h9, if_neg (by omega), xlx_4, l_fail, if_pos hA.1]
    rfl
  rw [if_neg c24]
  have e0 : g237 f (xlx G L) = (g232 f (xlx G L)).bind fun R184 => (if R184.2 0 22 < 0 then none else ((g236 f (R184.2 ((R184.2 0 22).toNat) 9) R184.2).bind fun R190 => ((g213 f R190).bind fun R195 => ((g222 f (40) R195).bind fun R200 => ((g238 f R200).bind fun R205 => g237_53 f f ((q : Int) + kS (tstr B n lm) i) (R184.1) R205))))) := by
    unfold g237
    rw [xlx_o _ _ (by omega), h22, if_neg (by omega), Int.toNat_natCast, xlx_o _ _ (by omega), h9, if_pos (by omega), xlx_4, hA.at4 hE]
  rw [e0]
  clear e0
  have h1 := l_nname (f := f) (by omega) hE hN hA
  cases hp : pPred (tstr B n lm) N i with
  | inl w =>
    rw [hp] at h1
    obtain ⟨L1, a1, a2⟩ := h1
    have hbad : L1 7 ≠ -1 := by omega
    refine ⟨rBeg G o R.length, L1, ?_, a2, (rBeg_fg (r := R.length) (c0 := 0) (m0 := 0) (n0 := 0)).w⟩
    rw [a1]
    simp only [Option.bind_some]
    rw [xlx_o _ _ (by omega), h22, if_neg (by omega), Int.toNat_natCast, xlx_o _ _ (by omega), h9, l_beg hE hR24]
    simp only [Option.bind_some]
    rw [l_pass_bad hbad]
    simp only [Option.bind_some]
    rw [l_need_bad hbad]
    simp only [Option.bind_some]
    rw [l_item_bad hbad]
    simp only [Option.bind_some]
    rw [l_ritl_bad (by omega) hbad]
  | inr p =>
    rw [hp] at h1
    obtain ⟨G1, a1, a2, a3, a4⟩ := h1
    have hple := pPred_le hp
    have hN16 := a2.2.1
    have g22 : G1 0 22 = (o : Int) := by rw [a3 _ _ (by omega) (by omega)]; exact h22
    have f1 : xfg o R.length c (min M.length 420) N.length G G1 := fun a j hj => a3 a j (by omega) (by omega)
    have hE1 := hE.fg f1
    have f2 : xfg o R.length c (min M.length 420) N.length G (rBeg G1 o R.length) := f1.tr (rBeg_fg (r := R.length) (c0 := c) (m0 := min M.length 420) (n0 := N.length)) (Nat.le_refl _) (Nat.le_refl _) (Nat.le_refl _) (Nat.le_refl _)
    have hE2 := hE.fg f2
    obtain ⟨hIS, h19, h24⟩ := rBeg_st (r := R.length) hE1 hR24 (by rw [a3 _ _ (by omega) (by omega)]; exact h37)
    obtain ⟨L2, p1, p2⟩ := l_pass hf hE2 hA a4 (by omega) (by omega)
    have e1 : ((g232 f (xlx G L)).bind fun R184 => (if R184.2 0 22 < 0 then none else ((g236 f (R184.2 ((R184.2 0 22).toNat) 9) R184.2).bind fun R190 => ((g213 f R190).bind fun R195 => ((g222 f (40) R195).bind fun R200 => ((g238 f R200).bind fun R205 => g237_53 f f ((q : Int) + kS (tstr B n lm) i) (R184.1) R205)))))) = (g222 f 40 (xlx (rBeg G1 o R.length) L2)).bind fun R200 => ((g238 f R200).bind fun R205 => g237_53 f f ((q : Int) + kS (tstr B n lm) i) p.1 R205) := by
      rw [a1]
      simp only [Option.bind_some]
      rw [xlx_o _ _ (by omega), g22, if_neg (by omega), Int.toNat_natCast, xlx_o _ _ (by omega), a3 _ _ (by omega) (by omega), h9, l_beg hE1 hR24]
      simp only [Option.bind_some]
      rw [p1]
      rfl
    rw [e1]
    clear e1
    show pok (pbind (pbind (pNeed (tstr B n lm) 40 p.2.2) _) _) _ _
    rw [hple.1]
    unfold pNeed
    by_cases c40 : kK (tstr B n lm) (i + 1) = 40
    · rw [if_pos c40]
      obtain ⟨L3, n1, n2⟩ := l_need hf hE2 p2 (c := 40) (by unfold isSg; omega) c40
      rw [show rsc 40 = 40 from rfl] at n1
      rw [n1]
      simp only [Option.bind_some]
      have h2 := l_item (f := f) (F := F) hf hcb (show 4 * (n + 1 - (i + 1 + 1)) + 2 ≤ F by omega) hIS n2 (show c ≤ cb + (i + 1 + 1) by omega) (by decide)
      unfold rIP at h2
      show pok (pbind (pbind (pItem (tstr B n lm) F ([], (0, -1, -1), [], i + 1 + 1)) fun a => pRest (tstr B n lm) F p.2.1 M p.1 (kS (tstr B n lm) i) 3 a) _) _ _
      cases hp2 : pItem (tstr B n lm) F ([], (0, -1, -1), [], i + 1 + 1) with
      | inl w =>
        rw [hp2] at h2
        obtain ⟨G3, L4, b1, b2, b3, b4⟩ := h2
        refine ⟨G3, L4, ?_, b2, (f2.w.tr ((b3.fg (m0 := 0) (n0 := 0) (by omega)).w) (Nat.le_refl _) (Nat.le_refl _) (Nat.le_refl _) (Nat.le_refl _))⟩
        rw [b1]
        exact l_ritl_bad (by omega) (by omega)
      | inr a =>
        rw [hp2] at h2
        obtain ⟨G3, L4, c3, b1, b2, b3, b4, b5, b6⟩ := h2
        have hle := pItem_le hp2
        simp only [List.length_nil] at hle
        have f3 : xfg o R.length c (min M.length 420) N.length G G3 := f2.tr (b3.fg (by omega)) (Nat.le_refl _) (Nat.le_refl _) (Nat.le_refl _) (Nat.le_refl _)
        have hb3 : ∀ x y, ¬ (x = 0 ∧ (y = 21 ∨ y = 25)) → ¬ (x = o ∧ y = 37) → ¬ (o + 15 ≤ x ∧ x ≤ o + 34 ∧ x ≠ o + 19) → G3 x y = rBeg G1 o R.length x y := fun x y _ _ _ => b3 _ _ (by omega)
        have h3 := l_ritl (f := f) (F := F) (N := p.2.1) (M := M) (pl := kS (tstr B n lm) i) hf hcb (show R.length < 24 by omega) (show 0 ≤ p.1 ∧ p.1 < 16 by omega) 3 f (by omega) a.2.2.2 c3 G3 L4 a.1 a.2.1 a.2.2.1 (by omega) (by omega) b4 ⟨by rw [hb3 _ _ (by omega) (by omega) (by omega), rBeg_o (by omega) (by omega)]; exact a2.1, a2.2.1, fun j hj => by rw [hb3 _ _ (by omega) (by omega) (by omega), rBeg_o (by omega) (by omega)]; exact a2.2.2 j hj⟩ (hM.fr (by rw [hb3 _ _ (by omega) (by omega) (by omega), rBeg_o (by omega) (by omega), a3 _ _ (by omega) (by omega)]) (fun x y _ _ => by rw [hb3 _ _ (by omega) (by omega) (by omega), rBeg_o (by omega) (by omega), a3 _ _ (by omega) (by omega)])) (by rw [hb3 _ _ (by omega) (by omega) (by omega)]; exact h19) (by rw [hb3 _ _ (by omega) (by omega) (by omega)]; exact h24) (by rw [hb3 _ _ (by omega) (by omega) (by omega), rBeg_o (by omega) (by omega), a3 _ _ (by omega) (by omega)]; exact h9) b2 b6
        unfold rRP at h3
        rw [b1]
        simp only [Option.bind_some]
        show pok (pbind (pRest (tstr B n lm) F p.2.1 M p.1 (kS (tstr B n lm) i) 3 a) _) _ _
        cases hp3 : pRest (tstr B n lm) F p.2.1 M p.1 (kS (tstr B n lm) i) 3 a with
        | inl w =>
          have hp3' : pRest (tstr B n lm) F p.2.1 M p.1 (kS (tstr B n lm) i) 3 (a.1, a.2.1, a.2.2.1, a.2.2.2) = .inl w := hp3
          rw [hp3'] at h3
          obtain ⟨G4, L5, d1, d2, d3⟩ := h3
          exact ⟨G4, L5, d1, d2, f3.w.tr d3.w (Nat.le_refl _) (Nat.le_refl _) (Nat.le_refl _) (Nat.le_refl _)⟩
        | inr z =>
          have hp3' : pRest (tstr B n lm) F p.2.1 M p.1 (kS (tstr B n lm) i) 3 (a.1, a.2.1, a.2.2.1, a.2.2.2) = .inr z := hp3
          rw [hp3'] at h3
          obtain ⟨G4, L5, c4, d1, d2, d3, d4, d5, d6, d7, d8, d9, d10, d11⟩ := h3
          have f4 : xfg o R.length c (min M.length 420) N.length G G4 := f3.tr d3 (Nat.le_refl _) (by omega) (Nat.le_refl _) hple.2.1
          refine ⟨G4, L5, c4, d1, d2, f4.w, ⟨hE.fg f4, d5, d6, d7, by rw [len1]; exact d8, by rw [len1]; omega, fun r hr => ?_, fun x hx => ?_⟩, by omega, d11⟩
          · rw [len1] at hr
            rw [getD_1]
            by_cases cr : r = R.length
            · rw [if_pos cr, cr]
              exact d9
            · rw [if_neg cr]
              exact (hR r (by omega)).fg f4 (by omega) (by omega)
          · obtain ⟨k1, k2, k3, k4⟩ := hfl x hx
            have flg : ∀ y, (o + 2 ≤ y ∧ y ≤ o + 3 ∨ o + 6 ≤ y ∧ y ≤ o + 8) → G3 y x = G y x := fun y hy => by rw [hb3 _ _ (by omega) (by omega) (by omega), rBeg_o (by omega) (by omega), a3 _ _ (by omega) (by omega)]
            refine ⟨?_, ?_, ?_, ?_⟩
            · rw [d4 _ _ (by omega), if_neg (by omega), flg _ (by omega)]; exact k1
            · rw [d4 _ _ (by omega), if_neg (by omega), flg _ (by omega)]; exact k2
            · rw [d4 _ _ (by omega), if_neg (by omega), flg _ (by omega)]; exact k3
            · rw [d4 _ _ (by omega), pHd_1, flg _ (by omega), k4]
              show (if o + 8 = o + 8 ∧ (x : Int) = p.1 then 1 else _) = if (x : Int) = p.1 then 1 else _
              by_cases cx : (x : Int) = p.1
              · rw [if_pos ⟨rfl, cx⟩, if_pos cx]
              · rw [if_neg (fun h => cx h.2), if_neg cx]
    · rw [if_neg c40]
      have n1 := l_need_no (f := f) hE2 p2 (c := 40) (by unfold isSg; omega) c40
      rw [show rsc 40 = 40 from rfl] at n1
      have hbad : xu L2 7 ((q : Int) + kS (tstr B n lm) (i + 1)) 7 ≠ -1 := by show (q : Int) + _ ≠ -1; omega
      refine ⟨rBeg G1 o R.length, xu L2 7 ((q : Int) + kS (tstr B n lm) (i + 1)), ?_, rfl, f2.w⟩
      rw [n1]
      simp only [Option.bind_some]
      rw [l_item_bad hbad]
      exact l_ritl_bad (by omega) hbad
end
end
section
/-! The reference reads programs: inputs, outputs -/
section
variable {f q n o i c cb F : Nat} {B : Nat → Int} {lm : Bool} {G : xG_} {L : Nat → Int} {N : List Int} {ins : List (Int × Int × Int)} {outs : List Int} {M : List pMn} {R : List pRu}
theorem rPS.nm {G1 : xG_} {N1 : List Int} (hS : rPS G q B n lm o c N ins outs M R) (hN : rNs G1 o N1) (h : ∀ a j, ¬ (a = o + 1 ∧ N.length ≤ j) → ¬ (a = o ∧ j = 8) → G1 a j = G a j) : rPS G1 q B n lm o c N1 ins outs M R := by
  obtain ⟨hE, _, hM, h37, h9, hR24, hR, hfl⟩ := hS
  have ho := hE.2.2.2.2
  have f1 : xfg o 24 c (min M.length 420) N.length G G1 := fun a j hj => h a j (by omega) (by omega)
  exact ⟨hE.fg f1, hN, hM.fr (h _ _ (by omega) (by omega)) (fun a j _ _ => h _ _ (by omega) (by omega)), by rw [h _ _ (by omega) (by omega)]; exact h37, by rw [h _ _ (by omega) (by omega)]; exact h9, hR24, fun r hr => (hR r hr).fg f1 (by omega) (Nat.le_refl _), fun p hp => by rw [h _ _ (by omega) (by omega), h _ _ (by omega) (by omega), h _ _ (by omega) (by omega), h _ _ (by omega) (by omega)]; exact hfl p hp⟩
/-- the end of an input -/
theorem l_i59 {G1 : xG_} {L1 : Nat → Int} {N1 : List Int} {j pl : Nat} {p m k : Int} {e : xG_ → Option xG_} (hf : n + 20 < f) (hS : rPS G1 q B n lm o c N1 ins outs M R) (hG : xfg o 0 0 0 0 G G1) (hp : 0 ≤ p ∧ p < N1.length) (hA : rAt q B n lm j L1) (hc : c ≤ cb + j) (he : e (xlx G L) = g234_59 f ((q : Int) + pl) p m k (xlx G1 L1)) :
    rGP f q B n lm o cb G L c e (pbind (pNeed (tstr B n lm) 46 j) fun j => .inr (N1, ins ++ [(p, m, k)], outs, M ++ [(p, pl, m, 1)], R, j)) := by
  obtain ⟨hE, hN, hM, h37, h9, hR24, hR, hfl⟩ := hS
  have h22 := hE.2.2.2.1
  have ho := hE.2.2.2.2
  have hN16 := hN.2.1
  unfold rGP pNeed
  rw [he]
  unfold g234_59
  by_cases c1 : kK (tstr B n lm) j = 46
  · rw [if_pos c1]
    obtain ⟨L2, n1, n2⟩ := l_need hf hE hA (c := 46) (by unfold isSg; omega) c1
    rw [show rsc 46 = 46 from rfl] at n1
    rw [n1]
    simp only [Option.bind_some]
    rw [l_bad, if_pos n2.1]
    simp only [Option.bind_some]
    obtain ⟨k1, k2, k3, k4⟩ := hfl p.toNat (by omega)
    have ep : ((p.toNat : Nat) : Int) = p := by omega
    rw [ep] at k1 k2 k3 k4
    let G2 := if pIn ins p = true then xup2 G1 (o + 6) p.toNat 1 else xup2 (xup2 G1 (o + 6) p.toNat 1) (o + 3) p.toNat k
    have go : ∀ a b, ¬ ((a = o + 6 ∨ a = o + 3) ∧ b = p.toNat) → G2 a b = G1 a b := by
      intro a b hab
      show (if pIn ins p = true then xup2 G1 (o + 6) p.toNat 1 else xup2 (xup2 G1 (o + 6) p.toNat 1) (o + 3) p.toNat k) a b = _
      split
      · rw [xup2_n (by omega)]
      · rw [xup2_n (by omega), xup2_n (by omega)]
    have f2 : xfg o 24 c (min M.length 420) N1.length G1 G2 := fun a b hab => go a b (by omega)
    have hE2 := hE.fg f2
    have hM2 : rMs G2 o q M := hM.fr (go _ _ (by omega)) (fun a b _ _ => go _ _ (by omega))
    have f3 : xfg o 24 c (min M.length 420) N1.length G1 (rMen G2 o (min M.length 420) p ((q : Int) + pl) m 1) := f2.tr ((rMen_fl (r := 24) (x := 8 * 24) (v0 := 0) (c0 := c) (n0 := N1.length) G2).fg (Nat.le_refl _)) (Nat.le_refl _) (Nat.le_refl _) (Nat.le_refl _) (Nat.le_refl _)
    refine ⟨rMen G2 o (min M.length 420) p ((q : Int) + pl) m 1, L2, c, ?_, n2, hG.tr f3.w (Nat.le_refl _) (Nat.le_refl _) (Nat.le_refl _) (Nat.le_refl _), ⟨hE.fg f3, ⟨?_, hN16, fun y hy => ?_⟩, hM2.add (p, pl, m, 1), ?_, ?_, hR24, fun r hr => (hR r hr).fg f3 (by have : r < R.length := hr; omega) (Nat.le_refl _), fun x hx => ?_⟩, Nat.le_refl _, by show c ≤ cb + (j + 1); omega⟩
    · rw [if_pos trivial, xlx_o _ _ (by omega), h22, if_neg (by omega), if_pos (by omega), Int.toNat_natCast, xlx_o _ _ (by omega), k1]
      have fin : ∀ G4 : xG_, G4 = G2 → g234_118 f ((q : Int) + pl) p m (xlx G4 L2) = some (xlx (rMen G2 o (min M.length 420) p ((q : Int) + pl) m 1) L2) := by
        intro G4 e4
        rw [e4]
        unfold g234_118
        rw [l_men hE2 hM2.1 (by omega)]
        rfl
      by_cases ci : pIn ins p = true
      · rw [if_pos (by unfold b01; rw [if_pos ci]; decide)]
        unfold g234_90
        rw [xlx_o _ _ (by omega), h22, if_neg (by omega), if_pos (by omega), Int.toNat_natCast, xlx_upo _ _ _ (by omega)]
        simp only [Option.bind_some]
        rw [if_pos trivial]
        exact fin _ (by show _ = if pIn ins p = true then _ else _; rw [if_pos ci])
      · rw [if_neg (by unfold b01; rw [if_neg ci]; decide)]
        unfold g234_90
        rw [xlx_o _ _ (by omega), h22, if_neg (by omega), if_pos (by omega), Int.toNat_natCast, xlx_upo _ _ _ (by omega)]
        simp only [Option.bind_some]
        rw [if_neg (by decide), xlx_o _ _ (by omega), xup2_n (by omega), h22, if_neg (by omega), if_pos (by omega), Int.toNat_natCast, xlx_upo _ _ _ (by omega)]
        exact fin _ (by show _ = if pIn ins p = true then _ else _; rw [if_neg ci])
    · rw [rMen_o (by omega), go _ _ (by omega)]; exact hN.1
    · rw [rMen_o (by omega), go _ _ (by omega)]; exact hN.2.2 y hy
    · rw [rMen_o (by omega), go _ _ (by omega)]; exact h37
    · rw [rMen_o (by omega), go _ _ (by omega)]; exact h9
    · obtain ⟨y1, y2, y3, y4⟩ := hfl x hx
      rw [rMen_o (by omega), rMen_o (by omega), rMen_o (by omega), rMen_o (by omega), pIn_1, pKy_1]
      refine ⟨?_, ?_, by rw [go _ _ (by omega)]; exact y3, by rw [go _ _ (by omega)]; exact y4⟩
      · show _ = if (x : Int) = p then 1 else _
        by_cases cx : (x : Int) = p
        · rw [if_pos cx]
          have ex : x = p.toNat := by omega
          rw [ex]
          show (if pIn ins p = true then xup2 G1 (o + 6) p.toNat 1 else xup2 (xup2 G1 (o + 6) p.toNat 1) (o + 3) p.toNat k) (o + 6) p.toNat = 1
          split
          · rw [xup2_s]
          · rw [xup2_n (by omega), xup2_s]
        · rw [if_neg cx, go _ _ (by omega)]; exact y1
      · show _ = if (x : Int) = p ∧ pIn ins x = false then k else _
        by_cases cx : (x : Int) = p
        · have ex : x = p.toNat := by omega
          by_cases ci : pIn ins p = true
          · rw [if_neg (by rw [cx, ci]; simp)]
            rw [ex]
            show (if pIn ins p = true then xup2 G1 (o + 6) p.toNat 1 else xup2 (xup2 G1 (o + 6) p.toNat 1) (o + 3) p.toNat k) (o + 3) p.toNat = _
            rw [if_pos ci, xup2_n (by omega), ep]; exact k2
          · rw [if_pos ⟨cx, by rw [cx]; simpa using ci⟩]
            rw [ex]
            show (if pIn ins p = true then xup2 G1 (o + 6) p.toNat 1 else xup2 (xup2 G1 (o + 6) p.toNat 1) (o + 3) p.toNat k) (o + 3) p.toNat = _
            rw [if_neg ci, xup2_s]
        · rw [if_neg (fun h => cx h.1), go _ _ (by omega)]; exact y2
  · rw [if_neg c1]
    have n1 := l_need_no (f := f) hE hA (c := 46) (by unfold isSg; omega) c1
    rw [show rsc 46 = 46 from rfl] at n1
    refine ⟨G1, xu L1 7 ((q : Int) + kS (tstr B n lm) j), ?_, rfl, hG⟩
    rw [n1]
    simp only [Option.bind_some]
    rw [l_bad, if_neg (by show ¬ (q : Int) + _ = -1; omega)]
    simp only [Option.bind_some]
    rw [if_neg (by decide)]
theorem l_i59_bad {x p m k : Int} (h : L 7 ≠ -1) : g234_59 f x p m k (xlx G L) = some (xlx G L) := by
  unfold g234_59
  rw [l_need_bad h]
  simp only [Option.bind_some]
  rw [l_bad, if_neg h]
  simp only [Option.bind_some]
  rw [if_neg (by decide)]
theorem l_word_bad (h : L 7 ≠ -1) (x : Int) : g225 f x (xlx G L) = some (0, xlx G L) := by
  rw [l_word, if_neg (fun q => h q.1)]
theorem l_input (hf : n + 20 < f) (hS : rPS G q B n lm o c N ins outs M R) (hA : rAt q B n lm i L) (hc : c ≤ cb + i) (hK : kK (tstr B n lm) i = 6) : rGP f q B n lm o cb G L c (g234 f) (pInput (tstr B n lm) (N, ins, outs, M, R, i)) := by
  have hE := hS.1
  have h22 := hE.2.2.2.1
  have ho := hE.2.2.2.2
  have hN := hS.2.1
  unfold pInput rGP
  show pok (pbind (pPred (tstr B n lm) N (i + 1)) _) _ _
  unfold g234
  obtain ⟨L1, p1, p2⟩ := hA.wd (f := f) hf hE (by omega)
  rw [p1]
  simp only [Option.bind_some]
  have h1 := l_nname (f := f) (by omega) hE hN p2
  rw [xlx_4, p2.at4 hE]
  cases hp : pPred (tstr B n lm) N (i + 1) with
  | inl w =>
    rw [hp] at h1
    obtain ⟨L2, a1, a2⟩ := h1
    have hbad : L2 7 ≠ -1 := by omega
    refine ⟨G, L2, ?_, a2, .rf _ _ _ _ _ _⟩
    rw [a1]
    simp only [Option.bind_some]
    rw [l_pass_bad hbad]
    simp only [Option.bind_some]
    rw [l_need_bad hbad]
    simp only [Option.bind_some]
    rw [l_num_bad hbad]
    simp only [Option.bind_some]
    rw [l_word_bad hbad]
    simp only [Option.bind_some]
    rw [if_pos trivial, l_i59_bad hbad]
  | inr p =>
    rw [hp] at h1
    obtain ⟨G1, a1, a2, a3, a4⟩ := h1
    have hple := pPred_le hp
    have hS1 := hS.nm a2 a3
    have hE1 := hS1.1
    have f1 : xfg o 0 0 0 0 G G1 := fun a j hj => a3 a j (by omega) (by omega)
    obtain ⟨L2, q1, q2⟩ := l_pass hf hE1 p2 a4 (by omega) (by omega)
    rw [a1]
    simp only [Option.bind_some]
    rw [q1]
    simp only [Option.bind_some]
    show pok (pbind (pNeed (tstr B n lm) 47 p.2.2) _) _ _
    rw [hple.1]
    unfold pNeed
    by_cases c47 : kK (tstr B n lm) (i + 1 + 1) = 47
    · rw [if_pos c47]
      obtain ⟨L3, n1, n2⟩ := l_need hf hE1 q2 (c := 47) (by unfold isSg; omega) c47
      rw [show rsc 47 = 47 from rfl] at n1
      rw [n1]
      simp only [Option.bind_some]
      have h2 := l_num (f := f) (hi := 4) hf hE1 n2 (by decide)
      show pok (pbind (pNum (tstr B n lm) 4 (i + 1 + 1 + 1)) _) _ _
      cases hp2 : pNum (tstr B n lm) 4 (i + 1 + 1 + 1) with
      | inl w =>
        rw [hp2] at h2
        obtain ⟨L4, b1, b2⟩ := h2
        have hbad : L4 7 ≠ -1 := by omega
        refine ⟨G1, L4, ?_, b2, f1⟩
        rw [b1]
        simp only [Option.bind_some]
        rw [l_word_bad hbad]
        simp only [Option.bind_some]
        rw [if_pos trivial, l_i59_bad hbad]
      | inr m =>
        rw [hp2] at h2
        obtain ⟨L4, b1, b2, b3, b4⟩ := h2
        have hm : i + 1 + 1 + 1 ≤ m.2 := by
          unfold pNum at hp2
          split at hp2
          · cases hp2; simp only; omega
          · cases hp2
        rw [b1]
        simp only [Option.bind_some]
        rw [xlx_o _ _ (by omega), hE1.2.2.1.2.2.1, b2.isword hE1 (c := 16099) (k := 8) rfl (fun x h => tres_inv.2.2.1 h) (by decide)]
        simp only [Option.bind_some, i10]
        show pok (pbind (if kK (tstr B n lm) m.2 = 8 then pNum (tstr B n lm) (m.1 - 1) (m.2 + 1) else .inr (0, m.2)) _) _ _
        by_cases c8 : kK (tstr B n lm) m.2 = 8
        · rw [if_pos c8]
          simp only [if_neg (fun h : ¬ _ => h c8)]
          obtain ⟨L5, w1, w2⟩ := b2.wd (f := f) hf hE1 (by omega)
          rw [w1]
          simp only [Option.bind_some]
          rw [xwr_g _ (by omega) (by omega)]
          have h3 := l_num (f := f) (hi := m.1 - 1) hf hE1 w2 (by omega)
          cases hp3 : pNum (tstr B n lm) (m.1 - 1) (m.2 + 1) with
          | inl w =>
            rw [hp3] at h3
            obtain ⟨L6, d1, d2⟩ := h3
            refine ⟨G1, L6, ?_, d2, f1⟩
            rw [d1]
            exact l_i59_bad (by omega)
          | inr k =>
            rw [hp3] at h3
            obtain ⟨L6, d1, d2, d3, d4⟩ := h3
            have hk : m.2 + 1 ≤ k.2 := by
              unfold pNum at hp3
              split at hp3
              · cases hp3; simp only; omega
              · cases hp3
            have h4 := l_i59 (e := fun _ => g234_59 f ((q : Int) + kS (tstr B n lm) (i + 1)) p.1 m.1 k.1 (xlx G1 L6)) (G := G) (L := L) (cb := cb) (pl := kS (tstr B n lm) (i + 1)) hf hS1 f1 ⟨hple.2.2.2.1, hple.2.2.2.2⟩ d2 (by omega) rfl
            rw [d1]
            exact h4
        · rw [if_neg c8]
          simp only [if_pos c8]
          exact l_i59 (e := fun _ => g234_59 f ((q : Int) + kS (tstr B n lm) (i + 1)) p.1 m.1 0 (xlx G1 L4)) (G := G) (L := L) (cb := cb) (pl := kS (tstr B n lm) (i + 1)) hf hS1 f1 ⟨hple.2.2.2.1, hple.2.2.2.2⟩ b2 (by omega) rfl
    · rw [if_neg c47]
      have n1 := l_need_no (f := f) hE1 q2 (c := 47) (by unfold isSg; omega) c47
      rw [show rsc 47 = 47 from rfl] at n1
      have hbad : xu L2 7 ((q : Int) + kS (tstr B n lm) (i + 1 + 1)) 7 ≠ -1 := by show (q : Int) + _ ≠ -1; omega
      refine ⟨G1, xu L2 7 ((q : Int) + kS (tstr B n lm) (i + 1 + 1)), ?_, rfl, f1⟩
      rw [n1]
      simp only [Option.bind_some]
      rw [l_num_bad hbad]
      simp only [Option.bind_some]
      rw [l_word_bad hbad]
      simp only [Option.bind_some]
      rw [if_pos trivial, l_i59_bad hbad]
theorem l_output (hf : n + 20 < f) (hS : rPS G q B n lm o c N ins outs M R) (hA : rAt q B n lm i L) (hc : c ≤ cb + i) (hK : kK (tstr B n lm) i = 7) : rGP f q B n lm o cb G L c (g235 f) (pOutput (tstr B n lm) (N, ins, outs, M, R, i)) := by
  have hE := hS.1
  have ho := hE.2.2.2.2
  have hN := hS.2.1
  unfold pOutput rGP
  show pok (pbind (pPred (tstr B n lm) N (i + 1)) _) _ _
  unfold g235
  obtain ⟨L1, p1, p2⟩ := hA.wd (f := f) hf hE (by omega)
  rw [p1]
  simp only [Option.bind_some]
  have h1 := l_nname (f := f) (by omega) hE hN p2
  rw [xlx_4, p2.at4 hE]
  cases hp : pPred (tstr B n lm) N (i + 1) with
  | inl w =>
    rw [hp] at h1
    obtain ⟨L2, a1, a2⟩ := h1
    have hbad : L2 7 ≠ -1 := by omega
    refine ⟨G, L2, ?_, a2, .rf _ _ _ _ _ _⟩
    rw [a1]
    simp only [Option.bind_some]
    rw [l_pass_bad hbad]
    simp only [Option.bind_some]
    rw [l_need_bad hbad]
    simp only [Option.bind_some]
    rw [l_bad, if_neg hbad]
    simp only [Option.bind_some]
    rw [if_neg (by decide)]
  | inr p =>
    rw [hp] at h1
    obtain ⟨G1, a1, a2, a3, a4⟩ := h1
    have hple := pPred_le hp
    have hS1 := hS.nm a2 a3
    have hS1' := hS1
    obtain ⟨hE1, hN1, hM, h37, h9, hR24, hR, hfl⟩ := hS1'
    have h22 := hE1.2.2.2.1
    have hN16 := hN1.2.1
    have f1 : xfg o 0 0 0 0 G G1 := fun a j hj => a3 a j (by omega) (by omega)
    obtain ⟨L2, q1, q2⟩ := l_pass hf hE1 p2 a4 (by omega) (by omega)
    rw [a1]
    simp only [Option.bind_some]
    rw [q1]
    simp only [Option.bind_some]
    show pok (pbind (pNeed (tstr B n lm) 46 p.2.2) _) _ _
    rw [hple.1]
    unfold pNeed
    by_cases c46 : kK (tstr B n lm) (i + 1 + 1) = 46
    · rw [if_pos c46]
      obtain ⟨L3, n1, n2⟩ := l_need hf hE1 q2 (c := 46) (by unfold isSg; omega) c46
      rw [show rsc 46 = 46 from rfl] at n1
      rw [n1]
      simp only [Option.bind_some]
      rw [l_bad, if_pos n2.1]
      simp only [Option.bind_some]
      have f2 : xfg o 24 c (min M.length 420) p.2.1.length G1 (xup2 G1 (o + 7) p.1.toNat 1) := xfg.up _ (by omega)
      have hE2 := hE1.fg f2
      have hM2 : rMs (xup2 G1 (o + 7) p.1.toNat 1) o q M := hM.fr (xup2_n (by omega)) (fun a b _ _ => xup2_n (by omega))
      have f3 : xfg o 24 c (min M.length 420) p.2.1.length G1 (rMen (xup2 G1 (o + 7) p.1.toNat 1) o (min M.length 420) p.1 ((q : Int) + kS (tstr B n lm) (i + 1)) (-1) 2) := f2.tr ((rMen_fl (r := 24) (x := 8 * 24) (v0 := 0) (c0 := c) (n0 := p.2.1.length) _).fg (Nat.le_refl _)) (Nat.le_refl _) (Nat.le_refl _) (Nat.le_refl _) (Nat.le_refl _)
      refine ⟨rMen (xup2 G1 (o + 7) p.1.toNat 1) o (min M.length 420) p.1 ((q : Int) + kS (tstr B n lm) (i + 1)) (-1) 2, L3, c, ?_, n2, f1.tr f3.w (Nat.le_refl _) (Nat.le_refl _) (Nat.le_refl _) (Nat.le_refl _), ⟨hE1.fg f3, ⟨?_, hN16, fun y hy => ?_⟩, hM2.add (p.1, kS (tstr B n lm) (i + 1), -1, 2), ?_, ?_, hR24, fun r hr => (hR r hr).fg f3 (by have : r < R.length := hr; omega) (Nat.le_refl _), fun x hx => ?_⟩, Nat.le_refl _, by show c ≤ cb + (i + 1 + 1 + 1); omega⟩
      · rw [if_pos trivial, xlx_o _ _ (by omega), h22, if_neg (by omega), if_pos (by omega), Int.toNat_natCast, xlx_upo _ _ _ (by omega)]
        rw [l_men hE2 hM2.1 (by omega)]
        rfl
      · rw [rMen_o (by omega), xup2_n (by omega)]; exact hN1.1
      · rw [rMen_o (by omega), xup2_n (by omega)]; exact hN1.2.2 y hy
      · rw [rMen_o (by omega), xup2_n (by omega)]; exact h37
      · rw [rMen_o (by omega), xup2_n (by omega)]; exact h9
      · obtain ⟨y1, y2, y3, y4⟩ := hfl x hx
        rw [rMen_o (by omega), rMen_o (by omega), rMen_o (by omega), rMen_o (by omega), pOu_1]
        refine ⟨by rw [xup2_n (by omega)]; exact y1, by rw [xup2_n (by omega)]; exact y2, ?_, by rw [xup2_n (by omega)]; exact y4⟩
        by_cases cx : (x : Int) = p.1
        · rw [if_pos cx, show p.1.toNat = x by omega, xup2_s]
        · rw [if_neg cx, xup2_n (by omega)]; exact y3
    · rw [if_neg c46]
      have n1 := l_need_no (f := f) hE1 q2 (c := 46) (by unfold isSg; omega) c46
      rw [show rsc 46 = 46 from rfl] at n1
      have hbad : xu L2 7 ((q : Int) + kS (tstr B n lm) (i + 1 + 1)) 7 ≠ -1 := by show (q : Int) + _ ≠ -1; omega
      refine ⟨G1, xu L2 7 ((q : Int) + kS (tstr B n lm) (i + 1 + 1)), ?_, rfl, f1⟩
      rw [n1]
      simp only [Option.bind_some]
      rw [l_bad, if_neg hbad]
      simp only [Option.bind_some]
      rw [if_neg (by decide)]
/-- statement by statement -/
theorem pPg_i {t : tStr} {F : Nat} {s s' : pPg} : (pInput t s = .inr s' → s.2.2.2.2.2 < s'.2.2.2.2.2) ∧ (pOutput t s = .inr s' → s.2.2.2.2.2 < s'.2.2.2.2.2) ∧ (pRule t F s = .inr s' → s.2.2.2.2.2 < s'.2.2.2.2.2) := by
  refine ⟨fun h => ?_, fun h => ?_, fun h => ?_⟩
  · unfold pInput at h
    obtain ⟨p, h1, h⟩ := pbind_inr h
    obtain ⟨j, h2, h⟩ := pbind_inr h
    obtain ⟨m, h3, h⟩ := pbind_inr h
    obtain ⟨k, h4, h⟩ := pbind_inr h
    obtain ⟨j2, h5, h⟩ := pbind_inr h
    have a1 := pPred_le h1
    have a2 := pNeed_le h2
    have a5 := pNeed_le h5
    have a3 : j < m.2 := by
      unfold pNum at h3
      split at h3
      · cases h3; simp only; omega
      · cases h3
    have a4 : m.2 ≤ k.2 := by
      split at h4
      · unfold pNum at h4
        split at h4
        · cases h4; simp only; omega
        · cases h4
      · cases h4; simp only; omega
    cases h
    simp only
    omega
  · unfold pOutput at h
    obtain ⟨p, h1, h⟩ := pbind_inr h
    obtain ⟨j, h2, h⟩ := pbind_inr h
    have a1 := pPred_le h1
    have a2 := pNeed_le h2
    cases h
    simp only
    omega
  · have e : s = (s.1, s.2.1, s.2.2.1, s.2.2.2.1, s.2.2.2.2.1, s.2.2.2.2.2) := rfl
    rw [e, pRule_e] at h
    split at h
    · cases h
    · obtain ⟨p, h1, h⟩ := pbind_inr h
      obtain ⟨z, h2, h⟩ := pbind_inr h
      obtain ⟨j, h3, h2⟩ := pbind_inr h2
      obtain ⟨a, h4, h2⟩ := pbind_inr h2
      unfold pRest pBody at h2
      obtain ⟨b, h5, h2⟩ := pbind_inr h2
      obtain ⟨j3, h6, h2⟩ := pbind_inr h2
      obtain ⟨z2, h7, h2⟩ := pbind_inr h2
      obtain ⟨l, h8, h7⟩ := pbind_inr h7
      obtain ⟨j4, h9, h7⟩ := pbind_inr h7
      have a1 := pPred_le h1
      have a3 := pNeed_le h3
      have a4 := pItem_le h4
      have a6 := pNeed_le h6
      have a9 := pNeed_le h9
      have a5 : ∀ (k : Nat) (x y : pIt), pItems t F k x = .inr y → x.2.2.2 ≤ y.2.2.2 := by
        intro k
        induction k with
        | zero => intro x y hh; cases hh; exact Nat.le_refl _
        | succ k ih =>
          intro x y hh
          unfold pItems at hh
          split at hh
          · obtain ⟨u, g1, g2⟩ := pbind_inr hh
            have := pItem_le g1
            have := ih _ _ g2
            simp only at *
            omega
          · cases hh; exact Nat.le_refl _
      have a5' := a5 _ _ _ h5
      have a8 : j3 ≤ l.2.2.2.2 := by
        have ls : ∀ (k : Nat) (x y : pRs), pLits t true F k x = .inr y → x.2.2.2.2 ≤ y.2.2.2.2 := by
          intro k
          induction k with
          | zero => intro x y hh; cases hh; exact Nat.le_refl _
          | succ k ih =>
            intro x y hh
            unfold pLits at hh
            split at hh
            · obtain ⟨u, g1, g2⟩ := pbind_inr hh
              have := pLit_le g1
              have := ih _ _ g2
              simp only at *
              omega
            · cases hh; exact Nat.le_refl _
        split at h8
        · obtain ⟨u, g1, g2⟩ := pbind_inr h8
          have := pLit_le g1
          have := ls _ _ _ g2
          simp only at *
          omega
        · cases h8
          simp only
          omega
      cases h7
      cases h2
      cases h
      simp only at *
      omega
theorem l_prog (hf : n + 20 < f) (hcb : cb + n + 3 ≤ 6200) : ∀ (k fu : Nat), k < fu → ∀ (K i c : Nat) (G : xG_) (L : Nat → Int) (N : List Int) (ins : List (Int × Int × Int)) (outs : List Int) (M : List pMn) (R : List pRu), n + 1 - i ≤ k → n + 1 - i < K → 4 * (n + 1 - i) + 4 ≤ F → rPS G q B n lm o c N ins outs M R → rAt q B n lm i L → c ≤ cb + i → rGP f q B n lm o cb G L c (g231_13 f fu) (pProg (tstr B n lm) F K (N, ins, outs, M, R, i)) := by
  intro k
  induction k with
  | zero =>
    intro fu _ K i c G L N ins outs M R hk hK hF hS hA
    have := hA.le hS.1.1.2.1
    omega
  | succ k ih =>
    intro fu hfu K i c G L N ins outs M R hk hK hF hS hA hc
    obtain ⟨fu, rfl⟩ : ∃ t, fu = t + 1 := ⟨fu - 1, by omega⟩
    obtain ⟨K, rfl⟩ : ∃ t, K = t + 1 := ⟨K - 1, by omega⟩
    have hE := hS.1
    have hin := hA.le hE.1.2.1
    have htk := hA.tk hE.1.2.1
    have t0 : L 2 = 0 ↔ kK (tstr B n lm) i = 0 := htk.2.2.2.2.2.2.1
    have bad : ∀ {G1 L1}, L1 7 ≠ -1 → g231_13 f fu (xlx G1 L1) = some (xlx G1 L1) := by
      intro G1 L1 hbad
      obtain ⟨fu, rfl⟩ : ∃ t, fu = t + 1 := ⟨fu - 1, by omega⟩
      show g231_13b (g231_13 f fu) f _ = _
      unfold g231_13b g231_88
      rw [l_bad, if_neg hbad]
      simp only [Option.bind_some]
      rw [if_pos (by decide)]
    have es : g231_13 f (fu + 1) (xlx G L) = if kK (tstr B n lm) i = 0 then some (xlx G L) else if kK (tstr B n lm) i = 6 then (g234 f (xlx G L)).bind (g231_13 f fu) else if kK (tstr B n lm) i = 7 then (g235 f (xlx G L)).bind (g231_13 f fu) else if kK (tstr B n lm) i = 1 then (g237 f (xlx G L)).bind (g231_13 f fu) else g231_13 f fu (xlx G (xu L 7 (L 4))) := by
      show g231_13b (g231_13 f fu) f _ = _
      unfold g231_13b g231_88
      rw [l_bad, if_pos hA.1]
      simp only [Option.bind_some]
      rw [if_neg (fun h => h trivial), xlx_2]
      by_cases d0 : kK (tstr B n lm) i = 0
      · rw [if_pos (t0.mpr d0), if_pos d0]
      · rw [if_neg (fun h => d0 (t0.mp h)), if_neg d0, xlx_o _ _ (by omega), hE.2.2.1.1, hA.isword hE (c := 19558354) (k := 6) rfl (fun x h => tres_inv.1 h) (by decide)]
        simp only [Option.bind_some, i10]
        by_cases d6 : kK (tstr B n lm) i = 6
        · rw [if_neg (fun h => h d6), if_pos d6]
        · rw [if_pos d6, if_neg d6, xlx_o _ _ (by omega), hE.2.2.1.2.1, hA.isword hE (c := 1233436738) (k := 7) rfl (fun x h => tres_inv.2.1 h) (by decide)]
          simp only [Option.bind_some, i10]
          by_cases d7 : kK (tstr B n lm) i = 7
          · rw [if_neg (fun h => h d7), if_pos d7]
          · rw [if_pos d7, if_neg d7, hA.isname hE]
            simp only [Option.bind_some, i10]
            by_cases d1 : kK (tstr B n lm) i = 1
            · rw [if_neg (fun h => h d1), if_pos d1]
            · rw [if_pos d1, if_neg d1, xlx_4, l_fail, if_pos hA.1]
              rfl
    have go : ∀ (e : xG_ → Option xG_) (P : Nat ⊕ pPg), rGP f q B n lm o cb G L c e P → (∀ s, P = .inr s → i < s.2.2.2.2.2) → g231_13 f (fu + 1) (xlx G L) = (e (xlx G L)).bind (g231_13 f fu) → rGP f q B n lm o cb G L c (g231_13 f (fu + 1)) (pbind P fun s' => pProg (tstr B n lm) F K s') := by
      intro e P h1 h2 h3
      unfold rGP at h1 ⊢
      cases P with
      | inl w =>
        obtain ⟨G1, L1, a1, a2, a3⟩ := h1
        refine ⟨G1, L1, ?_, a2, a3⟩
        rw [h3, a1]
        exact bad (by omega)
      | inr s =>
        obtain ⟨G1, L1, c1, a1, a2, a3, a4, a5, a6⟩ := h1
        have hlt := h2 s rfl
        have h4 := ih fu (by omega) K s.2.2.2.2.2 c1 G1 L1 s.1 s.2.1 s.2.2.1 s.2.2.2.1 s.2.2.2.2.1 (by omega) (by omega) (by omega) a4 a2 a6
        have e4 : g231_13 f (fu + 1) (xlx G L) = g231_13 f fu (xlx G1 L1) := by rw [h3, a1]; rfl
        unfold rGP at h4
        rw [e4]
        show pok (pProg (tstr B n lm) F K s) _ _
        cases hp : pProg (tstr B n lm) F K s with
        | inl w =>
          have hp' : pProg (tstr B n lm) F K (s.1, s.2.1, s.2.2.1, s.2.2.2.1, s.2.2.2.2.1, s.2.2.2.2.2) = .inl w := hp
          rw [hp'] at h4
          obtain ⟨G2, L2, b1, b2, b3⟩ := h4
          exact ⟨G2, L2, b1, b2, a3.tr b3 (Nat.le_refl _) (Nat.le_refl _) (Nat.le_refl _) (Nat.le_refl _)⟩
        | inr u =>
          have hp' : pProg (tstr B n lm) F K (s.1, s.2.1, s.2.2.1, s.2.2.2.1, s.2.2.2.2.1, s.2.2.2.2.2) = .inr u := hp
          rw [hp'] at h4
          obtain ⟨G2, L2, c2, b1, b2, b3, b4, b5, b6⟩ := h4
          exact ⟨G2, L2, c2, b1, b2, a3.tr b3 (Nat.le_refl _) (Nat.le_refl _) (Nat.le_refl _) (Nat.le_refl _), b4, by omega, b6⟩
    unfold pProg
    show rGP f q B n lm o cb G L c (g231_13 f (fu + 1)) (if kK (tstr B n lm) i = 0 then _ else _)
    by_cases d0 : kK (tstr B n lm) i = 0
    · rw [if_pos d0]
      rw [if_pos d0] at es
      exact ⟨G, L, c, es, hA, .rf _ _ _ _ _ _, hS, Nat.le_refl _, hc⟩
    rw [if_neg d0]
    rw [if_neg d0] at es
    show rGP f q B n lm o cb G L c (g231_13 f (fu + 1)) (pbind (if kK (tstr B n lm) i = 6 then _ else if kK (tstr B n lm) i = 7 then _ else _) _)
    by_cases d6 : kK (tstr B n lm) i = 6
    · rw [if_pos d6]
      rw [if_pos d6] at es
      exact go _ _ (l_input hf hS hA hc d6) (fun s h => pPg_i (F := F).1 h) es
    rw [if_neg d6]
    rw [if_neg d6] at es
    by_cases d7 : kK (tstr B n lm) i = 7
    · rw [if_pos d7]
      rw [if_pos d7] at es
      exact go _ _ (l_output hf hS hA hc d7) (fun s h => pPg_i (F := F).2.1 h) es
    rw [if_neg d7]
    rw [if_neg d7] at es
    by_cases d1 : kK (tstr B n lm) i = 1
    · rw [if_pos d1] at es
      exact go _ _ (l_rule hf hcb hF hS hA hc) (fun s h => pPg_i.2.2 h) es
    · rw [if_neg d1] at es
      have hp : pRule (tstr B n lm) F (N, ins, outs, M, R, i) = .inl (kS (tstr B n lm) i) := by
        rw [pRule_e]
        split
        · rfl
        · have : pPred (tstr B n lm) N i = .inl (kS (tstr B n lm) i) := by
            unfold pPred pName
            rw [if_pos d1]
            rfl
          rw [this]
          rfl
      rw [hp]
      exact ⟨G, xu L 7 (L 4), by rw [es]; exact bad (by show L 4 ≠ -1; rw [hA.at4 hE]; omega), hA.at4 hE, .rf _ _ _ _ _ _⟩
end
end
section
/-! The reference reads programs: from the first TOKEN on -/
section
variable {f o : Nat}
theorem l_clear (hf : 20 < f) (ho : o = 2 ∨ o = 37 ∨ o = 72) (G : xG_) : ∃ G', g228 f o G = some G' ∧ (∀ a j, ¬ (a = 0 ∧ j = 22) → ¬ (a = o ∧ (j = 8 ∨ j = 9 ∨ j = 14 ∨ j = 37)) → ¬ (o + 2 ≤ a ∧ a ≤ o + 8 ∧ a ≠ o + 4 ∧ a ≠ o + 5) → G' a j = G a j) ∧ G' 0 22 = (o : Int) ∧ G' o 8 = 0 ∧ G' o 9 = 0 ∧ G' o 14 = 0 ∧ G' o 37 = 0 ∧ ∀ a j, o + 2 ≤ a → a ≤ o + 8 → a ≠ o + 4 → a ≠ o + 5 → j < 16 → G' a j = 0 := by
  have loop : ∀ (k v fu : Nat) (G : xG_), v + k = 16 → k < fu → (∀ a j, o + 2 ≤ a → a ≤ o + 8 → a ≠ o + 4 → a ≠ o + 5 → j < v → G a j = 0) → ∃ G', g228_22 f fu o (v : Int) G = some G' ∧ (∀ a j, ¬ (a = 0 ∧ j = 22) → ¬ (o + 2 ≤ a ∧ a ≤ o + 8 ∧ a ≠ o + 4 ∧ a ≠ o + 5) → G' a j = G a j) ∧ G' 0 22 = (o : Int) ∧ ∀ a j, o + 2 ≤ a → a ≤ o + 8 → a ≠ o + 4 → a ≠ o + 5 → j < 16 → G' a j = 0 := by
    intro k
    induction k with
    | zero =>
      intro v fu G hk hfu hz
      obtain ⟨fu, rfl⟩ : ∃ t, fu = t + 1 := ⟨fu - 1, by omega⟩
      refine ⟨xup2 G 0 22 (o : Int), ?_, fun a j h1 h2 => xup2_n h1, xup2_s _ _ _ _, fun a j h1 h2 h3 h4 h5 => by rw [xup2_n (by omega)]; exact hz a j h1 h2 h3 h4 (by omega)⟩
      show g228_22b (g228_22 f fu) f _ _ _ = _
      unfold g228_22b
      rw [if_pos (by omega)]
      rfl
    | succ k ih =>
      intro v fu G hk hfu hz
      obtain ⟨fu, rfl⟩ : ∃ t, fu = t + 1 := ⟨fu - 1, by omega⟩
      have ez : ∀ a j, xup2 (xup2 (xup2 (xup2 (xup2 G (o + 2) v 0) (o + 3) v 0) (o + 6) v 0) (o + 7) v 0) (o + 8) v 0 a j = if o + 2 ≤ a ∧ a ≤ o + 8 ∧ a ≠ o + 4 ∧ a ≠ o + 5 ∧ j = v then 0 else G a j := by
        intro a j
        by_cases c : o + 2 ≤ a ∧ a ≤ o + 8 ∧ a ≠ o + 4 ∧ a ≠ o + 5 ∧ j = v
        · rw [if_pos c]
          obtain ⟨c1, c2, c3, c4, rfl⟩ := c
          have : a = o + 2 ∨ a = o + 3 ∨ a = o + 6 ∨ a = o + 7 ∨ a = o + 8 := by omega
          rcases this with rfl | rfl | rfl | rfl | rfl <;> simp (disch := omega) only [xup2_n, xup2_s]
        · rw [if_neg c]
          simp (disch := omega) only [xup2_n]
      obtain ⟨G', a1, a2, a3, a4⟩ := ih (v + 1) fu (xup2 (xup2 (xup2 (xup2 (xup2 G (o + 2) v 0) (o + 3) v 0) (o + 6) v 0) (o + 7) v 0) (o + 8) v 0) (by omega) (by omega) (fun a j h1 h2 h3 h4 h5 => by
        rw [ez]
        by_cases c : j = v
        · rw [if_pos ⟨h1, h2, h3, h4, c⟩]
        · rw [if_neg (fun h => c h.2.2.2.2)]
          exact hz a j h1 h2 h3 h4 (by omega))
      refine ⟨G', ?_, fun a j h1 h2 => ?_, a3, a4⟩
      · show g228_22b (g228_22 f fu) f _ _ _ = _
        unfold g228_22b
        rw [if_neg (by omega), if_pos (by omega), Int.toNat_natCast]
        simp only [Option.bind_some]
        rw [if_pos (by omega), if_pos (by omega), if_pos (by omega), if_pos (by omega), xwr_g _ (by omega) (by omega)]
        exact a1
      · rw [a2 a j h1 h2, ez, if_neg (by omega)]
  obtain ⟨G', a1, a2, a3, a4⟩ := loop 16 0 f (xup2 (xup2 (xup2 (xup2 G o 8 0) o 9 0) o 14 0) o 37 0) (by omega) (by omega) (fun a j _ _ _ _ h => by omega)
  refine ⟨G', ?_, fun a j h1 h2 h3 => ?_, a3, ?_, ?_, ?_, ?_, a4⟩
  · unfold g228
    exact a1
  · rw [a2 a j h1 h3, xup2_n (by omega), xup2_n (by omega), xup2_n (by omega), xup2_n (by omega)]
  · rw [a2 _ _ (by omega) (by omega)]; simp (disch := omega) only [xup2_n, xup2_s]
  · rw [a2 _ _ (by omega) (by omega)]; simp (disch := omega) only [xup2_n, xup2_s]
  · rw [a2 _ _ (by omega) (by omega)]; simp (disch := omega) only [xup2_n, xup2_s]
  · rw [a2 _ _ (by omega) (by omega), xup2_s]
end
/-- a text of n bytes from the place q on of a row of bytes -/
def rBy (G : xG_) (b q n : Nat) : Nat → Int := fun p => if p < n then xand (G b (q + p)) 255 else -1
def rTt (G : xG_) (b q n : Nat) : Prop := (b = 239 ∨ b = 240) ∧ (q : Int) + n ≤ ((xl_t b).2.2 : Int) ∧ ∀ p, p < n → -128 ≤ G b (q + p) ∧ G b (q + p) ≤ 127
theorem rBy_tx (G : xG_) (b q n : Nat) : tTx (rBy G b q n) n := by
  intro p
  unfold rBy
  have := xand_255 (G b (q + p))
  constructor
  · intro h
    rw [if_pos h]
    exact this
  · intro h
    rw [if_neg (by omega)]
theorem rTx_of {G G' : xG_} {b q n : Nat} (h : rTt G b q n) (h0 : G' 0 0 = (b : Int)) (h1 : G' 0 1 = (q : Int) + n) (hb : ∀ j, G' b j = G b j) : rTx G' q (rBy G b q n) n := by
  obtain ⟨a1, a2, a3⟩ := h
  have e0 : (G' 0 0).toNat = b := by rw [h0]; exact Int.toNat_natCast b
  refine ⟨⟨by omega, by omega, by rw [e0, h1]; exact a2⟩, rBy_tx G b q n, h1, fun p => ?_, fun p hp => ?_⟩
  · unfold gB rBy
    rw [e0, h1, hb, show ((q : Int) + p).toNat = q + p by omega]
    by_cases c : p < n
    · rw [if_neg (by omega), if_pos c]
    · rw [if_pos (by omega), if_neg c]
  · rw [e0, hb]
    exact a3 p hp
/-- begin: the first TOKEN -/
theorem l_begin {f b q n : Nat} {G : xG_} (hf : n + 20 < f) (h : rTt G b q n) : ∃ L', g212 f b q ((q : Int) + n) G = some (xlx (xup2 (xup2 (xup2 G 0 0 (b : Int)) 0 1 ((q : Int) + n)) 0 11 0) L') ∧ rAt q (rBy G b q n) n false 0 L' := by
  let G1 := xup2 (xup2 (xup2 G 0 0 (b : Int)) 0 1 ((q : Int) + n)) 0 11 0
  have hb := h.1
  have hT : rTx G1 q (rBy G b q n) n := rTx_of h (by show xup2 _ _ _ _ _ _ = _; simp (disch := omega) only [xup2_n, xup2_s]) (by show xup2 _ _ _ _ _ _ = _; simp (disch := omega) only [xup2_n, xup2_s]) (fun j => by show xup2 _ _ _ _ _ _ = _; simp (disch := omega) only [xup2_n])
  let L0 := xu (xu (xu (G1 0) 7 (-1)) 5 (q : Int)) 8 0
  have e0 : g212 f b q ((q : Int) + n) G = g214 f (xlx G1 L0) := by
    have eG : xup2 (xup2 (xup2 (xup2 (xup2 (xup2 G 0 0 (b : Int)) 0 1 ((q : Int) + n)) 0 7 (-1)) 0 5 (q : Int)) 0 8 0) 0 11 0 = xlx G1 L0 := by
      funext a j
      show xup2 _ _ _ _ _ _ = xlx (xup2 (xup2 (xup2 G 0 0 (b : Int)) 0 1 ((q : Int) + n)) 0 11 0) (xu (xu (xu ((xup2 (xup2 (xup2 G 0 0 (b : Int)) 0 1 ((q : Int) + n)) 0 11 0) 0) 7 (-1)) 5 (q : Int)) 8 0) a j
      unfold xlx xu xup2
      grind
    unfold g212
    simp only [Option.bind_some]
    rw [eG]
    cases g214 f (xlx G1 L0) <;> rfl
  obtain ⟨L', e, r1, r2, r3⟩ := rl_lex (f := f) (p := 0) (L := L0) hT hf (by omega) (by show (q : Int) = (q : Int) + ((0 : Nat) : Int); omega) (by show (0 : Int) ≤ 0 ∧ (0 : Int) < 2000000000; decide)
  have h11 : G1 0 11 = 0 := xup2_s _ _ _ _
  have r3' : L' 8 = 0 + 1 := r3
  refine ⟨L', by rw [e0]; exact e, by rw [r2]; rfl, ?_, Nat.zero_le _, by omega, by omega, fun h => absurd h (by decide)⟩
  have hc : (0 ≤ rBy G b q n (tS (rBy G b q n) n 0) ∧ G1 0 11 ≠ 0 ∧ 60 < L' 8) ↔ (0 ≤ rBy G b q n (tS (rBy G b q n) n 0) ∧ false = true ∧ 62 ≤ 0) := by
    rw [h11]
    simp
  have r1' : rTk q (rBy G b q n) n (tS (rBy G b q n) n 0) (0 ≤ rBy G b q n (tS (rBy G b q n) n 0) ∧ G1 0 11 ≠ 0 ∧ 60 < L' 8) L' := r1
  unfold rTk at r1' ⊢
  simp only [hc] at r1'
  exact r1'
/-- what reading a program leaves as it was -/
def xfr2 (o : Nat) (G G' : xG_) : Prop := ∀ a j, ¬ (a = 0 ∧ (j ≤ 11 ∨ 21 ≤ j ∧ j ≤ 25)) → ¬ (o ≤ a ∧ a ≤ o + 34 ∧ a ≠ o + 4 ∧ a ≠ o + 5) → G' a j = G a j
theorem l_readp {f o b q n F K : Nat} {G : xG_} (hf : n + 20 < f) (hn : n ≤ 6000) (hF : 4 * (n + 1) + 4 ≤ F) (hK : n + 1 < K) (ho : o = 2 ∨ o = 37 ∨ o = 72) (hC : rC G) (h : rTt G b q n) :
    pok (pProg (tstr (rBy G b q n) n false) F K ([], [], [], [], [], 0)) (fun w => ∃ G' L', g231 f o b q ((q : Int) + n) G = some (xlx G' L') ∧ L' 7 = (q : Int) + w ∧ xfr2 o G G')
      (fun s => ∃ G' L', ∃ c : Nat, g231 f o b q ((q : Int) + n) G = some (xlx G' L') ∧ L' 7 = -1 ∧ xfr2 o G G' ∧ rPS G' q (rBy G b q n) n false o c s.1 s.2.1 s.2.2.1 s.2.2.2.1 s.2.2.2.2.1 ∧ (∀ y, y < 16 → G' (o + 2) y = 0) ∧ c ≤ n) := by
  obtain ⟨G1, c1, c2, c3, c4, c5, c6, c7, c8⟩ := l_clear (f := f) (o := o) (by omega) ho G
  have hb := h.1
  have hby : rBy G1 b q n = rBy G b q n := by
    funext p
    unfold rBy
    rw [c2 _ _ (by omega) (by omega) (by omega)]
  have h1 : rTt G1 b q n := ⟨h.1, h.2.1, fun p hp => by rw [c2 _ _ (by omega) (by omega) (by omega)]; exact h.2.2 p hp⟩
  obtain ⟨L1, e1, hA⟩ := l_begin (f := f) hf h1
  rw [hby] at hA
  let G2 := xup2 (xup2 (xup2 G1 0 0 (b : Int)) 0 1 ((q : Int) + n)) 0 11 0
  have g2 : ∀ a j, ¬ (a = 0 ∧ (j = 0 ∨ j = 1 ∨ j = 11)) → G2 a j = G1 a j := fun a j _ => by
    show xup2 _ _ _ _ _ _ = _
    simp (disch := omega) only [xup2_n]
  have hT : rTx G2 q (rBy G b q n) n := by
    rw [← hby]
    exact rTx_of h1 (by show xup2 _ _ _ _ _ _ = _; simp (disch := omega) only [xup2_n, xup2_s]) (by show xup2 _ _ _ _ _ _ = _; simp (disch := omega) only [xup2_n, xup2_s]) (fun j => g2 _ _ (by omega))
  have hC2 : rC G2 := by
    obtain ⟨k1, k2, k3, k4, k5, k6, k7, k8, k9⟩ := hC
    unfold rC
    simp (disch := omega) only [g2, c2]
    exact ⟨k1, k2, k3, k4, k5, k6, k7, k8, k9⟩
  have hE : rEv G2 q (rBy G b q n) n false o := ⟨hT, xup2_s _ _ _ _, hC2, by rw [g2 _ _ (by omega)]; exact c3, ho⟩
  have hS : rPS G2 q (rBy G b q n) n false o 0 [] [] [] [] [] := by
    refine ⟨hE, ⟨by rw [g2 _ _ (by omega)]; exact c4, by decide, fun k hk => absurd hk (by simp)⟩, ⟨by rw [g2 _ _ (by omega)]; exact c6, fun k hk => absurd hk (by simp)⟩, by rw [g2 _ _ (by omega)]; exact c7, by rw [g2 _ _ (by omega)]; exact c5, by decide, fun r hr => absurd hr (by simp), fun p hp => ?_⟩
    rw [g2 _ _ (by omega), g2 _ _ (by omega), g2 _ _ (by omega), g2 _ _ (by omega), c8 _ _ (by omega) (by omega) (by omega) (by omega) hp, c8 _ _ (by omega) (by omega) (by omega) (by omega) hp, c8 _ _ (by omega) (by omega) (by omega) (by omega) hp, c8 _ _ (by omega) (by omega) (by omega) (by omega) hp]
    exact ⟨rfl, rfl, rfl, rfl⟩
  have h2 := l_prog (f := f) (F := F) (cb := 0) hf (by omega) (n + 1) f (by omega) K 0 0 G2 L1 [] [] [] [] [] (by omega) (by omega) (by omega) hS hA (by omega)
  have e2 : g231 f o b q ((q : Int) + n) G = g231_13 f f (xlx G2 L1) := by
    unfold g231
    rw [c1]
    simp only [Option.bind_some]
    rw [e1]
    rfl
  have fr : ∀ {G'}, xfg o 0 0 0 0 G2 G' → xfr2 o G G' := by
    intro G' hg a j k1 k2
    rw [hg a j (by omega), g2 a j (by omega), c2 a j (by omega) (by omega) (by omega)]
  unfold rGP at h2
  rw [e2]
  cases hp : pProg (tstr (rBy G b q n) n false) F K ([], [], [], [], [], 0) with
  | inl w =>
    rw [hp] at h2
    obtain ⟨G', L', a1, a2, a3⟩ := h2
    exact ⟨G', L', a1, a2, fr a3⟩
  | inr s =>
    rw [hp] at h2
    obtain ⟨G', L', c', a1, a2, a3, a4, _, a5⟩ := h2
    exact ⟨G', L', c', a1, a2.1, fr a3, a4, fun y hy => by rw [a3 _ _ (by omega), g2 _ _ (by omega)]; exact c8 _ _ (by omega) (by omega) (by omega) (by omega) hy, by have k1 := a2.2.2.1; have k2 := (tS_le (rBy_tx G b q n) s.2.2.2.2.2).1; omega⟩
end
section
/-! Masks: ints as sets of small numbers -/
theorem i32_nat (a : Nat) : (Int32.ofInt (a : Int)).toBitVec = BitVec.ofNat 32 a := BitVec.ofInt_natCast 32 a
theorem bv_int {x : BitVec 32} (h : x.toNat < 2147483648) : x.toInt = (x.toNat : Int) := BitVec.toInt_eq_toNat_of_lt (by omega)
theorem xor_nat {a b : Nat} (ha : a < 2147483648) (hb : b < 2147483648) : xor_ (a : Int) (b : Int) = ((a ||| b : Nat) : Int) := by
  have h : ((BitVec.ofNat 32 a ||| BitVec.ofNat 32 b).toNat) = a ||| b := by
    rw [BitVec.toNat_or, BitVec.toNat_ofNat, BitVec.toNat_ofNat, Nat.mod_eq_of_lt (by omega), Nat.mod_eq_of_lt (by omega)]
  have hlt : a ||| b < 2147483648 := Nat.or_lt_two_pow (n := 31) ha hb
  show ((Int32.ofInt (a : Int)).toBitVec ||| (Int32.ofInt (b : Int)).toBitVec).toInt = _
  rw [i32_nat, i32_nat, bv_int (by rw [h]; exact hlt), h]
theorem xand_nat {a b : Nat} (ha : a < 2147483648) (hb : b < 2147483648) : xand (a : Int) (b : Int) = ((a &&& b : Nat) : Int) := by
  have h : ((BitVec.ofNat 32 a &&& BitVec.ofNat 32 b).toNat) = a &&& b := by
    rw [BitVec.toNat_and, BitVec.toNat_ofNat, BitVec.toNat_ofNat, Nat.mod_eq_of_lt (by omega), Nat.mod_eq_of_lt (by omega)]
  have hlt : a &&& b < 2147483648 := Nat.lt_of_le_of_lt Nat.and_le_left ha
  show ((Int32.ofInt (a : Int)).toBitVec &&& (Int32.ofInt (b : Int)).toBitVec).toInt = _
  rw [i32_nat, i32_nat, bv_int (by rw [h]; exact hlt), h]
theorem xshr_t : ∀ m : Fin 32, (Int32.ofInt ((m.val : Nat) : Int) &&& 31).toBitVec = BitVec.ofNat 32 m.val := by decide +kernel
theorem xshl_t : ∀ m : Fin 31, xshl 1 ((m.val : Nat) : Int) = ((2 ^ m.val : Nat) : Int) := by decide +kernel
theorem xshl_nat {m : Nat} (hm : m < 31) : xshl 1 (m : Int) = ((2 ^ m : Nat) : Int) := xshl_t ⟨m, hm⟩
theorem xshr_nat {a m : Nat} (ha : a < 2147483648) (hm : m < 32) : xshr (a : Int) (m : Int) = ((a >>> m : Nat) : Int) := by
  have e1 : (Int32.ofInt (a : Int) >>> (Int32.ofInt (m : Int) &&& 31)).toBitVec = (Int32.ofInt (a : Int)).toBitVec.sshiftRight ((Int32.ofInt (m : Int) &&& 31).toBitVec.smod 32#32).toNat := rfl
  have e2 := xshr_t ⟨m, hm⟩
  have e3 : ∀ k : Fin 32, ((BitVec.ofNat 32 k.val).smod 32#32).toNat = k.val := by decide +kernel
  show (Int32.ofInt (a : Int) >>> (Int32.ofInt (m : Int) &&& 31)).toBitVec.toInt = _
  rw [e1, e2, e3 ⟨m, hm⟩, i32_nat]
  have hs : ((BitVec.ofNat 32 a).sshiftRight m).toInt = (BitVec.ofNat 32 a).toInt >>> m := BitVec.toInt_sshiftRight
  rw [hs, bv_int (by rw [BitVec.toNat_ofNat, Nat.mod_eq_of_lt (by omega)]; exact ha), BitVec.toNat_ofNat, Nat.mod_eq_of_lt (by omega)]
  rfl
/-- whether a number is in a mask -/
theorem xbit {a m : Nat} (ha : a < 2147483648) (hm : m < 32) : xand (xshr (a : Int) (m : Int)) 1 = 1 ↔ a.testBit m = true := by
  have h1 : a >>> m < 2147483648 := by rw [Nat.shiftRight_eq_div_pow]; exact Nat.lt_of_le_of_lt (Nat.div_le_self _ _) ha
  rw [xshr_nat ha hm, show (1 : Int) = ((1 : Nat) : Int) from rfl, xand_nat h1 (by decide), Nat.testBit, Nat.and_comm]
  have h2 : 1 &&& a >>> m = a >>> m % 2 := by rw [Nat.and_comm]; exact Nat.and_one_is_mod _
  rw [h2]
  have : a >>> m % 2 = 0 ∨ a >>> m % 2 = 1 := by omega
  rcases this with h | h <;> rw [h] <;> simp
theorem xbit0 {a m : Nat} (ha : a < 2147483648) (hm : m < 32) : xand (xshr (a : Int) (m : Int)) 1 = 0 ↔ a.testBit m = false := by
  have h1 : a >>> m < 2147483648 := by rw [Nat.shiftRight_eq_div_pow]; exact Nat.lt_of_le_of_lt (Nat.div_le_self _ _) ha
  rw [xshr_nat ha hm, show (1 : Int) = ((1 : Nat) : Int) from rfl, xand_nat h1 (by decide), Nat.testBit, Nat.and_comm]
  have h2 : 1 &&& a >>> m = a >>> m % 2 := by rw [Nat.and_comm]; exact Nat.and_one_is_mod _
  rw [h2]
  have : a >>> m % 2 = 0 ∨ a >>> m % 2 = 1 := by omega
  rcases this with h | h <;> rw [h] <;> simp
/-- one number more -/
theorem xorb {a m : Nat} (ha : a < 2147483648) (hm : m < 31) : xor_ (a : Int) (xshl 1 (m : Int)) = ((a ||| 2 ^ m : Nat) : Int) := by
  rw [xshl_nat hm, xor_nat ha (Nat.lt_of_lt_of_le (Nat.pow_lt_pow_right (by decide) hm) (by decide))]
theorem or_bit (a m j : Nat) : (a ||| 2 ^ m).testBit j = (a.testBit j || decide (m = j)) := by rw [Nat.testBit_or, Nat.testBit_two_pow]
theorem or_lt {a m k : Nat} (ha : a < 2 ^ k) (hm : m < k) : a ||| 2 ^ m < 2 ^ k := Nat.or_lt_two_pow ha (Nat.pow_lt_pow_right (by decide) hm)
/-- what a mask has and another hasn't: none -/
theorem xsub {a b : Nat} (ha : a < 2147483648) (hb : b < 2147483648) : xand (a : Int) (xxor (b : Int) (-1)) = 0 ↔ ∀ j, a.testBit j = true → b.testBit j = true := by
  have e : (Int32.ofInt (-1)).toBitVec = BitVec.allOnes 32 := rfl
  have h1 : xand (a : Int) (xxor (b : Int) (-1)) = (BitVec.ofNat 32 a &&& ~~~ BitVec.ofNat 32 b).toInt := by
    have hx : Int32.ofInt (xxor (b : Int) (-1)) = Int32.ofInt (b : Int) ^^^ Int32.ofInt (-1) := by
      unfold xxor
      rw [Int32.ofInt_toInt]
    unfold xand
    rw [hx]
    show ((Int32.ofInt (a : Int)).toBitVec &&& ((Int32.ofInt (b : Int)).toBitVec ^^^ (Int32.ofInt (-1)).toBitVec)).toInt = _
    rw [i32_nat, i32_nat, e, BitVec.xor_allOnes]
  have h2 : (BitVec.ofNat 32 a &&& ~~~ BitVec.ofNat 32 b).toNat < 2147483648 := by
    rw [BitVec.toNat_and, BitVec.toNat_ofNat, Nat.mod_eq_of_lt (by omega)]
    exact Nat.lt_of_le_of_lt Nat.and_le_left ha
  rw [h1, bv_int h2]
  constructor
  · intro h j hj
    have h3 : (BitVec.ofNat 32 a &&& ~~~ BitVec.ofNat 32 b) = 0#32 := by
      apply BitVec.eq_of_toNat_eq
      rw [BitVec.toNat_ofNat]
      omega
    have hj32 : j < 32 := by
      by_cases c : j < 32
      · exact c
      · have hp : 2 ^ 31 ≤ 2 ^ j := Nat.pow_le_pow_right (by decide) (by omega)
        rw [Nat.testBit_lt_two_pow (Nat.lt_of_lt_of_le ha hp)] at hj
        exact absurd hj (by decide)
    have h4 := congrArg (fun x => x.getLsbD j) h3
    simp only [BitVec.getLsbD_and, BitVec.getLsbD_not, BitVec.getLsbD_ofNat, hj32, decide_true, Bool.true_and, hj] at h4
    simpa using h4
  · intro h
    have h3 : (BitVec.ofNat 32 a &&& ~~~ BitVec.ofNat 32 b) = 0#32 := by
      apply BitVec.eq_of_getLsbD_eq
      intro j hj
      simp only [BitVec.getLsbD_and, BitVec.getLsbD_not, BitVec.getLsbD_ofNat, hj, decide_true, Bool.true_and]
      cases hb1 : a.testBit j with
      | false => simp
      | true => simp [h j hb1]
    rw [h3]
    rfl
end
section
/-! What is read is well made: values, VARIABLES, predicates in their bounds -/
def vOk (v : Int) : Prop := (-1000000000000 ≤ v ∧ v ≤ 1000000000000) ∨ (2000000000000 ≤ v ∧ v < 2282429536481)
def wSg (k : Int) : Prop := k = 42 ∨ k = 47 ∨ k = 37 ∨ k = 43 ∨ k = 45
def wC1 (nv : Nat) (x : Int × Int) : Prop := (x.1 = 1 ∧ vOk x.2) ∨ (x.1 = 2 ∧ 0 ≤ x.2 ∧ x.2 < nv) ∨ (x.1 = 3 ∧ wSg x.2)
def wC (nv : Nat) (Q : pCd) : Prop := ∀ x ∈ Q, wC1 nv x
/-- how many operands wait behind codes -/
def wSt : Nat → pCd → Option Nat
  | h, [] => some h
  | h, x :: q => if x.1 = 3 then (if 2 ≤ h then wSt (h - 1) q else none) else wSt (h + 1) q
theorem wSt_c (h : Nat) (x : Int × Int) (q : pCd) : wSt h (x :: q) = if x.1 = 3 then (if 2 ≤ h then wSt (h - 1) q else none) else wSt (h + 1) q := rfl
theorem wSt_ap : ∀ (h : Nat) (Q R : pCd), wSt h (Q ++ R) = (wSt h Q).bind (fun k => wSt k R) := by
  intro h Q
  induction Q generalizing h with
  | nil => intro R; rfl
  | cons x q ih =>
    intro R
    show wSt h (x :: (q ++ R)) = _
    rw [wSt_c, wSt_c]
    by_cases c : x.1 = 3
    · rw [if_pos c, if_pos c]
      by_cases c2 : 2 ≤ h
      · rw [if_pos c2, if_pos c2]
        exact ih _ _
      · rw [if_neg c2, if_neg c2]
        rfl
    · rw [if_neg c, if_neg c]
      exact ih _ _
theorem wC.mo {nv m : Nat} {Q : pCd} (h : wC nv Q) (hm : nv ≤ m) : wC m Q := fun x hx => by
  rcases h x hx with a | a | a
  · exact .inl a
  · exact .inr (.inl ⟨a.1, a.2.1, by omega⟩)
  · exact .inr (.inr a)
theorem wC.ap {nv : Nat} {Q : pCd} {x : Int × Int} (h : wC nv Q) (hx : wC1 nv x) : wC nv (Q ++ [x]) := fun y hy => by
  rcases List.mem_append.mp hy with a | a
  · exact h y a
  · rw [List.mem_singleton.mp a]; exact hx
/-- TOKENS whose values are values -/
def tOk (t : tStr) : Prop := ∀ i r, pVal t i = .inr r → vOk r.1
theorem tok_word2 {B : Nat → Int} {n i : Nat} {lm : Bool} (h : kK (tstr B n lm) i = 1) (hw : ¬ kW (tstr B n lm) i = -1) : 2000000000000 ≤ kW (tstr B n lm) i ∧ kW (tstr B n lm) i < 2282429536481 := by
  obtain ⟨c1, c2⟩ := tkd_inv.2 (kK_inv h (by decide))
  have eW : kW (tstr B n lm) i = tse B n (tS B n i) := rfl
  rw [eW] at hw ⊢
  have k4 : tse B n (tS B n i) = tsens B (tS B n i) (tnend B n (tS B n i)) := if_pos c2
  rw [k4] at hw ⊢
  unfold tsens at hw ⊢
  split at hw
  · rename_i c
    rw [if_pos c]
    have := tword_in (B := B) (s := tS B n i) (e := tnend B n (tS B n i)) (fun j j1 j2 => by have := c.1 (j - tS B n i) (by omega); rw [show tS B n i + (j - tS B n i) = j by omega] at this; exact this) 8
    have e8 : (27 : Int) ^ 8 = 282429536481 := by decide
    omega
  · exact absurd rfl hw
theorem tOk_of {B : Nat → Int} {n : Nat} (lm : Bool) (hB : tTx B n) : tOk (tstr B n lm) := by
  intro i r h
  unfold pVal at h
  split at h
  · rename_i c
    have := tok_num hB (lm := lm) c.1
    cases h
    left
    exact ⟨by show -1000000000000 ≤ kC (tstr B n lm) i; omega, c.2⟩
  · split at h
    · split at h
      · rename_i c
        have := tok_num hB (lm := lm) c.1
        have c2 := c.2
        cases h
        left
        show -1000000000000 ≤ -(kC (tstr B n lm) (i + 1)) ∧ -(kC (tstr B n lm) (i + 1)) ≤ 1000000000000
        omega
      · cases h
    · split at h
      · rename_i c
        have := tok_word2 (B := B) (n := n) (lm := lm) c.1 c.2
        cases h
        right
        exact this
      · cases h
theorem pVix_in (V : List (Int × Nat)) (x : Int) : pVix V x = -1 ∨ (0 ≤ pVix V x ∧ pVix V x < V.length) := by
  unfold pVix
  cases h : V.findIdx? (fun y => decide (y.1 = x)) with
  | none => exact .inl rfl
  | some p =>
    obtain ⟨hp, _⟩ := List.findIdx?_eq_some_iff_getElem.mp h
    exact .inr ⟨by show (0 : Int) ≤ (p : Int); omega, by show (p : Int) < _; omega⟩
theorem pVar_ok {t : tStr} {V : List (Int × Nat)} {i : Nat} {r : Int × List (Int × Nat) × Nat} (h : pVar t V i = .inr r) : 0 ≤ r.1 ∧ r.1 < r.2.1.length := by
  unfold pVar at h
  split at h
  · cases h
  split at h
  · cases h
  split at h
  · split at h
    · cases h
    · cases h
      simp only [len1]
      omega
  · rename_i c
    cases h
    have := pVix_in V (kC t i)
    simp only
    omega
theorem pX_wf {t : tStr} (ht : tOk t) : ∀ (F m b : Nat) (e x : pEx) (h : Nat), m ≤ 4 → pX t F m b e = .inr x → wC e.1.length e.2.1 → wSt 0 e.2.1 = some h → (2 ≤ m → 1 ≤ h) → wC x.1.length x.2.1 ∧ wSt 0 x.2.1 = some (if m ≤ 1 then h + 1 else h) := by
  intro F
  induction F with
  | zero => intro m b e x h _ hp; cases hp
  | succ F ih =>
    intro m b e x h hm hp hw hs h1
    have put : ∀ {V : List (Int × Nat)} {Q : pCd} {k : Nat} {y : Int × Int}, wC V.length Q → wSt 0 Q = some k → wC1 V.length y → ∀ k', (if y.1 = 3 then (2 ≤ k ∧ k' = k - 1) else k' = k + 1) → wC V.length (Q ++ [y]) ∧ wSt 0 (Q ++ [y]) = some k' := by
      intro V Q k y a1 a2 a3 k' a4
      refine ⟨a1.ap a3, ?_⟩
      rw [wSt_ap, a2]
      show wSt k [y] = some k'
      unfold wSt
      split
      · rename_i c
        rw [if_pos c] at a4
        rw [if_pos a4.1, a4.2]
        rfl
      · rename_i c
        rw [if_neg c] at a4
        rw [a4]
        rfl
    match m, hm, hp, h1 with
    | 0, _, hp, _ =>
      rw [pX_0] at hp
      split at hp
      · obtain ⟨r, g1, g2⟩ := pbind_inr hp
        have a1 := pVar_le g1
        have a2 := pVar_ok g1
        cases g2
        exact put (hw.mo a1.2.1) hs (.inr (.inl ⟨rfl, a2⟩)) _ (by rw [if_neg (show ¬ (2 : Int) = 3 by decide)]; rfl)
      · split at hp
        · split at hp
          · cases hp
          · obtain ⟨r, g1, g2⟩ := pbind_inr hp
            obtain ⟨j, g3, g4⟩ := pbind_inr g2
            have a1 := ih 1 (b + 1) _ _ h (by omega) g1 hw hs (fun q => by omega)
            cases g4
            exact a1
        · obtain ⟨r, g1, g2⟩ := pbind_inr hp
          have a2 := ht _ _ g1
          cases g2
          exact put hw hs (.inl ⟨rfl, a2⟩) _ (by rw [if_neg (show ¬ (1 : Int) = 3 by decide)]; rfl)
    | 1, _, hp, _ =>
      rw [pX_1] at hp
      obtain ⟨r, g1, g2⟩ := pbind_inr hp
      have a1 := ih 0 b _ _ h (by omega) g1 hw hs (fun q => by omega)
      have a2 := ih 2 b _ _ (h + 1) (by omega) g2 a1.1 a1.2 (fun _ => by omega)
      exact a2
    | 2, _, hp, h1 =>
      rw [pX_2] at hp
      obtain ⟨r, g1, g2⟩ := pbind_inr hp
      have a1 := ih 3 b _ _ h (by omega) g1 hw hs (fun q => h1 (by omega))
      exact ih 4 b _ _ h (by omega) g2 a1.1 a1.2 (fun _ => h1 (by omega))
    | 3, _, hp, h1 =>
      rw [pX_3] at hp
      split at hp
      · rename_i c
        obtain ⟨r, g1, g2⟩ := pbind_inr hp
        have a1 := ih 0 b _ _ h (by omega) g1 hw hs (fun q => by omega)
        have a2 := put a1.1 a1.2 (y := (3, kK t e.2.2)) (.inr (.inr ⟨rfl, by unfold wSg; show kK t e.2.2 = 42 ∨ _; omega⟩)) h (by rw [if_pos rfl]; have := h1 (by omega); exact ⟨by show 2 ≤ h + 1; omega, rfl⟩)
        exact ih 3 b (r.1, r.2.1 ++ [(3, kK t e.2.2)], r.2.2) _ h (by omega) g2 a2.1 a2.2 (fun _ => h1 (by omega))
      · cases hp
        exact ⟨hw, hs⟩
    | 4, _, hp, h1 =>
      rw [pX_4] at hp
      split at hp
      · rename_i c
        obtain ⟨r, g1, g2⟩ := pbind_inr hp
        obtain ⟨s, g3, g4⟩ := pbind_inr g2
        have a1 := ih 0 b _ _ h (by omega) g1 hw hs (fun q => by omega)
        have a3 := ih 3 b _ _ (h + 1) (by omega) g3 a1.1 a1.2 (fun _ => by omega)
        have a2 := put a3.1 a3.2 (y := (3, kK t e.2.2)) (.inr (.inr ⟨rfl, by unfold wSg; show kK t e.2.2 = 42 ∨ _; omega⟩)) h (by rw [if_pos rfl]; have := h1 (by omega); exact ⟨by show 2 ≤ h + 1; omega, rfl⟩)
        exact ih 4 b (s.1, s.2.1 ++ [(3, kK t e.2.2)], s.2.2) _ h (by omega) g4 a2.1 a2.2 (fun _ => h1 (by omega))
      · cases hp
        exact ⟨hw, hs⟩
/-- an EXPRESSION's codes: of VARIABLES below nv, one value at the end -/
def wEx (nv : Nat) (Q : pCd) : Prop := wC nv Q ∧ wSt 0 Q = some 1
theorem pX_ex {t : tStr} (ht : tOk t) {F b i : Nat} {V : List (Int × Nat)} {x : pEx} (h : pX t F 1 b (V, [], i) = .inr x) : wEx x.1.length x.2.1 := pX_wf ht F 1 b _ x 0 (by decide) h (fun y hy => absurd hy (by simp)) rfl (fun q => by omega)
theorem wEx.mo {nv m : Nat} {Q : pCd} (h : wEx nv Q) (hm : nv ≤ m) : wEx m Q := ⟨h.1.mo hm, h.2⟩
end
section
/-! What is read is well made: LITERALS, rules, programs -/
def wT1 (nv : Nat) (x : Int × Int) : Prop := (x.1 = 1 ∧ 0 ≤ x.2 ∧ x.2 < nv) ∨ x.1 = 2 ∨ (x.1 = 3 ∧ vOk x.2)
/-- a LITERAL, of VARIABLES below nv and predicates below np (or, in a QUERY, -1) -/
def wLt (np nv : Nat) (l : pLt) : Prop := ((l.1 = 1 ∨ l.1 = 2) ∧ -1 ≤ l.2.1 ∧ l.2.1 < np ∧ 1 ≤ l.2.2.2.1.length ∧ l.2.2.2.1.length ≤ 4 ∧ ∀ x ∈ l.2.2.2.1, wT1 nv x) ∨ (l.1 = 3 ∧ isCs l.2.1 ∧ wEx nv l.2.2.2.2.1 ∧ wEx nv l.2.2.2.2.2)
theorem wT1.mo {nv m : Nat} {x : Int × Int} (h : wT1 nv x) (hm : nv ≤ m) : wT1 m x := by
  rcases h with a | a | a
  · exact .inl ⟨a.1, a.2.1, by omega⟩
  · exact .inr (.inl a)
  · exact .inr (.inr a)
theorem wLt.mo {np np' nv m : Nat} {l : pLt} (h : wLt np nv l) (hp : np ≤ np') (hm : nv ≤ m) : wLt np' m l := by
  rcases h with a | a
  · exact .inl ⟨a.1, a.2.1, by omega, a.2.2.2.1, a.2.2.2.2.1, fun x hx => (a.2.2.2.2.2 x hx).mo hm⟩
  · exact .inr ⟨a.1, a.2.1, a.2.2.1.mo hm, a.2.2.2.mo hm⟩
theorem pTerm_wf {t : tStr} (ht : tOk t) {V : List (Int × Nat)} {i : Nat} {y : (Int × Int) × List (Int × Nat) × Nat} (h : pTerm t V i = .inr y) : wT1 y.2.1.length y.1 := by
  unfold pTerm at h
  split at h
  · obtain ⟨a, h1, h2⟩ := pbind_inr h
    have := pVar_ok h1
    cases h2
    exact .inl ⟨rfl, this⟩
  · split at h
    · cases h
      exact .inr (.inl rfl)
    · obtain ⟨a, h1, h2⟩ := pbind_inr h
      have := ht _ _ h1
      cases h2
      exact .inr (.inr ⟨rfl, this⟩)
theorem pTerms_wf {t : tStr} (ht : tOk t) : ∀ {k : Nat} {T : pCd} {V : List (Int × Nat)} {i : Nat} {y : pCd × List (Int × Nat) × Nat}, pTerms t k T V i = .inr y → (∀ x ∈ T, wT1 V.length x) → ∀ x ∈ y.1, wT1 y.2.1.length x := by
  intro k
  induction k with
  | zero => intro T V i y h hT; cases h; exact hT
  | succ k ih =>
    intro T V i y h hT
    unfold pTerms at h
    split at h
    · obtain ⟨a, h1, h2⟩ := pbind_inr h
      have h3 := pTerm_le h1
      have h4 := pTerm_wf ht h1
      refine ih h2 (fun x hx => ?_)
      rcases List.mem_append.mp hx with b | b
      · exact (hT x b).mo h3.1
      · rw [List.mem_singleton.mp b]; exact h4
    · cases h; exact hT
/-- NAMES, LITERALS, mentions of a rule (or QUERY) as far as it is read -/
def wRs (tell : Bool) (s : pRs) : Prop := (∀ l ∈ s.2.2.1, wLt s.1.length s.2.1.length l) ∧ (tell = true → ∀ l ∈ s.2.2.1, l.1 ≠ 3 → 0 ≤ l.2.1) ∧ (∀ m ∈ s.2.2.2.1, -1 ≤ m.1 ∧ m.1 < s.1.length) ∧ (tell = true → ∀ m ∈ s.2.2.2.1, 0 ≤ m.1)
theorem wRs.add {tell : Bool} {s : pRs} {N : List Int} {V : List (Int × Nat)} {l : pLt} {i : Nat} {E : List pMn} (h : wRs tell s) (hN : s.1.length ≤ N.length) (hV : s.2.1.length ≤ V.length) (hl : wLt N.length V.length l) (hl0 : tell = true → l.1 ≠ 3 → 0 ≤ l.2.1) (hE : ∀ m ∈ E, (-1 ≤ m.1 ∧ m.1 < N.length) ∧ (tell = true → 0 ≤ m.1)) : wRs tell (N, V, s.2.2.1 ++ [l], s.2.2.2.1 ++ E, i) := by
  obtain ⟨a1, a2, a3, a4⟩ := h
  refine ⟨fun x hx => ?_, fun ht x hx h3 => ?_, fun m hm => ?_, fun ht m hm => ?_⟩
  · rcases List.mem_append.mp hx with b | b
    · exact (a1 x b).mo hN hV
    · rw [List.mem_singleton.mp b]; exact hl
  · rcases List.mem_append.mp hx with b | b
    · exact a2 ht x b h3
    · rw [List.mem_singleton.mp b] at h3 ⊢; exact hl0 ht h3
  · rcases List.mem_append.mp hm with b | b
    · have := a3 m b; exact ⟨this.1, by show m.1 < N.length; omega⟩
    · exact (hE m b).1
  · rcases List.mem_append.mp hm with b | b
    · exact a4 ht m b
    · exact (hE m b).2 ht
theorem pAtom_wf {t : tStr} (ht : tOk t) {tell : Bool} {k : Int} {s s' : pRs} (hk : k = 1 ∨ k = 2) (h : pAtom t tell k s = .inr s') (hs : wRs tell s) : wRs tell s' := by
  unfold pAtom at h
  obtain ⟨p, h1, h2⟩ := pbind_inr h
  obtain ⟨j, h3, h4⟩ := pbind_inr h2
  obtain ⟨y, h5, h6⟩ := pbind_inr h4
  obtain ⟨z, h7, h8⟩ := pbind_inr h6
  obtain ⟨u, h9, h10⟩ := pbind_inr h8
  have a2 := pTerm_le h5
  have a3 := pTerms_le h7
  have w2 := pTerm_wf ht h5
  have w3 := pTerms_wf ht h7 (fun x hx => by rw [List.mem_singleton.mp hx]; exact w2)
  have a0 : s.1.length ≤ p.2.1.length ∧ -1 ≤ p.1 ∧ p.1 < p.2.1.length ∧ (tell = true → 0 ≤ p.1) := by
    split at h1
    · have := pPred_le h1
      exact ⟨this.2.1, by omega, this.2.2.2.2, fun _ => this.2.2.2.1⟩
    · rename_i c
      obtain ⟨x, g1, g2⟩ := pbind_inr h1
      cases g2
      have := pIdx_in s.1 x.1
      exact ⟨Nat.le_refl _, by simp only; omega, by simp only; omega, fun h => absurd h c⟩
  cases h10
  simp only [List.length_singleton] at a3
  refine hs.add a0.1 (by omega) (.inl ⟨hk, a0.2.1, a0.2.2.1, by show 1 ≤ z.1.length; omega, by show z.1.length ≤ 4; omega, w3⟩) (fun ht _ => a0.2.2.2 ht) (fun m hm => ?_)
  rw [List.mem_singleton.mp hm]
  exact ⟨⟨a0.2.1, a0.2.2.1⟩, a0.2.2.2⟩
theorem pCmp_wf {t : tStr} (ht : tOk t) {tell : Bool} {F : Nat} {s s' : pRs} (h : pCmp t F s = .inr s') (hs : wRs tell s) : wRs tell s' := by
  unfold pCmp at h
  obtain ⟨a, h1, h2⟩ := pbind_inr h
  split at h2
  · rename_i c
    obtain ⟨b, h3, h4⟩ := pbind_inr h2
    have g1 := pX_le _ _ _ _ _ (by decide) h1
    have g2 := pX_le _ _ _ _ _ (by decide) h3
    have w1 := pX_ex ht h1
    have w2 := pX_ex ht h3
    simp only at g1 g2
    have := hs.add (N := s.1) (V := b.1) (l := (3, kK t a.2.2, kS t s.2.2.2.2, [], a.2.1, b.2.1)) (i := b.2.2) (E := []) (Nat.le_refl _) (by omega) (.inr ⟨rfl, c, w1.mo (by omega), w2⟩) (fun _ h => absurd rfl h) (fun m hm => absurd hm (by simp))
    rw [List.append_nil] at this
    cases h4
    exact this
  · cases h2
theorem pLit_wf {t : tStr} (ht : tOk t) {tell : Bool} {F : Nat} {s s' : pRs} (h : pLit t tell F s = .inr s') (hs : wRs tell s) : wRs tell s' := by
  unfold pLit at h
  split at h
  · cases h
  split at h
  · exact pAtom_wf ht (.inr rfl) h hs
  split at h
  · split at h
    · cases h
    split at h
    · split at h
      · cases h
      · exact pAtom_wf ht (.inl rfl) h hs
    split at h
    · cases h
    · exact pCmp_wf ht h hs
  · exact pCmp_wf ht h hs
theorem pLits_wf {t : tStr} (ht : tOk t) {tell : Bool} {F : Nat} : ∀ {k : Nat} {s s' : pRs}, pLits t tell F k s = .inr s' → wRs tell s → wRs tell s' := by
  intro k
  induction k with
  | zero => intro s s' h hs; cases h; exact hs
  | succ k ih =>
    intro s s' h hs
    unfold pLits at h
    split at h
    · obtain ⟨u, g1, g2⟩ := pbind_inr h
      exact ih g2 (pLit_wf ht g1 hs)
    · cases h; exact hs
/-- ITEMS -/
def wIt (s : pIt) : Prop := (s.2.1.1 = 0 ∧ s.2.1.2.1 = -1 ∧ s.2.1.2.2 = -1 ∨ (10 ≤ s.2.1.1 ∧ s.2.1.1 ≤ 13) ∧ 0 ≤ s.2.1.2.1 ∧ s.2.1.2.1 < s.2.2.1.length ∧ (s.2.1.1 = 10 ∧ s.2.1.2.2 = -1 ∨ s.2.1.1 ≠ 10 ∧ 0 ≤ s.2.1.2.2 ∧ s.2.1.2.2 < s.1.length)) ∧ ∀ k, k < s.2.2.1.length → ((k : Int) = s.2.1.2.1 ∧ s.2.2.1.getD k [] = [] ∨ (k : Int) ≠ s.2.1.2.1 ∧ wEx s.1.length (s.2.2.1.getD k []))
theorem pItem_wf {t : tStr} (ht : tOk t) {F : Nat} {s s' : pIt} (h : pItem t F s = .inr s') (hs : wIt s) : wIt s' := by
  obtain ⟨a1, a2⟩ := hs
  have hne : s.2.1.2.1 < s.2.2.1.length := by omega
  unfold pItem at h
  split at h
  · rename_i hK
    split at h
    · cases h
    · rename_i c0
      replace c0 : s.2.1.1 = 0 := Classical.not_not.mp c0
      obtain ⟨j, h1, h2⟩ := pbind_inr h
      split at h2
      · obtain ⟨j2, h3, h4⟩ := pbind_inr h2
        cases h4
        refine ⟨.inr ⟨by simp only; omega, by simp only; omega, by simp only [len1]; omega, .inl ⟨rfl, rfl⟩⟩, fun k hk => ?_⟩
        simp only [len1] at hk ⊢
        rw [getD_1]
        by_cases c : k = s.2.2.1.length
        · rw [if_pos c]
          exact .inl ⟨by omega, rfl⟩
        · rw [if_neg c]
          have := a2 k (by omega)
          right
          refine ⟨by omega, ?_⟩
          rcases this with q | q
          · omega
          · exact q.2
      · rename_i c10
        obtain ⟨x, h3, h4⟩ := pbind_inr h2
        obtain ⟨j2, h5, h6⟩ := pbind_inr h4
        have g1 := pVar_le h3
        have g2 := pVar_ok h3
        cases h6
        refine ⟨.inr ⟨hK, by simp only; omega, by simp only [len1]; omega, .inr ⟨c10, g2⟩⟩, fun k hk => ?_⟩
        simp only [len1] at hk ⊢
        rw [getD_1]
        by_cases c : k = s.2.2.1.length
        · rw [if_pos c]
          exact .inl ⟨by omega, rfl⟩
        · rw [if_neg c]
          have := a2 k (by omega)
          right
          refine ⟨by omega, ?_⟩
          rcases this with q | q
          · omega
          · exact q.2.mo g1.2.1
  · obtain ⟨e, h1, h2⟩ := pbind_inr h
    have g1 := pX_le _ _ _ _ _ (by decide) h1
    have w1 := pX_ex ht h1
    simp only at g1
    cases h2
    refine ⟨?_, fun k hk => ?_⟩
    · simp only [len1]
      rcases a1 with q | q
      · exact .inl q
      · refine .inr ⟨q.1, q.2.1, by omega, ?_⟩
        rcases q.2.2.2 with z | z
        · exact .inl z
        · exact .inr ⟨z.1, z.2.1, by omega⟩
    · simp only [len1] at hk ⊢
      rw [getD_1]
      by_cases c : k = s.2.2.1.length
      · rw [if_pos c]
        exact .inr ⟨by omega, w1⟩
      · rw [if_neg c]
        rcases a2 k (by omega) with q | q
        · exact .inl q
        · exact .inr ⟨q.1, q.2.mo (by omega)⟩
end
section
/-! What is read is well made: programs -/
def wRu (np : Nat) (u : pRu) : Prop := 0 ≤ u.1 ∧ u.1 < np ∧ 1 ≤ u.2.2.2.1.length ∧ u.2.2.2.1.length ≤ 4 ∧ wIt (u.2.2.2.2.1, u.2.2.1, u.2.2.2.1, 0) ∧ u.2.2.2.2.1.length ≤ 8 ∧ u.2.2.2.2.2.length ≤ 8 ∧ pAtoms u.2.2.2.2.2 ≤ 3 ∧ ∀ l ∈ u.2.2.2.2.2, wLt np u.2.2.2.2.1.length l ∧ (l.1 ≠ 3 → 0 ≤ l.2.1)
def wMn (np : Nat) (m : pMn) : Prop := 0 ≤ m.1 ∧ m.1 < np ∧ (m.2.2.2 = 2 ∧ m.2.2.1 = -1 ∨ (m.2.2.2 = 1 ∨ m.2.2.2 = 3 ∨ m.2.2.2 = 4) ∧ 1 ≤ m.2.2.1 ∧ m.2.2.1 ≤ 4)
def wPg (s : pPg) : Prop := s.1.length ≤ 16 ∧ s.1.Nodup ∧ (∀ x ∈ s.2.1, 0 ≤ x.1 ∧ x.1 < s.1.length ∧ 1 ≤ x.2.1 ∧ x.2.1 ≤ 4 ∧ 0 ≤ x.2.2 ∧ x.2.2 < x.2.1) ∧ (∀ x ∈ s.2.2.1, 0 ≤ x ∧ x < s.1.length) ∧ (∀ m ∈ s.2.2.2.1, wMn s.1.length m) ∧ s.2.2.2.2.1.length ≤ 24 ∧ (∀ u ∈ s.2.2.2.2.1, wRu s.1.length u)
theorem wRu.mo {np m : Nat} {u : pRu} (h : wRu np u) (hm : np ≤ m) : wRu m u := by
  obtain ⟨a1, a2, a3, a4, a5, a6, a7, a8, a9⟩ := h
  exact ⟨a1, by omega, a3, a4, a5, a6, a7, a8, fun l hl => ⟨(a9 l hl).1.mo hm (Nat.le_refl _), (a9 l hl).2⟩⟩
theorem wMn.mo {np m : Nat} {u : pMn} (h : wMn np u) (hm : np ≤ m) : wMn m u := ⟨h.1, by have := h.2.1; omega, h.2.2⟩
theorem pIdx_mem {N : List Int} {x : Int} (h : pIdx N x = -1) : x ∉ N := by
  intro hx
  unfold pIdx at h
  cases hf : N.findIdx? (fun y => decide (y = x)) with
  | none =>
    have := List.findIdx?_eq_none_iff.mp hf x hx
    simp at this
  | some p =>
    rw [hf] at h
    have h' : (p : Int) = -1 := h
    omega
theorem nodup_1 {N : List Int} {x : Int} (h : N.Nodup) (hx : x ∉ N) : (N ++ [x]).Nodup := by
  rw [List.nodup_append]
  refine ⟨h, by simp, fun a ha b hb => ?_⟩
  rw [List.mem_singleton.mp hb]
  intro e
  exact hx (e ▸ ha)
theorem pPred_wf {t : tStr} {N : List Int} {i : Nat} {p : Int × List Int × Nat} (h : pPred t N i = .inr p) (h1 : N.length ≤ 16) (h2 : N.Nodup) : p.2.1.length ≤ 16 ∧ p.2.1.Nodup := by
  unfold pPred at h
  obtain ⟨a, g1, g2⟩ := pbind_inr h
  split at g2
  · rename_i c
    split at g2
    · cases g2
    · cases g2
      exact ⟨by simp only [len1]; omega, nodup_1 h2 (pIdx_mem c)⟩
  · cases g2
    exact ⟨h1, h2⟩
/-- bounds of a rule that is read -/
def wRb (s : pRs) : Prop := s.1.length ≤ 16 ∧ s.1.Nodup ∧ s.2.1.length ≤ 8 ∧ s.2.2.1.length ≤ 8 ∧ pAtoms s.2.2.1 ≤ 3 ∧ ∀ m ∈ s.2.2.2.1, (m.2.2.2 = 2 ∧ m.2.2.1 = -1 ∨ (m.2.2.2 = 1 ∨ m.2.2.2 = 3 ∨ m.2.2.2 = 4) ∧ 1 ≤ m.2.2.1 ∧ m.2.2.1 ≤ 4)
theorem pAtom_b {t : tStr} {k : Int} {s s' : pRs} (h : pAtom t true k s = .inr s') (hs : wRb s) (h8 : s.2.2.1.length < 8) (h3 : k = 1 → pAtoms s.2.2.1 < 3) : wRb s' := by
  obtain ⟨b1, b2, b3, b4, b5, b6⟩ := hs
  unfold pAtom at h
  obtain ⟨p, h1, h2⟩ := pbind_inr h
  obtain ⟨j, _, h4⟩ := pbind_inr h2
  obtain ⟨y, h5, h6⟩ := pbind_inr h4
  obtain ⟨z, h7, h8'⟩ := pbind_inr h6
  obtain ⟨u, _, h10⟩ := pbind_inr h8'
  have a2 := pTerm_le h5
  have a3 := pTerms_le h7
  rw [if_pos rfl] at h1
  have a0 := pPred_wf h1 b1 b2
  cases h10
  simp only [List.length_singleton] at a3
  refine ⟨a0.1, a0.2, a3.2.1 (a2.2.1 b3), by simp only [len1]; omega, ?_, fun m hm => ?_⟩
  · simp only [pAtoms_1]
    split
    · rename_i c
      have := h3 c
      omega
    · omega
  · rcases List.mem_append.mp hm with b | b
    · exact b6 m b
    · rw [List.mem_singleton.mp b]
      exact .inr ⟨.inr (.inr rfl), by show (1 : Int) ≤ (z.1.length : Int); omega, by show (z.1.length : Int) ≤ 4; omega⟩
theorem pCmp_b {t : tStr} {F : Nat} {s s' : pRs} (h : pCmp t F s = .inr s') (hs : wRb s) (h8 : s.2.2.1.length < 8) : wRb s' := by
  obtain ⟨b1, b2, b3, b4, b5, b6⟩ := hs
  unfold pCmp at h
  obtain ⟨a, h1, h2⟩ := pbind_inr h
  split at h2
  · obtain ⟨b, h3, h4⟩ := pbind_inr h2
    have g1 := pX_le _ _ _ _ _ (by decide) h1
    have g2 := pX_le _ _ _ _ _ (by decide) h3
    simp only at g1 g2
    cases h4
    refine ⟨b1, b2, g2.2.2.2.2.2 (g1.2.2.2.2.2 b3), by simp only [len1]; omega, ?_, b6⟩
    simp only [pAtoms_1]
    rw [if_neg (by decide)]
    exact b5
  · cases h2
theorem pLit_b {t : tStr} {F : Nat} {s s' : pRs} (h : pLit t true F s = .inr s') (hs : wRb s) : wRb s' := by
  have h8 := hs.2.2.2.1
  have h3 := hs.2.2.2.2.1
  unfold pLit at h
  split at h
  · cases h
  split at h
  · exact pAtom_b h hs (by simp only; omega) (fun q => absurd q (by decide))
  split at h
  · split at h
    · cases h
    split at h
    · split at h
      · cases h
      · exact pAtom_b h hs (by omega) (fun _ => by omega)
    split at h
    · cases h
    · exact pCmp_b h hs (by omega)
  · exact pCmp_b h hs (by omega)
theorem pLits_b {t : tStr} {F : Nat} : ∀ {k : Nat} {s s' : pRs}, pLits t true F k s = .inr s' → wRb s → wRb s' := by
  intro k
  induction k with
  | zero => intro s s' h hs; cases h; exact hs
  | succ k ih =>
    intro s s' h hs
    unfold pLits at h
    split at h
    · obtain ⟨u, g1, g2⟩ := pbind_inr h
      exact ih g2 (pLit_b g1 hs)
    · cases h; exact hs
theorem pItem_b {t : tStr} {F : Nat} {s s' : pIt} (h : pItem t F s = .inr s') (hs : s.1.length ≤ 8) : s'.1.length ≤ 8 := by
  unfold pItem at h
  split at h
  · split at h
    · cases h
    · obtain ⟨j, h1, h2⟩ := pbind_inr h
      split at h2
      · obtain ⟨j2, h3, h4⟩ := pbind_inr h2
        cases h4
        exact hs
      · obtain ⟨x, h3, h4⟩ := pbind_inr h2
        obtain ⟨j2, h5, h6⟩ := pbind_inr h4
        have g1 := pVar_le h3
        cases h6
        exact g1.2.2 hs
  · obtain ⟨e, h1, h2⟩ := pbind_inr h
    have g1 := pX_le _ _ _ _ _ (by decide) h1
    cases h2
    exact g1.2.2.2.2.2 hs
theorem pItems_b {t : tStr} (ht : tOk t) {F : Nat} : ∀ {k : Nat} {s s' : pIt}, pItems t F k s = .inr s' → s.1.length ≤ 8 → wIt s → s'.1.length ≤ 8 ∧ wIt s' ∧ s.2.2.1.length ≤ s'.2.2.1.length ∧ s'.2.2.1.length ≤ s.2.2.1.length + k := by
  intro k
  induction k with
  | zero => intro s s' h h1 h2; cases h; exact ⟨h1, h2, Nat.le_refl _, Nat.le_refl _⟩
  | succ k ih =>
    intro s s' h h1 h2
    unfold pItems at h
    split at h
    · obtain ⟨u, g1, g2⟩ := pbind_inr h
      have a1 := pItem_le g1
      have a2 := ih g2 (pItem_b g1 h1) (pItem_wf ht g1 h2)
      simp only at a1
      exact ⟨a2.1, a2.2.1, by omega, by omega⟩
    · cases h; exact ⟨h1, h2, Nat.le_refl _, by omega⟩
theorem pRule_wf {t : tStr} (ht : tOk t) {F : Nat} {s s' : pPg} (h : pRule t F s = .inr s') (hs : wPg s) : wPg s' := by
  obtain ⟨b1, b2, b3, b4, b5, b6, b7⟩ := hs
  have e : s = (s.1, s.2.1, s.2.2.1, s.2.2.2.1, s.2.2.2.2.1, s.2.2.2.2.2) := rfl
  rw [e, pRule_e] at h
  split at h
  · cases h
  · rename_i c24
    obtain ⟨p, h1, h⟩ := pbind_inr h
    obtain ⟨z, h2, h⟩ := pbind_inr h
    obtain ⟨j, h3, h2⟩ := pbind_inr h2
    obtain ⟨a, h4, h2⟩ := pbind_inr h2
    unfold pRest pBody at h2
    obtain ⟨b, h5, h2⟩ := pbind_inr h2
    obtain ⟨j3, h6, h2⟩ := pbind_inr h2
    obtain ⟨z2, h7, h2⟩ := pbind_inr h2
    obtain ⟨l, h8, h7⟩ := pbind_inr h7
    obtain ⟨j4, h9, h7⟩ := pbind_inr h7
    have a1 := pPred_le h1
    have a1' := pPred_wf h1 b1 b2
    have w0 : wIt ([], (0, -1, -1), [], j) := ⟨.inl ⟨rfl, rfl, rfl⟩, fun k hk => absurd hk (by simp)⟩
    have a4 := pItem_le h4
    have w4 := pItem_wf ht h4 w0
    have v4 := pItem_b h4 (by show 0 ≤ 8; omega)
    have a5 := pItems_b ht h5 v4 w4
    simp only [List.length_nil] at a4
    have hMb : ∀ m ∈ s.2.2.2.1 ++ [(p.1, kS t s.2.2.2.2.2, (b.2.2.1.length : Int), (3 : Int))], wMn p.2.1.length m := by
      intro m hm
      rcases List.mem_append.mp hm with q | q
      · exact (b5 m q).mo a1.2.1
      · rw [List.mem_singleton.mp q]
        exact ⟨a1.2.2.2.1, a1.2.2.2.2, .inr ⟨.inr (.inl rfl), by show (1 : Int) ≤ (b.2.2.1.length : Int); omega, by show (b.2.2.1.length : Int) ≤ 4; omega⟩⟩
    have key : wRs true l ∧ wRb l ∧ p.2.1.length ≤ l.1.length ∧ b.1.length ≤ l.2.1.length := by
      have s0 : wRs true (p.2.1, b.1, [], s.2.2.2.1 ++ [(p.1, kS t s.2.2.2.2.2, (b.2.2.1.length : Int), (3 : Int))], j3) := ⟨fun x hx => absurd hx (by simp), fun _ x hx => absurd hx (by simp), fun m hm => ⟨by have := (hMb m hm).1; omega, (hMb m hm).2.1⟩, fun _ m hm => (hMb m hm).1⟩
      have r0 : wRb (p.2.1, b.1, [], s.2.2.2.1 ++ [(p.1, kS t s.2.2.2.2.2, (b.2.2.1.length : Int), (3 : Int))], j3) := ⟨a1'.1, a1'.2, a5.1, by simp, by simp [pAtoms], fun m hm => (hMb m hm).2.2⟩
      split at h8
      · obtain ⟨u, g1, g2⟩ := pbind_inr h8
        have q1 := pLit_wf ht g1 s0
        have q2 := pLit_b g1 r0
        have q3 := pLit_le g1
        have mono : ∀ (k : Nat) (x y : pRs), pLits t true F k x = .inr y → x.1.length ≤ y.1.length ∧ x.2.1.length ≤ y.2.1.length := by
          intro k
          induction k with
          | zero => intro x y hh; cases hh; exact ⟨Nat.le_refl _, Nat.le_refl _⟩
          | succ k ih =>
            intro x y hh
            unfold pLits at hh
            split at hh
            · obtain ⟨u, g1, g2⟩ := pbind_inr hh
              have k1 := pLit_le g1
              have k2 := ih _ _ g2
              simp only at k1
              omega
            · cases hh; exact ⟨Nat.le_refl _, Nat.le_refl _⟩
        have q4 := mono _ _ _ g2
        simp only at q3
        exact ⟨pLits_wf ht g2 q1, pLits_b g2 q2, by omega, by omega⟩
      · cases h8
        exact ⟨s0, r0, Nat.le_refl _, Nat.le_refl _⟩
    obtain ⟨k1, k2, k3, k4⟩ := key
    cases h7
    cases h2
    cases h
    refine ⟨k2.1, k2.2.1, fun x hx => ?_, fun x hx => ?_, fun m hm => ?_, by simp only [len1]; omega, fun u hu => ?_⟩
    · have := b3 x hx
      exact ⟨this.1, by show x.1 < (l.1.length : Int); omega, this.2.2⟩
    · have := b4 x hx
      exact ⟨this.1, by show x < (l.1.length : Int); omega⟩
    · exact ⟨k1.2.2.2 rfl m hm, (k1.2.2.1 m hm).2, k2.2.2.2.2.2 m hm⟩
    · rcases List.mem_append.mp hu with q | q
      · exact (b7 u q).mo (by show s.1.length ≤ l.1.length; omega)
      · rw [List.mem_singleton.mp q]
        refine ⟨a1.2.2.2.1, by show p.1 < (l.1.length : Int); omega, by show 1 ≤ b.2.2.1.length; omega, by show b.2.2.1.length ≤ 4; omega, ?_, k2.2.2.1, k2.2.2.2.1, k2.2.2.2.2.1, fun y hy => ⟨k1.1 y hy, k1.2.1 rfl y hy⟩⟩
        obtain ⟨w1, w2⟩ := a5.2.1
        refine ⟨?_, fun k hk => ?_⟩
        · rcases w1 with q | q
          · exact .inl q
          · refine .inr ⟨q.1, q.2.1, q.2.2.1, ?_⟩
            rcases q.2.2.2 with z | z
            · exact .inl z
            · exact .inr ⟨z.1, z.2.1, by show b.2.1.2.2 < (l.2.1.length : Int); omega⟩
        · rcases w2 k hk with q | q
          · exact .inl q
          · exact .inr ⟨q.1, q.2.mo k4⟩
theorem pInput_wf {t : tStr} {s s' : pPg} (h : pInput t s = .inr s') (hs : wPg s) : wPg s' := by
  obtain ⟨b1, b2, b3, b4, b5, b6, b7⟩ := hs
  unfold pInput at h
  obtain ⟨p, h1, h⟩ := pbind_inr h
  obtain ⟨j, h2, h⟩ := pbind_inr h
  obtain ⟨m, h3, h⟩ := pbind_inr h
  obtain ⟨k, h4, h⟩ := pbind_inr h
  obtain ⟨j2, h5, h⟩ := pbind_inr h
  have a1 := pPred_le h1
  have a1' := pPred_wf h1 b1 b2
  have a3 : 1 ≤ m.1 ∧ m.1 ≤ 4 := by
    unfold pNum at h3
    split at h3
    · rename_i c
      cases h3; exact c.2
    · cases h3
  have a4 : 0 ≤ k.1 ∧ k.1 < m.1 := by
    split at h4
    · unfold pNum at h4
      split at h4
      · rename_i c
        cases h4
        show 0 ≤ kC t (m.2 + 1) ∧ kC t (m.2 + 1) < m.1
        omega
      · cases h4
    · cases h4
      show (0 : Int) ≤ 0 ∧ (0 : Int) < m.1
      omega
  cases h
  refine ⟨a1'.1, a1'.2, fun x hx => ?_, fun x hx => ?_, fun y hy => ?_, b6, fun u hu => (b7 u hu).mo a1.2.1⟩
  · rcases List.mem_append.mp hx with q | q
    · have := b3 x q
      exact ⟨this.1, by show x.1 < (p.2.1.length : Int); omega, this.2.2⟩
    · rw [List.mem_singleton.mp q]
      exact ⟨a1.2.2.2.1, a1.2.2.2.2, a3.1, a3.2, a4⟩
  · have := b4 x hx
    exact ⟨this.1, by show x < (p.2.1.length : Int); omega⟩
  · rcases List.mem_append.mp hy with q | q
    · exact (b5 y q).mo a1.2.1
    · rw [List.mem_singleton.mp q]
      exact ⟨a1.2.2.2.1, a1.2.2.2.2, .inr ⟨.inl rfl, a3⟩⟩
theorem pOutput_wf {t : tStr} {s s' : pPg} (h : pOutput t s = .inr s') (hs : wPg s) : wPg s' := by
  obtain ⟨b1, b2, b3, b4, b5, b6, b7⟩ := hs
  unfold pOutput at h
  obtain ⟨p, h1, h⟩ := pbind_inr h
  obtain ⟨j, h2, h⟩ := pbind_inr h
  have a1 := pPred_le h1
  have a1' := pPred_wf h1 b1 b2
  cases h
  refine ⟨a1'.1, a1'.2, fun x hx => ?_, fun x hx => ?_, fun y hy => ?_, b6, fun u hu => (b7 u hu).mo a1.2.1⟩
  · have := b3 x hx
    exact ⟨this.1, by show x.1 < (p.2.1.length : Int); omega, this.2.2⟩
  · rcases List.mem_append.mp hx with q | q
    · have := b4 x q
      exact ⟨this.1, by show x < (p.2.1.length : Int); omega⟩
    · rw [List.mem_singleton.mp q]
      exact ⟨a1.2.2.2.1, a1.2.2.2.2⟩
  · rcases List.mem_append.mp hy with q | q
    · exact (b5 y q).mo a1.2.1
    · rw [List.mem_singleton.mp q]
      exact ⟨a1.2.2.2.1, a1.2.2.2.2, .inl ⟨rfl, rfl⟩⟩
theorem pProg_wf {t : tStr} (ht : tOk t) {F : Nat} : ∀ {k : Nat} {s s' : pPg}, pProg t F k s = .inr s' → wPg s → wPg s' := by
  intro k
  induction k with
  | zero => intro s s' h; cases h
  | succ k ih =>
    intro s s' h hs
    unfold pProg at h
    split at h
    · cases h; exact hs
    · obtain ⟨u, g1, g2⟩ := pbind_inr h
      refine ih g2 ?_
      split at g1
      · exact pInput_wf g1 hs
      · split at g1
        · exact pOutput_wf g1 hs
        · exact pRule_wf ht g1 hs
theorem wPg_0 : wPg ([], [], [], [], [], 0) := ⟨by decide, by simp, by simp, by simp, by simp, by decide, by simp⟩
end
section
/-! Mentions: a text of 3000 bytes has fewer than 420 -/
section
variable {B : Nat → Int} {n : Nat} {lm : Bool}
theorem kS_1 (hB : tTx B n) (i : Nat) : kS (tstr B n lm) i ≤ kE (tstr B n lm) i ∧ kE (tstr B n lm) i ≤ kS (tstr B n lm) (i + 1) ∧ kS (tstr B n lm) i ≤ n ∧ (kK (tstr B n lm) i ≠ 0 → kS (tstr B n lm) i + 1 ≤ kS (tstr B n lm) (i + 1)) := by
  have hS := tS_le hB i
  have hen := ten_le hB hS.1
  have hsk := tsk_le hB _ (ten B n (tS B n i)) false rfl hen.2.1
  have e1 : kS (tstr B n lm) i = tS B n i := rfl
  have e2 : kE (tstr B n lm) i = ten B n (tS B n i) := rfl
  have e3 : kS (tstr B n lm) (i + 1) = tsk B n false (ten B n (tS B n i)) := rfl
  rw [e1, e2, e3]
  refine ⟨hen.1, hsk.1, hS.1, fun h => ?_⟩
  have : 0 ≤ B (tS B n i) := by
    by_cases c : B (tS B n i) < 0
    · exfalso
      apply h
      show (if 0 ≤ B (tS B n i) ∧ lm = true ∧ 62 ≤ i then 5 else tkd B n (tS B n i)) = 0
      rw [if_neg (by omega)]
      exact if_pos c
    · omega
  have := hen.2.2 this
  omega
theorem kK_end (hB : tTx B n) {i : Nat} (h : kK (tstr B n lm) i = 0) : kK (tstr B n lm) (i + 1) = 0 := by
  have hS := tS_le hB i
  have k := kK_inv h (by decide)
  have hb : B (tS B n i) < 0 := by
    have k3 := tsgn_in (B (tS B n i)) (B (tS B n i + 1))
    unfold isSg at k3
    have k4 := tres_in (tncode B (tS B n i) (tnend B n (tS B n i)))
    unfold tkd at k
    by_cases c1 : B (tS B n i) < 0
    · exact c1
    rw [if_neg c1] at k
    by_cases c2 : tSm (B (tS B n i))
    · rw [if_pos c2] at k; omega
    rw [if_neg c2] at k
    by_cases c3 : tGr (B (tS B n i))
    · rw [if_pos c3] at k; omega
    rw [if_neg c3] at k
    by_cases c4 : tDi (B (tS B n i))
    · rw [if_pos c4] at k; omega
    rw [if_neg c4] at k; omega
  have e1 : ten B n (tS B n i) = tS B n i := if_pos hb
  have e2 : tS B n (i + 1) = tS B n i := by
    show tsk B n false (ten B n (tS B n i)) = _
    rw [e1, tsk_eq hB _ hS.1, if_pos hb]
  show (if 0 ≤ B (tS B n (i + 1)) ∧ lm = true ∧ 62 ≤ i + 1 then 5 else tkd B n (tS B n (i + 1))) = 0
  rw [e2, if_neg (by omega)]
  exact if_pos hb
theorem kS_add (hB : tTx B n) (i : Nat) : ∀ k, kK (tstr B n lm) (i + k) ≠ 0 → kS (tstr B n lm) i + (k + 1) ≤ kS (tstr B n lm) (i + k + 1) := by
  intro k
  induction k with
  | zero => intro h; have := (kS_1 (lm := lm) hB i).2.2.2 h; omega
  | succ k ih =>
    intro h
    have h0 : kK (tstr B n lm) (i + k) ≠ 0 := fun q => h (kK_end hB q)
    have h1 := ih h0
    have h2 := (kS_1 (lm := lm) hB (i + k + 1)).2.2.2 h
    have : i + (k + 1) + 1 = i + k + 1 + 1 := by omega
    rw [this]
    omega
theorem kS_to (hB : tTx B n) {i j : Nat} (hij : i < j) (h : kK (tstr B n lm) (j - 1) ≠ 0) : kS (tstr B n lm) i + (j - i) ≤ kS (tstr B n lm) j := by
  have h1 := kS_add (lm := lm) hB i (j - i - 1) (by rw [show i + (j - i - 1) = j - 1 by omega]; exact h)
  rw [show i + (j - i - 1) + 1 = j by omega] at h1
  omega
theorem kS_mo (hB : tTx B n) {i j : Nat} (hij : i ≤ j) : kS (tstr B n lm) i ≤ kS (tstr B n lm) j := by
  obtain ⟨k, rfl⟩ : ∃ k, j = i + k := ⟨j - i, by omega⟩
  clear hij
  induction k with
  | zero => exact Nat.le_refl _
  | succ k ih =>
    have := kS_1 (lm := lm) hB (i + k)
    have e : i + (k + 1) = i + k + 1 := by omega
    rw [e]
    omega
/-- a word with a meaning, and a NAME behind it -/
theorem kS_wd (hB : tTx B n) {i : Nat} (hK : 6 ≤ kK (tstr B n lm) i ∧ kK (tstr B n lm) i ≤ 13) (h1 : kK (tstr B n lm) (i + 1) = 1) : (kK (tstr B n lm) i = 6 → kS (tstr B n lm) i + 6 ≤ kS (tstr B n lm) (i + 1)) ∧ (kK (tstr B n lm) i = 7 → kS (tstr B n lm) i + 7 ≤ kS (tstr B n lm) (i + 1)) ∧ (kK (tstr B n lm) i = 9 → kS (tstr B n lm) i + 4 ≤ kS (tstr B n lm) (i + 1)) := by
  have hS := tS_le hB i
  have hkd := kK_inv (lm := lm) (i := i) (B := B) (n := n) rfl (by omega)
  have hsm : tSm (B (tS B n i)) ∧ ¬ B (tS B n i) < 0 := by
    have k3 := tsgn_in (B (tS B n i)) (B (tS B n i + 1))
    unfold isSg at k3
    unfold tkd at hkd
    by_cases c1 : B (tS B n i) < 0
    · rw [if_pos c1] at hkd; omega
    rw [if_neg c1] at hkd
    by_cases c2 : tSm (B (tS B n i))
    · exact ⟨c2, c1⟩
    rw [if_neg c2] at hkd
    by_cases c3 : tGr (B (tS B n i))
    · rw [if_pos c3] at hkd; omega
    rw [if_neg c3] at hkd
    by_cases c4 : tDi (B (tS B n i))
    · rw [if_pos c4] at hkd; omega
    rw [if_neg c4] at hkd; omega
  have eE : kE (tstr B n lm) i = tnend B n (tS B n i) := by show ten B n (tS B n i) = _; unfold ten; rw [if_neg hsm.2, if_pos hsm.1]
  have eS : kS (tstr B n lm) i = tS B n i := rfl
  have hr := trun_is (P := tNm) hB (by decide) (n - tS B n i) (tS B n i) (Nat.le_refl _) hS.1
  have hr1 : tS B n i ≤ tnend B n (tS B n i) := hr.1
  have hrun : ∀ j, tS B n i ≤ j → j < tnend B n (tS B n i) → tNm (B j) := hr.2.2.1
  have hend : ¬ tNm (B (tnend B n (tS B n i))) := hr.2.2.2
  have hgap : kE (tstr B n lm) i + 1 ≤ kS (tstr B n lm) (i + 1) := by
    have h2 := (kS_1 (lm := lm) hB i).2.1
    have hne : kE (tstr B n lm) i ≠ kS (tstr B n lm) (i + 1) := by
      intro e
      obtain ⟨_, c2⟩ := tkd_inv.2 (kK_inv h1 (by decide))
      have e2 : kS (tstr B n lm) (i + 1) = tS B n (i + 1) := rfl
      rw [← e2, ← e, eE] at c2
      exact hend (.inl c2)
    omega
  have hcode : kK (tstr B n lm) i = tres (tncode B (tS B n i) (tnend B n (tS B n i))) := by
    rw [← hkd]
    unfold tkd
    rw [if_neg hsm.2, if_pos hsm.1]
  have hlen : ∀ k, k ≤ 11 → tnend B n (tS B n i) - tS B n i ≤ k → tncode B (tS B n i) (tnend B n (tS B n i)) < 38 ^ k := by
    intro k hk hl
    have h3 := tenc_in (b := 38) (d := xdig) (B := B) (s := tS B n i) (by decide) (min (tnend B n (tS B n i) - tS B n i) 12) (fun j hj => tNm_dig (hrun _ (by omega) (by omega)))
    have h4 : (38 : Int) ^ (min (tnend B n (tS B n i) - tS B n i) 12) ≤ 38 ^ k := by
      have : (38 : Nat) ^ (min (tnend B n (tS B n i) - tS B n i) 12) ≤ 38 ^ k := Nat.pow_le_pow_right (by decide) (by omega)
      exact_mod_cast this
    exact Int.lt_of_lt_of_le h3.2 h4
  have hin := @tres_inv (tncode B (tS B n i) (tnend B n (tS B n i)))
  rw [← hcode] at hin
  have e4 : (38 : Int) ^ 4 = 2085136 := by decide
  have e5 : (38 : Int) ^ 5 = 79235168 := by decide
  have e2 : (38 : Int) ^ 2 = 1444 := by decide
  refine ⟨fun h => ?_, fun h => ?_, fun h => ?_⟩
  · have := hin.1 h
    by_cases c : tnend B n (tS B n i) - tS B n i ≤ 4
    · have := hlen 4 (by omega) c
      omega
    · omega
  · have := hin.2.1 h
    by_cases c : tnend B n (tS B n i) - tS B n i ≤ 5
    · have := hlen 5 (by omega) c
      omega
    · omega
  · have := hin.2.2.2.1 h
    by_cases c : tnend B n (tS B n i) - tS B n i ≤ 2
    · have := hlen 2 (by omega) c
      omega
    · omega
end
end
section
/-! Mentions: how many a text can have -/
theorem pAtom_pos {t : tStr} {tell : Bool} {k : Int} {s s' : pRs} (h : pAtom t tell k s = .inr s') : s.2.2.2.2 + 4 ≤ s'.2.2.2.2 ∧ kK t (s'.2.2.2.2 - 1) = 41 ∧ s'.2.2.2.1.length = s.2.2.2.1.length + 1 ∧ pAtoms s'.2.2.1 = pAtoms s.2.2.1 + (if k = 1 then 1 else 0) ∧ kK t s.2.2.2.2 = 1 := by
  unfold pAtom at h
  obtain ⟨p, h1, h2⟩ := pbind_inr h
  obtain ⟨j, h3, h4⟩ := pbind_inr h2
  obtain ⟨y, h5, h6⟩ := pbind_inr h4
  obtain ⟨z, h7, h8⟩ := pbind_inr h6
  obtain ⟨u, h9, h10⟩ := pbind_inr h8
  have a1 := pNeed_le h3
  have a2 := pTerm_le h5
  have a3 := pTerms_le h7
  have a4 := pNeed_le h9
  have a0 : p.2.2 = s.2.2.2.2 + 1 ∧ kK t s.2.2.2.2 = 1 := by
    split at h1
    · have := pPred_le h1
      exact ⟨this.1, this.2.2.1⟩
    · obtain ⟨x, g1, g2⟩ := pbind_inr h1
      have := pName_le g1
      cases g2
      exact ⟨this.1, this.2.1⟩
  cases h10
  simp only [len1, pAtoms_1, true_and]
  refine ⟨by omega, ?_, a0.2⟩
  rw [a4.1, Nat.add_sub_cancel]
  exact a4.2
section
variable {B : Nat → Int} {n F X : Nat} {lm tell : Bool}
theorem pLit_men (hB : tTx B n) {s s' : pRs} (h : pLit (tstr B n lm) tell F s = .inr s') (hs : 9 * s.2.2.2.1.length ≤ kS (tstr B n lm) s.2.2.2.2 + X + 4 * pAtoms s.2.2.1) : 9 * s'.2.2.2.1.length ≤ kS (tstr B n lm) s'.2.2.2.2 + X + 1 + 4 * pAtoms s'.2.2.1 := by
  have cmp : pCmp (tstr B n lm) F s = .inr s' → 9 * s'.2.2.2.1.length ≤ kS (tstr B n lm) s'.2.2.2.2 + X + 1 + 4 * pAtoms s'.2.2.1 := by
    intro h
    have h2 := pCmp_le h
    have h3 := kS_mo (lm := lm) hB (Nat.le_of_lt h2.2.2.2.2)
    unfold pCmp at h
    obtain ⟨a, g1, g2⟩ := pbind_inr h
    split at g2
    · obtain ⟨b, g3, g4⟩ := pbind_inr g2
      cases g4
      simp only [pAtoms_1] at h3 ⊢
      rw [if_neg (show ¬ (3 : Int) = 1 by decide)]
      omega
    · cases g2
  unfold pLit at h
  split at h
  · cases h
  split at h
  · rename_i c9
    have a := pAtom_pos h
    simp only at a
    have w := (kS_wd (lm := lm) hB (i := s.2.2.2.2) (by omega) a.2.2.2.2).2.2 c9
    have q := kS_to (lm := lm) hB (show s.2.2.2.2 + 1 < s'.2.2.2.2 by omega) (by rw [a.2.1]; decide)
    rw [a.2.2.1, a.2.2.2.1, if_neg (show ¬ (2 : Int) = 1 by decide)]
    omega
  split at h
  · split at h
    · cases h
    split at h
    · split at h
      · cases h
      · have a := pAtom_pos h
        have q := kS_to (lm := lm) hB (show s.2.2.2.2 < s'.2.2.2.2 by omega) (by rw [a.2.1]; decide)
        rw [a.2.2.1, a.2.2.2.1, if_pos rfl]
        omega
    split at h
    · cases h
    · exact cmp h
  · exact cmp h
theorem pLits_men (hB : tTx B n) : ∀ {k : Nat} {s s' : pRs}, pLits (tstr B n lm) tell F k s = .inr s' → 9 * s.2.2.2.1.length ≤ kS (tstr B n lm) s.2.2.2.2 + X + 1 + 4 * pAtoms s.2.2.1 → 9 * s'.2.2.2.1.length ≤ kS (tstr B n lm) s'.2.2.2.2 + X + 1 + 4 * pAtoms s'.2.2.1 := by
  intro k
  induction k with
  | zero => intro s s' h hs; cases h; exact hs
  | succ k ih =>
    intro s s' h hs
    unfold pLits at h
    split at h
    · rename_i c
      obtain ⟨u, g1, g2⟩ := pbind_inr h
      have q := (kS_1 (lm := lm) hB s.2.2.2.2).2.2.2 (by rw [c]; decide)
      exact ih g2 (pLit_men hB g1 (by simp only; omega))
    · cases h; exact hs
theorem pRule_men (hB : tTx B n) {s s' : pPg} (ht : tOk (tstr B n lm)) (hw : wPg s) (h : pRule (tstr B n lm) F s = .inr s') (hs : 9 * s.2.2.2.1.length ≤ kS (tstr B n lm) s.2.2.2.2.2 + 16 * s.2.2.2.2.1.length) : 9 * s'.2.2.2.1.length ≤ kS (tstr B n lm) s'.2.2.2.2.2 + 16 * s'.2.2.2.2.1.length := by
  have hw' := pRule_wf ht h hw
  have e : s = (s.1, s.2.1, s.2.2.1, s.2.2.2.1, s.2.2.2.2.1, s.2.2.2.2.2) := rfl
  rw [e, pRule_e] at h
  split at h
  · cases h
  · obtain ⟨p, h1, h⟩ := pbind_inr h
    obtain ⟨z, h2, h⟩ := pbind_inr h
    obtain ⟨j, h3, h2⟩ := pbind_inr h2
    obtain ⟨a, h4, h2⟩ := pbind_inr h2
    unfold pRest pBody at h2
    obtain ⟨b, h5, h2⟩ := pbind_inr h2
    obtain ⟨j3, h6, h2⟩ := pbind_inr h2
    obtain ⟨z2, h7, h2⟩ := pbind_inr h2
    obtain ⟨l, h8, h7⟩ := pbind_inr h7
    obtain ⟨j4, h9, h7⟩ := pbind_inr h7
    have a1 := pPred_le h1
    have a3 := pNeed_le h3
    have a4 := pItem_le h4
    have a6 := pNeed_le h6
    have a9 := pNeed_le h9
    have a5 : ∀ (k : Nat) (x y : pIt), pItems (tstr B n lm) F k x = .inr y → x.2.2.2 ≤ y.2.2.2 := by
      intro k
      induction k with
      | zero => intro x y hh; cases hh; exact Nat.le_refl _
      | succ k ih =>
        intro x y hh
        unfold pItems at hh
        split at hh
        · obtain ⟨u, g1, g2⟩ := pbind_inr hh
          have := pItem_le g1
          have := ih _ _ g2
          simp only at *
          omega
        · cases hh; exact Nat.le_refl _
    have a5' := a5 _ _ _ h5
    simp only [List.length_nil] at a4
    have q3 := kS_to (lm := lm) hB (show s.2.2.2.2.2 < j3 by omega) (by rw [a6.1, Nat.add_sub_cancel, a6.2]; decide)
    have q9 := (kS_1 (lm := lm) hB l.2.2.2.2).2.2.2 (by rw [a9.2]; decide)
    have hat : pAtoms l.2.2.1 ≤ 3 := by
      have hu : wRu s'.1.length (p.1, kS (tstr B n lm) s.2.2.2.2.2, z.1.1, z.1.2, z.2.1.2.1, z.2.1.2.2.1) := by
        refine hw'.2.2.2.2.2.2 _ ?_
        cases h
        exact List.mem_append.mpr (.inr (List.mem_singleton.mpr rfl))
      have := hu.2.2.2.2.2.2.2.1
      cases h7
      cases h2
      exact this
    have key : 9 * l.2.2.2.1.length ≤ kS (tstr B n lm) l.2.2.2.2 + (16 * s.2.2.2.2.1.length + 4) + 1 + 4 * pAtoms l.2.2.1 := by
      have e0 : pAtoms [] = 0 := rfl
      have m0 : 9 * (s.2.2.2.1 ++ [(p.1, kS (tstr B n lm) s.2.2.2.2.2, (b.2.2.1.length : Int), (3 : Int))]).length ≤ kS (tstr B n lm) j3 + (16 * s.2.2.2.2.1.length + 4) + 1 + 4 * pAtoms [] := by
        rw [len1, e0]
        omega
      split at h8
      · rename_i c
        obtain ⟨u, g1, g2⟩ := pbind_inr h8
        have q := (kS_1 (lm := lm) hB j3).2.2.2 (by rw [c]; decide)
        refine pLits_men hB g2 (pLit_men hB g1 ?_)
        simp only
        omega
      · cases h8
        exact m0
    cases h7
    cases h2
    cases h
    simp only [len1]
    rw [a9.1]
    omega
theorem pInput_men (hB : tTx B n) {s s' : pPg} (hK : kK (tstr B n lm) s.2.2.2.2.2 = 6) (h : pInput (tstr B n lm) s = .inr s') (hs : 9 * s.2.2.2.1.length ≤ kS (tstr B n lm) s.2.2.2.2.2 + 16 * s.2.2.2.2.1.length) : 9 * s'.2.2.2.1.length ≤ kS (tstr B n lm) s'.2.2.2.2.2 + 16 * s'.2.2.2.2.1.length := by
  unfold pInput at h
  obtain ⟨p, h1, h⟩ := pbind_inr h
  obtain ⟨j, h2, h⟩ := pbind_inr h
  obtain ⟨m, h3, h⟩ := pbind_inr h
  obtain ⟨k, h4, h⟩ := pbind_inr h
  obtain ⟨j2, h5, h⟩ := pbind_inr h
  have a1 := pPred_le h1
  have a2 := pNeed_le h2
  have a5 := pNeed_le h5
  have a3 : j < m.2 := by
    unfold pNum at h3
    split at h3
    · cases h3; simp only; omega
    · cases h3
  have a4 : m.2 ≤ k.2 := by
    split at h4
    · unfold pNum at h4
      split at h4
      · cases h4; simp only; omega
      · cases h4
    · cases h4; simp only; omega
  have w := (kS_wd (lm := lm) hB (i := s.2.2.2.2.2) (by omega) a1.2.2.1).1 hK
  have q := kS_to (lm := lm) hB (show s.2.2.2.2.2 + 1 < j2 by omega) (by rw [a5.1, Nat.add_sub_cancel, a5.2]; decide)
  cases h
  simp only [len1]
  omega
theorem pOutput_men (hB : tTx B n) {s s' : pPg} (hK : kK (tstr B n lm) s.2.2.2.2.2 = 7) (h : pOutput (tstr B n lm) s = .inr s') (hs : 9 * s.2.2.2.1.length ≤ kS (tstr B n lm) s.2.2.2.2.2 + 16 * s.2.2.2.2.1.length) : 9 * s'.2.2.2.1.length ≤ kS (tstr B n lm) s'.2.2.2.2.2 + 16 * s'.2.2.2.2.1.length := by
  unfold pOutput at h
  obtain ⟨p, h1, h⟩ := pbind_inr h
  obtain ⟨j, h2, h⟩ := pbind_inr h
  have a1 := pPred_le h1
  have a2 := pNeed_le h2
  have w := (kS_wd (lm := lm) hB (i := s.2.2.2.2.2) (by omega) a1.2.2.1).2.1 hK
  have q := kS_to (lm := lm) hB (show s.2.2.2.2.2 + 1 < j by omega) (by rw [a2.1, Nat.add_sub_cancel, a2.2]; decide)
  cases h
  simp only [len1]
  omega
theorem pProg_men (hB : tTx B n) : ∀ {k : Nat} {s s' : pPg}, pProg (tstr B n lm) F k s = .inr s' → wPg s → 9 * s.2.2.2.1.length ≤ kS (tstr B n lm) s.2.2.2.2.2 + 16 * s.2.2.2.2.1.length → 9 * s'.2.2.2.1.length ≤ kS (tstr B n lm) s'.2.2.2.2.2 + 16 * s'.2.2.2.2.1.length := by
  have ht := tOk_of lm hB
  intro k
  induction k with
  | zero => intro s s' h; cases h
  | succ k ih =>
    intro s s' h hw hs
    unfold pProg at h
    split at h
    · cases h; exact hs
    · obtain ⟨u, g1, g2⟩ := pbind_inr h
      split at g1
      · rename_i c
        exact ih g2 (pInput_wf g1 hw) (pInput_men hB c g1 hs)
      · split at g1
        · rename_i c
          exact ih g2 (pOutput_wf g1 hw) (pOutput_men hB c g1 hs)
        · exact ih g2 (pRule_wf ht g1 hw) (pRule_men hB ht hw g1 hs)
/-- fewer than 420 -/
theorem pProg_420 (hB : tTx B n) (hn : n ≤ 3000) {k : Nat} {s : pPg} (h : pProg (tstr B n lm) F k ([], [], [], [], [], 0) = .inr s) : wPg s ∧ s.2.2.2.1.length ≤ 376 := by
  have hw := pProg_wf (tOk_of lm hB) h wPg_0
  have hm := pProg_men hB h wPg_0 (by show 9 * 0 ≤ _; omega)
  have h1 := (kS_1 (lm := lm) hB s.2.2.2.2.2).2.2.1
  have h2 := hw.2.2.2.2.2.1
  exact ⟨hw, by omega⟩
end
end
