/-! The reference reads ITEMS that gather -/
section
variable {f q n o r c cb F : Nat} {B : Nat → Int} {lm : Bool} {G : xG_} {L : Nat → Int} {V : List (Int × Nat)} {g : Int × Int × Int} {I : List pCd}
/-- the ) of what gathers -/
theorem l_i230 {G1 : xG_} {L1 : Nat → Int} {V1 : List (Int × Nat)} {g1 : Int × Int × Int} {j : Nat} (hf : n + 20 < f) (hS : rIS G q B n lm o r c V g I) (h4 : I.length < 4) (hf1 : xfi o r (4 * r + I.length) V.length c G G1) (h15 : G1 (o + 15) r = (I.length : Int)) (h21 : G1 (o + 21) (4 * r + I.length) = (c : Int)) (h37 : G1 o 37 = (c : Int)) (hV1 : rVs G1 o q r V1) (hVV : V.length ≤ V1.length) (hg1 : rGa G1 o r g1) (h25 : G1 0 25 = 0) (hA : rAt q B n lm j L1) (hc : c ≤ cb + j) (he : g238 f (xlx G L) = g238_230 f ((4 * r + I.length : Nat) : Int) (xlx G1 L1)) :
    rIP f q B n lm o r cb G L c V I (g238 f) (pbind (pNeed (tstr B n lm) 41 j) fun j => .inr (V1, g1, I ++ [[]], j)) := by
  have hE := hS.1.1
  have ho := hE.2.2.2.2
  have hE1 := hE.fi hf1
  unfold rIP
  rw [he]
  unfold g238_230 pNeed
  have h20 := hV1.1
  have h20' := hV1.2.1
  have h23 := hS.1.2.1
  have hr := hS.1.2.2.1
  by_cases c1 : kK (tstr B n lm) j = 41
  · rw [if_pos c1]
    obtain ⟨L2, n1, n2⟩ := l_need hf hE1 hA (c := 41) (by unfold isSg; omega) c1
    rw [show rsc 41 = 41 from rfl] at n1
    obtain ⟨b1, b2⟩ := l_iend (f := f) (L1 := L2) hS h4 hf1 h15
    refine ⟨_, L2, c, by rw [n1]; exact b1, n2, b2, ⟨⟨hE.fi b2, ?_, hr, hV1.ot (fun j => ?_) (fun j => ?_) (fun j => ?_), ?_, fun j hj => absurd hj (by simp), ?_⟩, by rw [len1, xup2_s], by rw [len1]; omega, ⟨?_, ?_, ?_, hg1.2.2.2⟩, fun k hk => ?_⟩, Nat.le_refl _, by show c ≤ cb + (j + 1); omega⟩
    · rw [xup2_n (by omega), xup2_n (by omega), hf1 _ _ (by omega)]; exact h23
    · rw [xup2_n (by omega), xup2_n (by omega)]
    · rw [xup2_n (by omega), xup2_n (by omega)]
    · rw [xup2_n (by omega), xup2_n (by omega)]
    · rw [xup2_n (by omega), xup2_n (by omega)]; exact h37
    · rw [xup2_n (by omega), xup2_n (by omega)]; exact h25
    · rw [xup2_n (by omega), xup2_n (by omega)]; exact hg1.1
    · rw [xup2_n (by omega), xup2_n (by omega)]; exact hg1.2.1
    · rw [xup2_n (by omega), xup2_n (by omega)]; exact hg1.2.2.1
    · rw [len1] at hk
      rw [getD_1]
      by_cases ck : k = I.length
      · rw [if_pos ck, ck]
        refine ⟨c, ?_, ?_, Nat.le_refl _, fun j hj => absurd hj (by simp)⟩
        · rw [xup2_n (by omega), xup2_n (by omega)]; exact h21
        · rw [xup2_n (by omega), xup2_s]; exact h37
      · rw [if_neg ck]
        exact (hS.2.2.2.2 k (by omega)).fi b2 (by omega) (Nat.le_refl _)
  · rw [if_neg c1]
    have n1 := l_need_no (f := f) hE1 hA (c := 41) (by unfold isSg; omega) c1
    rw [show rsc 41 = 41 from rfl] at n1
    obtain ⟨b1, b2⟩ := l_iend (f := f) (L1 := xu L1 7 ((q : Int) + kS (tstr B n lm) j)) hS h4 hf1 h15
    refine ⟨_, _, by rw [n1]; exact b1, rfl, b2, ?_⟩
    rw [xup2_n (by omega), xup2_n (by omega), xup2_s, h20]
    omega
theorem l_i230_bad {G1 : xG_} {L1 : Nat → Int} {w : Nat} (hS : rIS G q B n lm o r c V g I) (h4 : I.length < 4) (hf1 : xfi o r (4 * r + I.length) V.length c G G1) (h15 : G1 (o + 15) r = (I.length : Int)) (h20 : 0 ≤ G1 (o + 20) r ∧ G1 (o + 20) r ≤ 8) (hw : L1 7 = (q : Int) + w) (he : g238 f (xlx G L) = g238_230 f ((4 * r + I.length : Nat) : Int) (xlx G1 L1)) : rIP f q B n lm o r cb G L c V I (g238 f) (.inl w) := by
  have hbad : L1 7 ≠ -1 := by omega
  have ho := hS.1.1.2.2.2.2
  obtain ⟨b1, b2⟩ := l_iend (f := f) (L1 := L1) hS h4 hf1 h15
  refine ⟨_, L1, ?_, hw, b2, ?_⟩
  · rw [he]
    unfold g238_230
    rw [l_need_bad hbad]
    exact b1
  · rw [xup2_n (by omega), xup2_n (by omega), xup2_s]
    omega
theorem l_item_g {i : Nat} (hf : n + 20 < f) (hS : rIS G q B n lm o r c V g I) (hA : rAt q B n lm i L) (hc : c ≤ cb + i) (h4 : I.length < 4) (hK : 10 ≤ kK (tstr B n lm) i ∧ kK (tstr B n lm) i ≤ 13) :
    rIP f q B n lm o r cb G L c V I (g238 f) (if g.1 ≠ 0 then .inl (kS (tstr B n lm) i)
     else pbind (pNeed (tstr B n lm) 40 (i + 1)) fun j =>
       if kK (tstr B n lm) i = 10 then pbind (pNeed (tstr B n lm) 41 j) fun j => .inr (V, (10, (I.length : Int), -1), I ++ [[]], j)
       else pbind (pVar (tstr B n lm) V j) fun r => pbind (pNeed (tstr B n lm) 41 r.2.2) fun j => .inr (r.2.1, (kK (tstr B n lm) i, (I.length : Int), r.1), I ++ [[]], j)) := by
  have e0 := l_item_e (f := f) hS hA
  rw [if_pos hK] at e0
  have hS' := hS
  obtain ⟨⟨hE, h23, hr, hV, h37, hCo, h25⟩, h15, hI4, hg, hI⟩ := hS'
  have h22 := hE.2.2.2.1
  have ho := hE.2.2.2.2
  have h37' : G o 37 = (c : Int) := h37
  have hV20 := hV.1
  have hV8 := hV.2.1
  have f0 : xfi o r (4 * r + I.length) V.length c G (xup2 G (o + 21) (4 * r + I.length) (c : Int)) := xfi.up _ (by omega)
  unfold g238_89 at e0
  rw [xlx_o _ _ (by omega), h22, if_neg (by omega), if_neg (by omega), if_pos (by omega), Int.toNat_natCast, Int.toNat_natCast, xlx_o _ _ (by omega), h37', xlx_upo _ _ _ (by omega)] at e0
  simp only [Option.bind_some] at e0
  rw [if_pos (by omega), xlx_o _ _ (by omega), xup2_n (by omega), h22, if_neg (by omega), xlx_o _ _ (by omega), xup2_n (by omega), h23, if_pos (by omega), Int.toNat_natCast, Int.toNat_natCast, xlx_o _ _ (by omega), xup2_n (by omega), hg.1] at e0
  by_cases cg : g.1 = 0
  · rw [if_neg (fun h => h cg)]
    rw [if_pos cg, if_pos rfl, if_neg (by omega), if_pos (by omega), xlx_upo _ _ _ (by omega)] at e0
    rw [xlx_o _ _ (by omega), xup2_n (by omega), xup2_n (by omega), h22, if_neg (by omega), if_neg (by omega), xlx_o _ _ (by omega), xup2_n (by omega), xup2_n (by omega), h23, if_pos (by omega), if_pos (by omega), Int.toNat_natCast, Int.toNat_natCast, xlx_o _ _ (by omega), xup2_n (by omega), xup2_n (by omega), h15, xlx_upo _ _ _ (by omega)] at e0
    have f2 : xfi o r (4 * r + I.length) V.length c G (xup2 (xup2 (xup2 G (o + 21) (4 * r + I.length) (c : Int)) (o + 16) r (kK (tstr B n lm) i - 9)) (o + 17) r (I.length : Int)) := (f0.tr (xfi.up _ (by omega)) (Nat.le_refl _) (Nat.le_refl _) (Nat.le_refl _)).tr (xfi.up _ (by omega)) (Nat.le_refl _) (Nat.le_refl _) (Nat.le_refl _)
    have v15 : xup2 (xup2 (xup2 G (o + 21) (4 * r + I.length) (c : Int)) (o + 16) r (kK (tstr B n lm) i - 9)) (o + 17) r (I.length : Int) (o + 15) r = (I.length : Int) := by rw [xup2_n (by omega), xup2_n (by omega), xup2_n (by omega)]; exact h15
    have v16 : xup2 (xup2 (xup2 G (o + 21) (4 * r + I.length) (c : Int)) (o + 16) r (kK (tstr B n lm) i - 9)) (o + 17) r (I.length : Int) (o + 16) r = kK (tstr B n lm) i - 9 := by rw [xup2_n (by omega), xup2_s]
    have v17 : xup2 (xup2 (xup2 G (o + 21) (4 * r + I.length) (c : Int)) (o + 16) r (kK (tstr B n lm) i - 9)) (o + 17) r (I.length : Int) (o + 17) r = (I.length : Int) := xup2_s _ _ _ _
    have v18 : xup2 (xup2 (xup2 G (o + 21) (4 * r + I.length) (c : Int)) (o + 16) r (kK (tstr B n lm) i - 9)) (o + 17) r (I.length : Int) (o + 18) r = G (o + 18) r := by rw [xup2_n (by omega), xup2_n (by omega), xup2_n (by omega)]
    have v21 : xup2 (xup2 (xup2 G (o + 21) (4 * r + I.length) (c : Int)) (o + 16) r (kK (tstr B n lm) i - 9)) (o + 17) r (I.length : Int) (o + 21) (4 * r + I.length) = (c : Int) := by rw [xup2_n (by omega), xup2_n (by omega), xup2_s]
    have vo : ∀ a b, ¬ (o + 16 ≤ a ∧ a ≤ o + 17) → a ≠ o + 21 → xup2 (xup2 (xup2 G (o + 21) (4 * r + I.length) (c : Int)) (o + 16) r (kK (tstr B n lm) i - 9)) (o + 17) r (I.length : Int) a b = G a b := fun a b _ _ => by rw [xup2_n (by omega), xup2_n (by omega), xup2_n (by omega)]
    generalize xup2 (xup2 (xup2 G (o + 21) (4 * r + I.length) (c : Int)) (o + 16) r (kK (tstr B n lm) i - 9)) (o + 17) r (I.length : Int) = G2 at *
    have hE2 := hE.fi f2
    have hV2 : rVs G2 o q r V := hV.ot (fun j => vo _ _ (by omega) (by omega)) (fun j => vo _ _ (by omega) (by omega)) (fun j => vo _ _ (by omega) (by omega))
    have hg18 : G (o + 18) r = g.2.2 := hg.2.2.1
    obtain ⟨L1, p1, p2⟩ := hA.wd (f := f) hf hE2 (by omega)
    simp only [p1, Option.bind_some] at e0
    unfold pNeed
    by_cases c40 : kK (tstr B n lm) (i + 1) = 40
    · rw [if_pos c40]
      obtain ⟨L2, n1, n2⟩ := l_need hf hE2 p2 (c := 40) (by unfold isSg; omega) c40
      rw [show rsc 40 = 40 from rfl] at n1
      simp only [n1, Option.bind_some] at e0
      show rIP f q B n lm o r cb G L c V I (g238 f) (if kK (tstr B n lm) i = 10 then _ else _)
      by_cases c10 : kK (tstr B n lm) i = 10
      · rw [if_pos c10]
        rw [if_pos (by omega)] at e0
        refine l_i230 hf hS h4 f2 v15 v21 (by rw [vo _ _ (by omega) (by omega)]; exact h37') hV2 (Nat.le_refl _) ⟨?_, v17, ?_, .inr (show (10 : Int) ≤ 10 ∧ (10 : Int) ≤ 13 by decide)⟩ (by rw [vo _ _ (by omega) (by omega)]; exact h25) n2 (by omega) e0
        · rw [v16, c10]; rfl
        · rw [v18, hg18]
          show g.2.2 = -1
          have := hg.2.2.2
          omega
      · rw [if_neg c10]
        rw [if_neg (by omega), l_kind] at e0
        simp only [Option.bind_some, i10, n2.1, true_and] at e0
        have htk := n2.tk hE2.1.2.1
        by_cases c2 : kK (tstr B n lm) (i + 1 + 1) = 2
        · have k2 := htk.2.2.2.1.mpr c2
          rw [if_neg (fun h => h k2), xlx_o _ _ (by omega), hE2.2.2.2.1, if_neg (by omega), xlx_o _ _ (by omega), vo 0 23 (by omega) (by omega), h23, Int.toNat_natCast, Int.toNat_natCast] at e0
          have h1 := l_var hf hE2 (by rw [vo 0 23 (by omega) (by omega)]; exact h23) hr hV2 n2 c2 c
          cases hp : pVar (tstr B n lm) V (i + 1 + 1) with
          | inl w =>
            rw [hp] at h1
            obtain ⟨L3, a1, a2⟩ := h1
            rw [a1] at e0
            simp only [Option.bind_some] at e0
            rw [if_pos (by omega), xlx_upo _ _ _ (by omega)] at e0
            exact l_i230_bad hS h4 (f2.tr (xfi.up _ (by omega)) (Nat.le_refl _) (Nat.le_refl _) (Nat.le_refl _)) (by rw [xup2_n (by omega)]; exact v15) (by rw [xup2_n (by omega), vo _ _ (by omega) (by omega), hV20]; omega) a2 e0
          | inr x =>
            rw [hp] at h1
            obtain ⟨G3, L3, a1, a2, a3, a4, a5, a6, a7, a8⟩ := h1
            rw [a1] at e0
            simp only [Option.bind_some] at e0
            rw [if_pos (by omega), xlx_upo _ _ _ (by omega)] at e0
            have hle := pVar_le hp
            show rIP f q B n lm o r cb G L c V I (g238 f) (pbind (pNeed (tstr B n lm) 41 x.2.2) fun j => .inr (x.2.1, (kK (tstr B n lm) i, (I.length : Int), x.1), I ++ [[]], j))
            refine l_i230 hf hS h4 ((f2.tr (a3.fi (x := 4 * r + I.length)) (Nat.le_refl _) (Nat.le_refl _) (Nat.le_refl _)).tr (xfi.up _ (by omega)) (Nat.le_refl _) (Nat.le_refl _) (Nat.le_refl _)) ?_ ?_ ?_ (a4.ot (fun j => xup2_n (by omega)) (fun j => xup2_n (by omega)) (fun j => xup2_n (by omega))) hle.2.1 ⟨?_, ?_, xup2_s _ _ _ _, .inr hK⟩ ?_ a2 (by omega) e0
            · rw [xup2_n (by omega), a3 _ _ (by omega)]; exact v15
            · rw [xup2_n (by omega), a3 _ _ (by omega)]; exact v21
            · rw [xup2_n (by omega), a5, vo _ _ (by omega) (by omega)]; exact h37'
            · rw [xup2_n (by omega), a3 _ _ (by omega), v16]
              show _ = if kK (tstr B n lm) i = 0 then 0 else kK (tstr B n lm) i - 9
              rw [if_neg (by omega)]
            · rw [xup2_n (by omega), a3 _ _ (by omega)]; exact v17
            · rw [xup2_n (by omega), a6, vo _ _ (by omega) (by omega)]; exact h25
        · have k2 : ¬ L2 2 = 3 := fun h => c2 (htk.2.2.2.1.mp h)
          have hp : pVar (tstr B n lm) V (i + 1 + 1) = .inl (kS (tstr B n lm) (i + 1 + 1)) := by unfold pVar; rw [if_pos c2]
          rw [hp]
          rw [if_pos k2, xlx_4, l_fail, if_pos n2.1] at e0
          exact l_i230_bad hS h4 f2 v15 (by rw [vo _ _ (by omega) (by omega), hV20]; omega) (show xu L2 7 (L2 4) 7 = _ from n2.at4 hE2) e0
    · rw [if_neg c40]
      have n1 := l_need_no (f := f) hE2 p2 (c := 40) (by unfold isSg; omega) c40
      rw [show rsc 40 = 40 from rfl] at n1
      simp only [n1, Option.bind_some] at e0
      have hbad : xu L1 7 ((q : Int) + kS (tstr B n lm) (i + 1)) 7 ≠ -1 := by show (q : Int) + _ ≠ -1; omega
      refine l_i230_bad (L1 := xu L1 7 ((q : Int) + kS (tstr B n lm) (i + 1))) hS h4 f2 v15 (by rw [vo _ _ (by omega) (by omega), hV20]; omega) rfl ?_
      rw [e0]
      split
      · rfl
      · rw [l_kind, if_neg (fun h => hbad h.1)]
        simp only [Option.bind_some]
        rw [if_pos trivial, l_fail, if_neg hbad]
        rfl
  · rw [if_pos cg]
    rw [if_neg cg, if_neg (by have := hg.2.2.2; omega), xlx_4, l_fail, if_pos hA.1] at e0
    obtain ⟨b1, b2⟩ := l_iend (f := f) (L1 := xu L 7 (L 4)) hS h4 f0 (by rw [xup2_n (by omega)]; exact h15)
    refine ⟨_, xu L 7 (L 4), by rw [e0]; exact b1, hA.at4 hE, b2, ?_⟩
    rw [xup2_n (by omega), xup2_n (by omega), xup2_n (by omega), xup2_s, hV20]
    omega
theorem l_item {i : Nat} (hf : n + 20 < f) (hcb : cb + n + 3 ≤ 6200) (hF : 4 * (n + 1 - i) + 2 ≤ F) (hS : rIS G q B n lm o r c V g I) (hA : rAt q B n lm i L) (hc : c ≤ cb + i) (h4 : I.length < 4) : rIP f q B n lm o r cb G L c V I (g238 f) (pItem (tstr B n lm) F (V, g, I, i)) := by
  unfold pItem
  by_cases hK : 10 ≤ kK (tstr B n lm) i ∧ kK (tstr B n lm) i ≤ 13
  · show rIP f q B n lm o r cb G L c V I (g238 f) (if 10 ≤ kK (tstr B n lm) i ∧ kK (tstr B n lm) i ≤ 13 then _ else _)
    rw [if_pos hK]
    exact l_item_g hf hS hA hc h4 hK
  · show rIP f q B n lm o r cb G L c V I (g238 f) (if 10 ≤ kK (tstr B n lm) i ∧ kK (tstr B n lm) i ≤ 13 then _ else _)
    rw [if_neg hK]
    exact l_item_x hf hcb hF hS hA hc h4 hK
end
theorem pItem_le {t : tStr} {F : Nat} {s s' : pIt} (h : pItem t F s = .inr s') : s.1.length ≤ s'.1.length ∧ s'.2.2.1.length = s.2.2.1.length + 1 ∧ s.2.2.2 < s'.2.2.2 := by
  unfold pItem at h
  split at h
  · split at h
    · cases h
    · obtain ⟨j, h1, h2⟩ := pbind_inr h
      have a1 := pNeed_le h1
      split at h2
      · obtain ⟨j2, h3, h4⟩ := pbind_inr h2
        have a2 := pNeed_le h3
        cases h4
        simp only [len1, true_and]
        omega
      · obtain ⟨x, h3, h4⟩ := pbind_inr h2
        obtain ⟨j2, h5, h6⟩ := pbind_inr h4
        have a2 := pVar_le h3
        have a3 := pNeed_le h5
        cases h6
        simp only [len1, true_and]
        omega
  · obtain ⟨e, h1, h2⟩ := pbind_inr h
    have a1 := pX_le _ _ _ _ _ (by decide) h1
    cases h2
    simp only [len1, true_and] at a1 ⊢
    omega
