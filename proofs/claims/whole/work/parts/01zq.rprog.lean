/-! The reference reads programs -/
def pIn (l : List (Int × Int × Int)) (p : Int) : Bool := l.any (fun x => decide (x.1 = p))
def pKy (l : List (Int × Int × Int)) (p : Int) : Int := match l.find? (fun x => decide (x.1 = p)) with
  | some x => x.2.2
  | none => 0
def pOu (l : List Int) (p : Int) : Bool := l.any (fun x => decide (x = p))
def pHd (l : List pRu) (p : Int) : Bool := l.any (fun x => decide (x.1 = p))
def b01 (b : Bool) : Int := if b = true then 1 else 0
def dRu : pRu := (0, 0, (0, 0, 0), [], [], [])
/-- a program as far as it is read -/
def rPS (G : xG_) (q : Nat) (B : Nat → Int) (n : Nat) (lm : Bool) (o c : Nat) (N : List Int) (ins : List (Int × Int × Int)) (outs : List Int) (M : List pMn) (R : List pRu) : Prop :=
  rEv G q B n lm o ∧ rNs G o N ∧ rMs G o q M ∧ G o 37 = (c : Int) ∧ G o 9 = (R.length : Int) ∧ R.length ≤ 24 ∧ (∀ r, r < R.length → rRu G o q r c (R.getD r dRu)) ∧
  (∀ p : Nat, p < 16 → G (o + 6) p = b01 (pIn ins p) ∧ G (o + 3) p = pKy ins p ∧ G (o + 7) p = b01 (pOu outs p) ∧ G (o + 8) p = b01 (pHd R p))
theorem any_1 {α : Type} (l : List α) (a : α) (f : α → Bool) : (l ++ [a]).any f = (l.any f || f a) := by simp
theorem pHd_1 (R : List pRu) (u : pRu) (p : Int) : b01 (pHd (R ++ [u]) p) = if p = u.1 then 1 else b01 (pHd R p) := by
  unfold pHd b01
  rw [any_1]
  by_cases h : p = u.1
  · simp [h]
  · have h' : ¬ u.1 = p := fun e => h e.symm
    rw [decide_eq_false h', Bool.or_false, if_neg h]
theorem pOu_1 (l : List Int) (u p : Int) : b01 (pOu (l ++ [u]) p) = if p = u then 1 else b01 (pOu l p) := by
  unfold pOu b01
  rw [any_1]
  by_cases h : p = u
  · simp [h]
  · have h' : ¬ u = p := fun e => h e.symm
    simp [h, h']
theorem pIn_1 (l : List (Int × Int × Int)) (u : Int × Int × Int) (p : Int) : b01 (pIn (l ++ [u]) p) = if p = u.1 then 1 else b01 (pIn l p) := by
  unfold pIn b01
  rw [any_1]
  by_cases h : p = u.1
  · simp [h]
  · have h' : ¬ u.1 = p := fun e => h e.symm
    rw [decide_eq_false h', Bool.or_false, if_neg h]
theorem pKy_1 (l : List (Int × Int × Int)) (u : Int × Int × Int) (p : Int) : pKy (l ++ [u]) p = if p = u.1 ∧ pIn l p = false then u.2.2 else pKy l p := by
  unfold pKy pIn
  rw [List.find?_append]
  cases h : l.find? (fun x => decide (x.1 = p)) with
  | some x =>
    have hx := List.find?_some h
    have : l.any (fun x => decide (x.1 = p)) = true := List.any_eq_true.mpr ⟨x, List.mem_of_find?_eq_some h, hx⟩
    rw [this]
    simp
  | none =>
    have : l.any (fun x => decide (x.1 = p)) = false := by
      rw [List.any_eq_false]
      intro x hx
      have := List.find?_eq_none.mp h x hx
      simpa using this
    rw [this]
    by_cases h2 : p = u.1
    · simp [h2]
    · have h' : ¬ u.1 = p := fun e => h2 e.symm
      simp [h2, h']
section
variable {f q n o i c cb F : Nat} {B : Nat → Int} {lm : Bool} {G : xG_} {L : Nat → Int} {N : List Int} {ins : List (Int × Int × Int)} {outs : List Int} {M : List pMn} {R : List pRu}
/-- what reading of a statement does -/
def rGP (f q : Nat) (B : Nat → Int) (n : Nat) (lm : Bool) (o cb : Nat) (G : xG_) (L : Nat → Int) (c : Nat) (e : xG_ → Option xG_) (P : Nat ⊕ pPg) : Prop :=
  pok P (fun w => ∃ G' L', e (xlx G L) = some (xlx G' L') ∧ L' 7 = (q : Int) + w ∧ xfg o 0 0 0 0 G G')
    (fun s => ∃ G' L', ∃ c' : Nat, e (xlx G L) = some (xlx G' L') ∧ rAt q B n lm s.2.2.2.2.2 L' ∧ xfg o 0 0 0 0 G G' ∧ rPS G' q B n lm o c' s.1 s.2.1 s.2.2.1 s.2.2.2.1 s.2.2.2.2.1 ∧ c ≤ c' ∧ c' ≤ cb + s.2.2.2.2.2)
theorem xfg.w {r c0 m0 n0 : Nat} {G' : xG_} (h : xfg o r c0 m0 n0 G G') : xfg o 0 0 0 0 G G' := fun a j hj => h a j (by omega)
theorem l_rule (hf : n + 20 < f) (hcb : cb + n + 3 ≤ 6200) (hF : 4 * (n + 1 - i) + 4 ≤ F) (hS : rPS G q B n lm o c N ins outs M R) (hA : rAt q B n lm i L) (hc : c ≤ cb + i) : rGP f q B n lm o cb G L c (g237 f) (pRule (tstr B n lm) F (N, ins, outs, M, R, i)) := by
  obtain ⟨hE, hN, hM, h37, h9, hR24, hR, hfl⟩ := hS
  have h22 := hE.2.2.2.1
  have ho := hE.2.2.2.2
  rw [pRule_e]
  unfold rGP
  by_cases c24 : R.length = 24
  · rw [if_pos c24]
    refine ⟨G, xu L 7 (L 4), ?_, hA.at4 hE, .rf _ _ _ _ _ _⟩
    unfold g237
    rw [xlx_o _ _ (by omega), h22, if_neg (by omega), Int.toNat_natCast, xlx_o _ _ (by omega), h9, if_neg (by omega), xlx_4, l_fail, if_pos hA.1]
    rfl
  rw [if_neg c24]
  have e0 : g237 f (xlx G L) = (g232 f (xlx G L)).bind fun R184 => (if R184.2 0 22 < 0 then none else ((g236 f (R184.2 ((R184.2 0 22).toNat) 9) R184.2).bind fun R190 => ((g213 f R190).bind fun R195 => ((g222 f (40) R195).bind fun R200 => ((g238 f R200).bind fun R205 => g237_53 f f ((q : Int) + kS (tstr B n lm) i) (R184.1) R205))))) := by
    unfold g237
    rw [xlx_o _ _ (by omega), h22, if_neg (by omega), Int.toNat_natCast, xlx_o _ _ (by omega), h9, if_pos (by omega), xlx_4, hA.at4 hE]
  rw [e0]
  clear e0
  have h1 := l_nname (f := f) (by omega) hE hN hA
  cases hp : pPred (tstr B n lm) N i with
  | inl w =>
    rw [hp] at h1
    obtain ⟨L1, a1, a2⟩ := h1
    have hbad : L1 7 ≠ -1 := by omega
    refine ⟨rBeg G o R.length, L1, ?_, a2, (rBeg_fg (r := R.length) (c0 := 0) (m0 := 0) (n0 := 0)).w⟩
    rw [a1]
    simp only [Option.bind_some]
    rw [xlx_o _ _ (by omega), h22, if_neg (by omega), Int.toNat_natCast, xlx_o _ _ (by omega), h9, l_beg hE hR24]
    simp only [Option.bind_some]
    rw [l_pass_bad hbad]
    simp only [Option.bind_some]
    rw [l_need_bad hbad]
    simp only [Option.bind_some]
    rw [l_item_bad hbad]
    simp only [Option.bind_some]
    rw [l_ritl_bad (by omega) hbad]
  | inr p =>
    rw [hp] at h1
    obtain ⟨G1, a1, a2, a3, a4⟩ := h1
    have hple := pPred_le hp
    have hN16 := a2.2.1
    have g22 : G1 0 22 = (o : Int) := by rw [a3 _ _ (by omega) (by omega)]; exact h22
    have f1 : xfg o R.length c (min M.length 420) N.length G G1 := fun a j hj => a3 a j (by omega) (by omega)
    have hE1 := hE.fg f1
    have f2 : xfg o R.length c (min M.length 420) N.length G (rBeg G1 o R.length) := f1.tr (rBeg_fg (r := R.length) (c0 := c) (m0 := min M.length 420) (n0 := N.length)) (Nat.le_refl _) (Nat.le_refl _) (Nat.le_refl _) (Nat.le_refl _)
    have hE2 := hE.fg f2
    obtain ⟨hIS, h19, h24⟩ := rBeg_st (r := R.length) hE1 hR24 (by rw [a3 _ _ (by omega) (by omega)]; exact h37)
    obtain ⟨L2, p1, p2⟩ := l_pass hf hE2 hA a4 (by omega) (by omega)
    have e1 : ((g232 f (xlx G L)).bind fun R184 => (if R184.2 0 22 < 0 then none else ((g236 f (R184.2 ((R184.2 0 22).toNat) 9) R184.2).bind fun R190 => ((g213 f R190).bind fun R195 => ((g222 f (40) R195).bind fun R200 => ((g238 f R200).bind fun R205 => g237_53 f f ((q : Int) + kS (tstr B n lm) i) (R184.1) R205)))))) = (g222 f 40 (xlx (rBeg G1 o R.length) L2)).bind fun R200 => ((g238 f R200).bind fun R205 => g237_53 f f ((q : Int) + kS (tstr B n lm) i) p.1 R205) := by
      rw [a1]
      simp only [Option.bind_some]
      rw [xlx_o _ _ (by omega), g22, if_neg (by omega), Int.toNat_natCast, xlx_o _ _ (by omega), a3 _ _ (by omega) (by omega), h9, l_beg hE1 hR24]
      simp only [Option.bind_some]
      rw [p1]
      rfl
    rw [e1]
    clear e1
    show pok (pbind (pbind (pNeed (tstr B n lm) 40 p.2.2) _) _) _ _
    rw [hple.1]
    unfold pNeed
    by_cases c40 : kK (tstr B n lm) (i + 1) = 40
    · rw [if_pos c40]
      obtain ⟨L3, n1, n2⟩ := l_need hf hE2 p2 (c := 40) (by unfold isSg; omega) c40
      rw [show rsc 40 = 40 from rfl] at n1
      rw [n1]
      simp only [Option.bind_some]
      have h2 := l_item (f := f) (F := F) hf hcb (show 4 * (n + 1 - (i + 1 + 1)) + 2 ≤ F by omega) hIS n2 (show c ≤ cb + (i + 1 + 1) by omega) (by decide)
      unfold rIP at h2
      show pok (pbind (pbind (pItem (tstr B n lm) F ([], (0, -1, -1), [], i + 1 + 1)) fun a => pRest (tstr B n lm) F p.2.1 M p.1 (kS (tstr B n lm) i) 3 a) _) _ _
      cases hp2 : pItem (tstr B n lm) F ([], (0, -1, -1), [], i + 1 + 1) with
      | inl w =>
        rw [hp2] at h2
        obtain ⟨G3, L4, b1, b2, b3, b4⟩ := h2
        refine ⟨G3, L4, ?_, b2, (f2.w.tr ((b3.fg (m0 := 0) (n0 := 0) (by omega)).w) (Nat.le_refl _) (Nat.le_refl _) (Nat.le_refl _) (Nat.le_refl _))⟩
        rw [b1]
        exact l_ritl_bad (by omega) (by omega)
      | inr a =>
        rw [hp2] at h2
        obtain ⟨G3, L4, c3, b1, b2, b3, b4, b5, b6⟩ := h2
        have hle := pItem_le hp2
        simp only [List.length_nil] at hle
        have f3 : xfg o R.length c (min M.length 420) N.length G G3 := f2.tr (b3.fg (by omega)) (Nat.le_refl _) (Nat.le_refl _) (Nat.le_refl _) (Nat.le_refl _)
        have hb3 : ∀ x y, ¬ (x = 0 ∧ (y = 21 ∨ y = 25)) → ¬ (x = o ∧ y = 37) → ¬ (o + 15 ≤ x ∧ x ≤ o + 34 ∧ x ≠ o + 19) → G3 x y = rBeg G1 o R.length x y := fun x y _ _ _ => b3 _ _ (by omega)
        have h3 := l_ritl (f := f) (F := F) (N := p.2.1) (M := M) (pl := kS (tstr B n lm) i) hf hcb (show R.length < 24 by omega) (show 0 ≤ p.1 ∧ p.1 < 16 by omega) 3 f (by omega) a.2.2.2 c3 G3 L4 a.1 a.2.1 a.2.2.1 (by omega) (by omega) b4 ⟨by rw [hb3 _ _ (by omega) (by omega) (by omega), rBeg_o (by omega) (by omega)]; exact a2.1, a2.2.1, fun j hj => by rw [hb3 _ _ (by omega) (by omega) (by omega), rBeg_o (by omega) (by omega)]; exact a2.2.2 j hj⟩ (hM.fr (by rw [hb3 _ _ (by omega) (by omega) (by omega), rBeg_o (by omega) (by omega), a3 _ _ (by omega) (by omega)]) (fun x y _ _ => by rw [hb3 _ _ (by omega) (by omega) (by omega), rBeg_o (by omega) (by omega), a3 _ _ (by omega) (by omega)])) (by rw [hb3 _ _ (by omega) (by omega) (by omega)]; exact h19) (by rw [hb3 _ _ (by omega) (by omega) (by omega)]; exact h24) (by rw [hb3 _ _ (by omega) (by omega) (by omega), rBeg_o (by omega) (by omega), a3 _ _ (by omega) (by omega)]; exact h9) b2 b6
        unfold rRP at h3
        rw [b1]
        simp only [Option.bind_some]
        show pok (pbind (pRest (tstr B n lm) F p.2.1 M p.1 (kS (tstr B n lm) i) 3 a) _) _ _
        cases hp3 : pRest (tstr B n lm) F p.2.1 M p.1 (kS (tstr B n lm) i) 3 a with
        | inl w =>
          have hp3' : pRest (tstr B n lm) F p.2.1 M p.1 (kS (tstr B n lm) i) 3 (a.1, a.2.1, a.2.2.1, a.2.2.2) = .inl w := hp3
          rw [hp3'] at h3
          obtain ⟨G4, L5, d1, d2, d3⟩ := h3
          exact ⟨G4, L5, d1, d2, f3.w.tr d3.w (Nat.le_refl _) (Nat.le_refl _) (Nat.le_refl _) (Nat.le_refl _)⟩
        | inr z =>
          have hp3' : pRest (tstr B n lm) F p.2.1 M p.1 (kS (tstr B n lm) i) 3 (a.1, a.2.1, a.2.2.1, a.2.2.2) = .inr z := hp3
          rw [hp3'] at h3
          obtain ⟨G4, L5, c4, d1, d2, d3, d4, d5, d6, d7, d8, d9, d10, d11⟩ := h3
          have f4 : xfg o R.length c (min M.length 420) N.length G G4 := f3.tr d3 (Nat.le_refl _) (by omega) (Nat.le_refl _) hple.2.1
          refine ⟨G4, L5, c4, d1, d2, f4.w, ⟨hE.fg f4, d5, d6, d7, by rw [len1]; exact d8, by rw [len1]; omega, fun r hr => ?_, fun x hx => ?_⟩, by omega, d11⟩
          · rw [len1] at hr
            rw [getD_1]
            by_cases cr : r = R.length
            · rw [if_pos cr, cr]
              exact d9
            · rw [if_neg cr]
              exact (hR r (by omega)).fg f4 (by omega) (by omega)
          · obtain ⟨k1, k2, k3, k4⟩ := hfl x hx
            have flg : ∀ y, (o + 2 ≤ y ∧ y ≤ o + 3 ∨ o + 6 ≤ y ∧ y ≤ o + 8) → G3 y x = G y x := fun y hy => by rw [hb3 _ _ (by omega) (by omega) (by omega), rBeg_o (by omega) (by omega), a3 _ _ (by omega) (by omega)]
            refine ⟨?_, ?_, ?_, ?_⟩
            · rw [d4 _ _ (by omega), if_neg (by omega), flg _ (by omega)]; exact k1
            · rw [d4 _ _ (by omega), if_neg (by omega), flg _ (by omega)]; exact k2
            · rw [d4 _ _ (by omega), if_neg (by omega), flg _ (by omega)]; exact k3
            · rw [d4 _ _ (by omega), pHd_1, flg _ (by omega), k4]
              show (if o + 8 = o + 8 ∧ (x : Int) = p.1 then 1 else _) = if (x : Int) = p.1 then 1 else _
              by_cases cx : (x : Int) = p.1
              · rw [if_pos ⟨rfl, cx⟩, if_pos cx]
              · rw [if_neg (fun h => cx h.2), if_neg cx]
    · rw [if_neg c40]
      have n1 := l_need_no (f := f) hE2 p2 (c := 40) (by unfold isSg; omega) c40
      rw [show rsc 40 = 40 from rfl] at n1
      have hbad : xu L2 7 ((q : Int) + kS (tstr B n lm) (i + 1)) 7 ≠ -1 := by show (q : Int) + _ ≠ -1; omega
      refine ⟨rBeg G1 o R.length, xu L2 7 ((q : Int) + kS (tstr B n lm) (i + 1)), ?_, rfl, f2.w⟩
      rw [n1]
      simp only [Option.bind_some]
      rw [l_item_bad hbad]
      exact l_ritl_bad (by omega) hbad
end
