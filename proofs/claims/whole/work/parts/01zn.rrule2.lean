/-! The reference reads rules: from the ) of the HEAD on -/
section
variable {f q n o r i c cb F : Nat} {B : Nat → Int} {lm : Bool} {G : xG_} {L : Nat → Int} {N : List Int} {V : List (Int × Nat)} {g : Int × Int × Int} {I : List pCd} {M : List pMn}
theorem l_r176 (hf : n + 20 < f) (hE : rEv G q B n lm o) (h9 : G o 9 = (r : Int)) (hr : r < 24) (hA : rAt q B n lm i L) :
    pok (pNeed (tstr B n lm) 46 i) (fun w => ∃ G' L', g237_176 f (xlx G L) = some (xlx G' L') ∧ L' 7 = (q : Int) + w ∧ G' = xup2 G o 9 ((r + 1 : Nat) : Int))
      (fun j => ∃ L', g237_176 f (xlx G L) = some (xlx (xup2 G o 9 ((r + 1 : Nat) : Int)) L') ∧ rAt q B n lm j L') := by
  have h22 := hE.2.2.2.1
  have ho := hE.2.2.2.2
  have key : ∀ L1, g222 f 46 (xlx G L) = some (xlx G L1) → g237_176 f (xlx G L) = some (xlx (xup2 G o 9 ((r + 1 : Nat) : Int)) L1) := by
    intro L1 e
    unfold g237_176
    rw [e]
    simp only [Option.bind_some]
    rw [xlx_o _ _ (by omega), h22, if_neg (by omega), Int.toNat_natCast, xlx_o _ _ (by omega), h9, xwr_g _ (by omega) (by omega), xlx_upo _ _ _ (by omega)]
    rfl
  unfold pNeed
  by_cases c1 : kK (tstr B n lm) i = 46
  · rw [if_pos c1]
    obtain ⟨L1, n1, n2⟩ := l_need hf hE hA (c := 46) (by unfold isSg; omega) c1
    exact ⟨L1, key L1 n1, n2⟩
  · rw [if_neg c1]
    have n1 := l_need_no (f := f) hE hA (c := 46) (by unfold isSg; omega) c1
    exact ⟨_, _, key _ n1, rfl, rfl⟩
theorem l_r176_bad (hE : rEv G q B n lm o) (h9 : G o 9 = (r : Int)) (hr : r < 24) (h : L 7 ≠ -1) : g237_176 f (xlx G L) = some (xlx (xup2 G o 9 ((r + 1 : Nat) : Int)) L) := by
  have h22 := hE.2.2.2.1
  have ho := hE.2.2.2.2
  unfold g237_176
  rw [l_need_bad h]
  simp only [Option.bind_some]
  rw [xlx_o _ _ (by omega), h22, if_neg (by omega), Int.toNat_natCast, xlx_o _ _ (by omega), h9, xwr_g _ (by omega) (by omega), xlx_upo _ _ _ (by omega)]
  rfl
/-- a rule behind its HEAD's ) -/
def pBody (t : tStr) (F : Nat) (N : List Int) (V : List (Int × Nat)) (M : List pMn) (i : Nat) : Nat ⊕ (pRs × Nat) :=
  pbind (if kK t i = 256 then pbind (pLit t true F (N, V, [], M, i + 1)) (pLits t true F 9) else .inr (N, V, [], M, i)) fun l => pbind (pNeed t 46 l.2.2.2.2) fun i => .inr (l, i)
def rFl (o : Nat) (p : Int) (G G' : xG_) : Prop := ∀ a j, (o + 2 ≤ a ∧ a ≤ o + 3 ∨ o + 6 ≤ a ∧ a ≤ o + 8) → G' a j = if a = o + 8 ∧ (j : Int) = p then 1 else G a j
theorem l_body (hf : n + 20 < f) (hcb : cb + n + 3 ≤ 6200) (hF : 4 * (n + 1 - i) + 4 ≤ F) (hr : r < 24) (hS : rRS G q B n lm o r c N V [] M) (h9 : G o 9 = (r : Int)) (hA : rAt q B n lm i L) (hc : c ≤ cb + i) :
    pok (pBody (tstr B n lm) F N V M i) (fun w => ∃ G' L', ((g220 f (300) (xlx G L)).bind fun R147 => (if (R147.1) = 0 then g237_176 f R147.2 else ((g213 f R147.2).bind fun R153 => ((g246 f R153).bind fun R158 => g237_176 f R158)))) = some (xlx G' L') ∧ L' 7 = (q : Int) + w ∧ xfg o r c (min M.length 420) N.length G G')
      (fun z => ∃ G' L' c', ((g220 f (300) (xlx G L)).bind fun R147 => (if (R147.1) = 0 then g237_176 f R147.2 else ((g213 f R147.2).bind fun R153 => ((g246 f R153).bind fun R158 => g237_176 f R158)))) = some (xlx G' L') ∧ rAt q B n lm z.2 L' ∧ xfl o r (8 * r) V.length c (min M.length 420) N.length G (xup2 G' o 9 (r : Int)) ∧ G' o 9 = ((r + 1 : Nat) : Int) ∧ rRS G' q B n lm o r c' z.1.1 z.1.2.1 z.1.2.2.1 z.1.2.2.2.1 ∧ c ≤ c' ∧ c' ≤ cb + z.2) := by
  have hE := hS.1
  have ho := hE.2.2.2.2
  have hs := hA.issign (f := f) hE (c := 256) (by unfold isSg; omega)
  rw [show rsc 256 = 300 from rfl] at hs
  rw [hs]
  simp only [Option.bind_some, i10]
  have fin : ∀ (G1 : xG_) (L1 : Nat → Int) (s : pRs) (c1 : Nat), rRS G1 q B n lm o r c1 s.1 s.2.1 s.2.2.1 s.2.2.2.1 → rAt q B n lm s.2.2.2.2 L1 → G1 o 9 = (r : Int) → xfl o r (8 * r) V.length c (min M.length 420) N.length G G1 → c ≤ c1 → c1 ≤ cb + s.2.2.2.2 →
      pok (pbind (pNeed (tstr B n lm) 46 s.2.2.2.2) fun i => (.inr (s, i) : Nat ⊕ (pRs × Nat))) (fun w => ∃ G' L', g237_176 f (xlx G1 L1) = some (xlx G' L') ∧ L' 7 = (q : Int) + w ∧ xfg o r c (min M.length 420) N.length G G')
      (fun z => ∃ G' L' c', g237_176 f (xlx G1 L1) = some (xlx G' L') ∧ rAt q B n lm z.2 L' ∧ xfl o r (8 * r) V.length c (min M.length 420) N.length G (xup2 G' o 9 (r : Int)) ∧ G' o 9 = ((r + 1 : Nat) : Int) ∧ rRS G' q B n lm o r c' z.1.1 z.1.2.1 z.1.2.2.1 z.1.2.2.2.1 ∧ c ≤ c' ∧ c' ≤ cb + z.2) := by
    intro G1 L1 s c1 k1 k2 k3 k4 k5 k6
    have h1 := l_r176 (f := f) hf k1.1 k3 hr k2
    cases hp : pNeed (tstr B n lm) 46 s.2.2.2.2 with
    | inl w =>
      rw [hp] at h1
      obtain ⟨G', L', a1, a2, a3⟩ := h1
      exact ⟨G', L', a1, a2, by rw [a3]; exact (k4.fg (Nat.le_refl _)).tr (xfg.up _ (by omega)) (Nat.le_refl _) (Nat.le_refl _) (Nat.le_refl _) (Nat.le_refl _)⟩
    | inr j =>
      rw [hp] at h1
      obtain ⟨L', a1, a2⟩ := h1
      have hj := pNeed_le hp
      have e9 : xup2 (xup2 G1 o 9 ((r + 1 : Nat) : Int)) o 9 (r : Int) = G1 := by rw [xup2_w, xup2_id k3]
      obtain ⟨hE', h23, hr', hN, hV, h37, hL, hM, h24, ha3, h25⟩ := k1
      refine ⟨_, L', c1, a1, a2, by rw [e9]; exact k4, xup2_s _ _ _ _, ⟨hE'.fg (r := r) (c0 := 0) (m0 := 0) (n0 := 0) (xfg.up _ (by omega)), by rw [xup2_n (by omega)]; exact h23, hr', ⟨by rw [xup2_n (by omega)]; exact hN.1, hN.2.1, fun k hk => by rw [xup2_n (by omega)]; exact hN.2.2 k hk⟩, hV.ot (fun j => xup2_n (by omega)) (fun j => xup2_n (by omega)) (fun j => xup2_n (by omega)), by rw [xup2_n (by omega)]; exact h37, ⟨by rw [xup2_n (by omega)]; exact hL.1, hL.2.1, fun k hk => (hL.2.2 k hk).fr (Nat.le_refl _) (fun a _ _ => xup2_n (by omega)) (fun k' _ => ⟨xup2_n (by omega), xup2_n (by omega)⟩) (fun j _ => ⟨xup2_n (by omega), xup2_n (by omega)⟩)⟩, hM.fr (xup2_n (by omega)) (fun a j _ _ => xup2_n (by omega)), by rw [xup2_n (by omega)]; exact h24, ha3, by rw [xup2_n (by omega)]; exact h25⟩, k5, by show c1 ≤ cb + j; omega⟩
  unfold pBody
  by_cases c1 : kK (tstr B n lm) i = 256
  · rw [if_pos c1]
    simp only [if_neg (fun h : ¬ _ => h c1)]
    obtain ⟨_, L1, p1, p2⟩ := hA.sg (f := f) hf hE c1 (by unfold isSg; omega)
    rw [p1]
    simp only [Option.bind_some]
    have h1 := l_lits (f := f) (F := F) (tell := true) hf hcb (by constructor <;> intro _ <;> first | omega | rfl) (show 4 * (n + 1 - (i + 1)) + 4 ≤ F by omega) hS p2 (show c ≤ cb + (i + 1) by omega)
    unfold rLP at h1
    cases hp : pbind (pLit (tstr B n lm) true F (N, V, [], M, i + 1)) (pLits (tstr B n lm) true F 9) with
    | inl w =>
      rw [hp] at h1
      obtain ⟨G1, L2, a1, a2, a3, a4⟩ := h1
      have a3' : xfl o r (8 * r) V.length c (min M.length 420) N.length G G1 := a3
      refine ⟨xup2 G1 o 9 ((r + 1 : Nat) : Int), L2, ?_, a2, (a3'.fg (Nat.le_refl _)).tr (xfg.up _ (by omega)) (Nat.le_refl _) (Nat.le_refl _) (Nat.le_refl _) (Nat.le_refl _)⟩
      rw [a1]
      exact l_r176_bad (hE.fl a3) (by rw [a3' _ _ (by omega)]; exact h9) hr (by omega)
    | inr s =>
      rw [hp] at h1
      obtain ⟨G1, L2, c2, a1, a2, a3, a4, a5, a6⟩ := h1
      have a3' : xfl o r (8 * r) V.length c (min M.length 420) N.length G G1 := a3
      rw [a1]
      exact fin G1 L2 s c2 a4 a2 (by rw [a3' _ _ (by omega)]; exact h9) a3' a5 a6
  · rw [if_neg c1]
    simp only [if_pos c1]
    exact fin G L (N, V, [], M, i) c hS hA h9 (.rf _ _ _ _ _ _ _ _) (Nat.le_refl _) hc
end
