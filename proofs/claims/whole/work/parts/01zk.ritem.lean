/-! The reference reads ITEMS -/
def xfi (o r x v0 c0 : Nat) (G G' : xG_) : Prop := ∀ a j, ¬ ((a = 0 ∧ (j = 21 ∨ j = 25)) ∨ (a = o ∧ j = 37) ∨ (o + 15 ≤ a ∧ a ≤ o + 18 ∧ j = r) ∨ (a = o + 20 ∧ j = r) ∨ ((a = o + 21 ∨ a = o + 22) ∧ x ≤ j) ∨ ((a = o + 23 ∨ a = o + 24) ∧ 8 * r + v0 ≤ j) ∨ ((a = o + 33 ∨ a = o + 34) ∧ c0 ≤ j)) → G' a j = G a j
theorem xfi.tr {o r x v0 c0 x1 v1 c1 : Nat} {G G1 G2 : xG_} (h : xfi o r x v0 c0 G G1) (h1 : xfi o r x1 v1 c1 G1 G2) (hx : x ≤ x1) (hv : v0 ≤ v1) (hc : c0 ≤ c1) : xfi o r x v0 c0 G G2 := by
  intro a j hj
  rw [h1 a j (by omega), h a j hj]
theorem xfi.rf (o r x v0 c0 : Nat) (G : xG_) : xfi o r x v0 c0 G G := fun _ _ _ => rfl
theorem xfi.up {o r x v0 c0 a j : Nat} {v : Int} (G : xG_) (h : (a = 0 ∧ (j = 21 ∨ j = 25)) ∨ (a = o ∧ j = 37) ∨ (o + 15 ≤ a ∧ a ≤ o + 18 ∧ j = r) ∨ (a = o + 20 ∧ j = r) ∨ ((a = o + 21 ∨ a = o + 22) ∧ x ≤ j) ∨ ((a = o + 23 ∨ a = o + 24) ∧ 8 * r + v0 ≤ j) ∨ ((a = o + 33 ∨ a = o + 34) ∧ c0 ≤ j)) : xfi o r x v0 c0 G (xup2 G a j v) := by
  intro a' j' hj
  exact xup2_n (fun e => hj (by rw [e.1, e.2]; exact h))
theorem xfe.fi {o r x v0 c0 : Nat} {G G1 : xG_} (h : xfe o r v0 c0 G G1) : xfi o r x v0 c0 G G1 := fun a j hj => h a j (by omega)
theorem rEv.fi {G G' : xG_} {q n o r x v0 c0 : Nat} {B : Nat → Int} {lm : Bool} (h : rEv G q B n lm o) (hf : xfi o r x v0 c0 G G') : rEv G' q B n lm o := by
  obtain ⟨⟨a1, a2, a3, a4, a5⟩, b, c, d, e⟩ := h
  have g0 : ∀ j, j ≤ 20 ∨ j = 22 → G' 0 j = G 0 j := fun j hj => hf 0 j (by omega)
  have gb : ∀ j, G' (G 0 0).toNat j = G (G 0 0).toNat j := fun j => hf _ j (by have := a1.1; omega)
  refine ⟨⟨?_, a2, ?_, ?_, ?_⟩, ?_, ?_, ?_, e⟩
  · unfold gT
    rw [g0 0 (by omega), g0 1 (by omega)]
    exact a1
  · rw [g0 1 (by omega)]; exact a3
  · intro p
    rw [← a4 p]
    unfold gB
    rw [g0 0 (by omega), g0 1 (by omega), gb]
  · intro p hp
    rw [g0 0 (by omega), gb]
    exact a5 p hp
  · rw [g0 11 (by omega)]; exact b
  · unfold rC
    rw [g0 12 (by omega), g0 13 (by omega), g0 14 (by omega), g0 15 (by omega), g0 16 (by omega), g0 17 (by omega), g0 18 (by omega), g0 19 (by omega), g0 20 (by omega)]
    exact c
  · rw [g0 22 (by omega)]; exact d
/-- an ITEM's codes -/
def rIc (G : xG_) (o x c : Nat) (Q : pCd) : Prop := ∃ a : Nat, G (o + 21) x = (a : Int) ∧ G (o + 22) x = ((a + Q.length : Nat) : Int) ∧ a + Q.length ≤ c ∧ rCo G o a Q
def rGa (G : xG_) (o r : Nat) (g : Int × Int × Int) : Prop := G (o + 16) r = (if g.1 = 0 then 0 else g.1 - 9) ∧ G (o + 17) r = g.2.1 ∧ G (o + 18) r = g.2.2 ∧ (g.1 = 0 ∧ g.2.1 = -1 ∧ g.2.2 = -1 ∨ 10 ≤ g.1 ∧ g.1 ≤ 13)
def rIS (G : xG_) (q : Nat) (B : Nat → Int) (n : Nat) (lm : Bool) (o r c : Nat) (V : List (Int × Nat)) (g : Int × Int × Int) (I : List pCd) : Prop :=
  rX G q B n lm o r V c [] 0 ∧ G (o + 15) r = (I.length : Int) ∧ I.length ≤ 4 ∧ rGa G o r g ∧ ∀ k, k < I.length → rIc G o (4 * r + k) c (I.getD k [])
theorem rIc.fi {G G' : xG_} {o r x c c' v0 x0 : Nat} {Q : pCd} (h : rIc G o x c Q) (hf : xfi o r x0 v0 c G G') (hx : x < x0) (hc : c ≤ c') : rIc G' o x c' Q := by
  obtain ⟨a, a1, a2, a3, a4⟩ := h
  refine ⟨a, by rw [hf _ _ (by omega)]; exact a1, by rw [hf _ _ (by omega)]; exact a2, by omega, fun j hj => ?_⟩
  rw [hf _ _ (by omega), hf _ _ (by omega)]
  exact a4 j hj
section
variable {f q n o r c cb F : Nat} {B : Nat → Int} {lm : Bool} {G : xG_} {L : Nat → Int} {V : List (Int × Nat)} {g : Int × Int × Int} {I : List pCd}
theorem l_i236 {x m c : Nat} (hE : rEv G q B n lm o) (h23 : G 0 23 = (r : Int)) (hr : r ≤ 24) (hx : x < 100) (hm : G (o + 15) r = (m : Int)) (hm4 : m ≤ 4) : g238_236 f (x : Int) (xlx G L) = some (xlx (xup2 (xup2 G (o + 22) x (G o 37)) (o + 15) r ((m + 1 : Nat) : Int)) L) := by
  have h22 := hE.2.2.2.1
  have ho := hE.2.2.2.2
  unfold g238_236
  rw [xlx_o _ _ (by omega), h22, if_neg (by omega), if_neg (by omega), if_pos (by omega), Int.toNat_natCast, Int.toNat_natCast, xlx_o _ _ (by omega), xlx_upo _ _ _ (by omega)]
  simp only [Option.bind_some]
  rw [xlx_o _ _ (by omega), xup2_n (by omega), h22, if_neg (by omega), xlx_o _ _ (by omega), xup2_n (by omega), h23, if_pos (by omega), if_pos (by omega), Int.toNat_natCast, Int.toNat_natCast, xlx_o _ _ (by omega), xup2_n (by omega), hm, xwr_g _ (by omega) (by omega), xlx_upo _ _ _ (by omega)]
  rfl
theorem l_item_bad (h : L 7 ≠ -1) : g238 f (xlx G L) = some (xlx G L) := by
  unfold g238
  rw [l_bad, if_neg h]
  simp only [Option.bind_some]
  rw [if_neg (by decide)]
theorem l_item_e {i : Nat} (hS : rIS G q B n lm o r c V g I) (hA : rAt q B n lm i L) : g238 f (xlx G L) = g238_89 f ((4 * r + I.length : Nat) : Int) (if 10 ≤ kK (tstr B n lm) i ∧ kK (tstr B n lm) i ≤ 13 then kK (tstr B n lm) i - 9 else 0) (xlx G L) := by
  obtain ⟨⟨hE, h23, hr, hV, h37, _, h25⟩, h15, hI4, hg, hI⟩ := hS
  have h22 := hE.2.2.2.1
  have ho := hE.2.2.2.2
  have hC := hE.2.2.1
  have ex : xwr (xwr ((r : Int) * 4) + (I.length : Int)) = ((4 * r + I.length : Nat) : Int) := by rw [xwr_g ((r : Int) * 4) (by omega) (by omega), xwr_g _ (by omega) (by omega)]; omega
  unfold g238
  rw [l_bad, if_pos hA.1]
  simp only [Option.bind_some]
  rw [if_pos trivial, xlx_o _ _ (by omega), h22, if_neg (by omega), xlx_o _ _ (by omega), h23, if_pos (by omega), Int.toNat_natCast, Int.toNat_natCast, xlx_o G L (o := o + 15) (by omega), h15, ex, xlx_o _ _ (by omega), hC.2.2.2.2.1, hA.isword hE (c := 7109364) (k := 10) rfl (fun x h => tres_inv.2.2.2.2.1 h) (by decide)]
  simp only [Option.bind_some, i10]
  by_cases c1 : kK (tstr B n lm) i = 10
  · rw [if_neg (fun h => h c1), c1]
    rfl
  rw [if_pos c1, xlx_o _ _ (by omega), hC.2.2.2.2.2.1, hA.isword hE (c := 28247) (k := 11) rfl (fun x h => tres_inv.2.2.2.2.2.1 h) (by decide)]
  simp only [Option.bind_some, i10]
  by_cases c2 : kK (tstr B n lm) i = 11
  · rw [if_neg (fun h => h c2), c2]
    rfl
  rw [if_pos c2, xlx_o _ _ (by omega), hC.2.2.2.2.2.2.1, hA.isword hE (c := 25298178) (k := 12) rfl (fun x h => tres_inv.2.2.2.2.2.2.1 h) (by decide)]
  simp only [Option.bind_some, i10]
  by_cases c3 : kK (tstr B n lm) i = 12
  · rw [if_neg (fun h => h c3), c3]
    rfl
  rw [if_pos c3, xlx_o _ _ (by omega), hC.2.2.2.2.2.2.2.1, hA.isword hE (c := 735738) (k := 13) rfl (fun x h => tres_inv.2.2.2.2.2.2.2 h) (by decide)]
  simp only [Option.bind_some, i10]
  by_cases c4 : kK (tstr B n lm) i = 13
  · rw [if_neg (fun h => h c4), c4]
    rfl
  rw [if_pos c4, if_neg (by omega)]
/-- what reading of an ITEM does -/
def rIP (f q : Nat) (B : Nat → Int) (n : Nat) (lm : Bool) (o r cb : Nat) (G : xG_) (L : Nat → Int) (c : Nat) (V : List (Int × Nat)) (I : List pCd) (e : xG_ → Option xG_) (p : Nat ⊕ pIt) : Prop :=
  pok p (fun w => ∃ G' L', e (xlx G L) = some (xlx G' L') ∧ L' 7 = (q : Int) + w ∧ xfi o r (4 * r + I.length) V.length c G G' ∧ 0 ≤ G' (o + 20) r ∧ G' (o + 20) r ≤ 8 ∧ 0 ≤ G' (o + 15) r ∧ G' (o + 15) r ≤ 4)
    (fun s => ∃ G' L' c', e (xlx G L) = some (xlx G' L') ∧ rAt q B n lm s.2.2.2 L' ∧ xfi o r (4 * r + I.length) V.length c G G' ∧ rIS G' q B n lm o r c' s.1 s.2.1 s.2.2.1 ∧ c ≤ c' ∧ c' ≤ cb + s.2.2.2)
/-- the end of an ITEM, well or not -/
theorem l_iend {G1 : xG_} {L1 : Nat → Int} (hS : rIS G q B n lm o r c V g I) (h4 : I.length < 4) (hf1 : xfi o r (4 * r + I.length) V.length c G G1) (h15 : G1 (o + 15) r = (I.length : Int)) : g238_236 f ((4 * r + I.length : Nat) : Int) (xlx G1 L1) = some (xlx (xup2 (xup2 G1 (o + 22) (4 * r + I.length) (G1 o 37)) (o + 15) r ((I.length + 1 : Nat) : Int)) L1) ∧ xfi o r (4 * r + I.length) V.length c G (xup2 (xup2 G1 (o + 22) (4 * r + I.length) (G1 o 37)) (o + 15) r ((I.length + 1 : Nat) : Int)) := by
  obtain ⟨⟨hE, h23, hr, hV, h37, _, h25⟩, _, hI4, hg, hI⟩ := hS
  have ho := hE.2.2.2.2
  refine ⟨l_i236 (c := 0) (hE.fi hf1) (by rw [hf1 _ _ (by omega)]; exact h23) hr (by omega) h15 (by omega), (hf1.tr (xfi.up _ (by omega)) (Nat.le_refl _) (Nat.le_refl _) (Nat.le_refl _)).tr (xfi.up _ (by omega)) (Nat.le_refl _) (Nat.le_refl _) (Nat.le_refl _)⟩
/-- an EXPRESSION as an ITEM -/
theorem l_item_x {i : Nat} (hf : n + 20 < f) (hcb : cb + n + 3 ≤ 6200) (hF : 4 * (n + 1 - i) + 2 ≤ F) (hS : rIS G q B n lm o r c V g I) (hA : rAt q B n lm i L) (hc : c ≤ cb + i) (h4 : I.length < 4) (hK : ¬ (10 ≤ kK (tstr B n lm) i ∧ kK (tstr B n lm) i ≤ 13)) :
    rIP f q B n lm o r cb G L c V I (g238 f) (pbind (pX (tstr B n lm) F 1 0 (V, [], i)) fun e => .inr (e.1, g, I ++ [e.2.1], e.2.2)) := by
  have e0 := l_item_e (f := f) hS hA
  rw [if_neg hK] at e0
  have hS' := hS
  obtain ⟨⟨hE, h23, hr, hV, h37, hCo, h25⟩, h15, hI4, hg, hI⟩ := hS'
  have h22 := hE.2.2.2.1
  have ho := hE.2.2.2.2
  have h37' : G o 37 = (c : Int) := h37
  have f0 : xfi o r (4 * r + I.length) V.length c G (xup2 G (o + 21) (4 * r + I.length) (c : Int)) := xfi.up _ (by omega)
  have e1 : g238 f (xlx G L) = (g243 f (xlx (xup2 G (o + 21) (4 * r + I.length) (c : Int)) L)).bind fun R183 => g238_236 f ((4 * r + I.length : Nat) : Int) R183 := by
    rw [e0]
    unfold g238_89
    rw [xlx_o _ _ (by omega), h22, if_neg (by omega), if_neg (by omega), if_pos (by omega), Int.toNat_natCast, Int.toNat_natCast, xlx_o _ _ (by omega), h37', xlx_upo _ _ _ (by omega)]
    simp only [Option.bind_some]
    rw [if_neg (fun h => h trivial)]
  have hX0 : rX (xup2 G (o + 21) (4 * r + I.length) (c : Int)) q B n lm o r V c [] 0 := ⟨hE.fi f0, by rw [xup2_n (by omega)]; exact h23, hr, hV.ot (fun j => xup2_n (by omega)) (fun j => xup2_n (by omega)) (fun j => xup2_n (by omega)), by rw [xup2_n (by omega)]; exact h37, fun j hj => absurd hj (by simp), by rw [xup2_n (by omega)]; exact h25⟩
  have h1 := l_ex (f := f) hf hcb hF hX0 hA (by show c + 0 ≤ cb + i; omega)
  unfold rIP
  rw [e1]
  cases hp : pX (tstr B n lm) F 1 0 (V, [], i) with
  | inl w =>
    rw [hp] at h1
    obtain ⟨G1, L1, a1, a2, a3, a4, a5⟩ := h1
    have a3' : xfe o r V.length c (xup2 G (o + 21) (4 * r + I.length) (c : Int)) G1 := a3
    have f1 := f0.tr (a3'.fi (x := 4 * r + I.length)) (Nat.le_refl _) (Nat.le_refl _) (Nat.le_refl _)
    have k15 : G1 (o + 15) r = (I.length : Int) := by rw [a3 _ _ (by omega), xup2_n (by omega)]; exact h15
    obtain ⟨b1, b2⟩ := l_iend (f := f) (L1 := L1) hS h4 f1 k15
    refine ⟨_, L1, by rw [a1]; exact b1, a2, b2, ?_⟩
    rw [xup2_n (by omega), xup2_n (by omega), xup2_s]
    omega
  | inr e =>
    rw [hp] at h1
    obtain ⟨G1, L1, a1, a2, a3, a4⟩ := h1
    have a3' : xfe o r V.length c (xup2 G (o + 21) (4 * r + I.length) (c : Int)) G1 := a3
    have hle := pX_le F 1 0 (V, [], i) e (by decide) hp
    simp only [List.length_nil] at hle
    have f1 := f0.tr (a3'.fi (x := 4 * r + I.length)) (Nat.le_refl _) (Nat.le_refl _) (Nat.le_refl _)
    have k15 : G1 (o + 15) r = (I.length : Int) := by rw [a3 _ _ (by omega), xup2_n (by omega)]; exact h15
    obtain ⟨b1, b2⟩ := l_iend (f := f) (L1 := L1) hS h4 f1 k15
    obtain ⟨d1, d2, d3, d4, d5, d6, d7⟩ := a4
    refine ⟨_, L1, c + e.2.1.length, by rw [a1]; exact b1, a2, b2, ⟨⟨hE.fi b2, by rw [xup2_n (by omega), xup2_n (by omega)]; exact d2, hr, d4.ot (fun j => ?_) (fun j => ?_) (fun j => ?_), ?_, fun j hj => absurd hj (by simp), ?_⟩, ?_, by rw [len1]; omega, ⟨?_, ?_, ?_, hg.2.2.2⟩, fun k hk => ?_⟩, by omega, by show c + e.2.1.length ≤ cb + e.2.2; omega⟩
    · rw [xup2_n (by omega), xup2_n (by omega)]
    · rw [xup2_n (by omega), xup2_n (by omega)]
    · rw [xup2_n (by omega), xup2_n (by omega)]
    · rw [xup2_n (by omega), xup2_n (by omega)]; exact d5
    · rw [xup2_n (by omega), xup2_n (by omega)]; exact d7
    · rw [len1, xup2_s]
    · rw [xup2_n (by omega), xup2_n (by omega), a3 _ _ (by omega), xup2_n (by omega)]; exact hg.1
    · rw [xup2_n (by omega), xup2_n (by omega), a3 _ _ (by omega), xup2_n (by omega)]; exact hg.2.1
    · rw [xup2_n (by omega), xup2_n (by omega), a3 _ _ (by omega), xup2_n (by omega)]; exact hg.2.2.1
    · rw [len1] at hk
      rw [getD_1]
      by_cases ck : k = I.length
      · rw [if_pos ck, ck]
        refine ⟨c, ?_, ?_, Nat.le_refl _, fun j hj => ?_⟩
        · rw [xup2_n (by omega), xup2_n (by omega), a3 _ _ (by omega), xup2_s]
        · rw [xup2_n (by omega), xup2_s]; exact d5
        · rw [xup2_n (by omega), xup2_n (by omega), xup2_n (by omega), xup2_n (by omega)]
          exact d6 j hj
      · rw [if_neg ck]
        exact (hI k (by omega)).fi b2 (by omega) (by omega)
end
