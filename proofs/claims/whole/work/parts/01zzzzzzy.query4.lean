/-! query() and answer() of the reference -/
theorem rEn.qr {G G' : xG_} {q c : Nat} {s : pPg} {R : Nat → List pRw} (h : rEn G q c s R) (hx : ∀ a j, 2 ≤ a → a ≤ 36 → ¬ (a = 2 ∧ (j = 14 ∨ j = 37)) → ¬ (11 ≤ a ∧ a ≤ 14 ∧ s.2.2.2.1.length ≤ j) → ¬ (15 ≤ a ∧ a ≤ 22 ∧ j = 24) → ¬ (25 ≤ a ∧ a ≤ 32 ∧ 192 ≤ j) → ¬ (33 ≤ a ∧ a ≤ 34 ∧ 768 ≤ j) → ¬ (35 ≤ a ∧ a ≤ 36 ∧ c ≤ j) → G' a j = G a j) (h14 : G' 2 14 = G 2 14) (h37 : G' 2 37 = G 2 37) (hr : ∀ a j, 107 ≤ a → a ≤ 109 → G' a j = G a j) : rEn G' q c s R := by
  obtain ⟨⟨a1, a2, a3, a4, a5, a6⟩, b, d, e⟩ := h
  have z : ∀ a j, 2 ≤ a → a ≤ 10 → ¬ (a = 2 ∧ (j = 14 ∨ j = 37)) → G' a j = G a j := fun a j _ _ _ => hx a j (by omega) (by omega) (by omega) (by omega) (by omega) (by omega) (by omega) (by omega)
  refine ⟨⟨⟨by rw [z _ _ (by omega) (by omega) (by omega)]; exact a1.1, a1.2.1, fun k hk => by rw [z _ _ (by omega) (by omega) (by omega)]; exact a1.2.2 k hk⟩, ⟨a2.1, by rw [h14]; exact a2.2.1, fun k hk => ?_⟩, ⟨by rw [z _ _ (by omega) (by omega) (by omega)]; exact a3.1, a3.2.1, fun r hr => ?_⟩, fun p hp => ?_, a5, by rw [h37]; exact a6⟩, fun y hy => by rw [z _ _ (by omega) (by omega) (by omega)]; exact b y hy, ⟨fun x hx' => by rw [z _ _ (by omega) (by omega) (by omega)]; exact d.1 x hx', fun x hx' => by rw [z _ _ (by omega) (by omega) (by omega)]; exact d.2 x hx'⟩, e.ge hr⟩
  · rw [hx _ _ (by omega) (by omega) (by omega) (by omega) (by omega) (by omega) (by omega) (by omega), hx _ _ (by omega) (by omega) (by omega) (by omega) (by omega) (by omega) (by omega) (by omega), hx _ _ (by omega) (by omega) (by omega) (by omega) (by omega) (by omega) (by omega) (by omega), hx _ _ (by omega) (by omega) (by omega) (by omega) (by omega) (by omega) (by omega) (by omega)]
    exact a2.2.2 k hk
  · have h1 : rRu (fun a j => if 15 ≤ a ∧ a ≤ 36 then G' a j else G a j) 2 q r c (s.2.2.2.2.1.getD r dRu) := (a3.2.2 r hr).fg (r0 := 24) (c' := c) (m0 := 0) (n0 := 0) (fun a j hj => by
      show (if 15 ≤ a ∧ a ≤ 36 then G' a j else G a j) = G a j
      split
      · exact hx a j (by omega) (by omega) (by omega) (by omega) (by omega) (by omega) (by omega) (by omega)
      · rfl) (by have := a3.2.1; omega) (Nat.le_refl _)
    exact h1.ge (fun a j _ _ => (if_pos (by omega)).symm)
  · rw [z _ _ (by omega) (by omega) (by omega), z _ _ (by omega) (by omega) (by omega), z _ _ (by omega) (by omega) (by omega), z _ _ (by omega) (by omega) (by omega)]
    exact a4 p hp
def xfHq (G G' : xG_) : Prop := ∀ a j, ¬ (a = 0 ∧ (j ≤ 11 ∨ 21 ≤ j ∧ j ≤ 27 ∨ 37 ≤ j ∧ j ≤ 40 ∨ 42 ≤ j ∧ j ≤ 61 ∨ 65 ≤ j ∧ j ≤ 66 ∨ 73 ≤ j ∧ j ≤ 75 ∨ 105 ≤ j ∧ j ≤ 106)) → ¬ (1 ≤ a ∧ a ≤ 36) → ¬ (107 ≤ a ∧ a ≤ 121 ∧ a ≠ 118) → a ≠ 275 → G' a j = G a j
section
variable {f m n hr : Nat} {T : List (List Int)} {lns : Nat → sLn} {t : List Int} {kp : Nat × List (List Int)}
theorem l_368 {G : xG_} (hf : 1000100 < f) (h : rHb G T m lns hr n) (hp : rTp G t) (hk : rKp G kp) :
    ∃ v G' kp', g368 f G = some (v, G') ∧ (∃ s M, isMo T (lMo (lns hr)) s M ∧ stQu s M kp t v (G' 0 75) kp') ∧ rHb G' T m lns hr n ∧ rKp G' kp' ∧ G' 0 73 = 0 ∧ G' 0 74 = 0 ∧ xfHq G G' := by
  obtain ⟨p1, p2, p3⟩ := hp
  let G0 := xup2 (xup2 (xup2 G 0 74 0) 0 73 0) 0 75 (-1)
  have g0 : ∀ a j, ¬ (a = 0 ∧ 73 ≤ j ∧ j ≤ 75) → G0 a j = G a j := fun a j _ => by
    show xup2 _ _ _ _ _ _ = _
    simp (disch := omega) only [xup2_n]
  have h0 : rHb G0 T m lns hr n := h.ge (fun j _ => g0 _ _ (by omega)) (fun a j _ _ => g0 _ _ (by omega)) (fun a j _ _ => g0 _ _ (by omega)) (fun a j _ _ _ => g0 _ _ (by omega))
  obtain ⟨G1, q, c, s, M, k1, k2, k3, k4, k5⟩ := l_ld hf h0
  have g1 : ∀ a j, ¬ (a = 0 ∧ (j ≤ 11 ∨ 21 ≤ j ∧ j ≤ 27 ∨ 37 ≤ j ∧ j ≤ 40 ∨ 42 ≤ j ∧ j ≤ 61 ∨ 65 ≤ j ∧ j ≤ 66)) → ¬ (1 ≤ a ∧ a ≤ 36) → ¬ (107 ≤ a ∧ a ≤ 121 ∧ a ≠ 118) → G1 a j = G0 a j := k2
  have g2 : ∀ a j, ¬ (a = 0 ∧ j = 22) → xup2 G1 0 22 2 a j = G1 a j := fun a j _ => xup2_n (by omega)
  have k4' := k4
  obtain ⟨hP, hPn, hPk, hTb⟩ := k4
  have hP2 : rPr (xup2 G1 0 22 2) 2 q c s := hP.ge (fun j => g2 _ _ (by omega)) (fun a j _ _ _ _ _ => g2 _ _ (by omega))
  have hte : rTe (xup2 G1 0 22 2) 240 0 t := p3.ge (fun j => by rw [g2 _ _ (by omega), g1 _ _ (by omega) (by omega) (by omega), g0 _ _ (by omega)])
  have hC2 : rC (xup2 G1 0 22 2) := k5.1.ge (fun j _ _ => g2 _ _ (by omega))
  obtain ⟨G3, a1, a2, a3⟩ := l_qrd (f := f) (t := t) (by omega) p2 hC2 hte hP2 (xup2_s _ _ _ _)
  have e14 : G1 2 14 = (s.2.2.2.1.length : Int) := hP.2.1.2.1
  have e37 : G1 2 37 = (c : Int) := hP.2.2.2.2.2
  have e0 : g368 f G = g368_86 f (s.2.2.2.1.length : Int) (c : Int) G3 := by
    have e1 : g361 f G = some ((t.length : Int), xup2 (xup2 G 0 74 0) 0 73 0) := by
      unfold g361
      simp only [Option.bind_some]
      rw [xup2_n (by omega), p1]
    unfold g368
    rw [e1, Option.bind_some, Option.bind_some]
    show Option.bind (g296 f G0) _ = _
    rw [k1, Option.bind_some, Option.bind_some, e14, e37]
    exact a1 _
  have g3 : ∀ a j, ¬ (a = 0 ∧ (j ≤ 11 ∨ 21 ≤ j ∧ j ≤ 25)) → ¬ (2 ≤ a ∧ a ≤ 36) → G3 a j = G1 a j := fun a j q1 q2 => by
    rw [a2 a j q1 (by omega) (by omega) (by omega) (by omega) (by omega) (by omega), g2 a j (by omega)]
  have h375 : G3 0 75 = -1 := by
    rw [g3 _ _ (by omega) (by omega), g1 _ _ (by omega) (by omega) (by omega)]
    exact xup2_s _ _ _ _
  have hk3 : rKp G3 kp := hk.ge (fun j _ _ => by rw [g3 _ _ (by omega) (by omega), g1 _ _ (by omega) (by omega) (by omega), g0 _ _ (by omega)]) (fun j => by rw [g3 _ _ (by omega) (by omega), g1 _ _ (by omega) (by omega) (by omega), g0 _ _ (by omega)])
  have bd : g211 f G3 = some (if G3 0 7 = -1 then 0 else 1, G3) := by
    have := l_bad (f := f) (G := G3) (L := G3 0)
    rw [xlx_id] at this
    exact this
  have i1 : ¬ ((1 : Int) = 0) := by decide
  -- behind all: the numbers of mentions and codes come back
  have fin : ∀ (v : Int) (G4 : xG_) (kp' : Nat × List (List Int)), g368_86 f (s.2.2.2.1.length : Int) (c : Int) G3 = g368_107 f (s.2.2.2.1.length : Int) (c : Int) v G4 → xQa G3 G4 → rKp G4 kp' → stQu s M kp t v (G4 0 75) kp' → ∃ v G' kp', g368 f G = some (v, G') ∧ (∃ s M, isMo T (lMo (lns hr)) s M ∧ stQu s M kp t v (G' 0 75) kp') ∧ rHb G' T m lns hr n ∧ rKp G' kp' ∧ G' 0 73 = 0 ∧ G' 0 74 = 0 ∧ xfHq G G' := by
    intro v G4 kp' he hx hk4 hst
    have g5 : ∀ a j, ¬ (a = 2 ∧ (j = 14 ∨ j = 37)) → xup2 (xup2 G4 2 14 (s.2.2.2.1.length : Int)) 2 37 (c : Int) a j = G4 a j := fun a j _ => by rw [xup2_n (by omega), xup2_n (by omega)]
    have g54 : ∀ a j, ¬ (a = 0 ∧ (j ≤ 11 ∨ 21 ≤ j ∧ j ≤ 27 ∨ 37 ≤ j ∧ j ≤ 40 ∨ 42 ≤ j ∧ j ≤ 61 ∨ j = 75 ∨ 105 ≤ j ∧ j ≤ 106)) → ¬ (2 ≤ a ∧ a ≤ 36) → ¬ (110 ≤ a ∧ a ≤ 121 ∧ a ≠ 118) → a ≠ 275 → xup2 (xup2 G4 2 14 (s.2.2.2.1.length : Int)) 2 37 (c : Int) a j = G1 a j := fun a j q1 q2 q3 q4 => by rw [g5 a j (by omega), hx a j (by omega) q3 q4, g3 a j (by omega) q2]
    refine ⟨v, xup2 (xup2 G4 2 14 (s.2.2.2.1.length : Int)) 2 37 (c : Int), kp', ?_, ⟨s, M, k3, by rw [g5 _ _ (by omega)]; exact hst⟩, ?_, hk4.ge (fun j _ _ => g5 _ _ (by omega)) (fun j => g5 _ _ (by omega)), ?_, ?_, fun a j q1 q2 q3 q4 => ?_⟩
    · rw [e0, he]
      rfl
    · have hc := k5.c
      obtain ⟨y1, y2, y3, y4, y5, y6, y7, y8, y9⟩ := k5
      refine rHb.of (hc.ge (fun j _ => g54 _ _ (by omega) (by omega) (by omega) (by omega)) (fun a j _ _ _ => g54 _ _ (by omega) (by omega) (by omega) (by omega))) (by rw [g54 _ _ (by omega) (by omega) (by omega) (by omega)]; exact y3) y4 (by rw [g54 _ _ (by omega) (by omega) (by omega) (by omega)]; exact y6) (by rw [g54 _ _ (by omega) (by omega) (by omega) (by omega)]; exact y7) (by rw [g54 _ _ (by omega) (by omega) (by omega) (by omega), g54 _ _ (by omega) (by omega) (by omega) (by omega)]; exact y8) ?_
      intro w1 k hk' w2 s' M' hM'
      rw [g54 _ _ (by omega) (by omega) (by omega) (by omega), g54 _ _ (by omega) (by omega) (by omega) (by omega)] at w1
      rw [g54 _ _ (by omega) (by omega) (by omega) (by omega)] at w2
      obtain ⟨q', c', hE⟩ := y9 w1 k hk' w2 s' M' hM'
      have em : s'.2.2.2.1.length = s.2.2.2.1.length := by
        have := hE.1.2.1.2.1
        rw [e14] at this
        omega
      have ec : c' = c := by
        have := hE.1.2.2.2.2.2
        rw [e37] at this
        omega
      subst ec
      refine ⟨q', c', hE.qr (fun a j u1 u2 u3 u4 u5 u6 u7 u8 => ?_) ?_ ?_ (fun a j _ _ => g54 _ _ (by omega) (by omega) (by omega) (by omega))⟩
      · rw [em] at u4
        rw [g5 a j u3, hx a j (by omega) (by omega) (by omega), a2 a j (by omega) u3 u4 u5 u6 u7 u8, g2 a j (by omega)]
      · rw [xup2_n (by omega), xup2_s, e14]
      · rw [xup2_s, e37]
    · rw [g54 _ _ (by omega) (by omega) (by omega) (by omega), g1 _ _ (by omega) (by omega) (by omega)]
      show xup2 _ _ _ _ _ _ = _
      rw [xup2_n (by omega), xup2_s]
    · rw [g54 _ _ (by omega) (by omega) (by omega) (by omega), g1 _ _ (by omega) (by omega) (by omega)]
      show xup2 _ _ _ _ _ _ = _
      rw [xup2_n (by omega), xup2_n (by omega), xup2_s]
    · rw [g54 a j (by omega) (by omega) (by omega) q4, g1 a j (by omega) q2 (by omega), g0 a j (by omega)]
  cases hq : qQu t s.1 with
  | inl w =>
    rw [hq] at a3
    replace a3 : G3 0 7 = (w : Int) := a3
    refine fin (xwr (-1 - (w : Int))) G3 kp ?_ (fun _ _ _ _ _ => rfl) hk3 ?_
    · unfold g368_86
      rw [bd, if_neg (by omega), Option.bind_some, if_neg i1]
      show g368_107 f _ _ (xwr (-1 - G3 0 7)) G3 = _
      rw [a3]
    · unfold stQu
      rw [hq]
      exact ⟨rfl, h375, rfl⟩
  | inr r =>
    rw [hq] at a3
    obtain ⟨b1, c', b2, b3, b4, b5⟩ := a3
    have hok := k3.2.2.1
    obtain ⟨v, G4, kp', d1, d2, d3, d4⟩ := l_369 (f := f) (G := G3) (q := q) (s := s) (r := r) (R := M) (t := t) (kp := kp) (by omega) hq hte.tx hP.2.1.1 hP.1.2.1 b2 b3 b4 b5 (fun y hy => by
      have hm := hP.2.1.1
      rw [a2 _ _ (by omega) (by omega) (by omega) (by omega) (by omega) (by omega) (by omega), g2 _ _ (by omega)]; exact hPn y hy) (hTb.ge (fun a j _ _ => g3 _ _ (by omega) (by omega))) k3.2.2.2.2.1.1.1 h375 hk3
    refine fin v G4 kp' ?_ d2 d3 d4
    unfold g368_86
    rw [bd, if_pos b1, Option.bind_some, if_pos rfl, d1, Option.bind_some]
/-- answer() -/
def stAn (kp : Nat × List (List Int)) (i k t v : Int) : Prop := ((0 ≤ i ∧ i < kp.2.length) ∧ 0 ≤ k ∧ k < kp.1) ∧ t = 0 ∧ v = (kp.2.getD i.toNat []).getD k.toNat 0 ∨ ¬ ((0 ≤ i ∧ i < kp.2.length) ∧ 0 ≤ k ∧ k < kp.1) ∧ t = 1 ∧ v = 0
theorem l_370 {G : xG_} {i k : Int} (h : rKp G kp) : ∃ t v G', g370 f i k G = some (v, G') ∧ stAn kp i k t v ∧ G' 0 74 = t ∧ ∀ a j, ¬ (a = 0 ∧ j = 74) → G' a j = G a j := by
  obtain ⟨h1, h2, h3, h4, h5⟩ := h
  have e1 : xup2 G 0 74 0 0 105 = (kp.2.length : Int) := by rw [xup2_n (by omega)]; exact h1
  have e2 : xup2 G 0 74 0 0 106 = (kp.1 : Int) := by rw [xup2_n (by omega)]; exact h2
  have bad : g370_29 f (xup2 G 0 74 0) = some (0, xup2 (xup2 G 0 74 0) 0 74 1) := rfl
  have ng : ∀ {P : Prop}, ¬ P → g370 f i k G = g370_29 f (xup2 G 0 74 0) → (P ↔ ((0 ≤ i ∧ i < kp.2.length) ∧ 0 ≤ k ∧ k < kp.1)) → ∃ t v G', g370 f i k G = some (v, G') ∧ stAn kp i k t v ∧ G' 0 74 = t ∧ ∀ a j, ¬ (a = 0 ∧ j = 74) → G' a j = G a j := fun hP he hi => by
    rw [he, bad]
    exact ⟨1, 0, _, rfl, .inr ⟨fun q => hP (hi.mpr q), rfl, rfl⟩, xup2_s _ _ _ _, fun a j q => by rw [xup2_n (by omega), xup2_n (by omega)]⟩
  have ex : g370 f i k G = (if i < 0 then g370_29 f (xup2 G 0 74 0) else (if (kp.2.length : Int) ≤ i then g370_29 f (xup2 G 0 74 0) else (if k < 0 then g370_29 f (xup2 G 0 74 0) else (if k < (kp.1 : Int) then (if 0 ≤ (xwr ((xwr (8 * i)) + k)) ∧ (xwr ((xwr (8 * i)) + k)) < 4000 then some (xup2 G 0 74 0 275 (xwr ((xwr (8 * i)) + k)).toNat, xup2 G 0 74 0) else none) else g370_29 f (xup2 G 0 74 0))))) := by
    unfold g370 g370_48
    rw [Option.bind_some, e1, e2]
  by_cases c1 : i < 0
  · exact ng (P := 0 ≤ i ∧ i < kp.2.length ∧ 0 ≤ k ∧ k < kp.1) (by omega) (by rw [ex, if_pos c1]) (by omega)
  by_cases c2 : (kp.2.length : Int) ≤ i
  · exact ng (P := 0 ≤ i ∧ i < kp.2.length ∧ 0 ≤ k ∧ k < kp.1) (by omega) (by rw [ex, if_neg c1, if_pos c2]) (by omega)
  by_cases c3 : k < 0
  · exact ng (P := 0 ≤ i ∧ i < kp.2.length ∧ 0 ≤ k ∧ k < kp.1) (by omega) (by rw [ex, if_neg c1, if_neg c2, if_pos c3]) (by omega)
  by_cases c4 : k < (kp.1 : Int)
  · obtain ⟨i, rfl⟩ : ∃ x : Nat, i = (x : Int) := ⟨i.toNat, by omega⟩
    obtain ⟨k, rfl⟩ : ∃ x : Nat, k = (x : Int) := ⟨k.toNat, by omega⟩
    have e3 : xwr ((xwr (8 * (i : Int))) + (k : Int)) = ((8 * i + k : Nat) : Int) := by
      rw [xwr_g (8 * (i : Int)) (by omega) (by omega), xwr_g _ (by omega) (by omega)]; omega
    refine ⟨0, (kp.2.getD i []).getD k 0, xup2 G 0 74 0, ?_, .inl ⟨⟨⟨by omega, by omega⟩, by omega, by omega⟩, rfl, by rw [Int.toNat_natCast, Int.toNat_natCast]⟩, xup2_s _ _ _ _, fun a j q => xup2_n (by omega)⟩
    rw [ex, if_neg c1, if_neg c2, if_neg c3, if_pos c4, e3, if_pos (by omega), Int.toNat_natCast, xup2_n (by omega), (h5 i (by omega)).2 k (by omega)]
  · exact ng (P := 0 ≤ i ∧ i < kp.2.length ∧ 0 ≤ k ∧ k < kp.1) (by omega) (by rw [ex, if_neg c1, if_neg c2, if_neg c3, if_neg c4]) (by omega)
end
