/-! query() of the reference -/
section
variable {f q c' : Nat} {s : pPg} {r : pRs} {R : Nat → List pRw} {t : List Int} {kp : Nat × List (List Int)}
theorem qQf_e {k a : Int} : qQf s r k a ↔ qFm s r.2.2.2.1 k a ∨ k = 4 ∧ ∃ v, isF4 r.2.1 r.2.2.1 v ∧ a = ((0 : Nat) : Int) + (r.2.1.getD v (0, 0)).2 := by
  unfold qQf qFm
  constructor
  · rintro (h | h | ⟨h, v, h1, h2⟩)
    · exact .inl (.inl h)
    · exact .inl (.inr h)
    · exact .inr ⟨h, v, h1, by omega⟩
  · rintro ((h | h) | ⟨h, v, h1, h2⟩)
    · exact .inl h
    · exact .inr (.inl h)
    · exact .inr (.inr ⟨h, v, h1, by omega⟩)
theorem l_369 {G : xG_} (hf : 6400 < f) (hq : qQu t s.1 = .inr r) (hB : tTx (tBt t) t.length) (h376 : s.2.2.2.1.length ≤ 376) (h16 : s.1.length ≤ 16) (hc : c' ≤ 6200) (hV : rVs G 2 0 24 r.2.1) (hL : rLs G 2 24 c' r.2.2.1) (hM : rMs G 2 0 (mSh q s.2.2.2.1 ++ r.2.2.2.1)) (hP : rPn G 2 s) (hT : rTb G s.1.length (qN s) R) (hR : qTb s R) (h75 : G 0 75 = -1) (hk : rKp G kp) :
    ∃ v G' kp', g369 f (s.2.2.2.1.length : Int) G = some (v, G') ∧ xQa G G' ∧ rKp G' kp' ∧ stQu s R kp t v (G' 0 75) kp' := by
  obtain ⟨w1, w2, w3⟩ := qQu_wf hB hq
  have w3n : ∀ l ∈ r.2.2.1, wLt s.1.length r.2.1.length l := by rw [← w1]; exact w3.1
  have w3m : ∀ m ∈ r.2.2.2.1, -1 ≤ m.1 ∧ m.1 < s.1.length := by rw [← w1]; exact w3.2.2.1
  have h8 : r.2.2.2.1.length ≤ 8 := Nat.le_trans w2.2.1 w2.2.2.2
  have g0 : ∀ a j, ¬ (a = 0 ∧ j = 26) → xup2 G 0 26 0 a j = G a j := fun a j h => xup2_n (by omega)
  have hF0 : rF (xup2 G 0 26 0) (fun _ _ => False) := .inl ⟨xup2_s _ _ _ _, fun _ _ h => h⟩
  obtain ⟨G1, a1, a2, a3⟩ := l_369_7 (f := f) (q := q) (r := r) (s := s) h376 h8 w3m h16 r.2.2.2.1.length 0 f (xup2 G 0 26 0) _ (by omega) (by omega) (hM.fr (g0 _ _ (by omega)) (fun a j _ _ => g0 _ _ (by omega))) (fun y hy => by rw [g0 _ _ (by omega)]; exact hP y hy) hF0
  have g1 : ∀ a j, ¬ (a = 0 ∧ (j = 26 ∨ j = 27)) → G1 a j = G a j := fun a j h => by rw [a2 a j h, g0 a j (by omega)]
  have hL1 : ∀ {Z : xG_}, (∀ a j, 2 ≤ a → a ≤ 36 → Z a j = G a j) → rLs Z 2 24 c' r.2.2.1 := fun {Z} h1 => ⟨by rw [h1 _ _ (by omega) (by omega)]; exact hL.1, hL.2.1, fun k hk => (hL.2.2 k hk).fr (Nat.le_refl _) (fun a _ _ => h1 _ _ (by omega) (by omega)) (fun k _ => ⟨h1 _ _ (by omega) (by omega), h1 _ _ (by omega) (by omega)⟩) (fun j _ => ⟨h1 _ _ (by omega) (by omega), h1 _ _ (by omega) (by omega)⟩)⟩
  have hV1 : rVs G1 2 0 24 r.2.1 := ⟨by rw [g1 _ _ (by omega)]; exact hV.1, hV.2.1, fun v hv => by rw [g1 _ _ (by omega), g1 _ _ (by omega)]; exact hV.2.2 v hv⟩
  obtain ⟨G2, b1, b2, b3⟩ := l_unsafe (f := f) (o := 2) (r := 24) (q := 0) (by omega) (by decide) (by decide) hc (hL1 (Z := G1) (fun a j _ _ => g1 _ _ (by omega))) hV1 w3n a3
  have hF2 : rF G2 (qQf s r) := b3.cg (fun k a => by
    rw [qQf_e, List.drop_zero]
    exact ⟨fun h => by rcases h with (h | h) | h; exact h.elim; exact .inl h; exact .inr h, fun h => by rcases h with h | h; exact .inl (.inr h); exact .inr h⟩)
  have g2 : ∀ a j, ¬ (a = 0 ∧ (j = 26 ∨ j = 27)) → G2 a j = G a j := fun a j h => (b2 a j h).trans (g1 a j h)
  have b1' : g258 f 2 24 G1 = some G2 := b1
  have e0 : g369 f (s.2.2.2.1.length : Int) G = g369e f G1 := by
    unfold g369
    rw [Option.bind_some]
    exact a1
  unfold stQu
  rw [hq]
  rcases hF2 with ⟨f1, f2⟩ | ⟨f1, f2, f3⟩
  · -- no FAULT
    have hsafe : ∀ k, k < r.2.1.length → (qBd r.2.2.1).testBit k = true := fun k hk => by
      cases hb : (qBd r.2.2.1).testBit k with
      | true => rfl
      | false => exact absurd (show qQf s r 4 _ from .inr (.inr ⟨rfl, k, ⟨hk, hb⟩, rfl⟩)) (f2 _ _)
    have hw0 : ∀ y ∈ r.2.2.1, wLt s.1.length r.2.1.length y ∧ (y.1 ≠ 3 → 0 ≤ y.2.1) := fun y hy => ⟨w3n y hy, fun h3 => by
      obtain ⟨pl, hm⟩ := w2.1 y hy h3
      have := w3m _ hm
      have hne : y.2.1 ≠ -1 := fun e => f2 2 (pl : Int) (.inl ⟨rfl, _, hm, e, rfl⟩)
      have h1 : -1 ≤ y.2.1 := this.1
      omega⟩
    let G3 := xup2 (xup2 (xup2 (xup2 (xup2 (xup2 (xup2 G2 0 39 24) 0 38 3) 0 40 (-1)) 0 37 0) 0 43 0) 0 52 0) 0 53 (r.2.1.length : Int)
    have g3 : ∀ a j, ¬ (a = 0 ∧ (37 ≤ j ∧ j ≤ 40 ∨ j = 43 ∨ j = 52 ∨ j = 53)) → G3 a j = G2 a j := fun a j h => by
      show xup2 _ _ _ _ _ _ = _
      simp (disch := omega) only [xup2_n]
    have g30 : ∀ a j, ¬ (a = 0 ∧ (26 ≤ j ∧ j ≤ 27 ∨ 37 ≤ j ∧ j ≤ 40 ∨ j = 43 ∨ j = 52 ∨ j = 53)) → G3 a j = G a j := fun a j h => by rw [g3 a j (by omega), g2 a j (by omega)]
    have z : ∀ j, G3 0 j = xup2 (xup2 (xup2 (xup2 (xup2 (xup2 (xup2 G2 0 39 24) 0 38 3) 0 40 (-1)) 0 37 0) 0 43 0) 0 52 0) 0 53 (r.2.1.length : Int) 0 j := fun _ => rfl
    obtain ⟨G4, d1, d2, d4, d3⟩ := l_ask (f := f) (G := G3) (c := c') (N := qN s) (R := R) (nv := r.2.1.length) (np := s.1.length) (l := r.2.2.1) (by omega) hV.2.1 h16 hc w2.2.2.1 hw0 hsafe (hL1 (fun a j _ _ => g30 _ _ (by omega))) (by rw [z]; simp (disch := omega) only [xup2_n, xup2_s]) (by rw [z]; simp (disch := omega) only [xup2_n, xup2_s]) (by rw [z]; simp (disch := omega) only [xup2_n, xup2_s]) (by rw [z]; simp (disch := omega) only [xup2_n, xup2_s]) (by rw [z]; simp (disch := omega) only [xup2_n, xup2_s]) (by rw [z]; simp (disch := omega) only [xup2_n, xup2_s]) (by rw [z]; simp (disch := omega) only [xup2_n, xup2_s]) (hT.ge (fun a j _ _ => g30 _ _ (by omega))) (fun p hp => ⟨(hR p hp).1, fun w hw => ((hR p hp).2.2 w hw).2⟩)
    have e1 : g369e f G1 = (if (G4 0 43) = 0 then (if ¬ (G4 0 52) = 0 then ((some (xup2 G4 0 105 (G4 0 52))).bind fun G154 => ((some (xup2 G154 0 106 (G154 0 53))).bind fun G158 => g369_209 f f 0 G158)) else (some (0, G4))) else (some (-6000, G4))) := by
      unfold g369e
      rw [b1', Option.bind_some, if_pos f1]
      simp only [Option.bind_some]
      rw [if_pos (by decide)]
      have e22 : xup2 (xup2 (xup2 (xup2 (xup2 (xup2 G2 0 39 24) 0 38 3) 0 40 (-1)) 0 37 0) 0 43 0) 0 52 0 (2 + 20) (24 : Int).toNat = (r.2.1.length : Int) := by
        simp (disch := omega) only [xup2_n]
        show G2 22 24 = _
        rw [g2 _ _ (by omega)]
        exact hV.1
      rw [e22]
      have d1' : g275 f 0 (xup2 (xup2 (xup2 (xup2 (xup2 (xup2 (xup2 G2 0 39 24) 0 38 3) 0 40 (-1)) 0 37 0) 0 43 0) 0 52 0) 0 53 (r.2.1.length : Int)) = some G4 := d1
      rw [d1', Option.bind_some]
    have g4 : ∀ a j, ¬ (a = 0 ∧ (26 ≤ j ∧ j ≤ 27 ∨ 37 ≤ j ∧ j ≤ 40 ∨ 42 ≤ j ∧ j ≤ 61)) → ¬ (110 ≤ a ∧ a ≤ 121 ∧ a ≠ 118) → G4 a j = G a j := fun a j q1 q2 => by rw [d2 a j (by omega) q2, g30 a j (by omega)]
    have h475 : G4 0 75 = -1 := by rw [g4 _ _ (by omega) (by omega)]; exact h75
    have fr4 : xQa G G4 := fun a j q1 q2 q3 => g4 a j (by omega) q2
    rcases d3 with ⟨q43, S, s1, s2, s3⟩ | ⟨q43, V, v1, v2, v3⟩
    · by_cases cS : S.length = 0
      · refine ⟨0, G4, kp, ?_, fr4, hk.ge (fun j _ _ => g4 _ _ (by omega) (by omega)) (fun j => g4 _ _ (by omega) (by omega)), .inr ⟨f2, h475, .inr ⟨S, s1.2.1, s2, s3, by rw [cS]; rfl, by rw [if_pos cS]⟩⟩⟩
        rw [e0, e1, if_pos q43, s1.1, cS, if_neg (fun q => q rfl)]
      · let G5 := xup2 (xup2 G4 0 105 (S.length : Int)) 0 106 (r.2.1.length : Int)
        have g5 : ∀ a j, ¬ (a = 0 ∧ (j = 105 ∨ j = 106)) → G5 a j = G4 a j := fun a j h => by
          show xup2 _ _ _ _ _ _ = _
          rw [xup2_n (by omega), xup2_n (by omega)]
        obtain ⟨G6, k1, k2, k3⟩ := l_369_209 (f := f) (n := S.length) s1.2.1 (8 * S.length) 0 f G5 (by omega) (by have := s1.2.1; omega) (by rw [g5 _ _ (by omega)]; exact s1.1)
        have h453 : G4 0 53 = (r.2.1.length : Int) := d4
        refine ⟨(S.length : Int), G6, (r.2.1.length, S), ?_, fun a j q1 q2 q3 => by rw [k3 a j (by omega), g5 a j (by omega), fr4 a j q1 q2 q3], ⟨?_, ?_, hV.2.1, s1.2.1, fun i hi => ⟨(s1.2.2 i hi).1, fun k hk => ?_⟩⟩, .inr ⟨f2, ?_, .inr ⟨S, s1.2.1, s2, s3, rfl, by rw [if_neg cS]⟩⟩⟩
        · rw [e0, e1, if_pos q43, s1.1, if_pos (by omega), Option.bind_some, Option.bind_some, xup2_n (by omega), h453]
          exact k1
        · rw [k3 _ _ (by omega)]
          show xup2 _ _ _ _ _ _ = _
          rw [xup2_n (by omega), xup2_s]
        · rw [k3 _ _ (by omega)]
          exact xup2_s _ _ _ _
        · have hnv := hV.2.1
          rw [k2 _ (Nat.zero_le _) (by show 8 * i + k < 8 * S.length; have hi' : i < S.length := hi; have hk' : k < r.2.1.length := hk; omega), g5 _ _ (by omega)]
          exact (s1.2.2 i hi).2 k hk
        · rw [k3 _ _ (by omega), g5 _ _ (by omega)]; exact h475
    · refine ⟨-6000, G4, kp, ?_, fr4, hk.ge (fun j _ _ => g4 _ _ (by omega) (by omega)) (fun j => g4 _ _ (by omega) (by omega)), .inr ⟨f2, h475, .inl ⟨rfl, rfl, V, v1, v2, v3⟩⟩⟩
      rw [e0, e1, if_neg q43]
  · refine ⟨xwr (-5000 - G2 0 26), xup2 G2 0 75 (G2 0 27), kp, ?_, fun a j q1 q2 q3 => by rw [xup2_n (by omega), g2 a j (by omega)], hk.ge (fun j _ _ => by rw [xup2_n (by omega), g2 _ _ (by omega)]) (fun j => by rw [xup2_n (by omega), g2 _ _ (by omega)]), .inl ⟨G2 0 26, rfl, rfl, ?_, ?_⟩⟩
    · rw [e0]
      unfold g369e g362
      rw [b1', Option.bind_some, if_neg f1]
      rfl
    · rw [xup2_s]; exact f2
    · rw [xup2_s]; exact f3
end
