/-! change() of the reference -/
/-- CHANGES told to a program s, with ps waiting: the answer, the place, what waits then -/
def qChg (s : pPg) (ps : List pPe) (t : List Int) : Int × Int × List pPe := match pCs (tstr (tBt t) t.length false) (t.length + 1) [] 0 with
  | .inl w => (xwr (-1 - (w : Int)), -1, ps)
  | .inr cs => if (qCk s 0 cs).1 ≠ 0 then (xwr (-5000 - (qCk s 0 cs).1), (qCk s 0 cs).2, ps) else if 400 < ps.length + cs.length then (-6000, -1, ps) else ((cs.length : Int), -1, ps ++ cs.map qPe)
def xfk (o : Nat) (G G' : xG_) : Prop := ∀ a j, ¬ (a = 0 ∧ (j ≤ 11 ∨ 21 ≤ j ∧ j ≤ 27 ∨ 73 ≤ j ∧ j ≤ 75)) → a ≠ 1 → ¬ (72 ≤ a ∧ a ≤ 106) → ¬ (271 ≤ a ∧ a ≤ 274) → ¬ (a = o ∧ j = 33) → a ≠ o + 24 → a ≠ o + 25 → a ≠ o + 27 → a ≠ o + 28 → G' a j = G a j
theorem rPe.ge {G G' : xG_} {o : Nat} {ps : List pPe} (h : rPe G o ps) (h0 : G' o 33 = G o 33) (h1 : ∀ a j, 24 ≤ a → a ≤ 28 → G' (o + a) j = G (o + a) j) : rPe G' o ps := by
  obtain ⟨a1, a2, a3⟩ := h
  refine ⟨by rw [h0]; exact a1, a2, fun k hk => ?_⟩
  obtain ⟨z1, z2, z3, z4, z5⟩ := a3 k hk
  exact ⟨by rw [h1 24 _ (by omega) (by omega)]; exact z1, by rw [h1 27 _ (by omega) (by omega)]; exact z2, by rw [h1 25 _ (by omega) (by omega)]; exact z3, z4, fun j hj => by rw [h1 28 _ (by omega) (by omega)]; exact z5 j hj⟩
section
variable {f h o m e : Nat} {G : xG_} {t : List Int} {T : List (List Int)} {s : pPg} {ps : List pPe}
theorem l_c39 (hf : 6400 < f) (hh : h < 4) (ho : o = 123 + 29 * h) (hC : rC G) (hT : rTxs G T m) (ht : t.length ≤ 3000) (hp : rTe G 240 0 t) (he : e < T.length) (hs : qPr (T.getD e []) = .inr s) (hps : rPe G o ps) (h75 : G 0 75 = -1) :
    ∃ G', g365_39 f (t.length : Int) o (e : Int) G = some ((qChg s ps t).1, G') ∧ G' 0 75 = (qChg s ps t).2.1 ∧ rPe G' o (qChg s ps t).2.2 ∧ ∀ a j, ¬ (a = 0 ∧ (j ≤ 11 ∨ 21 ≤ j ∧ j ≤ 27 ∨ j = 75)) → a ≠ 1 → ¬ (72 ≤ a ∧ a ≤ 106) → ¬ (271 ≤ a ∧ a ≤ 274) → ¬ (a = o ∧ j = 33) → a ≠ o + 24 → a ≠ o + 25 → a ≠ o + 27 → a ≠ o + 28 → G' a j = G a j := by
  obtain ⟨t1, t2, t3, t4, t5⟩ := hT
  obtain ⟨b0, q, b1, b2, b3, b4⟩ := t5 e he
  have hr := l_rt (f := f) (o := 72) (by omega) b0 (by omega) hC b4
  rw [hs] at hr
  obtain ⟨G1, c, r1, r2, r22, r3, r4, r5, r6, r7⟩ := hr
  obtain ⟨G2, p1, p2, p3, p4⟩ := l_254 (f := f) (by omega) (by omega) r4 r5 r7
  have g2 : ∀ a j, ¬ (a = 0 ∧ (j ≤ 11 ∨ 21 ≤ j ∧ j ≤ 27)) → a ≠ 1 → ¬ (72 ≤ a ∧ a ≤ 106) → G2 a j = G a j := fun a j k1 k2 k3 => by
    rw [p2 a j (by omega) (by omega), r3 a j k1 k2 (by omega)]
  have hC2 : rC G2 := by
    obtain ⟨k1, k2, k3, k4, k5, k6, k7, k8, k9⟩ := hC
    unfold rC
    simp (disch := omega) only [g2]
    exact ⟨k1, k2, k3, k4, k5, k6, k7, k8, k9⟩
  have hp2 : rTe G2 240 0 t := hp.ge (fun j => g2 _ _ (by omega) (by omega) (by omega))
  obtain ⟨L1, e1, hA⟩ := l_begin (f := f) (q := 0) (by omega) hp2.1
  rw [hp2.by] at hA
  have h22 : G2 0 22 = 72 := by
    rw [p2 _ _ (by omega) (by omega)]
    exact r22
  let G3 := xup2 (xup2 (xup2 G2 0 0 ((240 : Nat) : Int)) 0 1 (((0 : Nat) : Int) + t.length)) 0 11 0
  have g3 : ∀ a j, ¬ (a = 0 ∧ (j = 0 ∨ j = 1 ∨ j = 11)) → G3 a j = G2 a j := fun a j _ => by
    show xup2 _ _ _ _ _ _ = _
    simp (disch := omega) only [xup2_n]
  have hTx : rTx G3 0 (tBt t) t.length := by
    rw [← hp2.by]
    exact rTx_of hp2.1 (by show xup2 _ _ _ _ _ _ = _; simp (disch := omega) only [xup2_n, xup2_s]) (by show xup2 _ _ _ _ _ _ = _; simp (disch := omega) only [xup2_n, xup2_s]) (fun j => g3 _ _ (by omega))
  have hC3 : rC G3 := by
    obtain ⟨k1, k2, k3, k4, k5, k6, k7, k8, k9⟩ := hC2
    unfold rC
    simp (disch := omega) only [g3]
    exact ⟨k1, k2, k3, k4, k5, k6, k7, k8, k9⟩
  have hE : rEv G3 0 (tBt t) t.length false 72 := ⟨hTx, xup2_s _ _ _ _, hC3, by rw [g3 _ _ (by omega)]; exact h22, by omega⟩
  obtain ⟨s1, s2, s3, s4, s5⟩ := p3
  have hN : rNs G3 72 s.1 := ⟨by rw [g3 _ _ (by omega)]; exact s1.1, s1.2.1, fun k hk => by rw [g3 _ _ (by omega)]; exact s1.2.2 k hk⟩
  have hfl : rFlg G3 72 s := fun p hp => by
    rw [g3 _ _ (by omega), g3 _ _ (by omega), g3 _ _ (by omega), g3 _ _ (by omega)]; exact s4 p hp
  have hpn : rPn G3 72 s := fun p hp1 => by rw [g3 _ _ (by omega)]; exact p4 p hp1
  have hh2 := l_98 (f := f) (x2 := o) (s := s) (q := 0) (lm := false) (by omega : t.length + 20 < f) ht (t.length + 1) f 0 [] G3 L1 (by omega) (by omega) (Nat.zero_le _) hE hA hN hfl hpn (fun k hk => absurd hk (Nat.not_lt_zero _))
  have ea : g365_39 f (t.length : Int) o (e : Int) G = g365_98 f f o 0 0 (-1) (xlx G3 L1) := by
    unfold g365_39
    rw [if_pos (by omega), if_pos (by omega), if_pos (by omega), Int.toNat_natCast, b1, b2, xwr_g _ (by omega) (by omega), r1, Option.bind_some, p1, Option.bind_some]
    have e1' : g212 f 240 0 (t.length : Int) G2 = some (xlx G3 L1) := by
      have ez : (((0 : Nat) : Int) + t.length) = (t.length : Int) := by omega
      rw [ez] at e1
      have e2 : g212 f 240 0 (t.length : Int) G2 = _ := e1
      rw [e2]
      show _ = some (xlx (xup2 (xup2 (xup2 G2 0 0 ((240 : Nat) : Int)) 0 1 (((0 : Nat) : Int) + t.length)) 0 11 0) L1)
      rw [ez]
    rw [e1', Option.bind_some]
  have hps3 : rPe G3 o ps := hps.ge (by rw [g3 _ _ (by omega), g2 _ _ (by omega) (by omega) (by omega)]) (fun a j _ _ => by rw [g3 _ _ (by omega), g2 _ _ (by omega) (by omega) (by omega)])
  have fr : ∀ {G' : xG_} {L' : Nat → Int}, xfj G3 G' → ∀ a j, ¬ (a = 0 ∧ (j ≤ 11 ∨ 21 ≤ j ∧ j ≤ 27)) → a ≠ 1 → ¬ (72 ≤ a ∧ a ≤ 106) → ¬ (271 ≤ a ∧ a ≤ 274) → xlx G' L' a j = G a j := fun {G' L'} hj a j k1 k2 k3 k4 => by
    rw [xlx_o _ _ (by omega), hj a j (by omega) k4, g3 a j (by omega), g2 a j k1 k2 k3]
  have e75 : ∀ {G' : xG_} {L' : Nat → Int}, xfj G3 G' → xlx G' L' 0 75 = -1 := fun {G' L'} hj => by
    rw [fr hj _ _ (by omega) (by omega) (by omega) (by omega)]
    exact h75
  have pe : ∀ {G' : xG_}, xfj G3 G' → rPe G' o ps := fun {G'} hj => hps3.ge (hj _ _ (by omega) (by omega)) (fun a j _ _ => hj _ _ (by omega) (by omega))
  have pel : ∀ {G' : xG_} {L' : Nat → Int} {qs : List pPe}, rPe G' o qs → rPe (xlx G' L') o qs := fun h => h.ge (xlx_a (by omega)) (fun a j _ _ => xlx_a (by omega))
  rw [ea]
  have ek : ∀ x5 x6, g365_98 f f o (([] : List pCh).length : Int) x5 x6 (xlx G3 L1) = g365_98 f f o 0 x5 x6 (xlx G3 L1) := fun _ _ => rfl
  have e0 : qCk s 0 [] = (0, -1) := rfl
  rw [e0] at hh2
  simp only [ek] at hh2
  unfold qChg
  cases hq : pCs (tstr (tBt t) t.length false) (t.length + 1) [] 0 with
  | inl w =>
    rw [hq] at hh2
    obtain ⟨G', L', x4, x5, x6, d1, d2, d3⟩ := hh2
    refine ⟨xlx G' L', ?_, e75 d3, pel (pe d3), fun a j k1 k2 k3 k4 _ _ _ _ _ => fr d3 a j (by omega) k2 k3 k4⟩
    rw [d1, l_276_wr (by omega), d2]
    show _ = some (xwr (-1 - (w : Int)), _)
    rw [show (-1 - (((0 : Nat) : Int) + (w : Int))) = -1 - (w : Int) by omega]
  | inr cs =>
    rw [hq] at hh2
    obtain ⟨G', L', d1, d2, d3, d4, d5⟩ := hh2
    have d1' : g365_98 f f o 0 0 (-1) (xlx G3 L1) = _ := d1
    rw [d1']
    by_cases c1 : (qCk s 0 cs).1 = 0
    · simp only [if_neg (fun h : (qCk s 0 cs).1 ≠ 0 => h c1)]
      rw [c1]
      by_cases c2 : 400 < ps.length + cs.length
      · simp only [if_pos c2]
        exact ⟨xlx G' L', l_276_m d2 (pe d5) (by omega) (by omega) c2, e75 d5, pel (pe d5), fun a j k1 k2 k3 k4 _ _ _ _ _ => fr d5 a j (by omega) k2 k3 k4⟩
      · simp only [if_neg c2]
        obtain ⟨G4, u1, u2, u3⟩ := l_276 (f := f) (x6 := (qCk s 0 cs).2) (by omega) hh ho d2 (pe d5) d3 (by omega) (by omega)
        exact ⟨G4, u1, by rw [u3 _ _ (by omega) (by omega) (by omega) (by omega) (by omega)]; exact e75 d5, u2, fun a j k1 k2 k3 k4 k5 k6 k7 k8 k9 => by rw [u3 a j k5 k6 k7 k8 k9]; exact fr d5 a j (by omega) k2 k3 k4⟩
    · simp only [if_pos (show (qCk s 0 cs).1 ≠ 0 from c1)]
      refine ⟨xup2 (xlx G' L') 0 75 (qCk s 0 cs).2, l_276_f d2 c1, xup2_s _ _ _ _, (pel (pe d5)).ge (xup2_n (by omega)) (fun a j _ _ => xup2_n (by omega)), fun a j k1 k2 k3 k4 _ _ _ _ _ => ?_⟩
      rw [xup2_n (by omega)]
      exact fr d5 a j (by omega) k2 k3 k4
theorem l_365 (hf : 6400 < f) (hh : h < 4) (ho : o = 123 + 29 * h) (h62 : G 0 62 = (h : Int)) (hC : rC G) (hT : rTxs G T m) (hp : rTp G t) (he : e < T.length) (hte : G o 34 = (e : Int) ∨ G o 34 = -1 ∧ G o 1 = (e : Int)) (hs : qPr (T.getD e []) = .inr s) (hps : rPe G o ps) :
    ∃ G', g365 f G = some ((qChg s ps t).1, G') ∧ G' 0 75 = (qChg s ps t).2.1 ∧ rPe G' o (qChg s ps t).2.2 ∧ G' 0 73 = 0 ∧ G' 0 74 = 0 ∧ xfk o G G' := by
  obtain ⟨p1, p2, p3⟩ := hp
  let G1 := xup2 (xup2 (xup2 G 0 74 0) 0 73 0) 0 75 (-1)
  have g1 : ∀ a j, ¬ (a = 0 ∧ 73 ≤ j ∧ j ≤ 75) → G1 a j = G a j := fun a j _ => by
    show xup2 _ _ _ _ _ _ = _
    simp (disch := omega) only [xup2_n]
  have hC1 : rC G1 := by
    obtain ⟨k1, k2, k3, k4, k5, k6, k7, k8, k9⟩ := hC
    unfold rC
    simp (disch := omega) only [g1]
    exact ⟨k1, k2, k3, k4, k5, k6, k7, k8, k9⟩
  have hT1 : rTxs G1 T m := hT.ge (g1 _ _ (by omega)) (g1 _ _ (by omega)) (fun a j _ => g1 _ _ (by omega))
  obtain ⟨G', k1, k2, k3, k4⟩ := l_c39 (f := f) hf hh ho hC1 hT1 p2 (p3.ge (fun j => g1 _ _ (by omega))) he hs (hps.ge (g1 _ _ (by omega)) (fun a j _ _ => g1 _ _ (by omega))) (xup2_s _ _ _ _)
  have e62 : G1 0 62 = (h : Int) := by rw [g1 _ _ (by omega)]; exact h62
  have e73 : G' 0 73 = 0 := by
    rw [k4 _ _ (by omega) (by omega) (by omega) (by omega) (by omega) (by omega) (by omega) (by omega) (by omega)]
    show xup2 _ _ _ _ _ _ = _
    rw [xup2_n (by omega), xup2_s]
  have e74 : G' 0 74 = 0 := by
    rw [k4 _ _ (by omega) (by omega) (by omega) (by omega) (by omega) (by omega) (by omega) (by omega) (by omega)]
    show xup2 _ _ _ _ _ _ = _
    rw [xup2_n (by omega), xup2_n (by omega), xup2_s]
  refine ⟨G', ?_, k2, k3, e73, e74, fun a j y1 y2 y3 y4 y5 y6 y7 y8 y9 => by rw [k4 a j (by omega) y2 y3 y4 y5 y6 y7 y8 y9, g1 a j (by omega)]⟩
  have e0 : g365 f G = (if G1 o 34 = -1 then g365_39 f (t.length : Int) o (G1 o 1) G1 else g365_39 f (t.length : Int) o (G1 o 34) G1) := by
    have e1 : g361 f G = some ((t.length : Int), xup2 (xup2 G 0 74 0) 0 73 0) := by
      unfold g361
      simp only [Option.bind_some]
      rw [xup2_n (by omega), p1]
    unfold g365
    rw [e1, Option.bind_some, Option.bind_some]
    show (if 0 ≤ G1 0 62 ∧ G1 0 62 < 4 then (if G1 (123 + 29 * (G1 0 62).toNat) 34 = -1 then g365_39 f (t.length : Int) (123 + 29 * (G1 0 62).toNat) (G1 (123 + 29 * (G1 0 62).toNat) 1) G1 else g365_39 f (t.length : Int) (123 + 29 * (G1 0 62).toNat) (G1 (123 + 29 * (G1 0 62).toNat) 34) G1) else none) = _
    rw [e62, if_pos (by omega), Int.toNat_natCast, ← ho]
  rw [e0]
  rcases hte with h1 | ⟨h1, h2⟩
  · rw [g1 _ _ (by omega), h1, if_neg (by omega)]
    exact k1
  · rw [g1 _ _ (by omega), h1, if_pos rfl, g1 _ _ (by omega), h2]
    exact k1
end
