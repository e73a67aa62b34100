/-! The reference keeps a text -/
theorem xnar_b (v : Int) (h1 : -128 ≤ v) (h2 : v ≤ 127) : xnar .byte v = v := by
  have e : xnar .byte v = (Int32.ofInt v).toInt8.toInt32.toInt := rfl
  rw [e, Int8.toInt_toInt32, Int32.toInt8_ofInt, Int8.toInt_ofInt_of_le h1 (by omega)]
theorem xnar_in (v : Int) : -128 ≤ xnar .byte v ∧ xnar .byte v ≤ 127 := by
  have e : xnar .byte v = (Int32.ofInt v).toInt8.toInt32.toInt := rfl
  rw [e, Int8.toInt_toInt32]
  have := Int8.le_toInt (Int32.ofInt v).toInt8
  have := Int8.toInt_lt (Int32.ofInt v).toInt8
  omega
theorem rTe.gl {G G' : xG_} {b q : Nat} {t : List Int} (h : rTe G b q t) (he : ∀ p, p < t.length → G' b (q + p) = G b (q + p)) : rTe G' b q t := by
  obtain ⟨⟨a1, a2, a3⟩, a4⟩ := h
  exact ⟨⟨a1, a2, fun p hp => by rw [he p hp]; exact a3 p hp⟩, fun p hp => by rw [he p hp]; exact a4 p hp⟩
section
variable {f m n c : Nat} {t : List Int}
theorem l_k25 (hm : m + n ≤ 90000) (hn : n ≤ 3000) (hc : c < 4200) : ∀ (d k fu : Nat) (G : xG_), k + d = n → d < fu → G 0 72 = (m : Int) → G 0 71 = (c : Int) → (∀ p, p < n → -128 ≤ G 240 p ∧ G 240 p ≤ 127) →
    ∃ G', g294_25 f fu (n : Int) (k : Int) G = some ((c : Int), G') ∧ G' 0 72 = ((m + n : Nat) : Int) ∧ G' 0 71 = ((c + 1 : Nat) : Int) ∧ (∀ j, k ≤ j → j < n → G' 239 (m + j) = G 240 j) ∧ ∀ a j, ¬ (a = 0 ∧ (j = 71 ∨ j = 72)) → ¬ (a = 239 ∧ m + k ≤ j ∧ j < m + n) → G' a j = G a j := by
  intro d
  induction d with
  | zero =>
    intro k fu G hk hfu h72 h71 hb
    obtain ⟨fu, rfl⟩ : ∃ t, fu = t + 1 := ⟨fu - 1, by omega⟩
    refine ⟨xup2 (xup2 G 0 72 ((m + n : Nat) : Int)) 0 71 ((c + 1 : Nat) : Int), ?_, by rw [xup2_n (by omega), xup2_s], xup2_s _ _ _ _, fun j _ _ => by omega, fun a j _ _ => by rw [xup2_n (by omega), xup2_n (by omega)]⟩
    show g294_25b (g294_25 f fu) f _ _ _ = _
    unfold g294_25b
    have e1 : xwr ((m : Int) + (n : Int)) = ((m + n : Nat) : Int) := by rw [xwr_g _ (by omega) (by omega)]; omega
    have e2 : xwr ((c : Int) + 1) = ((c + 1 : Nat) : Int) := by rw [xwr_g _ (by omega) (by omega)]; omega
    have e3 : xwr (((c + 1 : Nat) : Int) - 1) = (c : Int) := by rw [xwr_g _ (by omega) (by omega)]; omega
    have e4 : xup2 G 0 72 ((m + n : Nat) : Int) 0 71 = (c : Int) := by rw [xup2_n (by omega)]; exact h71
    rw [if_pos (by omega), h72, e1]
    simp only [Option.bind_some]
    rw [e4, e2, xup2_s, e3]
  | succ d ih =>
    intro k fu G hk hfu h72 h71 hb
    obtain ⟨fu, rfl⟩ : ∃ t, fu = t + 1 := ⟨fu - 1, by omega⟩
    have hbk := hb k (by omega)
    obtain ⟨G', k1, k2, k3, k4, k5⟩ := ih (k + 1) fu (xup2 G 239 (m + k) (G 240 k)) (by omega) (by omega) (by rw [xup2_n (by omega)]; exact h72) (by rw [xup2_n (by omega)]; exact h71) (fun p hp => by rw [xup2_n (by omega)]; exact hb p hp)
    refine ⟨G', ?_, k2, k3, fun j h1 h2 => ?_, fun a j h1 h2 => ?_⟩
    · show g294_25b (g294_25 f fu) f _ _ _ = _
      unfold g294_25b
      have e1 : xwr ((m : Int) + (k : Int)) = ((m + k : Nat) : Int) := by rw [xwr_g _ (by omega) (by omega)]; omega
      have e2 : xwr ((k : Int) + 1) = ((k + 1 : Nat) : Int) := by rw [xwr_g _ (by omega) (by omega)]; omega
      rw [if_neg (by omega), if_pos (by omega), h72, e1, if_pos (by omega), Int.toNat_natCast, Int.toNat_natCast, xnar_b _ hbk.1 hbk.2, Option.bind_some, e2]
      exact k1
    · by_cases cj : j = k
      · rw [cj, k5 _ _ (by omega) (by omega), xup2_s]
      · rw [k4 j (by omega) h2, xup2_n (by omega)]
    · rw [k5 a j h1 (by omega), xup2_n (by omega)]
/-- keep -/
theorem l_keep {G : xG_} {T : List (List Int)} (hf : 3100 < f) (hT : rTxs G T m) (hc : T.length < 4200) (ht : t.length ≤ 3000) (hm : m + t.length ≤ 90000) (hp : rTe G 240 0 t) :
    ∃ G', g294 f (t.length : Int) G = some ((T.length : Int), G') ∧ rTxs G' (T ++ [t]) (m + t.length) ∧ ∀ a j, ¬ (a = 0 ∧ (j = 71 ∨ j = 72)) → a ≠ 239 → a ≠ 241 → a ≠ 242 → G' a j = G a j := by
  obtain ⟨t1, t2, t3, t4, t5⟩ := hT
  have hb : ∀ p, p < t.length → -128 ≤ G 240 p ∧ G 240 p ≤ 127 := fun p hp1 => by
    have := hp.1.2.2 p hp1
    rw [Nat.zero_add] at this
    exact this
  obtain ⟨G', k1, k2, k3, k4, k5⟩ := l_k25 (f := f) (m := m) (n := t.length) (c := T.length) hm ht hc t.length 0 f (xup2 (xup2 G 241 T.length (m : Int)) 242 T.length (t.length : Int)) (by omega) (by omega) (by rw [xup2_n (by omega), xup2_n (by omega)]; exact t2) (by rw [xup2_n (by omega), xup2_n (by omega)]; exact t1) (fun p hp1 => by rw [xup2_n (by omega), xup2_n (by omega)]; exact hb p hp1)
  refine ⟨G', ?_, ⟨by rw [k3, List.length_append]; rfl, k2, by rw [List.length_append]; exact hc, hm, fun k hk => ?_⟩, fun a j h1 h2 h3 h4 => by rw [k5 a j h1 (by omega), xup2_n (by omega), xup2_n (by omega)]⟩
  · unfold g294
    rw [t1, t2, if_pos (by omega), Int.toNat_natCast, Option.bind_some, xup2_n (by omega), t1, if_pos (by omega), Int.toNat_natCast, Option.bind_some]
    exact k1
  · rw [List.length_append] at hk
    have hk' : k < T.length + 1 := hk
    by_cases ck : k < T.length
    · have e : (T ++ [t]).getD k [] = T.getD k [] := getD_app _ ck
      rw [e]
      obtain ⟨b0, q, b1, b2, b3, b4⟩ := t5 k ck
      refine ⟨b0, q, ?_, ?_, by omega, b4.gl (fun p hp1 => ?_)⟩
      · rw [k5 _ _ (by omega) (by omega), xup2_n (by omega), xup2_n (by omega)]; exact b1
      · rw [k5 _ _ (by omega) (by omega), xup2_n (by omega), xup2_n (by omega)]; exact b2
      · rw [k5 _ _ (by omega) (by omega), xup2_n (by omega), xup2_n (by omega)]
    · have ek : k = T.length := by omega
      have e : (T ++ [t]).getD k [] = t := by rw [ek]; simp
      rw [e, ek]
      have e4 : ∀ p, p < t.length → G' 239 (m + p) = G 240 p := fun p hp1 => by rw [k4 p (by omega) hp1, xup2_n (by omega), xup2_n (by omega)]
      refine ⟨ht, m, ?_, ?_, by omega, ⟨by omega, by rw [xl239]; omega, fun p hp1 => by rw [e4 p hp1]; exact hb p hp1⟩, fun p hp1 => ?_⟩
      · rw [k5 _ _ (by omega) (by omega), xup2_n (by omega), xup2_s]
      · rw [k5 _ _ (by omega) (by omega), xup2_s]
      · have := hp.2 p hp1
        rw [Nat.zero_add] at this
        rw [e4 p hp1]
        exact this
end
/-- what a text offered as a program comes to: the answer, the place; or the program -/
def qPrg (t : List Int) (k a : Int) : Prop := match qPr t with
  | .inl w => k = xwr (-1 - (w : Int)) ∧ a = -1
  | .inr s => ∃ z, pFa s 0 z a ∧ (∀ z' a', pFa s 0 z' a' → z < z' ∨ z = z' ∧ a ≤ a') ∧ k = xwr (-5000 - z)
def xfl1 (G G' : xG_) : Prop := ∀ a j, ¬ (a = 0 ∧ (j ≤ 11 ∨ 21 ≤ j ∧ j ≤ 27 ∨ 71 ≤ j ∧ j ≤ 75)) → a ≠ 1 → ¬ (72 ≤ a ∧ a ≤ 106) → a ≠ 239 → a ≠ 241 → a ≠ 242 → G' a j = G a j
section
variable {f h o m : Nat} {G : xG_} {t : List Int} {T : List (List Int)}
/-- program() -/
theorem l_363 (hf : 6400 < f) (hh : h < 4) (ho : o = 123 + 29 * h) (h62 : G 0 62 = (h : Int)) (hC : rC G) (hT : rTxs G T m) (hp : rTp G t) (hc : T.length < 4200) (hm : m + t.length ≤ 90000) :
    ∃ G' v, g363 f G = some (v, G') ∧ G' 0 73 = 0 ∧ G' 0 74 = 0 ∧ (∀ a j, ¬ (a = o ∧ (j = 33 ∨ j = 34)) → ¬ (a = 0 ∧ (j ≤ 11 ∨ 21 ≤ j ∧ j ≤ 27 ∨ 71 ≤ j ∧ j ≤ 75)) → a ≠ 1 → ¬ (72 ≤ a ∧ a ≤ 106) → a ≠ 239 → a ≠ 241 → a ≠ 242 → G' a j = G a j) ∧
      ((qPrg t v (G' 0 75) ∧ rTxs G' T m ∧ G' o 33 = G o 33 ∧ G' o 34 = G o 34) ∨ ∃ s, qPr t = .inr s ∧ (∀ k a, ¬ pFa s 0 k a) ∧ v = (s.2.2.2.2.1.length : Int) ∧ G' 0 75 = -1 ∧ rTxs G' (T ++ [t]) (m + t.length) ∧ G' o 33 = 0 ∧ G' o 34 = (T.length : Int)) := by
  obtain ⟨p1, p2, p3⟩ := hp
  let G1 := xup2 (xup2 (xup2 G 0 74 0) 0 73 0) 0 75 (-1)
  have g1 : ∀ a j, ¬ (a = 0 ∧ 73 ≤ j ∧ j ≤ 75) → G1 a j = G a j := fun a j _ => by
    show xup2 _ _ _ _ _ _ = _
    simp (disch := omega) only [xup2_n]
  have g173 : G1 0 73 = 0 := by
    show xup2 _ _ _ _ _ _ = _
    rw [xup2_n (by omega), xup2_s]
  have g174 : G1 0 74 = 0 := by
    show xup2 _ _ _ _ _ _ = _
    rw [xup2_n (by omega), xup2_n (by omega), xup2_s]
  have g175 : G1 0 75 = -1 := xup2_s _ _ _ _
  have hC1 : rC G1 := by
    obtain ⟨k1, k2, k3, k4, k5, k6, k7, k8, k9⟩ := hC
    unfold rC
    simp (disch := omega) only [g1]
    exact ⟨k1, k2, k3, k4, k5, k6, k7, k8, k9⟩
  have hp1 : rTe G1 240 0 t := p3.ge (fun j => g1 _ _ (by omega))
  have hT1 : rTxs G1 T m := hT.ge (g1 _ _ (by omega)) (g1 _ _ (by omega)) (fun a j _ => g1 _ _ (by omega))
  have e0 : g363 f G = Option.bind (g231 f 72 240 0 (t.length : Int) G1) (fun R110 => ((g211 f R110).bind fun R115 => (if (R115.1) = 0 then ((g252 f (72) R115.2).bind fun R121 => (if (R121 (0) 26) = 0 then (if 0 ≤ (R121 (0) 62) ∧ (R121 (0) 62) < 4 then ((g294 f (t.length : Int) R121).bind fun R128 => ((some (xup2 R128.2 (123 + 29 * (R121 (0) 62).toNat) 34 (R128.1))).bind fun G136 => ((some (xup2 G136 (123 + 29 * (R121 (0) 62).toNat) 33 (0))).bind fun G140 => (some (G140 (72) 9, G140))))) else none) else ((g362 f (R121 (0) 26) (R121 (0) 27) R121).bind fun R141 => (some (R141.1, R141.2))))) else (some (xwr ((-1) - (R115.2 (0) 7)), R115.2))))) := by
    have e1 : g361 f G = some ((t.length : Int), xup2 (xup2 G 0 74 0) 0 73 0) := by
      unfold g361
      simp only [Option.bind_some]
      rw [xup2_n (by omega), p1]
    unfold g363
    rw [e1, Option.bind_some, Option.bind_some]
  have bd : ∀ {Z : xG_}, g211 f Z = some (if Z 0 7 = -1 then 0 else 1, Z) := fun {Z} => by
    have := l_bad (f := f) (G := Z) (L := Z 0)
    rw [xlx_id] at this
    exact this
  have hr := l_rt (f := f) (o := 72) (by omega) p2 (by omega) hC1 hp1
  have ez : (((0 : Nat) : Int) + (t.length : Int)) = (t.length : Int) := by omega
  rw [ez] at hr
  rw [e0]
  unfold qPrg
  cases hq : qPr t with
  | inl w =>
    rw [hq] at hr
    obtain ⟨G2, r1, r2, r3⟩ := hr
    have r1' : g231 f 72 240 0 (t.length : Int) G1 = some G2 := r1
    have h7 : G2 0 7 ≠ -1 := by rw [r2]; omega
    have hn : ¬ ((1 : Int), G2).1 = 0 := fun h => absurd (show (1 : Int) = 0 from h) (by decide)
    have g2 : ∀ a j, ¬ (a = 0 ∧ (j ≤ 11 ∨ 21 ≤ j ∧ j ≤ 27)) → a ≠ 1 → ¬ (72 ≤ a ∧ a ≤ 106) → G2 a j = G1 a j := fun a j k1 k2 k3 => r3 a j k1 k2 (by omega)
    refine ⟨G2, xwr (-1 - G2 0 7), ?_, ?_, ?_, fun a j y0 y1 y2 y3 y4 y5 y6 => by rw [g2 a j (by omega) y2 y3, g1 a j (by omega)], .inl ⟨⟨?_, ?_⟩, ?_, ?_, ?_⟩⟩
    · rw [r1', Option.bind_some, bd, if_neg h7, Option.bind_some, if_neg hn]
    · rw [g2 _ _ (by omega) (by omega) (by omega)]; exact g173
    · rw [g2 _ _ (by omega) (by omega) (by omega)]; exact g174
    · rw [r2, show (-1 - (((0 : Nat) : Int) + (w : Int))) = -1 - (w : Int) by omega]
    · rw [g2 _ _ (by omega) (by omega) (by omega)]; exact g175
    · exact hT1.ge (g2 _ _ (by omega) (by omega) (by omega)) (g2 _ _ (by omega) (by omega) (by omega)) (fun a j _ => g2 _ _ (by omega) (by omega) (by omega))
    · rw [g2 _ _ (by omega) (by omega) (by omega), g1 _ _ (by omega)]
    · rw [g2 _ _ (by omega) (by omega) (by omega), g1 _ _ (by omega)]
  | inr s =>
    rw [hq] at hr
    obtain ⟨G2, c, r1, r2, r22, r3, r4, r5, r6, r7⟩ := hr
    have r1' : g231 f 72 240 0 (t.length : Int) G1 = some G2 := r1
    obtain ⟨G3, u1, u2, u3, u4, u5, u6⟩ := l_fa (f := f) (by omega) (by omega) r4 r5 r6 r7
    have g3 : ∀ a j, ¬ (a = 0 ∧ (j ≤ 11 ∨ 21 ≤ j ∧ j ≤ 27)) → a ≠ 1 → ¬ (72 ≤ a ∧ a ≤ 106) → G3 a j = G1 a j := fun a j k1 k2 k3 => by
      rw [u2 a j (by omega) k2 (by omega) (by omega) (by omega)]
      exact r3 a j k1 k2 (by omega)
    have e62 : G3 0 62 = (h : Int) := by rw [g3 _ _ (by omega) (by omega) (by omega), g1 _ _ (by omega)]; exact h62
    have e2 : Option.bind (g231 f 72 240 0 (t.length : Int) G1) (fun R110 => ((g211 f R110).bind fun R115 => (if (R115.1) = 0 then ((g252 f (72) R115.2).bind fun R121 => (if (R121 (0) 26) = 0 then (if 0 ≤ (R121 (0) 62) ∧ (R121 (0) 62) < 4 then ((g294 f (t.length : Int) R121).bind fun R128 => ((some (xup2 R128.2 (123 + 29 * (R121 (0) 62).toNat) 34 (R128.1))).bind fun G136 => ((some (xup2 G136 (123 + 29 * (R121 (0) 62).toNat) 33 (0))).bind fun G140 => (some (G140 (72) 9, G140))))) else none) else ((g362 f (R121 (0) 26) (R121 (0) 27) R121).bind fun R141 => (some (R141.1, R141.2))))) else (some (xwr ((-1) - (R115.2 (0) 7)), R115.2))))) = (if (G3 (0) 26) = 0 then ((g294 f (t.length : Int) G3).bind fun R128 => ((some (xup2 R128.2 o 34 (R128.1))).bind fun G136 => ((some (xup2 G136 o 33 (0))).bind fun G140 => (some (G140 (72) 9, G140))))) else some (xwr (-5000 - G3 0 26), xup2 G3 0 75 (G3 0 27))) := by
      rw [r1', Option.bind_some, bd, if_pos r2, Option.bind_some, if_pos rfl]
      show Option.bind (g252 f 72 G2) _ = _
      rw [u1, Option.bind_some, e62, if_pos (by omega : (0 : Int) ≤ (h : Int) ∧ (h : Int) < 4), Int.toNat_natCast, ← ho]
      rfl
    rw [e2]
    rcases u5 with ⟨z1, z2⟩ | ⟨z1, z2, z3⟩
    · have hT3 : rTxs G3 T m := hT1.ge (g3 _ _ (by omega) (by omega) (by omega)) (g3 _ _ (by omega) (by omega) (by omega)) (fun a j _ => g3 _ _ (by omega) (by omega) (by omega))
      have hp3 : rTe G3 240 0 t := hp1.ge (fun j => g3 _ _ (by omega) (by omega) (by omega))
      obtain ⟨G4, k1, k2, k3⟩ := l_keep (f := f) (by omega) hT3 hc p2 hm hp3
      have k4 : ∀ a j, ¬ (a = o ∧ (j = 33 ∨ j = 34)) → xup2 (xup2 G4 o 34 (T.length : Int)) o 33 0 a j = G4 a j := fun a j _ => by rw [xup2_n (by omega), xup2_n (by omega)]
      have e9 : G4 72 9 = (s.2.2.2.2.1.length : Int) := by
        rw [k3 _ _ (by omega) (by omega) (by omega) (by omega)]
        exact u3.2.2.1.1
      refine ⟨xup2 (xup2 G4 o 34 (T.length : Int)) o 33 0, (s.2.2.2.2.1.length : Int), ?_, ?_, ?_, fun a j y0 y1 y2 y3 y4 y5 y6 => by rw [k4 a j y0, k3 a j (by omega) y4 y5 y6, g3 a j (by omega) y2 y3, g1 a j (by omega)], .inr ⟨s, rfl, z2, rfl, ?_, ?_, xup2_s _ _ _ _, by rw [xup2_n (by omega), xup2_s]⟩⟩
      · rw [if_pos z1, k1, Option.bind_some, Option.bind_some, Option.bind_some, k4 _ _ (by omega), e9]
      · rw [k4 _ _ (by omega), k3 _ _ (by omega) (by omega) (by omega) (by omega), g3 _ _ (by omega) (by omega) (by omega)]; exact g173
      · rw [k4 _ _ (by omega), k3 _ _ (by omega) (by omega) (by omega) (by omega), g3 _ _ (by omega) (by omega) (by omega)]; exact g174
      · rw [k4 _ _ (by omega), k3 _ _ (by omega) (by omega) (by omega) (by omega), g3 _ _ (by omega) (by omega) (by omega)]; exact g175
      · exact k2.ge (k4 _ _ (by omega)) (k4 _ _ (by omega)) (fun a j _ => k4 _ _ (by omega))
    · have k4 : ∀ a j, ¬ (a = 0 ∧ j = 75) → xup2 G3 0 75 (G3 0 27) a j = G3 a j := fun a j _ => xup2_n (by omega)
      refine ⟨xup2 G3 0 75 (G3 0 27), xwr (-5000 - G3 0 26), by rw [if_neg z1], ?_, ?_, fun a j y0 y1 y2 y3 y4 y5 y6 => by rw [k4 a j (by omega), g3 a j (by omega) y2 y3, g1 a j (by omega)], .inl ⟨?_, ?_, ?_, ?_⟩⟩
      · rw [k4 _ _ (by omega), g3 _ _ (by omega) (by omega) (by omega)]; exact g173
      · rw [k4 _ _ (by omega), g3 _ _ (by omega) (by omega) (by omega)]; exact g174
      · rw [xup2_s]
        exact ⟨G3 0 26, z2, fun k a h => z3 k a h, rfl⟩
      · exact hT1.ge (by rw [k4 _ _ (by omega)]; exact g3 _ _ (by omega) (by omega) (by omega)) (by rw [k4 _ _ (by omega)]; exact g3 _ _ (by omega) (by omega) (by omega)) (fun a j _ => by rw [k4 _ _ (by omega)]; exact g3 _ _ (by omega) (by omega) (by omega))
      · rw [k4 _ _ (by omega), g3 _ _ (by omega) (by omega) (by omega), g1 _ _ (by omega)]
      · rw [k4 _ _ (by omega), g3 _ _ (by omega) (by omega) (by omega), g1 _ _ (by omega)]
end
