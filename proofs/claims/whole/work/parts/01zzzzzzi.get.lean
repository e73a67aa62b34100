/-! What the house answers: count, predicate, value, rank, edits, edit, place, forget -/
section
variable {f m n hr : Nat} {T : List (List Int)} {lns : Nat → sLn}
/-- load behind (0, 74) := 0 -/
theorem l_ld0 {G : xG_} (hf : 1000100 < f) (h : rHb G T m lns hr n) :
    ∃ G' q c s M, g296 f (xup2 G 0 74 0) = some G' ∧ isMo T (lMo (lns hr)) s M ∧ rEn G' q c s M ∧ rHb G' T m lns hr n ∧ G' 0 74 = 0 ∧ G' 0 63 = G 0 63 ∧ xfHo G G' := by
  obtain ⟨G', q, c, s, M, k1, k2, k3, k4, k5⟩ := l_ld hf (h.u74 (v := 0))
  refine ⟨G', q, c, s, M, k1, k3, k4, k5, ?_, ?_, fun a j q1 q2 q3 q4 q5 => ?_⟩
  · rw [k2 _ _ (by omega) (by omega) (by omega), xup2_s]
  · rw [k2 _ _ (by omega) (by omega) (by omega), xup2_n (by omega)]
  · rw [k2 _ _ (by omega) (by omega) (by omega), xup2_n (by omega)]
theorem rHb.l1 {G : xG_} (h : rHb G T m lns hr n) : ∃ s M, isMo T (lMo (lns hr)) s M ∧ rLn G (123 + 29 * hr) T (lns hr) s M ∧ sOk T (lns hr) n := h.2.2.2.2.1 hr h.2.2.2.1
theorem rHb.lost {G : xG_} {G' : xG_} (h : rHb G' T m lns hr n) (h63 : G' 0 63 = G 0 63) (hx : xfHo G G') : rHb (xup2 G' 0 74 1) T m lns hr n ∧ xup2 G' 0 74 1 0 74 = 1 ∧ xup2 G' 0 74 1 0 63 = G 0 63 ∧ xfHo G (xup2 G' 0 74 1) := ⟨h.u74, xup2_s _ _ _ _, by rw [xup2_n (by omega)]; exact h63, fun a j q1 q2 q3 q4 q5 => by rw [xup2_n (by omega)]; exact hx a j q1 q2 q3 q4 q5⟩
theorem l_371 {G : xG_} {q c : Nat} {s : pPg} {M : Nat → List pRw} {p i : Int} (hok : qOk s) (hE : rEn G q c s M) : g371 f p i G = some (if (0 ≤ p ∧ p < s.1.length) ∧ 0 ≤ i ∧ i < (M p.toNat).length then 1 else 0, G) := by
  have hnp := hok.1.1
  obtain ⟨e1, e2, e3, e4⟩ := hE
  unfold g371 g371_33 g371_34
  rw [if_pos (Or.inl rfl), if_pos (Or.inr rfl), e1.1.1]
  by_cases c1 : p < 0
  · rw [if_pos c1, if_neg (by omega)]
  rw [if_neg c1]
  by_cases c2 : (s.1.length : Int) ≤ p
  · rw [if_pos c2, if_neg (by omega)]
  rw [if_neg c2]
  by_cases c3 : i < 0
  · rw [if_pos c3, if_neg (by omega)]
  obtain ⟨x, rfl⟩ : ∃ x : Nat, p = (x : Int) := ⟨p.toNat, by omega⟩
  rw [if_neg c3, if_pos (by omega), Int.toNat_natCast, (e4 x (by omega)).1.1]
  by_cases c4 : ((M x).length : Int) ≤ i
  · rw [if_pos c4, if_neg (by omega)]
  · rw [if_neg c4, if_pos (by omega)]
/-- value(): thrown, value -/
def stVa (T : List (List Int)) (ln : sLn) (p i col t v : Int) : Prop := ∃ s M, isMo T (lMo ln) s M ∧ ((((0 ≤ p ∧ p < s.1.length) ∧ 0 ≤ i ∧ i < (M p.toNat).length) ∧ 0 ≤ col ∧ col < qN s p.toNat) ∧ t = 0 ∧ v = ((M p.toNat).getD i.toNat dRw).1.getD col.toNat 0 ∨ ¬ (((0 ≤ p ∧ p < s.1.length) ∧ 0 ≤ i ∧ i < (M p.toNat).length) ∧ 0 ≤ col ∧ col < qN s p.toNat) ∧ t = 1 ∧ v = 0)
theorem l_372 {G : xG_} {p i col : Int} (hf : 1000100 < f) (h : rHb G T m lns hr n) :
    ∃ t v G', g372 f p i col G = some (v, G') ∧ stVa T (lns hr) p i col t v ∧ rHb G' T m lns hr n ∧ G' 0 74 = t ∧ G' 0 63 = G 0 63 ∧ xfHo G G' := by
  obtain ⟨G1, q, c, s, M, k1, k2, k3, k4, k5, k6, k7⟩ := l_ld0 hf h
  have hok := k2.2.2.1
  have hnp := hok.1.1
  have e35 : g372_35 f G1 = some (0, xup2 G1 0 74 1) := by
    unfold g372_35
    rw [l_321]
    rfl
  have e0 : g372 f p i col G = (if ((if (0 ≤ p ∧ p < s.1.length) ∧ 0 ≤ i ∧ i < (M p.toNat).length then (1 : Int) else 0, G1) : Int × xG_).1 = 0 then g372_35 f G1 else (if col < 0 then g372_35 f G1 else (if 0 ≤ p ∧ p < 16 then (if col < (G1 (2 + 2) p.toNat) then ((g261 f p i G1).bind fun R124 => (if 0 ≤ (xwr ((R124.1) + col)) ∧ (xwr ((R124.1) + col)) < 33280 then g372_56 f (R124.2 (107) (xwr ((R124.1) + col)).toNat) R124.2 else none)) else g372_35 f G1) else none))) := by
    unfold g372
    rw [Option.bind_some, k1, Option.bind_some, l_371 hok k3, Option.bind_some]
  have lost : ¬ (((0 ≤ p ∧ p < s.1.length) ∧ 0 ≤ i ∧ i < (M p.toNat).length) ∧ 0 ≤ col ∧ col < qN s p.toNat) → g372 f p i col G = some (0, xup2 G1 0 74 1) → ∃ t v G', g372 f p i col G = some (v, G') ∧ stVa T (lns hr) p i col t v ∧ rHb G' T m lns hr n ∧ G' 0 74 = t ∧ G' 0 63 = G 0 63 ∧ xfHo G G' := fun hc he => by
    obtain ⟨w1, w2, w3, w4⟩ := k4.lost k6 k7
    exact ⟨1, 0, _, he, ⟨s, M, k2, .inr ⟨hc, rfl, rfl⟩⟩, w1, w2, w3, w4⟩
  by_cases c1 : (0 ≤ p ∧ p < s.1.length) ∧ 0 ≤ i ∧ i < (M p.toNat).length
  · have s1 : ¬ ((if (0 ≤ p ∧ p < s.1.length) ∧ 0 ≤ i ∧ i < (M p.toNat).length then (1 : Int) else 0, G1) : Int × xG_).1 = 0 := by
      rw [if_pos c1]; show ¬ (1 : Int) = 0; decide
    rw [if_neg s1] at e0
    obtain ⟨x, rfl⟩ : ∃ x : Nat, p = (x : Int) := ⟨p.toNat, by omega⟩
    obtain ⟨y, rfl⟩ : ∃ y : Nat, i = (y : Int) := ⟨i.toNat, by omega⟩
    rw [Int.toNat_natCast] at c1 lost
    have hx : x < s.1.length := by omega
    obtain ⟨⟨t1, t2, t3⟩, t4⟩ := k3.2.2.2 x hx
    have g4 : G1 (2 + 2) x = (qN s x : Int) := by
      have := k3.2.1 x hx
      have h2 := (pNn_in hok.1 (x : Int)).1
      unfold qN
      rw [this]
      omega
    by_cases c2 : col < 0
    · exact lost (by omega) (by rw [e0, if_pos c2, e35])
    rw [if_neg c2, if_pos (by omega), Int.toNat_natCast, g4] at e0
    by_cases c3 : col < (qN s x : Int)
    · obtain ⟨z, rfl⟩ : ∃ z : Nat, col = (z : Int) := ⟨col.toNat, by omega⟩
      have e4 : xwr ((((x * 520 + y) * 4 : Nat) : Int) + (z : Int)) = (((x * 520 + y) * 4 + z : Nat) : Int) := by rw [xwr_g _ (by omega) (by omega)]; omega
      refine ⟨0, _, G1, ?_, ⟨s, M, k2, .inl ⟨⟨by rw [Int.toNat_natCast]; exact c1, by omega, by rw [Int.toNat_natCast]; exact c3⟩, rfl, rfl⟩⟩, k4, k5, k6, k7⟩
      rw [e0, if_pos c3, l_261 (by omega) (by omega), Option.bind_some]
      simp only [e4]
      rw [if_pos (by omega), Int.toNat_natCast, (t3 y (by omega)).2.1 z (by omega), Int.toNat_natCast, Int.toNat_natCast, Int.toNat_natCast]
      rfl
    · exact lost (by omega) (by rw [e0, if_neg c3, e35])
  · have s1 : ((if (0 ≤ p ∧ p < s.1.length) ∧ 0 ≤ i ∧ i < (M p.toNat).length then (1 : Int) else 0, G1) : Int × xG_).1 = 0 := by
      rw [if_neg c1]
    exact lost (fun q => c1 q.1) (by rw [e0, if_pos s1, e35])
/-- rank(): thrown, value -/
def stRk (T : List (List Int)) (ln : sLn) (p i t v : Int) : Prop := ∃ s M, isMo T (lMo ln) s M ∧ (((0 ≤ p ∧ p < s.1.length) ∧ 0 ≤ i ∧ i < (M p.toNat).length) ∧ t = 0 ∧ v = ((M p.toNat).getD i.toNat dRw).2 ∨ ¬ ((0 ≤ p ∧ p < s.1.length) ∧ 0 ≤ i ∧ i < (M p.toNat).length) ∧ t = 1 ∧ v = 0)
theorem l_373 {G : xG_} {p i : Int} (hf : 1000100 < f) (h : rHb G T m lns hr n) :
    ∃ t v G', g373 f p i G = some (v, G') ∧ stRk T (lns hr) p i t v ∧ rHb G' T m lns hr n ∧ G' 0 74 = t ∧ G' 0 63 = G 0 63 ∧ xfHo G G' := by
  obtain ⟨G1, q, c, s, M, k1, k2, k3, k4, k5, k6, k7⟩ := l_ld0 hf h
  have hok := k2.2.2.1
  have hnp := hok.1.1
  have e0 : g373 f p i G = (if ((if (0 ≤ p ∧ p < s.1.length) ∧ 0 ≤ i ∧ i < (M p.toNat).length then (1 : Int) else 0, G1) : Int × xG_).1 = 0 then ((g321 f G1).bind fun R116 => g373_37 f (R116.1) R116.2) else (if 0 ≤ (xwr ((xwr (p * (520))) + i)) ∧ (xwr ((xwr (p * (520))) + i)) < 8320 then g373_37 f (G1 (109) (xwr ((xwr (p * (520))) + i)).toNat) G1 else none)) := by
    unfold g373
    rw [Option.bind_some, k1, Option.bind_some, l_371 hok k3, Option.bind_some]
  by_cases c1 : (0 ≤ p ∧ p < s.1.length) ∧ 0 ≤ i ∧ i < (M p.toNat).length
  · have s1 : ¬ ((if (0 ≤ p ∧ p < s.1.length) ∧ 0 ≤ i ∧ i < (M p.toNat).length then (1 : Int) else 0, G1) : Int × xG_).1 = 0 := by
      rw [if_pos c1]; show ¬ (1 : Int) = 0; decide
    rw [if_neg s1] at e0
    obtain ⟨x, rfl⟩ : ∃ x : Nat, p = (x : Int) := ⟨p.toNat, by omega⟩
    obtain ⟨y, rfl⟩ : ∃ y : Nat, i = (y : Int) := ⟨i.toNat, by omega⟩
    have c1' := c1
    rw [Int.toNat_natCast] at c1'
    obtain ⟨⟨t1, t2, t3⟩, t4⟩ := k3.2.2.2 x (by omega)
    have e4 : xwr (xwr ((x : Int) * 520) + (y : Int)) = ((x * 520 + y : Nat) : Int) := by rw [xwr_g ((x : Int) * 520) (by omega) (by omega), xwr_g _ (by omega) (by omega)]; omega
    refine ⟨0, _, G1, ?_, ⟨s, M, k2, .inl ⟨c1, rfl, rfl⟩⟩, k4, k5, k6, k7⟩
    rw [e0, e4, if_pos (by omega), Int.toNat_natCast, (t3 y (by omega)).2.2, Int.toNat_natCast, Int.toNat_natCast]
    rfl
  · have s1 : ((if (0 ≤ p ∧ p < s.1.length) ∧ 0 ≤ i ∧ i < (M p.toNat).length then (1 : Int) else 0, G1) : Int × xG_).1 = 0 := by
      rw [if_neg c1]
    obtain ⟨w1, w2, w3, w4⟩ := k4.lost k6 k7
    refine ⟨1, 0, _, ?_, ⟨s, M, k2, .inr ⟨c1, rfl, rfl⟩⟩, w1, w2, w3, w4⟩
    rw [e0, if_pos s1, l_321]
    rfl
/-- count() -/
def stCo (T : List (List Int)) (ln : sLn) (hr tl : Nat) (rf w v : Int) : Prop := ∃ s M, isMo T (lMo ln) s M ∧ v = (if w = 0 then ((ln.2.1.1 + ln.2.1.2.1 : Nat) : Int) else if w = 1 then (ln.2.1.1 : Int) else if w = 2 then (s.1.length : Int) else if w = 3 then (s.2.2.2.2.1.length : Int) else if w = 4 then (ln.2.2.2.1.1.length : Int) else if w = 5 then (hr : Int) else if w = 6 then ((lMo ln).2.1.length : Int) else if w = 7 then (ln.2.1.2.2 : Int) else if w = 8 then rf else if w = 9 then (tl : Int) else -1)
theorem l_377 {G : xG_} {w : Int} {tl : Nat} (hf : 1000100 < f) (h : rHb G T m lns hr n) (h73 : G 0 73 = (tl : Int)) :
    ∃ v G', g377 f w G = some (v, G') ∧ stCo T (lns hr) hr tl (G 0 63) w v ∧ rHb G' T m lns hr n ∧ G' 0 74 = 0 ∧ G' 0 63 = G 0 63 ∧ xfHo G G' := by
  have h0 := h.u74 (v := 0)
  have h62 := h.2.2.1
  have h4 := h.2.2.2.1
  obtain ⟨G1, q, c, s, M, k1, k2, k3, k4, k5, k6, k7⟩ := l_ld0 hf h
  obtain ⟨s', M', b1, b2, b3⟩ := h.l1
  have plain : ∀ v : Int, g377 f w G = some (v, xup2 G 0 74 0) → stCo T (lns hr) hr tl (G 0 63) w v → ∃ v G', g377 f w G = some (v, G') ∧ stCo T (lns hr) hr tl (G 0 63) w v ∧ rHb G' T m lns hr n ∧ G' 0 74 = 0 ∧ G' 0 63 = G 0 63 ∧ xfHo G G' := fun v e1 e2 => ⟨v, _, e1, e2, h0, xup2_s _ _ _ _, xup2_n (by omega), fun a j q1 q2 q3 q4 q5 => xup2_n (by omega)⟩
  have e0 : ∀ j : Nat, ∀ a : Nat, ¬ (a = 0 ∧ j = 74) → xup2 G 0 74 0 a j = G a j := fun j a q => xup2_n (by omega)
  have eg : ∀ r : Option (Int × xG_), (if 0 ≤ (xup2 G 0 74 0 0 62) ∧ (xup2 G 0 74 0 0 62) < 4 then r else none) = r := fun r => by rw [e0 _ _ (by omega), h62, if_pos (by omega)]
  have ee : g377 f w G = (if w < 0 ∨ 9 < w then (some (-1, xup2 G 0 74 0)) else (if w = 0 then (some (xup2 G 0 74 0 (123 + 29 * hr) 2, xup2 G 0 74 0)) else (if w = 1 then (some (xup2 G 0 74 0 (123 + 29 * hr) 3, xup2 G 0 74 0)) else (if w = 2 then ((g296 f (xup2 G 0 74 0)).bind fun R110 => (some (R110 (2) 8, R110))) else (if w = 3 then ((g296 f (xup2 G 0 74 0)).bind fun R116 => (some (R116 (2) 9, R116))) else (if w = 4 then (some (xup2 G 0 74 0 (123 + 29 * hr) 33, xup2 G 0 74 0)) else (if w = 5 then (some ((hr : Int), xup2 G 0 74 0)) else (if w = 6 then (some (xup2 G 0 74 0 (123 + 29 * hr + 1) 3, xup2 G 0 74 0)) else (if w = 7 then (some (xup2 G 0 74 0 (123 + 29 * hr) 4, xup2 G 0 74 0)) else (if w = 8 then (some (xup2 G 0 74 0 (0) 63, xup2 G 0 74 0)) else (some (xup2 G 0 74 0 (0) 73, xup2 G 0 74 0)))))))))))) := by
    unfold g377
    rw [Option.bind_some, eg, e0 62 0 (by omega), h62, Int.toNat_natCast]
  by_cases cb : w < 0 ∨ 9 < w
  · refine plain (-1) (by rw [ee, if_pos cb]) ⟨s, M, k2, ?_⟩
    rw [if_neg (by omega), if_neg (by omega), if_neg (by omega), if_neg (by omega), if_neg (by omega), if_neg (by omega), if_neg (by omega), if_neg (by omega), if_neg (by omega), if_neg (by omega)]
  rw [if_neg cb] at ee
  by_cases c0 : w = 0
  · refine plain _ (by rw [ee, if_pos c0, e0 _ _ (by omega)]) ⟨s, M, k2, ?_⟩
    rw [if_pos c0]; exact b2.2.1.2.1
  by_cases c1 : w = 1
  · refine plain _ (by rw [ee, if_neg c0, if_pos c1, e0 _ _ (by omega)]) ⟨s, M, k2, ?_⟩
    rw [if_neg c0, if_pos c1]; exact b2.2.1.2.2.1
  by_cases c2 : w = 2
  · refine ⟨_, G1, by rw [ee, if_neg c0, if_neg c1, if_pos c2, k1, Option.bind_some], ⟨s, M, k2, ?_⟩, k4, k5, k6, k7⟩
    rw [if_neg c0, if_neg c1, if_pos c2]; exact k3.1.1.1
  by_cases c3 : w = 3
  · refine ⟨_, G1, by rw [ee, if_neg c0, if_neg c1, if_neg c2, if_pos c3, k1, Option.bind_some], ⟨s, M, k2, ?_⟩, k4, k5, k6, k7⟩
    rw [if_neg c0, if_neg c1, if_neg c2, if_pos c3]; exact k3.1.2.2.1.1
  by_cases c4 : w = 4
  · refine plain _ (by rw [ee, if_neg c0, if_neg c1, if_neg c2, if_neg c3, if_pos c4, e0 _ _ (by omega)]) ⟨s, M, k2, ?_⟩
    rw [if_neg c0, if_neg c1, if_neg c2, if_neg c3, if_pos c4]; exact b2.2.2.2.2.2.2.2.2.2.1.1.1
  by_cases c5 : w = 5
  · refine plain (hr : Int) (by rw [ee, if_neg c0, if_neg c1, if_neg c2, if_neg c3, if_neg c4, if_pos c5]) ⟨s, M, k2, ?_⟩
    rw [if_neg c0, if_neg c1, if_neg c2, if_neg c3, if_neg c4, if_pos c5]
  by_cases c6 : w = 6
  · refine plain _ (by rw [ee, if_neg c0, if_neg c1, if_neg c2, if_neg c3, if_neg c4, if_neg c5, if_pos c6, e0 _ _ (by omega)]) ⟨s, M, k2, ?_⟩
    rw [if_neg c0, if_neg c1, if_neg c2, if_neg c3, if_neg c4, if_neg c5, if_pos c6]; exact b2.2.2.1.1
  by_cases c7 : w = 7
  · refine plain _ (by rw [ee, if_neg c0, if_neg c1, if_neg c2, if_neg c3, if_neg c4, if_neg c5, if_neg c6, if_pos c7, e0 _ _ (by omega)]) ⟨s, M, k2, ?_⟩
    rw [if_neg c0, if_neg c1, if_neg c2, if_neg c3, if_neg c4, if_neg c5, if_neg c6, if_pos c7]; exact b2.2.1.2.2.2
  by_cases c8 : w = 8
  · refine plain _ (by rw [ee, if_neg c0, if_neg c1, if_neg c2, if_neg c3, if_neg c4, if_neg c5, if_neg c6, if_neg c7, if_pos c8, e0 _ _ (by omega)]) ⟨s, M, k2, ?_⟩
    rw [if_neg c0, if_neg c1, if_neg c2, if_neg c3, if_neg c4, if_neg c5, if_neg c6, if_neg c7, if_pos c8]
  · have c9 : w = 9 := by omega
    refine plain _ (by rw [ee, if_neg c0, if_neg c1, if_neg c2, if_neg c3, if_neg c4, if_neg c5, if_neg c6, if_neg c7, if_neg c8, e0 _ _ (by omega)]) ⟨s, M, k2, ?_⟩
    rw [if_neg c0, if_neg c1, if_neg c2, if_neg c3, if_neg c4, if_neg c5, if_neg c6, if_neg c7, if_neg c8, if_pos c9]; exact h73
end
