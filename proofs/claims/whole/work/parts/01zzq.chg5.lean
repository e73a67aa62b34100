/-! CHANGES as the reference reads them: one, with its sign -/
def xfh (x : Nat) (G G' : xG_) : Prop := ∀ a j, ¬ (a = 0 ∧ j = 21) → ¬ ((a = 271 ∨ a = 272 ∨ a = 273) ∧ j = x) → ¬ (a = 274 ∧ 4 * x ≤ j ∧ j < 4 * x + 4) → G' a j = G a j
theorem xl271 : ((xl_t 271).2.2 : Int) = 600 := by decide +kernel
theorem rEv.fh {G G' : xG_} {q n o x : Nat} {B : Nat → Int} {lm : Bool} (h : rEv G q B n lm o) (hf : xfh x G G') : rEv G' q B n lm o := by
  obtain ⟨⟨⟨a1, a2, a3⟩, a4, a5, a6, a7⟩, b1, b2, b3, b4⟩ := h
  have e0 : G' 0 0 = G 0 0 := hf _ _ (by omega) (by omega) (by omega)
  have e1 : G' 0 1 = G 0 1 := hf _ _ (by omega) (by omega) (by omega)
  have eb : ∀ j, G' (G 0 0).toNat j = G (G 0 0).toNat j := fun j => hf _ _ (by omega) (by omega) (by omega)
  refine ⟨⟨⟨by rw [e0]; exact a1, by rw [e1]; exact a2, by rw [e0, e1]; exact a3⟩, a4, by rw [e1]; exact a5, fun p => ?_, fun p hp => ?_⟩, by rw [hf _ _ (by omega) (by omega) (by omega)]; exact b1, ?_, by rw [hf _ _ (by omega) (by omega) (by omega)]; exact b3, b4⟩
  · have := a6 p
    unfold gB at this ⊢
    rw [e0, e1, eb]
    exact this
  · rw [e0, eb]
    exact a7 p hp
  · obtain ⟨k1, k2, k3, k4, k5, k6, k7, k8, k9⟩ := b2
    unfold rC
    simp (disch := omega) only [hf _ _]
    exact ⟨k1, k2, k3, k4, k5, k6, k7, k8, k9⟩
section
variable {f q n x i : Nat} {B : Nat → Int} {lm : Bool} {G : xG_} {L : Nat → Int} {s : pPg}
theorem l_c158 {r98 : Nat → Int → Int → Int → xG_ → Option (Int × xG_)} {x2 : Nat} {x5 x6 y : Int} (hf : n + 20 < f) (hx : x < 600) (hE : rEv G q B n lm 72) (hA : rAt q B n lm i L) (hk : kK (tstr B n lm) i = 43 ∨ kK (tstr B n lm) i = 45) (hN : rNs G 72 s.1) (hfl : rFlg G 72 s) (hn : rPn G 72 s) :
    pok (pC1 (tstr B n lm) (i + 1)) (fun w => ∃ G' L' a b, g365_158 r98 f x2 (x : Int) x5 x6 y (x : Int) 271 (xlx G L) = r98 x2 ((x + 1 : Nat) : Int) a b (xlx G' L') ∧ L' 7 = (q : Int) + w ∧ xfh x G G')
      (fun r => ∃ G' L', g365_158 r98 f x2 (x : Int) x5 x6 y (x : Int) 271 (xlx G L) = r98 x2 ((x + 1 : Nat) : Int) (if x5 = 0 then qCf s (pIdx s.1 r.1) (r.2.1.length : Int) else x5) (if x5 = 0 ∧ qCf s (pIdx s.1 r.1) (r.2.1.length : Int) ≠ 0 then (q : Int) + kS (tstr B n lm) (i + 1) else x6) (xlx G' L') ∧ rAt q B n lm r.2.2 L' ∧ xfh x G G' ∧ G' 271 x = y ∧ G' 273 x = r.1 ∧ G' 272 x = (r.2.1.length : Int) ∧ r.2.1.length ≤ 4 ∧ ∀ k, k < r.2.1.length → G' 274 (4 * x + k) = r.2.1.getD k 0) := by
  have htk := hA.tk hE.1.2.1
  have e0 : xup2 (xlx G L) 271 x y = xlx (xup2 G 271 x y) L := by
    funext a j
    unfold xlx xup2
    grind
  have hE1 : rEv (xup2 G 271 x y) q B n lm 72 := hE.fh (x := x) (fun a j _ h _ => xup2_n (by omega))
  have hsg : L 2 = 6 := by
    rcases hk with h | h
    · exact ((htk.2.1 43 (by unfold isSg; omega)).mpr h).1
    · exact ((htk.2.1 45 (by unfold isSg; omega)).mpr h).1
  have h6 : L 6 = -1 := by rw [htk.2.2.2.2.2.2.2.2.2.2.1, hsg]; rfl
  obtain ⟨L1, d1, d2⟩ := l_pass hf hE1 hA h6 (by omega) (by omega)
  have l4 : L1 4 = (q : Int) + kS (tstr B n lm) (i + 1) := (d2.tk hE.1.2.1).1
  have hh := l_366 (f := f) (x := x) hf hx hE1 d2
  have ge : ∀ {G' : xG_}, xfd x (xup2 G 271 x y) G' → xfh x G G' := fun hg a j y1 y2 y3 => by rw [hg a j y1 (by omega) y3, xup2_n (by omega)]
  have fl : ∀ {G' : xG_} {L' : Nat → Int}, xfh x G G' → rFlg (xlx G' L') 72 s ∧ rPn (xlx G' L') 72 s ∧ rNs (xlx G' L') 72 s.1 := fun {G' L'} hg => by
    have e : ∀ a j, 72 ≤ a → a ≤ 100 → xlx G' L' a j = G a j := fun a j _ _ => by rw [xlx_a (by omega), hg a j (by omega) (by omega) (by omega)]
    refine ⟨fun p hp => ?_, fun p hp => ?_, ?_, hN.2.1, fun k hk => ?_⟩
    · rw [e _ _ (by omega) (by omega), e _ _ (by omega) (by omega), e _ _ (by omega) (by omega), e _ _ (by omega) (by omega)]; exact hfl p hp
    · rw [e _ _ (by omega) (by omega)]; exact hn p hp
    · rw [e _ _ (by omega) (by omega)]; exact hN.1
    · rw [e _ _ (by omega) (by omega)]; exact hN.2.2 k hk
  have eg : g365_158 r98 f x2 (x : Int) x5 x6 y (x : Int) 271 (xlx G L) = Option.bind (g366 f (x : Int) (xlx (xup2 G 271 x y) L1)) (fun R119 => ((g211 f R119).bind fun R124 => (if (R124.1) = 0 then (if 0 ≤ (x : Int) ∧ (x : Int) < 600 then ((g205 f 72 (R124.2 273 x) R124.2).bind fun R131 => g365_200 r98 f x2 (x : Int) x5 x6 ((q : Int) + kS (tstr B n lm) (i + 1)) R131.1 R131.2) else none) else g365_200 r98 f x2 (x : Int) x5 x6 ((q : Int) + kS (tstr B n lm) (i + 1)) (-1) R124.2))) := by
    unfold g365_158
    rw [xl271, if_pos (by omega), Option.bind_some, Int.toNat_natCast, e0, d1, Option.bind_some, ← l4]
    rfl
  rw [eg]
  cases hq : pC1 (tstr B n lm) (i + 1) with
  | inl w =>
    rw [hq] at hh
    obtain ⟨G', L', a1, a2, a3⟩ := hh
    have hne : L' 7 ≠ -1 := by omega
    have hn1 : ¬ ((1 : Int), xlx G' L').1 = 0 := fun h => absurd (show (1 : Int) = 0 from h) (by decide)
    obtain ⟨g1, g2, g3⟩ := fl (L' := L') (ge a3)
    rw [a1, Option.bind_some, l_bad, if_neg hne, Option.bind_some, if_neg hn1]
    refine ⟨G', L', _, _, l_c200 (s := s) hx g1 g2 hN.2.1 (Or.inl rfl) rfl, a2, ge a3⟩
  | inr r =>
    rw [hq] at hh
    obtain ⟨G', L', a1, a2, a3, a4, a5, a6, a7⟩ := hh
    obtain ⟨g1, g2, g3⟩ := fl (L' := L') (ge a3)
    have e273 : xlx G' L' 273 x = r.1 := by rw [xlx_a (by omega)]; exact a4
    rw [a1, Option.bind_some, l_bad, if_pos a2.1, Option.bind_some, if_pos rfl, if_pos (by omega)]
    refine ⟨G', L', ?_, a2, ge a3, by rw [a3 _ _ (by omega) (by omega) (by omega), xup2_s], a4, a5, a6, a7⟩
    show Option.bind (g205 f 72 (xlx G' L' 273 x) (xlx G' L')) _ = _
    rw [e273, g3.idx (by omega) (by omega), Option.bind_some]
    exact l_c200 (s := s) hx g1 g2 hN.2.1 (pIdx_in _ _) (by show xlx G' L' 272 x = _; rw [xlx_a (by omega)]; exact a5)
end
