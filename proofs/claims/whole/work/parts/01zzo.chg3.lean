/-! CHANGES as the reference reads them: one, after its sign -/
def xfd (x : Nat) (G G' : xG_) : Prop := ∀ a j, ¬ (a = 0 ∧ j = 21) → ¬ ((a = 272 ∨ a = 273) ∧ j = x) → ¬ (a = 274 ∧ 4 * x ≤ j ∧ j < 4 * x + 4) → G' a j = G a j
def pC1 (t : tStr) (i : Nat) : Nat ⊕ (Int × List Int × Nat) := pbind (pName t i) fun y => pbind (pNeed t 40 y.2) fun j => pbind (pCv t 3 [] j) fun r => .inr (y.1, r.1, r.2)
theorem rEv.fd {G G' : xG_} {q n o x : Nat} {B : Nat → Int} {lm : Bool} (h : rEv G q B n lm o) (hf : xfd x G G') : rEv G' q B n lm o := by
  obtain ⟨⟨⟨a1, a2, a3⟩, a4, a5, a6, a7⟩, b1, b2, b3, b4⟩ := h
  have e0 : G' 0 0 = G 0 0 := hf _ _ (by omega) (by omega) (by omega)
  have e1 : G' 0 1 = G 0 1 := hf _ _ (by omega) (by omega) (by omega)
  have eb : ∀ j, G' (G 0 0).toNat j = G (G 0 0).toNat j := fun j => hf _ _ (by omega) (by omega) (by omega)
  refine ⟨⟨⟨by rw [e0]; exact a1, by rw [e1]; exact a2, by rw [e0, e1]; exact a3⟩, a4, by rw [e1]; exact a5, fun p => ?_, fun p hp => ?_⟩, by rw [hf _ _ (by omega) (by omega) (by omega)]; exact b1, ?_, by rw [hf _ _ (by omega) (by omega) (by omega)]; exact b3, b4⟩
  · have := a6 p
    unfold gB at this ⊢
    rw [e0, e1, eb]
    exact this
  · rw [e0, eb]
    exact a7 p hp
  · obtain ⟨k1, k2, k3, k4, k5, k6, k7, k8, k9⟩ := b2
    unfold rC
    simp (disch := omega) only [hf _ _]
    exact ⟨k1, k2, k3, k4, k5, k6, k7, k8, k9⟩
section
variable {f o q n x i : Nat} {B : Nat → Int} {lm : Bool} {G : xG_} {L : Nat → Int}
theorem l_c40_bad {fu : Nat} (hx : x < 600) (h : L 7 ≠ -1) (hfu : 0 < fu) : g366_40 f fu (x : Int) 0 1 (xlx G L) = some (xlx (xup2 G 272 x 0) L) := by
  obtain ⟨fu, rfl⟩ : ∃ t, fu = t + 1 := ⟨fu - 1, by omega⟩
  have e0 : xup2 (xlx G L) 272 x 0 = xlx (xup2 G 272 x 0) L := by
    funext a j
    unfold xlx xup2
    grind
  have hn : ¬ ((1 : Int), xlx G L).1 = 0 := fun h => absurd (show (1 : Int) = 0 from h) (by decide)
  show g366_40b (g366_40 f fu) f (x : Int) 0 1 (xlx G L) = _
  unfold g366_40b
  rw [if_neg (by decide), l_bad, if_neg h, Option.bind_some, if_pos hn]
  unfold g366_106
  rw [if_pos (by omega), Option.bind_some, Int.toNat_natCast]
  show Option.bind (g222 f 41 (xup2 (xlx G L) 272 x 0)) _ = _
  rw [e0, l_need_bad h, Option.bind_some, l_need_bad h, Option.bind_some]
theorem l_366 (hf : n + 20 < f) (hx : x < 600) (hE : rEv G q B n lm o) (hA : rAt q B n lm i L) :
    pok (pC1 (tstr B n lm) i) (fun w => ∃ G' L', g366 f (x : Int) (xlx G L) = some (xlx G' L') ∧ L' 7 = (q : Int) + w ∧ xfd x G G')
      (fun r => ∃ G' L', g366 f (x : Int) (xlx G L) = some (xlx G' L') ∧ rAt q B n lm r.2.2 L' ∧ xfd x G G' ∧ G' 273 x = r.1 ∧ G' 272 x = (r.2.1.length : Int) ∧ r.2.1.length ≤ 4 ∧ ∀ k, k < r.2.1.length → G' 274 (4 * x + k) = r.2.1.getD k 0) := by
  have htk := hA.tk hE.1.2.1
  have h7 : L 7 = -1 := hA.1
  have t3 := htk.2.2.1
  have t8 := htk.2.2.2.2.2.2.2.1
  have t6 := htk.2.2.2.2.2.2.2.2.2.2.1
  have h40 : isSg 40 := by unfold isSg; omega
  unfold pC1 pName
  by_cases c1 : kK (tstr B n lm) i = 1
  · have l2 : L 2 = 2 := t3.mpr (Or.inl c1)
    obtain ⟨l9, l10, lt⟩ := t8 l2
    have hc : L 7 = -1 ∧ L 2 = 2 ∧ tres (L 9) = 1 := And.intro h7 (And.intro l2 (by rw [l9, lt]; exact c1))
    have hn : ¬ ((1 : Int), xlx G L).1 = 0 := fun h => absurd (show (1 : Int) = 0 from h) (by decide)
    have e0 : xup2 (xlx G L) 273 x (L 9) = xlx (xup2 G 273 x (L 9)) L := by
      funext a j
      unfold xlx xup2
      grind
    have hE1 : rEv (xup2 G 273 x (L 9)) q B n lm o := hE.fd (x := x) (fun a j _ h _ => xup2_n (by omega))
    have eg : g366 f (x : Int) (xlx G L) = Option.bind (g213 f (xlx (xup2 G 273 x (L 9)) L)) (fun R158 => (g222 f 40 R158).bind fun R163 => g366_40 f f (x : Int) 0 1 R163) := by
      unfold g366
      rw [l_name hE.2.2.1, Option.bind_some, if_pos hc, if_pos hn, if_pos (by omega), Option.bind_some, Int.toNat_natCast]
      show Option.bind (g213 f (xup2 (xlx G L) 273 x (L 9))) _ = _
      rw [e0]
    rw [eg, if_neg (fun h => h c1)]
    by_cases c2 : 12 < kE (tstr B n lm) i - kS (tstr B n lm) i
    · have l6 : L 6 = (q : Int) + kS (tstr B n lm) i + 12 := by rw [t6, if_pos (And.intro l2 c2)]
      have hb : xu L 7 (L 6) 7 ≠ -1 := by
        show L 6 ≠ -1
        omega
      rw [if_pos c2, l_pass_wr h7 (by omega), Option.bind_some, l_need_bad hb, Option.bind_some, l_c40_bad hx hb (by omega)]
      refine ⟨_, _, rfl, ?_, fun a j y1 y2 y3 => by rw [xup2_n (by omega), xup2_n (by omega)]⟩
      show L 6 = _
      omega
    · have l6 : L 6 = -1 := by rw [t6, if_neg (fun h => c2 h.2), if_neg (fun h => by omega)]
      obtain ⟨L1, d1, d2⟩ := l_pass hf hE1 hA l6 (by omega) (by omega)
      rw [if_neg c2, d1, Option.bind_some]
      show pok (pbind (pNeed (tstr B n lm) 40 (i + 1)) _) _ _
      unfold pNeed
      by_cases c3 : kK (tstr B n lm) (i + 1) = 40
      · obtain ⟨L2, f1, f2⟩ := l_need hf hE1 d2 h40 c3
        have f1' : g222 f 40 (xlx (xup2 G 273 x (L 9)) L1) = some (xlx (xup2 G 273 x (L 9)) L2) := f1
        rw [if_pos c3, f1', Option.bind_some]
        have hh := l_c40 hf hx 3 f (i + 1 + 1) [] (xup2 G 273 x (L 9)) L2 rfl (by omega) hE1 f2 (fun k hk => absurd hk (Nat.not_lt_zero _))
        unfold rCv at hh
        show pok (pbind (pCv (tstr B n lm) 3 [] (i + 1 + 1)) _) _ _
        cases hq : pCv (tstr B n lm) 3 [] (i + 1 + 1) with
        | inl w =>
          rw [hq] at hh
          obtain ⟨G', L3, b1, b2, b3⟩ := hh
          exact ⟨G', L3, b1, b2, fun a j y1 y2 y3 => by rw [b3 a j y1 (by omega) y3, xup2_n (by omega)]⟩
        | inr r =>
          rw [hq] at hh
          obtain ⟨G', L3, b1, b2, b3, b4, b5, b6⟩ := hh
          exact ⟨G', L3, b1, b2, fun a j y1 y2 y3 => by rw [b3 a j y1 (by omega) y3, xup2_n (by omega)], by rw [b3 _ _ (by omega) (by omega) (by omega), xup2_s]; exact l9, b4, b5, b6⟩
      · have f1 := l_need_no (f := f) hE1 d2 h40 c3
        have f1' : g222 f 40 (xlx (xup2 G 273 x (L 9)) L1) = _ := f1
        have hb : xu L1 7 ((q : Int) + kS (tstr B n lm) (i + 1)) 7 ≠ -1 := by
          show (q : Int) + kS (tstr B n lm) (i + 1) ≠ -1
          omega
        rw [if_neg c3, f1', Option.bind_some, l_c40_bad hx hb (by omega)]
        exact ⟨_, _, rfl, rfl, fun a j y1 y2 y3 => by rw [xup2_n (by omega), xup2_n (by omega)]⟩
  · have hc : ¬ (L 7 = -1 ∧ L 2 = 2 ∧ tres (L 9) = 1) := fun h => by
      obtain ⟨l9, _, lt⟩ := t8 h.2.1
      have := h.2.2
      rw [l9, lt] at this
      exact c1 this
    have hn : ¬ ¬ ((0 : Int), xlx G L).1 = 0 := fun h => h rfl
    have eg : g366 f (x : Int) (xlx G L) = some (xlx G (xu L 7 (L 4))) := by
      unfold g366
      rw [l_name hE.2.2.1, Option.bind_some, if_neg hc, if_neg hn]
      show Option.bind (g210 f (L 4) (xlx G L)) _ = _
      rw [l_fail, if_pos h7, Option.bind_some]
    rw [eg, if_pos c1]
    refine ⟨G, _, rfl, ?_, fun _ _ _ _ _ => rfl⟩
    show L 4 = _
    exact htk.1
end
