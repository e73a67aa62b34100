/-! workCells: which CELLS are worked -/
section
variable {f o h : Nat} {X : fXs} {s : pPg} {W : Nat → Int} {C D : fCs} {H : Nat → Prop} {fr : Int}
/-- CELL c is worked in a round: C before, D behind; H the predicates whose rows have changed -/
def qCw (X : fXs) (s : pPg) (fr : Prop) (W : Nat → Int) (C D : fCs) (H : Nat → Prop) (c : Nat) : Prop := X c ≠ none ∧ (W c ≠ -1 ∨ (fr ∧ xRn X c = true) ∨ (∃ x, x < 72 ∧ (xRd X c).testBit x = true ∧ D x ≠ C x) ∨ ∃ p, p < s.1.length ∧ (xRo X s c).testBit p = true ∧ H p)
def eWk (G : xG_) (o : Nat) (X : fXs) (s : pPg) (W : Nat → Int) (C D : fCs) (H : Nat → Prop) : Prop := (∀ c, c < 72 → rWs G C W c) ∧ (∀ c, c < 72 → rRo G c (xRd X c) (xRo X s c) (xRn X c)) ∧ rCs G o D ∧ G 2 8 = (s.1.length : Int) ∧ s.1.length ≤ 16 ∧ (∀ p, p < 16 → (G (o + 19) p = 1 ↔ H p)) ∧ ∀ c, c < 72 → (G (o + 15) c = 0 ↔ X c = none)
theorem eWk.up {G : xG_} {c : Nat} {v : Int} (h : eWk G o X s W C D H) (ho : 122 < o ∧ o < 211) : eWk (xup2 G (o + 16) c v) o X s W C D H := by
  obtain ⟨a1, a2, a3, a4, a5, a6, a7⟩ := h
  have z : ∀ a j, a ≠ o + 16 → xup2 G (o + 16) c v a j = G a j := fun a j q => xup2_n (by omega)
  refine ⟨fun y hy => ?_, fun y hy => ?_, fun y hy => ?_, by rw [z _ _ (by omega)]; exact a4, a5, fun p hp => by rw [z _ _ (by omega)]; exact a6 p hp, fun y hy => by rw [z _ _ (by omega)]; exact a7 y hy⟩
  · unfold rWs
    rw [z _ _ (by omega), z _ _ (by omega), z _ _ (by omega)]
    exact a1 y hy
  · unfold rRo
    rw [z _ _ (by omega), z _ _ (by omega), z _ _ (by omega), z _ _ (by omega)]
    exact a2 y hy
  · rw [z _ _ (by omega), z _ _ (by omega)]
    exact a3 y hy
theorem l_354_271 {G : xG_} {r138 : Nat → Int → Int → xG_ → Option xG_} {c : Nat} (hh : h < 4) (ho : o = 123 + 29 * h) (hc : c < 72) (he : eWk G o X s W C D H) (hW : 0 ≤ G (o + 16) c ∧ G (o + 16) c < 1000000) : ∀ (d p fu : Nat) (ac : Int), p + d = s.1.length → d < fu →
    ∃ w : Int, g354_271 r138 f fu o fr (c : Int) ac (p : Int) G = r138 o fr ((c + 1 : Nat) : Int) (xup2 G (o + 16) c (G (o + 16) c + w)) ∧ (w = 0 ∨ w = 1) ∧ (w = 0 ↔ ac = 0 ∧ ∀ y, p ≤ y → y < s.1.length → ¬ ((xRo X s c).testBit y = true ∧ H y)) := by
  obtain ⟨a1, a2, a3, a4, a5, a6, a7⟩ := he
  have hc2 : 0 ≤ (c : Int) ∧ (c : Int) < 72 := by omega
  intro d
  induction d with
  | zero =>
    intro p fu ac h1 h2
    obtain ⟨fu, rfl⟩ : ∃ t, fu = t + 1 := ⟨fu - 1, by omega⟩
    have e : xwr ((c : Int) + 1) = ((c + 1 : Nat) : Int) := by rw [xwr_g _ (by omega) (by omega)]; omega
    have e344 : ∀ w : Int, w = 0 ∨ w = 1 → g354_344 r138 f o fr (c : Int) w (G (o + 16) c) (c : Int) (o + 16) G = r138 o fr ((c + 1 : Nat) : Int) (xup2 G (o + 16) c (G (o + 16) c + w)) := fun w hw => by
      unfold g354_344 g354_346
      rw [len16 hh ho, if_pos hc2, Int.toNat_natCast, Option.bind_some, xwr_g (G (o + 16) c + w) (by omega) (by omega), e]
    by_cases q : ac = 0
    · refine ⟨0, ?_, .inl rfl, fun _ => ⟨q, fun y y1 y2 => by omega⟩, fun _ => rfl⟩
      show g354_271b r138 (g354_271 r138 f fu) f _ _ _ _ _ _ = _
      unfold g354_271b
      rw [a4, if_pos (by omega), if_pos hc2, if_pos q, Int.toNat_natCast, e344 0 (.inl rfl)]
    · refine ⟨1, ?_, .inr rfl, fun z => absurd z (by decide), fun z => absurd z.1 q⟩
      show g354_271b r138 (g354_271 r138 f fu) f _ _ _ _ _ _ = _
      unfold g354_271b
      rw [a4, if_pos (by omega), if_pos hc2, if_neg q, Int.toNat_natCast, e344 1 (.inr rfl)]
  | succ d ih =>
    intro p fu ac h1 h2
    obtain ⟨fu, rfl⟩ : ∃ t, fu = t + 1 := ⟨fu - 1, by omega⟩
    have e : xwr ((p : Int) + 1) = ((p + 1 : Nat) : Int) := by rw [xwr_g _ (by omega) (by omega)]; omega
    obtain ⟨r1, r2, r3, r4⟩ := a2 c hc
    have hb := xbit (a := xRo X s c) (m := p) (Nat.lt_of_lt_of_le r3 (by decide)) (by omega)
    have hp := a6 p (by omega)
    have st : ∀ {a : Int}, (a = 0 ↔ ac = 0 ∧ ¬ ((xRo X s c).testBit p = true ∧ H p)) → g354_271 r138 f (fu + 1) o fr (c : Int) ac (p : Int) G = g354_271 r138 f fu o fr (c : Int) a ((p + 1 : Nat) : Int) G → ∃ w : Int, g354_271 r138 f (fu + 1) o fr (c : Int) ac (p : Int) G = r138 o fr ((c + 1 : Nat) : Int) (xup2 G (o + 16) c (G (o + 16) c + w)) ∧ (w = 0 ∨ w = 1) ∧ (w = 0 ↔ ac = 0 ∧ ∀ y, p ≤ y → y < s.1.length → ¬ ((xRo X s c).testBit y = true ∧ H y)) := fun {a} ha hs => by
      obtain ⟨w, k1, k2, k3⟩ := ih (p + 1) fu a (by omega) (by omega)
      refine ⟨w, by rw [hs]; exact k1, k2, ?_⟩
      rw [k3, ha]
      constructor
      · rintro ⟨⟨q1, q2⟩, q3⟩
        refine ⟨q1, fun y y1 y2 => ?_⟩
        by_cases c : y = p
        · rw [c]; exact q2
        · exact q3 y (by omega) y2
      · rintro ⟨q1, q2⟩
        exact ⟨⟨q1, q2 p (by omega) (by omega)⟩, fun y y1 y2 => q2 y (by omega) y2⟩
    have e0 : g354_271 r138 f (fu + 1) o fr (c : Int) ac (p : Int) G = g354_271b r138 (g354_271 r138 f fu) f o fr (c : Int) ac (p : Int) G := rfl
    by_cases c0 : ac = 0
    · have n1 : ¬ ¬ ac = 0 := fun q => q c0
      by_cases c2 : (xRo X s c).testBit p = true
      · have n2 : ¬ ¬ xand (xshr ((xRo X s c : Nat) : Int) (p : Int)) 1 = 1 := fun q => q (hb.mpr c2)
        by_cases c3 : H p
        · have n3 : ¬ ¬ G (o + 19) p = 1 := fun q => q (hp.mpr c3)
          refine st (a := 1) ⟨fun q => absurd q (by decide), fun q => absurd ⟨c2, c3⟩ q.2⟩ ?_
          rw [e0]
          unfold g354_271b g354_314 g354_319
          rw [a4, if_neg (by omega), if_neg n1, if_pos hc2, Int.toNat_natCast, r2, if_neg n2, if_pos (by omega), Int.toNat_natCast, if_neg n3, e]
        · have n3 : ¬ G (o + 19) p = 1 := fun q => c3 (hp.mp q)
          refine st (a := 0) ⟨fun _ => ⟨c0, fun q => c3 q.2⟩, fun _ => rfl⟩ ?_
          rw [e0]
          unfold g354_271b g354_318 g354_319
          rw [a4, if_neg (by omega), if_neg n1, if_pos hc2, Int.toNat_natCast, r2, if_neg n2, if_pos (by omega), Int.toNat_natCast, if_pos n3, e]
      · have n2 : ¬ xand (xshr ((xRo X s c : Nat) : Int) (p : Int)) 1 = 1 := fun q => c2 (hb.mp q)
        refine st (a := 0) ⟨fun _ => ⟨c0, fun q => c2 q.1⟩, fun _ => rfl⟩ ?_
        rw [e0]
        unfold g354_271b g354_318 g354_319
        rw [a4, if_neg (by omega), if_neg n1, if_pos hc2, Int.toNat_natCast, r2, if_pos n2, e]
    · refine st (a := 1) ⟨fun q => absurd q (by decide), fun q => absurd q.1 c0⟩ ?_
      rw [e0]
      unfold g354_271b g354_314 g354_319
      rw [a4, if_neg (by omega), if_pos c0, e]
theorem l_354_188 {G : xG_} {r138 : Nat → Int → Int → xG_ → Option xG_} {c : Nat} (hf : 100 < f) (hh : h < 4) (ho : o = 123 + 29 * h) (hc : c < 72) (he : eWk G o X s W C D H) (hW : 0 ≤ G (o + 16) c ∧ G (o + 16) c < 1000000) : ∀ (d x fu : Nat) (ac : Int), x + d = 72 → d < fu →
    ∃ w : Int, g354_188 r138 f fu o fr (c : Int) ac (x : Int) G = r138 o fr ((c + 1 : Nat) : Int) (xup2 G (o + 16) c (G (o + 16) c + w)) ∧ (w = 0 ∨ w = 1) ∧ (w = 0 ↔ (ac = 0 ∧ ∀ y, x ≤ y → y < 72 → ¬ ((xRd X c).testBit y = true ∧ D y ≠ C y)) ∧ ∀ y, y < s.1.length → ¬ ((xRo X s c).testBit y = true ∧ H y)) := by
  have he' := he
  obtain ⟨a1, a2, a3, a4, a5, a6, a7⟩ := he
  have hc2 : 0 ≤ (c : Int) ∧ (c : Int) < 72 := by omega
  intro d
  induction d with
  | zero =>
    intro x fu ac h1 h2
    obtain ⟨fu, rfl⟩ : ∃ t, fu = t + 1 := ⟨fu - 1, by omega⟩
    obtain ⟨w, k1, k2, k3⟩ := l_354_271 (f := f) (fr := fr) (r138 := r138) hh ho hc he' hW s.1.length 0 f ac (by omega) (by omega)
    refine ⟨w, ?_, k2, ?_⟩
    · show g354_188b r138 (g354_188 r138 f fu) f _ _ _ _ _ _ = _
      unfold g354_188b
      rw [if_pos (by omega)]
      exact k1
    · rw [k3]
      constructor
      · rintro ⟨q1, q2⟩
        exact ⟨⟨q1, fun y y1 y2 => by omega⟩, fun y hy => q2 y (Nat.zero_le y) hy⟩
      · rintro ⟨q1, q2⟩
        exact ⟨q1.1, fun y _ hy => q2 y hy⟩
  | succ d ih =>
    intro x fu ac h1 h2
    obtain ⟨fu, rfl⟩ : ∃ t, fu = t + 1 := ⟨fu - 1, by omega⟩
    have hx : x < 72 := by omega
    have hx2 : 0 ≤ (x : Int) ∧ (x : Int) < 72 := by omega
    have e : xwr ((x : Int) + 1) = ((x + 1 : Nat) : Int) := by rw [xwr_g _ (by omega) (by omega)]; omega
    obtain ⟨r1, r2, r3, r4⟩ := a2 c hc
    obtain ⟨w1, w2, w3⟩ := a1 x hx
    obtain ⟨d1, d2⟩ := a3 x hx
    have st : ∀ {a : Int}, (a = 0 ↔ ac = 0 ∧ ¬ ((xRd X c).testBit x = true ∧ D x ≠ C x)) → g354_188 r138 f (fu + 1) o fr (c : Int) ac (x : Int) G = g354_188 r138 f fu o fr (c : Int) a ((x + 1 : Nat) : Int) G → ∃ w : Int, g354_188 r138 f (fu + 1) o fr (c : Int) ac (x : Int) G = r138 o fr ((c + 1 : Nat) : Int) (xup2 G (o + 16) c (G (o + 16) c + w)) ∧ (w = 0 ∨ w = 1) ∧ (w = 0 ↔ (ac = 0 ∧ ∀ y, x ≤ y → y < 72 → ¬ ((xRd X c).testBit y = true ∧ D y ≠ C y)) ∧ ∀ y, y < s.1.length → ¬ ((xRo X s c).testBit y = true ∧ H y)) := fun {a} ha hs => by
      obtain ⟨w, k1, k2, k3⟩ := ih (x + 1) fu a (by omega) (by omega)
      refine ⟨w, by rw [hs]; exact k1, k2, ?_⟩
      rw [k3, ha]
      constructor
      · rintro ⟨⟨⟨q1, q2⟩, q3⟩, q4⟩
        refine ⟨⟨q1, fun y y1 y2 => ?_⟩, q4⟩
        by_cases c : y = x
        · rw [c]; exact q2
        · exact q3 y (by omega) y2
      · rintro ⟨⟨q1, q2⟩, q4⟩
        exact ⟨⟨⟨q1, q2 x (by omega) (by omega)⟩, fun y y1 y2 => q2 y (by omega) y2⟩, q4⟩
    have e0 : g354_188 r138 f (fu + 1) o fr (c : Int) ac (x : Int) G = g354_188b r138 (g354_188 r138 f fu) f o fr (c : Int) ac (x : Int) G := rfl
    by_cases c0 : ac = 0
    · have n1 : ¬ ¬ ac = 0 := fun q => q c0
      by_cases c2 : (xRd X c).testBit x = true
      · have s1 : ¬ ((if (xRd X c).testBit x = true then (1 : Int) else 0, G) : Int × xG_).1 = 0 := by
          rw [if_pos c2]; show ¬ (1 : Int) = 0; decide
        by_cases c3 : (D x).1 = (C x).1
        · by_cases c4 : (D x).2 = (C x).2
          · have hdc : D x = C x := Prod.ext c3 c4
            refine st (a := 0) ⟨fun _ => ⟨c0, fun q => q.2 hdc⟩, fun _ => rfl⟩ ?_
            rw [e0]
            unfold g354_188b g354_259 g354_260
            rw [if_neg (by omega), if_neg n1, if_pos hc2, if_pos hc2, Int.toNat_natCast, l_343 r1 hx, Option.bind_some, if_neg s1, if_pos hx2, if_pos hx2]
            simp only [Int.toNat_natCast]
            rw [d1, w1, if_neg (fun q => q c3), if_pos hx2, if_pos hx2, d2, w2, if_pos c4, e]
          · refine st (a := 1) ⟨fun q => absurd q (by decide), fun q => absurd ⟨c2, fun z => c4 (by rw [z])⟩ q.2⟩ ?_
            rw [e0]
            unfold g354_188b g354_255 g354_260
            rw [if_neg (by omega), if_neg n1, if_pos hc2, if_pos hc2, Int.toNat_natCast, l_343 r1 hx, Option.bind_some, if_neg s1, if_pos hx2, if_pos hx2]
            simp only [Int.toNat_natCast]
            rw [d1, w1, if_neg (fun q => q c3), if_pos hx2, if_pos hx2, d2, w2, if_neg c4, e]
        · refine st (a := 1) ⟨fun q => absurd q (by decide), fun q => absurd ⟨c2, fun z => c3 (by rw [z])⟩ q.2⟩ ?_
          rw [e0]
          unfold g354_188b g354_255 g354_260
          rw [if_neg (by omega), if_neg n1, if_pos hc2, if_pos hc2, Int.toNat_natCast, l_343 r1 hx, Option.bind_some, if_neg s1, if_pos hx2, if_pos hx2]
          simp only [Int.toNat_natCast]
          rw [d1, w1, if_pos c3, e]
      · have s1 : ((if (xRd X c).testBit x = true then (1 : Int) else 0, G) : Int × xG_).1 = 0 := by
          rw [if_neg c2]
        refine st (a := 0) ⟨fun _ => ⟨c0, fun q => c2 q.1⟩, fun _ => rfl⟩ ?_
        rw [e0]
        unfold g354_188b g354_259 g354_260
        rw [if_neg (by omega), if_neg n1, if_pos hc2, if_pos hc2, Int.toNat_natCast, l_343 r1 hx, Option.bind_some, if_pos s1, e]
    · refine st (a := 1) ⟨fun q => absurd q (by decide), fun q => absurd q.1 c0⟩ ?_
      rw [e0]
      unfold g354_188b g354_255 g354_260
      rw [if_neg (by omega), if_pos c0, e]
/-- how often CELLS were worked -/
def rWk (G G' : xG_) (o : Nat) (P : Nat → Prop) (x : Nat) : Prop := ∀ c, c < x → (P c ∧ G' (o + 16) c = G (o + 16) c + 1) ∨ (¬ P c ∧ G' (o + 16) c = G (o + 16) c)
theorem l_354_138 (hf : 100 < f) (hh : h < 4) (ho : o = 123 + 29 * h) : ∀ (d c fu : Nat) (G : xG_), c + d = 72 → d < fu → eWk G o X s W C D H → (∀ y, c ≤ y → y < 72 → 0 ≤ G (o + 16) y ∧ G (o + 16) y < 1000000) →
    ∃ G', g354_138 f fu o fr (c : Int) G = some G' ∧ (∀ y, c ≤ y → y < 72 → (qCw X s (fr ≠ 0) W C D H y ∧ G' (o + 16) y = G (o + 16) y + 1) ∨ (¬ qCw X s (fr ≠ 0) W C D H y ∧ G' (o + 16) y = G (o + 16) y)) ∧ ∀ a j, ¬ (a = o + 16 ∧ c ≤ j ∧ j < 72) → G' a j = G a j := by
  intro d
  induction d with
  | zero =>
    intro c fu G h1 h2 he hW
    obtain ⟨fu, rfl⟩ : ∃ t, fu = t + 1 := ⟨fu - 1, by omega⟩
    refine ⟨G, ?_, fun y y1 y2 => by omega, fun _ _ _ => rfl⟩
    show g354_138b (g354_138 f fu) f _ _ _ _ = _
    unfold g354_138b
    rw [if_pos (by omega)]
  | succ d ih =>
    intro c fu G h1 h2 he hW
    obtain ⟨fu, rfl⟩ : ∃ t, fu = t + 1 := ⟨fu - 1, by omega⟩
    have hc : c < 72 := by omega
    have hc2 : 0 ≤ (c : Int) ∧ (c : Int) < 72 := by omega
    have he' := he
    obtain ⟨a1, a2, a3, a4, a5, a6, a7⟩ := he
    have e : xwr ((c : Int) + 1) = ((c + 1 : Nat) : Int) := by rw [xwr_g _ (by omega) (by omega)]; omega
    have e0 : g354_138 f (fu + 1) o fr (c : Int) G = g354_138b (g354_138 f fu) f o fr (c : Int) G := rfl
    by_cases c0 : X c = none
    · obtain ⟨G', k1, k2, k3⟩ := ih (c + 1) fu G (by omega) (by omega) he' (fun y y1 y2 => hW y (by omega) y2)
      refine ⟨G', ?_, fun y y1 y2 => ?_, fun a j q => k3 a j (by omega)⟩
      · rw [e0]
        unfold g354_138b g354_346
        rw [if_neg (by omega), if_pos hc2, Int.toNat_natCast, if_neg (fun q => q ((a7 c hc).mpr c0)), e]
        exact k1
      · by_cases d : y = c
        · rw [d, k3 _ _ (by omega)]
          exact .inr ⟨fun q => q.1 c0, rfl⟩
        · exact k2 y (by omega) y2
    · -- the flag at first
      obtain ⟨ac, f1, f2⟩ : ∃ ac : Int, g354_138b (g354_138 f fu) f o fr (c : Int) G = g354_188 (g354_138 f fu) f f o fr (c : Int) ac 0 G ∧ (ac = 0 ↔ ¬ (W c ≠ -1) ∧ ¬ (fr ≠ 0 ∧ xRn X c = true)) := by
        obtain ⟨w1, w2, w3⟩ := a1 c hc
        obtain ⟨r1, r2, r3, r4⟩ := a2 c hc
        unfold g354_138b g354_178 g354_182 g354_183
        rw [if_neg (by omega), if_pos hc2, Int.toNat_natCast, if_pos (fun q => c0 ((a7 c hc).mp q)), if_pos hc2, w3]
        by_cases q1 : W c = -1
        · rw [if_pos q1, if_neg (fun q => q rfl)]
          by_cases q2 : fr = 0
          · rw [if_pos q2]
            exact ⟨0, rfl, fun _ => ⟨fun z => z q1, fun z => z.1 q2⟩, fun _ => rfl⟩
          · rw [if_neg q2, if_pos hc2, r4]
            cases hx : xRn X c with
            | false =>
              rw [if_pos (show b01 false = 0 from rfl)]
              exact ⟨0, rfl, fun _ => ⟨fun z => z q1, fun z => absurd z.2 (by decide)⟩, fun _ => rfl⟩
            | true =>
              rw [if_neg (show ¬ b01 true = 0 by decide)]
              exact ⟨1, rfl, fun z => absurd z (by decide), fun z => absurd ⟨q2, rfl⟩ z.2⟩
        · rw [if_neg q1, if_pos (by decide)]
          exact ⟨1, rfl, fun z => absurd z (by decide), fun z => absurd q1 z.1⟩
      obtain ⟨w, g1, g2, g3⟩ := l_354_188 (f := f) (fr := fr) (r138 := g354_138 f fu) hf hh ho hc he' (hW c (Nat.le_refl c) hc) 72 0 f ac rfl (by omega)
      have hP : w = 0 ↔ ¬ qCw X s (fr ≠ 0) W C D H c := by
        rw [g3, f2]
        unfold qCw
        constructor
        · rintro ⟨⟨⟨q1, q2⟩, q3⟩, q4⟩ ⟨_, z⟩
          rcases z with z | z | ⟨x, z1, z2, z3⟩ | ⟨p, z1, z2, z3⟩
          · exact q1 z
          · exact q2 z
          · exact q3 x (Nat.zero_le x) z1 ⟨z2, z3⟩
          · exact q4 p z1 ⟨z2, z3⟩
        · intro z
          refine ⟨⟨⟨fun q => z ⟨c0, .inl q⟩, fun q => z ⟨c0, .inr (.inl q)⟩⟩, fun x _ x2 q => z ⟨c0, .inr (.inr (.inl ⟨x, x2, q.1, q.2⟩))⟩⟩, fun p hp q => z ⟨c0, .inr (.inr (.inr ⟨p, hp, q.1, q.2⟩))⟩⟩
      obtain ⟨G', k1, k2, k3⟩ := ih (c + 1) fu (xup2 G (o + 16) c (G (o + 16) c + w)) (by omega) (by omega) (he'.up (by omega)) (fun y y1 y2 => by rw [xup2_n (by omega)]; exact hW y (by omega) y2)
      refine ⟨G', ?_, fun y y1 y2 => ?_, fun a j q => by rw [k3 a j (by omega), xup2_n (by omega)]⟩
      · rw [e0, f1]
        exact g1.trans k1
      · by_cases d : y = c
        · rw [d, k3 _ _ (by omega), xup2_s]
          rcases g2 with z | z
          · exact .inr ⟨hP.mp z, by rw [z]; omega⟩
          · refine .inl ⟨Classical.not_not.mp (fun q => ?_), by rw [z]⟩
            rw [hP.mpr q] at z
            exact absurd z (by decide)
        · have := k2 y (by omega) y2
          rw [xup2_n (by omega)] at this
          exact this
/-- what workCells changes -/
def xfWc (o : Nat) (G G' : xG_) : Prop := ∀ a j, ¬ (a = 0 ∧ (j ≤ 11 ∨ j = 21 ∨ j = 25 ∨ j = 42 ∨ 89 ≤ j ∧ j ≤ 91)) → ¬ (258 ≤ a ∧ a ≤ 270) → a ≠ 251 → a ≠ 252 → ¬ (a = o ∧ j = 16) → ¬ (o + 10 ≤ a ∧ a ≤ o + 12) → ¬ (o + 15 ≤ a ∧ a ≤ o + 17) → a ≠ o + 20 → G' a j = G a j
end
section
variable {f o h m : Nat} {s : pPg} {M : Nat → List pRw} {T : List (List Int)} {K : Nat → Nat} {W : Nat → Int} {C : fCs} {L : List pCg} {rd fr : Int} {H : Nat → Prop}
theorem l_354 {G : xG_} (hf : 3100 < f) (hh : h < 4) (ho : o = 123 + 29 * h) (hM : okM s M) (hn2 : ∀ p, p < s.1.length → 0 ≤ pNn s.2.2.2.1 (p : Int)) (he : eSh G o T m K s M) (hC : okC C) (hr : rCs G o C) (hN : rNt G o T W) (hL : L.length ≤ 100) (hg : rCg G o L) (h2 : G o 2 = rd) (hH : ∀ p, p < 16 → (G (o + 19) p = 1 ↔ H p)) (hW : ∀ c, c < 72 → 0 ≤ G (o + 16) c ∧ G (o + 16) c < 1000000) :
    ∃ G', g354 f o fr G = some G' ∧ eSh G' o T m (kNx K W 72) s M ∧ rCs G' o (fSh (xOf T (kNx K W 72)) s M) ∧ rCg G' o (L ++ cgN rd K W 72) ∧ rWk G G' o (qCw (xOf T (kNx K W 72)) s (fr ≠ 0) W C (fSh (xOf T (kNx K W 72)) s M) H) 72 ∧ xfWc o G G' := by
  have ho2 : 122 < o ∧ o < 211 := by omega
  obtain ⟨G1, a1, a2, a3, a4, a5⟩ := l_354_2 (f := f) (fr := fr) (K := K) (W := W) (rd := rd) ho2 hL (fun c hc => by
    rcases (hN c hc).2 with q | q
    · exact .inl q
    · exact .inr q.1) 72 0 f G rfl (by omega) (fun c hc => absurd hc (Nat.not_lt_zero c)) hr (by
    show rCg G o (L ++ [])
    rw [List.append_nil]; exact hg) (fun c hc => by
    unfold kNx
    rw [if_neg (fun q => absurd q.1 (Nat.not_lt_zero c))]
    exact (he.2.2.1 c hc).1) (fun c hc => (hN c hc).1) h2
  have he1 : eSh G1 o T m (kNx K W 72) s M := by
    obtain ⟨⟨k1, k2, k3, k4, k5, k6, k7, k8, k9⟩, b2, b3, b4, b5, b6⟩ := he
    have z : ∀ a j, ¬ (o ≤ a ∧ a ≤ o + 15) → a < 251 → G1 a j = G a j := fun a j q1 q2 => a5 a j (by omega) (by omega) (by omega) (by omega) (by omega) (by omega)
    refine ⟨⟨by rw [z _ _ (by omega) (by omega)]; exact k1, by rw [z _ _ (by omega) (by omega)]; exact k2, by rw [z _ _ (by omega) (by omega)]; exact k3, by rw [z _ _ (by omega) (by omega)]; exact k4, by rw [z _ _ (by omega) (by omega)]; exact k5, by rw [z _ _ (by omega) (by omega)]; exact k6, by rw [z _ _ (by omega) (by omega)]; exact k7, by rw [z _ _ (by omega) (by omega)]; exact k8, by rw [z _ _ (by omega) (by omega)]; exact k9⟩, b2.ge (z _ _ (by omega) (by omega)) (z _ _ (by omega) (by omega)) (fun a j q => z _ _ (by omega) (by omega)), b3.nx hN a4, b4.ge' (z _ _ (by omega) (by omega)) (fun j => z _ _ (by omega) (by omega)), fun y hy => by rw [z _ _ (by omega) (by omega)]; exact b5 y hy, b6.ge (fun a j _ _ => z _ _ (by omega) (by omega))⟩
  have hC1 : okC (cOf G1 o) := fun c hc => by
    unfold cOf
    rw [a5 _ _ (by omega) (by omega) (by omega) (by omega) (by omega) (by omega), a5 _ _ (by omega) (by omega) (by omega) (by omega) (by omega) (by omega), (hr c hc).1, (hr c hc).2]
    exact hC c hc
  obtain ⟨G2, b1, b2, b3, b4, b5⟩ := l_346 hf ho2 hM hn2 he1 hC1
  have hX := fun (c : Nat) (hc : c < 72) => xOf_is b2.2.2.1 hc
  have z2 : ∀ a j, ¬ (a = 0 ∧ (j ≤ 11 ∨ j = 21 ∨ j = 25 ∨ j = 42 ∨ 89 ≤ j ∧ j ≤ 91)) → ¬ (258 ≤ a ∧ a ≤ 267) → ¬ (a = 269 ∨ a = 270) → a ≠ o + 17 → a ≠ o + 20 → a ≠ 251 → a ≠ 252 → a ≠ 268 → ¬ (a = o ∧ j = 16) → ¬ (o + 10 ≤ a ∧ a ≤ o + 12) → a ≠ o + 15 → G2 a j = G a j := fun a j q1 q2 q3 q4 q5 q6 q7 q8 q9 q10 q11 => by rw [b5 a j q1 q2 q3 q4 q5, a5 a j q6 q7 q8 q9 q10 q11]
  have hwk : eWk G2 o (xOf T (kNx K W 72)) s W C (fSh (xOf T (kNx K W 72)) s M) H := ⟨fun c hc => by
    unfold rWs
    rw [b5 _ _ (by omega) (by omega) (by omega) (by omega) (by omega), b5 _ _ (by omega) (by omega) (by omega) (by omega) (by omega), b5 _ _ (by omega) (by omega) (by omega) (by omega) (by omega)]
    exact a2 c hc, b3, b4, b2.2.2.2.1.1, b2.2.2.2.1.2.1, fun p hp => by
    rw [z2 _ _ (by omega) (by omega) (by omega) (by omega) (by omega) (by omega) (by omega) (by omega) (by omega) (by omega) (by omega)]
    exact hH p hp, fun c hc => by
    rw [(b2.2.2.1 c hc).1, hX c hc]
    omega⟩
  have hW2 : ∀ c, G2 (o + 16) c = G (o + 16) c := fun c => z2 _ _ (by omega) (by omega) (by omega) (by omega) (by omega) (by omega) (by omega) (by omega) (by omega) (by omega) (by omega)
  obtain ⟨G3, c1, c2, c3⟩ := l_354_138 (f := f) (fr := fr) (by omega) hh ho 72 0 f G2 rfl (by omega) hwk (fun y _ hy => by rw [hW2]; exact hW y hy)
  have hxv : xfV o G2 (xup2 G2 0 0 (G2 0 0)) := fun a j q1 q2 q3 q4 q5 => xup2_n (by omega)
  have z3 : ∀ a j, a ≠ o + 16 → G3 a j = G2 a j := fun a j q => c3 a j (by omega)
  refine ⟨G3, ?_, ?_, fun c hc => by rw [z3 _ _ (by omega), z3 _ _ (by omega)]; exact b4 c hc, ?_, fun c hc => ?_, fun a j q1 q2 q3 q4 q5 q6 q7 q8 => ?_⟩
  · show g354_2 f f o fr ((0 : Nat) : Int) G = _
    rw [a1, b1, Option.bind_some]
    exact c1
  · obtain ⟨⟨k1, k2, k3, k4, k5, k6, k7, k8, k9⟩, d2, d3, d4, d5, d6⟩ := b2
    refine ⟨⟨by rw [z3 _ _ (by omega)]; exact k1, by rw [z3 _ _ (by omega)]; exact k2, by rw [z3 _ _ (by omega)]; exact k3, by rw [z3 _ _ (by omega)]; exact k4, by rw [z3 _ _ (by omega)]; exact k5, by rw [z3 _ _ (by omega)]; exact k6, by rw [z3 _ _ (by omega)]; exact k7, by rw [z3 _ _ (by omega)]; exact k8, by rw [z3 _ _ (by omega)]; exact k9⟩, d2.ge (z3 _ _ (by omega)) (z3 _ _ (by omega)) (fun a j q => z3 _ _ (by omega)), fun c hc => by rw [z3 _ _ (by omega)]; exact d3 c hc, d4.ge' (z3 _ _ (by omega)) (fun j => z3 _ _ (by omega)), fun y hy => by rw [z3 _ _ (by omega)]; exact d5 y hy, d6.ge (fun a j _ _ => z3 _ _ (by omega))⟩
  · exact a3.ge (by rw [z3 _ _ (by omega), b5 _ _ (by omega) (by omega) (by omega) (by omega) (by omega)]) (fun a j _ _ => by rw [z3 _ _ (by omega), b5 _ _ (by omega) (by omega) (by omega) (by omega) (by omega)])
  · have := c2 c (Nat.zero_le c) hc
    rw [hW2] at this
    exact this
  · rw [z3 _ _ (by omega)]
    exact z2 _ _ (by omega) (by omega) (by omega) (by omega) (by omega) (by omega) (by omega) (by omega) (by omega) (by omega) (by omega)
end
