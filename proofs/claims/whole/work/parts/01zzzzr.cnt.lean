/-! The reference counts how often a ring was worked -/
/-- p is worked in a round: the edition is new, or what its ring reads has changed -/
def qWc (s : pPg) (fr : Prop) (C : Nat → Prop) (p : Nat) : Prop := pIn s.2.1 (p : Int) = false ∧ (fr ∨ ∃ z, z < s.1.length ∧ qK s z = qK s p ∧ ∃ x, x < s.1.length ∧ (qRd s.2.2.2.2.1 z).testBit x = true ∧ C x)
theorem len18 {o h : Nat} (hh : h < 4) (ho : o = 123 + 29 * h) : ((xl_t (o + 18)).2.2 : Int) = 16 := by
  obtain rfl | rfl | rfl | rfl : h = 0 ∨ h = 1 ∨ h = 2 ∨ h = 3 := by omega
  all_goals (subst ho; decide +kernel)
section
variable {f o h : Nat} {s : pPg} {C : Nat → Prop} {fr : Int}
/-- what of the program and of the changes countWorked reads -/
def eCw (G : xG_) (o : Nat) (s : pPg) (C : Nat → Prop) : Prop := G 2 8 = (s.1.length : Int) ∧ rMk G 6 s.1.length (qRd s.2.2.2.2.1) ∧ rMk G 7 s.1.length (qK s) ∧ (∀ p, p < s.1.length → G 8 p = b01 (pIn s.2.1 (p : Int))) ∧ ∀ p, p < 16 → (G (o + 19) p = 1 ↔ C p)
theorem l_305_74 {G : xG_} {r2 : Nat → Int → Int → xG_ → Option xG_} {r34 : Nat → Int → Int → Int → Int → xG_ → Option xG_} {p z : Nat} (hok : qOk s) (he : eCw G o s C) (hz : z < s.1.length) : ∀ (d x fu : Nat) (ac : Int), x + d = s.1.length → d < fu →
    ∃ ac', g305_74 r2 r34 f fu o fr (p : Int) ac (z : Int) (x : Int) G = r34 o fr (p : Int) ac' ((z + 1 : Nat) : Int) G ∧ (ac' = 0 ↔ ac = 0 ∧ ∀ y, x ≤ y → y < s.1.length → ¬ ((qRd s.2.2.2.2.1 z).testBit y = true ∧ C y)) := by
  have hnp := hok.1.1
  intro d
  induction d with
  | zero =>
    intro x fu ac h1 h2
    obtain ⟨fu, rfl⟩ : ∃ t, fu = t + 1 := ⟨fu - 1, by omega⟩
    refine ⟨ac, ?_, fun q => ⟨q, fun y y1 y2 => by omega⟩, fun q => q.1⟩
    have e : xwr ((z : Int) + 1) = ((z + 1 : Nat) : Int) := by rw [xwr_g _ (by omega) (by omega)]; omega
    show g305_74b r2 r34 (g305_74 r2 r34 f fu) f _ _ _ _ _ _ _ = _
    unfold g305_74b g305_134
    rw [he.1, if_pos (by omega), e]
  | succ d ih =>
    intro x fu ac h1 h2
    obtain ⟨fu, rfl⟩ : ∃ t, fu = t + 1 := ⟨fu - 1, by omega⟩
    have e : xwr ((x : Int) + 1) = ((x + 1 : Nat) : Int) := by rw [xwr_g _ (by omega) (by omega)]; omega
    have hrd : ∀ p, qRd s.2.2.2.2.1 p < 65536 := qRd_lt (wRq_of hok.1.2.2.2.2.2.2) hnp
    have hzz := hrd z
    have hb := xbit (a := qRd s.2.2.2.2.1 z) (m := x) (by omega) (by omega)
    have hc := he.2.2.2.2 x (by omega)
    have st : ∀ {a : Int}, (a = 0 ↔ ac = 0 ∧ ¬ ((qRd s.2.2.2.2.1 z).testBit x = true ∧ C x)) → g305_74 r2 r34 f (fu + 1) o fr (p : Int) ac (z : Int) (x : Int) G = g305_74 r2 r34 f fu o fr (p : Int) a (z : Int) ((x + 1 : Nat) : Int) G → ∃ ac', g305_74 r2 r34 f (fu + 1) o fr (p : Int) ac (z : Int) (x : Int) G = r34 o fr (p : Int) ac' ((z + 1 : Nat) : Int) G ∧ (ac' = 0 ↔ ac = 0 ∧ ∀ y, x ≤ y → y < s.1.length → ¬ ((qRd s.2.2.2.2.1 z).testBit y = true ∧ C y)) := fun {a} ha hs => by
      obtain ⟨a', k1, k2⟩ := ih (x + 1) fu a (by omega) (by omega)
      refine ⟨a', by rw [hs]; exact k1, ?_⟩
      rw [k2, ha]
      constructor
      · rintro ⟨⟨q1, q2⟩, q3⟩
        refine ⟨q1, fun y y1 y2 => ?_⟩
        by_cases c : y = x
        · rw [c]; exact q2
        · exact q3 y (by omega) y2
      · rintro ⟨q1, q2⟩
        exact ⟨⟨q1, q2 x (by omega) (by omega)⟩, fun y y1 y2 => q2 y (by omega) y2⟩
    by_cases c0 : ac = 0
    · by_cases c1 : (qRd s.2.2.2.2.1 z).testBit x = true ∧ C x
      · refine st (a := 1) ⟨fun q => absurd q (by decide), fun q => absurd c1 q.2⟩ ?_
        have n1 : ¬ ¬ ac = 0 := fun q => q c0
        have n2 : ¬ ¬ xand (xshr ((qRd s.2.2.2.2.1 z : Nat) : Int) (x : Int)) 1 = 1 := fun q => q (hb.mpr c1.1)
        have n3 : ¬ ¬ G (o + 19) x = 1 := fun q => q (hc.mpr c1.2)
        show g305_74b r2 r34 (g305_74 r2 r34 f fu) f _ _ _ _ _ _ _ = _
        unfold g305_74b g305_121 g305_126
        simp only [Nat.reduceAdd]
        rw [he.1, if_neg (by omega), if_neg n1, if_pos (by omega), Int.toNat_natCast, he.2.1 z hz, if_neg n2, if_pos (by omega), Int.toNat_natCast, if_neg n3, e]
      · refine st (a := 0) ⟨fun _ => ⟨c0, c1⟩, fun _ => rfl⟩ ?_
        have n1 : ¬ ¬ ac = 0 := fun q => q c0
        by_cases c2 : (qRd s.2.2.2.2.1 z).testBit x = true
        · have n2 : ¬ ¬ xand (xshr ((qRd s.2.2.2.2.1 z : Nat) : Int) (x : Int)) 1 = 1 := fun q => q (hb.mpr c2)
          have n3 : ¬ G (o + 19) x = 1 := fun q => c1 ⟨c2, hc.mp q⟩
          show g305_74b r2 r34 (g305_74 r2 r34 f fu) f _ _ _ _ _ _ _ = _
          unfold g305_74b g305_125 g305_126
          simp only [Nat.reduceAdd]
          rw [he.1, if_neg (by omega), if_neg n1, if_pos (by omega), Int.toNat_natCast, he.2.1 z hz, if_neg n2, if_pos (by omega), Int.toNat_natCast, if_pos n3, e]
        · have n2 : ¬ xand (xshr ((qRd s.2.2.2.2.1 z : Nat) : Int) (x : Int)) 1 = 1 := fun q => c2 (hb.mp q)
          show g305_74b r2 r34 (g305_74 r2 r34 f fu) f _ _ _ _ _ _ _ = _
          unfold g305_74b g305_125 g305_126
          simp only [Nat.reduceAdd]
          rw [he.1, if_neg (by omega), if_neg n1, if_pos (by omega), Int.toNat_natCast, he.2.1 z hz, if_pos n2, e]
    · refine st (a := 1) ⟨fun q => absurd q (by decide), fun q => absurd q.1 c0⟩ ?_
      show g305_74b r2 r34 (g305_74 r2 r34 f fu) f _ _ _ _ _ _ _ = _
      unfold g305_74b g305_121 g305_126
      rw [he.1, if_neg (by omega), if_pos c0, e]
theorem l_305_34 {G : xG_} {r2 : Nat → Int → Int → xG_ → Option xG_} {p : Nat} (hf : 20 < f) (hh : h < 4) (ho : o = 123 + 29 * h) (hok : qOk s) (he : eCw G o s C) (hp : p < s.1.length) (hW : 0 ≤ G (o + 18) p ∧ G (o + 18) p < 1000000) : ∀ (d z fu : Nat) (ac : Int), z + d = s.1.length → d < fu →
    ∃ w : Int, g305_34 r2 f fu o fr (p : Int) ac (z : Int) G = r2 o fr ((p + 1 : Nat) : Int) (xup2 G (o + 18) p (G (o + 18) p + w)) ∧ (w = 0 ∨ w = 1) ∧ (w = 0 ↔ ac = 0 ∧ ∀ y, z ≤ y → y < s.1.length → qK s y = qK s p → ∀ x, x < s.1.length → ¬ ((qRd s.2.2.2.2.1 y).testBit x = true ∧ C x)) := by
  have hnp := hok.1.1
  intro d
  induction d with
  | zero =>
    intro z fu ac h1 h2
    obtain ⟨fu, rfl⟩ : ∃ t, fu = t + 1 := ⟨fu - 1, by omega⟩
    have e : xwr ((p : Int) + 1) = ((p + 1 : Nat) : Int) := by rw [xwr_g _ (by omega) (by omega)]; omega
    have hpp : 0 ≤ (p : Int) ∧ (p : Int) < 16 := by omega
    by_cases c0 : ac = 0
    · refine ⟨0, ?_, .inl rfl, fun _ => ⟨c0, fun y y1 y2 => by omega⟩, fun _ => rfl⟩
      show g305_34b r2 (g305_34 r2 f fu) f _ _ _ _ _ _ = _
      unfold g305_34b g305_157 g305_159
      rw [he.1, if_pos (by omega), if_pos hpp, if_pos c0, len18 hh ho, if_pos hpp, Option.bind_some, Int.toNat_natCast, e, xwr_g _ (by omega) (by omega)]
    · refine ⟨1, ?_, .inr rfl, fun q => absurd q (by decide), fun q => absurd q.1 c0⟩
      show g305_34b r2 (g305_34 r2 f fu) f _ _ _ _ _ _ = _
      unfold g305_34b g305_157 g305_159
      rw [he.1, if_pos (by omega), if_pos hpp, if_neg c0, len18 hh ho, if_pos hpp, Option.bind_some, Int.toNat_natCast, e, xwr_g _ (by omega) (by omega)]
  | succ d ih =>
    intro z fu ac h1 h2
    obtain ⟨fu, rfl⟩ : ∃ t, fu = t + 1 := ⟨fu - 1, by omega⟩
    have e : xwr ((z : Int) + 1) = ((z + 1 : Nat) : Int) := by rw [xwr_g _ (by omega) (by omega)]; omega
    have hpp : 0 ≤ (p : Int) ∧ (p : Int) < 16 := by omega
    have hzz : 0 ≤ (z : Int) ∧ (z : Int) < 16 := by omega
    have hz : z < s.1.length := by omega
    by_cases c1 : qK s z = qK s p
    · obtain ⟨a', k1, k2⟩ := l_305_74 (f := f) (fr := fr) (r2 := r2) (r34 := g305_34 r2 f fu) (p := p) hok he hz s.1.length 0 f ac (by omega) (by omega)
      obtain ⟨w, j1, j2, j3⟩ := ih (z + 1) fu a' (by omega) (by omega)
      refine ⟨w, ?_, j2, ?_⟩
      · rw [← j1, ← k1]
        show g305_34b r2 (g305_34 r2 f fu) f _ _ _ _ _ _ = _
        unfold g305_34b
        simp only [Nat.reduceAdd]
        rw [he.1, if_neg (by omega), if_pos hzz, if_pos hpp, Int.toNat_natCast, Int.toNat_natCast, he.2.2.1 z hz, he.2.2.1 p hp, if_pos (by rw [c1])]
        rfl
      · rw [j3, k2]
        constructor
        · rintro ⟨⟨q1, q2⟩, q3⟩
          refine ⟨q1, fun y y1 y2 y3 x x1 => ?_⟩
          by_cases c : y = z
          · rw [c]; exact q2 x (by omega) x1
          · exact q3 y (by omega) y2 y3 x x1
        · rintro ⟨q1, q2⟩
          exact ⟨⟨q1, fun x _ x1 => q2 z (by omega) hz c1 x x1⟩, fun y y1 y2 y3 x x1 => q2 y (by omega) y2 y3 x x1⟩
    · obtain ⟨w, j1, j2, j3⟩ := ih (z + 1) fu ac (by omega) (by omega)
      refine ⟨w, ?_, j2, ?_⟩
      · rw [← j1]
        have n1 : ¬ ((qK s z : Nat) : Int) = ((qK s p : Nat) : Int) := by omega
        show g305_34b r2 (g305_34 r2 f fu) f _ _ _ _ _ _ = _
        unfold g305_34b g305_134
        simp only [Nat.reduceAdd]
        rw [he.1, if_neg (by omega), if_pos hzz, if_pos hpp, Int.toNat_natCast, Int.toNat_natCast, he.2.2.1 z hz, he.2.2.1 p hp, if_neg n1, e]
      · rw [j3]
        constructor
        · rintro ⟨q1, q3⟩
          refine ⟨q1, fun y y1 y2 y3 x x1 => ?_⟩
          by_cases c : y = z
          · rw [c] at y3; exact absurd y3 c1
          · exact q3 y (by omega) y2 y3 x x1
        · rintro ⟨q1, q2⟩
          exact ⟨q1, fun y y1 y2 y3 x x1 => q2 y (by omega) y2 y3 x x1⟩
theorem eCw.ge {G G' : xG_} (hh : h < 4) (ho : o = 123 + 29 * h) (he : eCw G o s C) (fr : ∀ a j, a ≠ o + 18 → G' a j = G a j) : eCw G' o s C := by
  obtain ⟨e1, e2, e3, e4, e5⟩ := he
  exact ⟨by rw [fr _ _ (by omega)]; exact e1, fun p hp => by rw [fr _ _ (by omega)]; exact e2 p hp, fun p hp => by rw [fr _ _ (by omega)]; exact e3 p hp, fun p hp => by rw [fr _ _ (by omega)]; exact e4 p hp, fun p hp => by rw [fr _ _ (by omega)]; exact e5 p hp⟩
theorem l_305_2 (hf : 20 < f) (hh : h < 4) (ho : o = 123 + 29 * h) (hok : qOk s) : ∀ (d p fu : Nat) (G : xG_), p + d = s.1.length → d < fu → eCw G o s C → (∀ y, p ≤ y → y < 16 → 0 ≤ G (o + 18) y ∧ G (o + 18) y < 1000000) →
    ∃ G', g305_2 f fu o fr (p : Int) G = some G' ∧ (∀ a j, a ≠ o + 18 → G' a j = G a j) ∧ ∀ y, y < 16 → ((p ≤ y ∧ y < s.1.length ∧ qWc s (fr ≠ 0) C y) → G' (o + 18) y = G (o + 18) y + 1) ∧ (¬ (p ≤ y ∧ y < s.1.length ∧ qWc s (fr ≠ 0) C y) → G' (o + 18) y = G (o + 18) y) := by
  have hnp := hok.1.1
  intro d
  induction d with
  | zero =>
    intro p fu G h1 h2 he hW
    obtain ⟨fu, rfl⟩ : ∃ t, fu = t + 1 := ⟨fu - 1, by omega⟩
    refine ⟨G, ?_, fun _ _ _ => rfl, fun y hy => ⟨fun q => by omega, fun _ => rfl⟩⟩
    show g305_2b (g305_2 f fu) f _ _ _ _ = _
    unfold g305_2b
    rw [he.1, if_pos (by omega)]
  | succ d ih =>
    intro p fu G h1 h2 he hW
    obtain ⟨fu, rfl⟩ : ∃ t, fu = t + 1 := ⟨fu - 1, by omega⟩
    have hp : p < s.1.length := by omega
    have hpp : 0 ≤ (p : Int) ∧ (p : Int) < 16 := by omega
    have e : xwr ((p : Int) + 1) = ((p + 1 : Nat) : Int) := by rw [xwr_g _ (by omega) (by omega)]; omega
    by_cases ci : pIn s.2.1 (p : Int) = true
    · obtain ⟨G', k1, k2, k3⟩ := ih (p + 1) fu G (by omega) (by omega) he (fun y y1 y2 => hW y (by omega) y2)
      refine ⟨G', ?_, k2, fun y hy => ?_⟩
      · rw [← k1]
        have n1 : ¬ b01 (pIn s.2.1 (p : Int)) = 0 := by rw [ci]; decide
        show g305_2b (g305_2 f fu) f _ _ _ _ = _
        unfold g305_2b g305_159
        simp only [Nat.reduceAdd]
        rw [he.1, if_neg (by omega), if_pos hpp, Int.toNat_natCast, he.2.2.2.1 p hp, if_neg n1, e]
      · have iff : (p ≤ y ∧ y < s.1.length ∧ qWc s (fr ≠ 0) C y) ↔ (p + 1 ≤ y ∧ y < s.1.length ∧ qWc s (fr ≠ 0) C y) := by
          constructor
          · rintro ⟨a, b, c⟩
            refine ⟨?_, b, c⟩
            by_cases cy : y = p
            · have := c.1
              rw [cy, ci] at this
              cases this
            · omega
          · rintro ⟨a, b, c⟩
            exact ⟨by omega, b, c⟩
        rw [iff]
        exact k3 y hy
    · have ci' : pIn s.2.1 (p : Int) = false := Bool.eq_false_iff.mpr ci
      obtain ⟨w, j1, j2, j3⟩ := l_305_34 (f := f) (fr := fr) (r2 := g305_2 f fu) hf hh ho hok he hp (hW p (by omega) (by omega)) s.1.length 0 f fr (by omega) (by omega)
      have hww : w = 0 ∨ w = 1 := j2
      have hz0 := hW p (by omega) (by omega)
      have wiff : w = 0 ↔ ¬ qWc s (fr ≠ 0) C p := by
        rw [j3]
        constructor
        · rintro ⟨q1, q2⟩ ⟨_, q3 | ⟨y, y1, y2, x, x1, x2, x3⟩⟩
          · exact q3 q1
          · exact q2 y (by omega) y1 y2 x x1 ⟨x2, x3⟩
        · intro q
          refine ⟨Decidable.byContradiction fun c => q ⟨ci', .inl c⟩, fun y _ y1 y2 x x1 x2 => q ⟨ci', .inr ⟨y, y1, y2, x, x1, x2.1, x2.2⟩⟩⟩
      obtain ⟨G', k1, k2, k3⟩ := ih (p + 1) fu (xup2 G (o + 18) p (G (o + 18) p + w)) (by omega) (by omega) (he.ge hh ho (fun a j y => xup2_n (by omega))) (fun y y1 y2 => by rw [xup2_n (by omega)]; exact hW y (by omega) y2)
      refine ⟨G', ?_, fun a j y => by rw [k2 a j y, xup2_n (by omega)], fun y hy => ?_⟩
      · rw [← k1, ← j1]
        have n1 : b01 (pIn s.2.1 (p : Int)) = 0 := by rw [ci']; decide
        show g305_2b (g305_2 f fu) f _ _ _ _ = _
        unfold g305_2b
        simp only [Nat.reduceAdd]
        rw [he.1, if_neg (by omega), if_pos hpp, Int.toNat_natCast, he.2.2.2.1 p hp, if_pos n1]
        rfl
      · by_cases cy : y = p
        · subst cy
          have e0 : G' (o + 18) y = G (o + 18) y + w := by rw [(k3 y hy).2 (fun q => by omega), xup2_s]
          rw [e0]
          constructor
          · rintro ⟨_, _, q⟩
            rcases hww with w0 | w1
            · exact absurd q (wiff.mp w0)
            · rw [w1]
          · intro q
            have : w = 0 := wiff.mpr (fun q' => q ⟨by omega, hp, q'⟩)
            rw [this]
            omega
        · have e0 : xup2 G (o + 18) p (G (o + 18) p + w) (o + 18) y = G (o + 18) y := xup2_n (by omega)
          have k4 := k3 y hy
          rw [e0] at k4
          exact ⟨fun q => k4.1 ⟨by omega, q.2⟩, fun q => k4.2 (fun q' => q ⟨by omega, q'.2⟩)⟩
/-- countWorked -/
theorem l_305 {G : xG_} {q c : Nat} {R : Nat → List pRw} {T : List pLg} (hf : 20 < f) (hh : h < 4) (ho : o = 123 + 29 * h) (hok : qOk s) (hP : rPr G 2 q c s) (hPk : rPk G 2 s) (hC : rCh G o s T) (hW : ∀ y, y < 16 → 0 ≤ G (o + 18) y ∧ G (o + 18) y < 1000000) :
    ∃ G', g305 f o fr G = some G' ∧ (∀ a j, a ≠ o + 18 → G' a j = G a j) ∧ ∀ y, y < 16 → ((y < s.1.length ∧ qWc s (fr ≠ 0) (fun p => ∃ x, x ∈ T ∧ ofP s x.2.2 p) y) → G' (o + 18) y = G (o + 18) y + 1) ∧ (¬ (y < s.1.length ∧ qWc s (fr ≠ 0) (fun p => ∃ x, x ∈ T ∧ ofP s x.2.2 p) y) → G' (o + 18) y = G (o + 18) y) := by
  have hnp := hok.1.1
  obtain ⟨G', k1, k2, k3⟩ := l_305_2 (f := f) (fr := fr) (C := fun p => ∃ x, x ∈ T ∧ ofP s x.2.2 p) hf hh ho hok s.1.length 0 f G (by omega) (by omega) ⟨hP.1.1, hPk.1, hPk.2, fun p hp => (hP.2.2.2.1 p (by omega)).1, fun p hp => (hC p hp).1⟩ (fun y _ h => hW y h)
  refine ⟨G', k1, k2, fun y hy => ⟨fun q => (k3 y hy).1 ⟨by omega, q⟩, fun q => (k3 y hy).2 (fun q' => q q'.2)⟩⟩
end
