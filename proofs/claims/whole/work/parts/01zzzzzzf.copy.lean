/-! copyLine -/
section
variable {f o p : Nat}
/-- what stands at o + x stands at p + x too, below n -/
def cpA (G0 G : xG_) (o p x n : Nat) : Prop := ∀ t, t < n → G (p + x) t = G0 (o + x) t
theorem l_316_127 {r69 : Nat → Nat → Int → xG_ → Option xG_} {i : Nat} (hi : i < 12000) (hop : o + 28 < p ∨ p + 28 < o) : ∀ (d k fu : Nat) (G : xG_), k + d = 4 → d < fu →
    ∃ G', g316_127 r69 f fu o p (i : Int) (k : Int) G = r69 o p ((i + 1 : Nat) : Int) G' ∧ (∀ z, k ≤ z → z < 4 → G' (p + 9) (4 * i + z) = G (o + 9) (4 * i + z)) ∧ ∀ a j, ¬ (a = p + 9 ∧ 4 * i + k ≤ j ∧ j < 4 * i + 4) → G' a j = G a j := by
  intro d
  induction d with
  | zero =>
    intro k fu G h1 h2
    obtain ⟨fu, rfl⟩ : ∃ t, fu = t + 1 := ⟨fu - 1, by omega⟩
    have e : xwr ((i : Int) + 1) = ((i + 1 : Nat) : Int) := by rw [xwr_g _ (by omega) (by omega)]; omega
    refine ⟨G, ?_, fun z z1 z2 => by omega, fun _ _ _ => rfl⟩
    show g316_127b r69 (g316_127 r69 f fu) f _ _ _ _ _ = _
    unfold g316_127b
    rw [if_pos (by omega), e]
  | succ d ih =>
    intro k fu G h1 h2
    obtain ⟨fu, rfl⟩ : ∃ t, fu = t + 1 := ⟨fu - 1, by omega⟩
    have e : xwr ((k : Int) + 1) = ((k + 1 : Nat) : Int) := by rw [xwr_g _ (by omega) (by omega)]; omega
    have e4 : xwr (xwr (4 * (i : Int)) + (k : Int)) = ((4 * i + k : Nat) : Int) := by
      rw [xwr_g (4 * (i : Int)) (by omega) (by omega), xwr_g _ (by omega) (by omega)]; omega
    obtain ⟨G', u1, u2, u3⟩ := ih (k + 1) fu (xup2 G (p + 9) (4 * i + k) (G (o + 9) (4 * i + k))) (by omega) (by omega)
    refine ⟨G', ?_, fun z z1 z2 => ?_, fun a j q => by rw [u3 a j (by omega), xup2_n (by omega)]⟩
    · show g316_127b r69 (g316_127 r69 f fu) f _ _ _ _ _ = _
      unfold g316_127b
      rw [if_neg (by omega), e4, if_pos (by omega), if_pos (by omega), Int.toNat_natCast, Option.bind_some, e]
      exact u1
    · by_cases c : z = k
      · rw [c, u3 _ _ (by omega), xup2_s]
      · rw [u2 z (by omega) z2, xup2_n (by omega)]
theorem l_316_69 (hf : 12100 < f) (hop : o + 28 < p ∨ p + 28 < o) {G0 : xG_} {n : Nat} (hn : n ≤ 12000) : ∀ (d i fu : Nat) (G : xG_), i + d = n → d < fu → G o 10 = (n : Int) → (∀ a j, ¬ (p + 5 ≤ a ∧ a ≤ p + 9) → G a j = G0 a j) → cpA G0 G o p 5 i → cpA G0 G o p 6 i → cpA G0 G o p 7 i → cpA G0 G o p 8 i → cpA G0 G o p 9 (4 * i) →
    ∃ G', g316_69 f fu o p (i : Int) G = g316_166 f f o p 0 G' ∧ (∀ a j, ¬ (p + 5 ≤ a ∧ a ≤ p + 9) → G' a j = G0 a j) ∧ cpA G0 G' o p 5 n ∧ cpA G0 G' o p 6 n ∧ cpA G0 G' o p 7 n ∧ cpA G0 G' o p 8 n ∧ cpA G0 G' o p 9 (4 * n) := by
  intro d
  induction d with
  | zero =>
    intro i fu G h1 h2 h3 h4 c5 c6 c7 c8 c9
    obtain ⟨fu, rfl⟩ : ∃ t, fu = t + 1 := ⟨fu - 1, by omega⟩
    have hi : i = n := by omega
    subst hi
    refine ⟨G, ?_, h4, c5, c6, c7, c8, c9⟩
    show g316_69b (g316_69 f fu) f _ _ _ _ = _
    unfold g316_69b
    rw [h3, if_pos (by omega)]
  | succ d ih =>
    intro i fu G h1 h2 h3 h4 c5 c6 c7 c8 c9
    obtain ⟨fu, rfl⟩ : ∃ t, fu = t + 1 := ⟨fu - 1, by omega⟩
    have hi2 : 0 ≤ (i : Int) ∧ (i : Int) < 12000 := by omega
    let G1 := xup2 (xup2 (xup2 (xup2 G (p + 5) i (G0 (o + 5) i)) (p + 6) i (G0 (o + 6) i)) (p + 8) i (G0 (o + 8) i)) (p + 7) i (G0 (o + 7) i)
    have z1 : ∀ a j, ¬ (p + 5 ≤ a ∧ a ≤ p + 8 ∧ j = i) → G1 a j = G a j := fun a j q => by
      show xup2 _ _ _ _ _ _ = _
      rw [xup2_n (by omega), xup2_n (by omega), xup2_n (by omega), xup2_n (by omega)]
    have s5 : G1 (p + 5) i = G0 (o + 5) i := by
      show xup2 _ _ _ _ _ _ = _
      rw [xup2_n (by omega), xup2_n (by omega), xup2_n (by omega), xup2_s]
    have s6 : G1 (p + 6) i = G0 (o + 6) i := by
      show xup2 _ _ _ _ _ _ = _
      rw [xup2_n (by omega), xup2_n (by omega), xup2_s]
    have s8 : G1 (p + 8) i = G0 (o + 8) i := by
      show xup2 _ _ _ _ _ _ = _
      rw [xup2_n (by omega), xup2_s]
    have s7 : G1 (p + 7) i = G0 (o + 7) i := xup2_s _ _ _ _
    obtain ⟨G2, u1, u2, u3⟩ := l_316_127 (f := f) (o := o) (p := p) (r69 := g316_69 f fu) (i := i) (by omega) hop 4 0 f G1 rfl (by omega)
    have z2 : ∀ a j, ¬ (p + 5 ≤ a ∧ a ≤ p + 9) → G2 a j = G0 a j := fun a j q => by rw [u3 a j (by omega), z1 a j (by omega), h4 a j q]
    have cc : ∀ x, (x = 5 ∨ x = 6 ∨ x = 7 ∨ x = 8) → cpA G0 G o p x i → G1 (p + x) i = G0 (o + x) i → cpA G0 G2 o p x (i + 1) := fun x hx hc hs t ht => by
      rw [u3 _ _ (by omega)]
      by_cases d : t = i
      · rw [d]; exact hs
      · rw [z1 _ _ (by omega)]; exact hc t (by omega)
    obtain ⟨G', k1, k2⟩ := ih (i + 1) fu G2 (by omega) (by omega) (by rw [z2 _ _ (by omega), ← h4 _ _ (by omega)]; exact h3) z2 (cc 5 (by omega) c5 s5) (cc 6 (by omega) c6 s6) (cc 7 (by omega) c7 s7) (cc 8 (by omega) c8 s8) (fun t ht => by
      by_cases d : t < 4 * i
      · rw [u3 _ _ (by omega), z1 _ _ (by omega)]; exact c9 t d
      · have := u2 (t - 4 * i) (Nat.zero_le _) (by omega)
        rw [show 4 * i + (t - 4 * i) = t by omega] at this
        rw [this, z1 _ _ (by omega), h4 _ _ (by omega)])
    refine ⟨G', ?_, k2⟩
    show g316_69b (g316_69 f fu) f _ _ _ _ = _
    unfold g316_69b
    rw [h3, if_neg (by omega), if_pos hi2, if_pos hi2, Int.toNat_natCast, h4 (o + 5) i (by omega), Option.bind_some, if_pos hi2, if_pos hi2, xup2_n (by omega), h4 (o + 6) i (by omega), Option.bind_some, if_pos hi2, if_pos hi2, xup2_n (by omega), xup2_n (by omega), h4 (o + 8) i (by omega), Option.bind_some, if_pos hi2, if_pos hi2, xup2_n (by omega), xup2_n (by omega), xup2_n (by omega), h4 (o + 7) i (by omega), Option.bind_some]
    exact u1.trans k1
theorem l_316_166 (hf : 12100 < f) (hop : o + 28 < p ∨ p + 28 < o) {G0 : xG_} {n : Nat} (hn : n ≤ 200) : ∀ (d i fu : Nat) (G : xG_), i + d = n → d < fu → G o 16 = (n : Int) → (∀ a j, ¬ (p + 10 ≤ a ∧ a ≤ p + 12) → G a j = G0 a j) → cpA G0 G o p 10 i → cpA G0 G o p 11 i → cpA G0 G o p 12 i →
    ∃ G', g316_166 f fu o p (i : Int) G = g316_218 f f o p 0 G' ∧ (∀ a j, ¬ (p + 10 ≤ a ∧ a ≤ p + 12) → G' a j = G0 a j) ∧ cpA G0 G' o p 10 n ∧ cpA G0 G' o p 11 n ∧ cpA G0 G' o p 12 n := by
  intro d
  induction d with
  | zero =>
    intro i fu G h1 h2 h3 h4 c5 c6 c7
    obtain ⟨fu, rfl⟩ : ∃ t, fu = t + 1 := ⟨fu - 1, by omega⟩
    have hi : i = n := by omega
    subst hi
    refine ⟨G, ?_, h4, c5, c6, c7⟩
    show g316_166b (g316_166 f fu) f _ _ _ _ = _
    unfold g316_166b
    rw [h3, if_pos (by omega)]
  | succ d ih =>
    intro i fu G h1 h2 h3 h4 c5 c6 c7
    obtain ⟨fu, rfl⟩ : ∃ t, fu = t + 1 := ⟨fu - 1, by omega⟩
    have hi2 : 0 ≤ (i : Int) ∧ (i : Int) < 200 := by omega
    have e : xwr ((i : Int) + 1) = ((i + 1 : Nat) : Int) := by rw [xwr_g _ (by omega) (by omega)]; omega
    let G1 := xup2 (xup2 (xup2 G (p + 10) i (G0 (o + 10) i)) (p + 11) i (G0 (o + 11) i)) (p + 12) i (G0 (o + 12) i)
    have z1 : ∀ a j, ¬ (p + 10 ≤ a ∧ a ≤ p + 12 ∧ j = i) → G1 a j = G a j := fun a j q => by
      show xup2 _ _ _ _ _ _ = _
      rw [xup2_n (by omega), xup2_n (by omega), xup2_n (by omega)]
    have s5 : G1 (p + 10) i = G0 (o + 10) i := by
      show xup2 _ _ _ _ _ _ = _
      rw [xup2_n (by omega), xup2_n (by omega), xup2_s]
    have s6 : G1 (p + 11) i = G0 (o + 11) i := by
      show xup2 _ _ _ _ _ _ = _
      rw [xup2_n (by omega), xup2_s]
    have s7 : G1 (p + 12) i = G0 (o + 12) i := xup2_s _ _ _ _
    have z2 : ∀ a j, ¬ (p + 10 ≤ a ∧ a ≤ p + 12) → G1 a j = G0 a j := fun a j q => by rw [z1 a j (by omega), h4 a j q]
    have cc : ∀ x, cpA G0 G o p x i → G1 (p + x) i = G0 (o + x) i → cpA G0 G1 o p x (i + 1) := fun x hc hs t ht => by
      by_cases d : t = i
      · rw [d]; exact hs
      · rw [z1 _ _ (by omega)]; exact hc t (by omega)
    obtain ⟨G', k1, k2⟩ := ih (i + 1) fu G1 (by omega) (by omega) (by rw [z2 _ _ (by omega), ← h4 _ _ (by omega)]; exact h3) z2 (cc 10 c5 s5) (cc 11 c6 s6) (cc 12 c7 s7)
    refine ⟨G', ?_, k2⟩
    show g316_166b (g316_166 f fu) f _ _ _ _ = _
    unfold g316_166b
    rw [h3, if_neg (by omega), if_pos hi2, if_pos hi2, Int.toNat_natCast, h4 (o + 10) i (by omega), Option.bind_some, if_pos hi2, if_pos hi2, xup2_n (by omega), h4 (o + 11) i (by omega), Option.bind_some, if_pos hi2, if_pos hi2, xup2_n (by omega), xup2_n (by omega), h4 (o + 12) i (by omega), Option.bind_some, e]
    exact k1
theorem l_316_218 (hf : 12100 < f) (hop : o + 28 < p ∨ p + 28 < o) {G0 : xG_} {n : Nat} (hn : n ≤ 20) : ∀ (d i fu : Nat) (G : xG_), i + d = n → d < fu → G o 17 = (n : Int) → (∀ a j, ¬ (p + 13 ≤ a ∧ a ≤ p + 14) → G a j = G0 a j) → cpA G0 G o p 13 i → cpA G0 G o p 14 i →
    ∃ G', g316_218 f fu o p (i : Int) G = g316_258 f f o p 0 G' ∧ (∀ a j, ¬ (p + 13 ≤ a ∧ a ≤ p + 14) → G' a j = G0 a j) ∧ cpA G0 G' o p 13 n ∧ cpA G0 G' o p 14 n := by
  intro d
  induction d with
  | zero =>
    intro i fu G h1 h2 h3 h4 c5 c6
    obtain ⟨fu, rfl⟩ : ∃ t, fu = t + 1 := ⟨fu - 1, by omega⟩
    have hi : i = n := by omega
    subst hi
    refine ⟨G, ?_, h4, c5, c6⟩
    show g316_218b (g316_218 f fu) f _ _ _ _ = _
    unfold g316_218b
    rw [h3, if_pos (by omega)]
  | succ d ih =>
    intro i fu G h1 h2 h3 h4 c5 c6
    obtain ⟨fu, rfl⟩ : ∃ t, fu = t + 1 := ⟨fu - 1, by omega⟩
    have hi2 : 0 ≤ (i : Int) ∧ (i : Int) < 20 := by omega
    have e : xwr ((i : Int) + 1) = ((i + 1 : Nat) : Int) := by rw [xwr_g _ (by omega) (by omega)]; omega
    let G1 := xup2 (xup2 G (p + 13) i (G0 (o + 13) i)) (p + 14) i (G0 (o + 14) i)
    have z1 : ∀ a j, ¬ (p + 13 ≤ a ∧ a ≤ p + 14 ∧ j = i) → G1 a j = G a j := fun a j q => by
      show xup2 _ _ _ _ _ _ = _
      rw [xup2_n (by omega), xup2_n (by omega)]
    have s5 : G1 (p + 13) i = G0 (o + 13) i := by
      show xup2 _ _ _ _ _ _ = _
      rw [xup2_n (by omega), xup2_s]
    have s6 : G1 (p + 14) i = G0 (o + 14) i := xup2_s _ _ _ _
    have z2 : ∀ a j, ¬ (p + 13 ≤ a ∧ a ≤ p + 14) → G1 a j = G0 a j := fun a j q => by rw [z1 a j (by omega), h4 a j q]
    have cc : ∀ x, cpA G0 G o p x i → G1 (p + x) i = G0 (o + x) i → cpA G0 G1 o p x (i + 1) := fun x hc hs t ht => by
      by_cases d : t = i
      · rw [d]; exact hs
      · rw [z1 _ _ (by omega)]; exact hc t (by omega)
    obtain ⟨G', k1, k2⟩ := ih (i + 1) fu G1 (by omega) (by omega) (by rw [z2 _ _ (by omega), ← h4 _ _ (by omega)]; exact h3) z2 (cc 13 c5 s5) (cc 14 c6 s6)
    refine ⟨G', ?_, k2⟩
    show g316_218b (g316_218 f fu) f _ _ _ _ = _
    unfold g316_218b
    rw [h3, if_neg (by omega), if_pos hi2, if_pos hi2, Int.toNat_natCast, h4 (o + 13) i (by omega), Option.bind_some, if_pos hi2, if_pos hi2, xup2_n (by omega), h4 (o + 14) i (by omega), Option.bind_some, e]
    exact k1
theorem l_316_258 (hop : o + 28 < p ∨ p + 28 < o) {G0 : xG_} : ∀ (d i fu : Nat) (G : xG_), i + d = 72 → d < fu → (∀ a j, a ≠ p + 15 → G a j = G0 a j) → cpA G0 G o p 15 i →
    ∃ G', g316_258 f fu o p (i : Int) G = some G' ∧ (∀ a j, a ≠ p + 15 → G' a j = G0 a j) ∧ cpA G0 G' o p 15 72 := by
  intro d
  induction d with
  | zero =>
    intro i fu G h1 h2 h4 c5
    obtain ⟨fu, rfl⟩ : ∃ t, fu = t + 1 := ⟨fu - 1, by omega⟩
    have hi : i = 72 := by omega
    subst hi
    refine ⟨G, ?_, h4, c5⟩
    show g316_258b (g316_258 f fu) f _ _ _ _ = _
    unfold g316_258b
    rw [if_pos (by omega)]
  | succ d ih =>
    intro i fu G h1 h2 h4 c5
    obtain ⟨fu, rfl⟩ : ∃ t, fu = t + 1 := ⟨fu - 1, by omega⟩
    have hi2 : 0 ≤ (i : Int) ∧ (i : Int) < 72 := by omega
    have e : xwr ((i : Int) + 1) = ((i + 1 : Nat) : Int) := by rw [xwr_g _ (by omega) (by omega)]; omega
    obtain ⟨G', k1, k2⟩ := ih (i + 1) fu (xup2 G (p + 15) i (G0 (o + 15) i)) (by omega) (by omega) (fun a j q => by rw [xup2_n (by omega)]; exact h4 a j q) (fun t ht => by
      by_cases d : t = i
      · rw [d, xup2_s]
      · rw [xup2_n (by omega)]; exact c5 t (by omega))
    refine ⟨G', ?_, k2⟩
    show g316_258b (g316_258 f fu) f _ _ _ _ = _
    unfold g316_258b
    rw [if_neg (by omega), if_pos hi2, if_pos hi2, Int.toNat_natCast, h4 (o + 15) i (by omega), Option.bind_some, e]
    exact k1
theorem l_316 {G : xG_} {h h' b k : Nat} {H : Nat → sMo} (hf : 12100 < f) (hh : h < 4) (ho : o = 123 + 29 * h) (hh' : h' < 4) (hp : p = 123 + 29 * h') (hne : h ≠ h') (hP : rPa G o H b k) {F : List pFc} (hF : rFa G (o + 1) F) :
    ∃ G', g316 f o p G = some G' ∧ rPa G' p H b k ∧ rFa G' (p + 1) F ∧ (∀ j, j = 1 ∨ j = 2 ∨ j = 3 ∨ j = 4 → G' p j = G o j) ∧ (∀ c, c < 72 → G' (p + 15) c = G (o + 15) c) ∧ ∀ a j, ¬ (a = p ∧ (1 ≤ j ∧ j ≤ 4 ∨ j = 10 ∨ j = 16 ∨ j = 17)) → ¬ (p + 1 ≤ a ∧ a ≤ p + 15) → G' a j = G a j := by
  have hop : o + 28 < p ∨ p + 28 < o := by omega
  obtain ⟨hL, hC, hE, hs⟩ := hP
  obtain ⟨G1, a1, a2, a3⟩ := l_194 (f := f) (b := p + 1) (b1 := o + 1) (by omega) (by unfold isFb; omega) (by unfold isFb; omega) (by omega) hF
  have z1 : ∀ a j, ¬ (p + 1 ≤ a ∧ a ≤ p + 4) → G1 a j = G a j := fun a j q => a3 a j (by omega) (by omega) (by omega) (by omega)
  let G2 := xup2 (xup2 (xup2 (xup2 (xup2 (xup2 (xup2 G1 p 1 (G o 1)) p 2 (G o 2)) p 3 (G o 3)) p 4 (G o 4)) p 10 (G o 10)) p 16 (G o 16)) p 17 (G o 17)
  have z2 : ∀ a j, ¬ (a = p ∧ (1 ≤ j ∧ j ≤ 4 ∨ j = 10 ∨ j = 16 ∨ j = 17)) → G2 a j = G1 a j := fun a j q => by
    show xup2 _ _ _ _ _ _ = _
    rw [xup2_n (by omega), xup2_n (by omega), xup2_n (by omega), xup2_n (by omega), xup2_n (by omega), xup2_n (by omega), xup2_n (by omega)]
  have s17 : G2 p 17 = G o 17 := xup2_s _ _ _ _
  have s16 : G2 p 16 = G o 16 := by
    show xup2 _ _ _ _ _ _ = _
    rw [xup2_n (by omega), xup2_s]
  have s10 : G2 p 10 = G o 10 := by
    show xup2 _ _ _ _ _ _ = _
    rw [xup2_n (by omega), xup2_n (by omega), xup2_s]
  have s4 : G2 p 4 = G o 4 := by
    show xup2 _ _ _ _ _ _ = _
    rw [xup2_n (by omega), xup2_n (by omega), xup2_n (by omega), xup2_s]
  have s3 : G2 p 3 = G o 3 := by
    show xup2 _ _ _ _ _ _ = _
    rw [xup2_n (by omega), xup2_n (by omega), xup2_n (by omega), xup2_n (by omega), xup2_s]
  have s2 : G2 p 2 = G o 2 := by
    show xup2 _ _ _ _ _ _ = _
    rw [xup2_n (by omega), xup2_n (by omega), xup2_n (by omega), xup2_n (by omega), xup2_n (by omega), xup2_s]
  have s1 : G2 p 1 = G o 1 := by
    show xup2 _ _ _ _ _ _ = _
    rw [xup2_n (by omega), xup2_n (by omega), xup2_n (by omega), xup2_n (by omega), xup2_n (by omega), xup2_n (by omega), xup2_s]
  have g2 : ∀ a j, o ≤ a → a ≤ o + 28 → G2 a j = G a j := fun a j _ _ => by rw [z2 _ _ (by omega), z1 _ _ (by omega)]
  have e0 : g316 f o p G = g316_69 f f o p 0 G2 := by
    unfold g316
    rw [a1, Option.bind_some, z1 o 1 (by omega), Option.bind_some, xup2_n (by omega), z1 o 2 (by omega), Option.bind_some, xup2_n (by omega), xup2_n (by omega), z1 o 3 (by omega), Option.bind_some, xup2_n (by omega), xup2_n (by omega), xup2_n (by omega), z1 o 4 (by omega), Option.bind_some, xup2_n (by omega), xup2_n (by omega), xup2_n (by omega), xup2_n (by omega), z1 o 10 (by omega), Option.bind_some, xup2_n (by omega), xup2_n (by omega), xup2_n (by omega), xup2_n (by omega), xup2_n (by omega), z1 o 16 (by omega), Option.bind_some, xup2_n (by omega), xup2_n (by omega), xup2_n (by omega), xup2_n (by omega), xup2_n (by omega), xup2_n (by omega), z1 o 17 (by omega), Option.bind_some]
  obtain ⟨G3, b1, b2, b5, b6, b7, b8, b9⟩ := l_316_69 (f := f) (o := o) (p := p) (G0 := G2) hf hop (n := (hCat (hLg H) b k).length) hL.2.1 (hCat (hLg H) b k).length 0 f G2 (by omega) (by have := hL.2.1; omega) (by rw [g2 _ _ (by omega) (by omega)]; exact hL.1) (fun _ _ _ => rfl) (fun t ht => absurd ht (Nat.not_lt_zero t)) (fun t ht => absurd ht (Nat.not_lt_zero t)) (fun t ht => absurd ht (Nat.not_lt_zero t)) (fun t ht => absurd ht (Nat.not_lt_zero t)) (fun t ht => absurd ht (Nat.not_lt_zero t))
  obtain ⟨G4, c1, c2, c10, c11, c12⟩ := l_316_166 (f := f) (o := o) (p := p) (G0 := G3) hf hop (n := (hCat (hCg H) b k).length) hC.2.1 (hCat (hCg H) b k).length 0 f G3 (by omega) (by have := hC.2.1; omega) (by rw [b2 _ _ (by omega), g2 _ _ (by omega) (by omega)]; exact hC.1) (fun _ _ _ => rfl) (fun t ht => absurd ht (Nat.not_lt_zero t)) (fun t ht => absurd ht (Nat.not_lt_zero t)) (fun t ht => absurd ht (Nat.not_lt_zero t))
  obtain ⟨G5, d1, d2, d13, d14⟩ := l_316_218 (f := f) (o := o) (p := p) (G0 := G4) hf hop (n := (hCat (hEg H) b k).length) hE.2.1 (hCat (hEg H) b k).length 0 f G4 (by omega) (by have := hE.2.1; omega) (by rw [c2 _ _ (by omega), b2 _ _ (by omega), g2 _ _ (by omega) (by omega)]; exact hE.1) (fun _ _ _ => rfl) (fun t ht => absurd ht (Nat.not_lt_zero t)) (fun t ht => absurd ht (Nat.not_lt_zero t))
  obtain ⟨G6, e1, e2, e15⟩ := l_316_258 (f := f) (o := o) (p := p) (G0 := G5) hop 72 0 f G5 rfl (by omega) (fun _ _ _ => rfl) (fun t ht => absurd ht (Nat.not_lt_zero t))
  have zo : ∀ a j, o ≤ a → a ≤ o + 28 → G3 a j = G a j ∧ G4 a j = G a j ∧ G5 a j = G a j := fun a j q1 q2 => by
    have w3 : G3 a j = G a j := by rw [b2 _ _ (by omega), g2 _ _ q1 q2]
    have w4 : G4 a j = G a j := by rw [c2 _ _ (by omega), w3]
    exact ⟨w3, w4, by rw [d2 _ _ (by omega), w4]⟩
  have zf : ∀ a j, ¬ (p + 5 ≤ a ∧ a ≤ p + 15) → G6 a j = G2 a j := fun a j q => by rw [e2 _ _ (by omega), d2 _ _ (by omega), c2 _ _ (by omega), b2 _ _ (by omega)]
  have y5 : ∀ a j, p + 5 ≤ a → a ≤ p + 9 → G6 a j = G3 a j := fun a j _ _ => by rw [e2 _ _ (by omega), d2 _ _ (by omega), c2 _ _ (by omega)]
  have y10 : ∀ a j, p + 10 ≤ a → a ≤ p + 12 → G6 a j = G4 a j := fun a j _ _ => by rw [e2 _ _ (by omega), d2 _ _ (by omega)]
  have y13 : ∀ a j, p + 13 ≤ a → a ≤ p + 14 → G6 a j = G5 a j := fun a j _ _ => by rw [e2 _ _ (by omega)]
  refine ⟨G6, ?_, ⟨⟨?_, hL.2.1, fun i hi => ?_⟩, ⟨?_, hC.2.1, fun i hi => ?_⟩, ⟨?_, hE.2.1, fun i hi => ?_⟩, hs⟩, ?_, fun j hj => ?_, fun c hc => ?_, fun a j q1 q2 => ?_⟩
  · rw [e0]
    exact b1.trans (c1.trans (d1.trans e1))
  · rw [zf _ _ (by omega), s10]; exact hL.1
  · obtain ⟨t1, t2, t3, t4, t5, t6⟩ := hL.2.2 i hi
    refine ⟨?_, ?_, ?_, ?_, t5, fun j hj => ?_⟩
    · rw [y5 _ _ (by omega) (by omega), b5 i hi, g2 _ _ (by omega) (by omega)]; exact t1
    · rw [y5 _ _ (by omega) (by omega), b6 i hi, g2 _ _ (by omega) (by omega)]; exact t2
    · rw [y5 _ _ (by omega) (by omega), b8 i hi, g2 _ _ (by omega) (by omega)]; exact t3
    · rw [y5 _ _ (by omega) (by omega), b7 i hi, g2 _ _ (by omega) (by omega)]; exact t4
    · rw [y5 _ _ (by omega) (by omega), b9 (4 * i + j) (by omega), g2 _ _ (by omega) (by omega)]; exact t6 j hj
  · rw [zf _ _ (by omega), s16]; exact hC.1
  · obtain ⟨t1, t2, t3⟩ := hC.2.2 i hi
    refine ⟨?_, ?_, ?_⟩
    · rw [y10 _ _ (by omega) (by omega), c10 i hi, (zo _ _ (by omega) (by omega)).1]; exact t1
    · rw [y10 _ _ (by omega) (by omega), c11 i hi, (zo _ _ (by omega) (by omega)).1]; exact t2
    · rw [y10 _ _ (by omega) (by omega), c12 i hi, (zo _ _ (by omega) (by omega)).1]; exact t3
  · rw [zf _ _ (by omega), s17]; exact hE.1
  · obtain ⟨t1, t2⟩ := hE.2.2 i hi
    refine ⟨?_, ?_⟩
    · rw [y13 _ _ (by omega) (by omega), d13 i hi, (zo _ _ (by omega) (by omega)).2.1]; exact t1
    · rw [y13 _ _ (by omega) (by omega), d14 i hi, (zo _ _ (by omega) (by omega)).2.1]; exact t2
  · exact a2.ge (by rw [zf _ _ (by omega), z2 _ _ (by omega)]) (fun a j _ _ => by rw [zf _ _ (by omega), z2 _ _ (by omega)])
  · rw [zf _ _ (by omega)]
    rcases hj with q | q | q | q <;> rw [q]
    · exact s1
    · exact s2
    · exact s3
    · exact s4
  · rw [e15 c hc, (zo _ _ (by omega) (by omega)).2.2]
  · rw [zf _ _ (by omega), z2 _ _ (by omega), z1 _ _ (by omega)]
end
