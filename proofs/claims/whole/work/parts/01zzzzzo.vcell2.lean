/-! valueCells: rings, then each CELL behind those that it reads -/
section
variable {f o m : Nat} {T : List (List Int)} {K : Nat → Nat} {s : pPg} {M : Nat → List pRw}
/-- c's readings and whether it is worked; what is worked is right -/
def rV2 (G : xG_) (o : Nat) (X : fXs) (s : pPg) (M : Nat → List pRw) (c : Nat) : Prop := rRo G c (xRd X c) (xRo X s c) (xRn X c) ∧ (G 267 c = 0 ∧ X c ≠ none ∧ ¬ xCy X c ∨ G 267 c = 1 ∧ cOf G o c = fSh X s M c)
/-- only c's worth, and what is known of it, has changed -/
theorem l_346_162 {X : fXs} (hf : 100 < f) (ho : 122 < o ∧ o < 211) (hX : okX X) : ∀ (k x fu : Nat) (G : xG_), x + k = 72 → k < fu → rFa8 G (xFr X) → okC (cOf G o) → (∀ c, c < x → rV2 G o X s M c) → (∀ c, x ≤ c → c < 72 → rRo G c (xRd X c) (xRo X s c) (xRn X c) ∧ (G 267 c = 0 ∧ X c ≠ none ∨ G 267 c = 1 ∧ X c = none ∧ G (o + 17) c = 0 ∧ G (o + 20) c = 0)) →
    ∃ G', g346_162 f fu o (x : Int) G = g346_221 f f o 1 G' ∧ okC (cOf G' o) ∧ (∀ c, c < 72 → rV2 G' o X s M c) ∧ xfV o G G' := by
  intro k
  induction k with
  | zero =>
    intro x fu G h1 h2 h3 h4 h5 h6
    obtain ⟨fu, rfl⟩ : ∃ t, fu = t + 1 := ⟨fu - 1, by omega⟩
    have hx : x = 72 := by omega
    subst hx
    refine ⟨G, ?_, h4, h5, .rf G⟩
    show g346_162b (g346_162 f fu) f _ _ _ = _
    unfold g346_162b
    rw [if_pos (by omega)]
  | succ k ih =>
    intro x fu G h1 h2 h3 h4 h5 h6
    obtain ⟨fu, rfl⟩ : ∃ t, fu = t + 1 := ⟨fu - 1, by omega⟩
    have hx : x < 72 := by omega
    have hx2 : 0 ≤ (x : Int) ∧ (x : Int) < 72 := by omega
    have e : xwr ((x : Int) + 1) = ((x + 1 : Nat) : Int) := by rw [xwr_g _ (by omega) (by omega)]; omega
    have e0 : g346_162 f (fu + 1) o (x : Int) G = g346_162b (g346_162 f fu) f o (x : Int) G := rfl
    obtain ⟨r1, r2⟩ := h6 x (Nat.le_refl x) hx
    have hfix := fSh_fix (s := s) (M := M) hX hx
    unfold qCv at hfix
    rcases r2 with ⟨r2, r3⟩ | ⟨r2, r3, r4, r5⟩
    · have s0 : ¬ ¬ G 267 x = 0 := fun q => q r2
      cases hxc : X x with
      | none => exact absurd hxc r3
      | some en =>
        rw [hxc] at hfix
        by_cases cy : xCy X x
        · have hfix' : fSh X s M x = (2, 1) := by
            rw [hfix]
            show (if xCy X x then _ else _) = _
            rw [if_pos cy]
          let G2 := xup2 (xup2 (xup2 G 267 x 1) (o + 17) x 2) (o + 20) x 1
          have z : ∀ a j, ¬ (a = 267 ∧ j = x) → ¬ (a = o + 17 ∧ j = x) → ¬ (a = o + 20 ∧ j = x) → G2 a j = G a j := fun a j q1 q2 q3 => by
            show xup2 _ _ _ _ _ _ = _
            rw [xup2_n (by omega), xup2_n (by omega), xup2_n (by omega)]
          have y7 : G2 267 x = 1 := by
            show xup2 _ _ _ _ _ _ = _
            rw [xup2_n (by omega), xup2_n (by omega), xup2_s]
          have y17 : G2 (o + 17) x = 2 := by
            show xup2 _ _ _ _ _ _ = _
            rw [xup2_n (by omega), xup2_s]
          have y20 : G2 (o + 20) x = 1 := xup2_s _ _ _ _
          have yc : cOf G2 o x = (2, 1) := by unfold cOf; rw [y17, y20]
          have yo : ∀ c, c ≠ x → cOf G2 o c = cOf G o c := fun c hc => by unfold cOf; rw [z _ _ (by omega) (by omega) (by omega), z _ _ (by omega) (by omega) (by omega)]
          have yr : ∀ c, rRo G c (xRd X c) (xRo X s c) (xRn X c) → rRo G2 c (xRd X c) (xRo X s c) (xRn X c) := fun c q => by
            unfold rRo
            rw [z _ _ (by omega) (by omega) (by omega), z _ _ (by omega) (by omega) (by omega), z _ _ (by omega) (by omega) (by omega), z _ _ (by omega) (by omega) (by omega)]
            exact q
          obtain ⟨G', k1, k2, k3, k4⟩ := ih (x + 1) fu G2 (by omega) (by omega) (fun c hc => by rw [z _ _ (by omega) (by omega) (by omega), z _ _ (by omega) (by omega) (by omega)]; exact h3 c hc) (fun c hc => by
            by_cases d : c = x
            · rw [d, yc]; exact .inr (.inr ⟨rfl, by decide, by decide⟩)
            · rw [yo c d]; exact h4 c hc) (fun c hc => by
            by_cases d : c = x
            · rw [d]
              exact ⟨yr x r1, .inr ⟨y7, by rw [yc, hfix']⟩⟩
            · obtain ⟨q1, q2⟩ := h5 c (by omega)
              refine ⟨yr c q1, ?_⟩
              rw [yo c d, z _ _ (by omega) (by omega) (by omega)]
              exact q2) (fun c hc1 hc2 => by
            obtain ⟨q1, q2⟩ := h6 c (by omega) hc2
            refine ⟨yr c q1, ?_⟩
            rw [z _ _ (by omega) (by omega) (by omega), z _ _ (by omega) (by omega) (by omega), z _ _ (by omega) (by omega) (by omega)]
            exact q2)
          refine ⟨G', ?_, k2, k3, fun a j q1 q2 q3 q4 q5 => by rw [k4 a j q1 q2 q3 q4 q5]; exact z _ _ (by omega) (by omega) (by omega)⟩
          have s1 : ¬ ((if (xFr X x).testBit x = true then (1 : Int) else 0, G) : Int × xG_).1 = 0 := by
            rw [if_pos (show (xFr X x).testBit x = true from cy)]; show ¬ (1 : Int) = 0; decide
          rw [e0]
          unfold g346_162b g346_213
          rw [if_neg (by omega), if_pos hx2, Int.toNat_natCast, if_neg s0, if_pos hx2, if_pos hx2, l_343 (h3 x hx) hx, Option.bind_some, if_pos s1, if_pos hx2, Option.bind_some, l_348 hx, Option.bind_some, e]
          exact k1
        · obtain ⟨G', k1, k2, k3, k4⟩ := ih (x + 1) fu G (by omega) (by omega) h3 h4 (fun c hc => by
            by_cases d : c = x
            · rw [d]
              exact ⟨r1, .inl ⟨r2, r3, cy⟩⟩
            · exact h5 c (by omega)) (fun c hc1 hc2 => h6 c (by omega) hc2)
          refine ⟨G', ?_, k2, k3, k4⟩
          have s1 : ¬ ¬ ((if (xFr X x).testBit x = true then (1 : Int) else 0, G) : Int × xG_).1 = 0 := by
            rw [if_neg (show ¬ (xFr X x).testBit x = true from cy)]; exact fun q => q rfl
          rw [e0]
          unfold g346_162b g346_213
          rw [if_neg (by omega), if_pos hx2, Int.toNat_natCast, if_neg s0, if_pos hx2, if_pos hx2, l_343 (h3 x hx) hx, Option.bind_some, if_neg s1, e]
          exact k1
    · rw [r3] at hfix
      obtain ⟨G', k1, k2, k3, k4⟩ := ih (x + 1) fu G (by omega) (by omega) h3 h4 (fun c hc => by
        by_cases d : c = x
        · rw [d]
          refine ⟨r1, .inr ⟨r2, ?_⟩⟩
          unfold cOf
          rw [r4, r5, hfix]
        · exact h5 c (by omega)) (fun c hc1 hc2 => h6 c (by omega) hc2)
      refine ⟨G', ?_, k2, k3, k4⟩
      rw [e0]
      unfold g346_162b g346_213
      rw [if_neg (by omega), if_pos hx2, Int.toNat_natCast, if_pos (by omega), e]
      exact k1
/-- waits -/
theorem l_347 {G : xG_} {A c : Nat} (hc : c < 72) (hm : rM8 (G 263 c) (G 264 c) A) : ∀ (k x fu : Nat), x + k = 72 → k < fu →
    ∃ w, g347_2 f fu (c : Int) (x : Int) G = some (w, G) ∧ (w = 0 ↔ ∀ y, x ≤ y → y < 72 → A.testBit y = true → G 267 y ≠ 0) := by
  intro k
  induction k with
  | zero =>
    intro x fu h1 h2
    obtain ⟨fu, rfl⟩ : ∃ t, fu = t + 1 := ⟨fu - 1, by omega⟩
    refine ⟨0, ?_, fun _ y y1 y2 => by omega, fun _ => rfl⟩
    show g347_2b (g347_2 f fu) f _ _ _ = _
    unfold g347_2b
    rw [if_pos (by omega)]
  | succ k ih =>
    intro x fu h1 h2
    obtain ⟨fu, rfl⟩ : ∃ t, fu = t + 1 := ⟨fu - 1, by omega⟩
    have hx2 : 0 ≤ (x : Int) ∧ (x : Int) < 72 := by omega
    have hc2 : 0 ≤ (c : Int) ∧ (c : Int) < 72 := by omega
    have e : xwr ((x : Int) + 1) = ((x + 1 : Nat) : Int) := by rw [xwr_g _ (by omega) (by omega)]; omega
    obtain ⟨w, k1, k2⟩ := ih (x + 1) fu (by omega) (by omega)
    have e0 : g347_2 f (fu + 1) (c : Int) (x : Int) G = g347_2b (g347_2 f fu) f (c : Int) (x : Int) G := rfl
    have go : (A.testBit x = true → G 267 x ≠ 0) → (w = 0 ↔ ∀ y, x ≤ y → y < 72 → A.testBit y = true → G 267 y ≠ 0) := fun q => by
      rw [k2]
      constructor
      · intro h y y1 y2 y3
        by_cases d : y = x
        · rw [d] at y3 ⊢; exact q y3
        · exact h y (by omega) y2 y3
      · intro h y y1 y2 y3
        exact h y (by omega) y2 y3
    by_cases c1 : A.testBit x = true
    · have s1 : ¬ ((if A.testBit x = true then (1 : Int) else 0, G) : Int × xG_).1 = 0 := by
        rw [if_pos c1]; show ¬ (1 : Int) = 0; decide
      by_cases d : G 267 x = 0
      · refine ⟨1, ?_, fun q => absurd q (by decide), fun q => absurd d (q x (Nat.le_refl x) (by omega) c1)⟩
        rw [e0]
        unfold g347_2b
        rw [if_neg (by omega), if_pos hc2, if_pos hc2, Int.toNat_natCast, l_343 hm (by omega), Option.bind_some, if_neg s1, if_pos hx2, Int.toNat_natCast, if_neg (fun q => q d)]
      · refine ⟨w, ?_, go (fun _ => d)⟩
        rw [e0]
        unfold g347_2b g347_38
        rw [if_neg (by omega), if_pos hc2, if_pos hc2, Int.toNat_natCast, l_343 hm (by omega), Option.bind_some, if_neg s1, if_pos hx2, Int.toNat_natCast, if_pos d, e]
        exact k1
    · have s1 : ((if A.testBit x = true then (1 : Int) else 0, G) : Int × xG_).1 = 0 := by
        rw [if_neg c1]
      refine ⟨w, ?_, go (fun q => absurd q c1)⟩
      rw [e0]
      unfold g347_2b g347_38
      rw [if_neg (by omega), if_pos hc2, if_pos hc2, Int.toNat_natCast, l_343 hm (by omega), Option.bind_some, if_pos s1, e]
      exact k1
/-- valueCell -/
def xfVc (o c : Nat) (G G' : xG_) : Prop := ∀ a j, ¬ (a = 0 ∧ (j ≤ 11 ∨ j = 21 ∨ j = 25 ∨ j = 42 ∨ 89 ≤ j ∧ j ≤ 91)) → ¬ (258 ≤ a ∧ a ≤ 262) → ¬ (a = 267 ∧ j = c) → ¬ (a = o + 17 ∧ j = c) → ¬ (a = o + 20 ∧ j = c) → G' a j = G a j
theorem l_349 {G : xG_} {c : Nat} (hf : 3100 < f) (ho : 122 < o ∧ o < 211) (hc : c < 72) (he : eSh G o T m K s M) (hM : okM s M) (hn2 : ∀ p, p < s.1.length → 0 ≤ pNn s.2.2.2.1 (p : Int)) (hC : okC (cOf G o)) (h0 : K c ≠ 0) :
    ∃ e G', xOf T K c = some e ∧ g349 f o (c : Int) G = some G' ∧ cOf G' o c = wCv (fWr e.1 e.2 (cOf G o) s M) ∧ G' 267 c = 1 ∧ xfVc o c G G' := by
  have hc2 : 0 ≤ (c : Int) ∧ (c : Int) < 72 := by omega
  obtain ⟨e, G1, x1, x2, x3, x4, x5, x6, x7, x8⟩ := l_341 hf hc he.1 he.2.1 he.2.2.1 h0
  let G2 := xup2 G1 0 91 0
  have z2 : ∀ a j, ¬ (a = 0 ∧ j = 91) → G2 a j = G1 a j := fun a j q => xup2_n (by omega)
  have g2 : ∀ a j, ¬ (a = 0 ∧ (j ≤ 11 ∨ j = 21 ∨ j = 25 ∨ 89 ≤ j ∧ j ≤ 91)) → ¬ (258 ≤ a ∧ a ≤ 262) → G2 a j = G a j := fun a j q1 q2 => by
    rw [z2 _ _ (by omega), x8 _ _ (by omega) q2]
  have hfm : eFm G2 o e.1 (cOf G o) s M := ⟨x3.ge (z2 _ _ (by omega)) (fun a j _ _ => z2 _ _ (by omega)), fun x hx => by
    rw [g2 _ _ (by omega) (by omega), g2 _ _ (by omega) (by omega)]
    exact ⟨rfl, rfl⟩, he.2.2.2.1.ge' (g2 _ _ (by omega) (by omega)) (fun j => g2 _ _ (by omega) (by omega)), fun y hy => by rw [g2 _ _ (by omega) (by omega)]; exact he.2.2.2.2.1 y hy, he.2.2.2.2.2.ge (fun a j _ _ => g2 _ _ (by omega) (by omega))⟩
  obtain ⟨v, G3, w1, w2, w3⟩ := l_350 (f := f) (G := G2) (by omega) (by omega) x4 x5 hC hM hn2 ⟨x6, x7⟩ hfm (xup2_s _ _ _ _)
  have hl5 : ∀ p, p < s.1.length → (M p).length ≤ 520 := fun p hp => (he.2.2.2.2.2 p hp).1.2.1
  have hok : okW (fWr e.1 e.2 (cOf G o) s M) := fW_ok x4 hC hM hl5 64 e.2.toNat (by omega) (by omega)
  have fin : ∀ (kd val : Int), xfVc o c G (xup2 (xup2 (xup2 G3 (o + 17) c kd) (o + 20) c val) 267 c 1) ∧ cOf (xup2 (xup2 (xup2 G3 (o + 17) c kd) (o + 20) c val) 267 c 1) o c = (kd, val) := fun kd val => by
    constructor
    · intro a j q1 q2 q3 q4 q5
      rw [xup2_n (by omega), xup2_n (by omega), xup2_n (by omega), w2 _ _ (by omega), g2 _ _ (by omega) q2]
    · unfold cOf
      rw [xup2_n (by omega), xup2_n (by omega), xup2_s, xup2_n (by omega), xup2_s]
  have e51 : ∀ (kd val : Int), g349_51 f (c : Int) val kd (c : Int) o G3 = some (xup2 (xup2 (xup2 G3 (o + 17) c kd) (o + 20) c val) 267 c 1) := fun kd val => by
    unfold g349_51
    rw [l_348 hc, Option.bind_some, if_pos hc2, Option.bind_some]
    rfl
  have e0 : g349 f o (c : Int) G = (if ¬ (G3 0 91) = 0 then g349_34 f (c : Int) v 2 (c : Int) o G3 else g349_34 f (c : Int) v 1 (c : Int) o G3) := by
    unfold g349
    rw [x2, Option.bind_some, Option.bind_some]
    show (g350 f o e.2 G2).bind _ = _
    rw [w1, Option.bind_some]
  cases hr : fWr e.1 e.2 (cOf G o) s M with
  | inl er =>
    rw [hr] at w3 hok
    have y1 : G3 0 91 = er := w3
    have y2 : 1 ≤ er ∧ er ≤ 4 := hok
    obtain ⟨f1, f2⟩ := fin 2 er
    refine ⟨e, _, x1, ?_, by rw [f2, hr]; rfl, xup2_s _ _ _ _, f1⟩
    rw [e0, if_pos (by omega)]
    unfold g349_34
    rw [if_pos (by omega), y1, e51]
  | inr va =>
    rw [hr] at w3 hok
    obtain ⟨y1, y2⟩ : G3 0 91 = 0 ∧ v = va := w3
    obtain ⟨f1, f2⟩ := fin 1 va
    refine ⟨e, _, x1, ?_, by rw [f2, hr]; rfl, xup2_s _ _ _ _, f1⟩
    rw [e0, if_neg (fun q => q y1)]
    unfold g349_34
    rw [if_neg (fun q => q y1), e51, y2]
/-- how many CELLS below k are not worked yet -/
def uct (G : xG_) : Nat → Nat
  | 0 => 0
  | k + 1 => uct G k + if G 267 k = 0 then 1 else 0
theorem uct_eq {G G' : xG_} : ∀ k, (∀ c, c < k → G' 267 c = G 267 c) → uct G' k = uct G k
  | 0, _ => rfl
  | k + 1, h => by
    unfold uct
    rw [uct_eq k (fun c hc => h c (by omega)), h k (by omega)]
theorem uct_lt {G G' : xG_} {x : Nat} (h1 : ∀ c, c ≠ x → G' 267 c = G 267 c) (h2 : G 267 x = 0) (h3 : G' 267 x = 1) : ∀ k, x < k → uct G' k < uct G k
  | 0, h => absurd h (Nat.not_lt_zero x)
  | k + 1, h => by
    unfold uct
    by_cases c : x = k
    · have := uct_eq (G := G) (G' := G') k (fun y hy => h1 y (by omega))
      rw [← c] at this ⊢
      rw [this, if_pos h2, if_neg (by omega)]
      omega
    · have := uct_lt h1 h2 h3 k (by omega)
      rw [h1 k (by omega)]
      omega
theorem uct_le (G : xG_) : ∀ k, uct G k ≤ k
  | 0 => Nat.le_refl _
  | k + 1 => by
    have := uct_le G k
    unfold uct
    split <;> omega
theorem l_346_229 {r221 : Nat → Int → xG_ → Option xG_} (hf : 3100 < f) (ho : 122 < o ∧ o < 211) (hM : okM s M) (hn2 : ∀ p, p < s.1.length → 0 ≤ pNn s.2.2.2.1 (p : Int)) : ∀ (k x fu : Nat) (fl : Int) (G : xG_), x + k = 72 → k < fu → eSh G o T m K s M → okC (cOf G o) → (∀ c, c < 72 → rV2 G o (xOf T K) s M c) →
    ∃ fl' G', g346_229 r221 f fu o fl (x : Int) G = r221 o fl' G' ∧ eSh G' o T m K s M ∧ okC (cOf G' o) ∧ (∀ c, c < 72 → rV2 G' o (xOf T K) s M c) ∧ xfV o G G' ∧ uct G' 72 ≤ uct G 72 ∧ (fl' = 0 → fl = 0 ∧ G' = G ∧ ∀ c, x ≤ c → c < 72 → G 267 c = 0 → ∃ y, y < 72 ∧ (xRd (xOf T K) c).testBit y = true ∧ G 267 y = 0) ∧ (fl' ≠ 0 → fl ≠ 0 ∨ uct G' 72 < uct G 72) := by
  intro k
  induction k with
  | zero =>
    intro x fu fl G h1 h2 h3 h4 h5
    obtain ⟨fu, rfl⟩ : ∃ t, fu = t + 1 := ⟨fu - 1, by omega⟩
    refine ⟨fl, G, ?_, h3, h4, h5, .rf G, Nat.le_refl _, fun q => ⟨q, rfl, fun c c1 c2 => by omega⟩, fun q => .inl q⟩
    show g346_229b r221 (g346_229 r221 f fu) f _ _ _ _ = _
    unfold g346_229b
    rw [if_pos (by omega)]
  | succ k ih =>
    intro x fu fl G h1 h2 h3 h4 h5
    obtain ⟨fu, rfl⟩ : ∃ t, fu = t + 1 := ⟨fu - 1, by omega⟩
    have hx : x < 72 := by omega
    have hx2 : 0 ≤ (x : Int) ∧ (x : Int) < 72 := by omega
    have e : xwr ((x : Int) + 1) = ((x + 1 : Nat) : Int) := by rw [xwr_g _ (by omega) (by omega)]; omega
    have e0 : g346_229 r221 f (fu + 1) o fl (x : Int) G = g346_229b r221 (g346_229 r221 f fu) f o fl (x : Int) G := rfl
    have hX : okX (xOf T K) := okX_of h3.1 h3.2.1 h3.2.2.1
    -- nothing is done here
    have pass : (G 267 x = 0 → ∃ y, y < 72 ∧ (xRd (xOf T K) x).testBit y = true ∧ G 267 y = 0) → g346_229 r221 f (fu + 1) o fl (x : Int) G = g346_229 r221 f fu o fl ((x + 1 : Nat) : Int) G → ∃ fl' G', g346_229 r221 f (fu + 1) o fl (x : Int) G = r221 o fl' G' ∧ eSh G' o T m K s M ∧ okC (cOf G' o) ∧ (∀ c, c < 72 → rV2 G' o (xOf T K) s M c) ∧ xfV o G G' ∧ uct G' 72 ≤ uct G 72 ∧ (fl' = 0 → fl = 0 ∧ G' = G ∧ ∀ c, x ≤ c → c < 72 → G 267 c = 0 → ∃ y, y < 72 ∧ (xRd (xOf T K) c).testBit y = true ∧ G 267 y = 0) ∧ (fl' ≠ 0 → fl ≠ 0 ∨ uct G' 72 < uct G 72) := fun hp hs => by
      obtain ⟨fl', G', k1, k2, k3, k4, k5, k6, k7, k8⟩ := ih (x + 1) fu fl G (by omega) (by omega) h3 h4 h5
      refine ⟨fl', G', by rw [hs]; exact k1, k2, k3, k4, k5, k6, fun q => ?_, k8⟩
      obtain ⟨q1, q2, q3⟩ := k7 q
      refine ⟨q1, q2, fun c c1 c2 c3 => ?_⟩
      by_cases d : c = x
      · rw [d] at c3 ⊢; exact hp c3
      · exact q3 c (by omega) c2 c3
    obtain ⟨r1, r2⟩ := h5 x hx
    by_cases d : G 267 x = 0
    · obtain ⟨w, w1, w2⟩ := l_347 (f := f) (G := G) hx r1.1 72 0 f rfl (by omega)
      have w1' : g347 f (x : Int) G = some (w, G) := w1
      have hnr : xOf T K x ≠ none ∧ ¬ xCy (xOf T K) x := by
        rcases r2 with q | q
        · exact q.2
        · rw [d] at q; exact absurd q.1 (by decide)
      by_cases c : w = 0
      · have hK : K x ≠ 0 := fun q => hnr.1 ((xOf_is h3.2.2.1 hx).mpr q)
        obtain ⟨en, G1, v1, v2, v3, v4, v5⟩ := l_349 hf ho hx h3 hM hn2 h4 hK
        have hxf : xfV o G G1 := fun a j q1 q2 q3 q4 q5 => v5 a j q1 (by omega) (by omega) (by omega) (by omega)
        have oth : ∀ c, c ≠ x → cOf G1 o c = cOf G o c := fun c hc => by
          unfold cOf
          rw [v5 _ _ (by omega) (by omega) (by omega) (by omega) (by omega), v5 _ _ (by omega) (by omega) (by omega) (by omega) (by omega)]
        have hrd : xRd (xOf T K) x = nRd en.1 := by unfold xRd; rw [v1]
        obtain ⟨o1, o2, o3, o4⟩ := hX x hx en v1
        have hval : cOf G1 o x = fSh (xOf T K) s M x := by
          rw [v3, fSh_fix hX hx]
          unfold qCv
          rw [v1]
          show _ = (if xCy (xOf T K) x then _ else _)
          rw [if_neg hnr.2]
          refine congrArg wCv (fWr_l o1 o2 ⟨o3, o4⟩ (fun y y1 y2 => ?_))
          have y3 := w2.mp c y (Nat.zero_le y) y1 (by rw [hrd]; exact y2)
          rcases (h5 y y1).2 with q | q
          · exact absurd q.1 y3
          · exact q.2
        have hl5 : ∀ p, p < s.1.length → (M p).length ≤ 520 := fun p hp => (h3.2.2.2.2.2 p hp).1.2.1
        have hlt := uct_lt (G := G) (G' := G1) (x := x) (fun c hc => v5 _ _ (by omega) (by omega) (by omega) (by omega) (by omega)) d v4 72 hx
        obtain ⟨fl', G', k1, k2, k3, k4, k5, k6, k7, k8⟩ := ih (x + 1) fu 1 G1 (by omega) (by omega) (h3.ge ho hxf) (fun c hc => by
          by_cases q : c = x
          · rw [q, hval]; exact fSh_ok hX hM hl5 x hx
          · rw [oth c q]; exact h4 c hc) (fun c hc => by
          obtain ⟨q1, q2⟩ := h5 c hc
          have q3 : rRo G1 c (xRd (xOf T K) c) (xRo (xOf T K) s c) (xRn (xOf T K) c) := by
            unfold rRo
            rw [v5 _ _ (by omega) (by omega) (by omega) (by omega) (by omega), v5 _ _ (by omega) (by omega) (by omega) (by omega) (by omega), v5 _ _ (by omega) (by omega) (by omega) (by omega) (by omega), v5 _ _ (by omega) (by omega) (by omega) (by omega) (by omega)]
            exact q1
          refine ⟨q3, ?_⟩
          by_cases q : c = x
          · rw [q]; exact .inr ⟨v4, hval⟩
          · rw [oth c q, v5 _ _ (by omega) (by omega) (by omega) (by omega) (by omega)]
            exact q2)
        refine ⟨fl', G', ?_, k2, k3, k4, hxf.tr k5, by omega, fun q => absurd (k7 q).1 (by decide), fun _ => .inr (by omega)⟩
        rw [e0]
        unfold g346_229b g346_263
        rw [if_neg (by omega), if_pos hx2, Int.toNat_natCast, if_neg (fun q => q d), w1', Option.bind_some, if_pos c, v2, Option.bind_some, e]
        exact k1
      · refine pass (fun _ => ?_) ?_
        · have hh : ¬ ∀ y, 0 ≤ y → y < 72 → (xRd (xOf T K) x).testBit y = true → G 267 y ≠ 0 := fun q => c (w2.mpr q)
          obtain ⟨y, hy⟩ := Classical.not_forall.mp hh
          obtain ⟨_, hy⟩ := Classical.not_imp.mp hy
          obtain ⟨y1, hy⟩ := Classical.not_imp.mp hy
          obtain ⟨y2, hy⟩ := Classical.not_imp.mp hy
          exact ⟨y, y1, y2, Classical.not_not.mp hy⟩
        · rw [e0]
          unfold g346_229b g346_263
          rw [if_neg (by omega), if_pos hx2, Int.toNat_natCast, if_neg (fun q => q d), w1', Option.bind_some, if_neg c, e]
    · refine pass (fun q => absurd q d) ?_
      rw [e0]
      unfold g346_229b g346_263
      rw [if_neg (by omega), if_pos hx2, Int.toNat_natCast, if_pos d, e]
theorem l_346_221 (hf : 3100 < f) (ho : 122 < o ∧ o < 211) (hM : okM s M) (hn2 : ∀ p, p < s.1.length → 0 ≤ pNn s.2.2.2.1 (p : Int)) : ∀ (n fu : Nat) (G : xG_), uct G 72 < n → n < fu → eSh G o T m K s M → okC (cOf G o) → (∀ c, c < 72 → rV2 G o (xOf T K) s M c) →
    ∃ G', g346_221 f fu o 1 G = some G' ∧ eSh G' o T m K s M ∧ (∀ c, c < 72 → rRo G' c (xRd (xOf T K) c) (xRo (xOf T K) s c) (xRn (xOf T K) c)) ∧ rCs G' o (fSh (xOf T K) s M) ∧ xfV o G G' := by
  intro n
  induction n with
  | zero => intro fu G h; omega
  | succ n ih =>
    intro fu G h1 h2 h3 h4 h5
    obtain ⟨fu, rfl⟩ : ∃ t, fu = t + 1 := ⟨fu - 1, by omega⟩
    have hX : okX (xOf T K) := okX_of h3.1 h3.2.1 h3.2.2.1
    obtain ⟨fl', G1, k1, k2, k3, k4, k5, k6, k7, k8⟩ := l_346_229 (f := f) (r221 := g346_221 f fu) hf ho hM hn2 72 0 f 0 G rfl (by omega) h3 h4 h5
    have e0 : g346_221 f (fu + 1) o 1 G = g346_221 f fu o fl' G1 := by
      show g346_221b (g346_221 f fu) f o 1 G = _
      unfold g346_221b
      rw [if_neg (by decide)]
      exact k1
    by_cases c : fl' = 0
    · obtain ⟨q1, q2, q3⟩ := k7 c
      obtain ⟨fu, rfl⟩ : ∃ t, fu = t + 1 := ⟨fu - 1, by omega⟩
      have all : ∀ c, c < 72 → G 267 c ≠ 0 := fun y hy hy0 => by
        obtain ⟨x, x1, x2, x3⟩ := sh_next hX (D := fun c => G 267 c ≠ 0) (fun c hc hr q => by
          rcases (h5 c hc).2 with u | u
          · exact u.2.2 hr
          · rw [q] at u; exact absurd u.1 (by decide)) 73 y hy (fun q => q hy0) (by have := nct_k (xFr (xOf T K) y) 72; omega)
        obtain ⟨z, z1, z2, z3⟩ := q3 x (Nat.zero_le x) x1 (Classical.not_not.mp x2)
        exact x3 z z1 z2 z3
      refine ⟨G1, ?_, k2, fun c hc => (k4 c hc).1, fun c hc => ?_, k5⟩
      · rw [e0, c]
        show g346_221b (g346_221 f fu) f o 0 G1 = _
        unfold g346_221b
        rw [if_pos rfl]
      · rw [q2]
        rcases (h5 c hc).2 with u | u
        · exact absurd u.1 (all c hc)
        · have := u.2
          unfold cOf at this
          rw [← this]
          exact ⟨rfl, rfl⟩
    · have hlt : uct G1 72 < uct G 72 := by
        rcases k8 c with q | q
        · exact absurd rfl q
        · exact q
      have e1 : g346_221 f fu o fl' G1 = g346_221 f fu o 1 G1 := by
        obtain ⟨fu, rfl⟩ : ∃ t, fu = t + 1 := ⟨fu - 1, by omega⟩
        show g346_221b (g346_221 f fu) f o fl' G1 = g346_221b (g346_221 f fu) f o 1 G1
        unfold g346_221b
        rw [if_neg c, if_neg (by decide)]
      obtain ⟨G', u1, u2, u3, u4, u5⟩ := ih fu G1 (by omega) (by omega) k2 k3 k4
      exact ⟨G', by rw [e0, e1]; exact u1, u2, u3, u4, k5.tr u5⟩
/-- valueCells -/
theorem l_346 {G : xG_} (hf : 3100 < f) (ho : 122 < o ∧ o < 211) (hM : okM s M) (hn2 : ∀ p, p < s.1.length → 0 ≤ pNn s.2.2.2.1 (p : Int)) (he : eSh G o T m K s M) (hC : okC (cOf G o)) :
    ∃ G', g346 f o G = some G' ∧ eSh G' o T m K s M ∧ (∀ c, c < 72 → rRo G' c (xRd (xOf T K) c) (xRo (xOf T K) s c) (xRn (xOf T K) c)) ∧ rCs G' o (fSh (xOf T K) s M) ∧ xfV o G G' := by
  have hX : okX (xOf T K) := okX_of he.1 he.2.1 he.2.2.1
  obtain ⟨G1, a1, a2, a3, a4, a5⟩ := l_346_2 hf ho 72 0 f G rfl (by omega) he hC (fun c hc => absurd hc (Nat.not_lt_zero c))
  obtain ⟨G2, b1, b2, b3⟩ := l_346_82 (f := f) (o := o) (A := xRd (xOf T K)) (by omega) 72 0 f G1 rfl (by omega) (fun c hc => (a4 c hc).2.1)
  have w : xfV o G1 G2 := fun a j q1 q2 q3 q4 q5 => b3 a j q3
  obtain ⟨G3, c1, c2, c3, c4⟩ := l_346_162 (f := f) (s := s) (M := M) (by omega) ho hX 72 0 f G2 rfl (by omega) b2 (fun c hc => by
    have hh := a3 c hc
    unfold cOf at hh ⊢
    rw [b3 _ _ (by omega), b3 _ _ (by omega)]
    exact hh) (fun c hc => absurd hc (Nat.not_lt_zero c)) (fun c _ hc => by
    obtain ⟨q1, q2, q3⟩ := a4 c hc
    refine ⟨?_, ?_⟩
    · unfold rRo
      rw [b3 _ _ (by omega), b3 _ _ (by omega), b3 _ _ (by omega), b3 _ _ (by omega)]
      exact q1
    · rw [b3 _ _ (by omega), b3 _ _ (by omega), b3 _ _ (by omega)]
      exact q3)
  have h03 := (a5.tr w).tr c4
  obtain ⟨G4, d1, d2, d3, d4, d5⟩ := l_346_221 hf ho hM hn2 73 f G3 (by have := uct_le G3 72; omega) (by omega) (he.ge ho h03) c2 c3
  refine ⟨G4, ?_, d2, d3, d4, h03.tr d5⟩
  show g346_2 f f o ((0 : Nat) : Int) G = _
  rw [a1]
  show g346_82 f f o ((0 : Nat) : Int) G1 = _
  rw [b1]
  show g346_162 f f o ((0 : Nat) : Int) G2 = _
  rw [c1]
  exact d1
end
