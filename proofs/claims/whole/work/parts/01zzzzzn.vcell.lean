/-! valueCells: the reference's SHEET -/
section
variable {f o m : Nat} {T : List (List Int)} {K : Nat → Nat} {s : pPg} {M : Nat → List pRw}
/-- what of the reference the SHEET reads -/
def eSh (G : xG_) (o : Nat) (T : List (List Int)) (m : Nat) (K : Nat → Nat) (s : pPg) (M : Nat → List pRw) : Prop := rC G ∧ rTxs G T m ∧ rKt G o T K ∧ rNs G 2 s.1 ∧ rPn G 2 s ∧ rTb G s.1.length (qN s) M
def xfV (o : Nat) (G G' : xG_) : Prop := ∀ a j, ¬ (a = 0 ∧ (j ≤ 11 ∨ j = 21 ∨ j = 25 ∨ j = 42 ∨ 89 ≤ j ∧ j ≤ 91)) → ¬ (258 ≤ a ∧ a ≤ 267) → ¬ (a = 269 ∨ a = 270) → a ≠ o + 17 → a ≠ o + 20 → G' a j = G a j
theorem xfV.tr {G G1 G2 : xG_} (h1 : xfV o G G1) (h2 : xfV o G1 G2) : xfV o G G2 := fun a j q1 q2 q3 q4 q5 => (h2 a j q1 q2 q3 q4 q5).trans (h1 a j q1 q2 q3 q4 q5)
theorem xfV.rf (G : xG_) : xfV o G G := fun _ _ _ _ _ _ _ => rfl
theorem eSh.ge {G G' : xG_} (h : eSh G o T m K s M) (ho : 122 < o ∧ o < 211) (hx : xfV o G G') : eSh G' o T m K s M := by
  obtain ⟨⟨k1, k2, k3, k4, k5, k6, k7, k8, k9⟩, a2, a3, a4, a5, a6⟩ := h
  have z : ∀ j, 12 ≤ j → j ≤ 20 → G' 0 j = G 0 j := fun j _ _ => hx _ _ (by omega) (by omega) (by omega) (by omega) (by omega)
  refine ⟨⟨by rw [z _ (by decide) (by decide)]; exact k1, by rw [z _ (by decide) (by decide)]; exact k2, by rw [z _ (by decide) (by decide)]; exact k3, by rw [z _ (by decide) (by decide)]; exact k4, by rw [z _ (by decide) (by decide)]; exact k5, by rw [z _ (by decide) (by decide)]; exact k6, by rw [z _ (by decide) (by decide)]; exact k7, by rw [z _ (by decide) (by decide)]; exact k8, by rw [z _ (by decide) (by decide)]; exact k9⟩, ?_, ?_, ?_, ?_, ?_⟩
  · exact a2.ge (hx _ _ (by omega) (by omega) (by omega) (by omega) (by omega)) (hx _ _ (by omega) (by omega) (by omega) (by omega) (by omega)) (fun a j q => hx _ _ (by omega) (by omega) (by omega) (by omega) (by omega))
  · intro c hc
    rw [hx _ _ (by omega) (by omega) (by omega) (by omega) (by omega)]
    exact a3 c hc
  · exact a4.ge' (hx _ _ (by omega) (by omega) (by omega) (by omega) (by omega)) (fun j => hx _ _ (by omega) (by omega) (by omega) (by omega) (by omega))
  · intro y hy
    rw [hx _ _ (by omega) (by omega) (by omega) (by omega) (by omega)]
    exact a5 y hy
  · exact a6.ge (fun a j _ _ => hx _ _ (by omega) (by omega) (by omega) (by omega) (by omega))
theorem okX_of {G : xG_} (hC : rC G) (hT : rTxs G T m) (hK : rKt G o T K) : okX (xOf T K) := by
  intro c hc e he
  by_cases h0 : K c = 0
  · rw [xOf_none h0] at he; cases he
  · obtain ⟨e', G', x1, x2, x3, x4, x5, x6, x7, x8⟩ := l_341 (f := 3101) (by decide) hc hC hT hK h0
    rw [x1] at he
    cases he
    exact ⟨x4, x5, x6, x7⟩
theorem xOf_is {G : xG_} (hK : rKt G o T K) {c : Nat} (hc : c < 72) : xOf T K c = none ↔ K c = 0 := by
  constructor
  · intro h
    by_cases h0 : K c = 0
    · exact h0
    · obtain ⟨r, q1, q2, q3⟩ := (hK c hc).2.2 h0
      unfold xOf at h
      rw [if_neg h0, q1] at h
      cases h
  · exact xOf_none
theorem xl267 : ((xl_t 267).2.2 : Int) = 72 := by decide +kernel
theorem l_348 {G : xG_} {c : Nat} {k v : Int} (hc : c < 72) : g348 f o (c : Int) k v G = some (xup2 (xup2 G (o + 17) c k) (o + 20) c v) := by
  unfold g348
  rw [if_pos (by omega), Option.bind_some, if_pos (by omega)]
  rfl
/-- what valueCells knows of CELL c at first -/
def rV1 (G : xG_) (o : Nat) (X : fXs) (s : pPg) (c : Nat) : Prop := rRo G c (xRd X c) (xRo X s c) (xRn X c) ∧ rM8 (G 269 c) (G 270 c) (xRd X c) ∧ (G 267 c = 0 ∧ X c ≠ none ∨ G 267 c = 1 ∧ X c = none ∧ G (o + 17) c = 0 ∧ G (o + 20) c = 0)
def cOf (G : xG_) (o : Nat) : fCs := fun x => (G (o + 17) x, G (o + 20) x)
theorem l_346_2 (hf : 3100 < f) (ho : 122 < o ∧ o < 211) : ∀ (k x fu : Nat) (G : xG_), x + k = 72 → k < fu → eSh G o T m K s M → okC (cOf G o) → (∀ c, c < x → rV1 G o (xOf T K) s c) →
    ∃ G', g346_2 f fu o (x : Int) G = g346_82 f f o 0 G' ∧ eSh G' o T m K s M ∧ okC (cOf G' o) ∧ (∀ c, c < 72 → rV1 G' o (xOf T K) s c) ∧ xfV o G G' := by
  intro k
  induction k with
  | zero =>
    intro x fu G h1 h2 h3 h4 h5
    obtain ⟨fu, rfl⟩ : ∃ t, fu = t + 1 := ⟨fu - 1, by omega⟩
    have hx : x = 72 := by omega
    subst hx
    refine ⟨G, ?_, h3, h4, h5, .rf G⟩
    show g346_2b (g346_2 f fu) f _ _ _ = _
    unfold g346_2b
    rw [if_pos (by omega)]
  | succ k ih =>
    intro x fu G h1 h2 h3 h4 h5
    obtain ⟨fu, rfl⟩ : ∃ t, fu = t + 1 := ⟨fu - 1, by omega⟩
    have hx : x < 72 := by omega
    have hx2 : 0 ≤ (x : Int) ∧ (x : Int) < 72 := by omega
    have e : xwr ((x : Int) + 1) = ((x + 1 : Nat) : Int) := by rw [xwr_g _ (by omega) (by omega)]; omega
    obtain ⟨G1, u1, u2, u3⟩ := l_344 hf ho hx h3.1 h3.2.1 h3.2.2.1 h3.2.2.2.1
    have hk := (h3.2.2.1 x hx).1
    have hn := xOf_is h3.2.2.1 hx
    let G2 := xup2 (xup2 G1 269 x (G1 263 x)) 270 x (xup2 G1 269 x (G1 263 x) 264 x)
    have z2 : ∀ a j, ¬ (a = 269 ∧ j = x) → ¬ (a = 270 ∧ j = x) → G2 a j = G1 a j := fun a j q1 q2 => by
      show xup2 _ _ _ _ _ _ = _
      rw [xup2_n (by omega), xup2_n (by omega)]
    have z9 : G2 269 x = G1 263 x := by
      show xup2 _ _ _ _ _ _ = _
      rw [xup2_n (by omega), xup2_s]
    have z0 : G2 270 x = G1 264 x := by
      show xup2 _ _ _ _ _ _ = _
      rw [xup2_s, xup2_n (by omega)]
    have k15 : G2 (o + 15) x = (K x : Int) := by
      rw [z2 _ _ (by omega) (by omega), u3 _ _ (by omega) (by omega) (by omega)]
      exact hk
    have e0 : g346_2 f (fu + 1) o (x : Int) G = (if ¬ (G2 (o + 15) x) = 0 then g346_57 (g346_2 f fu) f o (x : Int) 0 (x : Int) 267 G2 else g346_57 (g346_2 f fu) f o (x : Int) 1 (x : Int) 267 G2) := by
      show g346_2b (g346_2 f fu) f o (x : Int) G = _
      unfold g346_2b
      rw [if_neg (by omega), u1, Option.bind_some, if_pos hx2, if_pos hx2, Option.bind_some, if_pos hx2, if_pos hx2, Option.bind_some, if_pos hx2, Int.toNat_natCast]
    have e57 : ∀ b : Int, (b = 0 ∨ b = 1) → g346_57 (g346_2 f fu) f o (x : Int) b (x : Int) 267 G2 = (if b = 0 then g346_2 f fu o ((x + 1 : Nat) : Int) (xup2 G2 267 x b) else g346_2 f fu o ((x + 1 : Nat) : Int) (xup2 (xup2 (xup2 G2 267 x b) (o + 17) x 0) (o + 20) x 0)) := fun b hb => by
      unfold g346_57 g346_74
      rw [xl267, if_pos ⟨hx2.1, hx2.2, hb⟩, Option.bind_some, if_pos hx2, Int.toNat_natCast, xup2_s]
      by_cases c : b = 0
      · rw [if_pos c, if_pos c, e]
      · rw [if_neg c, if_neg c, l_348 hx, Option.bind_some, e]
    have base : ∀ G3 : xG_, (∀ a j, ¬ (a = 267 ∧ j = x) → ¬ (a = o + 17 ∧ j = x) → ¬ (a = o + 20 ∧ j = x) → G3 a j = G2 a j) → (∀ c, c < 72 → c ≠ x → cOf G3 o c = cOf G o c) ∧ xfV o G G3 ∧ (∀ c, c < x → rV1 G3 o (xOf T K) s c) ∧ rRo G3 x (xRd (xOf T K) x) (xRo (xOf T K) s x) (xRn (xOf T K) x) ∧ rM8 (G3 269 x) (G3 270 x) (xRd (xOf T K) x) := fun G3 h => by
      have hxf : xfV o G G3 := fun a j q1 q2 q3 q4 q5 => by
        rw [h a j (by omega) (by omega) (by omega), z2 _ _ (by omega) (by omega), u3 _ _ (by omega) (by omega) (by omega)]
      have hall : ∀ a j, j ≠ x → a ≠ 0 → ¬ (258 ≤ a ∧ a ≤ 262) → G3 a j = G a j := fun a j q1 q2 q3 => by
        rw [h a j (by omega) (by omega) (by omega), z2 _ _ (by omega) (by omega), u3 _ _ (by omega) (by omega) (by omega)]
      refine ⟨fun c hc1 hc2 => ?_, hxf, fun c hc => ?_, ?_, ?_⟩
      · unfold cOf
        rw [hall _ _ hc2 (by omega) (by omega), hall _ _ hc2 (by omega) (by omega)]
      · have hcx : c ≠ x := by omega
        obtain ⟨⟨r1, r2, r3, r4⟩, r5, r6⟩ := h5 c hc
        unfold rV1 rRo
        rw [hall _ _ hcx (by omega) (by omega), hall _ _ hcx (by omega) (by omega), hall _ _ hcx (by omega) (by omega), hall _ _ hcx (by omega) (by omega), hall _ _ hcx (by omega) (by omega), hall _ _ hcx (by omega) (by omega), hall _ _ hcx (by omega) (by omega), hall _ _ hcx (by omega) (by omega), hall _ _ hcx (by omega) (by omega)]
        exact ⟨⟨r1, r2, r3, r4⟩, r5, r6⟩
      · obtain ⟨r1, r2, r3, r4⟩ := u2
        have w : ∀ a, 263 ≤ a → a ≤ 266 → G3 a x = G1 a x := fun a _ _ => by
          rw [h a x (by omega) (by omega) (by omega), z2 _ _ (by omega) (by omega)]
        exact ⟨by rw [w _ (by decide) (by decide), w _ (by decide) (by decide)]; exact r1, by rw [w _ (by decide) (by decide)]; exact r2, r3, by rw [w _ (by decide) (by decide)]; exact r4⟩
      · rw [h _ _ (by omega) (by omega) (by omega), h _ _ (by omega) (by omega) (by omega), z9, z0]
        exact u2.1
    by_cases h0 : K x = 0
    · let G3 := xup2 (xup2 (xup2 G2 267 x 1) (o + 17) x 0) (o + 20) x 0
      obtain ⟨b1, b2, b3, b4, b5⟩ := base G3 (fun a j q1 q2 q3 => by
        show xup2 _ _ _ _ _ _ = _
        rw [xup2_n (by omega), xup2_n (by omega), xup2_n (by omega)])
      have y7 : G3 267 x = 1 := by
        show xup2 _ _ _ _ _ _ = _
        rw [xup2_n (by omega), xup2_n (by omega), xup2_s]
      have y17 : G3 (o + 17) x = 0 := by
        show xup2 _ _ _ _ _ _ = _
        rw [xup2_n (by omega), xup2_s]
      have y20 : G3 (o + 20) x = 0 := xup2_s _ _ _ _
      obtain ⟨G', k1, k2, k3, k4, k5⟩ := ih (x + 1) fu G3 (by omega) (by omega) (h3.ge ho b2) (fun c hc => by
        by_cases d : c = x
        · rw [d]
          exact .inl ⟨y17, y20⟩
        · rw [b1 c hc d]
          exact h4 c hc) (fun c hc => by
        by_cases d : c = x
        · rw [d]
          exact ⟨b4, b5, .inr ⟨y7, hn.mpr h0, y17, y20⟩⟩
        · exact b3 c (by omega))
      refine ⟨G', ?_, k2, k3, k4, b2.tr k5⟩
      rw [e0, k15, h0, if_neg (fun q => q rfl), e57 1 (.inr rfl), if_neg (by decide)]
      exact k1
    · let G3 := xup2 G2 267 x 0
      obtain ⟨b1, b2, b3, b4, b5⟩ := base G3 (fun a j q1 q2 q3 => by
        show xup2 _ _ _ _ _ _ = _
        rw [xup2_n (by omega)])
      have y7 : G3 267 x = 0 := xup2_s _ _ _ _
      have y17 : ∀ a, a = o + 17 ∨ a = o + 20 → G3 a x = G a x := fun a q => by
        show xup2 _ _ _ _ _ _ = _
        rw [xup2_n (by omega), z2 _ _ (by omega) (by omega), u3 _ _ (by omega) (by omega) (by omega)]
      obtain ⟨G', k1, k2, k3, k4, k5⟩ := ih (x + 1) fu G3 (by omega) (by omega) (h3.ge ho b2) (fun c hc => by
        by_cases d : c = x
        · have hh := h4 x hx
          rw [d]
          unfold cOf at hh ⊢
          rw [y17 _ (.inl rfl), y17 _ (.inr rfl)]
          exact hh
        · rw [b1 c hc d]
          exact h4 c hc) (fun c hc => by
        by_cases d : c = x
        · rw [d]
          exact ⟨b4, b5, .inl ⟨y7, fun q => h0 (hn.mp q)⟩⟩
        · exact b3 c (by omega))
      refine ⟨G', ?_, k2, k3, k4, b2.tr k5⟩
      rw [e0, k15, if_pos (by omega), e57 0 (.inl rfl), if_pos rfl]
      exact k1
/-- the closure of what CELLS read -/
def rFa8 (G : xG_) (A : Nat → Nat) : Prop := ∀ c, c < 72 → rM8 (G 269 c) (G 270 c) (A c)
def xfA8 (G G' : xG_) : Prop := ∀ a j, ¬ (a = 269 ∨ a = 270) → G' a j = G a j
theorem qW1_s (A : Nat → Nat) (x i : Nat) : qW1 A x i x = A x := by
  unfold qW1
  split
  · exact Nat.or_self _
  · rfl
theorem l_346_90 {r82 : Nat → Int → xG_ → Option xG_} {A : Nat → Nat} {x : Nat} (hx : x < 72) : ∀ (k i fu : Nat) (G : xG_), i + k = 72 → k < fu → rFa8 G (qW1 A x i) →
    ∃ G', g346_90 r82 f fu o (x : Int) (i : Int) G = r82 o ((x + 1 : Nat) : Int) G' ∧ rFa8 G' (qW1 A x 72) ∧ xfA8 G G' := by
  intro k
  induction k with
  | zero =>
    intro i fu G h1 h2 h3
    obtain ⟨fu, rfl⟩ : ∃ t, fu = t + 1 := ⟨fu - 1, by omega⟩
    have hi : i = 72 := by omega
    subst hi
    have e : xwr ((x : Int) + 1) = ((x + 1 : Nat) : Int) := by rw [xwr_g _ (by omega) (by omega)]; omega
    refine ⟨G, ?_, h3, fun _ _ _ => rfl⟩
    show g346_90b r82 (g346_90 r82 f fu) f _ _ _ _ = _
    unfold g346_90b
    rw [if_pos (by omega), e]
  | succ k ih =>
    intro i fu G h1 h2 h3
    obtain ⟨fu, rfl⟩ : ∃ t, fu = t + 1 := ⟨fu - 1, by omega⟩
    have hi : i < 72 := by omega
    have hi2 : 0 ≤ (i : Int) ∧ (i : Int) < 72 := by omega
    have hx2 : 0 ≤ (x : Int) ∧ (x : Int) < 72 := by omega
    have e : xwr ((i : Int) + 1) = ((i + 1 : Nat) : Int) := by rw [xwr_g _ (by omega) (by omega)]; omega
    have hi3 := h3 i hi
    have hx3 := h3 x hx
    have ei : qW1 A x i i = A i := by
      unfold qW1
      rw [if_neg (fun q => absurd q.1 (Nat.lt_irrefl i))]
    rw [ei] at hi3
    rw [qW1_s] at hx3
    have en : ∀ c, c ≠ i → qW1 A x (i + 1) c = qW1 A x i c := fun c hc => by
      unfold qW1
      by_cases d : c < i
      · by_cases d2 : (A c).testBit x = true
        · rw [if_pos ⟨by omega, d2⟩, if_pos ⟨d, d2⟩]
        · rw [if_neg (fun q => d2 q.2), if_neg (fun q => d2 q.2)]
      · rw [if_neg (fun q => by omega), if_neg (fun q => d q.1)]
    have e0 : g346_90 r82 f (fu + 1) o (x : Int) (i : Int) G = g346_90b r82 (g346_90 r82 f fu) f o (x : Int) (i : Int) G := rfl
    by_cases c : (A i).testBit x = true
    · let G2 := xup2 (xup2 G 269 i (xor8 (G 269 i) (G 269 x))) 270 i (xor8 (G 270 i) (G 270 x))
      have ee : qW1 A x (i + 1) i = A i ||| A x := by
        unfold qW1
        rw [if_pos ⟨Nat.lt_succ_self i, c⟩]
      obtain ⟨G', k1, k2, k3⟩ := ih (i + 1) fu G2 (by omega) (by omega) (fun y hy => by
        by_cases d : y = i
        · rw [d, ee]
          show rM8 (xup2 _ _ _ _ _ _) (xup2 _ _ _ _ _ _) _
          rw [xup2_n (by omega), xup2_s, xup2_s]
          exact hi3.or hx3
        · rw [en y d]
          show rM8 (xup2 _ _ _ _ _ _) (xup2 _ _ _ _ _ _) _
          rw [xup2_n (by omega), xup2_n (by omega), xup2_n (by omega), xup2_n (by omega)]
          exact h3 y hy)
      refine ⟨G', ?_, k2, fun a j q => by
        rw [k3 a j q]
        show xup2 _ _ _ _ _ _ = _
        rw [xup2_n (by omega), xup2_n (by omega)]⟩
      have s1 : ¬ ((if (A i).testBit x = true then (1 : Int) else 0, G) : Int × xG_).1 = 0 := by
        rw [if_pos c]; show ¬ (1 : Int) = 0; decide
      rw [e0]
      unfold g346_90b g346_148
      rw [if_neg (by omega), if_pos hi2, if_pos hi2, Int.toNat_natCast, l_343 hi3 hx, Option.bind_some, if_pos s1, if_pos hi2, if_pos hx2, if_pos hi2, Int.toNat_natCast, Option.bind_some, if_pos hi2, if_pos hx2, if_pos hi2, Option.bind_some, e]
      simp only []
      rw [xup2_n (by omega : ¬ (270 = 269 ∧ i = i)), xup2_n (by omega : ¬ (270 = 269 ∧ x = i))]
      exact k1
    · have ee : qW1 A x (i + 1) i = A i := by
        unfold qW1
        rw [if_neg (fun q => c q.2)]
      obtain ⟨G', k1, k2, k3⟩ := ih (i + 1) fu G (by omega) (by omega) (fun y hy => by
        by_cases d : y = i
        · rw [d, ee]; exact hi3
        · rw [en y d]; exact h3 y hy)
      refine ⟨G', ?_, k2, k3⟩
      have s1 : ¬ ¬ ((if (A i).testBit x = true then (1 : Int) else 0, G) : Int × xG_).1 = 0 := by
        rw [if_neg c]; exact fun q => q rfl
      rw [e0]
      unfold g346_90b g346_148
      rw [if_neg (by omega), if_pos hi2, if_pos hi2, Int.toNat_natCast, l_343 hi3 hx, Option.bind_some, if_neg s1, e]
      exact k1
theorem l_346_82 {A : Nat → Nat} (hf : 100 < f) : ∀ (k x fu : Nat) (G : xG_), x + k = 72 → k < fu → rFa8 G (qWm 72 A x) →
    ∃ G', g346_82 f fu o (x : Int) G = g346_162 f f o 0 G' ∧ rFa8 G' (qWm 72 A 72) ∧ xfA8 G G' := by
  intro k
  induction k with
  | zero =>
    intro x fu G h1 h2 h3
    obtain ⟨fu, rfl⟩ : ∃ t, fu = t + 1 := ⟨fu - 1, by omega⟩
    have hx : x = 72 := by omega
    subst hx
    refine ⟨G, ?_, h3, fun _ _ _ => rfl⟩
    show g346_82b (g346_82 f fu) f _ _ _ = _
    unfold g346_82b
    rw [if_pos (by omega)]
  | succ k ih =>
    intro x fu G h1 h2 h3
    obtain ⟨fu, rfl⟩ : ∃ t, fu = t + 1 := ⟨fu - 1, by omega⟩
    have hw0 : rFa8 G (qW1 (qWm 72 A x) x 0) := fun c hc => by
      have : qW1 (qWm 72 A x) x 0 c = qWm 72 A x c := by
        unfold qW1
        rw [if_neg (fun q => absurd q.1 (Nat.not_lt_zero c))]
      rw [this]
      exact h3 c hc
    obtain ⟨G1, u1, u2, u3⟩ := l_346_90 (f := f) (o := o) (r82 := g346_82 f fu) (x := x) (by omega) 72 0 f G rfl (by omega) hw0
    obtain ⟨G', k1, k2, k3⟩ := ih (x + 1) fu G1 (by omega) (by omega) u2
    refine ⟨G', ?_, k2, fun a j q => (k3 a j q).trans (u3 a j q)⟩
    show g346_82b (g346_82 f fu) f _ _ _ = _
    unfold g346_82b
    rw [if_neg (by omega)]
    exact u1.trans k1
end
