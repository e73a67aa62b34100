/-! The reference reads programs: from the first TOKEN on -/
section
variable {f o : Nat}
theorem l_clear (hf : 20 < f) (ho : o = 2 ∨ o = 37 ∨ o = 72) (G : xG_) : ∃ G', g228 f o G = some G' ∧ (∀ a j, ¬ (a = 0 ∧ j = 22) → ¬ (a = o ∧ (j = 8 ∨ j = 9 ∨ j = 14 ∨ j = 37)) → ¬ (o + 2 ≤ a ∧ a ≤ o + 8 ∧ a ≠ o + 4 ∧ a ≠ o + 5) → G' a j = G a j) ∧ G' 0 22 = (o : Int) ∧ G' o 8 = 0 ∧ G' o 9 = 0 ∧ G' o 14 = 0 ∧ G' o 37 = 0 ∧ ∀ a j, o + 2 ≤ a → a ≤ o + 8 → a ≠ o + 4 → a ≠ o + 5 → j < 16 → G' a j = 0 := by
  have loop : ∀ (k v fu : Nat) (G : xG_), v + k = 16 → k < fu → (∀ a j, o + 2 ≤ a → a ≤ o + 8 → a ≠ o + 4 → a ≠ o + 5 → j < v → G a j = 0) → ∃ G', g228_22 f fu o (v : Int) G = some G' ∧ (∀ a j, ¬ (a = 0 ∧ j = 22) → ¬ (o + 2 ≤ a ∧ a ≤ o + 8 ∧ a ≠ o + 4 ∧ a ≠ o + 5) → G' a j = G a j) ∧ G' 0 22 = (o : Int) ∧ ∀ a j, o + 2 ≤ a → a ≤ o + 8 → a ≠ o + 4 → a ≠ o + 5 → j < 16 → G' a j = 0 := by
    intro k
    induction k with
    | zero =>
      intro v fu G hk hfu hz
      obtain ⟨fu, rfl⟩ : ∃ t, fu = t + 1 := ⟨fu - 1, by omega⟩
      refine ⟨xup2 G 0 22 (o : Int), ?_, fun a j h1 h2 => xup2_n h1, xup2_s _ _ _ _, fun a j h1 h2 h3 h4 h5 => by rw [xup2_n (by omega)]; exact hz a j h1 h2 h3 h4 (by omega)⟩
      show g228_22b (g228_22 f fu) f _ _ _ = _
      unfold g228_22b
      rw [if_pos (by omega)]
      rfl
    | succ k ih =>
      intro v fu G hk hfu hz
      obtain ⟨fu, rfl⟩ : ∃ t, fu = t + 1 := ⟨fu - 1, by omega⟩
      have ez : ∀ a j, xup2 (xup2 (xup2 (xup2 (xup2 G (o + 2) v 0) (o + 3) v 0) (o + 6) v 0) (o + 7) v 0) (o + 8) v 0 a j = if o + 2 ≤ a ∧ a ≤ o + 8 ∧ a ≠ o + 4 ∧ a ≠ o + 5 ∧ j = v then 0 else G a j := by
        intro a j
        by_cases c : o + 2 ≤ a ∧ a ≤ o + 8 ∧ a ≠ o + 4 ∧ a ≠ o + 5 ∧ j = v
        · rw [if_pos c]
          obtain ⟨c1, c2, c3, c4, rfl⟩ := c
          have : a = o + 2 ∨ a = o + 3 ∨ a = o + 6 ∨ a = o + 7 ∨ a = o + 8 := by omega
          rcases this with rfl | rfl | rfl | rfl | rfl <;> simp (disch := omega) only [xup2_n, xup2_s]
        · rw [if_neg c]
          simp (disch := omega) only [xup2_n]
      obtain ⟨G', a1, a2, a3, a4⟩ := ih (v + 1) fu (xup2 (xup2 (xup2 (xup2 (xup2 G (o + 2) v 0) (o + 3) v 0) (o + 6) v 0) (o + 7) v 0) (o + 8) v 0) (by omega) (by omega) (fun a j h1 h2 h3 h4 h5 => by
        rw [ez]
        by_cases c : j = v
        · rw [if_pos ⟨h1, h2, h3, h4, c⟩]
        · rw [if_neg (fun h => c h.2.2.2.2)]
          exact hz a j h1 h2 h3 h4 (by omega))
      refine ⟨G', ?_, fun a j h1 h2 => ?_, a3, a4⟩
      · show g228_22b (g228_22 f fu) f _ _ _ = _
        unfold g228_22b
        rw [if_neg (by omega), if_pos (by omega), Int.toNat_natCast]
        simp only [Option.bind_some]
        rw [if_pos (by omega), if_pos (by omega), if_pos (by omega), if_pos (by omega), xwr_g _ (by omega) (by omega)]
        exact a1
      · rw [a2 a j h1 h2, ez, if_neg (by omega)]
  obtain ⟨G', a1, a2, a3, a4⟩ := loop 16 0 f (xup2 (xup2 (xup2 (xup2 G o 8 0) o 9 0) o 14 0) o 37 0) (by omega) (by omega) (fun a j _ _ _ _ h => by omega)
  refine ⟨G', ?_, fun a j h1 h2 h3 => ?_, a3, ?_, ?_, ?_, ?_, a4⟩
  · unfold g228
    exact a1
  · rw [a2 a j h1 h3, xup2_n (by omega), xup2_n (by omega), xup2_n (by omega), xup2_n (by omega)]
  · rw [a2 _ _ (by omega) (by omega)]; simp (disch := omega) only [xup2_n, xup2_s]
  · rw [a2 _ _ (by omega) (by omega)]; simp (disch := omega) only [xup2_n, xup2_s]
  · rw [a2 _ _ (by omega) (by omega)]; simp (disch := omega) only [xup2_n, xup2_s]
  · rw [a2 _ _ (by omega) (by omega), xup2_s]
end
/-- a text of n bytes from the place q on of a row of bytes -/
def rBy (G : xG_) (b q n : Nat) : Nat → Int := fun p => if p < n then xand (G b (q + p)) 255 else -1
def rTt (G : xG_) (b q n : Nat) : Prop := (b = 239 ∨ b = 240) ∧ (q : Int) + n ≤ ((xl_t b).2.2 : Int) ∧ ∀ p, p < n → -128 ≤ G b (q + p) ∧ G b (q + p) ≤ 127
theorem rBy_tx (G : xG_) (b q n : Nat) : tTx (rBy G b q n) n := by
  intro p
  unfold rBy
  have := xand_255 (G b (q + p))
  constructor
  · intro h
    rw [if_pos h]
    exact this
  · intro h
    rw [if_neg (by omega)]
theorem rTx_of {G G' : xG_} {b q n : Nat} (h : rTt G b q n) (h0 : G' 0 0 = (b : Int)) (h1 : G' 0 1 = (q : Int) + n) (hb : ∀ j, G' b j = G b j) : rTx G' q (rBy G b q n) n := by
  obtain ⟨a1, a2, a3⟩ := h
  have e0 : (G' 0 0).toNat = b := by rw [h0]; exact Int.toNat_natCast b
  refine ⟨⟨by omega, by omega, by rw [e0, h1]; exact a2⟩, rBy_tx G b q n, h1, fun p => ?_, fun p hp => ?_⟩
  · unfold gB rBy
    rw [e0, h1, hb, show ((q : Int) + p).toNat = q + p by omega]
    by_cases c : p < n
    · rw [if_neg (by omega), if_pos c]
    · rw [if_pos (by omega), if_neg c]
  · rw [e0, hb]
    exact a3 p hp
/-- begin: the first TOKEN -/
theorem l_begin {f b q n : Nat} {G : xG_} (hf : n + 20 < f) (h : rTt G b q n) : ∃ L', g212 f b q ((q : Int) + n) G = some (xlx (xup2 (xup2 (xup2 G 0 0 (b : Int)) 0 1 ((q : Int) + n)) 0 11 0) L') ∧ rAt q (rBy G b q n) n false 0 L' := by
  let G1 := xup2 (xup2 (xup2 G 0 0 (b : Int)) 0 1 ((q : Int) + n)) 0 11 0
  have hb := h.1
  have hT : rTx G1 q (rBy G b q n) n := rTx_of h (by show xup2 _ _ _ _ _ _ = _; simp (disch := omega) only [xup2_n, xup2_s]) (by show xup2 _ _ _ _ _ _ = _; simp (disch := omega) only [xup2_n, xup2_s]) (fun j => by show xup2 _ _ _ _ _ _ = _; simp (disch := omega) only [xup2_n])
  let L0 := xu (xu (xu (G1 0) 7 (-1)) 5 (q : Int)) 8 0
  have e0 : g212 f b q ((q : Int) + n) G = g214 f (xlx G1 L0) := by
    have eG : xup2 (xup2 (xup2 (xup2 (xup2 (xup2 G 0 0 (b : Int)) 0 1 ((q : Int) + n)) 0 7 (-1)) 0 5 (q : Int)) 0 8 0) 0 11 0 = xlx G1 L0 := by
      funext a j
      show xup2 _ _ _ _ _ _ = xlx (xup2 (xup2 (xup2 G 0 0 (b : Int)) 0 1 ((q : Int) + n)) 0 11 0) (xu (xu (xu ((xup2 (xup2 (xup2 G 0 0 (b : Int)) 0 1 ((q : Int) + n)) 0 11 0) 0) 7 (-1)) 5 (q : Int)) 8 0) a j
      unfold xlx xu xup2
      grind
    unfold g212
    simp only [Option.bind_some]
    rw [eG]
    cases g214 f (xlx G1 L0) <;> rfl
  obtain ⟨L', e, r1, r2, r3⟩ := rl_lex (f := f) (p := 0) (L := L0) hT hf (by omega) (by show (q : Int) = (q : Int) + ((0 : Nat) : Int); omega) (by show (0 : Int) ≤ 0 ∧ (0 : Int) < 2000000000; decide)
  have h11 : G1 0 11 = 0 := xup2_s _ _ _ _
  have r3' : L' 8 = 0 + 1 := r3
  refine ⟨L', by rw [e0]; exact e, by rw [r2]; rfl, ?_, Nat.zero_le _, by omega, by omega, fun h => absurd h (by decide)⟩
  have hc : (0 ≤ rBy G b q n (tS (rBy G b q n) n 0) ∧ G1 0 11 ≠ 0 ∧ 60 < L' 8) ↔ (0 ≤ rBy G b q n (tS (rBy G b q n) n 0) ∧ false = true ∧ 62 ≤ 0) := by
    rw [h11]
    simp
  have r1' : rTk q (rBy G b q n) n (tS (rBy G b q n) n 0) (0 ≤ rBy G b q n (tS (rBy G b q n) n 0) ∧ G1 0 11 ≠ 0 ∧ 60 < L' 8) L' := r1
  unfold rTk at r1' ⊢
  simp only [hc] at r1'
  exact r1'
/-- what reading a program leaves as it was -/
def xfr2 (o : Nat) (G G' : xG_) : Prop := ∀ a j, ¬ (a = 0 ∧ (j ≤ 11 ∨ 21 ≤ j ∧ j ≤ 25)) → ¬ (o ≤ a ∧ a ≤ o + 34 ∧ a ≠ o + 4 ∧ a ≠ o + 5) → G' a j = G a j
theorem l_readp {f o b q n F K : Nat} {G : xG_} (hf : n + 20 < f) (hn : n ≤ 6000) (hF : 4 * (n + 1) + 4 ≤ F) (hK : n + 1 < K) (ho : o = 2 ∨ o = 37 ∨ o = 72) (hC : rC G) (h : rTt G b q n) :
    pok (pProg (tstr (rBy G b q n) n false) F K ([], [], [], [], [], 0)) (fun w => ∃ G' L', g231 f o b q ((q : Int) + n) G = some (xlx G' L') ∧ L' 7 = (q : Int) + w ∧ xfr2 o G G')
      (fun s => ∃ G' L', ∃ c : Nat, g231 f o b q ((q : Int) + n) G = some (xlx G' L') ∧ L' 7 = -1 ∧ xfr2 o G G' ∧ rPS G' q (rBy G b q n) n false o c s.1 s.2.1 s.2.2.1 s.2.2.2.1 s.2.2.2.2.1 ∧ (∀ y, y < 16 → G' (o + 2) y = 0) ∧ c ≤ n) := by
  obtain ⟨G1, c1, c2, c3, c4, c5, c6, c7, c8⟩ := l_clear (f := f) (o := o) (by omega) ho G
  have hb := h.1
  have hby : rBy G1 b q n = rBy G b q n := by
    funext p
    unfold rBy
    rw [c2 _ _ (by omega) (by omega) (by omega)]
  have h1 : rTt G1 b q n := ⟨h.1, h.2.1, fun p hp => by rw [c2 _ _ (by omega) (by omega) (by omega)]; exact h.2.2 p hp⟩
  obtain ⟨L1, e1, hA⟩ := l_begin (f := f) hf h1
  rw [hby] at hA
  let G2 := xup2 (xup2 (xup2 G1 0 0 (b : Int)) 0 1 ((q : Int) + n)) 0 11 0
  have g2 : ∀ a j, ¬ (a = 0 ∧ (j = 0 ∨ j = 1 ∨ j = 11)) → G2 a j = G1 a j := fun a j _ => by
    show xup2 _ _ _ _ _ _ = _
    simp (disch := omega) only [xup2_n]
  have hT : rTx G2 q (rBy G b q n) n := by
    rw [← hby]
    exact rTx_of h1 (by show xup2 _ _ _ _ _ _ = _; simp (disch := omega) only [xup2_n, xup2_s]) (by show xup2 _ _ _ _ _ _ = _; simp (disch := omega) only [xup2_n, xup2_s]) (fun j => g2 _ _ (by omega))
  have hC2 : rC G2 := by
    obtain ⟨k1, k2, k3, k4, k5, k6, k7, k8, k9⟩ := hC
    unfold rC
    simp (disch := omega) only [g2, c2]
    exact ⟨k1, k2, k3, k4, k5, k6, k7, k8, k9⟩
  have hE : rEv G2 q (rBy G b q n) n false o := ⟨hT, xup2_s _ _ _ _, hC2, by rw [g2 _ _ (by omega)]; exact c3, ho⟩
  have hS : rPS G2 q (rBy G b q n) n false o 0 [] [] [] [] [] := by
    refine ⟨hE, ⟨by rw [g2 _ _ (by omega)]; exact c4, by decide, fun k hk => absurd hk (by simp)⟩, ⟨by rw [g2 _ _ (by omega)]; exact c6, fun k hk => absurd hk (by simp)⟩, by rw [g2 _ _ (by omega)]; exact c7, by rw [g2 _ _ (by omega)]; exact c5, by decide, fun r hr => absurd hr (by simp), fun p hp => ?_⟩
    rw [g2 _ _ (by omega), g2 _ _ (by omega), g2 _ _ (by omega), g2 _ _ (by omega), c8 _ _ (by omega) (by omega) (by omega) (by omega) hp, c8 _ _ (by omega) (by omega) (by omega) (by omega) hp, c8 _ _ (by omega) (by omega) (by omega) (by omega) hp, c8 _ _ (by omega) (by omega) (by omega) (by omega) hp]
    exact ⟨rfl, rfl, rfl, rfl⟩
  have h2 := l_prog (f := f) (F := F) (cb := 0) hf (by omega) (n + 1) f (by omega) K 0 0 G2 L1 [] [] [] [] [] (by omega) (by omega) (by omega) hS hA (by omega)
  have e2 : g231 f o b q ((q : Int) + n) G = g231_13 f f (xlx G2 L1) := by
    unfold g231
    rw [c1]
    simp only [Option.bind_some]
    rw [e1]
    rfl
  have fr : ∀ {G'}, xfg o 0 0 0 0 G2 G' → xfr2 o G G' := by
    intro G' hg a j k1 k2
    rw [hg a j (by omega), g2 a j (by omega), c2 a j (by omega) (by omega) (by omega)]
  unfold rGP at h2
  rw [e2]
  cases hp : pProg (tstr (rBy G b q n) n false) F K ([], [], [], [], [], 0) with
  | inl w =>
    rw [hp] at h2
    obtain ⟨G', L', a1, a2, a3⟩ := h2
    exact ⟨G', L', a1, a2, fr a3⟩
  | inr s =>
    rw [hp] at h2
    obtain ⟨G', L', c', a1, a2, a3, a4, _, a5⟩ := h2
    exact ⟨G', L', c', a1, a2.1, fr a3, a4, fun y hy => by rw [a3 _ _ (by omega), g2 _ _ (by omega)]; exact c8 _ _ (by omega) (by omega) (by omega) (by omega) hy, by have k1 := a2.2.2.1; have k2 := (tS_le (rBy_tx G b q n) s.2.2.2.2.2).1; omega⟩
