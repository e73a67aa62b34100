/-! FAULTS of the reference: the first kind, of this the first place -/
def rF (G : xG_) (S : Int → Int → Prop) : Prop := (G 0 26 = 0 ∧ ∀ k a, ¬ S k a) ∨ (G 0 26 ≠ 0 ∧ S (G 0 26) (G 0 27) ∧ ∀ k a, S k a → G 0 26 < k ∨ G 0 26 = k ∧ G 0 27 ≤ a)
def xf26 (G G' : xG_) : Prop := ∀ x j, ¬ (x = 0 ∧ (j = 26 ∨ j = 27)) → G' x j = G x j
theorem xf26.rf (G : xG_) : xf26 G G := fun _ _ _ => rfl
theorem xf26.tr {G G1 G2 : xG_} (h : xf26 G G1) (h1 : xf26 G1 G2) : xf26 G G2 := fun x j hj => by rw [h1 x j hj, h x j hj]
theorem l_faulty {f : Nat} {G : xG_} {S : Int → Int → Prop} {k a : Int} (hk : k ≠ 0) (h : rF G S) : ∃ G', g251 f k a G = some G' ∧ rF G' (fun k' a' => S k' a' ∨ k' = k ∧ a' = a) ∧ xf26 G G' := by
  have e26 : xup2 (xup2 G 0 26 k) 0 27 a 0 26 = k := by rw [xup2_n (by omega), xup2_s]
  have e27 : xup2 (xup2 G 0 26 k) 0 27 a 0 27 = a := xup2_s _ _ _ _
  have fr : xf26 G (xup2 (xup2 G 0 26 k) 0 27 a) := fun x j hj => by rw [xup2_n (by omega), xup2_n (by omega)]
  unfold g251 g251_31 g251_32
  rcases h with ⟨h0, hn⟩ | ⟨h0, hs, hm⟩
  · rw [if_pos h0]
    refine ⟨_, rfl, .inr ⟨by rw [e26]; exact hk, by rw [e26, e27]; exact .inr ⟨rfl, rfl⟩, fun k' a' h => ?_⟩, fr⟩
    rcases h with q | q
    · exact absurd q (hn _ _)
    · rw [e26, e27]
      omega
  · rw [if_neg h0]
    by_cases c1 : G 0 26 < k
    · rw [if_pos c1]
      refine ⟨G, rfl, .inr ⟨h0, .inl hs, fun k' a' h => ?_⟩, .rf _⟩
      rcases h with q | q
      · exact hm _ _ q
      · omega
    · rw [if_neg c1]
      by_cases c2 : G 0 26 = k
      · rw [if_neg (fun q => q c2)]
        by_cases c3 : a < G 0 27
        · rw [if_pos c3]
          refine ⟨_, rfl, .inr ⟨by rw [e26]; exact hk, by rw [e26, e27]; exact .inr ⟨rfl, rfl⟩, fun k' a' h => ?_⟩, fr⟩
          rw [e26, e27]
          rcases h with q | q
          · have := hm _ _ q
            omega
          · omega
        · rw [if_neg c3]
          refine ⟨G, rfl, .inr ⟨h0, .inl hs, fun k' a' h => ?_⟩, .rf _⟩
          rcases h with q | q
          · exact hm _ _ q
          · omega
      · rw [if_pos c2]
        refine ⟨_, rfl, .inr ⟨by rw [e26]; exact hk, by rw [e26, e27]; exact .inr ⟨rfl, rfl⟩, fun k' a' h => ?_⟩, fr⟩
        rw [e26, e27]
        rcases h with q | q
        · have := hm _ _ q
          omega
        · omega
theorem rF.iff {G : xG_} {S S' : Int → Int → Prop} (h : rF G S) (he : ∀ k a, S k a ↔ S' k a) : rF G S' := by
  rcases h with ⟨h0, hn⟩ | ⟨h0, hs, hm⟩
  · exact .inl ⟨h0, fun k a q => hn k a ((he k a).mpr q)⟩
  · exact .inr ⟨h0, (he _ _).mp hs, fun k a q => hm k a ((he k a).mpr q)⟩
/-- told twice -/
abbrev twc (a b : Int) : Prop := a = b ∧ (a = 1 ∨ a = 2) ∨ a = 1 ∧ b = 3 ∨ a = 3 ∧ b = 1
theorem l_twc {f : Nat} {a b : Int} {G : xG_} : g253 f a b G = some (if twc a b then 1 else 0, G) := by
  unfold g253 g253_15 g253_25 g253_35 g253_39 g253_40
  grind
/-- the mentions as they stand, all of them -/
def rMM (G : xG_) (o q : Nat) (M : List pMn) : Prop := M.length ≤ 376 ∧ G o 14 = (M.length : Int) ∧ ∀ k, k < M.length → G (o + 9) k = (M.getD k (0, 0, 0, 0)).1 ∧ G (o + 10) k = (q : Int) + (M.getD k (0, 0, 0, 0)).2.1 ∧ G (o + 11) k = (M.getD k (0, 0, 0, 0)).2.2.1 ∧ G (o + 12) k = (M.getD k (0, 0, 0, 0)).2.2.2
theorem rMM.fr {G G' : xG_} {o q : Nat} {M : List pMn} (h : rMM G o q M) (ho : 0 < o) (hf : xf26 G G') : rMM G' o q M := ⟨h.1, by rw [hf _ _ (by omega)]; exact h.2.1, fun k hk => by rw [hf _ _ (by omega), hf _ _ (by omega), hf _ _ (by omega), hf _ _ (by omega)]; exact h.2.2 k hk⟩
def mN (M : List pMn) (i : Nat) : Int := (M.getD i (0, 0, 0, 0)).1
def mP (M : List pMn) (i : Nat) : Nat := (M.getD i (0, 0, 0, 0)).2.1
def mK (M : List pMn) (i : Nat) : Int := (M.getD i (0, 0, 0, 0)).2.2.1
def mW (M : List pMn) (i : Nat) : Int := (M.getD i (0, 0, 0, 0)).2.2.2
/-- a mention that is a FAULT of kind 1 with an earlier one, from j on; of kind 2 -/
def isF1 (M : List pMn) (i j : Nat) : Prop := ∃ k, j ≤ k ∧ k < i ∧ mN M k = mN M i ∧ twc (mW M k) (mW M i)
def isF2 (ins : List (Int × Int × Int)) (R : List pRu) (M : List pMn) (i : Nat) : Prop := (mW M i = 4 ∨ mW M i = 2) ∧ pIn ins (mN M i) = false ∧ pHd R (mN M i) = false
def rFg (G : xG_) (o : Nat) (ins : List (Int × Int × Int)) (R : List pRu) : Prop := ∀ p : Nat, p < 16 → G (o + 6) p = b01 (pIn ins p) ∧ G (o + 8) p = b01 (pHd R p)
theorem b01_0 {b : Bool} : b01 b = 0 ↔ b = false := by cases b <;> decide
section
variable {f o q : Nat} {ins : List (Int × Int × Int)} {R : List pRu} {M : List pMn}
theorem l_f99 {r : Nat → Int → xG_ → Option xG_} {i : Nat} {G : xG_} {S : Int → Int → Prop} (ho : 0 < o) (hi : i < M.length) (hN : 0 ≤ mN M i ∧ mN M i < 16) (hM : rMM G o q M) (hg : rFg G o ins R) (hS : rF G S) : ∃ G', g252_99 r f o (i : Int) (mN M i) G = r o ((i + 1 : Nat) : Int) G' ∧ rF G' (fun k a => S k a ∨ k = 2 ∧ a = (q : Int) + mP M i ∧ pIn ins (mN M i) = false ∧ pHd R (mN M i) = false) ∧ xf26 G G' := by
  have hM1 := hM.1
  have hx : xwr ((i : Int) + 1) = ((i + 1 : Nat) : Int) := by rw [xwr_g _ (by omega) (by omega)]; omega
  obtain ⟨g6, g8⟩ := hg (mN M i).toNat (by omega)
  rw [show (((mN M i).toNat : Nat) : Int) = mN M i by omega] at g6 g8
  unfold g252_99 g252_128
  rw [if_pos hN, g6, hx]
  by_cases c1 : pIn ins (mN M i) = false
  · rw [if_neg (fun h => h (b01_0.mpr c1)), if_pos hN, g8]
    by_cases c2 : pHd R (mN M i) = false
    · rw [if_neg (fun h => h (b01_0.mpr c2)), if_pos (by omega), Int.toNat_natCast, (hM.2.2 i hi).2.1]
      obtain ⟨G', a1, a2, a3⟩ := l_faulty (f := f) (k := 2) (a := (q : Int) + (M.getD i (0, 0, 0, 0)).2.1) (by decide) hS
      refine ⟨G', by rw [a1]; rfl, a2.iff (fun k a => ?_), a3⟩
      constructor
      · rintro (h | h)
        · exact .inl h
        · exact .inr ⟨h.1, h.2, c1, c2⟩
      · rintro (h | h)
        · exact .inl h
        · exact .inr ⟨h.1, h.2.1⟩
    · rw [if_pos (fun h => c2 (b01_0.mp h))]
      exact ⟨G, rfl, hS.iff (fun k a => ⟨.inl, fun h => h.elim id (fun h => absurd h.2.2.2 c2)⟩), .rf _⟩
  · rw [if_pos (fun h => c1 (b01_0.mp h))]
    exact ⟨G, rfl, hS.iff (fun k a => ⟨.inl, fun h => h.elim id (fun h => absurd h.2.2.1 c1)⟩), .rf _⟩
theorem l_f17 {r : Nat → Int → xG_ → Option xG_} {i : Nat} (ho : 0 < o) (hi : i < M.length) (hN : 0 ≤ mN M i ∧ mN M i < 16) : ∀ (k j fu : Nat) (G : xG_) (S : Int → Int → Prop), j + k = i → k < fu → rMM G o q M → rFg G o ins R → rF G S → ∃ G', g252_17 r f fu o (i : Int) (j : Int) G = r o ((i + 1 : Nat) : Int) G' ∧ rF G' (fun k a => S k a ∨ k = 1 ∧ a = (q : Int) + mP M i ∧ isF1 M i j ∨ k = 2 ∧ a = (q : Int) + mP M i ∧ isF2 ins R M i) ∧ xf26 G G' := by
  intro k
  induction k with
  | zero =>
    intro j fu G S hk hfu hM hg hS
    have hM1 := hM.1
    obtain ⟨fu, rfl⟩ : ∃ t, fu = t + 1 := ⟨fu - 1, by omega⟩
    obtain rfl : j = i := by omega
    obtain ⟨m1, m2, m3, m4⟩ := hM.2.2 j hi
    have es : g252_17 r f (fu + 1) o (j : Int) (j : Int) G = if mW M j = 4 ∨ mW M j = 2 then g252_99 r f o (j : Int) (mN M j) G else r o ((j + 1 : Nat) : Int) G := by
      show g252_17b r (g252_17 r f fu) f _ _ _ _ = _
      unfold g252_17b g252_128
      rw [if_pos (by omega), if_pos (by omega), if_pos (by omega), Int.toNat_natCast, m4, m1, xwr_g _ (by omega) (by omega)]
      show (if mW M j = 4 then g252_99 r f o (j : Int) (mN M j) G else if 0 ≤ (j : Int) ∧ (j : Int) < 420 then (if ¬ mW M j = 2 then r o ((j : Int) + 1) G else g252_99 r f o (j : Int) (mN M j) G) else none) = _
      by_cases c4 : mW M j = 4
      · rw [if_pos c4, if_pos (.inl c4)]
      · rw [if_neg c4, if_pos (by omega)]
        by_cases c2 : mW M j = 2
        · rw [if_neg (fun h => h c2), if_pos (.inr c2)]
        · rw [if_pos c2, if_neg (by omega)]
          rfl
    have nf1 : ¬ isF1 M j j := by rintro ⟨k, h1, h2, _⟩; omega
    rw [es]
    by_cases c : mW M j = 4 ∨ mW M j = 2
    · rw [if_pos c]
      obtain ⟨G', a1, a2, a3⟩ := l_f99 (r := r) (f := f) ho hi hN hM hg hS
      refine ⟨G', a1, a2.iff (fun k a => ?_), a3⟩
      constructor
      · rintro (h | h)
        · exact .inl h
        · exact .inr (.inr ⟨h.1, h.2.1, c, h.2.2⟩)
      · rintro (h | h | h)
        · exact .inl h
        · exact absurd h.2.2 nf1
        · exact .inr ⟨h.1, h.2.1, h.2.2.2⟩
    · rw [if_neg c]
      refine ⟨G, rfl, hS.iff (fun k a => ⟨.inl, ?_⟩), .rf _⟩
      rintro (h | h | h)
      · exact h
      · exact absurd h.2.2 nf1
      · exact absurd h.2.2.1 c
  | succ k ih =>
    intro j fu G S hk hfu hM hg hS
    have hM1 := hM.1
    obtain ⟨fu, rfl⟩ : ∃ t, fu = t + 1 := ⟨fu - 1, by omega⟩
    obtain ⟨m1, m2, m3, m4⟩ := hM.2.2 i hi
    obtain ⟨n1, n2, n3, n4⟩ := hM.2.2 j (by omega)
    have hx : xwr ((j : Int) + 1) = ((j + 1 : Nat) : Int) := by rw [xwr_g _ (by omega) (by omega)]; omega
    have es : g252_17 r f (fu + 1) o (i : Int) (j : Int) G = if mN M j = mN M i ∧ twc (mW M j) (mW M i) then (g251 f 1 ((q : Int) + mP M i) G).bind (fun R129 => g252_17 r f fu o (i : Int) ((j + 1 : Nat) : Int) R129) else g252_17 r f fu o (i : Int) ((j + 1 : Nat) : Int) G := by
      show g252_17b r (g252_17 r f fu) f _ _ _ _ = _
      unfold g252_17b g252_66
      rw [if_neg (by omega), if_pos (by omega), if_pos (by omega), Int.toNat_natCast, Int.toNat_natCast, n1, m1, n4, m4, hx, l_twc]
      simp only [Option.bind_some, i10]
      show (if ¬ mN M j = mN M i then g252_17 r f fu o (i : Int) ((j + 1 : Nat) : Int) G else if 0 ≤ (j : Int) ∧ (j : Int) < 420 then (if 0 ≤ (i : Int) ∧ (i : Int) < 420 then (if ¬ twc (mW M j) (mW M i) then g252_17 r f fu o (i : Int) ((j + 1 : Nat) : Int) G else if 0 ≤ (i : Int) ∧ (i : Int) < 420 then (g251 f 1 (G (o + 10) i) G).bind (fun R129 => g252_17 r f fu o (i : Int) ((j + 1 : Nat) : Int) R129) else none) else none) else none) = _
      by_cases c1 : mN M j = mN M i
      · rw [if_neg (fun h => h c1), if_pos (by omega), if_pos (by omega)]
        by_cases c2 : twc (mW M j) (mW M i)
        · rw [if_neg (fun h => h c2), if_pos (by omega), if_pos ⟨c1, c2⟩, m2]
          rfl
        · rw [if_pos c2, if_neg (fun h => c2 h.2)]
      · rw [if_pos c1, if_neg (fun h => c1 h.1)]
    rw [es]
    by_cases c : mN M j = mN M i ∧ twc (mW M j) (mW M i)
    · rw [if_pos c]
      obtain ⟨G1, a1, a2, a3⟩ := l_faulty (f := f) (k := 1) (a := (q : Int) + mP M i) (by decide) hS
      rw [a1]
      simp only [Option.bind_some]
      obtain ⟨G', b1, b2, b3⟩ := ih (j + 1) fu G1 _ (by omega) (by omega) (hM.fr ho a3) (fun p hp => by rw [a3 _ _ (by omega), a3 _ _ (by omega)]; exact hg p hp) a2
      refine ⟨G', b1, b2.iff (fun k a => ?_), a3.tr b3⟩
      have hF : isF1 M i j := ⟨j, Nat.le_refl _, by omega, c.1, c.2⟩
      constructor
      · rintro ((h | h) | h | h)
        · exact .inl h
        · exact .inr (.inl ⟨h.1, h.2, hF⟩)
        · exact .inr (.inl ⟨h.1, h.2.1, hF⟩)
        · exact .inr (.inr h)
      · rintro (h | h | h)
        · exact .inl (.inl h)
        · exact .inl (.inr ⟨h.1, h.2.1⟩)
        · exact .inr (.inr h)
    · rw [if_neg c]
      obtain ⟨G', b1, b2, b3⟩ := ih (j + 1) fu G S (by omega) (by omega) hM hg hS
      refine ⟨G', b1, b2.iff (fun k a => ?_), b3⟩
      have hF : isF1 M i (j + 1) ↔ isF1 M i j := by
        constructor
        · rintro ⟨k, h1, h2, h3⟩; exact ⟨k, by omega, h2, h3⟩
        · rintro ⟨k, h1, h2, h3⟩
          refine ⟨k, ?_, h2, h3⟩
          by_cases e : k = j
          · exact absurd (e ▸ h3) c
          · omega
      rw [hF]
end
