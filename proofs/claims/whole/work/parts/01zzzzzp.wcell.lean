/-! workCells: the SHEET of a round -/
/-- the log of CELLS told in a round -/
def cgN (rd : Int) (K : Nat → Nat) (W : Nat → Int) : Nat → List pCg
  | 0 => []
  | x + 1 => cgN rd K W x ++ (if W x = -1 then [] else [(rd, (x : Int), (K x : Int))])
theorem cgN_len (rd : Int) (K : Nat → Nat) (W : Nat → Int) : ∀ x, (cgN rd K W x).length ≤ x
  | 0 => Nat.le_refl _
  | x + 1 => by
    have := cgN_len rd K W x
    unfold cgN
    rw [List.length_append]
    split
    · simp only [List.length_nil]; omega
    · simp only [List.length_singleton]; omega
def kNx (K : Nat → Nat) (W : Nat → Int) (x c : Nat) : Nat := if c < x ∧ W c ≠ -1 then (W c).toNat else K c
/-- the texts that are told for CELLS: -1 none, 0 empty -/
def rNt (G : xG_) (o : Nat) (T : List (List Int)) (W : Nat → Int) : Prop := ∀ c, c < 72 → G (o + 26) c = W c ∧ (W c = -1 ∨ 0 ≤ W c ∧ (W c).toNat < T.length ∧ ((W c).toNat ≠ 0 → ∃ r, qCt (T.getD (W c).toNat []) = .inr r ∧ r.1 = (c : Int) ∧ r.2.2 ≠ -1))
theorem rKt.nx {G G' : xG_} {o x : Nat} {T : List (List Int)} {K : Nat → Nat} {W : Nat → Int} (h : rKt G o T K) (hW : rNt G o T W) (hk : ∀ c, c < 72 → G' (o + 15) c = (kNx K W x c : Int)) : rKt G' o T (kNx K W x) := by
  intro c hc
  refine ⟨hk c hc, ?_⟩
  unfold kNx
  by_cases d : c < x ∧ W c ≠ -1
  · rw [if_pos d]
    rcases (hW c hc).2 with q | q
    · exact absurd q d.2
    · exact q.2
  · rw [if_neg d]
    exact (h c hc).2
theorem xl268 : ((xl_t 268).2.2 : Int) = 72 := by decide +kernel
theorem len16 {o h : Nat} (hh : h < 4) (ho : o = 123 + 29 * h) : ((xl_t (o + 16)).2.2 : Int) = 72 := by
  obtain rfl | rfl | rfl | rfl : h = 0 ∨ h = 1 ∨ h = 2 ∨ h = 3 := by omega
  all_goals (subst ho; decide +kernel)
section
variable {f o h : Nat} {T : List (List Int)} {K : Nat → Nat} {W : Nat → Int} {C : fCs} {L : List pCg} {rd fr : Int}
def rWs (G : xG_) (C : fCs) (W : Nat → Int) (c : Nat) : Prop := G 251 c = (C c).1 ∧ G 252 c = (C c).2 ∧ G 268 c = (if W c = -1 then 0 else 1)
theorem l_354_2 (ho : 122 < o ∧ o < 211) (hL : L.length ≤ 100) (hW1 : ∀ c, c < 72 → W c = -1 ∨ 0 ≤ W c) : ∀ (k x fu : Nat) (G : xG_), x + k = 72 → k < fu → (∀ c, c < x → rWs G C W c) → rCs G o C → rCg G o (L ++ cgN rd K W x) → (∀ c, c < 72 → G (o + 15) c = (kNx K W x c : Int)) → (∀ c, c < 72 → G (o + 26) c = W c) → G o 2 = rd →
    ∃ G', g354_2 f fu o fr (x : Int) G = ((g346 f o G').bind fun R172 => g354_138 f f o fr 0 R172) ∧ (∀ c, c < 72 → rWs G' C W c) ∧ rCg G' o (L ++ cgN rd K W 72) ∧ (∀ c, c < 72 → G' (o + 15) c = (kNx K W 72 c : Int)) ∧ ∀ a j, a ≠ 251 → a ≠ 252 → a ≠ 268 → ¬ (a = o ∧ j = 16) → ¬ (o + 10 ≤ a ∧ a ≤ o + 12) → a ≠ o + 15 → G' a j = G a j := by
  intro k
  induction k with
  | zero =>
    intro x fu G h1 h2 h3 h4 h5 h6 h7 h8
    obtain ⟨fu, rfl⟩ : ∃ t, fu = t + 1 := ⟨fu - 1, by omega⟩
    have hx : x = 72 := by omega
    subst hx
    refine ⟨G, ?_, h3, h5, h6, fun _ _ _ _ _ _ _ _ => rfl⟩
    show g354_2b (g354_2 f fu) f _ _ _ _ = _
    unfold g354_2b
    rw [if_pos (by omega)]
  | succ k ih =>
    intro x fu G h1 h2 h3 h4 h5 h6 h7 h8
    obtain ⟨fu, rfl⟩ : ∃ t, fu = t + 1 := ⟨fu - 1, by omega⟩
    have hx : x < 72 := by omega
    have hx2 : 0 ≤ (x : Int) ∧ (x : Int) < 72 := by omega
    have e : xwr ((x : Int) + 1) = ((x + 1 : Nat) : Int) := by rw [xwr_g _ (by omega) (by omega)]; omega
    obtain ⟨c1, c2⟩ := h4 x hx
    have hcl := cgN_len rd K W x
    have hll : (L ++ cgN rd K W x).length ≤ 171 := by rw [List.length_append]; omega
    have kx : kNx K W x x = K x := by
      unfold kNx
      rw [if_neg (fun q => absurd q.1 (Nat.lt_irrefl x))]
    have kn : ∀ c, c ≠ x → kNx K W (x + 1) c = kNx K W x c := fun c hc => by
      unfold kNx
      by_cases d : c < x ∧ W c ≠ -1
      · rw [if_pos d, if_pos ⟨by omega, d.2⟩]
      · rw [if_neg d, if_neg (fun q => d ⟨by omega, q.2⟩)]
    let G2 := xup2 (xup2 G 251 x (C x).1) 252 x (C x).2
    have e0 : g354_2 f (fu + 1) o fr (x : Int) G = (if W x = -1 then g354_52 (g354_2 f fu) f o fr (x : Int) 0 (x : Int) 268 G2 else g354_52 (g354_2 f fu) f o fr (x : Int) 1 (x : Int) 268 G2) := by
      show g354_2b (g354_2 f fu) f o fr (x : Int) G = _
      unfold g354_2b
      rw [if_neg (by omega), if_pos hx2, if_pos hx2, Int.toNat_natCast, c1, Option.bind_some, if_pos hx2, if_pos hx2, xup2_n (by omega), c2, Option.bind_some, if_pos hx2, xup2_n (by omega), xup2_n (by omega), h7 x hx]
    have z2 : ∀ a j, ¬ (a = 251 ∧ j = x) → ¬ (a = 252 ∧ j = x) → G2 a j = G a j := fun a j q1 q2 => by
      show xup2 _ _ _ _ _ _ = _
      rw [xup2_n (by omega), xup2_n (by omega)]
    have y1 : G2 251 x = (C x).1 := by
      show xup2 _ _ _ _ _ _ = _
      rw [xup2_n (by omega), xup2_s]
    have y2 : G2 252 x = (C x).2 := xup2_s _ _ _ _
    by_cases c : W x = -1
    · let G3 := xup2 G2 268 x 0
      have z3 : ∀ a j, ¬ (a = 268 ∧ j = x) → G3 a j = G2 a j := fun a j q => xup2_n (by omega)
      have zz : ∀ a j, ¬ (a = 251 ∧ j = x) → ¬ (a = 252 ∧ j = x) → ¬ (a = 268 ∧ j = x) → G3 a j = G a j := fun a j q1 q2 q3 => by rw [z3 _ _ q3, z2 _ _ q1 q2]
      obtain ⟨G', k1, k2, k3, k4, k5⟩ := ih (x + 1) fu G3 (by omega) (by omega) (fun y hy => by
        by_cases d : y = x
        · rw [d]
          refine ⟨by rw [z3 _ _ (by omega)]; exact y1, by rw [z3 _ _ (by omega)]; exact y2, ?_⟩
          rw [if_pos c]
          exact xup2_s _ _ _ _
        · obtain ⟨q1, q2, q3⟩ := h3 y (by omega)
          exact ⟨by rw [zz _ _ (by omega) (by omega) (by omega)]; exact q1, by rw [zz _ _ (by omega) (by omega) (by omega)]; exact q2, by rw [zz _ _ (by omega) (by omega) (by omega)]; exact q3⟩) (fun y hy => by
        rw [zz _ _ (by omega) (by omega) (by omega), zz _ _ (by omega) (by omega) (by omega)]
        exact h4 y hy) (by
        unfold cgN
        rw [if_pos c, List.append_nil]
        exact h5.ge (zz _ _ (by omega) (by omega) (by omega)) (fun a j _ _ => zz _ _ (by omega) (by omega) (by omega))) (fun y hy => by
        rw [zz _ _ (by omega) (by omega) (by omega), h6 y hy]
        by_cases d : y = x
        · rw [d]
          unfold kNx
          rw [if_neg (fun q => q.2 c), if_neg (fun q => q.2 c)]
        · rw [kn y d]) (fun y hy => by
        rw [zz _ _ (by omega) (by omega) (by omega)]; exact h7 y hy) (by rw [zz _ _ (by omega) (by omega) (by omega)]; exact h8)
      refine ⟨G', ?_, k2, k3, k4, fun a j q1 q2 q3 q4 q5 q6 => by rw [k5 a j q1 q2 q3 q4 q5 q6]; exact zz _ _ (by omega) (by omega) (by omega)⟩
      rw [e0, if_pos c]
      unfold g354_52 g354_125
      rw [xl268, if_pos ⟨hx2.1, hx2.2, .inl rfl⟩, Option.bind_some, if_pos hx2, Int.toNat_natCast, xup2_s, if_neg (fun q => q rfl), e]
      exact k1
    · obtain ⟨r1, r2, r3⟩ := h5
      let G3 := xup2 G2 268 x 1
      have z3 : ∀ a j, ¬ (a = 268 ∧ j = x) → G3 a j = G2 a j := fun a j q => xup2_n (by omega)
      let n := (L ++ cgN rd K W x).length
      have hn : n = (L ++ cgN rd K W x).length := rfl
      have hn2 : 0 ≤ (n : Int) ∧ (n : Int) < 200 := by omega
      let G4 := xup2 (xup2 (xup2 (xup2 (xup2 G3 (o + 10) n rd) (o + 11) n (x : Int)) (o + 12) n (K x : Int)) o 16 ((n + 1 : Nat) : Int)) (o + 15) x (W x)
      have zz : ∀ a j, ¬ (a = 251 ∧ j = x) → ¬ (a = 252 ∧ j = x) → ¬ (a = 268 ∧ j = x) → ¬ (a = o ∧ j = 16) → ¬ (o + 10 ≤ a ∧ a ≤ o + 12 ∧ j = n) → ¬ (a = o + 15 ∧ j = x) → G4 a j = G a j := fun a j q1 q2 q3 q4 q5 q6 => by
        show xup2 _ _ _ _ _ _ = _
        rw [xup2_n (by omega), xup2_n (by omega), xup2_n (by omega), xup2_n (by omega), xup2_n (by omega), z3 _ _ q3, z2 _ _ q1 q2]
      have hwx : 0 ≤ W x := by
        rcases hW1 x hx with q | q
        · exact absurd q c
        · exact q
      have p10 : G4 (o + 10) n = rd := by
        show xup2 _ _ _ _ _ _ = _
        rw [xup2_n (by omega), xup2_n (by omega), xup2_n (by omega), xup2_n (by omega), xup2_s]
      have p11 : G4 (o + 11) n = (x : Int) := by
        show xup2 _ _ _ _ _ _ = _
        rw [xup2_n (by omega), xup2_n (by omega), xup2_n (by omega), xup2_s]
      have p12 : G4 (o + 12) n = (K x : Int) := by
        show xup2 _ _ _ _ _ _ = _
        rw [xup2_n (by omega), xup2_n (by omega), xup2_s]
      have p16 : G4 o 16 = ((n + 1 : Nat) : Int) := by
        show xup2 _ _ _ _ _ _ = _
        rw [xup2_n (by omega), xup2_s]
      have p15 : G4 (o + 15) x = W x := xup2_s _ _ _ _
      have n3 : ∀ a, a = 251 ∨ a = 252 ∨ a = 268 → ∀ j, G4 a j = G3 a j := fun a q j => by
        show xup2 _ _ _ _ _ _ = _
        rw [xup2_n (by omega), xup2_n (by omega), xup2_n (by omega), xup2_n (by omega), xup2_n (by omega)]
      obtain ⟨G', k1, k2, k3, k4, k5⟩ := ih (x + 1) fu G4 (by omega) (by omega) (fun y hy => by
        by_cases d : y = x
        · rw [d]
          refine ⟨by rw [n3 _ (by omega), z3 _ _ (by omega)]; exact y1, by rw [n3 _ (by omega), z3 _ _ (by omega)]; exact y2, ?_⟩
          rw [n3 _ (by omega), if_neg c]
          exact xup2_s _ _ _ _
        · obtain ⟨q1, q2, q3⟩ := h3 y (by omega)
          exact ⟨by rw [zz _ _ (by omega) (by omega) (by omega) (by omega) (by omega) (by omega)]; exact q1, by rw [zz _ _ (by omega) (by omega) (by omega) (by omega) (by omega) (by omega)]; exact q2, by rw [zz _ _ (by omega) (by omega) (by omega) (by omega) (by omega) (by omega)]; exact q3⟩) (fun y hy => by
        rw [zz _ _ (by omega) (by omega) (by omega) (by omega) (by omega) (by omega), zz _ _ (by omega) (by omega) (by omega) (by omega) (by omega) (by omega)]
        exact h4 y hy) (by
        unfold cgN
        rw [if_neg c, ← List.append_assoc]
        refine ⟨by rw [p16, List.length_append, List.length_singleton], by rw [List.length_append, List.length_singleton]; omega, fun i hi => ?_⟩
        rw [List.length_append, List.length_singleton] at hi
        rw [getD_1]
        by_cases d : i = n
        · rw [if_pos d, d, p10, p11, p12]
          exact ⟨rfl, rfl, rfl⟩
        · rw [if_neg d, zz _ _ (by omega) (by omega) (by omega) (by omega) (by omega) (by omega), zz _ _ (by omega) (by omega) (by omega) (by omega) (by omega) (by omega), zz _ _ (by omega) (by omega) (by omega) (by omega) (by omega) (by omega)]
          exact r3 i (by omega)) (fun y hy => by
        by_cases d : y = x
        · rw [d, p15]
          unfold kNx
          rw [if_pos ⟨Nat.lt_succ_self x, c⟩]
          omega
        · rw [zz _ _ (by omega) (by omega) (by omega) (by omega) (by omega) (by omega), kn y d]
          exact h6 y hy) (fun y hy => by
        rw [zz _ _ (by omega) (by omega) (by omega) (by omega) (by omega) (by omega)]; exact h7 y hy) (by rw [zz _ _ (by omega) (by omega) (by omega) (by omega) (by omega) (by omega)]; exact h8)
      refine ⟨G', ?_, k2, k3, k4, fun a j q1 q2 q3 q4 q5 q6 => by rw [k5 a j q1 q2 q3 q4 q5 q6]; exact zz _ _ (by omega) (by omega) (by omega) (by omega) (by omega) (by omega)⟩
      have s16 : ∀ a j, ¬ (a = 268 ∧ j = x) → ¬ (a = 251 ∧ j = x) → ¬ (a = 252 ∧ j = x) → G3 a j = G a j := fun a j q1 q2 q3 => by rw [z3 _ _ q1, z2 _ _ q2 q3]
      have s1 : G3 o 16 = (n : Int) := by rw [s16 _ _ (by omega) (by omega) (by omega)]; exact r1
      have s2 : G3 o 2 = rd := by rw [s16 _ _ (by omega) (by omega) (by omega)]; exact h8
      have s3 : G3 (o + 15) x = (K x : Int) := by rw [s16 _ _ (by omega) (by omega) (by omega), h6 x hx, kx]
      have s4 : G3 (o + 26) x = W x := by rw [s16 _ _ (by omega) (by omega) (by omega)]; exact h7 x hx
      have e16 : xwr ((n : Int) + 1) = ((n + 1 : Nat) : Int) := by rw [xwr_g _ (by omega) (by omega)]; omega
      rw [e0, if_neg c]
      unfold g354_52 g354_125
      rw [xl268, if_pos ⟨hx2.1, hx2.2, .inr rfl⟩, Option.bind_some, if_pos hx2, Int.toNat_natCast, xup2_s, if_pos (by decide)]
      show (if 0 ≤ G3 o 16 ∧ G3 o 16 < 200 then ((some (xup2 G3 (o + 10) (G3 o 16).toNat (G3 o 2))).bind _) else none) = _
      rw [s1, s2, if_pos hn2, Int.toNat_natCast, Option.bind_some]
      rw [xup2_n (by omega), s1, if_pos hn2, Int.toNat_natCast, Option.bind_some, if_pos hx2, xup2_n (by omega), xup2_n (by omega), s1, if_pos hn2, Int.toNat_natCast, xup2_n (by omega), xup2_n (by omega), s3, Option.bind_some, xup2_n (by omega), xup2_n (by omega), xup2_n (by omega), s1, e16, Option.bind_some, if_pos hx2, if_pos hx2, xup2_n (by omega), xup2_n (by omega), xup2_n (by omega), xup2_n (by omega), s4, Option.bind_some, e]
      exact k1
end
