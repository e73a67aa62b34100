/-! FAULTS of the reference: numbers of parts -/
/-- the first mention of a predicate that has parts, from i on (n: how many mentions) -/
def pFst (M : List pMn) (x : Int) : Nat → Nat → Option Nat
  | 0, _ => none
  | k + 1, i => if mN M i = x ∧ mK M i ≠ -1 then some i else pFst M x k (i + 1)
def pNn (M : List pMn) (x : Int) : Int := match pFst M x M.length 0 with
  | some i => mK M i
  | none => 0
def xfn (o : Nat) (G G' : xG_) : Prop := ∀ x j, ¬ (x = 0 ∧ (j = 26 ∨ j = 27)) → x ≠ o + 2 → G' x j = G x j
theorem xfn.rf (o : Nat) (G : xG_) : xfn o G G := fun _ _ _ _ => rfl
theorem xfn.tr {o : Nat} {G G1 G2 : xG_} (h : xfn o G G1) (h1 : xfn o G1 G2) : xfn o G G2 := fun x j hj hx => by rw [h1 x j hj hx, h x j hj hx]
theorem xf26.fn {o : Nat} {G G1 : xG_} (h : xf26 G G1) : xfn o G G1 := fun x j hj _ => h x j hj
theorem rMM.fn {G G' : xG_} {o q : Nat} {M : List pMn} (h : rMM G o q M) (ho : 0 < o) (hf : xfn o G G') : rMM G' o q M := ⟨h.1, by rw [hf _ _ (by omega) (by omega)]; exact h.2.1, fun k hk => by rw [hf _ _ (by omega) (by omega), hf _ _ (by omega) (by omega), hf _ _ (by omega) (by omega), hf _ _ (by omega) (by omega)]; exact h.2.2 k hk⟩
theorem rF.up {G : xG_} {S : Int → Int → Prop} {a j : Nat} {v : Int} (h : rF G S) (ha : a ≠ 0) : rF (xup2 G a j v) S := by
  unfold rF at *
  rw [xup2_n (show ¬ (0 = a ∧ 26 = j) by omega), xup2_n (show ¬ (0 = a ∧ 27 = j) by omega)]
  exact h
def oI : Option Nat → Int
  | some j => (j : Int)
  | none => -1
def rPo (G G' : xG_) (o x q : Nat) (M : List pMn) (S : Int → Int → Prop) : Option Nat → Prop
  | none => G' (o + 2) x = G (o + 2) x ∧ rF G' S
  | some j => G' (o + 2) x = mK M j ∧ rF G' (fun k' a => S k' a ∨ k' = 3 ∧ ∃ y, y < M.length ∧ a = (q : Int) + mP M y ∧ mN M y = (x : Int) ∧ mK M y ≠ -1 ∧ mK M y ≠ mK M j)
section
variable {f o q : Nat} {M : List pMn}
theorem l_p99 {r : Nat → Int → xG_ → Option xG_} {x : Nat} {nx : Int} (ho : 0 < o) (hx : x < 16) : ∀ (k i fu : Nat) (G : xG_) (S : Int → Int → Prop), i + k = M.length → k < fu → rMM G o q M → G (o + 2) x = nx → rF G S →
    ∃ G', g254_99 r f fu o (x : Int) (i : Int) G = r o ((x + 1 : Nat) : Int) G' ∧ rF G' (fun k' a => S k' a ∨ k' = 3 ∧ ∃ j, i ≤ j ∧ j < M.length ∧ a = (q : Int) + mP M j ∧ mN M j = (x : Int) ∧ mK M j ≠ -1 ∧ mK M j ≠ nx) ∧ xf26 G G' := by
  intro k
  induction k with
  | zero =>
    intro i fu G S hk hfu hM hn hS
    have hM1 := hM.1
    obtain ⟨fu, rfl⟩ : ∃ t, fu = t + 1 := ⟨fu - 1, by omega⟩
    refine ⟨G, ?_, hS.iff (fun k a => ⟨.inl, ?_⟩), .rf _⟩
    · show g254_99b r (g254_99 r f fu) f _ _ _ _ = _
      unfold g254_99b g254_164
      rw [hM.2.1, if_pos (by omega), xwr_g _ (by omega) (by omega)]
      rfl
    · rintro (h | ⟨_, j, h1, h2, _⟩)
      · exact h
      · omega
  | succ k ih =>
    intro i fu G S hk hfu hM hn hS
    have hM1 := hM.1
    obtain ⟨fu, rfl⟩ : ∃ t, fu = t + 1 := ⟨fu - 1, by omega⟩
    obtain ⟨m1, m2, m3, m4⟩ := hM.2.2 i (by omega)
    have es : g254_99 r f (fu + 1) o (x : Int) (i : Int) G = if mN M i = (x : Int) ∧ mK M i ≠ -1 ∧ mK M i ≠ nx then (g251 f 3 ((q : Int) + mP M i) G).bind (fun R => g254_99 r f fu o (x : Int) ((i + 1 : Nat) : Int) R) else g254_99 r f fu o (x : Int) ((i + 1 : Nat) : Int) G := by
      show g254_99b r (g254_99 r f fu) f _ _ _ _ = _
      unfold g254_99b g254_158
      rw [hM.2.1, if_neg (by omega), if_pos (by omega), Int.toNat_natCast, Int.toNat_natCast, m1, m3, m2, hn, xwr_g _ (by omega) (by omega)]
      show (if ¬ mN M i = (x : Int) then g254_99 r f fu o (x : Int) ((i + 1 : Nat) : Int) G else if 0 ≤ (i : Int) ∧ (i : Int) < 420 then (if mK M i = -1 then g254_99 r f fu o (x : Int) ((i + 1 : Nat) : Int) G else if 0 ≤ (i : Int) ∧ (i : Int) < 420 then (if 0 ≤ (x : Int) ∧ (x : Int) < 16 then (if mK M i = nx then g254_99 r f fu o (x : Int) ((i + 1 : Nat) : Int) G else if 0 ≤ (i : Int) ∧ (i : Int) < 420 then (g251 f 3 ((q : Int) + mP M i) G).bind (fun R => g254_99 r f fu o (x : Int) ((i + 1 : Nat) : Int) R) else none) else none) else none) else none) = _
      by_cases c1 : mN M i = (x : Int)
      · rw [if_neg (fun h => h c1), if_pos (by omega)]
        by_cases c2 : mK M i = -1
        · rw [if_pos c2, if_neg (fun h => h.2.1 c2)]
        · rw [if_neg c2, if_pos (by omega), if_pos (by omega)]
          by_cases c3 : mK M i = nx
          · rw [if_pos c3, if_neg (fun h => h.2.2 c3)]
          · rw [if_neg c3, if_pos (by omega), if_pos ⟨c1, c2, c3⟩]
      · rw [if_pos c1, if_neg (fun h => c1 h.1)]
    rw [es]
    by_cases c : mN M i = (x : Int) ∧ mK M i ≠ -1 ∧ mK M i ≠ nx
    · rw [if_pos c]
      obtain ⟨G1, a1, a2, a3⟩ := l_faulty (f := f) (k := 3) (a := (q : Int) + mP M i) (by decide) hS
      rw [a1]
      simp only [Option.bind_some]
      obtain ⟨G', b1, b2, b3⟩ := ih (i + 1) fu G1 _ (by omega) (by omega) (hM.fr ho a3) (by rw [a3 _ _ (by omega)]; exact hn) a2
      refine ⟨G', b1, b2.iff (fun k a => ?_), a3.tr b3⟩
      constructor
      · rintro ((h | h) | ⟨h, j, h1, h2, h3⟩)
        · exact .inl h
        · exact .inr ⟨h.1, i, Nat.le_refl _, by omega, h.2, c⟩
        · exact .inr ⟨h, j, by omega, h2, h3⟩
      · rintro (h | ⟨h, j, h1, h2, h3, h4⟩)
        · exact .inl (.inl h)
        · by_cases e : j = i
          · exact .inl (.inr ⟨h, by rw [h3, e]⟩)
          · exact .inr ⟨h, j, by omega, h2, h3, h4⟩
    · rw [if_neg c]
      obtain ⟨G', b1, b2, b3⟩ := ih (i + 1) fu G S (by omega) (by omega) hM hn hS
      refine ⟨G', b1, b2.iff (fun k a => ?_), b3⟩
      constructor
      · rintro (h | ⟨h, j, h1, h2, h3⟩)
        · exact .inl h
        · exact .inr ⟨h, j, by omega, h2, h3⟩
      · rintro (h | ⟨h, j, h1, h2, h3, h4⟩)
        · exact .inl h
        · by_cases e : j = i
          · exact absurd (e ▸ h4) c
          · exact .inr ⟨h, j, by omega, h2, h3, h4⟩
/-- the first mention is looked for; then the others are held against it -/
theorem l_p15 {r : Nat → Int → xG_ → Option xG_} {x : Nat} (hf : M.length + 2 < f) (ho : 0 < o) (hx : x < 16) (hso : ∀ i j, i < j → j < M.length → mP M i < mP M j) : ∀ (k i fu : Nat) (w : Option Nat) (G : xG_) (S : Int → Int → Prop), i + k = M.length → k < fu → (∀ j, w = some j → j < i) → rMM G o q M → rF G S →
    ∃ G', g254_15 r f fu o (x : Int) (oI w) (i : Int) G = r o ((x + 1 : Nat) : Int) G' ∧ xfn o G G' ∧ (∀ j, j ≠ x → G' (o + 2) j = G (o + 2) j) ∧
      rPo G G' o x q M S (w.or (pFst M x k i)) := by
  intro k
  induction k with
  | zero =>
    intro i fu w G S hk hfu hw hM hS
    have hM1 := hM.1
    obtain ⟨fu, rfl⟩ : ∃ t, fu = t + 1 := ⟨fu - 1, by omega⟩
    have e1 : ∀ v, g254_15 r f (fu + 1) o (x : Int) v (i : Int) G = if ¬ v = -1 then (if 0 ≤ v ∧ v < 420 then (if 0 ≤ (x : Int) ∧ (x : Int) < 16 then g254_99 r f f o (x : Int) (0 : Int) (xup2 G (o + 2) x (G (o + 11) v.toNat)) else none) else none) else r o ((x + 1 : Nat) : Int) G := by
      intro v
      show g254_15b r (g254_15 r f fu) f _ _ _ _ _ = _
      unfold g254_15b g254_164
      rw [hM.2.1, if_pos (by omega), Int.toNat_natCast, xwr_g _ (by omega) (by omega)]
      rfl
    cases w with
    | none =>
      rw [show oI none = -1 from rfl, e1, if_neg (fun h => h rfl)]
      exact ⟨G, rfl, .rf _ _, fun _ _ => rfl, rfl, hS⟩
    | some j =>
      have hj := hw j rfl
      obtain ⟨m1, m2, m3, m4⟩ := hM.2.2 j (by omega)
      rw [show oI (some j) = (j : Int) from rfl, e1, if_pos (by omega), if_pos (by omega), if_pos (by omega), Int.toNat_natCast, m3]
      have f1 : xfn o G (xup2 G (o + 2) x (mK M j)) := fun a b _ hb => xup2_n (by omega)
      obtain ⟨G', b1, b2, b3⟩ := l_p99 (r := r) (f := f) (x := x) (nx := mK M j) ho hx M.length 0 f (xup2 G (o + 2) x (mK M j)) S (by omega) (by omega) (hM.fn ho f1) (xup2_s _ _ _ _) (hS.up (by omega))
      refine ⟨G', b1, f1.tr b3.fn, fun y hy => by rw [b3 _ _ (by omega), xup2_n (by omega)], by rw [b3 _ _ (by omega), xup2_s], b2.iff (fun k a => ?_)⟩
      constructor
      · rintro (h | ⟨h, y, _, h2⟩)
        · exact .inl h
        · exact .inr ⟨h, y, h2⟩
      · rintro (h | ⟨h, y, h2⟩)
        · exact .inl h
        · exact .inr ⟨h, y, Nat.zero_le _, h2⟩
  | succ k ih =>
    intro i fu w G S hk hfu hw hM hS
    have hM1 := hM.1
    obtain ⟨fu, rfl⟩ : ∃ t, fu = t + 1 := ⟨fu - 1, by omega⟩
    obtain ⟨m1, m2, m3, m4⟩ := hM.2.2 i (by omega)
    have hx1 : xwr ((i : Int) + 1) = ((i + 1 : Nat) : Int) := by rw [xwr_g _ (by omega) (by omega)]; omega
    have ep : pFst M x (k + 1) i = if mN M i = (x : Int) ∧ mK M i ≠ -1 then some i else pFst M x k (i + 1) := rfl
    have es : g254_15 r f (fu + 1) o (x : Int) (oI w) (i : Int) G = g254_15 r f fu o (x : Int) (oI (if w = none ∧ mN M i = (x : Int) ∧ mK M i ≠ -1 then some i else w)) ((i + 1 : Nat) : Int) G := by
      show g254_15b r (g254_15 r f fu) f _ _ _ _ _ = _
      unfold g254_15b g254_70 g254_67
      unfold g254_70
      rw [hM.2.1, if_neg (by omega), if_pos (by omega), Int.toNat_natCast, m1, m3, hx1]
      show (if ¬ mN M i = (x : Int) then _ else if 0 ≤ (i : Int) ∧ (i : Int) < 420 then (if mK M i = -1 then _ else _) else none) = _
      by_cases c1 : mN M i = (x : Int)
      · rw [if_neg (fun h => h c1), if_pos (by omega)]
        by_cases c2 : mK M i = -1
        · rw [if_pos c2, if_neg (fun h => h.2.2 c2)]
        · rw [if_neg c2]
          cases w with
          | none =>
            rw [if_pos (show oI none = -1 from rfl), if_pos ⟨rfl, c1, c2⟩]
            rfl
          | some j =>
            have hj := hw j rfl
            obtain ⟨n1, n2, n3, n4⟩ := hM.2.2 j (by omega)
            have hlt := hso j i hj (by omega)
            show (if (j : Int) = -1 then _ else if 0 ≤ (i : Int) ∧ (i : Int) < 420 then (if 0 ≤ (j : Int) ∧ (j : Int) < 420 then (if G (o + 10) (j : Int).toNat ≤ G (o + 10) i then _ else _) else none) else none) = _
            rw [if_neg (by omega), if_pos (by omega), if_pos (by omega), Int.toNat_natCast, n2, m2, if_pos (by show (q : Int) + (mP M j : Int) ≤ (q : Int) + (mP M i : Int); omega), if_neg (fun h => absurd h.1 (by simp))]
      · rw [if_pos c1, if_neg (fun h => c1 h.2.1)]
    rw [es]
    obtain ⟨G', b1, b2, b3, b4⟩ := ih (i + 1) fu (if w = none ∧ mN M i = (x : Int) ∧ mK M i ≠ -1 then some i else w) G S (by omega) (by omega) (fun j hj => by
      split at hj
      · cases hj; omega
      · have := hw j hj; omega) hM hS
    refine ⟨G', b1, b2, b3, ?_⟩
    have eo : ((if w = none ∧ mN M i = (x : Int) ∧ mK M i ≠ -1 then some i else w).or (pFst M x k (i + 1))) = (w.or (pFst M x (k + 1) i)) := by
      rw [ep]
      cases w with
      | none =>
        by_cases c : mN M i = (x : Int) ∧ mK M i ≠ -1
        · rw [if_pos ⟨rfl, c⟩, if_pos c]
          rfl
        · rw [if_neg (fun h => c h.2), if_neg c]
      | some j =>
        rw [if_neg (fun h => absurd h.1 (by simp))]
        rfl
    rw [eo] at b4
    exact b4
end
