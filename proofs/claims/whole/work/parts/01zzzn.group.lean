/-! GATHERING of the reference: groups -/
/-- groups: key, what is gathered -/
def rGr (G : xG_) (n : Nat) (S : List pRw) : Prop := G 0 58 = (S.length : Int) ∧ S.length ≤ 1024 ∧ ∀ i, i < S.length → (S.getD i dRw).1.length = n ∧ (∀ j, j < 4 → G 119 (4 * i + j) = (S.getD i dRw).1.getD j 0) ∧ G 120 i = (S.getD i dRw).2
/-- two values gathered: 1 count, 2 sum, 3 least, 4 most -/
def qCo (k a b : Int) : Int := if k = 1 ∨ k = 2 then a + b else if k = 3 then (if b < a then b else a) else (if a < b then b else a)
def gRw (G : xG_) (i : Nat) (G' : xG_) (i' : Nat) : Prop := (∀ j, j < 4 → G' 119 (4 * i' + j) = G 119 (4 * i + j)) ∧ G' 120 i' = G 120 i
theorem gRw.tr {i j k : Nat} {G G1 G2 : xG_} (h1 : gRw G i G1 j) (h2 : gRw G1 j G2 k) : gRw G i G2 k := ⟨fun m hm => (h2.1 m hm).trans (h1.1 m hm), h2.2.trans h1.2⟩
theorem gRw.rf (i : Nat) (G : xG_) : gRw G i G i := ⟨fun _ _ => rfl, rfl⟩
theorem xl119 : ((xl_t 119).2.2 : Int) = 4100 := by decide +kernel
theorem xl120 : ((xl_t 120).2.2 : Int) = 1025 := by decide +kernel
theorem xl121 : ((xl_t 121).2.2 : Int) = 4 := by decide +kernel
section
variable {f n : Nat} {x : Int} {S : List pRw} {xs : List Int}
theorem l_287_264 {r254 : Int → Int → Int → Int → xG_ → Option xG_} {a b : Int} {k : Nat} (hk : k < 1024) : ∀ (d j fu : Nat) (G : xG_), j + d = 4 → d < fu → ∃ G', g287_264 r254 f fu x a b ((k + 1 : Nat) : Int) (j : Int) G = r254 x a b (k : Int) G' ∧ (∀ z, j ≤ z → z < 4 → G' 119 (4 * (k + 1) + z) = G 119 (4 * k + z)) ∧ G' 120 (k + 1) = G 120 k ∧ ∀ o z, ¬ (o = 119 ∧ 4 * (k + 1) + j ≤ z ∧ z < 4 * (k + 1) + 4) → ¬ (o = 120 ∧ z = k + 1) → G' o z = G o z := by
  have e1 : xwr (((k + 1 : Nat) : Int) - 1) = (k : Int) := by rw [xwr_g _ (by omega) (by omega)]; omega
  have e2 : xwr (((k + 1 : Nat) : Int) + -1) = (k : Int) := by rw [xwr_g _ (by omega) (by omega)]; omega
  intro d
  induction d with
  | zero =>
    intro j fu G h1 h2
    obtain ⟨fu, rfl⟩ : ∃ t, fu = t + 1 := ⟨fu - 1, by omega⟩
    refine ⟨xup2 G 120 (k + 1) (G 120 k), ?_, fun z _ _ => by omega, xup2_s _ _ _ _, fun o z _ h => xup2_n h⟩
    show g287_264b r254 (g287_264 r254 f fu) f _ _ _ _ _ _ = _
    unfold g287_264b
    rw [if_pos (by omega), e1, e2, if_pos (by omega), if_pos (by omega), Int.toNat_natCast, Int.toNat_natCast, Option.bind_some]
  | succ d ih =>
    intro j fu G h1 h2
    obtain ⟨fu, rfl⟩ : ∃ t, fu = t + 1 := ⟨fu - 1, by omega⟩
    obtain ⟨G', k1, k2, k3, k4⟩ := ih (j + 1) fu (xup2 G 119 (4 * (k + 1) + j) (G 119 (4 * k + j))) (by omega) (by omega)
    have e3 : xwr (xwr (4 * (k : Int)) + (j : Int)) = ((4 * k + j : Nat) : Int) := by
      rw [xwr_g (4 * (k : Int)) (by omega) (by omega), xwr_g _ (by omega) (by omega)]; omega
    have e4 : xwr (xwr (4 * ((k + 1 : Nat) : Int)) + (j : Int)) = ((4 * (k + 1) + j : Nat) : Int) := by
      rw [xwr_g (4 * ((k + 1 : Nat) : Int)) (by omega) (by omega), xwr_g _ (by omega) (by omega)]; omega
    have e5 : xwr ((j : Int) + 1) = ((j + 1 : Nat) : Int) := by rw [xwr_g _ (by omega) (by omega)]; omega
    refine ⟨G', ?_, fun z y1 y2 => ?_, by rw [k3, xup2_n (by omega)], fun o z y1 y2 => by rw [k4 o z (by omega) y2, xup2_n (by omega)]⟩
    · rw [← k1]
      show g287_264b r254 (g287_264 r254 f fu) f _ _ _ _ _ _ = _
      unfold g287_264b
      rw [if_neg (by omega), e1, e3, e4, if_pos (by omega), if_pos (by omega), Int.toNat_natCast, Int.toNat_natCast, Option.bind_some, e5]
    · by_cases cz : z = j
      · rw [cz, k4 _ _ (by omega) (by omega), xup2_s]
      · rw [k2 z (by omega) y2, xup2_n (by omega)]
theorem l_287_254 {a : Int} {i : Nat} (hf : 10 < f) : ∀ (d fu : Nat) (G : xG_), i + d ≤ 1024 → d < fu → ∃ G', g287_254 f fu x a (i : Int) ((i + d : Nat) : Int) G = g287_327 f f x a (i : Int) 0 G' ∧ (∀ j, i ≤ j → j < i + d → gRw G j G' (j + 1)) ∧ (∀ j, j < i ∨ i + d < j → gRw G j G' j) ∧ ∀ o z, o ≠ 119 → o ≠ 120 → G' o z = G o z := by
  intro d
  induction d with
  | zero =>
    intro fu G h1 h2
    obtain ⟨fu, rfl⟩ : ∃ t, fu = t + 1 := ⟨fu - 1, by omega⟩
    refine ⟨G, ?_, fun j _ _ => by omega, fun j _ => .rf _ _, fun _ _ _ _ => rfl⟩
    show g287_254b (g287_254 f fu) f _ _ _ _ _ = _
    unfold g287_254b
    rw [if_pos (by omega)]
  | succ d ih =>
    intro fu G h1 h2
    obtain ⟨fu, rfl⟩ : ∃ t, fu = t + 1 := ⟨fu - 1, by omega⟩
    obtain ⟨G1, q1, q2, q3, q4⟩ := l_287_264 (f := f) (x := x) (r254 := g287_254 f fu) (a := a) (b := (i : Int)) (k := i + d) (by omega) 4 0 f G (by omega) (by omega)
    have r2 : gRw G (i + d) G1 (i + d + 1) := ⟨fun j hj => q2 j (by omega) hj, q3⟩
    have r3 : ∀ j, j ≠ i + d + 1 → gRw G j G1 j := fun j hj => ⟨fun z hz => q4 _ _ (by omega) (by omega), q4 _ _ (by omega) (by omega)⟩
    obtain ⟨G', k1, k2, k3, k4⟩ := ih fu G1 (by omega) (by omega)
    refine ⟨G', ?_, fun j y1 y2 => ?_, fun j hj => (r3 j (by omega)).tr (k3 j (by omega)), fun o z y1 y2 => by rw [k4 o z y1 y2, q4 o z (by omega) (by omega)]⟩
    · rw [← k1]
      show g287_254b (g287_254 f fu) f _ _ _ _ _ = _
      unfold g287_254b
      rw [if_neg (by omega)]
      exact q1
    · by_cases cj : j = i + d
      · rw [cj]
        exact r2.tr (k3 _ (by omega))
      · exact (r3 j (by omega)).tr (k2 j y1 (by omega))
theorem l_287_327 {i L : Nat} (hi : i ≤ 1023) (hL : L ≤ 1024) (hn4 : n ≤ 4) : ∀ (d j fu : Nat) (G : xG_), j + d = 4 → d < fu → G 0 58 = (L : Int) → (∀ k, k < n → G 112 k = xs.getD k 0) → xs.length = n →
    ∃ G', g287_327 f fu x (n : Int) (i : Int) (j : Int) G = some G' ∧ (∀ z, j ≤ z → z < 4 → G' 119 (4 * i + z) = xs.getD z 0) ∧ G' 120 i = x ∧ G' 0 58 = (min (L + 1) 1024 : Nat) ∧ G' 0 60 = (if L = 1024 then 1 else G 0 60) ∧ ∀ o z, ¬ (o = 119 ∧ 4 * i + j ≤ z ∧ z < 4 * i + 4) → ¬ (o = 120 ∧ z = i) → ¬ (o = 0 ∧ (z = 58 ∨ z = 60)) → G' o z = G o z := by
  intro d
  induction d with
  | zero =>
    intro j fu G h1 h2 h58 hx hxl
    obtain ⟨fu, rfl⟩ : ∃ t, fu = t + 1 := ⟨fu - 1, by omega⟩
    have e1 : xwr ((L : Int) + 1) = ((L + 1 : Nat) : Int) := by rw [xwr_g _ (by omega) (by omega)]; omega
    have t1 : xup2 G 120 i x 0 58 = (L : Int) := by rw [xup2_n (by omega)]; exact h58
    have step : g287_327 f (fu + 1) x (n : Int) (i : Int) (j : Int) G = if ((L + 1 : Nat) : Int) ≤ 1024 then some (xup2 (xup2 G 120 i x) 0 58 ((L + 1 : Nat) : Int)) else some (xup2 (xup2 (xup2 (xup2 G 120 i x) 0 58 ((L + 1 : Nat) : Int)) 0 58 1024) 0 60 1) := by
      show g287_327b (g287_327 f fu) f _ _ _ _ _ = _
      unfold g287_327b g287_409
      rw [if_pos (by omega), if_pos (by omega), Int.toNat_natCast, Option.bind_some, t1, e1, Option.bind_some, xup2_s, Option.bind_some, Option.bind_some]
    by_cases c : L = 1024
    · rw [if_neg (by omega)] at step
      refine ⟨_, step, fun z _ _ => by omega, ?_, ?_, ?_, fun o z y1 y2 y3 => by rw [xup2_n (by omega), xup2_n (by omega), xup2_n (by omega), xup2_n y2]⟩
      · rw [xup2_n (by omega), xup2_n (by omega), xup2_n (by omega), xup2_s]
      · rw [xup2_n (by omega), xup2_s]
        omega
      · rw [xup2_s, if_pos c]
    · rw [if_pos (by omega)] at step
      refine ⟨_, step, fun z _ _ => by omega, ?_, ?_, ?_, fun o z y1 y2 y3 => by rw [xup2_n (by omega), xup2_n y2]⟩
      · rw [xup2_n (by omega), xup2_s]
      · rw [xup2_s]
        omega
      · rw [xup2_n (by omega), xup2_n (by omega), if_neg c]
  | succ d ih =>
    intro j fu G h1 h2 h58 hx hxl
    obtain ⟨fu, rfl⟩ : ∃ t, fu = t + 1 := ⟨fu - 1, by omega⟩
    have e4 : xwr (xwr (4 * (i : Int)) + (j : Int)) = ((4 * i + j : Nat) : Int) := by
      rw [xwr_g (4 * (i : Int)) (by omega) (by omega), xwr_g _ (by omega) (by omega)]; omega
    have e5 : xwr ((j : Int) + 1) = ((j + 1 : Nat) : Int) := by rw [xwr_g _ (by omega) (by omega)]; omega
    have step : g287_327 f (fu + 1) x (n : Int) (i : Int) (j : Int) G = g287_327 f fu x (n : Int) (i : Int) ((j + 1 : Nat) : Int) (xup2 G 119 (4 * i + j) (xs.getD j 0)) := by
      show g287_327b (g287_327 f fu) f _ _ _ _ _ = _
      unfold g287_327b g287_362
      rw [if_neg (by omega), e4, e5, xl119, Int.toNat_natCast]
      by_cases cj : n ≤ j
      · have ev : xs.getD j 0 = 0 := by rw [List.getD_eq_getElem?_getD, List.getElem?_eq_none (by omega)]; rfl
        rw [if_pos (by omega), if_pos (by omega), ev]
        rfl
      · rw [if_neg (by omega), if_pos (by omega), if_pos (by omega), Int.toNat_natCast, hx j (by omega)]
        rfl
    obtain ⟨G', k1, k2, k3, k4, k5, k6⟩ := ih (j + 1) fu (xup2 G 119 (4 * i + j) (xs.getD j 0)) (by omega) (by omega) (by rw [xup2_n (by omega)]; exact h58) (fun k hk => by rw [xup2_n (by omega)]; exact hx k hk) hxl
    refine ⟨G', by rw [step]; exact k1, fun z y1 y2 => ?_, k3, k4, by rw [k5, xup2_n (by omega)], fun o z y1 y2 y3 => by rw [k6 o z (by omega) y2 y3, xup2_n (by omega)]⟩
    by_cases cz : z = j
    · rw [cz, k6 _ _ (by omega) (by omega) (by omega), xup2_s]
    · exact k2 z (by omega) y2
end
