/-! RINGS of the reference: who reads whom -/
def qRg (T : Nat → Nat) (x : Nat) : Nat → Nat → Nat
  | 0, c => c
  | k + 1, c => qRg T x k (if (T x).testBit k = true ∧ (T k).testBit x = true then k else c)
def qRing (T : Nat → Nat) (x : Nat) : Nat := qRg T x x x
def qW1 (T : Nat → Nat) (m i p : Nat) : Nat := if p < i ∧ (T p).testBit m = true then T p ||| T m else T p
def qWm (np : Nat) (T : Nat → Nat) : Nat → Nat → Nat
  | 0 => T
  | k + 1 => qW1 (qWm np T k) k np
def rMk (G : xG_) (x np : Nat) (T : Nat → Nat) : Prop := ∀ p, p < np → G x p = (T p : Int)
abbrev b16 (T : Nat → Nat) : Prop := ∀ p, T p < 2 ^ 16
theorem qW1_lt {T : Nat → Nat} {m i : Nat} (h : b16 T) : b16 (qW1 T m i) := by
  intro p
  unfold qW1
  split
  · exact Nat.or_lt_two_pow (h p) (h m)
  · exact h p
theorem qWm_lt {np : Nat} {T : Nat → Nat} (h : b16 T) : ∀ k, b16 (qWm np T k) := by
  intro k
  induction k with
  | zero => exact h
  | succ k ih => exact qW1_lt ih
theorem xl1 : ((xl_t 1).2.2 : Int) = 16 := by decide +kernel
section
variable {f o np : Nat} {T : Nat → Nat}
/-- the least of a RING -/
theorem l_207 {r187 : Nat → Nat → Int → xG_ → Option xG_} {x : Nat} (hT : b16 T) (hnp : np ≤ 16) (hx : x < np) (ho : 1 < o) : ∀ (k fu c : Nat) (G : xG_), k ≤ x → k < fu → rMk G 1 np T → G (o + 5) x = (c : Int) → ∃ G', g259_207 r187 f fu o 1 (x : Int) ((k : Int) - 1) G = r187 o 1 ((x + 1 : Nat) : Int) G' ∧ G' (o + 5) x = (qRg T x k c : Int) ∧ ∀ a j, ¬ (a = o + 5 ∧ j = x) → G' a j = G a j := by
  have hx1 : xwr ((x : Int) + 1) = ((x + 1 : Nat) : Int) := by rw [xwr_g _ (by omega) (by omega)]; omega
  intro k
  induction k with
  | zero =>
    intro fu c G h1 h2 hM hc
    obtain ⟨fu, rfl⟩ : ∃ t, fu = t + 1 := ⟨fu - 1, by omega⟩
    refine ⟨G, ?_, hc, fun _ _ _ => rfl⟩
    show g259_207b r187 (g259_207 r187 f fu) f _ _ _ _ _ = _
    unfold g259_207b
    rw [if_pos (by omega), hx1]
  | succ k ih =>
    intro fu c G h1 h2 hM hc
    obtain ⟨fu, rfl⟩ : ∃ t, fu = t + 1 := ⟨fu - 1, by omega⟩
    have e0 : (((k + 1 : Nat) : Int) - 1) = (k : Int) := by omega
    have ek : xwr ((k : Int) + -1) = (k : Int) - 1 := by rw [xwr_g _ (by omega) (by omega)]; omega
    have m1 := hM x hx
    have m2 := hM k (by omega)
    have t1 := hT x
    have t2 := hT k
    rw [e0]
    show ∃ G', g259_207b r187 (g259_207 r187 f fu) f o 1 (x : Int) (k : Int) G = _ ∧ _
    unfold g259_207b g259_244
    rw [if_neg (by omega), xl1, if_pos (by omega), Int.toNat_natCast, m1, Int.toNat_natCast, m2]
    by_cases c1 : (T x).testBit k = true
    · rw [if_neg (fun h => h ((xbit (by omega) (by omega)).mpr c1)), if_pos (by omega)]
      by_cases c2 : (T k).testBit x = true
      · have c3 : (T x).testBit k = true ∧ (T k).testBit x = true := And.intro c1 c2
        rw [if_neg (fun h => h ((xbit (by omega) (by omega)).mpr c2)), if_pos (by omega), Option.bind_some, ek]
        obtain ⟨G', e1, e2, e3⟩ := ih fu k (xup2 G (o + 5) x (k : Int)) (by omega) (by omega) (fun p hp => by rw [xup2_n (by omega)]; exact hM p hp) (xup2_s _ _ _ _)
        refine ⟨G', e1, ?_, fun a j hj => by rw [e3 a j hj, xup2_n (by omega)]⟩
        show _ = ((qRg T x k (if (T x).testBit k = true ∧ (T k).testBit x = true then k else c) : Nat) : Int)
        rw [if_pos c3]; exact e2
      · rw [if_pos (fun h => c2 ((xbit (by omega) (by omega)).mp h)), ek]
        obtain ⟨G', e1, e2, e3⟩ := ih fu c G (by omega) (by omega) hM hc
        refine ⟨G', e1, ?_, e3⟩
        show _ = ((qRg T x k (if (T x).testBit k = true ∧ (T k).testBit x = true then k else c) : Nat) : Int)
        rw [if_neg (fun h => c2 h.2)]; exact e2
    · rw [if_pos (fun h => c1 ((xbit (by omega) (by omega)).mp h)), ek]
      obtain ⟨G', e1, e2, e3⟩ := ih fu c G (by omega) (by omega) hM hc
      refine ⟨G', e1, ?_, e3⟩
      show _ = ((qRg T x k (if (T x).testBit k = true ∧ (T k).testBit x = true then k else c) : Nat) : Int)
      rw [if_neg (fun h => c1 h.1)]; exact e2
theorem l_187 (hf : 100 < f) (hT : b16 T) (hnp : np ≤ 16) (ho : 1 < o) : ∀ (k x fu : Nat) (G : xG_), x + k = np → k < fu → G o 8 = (np : Int) → rMk G 1 np T → ∃ G', g259_187 f fu o 1 (x : Int) G = some G' ∧ (∀ y, x ≤ y → y < np → G' (o + 5) y = (qRing T y : Int)) ∧ ∀ a j, ¬ (a = o + 5 ∧ x ≤ j) → G' a j = G a j := by
  intro k
  induction k with
  | zero =>
    intro x fu G h1 h2 h8 hM
    obtain ⟨fu, rfl⟩ : ∃ t, fu = t + 1 := ⟨fu - 1, by omega⟩
    refine ⟨G, ?_, fun y _ _ => by omega, fun _ _ _ => rfl⟩
    show g259_187b (g259_187 f fu) f _ _ _ _ = _
    unfold g259_187b
    rw [h8, if_pos (by omega)]
  | succ k ih =>
    intro x fu G h1 h2 h8 hM
    obtain ⟨fu, rfl⟩ : ∃ t, fu = t + 1 := ⟨fu - 1, by omega⟩
    have ek : xwr ((x : Int) - 1) = (x : Int) - 1 := by rw [xwr_g _ (by omega) (by omega)]
    obtain ⟨G1, e1, e2, e3⟩ := l_207 (f := f) (r187 := g259_187 f fu) (x := x) hT hnp (by omega) ho x f x (xup2 G (o + 5) x (x : Int)) (Nat.le_refl _) (by omega) (fun p hp => by rw [xup2_n (by omega)]; exact hM p hp) (xup2_s _ _ _ _)
    obtain ⟨G', d1, d2, d3⟩ := ih (x + 1) fu G1 (by omega) (by omega) (by rw [e3 _ _ (by omega), xup2_n (by omega)]; exact h8) (fun p hp => by rw [e3 _ _ (by omega), xup2_n (by omega)]; exact hM p hp)
    refine ⟨G', ?_, fun y a1 a2 => ?_, fun a j hj => by rw [d3 _ _ (by omega), e3 _ _ (by omega), xup2_n (by omega)]⟩
    · show g259_187b (g259_187 f fu) f _ _ _ _ = _
      unfold g259_187b
      rw [h8, if_neg (by omega), if_pos (by omega), Option.bind_some, Int.toNat_natCast, ek]
      exact Eq.trans e1 d1
    · by_cases cy : y = x
      · rw [cy, d3 _ _ (by omega)]; exact e2
      · exact d2 y (by omega) a2
/-- one step of the closure -/
theorem l_142 {r131 : Nat → Nat → Int → xG_ → Option xG_} {m : Nat} (hT : b16 T) (hnp : np ≤ 16) (hm : m < np) (ho : 1 < o) : ∀ (k i fu : Nat) (G : xG_), i + k = np → k < fu → G o 8 = (np : Int) → rMk G 1 np (qW1 T m i) → ∃ G', g259_142 r131 f fu o 1 (m : Int) (i : Int) G = r131 o 1 ((m + 1 : Nat) : Int) G' ∧ rMk G' 1 np (qW1 T m np) ∧ ∀ a j, a ≠ 1 → G' a j = G a j := by
  have hx1 : xwr ((m : Int) + 1) = ((m + 1 : Nat) : Int) := by rw [xwr_g _ (by omega) (by omega)]; omega
  intro k
  induction k with
  | zero =>
    intro i fu G h1 h2 h8 hM
    obtain ⟨fu, rfl⟩ : ∃ t, fu = t + 1 := ⟨fu - 1, by omega⟩
    have hi : i = np := by omega
    rw [hi] at hM
    refine ⟨G, ?_, hM, fun _ _ _ => rfl⟩
    show g259_142b r131 (g259_142 r131 f fu) f _ _ _ _ _ = _
    unfold g259_142b
    rw [h8, if_pos (by omega), hx1]
  | succ k ih =>
    intro i fu G h1 h2 h8 hM
    obtain ⟨fu, rfl⟩ : ∃ t, fu = t + 1 := ⟨fu - 1, by omega⟩
    have ek : xwr ((i : Int) + 1) = ((i + 1 : Nat) : Int) := by rw [xwr_g _ (by omega) (by omega)]; omega
    have t1 := hT i
    have t2 := hT m
    have m1 : G 1 i = (T i : Int) := by rw [hM i (by omega)]; unfold qW1; rw [if_neg (by omega)]
    have m2 : G 1 m = (T m : Int) := by rw [hM m hm]; unfold qW1; split
                                        · rw [Nat.or_self]
                                        · rfl
    have ne : ∀ p, p ≠ i → qW1 T m (i + 1) p = qW1 T m i p := by
      intro p hp
      unfold qW1
      by_cases cp : p < i
      · have : p < i + 1 := by omega
        simp only [cp, this]
      · have : ¬ p < i + 1 := by omega
        simp only [cp, this]
    show ∃ G', g259_142b r131 (g259_142 r131 f fu) f o 1 (m : Int) (i : Int) G = _ ∧ _
    unfold g259_142b g259_173
    rw [h8, if_neg (by omega), xl1, if_pos (by omega), Int.toNat_natCast, m1, Int.toNat_natCast, m2, ek]
    by_cases c1 : (T i).testBit m = true
    · rw [if_neg (fun h => h ((xbit (by omega) (by omega)).mpr c1)), if_pos (by omega), if_pos (by omega), if_pos (by omega), Option.bind_some, xor_nat (by omega) (by omega)]
      obtain ⟨G', e1, e2, e3⟩ := ih (i + 1) fu (xup2 G 1 i ((T i ||| T m : Nat) : Int)) (by omega) (by omega) (by rw [xup2_n (by omega)]; exact h8) (fun p hp => by
        by_cases cp : p = i
        · have hc : i < i + 1 ∧ (T i).testBit m = true := And.intro (by omega) c1
          rw [cp, xup2_s]; unfold qW1; rw [if_pos hc]
        · rw [xup2_n (by omega), ne p cp]; exact hM p hp)
      exact ⟨G', e1, e2, fun a j hj => by rw [e3 a j hj, xup2_n (by omega)]⟩
    · rw [if_pos (fun h => c1 ((xbit (by omega) (by omega)).mp h))]
      obtain ⟨G', e1, e2, e3⟩ := ih (i + 1) fu G (by omega) (by omega) h8 (fun p hp => by
        by_cases cp : p = i
        · rw [cp, m1]; unfold qW1; rw [if_neg (fun h => c1 h.2)]
        · rw [ne p cp]; exact hM p hp)
      exact ⟨G', e1, e2, e3⟩
theorem l_131 (hf : 100 < f) (hT : b16 T) (hnp : np ≤ 16) (ho : 1 < o) : ∀ (k m fu : Nat) (G : xG_), m + k = np → k < fu → G o 8 = (np : Int) → rMk G 1 np (qWm np T m) → ∃ G', g259_131 f fu o 1 (m : Int) G = some G' ∧ (∀ y, y < np → G' (o + 5) y = (qRing (qWm np T np) y : Int)) ∧ ∀ a j, a ≠ 1 → a ≠ o + 5 → G' a j = G a j := by
  intro k
  induction k with
  | zero =>
    intro m fu G h1 h2 h8 hM
    obtain ⟨fu, rfl⟩ : ∃ t, fu = t + 1 := ⟨fu - 1, by omega⟩
    have hi : m = np := by omega
    rw [hi] at hM
    obtain ⟨G', e1, e2, e3⟩ := l_187 hf (qWm_lt hT np) hnp ho np 0 f G (by omega) (by omega) h8 hM
    refine ⟨G', ?_, fun y hy => e2 y (Nat.zero_le _) hy, fun a j h _ => e3 a j (by omega)⟩
    show g259_131b (g259_131 f fu) f _ _ _ _ = _
    unfold g259_131b
    rw [h8, if_pos (by omega)]
    exact e1
  | succ k ih =>
    intro m fu G h1 h2 h8 hM
    obtain ⟨fu, rfl⟩ : ∃ t, fu = t + 1 := ⟨fu - 1, by omega⟩
    obtain ⟨G1, e1, e2, e3⟩ := l_142 (f := f) (r131 := g259_131 f fu) (m := m) (qWm_lt (np := np) hT m) hnp (by omega) ho np 0 f G (by omega) (by omega) h8 (fun p hp => by
      rw [hM p hp]; show _ = ((qW1 (qWm np T m) m 0 p : Nat) : Int); unfold qW1; rw [if_neg (by omega)])
    obtain ⟨G', d1, d2, d3⟩ := ih (m + 1) fu G1 (by omega) (by omega) (by rw [e3 _ _ (by omega)]; exact h8) e2
    refine ⟨G', ?_, d2, fun a j h h' => by rw [d3 a j h h', e3 a j h]⟩
    show g259_131b (g259_131 f fu) f _ _ _ _ = _
    unfold g259_131b
    rw [h8, if_neg (by omega)]
    exact Eq.trans e1 d1
theorem l_r106 (hf : 100 < f) (hT : b16 T) (hnp : np ≤ 16) (ho : 1 < o) : ∀ (k x fu : Nat) (G : xG_), x + k = np → k < fu → G o 8 = (np : Int) → rMk G (o + 4) np T → (∀ p, p < x → G 1 p = (T p : Int)) → ∃ G', g259_106 f fu o 1 (x : Int) G = some G' ∧ (∀ y, y < np → G' (o + 5) y = (qRing (qWm np T np) y : Int)) ∧ ∀ a j, a ≠ 1 → a ≠ o + 5 → G' a j = G a j := by
  intro k
  induction k with
  | zero =>
    intro x fu G h1 h2 h8 hM hp
    obtain ⟨fu, rfl⟩ : ∃ t, fu = t + 1 := ⟨fu - 1, by omega⟩
    obtain ⟨G', e1, e2, e3⟩ := l_131 hf hT hnp ho np 0 f G (by omega) (by omega) h8 (fun p q => hp p (by omega))
    refine ⟨G', ?_, e2, e3⟩
    show g259_106b (g259_106 f fu) f _ _ _ _ = _
    unfold g259_106b
    rw [h8, if_pos (by omega)]
    exact e1
  | succ k ih =>
    intro x fu G h1 h2 h8 hM hp
    obtain ⟨fu, rfl⟩ : ∃ t, fu = t + 1 := ⟨fu - 1, by omega⟩
    have ek : xwr ((x : Int) + 1) = ((x + 1 : Nat) : Int) := by rw [xwr_g _ (by omega) (by omega)]; omega
    obtain ⟨G', e1, e2, e3⟩ := ih (x + 1) fu (xup2 G 1 x (T x : Int)) (by omega) (by omega) (by rw [xup2_n (by omega)]; exact h8) (fun p q => by rw [xup2_n (by omega)]; exact hM p q) (fun p q => by
      by_cases cp : p = x
      · rw [cp, xup2_s]
      · rw [xup2_n (by omega)]; exact hp p (by omega))
    refine ⟨G', ?_, e2, fun a j h h' => by rw [e3 a j h h', xup2_n (by omega)]⟩
    show g259_106b (g259_106 f fu) f _ _ _ _ = _
    unfold g259_106b
    rw [h8, if_neg (by omega), if_pos (by omega), xl1, if_pos (by omega), Int.toNat_natCast, hM x (by omega), Option.bind_some, ek]
    exact e1
end
