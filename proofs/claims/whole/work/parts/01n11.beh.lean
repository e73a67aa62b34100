section
/-! How much of a log is kept -/
/-- what lies behind the round x -/
def lgK {α : Type} (x : Int) (l : List (Int × α)) : List (Int × α) := l.filter (fun a => decide (x < a.1))
def lgS {α : Type} (l : List (Int × α)) : Prop := l.Pairwise (fun a b => a.1 ≤ b.1)
theorem lg_cut {α : Type} {d : Int × α} {x : Int} : ∀ (l : List (Int × α)), lgS l → ∃ k, k ≤ l.length ∧ lgK x l = l.drop k ∧ (∀ i, i < k → (l.getD i d).1 ≤ x) ∧ ∀ i, k ≤ i → i < l.length → x < (l.getD i d).1
  | [], _ => ⟨0, Nat.le_refl _, rfl, fun i hi => absurd hi (Nat.not_lt_zero i), fun i _ hi => absurd hi (Nat.not_lt_zero i)⟩
  | a :: l, h => by
    obtain ⟨h1, h2⟩ := List.pairwise_cons.mp h
    by_cases c : x < a.1
    · have all : ∀ y ∈ a :: l, x < y.1 := fun y hy => by
        rcases List.mem_cons.mp hy with rfl | hy
        · exact c
        · have := h1 y hy; omega
      refine ⟨0, Nat.zero_le _, ?_, fun i hi => absurd hi (Nat.not_lt_zero i), fun i _ hi => ?_⟩
      · rw [List.drop_zero]
        unfold lgK
        exact List.filter_eq_self.mpr (fun y hy => decide_eq_true (all y hy))
      · rw [getD_e hi]
        exact all _ (List.getElem_mem hi)
    · obtain ⟨k, k1, k2, k3, k4⟩ := lg_cut (d := d) (x := x) l h2
      refine ⟨k + 1, by rw [List.length_cons]; omega, ?_, fun i hi => ?_, fun i i1 i2 => ?_⟩
      · rw [List.drop_succ_cons, ← k2]
        unfold lgK
        exact List.filter_cons_of_neg (by rw [decide_eq_false c]; decide)
      · cases i with
        | zero => show a.1 ≤ x; omega
        | succ i => exact k3 i (by omega)
      · cases i with
        | zero => omega
        | succ i =>
          rw [List.length_cons] at i2
          exact k4 i (by omega) (by omega)
theorem lgK_mem {α : Type} {x : Int} {l : List (Int × α)} {a : Int × α} : a ∈ lgK x l ↔ a ∈ l ∧ x < a.1 := by
  unfold lgK
  rw [List.mem_filter]
  exact ⟨fun q => ⟨q.1, of_decide_eq_true q.2⟩, fun q => ⟨q.1, decide_eq_true q.2⟩⟩
theorem lgK_s {α : Type} {x : Int} {l : List (Int × α)} (h : lgS l) : lgS (lgK x l) := List.Pairwise.sublist (List.filter_sublist) h
section
variable {f a n : Nat}
theorem l_309 {α : Type} {d : Int × α} {x : Int} {l : List (Int × α)} {G : xG_} (hf : l.length + 2 < f) (hs : lgS l) (hl : (l.length : Int) ≤ ((xl_t a).2.2 : Int)) (hl2 : l.length ≤ 12000) (hG : ∀ i, i < l.length → G a i = (l.getD i d).1) : g309 f a (l.length : Int) x G = some (((lgK x l).length : Int), G) := by
  obtain ⟨k, k1, k2, k3, k4⟩ := lg_cut (d := d) (x := x) l hs
  have loop : ∀ (d0 i fu : Nat), i = k + d0 → i ≤ l.length → d0 < fu → g309_2 f fu a (l.length : Int) x (i : Int) G = some (((l.length - k : Nat) : Int), G) := by
    intro d0
    induction d0 with
    | zero =>
      intro i fu h1 h2 h3
      obtain ⟨fu, rfl⟩ : ∃ t, fu = t + 1 := ⟨fu - 1, by omega⟩
      have : i = k := by omega
      subst this
      have e : xwr ((l.length : Int) - (i : Int)) = ((l.length - i : Nat) : Int) := by rw [xwr_g _ (by omega) (by omega)]; omega
      show g309_2b (g309_2 f fu) f _ _ _ _ _ = _
      unfold g309_2b g309_21
      by_cases c : i = 0
      · rw [if_pos (by omega), e]
      · have e2 : xwr ((i : Int) - 1) = ((i - 1 : Nat) : Int) := by rw [xwr_g _ (by omega) (by omega)]; omega
        rw [if_neg (by omega), e2, if_pos (by omega), Int.toNat_natCast, hG _ (by omega), if_pos (k3 _ (by omega)), e]
    | succ d0 ih =>
      intro i fu h1 h2 h3
      obtain ⟨fu, rfl⟩ : ∃ t, fu = t + 1 := ⟨fu - 1, by omega⟩
      have e2 : xwr ((i : Int) - 1) = ((i - 1 : Nat) : Int) := by rw [xwr_g _ (by omega) (by omega)]; omega
      have e3 : xwr ((i : Int) + -1) = ((i - 1 : Nat) : Int) := by rw [xwr_g _ (by omega) (by omega)]; omega
      have := k4 (i - 1) (by omega) (by omega)
      rw [← ih (i - 1) fu (by omega) (by omega) (by omega)]
      show g309_2b (g309_2 f fu) f _ _ _ _ _ = _
      unfold g309_2b
      rw [if_neg (by omega), e2, if_pos (by omega), Int.toNat_natCast, hG _ (by omega), if_neg (by omega), e3]
  unfold g309
  rw [loop (l.length - k) l.length f (by omega) (by omega) (by omega), k2, List.length_drop]
end
/-- an array whose cells below i were moved down by g -/
def shf (G0 Z : xG_) (a g i : Nat) : Prop := ∀ t, Z a t = if t < i then G0 a (t + g) else G0 a t
theorem shf.step {G0 Z : xG_} {a g i : Nat} (h : shf G0 Z a g i) : shf G0 (xup2 Z a i (Z a (i + g))) a g (i + 1) := fun t => by
  by_cases c : t = i
  · subst c
    have := h (t + g)
    rw [if_neg (by omega)] at this
    rw [xup2_s, if_pos (by omega), this]
  · rw [xup2_n (by omega), h t]
    by_cases c2 : t < i
    · rw [if_pos c2, if_pos (by omega)]
    · rw [if_neg c2, if_neg (by omega)]
theorem shf.ne {G0 Z : xG_} {a b g i j : Nat} {v : Int} (h : shf G0 Z a g i) (hb : a ≠ b) : shf G0 (xup2 Z b j v) a g i := fun t => by
  rw [xup2_n (by omega)]
  exact h t
theorem shf.z {G0 Z : xG_} {a g : Nat} (h : ∀ t, Z a t = G0 a t) : shf G0 Z a g 0 := fun t => by
  rw [if_neg (Nat.not_lt_zero t)]
  exact h t
/-- the log of cells: round, cell, its text before -/
abbrev pCg : Type := Int × Int × Int
def rCg (G : xG_) (o : Nat) (L : List pCg) : Prop := G o 16 = (L.length : Int) ∧ L.length ≤ 200 ∧ ∀ i, i < L.length → G (o + 10) i = (L.getD i (0, 0, 0)).1 ∧ G (o + 11) i = (L.getD i (0, 0, 0)).2.1 ∧ G (o + 12) i = (L.getD i (0, 0, 0)).2.2
/-- the log of editions: round, the edition before -/
abbrev pEg : Type := Int × Int
def rEg (G : xG_) (o : Nat) (L : List pEg) : Prop := G o 17 = (L.length : Int) ∧ L.length ≤ 20 ∧ ∀ i, i < L.length → G (o + 13) i = (L.getD i (0, 0)).1 ∧ G (o + 14) i = (L.getD i (0, 0)).2
theorem rCg.ge {G G' : xG_} {o : Nat} {L : List pCg} (h : rCg G o L) (h0 : G' o 16 = G o 16) (hf : ∀ a j, o + 10 ≤ a → a ≤ o + 12 → G' a j = G a j) : rCg G' o L := by
  obtain ⟨a1, a2, a3⟩ := h
  refine ⟨by rw [h0]; exact a1, a2, fun i hi => ?_⟩
  obtain ⟨b1, b2, b3⟩ := a3 i hi
  exact ⟨by rw [hf _ _ (by omega) (by omega)]; exact b1, by rw [hf _ _ (by omega) (by omega)]; exact b2, by rw [hf _ _ (by omega) (by omega)]; exact b3⟩
theorem rEg.ge {G G' : xG_} {o : Nat} {L : List pEg} (h : rEg G o L) (h0 : G' o 17 = G o 17) (hf : ∀ a j, o + 13 ≤ a → a ≤ o + 14 → G' a j = G a j) : rEg G' o L := by
  obtain ⟨a1, a2, a3⟩ := h
  refine ⟨by rw [h0]; exact a1, a2, fun i hi => ?_⟩
  obtain ⟨b1, b2⟩ := a3 i hi
  exact ⟨by rw [hf _ _ (by omega) (by omega)]; exact b1, by rw [hf _ _ (by omega) (by omega)]; exact b2⟩
theorem len5 {o h : Nat} (hh : h < 4) (ho : o = 123 + 29 * h) : ((xl_t (o + 5)).2.2 : Int) = 12000 ∧ ((xl_t (o + 10)).2.2 : Int) = 200 ∧ ((xl_t (o + 13)).2.2 : Int) = 20 := by
  obtain rfl | rfl | rfl | rfl : h = 0 ∨ h = 1 ∨ h = 2 ∨ h = 3 := by omega
  all_goals (subst ho; decide +kernel)
section
variable {f o h g : Nat}
theorem l_308_174 {r107 : Nat → Int → Int → xG_ → Option xG_} {i : Nat} (hg : i + g < 12000) {G0 : xG_} : ∀ (d k fu : Nat) (G : xG_), k + d = 4 → d < fu → shf G0 G (o + 9) (4 * g) (4 * i + k) →
    ∃ G', g308_174 r107 f fu o (g : Int) (i : Int) (k : Int) G = r107 o (g : Int) ((i + 1 : Nat) : Int) G' ∧ shf G0 G' (o + 9) (4 * g) (4 * (i + 1)) ∧ ∀ a j, a ≠ o + 9 → G' a j = G a j := by
  intro d
  induction d with
  | zero =>
    intro k fu G h1 h2 h3
    obtain ⟨fu, rfl⟩ : ∃ t, fu = t + 1 := ⟨fu - 1, by omega⟩
    have : k = 4 := by omega
    subst this
    refine ⟨G, ?_, h3, fun _ _ _ => rfl⟩
    have e : xwr ((i : Int) + 1) = ((i + 1 : Nat) : Int) := by rw [xwr_g _ (by omega) (by omega)]; omega
    show g308_174b r107 (g308_174 r107 f fu) f _ _ _ _ _ = _
    unfold g308_174b
    rw [if_pos (by decide), e]
  | succ d ih =>
    intro k fu G h1 h2 h3
    obtain ⟨fu, rfl⟩ : ∃ t, fu = t + 1 := ⟨fu - 1, by omega⟩
    have e1 : xwr (xwr (4 * xwr ((i : Int) + (g : Int))) + (k : Int)) = ((4 * i + k + 4 * g : Nat) : Int) := by
      rw [xwr_g ((i : Int) + (g : Int)) (by omega) (by omega), xwr_g (4 * ((i : Int) + (g : Int))) (by omega) (by omega), xwr_g _ (by omega) (by omega)]; omega
    have e2 : xwr (xwr (4 * (i : Int)) + (k : Int)) = ((4 * i + k : Nat) : Int) := by
      rw [xwr_g (4 * (i : Int)) (by omega) (by omega), xwr_g _ (by omega) (by omega)]; omega
    have e3 : xwr ((k : Int) + 1) = ((k + 1 : Nat) : Int) := by rw [xwr_g _ (by omega) (by omega)]; omega
    obtain ⟨G', k1, k2, k3⟩ := ih (k + 1) fu (xup2 G (o + 9) (4 * i + k) (G (o + 9) (4 * i + k + 4 * g))) (by omega) (by omega) h3.step
    refine ⟨G', ?_, k2, fun a j y => by rw [k3 a j y, xup2_n (by omega)]⟩
    rw [← k1]
    show g308_174b r107 (g308_174 r107 f fu) f _ _ _ _ _ = _
    unfold g308_174b
    rw [if_neg (by omega), e1, e2, if_pos (by omega), if_pos (by omega), Int.toNat_natCast, Int.toNat_natCast, Option.bind_some, e3]
/-- the log moves down -/
theorem l_308_107 {n : Nat} (hf : 10 < f) (hn : n + g ≤ 12000) {G0 : xG_} : ∀ (d i fu : Nat) (G : xG_), i + d = n → d < fu → G o 10 = (n : Int) → shf G0 G (o + 5) g i → shf G0 G (o + 6) g i → shf G0 G (o + 7) g i → shf G0 G (o + 8) g i → shf G0 G (o + 9) (4 * g) (4 * i) →
    ∃ G' fu', g308_107 f fu o (g : Int) (i : Int) G = g308_107 f (fu' + 1) o (g : Int) (n : Int) G' ∧ shf G0 G' (o + 5) g n ∧ shf G0 G' (o + 6) g n ∧ shf G0 G' (o + 7) g n ∧ shf G0 G' (o + 8) g n ∧ shf G0 G' (o + 9) (4 * g) (4 * n) ∧ ∀ a j, ¬ (o + 5 ≤ a ∧ a ≤ o + 9) → G' a j = G a j := by
  intro d
  induction d with
  | zero =>
    intro i fu G h1 h2 h10 s5 s6 s7 s8 s9
    obtain ⟨fu, rfl⟩ : ∃ t, fu = t + 1 := ⟨fu - 1, by omega⟩
    have : i = n := by omega
    subst this
    exact ⟨G, fu, rfl, s5, s6, s7, s8, s9, fun _ _ _ => rfl⟩
  | succ d ih =>
    intro i fu G h1 h2 h10 s5 s6 s7 s8 s9
    obtain ⟨fu, rfl⟩ : ∃ t, fu = t + 1 := ⟨fu - 1, by omega⟩
    have e1 : xwr ((i : Int) + (g : Int)) = ((i + g : Nat) : Int) := by rw [xwr_g _ (by omega) (by omega)]; omega
    have hig : 0 ≤ ((i + g : Nat) : Int) ∧ ((i + g : Nat) : Int) < 12000 := by omega
    have hii : 0 ≤ (i : Int) ∧ (i : Int) < 12000 := by omega
    let G1 := xup2 G (o + 5) i (G (o + 5) (i + g))
    let G2 := xup2 G1 (o + 6) i (G1 (o + 6) (i + g))
    let G3 := xup2 G2 (o + 8) i (G2 (o + 8) (i + g))
    let G4 := xup2 G3 (o + 7) i (G3 (o + 7) (i + g))
    obtain ⟨G5, k1, k2, k3⟩ := l_308_174 (f := f) (o := o) (r107 := g308_107 f fu) (i := i) (g := g) (by omega) (G0 := G0) 4 0 f G4 (by omega) (by omega) ((((s9.ne (by omega)).ne (by omega)).ne (by omega)).ne (by omega))
    have fr : ∀ a, a ≠ o + 9 → ∀ t, G5 a t = G4 a t := fun a ha t => k3 a t ha
    have t5 : shf G0 G5 (o + 5) g (i + 1) := fun t => by rw [fr _ (by omega)]; exact (((s5.step).ne (by omega)).ne (by omega)).ne (by omega) t
    have t6 : shf G0 G5 (o + 6) g (i + 1) := fun t => by rw [fr _ (by omega)]; exact (((s6.ne (by omega)).step).ne (by omega)).ne (by omega) t
    have t8 : shf G0 G5 (o + 8) g (i + 1) := fun t => by rw [fr _ (by omega)]; exact (((s8.ne (by omega)).ne (by omega)).step).ne (by omega) t
    have t7 : shf G0 G5 (o + 7) g (i + 1) := fun t => by rw [fr _ (by omega)]; exact (((s7.ne (by omega)).ne (by omega)).ne (by omega)).step t
    have fz : ∀ a j, ¬ (o + 5 ≤ a ∧ a ≤ o + 9) → G5 a j = G a j := fun a j y => by
      rw [k3 a j (by omega)]
      show xup2 _ _ _ _ _ _ = _
      rw [xup2_n (by omega)]
      show xup2 _ _ _ _ _ _ = _
      rw [xup2_n (by omega)]
      show xup2 _ _ _ _ _ _ = _
      rw [xup2_n (by omega)]
      show xup2 _ _ _ _ _ _ = _
      rw [xup2_n (by omega)]
    obtain ⟨G', fu', j1, j2, j3, j4, j5, j6, j7⟩ := ih (i + 1) fu G5 (by omega) (by omega) (by rw [fz _ _ (by omega)]; exact h10) t5 t6 t7 t8 k2
    refine ⟨G', fu', ?_, j2, j3, j4, j5, j6, fun a j y => by rw [j7 a j y, fz a j y]⟩
    rw [← j1, ← k1]
    show g308_107b (g308_107 f fu) f _ _ _ _ = _
    unfold g308_107b
    rw [h10, if_neg (by omega), e1, if_pos hig, if_pos hii, Option.bind_some, if_pos hig, if_pos hii, Option.bind_some, if_pos hig, if_pos hii, Option.bind_some, if_pos hig, if_pos hii, Option.bind_some, Int.toNat_natCast, Int.toNat_natCast]
    rfl
theorem l_308_249 {n : Nat} (hn : n + g ≤ 200) {G0 : xG_} : ∀ (d i fu : Nat) (G : xG_), i + d = n → d < fu → G o 16 = (n : Int) → shf G0 G (o + 10) g i → shf G0 G (o + 11) g i → shf G0 G (o + 12) g i →
    ∃ G' fu', g308_249 f fu o (g : Int) (i : Int) G = g308_249 f (fu' + 1) o (g : Int) (n : Int) G' ∧ shf G0 G' (o + 10) g n ∧ shf G0 G' (o + 11) g n ∧ shf G0 G' (o + 12) g n ∧ ∀ a j, ¬ (o + 10 ≤ a ∧ a ≤ o + 12) → G' a j = G a j := by
  intro d
  induction d with
  | zero =>
    intro i fu G h1 h2 h10 s5 s6 s7
    obtain ⟨fu, rfl⟩ : ∃ t, fu = t + 1 := ⟨fu - 1, by omega⟩
    have : i = n := by omega
    subst this
    exact ⟨G, fu, rfl, s5, s6, s7, fun _ _ _ => rfl⟩
  | succ d ih =>
    intro i fu G h1 h2 h10 s5 s6 s7
    obtain ⟨fu, rfl⟩ : ∃ t, fu = t + 1 := ⟨fu - 1, by omega⟩
    have e1 : xwr ((i : Int) + (g : Int)) = ((i + g : Nat) : Int) := by rw [xwr_g _ (by omega) (by omega)]; omega
    have e3 : xwr ((i : Int) + 1) = ((i + 1 : Nat) : Int) := by rw [xwr_g _ (by omega) (by omega)]; omega
    have hig : 0 ≤ ((i + g : Nat) : Int) ∧ ((i + g : Nat) : Int) < 200 := by omega
    have hii : 0 ≤ (i : Int) ∧ (i : Int) < 200 := by omega
    let G1 := xup2 G (o + 10) i (G (o + 10) (i + g))
    let G2 := xup2 G1 (o + 11) i (G1 (o + 11) (i + g))
    let G3 := xup2 G2 (o + 12) i (G2 (o + 12) (i + g))
    have t5 : shf G0 G3 (o + 10) g (i + 1) := ((s5.step).ne (by omega)).ne (by omega)
    have t6 : shf G0 G3 (o + 11) g (i + 1) := ((s6.ne (by omega)).step).ne (by omega)
    have t7 : shf G0 G3 (o + 12) g (i + 1) := ((s7.ne (by omega)).ne (by omega)).step
    have fz : ∀ a j, ¬ (o + 10 ≤ a ∧ a ≤ o + 12) → G3 a j = G a j := fun a j y => by
      show xup2 _ _ _ _ _ _ = _
      rw [xup2_n (by omega)]
      show xup2 _ _ _ _ _ _ = _
      rw [xup2_n (by omega)]
      show xup2 _ _ _ _ _ _ = _
      rw [xup2_n (by omega)]
    obtain ⟨G', fu', j1, j2, j3, j4, j7⟩ := ih (i + 1) fu G3 (by omega) (by omega) (by rw [fz _ _ (by omega)]; exact h10) t5 t6 t7
    refine ⟨G', fu', ?_, j2, j3, j4, fun a j y => by rw [j7 a j y, fz a j y]⟩
    rw [← j1]
    show g308_249b (g308_249 f fu) f _ _ _ _ = _
    unfold g308_249b
    rw [h10, if_neg (by omega), e1, if_pos hig, if_pos hii, Option.bind_some, if_pos hig, if_pos hii, Option.bind_some, if_pos hig, if_pos hii, Option.bind_some, Int.toNat_natCast, Int.toNat_natCast, e3]
theorem l_308_338 {n : Nat} (hn : n + g ≤ 20) {G0 : xG_} : ∀ (d i fu : Nat) (G : xG_), i + d = n → d < fu → G o 17 = (n : Int) → shf G0 G (o + 13) g i → shf G0 G (o + 14) g i →
    ∃ G', g308_338 f fu o (g : Int) (i : Int) G = some G' ∧ shf G0 G' (o + 13) g n ∧ shf G0 G' (o + 14) g n ∧ ∀ a j, ¬ (o + 13 ≤ a ∧ a ≤ o + 14) → G' a j = G a j := by
  intro d
  induction d with
  | zero =>
    intro i fu G h1 h2 h10 s5 s6
    obtain ⟨fu, rfl⟩ : ∃ t, fu = t + 1 := ⟨fu - 1, by omega⟩
    have : i = n := by omega
    subst this
    refine ⟨G, ?_, s5, s6, fun _ _ _ => rfl⟩
    show g308_338b (g308_338 f fu) f _ _ _ _ = _
    unfold g308_338b
    rw [h10, if_pos (by omega)]
  | succ d ih =>
    intro i fu G h1 h2 h10 s5 s6
    obtain ⟨fu, rfl⟩ : ∃ t, fu = t + 1 := ⟨fu - 1, by omega⟩
    have e1 : xwr ((i : Int) + (g : Int)) = ((i + g : Nat) : Int) := by rw [xwr_g _ (by omega) (by omega)]; omega
    have e3 : xwr ((i : Int) + 1) = ((i + 1 : Nat) : Int) := by rw [xwr_g _ (by omega) (by omega)]; omega
    have hig : 0 ≤ ((i + g : Nat) : Int) ∧ ((i + g : Nat) : Int) < 20 := by omega
    have hii : 0 ≤ (i : Int) ∧ (i : Int) < 20 := by omega
    let G1 := xup2 G (o + 13) i (G (o + 13) (i + g))
    let G2 := xup2 G1 (o + 14) i (G1 (o + 14) (i + g))
    have t5 : shf G0 G2 (o + 13) g (i + 1) := (s5.step).ne (by omega)
    have t6 : shf G0 G2 (o + 14) g (i + 1) := (s6.ne (by omega)).step
    have fz : ∀ a j, ¬ (o + 13 ≤ a ∧ a ≤ o + 14) → G2 a j = G a j := fun a j y => by
      show xup2 _ _ _ _ _ _ = _
      rw [xup2_n (by omega)]
      show xup2 _ _ _ _ _ _ = _
      rw [xup2_n (by omega)]
    obtain ⟨G', j1, j2, j3, j7⟩ := ih (i + 1) fu G2 (by omega) (by omega) (by rw [fz _ _ (by omega)]; exact h10) t5 t6
    refine ⟨G', ?_, j2, j3, fun a j y => by rw [j7 a j y, fz a j y]⟩
    rw [← j1]
    show g308_338b (g308_338 f fu) f _ _ _ _ = _
    unfold g308_338b
    rw [h10, if_neg (by omega), e1, if_pos hig, if_pos hii, Option.bind_some, if_pos hig, if_pos hii, Option.bind_some, Int.toNat_natCast, Int.toNat_natCast, e3]
end
end
section
/-! The reference forgets its oldest rounds: trim, forget, forgetRound -/
/-- so much may be kept -/
def tmOk (L : List pLg) (C : List pCg) (E : List pEg) (x : Int) : Prop := (lgK x L).length ≤ 8000 ∧ (lgK x C).length ≤ 100 ∧ (lgK x E).length ≤ 7
def tmIs (L : List pLg) (C : List pCg) (E : List pEg) (old x : Int) : Prop := old ≤ x ∧ tmOk L C E x ∧ ∀ y, old ≤ y → y < x → ¬ tmOk L C E y
/-- the logs of a line -/
def rHi (G : xG_) (o : Nat) (L : List pLg) (C : List pCg) (E : List pEg) : Prop := rLg G o L ∧ rCg G o C ∧ rEg G o E ∧ lgS L ∧ lgS C ∧ lgS E
theorem lgK_nil {α : Type} {x : Int} {l : List (Int × α)} (h : ∀ a ∈ l, a.1 ≤ x) : lgK x l = [] := by
  refine List.eq_nil_iff_forall_not_mem.mpr (fun a ha => ?_)
  obtain ⟨h1, h2⟩ := lgK_mem.mp ha
  have := h a h1
  omega
theorem getD_dr {α : Type} {l : List α} {d : α} {k i : Nat} : (l.drop k).getD i d = l.getD (i + k) d := by
  rw [List.getD_eq_getElem?_getD, List.getD_eq_getElem?_getD, List.getElem?_drop, Nat.add_comm k i]
section
variable {f o h : Nat} {L : List pLg} {C : List pCg} {E : List pEg}
theorem rLg.dr {G G' : xG_} {k : Nat} (h : rLg G o L) (hk : k ≤ L.length) (h0 : G' o 10 = ((L.length - k : Nat) : Int)) (s5 : shf G G' (o + 5) k (L.length - k)) (s6 : shf G G' (o + 6) k (L.length - k)) (s7 : shf G G' (o + 7) k (L.length - k)) (s8 : shf G G' (o + 8) k (L.length - k)) (s9 : shf G G' (o + 9) (4 * k) (4 * (L.length - k))) : rLg G' o (L.drop k) := by
  obtain ⟨a1, a2, a3⟩ := h
  refine ⟨by rw [List.length_drop]; exact h0, by rw [List.length_drop]; omega, fun i hi => ?_⟩
  rw [List.length_drop] at hi
  obtain ⟨b1, b2, b3, b4, b5, b6⟩ := a3 (i + k) (by omega)
  rw [getD_dr]
  refine ⟨by rw [s5 i, if_pos hi]; exact b1, by rw [s6 i, if_pos hi]; exact b2, by rw [s8 i, if_pos hi]; exact b3, by rw [s7 i, if_pos hi]; exact b4, b5, fun j hj => ?_⟩
  rw [s9 (4 * i + j), if_pos (by omega), ← b6 j hj]
  exact congrArg _ (by omega)
theorem rCg.dr {G G' : xG_} {k : Nat} (h : rCg G o C) (hk : k ≤ C.length) (h0 : G' o 16 = ((C.length - k : Nat) : Int)) (s5 : shf G G' (o + 10) k (C.length - k)) (s6 : shf G G' (o + 11) k (C.length - k)) (s7 : shf G G' (o + 12) k (C.length - k)) : rCg G' o (C.drop k) := by
  obtain ⟨a1, a2, a3⟩ := h
  refine ⟨by rw [List.length_drop]; exact h0, by rw [List.length_drop]; omega, fun i hi => ?_⟩
  rw [List.length_drop] at hi
  obtain ⟨b1, b2, b3⟩ := a3 (i + k) (by omega)
  rw [getD_dr]
  exact ⟨by rw [s5 i, if_pos hi]; exact b1, by rw [s6 i, if_pos hi]; exact b2, by rw [s7 i, if_pos hi]; exact b3⟩
theorem rEg.dr {G G' : xG_} {k : Nat} (h : rEg G o E) (hk : k ≤ E.length) (h0 : G' o 17 = ((E.length - k : Nat) : Int)) (s5 : shf G G' (o + 13) k (E.length - k)) (s6 : shf G G' (o + 14) k (E.length - k)) : rEg G' o (E.drop k) := by
  obtain ⟨a1, a2, a3⟩ := h
  refine ⟨by rw [List.length_drop]; exact h0, by rw [List.length_drop]; omega, fun i hi => ?_⟩
  rw [List.length_drop] at hi
  obtain ⟨b1, b2⟩ := a3 (i + k) (by omega)
  rw [getD_dr]
  exact ⟨by rw [s5 i, if_pos hi]; exact b1, by rw [s6 i, if_pos hi]; exact b2⟩
theorem bh5 {G : xG_} {x : Int} (hf : 12100 < f) (hh : h < 4) (ho : o = 123 + 29 * h) (hL : rLg G o L) (hs : lgS L) : g309 f (o + 5) (G o 10) x G = some (((lgK x L).length : Int), G) := by
  have := hL.2.1
  rw [hL.1]
  exact l_309 (d := dLg) (by omega) hs (by rw [(len5 hh ho).1]; omega) (by omega) (fun i hi => (hL.2.2 i hi).1)
theorem bh10 {G : xG_} {x : Int} (hf : 12100 < f) (hh : h < 4) (ho : o = 123 + 29 * h) (hL : rCg G o C) (hs : lgS C) : g309 f (o + 10) (G o 16) x G = some (((lgK x C).length : Int), G) := by
  have := hL.2.1
  rw [hL.1]
  exact l_309 (d := (0, 0, 0)) (by omega) hs (by rw [(len5 hh ho).2.1]; omega) (by omega) (fun i hi => (hL.2.2 i hi).1)
theorem bh13 {G : xG_} {x : Int} (hf : 12100 < f) (hh : h < 4) (ho : o = 123 + 29 * h) (hL : rEg G o E) (hs : lgS E) : g309 f (o + 13) (G o 17) x G = some (((lgK x E).length : Int), G) := by
  have := hL.2.1
  rw [hL.1]
  exact l_309 (d := (0, 0)) (by omega) hs (by rw [(len5 hh ho).2.2]; omega) (by omega) (fun i hi => (hL.2.2 i hi).1)
def fTm (o : Nat) (G G' : xG_) : Prop := ∀ a j, ¬ (a = o ∧ (j = 3 ∨ j = 10 ∨ j = 16 ∨ j = 17)) → ¬ (o + 5 ≤ a ∧ a ≤ o + 14) → G' a j = G a j
theorem lgK_cut {α : Type} {d : Int × α} {x : Int} {l : List (Int × α)} (hs : lgS l) : ∃ k, k ≤ l.length ∧ lgK x l = l.drop k ∧ (lgK x l).length = l.length - k := by
  obtain ⟨k, k1, k2, _⟩ := lg_cut (d := d) (x := x) l hs
  exact ⟨k, k1, k2, by rw [k2, List.length_drop]⟩
theorem l_308_338' {x : Int} {G : xG_} (hf : 12100 < f) (hh : h < 4) (ho : o = 123 + 29 * h) (h3 : G o 3 = x) (hE : rEg G o E) (hs : lgS E) :
    ∃ G', ((g309 f (o + 13) (G o 17) (G o 3) G).bind fun R126 => ((some (xup2 R126.2 o 17 (xwr ((R126.2 o 17) - (xwr ((G o 17) - (R126.1))))))).bind fun G134 => g308_338 f f o (xwr ((G o 17) - (R126.1))) 0 G134)) = some G' ∧ rEg G' o (lgK x E) ∧ ∀ a j, ¬ (a = o ∧ j = 17) → ¬ (o + 13 ≤ a ∧ a ≤ o + 14) → G' a j = G a j := by
  have hl := hE.2.1
  obtain ⟨k, k1, k2, k3⟩ := lgK_cut (d := (0, 0)) (x := x) hs
  rw [h3, bh13 hf hh ho hE hs, Option.bind_some]
  have e1 : xwr ((E.length : Int) - ((lgK x E).length : Int)) = (k : Int) := by rw [xwr_g _ (by omega) (by omega)]; omega
  have e2 : xwr ((E.length : Int) - (k : Int)) = ((E.length - k : Nat) : Int) := by rw [xwr_g _ (by omega) (by omega)]; omega
  show ∃ G', (Option.bind (some (xup2 G o 17 (xwr ((G o 17) - (xwr ((G o 17) - ((lgK x E).length : Int))))))) fun G134 => g308_338 f f o (xwr ((G o 17) - ((lgK x E).length : Int))) 0 G134) = some G' ∧ _
  rw [hE.1, e1, e2, Option.bind_some]
  obtain ⟨G', j1, j2, j3, j4⟩ := l_308_338 (f := f) (o := o) (g := k) (n := E.length - k) (by omega) (G0 := G) (E.length - k) 0 f (xup2 G o 17 ((E.length - k : Nat) : Int)) (by omega) (by omega) (xup2_s _ _ _ _) (shf.z fun t => xup2_n (by omega)) (shf.z fun t => xup2_n (by omega))
  refine ⟨G', j1, ?_, fun a j y1 y2 => by rw [j4 a j y2, xup2_n y1]⟩
  rw [k2]
  exact hE.dr k1 (by rw [j4 _ _ (by omega)]; exact xup2_s _ _ _ _) j2 j3
theorem l_308_249' {x : Int} {G : xG_} (hf : 12100 < f) (hh : h < 4) (ho : o = 123 + 29 * h) (h3 : G o 3 = x) (hC : rCg G o C) (hsC : lgS C) (hE : rEg G o E) (hs : lgS E) :
    ∃ G', ((g309 f (o + 10) (G o 16) (G o 3) G).bind fun R154 => ((some (xup2 R154.2 o 16 (xwr ((R154.2 o 16) - (xwr ((G o 16) - (R154.1))))))).bind fun G162 => g308_249 f f o (xwr ((G o 16) - (R154.1))) 0 G162)) = some G' ∧ rCg G' o (lgK x C) ∧ rEg G' o (lgK x E) ∧ ∀ a j, ¬ (a = o ∧ (j = 16 ∨ j = 17)) → ¬ (o + 10 ≤ a ∧ a ≤ o + 14) → G' a j = G a j := by
  have hl := hC.2.1
  obtain ⟨k, k1, k2, k3⟩ := lgK_cut (d := (0, 0, 0)) (x := x) hsC
  have e1 : xwr ((C.length : Int) - ((lgK x C).length : Int)) = (k : Int) := by rw [xwr_g _ (by omega) (by omega)]; omega
  have e2 : xwr ((C.length : Int) - (k : Int)) = ((C.length - k : Nat) : Int) := by rw [xwr_g _ (by omega) (by omega)]; omega
  obtain ⟨G1, fu, j1, j2, j3, j4, j5⟩ := l_308_249 (f := f) (o := o) (g := k) (n := C.length - k) (by omega) (G0 := G) (C.length - k) 0 f (xup2 G o 16 ((C.length - k : Nat) : Int)) (by omega) (by omega) (xup2_s _ _ _ _) (shf.z fun t => xup2_n (by omega)) (shf.z fun t => xup2_n (by omega)) (shf.z fun t => xup2_n (by omega))
  have fr : ∀ a j, ¬ (a = o ∧ j = 16) → ¬ (o + 10 ≤ a ∧ a ≤ o + 12) → G1 a j = G a j := fun a j y1 y2 => by rw [j5 a j y2, xup2_n y1]
  have h16 : G1 o 16 = ((C.length - k : Nat) : Int) := by rw [j5 _ _ (by omega)]; exact xup2_s _ _ _ _
  have hC1 : rCg G1 o (lgK x C) := by rw [k2]; exact hC.dr k1 h16 j2 j3 j4
  obtain ⟨G', r1, r2, r3⟩ := l_308_338' (f := f) (x := x) hf hh ho (by rw [fr _ _ (by omega) (by omega)]; exact h3) (hE.ge (fr _ _ (by omega) (by omega)) (fun a j _ _ => fr _ _ (by omega) (by omega))) hs
  refine ⟨G', ?_, hC1.ge (r3 _ _ (by omega) (by omega)) (fun a j _ _ => r3 _ _ (by omega) (by omega)), r2, fun a j y1 y2 => by rw [r3 a j (by omega) (by omega), fr a j (by omega) (by omega)]⟩
  rw [← r1, h3, bh10 hf hh ho hC hsC, Option.bind_some]
  show (Option.bind (some (xup2 G o 16 (xwr ((G o 16) - (xwr ((G o 16) - ((lgK x C).length : Int))))))) fun G162 => g308_249 f f o (xwr ((G o 16) - ((lgK x C).length : Int))) 0 G162) = _
  rw [hC.1, e1, e2, Option.bind_some]
  refine Eq.trans j1 ?_
  show g308_249b (g308_249 f fu) f _ _ _ _ = _
  unfold g308_249b
  rw [h16, if_pos (by omega)]
theorem l_308_107' {x : Int} {G : xG_} (hf : 12100 < f) (hh : h < 4) (ho : o = 123 + 29 * h) (h3 : G o 3 = x) (hH : rHi G o L C E) :
    ∃ G', ((g309 f (o + 5) (G o 10) (G o 3) G).bind fun R205 => ((some (xup2 R205.2 o 10 (xwr ((R205.2 o 10) - (xwr ((G o 10) - (R205.1))))))).bind fun G213 => g308_107 f f o (xwr ((G o 10) - (R205.1))) 0 G213)) = some G' ∧ rHi G' o (lgK x L) (lgK x C) (lgK x E) ∧ G' o 3 = x ∧ fTm o G G' := by
  obtain ⟨hL, hC, hE, hsL, hsC, hs⟩ := hH
  have hl := hL.2.1
  obtain ⟨k, k1, k2, k3⟩ := lgK_cut (d := dLg) (x := x) hsL
  have e1 : xwr ((L.length : Int) - ((lgK x L).length : Int)) = (k : Int) := by rw [xwr_g _ (by omega) (by omega)]; omega
  have e2 : xwr ((L.length : Int) - (k : Int)) = ((L.length - k : Nat) : Int) := by rw [xwr_g _ (by omega) (by omega)]; omega
  obtain ⟨G1, fu, j1, j2, j3, j4, j5, j6, j7⟩ := l_308_107 (f := f) (o := o) (g := k) (n := L.length - k) (by omega) (by omega) (G0 := G) (L.length - k) 0 f (xup2 G o 10 ((L.length - k : Nat) : Int)) (by omega) (by omega) (xup2_s _ _ _ _) (shf.z fun t => xup2_n (by omega)) (shf.z fun t => xup2_n (by omega)) (shf.z fun t => xup2_n (by omega)) (shf.z fun t => xup2_n (by omega)) (shf.z fun t => xup2_n (by omega))
  have fr : ∀ a j, ¬ (a = o ∧ j = 10) → ¬ (o + 5 ≤ a ∧ a ≤ o + 9) → G1 a j = G a j := fun a j y1 y2 => by rw [j7 a j y2, xup2_n y1]
  have h10 : G1 o 10 = ((L.length - k : Nat) : Int) := by rw [j7 _ _ (by omega)]; exact xup2_s _ _ _ _
  have hL1 : rLg G1 o (lgK x L) := by rw [k2]; exact hL.dr k1 h10 j2 j3 j4 j5 j6
  have h31 : G1 o 3 = x := by rw [fr _ _ (by omega) (by omega)]; exact h3
  obtain ⟨G', r1, r2, r3, r4⟩ := l_308_249' (f := f) (x := x) hf hh ho h31 (hC.ge (fr _ _ (by omega) (by omega)) (fun a j _ _ => fr _ _ (by omega) (by omega))) hsC (hE.ge (fr _ _ (by omega) (by omega)) (fun a j _ _ => fr _ _ (by omega) (by omega))) hs
  refine ⟨G', ?_, ⟨hL1.ge (r4 _ _ (by omega) (by omega)) (fun a j _ _ => r4 _ _ (by omega) (by omega)), r2, r3, lgK_s hsL, lgK_s hsC, lgK_s hs⟩, by rw [r4 _ _ (by omega) (by omega)]; exact h31, fun a j y1 y2 => by rw [r4 a j (by omega) (by omega), fr a j (by omega) (by omega)]⟩
  rw [← r1, h3, bh5 hf hh ho hL hsL, Option.bind_some]
  show (Option.bind (some (xup2 G o 10 (xwr ((G o 10) - (xwr ((G o 10) - ((lgK x L).length : Int))))))) fun G213 => g308_107 f f o (xwr ((G o 10) - ((lgK x L).length : Int))) 0 G213) = _
  rw [hL.1, e1, e2, Option.bind_some]
  refine Eq.trans j1 ?_
  show g308_107b (g308_107 f fu) f _ _ _ _ = _
  unfold g308_107b
  rw [h10, if_pos (by omega)]
/-- trim -/
theorem l_308_0 {rd : Int} (hf : 12100 < f) (hh : h < 4) (ho : o = 123 + 29 * h) (hrd : rd < 1000000) (hm : (∀ a ∈ L, a.1 ≤ rd) ∧ (∀ a ∈ C, a.1 ≤ rd) ∧ ∀ a ∈ E, a.1 ≤ rd) : ∀ (d fu : Nat) (G : xG_) (x : Int), x + d = rd → d < fu → 0 ≤ x → G o 3 = x → rHi G o L C E →
    ∃ G' y, g308_0 f fu o G = some G' ∧ tmIs L C E x y ∧ y ≤ rd ∧ rHi G' o (lgK y L) (lgK y C) (lgK y E) ∧ G' o 3 = y ∧ fTm o G G' := by
  intro d
  induction d with
  | zero =>
    intro fu G x h1 h2 h0 h3 hH
    obtain ⟨fu, rfl⟩ : ∃ t, fu = t + 1 := ⟨fu - 1, by omega⟩
    have ex : x = rd := by omega
    subst ex
    have ok : tmOk L C E x := by
      unfold tmOk
      rw [lgK_nil hm.1, lgK_nil hm.2.1, lgK_nil hm.2.2]
      exact ⟨by decide, by decide, by decide⟩
    obtain ⟨G', k1, k2, k3, k4⟩ := l_308_107' (f := f) hf hh ho h3 hH
    refine ⟨G', x, ?_, ⟨Int.le_refl _, ok, fun y y1 y2 => by omega⟩, Int.le_refl _, k2, k3, k4⟩
    rw [← k1]
    obtain ⟨hL, hC, hE, hsL, hsC, hs⟩ := hH
    have o1 := ok.1
    have o2 := ok.2.1
    have o3 := ok.2.2
    have n1 : ¬ (8000 : Int) < ((lgK x L).length : Int) := by omega
    have n2 : ¬ (100 : Int) < ((lgK x C).length : Int) := by omega
    have n3 : ((lgK x E).length : Int) ≤ 7 := by omega
    show g308_0b (g308_0 f fu) f _ _ = _
    unfold g308_0b
    rw [h3, bh5 hf hh ho hL hsL, Option.bind_some]
    simp only [h3, if_neg n1, bh10 hf hh ho hC hsC, Option.bind_some, if_neg n2, bh13 hf hh ho hE hs, if_pos n3, bh5 hf hh ho hL hsL]
  | succ d ih =>
    intro fu G x h1 h2 h0 h3 hH
    obtain ⟨fu, rfl⟩ : ∃ t, fu = t + 1 := ⟨fu - 1, by omega⟩
    have hH' := hH
    obtain ⟨hL, hC, hE, hsL, hsC, hs⟩ := hH
    by_cases ok : tmOk L C E x
    · obtain ⟨G', k1, k2, k3, k4⟩ := l_308_107' (f := f) hf hh ho h3 hH'
      refine ⟨G', x, ?_, ⟨Int.le_refl _, ok, fun y y1 y2 => by omega⟩, by omega, k2, k3, k4⟩
      rw [← k1]
      have o1 := ok.1
      have o2 := ok.2.1
      have o3 := ok.2.2
      have n1 : ¬ (8000 : Int) < ((lgK x L).length : Int) := by omega
      have n2 : ¬ (100 : Int) < ((lgK x C).length : Int) := by omega
      have n3 : ((lgK x E).length : Int) ≤ 7 := by omega
      show g308_0b (g308_0 f fu) f _ _ = _
      unfold g308_0b
      rw [h3, bh5 hf hh ho hL hsL, Option.bind_some]
      simp only [h3, if_neg n1, bh10 hf hh ho hC hsC, Option.bind_some, if_neg n2, bh13 hf hh ho hE hs, if_pos n3, bh5 hf hh ho hL hsL]
    · have e : xwr (x + 1) = x + 1 := xwr_g _ (by omega) (by omega)
      have fr : ∀ a j, ¬ (a = o ∧ j = 3) → xup2 G o 3 (x + 1) a j = G a j := fun a j y => xup2_n y
      have hH1 : rHi (xup2 G o 3 (x + 1)) o L C E := ⟨hL.ge (fr _ _ (by omega)) (fun a j _ _ => fr _ _ (by omega)), hC.ge (fr _ _ (by omega)) (fun a j _ _ => fr _ _ (by omega)), hE.ge (fr _ _ (by omega)) (fun a j _ _ => fr _ _ (by omega)), hsL, hsC, hs⟩
      obtain ⟨G', y, k1, k2, k3, k4, k5, k6⟩ := ih fu (xup2 G o 3 (x + 1)) (x + 1) (by omega) (by omega) (by omega) (xup2_s _ _ _ _) hH1
      refine ⟨G', y, ?_, ⟨by have := k2.1; omega, k2.2.1, fun z z1 z2 => ?_⟩, k3, k4, k5, fun a j y1 y2 => by rw [k6 a j y1 y2, xup2_n (by omega)]⟩
      · rw [← k1]
        show g308_0b (g308_0 f fu) f _ _ = _
        unfold g308_0b g308_61
        rw [h3, bh5 hf hh ho hL hsL, Option.bind_some]
        by_cases n1 : (8000 : Int) < ((lgK x L).length : Int)
        · simp only [h3, if_pos n1, e, Option.bind_some]
        · by_cases n2 : (100 : Int) < ((lgK x C).length : Int)
          · simp only [h3, if_neg n1, bh10 hf hh ho hC hsC, if_pos n2, e, Option.bind_some]
          · have n3 : ¬ ((lgK x E).length : Int) ≤ 7 := fun q => ok ⟨by omega, by omega, by omega⟩
            simp only [h3, if_neg n1, bh10 hf hh ho hC hsC, Option.bind_some, if_neg n2, bh13 hf hh ho hE hs, if_neg n3, e]
      · by_cases cz : z = x
        · rw [cz]; exact ok
        · exact k2.2.2 z (by omega) z2
theorem l_308 {rd x : Int} {G : xG_} (hf : 1000100 < f) (hh : h < 4) (ho : o = 123 + 29 * h) (hrd : rd < 1000000) (hm : (∀ a ∈ L, a.1 ≤ rd) ∧ (∀ a ∈ C, a.1 ≤ rd) ∧ ∀ a ∈ E, a.1 ≤ rd) (h0 : 0 ≤ x) (hx : x ≤ rd) (h3 : G o 3 = x) (hH : rHi G o L C E) :
    ∃ G' y, g308 f o G = some G' ∧ tmIs L C E x y ∧ y ≤ rd ∧ rHi G' o (lgK y L) (lgK y C) (lgK y E) ∧ G' o 3 = y ∧ fTm o G G' :=
  l_308_0 (f := f) (by omega) hh ho hrd hm (rd - x).toNat f G x (by omega) (by omega) h0 h3 hH
/-- forget -/
theorem l_202 {G : xG_} (hf : 100 < f) : ∃ G', g202 f o G = some G' ∧ G' o 33 = 0 ∧ G' o 34 = -1 ∧ (∀ c, c < 72 → G' (o + 26) c = -1) ∧ ∀ a j, ¬ (a = o ∧ (j = 33 ∨ j = 34)) → ¬ (a = o + 26 ∧ j < 72) → G' a j = G a j := by
  have loop : ∀ (d c fu : Nat) (Z : xG_), c + d = 72 → d < fu → (∀ j, j < c → Z (o + 26) j = -1) → ∃ Z', g202_12 f fu o (c : Int) Z = some Z' ∧ (∀ j, j < 72 → Z' (o + 26) j = -1) ∧ ∀ a j, ¬ (a = o + 26 ∧ j < 72) → Z' a j = Z a j := by
    intro d
    induction d with
    | zero =>
      intro c fu Z h1 h2 h3
      obtain ⟨fu, rfl⟩ : ∃ t, fu = t + 1 := ⟨fu - 1, by omega⟩
      refine ⟨Z, ?_, fun j hj => h3 j (by omega), fun _ _ _ => rfl⟩
      show g202_12b (g202_12 f fu) f _ _ _ = _
      unfold g202_12b
      rw [if_pos (by omega)]
    | succ d ih =>
      intro c fu Z h1 h2 h3
      obtain ⟨fu, rfl⟩ : ∃ t, fu = t + 1 := ⟨fu - 1, by omega⟩
      have e : xwr ((c : Int) + 1) = ((c + 1 : Nat) : Int) := by rw [xwr_g _ (by omega) (by omega)]; omega
      obtain ⟨Z', k1, k2, k3⟩ := ih (c + 1) fu (xup2 Z (o + 26) c (-1)) (by omega) (by omega) (fun j hj => by
        by_cases cj : j = c
        · rw [cj, xup2_s]
        · rw [xup2_n (by omega)]; exact h3 j (by omega))
      refine ⟨Z', ?_, k2, fun a j y => by rw [k3 a j y, xup2_n (by omega)]⟩
      rw [← k1]
      show g202_12b (g202_12 f fu) f _ _ _ = _
      unfold g202_12b
      rw [if_neg (by omega), if_pos (by omega), Option.bind_some, Int.toNat_natCast, e]
  obtain ⟨Z, k1, k2, k3⟩ := loop 72 0 f (xup2 (xup2 G o 33 0) o 34 (-1)) (by omega) (by omega) (fun j hj => absurd hj (Nat.not_lt_zero j))
  refine ⟨Z, k1, ?_, ?_, k2, fun a j y1 y2 => ?_⟩
  · rw [k3 _ _ (by omega), xup2_n (by omega), xup2_s]
  · rw [k3 _ _ (by omega), xup2_s]
  · rw [k3 _ _ y2, xup2_n (by omega), xup2_n (by omega)]
/-- forgetRound -/
theorem l_203 {G : xG_} (hf : 100 < f) : ∃ G', g203 f o G = some G' ∧ G' o 27 = 0 ∧ (∀ c, c < 16 → G' (o + 19) c = 0) ∧ ∀ a j, ¬ (a = o ∧ j = 27) → ¬ (a = o + 19 ∧ j < 16) → G' a j = G a j := by
  have loop : ∀ (d c fu : Nat) (Z : xG_), c + d = 16 → d < fu → (∀ j, j < c → Z (o + 19) j = 0) → ∃ Z', g203_7 f fu o (c : Int) Z = some Z' ∧ (∀ j, j < 16 → Z' (o + 19) j = 0) ∧ ∀ a j, ¬ (a = o + 19 ∧ j < 16) → Z' a j = Z a j := by
    intro d
    induction d with
    | zero =>
      intro c fu Z h1 h2 h3
      obtain ⟨fu, rfl⟩ : ∃ t, fu = t + 1 := ⟨fu - 1, by omega⟩
      refine ⟨Z, ?_, fun j hj => h3 j (by omega), fun _ _ _ => rfl⟩
      show g203_7b (g203_7 f fu) f _ _ _ = _
      unfold g203_7b
      rw [if_pos (by omega)]
    | succ d ih =>
      intro c fu Z h1 h2 h3
      obtain ⟨fu, rfl⟩ : ∃ t, fu = t + 1 := ⟨fu - 1, by omega⟩
      have e : xwr ((c : Int) + 1) = ((c + 1 : Nat) : Int) := by rw [xwr_g _ (by omega) (by omega)]; omega
      obtain ⟨Z', k1, k2, k3⟩ := ih (c + 1) fu (xup2 Z (o + 19) c 0) (by omega) (by omega) (fun j hj => by
        by_cases cj : j = c
        · rw [cj, xup2_s]
        · rw [xup2_n (by omega)]; exact h3 j (by omega))
      refine ⟨Z', ?_, k2, fun a j y => by rw [k3 a j y, xup2_n (by omega)]⟩
      rw [← k1]
      show g203_7b (g203_7 f fu) f _ _ _ = _
      unfold g203_7b
      rw [if_neg (by omega), if_pos (by omega), Option.bind_some, Int.toNat_natCast, e]
  obtain ⟨Z, k1, k2, k3⟩ := loop 16 0 f (xup2 G o 27 0) (by omega) (by omega) (fun j hj => absurd hj (Nat.not_lt_zero j))
  refine ⟨Z, k1, ?_, k2, fun a j y1 y2 => ?_⟩
  · rw [k3 _ _ (by omega), xup2_s]
  · rw [k3 _ _ y2, xup2_n (by omega)]
end
end
section
/-! The reference's words on TOKENS where no program is being read: CELL TEXTS -/
def rEw (G : xG_) (q : Nat) (B : Nat → Int) (n : Nat) (lm : Bool) : Prop := rTx G q B n ∧ G 0 11 = (if lm = true then 1 else 0) ∧ rC G
section
variable {f q n i : Nat} {B : Nat → Int} {lm : Bool} {G : xG_} {L : Nat → Int}
theorem l_pass' (hf : n + 20 < f) (hE : rEw G q B n lm) (hA : rAt q B n lm i L) (h6 : L 6 = -1) (hK : kK (tstr B n lm) i ≠ 0) (hK5 : kK (tstr B n lm) i ≠ 5) : ∃ L', g213 f (xlx G L) = some (xlx G L') ∧ rAt q B n lm (i + 1) L' := by
  have htk := hA.tk hE.1.2.1
  have hS := tS_le hE.1.2.1 i
  have hen := ten_le hE.1.2.1 hS.1
  obtain ⟨h7, hT, hi, h8, h8', h8l⟩ := hA
  have h5 : L 5 = (q : Int) + ten B n (tS B n i) := htk.2.2.2.2.2.2.2.2.2.2.2.1 hK5
  have hlt : tS B n i < ten B n (tS B n i) := htk.2.2.2.2.2.2.2.2.2.2.2.2.1 hK
  have hlen := hE.1.len
  obtain ⟨L', e, r1, r2, r3⟩ := rl_lex (f := f) (L := L) hE.1 hf hen.2.1 h5 (by omega)
  have hsk := tsk_le hE.1.2.1 _ (ten B n (tS B n i)) false rfl hen.2.1
  refine ⟨L', ?_, by rw [r2]; exact h7, ?_, ?_, by omega, by omega, ?_⟩
  · unfold g213 g213_31
    simp only [xlx_2, xlx_3, xlx_4, xlx_5, xlx_6, xlx_7, xlx_8, xlx_9, xlx_10, xlx_u2, xlx_u3, xlx_u4, xlx_u5, xlx_u6, xlx_u7, xlx_u8, xlx_u9, xlx_u10, xu_e, eq_self, reduceIte, Nat.reduceEqDiff, if_true, if_false, not_true_eq_false, not_false_eq_true, Option.bind_some, i10, i01, true_and, false_and, and_false, ne_eq, Int.reduceEq, Int.reduceNeg, l_bad, h7, h6, e]
  · have hc : (0 ≤ B (tS B n (i + 1)) ∧ G 0 11 ≠ 0 ∧ 60 < L' 8) ↔ (0 ≤ B (tS B n (i + 1)) ∧ lm = true ∧ 62 ≤ i + 1) := by
      rw [hE.2.1, r3]
      by_cases c : lm = true
      · have := h8l c
        rw [if_pos c]
        constructor
        · rintro ⟨a, b, d⟩; exact ⟨a, c, by omega⟩
        · rintro ⟨a, b, d⟩; exact ⟨a, by decide, by omega⟩
      · rw [if_neg c]
        simp [c]
    have r1' : rTk q B n (tS B n (i + 1)) (0 ≤ B (tS B n (i + 1)) ∧ G 0 11 ≠ 0 ∧ 60 < L' 8) L' := r1
    unfold rTk at r1' ⊢
    simp only [hc] at r1'
    exact r1'
  · show i + 1 ≤ tsk B n false (ten B n (tS B n i))
    omega
  · intro c
    have := h8l c
    omega
theorem l_need_no' {c : Int} (hE : rEw G q B n lm) (hA : rAt q B n lm i L) (hc : isSg c) (hK : kK (tstr B n lm) i ≠ c) : g222 f (rsc c) (xlx G L) = some (xlx G (xu L 7 ((q : Int) + kS (tstr B n lm) i))) := by
  have htk := hA.tk hE.1.2.1
  have h1 := htk.2.1 c hc
  unfold g222 g222_23
  simp only [xlx_2, xlx_3, xlx_4, xlx_5, xlx_6, xlx_7, xlx_8, xlx_9, xlx_10, xlx_u2, xlx_u3, xlx_u4, xlx_u5, xlx_u6, xlx_u7, xlx_u8, xlx_u9, xlx_u10, xu_e, eq_self, reduceIte, Nat.reduceEqDiff, if_true, if_false, not_true_eq_false, not_false_eq_true, Option.bind_some, i10, i01, true_and, false_and, and_false, ne_eq, Int.reduceEq, Int.reduceNeg, l_sign, l_fail, hA.1, htk.1]
  rw [if_pos (fun q => hK (h1.mp q))]
theorem l_need' (hf : n + 20 < f) {c : Int} (hE : rEw G q B n lm) (hA : rAt q B n lm i L) (hc : isSg c) (hK : kK (tstr B n lm) i = c) : ∃ L', g222 f (rsc c) (xlx G L) = some (xlx G L') ∧ rAt q B n lm (i + 1) L' := by
  have htk := hA.tk hE.1.2.1
  have h1 := (htk.2.1 c hc).mpr hK
  have h6 : L 6 = -1 := by rw [htk.2.2.2.2.2.2.2.2.2.2.1, h1.1]; rfl
  have hc2 := hc
  unfold isSg at hc2
  obtain ⟨L', e, a⟩ := l_pass' hf hE hA h6 (by omega) (by omega)
  refine ⟨L', ?_, a⟩
  unfold g222 g222_23
  simp only [xlx_2, xlx_3, xlx_4, xlx_5, xlx_6, xlx_7, xlx_8, xlx_9, xlx_10, xlx_u2, xlx_u3, xlx_u4, xlx_u5, xlx_u6, xlx_u7, xlx_u8, xlx_u9, xlx_u10, xu_e, eq_self, reduceIte, Nat.reduceEqDiff, if_true, if_false, not_true_eq_false, not_false_eq_true, Option.bind_some, i10, i01, true_and, false_and, and_false, ne_eq, Int.reduceEq, Int.reduceNeg, l_sign, hA.1, h1.1, h1.2, and_self, e]
/-- what reading a FORMULA may change -/
def xff (G G' : xG_) : Prop := ∀ a j, ¬ (a = 0 ∧ (j = 21 ∨ j = 25 ∨ j = 89)) → ¬ (258 ≤ a ∧ a ≤ 262) → G' a j = G a j
theorem xff.rf (G : xG_) : xff G G := fun _ _ _ _ => rfl
theorem xff.tr {G G1 G2 : xG_} (h : xff G G1) (h1 : xff G1 G2) : xff G G2 := fun a j y1 y2 => by rw [h1 a j y1 y2, h a j y1 y2]
theorem xff.up {G : xG_} {a j : Nat} {v : Int} (h : a = 0 ∧ (j = 21 ∨ j = 25 ∨ j = 89) ∨ 258 ≤ a ∧ a ≤ 262) : xff G (xup2 G a j v) := fun x y y1 y2 => xup2_n (by omega)
theorem rEw.fr {G' : xG_} (h : rEw G q B n lm) (hf : xff G G') : rEw G' q B n lm := by
  obtain ⟨⟨⟨a1, a2, a3⟩, a4, a5, a6, a7⟩, b1, b2⟩ := h
  have e0 : G' 0 0 = G 0 0 := hf _ _ (by omega) (by omega)
  have e1 : G' 0 1 = G 0 1 := hf _ _ (by omega) (by omega)
  have eb : ∀ j, G' (G 0 0).toNat j = G (G 0 0).toNat j := fun j => hf _ _ (by omega) (by omega)
  refine ⟨⟨⟨by rw [e0]; exact a1, by rw [e1]; exact a2, by rw [e0, e1]; exact a3⟩, a4, by rw [e1]; exact a5, fun p => ?_, fun p hp => ?_⟩, by rw [hf _ _ (by omega) (by omega)]; exact b1, ?_⟩
  · have := a6 p
    unfold gB at this ⊢
    rw [e0, e1, eb]
    exact this
  · rw [e0, eb]
    exact a7 p hp
  · obtain ⟨k1, k2, k3, k4, k5, k6, k7, k8, k9⟩ := b2
    unfold rC
    simp (disch := omega) only [hf _ _]
    exact ⟨k1, k2, k3, k4, k5, k6, k7, k8, k9⟩
theorem rEw.u {k : Nat} {v : Int} (h : rEw G q B n lm) (hk : k = 21 ∨ k = 25) : rEw (xup2 G 0 k v) q B n lm := h.fr (xff.up (by omega))
theorem l_value' (hf : n + 20 < f) (hE : rEw G q B n lm) (hA : rAt q B n lm i L) :
    pok (pVal (tstr B n lm) i) (fun w => ∃ L', g227 f (xlx G L) = some (0, xlx G L') ∧ L' 7 = (q : Int) + w)
      (fun r => ∃ L', g227 f (xlx G L) = some (1, xlx (xup2 G 0 21 r.1) L') ∧ rAt q B n lm r.2 L' ∧ -1000000000000 ≤ r.1 ∧ r.1 ≤ 9000000000000000) := by
  have htk := hA.tk hE.1.2.1
  obtain ⟨t4, tsg, tn, tv, tu, tnum, tend, tn9, tv9, tnum9, t6, t5, tlt, t3⟩ := htk
  have h7 := hA.1
  unfold pVal
  by_cases c1 : kK (tstr B n lm) i = 4 ∧ kC (tstr B n lm) i ≤ 1000000000000
  · rw [if_pos c1]
    have k2 := tnum.mpr c1
    have k9 := tnum9 k2
    have h6 : L 6 = -1 := by rw [t6, k2]; rfl
    obtain ⟨L', e, a⟩ := l_pass' (G := xup2 G 0 21 (kC (tstr B n lm) i)) hf (hE.u (by omega)) hA h6 (by omega) (by omega)
    refine ⟨L', ?_, a, ?_, by omega⟩
    · unfold g227 g227_32
      simp only [xlx_2, xlx_3, xlx_4, xlx_5, xlx_6, xlx_7, xlx_8, xlx_9, xlx_10, xlx_u2, xlx_u3, xlx_u4, xlx_u5, xlx_u6, xlx_u7, xlx_u8, xlx_u9, xlx_u10, xu_e, eq_self, reduceIte, Nat.reduceEqDiff, if_true, if_false, not_true_eq_false, not_false_eq_true, Option.bind_some, i10, i01, true_and, false_and, and_false, ne_eq, Int.reduceEq, Int.reduceNeg, l_kind, h7, k2, and_self, k9]
      rw [xlx_upo G L _ (by decide), e]
      simp only [xlx_2, xlx_3, xlx_4, xlx_5, xlx_6, xlx_7, xlx_8, xlx_9, xlx_10, xlx_u2, xlx_u3, xlx_u4, xlx_u5, xlx_u6, xlx_u7, xlx_u8, xlx_u9, xlx_u10, xu_e, eq_self, reduceIte, Nat.reduceEqDiff, if_true, if_false, not_true_eq_false, not_false_eq_true, Option.bind_some, i10, i01, true_and, false_and, and_false, ne_eq, Int.reduceEq, Int.reduceNeg, l_bad, a.1]
      simp
    · have := tok_num hE.1.2.1 (i := i) (lm := lm) c1.1; omega
  · rw [if_neg c1]
    have k5 : ¬ L 2 = 5 := fun q => c1 (tnum.mp q)
    have e0 : g227 f (xlx G L) = if kK (tstr B n lm) i = 45 then ((g209 f (L 5) (xlx G L)).bind fun R143 => ((g208 f (R143.1) R143.2).bind fun R148 => (if ¬ (R148.1) = 0 then ((g213 f R148.2).bind fun R154 => ((g221 f (5) R154).bind fun R159 => (if ¬ (R159.1) = 0 then ((some (xup2 R159.2 (0) 21 (xneg8 (R159.2 (0) 9)))).bind fun G168 => ((g213 f G168).bind fun R169 => ((g211 f R169).bind fun R174 => (if ¬ (R174.1) = 0 then g227_113 f (0) R174.2 else g227_113 f (1) R174.2)))) else ((g210 f (R159.2 (0) 4) R159.2).bind fun R180 => (some (0, R180)))))) else ((g210 f (R148.2 (0) 4) R148.2).bind fun R185 => (some (0, R185))))))
        else (if kK (tstr B n lm) i = 1 then (if ¬ L 10 = (-1) then ((some (xup2 (xlx G L) (0) 21 (L 10))).bind fun G131 => ((g213 f G131).bind fun R132 => ((g211 f R132).bind fun R137 => (if ¬ (R137.1) = 0 then g227_166 f (0) R137.2 else g227_166 f (1) R137.2)))) else g227_132 f (xlx G L)) else g227_132 f (xlx G L)) := by
      unfold g227
      have s45 := tsg 45 (by unfold isSg; omega)
      have hr45 : rsc 45 = 45 := rfl
      rw [hr45] at s45
      have k1 : (L 2 = 2 ∧ tres (L 9) = 1) ↔ kK (tstr B n lm) i = 1 := by
        constructor
        · rintro ⟨a, b⟩
          have := tn9 a
          rw [← this.2.2, ← this.1]; exact b
        · intro c3
          have k2 := tn.mpr (.inl c3)
          have k9 := tn9 k2
          exact ⟨k2, by rw [k9.1, k9.2.2]; exact c3⟩
      simp only [xlx_2, xlx_3, xlx_4, xlx_5, xlx_6, xlx_7, xlx_8, xlx_9, xlx_10, xlx_u2, xlx_u3, xlx_u4, xlx_u5, xlx_u6, xlx_u7, xlx_u8, xlx_u9, xlx_u10, xu_e, eq_self, reduceIte, Nat.reduceEqDiff, if_true, if_false, not_true_eq_false, not_false_eq_true, Option.bind_some, i10, i01, true_and, false_and, and_false, ne_eq, Int.reduceEq, Int.reduceNeg, l_kind, l_sign, l_name hE.2.2, h7, k5, s45, k1]
      by_cases c2 : kK (tstr B n lm) i = 45
      · rw [if_neg (by simp [c2]), if_pos c2]
      · rw [if_pos c2, if_neg c2]
        by_cases c3 : kK (tstr B n lm) i = 1
        · simp [c3]
        · simp [c3]
    by_cases c2 : kK (tstr B n lm) i = 45
    · have k2 := (tsg 45 (by unfold isSg; omega)).mpr c2
      have h6 : L 6 = -1 := by rw [t6, k2.1]; rfl
      have h5 := t5 (by omega)
      have ed : kE (tstr B n lm) i = ten B n (tS B n i) := rfl
      have hb := hE.1.2.1.le (ten B n (tS B n i))
      rw [if_pos c2, h5, ed, hE.1.see rfl] at e0
      simp only [Option.bind_some, gdigit] at e0
      have kd : kD (tstr B n lm) i = decide (tDi (B (ten B n (tS B n i)))) := rfl
      by_cases c3 : tDi (B (ten B n (tS B n i)))
      · rw [if_pos ⟨c2, by rw [kd]; exact decide_eq_true c3⟩]
        obtain ⟨L1, e1, a1⟩ := l_pass' hf hE hA h6 (by omega) (by omega)
        have htk1 := a1.tk hE.1.2.1
        rw [if_pos c3, if_pos (by decide), e1] at e0
        simp only [Option.bind_some, l_kind, a1.1, true_and] at e0
        by_cases c4 : kK (tstr B n lm) (i + 1) = 4 ∧ kC (tstr B n lm) (i + 1) ≤ 1000000000000
        · rw [if_pos c4]
          have k3 := htk1.2.2.2.2.2.1.mpr c4
          have k9 := htk1.2.2.2.2.2.2.2.2.2.1 k3
          have h61 : L1 6 = -1 := by rw [htk1.2.2.2.2.2.2.2.2.2.2.1, k3]; rfl
          have hc0 : 0 ≤ kC (tstr B n lm) (i + 1) := (tok_num hE.1.2.1 c4.1)
          have en : xneg8 (L1 9) = -(kC (tstr B n lm) (i + 1)) := by rw [k9, xneg8_g _ (by omega) (by omega)]
          obtain ⟨L', e, a⟩ := l_pass' (G := xup2 G 0 21 (-(kC (tstr B n lm) (i + 1)))) hf (hE.u (by omega)) a1 h61 (by omega) (by omega)
          refine ⟨L', ?_, a, by omega, by omega⟩
          rw [e0, if_pos k3, if_pos (by decide), xlx_9, en, xlx_upo G L1 _ (by decide), e]
          simp only [Option.bind_some, l_bad, a.1]
          unfold g227_113
          simp
        · rw [if_neg c4]
          refine ⟨xu L1 7 ((q : Int) + kS (tstr B n lm) (i + 1)), ?_, rfl⟩
          rw [e0, if_neg (fun q => c4 (htk1.2.2.2.2.2.1.mp q)), if_neg (by decide), xlx_4, htk1.1, l_fail]
          simp only [Option.bind_some, a1.1, if_true]
      · rw [if_neg (fun q => c3 (by have := q.2; rw [kd] at this; exact of_decide_eq_true this)), if_neg (by omega)]
        refine ⟨xu L 7 ((q : Int) + kS (tstr B n lm) i), ?_, rfl⟩
        rw [e0, if_neg c3, if_neg (by decide), xlx_4, t4, l_fail]
        simp only [Option.bind_some, h7, if_true]
    · rw [if_neg (fun q => c2 q.1)]
      rw [if_neg c2] at e0
      by_cases c3 : kK (tstr B n lm) i = 1
      · rw [if_pos c3] at e0
        have k2 := tn.mpr (.inl c3)
        have k9 := tn9 k2
        by_cases c4 : kW (tstr B n lm) i = -1
        · rw [if_neg (fun q => q.2 c4)]
          refine ⟨xu L 7 ((q : Int) + kS (tstr B n lm) i), ?_, rfl⟩
          rw [e0, if_neg (by rw [k9.2.1]; omega)]
          unfold g227_132
          rw [xlx_4, t4, l_fail]
          simp only [Option.bind_some, h7, if_true]
        · rw [if_pos ⟨c3, c4⟩]
          have hw : kE (tstr B n lm) i - kS (tstr B n lm) i ≤ 8 ∧ 2000000000000 ≤ kW (tstr B n lm) i ∧ kW (tstr B n lm) i ≤ 9000000000000000 := tok_word hE.1.2.1 c3 c4
          have h6 : L 6 = -1 := by rw [t6, k2, if_neg (by omega), if_neg (by omega)]
          obtain ⟨L', e, a⟩ := l_pass' (G := xup2 G 0 21 (kW (tstr B n lm) i)) hf (hE.u (by omega)) hA h6 (by omega) (by omega)
          refine ⟨L', ?_, a, by omega, by omega⟩
          rw [e0, if_pos (by rw [k9.2.1]; exact c4), k9.2.1, xlx_upo G L _ (by decide)]
          simp only [Option.bind_some, e, l_bad, a.1]
          unfold g227_166
          simp
      · rw [if_neg (fun q => c3 q.1)]
        rw [if_neg c3] at e0
        refine ⟨xu L 7 ((q : Int) + kS (tstr B n lm) i), ?_, rfl⟩
        rw [e0]
        unfold g227_132
        rw [xlx_4, t4, l_fail]
        simp only [Option.bind_some, h7, if_true]
theorem l_num' {hi : Int} (hf : n + 20 < f) (hE : rEw G q B n lm) (hA : rAt q B n lm i L) (hh : hi ≤ 4) :
    pok (pNum (tstr B n lm) hi i) (fun w => ∃ L', g233 f 1 hi (xlx G L) = some (1, xlx G L') ∧ L' 7 = (q : Int) + w)
      (fun x => ∃ L', g233 f 1 hi (xlx G L) = some (x.1, xlx G L') ∧ rAt q B n lm x.2 L' ∧ 1 ≤ x.1 ∧ x.1 ≤ hi) := by
  obtain ⟨t4, tsg, tn, tv, tu, tnum, tend, tn9, tv9, tnum9, t6, t5, tlt, t3⟩ := hA.tk hE.1.2.1
  have h7 := hA.1
  unfold pNum
  by_cases c : kK (tstr B n lm) i = 4 ∧ 1 ≤ kC (tstr B n lm) i ∧ kC (tstr B n lm) i ≤ hi
  · rw [if_pos c]
    have k2 := tnum.mpr ⟨c.1, by omega⟩
    have k9 := tnum9 k2
    have h6 : L 6 = -1 := by rw [t6, k2]; rfl
    obtain ⟨L', e, a⟩ := l_pass' hf hE hA h6 (by omega) (by omega)
    refine ⟨L', ?_, a, c.2⟩
    unfold g233
    simp only [xlx_2, xlx_3, xlx_4, xlx_5, xlx_6, xlx_7, xlx_8, xlx_9, xlx_10, xlx_u2, xlx_u3, xlx_u4, xlx_u5, xlx_u6, xlx_u7, xlx_u8, xlx_u9, xlx_u10, xu_e, eq_self, reduceIte, Nat.reduceEqDiff, if_true, if_false, not_true_eq_false, not_false_eq_true, Option.bind_some, i10, i01, true_and, false_and, and_false, ne_eq, Int.reduceEq, Int.reduceNeg, l_kind, h7, k2, k9, e]
    rw [if_neg (by omega), if_pos (by omega), xwr_g _ (by omega) (by omega)]
  · rw [if_neg c]
    refine ⟨xu L 7 (L 4), ?_, t4⟩
    unfold g233 g233_28
    simp only [xlx_2, xlx_3, xlx_4, xlx_5, xlx_6, xlx_7, xlx_8, xlx_9, xlx_10, xlx_u2, xlx_u3, xlx_u4, xlx_u5, xlx_u6, xlx_u7, xlx_u8, xlx_u9, xlx_u10, xu_e, eq_self, reduceIte, Nat.reduceEqDiff, if_true, if_false, not_true_eq_false, not_false_eq_true, Option.bind_some, i10, i01, true_and, false_and, and_false, ne_eq, Int.reduceEq, Int.reduceNeg, l_kind, h7, l_fail]
    by_cases k2 : L 2 = 5
    · have k9 := tnum9 k2
      have k3 := tnum.mp k2
      rw [if_neg (by simp [k2]), k9]
      by_cases c1 : kC (tstr B n lm) i < 1
      · rw [if_pos c1]
      · rw [if_neg c1, if_neg (by omega)]
    · rw [if_pos (by simp [k2])]
theorem rAt.sg' {G : xG_} {L : Nat → Int} {i : Nat} {k : Int} (hf : n + 20 < f) (hE : rEw G q B n lm) (hA : rAt q B n lm i L) (hK : kK (tstr B n lm) i = k) (hk : isSg k) : L 3 = rsc k ∧ ∃ L', g213 f (xlx G L) = some (xlx G L') ∧ rAt q B n lm (i + 1) L' := by
  obtain ⟨t4, tsg, tn, tv, tu, tnum, tend, tn9, tv9, tnum9, t6, t5, tlt, t3⟩ := hA.tk hE.1.2.1
  have a1 := (tsg k hk).mpr hK
  have h6 : L 6 = -1 := by rw [t6, a1.1]; rfl
  unfold isSg at hk
  exact ⟨a1.2, l_pass' hf hE hA h6 (by omega) (by omega)⟩
end
end
section
/-! FORMULAS: a CELL, brackets, nodes -/
/-- a CELL -/
def pCell (t : tStr) (i : Nat) : Nat ⊕ (Int × Nat) := if kK t i = 2 ∧ kW t i ≠ -1 then .inr (kW t i, i + 1) else .inl (kS t i)
/-- a bracket that opens, b being open -/
def pOpen (t : tStr) (b i : Nat) : Nat ⊕ Nat := if kK t i = 40 ∧ b ≠ 4 then .inr (i + 1) else .inl (kS t i)
abbrev pNd : Type := Int × Int × Int × Int × Int
abbrev dNd : pNd := (0, 0, 0, 0, 0)
theorem tkd_var {B : Nat → Int} {n s : Nat} (h : tkd B n s = 2) : ¬ B s < 0 ∧ ¬ tSm (B s) ∧ tGr (B s) := by
  have k3 := tsgn_in (B s) (B (s + 1))
  unfold isSg at k3
  have k4 := tres_in (tncode B s (tnend B n s))
  unfold tkd at h
  by_cases c1 : B s < 0
  · rw [if_pos c1] at h; omega
  rw [if_neg c1] at h
  by_cases c2 : tSm (B s)
  · rw [if_pos c2] at h; omega
  rw [if_neg c2] at h
  by_cases c3 : tGr (B s)
  · exact ⟨c1, c2, c3⟩
  rw [if_neg c3] at h
  by_cases c4 : tDi (B s)
  · rw [if_pos c4] at h; omega
  rw [if_neg c4] at h; omega
theorem dg_iff {c : Int} : (if 48 ≤ c ∧ c ≤ 57 then (1 : Int) else 0) = 1 ↔ tDi c := by
  by_cases h : 48 ≤ c ∧ c ≤ 57
  · rw [if_pos h]; exact ⟨fun _ => h, fun _ => rfl⟩
  · rw [if_neg h]; exact ⟨fun q => absurd q (by decide), fun q => absurd q h⟩
section
variable {f q n i : Nat} {B : Nat → Int} {lm : Bool} {G : xG_} {L : Nat → Int}
theorem l_cell_no {s : Nat} (hE : rEw G q B n lm) (h4 : L 4 = (q : Int) + s) (hs : s ≤ n) (hn : ¬ (L 7 = -1 ∧ L 2 = 3)) : g332 f (xlx G L) = some (0, xlx G (if L 7 = -1 then xu L 7 (L 4) else L)) := by
  have hlen := hE.1.len
  have z : g332_171 f (xlx G L) = some (0, xlx G (if L 7 = -1 then xu L 7 (L 4) else L)) := by
    unfold g332_171
    rw [xlx_4, l_fail]
    rfl
  have e1 : xwr (L 4 + 1) = (q : Int) + ((s + 1 : Nat) : Int) := by rw [xwr_g _ (by omega) (by omega)]; omega
  have e2 : xwr (L 4 + 2) = (q : Int) + ((s + 2 : Nat) : Int) := by rw [xwr_g _ (by omega) (by omega)]; omega
  have z143 : ∀ (x3 y0 : Int), g332_143 f (-1) x3 y0 (xlx G L) = some (0, xlx G (if L 7 = -1 then xu L 7 (L 4) else L)) := fun x3 y0 => by
    unfold g332_143
    rw [if_pos (by decide)]
    exact z
  have z95 : ∀ (x1 y0 : Int), g332_95 f x1 (-1) y0 (xlx G L) = some (0, xlx G (if L 7 = -1 then xu L 7 (L 4) else L)) := fun x1 y0 => by
    unfold g332_95 g332_142
    rw [xlx_4, e1, e2, hE.1.see rfl, hE.1.see rfl]
    simp only [Option.bind_some, gdigit, z143]
    split
    · split
      · rfl
      · split <;> rfl
    · rfl
  unfold g332
  rw [l_kind, if_neg hn, Option.bind_some, if_pos rfl]
  have s1 : g209 f ((q : Int) + ((s + 1 : Nat) : Int)) (xlx G L) = some (B (s + 1), xlx G L) := hE.1.see rfl
  have s2 : g209 f ((q : Int) + ((s + 2 : Nat) : Int)) (xlx G L) = some (B (s + 2), xlx G L) := hE.1.see rfl
  unfold g332_33 g332_94
  simp only [xlx_4, e1, e2, s1, s2, Option.bind_some, z95]
  split
  · split
    · rfl
    · split <;> rfl
  · rfl
theorem l_cell (hf : n + 20 < f) (hE : rEw G q B n lm) (hA : rAt q B n lm i L) :
    pok (pCell (tstr B n lm) i) (fun w => g332 f (xlx G L) = some (0, xlx G (xu L 7 ((q : Int) + w))) ∧ w = kS (tstr B n lm) i)
      (fun r => ∃ L', g332 f (xlx G L) = some (r.1, xlx G L') ∧ rAt q B n lm r.2 L' ∧ 0 ≤ r.1 ∧ r.1 < 72 ∧ r.2 = i + 1) := by
  obtain ⟨t4, tsg, tn, tv, tu, tnum, tend, tn9, tv9, tnum9, t6, t5, tlt, t3⟩ := hA.tk hE.1.2.1
  have h7 := hA.1
  have hB := hE.1.2.1
  have hS := tS_le hB i
  have hlen := hE.1.len
  unfold pCell
  by_cases c1 : kK (tstr B n lm) i = 2
  · have k3 : L 2 = 3 := tv.mpr c1
    obtain ⟨v1, v2, v3⟩ := tkd_var (kK_inv c1 (by decide))
    have eS : kS (tstr B n lm) i = tS B n i := rfl
    have eE : kE (tstr B n lm) i = tvend B n (tS B n i) := by
      show ten B n (tS B n i) = _
      unfold ten
      rw [if_neg v1, if_neg v2, if_pos v3]
    have eW : kW (tstr B n lm) i = tcell B (tS B n i) (tvend B n (tS B n i)) := by
      show tse B n (tS B n i) = _
      unfold tse
      rw [if_neg v2, if_pos v3]
    have h5 := t5 (by omega)
    have hlt := tlt (by omega)
    have hen := (ten_le hB hS.1).2.1
    have hen' : kE (tstr B n lm) i ≤ n := hen
    generalize hs : tS B n i = s at *
    generalize he : tvend B n s = e at *
    rw [eS] at t4 hlt
    rw [eE] at h5 hlt hen'
    have e1 : xwr (L 4 + 1) = (q : Int) + ((s + 1 : Nat) : Int) := by rw [xwr_g _ (by omega) (by omega)]; omega
    have e2 : xwr (L 4 + 2) = (q : Int) + ((s + 2 : Nat) : Int) := by rw [xwr_g _ (by omega) (by omega)]; omega
    have s0 : g209 f (L 4) (xlx G L) = some (B s, xlx G L) := hE.1.see t4
    have s1 : g209 f ((q : Int) + ((s + 1 : Nat) : Int)) (xlx G L) = some (B (s + 1), xlx G L) := hE.1.see rfl
    have s2 : g209 f ((q : Int) + ((s + 2 : Nat) : Int)) (xlx G L) = some (B (s + 2), xlx G L) := hE.1.see rfl
    have b1 := hB.le (s + 1)
    have b2 := hB.le (s + 2)
    have en : xwr (L 5 - L 4) = ((e - s : Nat) : Int) := by rw [xwr_g _ (by omega) (by omega)]; omega
    have ec : xwr (B s - 65) = B s - 65 := xwr_g _ (by omega) (by omega)
    have ew1 : xwr (B (s + 1) - 48) = B (s + 1) - 48 := xwr_g _ (by omega) (by omega)
    have ew2 : xwr (xwr (10 + B (s + 2)) - 48) = B (s + 2) - 38 := by rw [xwr_g (10 + B (s + 2)) (by omega) (by omega), xwr_g _ (by omega) (by omega)]; omega
    have z : g332_171 f (xlx G L) = some (0, xlx G (xu L 7 ((q : Int) + (s : Int)))) := by
      unfold g332_171
      rw [xlx_4, l_fail, if_pos h7, t4]
      rfl
    have e0 : g332 f (xlx G L) = g332_33 f ((e - s : Nat) : Int) (B s - 65) (xlx G L) := by
      unfold g332
      have n10 : ¬ ((1 : Int), xlx G L).1 = 0 := fun q => absurd q (by decide : ¬ (1 : Int) = 0)
      rw [l_kind, if_pos ⟨h7, k3⟩, Option.bind_some, if_neg n10]
      simp only [xlx_4, xlx_5, s0, Option.bind_some, en, ec]
    -- the reference's test, and the sense
    have e33 : ∃ row dg : Int, g332_33 f ((e - s : Nat) : Int) (B s - 65) (xlx G L) = g332_143 f (B s - 65) row dg (xlx G L) ∧ (dg = 0 ∨ dg = 1) ∧ ((e = s + 2 ∧ row = B (s + 1) - 48 ∧ (dg = 1 ↔ tDi (B (s + 1)))) ∨ (e = s + 3 ∧ B (s + 1) = 49 ∧ row = B (s + 2) - 38 ∧ (dg = 1 ↔ tDi (B (s + 2)))) ∨ (e = s + 3 ∧ ¬ B (s + 1) = 49 ∧ row = 0) ∨ (¬ e = s + 2 ∧ ¬ e = s + 3 ∧ dg = 0)) := by
      by_cases n2 : e = s + 2
      · have m2 : ¬ ¬ ((e - s : Nat) : Int) = 2 := fun q => q (by omega)
        refine ⟨B (s + 1) - 48, if 48 ≤ B (s + 1) ∧ B (s + 1) ≤ 57 then 1 else 0, ?_, by split <;> omega, .inl ⟨n2, rfl, dg_iff⟩⟩
        unfold g332_33
        rw [if_neg m2, xlx_4, e1, s1, Option.bind_some]
        show g332_95 f _ _ (xwr (B (s + 1) - 48)) (xlx G L) = _
        unfold g332_95
        rw [if_neg m2, xlx_4, e1, s1, Option.bind_some]
        show Option.bind (g208 f (B (s + 1)) (xlx G L)) _ = _
        rw [gdigit, Option.bind_some, ew1]
      · have m2 : ¬ ((e - s : Nat) : Int) = 2 := by omega
        by_cases n3 : e = s + 3
        · have m3 : ¬ ¬ ((e - s : Nat) : Int) = 3 := fun q => q (by omega)
          have e95 : ∀ y : Int, g332_95 f ((e - s : Nat) : Int) (B s - 65) y (xlx G L) = g332_143 f (B s - 65) y (if 48 ≤ B (s + 2) ∧ B (s + 2) ≤ 57 then 1 else 0) (xlx G L) := fun y => by
            unfold g332_95 g332_142
            rw [if_pos m2, if_neg m3, xlx_4, e2, s2, Option.bind_some]
            show Option.bind (g208 f (B (s + 2)) (xlx G L)) _ = _
            rw [gdigit, Option.bind_some]
            by_cases cd : 48 ≤ B (s + 2) ∧ B (s + 2) ≤ 57
            · simp only [if_pos cd]
              rw [if_neg (by decide)]
            · simp only [if_neg cd]
              rw [if_pos trivial]
          by_cases n49 : B (s + 1) = 49
          · refine ⟨B (s + 2) - 38, if 48 ≤ B (s + 2) ∧ B (s + 2) ≤ 57 then 1 else 0, ?_, by split <;> omega, .inr (.inl ⟨n3, n49, rfl, dg_iff⟩)⟩
            have m49 : ¬ ¬ B (s + 1) = 49 := fun q => q n49
            rw [← e95]
            unfold g332_33
            rw [if_pos m2, if_neg m3, xlx_4, e1, s1, Option.bind_some]
            show (if ¬ B (s + 1) = 49 then _ else _) = _
            rw [if_neg m49]
            show Option.bind (g209 f (xwr (xlx G L 0 4 + 2)) (xlx G L)) _ = _
            rw [xlx_4, e2, s2, Option.bind_some, ew2]
          · refine ⟨0, if 48 ≤ B (s + 2) ∧ B (s + 2) ≤ 57 then 1 else 0, ?_, by split <;> omega, .inr (.inr (.inl ⟨n3, n49, rfl⟩))⟩
            rw [← e95]
            unfold g332_33 g332_94
            rw [if_pos m2, if_neg m3, xlx_4, e1, s1, Option.bind_some]
            show (if ¬ B (s + 1) = 49 then _ else _) = _
            rw [if_pos n49]
        · have m3 : ¬ ((e - s : Nat) : Int) = 3 := by omega
          refine ⟨0, 0, ?_, .inl rfl, .inr (.inr (.inr ⟨n2, n3, rfl⟩))⟩
          unfold g332_33 g332_94
          rw [if_pos m2, if_pos m3]
          unfold g332_95 g332_142
          rw [if_pos m2, if_pos m3]
    obtain ⟨row, dg, e33, hdg, cs⟩ := e33
    rw [e0, e33]
    by_cases c2 : tcell B s e = -1
    · have ng : ¬ (kK (tstr B n lm) i = 2 ∧ kW (tstr B n lm) i ≠ -1) := fun q => q.2 (by rw [eW]; exact c2)
      rw [if_neg ng, eS]
      refine ⟨?_, rfl⟩
      unfold g332_143
      unfold tcell at c2
      by_cases a0 : B s - 65 < 0
      · rw [if_pos a0]; exact z
      rw [if_neg a0]
      by_cases a1 : 6 ≤ B s - 65
      · rw [if_pos a1]; exact z
      rw [if_neg a1]
      rw [if_neg a1] at c2
      by_cases a2 : dg = 0
      · rw [if_pos a2]; exact z
      rw [if_neg a2]
      by_cases a3 : row < 1
      · rw [if_pos a3]; exact z
      rw [if_neg a3]
      by_cases a4 : row ≤ 12
      · exfalso
        rcases cs with ⟨d1, d2, d3⟩ | ⟨d1, d2, d3, d4⟩ | ⟨d1, d2, d3⟩ | ⟨d1, d2, d3⟩
        · have := d3.mp (by omega)
          rw [if_pos d1, if_pos (by omega)] at c2
          omega
        · have := d4.mp (by omega)
          rw [if_neg (by omega), if_pos d1, if_pos (by omega)] at c2
          omega
        · omega
        · exact a2 d3
      · rw [if_neg a4]; exact z
    · have ng : kK (tstr B n lm) i = 2 ∧ kW (tstr B n lm) i ≠ -1 := ⟨c1, by rw [eW]; exact c2⟩
      rw [if_pos ng]
      have h6 : L 6 = -1 := by
        rw [t6, if_neg (by omega), if_neg]
        unfold tcell at c2
        rintro ⟨_, q2⟩
        rw [eE, eS] at q2
        rw [if_neg (c := e = s + 2) (by omega), if_neg (c := e = s + 3) (by omega)] at c2
        split at c2 <;> exact c2 rfl
      obtain ⟨L', p1, p2⟩ := l_pass' hf hE hA h6 (by omega) (by omega)
      have ok : 0 ≤ B s - 65 ∧ B s - 65 < 6 ∧ dg = 1 ∧ 1 ≤ row ∧ row ≤ 12 ∧ tcell B s e = B s - 65 + 6 * (row - 1) := by
        unfold tcell at c2 ⊢
        by_cases a1 : 6 ≤ B s - 65
        · rw [if_pos a1] at c2
          exact absurd rfl c2
        rw [if_neg a1] at c2 ⊢
        rcases cs with ⟨d1, d2, d3⟩ | ⟨d1, d2, d3, d4⟩ | ⟨d1, d2, d3⟩ | ⟨d1, d2, d3⟩
        · rw [if_pos d1] at c2 ⊢
          by_cases a5 : 49 ≤ B (s + 1) ∧ B (s + 1) ≤ 57
          · rw [if_pos a5]
            exact ⟨by omega, by omega, d3.mpr (by omega), by omega, by omega, by omega⟩
          · rw [if_neg a5] at c2
            exact absurd rfl c2
        · rw [if_neg (by omega), if_pos d1] at c2 ⊢
          by_cases a5 : B (s + 1) = 49 ∧ 48 ≤ B (s + 2) ∧ B (s + 2) ≤ 50
          · rw [if_pos a5]
            exact ⟨by omega, by omega, d4.mpr (by omega), by omega, by omega, by omega⟩
          · rw [if_neg a5] at c2
            exact absurd rfl c2
        · rw [if_neg (by omega), if_pos d1, if_neg (fun q => d2 q.1)] at c2
          exact absurd rfl c2
        · rw [if_neg d1, if_neg d2] at c2
          exact absurd rfl c2
      obtain ⟨o1, o2, o3, o4, o5, o6⟩ := ok
      refine ⟨L', ?_, p2, ?_, ?_, rfl⟩
      · unfold g332_143
        rw [if_neg (by omega), if_neg (by omega), if_neg (by omega), if_neg (by omega), if_pos o5, p1, Option.bind_some, eW, o6, xwr_g (row - 1) (by omega) (by omega), xwr_g (6 * (row - 1)) (by omega) (by omega), xwr_g _ (by omega) (by omega)]
      · show 0 ≤ kW (tstr B n lm) i
        rw [eW, o6]; omega
      · show kW (tstr B n lm) i < 72
        rw [eW, o6]; omega
  · rw [if_neg (fun q => c1 q.1)]
    have hk : ¬ (L 7 = -1 ∧ L 2 = 3) := fun q => c1 (tv.mp q.2)
    have := l_cell_no (f := f) (s := kS (tstr B n lm) i) hE t4 hS.1 hk
    rw [if_pos h7, t4] at this
    exact ⟨this, rfl⟩
end
end
section
/-! FORMULAS: words, brackets, nodes of the reference -/
section
variable {f q n i : Nat} {B : Nat → Int} {lm : Bool} {G : xG_} {L : Nat → Int}
theorem rAt.isname' (hE : rEw G q B n lm) (hA : rAt q B n lm i L) : g226 f (xlx G L) = some (if kK (tstr B n lm) i = 1 then 1 else 0, xlx G L) := by
  obtain ⟨t4, tsg, tn, tv, tu, tnum, tend, tn9, tv9, tnum9, t6, t5, tlt, t3⟩ := hA.tk hE.1.2.1
  rw [l_name hE.2.2]
  have : (L 7 = -1 ∧ L 2 = 2 ∧ tres (L 9) = 1) ↔ kK (tstr B n lm) i = 1 := by
    constructor
    · rintro ⟨_, a, b⟩
      have := tn9 a
      rw [← this.2.2, ← this.1]; exact b
    · intro c3
      have k2 := tn.mpr (.inl c3)
      have k9 := tn9 k2
      exact ⟨hA.1, k2, by rw [k9.1, k9.2.2]; exact c3⟩
  simp only [this]
theorem rAt.isword' {c k : Int} (hE : rEw G q B n lm) (hA : rAt q B n lm i L) (h1 : tres c = k) (h2 : ∀ x, tres x = k → x = c) (hk : 6 ≤ k ∧ k ≤ 13) : g225 f c (xlx G L) = some (if kK (tstr B n lm) i = k then 1 else 0, xlx G L) := by
  obtain ⟨t4, tsg, tn, tv, tu, tnum, tend, tn9, tv9, tnum9, t6, t5, tlt, t3⟩ := hA.tk hE.1.2.1
  rw [l_word]
  have : (L 7 = -1 ∧ L 2 = 2 ∧ L 9 = c) ↔ kK (tstr B n lm) i = k := by
    constructor
    · rintro ⟨_, a, b⟩
      have := tn9 a
      rw [← this.2.2, ← this.1, b]; exact h1
    · intro c3
      have k2 := tn.mpr (.inr (by rw [c3]; exact hk))
      have k9 := tn9 k2
      exact ⟨hA.1, k2, by rw [k9.1]; exact h2 _ (by rw [k9.2.2]; exact c3)⟩
  simp only [this]
theorem rAt.issign' {c : Int} (hE : rEw G q B n lm) (hA : rAt q B n lm i L) (hc : isSg c) : g220 f (rsc c) (xlx G L) = some (if kK (tstr B n lm) i = c then 1 else 0, xlx G L) := by
  have := (hA.tk hE.1.2.1).2.1 c hc
  rw [l_sign]
  simp only [hA.1, true_and, this]
theorem rAt.nm' (hE : rEw G q B n lm) (hA : rAt q B n lm i L) (hK : kK (tstr B n lm) i = 1) : L 9 = kC (tstr B n lm) i ∧ L 10 = kW (tstr B n lm) i ∧ L 6 = (if 12 < kE (tstr B n lm) i - kS (tstr B n lm) i then (q : Int) + kS (tstr B n lm) i + 12 else -1) := by
  obtain ⟨t4, tsg, tn, tv, tu, tnum, tend, tn9, tv9, tnum9, t6, t5, tlt, t3⟩ := hA.tk hE.1.2.1
  have k2 := tn.mpr (.inl hK)
  refine ⟨(tn9 k2).1, (tn9 k2).2.1, ?_⟩
  rw [t6, k2]
  simp
theorem tok_len {B : Nat → Int} {n i : Nat} {lm : Bool} (hB : tTx B n) (hK : kK (tstr B n lm) i = 1 ∨ 6 ≤ kK (tstr B n lm) i ∧ kK (tstr B n lm) i ≤ 13) (hC : kC (tstr B n lm) i < 238572050223552512) : ¬ 12 < kE (tstr B n lm) i - kS (tstr B n lm) i := by
  intro h12
  have hS := tS_le hB i
  have hkd := kK_inv (lm := lm) (i := i) (B := B) (n := n) rfl (by omega)
  have hsm : tSm (B (tS B n i)) ∧ ¬ B (tS B n i) < 0 := by
    have k3 := tsgn_in (B (tS B n i)) (B (tS B n i + 1))
    unfold isSg at k3
    unfold tkd at hkd
    by_cases c1 : B (tS B n i) < 0
    · rw [if_pos c1] at hkd; omega
    rw [if_neg c1] at hkd
    by_cases c2 : tSm (B (tS B n i))
    · exact ⟨c2, c1⟩
    rw [if_neg c2] at hkd
    by_cases c3 : tGr (B (tS B n i))
    · rw [if_pos c3] at hkd; omega
    rw [if_neg c3] at hkd
    by_cases c4 : tDi (B (tS B n i))
    · rw [if_pos c4] at hkd; omega
    rw [if_neg c4] at hkd; omega
  have eE : kE (tstr B n lm) i = tnend B n (tS B n i) := by show ten B n (tS B n i) = _; unfold ten; rw [if_neg hsm.2, if_pos hsm.1]
  have eS : kS (tstr B n lm) i = tS B n i := rfl
  rw [eE, eS] at h12
  have hr := trun_is (P := tNm) hB (by decide) (n - tS B n i) (tS B n i) (Nat.le_refl _) hS.1
  have e38 := tenc_in (b := 38) (d := xdig) (B := B) (s := tS B n i) (by decide) 11 (fun j hj => tNm_dig (hr.2.2.1 _ (by omega) (by have : trun B tNm (n - tS B n i) (tS B n i) = tnend B n (tS B n i) := rfl; omega)))
  have hco : kC (tstr B n lm) i = tenc 38 xdig B (tS B n i) 12 := by
    show tco B n (tS B n i) = _
    unfold tco tncode
    rw [if_pos hsm.1, show min (tnend B n (tS B n i) - tS B n i) 12 = 12 by omega]
  have hlo : ∀ k, k ≤ 12 → 1 ≤ k → 38 ^ (k - 1) ≤ tenc 38 xdig B (tS B n i) k := by
    intro k
    induction k with
    | zero => intro _ h; omega
    | succ k ih =>
      intro hk _
      have hd := tNm_dig (hr.2.2.1 (tS B n i + k) (by omega) (by have : trun B tNm (n - tS B n i) (tS B n i) = tnend B n (tS B n i) := rfl; omega))
      rw [tenc_s]
      cases k with
      | zero => show (1 : Int) ≤ 0 * 38 + _; omega
      | succ k =>
        have := ih (by omega) (by omega)
        have e1 : (38 : Int) ^ (k + 1 + 1 - 1) = 38 ^ k * 38 := Int.pow_succ 38 k
        have e2 : (38 : Int) ^ (k + 1 - 1) = 38 ^ k := rfl
        rw [e1]
        rw [e2] at this
        omega
  have h11 := hlo 12 (by omega) (by omega)
  have e11 : (38 : Int) ^ (12 - 1) = 238572050223552512 := by decide
  rw [e11, ← hco] at h11
  omega
theorem rAt.wd' (hf : n + 20 < f) (hE : rEw G q B n lm) (hA : rAt q B n lm i L) (hK : 6 ≤ kK (tstr B n lm) i ∧ kK (tstr B n lm) i ≤ 13) : L 9 = kC (tstr B n lm) i ∧ tres (kC (tstr B n lm) i) = kK (tstr B n lm) i ∧ ∃ L', g213 f (xlx G L) = some (xlx G L') ∧ rAt q B n lm (i + 1) L' := by
  obtain ⟨t4, tsg, tn, tv, tu, tnum, tend, tn9, tv9, tnum9, t6, t5, tlt, t3⟩ := hA.tk hE.1.2.1
  have k2 := tn.mpr (.inr hK)
  have k9 := tn9 k2
  have hin := @tres_inv (kC (tstr B n lm) i)
  rw [k9.2.2] at hin
  have h12 := tok_len hE.1.2.1 (lm := lm) (i := i) (.inr hK) (by omega)
  have h6 : L 6 = -1 := by
    rw [t6, if_neg (fun q => h12 q.2), if_neg (by omega)]
  exact ⟨k9.1, k9.2.2, l_pass' hf hE hA h6 (by omega) (by omega)⟩
/-- the word if -/
theorem rAt.isif' (hE : rEw G q B n lm) (hA : rAt q B n lm i L) : g225 f (G 0 20) (xlx G L) = some (if kK (tstr B n lm) i = 1 ∧ kC (tstr B n lm) i = 348 then 1 else 0, xlx G L) := by
  obtain ⟨t4, tsg, tn, tv, tu, tnum, tend, tn9, tv9, tnum9, t6, t5, tlt, t3⟩ := hA.tk hE.1.2.1
  rw [hE.2.2.2.2.2.2.2.2.2.2, l_word]
  have : (L 7 = -1 ∧ L 2 = 2 ∧ L 9 = 348) ↔ (kK (tstr B n lm) i = 1 ∧ kC (tstr B n lm) i = 348) := by
    constructor
    · rintro ⟨_, a, b⟩
      have := tn9 a
      have e : kC (tstr B n lm) i = 348 := by rw [← this.1]; exact b
      refine ⟨?_, e⟩
      rw [← this.2.2, e]
      decide
    · rintro ⟨a, b⟩
      have k2 := tn.mpr (.inl a)
      exact ⟨hA.1, k2, by rw [(tn9 k2).1]; exact b⟩
  simp only [this]
theorem rAt.if' (hf : n + 20 < f) (hE : rEw G q B n lm) (hA : rAt q B n lm i L) (hK : kK (tstr B n lm) i = 1) (hC : kC (tstr B n lm) i = 348) : ∃ L', g213 f (xlx G L) = some (xlx G L') ∧ rAt q B n lm (i + 1) L' := by
  obtain ⟨t4, tsg, tn, tv, tu, tnum, tend, tn9, tv9, tnum9, t6, t5, tlt, t3⟩ := hA.tk hE.1.2.1
  have k2 := tn.mpr (.inl hK)
  have h12 := tok_len hE.1.2.1 (lm := lm) (i := i) (.inl hK) (by omega)
  have h6 : L 6 = -1 := by
    rw [t6, if_neg (fun q => h12 q.2), if_neg (by omega)]
  exact l_pass' hf hE hA h6 (by omega) (by omega)
/-- where the limit of TOKENS is, none is passed -/
theorem rAt.lim {k : Int} (hA : rAt q B n true i L) (hK : kK (tstr B n true) i = k) (h0 : k ≠ 0) (h5 : k ≠ 5) : i ≤ 61 := by
  have e : kK (tstr B n true) i = if 0 ≤ B (tS B n i) ∧ true = true ∧ 62 ≤ i then 5 else tkd B n (tS B n i) := rfl
  rw [e] at hK
  by_cases c : 0 ≤ B (tS B n i) ∧ true = true ∧ 62 ≤ i
  · rw [if_pos c] at hK
    exact absurd hK.symm h5
  · rw [if_neg c] at hK
    by_cases c2 : B (tS B n i) < 0
    · have : tkd B n (tS B n i) = 0 := if_pos c2
      rw [this] at hK
      exact absurd hK.symm h0
    · refine Decidable.byContradiction fun q => c ⟨by omega, rfl, by omega⟩
/-- the nodes that are read -/
def rNd (G : xG_) (N : List pNd) : Prop := G 0 89 = (N.length : Int) ∧ ∀ j, j < N.length → G 258 j = (N.getD j dNd).1 ∧ G 259 j = (N.getD j dNd).2.1 ∧ G 260 j = (N.getD j dNd).2.2.1 ∧ G 261 j = (N.getD j dNd).2.2.2.1 ∧ G 262 j = (N.getD j dNd).2.2.2.2
theorem rNd.ge {G G' : xG_} {N : List pNd} (h : rNd G N) (h0 : G' 0 89 = G 0 89) (hf : ∀ a j, 258 ≤ a → a ≤ 262 → G' a j = G a j) : rNd G' N := ⟨by rw [h0]; exact h.1, fun j hj => by
  rw [hf _ _ (by decide) (by decide), hf _ _ (by decide) (by decide), hf _ _ (by decide) (by decide), hf _ _ (by decide) (by decide), hf _ _ (by decide) (by decide)]
  exact h.2 j hj⟩
def nPut (G : xG_) (c : Nat) (a1 a2 a3 a4 a5 : Int) : xG_ := xup2 (xup2 (xup2 (xup2 (xup2 (xup2 G 258 c a1) 259 c a2) 260 c a3) 261 c a4) 262 c a5) 0 89 ((c + 1 : Nat) : Int)
theorem l_node {c : Nat} {a1 a2 a3 a4 a5 : Int} (hc : G 0 89 = (c : Int)) (hc2 : c < 140) : g331 f a1 a2 a3 a4 a5 (xlx G L) = some ((c : Int), xlx (nPut G c a1 a2 a3 a4 a5) L) := by
  have hcc : 0 ≤ (c : Int) ∧ (c : Int) < 140 := by omega
  have e1 : xwr ((c : Int) + 1) = ((c + 1 : Nat) : Int) := by rw [xwr_g _ (by omega) (by omega)]; omega
  have e2 : xwr (((c + 1 : Nat) : Int) - 1) = (c : Int) := by rw [xwr_g _ (by omega) (by omega)]; omega
  unfold g331
  simp only [xlx_o _ _ (show ¬ (0 = 0 ∧ 2 ≤ 89 ∧ 89 ≤ 10) by decide), xlx_upo _ _ _ (show ¬ (258 = 0 ∧ 2 ≤ c ∧ c ≤ 10) by omega)]
  rw [hc, if_pos hcc, Int.toNat_natCast, Option.bind_some, xlx_upo _ _ _ (by omega), xlx_o _ _ (by omega), xup2_n (by omega), hc, if_pos hcc, Option.bind_some, Int.toNat_natCast, xlx_upo _ _ _ (by omega), xlx_o _ _ (by omega), xup2_n (by omega), xup2_n (by omega), hc, if_pos hcc, Option.bind_some, Int.toNat_natCast, xlx_upo _ _ _ (by omega), xlx_o _ _ (by omega), xup2_n (by omega), xup2_n (by omega), xup2_n (by omega), hc, if_pos hcc, Option.bind_some, Int.toNat_natCast, xlx_upo _ _ _ (by omega), xlx_o _ _ (by omega), xup2_n (by omega), xup2_n (by omega), xup2_n (by omega), xup2_n (by omega), hc, if_pos hcc, Option.bind_some, Int.toNat_natCast, xlx_upo _ _ _ (by omega), xlx_o _ _ (by omega), xup2_n (by omega), xup2_n (by omega), xup2_n (by omega), xup2_n (by omega), xup2_n (by omega), hc, e1, Option.bind_some, xlx_upo _ _ _ (by omega), xlx_o _ _ (by omega), xup2_s, e2]
  rfl
theorem nPut_ff {c : Nat} {a1 a2 a3 a4 a5 : Int} : xff G (nPut G c a1 a2 a3 a4 a5) := fun a j y1 y2 => by
  unfold nPut
  rw [xup2_n (by omega), xup2_n (by omega), xup2_n (by omega), xup2_n (by omega), xup2_n (by omega), xup2_n (by omega)]
theorem rNd.put {N : List pNd} {a1 a2 a3 a4 a5 : Int} (h : rNd G N) : rNd (nPut G N.length a1 a2 a3 a4 a5) (N ++ [(a1, a2, a3, a4, a5)]) := by
  refine ⟨by rw [List.length_append]; exact xup2_s _ _ _ _, fun j hj => ?_⟩
  rw [List.length_append] at hj
  have hj' : j < N.length + 1 := hj
  rw [getD_1]
  unfold nPut
  by_cases c : j = N.length
  · rw [if_pos c, c]
    refine ⟨?_, ?_, ?_, ?_, ?_⟩
    · rw [xup2_n (by omega), xup2_n (by omega), xup2_n (by omega), xup2_n (by omega), xup2_n (by omega), xup2_s]
    · rw [xup2_n (by omega), xup2_n (by omega), xup2_n (by omega), xup2_n (by omega), xup2_s]
    · rw [xup2_n (by omega), xup2_n (by omega), xup2_n (by omega), xup2_s]
    · rw [xup2_n (by omega), xup2_n (by omega), xup2_s]
    · rw [xup2_n (by omega), xup2_s]
  · rw [if_neg c]
    have := h.2 j (by omega)
    refine ⟨?_, ?_, ?_, ?_, ?_⟩ <;> rw [xup2_n (by omega), xup2_n (by omega), xup2_n (by omega), xup2_n (by omega), xup2_n (by omega), xup2_n (by omega)]
    · exact this.1
    · exact this.2.1
    · exact this.2.2.1
    · exact this.2.2.2.1
    · exact this.2.2.2.2
/-- while a FORMULA is read -/
def rYX (G : xG_) (q : Nat) (B : Nat → Int) (n : Nat) (N : List pNd) (b : Nat) : Prop := rEw G q B n true ∧ rNd G N ∧ G 0 25 = (b : Int) ∧ b ≤ 4
theorem rYX.put {N : List pNd} {b : Nat} {a1 a2 a3 a4 a5 : Int} (h : rYX G q B n N b) : rYX (nPut G N.length a1 a2 a3 a4 a5) q B n (N ++ [(a1, a2, a3, a4, a5)]) b := by
  refine ⟨h.1.fr nPut_ff, h.2.1.put, ?_, h.2.2.2⟩
  unfold nPut
  rw [xup2_n (by omega), xup2_n (by omega), xup2_n (by omega), xup2_n (by omega), xup2_n (by omega), xup2_n (by omega)]
  exact h.2.2.1
/-- open and close while WRONG -/
theorem l_open_bad (h : L 7 ≠ -1) : ∃ v, g336 f (xlx G L) = some (xlx (xup2 G 0 25 v) L) := by
  refine ⟨xwr (G 0 25 + 1), ?_⟩
  unfold g336 g336_25
  rw [l_sign, if_neg (fun q => h q.1), Option.bind_some]
  show (if (0 : Int) = 0 then _ else _) = _
  rw [if_pos rfl]
  show Option.bind (some (xup2 (xlx G L) 0 25 (xwr ((xlx G L) 0 25 + 1)))) _ = _
  rw [xlx_o _ _ (by omega), xlx_upo _ _ _ (by omega), Option.bind_some, l_need_bad h]
  rfl
theorem l_close_bad (h : L 7 ≠ -1) : ∃ v, g337 f (xlx G L) = some (xlx (xup2 G 0 25 v) L) := by
  refine ⟨xwr (G 0 25 - 1), ?_⟩
  unfold g337
  rw [xlx_o _ _ (by omega), xlx_upo _ _ _ (by omega), Option.bind_some, l_need_bad h]
  rfl
theorem rYX.b {N : List pNd} {b b' : Nat} (h : rYX G q B n N b) (hb : b' ≤ 4) : rYX (xup2 G 0 25 (b' : Int)) q B n N b' := ⟨h.1.u (.inr rfl), h.2.1.ge (xup2_n (by omega)) (fun a j _ _ => xup2_n (by omega)), xup2_s _ _ _ _, hb⟩
theorem l_open {N : List pNd} {b : Nat} (hf : n + 20 < f) (hX : rYX G q B n N b) (hA : rAt q B n true i L) :
    pok (pOpen (tstr B n true) b i) (fun w => ∃ v L', g336 f (xlx G L) = some (xlx (xup2 G 0 25 v) L') ∧ L' 7 = (q : Int) + w)
      (fun j => ∃ L', g336 f (xlx G L) = some (xlx (xup2 G 0 25 ((b + 1 : Nat) : Int)) L') ∧ rAt q B n true j L' ∧ j = i + 1 ∧ b < 4 ∧ kK (tstr B n true) i = 40) := by
  obtain ⟨hE, hN, h25, hb⟩ := hX
  have t4 := (hA.tk hE.1.2.1).1
  have h40 : isSg 40 := by unfold isSg; omega
  have hs := hA.issign' (f := f) hE h40
  have hs' : g220 f 40 (xlx G L) = _ := hs
  have eb : xwr ((b : Int) + 1) = ((b + 1 : Nat) : Int) := by rw [xwr_g _ (by omega) (by omega)]; omega
  unfold pOpen
  by_cases c1 : kK (tstr B n true) i = 40
  · by_cases c2 : b = 4
    · rw [if_neg (fun q => q.2 c2)]
      have hbad : xu L 7 (L 4) 7 ≠ -1 := by show L 4 ≠ -1; omega
      refine ⟨((b + 1 : Nat) : Int), xu L 7 (L 4), ?_, t4⟩
      have n4 : ¬ ¬ (b : Int) = 4 := fun q => q (by omega)
      have n1 : ¬ (1 : Int) = 0 := by decide
      unfold g336
      rw [hs', if_pos c1, Option.bind_some]
      simp only [if_neg n1, xlx_o _ _ (show ¬ (0 = 0 ∧ 2 ≤ 25 ∧ 25 ≤ 10) by decide), h25, if_neg n4, xlx_4, l_fail, if_pos hA.1, Option.bind_some]
      unfold g336_25
      rw [xlx_o _ _ (by omega), h25, eb, xlx_upo _ _ _ (by omega), Option.bind_some, l_need_bad hbad]
      rfl
    · rw [if_pos ⟨c1, c2⟩]
      obtain ⟨L', d1, d2⟩ := l_need' hf (hE.u (k := 25) (v := ((b + 1 : Nat) : Int)) (.inr rfl)) hA h40 c1
      have d1' : g222 f 40 (xlx (xup2 G 0 25 ((b + 1 : Nat) : Int)) L) = _ := d1
      refine ⟨L', ?_, d2, rfl, by omega, c1⟩
      have n4 : ¬ (b : Int) = 4 := by omega
      have n1 : ¬ (1 : Int) = 0 := by decide
      unfold g336
      rw [hs', if_pos c1, Option.bind_some]
      simp only [if_neg n1, xlx_o _ _ (show ¬ (0 = 0 ∧ 2 ≤ 25 ∧ 25 ≤ 10) by decide), h25, if_pos n4]
      unfold g336_25
      rw [xlx_o _ _ (by omega), h25, eb, xlx_upo _ _ _ (by omega), Option.bind_some, d1']
      rfl
  · rw [if_neg (fun q => c1 q.1)]
    have d1 := l_need_no' (f := f) (hE.u (k := 25) (v := ((b + 1 : Nat) : Int)) (.inr rfl)) hA h40 c1
    have d1' : g222 f 40 (xlx (xup2 G 0 25 ((b + 1 : Nat) : Int)) L) = _ := d1
    have hx7 : xu L 7 ((q : Int) + kS (tstr B n true) i) 7 = (q : Int) + kS (tstr B n true) i := if_pos rfl
    refine ⟨((b + 1 : Nat) : Int), xu L 7 ((q : Int) + kS (tstr B n true) i), ?_, hx7⟩
    unfold g336
    rw [hs', if_neg c1, Option.bind_some]
    simp only [if_true]
    unfold g336_25
    rw [xlx_o _ _ (by omega), h25, eb, xlx_upo _ _ _ (by omega), Option.bind_some, d1']
    rfl
theorem l_close {b : Nat} (hf : n + 20 < f) (hE : rEw G q B n true) (h25 : G 0 25 = ((b + 1 : Nat) : Int)) (hb : b ≤ 4) (hA : rAt q B n true i L) :
    pok (pNeed (tstr B n true) 41 i) (fun w => ∃ v L', g337 f (xlx G L) = some (xlx (xup2 G 0 25 v) L') ∧ L' 7 = (q : Int) + w)
      (fun j => ∃ L', g337 f (xlx G L) = some (xlx (xup2 G 0 25 (b : Int)) L') ∧ rAt q B n true j L' ∧ j = i + 1 ∧ kK (tstr B n true) i = 41) := by
  have h41 : isSg 41 := by unfold isSg; omega
  have eb : xwr (((b + 1 : Nat) : Int) - 1) = (b : Int) := by rw [xwr_g _ (by omega) (by omega)]; omega
  have e0 : g337 f (xlx G L) = (g222 f 41 (xlx (xup2 G 0 25 (b : Int)) L)).bind fun R105 => some R105 := by
    unfold g337
    rw [xlx_o _ _ (by omega), h25, eb, xlx_upo _ _ _ (by omega), Option.bind_some]
  unfold pNeed
  by_cases c : kK (tstr B n true) i = 41
  · rw [if_pos c]
    obtain ⟨L', d1, d2⟩ := l_need' hf (hE.u (k := 25) (v := (b : Int)) (.inr rfl)) hA h41 c
    have d1' : g222 f 41 (xlx (xup2 G 0 25 (b : Int)) L) = _ := d1
    exact ⟨L', by rw [e0, d1']; rfl, d2, rfl, c⟩
  · rw [if_neg c]
    have d1 := l_need_no' (f := f) (hE.u (k := 25) (v := (b : Int)) (.inr rfl)) hA h41 c
    have d1' : g222 f 41 (xlx (xup2 G 0 25 (b : Int)) L) = _ := d1
    exact ⟨(b : Int), _, by rw [e0, d1']; rfl, rfl⟩
end
end
section
/-! FORMULAS: what a text says -/
/-- nodes, the latest one's number, TOKEN -/
abbrev pFm : Type := List pNd × Int × Nat
def pOf (t : tStr) (b : Nat) (N : List pNd) (i : Nat) : Nat ⊕ pFm :=
  pbind (pOpen t b (i + 1)) fun j =>
  if (kK t i = 10 ∨ kK t i = 11) ∧ kK t j = 2 then
    pbind (pCell t j) fun a => pbind (pNeed t 58 a.2) fun k => pbind (pCell t k) fun c =>
    if c.1 % 6 < a.1 % 6 ∨ c.1 / 6 < a.1 / 6 then .inl (kS t k) else
    pbind (pNeed t 41 c.2) fun j => .inr (N ++ [(if kK t i = 11 then 4 else 5, a.1, c.1, 0, 0)], (N.length : Int), j)
  else
    pbind (pName t j) fun x => pbind (if kK t i = 10 then .inr ((0 : Int), x.2) else pbind (pNeed t 44 x.2) fun k => pNum t 4 k) fun k =>
    pbind (pNeed t 41 k.2) fun j => .inr (N ++ [(kK t i - 4, k.1, 0, 0, x.1)], (N.length : Int), j)
/-- 0 an operand, 1 a FORMULA, 2 what stands between weak signs, 3 strong signs, 4 weak signs; b brackets are open -/
def pF (t : tStr) : Nat → Nat → Nat → pFm → Nat ⊕ pFm
  | 0, _, _, _ => .inl 0
  | F + 1, 0, b, e =>
    if kK t e.2.2 = 2 then pbind (pCell t e.2.2) fun r => .inr (e.1 ++ [(2, r.1, 0, 0, 0)], (e.1.length : Int), r.2)
    else if kK t e.2.2 = 40 then pbind (pOpen t b e.2.2) fun i => pbind (pF t F 1 (b + 1) (e.1, 0, i)) fun e' => pbind (pNeed t 41 e'.2.2) fun i => .inr (e'.1, e'.2.1, i)
    else if kK t e.2.2 = 1 ∧ kC t e.2.2 = 348 then
      pbind (pOpen t b (e.2.2 + 1)) fun i => pbind (pF t F 1 (b + 1) (e.1, 0, i)) fun x => pbind (pNeed t 44 x.2.2) fun i => pbind (pF t F 1 (b + 1) (x.1, 0, i)) fun y =>
      pbind (pNeed t 44 y.2.2) fun i => pbind (pF t F 1 (b + 1) (y.1, 0, i)) fun z => pbind (pNeed t 41 z.2.2) fun i => .inr (z.1 ++ [(10, x.2.1, y.2.1, z.2.1, 0)], (z.1.length : Int), i)
    else if 10 ≤ kK t e.2.2 ∧ kK t e.2.2 ≤ 13 then pOf t b e.1 e.2.2
    else pbind (pVal t e.2.2) fun r => .inr (e.1 ++ [(1, 0, 0, 0, r.1)], (e.1.length : Int), r.2)
  | F + 1, 1, b, e => pbind (pF t F 2 b e) fun e' => pF t F 4 b e'
  | F + 1, 2, b, e => pbind (pF t F 0 b e) fun e' => pF t F 3 b e'
  | F + 1, 3, b, e =>
    if kK t e.2.2 = 42 ∨ kK t e.2.2 = 47 ∨ kK t e.2.2 = 37 then pbind (pF t F 0 b (e.1, 0, e.2.2 + 1)) fun y => pF t F 3 b (y.1 ++ [(3, e.2.1, y.2.1, kK t e.2.2, 0)], (y.1.length : Int), y.2.2)
    else .inr e
  | F + 1, _, b, e =>
    if kK t e.2.2 = 43 ∨ kK t e.2.2 = 45 then pbind (pF t F 2 b (e.1, 0, e.2.2 + 1)) fun y => pF t F 4 b (y.1 ++ [(3, e.2.1, y.2.1, kK t e.2.2, 0)], (y.1.length : Int), y.2.2)
    else .inr e
theorem pbind_in {α β : Type} {x : Nat ⊕ α} {k : α → Nat ⊕ β} {y : β} (h : pbind x k = .inr y) : ∃ a, x = .inr a ∧ k a = .inr y := by
  cases x with
  | inl w => cases h
  | inr a => exact ⟨a, rfl, h⟩
/-- a node's parts lie ahead of it -/
def wNd (N : List pNd) (k : Nat) (y : pNd) : Prop := (y.1 = 1 ∧ vOk y.2.2.2.2 ∨ y.1 = 2 ∧ 0 ≤ y.2.1 ∧ y.2.1 < 72 ∨ y.1 = 3 ∧ (0 ≤ y.2.1 ∧ y.2.1 < k) ∧ (0 ≤ y.2.2.1 ∧ y.2.2.1 < k) ∧ (y.2.2.2.1 = 42 ∨ y.2.2.2.1 = 47 ∨ y.2.2.2.1 = 37 ∨ y.2.2.2.1 = 43 ∨ y.2.2.2.1 = 45) ∨ (y.1 = 4 ∨ y.1 = 5) ∧ (0 ≤ y.2.1 ∧ y.2.1 < 72) ∧ (0 ≤ y.2.2.1 ∧ y.2.2.1 < 72) ∨ (y.1 = 6 ∧ y.2.1 = 0 ∨ 7 ≤ y.1 ∧ y.1 ≤ 9 ∧ 1 ≤ y.2.1 ∧ y.2.1 ≤ 4) ∨ y.1 = 10 ∧ (0 ≤ y.2.1 ∧ y.2.1 < k) ∧ (0 ≤ y.2.2.1 ∧ y.2.2.1 < k) ∧ 0 ≤ y.2.2.2.1 ∧ y.2.2.2.1 < k)
def wFm (N : List pNd) : Prop := ∀ k, k < N.length → wNd N k (N.getD k dNd)
theorem wFm.put {N : List pNd} {y : pNd} (h : wFm N) (hy : wNd N N.length y) : wFm (N ++ [y]) := by
  intro k hk
  rw [List.length_append] at hk
  have hk' : k < N.length + 1 := hk
  rw [getD_1]
  by_cases c : k = N.length
  · rw [if_pos c, c]; exact hy
  · rw [if_neg c]; exact h k (by omega)
theorem pCell_in {t : tStr} {i : Nat} {r : Int × Nat} (h : pCell t i = .inr r) : kK t i = 2 ∧ r = (kW t i, i + 1) ∧ kW t i ≠ -1 := by
  unfold pCell at h
  split at h
  · rename_i c
    cases h
    exact ⟨c.1, rfl, c.2⟩
  · cases h
theorem pOpen_in {t : tStr} {b i j : Nat} (h : pOpen t b i = .inr j) : kK t i = 40 ∧ b ≠ 4 ∧ j = i + 1 := by
  unfold pOpen at h
  split at h
  · rename_i c
    cases h
    exact ⟨c.1, c.2, rfl⟩
  · cases h
theorem pNeed_in {t : tStr} {c : Int} {i j : Nat} (h : pNeed t c i = .inr j) : kK t i = c ∧ j = i + 1 := by
  unfold pNeed at h
  split at h
  · rename_i hc
    cases h
    exact ⟨hc, rfl⟩
  · cases h
theorem pVal_in {t : tStr} {i : Nat} {r : Int × Nat} (h : pVal t i = .inr r) : i < r.2 := by
  unfold pVal at h
  split at h
  · cases h; exact Nat.lt_succ_self i
  · split at h
    · split at h
      · cases h; show i < i + 2; omega
      · cases h
    · split at h
      · cases h; exact Nat.lt_succ_self i
      · cases h
theorem pNum_in {t : tStr} {hi : Int} {i : Nat} {r : Int × Nat} (h : pNum t hi i = .inr r) : r.2 = i + 1 ∧ 1 ≤ r.1 ∧ r.1 ≤ hi := by
  unfold pNum at h
  split at h
  · rename_i c
    cases h
    exact ⟨rfl, c.2⟩
  · cases h
/-- CELLS among the TOKENS -/
def tCk (t : tStr) : Prop := (∀ i, kK t i = 2 → kW t i ≠ -1 → 0 ≤ kW t i ∧ kW t i < 72) ∧ tOk t
theorem pOf_le {t : tStr} (ht : tCk t) {b i : Nat} {N : List pNd} {x : pFm} (h : pOf t b N i = .inr x) (hk : 10 ≤ kK t i ∧ kK t i ≤ 13) (hN : wFm N) : i < x.2.2 ∧ N.length ≤ x.1.length ∧ x.1.length + i ≤ N.length + x.2.2 ∧ wFm x.1 ∧ 0 ≤ x.2.1 ∧ x.2.1 < x.1.length := by
  unfold pOf at h
  obtain ⟨j, h1, h⟩ := pbind_in h
  obtain ⟨a1, a2, a3⟩ := pOpen_in h1
  split at h
  · obtain ⟨a, h2, h⟩ := pbind_in h
    obtain ⟨k, h3, h⟩ := pbind_in h
    obtain ⟨c, h4, h⟩ := pbind_in h
    split at h
    · cases h
    · obtain ⟨m, h5, h⟩ := pbind_in h
      obtain ⟨b1, b2, b3⟩ := pCell_in h2
      obtain ⟨c1, c2, c3⟩ := pCell_in h4
      have d1 := (pNeed_in h3).2
      have d2 := (pNeed_in h5).2
      have e1 : a.2 = j + 1 := by rw [b2]
      have e2 : c.2 = k + 1 := by rw [c2]
      cases h
      simp only [List.length_append, List.length_singleton]
      have g1 := ht.1 _ b1 b3
      have g2 := ht.1 _ c1 c3
      have f1 : a.1 = kW t j := by rw [b2]
      have f2 : c.1 = kW t k := by rw [c2]
      refine ⟨by omega, by omega, by omega, hN.put ?_, by omega, by omega⟩
      refine .inr (.inr (.inr (.inl ⟨?_, ?_, ?_⟩)))
      · show (if kK t i = 11 then (4 : Int) else 5) = 4 ∨ (if kK t i = 11 then (4 : Int) else 5) = 5
        split
        · exact .inl rfl
        · exact .inr rfl
      · show 0 ≤ a.1 ∧ a.1 < 72
        rw [f1]; exact g1
      · show 0 ≤ c.1 ∧ c.1 < 72
        rw [f2]; exact g2
  · obtain ⟨y, h2, h⟩ := pbind_in h
    obtain ⟨k, h3, h⟩ := pbind_in h
    obtain ⟨m, h5, h⟩ := pbind_in h
    have b1 := (pName_le h2).1
    have d2 := (pNeed_in h5).2
    have k2 : y.2 ≤ k.2 ∧ (kK t i = 10 ∧ k.1 = 0 ∨ kK t i ≠ 10 ∧ 1 ≤ k.1 ∧ k.1 ≤ 4) := by
      split at h3
      · rename_i ck
        cases h3
        exact ⟨Nat.le_refl _, .inl ⟨ck, rfl⟩⟩
      · rename_i ck
        obtain ⟨z, h6, h3⟩ := pbind_in h3
        have := (pNeed_in h6).2
        have := pNum_in h3
        exact ⟨by omega, .inr ⟨ck, this.2⟩⟩
    cases h
    simp only [List.length_append, List.length_singleton]
    refine ⟨by omega, by omega, by omega, hN.put ?_, by omega, by omega⟩
    refine .inr (.inr (.inr (.inr (.inl ?_))))
    rcases k2.2 with ⟨g1, g2⟩ | ⟨g1, g2⟩
    · exact .inl ⟨by show kK t i - 4 = 6; omega, g2⟩
    · exact .inr ⟨by show 7 ≤ kK t i - 4; omega, by show kK t i - 4 ≤ 9; omega, g2⟩
section
variable {t : tStr} {F b : Nat} {e : pFm}
theorem pF_0 : pF t (F + 1) 0 b e = if kK t e.2.2 = 2 then pbind (pCell t e.2.2) fun r => .inr (e.1 ++ [(2, r.1, 0, 0, 0)], (e.1.length : Int), r.2)
    else if kK t e.2.2 = 40 then pbind (pOpen t b e.2.2) fun i => pbind (pF t F 1 (b + 1) (e.1, 0, i)) fun e' => pbind (pNeed t 41 e'.2.2) fun i => .inr (e'.1, e'.2.1, i)
    else if kK t e.2.2 = 1 ∧ kC t e.2.2 = 348 then
      pbind (pOpen t b (e.2.2 + 1)) fun i => pbind (pF t F 1 (b + 1) (e.1, 0, i)) fun x => pbind (pNeed t 44 x.2.2) fun i => pbind (pF t F 1 (b + 1) (x.1, 0, i)) fun y =>
      pbind (pNeed t 44 y.2.2) fun i => pbind (pF t F 1 (b + 1) (y.1, 0, i)) fun z => pbind (pNeed t 41 z.2.2) fun i => .inr (z.1 ++ [(10, x.2.1, y.2.1, z.2.1, 0)], (z.1.length : Int), i)
    else if 10 ≤ kK t e.2.2 ∧ kK t e.2.2 ≤ 13 then pOf t b e.1 e.2.2
    else pbind (pVal t e.2.2) fun r => .inr (e.1 ++ [(1, 0, 0, 0, r.1)], (e.1.length : Int), r.2) := rfl
theorem pF_1 : pF t (F + 1) 1 b e = pbind (pF t F 2 b e) fun e' => pF t F 4 b e' := rfl
theorem pF_2 : pF t (F + 1) 2 b e = pbind (pF t F 0 b e) fun e' => pF t F 3 b e' := rfl
theorem pF_3 : pF t (F + 1) 3 b e = if kK t e.2.2 = 42 ∨ kK t e.2.2 = 47 ∨ kK t e.2.2 = 37 then pbind (pF t F 0 b (e.1, 0, e.2.2 + 1)) fun y => pF t F 3 b (y.1 ++ [(3, e.2.1, y.2.1, kK t e.2.2, 0)], (y.1.length : Int), y.2.2)
    else .inr e := rfl
theorem pF_4 : pF t (F + 1) 4 b e = if kK t e.2.2 = 43 ∨ kK t e.2.2 = 45 then pbind (pF t F 2 b (e.1, 0, e.2.2 + 1)) fun y => pF t F 4 b (y.1 ++ [(3, e.2.1, y.2.1, kK t e.2.2, 0)], (y.1.length : Int), y.2.2)
    else .inr e := rfl
end
theorem pF_le {t : tStr} (ht : tCk t) : ∀ (F m b : Nat) (e x : pFm), m ≤ 4 → pF t F m b e = .inr x → wFm e.1 → (3 ≤ m → 0 ≤ e.2.1 ∧ e.2.1 < e.1.length) → e.2.2 ≤ x.2.2 ∧ (m ≤ 2 → e.2.2 < x.2.2) ∧ e.1.length ≤ x.1.length ∧ x.1.length + e.2.2 ≤ e.1.length + x.2.2 ∧ wFm x.1 ∧ 0 ≤ x.2.1 ∧ x.2.1 < x.1.length := by
  intro F
  induction F with
  | zero => intro m b e x _ h; cases h
  | succ F ih =>
    intro m b e x hm h hw hx
    match m, hm with
    | 0, _ =>
      rw [pF_0] at h
      split at h
      · obtain ⟨r, h1, h⟩ := pbind_in h
        obtain ⟨b1, b2, b3⟩ := pCell_in h1
        have e1 : r.2 = e.2.2 + 1 := by rw [b2]
        have g1 := ht.1 _ b1 b3
        have f1 : r.1 = kW t e.2.2 := by rw [b2]
        cases h
        simp only [List.length_append, List.length_singleton]
        refine ⟨by omega, by omega, by omega, by omega, hw.put (.inr (.inl ⟨rfl, ?_⟩)), by omega, by omega⟩
        show 0 ≤ r.1 ∧ r.1 < 72
        rw [f1]; exact g1
      · split at h
        · obtain ⟨j, h1, h⟩ := pbind_in h
          obtain ⟨y, h2, h⟩ := pbind_in h
          obtain ⟨k, h3, h⟩ := pbind_in h
          have a1 := (pOpen_in h1).2.2
          have a3 := (pNeed_in h3).2
          obtain ⟨c1, c2, c3, c4, c5, c6, c7⟩ := ih 1 (b + 1) _ y (by decide) h2 hw (fun q => absurd q (by decide))
          cases h
          simp only at c1 c2 c3 c4 c6 c7
          exact ⟨by show e.2.2 ≤ k; omega, fun _ => by show e.2.2 < k; omega, c3, by show y.1.length + e.2.2 ≤ e.1.length + k; omega, c5, c6, c7⟩
        · split at h
          · obtain ⟨j, h1, h⟩ := pbind_in h
            obtain ⟨y1, h2, h⟩ := pbind_in h
            obtain ⟨k1, h3, h⟩ := pbind_in h
            obtain ⟨y2, h4, h⟩ := pbind_in h
            obtain ⟨k2, h5, h⟩ := pbind_in h
            obtain ⟨y3, h6, h⟩ := pbind_in h
            obtain ⟨k3, h7, h⟩ := pbind_in h
            have a1 := (pOpen_in h1).2.2
            have a2 := (pNeed_in h3).2
            have a3 := (pNeed_in h5).2
            have a4 := (pNeed_in h7).2
            obtain ⟨c1, c2, c3, c4, c5, c6, c7⟩ := ih 1 (b + 1) _ y1 (by decide) h2 hw (fun q => absurd q (by decide))
            obtain ⟨d1, d2, d3, d4, d5, d6, d7⟩ := ih 1 (b + 1) _ y2 (by decide) h4 c5 (fun q => absurd q (by decide))
            obtain ⟨f1, f2, f3, f4, f5, f6, f7⟩ := ih 1 (b + 1) _ y3 (by decide) h6 d5 (fun q => absurd q (by decide))
            simp only at c1 c2 c3 c4 d1 d2 d3 d4 f1 f2 f3 f4
            cases h
            simp only [List.length_append, List.length_singleton]
            refine ⟨by omega, by omega, by omega, by omega, f5.put (.inr (.inr (.inr (.inr (.inr ⟨rfl, ?_, ?_, ?_⟩))))), by omega, by omega⟩
            · show 0 ≤ y1.2.1 ∧ y1.2.1 < _; omega
            · show 0 ≤ y2.2.1 ∧ y2.2.1 < _; omega
            · show 0 ≤ y3.2.1 ∧ y3.2.1 < _; omega
          · split at h
            · rename_i c
              obtain ⟨c1, c2, c3, c4, c5, c6⟩ := pOf_le ht h c hw
              exact ⟨by omega, fun _ => c1, c2, c3, c4, c5, c6⟩
            · obtain ⟨r, h1, h⟩ := pbind_in h
              have := pVal_in h1
              cases h
              simp only [List.length_append, List.length_singleton]
              exact ⟨by omega, by omega, by omega, by omega, hw.put (.inl ⟨rfl, ht.2 _ _ h1⟩), by omega, by omega⟩
    | 1, _ =>
      rw [pF_1] at h
      obtain ⟨y, h1, h⟩ := pbind_in h
      obtain ⟨c1, c2, c3, c4, c5, c6⟩ := ih 2 b e y (by decide) h1 hw (fun q => absurd q (by decide))
      obtain ⟨d1, d2, d3, d4, d5, d6⟩ := ih 4 b y x (by decide) h c5 (fun _ => c6)
      exact ⟨by omega, by omega, by omega, by omega, d5, d6⟩
    | 2, _ =>
      rw [pF_2] at h
      obtain ⟨y, h1, h⟩ := pbind_in h
      obtain ⟨c1, c2, c3, c4, c5, c6⟩ := ih 0 b e y (by decide) h1 hw (fun q => absurd q (by decide))
      obtain ⟨d1, d2, d3, d4, d5, d6⟩ := ih 3 b y x (by decide) h c5 (fun _ => c6)
      exact ⟨by omega, by omega, by omega, by omega, d5, d6⟩
    | 3, _ =>
      rw [pF_3] at h
      have hx0 := hx (by decide)
      split at h
      · rename_i cs
        obtain ⟨y, h1, h⟩ := pbind_in h
        obtain ⟨c1, c2, c3, c4, c5, c6⟩ := ih 0 b _ y (by decide) h1 hw (fun q => absurd q (by decide))
        simp only at c1 c2 c3 c4
        obtain ⟨d1, d2, d3, d4, d5, d6⟩ := ih 3 b _ x (by decide) h (c5.put (.inr (.inr (.inl ⟨rfl, by show 0 ≤ e.2.1 ∧ e.2.1 < _; omega, by show 0 ≤ y.2.1 ∧ y.2.1 < _; omega, by simp only; omega⟩)))) (fun _ => by
          rw [List.length_append, List.length_singleton]
          show 0 ≤ (y.1.length : Int) ∧ (y.1.length : Int) < _
          omega)
        simp only [List.length_append, List.length_singleton] at d1 d2 d3 d4
        exact ⟨by omega, by omega, by omega, by omega, d5, d6⟩
      · cases h
        exact ⟨by omega, by omega, by omega, by omega, hw, hx0⟩
    | 4, _ =>
      rw [pF_4] at h
      have hx0 := hx (by decide)
      split at h
      · rename_i cs
        obtain ⟨y, h1, h⟩ := pbind_in h
        obtain ⟨c1, c2, c3, c4, c5, c6⟩ := ih 2 b _ y (by decide) h1 hw (fun q => absurd q (by decide))
        simp only at c1 c2 c3 c4
        obtain ⟨d1, d2, d3, d4, d5, d6⟩ := ih 4 b _ x (by decide) h (c5.put (.inr (.inr (.inl ⟨rfl, by show 0 ≤ e.2.1 ∧ e.2.1 < _; omega, by show 0 ≤ y.2.1 ∧ y.2.1 < _; omega, by simp only; omega⟩)))) (fun _ => by
          rw [List.length_append, List.length_singleton]
          show 0 ≤ (y.1.length : Int) ∧ (y.1.length : Int) < _
          omega)
        simp only [List.length_append, List.length_singleton] at d1 d2 d3 d4
        exact ⟨by omega, by omega, by omega, by omega, d5, d6⟩
      · cases h
        exact ⟨by omega, by omega, by omega, by omega, hw, hx0⟩
end
section
/-! The reference reads FORMULAS: what goes on while WRONG; sum, count, least, most; if -/
/-- a part of a FORMULA while WRONG: nothing -/
def rYB (e : xG_ → Option (Int × xG_)) : Prop := ∀ (G : xG_) (L : Nat → Int), L 7 ≠ -1 → e (xlx G L) = some (0, xlx G L)
/-- WRONG at w, k TOKENS on at most -/
def rYW (q i : Nat) (N : List pNd) (G : xG_) (r : Option (Int × xG_)) (w : Nat) : Prop := ∃ v G' L', r = some (v, xlx G' L') ∧ L' 7 = (q : Int) + w ∧ xff G G' ∧ ∃ k c : Nat, i ≤ k ∧ k ≤ 62 ∧ G' 0 89 = (c : Int) ∧ c + i ≤ N.length + k + 1
def rYS (q : Nat) (B : Nat → Int) (n b : Nat) (G : xG_) (r : Option (Int × xG_)) (x : pFm) : Prop := ∃ G' L', r = some (x.2.1, xlx G' L') ∧ rAt q B n true x.2.2 L' ∧ xff G G' ∧ rYX G' q B n x.1 b ∧ x.2.2 ≤ 62
/-- what reading a FORMULA, or a part of it, does -/
def rYP (q : Nat) (B : Nat → Int) (n m b : Nat) (e : xG_ → Option (Int × xG_)) : Prop :=
  ∀ (F : Nat) (G : xG_) (L : Nat → Int) (N : List pNd) (i : Nat), 4 * (63 - i) + (if m = 1 then 3 else if m = 2 then 2 else 1) ≤ F → rYX G q B n N b → rAt q B n true i L → i ≤ 62 → N.length ≤ i → wFm N →
    pok (pF (tstr B n true) F m b (N, 0, i)) (rYW q i N G (e (xlx G L))) (rYS q B n b G (e (xlx G L)))
theorem rYW.fr {q i i' w : Nat} {N N' : List pNd} {G G1 : xG_} {r : Option (Int × xG_)} (h : rYW q i' N' G1 r w) (hf : xff G G1) (hi : i ≤ i') (hN : N'.length + i ≤ N.length + i') : rYW q i N G r w := by
  obtain ⟨v, G', L', a1, a2, a3, k, c, a4, a5, a6, a7⟩ := h
  exact ⟨v, G', L', a1, a2, hf.tr a3, k, c, by omega, a5, a6, by omega⟩
theorem rYS.fr {q n b : Nat} {B : Nat → Int} {G G1 : xG_} {r : Option (Int × xG_)} {x : pFm} (h : rYS q B n b G1 r x) (hf : xff G G1) : rYS q B n b G r x := by
  obtain ⟨G', L', a1, a2, a3, a4⟩ := h
  exact ⟨G', L', a1, a2, hf.tr a3, a4⟩
theorem tstr_ck {B : Nat → Int} {n : Nat} {lm : Bool} (hB : tTx B n) : tCk (tstr B n lm) := by
  refine ⟨?_, tOk_of lm hB⟩
  intro i hk hw
  obtain ⟨v1, v2, v3⟩ := tkd_var (kK_inv hk (by decide))
  have eW : kW (tstr B n lm) i = tcell B (tS B n i) (tvend B n (tS B n i)) := by
    show tse B n (tS B n i) = _
    unfold tse
    rw [if_neg v2, if_pos v3]
  rw [eW] at hw ⊢
  unfold tcell at hw ⊢
  by_cases a1 : 6 ≤ B (tS B n i) - 65
  · rw [if_pos a1] at hw
    exact absurd rfl hw
  rw [if_neg a1] at hw ⊢
  split at hw
  · rename_i c
    rw [if_pos c]
    split at hw
    · rename_i c2
      rw [if_pos c2]
      omega
    · exact absurd rfl hw
  · rename_i c
    rw [if_neg c]
    split at hw
    · rename_i c2
      rw [if_pos c2]
      split at hw
      · rename_i c3
        rw [if_pos c3]
        omega
      · exact absurd rfl hw
    · exact absurd rfl hw
section
variable {f q n i b : Nat} {B : Nat → Int} {G : xG_} {L : Nat → Int} {N : List pNd}
/-- one node more while WRONG -/
theorem l_node_bad {c : Nat} {a1 a2 a3 a4 a5 : Int} (hc : G 0 89 = (c : Int)) (hc2 : c < 140) : ∃ G', g331 f a1 a2 a3 a4 a5 (xlx G L) = some ((c : Int), xlx G' L) ∧ xff G G' ∧ G' 0 89 = ((c + 1 : Nat) : Int) := ⟨_, l_node hc hc2, nPut_ff, xup2_s _ _ _ _⟩
theorem xff.u25 {v : Int} : xff G (xup2 G 0 25 v) := xff.up (.inl ⟨rfl, .inr (.inl rfl)⟩)
/-- the end of sum, count, least, most of rows -/
theorem l_of191_bad {c : Nat} {x1 x3 x5 : Int} (h : L 7 ≠ -1) (hc : G 0 89 = (c : Int)) (hc2 : c < 140) : ∃ v G', g340_191 f x1 x3 x5 (xlx G L) = some (v, xlx G' L) ∧ xff G G' ∧ G' 0 89 = ((c + 1 : Nat) : Int) := by
  obtain ⟨v, e1⟩ := l_close_bad (f := f) (G := G) h
  have hc' : xup2 G 0 25 v 0 89 = (c : Int) := by rw [xup2_n (by omega)]; exact hc
  have z : ∀ y : Int, ∃ G', g340_240 f x3 x5 y (xlx (xup2 G 0 25 v) L) = some ((c : Int), xlx G' L) ∧ xff G G' ∧ G' 0 89 = ((c + 1 : Nat) : Int) := fun y => by
    obtain ⟨G', k1, k2, k3⟩ := l_node_bad (f := f) (L := L) (a1 := y) (a2 := x5) (a3 := 0) (a4 := 0) (a5 := x3) hc' hc2
    refine ⟨G', ?_, xff.u25.tr k2, k3⟩
    unfold g340_240
    rw [k1]
    rfl
  refine ⟨(c : Int), ?_⟩
  unfold g340_191
  rw [e1, Option.bind_some]
  split
  · split
    · split
      · exact z 9
      · exact z 8
    · exact z 7
  · exact z 6
theorem l_of139_bad {x1 : Int} (hC : rC G) (h : L 7 ≠ -1) : g340_139 f x1 (xlx G L) = some (0, xlx G L) := by
  unfold g340_139
  rw [l_name hC, if_neg (fun q => h q.1), Option.bind_some]
  have n1 : ¬ ¬ ((0 : Int), xlx G L).1 = 0 := fun q => q rfl
  rw [if_neg n1]
  show Option.bind (g210 f (xlx G L 0 4) (xlx G L)) _ = _
  rw [l_fail, if_neg h]
  rfl
theorem l_of_bad {x1 : Int} (hC : rC G) (h : L 7 ≠ -1) : g340_26 f x1 (xlx G L) = some (0, xlx G L) := by
  unfold g340_26
  rw [l_kind, if_neg (fun q => h q.1), Option.bind_some]
  show (if (0 : Int) = 0 then _ else _) = _
  rw [if_pos rfl]
  exact l_of139_bad hC h
theorem l_of191 {kd x1 x3 x5 : Int} (hf : n + 20 < f) (hE : rEw G q B n true) (hN : rNd G N) (h25 : G 0 25 = ((b + 1 : Nat) : Int)) (hb : b ≤ 4) (hA : rAt q B n true i L) (hi : i ≤ 62) (hNi : N.length ≤ i) (hkd : 10 ≤ kd ∧ kd ≤ 13) (hx1 : tres x1 = kd) :
    pok (pbind (pNeed (tstr B n true) 41 i) fun j => (.inr (N ++ [(kd - 4, x5, 0, 0, x3)], (N.length : Int), j) : Nat ⊕ pFm)) (rYW q i N G (g340_191 f x1 x3 x5 (xlx G L))) (rYS q B n b G (g340_191 f x1 x3 x5 (xlx G L))) := by
  have h1 := l_close hf hE h25 hb hA
  cases hp : pNeed (tstr B n true) 41 i with
  | inl w =>
    rw [hp] at h1
    obtain ⟨v, L1, e1, e2⟩ := h1
    have hbad : L1 7 ≠ -1 := by omega
    have hc' : xup2 G 0 25 v 0 89 = (N.length : Int) := by rw [xup2_n (by omega)]; exact hN.1
    have z : ∀ y : Int, ∃ G', g340_240 f x3 x5 y (xlx (xup2 G 0 25 v) L1) = some ((N.length : Int), xlx G' L1) ∧ xff G G' ∧ G' 0 89 = ((N.length + 1 : Nat) : Int) := fun y => by
      obtain ⟨G', k1, k2, k3⟩ := l_node_bad (f := f) (L := L1) (a1 := y) (a2 := x5) (a3 := 0) (a4 := 0) (a5 := x3) hc' (by omega)
      refine ⟨G', ?_, xff.u25.tr k2, k3⟩
      unfold g340_240
      rw [k1]
      rfl
    have e3 : ∃ y, g340_191 f x1 x3 x5 (xlx G L) = g340_240 f x3 x5 y (xlx (xup2 G 0 25 v) L1) := by
      unfold g340_191
      rw [e1, Option.bind_some]
      split
      · split
        · split
          · exact ⟨_, rfl⟩
          · exact ⟨_, rfl⟩
        · exact ⟨_, rfl⟩
      · exact ⟨_, rfl⟩
    obtain ⟨y, e3⟩ := e3
    obtain ⟨G', k1, k2, k3⟩ := z y
    exact ⟨_, G', L1, by rw [e3]; exact k1, e2, k2, i, N.length + 1, Nat.le_refl _, hi, k3, by omega⟩
  | inr j =>
    rw [hp] at h1
    obtain ⟨L1, e1, e2, e3, e4⟩ := h1
    have hX : rYX (xup2 G 0 25 (b : Int)) q B n N b := ⟨hE.u (.inr rfl), hN.ge (xup2_n (by omega)) (fun a j _ _ => xup2_n (by omega)), xup2_s _ _ _ _, hb⟩
    refine ⟨_, L1, ?_, e2, xff.u25.tr nPut_ff, hX.put, by have := hA.lim e4 (by decide) (by decide); show j ≤ 62; omega⟩
    obtain ⟨r12, r13, r14, r15, r16, r17, r18, r19, r20⟩ := hE.2.2
    have c16 : xlx (xup2 G 0 25 (b : Int)) L1 0 16 = 7109364 := by rw [xlx_o _ _ (by omega), xup2_n (by omega)]; exact r16
    have c17 : xlx (xup2 G 0 25 (b : Int)) L1 0 17 = 28247 := by rw [xlx_o _ _ (by omega), xup2_n (by omega)]; exact r17
    have c18 : xlx (xup2 G 0 25 (b : Int)) L1 0 18 = 25298178 := by rw [xlx_o _ _ (by omega), xup2_n (by omega)]; exact r18
    have fin : g340_240 f x3 x5 (kd - 4) (xlx (xup2 G 0 25 (b : Int)) L1) = some ((N.length : Int), xlx (nPut (xup2 G 0 25 (b : Int)) N.length (kd - 4) x5 0 0 x3) L1) := by
      unfold g340_240
      rw [l_node hX.2.1.1 (by omega)]
      rfl
    have inv := @tres_inv x1
    rw [hx1] at inv
    rw [← fin]
    unfold g340_191
    rw [e1, Option.bind_some, c16, c17, c18]
    by_cases d10 : kd = 10
    · have := inv.2.2.2.2.1 d10
      rw [if_neg (fun q => q this), d10]
      rfl
    · have n10 : ¬ x1 = 7109364 := fun q => d10 (by rw [← hx1, q]; decide)
      rw [if_pos n10]
      by_cases d11 : kd = 11
      · have := inv.2.2.2.2.2.1 d11
        rw [if_neg (fun q => q this), d11]
        rfl
      · have n11 : ¬ x1 = 28247 := fun q => d11 (by rw [← hx1, q]; decide)
        rw [if_pos n11]
        by_cases d12 : kd = 12
        · have := inv.2.2.2.2.2.2.1 d12
          rw [if_neg (fun q => q this), d12]
          rfl
        · have n12 : ¬ x1 = 25298178 := fun q => d12 (by rw [← hx1, q]; decide)
          have d13 : kd = 13 := by omega
          rw [if_pos n12, d13]
          rfl
/-- rows: NAME, and a column -/
theorem l_of139 {kd x1 : Int} (hf : n + 20 < f) (hE : rEw G q B n true) (hN : rNd G N) (h25 : G 0 25 = ((b + 1 : Nat) : Int)) (hb : b ≤ 4) (hA : rAt q B n true i L) (hi : i ≤ 62) (hNi : N.length ≤ i) (hkd : 10 ≤ kd ∧ kd ≤ 13) (hx1 : tres x1 = kd) :
    pok (pbind (pName (tstr B n true) i) fun x => pbind (if kd = 10 then .inr ((0 : Int), x.2) else pbind (pNeed (tstr B n true) 44 x.2) fun k => pNum (tstr B n true) 4 k) fun k => pbind (pNeed (tstr B n true) 41 k.2) fun j => (.inr (N ++ [(kd - 4, k.1, 0, 0, x.1)], (N.length : Int), j) : Nat ⊕ pFm))
      (rYW q i N G (g340_139 f x1 (xlx G L))) (rYS q B n b G (g340_139 f x1 (xlx G L))) := by
  obtain ⟨t4, tsg, tn, tv, tu, tnum, tend, tn9, tv9, tnum9, t6, t5, tlt, t3⟩ := hA.tk hE.1.2.1
  have hnm := hA.isname' (f := f) hE
  have r16 := hE.2.2.2.2.2.2.1
  have inv := @tres_inv x1
  rw [hx1] at inv
  have i16 : x1 = 7109364 ↔ kd = 10 := ⟨fun q => by rw [← hx1, q]; decide, fun q => inv.2.2.2.2.1 q⟩
  unfold pName
  by_cases c1 : kK (tstr B n true) i = 1
  · have n1 : ¬ kK (tstr B n true) i ≠ 1 := fun q => q c1
    rw [if_neg n1]
    obtain ⟨m1, m2, m3⟩ := hA.nm' hE c1
    have hi61 := hA.lim c1 (by decide) (by decide)
    have e0 : g340_139 f x1 (xlx G L) = (g213 f (xlx G L)).bind fun R138 => (if x1 = R138 0 16 then g340_191 f x1 (L 9) 0 R138 else ((g222 f 44 R138).bind fun R144 => ((g233 f 1 4 R144).bind fun R149 => g340_191 f x1 (L 9) R149.1 R149.2))) := by
      unfold g340_139
      rw [hnm, if_pos c1, Option.bind_some]
      rfl
    -- while WRONG
    have bad : ∀ (G1 : xG_) (L1 : Nat → Int), L1 7 ≠ -1 → G1 0 89 = (N.length : Int) → ∃ v G', (if x1 = xlx G1 L1 0 16 then g340_191 f x1 (L 9) 0 (xlx G1 L1) else ((g222 f 44 (xlx G1 L1)).bind fun R144 => ((g233 f 1 4 R144).bind fun R149 => g340_191 f x1 (L 9) R149.1 R149.2))) = some (v, xlx G' L1) ∧ xff G1 G' ∧ G' 0 89 = ((N.length + 1 : Nat) : Int) := fun G1 L1 hbad h89 => by
      split
      · exact l_of191_bad hbad h89 (by omega)
      · rw [l_need_bad hbad, Option.bind_some, l_num_bad hbad, Option.bind_some]
        exact l_of191_bad hbad h89 (by omega)
    by_cases c2 : 12 < kE (tstr B n true) i - kS (tstr B n true) i
    · rw [if_pos c2]
      rw [if_pos c2] at m3
      have hbad : xu L 7 (L 6) 7 ≠ -1 := by show L 6 ≠ -1; omega
      obtain ⟨v, G', k1, k2, k3⟩ := bad G (xu L 7 (L 6)) hbad hN.1
      refine ⟨v, G', xu L 7 (L 6), ?_, ?_, k2, i, N.length + 1, Nat.le_refl _, hi, k3, by omega⟩
      · rw [e0, l_pass_wr hA.1 (by omega), Option.bind_some]
        exact k1
      · show L 6 = (q : Int) + ((kS (tstr B n true) i + 12 : Nat) : Int)
        omega
    · rw [if_neg c2]
      rw [if_neg c2] at m3
      obtain ⟨L1, p1, p2⟩ := l_pass' hf hE hA m3 (by omega) (by omega)
      rw [p1, Option.bind_some, m1] at e0
      rw [m1] at bad
      have c16 : xlx G L1 0 16 = 7109364 := by rw [xlx_o _ _ (by omega)]; exact r16
      show pok (pbind (if kd = 10 then .inr ((0 : Int), i + 1) else pbind (pNeed (tstr B n true) 44 (i + 1)) fun k => pNum (tstr B n true) 4 k) fun k => pbind (pNeed (tstr B n true) 41 k.2) fun j => (.inr (N ++ [(kd - 4, k.1, 0, 0, kC (tstr B n true) i)], (N.length : Int), j) : Nat ⊕ pFm)) _ _
      by_cases d : kd = 10
      · rw [if_pos d]
        rw [if_pos (by rw [c16]; exact i16.mpr d)] at e0
        rw [e0]
        have h3 := l_of191 (x1 := x1) (x3 := kC (tstr B n true) i) (x5 := 0) hf hE hN h25 hb p2 (by omega) (by omega) hkd hx1
        show pok (pbind (pNeed (tstr B n true) 41 (i + 1)) _) _ _
        cases hp : pbind (pNeed (tstr B n true) 41 (i + 1)) fun j => (.inr (N ++ [(kd - 4, 0, 0, 0, kC (tstr B n true) i)], (N.length : Int), j) : Nat ⊕ pFm) with
        | inl w =>
          rw [hp] at h3
          exact h3.fr (.rf G) (by omega) (by omega)
        | inr x =>
          rw [hp] at h3
          exact h3
      · rw [if_neg d]
        rw [if_neg (by rw [c16]; exact fun q => d (i16.mp q))] at e0
        have nd : ¬ x1 = xlx G L1 0 16 := by rw [c16]; exact fun q => d (i16.mp q)
        have h44 : isSg 44 := by unfold isSg; omega
        unfold pNeed
        by_cases c3 : kK (tstr B n true) (i + 1) = 44
        · rw [if_pos c3]
          obtain ⟨L2, s1, s2⟩ := l_need' hf hE p2 h44 c3
          have s1' : g222 f 44 (xlx G L1) = _ := s1
          rw [s1', Option.bind_some] at e0
          have hi62 := p2.lim c3 (by decide) (by decide)
          have h2 := l_num' (hi := 4) hf hE s2 (by decide)
          show pok (pbind (pNum (tstr B n true) 4 (i + 1 + 1)) _) _ _
          cases hq : pNum (tstr B n true) 4 (i + 1 + 1) with
          | inl w =>
            rw [hq] at h2
            obtain ⟨L3, u1, u2⟩ := h2
            have hbad : L3 7 ≠ -1 := by omega
            obtain ⟨v, G', k1, k2, k3⟩ := l_of191_bad (f := f) (x1 := x1) (x3 := kC (tstr B n true) i) (x5 := 1) hbad hN.1 (by omega)
            refine ⟨v, G', L3, ?_, u2, k2, i, N.length + 1, Nat.le_refl _, hi, k3, by omega⟩
            rw [e0, u1]
            exact k1
          | inr y =>
            rw [hq] at h2
            obtain ⟨L3, u1, u2, u3, u4⟩ := h2
            have hy := (pNum_in hq).1
            have hi63 : y.2 ≤ 62 := by
              have hk4 : kK (tstr B n true) (i + 1 + 1) = 4 := by
                unfold pNum at hq
                split at hq
                · rename_i c; exact c.1
                · cases hq
              have := s2.lim hk4 (by decide) (by decide)
              omega
            have h3 := l_of191 (x1 := x1) (x3 := kC (tstr B n true) i) (x5 := y.1) hf hE hN h25 hb u2 hi63 (by omega) hkd hx1
            rw [e0, u1]
            show pok (pbind (pNeed (tstr B n true) 41 y.2) fun j => (.inr (N ++ [(kd - 4, y.1, 0, 0, kC (tstr B n true) i)], (N.length : Int), j) : Nat ⊕ pFm)) (rYW q i N G (g340_191 f x1 (kC (tstr B n true) i) y.1 (xlx G L3))) (rYS q B n b G (g340_191 f x1 (kC (tstr B n true) i) y.1 (xlx G L3)))
            cases hp : pbind (pNeed (tstr B n true) 41 y.2) fun j => (.inr (N ++ [(kd - 4, y.1, 0, 0, kC (tstr B n true) i)], (N.length : Int), j) : Nat ⊕ pFm) with
            | inl w =>
              rw [hp] at h3
              exact h3.fr (.rf G) (by omega) (by omega)
            | inr x =>
              rw [hp] at h3
              exact h3
        · rw [if_neg c3]
          have s1 := l_need_no' (f := f) hE p2 h44 c3
          have s1' : g222 f 44 (xlx G L1) = _ := s1
          have hbad : xu L1 7 ((q : Int) + kS (tstr B n true) (i + 1)) 7 ≠ -1 := by show (q : Int) + kS (tstr B n true) (i + 1) ≠ -1; omega
          obtain ⟨v, G', k1, k2, k3⟩ := l_of191_bad (f := f) (x1 := x1) (x3 := kC (tstr B n true) i) (x5 := 1) hbad hN.1 (by omega)
          refine ⟨v, G', xu L1 7 ((q : Int) + kS (tstr B n true) (i + 1)), ?_, rfl, k2, i, N.length + 1, Nat.le_refl _, hi, k3, by omega⟩
          rw [e0, s1', Option.bind_some, l_num_bad hbad, Option.bind_some]
          exact k1
  · rw [if_pos c1]
    refine ⟨0, G, xu L 7 (L 4), ?_, t4, .rf G, i, N.length, Nat.le_refl _, hi, hN.1, by omega⟩
    unfold g340_139
    rw [hnm, if_neg c1, Option.bind_some]
    have n1 : ¬ ¬ ((0 : Int), xlx G L).1 = 0 := fun q => q rfl
    rw [if_neg n1]
    show Option.bind (g210 f (xlx G L 0 4) (xlx G L)) _ = _
    rw [l_fail, if_pos hA.1, xlx_4]
    rfl
end
end
