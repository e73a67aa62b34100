/-! How much of a log is kept -/
/-- what lies behind the round x -/
def lgK {α : Type} (x : Int) (l : List (Int × α)) : List (Int × α) := l.filter (fun a => decide (x < a.1))
def lgS {α : Type} (l : List (Int × α)) : Prop := l.Pairwise (fun a b => a.1 ≤ b.1)
theorem lg_cut {α : Type} {d : Int × α} {x : Int} : ∀ (l : List (Int × α)), lgS l → ∃ k, k ≤ l.length ∧ lgK x l = l.drop k ∧ (∀ i, i < k → (l.getD i d).1 ≤ x) ∧ ∀ i, k ≤ i → i < l.length → x < (l.getD i d).1
  | [], _ => ⟨0, Nat.le_refl _, rfl, fun i hi => absurd hi (Nat.not_lt_zero i), fun i _ hi => absurd hi (Nat.not_lt_zero i)⟩
  | a :: l, h => by
    obtain ⟨h1, h2⟩ := List.pairwise_cons.mp h
    by_cases c : x < a.1
    · have all : ∀ y ∈ a :: l, x < y.1 := fun y hy => by
        rcases List.mem_cons.mp hy with rfl | hy
        · exact c
        · have := h1 y hy; omega
      refine ⟨0, Nat.zero_le _, ?_, fun i hi => absurd hi (Nat.not_lt_zero i), fun i _ hi => ?_⟩
      · rw [List.drop_zero]
        unfold lgK
        exact List.filter_eq_self.mpr (fun y hy => decide_eq_true (all y hy))
      · rw [getD_e hi]
        exact all _ (List.getElem_mem hi)
    · obtain ⟨k, k1, k2, k3, k4⟩ := lg_cut (d := d) (x := x) l h2
      refine ⟨k + 1, by rw [List.length_cons]; omega, ?_, fun i hi => ?_, fun i i1 i2 => ?_⟩
      · rw [List.drop_succ_cons, ← k2]
        unfold lgK
        exact List.filter_cons_of_neg (by rw [decide_eq_false c]; decide)
      · cases i with
        | zero => show a.1 ≤ x; omega
        | succ i => exact k3 i (by omega)
      · cases i with
        | zero => omega
        | succ i =>
          rw [List.length_cons] at i2
          exact k4 i (by omega) (by omega)
theorem lgK_mem {α : Type} {x : Int} {l : List (Int × α)} {a : Int × α} : a ∈ lgK x l ↔ a ∈ l ∧ x < a.1 := by
  unfold lgK
  rw [List.mem_filter]
  exact ⟨fun q => ⟨q.1, of_decide_eq_true q.2⟩, fun q => ⟨q.1, decide_eq_true q.2⟩⟩
theorem lgK_s {α : Type} {x : Int} {l : List (Int × α)} (h : lgS l) : lgS (lgK x l) := List.Pairwise.sublist (List.filter_sublist) h
section
variable {f a n : Nat}
theorem l_309 {α : Type} {d : Int × α} {x : Int} {l : List (Int × α)} {G : xG_} (hf : l.length + 2 < f) (hs : lgS l) (hl : (l.length : Int) ≤ ((xl_t a).2.2 : Int)) (hl2 : l.length ≤ 12000) (hG : ∀ i, i < l.length → G a i = (l.getD i d).1) : g309 f a (l.length : Int) x G = some (((lgK x l).length : Int), G) := by
  obtain ⟨k, k1, k2, k3, k4⟩ := lg_cut (d := d) (x := x) l hs
  have loop : ∀ (d0 i fu : Nat), i = k + d0 → i ≤ l.length → d0 < fu → g309_2 f fu a (l.length : Int) x (i : Int) G = some (((l.length - k : Nat) : Int), G) := by
    intro d0
    induction d0 with
    | zero =>
      intro i fu h1 h2 h3
      obtain ⟨fu, rfl⟩ : ∃ t, fu = t + 1 := ⟨fu - 1, by omega⟩
      have : i = k := by omega
      subst this
      have e : xwr ((l.length : Int) - (i : Int)) = ((l.length - i : Nat) : Int) := by rw [xwr_g _ (by omega) (by omega)]; omega
      show g309_2b (g309_2 f fu) f _ _ _ _ _ = _
      unfold g309_2b g309_21
      by_cases c : i = 0
      · rw [if_pos (by omega), e]
      · have e2 : xwr ((i : Int) - 1) = ((i - 1 : Nat) : Int) := by rw [xwr_g _ (by omega) (by omega)]; omega
        rw [if_neg (by omega), e2, if_pos (by omega), Int.toNat_natCast, hG _ (by omega), if_pos (k3 _ (by omega)), e]
    | succ d0 ih =>
      intro i fu h1 h2 h3
      obtain ⟨fu, rfl⟩ : ∃ t, fu = t + 1 := ⟨fu - 1, by omega⟩
      have e2 : xwr ((i : Int) - 1) = ((i - 1 : Nat) : Int) := by rw [xwr_g _ (by omega) (by omega)]; omega
      have e3 : xwr ((i : Int) + -1) = ((i - 1 : Nat) : Int) := by rw [xwr_g _ (by omega) (by omega)]; omega
      have := k4 (i - 1) (by omega) (by omega)
      rw [← ih (i - 1) fu (by omega) (by omega) (by omega)]
      show g309_2b (g309_2 f fu) f _ _ _ _ _ = _
      unfold g309_2b
      rw [if_neg (by omega), e2, if_pos (by omega), Int.toNat_natCast, hG _ (by omega), if_neg (by omega), e3]
  unfold g309
  rw [loop (l.length - k) l.length f (by omega) (by omega) (by omega), k2, List.length_drop]
end
/-- an array whose cells below i were moved down by g -/
def shf (G0 Z : xG_) (a g i : Nat) : Prop := ∀ t, Z a t = if t < i then G0 a (t + g) else G0 a t
theorem shf.step {G0 Z : xG_} {a g i : Nat} (h : shf G0 Z a g i) : shf G0 (xup2 Z a i (Z a (i + g))) a g (i + 1) := fun t => by
  by_cases c : t = i
  · subst c
    have := h (t + g)
    rw [if_neg (by omega)] at this
    rw [xup2_s, if_pos (by omega), this]
  · rw [xup2_n (by omega), h t]
    by_cases c2 : t < i
    · rw [if_pos c2, if_pos (by omega)]
    · rw [if_neg c2, if_neg (by omega)]
theorem shf.ne {G0 Z : xG_} {a b g i j : Nat} {v : Int} (h : shf G0 Z a g i) (hb : a ≠ b) : shf G0 (xup2 Z b j v) a g i := fun t => by
  rw [xup2_n (by omega)]
  exact h t
theorem shf.z {G0 Z : xG_} {a g : Nat} (h : ∀ t, Z a t = G0 a t) : shf G0 Z a g 0 := fun t => by
  rw [if_neg (Nat.not_lt_zero t)]
  exact h t
/-- the log of cells: round, cell, its text before -/
abbrev pCg : Type := Int × Int × Int
def rCg (G : xG_) (o : Nat) (L : List pCg) : Prop := G o 16 = (L.length : Int) ∧ L.length ≤ 200 ∧ ∀ i, i < L.length → G (o + 10) i = (L.getD i (0, 0, 0)).1 ∧ G (o + 11) i = (L.getD i (0, 0, 0)).2.1 ∧ G (o + 12) i = (L.getD i (0, 0, 0)).2.2
/-- the log of editions: round, the edition before -/
abbrev pEg : Type := Int × Int
def rEg (G : xG_) (o : Nat) (L : List pEg) : Prop := G o 17 = (L.length : Int) ∧ L.length ≤ 20 ∧ ∀ i, i < L.length → G (o + 13) i = (L.getD i (0, 0)).1 ∧ G (o + 14) i = (L.getD i (0, 0)).2
theorem rCg.ge {G G' : xG_} {o : Nat} {L : List pCg} (h : rCg G o L) (h0 : G' o 16 = G o 16) (hf : ∀ a j, o + 10 ≤ a → a ≤ o + 12 → G' a j = G a j) : rCg G' o L := by
  obtain ⟨a1, a2, a3⟩ := h
  refine ⟨by rw [h0]; exact a1, a2, fun i hi => ?_⟩
  obtain ⟨b1, b2, b3⟩ := a3 i hi
  exact ⟨by rw [hf _ _ (by omega) (by omega)]; exact b1, by rw [hf _ _ (by omega) (by omega)]; exact b2, by rw [hf _ _ (by omega) (by omega)]; exact b3⟩
theorem rEg.ge {G G' : xG_} {o : Nat} {L : List pEg} (h : rEg G o L) (h0 : G' o 17 = G o 17) (hf : ∀ a j, o + 13 ≤ a → a ≤ o + 14 → G' a j = G a j) : rEg G' o L := by
  obtain ⟨a1, a2, a3⟩ := h
  refine ⟨by rw [h0]; exact a1, a2, fun i hi => ?_⟩
  obtain ⟨b1, b2⟩ := a3 i hi
  exact ⟨by rw [hf _ _ (by omega) (by omega)]; exact b1, by rw [hf _ _ (by omega) (by omega)]; exact b2⟩
theorem len5 {o h : Nat} (hh : h < 4) (ho : o = 123 + 29 * h) : ((xl_t (o + 5)).2.2 : Int) = 12000 ∧ ((xl_t (o + 10)).2.2 : Int) = 200 ∧ ((xl_t (o + 13)).2.2 : Int) = 20 := by
  obtain rfl | rfl | rfl | rfl : h = 0 ∨ h = 1 ∨ h = 2 ∨ h = 3 := by omega
  all_goals (subst ho; decide +kernel)
section
variable {f o h g : Nat}
theorem l_308_174 {r107 : Nat → Int → Int → xG_ → Option xG_} {i : Nat} (hg : i + g < 12000) {G0 : xG_} : ∀ (d k fu : Nat) (G : xG_), k + d = 4 → d < fu → shf G0 G (o + 9) (4 * g) (4 * i + k) →
    ∃ G', g308_174 r107 f fu o (g : Int) (i : Int) (k : Int) G = r107 o (g : Int) ((i + 1 : Nat) : Int) G' ∧ shf G0 G' (o + 9) (4 * g) (4 * (i + 1)) ∧ ∀ a j, a ≠ o + 9 → G' a j = G a j := by
  intro d
  induction d with
  | zero =>
    intro k fu G h1 h2 h3
    obtain ⟨fu, rfl⟩ : ∃ t, fu = t + 1 := ⟨fu - 1, by omega⟩
    have : k = 4 := by omega
    subst this
    refine ⟨G, ?_, h3, fun _ _ _ => rfl⟩
    have e : xwr ((i : Int) + 1) = ((i + 1 : Nat) : Int) := by rw [xwr_g _ (by omega) (by omega)]; omega
    show g308_174b r107 (g308_174 r107 f fu) f _ _ _ _ _ = _
    unfold g308_174b
    rw [if_pos (by decide), e]
  | succ d ih =>
    intro k fu G h1 h2 h3
    obtain ⟨fu, rfl⟩ : ∃ t, fu = t + 1 := ⟨fu - 1, by omega⟩
    have e1 : xwr (xwr (4 * xwr ((i : Int) + (g : Int))) + (k : Int)) = ((4 * i + k + 4 * g : Nat) : Int) := by
      rw [xwr_g ((i : Int) + (g : Int)) (by omega) (by omega), xwr_g (4 * ((i : Int) + (g : Int))) (by omega) (by omega), xwr_g _ (by omega) (by omega)]; omega
    have e2 : xwr (xwr (4 * (i : Int)) + (k : Int)) = ((4 * i + k : Nat) : Int) := by
      rw [xwr_g (4 * (i : Int)) (by omega) (by omega), xwr_g _ (by omega) (by omega)]; omega
    have e3 : xwr ((k : Int) + 1) = ((k + 1 : Nat) : Int) := by rw [xwr_g _ (by omega) (by omega)]; omega
    obtain ⟨G', k1, k2, k3⟩ := ih (k + 1) fu (xup2 G (o + 9) (4 * i + k) (G (o + 9) (4 * i + k + 4 * g))) (by omega) (by omega) h3.step
    refine ⟨G', ?_, k2, fun a j y => by rw [k3 a j y, xup2_n (by omega)]⟩
    rw [← k1]
    show g308_174b r107 (g308_174 r107 f fu) f _ _ _ _ _ = _
    unfold g308_174b
    rw [if_neg (by omega), e1, e2, if_pos (by omega), if_pos (by omega), Int.toNat_natCast, Int.toNat_natCast, Option.bind_some, e3]
/-- the log moves down -/
theorem l_308_107 {n : Nat} (hf : 10 < f) (hn : n + g ≤ 12000) {G0 : xG_} : ∀ (d i fu : Nat) (G : xG_), i + d = n → d < fu → G o 10 = (n : Int) → shf G0 G (o + 5) g i → shf G0 G (o + 6) g i → shf G0 G (o + 7) g i → shf G0 G (o + 8) g i → shf G0 G (o + 9) (4 * g) (4 * i) →
    ∃ G' fu', g308_107 f fu o (g : Int) (i : Int) G = g308_107 f (fu' + 1) o (g : Int) (n : Int) G' ∧ shf G0 G' (o + 5) g n ∧ shf G0 G' (o + 6) g n ∧ shf G0 G' (o + 7) g n ∧ shf G0 G' (o + 8) g n ∧ shf G0 G' (o + 9) (4 * g) (4 * n) ∧ ∀ a j, ¬ (o + 5 ≤ a ∧ a ≤ o + 9) → G' a j = G a j := by
  intro d
  induction d with
  | zero =>
    intro i fu G h1 h2 h10 s5 s6 s7 s8 s9
    obtain ⟨fu, rfl⟩ : ∃ t, fu = t + 1 := ⟨fu - 1, by omega⟩
    have : i = n := by omega
    subst this
    exact ⟨G, fu, rfl, s5, s6, s7, s8, s9, fun _ _ _ => rfl⟩
  | succ d ih =>
    intro i fu G h1 h2 h10 s5 s6 s7 s8 s9
    obtain ⟨fu, rfl⟩ : ∃ t, fu = t + 1 := ⟨fu - 1, by omega⟩
    have e1 : xwr ((i : Int) + (g : Int)) = ((i + g : Nat) : Int) := by rw [xwr_g _ (by omega) (by omega)]; omega
    have hig : 0 ≤ ((i + g : Nat) : Int) ∧ ((i + g : Nat) : Int) < 12000 := by omega
    have hii : 0 ≤ (i : Int) ∧ (i : Int) < 12000 := by omega
    let G1 := xup2 G (o + 5) i (G (o + 5) (i + g))
    let G2 := xup2 G1 (o + 6) i (G1 (o + 6) (i + g))
    let G3 := xup2 G2 (o + 8) i (G2 (o + 8) (i + g))
    let G4 := xup2 G3 (o + 7) i (G3 (o + 7) (i + g))
    obtain ⟨G5, k1, k2, k3⟩ := l_308_174 (f := f) (o := o) (r107 := g308_107 f fu) (i := i) (g := g) (by omega) (G0 := G0) 4 0 f G4 (by omega) (by omega) ((((s9.ne (by omega)).ne (by omega)).ne (by omega)).ne (by omega))
    have fr : ∀ a, a ≠ o + 9 → ∀ t, G5 a t = G4 a t := fun a ha t => k3 a t ha
    have t5 : shf G0 G5 (o + 5) g (i + 1) := fun t => by rw [fr _ (by omega)]; exact (((s5.step).ne (by omega)).ne (by omega)).ne (by omega) t
    have t6 : shf G0 G5 (o + 6) g (i + 1) := fun t => by rw [fr _ (by omega)]; exact (((s6.ne (by omega)).step).ne (by omega)).ne (by omega) t
    have t8 : shf G0 G5 (o + 8) g (i + 1) := fun t => by rw [fr _ (by omega)]; exact (((s8.ne (by omega)).ne (by omega)).step).ne (by omega) t
    have t7 : shf G0 G5 (o + 7) g (i + 1) := fun t => by rw [fr _ (by omega)]; exact (((s7.ne (by omega)).ne (by omega)).ne (by omega)).step t
    have fz : ∀ a j, ¬ (o + 5 ≤ a ∧ a ≤ o + 9) → G5 a j = G a j := fun a j y => by
      rw [k3 a j (by omega)]
      show xup2 _ _ _ _ _ _ = _
      rw [xup2_n (by omega)]
      show xup2 _ _ _ _ _ _ = _
      rw [xup2_n (by omega)]
      show xup2 _ _ _ _ _ _ = _
      rw [xup2_n (by omega)]
      show xup2 _ _ _ _ _ _ = _
      rw [xup2_n (by omega)]
    obtain ⟨G', fu', j1, j2, j3, j4, j5, j6, j7⟩ := ih (i + 1) fu G5 (by omega) (by omega) (by rw [fz _ _ (by omega)]; exact h10) t5 t6 t7 t8 k2
    refine ⟨G', fu', ?_, j2, j3, j4, j5, j6, fun a j y => by rw [j7 a j y, fz a j y]⟩
    rw [← j1, ← k1]
    show g308_107b (g308_107 f fu) f _ _ _ _ = _
    unfold g308_107b
    rw [h10, if_neg (by omega), e1, if_pos hig, if_pos hii, Option.bind_some, if_pos hig, if_pos hii, Option.bind_some, if_pos hig, if_pos hii, Option.bind_some, if_pos hig, if_pos hii, Option.bind_some, Int.toNat_natCast, Int.toNat_natCast]
    rfl
theorem l_308_249 {n : Nat} (hn : n + g ≤ 200) {G0 : xG_} : ∀ (d i fu : Nat) (G : xG_), i + d = n → d < fu → G o 16 = (n : Int) → shf G0 G (o + 10) g i → shf G0 G (o + 11) g i → shf G0 G (o + 12) g i →
    ∃ G' fu', g308_249 f fu o (g : Int) (i : Int) G = g308_249 f (fu' + 1) o (g : Int) (n : Int) G' ∧ shf G0 G' (o + 10) g n ∧ shf G0 G' (o + 11) g n ∧ shf G0 G' (o + 12) g n ∧ ∀ a j, ¬ (o + 10 ≤ a ∧ a ≤ o + 12) → G' a j = G a j := by
  intro d
  induction d with
  | zero =>
    intro i fu G h1 h2 h10 s5 s6 s7
    obtain ⟨fu, rfl⟩ : ∃ t, fu = t + 1 := ⟨fu - 1, by omega⟩
    have : i = n := by omega
    subst this
    exact ⟨G, fu, rfl, s5, s6, s7, fun _ _ _ => rfl⟩
  | succ d ih =>
    intro i fu G h1 h2 h10 s5 s6 s7
    obtain ⟨fu, rfl⟩ : ∃ t, fu = t + 1 := ⟨fu - 1, by omega⟩
    have e1 : xwr ((i : Int) + (g : Int)) = ((i + g : Nat) : Int) := by rw [xwr_g _ (by omega) (by omega)]; omega
    have e3 : xwr ((i : Int) + 1) = ((i + 1 : Nat) : Int) := by rw [xwr_g _ (by omega) (by omega)]; omega
    have hig : 0 ≤ ((i + g : Nat) : Int) ∧ ((i + g : Nat) : Int) < 200 := by omega
    have hii : 0 ≤ (i : Int) ∧ (i : Int) < 200 := by omega
    let G1 := xup2 G (o + 10) i (G (o + 10) (i + g))
    let G2 := xup2 G1 (o + 11) i (G1 (o + 11) (i + g))
    let G3 := xup2 G2 (o + 12) i (G2 (o + 12) (i + g))
    have t5 : shf G0 G3 (o + 10) g (i + 1) := ((s5.step).ne (by omega)).ne (by omega)
    have t6 : shf G0 G3 (o + 11) g (i + 1) := ((s6.ne (by omega)).step).ne (by omega)
    have t7 : shf G0 G3 (o + 12) g (i + 1) := ((s7.ne (by omega)).ne (by omega)).step
    have fz : ∀ a j, ¬ (o + 10 ≤ a ∧ a ≤ o + 12) → G3 a j = G a j := fun a j y => by
      show xup2 _ _ _ _ _ _ = _
      rw [xup2_n (by omega)]
      show xup2 _ _ _ _ _ _ = _
      rw [xup2_n (by omega)]
      show xup2 _ _ _ _ _ _ = _
      rw [xup2_n (by omega)]
    obtain ⟨G', fu', j1, j2, j3, j4, j7⟩ := ih (i + 1) fu G3 (by omega) (by omega) (by rw [fz _ _ (by omega)]; exact h10) t5 t6 t7
    refine ⟨G', fu', ?_, j2, j3, j4, fun a j y => by rw [j7 a j y, fz a j y]⟩
    rw [← j1]
    show g308_249b (g308_249 f fu) f _ _ _ _ = _
    unfold g308_249b
    rw [h10, if_neg (by omega), e1, if_pos hig, if_pos hii, Option.bind_some, if_pos hig, if_pos hii, Option.bind_some, if_pos hig, if_pos hii, Option.bind_some, Int.toNat_natCast, Int.toNat_natCast, e3]
theorem l_308_338 {n : Nat} (hn : n + g ≤ 20) {G0 : xG_} : ∀ (d i fu : Nat) (G : xG_), i + d = n → d < fu → G o 17 = (n : Int) → shf G0 G (o + 13) g i → shf G0 G (o + 14) g i →
    ∃ G', g308_338 f fu o (g : Int) (i : Int) G = some G' ∧ shf G0 G' (o + 13) g n ∧ shf G0 G' (o + 14) g n ∧ ∀ a j, ¬ (o + 13 ≤ a ∧ a ≤ o + 14) → G' a j = G a j := by
  intro d
  induction d with
  | zero =>
    intro i fu G h1 h2 h10 s5 s6
    obtain ⟨fu, rfl⟩ : ∃ t, fu = t + 1 := ⟨fu - 1, by omega⟩
    have : i = n := by omega
    subst this
    refine ⟨G, ?_, s5, s6, fun _ _ _ => rfl⟩
    show g308_338b (g308_338 f fu) f _ _ _ _ = _
    unfold g308_338b
    rw [h10, if_pos (by omega)]
  | succ d ih =>
    intro i fu G h1 h2 h10 s5 s6
    obtain ⟨fu, rfl⟩ : ∃ t, fu = t + 1 := ⟨fu - 1, by omega⟩
    have e1 : xwr ((i : Int) + (g : Int)) = ((i + g : Nat) : Int) := by rw [xwr_g _ (by omega) (by omega)]; omega
    have e3 : xwr ((i : Int) + 1) = ((i + 1 : Nat) : Int) := by rw [xwr_g _ (by omega) (by omega)]; omega
    have hig : 0 ≤ ((i + g : Nat) : Int) ∧ ((i + g : Nat) : Int) < 20 := by omega
    have hii : 0 ≤ (i : Int) ∧ (i : Int) < 20 := by omega
    let G1 := xup2 G (o + 13) i (G (o + 13) (i + g))
    let G2 := xup2 G1 (o + 14) i (G1 (o + 14) (i + g))
    have t5 : shf G0 G2 (o + 13) g (i + 1) := (s5.step).ne (by omega)
    have t6 : shf G0 G2 (o + 14) g (i + 1) := (s6.ne (by omega)).step
    have fz : ∀ a j, ¬ (o + 13 ≤ a ∧ a ≤ o + 14) → G2 a j = G a j := fun a j y => by
      show xup2 _ _ _ _ _ _ = _
      rw [xup2_n (by omega)]
      show xup2 _ _ _ _ _ _ = _
      rw [xup2_n (by omega)]
    obtain ⟨G', j1, j2, j3, j7⟩ := ih (i + 1) fu G2 (by omega) (by omega) (by rw [fz _ _ (by omega)]; exact h10) t5 t6
    refine ⟨G', ?_, j2, j3, fun a j y => by rw [j7 a j y, fz a j y]⟩
    rw [← j1]
    show g308_338b (g308_338 f fu) f _ _ _ _ = _
    unfold g308_338b
    rw [h10, if_neg (by omega), e1, if_pos hig, if_pos hii, Option.bind_some, if_pos hig, if_pos hii, Option.bind_some, Int.toNat_natCast, Int.toNat_natCast, e3]
end
