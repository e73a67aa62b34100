/-! The reference's NAMES, mentions, numbers -/
/-- what reading of LITERALS changes: x the next LITERAL's place, v0, c0, m0, n0 how many VARIABLES, codes, mentions, NAMES there were -/
def xfl (o r x v0 c0 m0 n0 : Nat) (G G' : xG_) : Prop := ∀ a j, ¬ ((a = 0 ∧ (j = 21 ∨ j = 24 ∨ j = 25)) ∨ (a = o ∧ (j = 8 ∧ r ≠ 24 ∨ j = 14 ∨ j = 37)) ∨ (a = o + 1 ∧ n0 ≤ j ∧ r ≠ 24) ∨ (o + 9 ≤ a ∧ a ≤ o + 12 ∧ m0 ≤ j) ∨ ((a = o + 19 ∨ a = o + 20) ∧ j = r) ∨ ((a = o + 23 ∨ a = o + 24) ∧ 8 * r + v0 ≤ j) ∨ (o + 25 ≤ a ∧ a ≤ o + 30 ∧ x ≤ j) ∨ ((a = o + 31 ∨ a = o + 32) ∧ 4 * x ≤ j) ∨ ((a = o + 33 ∨ a = o + 34) ∧ c0 ≤ j)) → G' a j = G a j
section
variable {o r x v0 c0 m0 n0 x1 v1 c1 m1 n1 : Nat} {G G1 G2 : xG_}
theorem xfl.rf (o r x v0 c0 m0 n0 : Nat) (G : xG_) : xfl o r x v0 c0 m0 n0 G G := fun _ _ _ => rfl
theorem xfl.tr (h : xfl o r x v0 c0 m0 n0 G G1) (h1 : xfl o r x1 v1 c1 m1 n1 G1 G2) (hx : x ≤ x1) (hv : v0 ≤ v1) (hc : c0 ≤ c1) (hm : m0 ≤ m1) (hn : n0 ≤ n1) : xfl o r x v0 c0 m0 n0 G G2 := by
  intro a j hj
  rw [h1 a j (by omega), h a j hj]
theorem xfl.up {a j : Nat} {v : Int} (G : xG_) (h : (a = 0 ∧ (j = 21 ∨ j = 24 ∨ j = 25)) ∨ (a = o ∧ (j = 8 ∧ r ≠ 24 ∨ j = 14 ∨ j = 37)) ∨ (a = o + 1 ∧ n0 ≤ j ∧ r ≠ 24) ∨ (o + 9 ≤ a ∧ a ≤ o + 12 ∧ m0 ≤ j) ∨ ((a = o + 19 ∨ a = o + 20) ∧ j = r) ∨ ((a = o + 23 ∨ a = o + 24) ∧ 8 * r + v0 ≤ j) ∨ (o + 25 ≤ a ∧ a ≤ o + 30 ∧ x ≤ j) ∨ ((a = o + 31 ∨ a = o + 32) ∧ 4 * x ≤ j) ∨ ((a = o + 33 ∨ a = o + 34) ∧ c0 ≤ j)) : xfl o r x v0 c0 m0 n0 G (xup2 G a j v) := by
  intro a' j' hj
  exact xup2_n (fun e => hj (by rw [e.1, e.2]; exact h))
theorem xfe.fl (h : xfe o r v0 c0 G G1) (x m0 n0 : Nat) : xfl o r x v0 c0 m0 n0 G G1 := fun a j hj => h a j (by omega)
end
theorem rEv.fl {G G' : xG_} {q n o r x v0 c0 m0 n0 : Nat} {B : Nat → Int} {lm : Bool} (h : rEv G q B n lm o) (hf : xfl o r x v0 c0 m0 n0 G G') : rEv G' q B n lm o := by
  obtain ⟨⟨a1, a2, a3, a4, a5⟩, b, c, d, e⟩ := h
  have g0 : ∀ j, j ≤ 20 ∨ j = 22 → G' 0 j = G 0 j := fun j hj => hf 0 j (by omega)
  have gb : ∀ j, G' (G 0 0).toNat j = G (G 0 0).toNat j := fun j => hf _ j (by have := a1.1; omega)
  refine ⟨⟨?_, a2, ?_, ?_, ?_⟩, ?_, ?_, ?_, e⟩
  · unfold gT
    rw [g0 0 (by omega), g0 1 (by omega)]
    exact a1
  · rw [g0 1 (by omega)]; exact a3
  · intro p
    rw [← a4 p]
    unfold gB
    rw [g0 0 (by omega), g0 1 (by omega), gb]
  · intro p hp
    rw [g0 0 (by omega), gb]
    exact a5 p hp
  · rw [g0 11 (by omega)]; exact b
  · unfold rC
    rw [g0 12 (by omega), g0 13 (by omega), g0 14 (by omega), g0 15 (by omega), g0 16 (by omega), g0 17 (by omega), g0 18 (by omega), g0 19 (by omega), g0 20 (by omega)]
    exact c
  · rw [g0 22 (by omega)]; exact d
/-- NAMES, mentions as they stand -/
def rNs (G : xG_) (o : Nat) (N : List Int) : Prop := G o 8 = (N.length : Int) ∧ N.length ≤ 16 ∧ ∀ k, k < N.length → G (o + 1) k = N.getD k 0
def rMs (G : xG_) (o q : Nat) (M : List pMn) : Prop := G o 14 = ((min M.length 420 : Nat) : Int) ∧ ∀ k, k < min M.length 420 → G (o + 9) k = (M.getD k (0, 0, 0, 0)).1 ∧ G (o + 10) k = (q : Int) + (M.getD k (0, 0, 0, 0)).2.1 ∧ G (o + 11) k = (M.getD k (0, 0, 0, 0)).2.2.1 ∧ G (o + 12) k = (M.getD k (0, 0, 0, 0)).2.2.2
theorem pIdx_no {V : List Int} {x : Int} (h : ∀ j, j < V.length → V.getD j 0 ≠ x) : pIdx V x = -1 := by
  have : V.findIdx? (fun y => decide (y = x)) = none := by
    rw [List.findIdx?_eq_none_iff]
    intro y hy
    obtain ⟨j, hj, e⟩ := List.mem_iff_getElem.mp hy
    have := h j hj
    rw [getD_e hj, e] at this
    exact decide_eq_false this
  unfold pIdx
  rw [this]
theorem pIdx_yes {V : List Int} {x : Int} {v : Nat} (hv : v < V.length) (h : ∀ j, j < v → V.getD j 0 ≠ x) (h1 : V.getD v 0 = x) : pIdx V x = v := by
  have : V.findIdx? (fun y => decide (y = x)) = some v := by
    rw [List.findIdx?_eq_some_iff_getElem]
    refine ⟨hv, ?_, fun j hj => ?_⟩
    · rw [getD_e hv] at h1
      exact decide_eq_true h1
    · have := h j hj
      rw [getD_e (by omega)] at this
      simp [this]
  unfold pIdx
  rw [this]
theorem pIdx_in (N : List Int) (x : Int) : pIdx N x = -1 ∨ (0 ≤ pIdx N x ∧ pIdx N x < N.length) := by
  unfold pIdx
  cases h : N.findIdx? (fun y => decide (y = x)) with
  | none => exact .inl rfl
  | some p =>
    obtain ⟨hp, _⟩ := List.findIdx?_eq_some_iff_getElem.mp h
    exact .inr ⟨by show (0 : Int) ≤ (p : Int); omega, by show (p : Int) < _; omega⟩
section
variable {f q n o r i : Nat} {B : Nat → Int} {lm : Bool} {G G' : xG_} {L : Nat → Int} {N : List Int} {M : List pMn}
theorem rNs.idx {x : Int} (ho : 0 < o) (hf : 20 < f) (hN : rNs G o N) : g205 f o x G = some (pIdx N x, G) := by
  obtain ⟨h1, h2, h3⟩ := hN
  have loop : ∀ k v fu, v + k = N.length → k < fu → (∀ j, j < v → N.getD j 0 ≠ x) → g205_2 f fu o x (v : Int) G = some (pIdx N x, G) := by
    intro k
    induction k with
    | zero =>
      intro v fu hk hfu hj
      obtain ⟨fu, rfl⟩ : ∃ t, fu = t + 1 := ⟨fu - 1, by omega⟩
      show g205_2b (g205_2 f fu) f _ _ _ _ = _
      unfold g205_2b
      rw [h1, if_pos (by omega), pIdx_no (fun j hj2 => hj j (by omega))]
    | succ k ih =>
      intro v fu hk hfu hj
      obtain ⟨fu, rfl⟩ : ∃ t, fu = t + 1 := ⟨fu - 1, by omega⟩
      show g205_2b (g205_2 f fu) f _ _ _ _ = _
      unfold g205_2b
      rw [h1, if_neg (by omega), if_pos (by omega), Int.toNat_natCast, h3 v (by omega)]
      by_cases c : N.getD v 0 = x
      · rw [if_neg (fun q => q c), pIdx_yes (by omega) hj c]
      · rw [if_pos c, xwr_g _ (by omega) (by omega), show (v : Int) + 1 = ((v + 1 : Nat) : Int) by omega]
        exact ih (v + 1) fu (by omega) (by omega) (fun j hj2 => by
          by_cases e : j = v
          · rw [e]; exact c
          · exact hj j (by omega))
  exact loop N.length 0 f (by omega) (by omega) (fun j hj => by omega)
theorem rNs.x (hN : rNs G o N) (ho : 0 < o) : rNs (xlx G L) o N := ⟨by rw [xlx_o _ _ (by omega)]; exact hN.1, hN.2.1, fun k hk => by rw [xlx_o _ _ (by omega)]; exact hN.2.2 k hk⟩
/-- the predicate of a NAME -/
theorem l_pred {x a : Int} (hf : 20 < f) (hE : rEv G q B n lm o) (hN : rNs G o N) (h7 : L 7 = -1) :
    g230 f x a (xlx G L) = if pIdx N x = -1 then (if N.length = 16 then some (-1, xlx G (xu L 7 a)) else some ((N.length : Int), xlx (xup2 (xup2 G (o + 1) N.length x) o 8 ((N.length + 1 : Nat) : Int)) L)) else some (pIdx N x, xlx G L) := by
  have h22 := hE.2.2.2.1
  have ho := hE.2.2.2.2
  obtain ⟨h1, h2, h3⟩ := hN
  have hi := rNs.idx (x := x) (by omega) hf (rNs.x (L := L) ⟨h1, h2, h3⟩ (by omega))
  by_cases c1 : pIdx N x = -1
  · rw [if_pos c1]
    rw [c1] at hi
    by_cases c2 : N.length = 16
    · rw [if_pos c2]
      refine xok_is ?_
      unfold g230
      repeat' (first | with_reducible refine xok_sb ?_ | with_reducible refine xok_it (by first | omega | (simp (disch := omega) only [eq_self, not_true_eq_false, not_false_eq_true, true_and, and_true, and_self, xlx_o, xup2_n, xup2_s, xlx_2, xlx_3, xlx_4, xlx_5, xlx_6, xlx_7, xlx_8, xlx_9, xlx_10, Int.toNat_natCast, h22]; done) | (simp (disch := omega) only [eq_self, not_true_eq_false, not_false_eq_true, true_and, and_true, and_self, xlx_o, xup2_n, xup2_s, xlx_2, xlx_3, xlx_4, xlx_5, xlx_6, xlx_7, xlx_8, xlx_9, xlx_10, Int.toNat_natCast, h22]; omega)) ?_ | with_reducible refine xok_if (by first | omega | (simp (disch := omega) only [eq_self, not_true_eq_false, not_false_eq_true, true_and, and_true, and_self, xlx_o, xup2_n, xup2_s, xlx_2, xlx_3, xlx_4, xlx_5, xlx_6, xlx_7, xlx_8, xlx_9, xlx_10, Int.toNat_natCast, h22]; done) | (simp (disch := omega) only [eq_self, not_true_eq_false, not_false_eq_true, true_and, and_true, and_self, xlx_o, xup2_n, xup2_s, xlx_2, xlx_3, xlx_4, xlx_5, xlx_6, xlx_7, xlx_8, xlx_9, xlx_10, Int.toNat_natCast, h22]; omega)) ?_ | fail)
      rw [xlx_o _ _ (by omega), h22, Int.toNat_natCast, hi]
      repeat' (first | with_reducible refine xok_sb ?_ | with_reducible refine xok_it (by first | omega | (simp (disch := omega) only [eq_self, not_true_eq_false, not_false_eq_true, true_and, and_true, and_self, xlx_o, xup2_n, xup2_s, xlx_2, xlx_3, xlx_4, xlx_5, xlx_6, xlx_7, xlx_8, xlx_9, xlx_10, Int.toNat_natCast, h22, h1]; done) | (simp (disch := omega) only [eq_self, not_true_eq_false, not_false_eq_true, true_and, and_true, and_self, xlx_o, xup2_n, xup2_s, xlx_2, xlx_3, xlx_4, xlx_5, xlx_6, xlx_7, xlx_8, xlx_9, xlx_10, Int.toNat_natCast, h22, h1]; omega)) ?_ | with_reducible refine xok_if (by first | omega | (simp (disch := omega) only [eq_self, not_true_eq_false, not_false_eq_true, true_and, and_true, and_self, xlx_o, xup2_n, xup2_s, xlx_2, xlx_3, xlx_4, xlx_5, xlx_6, xlx_7, xlx_8, xlx_9, xlx_10, Int.toNat_natCast, h22, h1]; done) | (simp (disch := omega) only [eq_self, not_true_eq_false, not_false_eq_true, true_and, and_true, and_self, xlx_o, xup2_n, xup2_s, xlx_2, xlx_3, xlx_4, xlx_5, xlx_6, xlx_7, xlx_8, xlx_9, xlx_10, Int.toNat_natCast, h22, h1]; omega)) ?_ | fail)
      rw [l_fail, if_pos h7]
      exact xok_some.mpr rfl
    · rw [if_neg c2]
      refine xok_is ?_
      unfold g230
      repeat' (first | with_reducible refine xok_sb ?_ | with_reducible refine xok_it (by first | omega | (simp (disch := omega) only [eq_self, not_true_eq_false, not_false_eq_true, true_and, and_true, and_self, xlx_o, xup2_n, xup2_s, xlx_2, xlx_3, xlx_4, xlx_5, xlx_6, xlx_7, xlx_8, xlx_9, xlx_10, Int.toNat_natCast, h22]; done) | (simp (disch := omega) only [eq_self, not_true_eq_false, not_false_eq_true, true_and, and_true, and_self, xlx_o, xup2_n, xup2_s, xlx_2, xlx_3, xlx_4, xlx_5, xlx_6, xlx_7, xlx_8, xlx_9, xlx_10, Int.toNat_natCast, h22]; omega)) ?_ | with_reducible refine xok_if (by first | omega | (simp (disch := omega) only [eq_self, not_true_eq_false, not_false_eq_true, true_and, and_true, and_self, xlx_o, xup2_n, xup2_s, xlx_2, xlx_3, xlx_4, xlx_5, xlx_6, xlx_7, xlx_8, xlx_9, xlx_10, Int.toNat_natCast, h22]; done) | (simp (disch := omega) only [eq_self, not_true_eq_false, not_false_eq_true, true_and, and_true, and_self, xlx_o, xup2_n, xup2_s, xlx_2, xlx_3, xlx_4, xlx_5, xlx_6, xlx_7, xlx_8, xlx_9, xlx_10, Int.toNat_natCast, h22]; omega)) ?_ | fail)
      rw [xlx_o _ _ (by omega), h22, Int.toNat_natCast, hi]
      repeat' (first | with_reducible refine xok_sb ?_ | with_reducible refine xok_it (by first | omega | (simp (disch := omega) only [eq_self, not_true_eq_false, not_false_eq_true, true_and, and_true, and_self, xlx_o, xup2_n, xup2_s, xlx_2, xlx_3, xlx_4, xlx_5, xlx_6, xlx_7, xlx_8, xlx_9, xlx_10, Int.toNat_natCast, h22, h1]; done) | (simp (disch := omega) only [eq_self, not_true_eq_false, not_false_eq_true, true_and, and_true, and_self, xlx_o, xup2_n, xup2_s, xlx_2, xlx_3, xlx_4, xlx_5, xlx_6, xlx_7, xlx_8, xlx_9, xlx_10, Int.toNat_natCast, h22, h1]; omega)) ?_ | with_reducible refine xok_if (by first | omega | (simp (disch := omega) only [eq_self, not_true_eq_false, not_false_eq_true, true_and, and_true, and_self, xlx_o, xup2_n, xup2_s, xlx_2, xlx_3, xlx_4, xlx_5, xlx_6, xlx_7, xlx_8, xlx_9, xlx_10, Int.toNat_natCast, h22, h1]; done) | (simp (disch := omega) only [eq_self, not_true_eq_false, not_false_eq_true, true_and, and_true, and_self, xlx_o, xup2_n, xup2_s, xlx_2, xlx_3, xlx_4, xlx_5, xlx_6, xlx_7, xlx_8, xlx_9, xlx_10, Int.toNat_natCast, h22, h1]; omega)) ?_ | fail)
      simp (disch := omega) only [xlx_upo, eq_self, not_true_eq_false, not_false_eq_true, true_and, and_true, and_self, xlx_o, xup2_n, xup2_s, xlx_2, xlx_3, xlx_4, xlx_5, xlx_6, xlx_7, xlx_8, xlx_9, xlx_10, Int.toNat_natCast, h22, h1]
      simp (disch := omega) only [xwr_g, xwl_g]
      refine xok_some.mpr ?_
      rw [show (N.length : Int) + 1 = ((N.length + 1 : Nat) : Int) by omega]
      exact Prod.ext (by show ((N.length + 1 : Nat) : Int) - 1 = (N.length : Int); omega) rfl
  · rw [if_neg c1]
    refine xok_is ?_
    unfold g230
    repeat' (first | with_reducible refine xok_sb ?_ | with_reducible refine xok_it (by first | omega | (simp (disch := omega) only [eq_self, not_true_eq_false, not_false_eq_true, true_and, and_true, and_self, xlx_o, xup2_n, xup2_s, xlx_2, xlx_3, xlx_4, xlx_5, xlx_6, xlx_7, xlx_8, xlx_9, xlx_10, Int.toNat_natCast, h22]; done) | (simp (disch := omega) only [eq_self, not_true_eq_false, not_false_eq_true, true_and, and_true, and_self, xlx_o, xup2_n, xup2_s, xlx_2, xlx_3, xlx_4, xlx_5, xlx_6, xlx_7, xlx_8, xlx_9, xlx_10, Int.toNat_natCast, h22]; omega)) ?_ | with_reducible refine xok_if (by first | omega | (simp (disch := omega) only [eq_self, not_true_eq_false, not_false_eq_true, true_and, and_true, and_self, xlx_o, xup2_n, xup2_s, xlx_2, xlx_3, xlx_4, xlx_5, xlx_6, xlx_7, xlx_8, xlx_9, xlx_10, Int.toNat_natCast, h22]; done) | (simp (disch := omega) only [eq_self, not_true_eq_false, not_false_eq_true, true_and, and_true, and_self, xlx_o, xup2_n, xup2_s, xlx_2, xlx_3, xlx_4, xlx_5, xlx_6, xlx_7, xlx_8, xlx_9, xlx_10, Int.toNat_natCast, h22]; omega)) ?_ | fail)
    rw [xlx_o _ _ (by omega), h22, Int.toNat_natCast, hi]
    repeat' (first | with_reducible refine xok_sb ?_ | with_reducible refine xok_it (by first | omega | (simp (disch := omega) only [eq_self, not_true_eq_false, not_false_eq_true, true_and, and_true, and_self, xlx_o, xup2_n, xup2_s, xlx_2, xlx_3, xlx_4, xlx_5, xlx_6, xlx_7, xlx_8, xlx_9, xlx_10, Int.toNat_natCast, h22, h1]; done) | (simp (disch := omega) only [eq_self, not_true_eq_false, not_false_eq_true, true_and, and_true, and_self, xlx_o, xup2_n, xup2_s, xlx_2, xlx_3, xlx_4, xlx_5, xlx_6, xlx_7, xlx_8, xlx_9, xlx_10, Int.toNat_natCast, h22, h1]; omega)) ?_ | with_reducible refine xok_if (by first | omega | (simp (disch := omega) only [eq_self, not_true_eq_false, not_false_eq_true, true_and, and_true, and_self, xlx_o, xup2_n, xup2_s, xlx_2, xlx_3, xlx_4, xlx_5, xlx_6, xlx_7, xlx_8, xlx_9, xlx_10, Int.toNat_natCast, h22, h1]; done) | (simp (disch := omega) only [eq_self, not_true_eq_false, not_false_eq_true, true_and, and_true, and_self, xlx_o, xup2_n, xup2_s, xlx_2, xlx_3, xlx_4, xlx_5, xlx_6, xlx_7, xlx_8, xlx_9, xlx_10, Int.toNat_natCast, h22, h1]; omega)) ?_ | fail)
    exact xok_some.mpr rfl
theorem rNs.add (hN : rNs G o N) (x : Int) (h : N.length ≠ 16) : rNs (xup2 (xup2 G (o + 1) N.length x) o 8 ((N.length + 1 : Nat) : Int)) o (N ++ [x]) := by
  obtain ⟨h1, h2, h3⟩ := hN
  refine ⟨by rw [len1]; exact xup2_s _ _ _ _, by rw [len1]; omega, fun k hk => ?_⟩
  rw [len1] at hk
  rw [getD_1, xup2_n (by omega), xup2_e]
  by_cases c : k = N.length
  · rw [if_pos ⟨rfl, c⟩, if_pos c]
  · rw [if_neg (by omega), if_neg c]
    exact h3 k (by omega)
/-- a mention -/
def rMen (G : xG_) (o k : Nat) (a b c d : Int) : xG_ := if k = 420 then G else xup2 (xup2 (xup2 (xup2 (xup2 G (o + 9) k a) (o + 10) k b) (o + 11) k c) (o + 12) k d) o 14 ((k + 1 : Nat) : Int)
theorem l_men {a b c d : Int} {k : Nat} (hE : rEv G q B n lm o) (hk : G o 14 = (k : Int)) (hk2 : k ≤ 420) : g229 f a b c d (xlx G L) = some (xlx (rMen G o k a b c d) L) := by
  have h22 := hE.2.2.2.1
  have ho := hE.2.2.2.2
  unfold rMen
  by_cases c1 : k = 420
  · rw [if_pos c1]
    refine xok_is ?_
    unfold g229
    repeat' (first | with_reducible refine xok_sb ?_ | with_reducible refine xok_it (by first | omega | (simp (disch := omega) only [eq_self, not_true_eq_false, not_false_eq_true, true_and, and_true, and_self, xlx_o, xup2_n, xup2_s, xlx_2, xlx_3, xlx_4, xlx_5, xlx_6, xlx_7, xlx_8, xlx_9, xlx_10, Int.toNat_natCast, h22, hk]; done) | (simp (disch := omega) only [eq_self, not_true_eq_false, not_false_eq_true, true_and, and_true, and_self, xlx_o, xup2_n, xup2_s, xlx_2, xlx_3, xlx_4, xlx_5, xlx_6, xlx_7, xlx_8, xlx_9, xlx_10, Int.toNat_natCast, h22, hk]; omega)) ?_ | with_reducible refine xok_if (by first | omega | (simp (disch := omega) only [eq_self, not_true_eq_false, not_false_eq_true, true_and, and_true, and_self, xlx_o, xup2_n, xup2_s, xlx_2, xlx_3, xlx_4, xlx_5, xlx_6, xlx_7, xlx_8, xlx_9, xlx_10, Int.toNat_natCast, h22, hk]; done) | (simp (disch := omega) only [eq_self, not_true_eq_false, not_false_eq_true, true_and, and_true, and_self, xlx_o, xup2_n, xup2_s, xlx_2, xlx_3, xlx_4, xlx_5, xlx_6, xlx_7, xlx_8, xlx_9, xlx_10, Int.toNat_natCast, h22, hk]; omega)) ?_ | fail)
    exact xok_some.mpr rfl
  · rw [if_neg c1]
    refine xok_is ?_
    unfold g229
    repeat' (first | with_reducible refine xok_sb ?_ | with_reducible refine xok_it (by first | omega | (simp (disch := omega) only [eq_self, not_true_eq_false, not_false_eq_true, true_and, and_true, and_self, xlx_o, xup2_n, xup2_s, xlx_2, xlx_3, xlx_4, xlx_5, xlx_6, xlx_7, xlx_8, xlx_9, xlx_10, Int.toNat_natCast, h22, hk]; done) | (simp (disch := omega) only [eq_self, not_true_eq_false, not_false_eq_true, true_and, and_true, and_self, xlx_o, xup2_n, xup2_s, xlx_2, xlx_3, xlx_4, xlx_5, xlx_6, xlx_7, xlx_8, xlx_9, xlx_10, Int.toNat_natCast, h22, hk]; omega)) ?_ | with_reducible refine xok_if (by first | omega | (simp (disch := omega) only [eq_self, not_true_eq_false, not_false_eq_true, true_and, and_true, and_self, xlx_o, xup2_n, xup2_s, xlx_2, xlx_3, xlx_4, xlx_5, xlx_6, xlx_7, xlx_8, xlx_9, xlx_10, Int.toNat_natCast, h22, hk]; done) | (simp (disch := omega) only [eq_self, not_true_eq_false, not_false_eq_true, true_and, and_true, and_self, xlx_o, xup2_n, xup2_s, xlx_2, xlx_3, xlx_4, xlx_5, xlx_6, xlx_7, xlx_8, xlx_9, xlx_10, Int.toNat_natCast, h22, hk]; omega)) ?_ | fail)
    simp (disch := omega) only [xlx_upo, eq_self, not_true_eq_false, not_false_eq_true, true_and, and_true, and_self, xlx_o, xup2_n, xup2_s, xlx_2, xlx_3, xlx_4, xlx_5, xlx_6, xlx_7, xlx_8, xlx_9, xlx_10, Int.toNat_natCast, h22, hk]
    rw [xwr_g _ (by omega) (by omega)]
    exact xok_some.mpr rfl
theorem rMen_o {k a j : Nat} {w x y z : Int} (h : ¬ (o + 9 ≤ a ∧ a ≤ o + 12 ∨ a = o ∧ j = 14)) : rMen G o k w x y z a j = G a j := by
  unfold rMen
  split
  · rfl
  · rw [xup2_n (by omega), xup2_n (by omega), xup2_n (by omega), xup2_n (by omega), xup2_n (by omega)]
theorem rMen_fl {k r x v0 c0 n0 : Nat} {w y z u : Int} (G : xG_) : xfl o r x v0 c0 k n0 G (rMen G o k w y z u) := by
  intro a j hj
  unfold rMen
  split
  · rfl
  · rw [xup2_n (by omega), xup2_n (by omega), xup2_n (by omega), xup2_n (by omega), xup2_n (by omega)]
theorem rMs.add (h : rMs G o q M) (m : pMn) : rMs (rMen G o (min M.length 420) m.1 ((q : Int) + m.2.1) m.2.2.1 m.2.2.2) o q (M ++ [m]) := by
  obtain ⟨h1, h2⟩ := h
  unfold rMen
  by_cases c : min M.length 420 = 420
  · rw [if_pos c]
    refine ⟨by rw [len1, h1]; congr 1; omega, fun k hk => ?_⟩
    rw [len1] at hk
    rw [getD_1, if_neg (by omega)]
    exact h2 k (by omega)
  · rw [if_neg c]
    have e : min M.length 420 = M.length := by omega
    rw [e]
    refine ⟨by rw [len1, xup2_s]; congr 1; omega, fun k hk => ?_⟩
    rw [len1] at hk
    rw [getD_1]
    by_cases c2 : k = M.length
    · rw [if_pos c2, c2]
      simp (disch := omega) only [xup2_n, xup2_s]
      exact ⟨trivial, trivial, trivial, trivial⟩
    · rw [if_neg c2]
      simp (disch := omega) only [xup2_n]
      exact h2 k (by omega)
theorem l_num_bad (h : L 7 ≠ -1) (a b : Int) : g233 f a b (xlx G L) = some (a, xlx G L) := by
  unfold g233 g233_28
  simp only [xlx_2, xlx_3, xlx_4, xlx_5, xlx_6, xlx_7, xlx_8, xlx_9, xlx_10, xlx_u2, xlx_u3, xlx_u4, xlx_u5, xlx_u6, xlx_u7, xlx_u8, xlx_u9, xlx_u10, xu_e, eq_self, reduceIte, Nat.reduceEqDiff, if_true, if_false, not_true_eq_false, not_false_eq_true, Option.bind_some, i10, i01, true_and, false_and, and_false, ne_eq, Int.reduceEq, Int.reduceNeg, l_kind, h, l_fail]
theorem l_num {hi : Int} (hf : n + 20 < f) (hE : rEv G q B n lm o) (hA : rAt q B n lm i L) (hh : hi ≤ 4) :
    pok (pNum (tstr B n lm) hi i) (fun w => ∃ L', g233 f 1 hi (xlx G L) = some (1, xlx G L') ∧ L' 7 = (q : Int) + w)
      (fun x => ∃ L', g233 f 1 hi (xlx G L) = some (x.1, xlx G L') ∧ rAt q B n lm x.2 L' ∧ 1 ≤ x.1 ∧ x.1 ≤ hi) := by
  obtain ⟨t4, tsg, tn, tv, tu, tnum, tend, tn9, tv9, tnum9, t6, t5, tlt, t3⟩ := hA.tk hE.1.2.1
  have h7 := hA.1
  unfold pNum
  by_cases c : kK (tstr B n lm) i = 4 ∧ 1 ≤ kC (tstr B n lm) i ∧ kC (tstr B n lm) i ≤ hi
  · rw [if_pos c]
    have k2 := tnum.mpr ⟨c.1, by omega⟩
    have k9 := tnum9 k2
    have h6 : L 6 = -1 := by rw [t6, k2]; rfl
    obtain ⟨L', e, a⟩ := l_pass hf hE hA h6 (by omega) (by omega)
    refine ⟨L', ?_, a, c.2⟩
    unfold g233
    simp only [xlx_2, xlx_3, xlx_4, xlx_5, xlx_6, xlx_7, xlx_8, xlx_9, xlx_10, xlx_u2, xlx_u3, xlx_u4, xlx_u5, xlx_u6, xlx_u7, xlx_u8, xlx_u9, xlx_u10, xu_e, eq_self, reduceIte, Nat.reduceEqDiff, if_true, if_false, not_true_eq_false, not_false_eq_true, Option.bind_some, i10, i01, true_and, false_and, and_false, ne_eq, Int.reduceEq, Int.reduceNeg, l_kind, h7, k2, k9, e]
    rw [if_neg (by omega), if_pos (by omega), xwr_g _ (by omega) (by omega)]
  · rw [if_neg c]
    refine ⟨xu L 7 (L 4), ?_, t4⟩
    unfold g233 g233_28
    simp only [xlx_2, xlx_3, xlx_4, xlx_5, xlx_6, xlx_7, xlx_8, xlx_9, xlx_10, xlx_u2, xlx_u3, xlx_u4, xlx_u5, xlx_u6, xlx_u7, xlx_u8, xlx_u9, xlx_u10, xu_e, eq_self, reduceIte, Nat.reduceEqDiff, if_true, if_false, not_true_eq_false, not_false_eq_true, Option.bind_some, i10, i01, true_and, false_and, and_false, ne_eq, Int.reduceEq, Int.reduceNeg, l_kind, h7, l_fail]
    by_cases k2 : L 2 = 5
    · have k9 := tnum9 k2
      have k3 := tnum.mp k2
      rw [if_neg (by simp [k2]), k9]
      by_cases c1 : kC (tstr B n lm) i < 1
      · rw [if_pos c1]
      · rw [if_neg c1, if_neg (by omega)]
    · rw [if_pos (by simp [k2])]
end
