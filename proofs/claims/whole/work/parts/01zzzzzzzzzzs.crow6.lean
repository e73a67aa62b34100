/-! THE CLASS: rows: sameRows(), sameRanks() -/
section
variable {f x y i j c k W kz a cap cap2 p n n2 : Nat} {S S' : Nat → Nat × Nat × Nat} {G G' : xG_} {m : Nat × Nat} {R R2 : List pRw} {v v2 : Int}
theorem st_81z {r : Nat → Nat → Int → xT_ → Option (Int × xT_)} (xs : S x = (1, 5, 4)) (w1 : G x 1 = (n : Int)) : c81_15b r f x y (n : Int) (S, G, m) = some (1, (S, G, m)) := by
  unfold c81_15b
  simp (disch := omega) only [cq_gi, cq_gr, cq_a, cq_s, cq_p, cq_pr, cq_is, cq_ar, cq_ab, cq_ln, xq_nz, Option.bind_some, xup2_n, xup2_s, Int.toNat_natCast, Int.reduceToNat, if_pos, if_neg, true_and, and_true, and_self, eq_self, if_true, reduceIte, not_true_eq_false, not_false_eq_true, or_true, true_or, xs, w1]
theorem st_81s {r : Nat → Nat → Int → xT_ → Option (Int × xT_)} (xs : S x = (1, 5, 4)) (w0 : G x 0 = (W : Int)) (w1 : G x 1 = (n : Int)) (hi : i < n) (e : c72 f x (i : Int) y (i : Int) (W : Int) (S, G, m) = some (v, (S, G, m))) : c81_15b r f x y (i : Int) (S, G, m) = if v = 0 then r x y (xwr ((i : Int) + 1)) (S, G, m) else some (0, (S, G, m)) := by
  by_cases q : v = 0
  · rw [if_pos q]
    unfold c81_15b
    simp (disch := omega) only [cq_gi, cq_gr, cq_a, cq_s, cq_p, cq_pr, cq_is, cq_ar, cq_ab, cq_ln, xq_nz, Option.bind_some, xup2_n, xup2_s, Int.toNat_natCast, Int.reduceToNat, if_pos, if_neg, true_and, and_true, and_self, eq_self, if_true, reduceIte, not_true_eq_false, not_false_eq_true, or_true, true_or, xs, w0, w1, e, q]
  · rw [if_neg q]
    unfold c81_15b
    simp (disch := omega) only [cq_gi, cq_gr, cq_a, cq_s, cq_p, cq_pr, cq_is, cq_ar, cq_ab, cq_ln, xq_nz, Option.bind_some, xup2_n, xup2_s, Int.toNat_natCast, Int.reduceToNat, if_pos, if_neg, true_and, and_true, and_self, eq_self, if_true, reduceIte, not_true_eq_false, not_false_eq_true, or_true, true_or, xs, w0, w1, e, q]
theorem st_81 (xs : S x = (1, 5, 4)) (ys : S y = (1, 5, 4)) (w1 : G x 1 = (n : Int)) (v1 : G y 1 = (n2 : Int)) : c81 f x y (S, G, m) = if n = n2 then c81_15 f f x y 0 (S, G, m) else some (0, (S, G, m)) := by
  by_cases q : n = n2
  · rw [if_pos q]
    subst q
    unfold c81
    simp (disch := omega) only [cq_gi, cq_gr, cq_a, cq_s, cq_p, cq_pr, cq_is, cq_ar, cq_ab, cq_ln, xq_nz, Option.bind_some, xup2_n, xup2_s, Int.toNat_natCast, Int.reduceToNat, if_pos, if_neg, true_and, and_true, and_self, eq_self, if_true, reduceIte, not_true_eq_false, not_false_eq_true, or_true, true_or, xs, ys, w1, v1]
  · rw [if_neg q]
    unfold c81
    simp (disch := omega) only [cq_gi, cq_gr, cq_a, cq_s, cq_p, cq_pr, cq_is, cq_ar, cq_ab, cq_ln, xq_nz, Option.bind_some, xup2_n, xup2_s, Int.toNat_natCast, Int.reduceToNat, if_pos, if_neg, true_and, and_true, and_self, eq_self, if_true, reduceIte, not_true_eq_false, not_false_eq_true, or_true, true_or, xs, ys, w1, v1]
/-- sameRows() -/
theorem k_81 (hf : 600 < f) (h : cRw S G x W cap R) (h2 : cRw S G y W cap2 R2) : ∃ b : Bool, c81 f x y (S, G, m) = some (b01 b, (S, G, m)) ∧ (b = true ↔ R.map (·.1) = R2.map (·.1)) := by
  obtain ⟨xs, _, _, ⟨w0, w1, _, _⟩, hl, hcap, hW, hR⟩ := id h
  obtain ⟨ys, _, _, ⟨v0, v1, _, _⟩, hl2, hcap2, _, hR2⟩ := id h2
  have loop : ∀ (d i fu : Nat), i + d = R.length → R.length = R2.length → d < fu → (∀ k, k < i → (R.getD k dRw).1 = (R2.getD k dRw).1) → ∃ b : Bool, c81_15 f fu x y (i : Int) (S, G, m) = some (b01 b, (S, G, m)) ∧ (b = true ↔ ∀ k, k < R.length → (R.getD k dRw).1 = (R2.getD k dRw).1) := by
    intro d
    induction d with
    | zero =>
      intro i fu e1 e2 e3 e4
      obtain ⟨fu, rfl⟩ : ∃ t, fu = t + 1 := ⟨fu - 1, by omega⟩
      have : i = R.length := by omega
      subst this
      exact ⟨true, st_81z (r := c81_15 f fu) xs w1, fun _ => e4, fun _ => rfl⟩
    | succ d ih =>
      intro i fu e1 e2 e3 e4
      obtain ⟨fu, rfl⟩ : ∃ t, fu = t + 1 := ⟨fu - 1, by omega⟩
      have hi : i < R.length := by omega
      have e72 := k_72 (f := f) (m := m) (k := W) (by omega) h h2 hi (by omega : i < R2.length) (Nat.le_refl _) (Nat.le_refl _)
      have l1 := (hR i hi).1
      have l2 := (hR2 i (by omega)).1
      have t1 : (R.getD i dRw).1.take W = (R.getD i dRw).1 := by rw [← l1, List.take_length]
      have t2 : (R2.getD i dRw).1.take W = (R2.getD i dRw).1 := by rw [← l2, List.take_length]
      rw [t1, t2] at e72
      have st : c81_15 f (fu + 1) x y (i : Int) (S, G, m) = _ := st_81s (r := c81_15 f fu) xs w0 w1 hi e72
      by_cases q : vCmp (R.getD i dRw).1 (R2.getD i dRw).1 = 0
      · have eq := vCmp_eq (by omega) q
        have ek : xwr ((i : Int) + 1) = ((i + 1 : Nat) : Int) := by rw [xwr_g _ (by omega) (by omega)]; omega
        rw [if_pos q, ek] at st
        rw [st]
        refine ih (i + 1) fu (by omega) e2 (by omega) (fun k hk => ?_)
        by_cases ck : k = i
        · rw [ck]; exact eq
        · exact e4 k (by omega)
      · rw [if_neg q] at st
        refine ⟨false, st, (fun y => nomatch y), fun y => ?_⟩
        exfalso
        exact q (by rw [y i hi, vCmp_self])
  rw [st_81 xs ys w1 v1]
  by_cases q : R.length = R2.length
  · rw [if_pos q]
    obtain ⟨b, b1, b2⟩ := loop R.length 0 f (by omega) q (by omega) (fun k hk => absurd hk (Nat.not_lt_zero k))
    refine ⟨b, b1, b2.trans ⟨fun y => ?_, fun y k hk => ?_⟩⟩
    · refine List.ext_getElem (by rw [List.length_map, List.length_map]; exact q) (fun k k1 k2 => ?_)
      rw [List.length_map] at k1 k2
      have := y k k1
      rw [getD_e k1, getD_e k2] at this
      rw [List.getElem_map, List.getElem_map]
      exact this
    · have e : (R.map (·.1))[k]'(by rw [List.length_map]; exact hk) = (R2.map (·.1))[k]'(by rw [List.length_map]; omega) := List.getElem_of_eq y _
      rw [List.getElem_map, List.getElem_map] at e
      rw [getD_e hk, getD_e (by omega : k < R2.length)]
      exact e
  · rw [if_neg q]
    refine ⟨false, rfl, (fun y => nomatch y), fun y => ?_⟩
    exact absurd (by have := congrArg List.length y; rw [List.length_map, List.length_map] at this; exact this) q
theorem st_82z {r : Nat → Nat → Int → xT_ → Option (Int × xT_)} (xs : S x = (1, 5, 4)) (w1 : G x 1 = (n : Int)) : c82_2b r f x y (n : Int) (S, G, m) = some (1, (S, G, m)) := by
  unfold c82_2b
  simp (disch := omega) only [cq_gi, cq_gr, cq_a, cq_s, cq_p, cq_pr, cq_is, cq_ar, cq_ab, cq_ln, xq_nz, Option.bind_some, xup2_n, xup2_s, Int.toNat_natCast, Int.reduceToNat, if_pos, if_neg, true_and, and_true, and_self, eq_self, if_true, reduceIte, not_true_eq_false, not_false_eq_true, or_true, true_or, xs, w1]
theorem st_82n {r : Nat → Nat → Int → xT_ → Option (Int × xT_)} (xs : S x = (1, 5, 4)) (ys : S y = (1, 5, 4)) (w1 : G x 1 = (n : Int)) (v1 : G y 1 = (n2 : Int)) (hi : i < n) (hi2 : n2 ≤ i) : c82_2b r f x y (i : Int) (S, G, m) = some (0, (S, G, m)) := by
  unfold c82_2b c82_33
  simp (disch := omega) only [cq_gi, cq_gr, cq_a, cq_s, cq_p, cq_pr, cq_is, cq_ar, cq_ab, cq_ln, xq_nz, Option.bind_some, xup2_n, xup2_s, Int.toNat_natCast, Int.reduceToNat, if_pos, if_neg, true_and, and_true, and_self, eq_self, if_true, reduceIte, not_true_eq_false, not_false_eq_true, or_true, true_or, xs, ys, w1, v1]
theorem st_82s {r : Nat → Nat → Int → xT_ → Option (Int × xT_)} (xs : S x = (1, 5, 4)) (ys : S y = (1, 5, 4)) (ds : S (x + 2) = (2, 3, cap)) (es : S (y + 2) = (2, 3, cap2)) (w1 : G x 1 = (n : Int)) (v1 : G y 1 = (n2 : Int)) (w3 : G x 3 = ((x + 2 : Nat) : Int)) (v3 : G y 3 = ((y + 2 : Nat) : Int)) (hi : i < n) (hi2 : i < n2) (hc : n ≤ cap) (hc2 : n2 ≤ cap2) (g1 : G (x + 2) i = v) (g2 : G (y + 2) i = v2) : c82_2b r f x y (i : Int) (S, G, m) = if v = v2 then r x y (xwr ((i : Int) + 1)) (S, G, m) else some (0, (S, G, m)) := by
  by_cases q : v = v2
  · rw [if_pos q]
    unfold c82_2b
    simp (disch := omega) only [cq_gi, cq_gr, cq_a, cq_s, cq_p, cq_pr, cq_is, cq_ar, cq_ab, cq_ln, xq_nz, Option.bind_some, xup2_n, xup2_s, Int.toNat_natCast, Int.reduceToNat, if_pos, if_neg, true_and, and_true, and_self, eq_self, if_true, reduceIte, not_true_eq_false, not_false_eq_true, or_true, true_or, xs, ys, ds, es, w1, v1, w3, v3, g1, g2, q]
  · rw [if_neg q]
    unfold c82_2b c82_33
    simp (disch := omega) only [cq_gi, cq_gr, cq_a, cq_s, cq_p, cq_pr, cq_is, cq_ar, cq_ab, cq_ln, xq_nz, Option.bind_some, xup2_n, xup2_s, Int.toNat_natCast, Int.reduceToNat, if_pos, if_neg, true_and, and_true, and_self, eq_self, if_true, reduceIte, not_true_eq_false, not_false_eq_true, or_true, true_or, xs, ys, ds, es, w1, v1, w3, v3, g1, g2, q]
/-- sameRanks() -/
theorem k_82 (hf : 600 < f) (h : cRw S G x W cap R) (h2 : cRw S G y W cap2 R2) : ∃ b : Bool, c82 f x y (S, G, m) = some (b01 b, (S, G, m)) ∧ (b = true ↔ ∀ i, i < R.length → i < R2.length ∧ (R.getD i dRw).2 = (R2.getD i dRw).2) := by
  obtain ⟨xs, _, ds, ⟨w0, w1, w2, w3⟩, hl, hcap, hW, hR⟩ := id h
  obtain ⟨ys, _, es, ⟨v0, v1, v2, v3⟩, hl2, hcap2, _, hR2⟩ := id h2
  have loop : ∀ (d i fu : Nat), i + d = R.length → d < fu → (∀ k, k < i → k < R2.length ∧ (R.getD k dRw).2 = (R2.getD k dRw).2) → ∃ b : Bool, c82_2 f fu x y (i : Int) (S, G, m) = some (b01 b, (S, G, m)) ∧ (b = true ↔ ∀ k, k < R.length → k < R2.length ∧ (R.getD k dRw).2 = (R2.getD k dRw).2) := by
    intro d
    induction d with
    | zero =>
      intro i fu e1 e3 e4
      obtain ⟨fu, rfl⟩ : ∃ t, fu = t + 1 := ⟨fu - 1, by omega⟩
      have : i = R.length := by omega
      subst this
      exact ⟨true, st_82z (r := c82_2 f fu) xs w1, fun _ => e4, fun _ => rfl⟩
    | succ d ih =>
      intro i fu e1 e3 e4
      obtain ⟨fu, rfl⟩ : ∃ t, fu = t + 1 := ⟨fu - 1, by omega⟩
      have hi : i < R.length := by omega
      by_cases q2 : i < R2.length
      · have st : c82_2 f (fu + 1) x y (i : Int) (S, G, m) = _ := st_82s (r := c82_2 f fu) xs ys ds es w1 v1 w3 v3 hi q2 hl hl2 (hR i hi).2.2 (hR2 i q2).2.2
        by_cases q : (R.getD i dRw).2 = (R2.getD i dRw).2
        · have ek : xwr ((i : Int) + 1) = ((i + 1 : Nat) : Int) := by rw [xwr_g _ (by omega) (by omega)]; omega
          rw [if_pos q, ek] at st
          rw [st]
          refine ih (i + 1) fu (by omega) (by omega) (fun k hk => ?_)
          by_cases ck : k = i
          · rw [ck]; exact ⟨q2, q⟩
          · exact e4 k (by omega)
        · rw [if_neg q] at st
          exact ⟨false, st, (fun y => nomatch y), fun y => absurd (y i hi).2 q⟩
      · exact ⟨false, st_82n (r := c82_2 f fu) xs ys w1 v1 hi (by omega), (fun y => nomatch y), fun y => absurd (y i hi).1 q2⟩
  exact loop R.length 0 f (by omega) (by omega) (fun k hk => absurd hk (Nat.not_lt_zero k))
theorem rw_same (h1 : R.map (·.1) = R2.map (·.1)) (h2 : ∀ i, i < R.length → i < R2.length ∧ (R.getD i dRw).2 = (R2.getD i dRw).2) : R = R2 := by
  have hl : R.length = R2.length := by have := congrArg List.length h1; rw [List.length_map, List.length_map] at this; exact this
  refine List.ext_getElem hl (fun k k1 k2 => ?_)
  have e : (R.map (·.1))[k]'(by rw [List.length_map]; exact k1) = (R2.map (·.1))[k]'(by rw [List.length_map]; omega) := List.getElem_of_eq h1 _
  rw [List.getElem_map, List.getElem_map] at e
  have e2 := (h2 k k1).2
  rw [getD_e k1, getD_e k2] at e2
  exact Prod.ext e e2
end
