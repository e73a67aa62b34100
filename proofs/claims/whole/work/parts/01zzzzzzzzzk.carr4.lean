/-! THE CLASS: RINGS -/
section
variable {f q A x k np : Nat} {S : Nat → Nat × Nat × Nat} {G : xG_} {m : Nat × Nat} {T : Nat → Nat} {r132 : Nat → Nat → Int → xT_ → Option (xT_)} {r151 : Nat → Nat → Int → Int → xT_ → Option (xT_)}
theorem st_151 {a b : Nat} (hq : 82 < q) (hk : k < 16) (hx : x < 16) (qs : S q = (1, 3, 14)) (q8 : S (q + 8) = (2, 3, 16)) (sA : S A = (2, 3, 16)) (w10 : G q 10 = ((q + 8 : Nat) : Int)) (ha : G A x = (a : Int)) (hb : G A k = (b : Int)) : c24_151b r132 r151 f q A (x : Int) (k : Int) (S, G, m) = if xand (xshr (a : Int) (k : Int)) 1 = 1 ∧ xand (xshr (b : Int) (x : Int)) 1 = 1 then r151 q A (x : Int) (xwr ((k : Int) + (-1))) (S, xup2 G (q + 8) x (k : Int), m) else r151 q A (x : Int) (xwr ((k : Int) + (-1))) (S, G, m) := by
  by_cases c1 : xand (xshr (a : Int) (k : Int)) 1 = 1
  · by_cases c2 : xand (xshr (b : Int) (x : Int)) 1 = 1
    · rw [if_pos ⟨c1, c2⟩]
      unfold c24_151b c24_184
      simp (disch := omega) only [cq_gi, cq_gr, cq_a, cq_s, cq_p, cq_pr, cq_is, cq_ar, cq_ab, cq_ln, xq_nz, Option.bind_some, xup2_n, xup2_s, Int.toNat_natCast, Int.reduceToNat, if_pos, if_neg, true_and, and_true, and_self, eq_self, if_true, reduceIte, not_true_eq_false, not_false_eq_true, or_true, true_or, qs, q8, sA, w10, ha, hb, c1, c2]
    · rw [if_neg (fun y => c2 y.2)]
      unfold c24_151b c24_184
      simp (disch := omega) only [cq_gi, cq_gr, cq_a, cq_s, cq_p, cq_pr, cq_is, cq_ar, cq_ab, cq_ln, xq_nz, Option.bind_some, xup2_n, xup2_s, Int.toNat_natCast, Int.reduceToNat, if_pos, if_neg, true_and, and_true, and_self, eq_self, if_true, reduceIte, not_true_eq_false, not_false_eq_true, or_true, true_or, sA, ha, hb, c1, c2]
  · rw [if_neg (fun y => c1 y.1)]
    unfold c24_151b c24_184
    simp (disch := omega) only [cq_gi, cq_gr, cq_a, cq_s, cq_p, cq_pr, cq_is, cq_ar, cq_ab, cq_ln, xq_nz, Option.bind_some, xup2_n, xup2_s, Int.toNat_natCast, Int.reduceToNat, if_pos, if_neg, true_and, and_true, and_self, eq_self, if_true, reduceIte, not_true_eq_false, not_false_eq_true, or_true, true_or, sA, ha, c1]
/-- one RING's number -/
theorem k_151 (hq : 82 < q) (hqA : q + 10 < A) (hx : x < 16) (qs : cPgS S q) (sA : S A = (2, 3, 16)) (hT : b16 T) : ∀ (k fu c : Nat) (G : xG_), k ≤ x → k < fu → G q 10 = ((q + 8 : Nat) : Int) → cRa G A T → G (q + 8) x = (c : Int) → ∃ G', c24_151 r132 f fu q A (x : Int) ((k : Int) - 1) (S, G, m) = r132 q A ((x + 1 : Nat) : Int) (S, G', m) ∧ (∀ a j, ¬ (a = q + 8 ∧ j = x) → G' a j = G a j) ∧ G' (q + 8) x = ((qRg T x k c : Nat) : Int) := by
  have ex : xwr ((x : Int) + 1) = ((x + 1 : Nat) : Int) := by rw [xwr_g _ (by omega) (by omega)]; omega
  intro k
  induction k with
  | zero =>
    intro fu c G h1 h2 hw hC hc
    obtain ⟨fu, rfl⟩ : ∃ t, fu = t + 1 := ⟨fu - 1, by omega⟩
    refine ⟨G, ?_, fun _ _ _ => rfl, hc⟩
    show c24_151b r132 (c24_151 r132 f fu) f q A _ _ _ = _
    unfold c24_151b
    rw [if_pos (by omega), ex]
  | succ k ih =>
    intro fu c G h1 h2 hw hC hc
    obtain ⟨fu, rfl⟩ : ∃ t, fu = t + 1 := ⟨fu - 1, by omega⟩
    have ek : xwr ((k : Int) + (-1)) = (k : Int) - 1 := by rw [xwr_g _ (by omega) (by omega)]; omega
    have ek' : ((k + 1 : Nat) : Int) - 1 = (k : Int) := by omega
    have h1' := hT x
    have h2' := hT k
    have b1 := xbit (a := T x) (m := k) (by omega) (by omega)
    have b2 := xbit (a := T k) (m := x) (by omega) (by omega)
    have st := st_151 (f := f) (m := m) (r132 := r132) (r151 := c24_151 r132 f fu) hq (by omega : k < 16) hx qs.1 qs.2.2.2.2.2.2.2.2.1 sA hw (hC x hx) (hC k (by omega))
    rw [ek] at st
    rw [ek']
    show ∃ G' : xG_, c24_151b r132 (c24_151 r132 f fu) f q A _ _ _ = _ ∧ _ ∧ G' (q + 8) x = ((qRg T x k (if (T x).testBit k = true ∧ (T k).testBit x = true then k else c) : Nat) : Int)
    rw [st]
    by_cases cc : (T x).testBit k = true ∧ (T k).testBit x = true
    · rw [if_pos cc, if_pos ⟨b1.mpr cc.1, b2.mpr cc.2⟩]
      obtain ⟨G', x1, x2, x3⟩ := ih fu k (xup2 G (q + 8) x (k : Int)) (by omega) (by omega) (by rw [xup2_n (by omega)]; exact hw) (fun p hp => by rw [xup2_n (by omega)]; exact hC p hp) (xup2_s _ _ _ _)
      exact ⟨G', x1, fun a j z => by rw [x2 a j z, xup2_n z], x3⟩
    · rw [if_neg cc, if_neg (fun y => cc ⟨b1.mp y.1, b2.mp y.2⟩)]
      exact ih fu c G (by omega) (by omega) hw hC hc
theorem st_132 (hq : 82 < q) (hx : x < np) (hn : np ≤ 16) (qs : S q = (1, 3, 14)) (q8 : S (q + 8) = (2, 3, 16)) (w10 : G q 10 = ((q + 8 : Nat) : Int)) (h1 : G q 1 = (np : Int)) (ex : xwr ((x : Int) - 1) = (x : Int) - 1) : c24_132b r132 f q A (x : Int) (S, G, m) = c24_151 r132 f f q A (x : Int) ((x : Int) - 1) (S, xup2 G (q + 8) x (x : Int), m) := by
  unfold c24_132b
  simp (disch := omega) only [cq_gi, cq_gr, cq_a, cq_s, cq_p, cq_pr, cq_is, cq_ar, cq_ab, cq_ln, xq_nz, Option.bind_some, xup2_n, xup2_s, Int.toNat_natCast, Int.reduceToNat, if_pos, if_neg, true_and, and_true, and_self, eq_self, if_true, reduceIte, not_true_eq_false, not_false_eq_true, or_true, true_or, qs, q8, w10, h1, ex]
theorem st_132e {T' : xT_} (qs : S q = (1, 3, 14)) (h1 : G q 1 = (np : Int)) (e : c25 f q (S, G, m) = some T') : c24_132b r132 f q A (np : Int) (S, G, m) = some T' := by
  unfold c24_132b
  simp (disch := omega) only [cq_gi, cq_gr, cq_a, cq_s, cq_p, cq_pr, cq_is, cq_ar, cq_ab, cq_ln, xq_nz, Option.bind_some, xup2_n, xup2_s, Int.toNat_natCast, Int.reduceToNat, if_pos, if_neg, true_and, and_true, and_self, eq_self, if_true, reduceIte, not_true_eq_false, not_false_eq_true, or_true, true_or, qs, h1, e]
/-- all RINGS -/
theorem k_132 {T' : xT_} (hf : 30 < f) (hq : 82 < q) (hqA : q + 10 < A) (hn : np ≤ 16) (qs : cPgS S q) (sA : S A = (2, 3, 16)) (hT : b16 T) : ∀ (d x fu : Nat) (G : xG_), x + d = np → d < fu → G q 10 = ((q + 8 : Nat) : Int) → G q 1 = (np : Int) → cRa G A T → (∀ p, p < x → G (q + 8) p = ((qRing T p : Nat) : Int)) → ∃ G', (∀ T', c25 f q (S, G', m) = some T' → c24_132 f fu q A (x : Int) (S, G, m) = some T') ∧ (∀ a j, a ≠ q + 8 → G' a j = G a j) ∧ ∀ p, p < np → G' (q + 8) p = ((qRing T p : Nat) : Int) := by
  intro d
  induction d with
  | zero =>
    intro x fu G h1 h2 hw hq1 hC hR
    obtain ⟨fu, rfl⟩ : ∃ t, fu = t + 1 := ⟨fu - 1, by omega⟩
    have : x = np := by omega
    rw [this] at hR ⊢
    exact ⟨G, fun T' e => st_132e (r132 := c24_132 f fu) qs.1 hq1 e, fun _ _ _ => rfl, hR⟩
  | succ d ih =>
    intro x fu G h1 h2 hw hq1 hC hR
    obtain ⟨fu, rfl⟩ : ∃ t, fu = t + 1 := ⟨fu - 1, by omega⟩
    have ex : xwr ((x : Int) - 1) = (x : Int) - 1 := xwr_g _ (by omega) (by omega)
    obtain ⟨G1, x1, x2, x3⟩ := k_151 (f := f) (m := m) (r132 := c24_132 f fu) hq hqA (by omega : x < 16) qs sA hT x f x (xup2 G (q + 8) x (x : Int)) (Nat.le_refl _) (by omega) (by rw [xup2_n (by omega)]; exact hw) (fun p hp => by rw [xup2_n (by omega)]; exact hC p hp) (xup2_s _ _ _ _)
    have z1 : ∀ a j, ¬ (a = q + 8 ∧ j = x) → G1 a j = G a j := fun a j z => by rw [x2 a j z, xup2_n z]
    obtain ⟨G2, y1, y2, y3⟩ := ih (x + 1) fu G1 (by omega) (by omega) (by rw [z1 _ _ (by omega)]; exact hw) (by rw [z1 _ _ (by omega)]; exact hq1) (fun p hp => by rw [z1 _ _ (by omega)]; exact hC p hp) (fun p hp => by
      by_cases cp : p = x
      · rw [cp]; exact x3
      · rw [z1 _ _ (fun y => cp y.2)]; exact hR p (by omega))
    refine ⟨G2, fun T' e => ?_, fun a j ha => by rw [y2 a j ha, z1 a j (fun y => ha y.1)], y3⟩
    have st : c24_132 f (fu + 1) q A (x : Int) (S, G, m) = _ := st_132 (r132 := c24_132 f fu) (A := A) hq (by omega) hn qs.1 qs.2.2.2.2.2.2.2.2.1 hw hq1 ex
    rw [st, x1]
    exact y1 T' e
end
