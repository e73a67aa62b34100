/-! THE CLASS: what a RING reads outside itself -/
section
variable {f q g k np : Nat} {S : Nat → Nat × Nat × Nat} {G : xG_} {m : Nat × Nat} {T D : Nat → Nat} {r4 : Nat → Int → Int → Int → xT_ → Option (Int × xT_)} {a : Int}
theorem st_27a {b : Int} (qs : S q = (1, 3, 14)) (h1 : G q 1 = (np : Int)) (e : c26 f q (g : Int) (S, G, m) = some (b, (S, G, m))) : c27_4b r4 f q (g : Int) a (np : Int) (S, G, m) = some (xand a (xxor b (-1)), (S, G, m)) := by
  unfold c27_4b
  simp (disch := omega) only [cq_gi, cq_gr, cq_a, cq_s, cq_p, cq_pr, cq_is, cq_ar, cq_ab, cq_ln, xq_nz, Option.bind_some, xup2_n, xup2_s, Int.toNat_natCast, Int.reduceToNat, if_pos, if_neg, true_and, and_true, and_self, eq_self, if_true, reduceIte, not_true_eq_false, not_false_eq_true, or_true, true_or, qs, h1, e]
theorem st_27b {x y : Nat} (hq : 82 < q) (hk : k < np) (hn : np ≤ 16) (qs : S q = (1, 3, 14)) (q8 : S (q + 8) = (2, 3, 16)) (q10 : S (q + 10) = (2, 3, 16)) (w10 : G q 10 = ((q + 8 : Nat) : Int)) (w13 : G q 13 = ((q + 10 : Nat) : Int)) (h1 : G q 1 = (np : Int)) (hx : G (q + 8) k = (x : Int)) (hy : G (q + 10) k = (y : Int)) : c27_4b r4 f q (g : Int) a (k : Int) (S, G, m) = if x = g then r4 q (g : Int) (xor_ a (y : Int)) (xwr ((k : Int) + 1)) (S, G, m) else r4 q (g : Int) (xor_ a 0) (xwr ((k : Int) + 1)) (S, G, m) := by
  by_cases c : x = g
  · rw [if_pos c]
    rw [c] at hx
    unfold c27_4b c27_33
    simp (disch := omega) only [cq_gi, cq_gr, cq_a, cq_s, cq_p, cq_pr, cq_is, cq_ar, cq_ab, cq_ln, xq_nz, Option.bind_some, xup2_n, xup2_s, Int.toNat_natCast, Int.reduceToNat, if_pos, if_neg, true_and, and_true, and_self, eq_self, if_true, reduceIte, not_true_eq_false, not_false_eq_true, or_true, true_or, qs, q8, q10, w10, w13, h1, hx, hy]
  · rw [if_neg c]
    unfold c27_4b c27_33
    simp (disch := omega) only [cq_gi, cq_gr, cq_a, cq_s, cq_p, cq_pr, cq_is, cq_ar, cq_ab, cq_ln, xq_nz, Option.bind_some, xup2_n, xup2_s, Int.toNat_natCast, Int.reduceToNat, if_pos, if_neg, true_and, and_true, and_self, eq_self, if_true, reduceIte, not_true_eq_false, not_false_eq_true, or_true, true_or, qs, q8, w10, h1, hx]
/-- readsOf() -/
theorem k_27 (hf : 30 < f) (hq : 82 < q) (hn : np ≤ 16) (qs : cPgS S q) (hG : cPgP G q) (h1 : G q 1 = (np : Int)) (hR : ∀ p, p < np → G (q + 8) p = ((qRing T p : Nat) : Int)) (hD : b16 D) (hC : cRd G q D) : ∃ w : Nat, w < 65536 ∧ c27 f q (g : Int) (S, G, m) = some ((w : Int), (S, G, m)) ∧ ∀ j, w.testBit j = true ↔ (qMr T D g np).testBit j = true ∧ (qMb T g np).testBit j = false := by
  have e26 := k_26 (f := f) (m := m) (g := g) hf hq hn qs hG h1 hR
  obtain ⟨w, w1, w2, w3⟩ := xandn (qMr_16 (T := T) (g := g) hD np) (qMb_16 T g np hn)
  have loop : ∀ (d k fu : Nat), k + d = np → d < fu → c27_4 f fu q (g : Int) ((qMr T D g k : Nat) : Int) (k : Int) (S, G, m) = some ((w : Int), (S, G, m)) := by
    intro d
    induction d with
    | zero =>
      intro k fu e1 e2
      obtain ⟨fu, rfl⟩ : ∃ t, fu = t + 1 := ⟨fu - 1, by omega⟩
      have : k = np := by omega
      rw [this, ← w2]
      exact st_27a (r4 := c27_4 f fu) qs.1 h1 e26
    | succ d ih =>
      intro k fu e1 e2
      obtain ⟨fu, rfl⟩ : ∃ t, fu = t + 1 := ⟨fu - 1, by omega⟩
      have ek : xwr ((k : Int) + 1) = ((k + 1 : Nat) : Int) := by rw [xwr_g _ (by omega) (by omega)]; omega
      have b := qMr_16 (T := T) (g := g) hD k
      have b' := hD k
      have st : c27_4 f (fu + 1) q (g : Int) ((qMr T D g k : Nat) : Int) (k : Int) (S, G, m) = _ := st_27b (r4 := c27_4 f fu) hq (by omega) hn qs.1 qs.2.2.2.2.2.2.2.2.1 qs.2.2.2.2.2.2.2.2.2.2 hG.2.2.2.2.2.2.2.1 hG.2.2.2.2.2.2.2.2.2 h1 (hR k (by omega)) (hC k (by omega))
      have i := ih (k + 1) fu (by omega) (by omega)
      rw [show qMr T D g (k + 1) = qMr T D g k ||| (if qRing T k = g then D k else 0) from rfl] at i
      rw [st, ek]
      by_cases c : qRing T k = g
      · rw [if_pos c] at i ⊢
        rw [xor_nat (by omega) (by omega)]
        exact i
      · rw [if_neg c, Nat.or_zero] at i
        rw [if_neg c, xor_0 (by omega)]
        exact i
  exact ⟨w, w1, loop np 0 f (by omega) (by omega), w3⟩
end
