/-! THE CLASS: members of a RING, what it reads -/
/-- the predicates below k of a RING -/
def qMb (T : Nat → Nat) (g : Nat) : Nat → Nat
  | 0 => 0
  | k + 1 => qMb T g k ||| (if qRing T k = g then 2 ^ k else 0)
/-- what those read -/
def qMr (T D : Nat → Nat) (g : Nat) : Nat → Nat
  | 0 => 0
  | k + 1 => qMr T D g k ||| (if qRing T k = g then D k else 0)
theorem qMb_16 (T : Nat → Nat) (g : Nat) : ∀ k, k ≤ 16 → qMb T g k < 2 ^ 16
  | 0, _ => by show 0 < 2 ^ 16; decide
  | k + 1, h => Nat.or_lt_two_pow (qMb_16 T g k (by omega)) (by
      split
      · exact Nat.pow_lt_pow_right (by decide) (by omega)
      · decide)
theorem qMr_16 {T D : Nat → Nat} {g : Nat} (hD : b16 D) : ∀ k, qMr T D g k < 2 ^ 16
  | 0 => by show 0 < 2 ^ 16; decide
  | k + 1 => Nat.or_lt_two_pow (qMr_16 hD k) (by
      split
      · exact hD k
      · decide)
section
variable {f q g k np : Nat} {S : Nat → Nat × Nat × Nat} {G : xG_} {m : Nat × Nat} {T D : Nat → Nat} {r4 : Nat → Int → Int → Int → xT_ → Option (Int × xT_)} {a : Int}
theorem st_26a (qs : S q = (1, 3, 14)) (h1 : G q 1 = (np : Int)) : c26_4b r4 f q (g : Int) a (np : Int) (S, G, m) = some (a, (S, G, m)) := by
  unfold c26_4b
  simp (disch := omega) only [cq_gi, cq_gr, cq_a, cq_s, cq_p, cq_pr, cq_is, cq_ar, cq_ab, cq_ln, xq_nz, Option.bind_some, xup2_n, xup2_s, Int.toNat_natCast, Int.reduceToNat, if_pos, if_neg, true_and, and_true, and_self, eq_self, if_true, reduceIte, not_true_eq_false, not_false_eq_true, or_true, true_or, qs, h1]
theorem st_26b {x : Nat} (hq : 82 < q) (hk : k < np) (hn : np ≤ 16) (qs : S q = (1, 3, 14)) (q8 : S (q + 8) = (2, 3, 16)) (w10 : G q 10 = ((q + 8 : Nat) : Int)) (h1 : G q 1 = (np : Int)) (hx : G (q + 8) k = (x : Int)) : c26_4b r4 f q (g : Int) a (k : Int) (S, G, m) = if x = g then r4 q (g : Int) (xor_ a (xshl 1 (k : Int))) (xwr ((k : Int) + 1)) (S, G, m) else r4 q (g : Int) (xor_ a 0) (xwr ((k : Int) + 1)) (S, G, m) := by
  by_cases c : x = g
  · rw [if_pos c]
    rw [c] at hx
    unfold c26_4b c26_30
    simp (disch := omega) only [cq_gi, cq_gr, cq_a, cq_s, cq_p, cq_pr, cq_is, cq_ar, cq_ab, cq_ln, xq_nz, Option.bind_some, xup2_n, xup2_s, Int.toNat_natCast, Int.reduceToNat, if_pos, if_neg, true_and, and_true, and_self, eq_self, if_true, reduceIte, not_true_eq_false, not_false_eq_true, or_true, true_or, qs, q8, w10, h1, hx]
  · rw [if_neg c]
    unfold c26_4b c26_30
    simp (disch := omega) only [cq_gi, cq_gr, cq_a, cq_s, cq_p, cq_pr, cq_is, cq_ar, cq_ab, cq_ln, xq_nz, Option.bind_some, xup2_n, xup2_s, Int.toNat_natCast, Int.reduceToNat, if_pos, if_neg, true_and, and_true, and_self, eq_self, if_true, reduceIte, not_true_eq_false, not_false_eq_true, or_true, true_or, qs, q8, w10, h1, hx]
theorem xor_0 {x : Nat} (h : x < 2147483648) : xor_ (x : Int) 0 = (x : Int) := by
  have := xor_nat (a := x) (b := 0) h (by decide)
  rw [Nat.or_zero] at this
  exact this
/-- membersOf() -/
theorem k_26 (hf : 30 < f) (hq : 82 < q) (hn : np ≤ 16) (qs : cPgS S q) (hG : cPgP G q) (h1 : G q 1 = (np : Int)) (hR : ∀ p, p < np → G (q + 8) p = ((qRing T p : Nat) : Int)) : c26 f q (g : Int) (S, G, m) = some ((qMb T g np : Int), (S, G, m)) := by
  have loop : ∀ (d k fu : Nat), k + d = np → d < fu → c26_4 f fu q (g : Int) ((qMb T g k : Nat) : Int) (k : Int) (S, G, m) = some ((qMb T g np : Int), (S, G, m)) := by
    intro d
    induction d with
    | zero =>
      intro k fu e1 e2
      obtain ⟨fu, rfl⟩ : ∃ t, fu = t + 1 := ⟨fu - 1, by omega⟩
      have : k = np := by omega
      rw [this]
      exact st_26a (r4 := c26_4 f fu) qs.1 h1
    | succ d ih =>
      intro k fu e1 e2
      obtain ⟨fu, rfl⟩ : ∃ t, fu = t + 1 := ⟨fu - 1, by omega⟩
      have ek : xwr ((k : Int) + 1) = ((k + 1 : Nat) : Int) := by rw [xwr_g _ (by omega) (by omega)]; omega
      have b := qMb_16 T g k (by omega)
      have st : c26_4 f (fu + 1) q (g : Int) ((qMb T g k : Nat) : Int) (k : Int) (S, G, m) = _ := st_26b (r4 := c26_4 f fu) hq (by omega) hn qs.1 qs.2.2.2.2.2.2.2.2.1 hG.2.2.2.2.2.2.2.1 h1 (hR k (by omega))
      have i := ih (k + 1) fu (by omega) (by omega)
      rw [show qMb T g (k + 1) = qMb T g k ||| (if qRing T k = g then 2 ^ k else 0) from rfl] at i
      rw [st, ek]
      by_cases c : qRing T k = g
      · rw [if_pos c] at i ⊢
        rw [xorb (by omega) (by omega)]
        exact i
      · rw [if_neg c, Nat.or_zero] at i
        rw [if_neg c, xor_0 (by omega)]
        exact i
  exact loop np 0 f (by omega) (by omega)
end
