/-! THE CLASS: who reaches whom -/
def cRa (G : xG_) (A : Nat) (T : Nat → Nat) : Prop := ∀ p : Nat, p < 16 → G A p = (T p : Int)
theorem qW1_vv (T : Nat → Nat) (v i : Nat) : qW1 T v i v = T v := by
  unfold qW1
  split
  · exact Nat.or_self _
  · rfl
theorem qW1_ii (T : Nat → Nat) (v i : Nat) : qW1 T v i i = T i := by
  unfold qW1
  rw [if_neg (fun y => Nat.lt_irrefl _ y.1)]
theorem qW1_n (T : Nat → Nat) (v i x : Nat) : qW1 T v (i + 1) x = if x = i ∧ (T i).testBit v = true then T i ||| T v else qW1 T v i x := by
  unfold qW1
  by_cases c : x = i
  · rw [c]
    by_cases b : (T i).testBit v = true
    · rw [if_pos ⟨Nat.lt_succ_self i, b⟩, if_pos ⟨rfl, b⟩]
    · rw [if_neg (fun y => b y.2), if_neg (fun y => b y.2), if_neg (fun y => b y.2)]
  · rw [if_neg (show ¬ (x = i ∧ (T i).testBit v = true) from fun y => c y.1)]
    by_cases z : x < i ∧ (T x).testBit v = true
    · rw [if_pos (show x < i + 1 ∧ (T x).testBit v = true from ⟨by omega, z.2⟩), if_pos z]
    · rw [if_neg (show ¬ (x < i + 1 ∧ (T x).testBit v = true) from fun y => z ⟨by omega, y.2⟩), if_neg z]
section
variable {f q A v i np : Nat} {S : Nat → Nat × Nat × Nat} {G : xG_} {m : Nat × Nat} {T : Nat → Nat} {r80 : Nat → Nat → Int → xT_ → Option (xT_)} {r90 : Nat → Nat → Int → Int → xT_ → Option (xT_)}
theorem st_90a (qs : S q = (1, 3, 14)) (h1 : G q 1 = (np : Int)) : c24_90b r80 r90 f q A (v : Int) (np : Int) (S, G, m) = r80 q A (xwr ((v : Int) + 1)) (S, G, m) := by
  unfold c24_90b
  simp (disch := omega) only [cq_gi, cq_gr, cq_a, cq_s, cq_p, cq_pr, cq_is, cq_ar, cq_ab, cq_ln, xq_nz, Option.bind_some, xup2_n, xup2_s, Int.toNat_natCast, Int.reduceToNat, if_pos, if_neg, true_and, and_true, and_self, eq_self, if_true, reduceIte, not_true_eq_false, not_false_eq_true, or_true, true_or, qs, h1]
theorem st_90b {a b : Nat} (hi : i < np) (hv : v < 16) (hn : np ≤ 16) (qs : S q = (1, 3, 14)) (sA : S A = (2, 3, 16)) (h1 : G q 1 = (np : Int)) (ha : G A i = (a : Int)) (hb : G A v = (b : Int)) : c24_90b r80 r90 f q A (v : Int) (i : Int) (S, G, m) = if xand (xshr (a : Int) (v : Int)) 1 = 1 then r90 q A (v : Int) (xwr ((i : Int) + 1)) (S, xup2 G A i (xor_ (a : Int) (b : Int)), m) else r90 q A (v : Int) (xwr ((i : Int) + 1)) (S, G, m) := by
  by_cases c : xand (xshr (a : Int) (v : Int)) 1 = 1
  · rw [if_pos c]
    unfold c24_90b c24_118
    simp (disch := omega) only [cq_gi, cq_gr, cq_a, cq_s, cq_p, cq_pr, cq_is, cq_ar, cq_ab, cq_ln, xq_nz, Option.bind_some, xup2_n, xup2_s, Int.toNat_natCast, Int.reduceToNat, if_pos, if_neg, true_and, and_true, and_self, eq_self, if_true, reduceIte, not_true_eq_false, not_false_eq_true, or_true, true_or, qs, sA, h1, ha, hb, c]
  · rw [if_neg c]
    unfold c24_90b c24_118
    simp (disch := omega) only [cq_gi, cq_gr, cq_a, cq_s, cq_p, cq_pr, cq_is, cq_ar, cq_ab, cq_ln, xq_nz, Option.bind_some, xup2_n, xup2_s, Int.toNat_natCast, Int.reduceToNat, if_pos, if_neg, true_and, and_true, and_self, eq_self, if_true, reduceIte, not_true_eq_false, not_false_eq_true, or_true, true_or, qs, sA, h1, ha, c]
theorem k_90i (hqA : q ≠ A) (hv : v < np) (hn : np ≤ 16) (qs : S q = (1, 3, 14)) (sA : S A = (2, 3, 16)) (hT : b16 T) : ∀ (d i fu : Nat) (G : xG_), i + d = np → d < fu → G q 1 = (np : Int) → cRa G A (qW1 T v i) → ∃ G', c24_90 r80 f fu q A (v : Int) (i : Int) (S, G, m) = r80 q A ((v + 1 : Nat) : Int) (S, G', m) ∧ (∀ a j, a ≠ A → G' a j = G a j) ∧ cRa G' A (qW1 T v np) := by
  have ev : xwr ((v : Int) + 1) = ((v + 1 : Nat) : Int) := by rw [xwr_g _ (by omega) (by omega)]; omega
  intro d
  induction d with
  | zero =>
    intro i fu G h1 h2 hq1 hC
    obtain ⟨fu, rfl⟩ : ∃ t, fu = t + 1 := ⟨fu - 1, by omega⟩
    have : i = np := by omega
    rw [this] at hC ⊢
    refine ⟨G, ?_, fun _ _ _ => rfl, hC⟩
    have st : c24_90 r80 f (fu + 1) q A (v : Int) (np : Int) (S, G, m) = _ := st_90a (r90 := c24_90 r80 f fu) qs hq1
    rw [st, ev]
  | succ d ih =>
    intro i fu G h1 h2 hq1 hC
    obtain ⟨fu, rfl⟩ : ∃ t, fu = t + 1 := ⟨fu - 1, by omega⟩
    have ek : xwr ((i : Int) + 1) = ((i + 1 : Nat) : Int) := by rw [xwr_g _ (by omega) (by omega)]; omega
    have ha := hC i (by omega)
    have hb := hC v (by omega)
    rw [qW1_ii] at ha
    rw [qW1_vv] at hb
    have st : c24_90 r80 f (fu + 1) q A (v : Int) (i : Int) (S, G, m) = _ := st_90b (r90 := c24_90 r80 f fu) (by omega) (by omega) hn qs sA hq1 ha hb
    have hti := hT i
    have htv := hT v
    have hbit := xbit (a := T i) (m := v) (by omega) (by omega)
    rw [xor_nat (by omega) (by omega), ek] at st
    rw [st]
    by_cases c : xand (xshr (T i : Int) (v : Int)) 1 = 1
    · rw [if_pos c]
      obtain ⟨G', x1, x2, x3⟩ := ih (i + 1) fu (xup2 G A i ((T i ||| T v : Nat) : Int)) (by omega) (by omega) (by rw [xup2_n (fun y => hqA y.1)]; exact hq1) (fun x hx => by
        rw [qW1_n]
        by_cases cx : x = i
        · rw [cx, xup2_s, if_pos ⟨rfl, hbit.mp c⟩]
        · rw [xup2_n (fun y => cx y.2), if_neg (fun y => cx y.1)]; exact hC x hx)
      exact ⟨G', x1, fun a j ha => by rw [x2 a j ha, xup2_n (fun y => ha y.1)], x3⟩
    · rw [if_neg c]
      exact ih (i + 1) fu G (by omega) (by omega) hq1 (fun x hx => by
        rw [qW1_n, if_neg (fun y => c (hbit.mpr y.2))]
        exact hC x hx)
theorem st_80a (qs : S q = (1, 3, 14)) (h1 : G q 1 = (np : Int)) (hv : v < np) : c24_80b r80 f q A (v : Int) (S, G, m) = c24_90 r80 f f q A (v : Int) ((0 : Nat) : Int) (S, G, m) := by
  unfold c24_80b
  simp (disch := omega) only [cq_gi, cq_gr, cq_a, cq_s, cq_p, cq_pr, cq_is, cq_ar, cq_ab, cq_ln, xq_nz, Option.bind_some, xup2_n, xup2_s, Int.toNat_natCast, Int.reduceToNat, if_pos, if_neg, true_and, and_true, and_self, eq_self, if_true, reduceIte, not_true_eq_false, not_false_eq_true, or_true, true_or, qs, h1]
  rfl
theorem st_80b (qs : S q = (1, 3, 14)) (h1 : G q 1 = (np : Int)) : c24_80b r80 f q A (np : Int) (S, G, m) = c24_132 f f q A ((0 : Nat) : Int) (S, G, m) := by
  unfold c24_80b
  simp (disch := omega) only [cq_gi, cq_gr, cq_a, cq_s, cq_p, cq_pr, cq_is, cq_ar, cq_ab, cq_ln, xq_nz, Option.bind_some, xup2_n, xup2_s, Int.toNat_natCast, Int.reduceToNat, if_pos, if_neg, true_and, and_true, and_self, eq_self, if_true, reduceIte, not_true_eq_false, not_false_eq_true, or_true, true_or, qs, h1]
  rfl
theorem qW1_00 (T : Nat → Nat) (v : Nat) : qW1 T v 0 = T := by
  funext p
  unfold qW1
  rw [if_neg (fun y => Nat.not_lt_zero p y.1)]
theorem qWm_b {T : Nat → Nat} (hT : b16 T) : ∀ k, b16 (qWm np T k)
  | 0 => hT
  | k + 1 => qW1_lt (qWm_b hT k)
theorem k_80 (hf : 30 < f) (hqA : q ≠ A) (hn : np ≤ 16) (qs : S q = (1, 3, 14)) (sA : S A = (2, 3, 16)) (hT : b16 T) : ∀ (d v fu : Nat) (G : xG_), v + d = np → d < fu → G q 1 = (np : Int) → cRa G A (qWm np T v) → ∃ G', c24_80 f fu q A (v : Int) (S, G, m) = c24_132 f f q A ((0 : Nat) : Int) (S, G', m) ∧ (∀ a j, a ≠ A → G' a j = G a j) ∧ cRa G' A (qWm np T np) := by
  intro d
  induction d with
  | zero =>
    intro v fu G h1 h2 hq1 hC
    obtain ⟨fu, rfl⟩ : ∃ t, fu = t + 1 := ⟨fu - 1, by omega⟩
    have : v = np := by omega
    rw [this] at hC ⊢
    exact ⟨G, st_80b (r80 := c24_80 f fu) qs hq1, fun _ _ _ => rfl, hC⟩
  | succ d ih =>
    intro v fu G h1 h2 hq1 hC
    obtain ⟨fu, rfl⟩ : ∃ t, fu = t + 1 := ⟨fu - 1, by omega⟩
    obtain ⟨G1, x1, x2, x3⟩ := k_90i (f := f) (m := m) (r80 := c24_80 f fu) hqA (by omega : v < np) hn qs sA (qWm_b (np := np) hT v) np 0 f G (by omega) (by omega) hq1 (by rw [qW1_00]; exact hC)
    obtain ⟨G2, y1, y2, y3⟩ := ih (v + 1) fu G1 (by omega) (by omega) (by rw [x2 q 1 hqA]; exact hq1) x3
    refine ⟨G2, ?_, fun a j ha => by rw [y2 a j ha, x2 a j ha], y3⟩
    have st : c24_80 f (fu + 1) q A (v : Int) (S, G, m) = _ := st_80a (r80 := c24_80 f fu) qs hq1 (by omega)
    rw [st, x1]
    exact y1
end
