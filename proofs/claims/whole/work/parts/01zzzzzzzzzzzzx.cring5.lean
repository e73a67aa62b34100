/-! THE CLASS: workRing() -/
def xRw8 (s : pPg) (rg : Nat) (G G' : xG_) : Prop := ∀ b j, ¬ (83 ≤ b ∧ b ≤ 92) → ¬ (99 ≤ b ∧ b ≤ 105) → ¬ (b = 93 ∧ 13 ≤ j ∧ j ≤ 15) → (∀ p, p < s.1.length → qK s p = rg → ¬ (108 + 6 * p ≤ b ∧ b ≤ 113 + 6 * p) ∧ ¬ (b = 94 ∧ j = p)) → G' b j = G b j
section
variable {f q nx rg p w mb wk : Nat} {S : Nat → Nat × Nat × Nat} {G G' G1 : xG_} {m : Nat × Nat} {s : pPg} {xp cp yp ap : Nat → Nat} {R A : Nat → List pRw} {ch : Nat} {tk : Int}
theorem st_149i (hs : cSs S) (h1 : G 93 1 = (q : Int)) (qs : S q = (1, 3, 14)) (q4 : S (q + 4) = (2, 0, 16)) (h5 : G q 5 = ((q + 4 : Nat) : Int)) (hr : rg < 16) (hi : G (q + 4) rg = 1) : c149 f 93 (rg : Int) tk (S, G, m) = some (1, (S, G, m)) := by
  unfold c149 c149_32
  simp (disch := omega) only [cq_gi, cq_gr, cq_a, cq_s, cq_p, cq_pr, cq_is, cq_ar, cq_ab, cq_ln, xq_nz, Option.bind_some, xup2_n, xup2_s, Int.toNat_natCast, Int.reduceToNat, if_pos, if_neg, true_and, and_true, and_self, eq_self, if_true, reduceIte, not_true_eq_false, not_false_eq_true, or_true, true_or, s93 hs, h1, qs, q4, h5, hi, Int.reduceEq, Nat.reduceLT]
theorem st_149t (hs : cSs S) (h1 : G 93 1 = (q : Int)) (qs : S q = (1, 3, 14)) (q4 : S (q + 4) = (2, 0, 16)) (h5 : G q 5 = ((q + 4 : Nat) : Int)) (hr : rg < 16) (hi : G (q + 4) rg = 0) : c149 f 93 (rg : Int) 1 (S, G, m) = c149_34 f 93 (rg : Int) (S, G, m) := by
  unfold c149
  simp (disch := omega) only [cq_gi, cq_gr, cq_a, cq_s, cq_p, cq_pr, cq_is, cq_ar, cq_ab, cq_ln, xq_nz, Option.bind_some, xup2_n, xup2_s, Int.toNat_natCast, Int.reduceToNat, if_pos, if_neg, true_and, and_true, and_self, eq_self, if_true, reduceIte, not_true_eq_false, not_false_eq_true, or_true, true_or, s93 hs, h1, qs, q4, h5, hi, Int.reduceEq, Nat.reduceLT]
theorem st_149r (hs : cSs S) (h1 : G 93 1 = (q : Int)) (qs : S q = (1, 3, 14)) (q4 : S (q + 4) = (2, 0, 16)) (h5 : G q 5 = ((q + 4 : Nat) : Int)) (hr : rg < 16) (hi : G (q + 4) rg = 0) (e : c27 f q (rg : Int) (S, G, m) = some ((w : Int), (S, G, m))) (h13 : G 93 13 = (ch : Int)) (ex : xand (w : Int) (ch : Int) = ((w &&& ch : Nat) : Int)) : c149 f 93 (rg : Int) 0 (S, G, m) = if w &&& ch = 0 then some (1, (S, G, m)) else c149_34 f 93 (rg : Int) (S, G, m) := by
  by_cases c : w &&& ch = 0
  · rw [if_pos c]
    have c' : ((w &&& ch : Nat) : Int) = 0 := by omega
    unfold c149 c149_32
    simp (disch := omega) only [cq_gi, cq_gr, cq_a, cq_s, cq_p, cq_pr, cq_is, cq_ar, cq_ab, cq_ln, xq_nz, Option.bind_some, xup2_n, xup2_s, Int.toNat_natCast, Int.reduceToNat, if_pos, if_neg, true_and, and_true, and_self, eq_self, if_true, reduceIte, not_true_eq_false, not_false_eq_true, or_true, true_or, s93 hs, h1, qs, q4, h5, hi, e, h13, ex, c', Int.reduceEq, Nat.reduceLT]
  · rw [if_neg c]
    have c' : ¬ ((w &&& ch : Nat) : Int) = 0 := by omega
    unfold c149
    simp (disch := omega) only [cq_gi, cq_gr, cq_a, cq_s, cq_p, cq_pr, cq_is, cq_ar, cq_ab, cq_ln, xq_nz, Option.bind_some, xup2_n, xup2_s, Int.toNat_natCast, Int.reduceToNat, if_pos, if_neg, true_and, and_true, and_self, eq_self, if_true, reduceIte, not_true_eq_false, not_false_eq_true, or_true, true_or, s93 hs, h1, qs, q4, h5, hi, e, h13, ex, c', Int.reduceEq, Nat.reduceLT]
theorem st_149s (hs : cSs S) (h1 : G 93 1 = (q : Int)) (qs : S q = (1, 3, 14)) (e : c26 f q (rg : Int) (S, G, m) = some ((mb : Int), (S, G, m))) (h14 : G 93 14 = (wk : Int)) (ex : xor_ (wk : Int) (mb : Int) = ((wk ||| mb : Nat) : Int)) (e2 : c150 f 93 (rg : Int) (S, xup2 G 93 14 ((wk ||| mb : Nat) : Int), m) = some (S, G1, m)) : c149_34 f 93 (rg : Int) (S, G, m) = c149_66 f f 93 (rg : Int) (mb : Int) 1 (S, xup2 G1 93 15 1, m) := by
  unfold c149_34
  simp (disch := omega) only [cq_gi, cq_gr, cq_a, cq_s, cq_p, cq_pr, cq_is, cq_ar, cq_ab, cq_ln, xq_nz, Option.bind_some, xup2_n, xup2_s, Int.toNat_natCast, Int.reduceToNat, if_pos, if_neg, true_and, and_true, and_self, eq_self, if_true, reduceIte, not_true_eq_false, not_false_eq_true, or_true, true_or, s93 hs, h1, qs, e, h14, ex, e2]
theorem and_0 {a b : Nat} : a &&& b = 0 ↔ ∀ j, a.testBit j = true → b.testBit j = false := by
  constructor
  · intro h j hj
    have := congrArg (fun z => z.testBit j) h
    simp only [Nat.testBit_and, hj, Bool.true_and, Nat.zero_testBit] at this
    exact this
  · intro h
    refine Nat.eq_of_testBit_eq (fun j => ?_)
    rw [Nat.testBit_and, Nat.zero_testBit]
    cases ha : a.testBit j with
    | false => rfl
    | true => rw [h j ha]; rfl
/-- rows of a RING are emptied -/
def rZ (s : pPg) (rg : Nat) (R : Nat → List pRw) : Nat → List pRw := fun p => if qK s p = rg then [] else R p
/-- workRing(), where the RING is worked -/
theorem k_149w (hf : 100003010 < f) (h : cWk S G q nx s xp cp R) (hA : cAh S G nx s yp ap A) (h13 : G 93 13 = (ch : Int)) (hch : ch < 2 ^ 16) (h14 : G 93 14 = (wk : Int)) (hwk : wk < 2 ^ 16) :
    ∃ v G', c149_34 f 93 (rg : Int) (S, G, m) = some (v, (S, G', m)) ∧ xRw8 s rg G G' ∧ cPs G' ∧ ((v = 0 ∧ wkO s rg (rZ s rg R)) ∨ (v = 1 ∧ ∃ R' ch' wk', cWk S G' q nx s (fun p => if qK s p = rg then 108 + 6 * p else xp p) (fun p => if qK s p = rg then 100 else cp p) R' ∧ wkE s rg (rZ s rg R) R' ∧ G' 93 13 = ((ch' : Nat) : Int) ∧ ch' < 2 ^ 16 ∧ (∀ j, ch'.testBit j = true ↔ ch.testBit j = true ∨ (j < s.1.length ∧ qK s j = rg ∧ ¬ vEq (R' j) (A j))) ∧ G' 93 14 = ((wk' : Nat) : Int) ∧ wk' < 2 ^ 16 ∧ ∀ j, wk'.testBit j = true ↔ wk.testBit j = true ∨ (j < s.1.length ∧ qK s j = rg))) := by
  have h' := h
  obtain ⟨⟨a1, a2, a3, a4, a5, a6⟩, b⟩ := h'
  have hnp : s.1.length ≤ 16 := a6.1.1.1
  have hmbt : ∀ j, (qMb (qAc s) rg s.1.length).testBit j = true ↔ j < s.1.length ∧ qK s j = rg := fun j => qMb_t (qAc s) rg j s.1.length
  have hmb16 := qMb_16 (qAc s) rg s.1.length hnp
  have e26 := k_26 (f := f) (m := m) (g := rg) (T := qAc s) (by omega) (by omega : 82 < q) hnp a5.1 a5.2.1 a5.2.2.1.1 a5.2.2.2.2.2.2.2.1.1
  obtain ⟨mb, hmb⟩ : ∃ mb, mb = qMb (qAc s) rg s.1.length := ⟨_, rfl⟩
  rw [← hmb] at hmbt hmb16 e26
  have hwm : wk ||| mb < 2 ^ 16 := Nat.or_lt_two_pow hwk hmb16
  have h1 : cWk S (xup2 G 93 14 ((wk ||| mb : Nat) : Int)) q nx s xp cp R := h.u93 (.inr rfl)
  obtain ⟨G1, g1, g2, g3, g4⟩ := k_150 (f := f) (m := m) (rg := rg) (W := qN s) a1 a5.1.2.2.1 s.1.length 0 f (xup2 G 93 14 ((wk ||| mb : Nat) : Int)) (by omega) (by omega) h1.1.2.1 h1.wp (by rw [xup2_n (by omega)]; exact a5.2.1.2.1) (fun j hj => by
    rw [xup2_n (by omega)]
    exact ⟨by rw [(qN_c a6.1.1 j).1]; exact a5.2.2.2.1 j (by omega), (qN_c a6.1.1 j).2⟩)
  have st := st_149s (f := f) (rg := rg) (m := m) a1 a3 a5.1.1 e26 h14 (xor_nat (by omega) (by omega)) g1
  obtain ⟨G2, hG2⟩ : ∃ G2, G2 = xup2 G1 93 15 1 := ⟨_, rfl⟩
  rw [← hG2] at st
  have z2 : ∀ b j, ¬ (b = 93 ∧ 14 ≤ j ∧ j ≤ 15) → (∀ k, k < s.1.length → qK s k = rg → ¬ (b = 94 ∧ j = k) ∧ ¬ (b = 108 + 6 * k ∧ j ≤ 1) ∧ ¬ (b = 111 + 6 * k ∧ j ≤ 1)) → G2 b j = G b j := fun b j y1 y2 => by
    rw [hG2, xup2_n (by omega), g2 b j (fun k _ hk1 hk2 => y2 k hk1 hk2), xup2_n (by omega)]
  have z15 : ∀ b j, ¬ (b = 93 ∧ j = 15) → G2 b j = G1 b j := fun b j y => by rw [hG2, xup2_n y]
  have p2 : cPs G2 := by rw [hG2]; exact ps_15 g3
  have hW2 : cWk S G2 q nx s (fun p => if qK s p = rg then 108 + 6 * p else xp p) (fun p => if qK s p = rg then 100 else cp p) (rZ s rg R) := by
    refine ⟨⟨a1, p2, by rw [z2 _ _ (by omega) (fun k _ _ => by omega)]; exact a3, a4, a5.ge (Nat.le_refl _) (fun _ _ => rfl) (fun a j y _ => z2 a j (by omega) (fun k hk _ => by omega)), a6⟩, fun k hk => ?_⟩
    obtain ⟨b1, b2, b3, b4, b5, b6, b7⟩ := b k hk
    unfold rZ
    by_cases c : qK s k = rg
    · obtain ⟨y1, y2, y3⟩ := g4 k (Nat.zero_le _) hk c
      simp only [if_pos c]
      exact ⟨by rw [z15 _ _ (by omega)]; exact y1, .inl trivial, y2.ge (fun _ _ _ => rfl) (fun j => z15 _ _ (by omega)) (fun j => z15 _ _ (by omega)) (fun j => z15 _ _ (by omega)), List.Pairwise.nil, Nat.zero_le _, (fun r hr => by cases hr), (fun r hr => by cases hr)⟩
    · have hz : ∀ c j, xp k ≤ c → c ≤ xp k + 2 → G2 c j = G c j := fun c' j y1 y2 => z2 c' j (by omega) (fun p hp hk' => by
        have : k ≠ p := fun e => by rw [e] at c; exact c hk'
        omega)
      simp only [if_neg c]
      exact ⟨by rw [z2 _ _ (by omega) (fun p hp hk' => by
        have : k ≠ p := fun e => by rw [e] at c; exact c hk'
        omega)]; exact b1, b2, b3.ge (fun _ _ _ => rfl) (fun j => hz _ _ (by omega) (by omega)) (fun j => hz _ _ (by omega) (by omega)) (fun j => hz _ _ (by omega) (by omega)), b4, b5, b6, b7⟩
  have h0 : ∀ p, p < s.1.length → qK s p = rg → rZ s rg R p = [] := fun p _ hk => if_pos hk
  have hs0 : ∀ p, p < s.1.length → (rZ s rg R p).Pairwise rwLt := fun p hp => (hW2.2 p hp).2.2.2.1
  obtain ⟨G3, i1, i2, i3⟩ := k_149l (f := f) (m := m) (mb := mb) hf (fun p hp hk => ⟨if_pos hk, if_pos hk⟩) hmbt hmb16 h0 hs0 1601 0 f G2 (rZ s rg R) 1 (by omega) (by omega) (Nat.zero_le _) hW2 (fun p hp hk => (g4 p (Nat.zero_le _) hp hk).2.2.ge (fun _ _ _ => rfl) (fun j => z15 _ _ (by omega)) (fun j => z15 _ _ (by omega)) (fun j => z15 _ _ (by omega))) (fun p _ => rfl) (by rw [hG2, xup2_s]) (by decide)
  have fr3 : ∀ b j, ¬ (83 ≤ b ∧ b ≤ 92) → ¬ (99 ≤ b ∧ b ≤ 105) → ¬ (b = 93 ∧ 14 ≤ j ∧ j ≤ 15) → (∀ p, p < s.1.length → qK s p = rg → ¬ (108 + 6 * p ≤ b ∧ b ≤ 113 + 6 * p) ∧ ¬ (b = 94 ∧ j = p)) → G3 b j = G b j := fun b j y1 y2 y3 y4 => by
    rw [i1 b j y1 y2 (by omega) (fun p hp hk => (y4 p hp hk).1), z2 b j y3 (fun k hk1 hk2 => by have := y4 k hk1 hk2; omega)]
  have h143 : G3 93 14 = ((wk ||| mb : Nat) : Int) := by
    rw [i1 _ _ (by omega) (by omega) (by omega) (fun p hp _ => by omega), z15 _ _ (by omega), g2 _ _ (fun k _ hk1 hk2 => by omega), xup2_s]
  rcases i3 with ⟨j1, j2⟩ | ⟨R', j1, j2, j3⟩
  · exact ⟨0, G3, st.trans j1, fun b j y1 y2 y3 y4 => fr3 b j y1 y2 (by omega) y4, i2, .inl ⟨rfl, j2⟩⟩
  · have hA3 : cAh S G3 nx s yp ap A := hA.ge (fun j => fr3 _ _ (by omega) (by omega) (by omega) (fun p hp _ => by omega)) (fun a j y => fr3 a j (by omega) (by omega) (by omega) (fun p hp _ => by omega))
    obtain ⟨ch', k1, k2, k3⟩ := k_237 (f := f) (m := m) (rg := rg) (by omega) s.1.length 0 f G3 ch (by omega) (by omega) j2 hA3 (by rw [fr3 _ _ (by omega) (by omega) (by omega) (fun p hp _ => by omega)]; exact h13) hch
    have fr4 : ∀ b j, ¬ (b = 93 ∧ j = 13) → xup2 G3 93 13 (ch' : Int) b j = G3 b j := fun b j y => xup2_n y
    refine ⟨1, _, (st.trans j1).trans k2, fun b j y1 y2 y3 y4 => by rw [fr4 b j (by omega)]; exact fr3 b j y1 y2 (by omega) y4, ps_13 (.inl rfl) i2, .inr ⟨rfl, R', ch', wk ||| mb, j2.u93 (.inl rfl), j3, xup2_s _ _ _ _, k1, fun j => ?_, by rw [fr4 _ _ (by omega)]; exact h143, hwm, fun j => ?_⟩⟩
    · rw [k3 j]
      exact or_congr Iff.rfl ⟨fun y => y.2, fun y => ⟨Nat.zero_le _, y⟩⟩
    · rw [Nat.testBit_or, Bool.or_eq_true, hmbt j]
/-- workRing() -/
theorem k_149 (hf : 100003010 < f) (h : cWk S G q nx s xp cp R) (hA : cAh S G nx s yp ap A) (h13 : G 93 13 = (ch : Int)) (hch : ch < 2 ^ 16) (h14 : G 93 14 = (wk : Int)) (hwk : wk < 2 ^ 16) (hrg : rg < s.1.length) (htk : tk = 0 ∨ tk = 1) :
    ∃ v G', c149 f 93 (rg : Int) tk (S, G, m) = some (v, (S, G', m)) ∧ xRw8 s rg G G' ∧ cPs G' ∧ ((v = 1 ∧ G' = G ∧ (pIn s.2.1 (rg : Int) = true ∨ (tk = 0 ∧ ∀ y, rgR s rg y → qK s y ≠ rg → ch.testBit y = false))) ∨
      (pIn s.2.1 (rg : Int) = false ∧ (tk = 1 ∨ ∃ y, rgR s rg y ∧ qK s y ≠ rg ∧ ch.testBit y = true) ∧ ((v = 0 ∧ wkO s rg (rZ s rg R)) ∨ (v = 1 ∧ ∃ R' ch' wk', cWk S G' q nx s (fun p => if qK s p = rg then 108 + 6 * p else xp p) (fun p => if qK s p = rg then 100 else cp p) R' ∧ wkE s rg (rZ s rg R) R' ∧ G' 93 13 = ((ch' : Nat) : Int) ∧ ch' < 2 ^ 16 ∧ (∀ j, ch'.testBit j = true ↔ ch.testBit j = true ∨ (j < s.1.length ∧ qK s j = rg ∧ ¬ vEq (R' j) (A j))) ∧ G' 93 14 = ((wk' : Nat) : Int) ∧ wk' < 2 ^ 16 ∧ ∀ j, wk'.testBit j = true ↔ wk.testBit j = true ∨ (j < s.1.length ∧ qK s j = rg))))) := by
  obtain ⟨⟨a1, a2, a3, a4, a5, a6⟩, b⟩ := id h
  have hnp : s.1.length ≤ 16 := a6.1.1.1
  have hin : G (q + 4) rg = b01 (pIn s.2.1 (rg : Int)) := (a5.2.2.2.2.1 rg (by omega)).2.1
  cases hb : pIn s.2.1 (rg : Int) with
  | true =>
    rw [hb] at hin
    exact ⟨1, G, st_149i a1 a3 a5.1.1 a5.1.2.2.2.2.1 a5.2.1.2.2.2.1 (by omega) hin, fun _ _ _ _ _ _ => rfl, a2, .inl ⟨rfl, rfl, .inl rfl⟩⟩
  | false =>
    rw [hb] at hin
    have go : c149 f 93 (rg : Int) tk (S, G, m) = c149_34 f 93 (rg : Int) (S, G, m) → (tk = 1 ∨ ∃ y, rgR s rg y ∧ qK s y ≠ rg ∧ ch.testBit y = true) → ∃ v G', c149 f 93 (rg : Int) tk (S, G, m) = some (v, (S, G', m)) ∧ xRw8 s rg G G' ∧ cPs G' ∧ ((v = 1 ∧ G' = G ∧ (false = true ∨ (tk = 0 ∧ ∀ y, rgR s rg y → qK s y ≠ rg → ch.testBit y = false))) ∨ (false = false ∧ (tk = 1 ∨ ∃ y, rgR s rg y ∧ qK s y ≠ rg ∧ ch.testBit y = true) ∧ ((v = 0 ∧ wkO s rg (rZ s rg R)) ∨ (v = 1 ∧ ∃ R' ch' wk', cWk S G' q nx s (fun p => if qK s p = rg then 108 + 6 * p else xp p) (fun p => if qK s p = rg then 100 else cp p) R' ∧ wkE s rg (rZ s rg R) R' ∧ G' 93 13 = ((ch' : Nat) : Int) ∧ ch' < 2 ^ 16 ∧ (∀ j, ch'.testBit j = true ↔ ch.testBit j = true ∨ (j < s.1.length ∧ qK s j = rg ∧ ¬ vEq (R' j) (A j))) ∧ G' 93 14 = ((wk' : Nat) : Int) ∧ wk' < 2 ^ 16 ∧ ∀ j, wk'.testBit j = true ↔ wk.testBit j = true ∨ (j < s.1.length ∧ qK s j = rg))))) := fun e hy => by
      obtain ⟨v, G', k1, k2, k3, k4⟩ := k_149w (f := f) (m := m) (rg := rg) hf h hA h13 hch h14 hwk
      exact ⟨v, G', e.trans k1, k2, k3, .inr ⟨rfl, hy, k4⟩⟩
    rcases htk with rfl | rfl
    · obtain ⟨w, w1, w2, w3⟩ := k_27 (f := f) (m := m) (g := rg) (T := qAc s) (D := qRd s.2.2.2.2.1) (by omega) (by omega : 82 < q) hnp a5.1 a5.2.1 a5.2.2.1.1 a5.2.2.2.2.2.2.2.1.1 (fun p => by
        refine Nat.lt_pow_two_of_testBit _ (fun i hi => ?_)
        cases hbi : (qRd s.2.2.2.2.1 p).testBit i with
        | false => rfl
        | true => have := rdB a6.1.1 hbi; omega) a5.2.2.2.2.2.2.2.1.2.1
      have hwb : ∀ j, w.testBit j = true ↔ rgR s rg j ∧ qK s j ≠ rg := fun j => by
        rw [w3 j, qMr_t, rgR_rd a6.1.1]
        constructor
        · rintro ⟨⟨p, p1, p2, p3⟩, q2⟩
          refine ⟨⟨p, p1, p2, p3⟩, fun e => ?_⟩
          have : (qMb (qAc s) rg s.1.length).testBit j = true := (qMb_t (qAc s) rg j s.1.length).mpr ⟨rdB a6.1.1 p3, e⟩
          rw [this] at q2
          cases q2
        · rintro ⟨⟨p, p1, p2, p3⟩, q2⟩
          refine ⟨⟨p, p1, p2, p3⟩, ?_⟩
          cases hc : (qMb (qAc s) rg s.1.length).testBit j with
          | false => rfl
          | true => exact absurd ((qMb_t (qAc s) rg j s.1.length).mp hc).2 q2
      have st := st_149r (f := f) (rg := rg) (m := m) a1 a3 a5.1.1 a5.1.2.2.2.2.1 a5.2.1.2.2.2.1 (by omega) hin w2 h13 (xand_nat (by omega) (by omega))
      by_cases c : w &&& ch = 0
      · rw [if_pos c] at st
        exact ⟨1, G, st, fun _ _ _ _ _ _ => rfl, a2, .inl ⟨rfl, rfl, .inr ⟨rfl, fun y y1 y2 => and_0.mp c y ((hwb y).mpr ⟨y1, y2⟩)⟩⟩⟩
      · rw [if_neg c] at st
        refine go st (.inr (Classical.byContradiction (fun q => c (and_0.mpr (fun j hj => ?_)))))
        cases hc : ch.testBit j with
        | false => rfl
        | true => exact absurd ⟨j, ((hwb j).mp hj).1, ((hwb j).mp hj).2, hc⟩ q
    · exact go (st_149t a1 a3 a5.1.1 a5.1.2.2.2.2.1 a5.2.1.2.2.2.1 (by omega) hin) (.inl rfl)
end
