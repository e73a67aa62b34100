/-! THE CLASS reads values, NAMES of predicates, VARIABLES -/
/-- a program of the class at q: the places of its rows -/
def cPgS (S : Nat → Nat × Nat × Nat) (q : Nat) : Prop := S q = (1, 3, 14) ∧ S (q + 1) = (2, 4, 16) ∧ S (q + 2) = (2, 3, 16) ∧ S (q + 3) = (2, 3, 16) ∧ S (q + 4) = (2, 0, 16) ∧ S (q + 5) = (2, 0, 16) ∧ S (q + 6) = (2, 0, 16) ∧ S (q + 7) = (2, 11, 24) ∧ S (q + 8) = (2, 3, 16) ∧ S (q + 9) = (2, 3, 16) ∧ S (q + 10) = (2, 3, 16)
def cPgP (G : xG_) (q : Nat) : Prop := G q 2 = ((q + 1 : Nat) : Int) ∧ G q 3 = ((q + 2 : Nat) : Int) ∧ G q 4 = ((q + 3 : Nat) : Int) ∧ G q 5 = ((q + 4 : Nat) : Int) ∧ G q 6 = ((q + 5 : Nat) : Int) ∧ G q 7 = ((q + 6 : Nat) : Int) ∧ G q 9 = ((q + 7 : Nat) : Int) ∧ G q 10 = ((q + 8 : Nat) : Int) ∧ G q 11 = ((q + 9 : Nat) : Int) ∧ G q 13 = ((q + 10 : Nat) : Int)
/-- its NAMES -/
def cNs (G : xG_) (q : Nat) (L : List Int) : Prop := G q 1 = (L.length : Int) ∧ L.length ≤ 16 ∧ ∀ k, k < L.length → G (q + 1) k = L.getD k 0
/-- a rule of the class at u: the places of its rows -/
def cRuS (S : Nat → Nat × Nat × Nat) (u : Nat) : Prop := S u = (1, 6, 20) ∧ S (u + 1) = (2, 3, 8) ∧ S (u + 2) = (2, 3, 8) ∧ S (u + 3) = (2, 3, 8) ∧ S (u + 4) = (2, 3, 8) ∧ S (u + 5) = (2, 3, 32) ∧ S (u + 6) = (2, 4, 32) ∧ S (u + 7) = (2, 3, 20) ∧ S (u + 8) = (2, 3, 20) ∧ S (u + 9) = (2, 3, 8) ∧ S (u + 10) = (2, 3, 8)
def cRuP (G : xG_) (u : Nat) : Prop := G u 7 = ((u + 1 : Nat) : Int) ∧ G u 9 = ((u + 2 : Nat) : Int) ∧ G u 10 = ((u + 3 : Nat) : Int) ∧ G u 11 = ((u + 4 : Nat) : Int) ∧ G u 12 = ((u + 5 : Nat) : Int) ∧ G u 13 = ((u + 6 : Nat) : Int) ∧ G u 14 = ((u + 7 : Nat) : Int) ∧ G u 15 = ((u + 8 : Nat) : Int) ∧ G u 18 = ((u + 9 : Nat) : Int) ∧ G u 19 = ((u + 10 : Nat) : Int)
/-- its VARIABLES -/
def cVs (G : xG_) (B : Nat → Int) (n u : Nat) (V : List (Int × Nat)) : Prop := G u 6 = (V.length : Int) ∧ V.length ≤ 8 ∧ ∀ v, v < V.length → G 77 v = cco B n (V.getD v (0, 0)).2 ∧ G (u + 1) v = ((V.getD v (0, 0)).2 : Int)
def vVs (t : tStr) (V : List (Int × Nat)) : Prop := ∀ v, v < V.length → ∃ j, kK t j = 2 ∧ kE t j - kS t j ≤ 8 ∧ V.getD v (0, 0) = (kC t j, kS t j)
/-- numbers of VARIABLES tell them apart in the class as in the reference -/
def vIn (t : tStr) (B : Nat → Int) (n : Nat) : Prop := ∀ i j, kK t i = 2 → kK t j = 2 → kE t i - kS t i ≤ 8 → kE t j - kS t j ≤ 8 → (cco B n (kS t i) = cco B n (kS t j) ↔ kC t i = kC t j)
section
variable {f n N w i : Nat} {S : Nat → Nat × Nat × Nat} {G G' : xG_} {m : Nat × Nat} {B : Nat → Int} {t : tStr}
/-- digitBehind() -/
theorem k_126 (hE : cEv S G B n t N w) (hi : i ≤ w) (h3 : i ≤ 3000) : c126 f 65 (i : Int) (S, G, m) = some (if kD t i = true then 1 else 0, (S, G, m)) := by
  obtain ⟨⟨a1, a2, a3⟩, _, _, a4, a5, a6, _⟩ := hE.2.2.2.2.2.2 i hi
  obtain ⟨hs, hp, ⟨b1, b2, b3, b4⟩, _⟩ := hE
  unfold c126 c126_41 c126_42
  by_cases c : n ≤ kE t i
  · have hB : B (kE t i) = -1 := (b3 _).2 c
    have hd : (if kD t i = true then (1 : Int) else 0) = 0 := if_neg (fun q => by have := a6.mp q; rw [hB] at this; exact absurd this (by decide))
    rw [hd]
    simp (disch := omega) only [cq_gi, cq_gr, cq_a, cq_s, cq_p, cq_pr, cq_is, cq_ar, cq_ab, cq_ln, xq_nz, Option.bind_some, xup2_n, xup2_s, Int.toNat_natCast, Int.reduceToNat, if_pos, if_neg, true_and, and_true, and_self, eq_self, if_true, reduceIte, not_true_eq_false, not_false_eq_true, or_true, true_or, s65 hs, s69 hs, p65_5 hp, a3, b1]
  · have hb := b4 (kE t i) (by omega)
    by_cases cd : tDi (B (kE t i))
    · have hd : (if kD t i = true then (1 : Int) else 0) = 1 := if_pos (a6.mpr cd)
      rw [hd]
      unfold tDi at cd
      simp (disch := omega) only [cq_gi, cq_gr, cq_a, cq_s, cq_p, cq_pr, cq_is, cq_ar, cq_ab, cq_ln, xq_nz, Option.bind_some, xup2_n, xup2_s, Int.toNat_natCast, Int.reduceToNat, if_pos, if_neg, true_and, and_true, and_self, eq_self, if_true, reduceIte, not_true_eq_false, not_false_eq_true, or_true, true_or, s65 hs, s66 hs, s69 hs, p65_0 hp, p65_5 hp, a3, b1, hb]
    · have hd : (if kD t i = true then (1 : Int) else 0) = 0 := if_neg (fun q => cd (a6.mp q))
      rw [hd]
      unfold tDi at cd
      by_cases c2 : B (kE t i) < 48
      · simp (disch := omega) only [cq_gi, cq_gr, cq_a, cq_s, cq_p, cq_pr, cq_is, cq_ar, cq_ab, cq_ln, xq_nz, Option.bind_some, xup2_n, xup2_s, Int.toNat_natCast, Int.reduceToNat, if_pos, if_neg, true_and, and_true, and_self, eq_self, if_true, reduceIte, not_true_eq_false, not_false_eq_true, or_true, true_or, s65 hs, s66 hs, s69 hs, p65_0 hp, p65_5 hp, a3, b1, hb]
      · simp (disch := omega) only [cq_gi, cq_gr, cq_a, cq_s, cq_p, cq_pr, cq_is, cq_ar, cq_ab, cq_ln, xq_nz, Option.bind_some, xup2_n, xup2_s, Int.toNat_natCast, Int.reduceToNat, if_pos, if_neg, true_and, and_true, and_self, eq_self, if_true, reduceIte, not_true_eq_false, not_false_eq_true, or_true, true_or, s65 hs, s66 hs, s69 hs, p65_0 hp, p65_5 hp, a3, b1, hb]
/-- readValue() -/
theorem k_51 (hok : tOk t) (hE : cEv S G B n t N w) (hA : cAt G N w i) : pok (pVal t i) (fun x => ∃ v, c51 f 72 (S, G, m) = some (.inl 0, cWr S (xup2 G 72 1 v) m (x : Int))) (fun r => c51 f 72 (S, G, m) = some (.inr r.1, (S, xup2 G 72 1 ((min r.2 N : Nat) : Int), m)) ∧ cAt (xup2 G 72 1 ((min r.2 N : Nat) : Int)) N w r.2) := by
  -- from the TOKEN of the number on
  have num : ∀ {G : xG_} {i : Nat} (x2 : Int), (x2 = 0 ∨ x2 = 1) → cEv S G B n t N w → cAt G N w i → (kK t i = 4 ∧ kC t i ≤ 1000000000000 → c51_86 f 72 0 x2 (S, G, m) = some (.inr (if x2 = 0 then kC t i else xneg8 (kC t i)), (S, xup2 G 72 1 ((min (i + 1) N : Nat) : Int), m)) ∧ cAt (xup2 G 72 1 ((min (i + 1) N : Nat) : Int)) N w (i + 1)) ∧ (¬ (kK t i = 4 ∧ kC t i ≤ 1000000000000) → c51_86 f 72 0 x2 (S, G, m) = some (.inl 0, cWr S G m (kS t i : Int))) := by
    intro G i x2 hx2 hE hA
    obtain ⟨k1, k2, k3, k4⟩ := hE.tk hA
    have hs := hE.1
    have hp := hE.2.1
    have e125 : c51_125 f 72 0 x2 (S, G, m) = some (.inl 0, cWr S G m (kS t i : Int)) := by
      unfold c51_125
      simp (disch := omega) only [cq_gi, cq_gr, cq_a, cq_s, cq_p, cq_pr, cq_is, cq_ar, cq_ab, cq_ln, xq_nz, Option.bind_some, xup2_n, xup2_s, Int.toNat_natCast, Int.reduceToNat, if_pos, if_neg, true_and, and_true, and_self, eq_self, if_true, reduceIte, not_true_eq_false, not_false_eq_true, or_true, true_or, s72 hs, s65 hs, s68 hs, p72_0 hp, p65_4 hp, k2, k3, k_36 hs, cth]
    by_cases c1 : kK t i = 4
    · obtain ⟨l1, l2⟩ := hE.lt hA (by omega)
      have em : min i N = i := Nat.min_eq_left (by omega)
      rw [em] at k1 k2 k3 k4
      have e70 := (hE.2.2.2.2.2.2 i l2).2.1 (.inr c1)
      have e1 : c51_86 f 72 0 x2 (S, G, m) = if kC t i ≤ 1000000000000 then c51_141 f 72 0 x2 (S, G, m) else c51_125 f 72 0 x2 (S, G, m) := by
        unfold c51_86
        rw [if_neg (fun q => q rfl)]
        simp (disch := omega) only [cq_gi, cq_gr, cq_a, cq_s, cq_p, cq_pr, cq_is, cq_ar, cq_ab, cq_ln, xq_nz, Option.bind_some, xup2_n, xup2_s, Int.toNat_natCast, Int.reduceToNat, if_pos, if_neg, true_and, and_true, and_self, eq_self, if_true, reduceIte, not_true_eq_false, not_false_eq_true, or_true, true_or, s72 hs, s65 hs, s67 hs, s70 hs, p72_0 hp, p65_3 hp, p65_6 hp, k1, k3, c1, e70]
      refine ⟨fun h => ?_, fun h => ?_⟩
      · obtain ⟨b1, b2⟩ := k_37 (f := f) (m := m) hE hA (by omega)
        refine ⟨?_, b2⟩
        rw [e1, if_pos h.2]
        unfold c51_141 c51_172 c51_187
        rw [if_pos rfl]
        simp (disch := omega) only [cq_gi, cq_gr, cq_a, cq_s, cq_p, cq_pr, cq_is, cq_ar, cq_ab, cq_ln, xq_nz, Option.bind_some, xup2_n, xup2_s, Int.toNat_natCast, Int.reduceToNat, if_pos, if_neg, true_and, and_true, and_self, eq_self, if_true, reduceIte, not_true_eq_false, not_false_eq_true, or_true, true_or, s72 hs, s65 hs, s70 hs, p72_0 hp, p65_6 hp, k3, e70, b1]
        rcases hx2 with q | q
        · rw [if_pos q, if_pos q]
        · rw [if_neg (by omega), if_neg (by omega)]
      · rw [e1, if_neg (fun q => h ⟨c1, q⟩), e125]
    · refine ⟨fun h => absurd h.1 c1, fun _ => ?_⟩
      rw [← e125]
      unfold c51_86
      rw [if_neg (fun q => q rfl)]
      simp (disch := omega) only [cq_gi, cq_gr, cq_a, cq_s, cq_p, cq_pr, cq_is, cq_ar, cq_ab, cq_ln, xq_nz, Option.bind_some, xup2_n, xup2_s, Int.toNat_natCast, Int.reduceToNat, if_pos, if_neg, true_and, and_true, and_self, eq_self, if_true, reduceIte, not_true_eq_false, not_false_eq_true, or_true, true_or, s72 hs, s65 hs, s67 hs, p72_0 hp, p65_3 hp, k1, k3]
  obtain ⟨k1, k2, k3, k4⟩ := hE.tk hA
  have hs := hE.1
  have hp := hE.2.1
  have hid : xup2 G 72 1 (G 72 1) = G := xup2_id rfl
  unfold pVal
  by_cases w1 : kK t i = 1 ∧ kW t i ≠ -1
  · -- a WORD
    obtain ⟨l1, l2⟩ := hE.lt hA (by omega)
    have em : min i N = i := Nat.min_eq_left (by omega)
    rw [em] at k1 k2 k3 k4
    have e71 := (hE.2.2.2.2.2.2 i l2).2.2.1 (.inl w1.1)
    obtain ⟨b1, b2⟩ := k_37 (f := f) (m := m) hE hA (by omega)
    rw [if_neg (by omega), if_neg (by omega), if_pos w1]
    refine ⟨?_, b2⟩
    have hw2 := w1.2
    have hw1 := w1.1
    unfold c51 c51_40 c51_76 c51_77 c51_86 c51_141 c51_172 c51_187
    simp (disch := omega) only [cq_gi, cq_gr, cq_a, cq_s, cq_p, cq_pr, cq_is, cq_ar, cq_ab, cq_ln, xq_nz, Option.bind_some, xup2_n, xup2_s, Int.toNat_natCast, Int.reduceToNat, if_pos, if_neg, true_and, and_true, and_self, eq_self, if_true, reduceIte, not_true_eq_false, not_false_eq_true, or_true, true_or, s72 hs, s65 hs, s67 hs, s71 hs, p72_0 hp, p65_3 hp, p65_7 hp, k1, k3, hw1, e71, b1]
  · have e0 : c51 f 72 (S, G, m) = c51_40 f 72 0 (S, G, m) := by
      by_cases c1 : kK t i = 1
      · obtain ⟨l1, l2⟩ := hE.lt hA (by omega)
        have em : min i N = i := Nat.min_eq_left (by omega)
        rw [em] at k1 k2 k3 k4
        have e71 := (hE.2.2.2.2.2.2 i l2).2.2.1 (.inl c1)
        have hw : kW t i = -1 := Classical.not_not.mp (fun q => w1 ⟨c1, q⟩)
        unfold c51 c51_39
        simp (disch := omega) only [cq_gi, cq_gr, cq_a, cq_s, cq_p, cq_pr, cq_is, cq_ar, cq_ab, cq_ln, xq_nz, Option.bind_some, xup2_n, xup2_s, Int.toNat_natCast, Int.reduceToNat, if_pos, if_neg, true_and, and_true, and_self, eq_self, if_true, reduceIte, not_true_eq_false, not_false_eq_true, or_true, true_or, s72 hs, s65 hs, s67 hs, s71 hs, p72_0 hp, p65_3 hp, p65_7 hp, k1, k3, c1, e71, hw]
      · unfold c51 c51_39
        simp (disch := omega) only [cq_gi, cq_gr, cq_a, cq_s, cq_p, cq_pr, cq_is, cq_ar, cq_ab, cq_ln, xq_nz, Option.bind_some, xup2_n, xup2_s, Int.toNat_natCast, Int.reduceToNat, if_pos, if_neg, true_and, and_true, and_self, eq_self, if_true, reduceIte, not_true_eq_false, not_false_eq_true, or_true, true_or, s72 hs, s65 hs, s67 hs, p72_0 hp, p65_3 hp, k1, k3]
    obtain ⟨n1, n2⟩ := num 0 (.inl rfl) hE hA
    by_cases c4 : kK t i = 4 ∧ kC t i ≤ 1000000000000
    · rw [if_pos c4]
      obtain ⟨a1, a2⟩ := n1 c4
      refine ⟨?_, a2⟩
      rw [e0]
      have h4 := c4.1
      unfold c51_40 c51_76 c51_77
      simp (disch := omega) only [cq_gi, cq_gr, cq_a, cq_s, cq_p, cq_pr, cq_is, cq_ar, cq_ab, cq_ln, xq_nz, Option.bind_some, xup2_n, xup2_s, Int.toNat_natCast, Int.reduceToNat, if_pos, if_neg, true_and, and_true, and_self, eq_self, if_true, reduceIte, not_true_eq_false, not_false_eq_true, or_true, true_or, s72 hs, s65 hs, s67 hs, p72_0 hp, p65_3 hp, k1, k3, h4]
      rw [a1, if_pos rfl]
    · rw [if_neg c4]
      by_cases c5 : kK t i = 45 ∧ kD t i = true
      · rw [if_pos c5]
        obtain ⟨l1, l2⟩ := hE.lt hA (by omega)
        have em : min i N = i := Nat.min_eq_left (by omega)
        rw [em] at k1 k2 k3 k4
        obtain ⟨b1, b2⟩ := k_37 (f := f) (m := m) hE hA (by omega)
        have e126 := k_126 (f := f) (m := m) hE l2 k4
        rw [if_pos c5.2] at e126
        have h45 := c5.1
        have e1 : c51 f 72 (S, G, m) = c51_86 f 72 0 1 (S, xup2 G 72 1 ((min (i + 1) N : Nat) : Int), m) := by
          rw [e0]
          unfold c51_40 c51_76 c51_77
          simp (disch := omega) only [cq_gi, cq_gr, cq_a, cq_s, cq_p, cq_pr, cq_is, cq_ar, cq_ab, cq_ln, xq_nz, Option.bind_some, xup2_n, xup2_s, Int.toNat_natCast, Int.reduceToNat, if_pos, if_neg, true_and, and_true, and_self, eq_self, if_true, reduceIte, not_true_eq_false, not_false_eq_true, or_true, true_or, s72 hs, s65 hs, s67 hs, p72_0 hp, p65_3 hp, k1, k3, h45, e126, b1]
        obtain ⟨n3, n4⟩ := num 1 (.inr rfl) hE.u1 b2
        by_cases c6 : kK t (i + 1) = 4 ∧ kC t (i + 1) ≤ 1000000000000
        · rw [if_pos c6]
          obtain ⟨a1, a2⟩ := n3 c6
          rw [xup2_w] at a1 a2
          refine ⟨?_, a2⟩
          rw [e1, a1, if_neg (by decide)]
          have hv := hok (i + 1) (kC t (i + 1), i + 2) (by unfold pVal; rw [if_pos c6])
          unfold vOk at hv
          rw [xneg8_g _ (by show -9223372036854775808 < kC t (i + 1); omega) (by show kC t (i + 1) < 9223372036854775808; omega)]
        · rw [if_neg c6]
          exact ⟨_, by rw [e1]; exact n4 c6⟩
      · rw [if_neg c5, if_neg w1]
        refine ⟨G 72 1, ?_⟩
        rw [hid, ← n2 c4, e0]
        unfold c51_40 c51_76 c51_77
        by_cases c6 : kK t i = 45
        · obtain ⟨l1, l2⟩ := hE.lt hA (by omega)
          have em : min i N = i := Nat.min_eq_left (by omega)
          rw [em] at k1 k2 k3 k4
          have e126 := k_126 (f := f) (m := m) hE l2 k4
          rw [if_neg (fun q => c5 ⟨c6, q⟩)] at e126
          simp (disch := omega) only [cq_gi, cq_gr, cq_a, cq_s, cq_p, cq_pr, cq_is, cq_ar, cq_ab, cq_ln, xq_nz, Option.bind_some, xup2_n, xup2_s, Int.toNat_natCast, Int.reduceToNat, if_pos, if_neg, true_and, and_true, and_self, eq_self, if_true, reduceIte, not_true_eq_false, not_false_eq_true, or_true, true_or, s72 hs, s65 hs, s67 hs, p72_0 hp, p65_3 hp, k1, k3, c6, e126]
        · simp (disch := omega) only [cq_gi, cq_gr, cq_a, cq_s, cq_p, cq_pr, cq_is, cq_ar, cq_ab, cq_ln, xq_nz, Option.bind_some, xup2_n, xup2_s, Int.toNat_natCast, Int.reduceToNat, if_pos, if_neg, true_and, and_true, and_self, eq_self, if_true, reduceIte, not_true_eq_false, not_false_eq_true, or_true, true_or, s72 hs, s65 hs, s67 hs, p72_0 hp, p65_3 hp, k1, k3]
/-- find() of a program -/
theorem k_20_2 {q : Nat} {L : List Int} {x : Int} (hS : cPgS S q) (hP : cPgP G q) (hN : cNs G q L) : ∀ (d k fu : Nat), k + d = L.length → d < fu → (∀ j, j < k → L.getD j 0 ≠ x) → c20_2 f fu q x (k : Int) (S, G, m) = some (pIdx L x, (S, G, m)) := by
  obtain ⟨n1, n2, n3⟩ := hN
  intro d
  induction d with
  | zero =>
    intro k fu h1 h2 h3
    obtain ⟨fu, rfl⟩ : ∃ t, fu = t + 1 := ⟨fu - 1, by omega⟩
    rw [pIdx_no (fun j hj => h3 j (by omega))]
    show c20_2b (c20_2 f fu) f q _ _ _ = _
    unfold c20_2b
    simp (disch := omega) only [cq_gi, cq_gr, cq_a, cq_s, cq_p, cq_pr, cq_is, cq_ar, cq_ab, cq_ln, xq_nz, Option.bind_some, xup2_n, xup2_s, Int.toNat_natCast, Int.reduceToNat, if_pos, if_neg, true_and, and_true, and_self, eq_self, if_true, reduceIte, not_true_eq_false, not_false_eq_true, or_true, true_or, hS.1, n1]
  | succ d ih =>
    intro k fu h1 h2 h3
    obtain ⟨fu, rfl⟩ : ∃ t, fu = t + 1 := ⟨fu - 1, by omega⟩
    have hv := n3 k (by omega)
    have ek : xwr ((k : Int) + 1) = ((k + 1 : Nat) : Int) := by rw [xwr_g _ (by omega) (by omega)]; omega
    have e1 : c20_2 f (fu + 1) q x (k : Int) (S, G, m) = if ¬ L.getD k 0 = x then c20_2 f fu q x ((k + 1 : Nat) : Int) (S, G, m) else some ((k : Int), (S, G, m)) := by
      show c20_2b (c20_2 f fu) f q _ _ _ = _
      unfold c20_2b
      simp (disch := omega) only [cq_gi, cq_gr, cq_a, cq_s, cq_p, cq_pr, cq_is, cq_ar, cq_ab, cq_ln, xq_nz, Option.bind_some, xup2_n, xup2_s, Int.toNat_natCast, Int.reduceToNat, if_pos, if_neg, true_and, and_true, and_self, eq_self, if_true, reduceIte, not_true_eq_false, not_false_eq_true, or_true, true_or, hS.1, hS.2.1, hP.1, n1, hv, ek]
    rw [e1]
    by_cases c : L.getD k 0 = x
    · rw [if_neg (fun q => q c), pIdx_yes (by omega) h3 c]
    · rw [if_pos c]
      refine ih (k + 1) fu (by omega) (by omega) (fun j hj => ?_)
      by_cases cj : j = k
      · rw [cj]; exact c
      · exact h3 j (by omega)
theorem k_20 {q : Nat} {L : List Int} {x : Int} (hf : 20 < f) (hS : cPgS S q) (hP : cPgP G q) (hN : cNs G q L) : c20 f q x (S, G, m) = some (pIdx L x, (S, G, m)) := k_20_2 hS hP hN L.length 0 f (by omega) (by have := hN.2.1; omega) (fun j hj => absurd hj (Nat.not_lt_zero j))
/-- predicateOf() -/
theorem k_48 {q : Nat} {L : List Int} {x y : Int} {tell : Bool} (hf : 20 < f) (hs : cSs S) (h3 : G 72 3 = (q : Int)) (hq : 82 < q) (h4 : G 72 4 = b01 tell) (hS : cPgS S q) (hP : cPgP G q) (hN : cNs G q L) : (pIdx L x = -1 ∧ tell = true ∧ L.length = 16 → c48 f 72 x y (S, G, m) = some (.inl 0, cWr S G m y)) ∧
    (pIdx L x = -1 ∧ tell = true ∧ L.length ≠ 16 → c48 f 72 x y (S, G, m) = some (.inr (L.length : Int), (S, xup2 (xup2 G (q + 1) L.length x) q 1 ((L.length + 1 : Nat) : Int), m)) ∧ cNs (xup2 (xup2 G (q + 1) L.length x) q 1 ((L.length + 1 : Nat) : Int)) q (L ++ [x])) ∧
    (¬ (pIdx L x = -1 ∧ tell = true) → c48 f 72 x y (S, G, m) = some (.inr (pIdx L x), (S, G, m))) := by
  have e20 := k_20 (f := f) (m := m) (x := x) hf hS hP hN
  obtain ⟨n1, n2, n3⟩ := hN
  have el : xwr ((L.length : Int) + 1) = ((L.length + 1 : Nat) : Int) := by rw [xwr_g _ (by omega) (by omega)]; omega
  refine ⟨fun ⟨c1, c2, c3⟩ => ?_, fun ⟨c1, c2, c3⟩ => ⟨?_, ?_, ?_, fun k hk => ?_⟩, fun c => ?_⟩
  · have h4' : G 72 4 = 1 := by rw [h4, c2]; rfl
    have n1' : G q 1 = 16 := by rw [n1, c3]; rfl
    unfold c48
    simp (disch := omega) only [cq_gi, cq_gr, cq_a, cq_s, cq_p, cq_pr, cq_is, cq_ar, cq_ab, cq_ln, xq_nz, Option.bind_some, xup2_n, xup2_s, Int.toNat_natCast, Int.reduceToNat, if_pos, if_neg, true_and, and_true, and_self, eq_self, if_true, reduceIte, not_true_eq_false, not_false_eq_true, or_true, true_or, s72 hs, hS.1, h3, e20, c1, h4', n1', k_36 hs, cth]
  · have h4' : G 72 4 = 1 := by rw [h4, c2]; rfl
    have e0 : c48 f 72 x y (S, G, m) = c48_40 f 72 x (S, G, m) := by
      unfold c48
      simp (disch := omega) only [cq_gi, cq_gr, cq_a, cq_s, cq_p, cq_pr, cq_is, cq_ar, cq_ab, cq_ln, xq_nz, Option.bind_some, xup2_n, xup2_s, Int.toNat_natCast, Int.reduceToNat, if_pos, if_neg, true_and, and_true, and_self, eq_self, if_true, reduceIte, not_true_eq_false, not_false_eq_true, or_true, true_or, s72 hs, hS.1, h3, e20, c1, h4', n1]
    rw [e0]
    unfold c48_40 c48_73
    simp (disch := omega) only [cq_gi, cq_gr, cq_a, cq_s, cq_p, cq_pr, cq_is, cq_ar, cq_ab, cq_ln, xq_nz, Option.bind_some, xup2_n, xup2_s, Int.toNat_natCast, Int.reduceToNat, if_pos, if_neg, true_and, and_true, and_self, eq_self, if_true, reduceIte, not_true_eq_false, not_false_eq_true, or_true, true_or, s72 hs, hS.1, hS.2.1, hP.1, h3, n1, el]
  · rw [xup2_s, List.length_append]; rfl
  · rw [List.length_append, List.length_singleton]; omega
  · rw [List.length_append, List.length_singleton] at hk
    rw [xup2_n (by omega)]
    by_cases ck : k = L.length
    · rw [ck, xup2_s]
      exact (getD_apr [x] 0).symm
    · rw [xup2_n (by omega), getD_app _ (by omega)]
      exact n3 k (by omega)
  · unfold c48 c48_73
    by_cases c1 : pIdx L x = -1
    · have h4' : G 72 4 = 0 := by
        rw [h4]
        cases tell with
        | true => exact absurd ⟨c1, rfl⟩ c
        | false => rfl
      simp (disch := omega) only [cq_gi, cq_gr, cq_a, cq_s, cq_p, cq_pr, cq_is, cq_ar, cq_ab, cq_ln, xq_nz, Option.bind_some, xup2_n, xup2_s, Int.toNat_natCast, Int.reduceToNat, if_pos, if_neg, true_and, and_true, and_self, eq_self, if_true, reduceIte, not_true_eq_false, not_false_eq_true, or_true, true_or, s72 hs, hS.1, h3, e20, c1, h4']
    · simp (disch := omega) only [cq_gi, cq_gr, cq_a, cq_s, cq_p, cq_pr, cq_is, cq_ar, cq_ab, cq_ln, xq_nz, Option.bind_some, xup2_n, xup2_s, Int.toNat_natCast, Int.reduceToNat, if_pos, if_neg, true_and, and_true, and_self, eq_self, if_true, reduceIte, not_true_eq_false, not_false_eq_true, or_true, true_or, s72 hs, hS.1, h3, e20]
/-- mention() -/
def cMn (G : xG_) (M : List pMn) : Prop := G 72 14 = (M.length : Int) ∧ ∀ k, k < M.length → G 78 k = (M.getD k (0, 0, 0, 0)).1 ∧ G 80 k = ((M.getD k (0, 0, 0, 0)).2.1 : Int)
theorem k_40 {c : Nat} {k p s d : Int} (hs : cSs S) (hp : cPs G) (h : G 72 14 = (c : Int)) (hc : c < 1024) : c40 f 72 k p s d (S, G, m) = some (S, xup2 (xup2 (xup2 (xup2 (xup2 G 79 c k) 78 c p) 80 c s) 81 c d) 72 14 ((c + 1 : Nat) : Int), m) := by
  have e : xwr ((c : Int) + 1) = ((c + 1 : Nat) : Int) := by rw [xwr_g _ (by omega) (by omega)]; omega
  unfold c40 c40_61
  simp (disch := omega) only [cq_gi, cq_gr, cq_a, cq_s, cq_p, cq_pr, cq_is, cq_ar, cq_ab, cq_ln, xq_nz, Option.bind_some, xup2_n, xup2_s, Int.toNat_natCast, Int.reduceToNat, if_pos, if_neg, true_and, and_true, and_self, eq_self, if_true, reduceIte, not_true_eq_false, not_false_eq_true, or_true, true_or, s72 hs, s78 hs, s79 hs, s80 hs, s81 hs, p72_15 hp, p72_16 hp, p72_17 hp, p72_18 hp, h, e]
end
