/-! THE CLASS: queryFault() -/
def c63a (f : Nat) (a0 : Nat) (R101 : (Int × xT_)) : Option (Int × xT_) := ((cq_p 4 2 20 (a0) (R101.1) R101.2).bind fun T108 => ((cq_gi 4 2 20 (a0) T108).bind fun v112 => (if (v112) = (-1) then ((cq_is 4 20 (a0) T108).bind fun _ => ((c67 f (a0) T108).bind fun R115 => ((cq_p 4 2 20 (a0) (R115.1) R115.2).bind fun T122 => ((cq_gi 4 2 20 (a0) T122).bind fun v126 => (if (v126) = (-1) then ((cq_gr 4 5 20 (a0) T122).bind fun v129 => ((cq_is 6 20 (v129) T122).bind fun _ => ((c95 f (v129) T122).bind fun R131 => ((cq_p 4 2 20 (a0) (R131.1) R131.2).bind fun T138 => ((cq_gi 4 2 20 (a0) T138).bind fun v142 => (if (v142) = (-1) then c63_60  f (0) T138 else c63_60  f (4) T138)))))) else (some (3, T122))))))) else (some (2, T108)))))
theorem c63a_e (f : Nat) (a0 : Nat) (T : xT_) : c63 f a0 T = ((cq_is 4 20 (a0) T).bind fun _ => ((c66 f (a0) T).bind fun R101 => c63a f a0 R101)) := rfl
def c63b (f : Nat) (a0 : Nat) (R115 : (Int × xT_)) : Option (Int × xT_) := ((cq_p 4 2 20 (a0) (R115.1) R115.2).bind fun T122 => ((cq_gi 4 2 20 (a0) T122).bind fun v126 => (if (v126) = (-1) then ((cq_gr 4 5 20 (a0) T122).bind fun v129 => ((cq_is 6 20 (v129) T122).bind fun _ => ((c95 f (v129) T122).bind fun R131 => ((cq_p 4 2 20 (a0) (R131.1) R131.2).bind fun T138 => ((cq_gi 4 2 20 (a0) T138).bind fun v142 => (if (v142) = (-1) then c63_60  f (0) T138 else c63_60  f (4) T138)))))) else (some (3, T122)))))
theorem c63b_e (f : Nat) (a0 : Nat) (R101 : (Int × xT_)) : c63a f a0 R101 = ((cq_p 4 2 20 (a0) (R101.1) R101.2).bind fun T108 => ((cq_gi 4 2 20 (a0) T108).bind fun v112 => (if (v112) = (-1) then ((cq_is 4 20 (a0) T108).bind fun _ => ((c67 f (a0) T108).bind fun R115 => c63b f a0 R115)) else (some (2, T108))))) := rfl
def c63c (f : Nat) (a0 : Nat) (R131 : (Int × xT_)) : Option (Int × xT_) := ((cq_p 4 2 20 (a0) (R131.1) R131.2).bind fun T138 => ((cq_gi 4 2 20 (a0) T138).bind fun v142 => (if (v142) = (-1) then c63_60  f (0) T138 else c63_60  f (4) T138)))
theorem c63c_e (f : Nat) (a0 : Nat) (R115 : (Int × xT_)) : c63b f a0 R115 = ((cq_p 4 2 20 (a0) (R115.1) R115.2).bind fun T122 => ((cq_gi 4 2 20 (a0) T122).bind fun v126 => (if (v126) = (-1) then ((cq_gr 4 5 20 (a0) T122).bind fun v129 => ((cq_is 6 20 (v129) T122).bind fun _ => ((c95 f (v129) T122).bind fun R131 => c63c f a0 R131))) else (some (3, T122))))) := rfl
section
variable {f q u : Nat} {S : Nat → Nat × Nat × Nat} {G : xG_} {m : Nat × Nat} {x : Int} {R : Int × xT_}
theorem st_63_0 (s72' : S 72 = (1, 4, 20)) (e : c66 f 72 (S, G, m) = some R) : c63 f 72 (S, G, m) = c63a f 72 R := by
  rw [c63a_e]
  simp (disch := omega) only [cq_gi, cq_gr, cq_a, cq_s, cq_p, cq_pr, cq_is, cq_ar, cq_ab, cq_ln, xq_nz, Option.bind_some, xup2_n, xup2_s, Int.toNat_natCast, Int.reduceToNat, if_pos, if_neg, true_and, and_true, and_self, eq_self, if_true, reduceIte, not_true_eq_false, not_false_eq_true, or_true, true_or, s72', e]
theorem st_63_1 (s72' : S 72 = (1, 4, 20)) : (x ≠ -1 → c63a f 72 (x, (S, G, m)) = some (2, (S, xup2 G 72 2 x, m))) ∧ (x = -1 → ∀ {R : Int × xT_}, c67 f 72 (S, xup2 G 72 2 x, m) = some R → c63a f 72 (x, (S, G, m)) = c63b f 72 R) := by
  refine ⟨fun c => ?_, fun c R e => ?_⟩
  · rw [c63b_e]
    simp (disch := omega) only [cq_gi, cq_gr, cq_a, cq_s, cq_p, cq_pr, cq_is, cq_ar, cq_ab, cq_ln, xq_nz, Option.bind_some, xup2_n, xup2_s, Int.toNat_natCast, Int.reduceToNat, if_pos, if_neg, true_and, and_true, and_self, eq_self, if_true, reduceIte, not_true_eq_false, not_false_eq_true, or_true, true_or, s72', c]
  · rw [c63b_e]
    rw [c] at e ⊢
    simp (disch := omega) only [cq_gi, cq_gr, cq_a, cq_s, cq_p, cq_pr, cq_is, cq_ar, cq_ab, cq_ln, xq_nz, Option.bind_some, xup2_n, xup2_s, Int.toNat_natCast, Int.reduceToNat, if_pos, if_neg, true_and, and_true, and_self, eq_self, if_true, reduceIte, not_true_eq_false, not_false_eq_true, or_true, true_or, s72', e]
theorem st_63_2 (s72' : S 72 = (1, 4, 20)) (us : S u = (1, 6, 20)) (hu : 278 < u) (h5 : G 72 5 = (u : Int)) : (x ≠ -1 → c63b f 72 (x, (S, G, m)) = some (3, (S, xup2 G 72 2 x, m))) ∧ (x = -1 → ∀ {R : Int × xT_}, c95 f u (S, xup2 G 72 2 x, m) = some R → c63b f 72 (x, (S, G, m)) = c63c f 72 R) := by
  refine ⟨fun c => ?_, fun c R e => ?_⟩
  · rw [c63c_e]
    simp (disch := omega) only [cq_gi, cq_gr, cq_a, cq_s, cq_p, cq_pr, cq_is, cq_ar, cq_ab, cq_ln, xq_nz, Option.bind_some, xup2_n, xup2_s, Int.toNat_natCast, Int.reduceToNat, if_pos, if_neg, true_and, and_true, and_self, eq_self, if_true, reduceIte, not_true_eq_false, not_false_eq_true, or_true, true_or, s72', c]
  · rw [c63c_e]
    rw [c] at e ⊢
    simp (disch := omega) only [cq_gi, cq_gr, cq_a, cq_s, cq_p, cq_pr, cq_is, cq_ar, cq_ab, cq_ln, xq_nz, Option.bind_some, xup2_n, xup2_s, Int.toNat_natCast, Int.reduceToNat, if_pos, if_neg, true_and, and_true, and_self, eq_self, if_true, reduceIte, not_true_eq_false, not_false_eq_true, or_true, true_or, s72', us, h5, e]
theorem st_63_3 (s72' : S 72 = (1, 4, 20)) : c63c f 72 (x, (S, G, m)) = some (if x = -1 then 0 else 4, (S, xup2 G 72 2 x, m)) := by
  unfold c63c c63_60
  by_cases c : x = -1
  · rw [c]
    simp (disch := omega) only [cq_gi, cq_gr, cq_a, cq_s, cq_p, cq_pr, cq_is, cq_ar, cq_ab, cq_ln, xq_nz, Option.bind_some, xup2_n, xup2_s, Int.toNat_natCast, Int.reduceToNat, if_pos, if_neg, true_and, and_true, and_self, eq_self, if_true, reduceIte, not_true_eq_false, not_false_eq_true, or_true, true_or, s72']
  · rw [if_neg c]
    simp (disch := omega) only [cq_gi, cq_gr, cq_a, cq_s, cq_p, cq_pr, cq_is, cq_ar, cq_ab, cq_ln, xq_nz, Option.bind_some, xup2_n, xup2_s, Int.toNat_natCast, Int.reduceToNat, if_pos, if_neg, true_and, and_true, and_self, eq_self, if_true, reduceIte, not_true_eq_false, not_false_eq_true, or_true, true_or, s72', c]
variable {s : pPg} {r : pRs}
/-- what stands at queryFault() -/
def cQt (S : Nat → Nat × Nat × Nat) (G : xG_) (q u : Nat) (s : pPg) (r : pRs) : Prop := cSs S ∧ cPs G ∧ cPr0 S G q false s.1 ∧ cMe G r.2.2.2.1 ∧ cWd G q s.2.2.2.1 ∧ cPg1 G q s.2.1 s.2.2.1 ∧ cHd G q s.2.2.2.2.1 ∧ cRul S G u r.2.1 (0, -1, -1) [] r.2.2.1 ∧ G 72 5 = (u : Int) ∧ 278 < u
theorem cQt.pl (h : cQt S G q u s r) : cQt S (xup2 G 72 2 x) q u s r := by
  obtain ⟨a1, a2, a3, a4, a5, a6, a7, a8, a9, a10⟩ := h
  have hq := a3.2.1
  have z : ∀ a j, ¬ (a = 72 ∧ j = 2) → xup2 G 72 2 x a j = G a j := fun a j y => xup2_n y
  exact ⟨a1, a2.read (fun a j z1 _ z3 => z a j (by omega)), a3.ge (z _ _ (by omega)) (z _ _ (by omega)) (fun j _ _ _ => z _ _ (by omega)) (fun j => z _ _ (by omega)), a4.ge (z _ _ (by omega)) (fun a j _ _ => z _ _ (by omega)), a5.ge (fun j => z _ _ (by omega)), fun p hp => by rw [z _ _ (by omega), z _ _ (by omega), z _ _ (by omega)]; exact a6 p hp, a7.ge (fun j => z _ _ (by omega)), a8.ge (fun _ _ _ => rfl) (fun a j _ _ => z _ _ (by omega)), by rw [z _ _ (by omega)]; exact a9, a10⟩
theorem k_63 {b : Nat} (hf : 3010 < f) (h : cQt S G q u s r) (hw : wPg s) (hih : wIH s) (hM : r.2.2.2.1.length ≤ 1000) (hN : r.1 = s.1) (hrs : wRs false r) (hk : wQk r) (hso : ∀ i j, i < j → j < r.2.2.2.1.length → mP r.2.2.2.1 i < mP r.2.2.2.1 j) (hv : vSo r.2.1 0 b) :
    ∃ k G', c63 f 72 (S, G, m) = some (k, (S, G', m)) ∧ (∀ a j, ¬ (a = 72 ∧ j = 2) → G' a j = G a j) ∧ ((k = 0 ∧ ∀ k a, ¬ qQf s r k a) ∨ (k ≠ 0 ∧ fLs (qQf s r) k (G' 72 2))) := by
  have hb := h
  obtain ⟨a1, a2, a3, a4, a5, a6, a7, a8, a9, a10⟩ := h
  have h16 := hw.1
  have s72' := s72 a1
  obtain ⟨M, eM⟩ : ∃ M, M = r.2.2.2.1 := ⟨_, rfl⟩
  have hn1 : ∀ k, k < r.2.2.2.1.length → mN r.2.2.2.1 k = -1 ∨ 0 ≤ mN r.2.2.2.1 k ∧ mN r.2.2.2.1 k < 16 := fun k hk => by
    obtain ⟨b1, b2⟩ := hrs.2.2.1 _ (mm_at hk)
    replace b1 : -1 ≤ mN r.2.2.2.1 k := b1
    replace b2 : mN r.2.2.2.1 k < r.1.length := b2
    rw [hN] at b2
    omega
  obtain ⟨x1, e1, e2⟩ := k_66 (f := f) (m := m) (fi := fun p => pIn s.2.1 (p : Int)) (fh := fun p => pHd s.2.2.2.2.1 (p : Int)) (by omega) a1 a2 a3 a4 (by omega) (fun p hp => ⟨(a6 p hp).2.1, a7 p hp⟩) hn1
  have t1 := st_63_0 s72' e1
  have p2 : ∀ i, i < r.2.2.2.1.length → ((mN r.2.2.2.1 i = -1 ∨ pIn s.2.1 ((mN r.2.2.2.1 i).toNat : Int) = false ∧ pHd s.2.2.2.2.1 ((mN r.2.2.2.1 i).toNat : Int) = false) ↔ mN r.2.2.2.1 i = -1) := fun i hi => by
    refine ⟨fun y => ?_, .inl⟩
    rcases y with y | ⟨y1, y2⟩
    · exact y
    · obtain ⟨b1, b2⟩ := hrs.2.2.1 _ (mm_at hi)
      replace b1 : -1 ≤ mN r.2.2.2.1 i := b1
      replace b2 : mN r.2.2.2.1 i < r.1.length := b2
      rw [hN] at b2
      by_cases c : mN r.2.2.2.1 i = -1
      · exact c
      · rcases hih (mN r.2.2.2.1 i).toNat (by omega) with y | y
        · rw [y1] at y; cases y
        · rw [y2] at y; cases y
  have mem2 : ∀ i, i < r.2.2.2.1.length → (mN r.2.2.2.1 i, mP r.2.2.2.1 i, mK r.2.2.2.1 i, mW r.2.2.2.1 i) ∈ r.2.2.2.1 := fun i hi => mm_at hi
  have of2 : ∀ m' ∈ r.2.2.2.1, ∃ i, i < r.2.2.2.1.length ∧ mN r.2.2.2.1 i = m'.1 ∧ mP r.2.2.2.1 i = m'.2.1 ∧ mK r.2.2.2.1 i = m'.2.2.1 := fun m' hm' => by
    obtain ⟨i, hi, ei⟩ := List.getElem_of_mem hm'
    refine ⟨i, hi, ?_, ?_, ?_⟩
    · unfold mN; rw [getD_e hi, ei]
    · unfold mP; rw [getD_e hi, ei]
    · unfold mK; rw [getD_e hi, ei]
  by_cases c1 : x1 ≠ -1
  · refine ⟨2, _, t1.trans ((st_63_1 s72').1 c1), fun a j y => xup2_n y, .inr ⟨by decide, ?_⟩⟩
    rw [xup2_s]
    obtain ⟨i, i1, i2, i3, i4⟩ := e2.some c1 hso
    refine ⟨.inl ⟨rfl, _, mem2 i i1, (p2 i i1).mp i2, i3⟩, fun k' a' hk' => ?_⟩
    rcases hk' with ⟨e, m', m1, m2, m3⟩ | ⟨e, _⟩ | ⟨e, _⟩
    · obtain ⟨j, j1, j2, j3, _⟩ := of2 m' m1
      have := i4 j j1 (.inl (j2.trans m2))
      exact .inr ⟨e.symm, by rw [i3, m3, ← j3]; exact this⟩
    · exact .inl (by omega)
    · exact .inl (by omega)
  replace c1 : x1 = -1 := Decidable.not_not.mp c1
  have no1 : ∀ i, i < r.2.2.2.1.length → mN r.2.2.2.1 i ≠ -1 := fun i hi y => e2.none c1 i hi (.inl y)
  have hn2 : ∀ k, k < r.2.2.2.1.length → (0 ≤ mN r.2.2.2.1 k ∧ mN r.2.2.2.1 k < 16) ∧ (mW r.2.2.2.1 k = 2 ∧ mK r.2.2.2.1 k = -1 ∨ mW r.2.2.2.1 k ≠ 2 ∧ mK r.2.2.2.1 k ≠ -1) := fun k hk' => by
    have q1 := no1 k hk'
    have q2 := hn1 k hk'
    obtain ⟨q3, q4⟩ := hk _ (mm_at hk')
    replace q3 : mW r.2.2.2.1 k = 4 := q3
    exact ⟨by omega, .inr ⟨by omega, q4⟩⟩
  have hb1 := hb.pl (x := x1)
  obtain ⟨x2, g1, g2⟩ := k_67 (f := f) (m := m) (fw := fun p => pNn s.2.2.2.1 (p : Int)) (by omega) hb1.1 hb1.2.1 hb1.2.2.1 hb1.2.2.2.1 (by omega) hb1.2.2.2.2.1 hn2
  have t2 := t1.trans ((st_63_1 s72').2 c1 g1)
  have hus : S u = (1, 6, 20) := by obtain ⟨K, v1, _⟩ := a8; exact v1.1.1
  have p3 : ∀ i, i < r.2.2.2.1.length → ((mK r.2.2.2.1 i ≠ -1 ∧ mK r.2.2.2.1 i ≠ pNn s.2.2.2.1 ((mN r.2.2.2.1 i).toNat : Int)) ↔ pNn s.2.2.2.1 (mN r.2.2.2.1 i) ≠ mK r.2.2.2.1 i) := fun i hi => by
    have q := (hn2 i hi).1.1
    rw [Int.toNat_of_nonneg q]
    exact ⟨fun y => fun z => y.2 z.symm, fun y => ⟨(hk _ (mm_at hi)).2, fun z => y z.symm⟩⟩
  have h5 : xup2 G 72 2 x1 72 5 = (u : Int) := by rw [xup2_n (by omega)]; exact a9
  by_cases c2 : x2 ≠ -1
  · refine ⟨3, _, t2.trans ((st_63_2 s72' hus a10 h5).1 c2), fun a j y => by rw [xup2_n y, xup2_n y], .inr ⟨by decide, ?_⟩⟩
    rw [xup2_s]
    obtain ⟨i, i1, i2, i3, i4⟩ := g2.some c2 hso
    refine ⟨.inr (.inl ⟨rfl, _, mem2 i i1, no1 i i1, (p3 i i1).mp i2, i3⟩), fun k' a' hk' => ?_⟩
    rcases hk' with ⟨e, m', m1, m2, m3⟩ | ⟨e, m', m1, m2, m3, m4⟩ | ⟨e, _⟩
    · obtain ⟨j, j1, j2, j3, _⟩ := of2 m' m1
      exact absurd (j2.trans m2) (no1 j j1)
    · obtain ⟨j, j1, j2, j3, j4⟩ := of2 m' m1
      have := i4 j j1 ((p3 j j1).mpr (by rw [j2, j4]; exact m3))
      exact .inr ⟨e.symm, by rw [i3, m4, ← j3]; exact this⟩
    · exact .inl (by omega)
  replace c2 : x2 = -1 := Decidable.not_not.mp c2
  have no2 : ∀ i, i < r.2.2.2.1.length → ¬ pNn s.2.2.2.1 (mN r.2.2.2.1 i) ≠ mK r.2.2.2.1 i := fun i hi y => g2.none c2 i hi ((p3 i hi).mpr y)
  have hb2 := hb1.pl (x := x2)
  obtain ⟨K, v1, v2, v3, v4, v5, v6⟩ := hb2.2.2.2.2.2.2.2.1
  obtain ⟨x3, l1, l2⟩ := k_95 (f := f) (m := m) (np := r.1.length) hf v1 hrs.1 v4 v5 v6
  have t3 := t2.trans (((st_63_2 s72' hus a10 h5).2 c2 l1).trans (st_63_3 s72'))
  have no : ∀ k a, qQf s r k a → k = 4 := fun k' a' hk' => by
    rcases hk' with ⟨e, m', m1, m2, m3⟩ | ⟨e, m', m1, m2, m3, m4⟩ | ⟨e, _⟩
    · obtain ⟨j, j1, j2, j3, _⟩ := of2 m' m1
      exact absurd (j2.trans m2) (no1 j j1)
    · obtain ⟨j, j1, j2, j3, j4⟩ := of2 m' m1
      exact absurd (by rw [j2, j4]; exact m3) (no2 j j1)
    · exact e
  by_cases c3 : x3 = -1
  · rw [if_pos c3] at t3
    refine ⟨0, _, t3, fun a j y => by rw [xup2_n y, xup2_n y, xup2_n y], .inl ⟨rfl, fun k' a' hk' => ?_⟩⟩
    have hall : ∀ v, v < r.2.1.length → (qBd r.2.2.1).testBit v = true := by
      rcases l2 with ⟨_, y2⟩ | ⟨v, _, _, _, _, y5⟩
      · exact fun v hv => y2 v (Nat.zero_le _) hv
      · rw [c3] at y5; omega
    have e4 := no _ _ hk'
    rcases hk' with ⟨e, _⟩ | ⟨e, _⟩ | ⟨e, v, w1, w2⟩
    · omega
    · omega
    · have := hall v w1.1
      rw [w1.2] at this; cases this
  · rw [if_neg c3] at t3
    refine ⟨4, _, t3, fun a j y => by rw [xup2_n y, xup2_n y, xup2_n y], .inr ⟨by decide, ?_⟩⟩
    rw [xup2_s]
    rcases l2 with ⟨y1, _⟩ | ⟨v, y1, y2, y3, y4, y5⟩
    · exact absurd y1 c3
    refine ⟨.inr (.inr ⟨rfl, v, ⟨y2, y3⟩, y5⟩), fun k' a' hk' => ?_⟩
    have e4 := no _ _ hk'
    rcases hk' with ⟨e, _⟩ | ⟨e, _⟩ | ⟨e, v', ⟨w1, w2⟩, w3⟩
    · omega
    · omega
    · refine .inr ⟨e.symm, ?_⟩
      rw [y5, w3]
      by_cases d1 : v' < v
      · have := y4 v' (Nat.zero_le _) d1
        rw [w2] at this; cases this
      · by_cases d2 : v' = v
        · rw [d2]; omega
        · have := List.pairwise_iff_getElem.mp hv.1 v v' y2 w1 (by omega)
          rw [getD_e y2, getD_e w1]
          omega
end
