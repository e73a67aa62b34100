/-! THE CLASS reads LITERALS: readLiteral() -/
def c45r (R : (Nat ⊕ Unit) × xT_) : Option ((Nat ⊕ Unit) × xT_) := cth R (fun _ => some (.inr (), R.2))
section
variable {f n N w i i' u q l F : Nat} {S : Nat → Nat × Nat × Nat} {G G1 G' G'' : xG_} {m : Nat × Nat} {B : Nat → Int} {t : tStr} {V V' : List (Int × Nat)} {K K' : pCd} {L L' : List Int} {tell : Bool} {M : List pMn} {s : pRs} {k sp : Int} {x : Nat}
theorem st_45 (hs : cSs S) (hp : cPs G) (hx : x ≤ 3000) (u2 : 278 < u) (us : S u = (1, 6, 20)) (u1 : G 72 5 = (u : Int)) (h8 : G u 8 = (l : Int)) (k2 : G 68 x = sp) (k3 : G 72 1 = (x : Int)) : c45 f 72 (S, G, m) = if l = 8 then some (.inl 0, cWr S G m sp) else c45_30 f 72 sp (S, G, m) := by
  by_cases c : l = 8
  · rw [if_pos c]
    have h8' : G u 8 = 8 := by rw [h8, c]; rfl
    unfold c45
    simp (disch := omega) only [cq_gi, cq_gr, cq_a, cq_s, cq_p, cq_pr, cq_is, cq_ar, cq_ab, cq_ln, xq_nz, Option.bind_some, xup2_n, xup2_s, Int.toNat_natCast, Int.reduceToNat, if_pos, if_neg, true_and, and_true, and_self, eq_self, if_true, reduceIte, not_true_eq_false, not_false_eq_true, or_true, true_or, s72 hs, s65 hs, s68 hs, p72_0 hp, p65_4 hp, us, u1, h8', k2, k3, k_36 hs, cth]
  · rw [if_neg c]
    unfold c45
    simp (disch := omega) only [cq_gi, cq_gr, cq_a, cq_s, cq_p, cq_pr, cq_is, cq_ar, cq_ab, cq_ln, xq_nz, Option.bind_some, xup2_n, xup2_s, Int.toNat_natCast, Int.reduceToNat, if_pos, if_neg, true_and, and_true, and_self, eq_self, if_true, reduceIte, not_true_eq_false, not_false_eq_true, or_true, true_or, s72 hs, s65 hs, s68 hs, p72_0 hp, p65_4 hp, us, u1, h8, k2, k3]
theorem st_45_9 (hs : cSs S) (hp : cPs G) (hx : x ≤ 3000) (k1 : G 67 x = 9) (k3 : G 72 1 = (x : Int)) (d1 : c37 f 72 (S, G, m) = some (S, G1, m)) : c45_30 f 72 sp (S, G, m) = ((c46 f 72 9 (S, G1, m)).bind fun R => c45r R) := by
  unfold c45_30
  simp (disch := omega) only [cq_gi, cq_gr, cq_a, cq_s, cq_p, cq_pr, cq_is, cq_ar, cq_ab, cq_ln, xq_nz, Option.bind_some, xup2_n, xup2_s, Int.toNat_natCast, Int.reduceToNat, if_pos, if_neg, true_and, and_true, and_self, eq_self, if_true, reduceIte, not_true_eq_false, not_false_eq_true, or_true, true_or, s72 hs, s65 hs, s67 hs, p72_0 hp, p65_3 hp, k1, k3, d1]
  rfl
theorem st_45_o (hs : cSs S) (hp : cPs G) (hx : x ≤ 3000) (k1 : G 67 x = k) (k3 : G 72 1 = (x : Int)) (h9 : k ≠ 9) (h1 : k ≠ 1) : c45_30 f 72 sp (S, G, m) = c45_177 f 72 (S, G, m) := by
  unfold c45_30
  simp (disch := omega) only [cq_gi, cq_gr, cq_a, cq_s, cq_p, cq_pr, cq_is, cq_ar, cq_ab, cq_ln, xq_nz, Option.bind_some, xup2_n, xup2_s, Int.toNat_natCast, Int.reduceToNat, if_pos, if_neg, true_and, and_true, and_self, eq_self, if_true, reduceIte, not_true_eq_false, not_false_eq_true, or_true, true_or, s72 hs, s65 hs, s67 hs, p72_0 hp, p65_3 hp, k1, k3]
theorem st_45_1 {le : Nat} (hs : cSs S) (hp : cPs G) (hx : x ≤ 3000) (k1 : G 67 x = 1) (k3 : G 72 1 = (x : Int)) (e124 : c124 f 65 (x : Int) (S, G, m) = some ((le : Int), (S, G, m))) (e2 : xwr (sp + 12) = sp + 12) : c45_30 f 72 sp (S, G, m) = if 12 < le then some (.inl 0, cWr S G m (sp + 12)) else c45_98 f 72 sp (S, G, m) := by
  by_cases c : 12 < le
  · rw [if_pos c]
    unfold c45_30
    simp (disch := omega) only [cq_gi, cq_gr, cq_a, cq_s, cq_p, cq_pr, cq_is, cq_ar, cq_ab, cq_ln, xq_nz, Option.bind_some, xup2_n, xup2_s, Int.toNat_natCast, Int.reduceToNat, if_pos, if_neg, true_and, and_true, and_self, eq_self, if_true, reduceIte, not_true_eq_false, not_false_eq_true, or_true, true_or, s72 hs, s65 hs, s67 hs, p72_0 hp, p65_3 hp, k1, k3, e124, e2, k_36 hs, cth]
  · rw [if_neg c]
    unfold c45_30
    simp (disch := omega) only [cq_gi, cq_gr, cq_a, cq_s, cq_p, cq_pr, cq_is, cq_ar, cq_ab, cq_ln, xq_nz, Option.bind_some, xup2_n, xup2_s, Int.toNat_natCast, Int.reduceToNat, if_pos, if_neg, true_and, and_true, and_self, eq_self, if_true, reduceIte, not_true_eq_false, not_false_eq_true, or_true, true_or, s72 hs, s65 hs, s67 hs, p72_0 hp, p65_3 hp, k1, k3, e124]
theorem st_98_a {at' : Nat} (hs : cSs S) (hp : cPs G) (hx : x + 1 ≤ 3000) (u2 : 278 < u) (us : S u = (1, 6, 20)) (u1 : G 72 5 = (u : Int)) (k1 : G 67 (x + 1) = 40) (k3 : G 72 1 = (x : Int)) (e : xwr ((x : Int) + 1) = ((x + 1 : Nat) : Int)) (e89 : c89 f u (S, G, m) = some ((at' : Int), (S, G, m))) : c45_98 f 72 sp (S, G, m) = if at' = 3 then some (.inl 0, cWr S G m sp) else ((c46 f 72 15 (S, G, m)).bind fun R => c45r R) := by
  by_cases c : at' = 3
  · rw [if_pos c]
    have e89' : c89 f u (S, G, m) = some (3, (S, G, m)) := by rw [e89, c]; rfl
    unfold c45_98
    simp (disch := omega) only [cq_gi, cq_gr, cq_a, cq_s, cq_p, cq_pr, cq_is, cq_ar, cq_ab, cq_ln, xq_nz, Option.bind_some, xup2_n, xup2_s, Int.toNat_natCast, Int.reduceToNat, if_pos, if_neg, true_and, and_true, and_self, eq_self, if_true, reduceIte, not_true_eq_false, not_false_eq_true, or_true, true_or, s72 hs, s65 hs, s67 hs, p72_0 hp, p65_3 hp, k1, k3, e, us, u1, e89', k_36 hs, cth]
  · rw [if_neg c]
    unfold c45_98 c45_133
    simp (disch := omega) only [cq_gi, cq_gr, cq_a, cq_s, cq_p, cq_pr, cq_is, cq_ar, cq_ab, cq_ln, xq_nz, Option.bind_some, xup2_n, xup2_s, Int.toNat_natCast, Int.reduceToNat, if_pos, if_neg, true_and, and_true, and_self, eq_self, if_true, reduceIte, not_true_eq_false, not_false_eq_true, or_true, true_or, s72 hs, s65 hs, s67 hs, p72_0 hp, p65_3 hp, k1, k3, e, us, u1, e89]
    rfl
theorem st_98_b {se : Int} (hs : cSs S) (hp : cPs G) (hx : x + 1 ≤ 3000) (k1 : G 67 (x + 1) = k) (hk : k ≠ 40) (k2 : G 68 (x + 1) = sp) (k3 : G 72 1 = (x : Int)) (k4 : G 71 x = se) (e : xwr ((x : Int) + 1) = ((x + 1 : Nat) : Int)) {sq : Int} : c45_98 f 72 sq (S, G, m) = if se = -1 then some (.inl 0, cWr S G m sp) else c45_177 f 72 (S, G, m) := by
  by_cases c : se = -1
  · rw [if_pos c]
    rw [c] at k4
    unfold c45_98
    simp (disch := omega) only [cq_gi, cq_gr, cq_a, cq_s, cq_p, cq_pr, cq_is, cq_ar, cq_ab, cq_ln, xq_nz, Option.bind_some, xup2_n, xup2_s, Int.toNat_natCast, Int.reduceToNat, if_pos, if_neg, true_and, and_true, and_self, eq_self, if_true, reduceIte, not_true_eq_false, not_false_eq_true, or_true, true_or, s72 hs, s65 hs, s67 hs, s68 hs, s71 hs, p72_0 hp, p65_3 hp, p65_4 hp, p65_7 hp, k1, k2, k3, k4, e, k_36 hs, cth]
  · rw [if_neg c]
    unfold c45_98
    simp (disch := omega) only [cq_gi, cq_gr, cq_a, cq_s, cq_p, cq_pr, cq_is, cq_ar, cq_ab, cq_ln, xq_nz, Option.bind_some, xup2_n, xup2_s, Int.toNat_natCast, Int.reduceToNat, if_pos, if_neg, true_and, and_true, and_self, eq_self, if_true, reduceIte, not_true_eq_false, not_false_eq_true, or_true, true_or, s72 hs, s65 hs, s67 hs, s71 hs, p72_0 hp, p65_3 hp, p65_7 hp, k1, k3, k4, e]
/-- the TOKEN behind -/
theorem cEv.nx (hE : cEv S G B n t N w) (hA : cAt G N w i) (h0 : kK t i ≠ 0) (h5 : kK t i ≠ 5) : G 67 (i + 1) = kK t (i + 1) ∧ G 68 (i + 1) = (kS t (i + 1) : Int) ∧ i + 1 ≤ N := by
  have hlt := (hE.lt hA h0).1
  obtain ⟨_, a2⟩ := k_37 (f := 0) (m := (0, 0)) hE hA h5
  obtain ⟨k1, k2, _, _⟩ := (hE.u1 (v := ((min (i + 1) N : Nat) : Int))).tk a2
  rw [xup2_n (by omega), Nat.min_eq_left (by omega)] at k1 k2
  exact ⟨k1, k2, by omega⟩
theorem k_45 {i0 : Nat} (hf : 3010 < f) (hok : tOk t) (hvi : vIn t B n) (hF : 4 * N + 2 ≤ F) (h : cRL S G B n t N w q u tell s K i0) :
    pok (pLit t tell F s) (fun x => ∃ G', c45 f 72 (S, G, m) = some (.inl 0, cWr S G' m (x : Int)) ∧ xF2 tell q u G G')
      (fun s' => ∃ G' K', c45 f 72 (S, G, m) = some (.inr (), (S, G', m)) ∧ xF2 tell q u G G' ∧ (∃ D, K' = K ++ D) ∧ cRL S G' B n t N w q u tell s' K' i0) := by
  have h1 := h.1
  have h6 := h.2.2.2.2.2.1
  have hs := h1.1.1
  have hp := h1.1.2.1
  obtain ⟨k1, k2, k3, k4⟩ := h1.1.tk h1.2.1
  have hu := h1.2.2.2.1.2.1
  have hn := h1.1.2.2.1.2.1
  have e45 := st_45 (f := f) (m := m) hs hp k4 hu h1.2.2.2.1.2.2.1.1 h1.2.2.2.1.1 h6.1 k2 k3
  unfold pLit
  by_cases c8 : s.2.2.1.length = 8
  · rw [if_pos c8] at e45 ⊢
    exact ⟨G, e45, .id⟩
  rw [if_neg c8] at e45 ⊢
  have hl : s.2.2.1.length < 8 := by have := h6.2.1; omega
  by_cases c9 : kK t s.2.2.2.2 = 9
  · rw [if_pos c9]
    obtain ⟨l1, l2⟩ := h1.1.lt h1.2.1 (by omega)
    obtain ⟨d1, d2⟩ := k_37 (f := f) (m := m) h1.1 h1.2.1 (by omega)
    obtain ⟨y1, y2⟩ := h1.at d2 (by omega)
    rw [c9] at k1
    rw [e45, st_45_9 hs hp k4 k1 k3 d1]
    have hR : cRL S (xup2 G 72 1 ((min (s.2.2.2.2 + 1) N : Nat) : Int)) B n t N w q u tell (s.1, s.2.1, s.2.2.1, s.2.2.2.1, s.2.2.2.2 + 1) K i0 := by
      obtain ⟨g1, g2, g3, g4, g5, g6, g7, g8⟩ := h
      have z : cLs (xup2 G 72 1 ((min (s.2.2.2.2 + 1) N : Nat) : Int)) u (K ++ []) s.2.2.1 := g6.fs (sl := 0) (fun a j z1 z2 z3 z4 z5 => xup2_n (fun y => z1 ⟨y.1, .inl y.2⟩)) hu (.inr (by decide))
      rw [List.append_nil] at z
      exact ⟨y2, g2.at, g3, at_m g4, fun z => ⟨(g5 z).1.at g2.2.1, (g5 z).2⟩, z, by show 3 * s.2.2.2.1.length ≤ s.2.2.2.2 + 1; omega, by show K.length + i0 ≤ s.2.2.2.2 + 1; omega⟩
    have p := k_46 (f := f) (m := m) (k := 2) (by omega) hok hvi (.inr rfl) hR hl
    rw [if_neg (by decide)] at p
    cases hpa : pAtom t tell 2 (s.1, s.2.1, s.2.2.1, s.2.2.2.1, s.2.2.2.2 + 1) with
    | inl x =>
      rw [hpa] at p
      obtain ⟨G2, a1, a2⟩ := p
      exact ⟨G2, by rw [a1]; rfl, (y1.f1.f2).tr a2⟩
    | inr s' =>
      rw [hpa] at p
      obtain ⟨G2, a1, a2, a3⟩ := p
      exact ⟨G2, K, by rw [a1]; rfl, (y1.f1.f2).tr a2, ⟨[], (List.append_nil K).symm⟩, a3⟩
  rw [if_neg c9]
  have pc := k_cmp (f := f) (m := m) hf hok hvi hF h hl
  by_cases c1 : kK t s.2.2.2.2 = 1
  · rw [if_pos c1]
    obtain ⟨l1, l2⟩ := h1.1.lt h1.2.1 (by omega)
    have em : min s.2.2.2.2 N = s.2.2.2.2 := Nat.min_eq_left (by omega)
    rw [em] at k1 k2 k3 k4
    rw [c1] at k1
    obtain ⟨⟨_, _, a3⟩, _, a5, a6, a7, _⟩ := h1.1.2.2.2.2.2.2 _ l2
    have e124 := k_124 (f := f) (m := m) h1.1 l2 k4
    have e2 : xwr ((kS t s.2.2.2.2 : Int) + 12) = (kS t s.2.2.2.2 : Int) + 12 := xwr_g _ (by omega) (by omega)
    have e30 := st_45_1 hs hp k4 k1 k3 e124 e2
    rw [e30] at e45
    by_cases c12 : 12 < kE t s.2.2.2.2 - kS t s.2.2.2.2
    · rw [if_pos c12] at e45 ⊢
      exact ⟨G, by rw [e45]; rfl, .id⟩
    rw [if_neg c12] at e45 ⊢
    obtain ⟨n1, n2, n3⟩ := h1.1.nx h1.2.1 (by omega) (by omega)
    have hN := h1.1.2.2.2.1.2
    have ex : xwr ((s.2.2.2.2 : Int) + 1) = ((s.2.2.2.2 + 1 : Nat) : Int) := by rw [xwr_g _ (by omega) (by omega)]; omega
    by_cases c40 : kK t (s.2.2.2.2 + 1) = 40
    · rw [if_pos c40]
      rw [c40] at n1
      rw [st_98_a hs hp (by omega) hu h1.2.2.2.1.2.2.1.1 h1.2.2.2.1.1 n1 k3 ex (k_89 (by omega) h1.2.2.2.1 h6)] at e45
      by_cases c3 : pAtoms s.2.2.1 = 3
      · rw [if_pos c3] at e45 ⊢
        exact ⟨G, e45, .id⟩
      rw [if_neg c3] at e45 ⊢
      have p := k_46 (f := f) (m := m) (k := 1) (by omega) hok hvi (.inl rfl) h hl
      rw [if_pos rfl] at p
      rw [e45]
      cases hpa : pAtom t tell 1 s with
      | inl x =>
        rw [hpa] at p
        obtain ⟨G2, a1, a2⟩ := p
        exact ⟨G2, by rw [a1]; rfl, a2⟩
      | inr s' =>
        rw [hpa] at p
        obtain ⟨G2, a1, a2, a3⟩ := p
        exact ⟨G2, K, by rw [a1]; rfl, a2, ⟨[], (List.append_nil K).symm⟩, a3⟩
    · rw [if_neg c40]
      have e71 := a5 (.inl c1)
      rw [st_98_b hs hp (by omega) n1 c40 n2 k3 e71 ex] at e45
      by_cases cw : kW t s.2.2.2.2 = -1
      · rw [if_pos cw] at e45 ⊢
        exact ⟨G, e45, .id⟩
      · rw [if_neg cw] at e45 ⊢
        rw [e45]
        exact pc
  · rw [if_neg c1]
    rw [st_45_o hs hp k4 k1 k3 c9 c1] at e45
    rw [e45]
    exact pc
end
