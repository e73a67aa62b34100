section
/-! THE CLASS: readQuery() -/
def c31_16t (r16 : Nat → Int → xT_ → Option ((Nat ⊕ Unit) × xT_)) (f : Nat) (x0 : Nat) (x2 : Int) (R164 : ((Nat ⊕ Unit) × xT_)) : Option ((Nat ⊕ Unit) × xT_) := cth R164 (fun _ => r16 (x0) (xwr ((x2) + (1))) R164.2)
theorem c31_16t_e (r16 : Nat → Int → xT_ → Option ((Nat ⊕ Unit) × xT_)) (f : Nat) (x0 : Nat) (x2 : Int) (T : xT_) : c31_16b r16 f x0 x2 T = (if (8) < (x2) then c31_53  f (x0) T else ((cq_gr 4 0 20 (x0) T).bind fun v149 => ((cq_gr 8 3 8 (v149) T).bind fun v151 => ((cq_gi 4 1 20 (x0) T).bind fun v153 => ((cq_a 3 (v151) (v153) T).bind fun v155 => (if ¬ (v155) = (44) then c31_53  f (x0) T else ((cq_is 4 20 (x0) T).bind fun _ => ((c37 f (x0) T).bind fun R158 => ((cq_is 4 20 (x0) R158).bind fun _ => ((c45 f (x0) R158).bind fun R164 => c31_16t r16 f x0 x2 R164)))))))))) := rfl
def c31_53t (f : Nat) (x0 : Nat) (R115 : ((Nat ⊕ Unit) × xT_)) : Option ((Nat ⊕ Unit) × xT_) := cth R115 (fun _ => ((cq_gr 4 0 20 (x0) R115.2).bind fun v123 => ((cq_gr 8 3 8 (v123) R115.2).bind fun v125 => ((cq_gi 4 1 20 (x0) R115.2).bind fun v127 => ((cq_a 3 (v125) (v127) R115.2).bind fun v129 => (if (v129) = 0 then c31_90  f (x0) R115.2 else ((cq_gr 4 0 20 (x0) R115.2).bind fun v132 => ((cq_gr 8 4 8 (v132) R115.2).bind fun v134 => ((cq_gi 4 1 20 (x0) R115.2).bind fun v136 => ((cq_a 3 (v134) (v136) R115.2).bind fun v138 => ((cq_is 4 20 (x0) R115.2).bind fun _ => ((c36 f (x0) (v138) R115.2).bind fun R140 => cth R140 (fun _ => c31_90  f (x0) R140.2)))))))))))))
theorem c31_53t_e (f : Nat) (x0 : Nat) (T : xT_) : c31_53 f x0 T = ((cq_is 4 20 (x0) T).bind fun _ => ((c38 f (x0) (46) T).bind fun R115 => c31_53t f x0 R115)) := rfl
def c31a (f : Nat) (a0 : Nat) (R178 : (xT_)) : Option ((Nat ⊕ Unit) × xT_) := ((cq_is 4 20 (a0) R178).bind fun _ => ((c45 f (a0) R178).bind fun R184 => cth R184 (fun _ => c31_16  f f (a0) (0) R184.2)))
theorem c31a_e (f : Nat) (a0 : Nat) (a1 : Nat) (T : xT_) : c31 f a0 a1 T = ((cq_is 4 20 (a0) T).bind fun _ => ((c34 f (a0) (a1) (0) T).bind fun R172 => ((cq_is 4 20 (a0) R172).bind fun _ => ((c35 f (a0) R172).bind fun R178 => c31a f a0 R178)))) := rfl
def c31b (f : Nat) (a0 : Nat) (R184 : ((Nat ⊕ Unit) × xT_)) : Option ((Nat ⊕ Unit) × xT_) := cth R184 (fun _ => c31_16  f f (a0) (0) R184.2)
theorem c31b_e (f : Nat) (a0 : Nat) (R178 : (xT_)) : c31a f a0 R178 = ((cq_is 4 20 (a0) R178).bind fun _ => ((c45 f (a0) R178).bind fun R184 => c31b f a0 R184)) := rfl
section
variable {f n N w i i' u q l F i0 sl p : Nat} {S S' : Nat → Nat × Nat × Nat} {G G1 G2 G' G'' : xG_} {m : Nat × Nat} {B : Nat → Int} {t : tStr} {V V' : List (Int × Nat)} {K K' : pCd} {M : List pMn} {x : Nat} {k : Int} {L : List Int}
theorem st_31a {r : Nat → Int → xT_ → Option ((Nat ⊕ Unit) × xT_)} {c : Nat} (hc : c ≤ 8) (hs : cSs S) (hp : cPs G) (hx : x ≤ 3000) (k1 : G 67 x = k) (k3 : G 72 1 = (x : Int)) (hk : k ≠ 44) : c31_16b r f 72 (c : Int) (S, G, m) = c31_53 f 72 (S, G, m) := by
  unfold c31_16b
  simp (disch := omega) only [cq_gi, cq_gr, cq_a, cq_s, cq_p, cq_pr, cq_is, cq_ar, cq_ab, cq_ln, xq_nz, Option.bind_some, xup2_n, xup2_s, Int.toNat_natCast, Int.reduceToNat, if_pos, if_neg, true_and, and_true, and_self, eq_self, if_true, reduceIte, not_true_eq_false, not_false_eq_true, or_true, true_or, s72 hs, s65 hs, s67 hs, p72_0 hp, p65_3 hp, k1, k3]
theorem st_31b {r : Nat → Int → xT_ → Option ((Nat ⊕ Unit) × xT_)} {c : Nat} (hc : c ≤ 8) (hs : cSs S) (hp : cPs G) (hx : x ≤ 3000) (k1 : G 67 x = 44) (k3 : G 72 1 = (x : Int)) (d1 : c37 f 72 (S, G, m) = some (S, G1, m)) : c31_16b r f 72 (c : Int) (S, G, m) = ((c45 f 72 (S, G1, m)).bind fun R => c31_16t r f 72 (c : Int) R) := by
  rw [c31_16t_e]
  simp (disch := omega) only [cq_gi, cq_gr, cq_a, cq_s, cq_p, cq_pr, cq_is, cq_ar, cq_ab, cq_ln, xq_nz, Option.bind_some, xup2_n, xup2_s, Int.toNat_natCast, Int.reduceToNat, if_pos, if_neg, true_and, and_true, and_self, eq_self, if_true, reduceIte, not_true_eq_false, not_false_eq_true, or_true, true_or, s72 hs, s65 hs, s67 hs, p72_0 hp, p65_3 hp, k1, k3, d1]
/-- further LITERALS -/
theorem k_31l (hf : 3010 < f) (hok : tOk t) (hvi : vIn t B n) (hF : 4 * N + 2 ≤ F) : ∀ (k c fu : Nat) (s : pRs) (G : xG_) (K : pCd), c + k = 9 → s.2.2.1.length = c + 1 → k < fu → cRL S G B n t N w q u false s K i0 → pok (pLits t false F k s) (fun x => ∃ G', c31_16 f fu 72 (c : Int) (S, G, m) = some (.inl 0, cWr S G' m (x : Int)) ∧ xF2 false q u G G') (fun s' => ∃ G' K', c31_16 f fu 72 (c : Int) (S, G, m) = c31_53 f 72 (S, G', m) ∧ xF2 false q u G G' ∧ (∃ D, K' = K ++ D) ∧ cRL S G' B n t N w q u false s' K' i0) := by
  intro k
  induction k with
  | zero =>
    intro c fu s G K h1 h2 h3 h
    have := h.2.2.2.2.2.1.2.1
    omega
  | succ k ih =>
    intro c fu s G K h1 h2 h3 h
    obtain ⟨fu, rfl⟩ : ∃ t, fu = t + 1 := ⟨fu - 1, by omega⟩
    have hc8 : c ≤ 8 := by have := h.2.2.2.2.2.1.2.1; omega
    have hs := h.1.1.1
    have hp := h.1.1.2.1
    obtain ⟨k1, k2, k3, k4⟩ := h.1.1.tk h.1.2.1
    unfold pLits
    by_cases c44 : kK t s.2.2.2.2 = 44
    · rw [if_pos c44]
      rw [c44] at k1
      obtain ⟨l1, l2⟩ := h.1.1.lt h.1.2.1 (by omega)
      obtain ⟨d1, d2⟩ := k_37 (f := f) (m := m) h.1.1 h.1.2.1 (by omega)
      obtain ⟨r1, r2⟩ := h.at d2 (by omega) (by omega)
      have e0 : c31_16 f (fu + 1) 72 (c : Int) (S, G, m) = _ := st_31b (r := c31_16 f fu) hc8 hs hp k4 k1 k3 d1
      have p := k_45 (f := f) (m := m) hf hok hvi hF r1
      rw [e0]
      cases hl : pLit t false F (s.1, s.2.1, s.2.2.1, s.2.2.2.1, s.2.2.2.2 + 1) with
      | inl x =>
        rw [hl] at p
        obtain ⟨G1, a1, a2⟩ := p
        exact ⟨G1, by rw [a1]; rfl, r2.tr a2⟩
      | inr s' =>
        rw [hl] at p
        obtain ⟨G1, K1, a1, a2, ⟨D1, hD1⟩, a3⟩ := p
        have hlen := pLit_len hl
        have hlen' : s'.2.2.1.length = c + 1 + 1 := by rw [hlen]; show s.2.2.1.length + 1 = c + 1 + 1; omega
        have ek : xwr ((c : Int) + 1) = ((c + 1 : Nat) : Int) := by rw [xwr_g _ (by omega) (by omega)]; omega
        have q := ih (c + 1) fu s' G1 K1 (by omega) hlen' (by omega) a3
        have e1 : ((c45 f 72 (S, xup2 G 72 1 ((min (s.2.2.2.2 + 1) N : Nat) : Int), m)).bind fun R => c31_16t (c31_16 f fu) f 72 (c : Int) R) = c31_16 f fu 72 ((c + 1 : Nat) : Int) (S, G1, m) := by
          rw [a1, ← ek]; rfl
        rw [e1]
        show pok (pLits t false F k s') _ _
        cases hz : pLits t false F k s' with
        | inl x =>
          rw [hz] at q
          obtain ⟨G2, y1, y2⟩ := q
          exact ⟨G2, y1, (r2.tr a2).tr y2⟩
        | inr z =>
          rw [hz] at q
          obtain ⟨G2, K2, y1, y2, ⟨D2, hD2⟩, y3⟩ := q
          exact ⟨G2, K2, y1, (r2.tr a2).tr y2, ⟨D1 ++ D2, by rw [hD2, hD1, List.append_assoc]⟩, y3⟩
    · rw [if_neg c44]
      exact ⟨G, K, st_31a (r := c31_16 f fu) hc8 hs hp k4 k1 k3 c44, .id, ⟨[], (List.append_nil K).symm⟩, h⟩
theorem st_53 {Rr : (Nat ⊕ Unit) × xT_} (hs : cSs S) (e : c38 f 72 46 (S, G, m) = some Rr) : c31_53 f 72 (S, G, m) = c31_53t f 72 Rr := by
  rw [c31_53t_e]
  simp (disch := omega) only [cq_gi, cq_gr, cq_a, cq_s, cq_p, cq_pr, cq_is, cq_ar, cq_ab, cq_ln, xq_nz, Option.bind_some, xup2_n, xup2_s, Int.toNat_natCast, Int.reduceToNat, if_pos, if_neg, true_and, and_true, and_self, eq_self, if_true, reduceIte, not_true_eq_false, not_false_eq_true, or_true, true_or, s72 hs, e]
theorem st_53w {b : Int} (hs : cSs S) (hp : cPs G) (hx : x ≤ 3000) (k1 : G 67 x = k) (k2 : G 68 x = b) (k3 : G 72 1 = (x : Int)) (hk : k ≠ 0) : c31_53t f 72 (.inr (), (S, G, m)) = some (.inl 0, cWr S G m b) := by
  unfold c31_53t
  simp (disch := omega) only [cq_gi, cq_gr, cq_a, cq_s, cq_p, cq_pr, cq_is, cq_ar, cq_ab, cq_ln, xq_nz, Option.bind_some, xup2_n, xup2_s, Int.toNat_natCast, Int.reduceToNat, if_pos, if_neg, true_and, and_true, and_self, eq_self, if_true, reduceIte, not_true_eq_false, not_false_eq_true, or_true, true_or, s72 hs, s65 hs, s67 hs, s68 hs, p72_0 hp, p65_3 hp, p65_4 hp, k1, k2, k3, cth, k_36 hs]
theorem st_53g {kl : Nat} {T : xT_} (hs : cSs S) (hp : cPs G) (hx : x ≤ 3000) (k1 : G 67 x = 0) (k3 : G 72 1 = (x : Int)) (us : S u = (1, 6, 20)) (hu : 278 < u) (u1 : G 72 5 = (u : Int)) (h9 : G 72 9 = (kl : Int)) (e : c88 f u 73 74 (kl : Int) (S, G, m) = some T) : c31_53t f 72 (.inr (), (S, G, m)) = some (.inr (), T) := by
  unfold c31_53t c31_90
  simp (disch := omega) only [cq_gi, cq_gr, cq_a, cq_s, cq_p, cq_pr, cq_is, cq_ar, cq_ab, cq_ln, xq_nz, Option.bind_some, xup2_n, xup2_s, Int.toNat_natCast, Int.reduceToNat, if_pos, if_neg, true_and, and_true, and_self, eq_self, if_true, reduceIte, not_true_eq_false, not_false_eq_true, or_true, true_or, s72 hs, s65 hs, s67 hs, p72_0 hp, p72_7 hp, p72_8 hp, p65_3 hp, k1, k3, cth, us, u1, h9, e]
/-- the end of a QUERY -/
theorem k_53e (hf : 3010 < f) {s : pRs} (h : cRL S G B n t N w q u false s K i0) (hI : cIt G u K (0, -1, -1) []) (hz : ∀ k, k < 8 → G (u + 9) k = 0) (hwf : ∀ y ∈ s.2.2.1, wLv s.2.1.length y) :
    pok (pbind (pNeed t 46 s.2.2.2.2) fun i => if kK t i = 0 then (.inr (s.1, s.2.1, s.2.2.1, s.2.2.2.1, i) : Nat ⊕ pRs) else .inl (kS t i)) (fun x => ∃ G', c31_53 f 72 (S, G, (u + 11, sl)) = some (.inl 0, cWr S G' (u + 11, sl) (x : Int)) ∧ ∀ a j, ¬ (a = 72 ∧ j = 1) → G' a j = G a j)
      (fun s' => ∃ S' G', c31_53 f 72 (S, G, (u + 11, sl)) = some (.inr (), (S', G', (u + 13, sl + 2 * K.length))) ∧ (∀ a, a < u → S' a = S a) ∧ (∀ a k, a < u → ¬ (a = 72 ∧ k = 1) → G' a k = G a k) ∧ s'.2.1 = s.2.1 ∧ s'.2.2.1 = s.2.2.1 ∧ s'.2.2.2.1 = s.2.2.2.1 ∧ cRul S' G' u s.2.1 (0, -1, -1) [] s.2.2.1) := by
  obtain ⟨g1, g2, g3, g4, g5, g6, g7, g8⟩ := h
  have hs := g1.1.1
  have hN := g1.1.2.2.2.1.2
  have hiN := g1.2.2.1
  obtain ⟨u1, u2, hrs, hrp⟩ := g1.2.2.2.1
  have p38 := k_38 (f := f) (m := (u + 11, sl)) (c := 46) (by decide) g1.1 g1.2.1
  cases hn : pNeed t 46 s.2.2.2.2 with
  | inl x =>
    rw [hn] at p38
    show ∃ G', _
    refine ⟨G, ?_, fun _ _ _ => rfl⟩
    rw [st_53 hs p38]
    rfl
  | inr j =>
    rw [hn] at p38
    obtain ⟨a1, a2, a3, a4⟩ := p38
    have hlt := (g1.1.lt g1.2.1 (by omega)).1
    obtain ⟨b1, b2⟩ := g1.at a4 (by omega)
    obtain ⟨G1, hG1⟩ : ∃ G1, G1 = xup2 G 72 1 ((min j N : Nat) : Int) := ⟨_, rfl⟩
    rw [← hG1] at a1 a4 b2
    have zG1 : ∀ a k, ¬ (a = 72 ∧ k = 1) → G1 a k = G a k := fun a k z => by rw [hG1, xup2_n z]
    obtain ⟨k1, k2, k3, k4⟩ := b2.1.tk a4
    show pok (if kK t j = 0 then (.inr (s.1, s.2.1, s.2.2.1, s.2.2.2.1, j) : Nat ⊕ pRs) else .inl (kS t j)) _ _
    by_cases c0 : kK t j = 0
    · rw [if_pos c0]
      rw [c0] at k1
      obtain ⟨S2, G2, e1, e2, e3, e4⟩ := k_88 (f := f) (sl := sl) (V := s.2.1) hf hs u2 hrs b2.2.2.2.1.2.2.2 (g6.rule (zG1 u 8 (by omega)) (fun a k _ _ => zG1 a k (by omega))) (hI.rule (fun k _ _ => zG1 u k (by omega)) (fun a k _ _ => zG1 a k (by omega))) b2.2.2.2.2.2.2 (by omega) ⟨b2.2.2.2.2.1.1, b2.2.2.2.2.1.2.1, fun v hv => (b2.2.2.2.2.1.2.2 v hv).2⟩ hwf (fun E hE => absurd hE (by simp)) (.inl rfl) (fun k hk => by rw [zG1 _ _ (by omega)]; exact hz k hk)
      have e6 := st_53g (f := f) (m := (u + 11, sl)) hs b2.1.2.1 k4 k1 k3 hrs.1 u2 b2.2.2.2.1.1 b2.2.2.2.2.2.2.1 e1
      exact ⟨S2, G2, by rw [st_53 hs a1, e6], fun a ha => e2 a (by omega), fun a k z z' => by rw [e3 a k (by omega) (by omega) (by omega) (by omega), zG1 a k z'], rfl, rfl, rfl, e4⟩
    · rw [if_neg c0]
      exact ⟨G1, by rw [st_53 hs a1, st_53w hs b2.1.2.1 k4 k1 k2 k3 c0], zG1⟩
end
end
section
/-! THE CLASS: readQuery() whole -/
section
variable {f n N w i u q F sl : Nat} {S S' : Nat → Nat × Nat × Nat} {G G1 G2 G' : xG_} {m : Nat × Nat} {B : Nat → Int} {t : tStr} {L : List Int}
theorem st_31_0 {T : xT_} (hs : cSs S) (e : c35 f 72 (S, bUp G q 0, m) = some T) : c31 f 72 q (S, G, m) = c31a f 72 T := by
  rw [c31a_e]
  simp (disch := omega) only [cq_gi, cq_gr, cq_a, cq_s, cq_p, cq_pr, cq_is, cq_ar, cq_ab, cq_ln, xq_nz, Option.bind_some, xup2_n, xup2_s, Int.toNat_natCast, Int.reduceToNat, if_pos, if_neg, true_and, and_true, and_self, eq_self, if_true, reduceIte, not_true_eq_false, not_false_eq_true, or_true, true_or, s72 hs, k_34 hs (.inl rfl), e]
theorem st_31_1 (hs : S 72 = (1, 4, 20)) : c31a f 72 (S, G, m) = ((c45 f 72 (S, G, m)).bind fun R => c31b f 72 R) := by
  rw [c31b_e]
  simp (disch := omega) only [cq_gi, cq_gr, cq_a, cq_s, cq_p, cq_pr, cq_is, cq_ar, cq_ab, cq_ln, xq_nz, Option.bind_some, xup2_n, xup2_s, Int.toNat_natCast, Int.reduceToNat, if_pos, if_neg, true_and, and_true, and_self, eq_self, if_true, reduceIte, not_true_eq_false, not_false_eq_true, or_true, true_or, hs]
theorem xF2.R (h : xF2 false q u G G') : ∀ a j, a < u → ¬ (a = 72 ∧ (1 ≤ j ∧ j ≤ 6 ∨ j = 9 ∨ j = 12 ∨ j = 14)) → ¬ (73 ≤ a ∧ a ≤ 82) → G' a j = G a j := fun a j z1 z2 z3 => h a j (by omega) (by omega) (fun y => by cases y.1) (by omega) (by omega) (by omega)
theorem k_31 (hf : 3010 < f) (hok : tOk t) (hvi : vIn t B n) (hF : 4 * N + 2 ≤ F) (hE : cEv S G B n t N N) (hq : 82 < q) (hqu : q + 10 < u) (hu : 278 < u) (h1 : cPgS S q) (h2 : cPgP G q) (h3 : cNs G q L) :
    pok (pQuery t F L) (fun x => ∃ S' G' m', c31 f 72 q (S, G, (u, sl)) = some (.inl 0, cWr S' G' m' (x : Int)) ∧ (∀ a, a < u → S' a = S a) ∧ xFR u G G' ∧ m'.1 = u + 11 ∧ m'.2 = sl + 172)
      (fun s => ∃ S' G' sl', c31 f 72 q (S, G, (u, sl)) = some (.inr (), (S', G', (u + 13, sl'))) ∧ (∀ a, a < u → S' a = S a) ∧ xFR u G G' ∧ sl' ≤ sl + 6172 ∧ cRul S' G' u s.2.1 (0, -1, -1) [] s.2.2.1 ∧ G' 72 5 = (u : Int) ∧ cMe G' s.2.2.2.1 ∧ cPr0 S' G' q false L ∧ s.2.2.2.1.length ≤ 1000) := by
  have hs := hE.1
  have hN := hE.2.2.2.1.2
  obtain ⟨b1, b2, b3, b4, b5⟩ := bUp_s (G := G) (q := q) (b := 0)
  have z : ∀ a j, a ≠ 72 → bUp G q 0 a j = G a j := fun a j h => bUp_n a j (fun y => h y.1)
  have hE0 : cEv S (bUp G q 0) B n t N N := bUp_e hE
  have hA0 : cAt (bUp G q 0) N N 0 := ⟨by rw [b3, Nat.zero_min]; rfl, .inr rfl⟩
  obtain ⟨S1, G1, d1, d2, d3, d4, d5, d6, d7, d8⟩ := k_35 (f := f) (sl := sl) (G := bUp G q 0) hs hu
  have e1 := st_31_0 (q := q) hs d1
  have s72' : S1 72 = (1, 4, 20) := by rw [d2 _ (by omega)]; exact s72 hs
  rw [st_31_1 s72'] at e1
  obtain ⟨x1, hI1, hL1⟩ := cXr.new hu hE0 hA0 (Nat.zero_le _) d2 d3 d4 d5 d6 d7 d8
  have hr0 : cPr0 S (bUp G q 0) q false L := ⟨b1, hq, (fun y => by cases y), b2, h1, h2.ge (fun j _ _ _ => z q j (by omega)), h3.ge (z _ _ (by omega)) (fun j => z _ _ (by omega))⟩
  have hr1 : cPr0 S1 G1 q false L := hr0.sg (fun a z1 z2 => d2 a (by omega)) (d3 _ _ (by omega) (by omega)) (d3 _ _ (by omega) (by omega)) (fun j _ _ _ => d3 _ _ (by omega) (by omega)) (fun j => d3 _ _ (by omega) (by omega))
  have hM1 : cMe G1 [] := ⟨by rw [d3 _ _ (by omega) (by omega)]; exact b5, fun k hk => absurd hk (Nat.not_lt_zero k)⟩
  have hRL : cRL S1 G1 B n t N N q u false (L, [], [], [], 0) [] 0 := ⟨x1, hr1, hqu, hM1, (fun y => by cases y), hL1, Nat.le_refl _, Nat.le_refl _⟩
  have hz1 : ∀ k, k < 8 → G1 (u + 9) k = 0 := fun k _ => d6.2.2.2.2.2 _ _ (by omega) (by omega)
  have fr1 : xFR u G G1 := fun a j y1 y2 y3 => by rw [d3 a j y1 (by omega), bUp_n a j (by omega)]
  have p := k_45 (f := f) (m := (u + 11, sl + 172)) hf hok hvi hF hRL
  unfold pQuery
  cases hl : pLit t false F (L, [], [], [], 0) with
  | inl x =>
    rw [hl] at p
    obtain ⟨G2, a1, a2⟩ := p
    rw [a1, Option.bind_some] at e1
    exact ⟨S1, G2, _, e1, d2, fun a j y1 y2 y3 => by rw [a2.R a j y1 y2 y3, fr1 a j y1 y2 y3], rfl, rfl⟩
  | inr s1 =>
    rw [hl] at p
    obtain ⟨G2, K2, a1, a2, ⟨D1, hD1⟩, a3⟩ := p
    rw [a1, Option.bind_some] at e1
    have hlen : s1.2.2.1.length = 0 + 1 := pLit_len hl
    have w0 : wRs false (L, [], [], [], 0) := ⟨fun l hl => (by cases hl), fun q => absurd q (by decide), fun l hl => (by cases hl), fun q => absurd q (by decide)⟩
    have w1 := pLit_wf hok hl w0
    have p2 := k_31l (f := f) (m := (u + 11, sl + 172)) hf hok hvi hF 9 0 f s1 G2 K2 rfl hlen (by omega) a3
    show pok (pbind (pLits t false F 9 s1) _) _ _
    have e2 : c31 f 72 q (S, G, (u, sl)) = c31_16 f f 72 ((0 : Nat) : Int) (S1, G2, (u + 11, sl + 172)) := e1
    cases hz : pLits t false F 9 s1 with
    | inl x =>
      rw [hz] at p2
      obtain ⟨G3, y1, y2⟩ := p2
      exact ⟨S1, G3, _, e2.trans y1, d2, fun a j v1 v2 v3 => by rw [y2.R a j v1 v2 v3, a2.R a j v1 v2 v3, fr1 a j v1 v2 v3], rfl, rfl⟩
    | inr s2 =>
      rw [hz] at p2
      obtain ⟨G3, K3, y1, y2, ⟨D2, hD2⟩, y3⟩ := p2
      have w2 := pLits_wf hok hz w1
      have fr3 : xF2 false q u G1 G3 := a2.tr y2
      have hI3 : cIt G3 u K3 (0, -1, -1) [] := ⟨by rw [fr3 _ _ (by omega) (by omega) (fun y => by cases y.1) (by omega) (by omega) (by omega)]; exact hI1.1, by decide, fun c hc => absurd hc (Nat.not_lt_zero c), fun c h0 hc => by rw [fr3 _ _ (by omega) (by omega) (fun y => by cases y.1) (by omega) (by omega) (by omega), fr3 _ _ (by omega) (by omega) (fun y => by cases y.1) (by omega) (by omega) (by omega)]; exact hI1.2.2.2.1 c h0 hc, .inl ⟨rfl, by rw [fr3 _ _ (by omega) (by omega) (fun y => by cases y.1) (by omega) (by omega) (by omega)]; exact d6.2.1⟩⟩
      have hz3 : ∀ k, k < 8 → G3 (u + 9) k = 0 := fun k hk => by rw [fr3 _ _ (by omega) (by omega) (fun y => by cases y.1) (by omega) (by omega) (by omega)]; exact hz1 k hk
      have p3 := k_53e (f := f) (sl := sl + 172) hf y3 hI3 hz3 (fun y hy => (w2.1 y hy).lv)
      show pok (pbind (pNeed t 46 s2.2.2.2.2) _) _ _
      cases hw : (pbind (pNeed t 46 s2.2.2.2.2) fun i => if kK t i = 0 then (.inr (s2.1, s2.2.1, s2.2.2.1, s2.2.2.2.1, i) : Nat ⊕ pRs) else .inl (kS t i)) with
      | inl x =>
        rw [hw] at p3
        obtain ⟨G4, v1, v2⟩ := p3
        exact ⟨S1, G4, _, (e2.trans y1).trans v1, d2, fun a j o1 o2 o3 => by rw [v2 a j (by omega), fr3.R a j o1 o2 o3, fr1 a j o1 o2 o3], rfl, rfl⟩
      | inr s3 =>
        rw [hw] at p3
        obtain ⟨S4, G4, v1, v2, v3, v4, v5, v6, v7⟩ := p3
        have g8 := y3.2.2.2.2.2.2.2
        have gN := y3.1.2.2.1
        refine ⟨S4, G4, _, (e2.trans y1).trans v1, fun a ha => by rw [v2 a ha, d2 a ha], fun a j o1 o2 o3 => by rw [v3 a j o1 (by omega), fr3.R a j o1 o2 o3, fr1 a j o1 o2 o3], by omega, by rw [v4, v5]; exact v7, by rw [v3 _ _ (by omega) (by omega)]; exact y3.1.2.2.2.1.1, ?_, ?_, ?_⟩
        · rw [v6]
          exact y3.2.2.2.1.ge (v3 _ _ (by omega) (by omega)) (fun a j _ _ => v3 _ _ (by omega) (by omega))
        · have hL2 : s2.1 = L := (pLits_N hz).trans (pLit_N hl)
          have := y3.2.1
          rw [hL2] at this
          exact this.sg (fun a _ _ => v2 a (by omega)) (v3 _ _ (by omega) (by omega)) (v3 _ _ (by omega) (by omega)) (fun j _ _ _ => v3 _ _ (by omega) (by omega)) (fun j => v3 _ _ (by omega) (by omega))
        · rw [v6]
          have := y3.2.2.2.2.2.2.1
          omega
end
end
section
/-! All NAMES of a program are told of; the mentions of a QUERY -/
def wNd1 (N : List Int) (M : List pMn) : Prop := ∀ p : Nat, p < N.length → ∃ m ∈ M, m.1 = (p : Int)
theorem pPred_n {t : tStr} {N : List Int} {i : Nat} {p : Int × List Int × Nat} (h : pPred t N i = .inr p) : p.2.1 = N ∨ p.1 = (N.length : Int) ∧ p.2.1.length = N.length + 1 := by
  unfold pPred at h
  obtain ⟨a, h1, h2⟩ := pbind_inr h
  split at h2
  · split at h2
    · cases h2
    · cases h2; exact .inr ⟨rfl, by show (N ++ [a.1]).length = _; rw [List.length_append]; rfl⟩
  · cases h2; exact .inl rfl
theorem wNd1.mo {N : List Int} {M M' : List pMn} (h : wNd1 N M) (hM : ∀ m ∈ M, m ∈ M') : wNd1 N M' := fun p hp => by
  obtain ⟨m, a, b⟩ := h p hp
  exact ⟨m, hM m a, b⟩
theorem wNd1.pr {t : tStr} {N : List Int} {M : List pMn} {i : Nat} {p : Int × List Int × Nat} {m : pMn} (h : wNd1 N M) (hp : pPred t N i = .inr p) (hm : m.1 = p.1) : wNd1 p.2.1 (M ++ [m]) := by
  rcases pPred_n hp with e | ⟨e1, e2⟩
  · rw [e]; exact h.mo (fun m hm => List.mem_append.mpr (.inl hm))
  · intro k hk
    by_cases c : k < N.length
    · obtain ⟨m', a, b⟩ := h k c
      exact ⟨m', List.mem_append.mpr (.inl a), b⟩
    · refine ⟨m, List.mem_append.mpr (.inr (List.mem_singleton.mpr rfl)), ?_⟩
      rw [hm, e1]; omega
theorem pAtom_nd {t : tStr} {k : Int} {s s' : pRs} (h : pAtom t true k s = .inr s') (hs : wNd1 s.1 s.2.2.2.1) : wNd1 s'.1 s'.2.2.2.1 := by
  unfold pAtom at h
  obtain ⟨p, h1, h2⟩ := pbind_inr h
  obtain ⟨j, h3, h4⟩ := pbind_inr h2
  obtain ⟨y, h5, h6⟩ := pbind_inr h4
  obtain ⟨z, h7, h8⟩ := pbind_inr h6
  obtain ⟨u, h9, h10⟩ := pbind_inr h8
  cases h10
  rw [if_pos rfl] at h1
  exact hs.pr h1 rfl
theorem pCmp_nd {t : tStr} {F : Nat} {s s' : pRs} (h : pCmp t F s = .inr s') (hs : wNd1 s.1 s.2.2.2.1) : wNd1 s'.1 s'.2.2.2.1 := by
  unfold pCmp at h
  obtain ⟨x, g1, g2⟩ := pbind_inr h
  split at g2
  · obtain ⟨b, g3, g4⟩ := pbind_inr g2
    cases g4
    exact hs
  · cases g2
theorem pLit_nd {t : tStr} {F : Nat} {s s' : pRs} (h : pLit t true F s = .inr s') (hs : wNd1 s.1 s.2.2.2.1) : wNd1 s'.1 s'.2.2.2.1 := by
  unfold pLit at h
  split at h
  · cases h
  split at h
  · have q := pAtom_nd h
    exact q hs
  split at h
  · split at h
    · cases h
    split at h
    · split at h
      · cases h
      · exact pAtom_nd h hs
    split at h
    · cases h
    · exact pCmp_nd h hs
  · exact pCmp_nd h hs
theorem pLits_nd {t : tStr} {F : Nat} : ∀ {k : Nat} {s s' : pRs}, pLits t true F k s = .inr s' → wNd1 s.1 s.2.2.2.1 → wNd1 s'.1 s'.2.2.2.1 := by
  intro k
  induction k with
  | zero => intro s s' h hs; cases h; exact hs
  | succ k ih =>
    intro s s' h hs
    unfold pLits at h
    split at h
    · obtain ⟨u, g1, g2⟩ := pbind_inr h
      have q := pLit_nd g1
      exact ih g2 (q hs)
    · cases h; exact hs
theorem pRule_nd {t : tStr} {F : Nat} {s s' : pPg} (h : pRule t F s = .inr s') (hs : wNd1 s.1 s.2.2.2.1) : wNd1 s'.1 s'.2.2.2.1 := by
  unfold pRule at h
  split at h
  · cases h
  obtain ⟨p, h1, h⟩ := pbind_inr h
  obtain ⟨i, h2, h⟩ := pbind_inr h
  obtain ⟨a, h3, h⟩ := pbind_inr h
  obtain ⟨a', h4, h⟩ := pbind_inr h
  obtain ⟨i', h5, h⟩ := pbind_inr h
  obtain ⟨l, h6, h⟩ := pbind_inr h
  obtain ⟨i'', h7, h⟩ := pbind_inr h
  have h0 : wNd1 p.2.1 (s.2.2.2.1 ++ [(p.1, kS t s.2.2.2.2.2, (a'.2.2.1.length : Int), (3 : Int))]) := hs.pr h1 rfl
  have hl : wNd1 l.1 l.2.2.2.1 := by
    split at h6
    · obtain ⟨u, g1, g2⟩ := pbind_inr h6
      have q := pLit_nd g1
      exact pLits_nd g2 (q h0)
    · cases h6
      exact h0
  cases h
  exact hl
theorem pProg_nd {t : tStr} {F : Nat} : ∀ {k : Nat} {s s' : pPg}, pProg t F k s = .inr s' → wNd1 s.1 s.2.2.2.1 → wNd1 s'.1 s'.2.2.2.1 := by
  intro k
  induction k with
  | zero => intro s s' h; cases h
  | succ k ih =>
    intro s s' h hs
    unfold pProg at h
    split at h
    · cases h; exact hs
    · obtain ⟨u, g1, g2⟩ := pbind_inr h
      refine ih g2 ?_
      split at g1
      · unfold pInput at g1
        obtain ⟨p, h1, g1⟩ := pbind_inr g1
        obtain ⟨i, h2, g1⟩ := pbind_inr g1
        obtain ⟨n, h3, g1⟩ := pbind_inr g1
        obtain ⟨q, h4, g1⟩ := pbind_inr g1
        obtain ⟨i', h5, g1⟩ := pbind_inr g1
        cases g1
        exact hs.pr h1 rfl
      split at g1
      · unfold pOutput at g1
        obtain ⟨p, h1, g1⟩ := pbind_inr g1
        obtain ⟨i, h2, g1⟩ := pbind_inr g1
        cases g1
        exact hs.pr h1 rfl
      · exact pRule_nd g1 hs
/-- each predicate of a program without FAULTS is an INPUT or a HEAD -/
def wIH (s : pPg) : Prop := ∀ p : Nat, p < s.1.length → pIn s.2.1 (p : Int) = true ∨ pHd s.2.2.2.2.1 (p : Int) = true
theorem wIH_of {tx : List Int} {s : pPg} (h : qPr tx = .inr s) (hw : wPg s) (hf : ∀ k a, ¬ pFa s 0 k a) : wIH s := by
  have h1 : wNd1 s.1 s.2.2.2.1 := pProg_nd h (fun p hp => absurd hp (Nat.not_lt_zero p))
  have h2 : wKn s := pProg_kn h (fun m hm => absurd hm (by simp))
  intro p hp
  obtain ⟨m, m1, m2⟩ := h1 p hp
  obtain ⟨i, hi, ei⟩ := List.getElem_of_mem m1
  have en : mN s.2.2.2.1 i = (p : Int) := by unfold mN; rw [getD_e hi, ei]; exact m2
  by_cases c : isK2 s i
  · exfalso
    have := (isK2_iff hw h2 hi).mp c
    exact hf 2 (((0 : Nat) : Int) + mP s.2.2.2.1 i) (.inl (.inl (.inl ⟨i, Nat.zero_le _, hi, .inr ⟨rfl, rfl, this⟩⟩)))
  · unfold isK2 at c
    rw [en, Int.toNat_natCast] at c
    cases hb : pIn s.2.1 (p : Int) with
    | true => exact .inl rfl
    | false =>
      cases hb2 : pHd s.2.2.2.2.1 (p : Int) with
      | true => exact .inr rfl
      | false => exact absurd (.inr ⟨hb, hb2⟩) c
/-- the mentions of a QUERY -/
def wQk (s : pRs) : Prop := ∀ m ∈ s.2.2.2.1, m.2.2.2 = 4 ∧ m.2.2.1 ≠ -1
theorem pAtom_qk {t : tStr} {tell : Bool} {k : Int} {s s' : pRs} (h : pAtom t tell k s = .inr s') (hs : wQk s) : wQk s' := by
  unfold pAtom at h
  obtain ⟨p, h1, h2⟩ := pbind_inr h
  obtain ⟨j, h3, h4⟩ := pbind_inr h2
  obtain ⟨y, h5, h6⟩ := pbind_inr h4
  obtain ⟨z, h7, h8⟩ := pbind_inr h6
  obtain ⟨u, h9, h10⟩ := pbind_inr h8
  cases h10
  intro m hm
  rcases List.mem_append.mp hm with q | q
  · exact hs m q
  · rw [List.mem_singleton.mp q]; exact ⟨rfl, by show ((z.1.length : Nat) : Int) ≠ -1; omega⟩
theorem pCmp_qk {t : tStr} {F : Nat} {s s' : pRs} (h : pCmp t F s = .inr s') (hs : wQk s) : wQk s' := by
  unfold pCmp at h
  obtain ⟨x, g1, g2⟩ := pbind_inr h
  split at g2
  · obtain ⟨b, g3, g4⟩ := pbind_inr g2
    cases g4
    exact hs
  · cases g2
theorem pLit_qk {t : tStr} {tell : Bool} {F : Nat} {s s' : pRs} (h : pLit t tell F s = .inr s') (hs : wQk s) : wQk s' := by
  unfold pLit at h
  split at h
  · cases h
  split at h
  · have q := pAtom_qk h
    exact q hs
  split at h
  · split at h
    · cases h
    split at h
    · split at h
      · cases h
      · exact pAtom_qk h hs
    split at h
    · cases h
    · exact pCmp_qk h hs
  · exact pCmp_qk h hs
theorem pLits_qk {t : tStr} {tell : Bool} {F : Nat} : ∀ {k : Nat} {s s' : pRs}, pLits t tell F k s = .inr s' → wQk s → wQk s' := by
  intro k
  induction k with
  | zero => intro s s' h hs; cases h; exact hs
  | succ k ih =>
    intro s s' h hs
    unfold pLits at h
    split at h
    · obtain ⟨u, g1, g2⟩ := pbind_inr h
      have q := pLit_qk g1
      exact ih g2 (q hs)
    · cases h; exact hs
/-- all that a QUERY keeps to -/
theorem qQu_fa {tx N : List Int} {r : pRs} (hB : tTx (tBt tx) tx.length) (h : qQu tx N = .inr r) : wQk r ∧ (∀ i j, i < j → j < r.2.2.2.1.length → mP r.2.2.2.1 i < mP r.2.2.2.1 j) ∧ ∃ b, vSo r.2.1 0 b := by
  unfold qQu pQuery at h
  obtain ⟨a, h1, h⟩ := pbind_inr h
  obtain ⟨b, h2, h⟩ := pbind_inr h
  obtain ⟨i, h3, h⟩ := pbind_inr h
  have k0 : wQk ((N, [], [], [], 0) : pRs) := fun l hl => by cases hl
  have k2 := pLits_qk h2 (pLit_qk h1 k0)
  have s2 := pLits_so hB h2 (pLit_so hB h1 ⟨by simp, by simp⟩)
  have v2 := (pLits_vs (a := 0) hB h2 (Nat.zero_le _) (pLit_vs (a := 0) hB h1 (Nat.zero_le _) ⟨by simp, by simp⟩)).1
  split at h
  · cases h
    refine ⟨k2, fun i j hij hj => ?_, _, v2⟩
    have := List.pairwise_iff_getElem.mp s2.1 i j (Nat.lt_trans hij hj) hj hij
    unfold mP
    rw [getD_e (Nat.lt_trans hij hj), getD_e hj]
    exact this
  · cases h
end
section
/-! THE CLASS: queryFault() -/
def c63a (f : Nat) (a0 : Nat) (R101 : (Int × xT_)) : Option (Int × xT_) := ((cq_p 4 2 20 (a0) (R101.1) R101.2).bind fun T108 => ((cq_gi 4 2 20 (a0) T108).bind fun v112 => (if (v112) = (-1) then ((cq_is 4 20 (a0) T108).bind fun _ => ((c67 f (a0) T108).bind fun R115 => ((cq_p 4 2 20 (a0) (R115.1) R115.2).bind fun T122 => ((cq_gi 4 2 20 (a0) T122).bind fun v126 => (if (v126) = (-1) then ((cq_gr 4 5 20 (a0) T122).bind fun v129 => ((cq_is 6 20 (v129) T122).bind fun _ => ((c95 f (v129) T122).bind fun R131 => ((cq_p 4 2 20 (a0) (R131.1) R131.2).bind fun T138 => ((cq_gi 4 2 20 (a0) T138).bind fun v142 => (if (v142) = (-1) then c63_60  f (0) T138 else c63_60  f (4) T138)))))) else (some (3, T122))))))) else (some (2, T108)))))
theorem c63a_e (f : Nat) (a0 : Nat) (T : xT_) : c63 f a0 T = ((cq_is 4 20 (a0) T).bind fun _ => ((c66 f (a0) T).bind fun R101 => c63a f a0 R101)) := rfl
def c63b (f : Nat) (a0 : Nat) (R115 : (Int × xT_)) : Option (Int × xT_) := ((cq_p 4 2 20 (a0) (R115.1) R115.2).bind fun T122 => ((cq_gi 4 2 20 (a0) T122).bind fun v126 => (if (v126) = (-1) then ((cq_gr 4 5 20 (a0) T122).bind fun v129 => ((cq_is 6 20 (v129) T122).bind fun _ => ((c95 f (v129) T122).bind fun R131 => ((cq_p 4 2 20 (a0) (R131.1) R131.2).bind fun T138 => ((cq_gi 4 2 20 (a0) T138).bind fun v142 => (if (v142) = (-1) then c63_60  f (0) T138 else c63_60  f (4) T138)))))) else (some (3, T122)))))
theorem c63b_e (f : Nat) (a0 : Nat) (R101 : (Int × xT_)) : c63a f a0 R101 = ((cq_p 4 2 20 (a0) (R101.1) R101.2).bind fun T108 => ((cq_gi 4 2 20 (a0) T108).bind fun v112 => (if (v112) = (-1) then ((cq_is 4 20 (a0) T108).bind fun _ => ((c67 f (a0) T108).bind fun R115 => c63b f a0 R115)) else (some (2, T108))))) := rfl
def c63c (f : Nat) (a0 : Nat) (R131 : (Int × xT_)) : Option (Int × xT_) := ((cq_p 4 2 20 (a0) (R131.1) R131.2).bind fun T138 => ((cq_gi 4 2 20 (a0) T138).bind fun v142 => (if (v142) = (-1) then c63_60  f (0) T138 else c63_60  f (4) T138)))
theorem c63c_e (f : Nat) (a0 : Nat) (R115 : (Int × xT_)) : c63b f a0 R115 = ((cq_p 4 2 20 (a0) (R115.1) R115.2).bind fun T122 => ((cq_gi 4 2 20 (a0) T122).bind fun v126 => (if (v126) = (-1) then ((cq_gr 4 5 20 (a0) T122).bind fun v129 => ((cq_is 6 20 (v129) T122).bind fun _ => ((c95 f (v129) T122).bind fun R131 => c63c f a0 R131))) else (some (3, T122))))) := rfl
section
variable {f q u : Nat} {S : Nat → Nat × Nat × Nat} {G : xG_} {m : Nat × Nat} {x : Int} {R : Int × xT_}
theorem st_63_0 (s72' : S 72 = (1, 4, 20)) (e : c66 f 72 (S, G, m) = some R) : c63 f 72 (S, G, m) = c63a f 72 R := by
  rw [c63a_e]
  simp (disch := omega) only [cq_gi, cq_gr, cq_a, cq_s, cq_p, cq_pr, cq_is, cq_ar, cq_ab, cq_ln, xq_nz, Option.bind_some, xup2_n, xup2_s, Int.toNat_natCast, Int.reduceToNat, if_pos, if_neg, true_and, and_true, and_self, eq_self, if_true, reduceIte, not_true_eq_false, not_false_eq_true, or_true, true_or, s72', e]
theorem st_63_1 (s72' : S 72 = (1, 4, 20)) : (x ≠ -1 → c63a f 72 (x, (S, G, m)) = some (2, (S, xup2 G 72 2 x, m))) ∧ (x = -1 → ∀ {R : Int × xT_}, c67 f 72 (S, xup2 G 72 2 x, m) = some R → c63a f 72 (x, (S, G, m)) = c63b f 72 R) := by
  refine ⟨fun c => ?_, fun c R e => ?_⟩
  · rw [c63b_e]
    simp (disch := omega) only [cq_gi, cq_gr, cq_a, cq_s, cq_p, cq_pr, cq_is, cq_ar, cq_ab, cq_ln, xq_nz, Option.bind_some, xup2_n, xup2_s, Int.toNat_natCast, Int.reduceToNat, if_pos, if_neg, true_and, and_true, and_self, eq_self, if_true, reduceIte, not_true_eq_false, not_false_eq_true, or_true, true_or, s72', c]
  · rw [c63b_e]
    rw [c] at e ⊢
    simp (disch := omega) only [cq_gi, cq_gr, cq_a, cq_s, cq_p, cq_pr, cq_is, cq_ar, cq_ab, cq_ln, xq_nz, Option.bind_some, xup2_n, xup2_s, Int.toNat_natCast, Int.reduceToNat, if_pos, if_neg, true_and, and_true, and_self, eq_self, if_true, reduceIte, not_true_eq_false, not_false_eq_true, or_true, true_or, s72', e]
theorem st_63_2 (s72' : S 72 = (1, 4, 20)) (us : S u = (1, 6, 20)) (hu : 278 < u) (h5 : G 72 5 = (u : Int)) : (x ≠ -1 → c63b f 72 (x, (S, G, m)) = some (3, (S, xup2 G 72 2 x, m))) ∧ (x = -1 → ∀ {R : Int × xT_}, c95 f u (S, xup2 G 72 2 x, m) = some R → c63b f 72 (x, (S, G, m)) = c63c f 72 R) := by
  refine ⟨fun c => ?_, fun c R e => ?_⟩
  · rw [c63c_e]
    simp (disch := omega) only [cq_gi, cq_gr, cq_a, cq_s, cq_p, cq_pr, cq_is, cq_ar, cq_ab, cq_ln, xq_nz, Option.bind_some, xup2_n, xup2_s, Int.toNat_natCast, Int.reduceToNat, if_pos, if_neg, true_and, and_true, and_self, eq_self, if_true, reduceIte, not_true_eq_false, not_false_eq_true, or_true, true_or, s72', c]
  · rw [c63c_e]
    rw [c] at e ⊢
    simp (disch := omega) only [cq_gi, cq_gr, cq_a, cq_s, cq_p, cq_pr, cq_is, cq_ar, cq_ab, cq_ln, xq_nz, Option.bind_some, xup2_n, xup2_s, Int.toNat_natCast, Int.reduceToNat, if_pos, if_neg, true_and, and_true, and_self, eq_self, if_true, reduceIte, not_true_eq_false, not_false_eq_true, or_true, true_or, s72', us, h5, e]
theorem st_63_3 (s72' : S 72 = (1, 4, 20)) : c63c f 72 (x, (S, G, m)) = some (if x = -1 then 0 else 4, (S, xup2 G 72 2 x, m)) := by
  unfold c63c c63_60
  by_cases c : x = -1
  · rw [c]
    simp (disch := omega) only [cq_gi, cq_gr, cq_a, cq_s, cq_p, cq_pr, cq_is, cq_ar, cq_ab, cq_ln, xq_nz, Option.bind_some, xup2_n, xup2_s, Int.toNat_natCast, Int.reduceToNat, if_pos, if_neg, true_and, and_true, and_self, eq_self, if_true, reduceIte, not_true_eq_false, not_false_eq_true, or_true, true_or, s72']
  · rw [if_neg c]
    simp (disch := omega) only [cq_gi, cq_gr, cq_a, cq_s, cq_p, cq_pr, cq_is, cq_ar, cq_ab, cq_ln, xq_nz, Option.bind_some, xup2_n, xup2_s, Int.toNat_natCast, Int.reduceToNat, if_pos, if_neg, true_and, and_true, and_self, eq_self, if_true, reduceIte, not_true_eq_false, not_false_eq_true, or_true, true_or, s72', c]
variable {s : pPg} {r : pRs}
/-- what stands at queryFault() -/
def cQt (S : Nat → Nat × Nat × Nat) (G : xG_) (q u : Nat) (s : pPg) (r : pRs) : Prop := cSs S ∧ cPs G ∧ cPr0 S G q false s.1 ∧ cMe G r.2.2.2.1 ∧ cWd G q s.2.2.2.1 ∧ cPg1 G q s.2.1 s.2.2.1 ∧ cHd G q s.2.2.2.2.1 ∧ cRul S G u r.2.1 (0, -1, -1) [] r.2.2.1 ∧ G 72 5 = (u : Int) ∧ 278 < u
theorem cQt.pl (h : cQt S G q u s r) : cQt S (xup2 G 72 2 x) q u s r := by
  obtain ⟨a1, a2, a3, a4, a5, a6, a7, a8, a9, a10⟩ := h
  have hq := a3.2.1
  have z : ∀ a j, ¬ (a = 72 ∧ j = 2) → xup2 G 72 2 x a j = G a j := fun a j y => xup2_n y
  exact ⟨a1, a2.read (fun a j z1 _ z3 => z a j (by omega)), a3.ge (z _ _ (by omega)) (z _ _ (by omega)) (fun j _ _ _ => z _ _ (by omega)) (fun j => z _ _ (by omega)), a4.ge (z _ _ (by omega)) (fun a j _ _ => z _ _ (by omega)), a5.ge (fun j => z _ _ (by omega)), fun p hp => by rw [z _ _ (by omega), z _ _ (by omega), z _ _ (by omega)]; exact a6 p hp, a7.ge (fun j => z _ _ (by omega)), a8.ge (fun _ _ _ => rfl) (fun a j _ _ => z _ _ (by omega)), by rw [z _ _ (by omega)]; exact a9, a10⟩
theorem k_63 {b : Nat} (hf : 3010 < f) (h : cQt S G q u s r) (hw : wPg s) (hih : wIH s) (hM : r.2.2.2.1.length ≤ 1000) (hN : r.1 = s.1) (hrs : wRs false r) (hk : wQk r) (hso : ∀ i j, i < j → j < r.2.2.2.1.length → mP r.2.2.2.1 i < mP r.2.2.2.1 j) (hv : vSo r.2.1 0 b) :
    ∃ k G', c63 f 72 (S, G, m) = some (k, (S, G', m)) ∧ (∀ a j, ¬ (a = 72 ∧ j = 2) → G' a j = G a j) ∧ ((k = 0 ∧ ∀ k a, ¬ qQf s r k a) ∨ (k ≠ 0 ∧ fLs (qQf s r) k (G' 72 2))) := by
  have hb := h
  obtain ⟨a1, a2, a3, a4, a5, a6, a7, a8, a9, a10⟩ := h
  have h16 := hw.1
  have s72' := s72 a1
  obtain ⟨M, eM⟩ : ∃ M, M = r.2.2.2.1 := ⟨_, rfl⟩
  have hn1 : ∀ k, k < r.2.2.2.1.length → mN r.2.2.2.1 k = -1 ∨ 0 ≤ mN r.2.2.2.1 k ∧ mN r.2.2.2.1 k < 16 := fun k hk => by
    obtain ⟨b1, b2⟩ := hrs.2.2.1 _ (mm_at hk)
    replace b1 : -1 ≤ mN r.2.2.2.1 k := b1
    replace b2 : mN r.2.2.2.1 k < r.1.length := b2
    rw [hN] at b2
    omega
  obtain ⟨x1, e1, e2⟩ := k_66 (f := f) (m := m) (fi := fun p => pIn s.2.1 (p : Int)) (fh := fun p => pHd s.2.2.2.2.1 (p : Int)) (by omega) a1 a2 a3 a4 (by omega) (fun p hp => ⟨(a6 p hp).2.1, a7 p hp⟩) hn1
  have t1 := st_63_0 s72' e1
  have p2 : ∀ i, i < r.2.2.2.1.length → ((mN r.2.2.2.1 i = -1 ∨ pIn s.2.1 ((mN r.2.2.2.1 i).toNat : Int) = false ∧ pHd s.2.2.2.2.1 ((mN r.2.2.2.1 i).toNat : Int) = false) ↔ mN r.2.2.2.1 i = -1) := fun i hi => by
    refine ⟨fun y => ?_, .inl⟩
    rcases y with y | ⟨y1, y2⟩
    · exact y
    · obtain ⟨b1, b2⟩ := hrs.2.2.1 _ (mm_at hi)
      replace b1 : -1 ≤ mN r.2.2.2.1 i := b1
      replace b2 : mN r.2.2.2.1 i < r.1.length := b2
      rw [hN] at b2
      by_cases c : mN r.2.2.2.1 i = -1
      · exact c
      · rcases hih (mN r.2.2.2.1 i).toNat (by omega) with y | y
        · rw [y1] at y; cases y
        · rw [y2] at y; cases y
  have mem2 : ∀ i, i < r.2.2.2.1.length → (mN r.2.2.2.1 i, mP r.2.2.2.1 i, mK r.2.2.2.1 i, mW r.2.2.2.1 i) ∈ r.2.2.2.1 := fun i hi => mm_at hi
  have of2 : ∀ m' ∈ r.2.2.2.1, ∃ i, i < r.2.2.2.1.length ∧ mN r.2.2.2.1 i = m'.1 ∧ mP r.2.2.2.1 i = m'.2.1 ∧ mK r.2.2.2.1 i = m'.2.2.1 := fun m' hm' => by
    obtain ⟨i, hi, ei⟩ := List.getElem_of_mem hm'
    refine ⟨i, hi, ?_, ?_, ?_⟩
    · unfold mN; rw [getD_e hi, ei]
    · unfold mP; rw [getD_e hi, ei]
    · unfold mK; rw [getD_e hi, ei]
  by_cases c1 : x1 ≠ -1
  · refine ⟨2, _, t1.trans ((st_63_1 s72').1 c1), fun a j y => xup2_n y, .inr ⟨by decide, ?_⟩⟩
    rw [xup2_s]
    obtain ⟨i, i1, i2, i3, i4⟩ := e2.some c1 hso
    refine ⟨.inl ⟨rfl, _, mem2 i i1, (p2 i i1).mp i2, i3⟩, fun k' a' hk' => ?_⟩
    rcases hk' with ⟨e, m', m1, m2, m3⟩ | ⟨e, _⟩ | ⟨e, _⟩
    · obtain ⟨j, j1, j2, j3, _⟩ := of2 m' m1
      have := i4 j j1 (.inl (j2.trans m2))
      exact .inr ⟨e.symm, by rw [i3, m3, ← j3]; exact this⟩
    · exact .inl (by omega)
    · exact .inl (by omega)
  replace c1 : x1 = -1 := Decidable.not_not.mp c1
  have no1 : ∀ i, i < r.2.2.2.1.length → mN r.2.2.2.1 i ≠ -1 := fun i hi y => e2.none c1 i hi (.inl y)
  have hn2 : ∀ k, k < r.2.2.2.1.length → (0 ≤ mN r.2.2.2.1 k ∧ mN r.2.2.2.1 k < 16) ∧ (mW r.2.2.2.1 k = 2 ∧ mK r.2.2.2.1 k = -1 ∨ mW r.2.2.2.1 k ≠ 2 ∧ mK r.2.2.2.1 k ≠ -1) := fun k hk' => by
    have q1 := no1 k hk'
    have q2 := hn1 k hk'
    obtain ⟨q3, q4⟩ := hk _ (mm_at hk')
    replace q3 : mW r.2.2.2.1 k = 4 := q3
    exact ⟨by omega, .inr ⟨by omega, q4⟩⟩
  have hb1 := hb.pl (x := x1)
  obtain ⟨x2, g1, g2⟩ := k_67 (f := f) (m := m) (fw := fun p => pNn s.2.2.2.1 (p : Int)) (by omega) hb1.1 hb1.2.1 hb1.2.2.1 hb1.2.2.2.1 (by omega) hb1.2.2.2.2.1 hn2
  have t2 := t1.trans ((st_63_1 s72').2 c1 g1)
  have hus : S u = (1, 6, 20) := by obtain ⟨K, v1, _⟩ := a8; exact v1.1.1
  have p3 : ∀ i, i < r.2.2.2.1.length → ((mK r.2.2.2.1 i ≠ -1 ∧ mK r.2.2.2.1 i ≠ pNn s.2.2.2.1 ((mN r.2.2.2.1 i).toNat : Int)) ↔ pNn s.2.2.2.1 (mN r.2.2.2.1 i) ≠ mK r.2.2.2.1 i) := fun i hi => by
    have q := (hn2 i hi).1.1
    rw [Int.toNat_of_nonneg q]
    exact ⟨fun y => fun z => y.2 z.symm, fun y => ⟨(hk _ (mm_at hi)).2, fun z => y z.symm⟩⟩
  have h5 : xup2 G 72 2 x1 72 5 = (u : Int) := by rw [xup2_n (by omega)]; exact a9
  by_cases c2 : x2 ≠ -1
  · refine ⟨3, _, t2.trans ((st_63_2 s72' hus a10 h5).1 c2), fun a j y => by rw [xup2_n y, xup2_n y], .inr ⟨by decide, ?_⟩⟩
    rw [xup2_s]
    obtain ⟨i, i1, i2, i3, i4⟩ := g2.some c2 hso
    refine ⟨.inr (.inl ⟨rfl, _, mem2 i i1, no1 i i1, (p3 i i1).mp i2, i3⟩), fun k' a' hk' => ?_⟩
    rcases hk' with ⟨e, m', m1, m2, m3⟩ | ⟨e, m', m1, m2, m3, m4⟩ | ⟨e, _⟩
    · obtain ⟨j, j1, j2, j3, _⟩ := of2 m' m1
      exact absurd (j2.trans m2) (no1 j j1)
    · obtain ⟨j, j1, j2, j3, j4⟩ := of2 m' m1
      have := i4 j j1 ((p3 j j1).mpr (by rw [j2, j4]; exact m3))
      exact .inr ⟨e.symm, by rw [i3, m4, ← j3]; exact this⟩
    · exact .inl (by omega)
  replace c2 : x2 = -1 := Decidable.not_not.mp c2
  have no2 : ∀ i, i < r.2.2.2.1.length → ¬ pNn s.2.2.2.1 (mN r.2.2.2.1 i) ≠ mK r.2.2.2.1 i := fun i hi y => g2.none c2 i hi ((p3 i hi).mpr y)
  have hb2 := hb1.pl (x := x2)
  obtain ⟨K, v1, v2, v3, v4, v5, v6⟩ := hb2.2.2.2.2.2.2.2.1
  obtain ⟨x3, l1, l2⟩ := k_95 (f := f) (m := m) (np := r.1.length) hf v1 hrs.1 v4 v5 v6
  have t3 := t2.trans (((st_63_2 s72' hus a10 h5).2 c2 l1).trans (st_63_3 s72'))
  have no : ∀ k a, qQf s r k a → k = 4 := fun k' a' hk' => by
    rcases hk' with ⟨e, m', m1, m2, m3⟩ | ⟨e, m', m1, m2, m3, m4⟩ | ⟨e, _⟩
    · obtain ⟨j, j1, j2, j3, _⟩ := of2 m' m1
      exact absurd (j2.trans m2) (no1 j j1)
    · obtain ⟨j, j1, j2, j3, j4⟩ := of2 m' m1
      exact absurd (by rw [j2, j4]; exact m3) (no2 j j1)
    · exact e
  by_cases c3 : x3 = -1
  · rw [if_pos c3] at t3
    refine ⟨0, _, t3, fun a j y => by rw [xup2_n y, xup2_n y, xup2_n y], .inl ⟨rfl, fun k' a' hk' => ?_⟩⟩
    have hall : ∀ v, v < r.2.1.length → (qBd r.2.2.1).testBit v = true := by
      rcases l2 with ⟨_, y2⟩ | ⟨v, _, _, _, _, y5⟩
      · exact fun v hv => y2 v (Nat.zero_le _) hv
      · rw [c3] at y5; omega
    have e4 := no _ _ hk'
    rcases hk' with ⟨e, _⟩ | ⟨e, _⟩ | ⟨e, v, w1, w2⟩
    · omega
    · omega
    · have := hall v w1.1
      rw [w1.2] at this; cases this
  · rw [if_neg c3] at t3
    refine ⟨4, _, t3, fun a j y => by rw [xup2_n y, xup2_n y, xup2_n y], .inr ⟨by decide, ?_⟩⟩
    rw [xup2_s]
    rcases l2 with ⟨y1, _⟩ | ⟨v, y1, y2, y3, y4, y5⟩
    · exact absurd y1 c3
    refine ⟨.inr (.inr ⟨rfl, v, ⟨y2, y3⟩, y5⟩), fun k' a' hk' => ?_⟩
    have e4 := no _ _ hk'
    rcases hk' with ⟨e, _⟩ | ⟨e, _⟩ | ⟨e, v', ⟨w1, w2⟩, w3⟩
    · omega
    · omega
    · refine .inr ⟨e.symm, ?_⟩
      rw [y5, w3]
      by_cases d1 : v' < v
      · have := y4 v' (Nat.zero_le _) d1
        rw [w2] at this; cases this
      · by_cases d2 : v' = v
        · rw [d2]; omega
        · have := List.pairwise_iff_getElem.mp hv.1 v v' y2 w1 (by omega)
          rw [getD_e y2, getD_e w1]
          omega
end
end
section
/-! THE CLASS: readChanges(), steps -/
def c32_110s (r8 : Nat → Int → xT_ → Option ((Nat ⊕ Unit) × xT_)) (r110 : Nat → Int → Int → Int → Int → Int → xT_ → Option ((Nat ⊕ Unit) × xT_)) (f : Nat) (x0 : Nat) (x2 : Int) (x3 : Int) (x4 : Int) (x5 : Int) (x6 : Int) (v123 : Nat) (R125 : ((Nat ⊕ Int) × xT_)) : Option ((Nat ⊕ Unit) × xT_) := cth R125 (fun v131 => ((cq_s 4 (v123) (xwr ((xwr ((4) * (x2))) + (x6))) (v131) R125.2).bind fun T134 => (if (4) ≤ (xwr ((x6) + (1))) then c32_141 r8 f (x0) (x2) (x3) (x4) (x5) (xwr ((x6) + (1))) T134 else ((cq_is 4 20 (x0) T134).bind fun _ => ((c39 f (x0) T134).bind fun R139 => (if ¬ (R139.1) = 0 then r110 (x0) (x2) (x3) (x4) (x5) (xwr ((x6) + (1))) R139.2 else c32_141 r8 f (x0) (x2) (x3) (x4) (x5) (xwr ((x6) + (1))) R139.2))))))
theorem c32_110s_e (r8 : Nat → Int → xT_ → Option ((Nat ⊕ Unit) × xT_)) (r110 : Nat → Int → Int → Int → Int → Int → xT_ → Option ((Nat ⊕ Unit) × xT_)) (f : Nat) (x0 : Nat) (x2 : Int) (x3 : Int) (x4 : Int) (x5 : Int) (x6 : Int) (T : xT_) : c32_110b r8 r110 f x0 x2 x3 x4 x5 x6 T = ((cq_gr 4 19 20 (x0) T).bind fun v123 => ((cq_is 4 20 (x0) T).bind fun _ => ((c51 f (x0) T).bind fun R125 => c32_110s r8 r110 f x0 x2 x3 x4 x5 x6 v123 R125))) := rfl
def c32_110t (r8 : Nat → Int → xT_ → Option ((Nat ⊕ Unit) × xT_)) (r110 : Nat → Int → Int → Int → Int → Int → xT_ → Option ((Nat ⊕ Unit) × xT_)) (f : Nat) (x0 : Nat) (x2 : Int) (x3 : Int) (x4 : Int) (x5 : Int) (x6 : Int) (R139 : (Int × xT_)) : Option ((Nat ⊕ Unit) × xT_) := (if ¬ (R139.1) = 0 then r110 (x0) (x2) (x3) (x4) (x5) (xwr ((x6) + (1))) R139.2 else c32_141 r8 f (x0) (x2) (x3) (x4) (x5) (xwr ((x6) + (1))) R139.2)
theorem c32_110t_e (r8 : Nat → Int → xT_ → Option ((Nat ⊕ Unit) × xT_)) (r110 : Nat → Int → Int → Int → Int → Int → xT_ → Option ((Nat ⊕ Unit) × xT_)) (f : Nat) (x0 : Nat) (x2 : Int) (x3 : Int) (x4 : Int) (x5 : Int) (x6 : Int) (v123 : Nat) (R125 : ((Nat ⊕ Int) × xT_)) : c32_110s r8 r110 f x0 x2 x3 x4 x5 x6 v123 R125 = cth R125 (fun v131 => ((cq_s 4 (v123) (xwr ((xwr ((4) * (x2))) + (x6))) (v131) R125.2).bind fun T134 => (if (4) ≤ (xwr ((x6) + (1))) then c32_141 r8 f (x0) (x2) (x3) (x4) (x5) (xwr ((x6) + (1))) T134 else ((cq_is 4 20 (x0) T134).bind fun _ => ((c39 f (x0) T134).bind fun R139 => c32_110t r8 r110 f x0 x2 x3 x4 x5 x6 R139))))) := rfl
def c32_141s (r8 : Nat → Int → xT_ → Option ((Nat ⊕ Unit) × xT_)) (f : Nat) (x0 : Nat) (x2 : Int) (x3 : Int) (x4 : Int) (x5 : Int) (x6 : Int) (R101 : ((Nat ⊕ Unit) × xT_)) : Option ((Nat ⊕ Unit) × xT_) := cth R101 (fun _ => ((cq_is 4 20 (x0) R101.2).bind fun _ => ((c38 f (x0) (46) R101.2).bind fun R109 => cth R109 (fun _ => ((cq_is 4 20 (x0) R109.2).bind fun _ => ((c40 f (x0) (x3) (x5) (x4) (x6) R109.2).bind fun R117 => r8 (x0) (xwr ((x2) + (1))) R117))))))
theorem c32_141s_e (r8 : Nat → Int → xT_ → Option ((Nat ⊕ Unit) × xT_)) (f : Nat) (x0 : Nat) (x2 : Int) (x3 : Int) (x4 : Int) (x5 : Int) (x6 : Int) (T : xT_) : c32_141 r8 f x0 x2 x3 x4 x5 x6 T = ((cq_is 4 20 (x0) T).bind fun _ => ((c38 f (x0) (41) T).bind fun R101 => c32_141s r8 f x0 x2 x3 x4 x5 x6 R101)) := rfl
def c32_141t (r8 : Nat → Int → xT_ → Option ((Nat ⊕ Unit) × xT_)) (f : Nat) (x0 : Nat) (x2 : Int) (x3 : Int) (x4 : Int) (x5 : Int) (x6 : Int) (R109 : ((Nat ⊕ Unit) × xT_)) : Option ((Nat ⊕ Unit) × xT_) := cth R109 (fun _ => ((cq_is 4 20 (x0) R109.2).bind fun _ => ((c40 f (x0) (x3) (x5) (x4) (x6) R109.2).bind fun R117 => r8 (x0) (xwr ((x2) + (1))) R117)))
theorem c32_141t_e (r8 : Nat → Int → xT_ → Option ((Nat ⊕ Unit) × xT_)) (f : Nat) (x0 : Nat) (x2 : Int) (x3 : Int) (x4 : Int) (x5 : Int) (x6 : Int) (R101 : ((Nat ⊕ Unit) × xT_)) : c32_141s r8 f x0 x2 x3 x4 x5 x6 R101 = cth R101 (fun _ => ((cq_is 4 20 (x0) R101.2).bind fun _ => ((c38 f (x0) (46) R101.2).bind fun R109 => c32_141t r8 f x0 x2 x3 x4 x5 x6 R109))) := rfl
def c32_71s (r8 : Nat → Int → xT_ → Option ((Nat ⊕ Unit) × xT_)) (f : Nat) (x0 : Nat) (x2 : Int) (x3 : Int) (R146 : (xT_)) : Option ((Nat ⊕ Unit) × xT_) := ((cq_gr 4 0 20 (x0) R146).bind fun v152 => ((cq_gr 8 4 8 (v152) R146).bind fun v154 => ((cq_gi 4 1 20 (x0) R146).bind fun v156 => ((cq_a 3 (v154) (v156) R146).bind fun v158 => ((cq_is 4 20 (x0) R146).bind fun _ => ((c47 f (x0) R146).bind fun R160 => cth R160 (fun v166 => ((cq_is 4 20 (x0) R160.2).bind fun _ => ((c48 f (x0) (v166) (v158) R160.2).bind fun R168 => cth R168 (fun v174 => ((cq_is 4 20 (x0) R168.2).bind fun _ => ((c38 f (x0) (40) R168.2).bind fun R176 => cth R176 (fun _ => c32_110 r8 f f (x0) (x2) (x3) (v158) (v174) (0) R176.2)))))))))))))
theorem c32_71s_e (r8 : Nat → Int → xT_ → Option ((Nat ⊕ Unit) × xT_)) (f : Nat) (x0 : Nat) (x2 : Int) (x3 : Int) (T : xT_) : c32_71 r8 f x0 x2 x3 T = ((cq_is 4 20 (x0) T).bind fun _ => ((c37 f (x0) T).bind fun R146 => c32_71s r8 f x0 x2 x3 R146)) := rfl
def c32_71t (r8 : Nat → Int → xT_ → Option ((Nat ⊕ Unit) × xT_)) (f : Nat) (x0 : Nat) (x2 : Int) (x3 : Int) (v158 : Int) (R160 : ((Nat ⊕ Int) × xT_)) : Option ((Nat ⊕ Unit) × xT_) := cth R160 (fun v166 => ((cq_is 4 20 (x0) R160.2).bind fun _ => ((c48 f (x0) (v166) (v158) R160.2).bind fun R168 => cth R168 (fun v174 => ((cq_is 4 20 (x0) R168.2).bind fun _ => ((c38 f (x0) (40) R168.2).bind fun R176 => cth R176 (fun _ => c32_110 r8 f f (x0) (x2) (x3) (v158) (v174) (0) R176.2)))))))
theorem c32_71t_e (r8 : Nat → Int → xT_ → Option ((Nat ⊕ Unit) × xT_)) (f : Nat) (x0 : Nat) (x2 : Int) (x3 : Int) (R146 : (xT_)) : c32_71s r8 f x0 x2 x3 R146 = ((cq_gr 4 0 20 (x0) R146).bind fun v152 => ((cq_gr 8 4 8 (v152) R146).bind fun v154 => ((cq_gi 4 1 20 (x0) R146).bind fun v156 => ((cq_a 3 (v154) (v156) R146).bind fun v158 => ((cq_is 4 20 (x0) R146).bind fun _ => ((c47 f (x0) R146).bind fun R160 => c32_71t r8 f x0 x2 x3 v158 R160)))))) := rfl
def c32_71u (r8 : Nat → Int → xT_ → Option ((Nat ⊕ Unit) × xT_)) (f : Nat) (x0 : Nat) (x2 : Int) (x3 : Int) (v158 : Int) (R168 : ((Nat ⊕ Int) × xT_)) : Option ((Nat ⊕ Unit) × xT_) := cth R168 (fun v174 => ((cq_is 4 20 (x0) R168.2).bind fun _ => ((c38 f (x0) (40) R168.2).bind fun R176 => cth R176 (fun _ => c32_110 r8 f f (x0) (x2) (x3) (v158) (v174) (0) R176.2))))
theorem c32_71u_e (r8 : Nat → Int → xT_ → Option ((Nat ⊕ Unit) × xT_)) (f : Nat) (x0 : Nat) (x2 : Int) (x3 : Int) (v158 : Int) (R160 : ((Nat ⊕ Int) × xT_)) : c32_71t r8 f x0 x2 x3 v158 R160 = cth R160 (fun v166 => ((cq_is 4 20 (x0) R160.2).bind fun _ => ((c48 f (x0) (v166) (v158) R160.2).bind fun R168 => c32_71u r8 f x0 x2 x3 v158 R168))) := rfl
def c32_71v (r8 : Nat → Int → xT_ → Option ((Nat ⊕ Unit) × xT_)) (f : Nat) (x0 : Nat) (x2 : Int) (x3 : Int) (v158 : Int) (v174 : Int) (R176 : ((Nat ⊕ Unit) × xT_)) : Option ((Nat ⊕ Unit) × xT_) := cth R176 (fun _ => c32_110 r8 f f (x0) (x2) (x3) (v158) (v174) (0) R176.2)
theorem c32_71v_e (r8 : Nat → Int → xT_ → Option ((Nat ⊕ Unit) × xT_)) (f : Nat) (x0 : Nat) (x2 : Int) (x3 : Int) (v158 : Int) (R168 : ((Nat ⊕ Int) × xT_)) : c32_71u r8 f x0 x2 x3 v158 R168 = cth R168 (fun v174 => ((cq_is 4 20 (x0) R168.2).bind fun _ => ((c38 f (x0) (40) R168.2).bind fun R176 => c32_71v r8 f x0 x2 x3 v158 v174 R176))) := rfl
section
variable {f x c y : Nat} {S : Nat → Nat × Nat × Nat} {G G1 : xG_} {m : Nat × Nat} {sg st p v : Int} {r8 : Nat → Int → xT_ → Option ((Nat ⊕ Unit) × xT_)} {r110 : Nat → Int → Int → Int → Int → Int → xT_ → Option ((Nat ⊕ Unit) × xT_)} {R : (Nat ⊕ Unit) × xT_} {Ri : (Nat ⊕ Int) × xT_}
theorem st_110a (hs : cSs S) (hp : cPs G) (e : c51 f 72 (S, G, m) = some Ri) : c32_110b r8 r110 f 72 (x : Int) sg st p (c : Int) (S, G, m) = c32_110s r8 r110 f 72 (x : Int) sg st p (c : Int) 82 Ri := by
  rw [c32_110s_e]
  simp (disch := omega) only [cq_gi, cq_gr, cq_a, cq_s, cq_p, cq_pr, cq_is, cq_ar, cq_ab, cq_ln, xq_nz, Option.bind_some, xup2_n, xup2_s, Int.toNat_natCast, Int.reduceToNat, if_pos, if_neg, true_and, and_true, and_self, eq_self, if_true, reduceIte, not_true_eq_false, not_false_eq_true, or_true, true_or, s72 hs, p72_19 hp, e]
theorem st_110b (hs : cSs S) (hx : x < 1024) (hc : c < 4) (e4 : xwr ((xwr (4 * (x : Int))) + (c : Int)) = ((4 * x + c : Nat) : Int)) (ec : xwr ((c : Int) + 1) = ((c + 1 : Nat) : Int)) : (c = 3 → c32_110s r8 r110 f 72 (x : Int) sg st p (c : Int) 82 (.inr v, (S, G, m)) = c32_141 r8 f 72 (x : Int) sg st p ((c + 1 : Nat) : Int) (S, xup2 G 82 (4 * x + c) v, m)) ∧ (c ≠ 3 → ∀ {R : Int × xT_}, c39 f 72 (S, xup2 G 82 (4 * x + c) v, m) = some R → c32_110s r8 r110 f 72 (x : Int) sg st p (c : Int) 82 (.inr v, (S, G, m)) = if R.1 = 0 then c32_141 r8 f 72 (x : Int) sg st p ((c + 1 : Nat) : Int) R.2 else r110 72 (x : Int) sg st p ((c + 1 : Nat) : Int) R.2) := by
  refine ⟨fun q => ?_, fun q R e => ?_⟩
  · unfold c32_110s
    simp (disch := omega) only [cq_gi, cq_gr, cq_a, cq_s, cq_p, cq_pr, cq_is, cq_ar, cq_ab, cq_ln, xq_nz, Option.bind_some, xup2_n, xup2_s, Int.toNat_natCast, Int.reduceToNat, if_pos, if_neg, true_and, and_true, and_self, eq_self, if_true, reduceIte, not_true_eq_false, not_false_eq_true, or_true, true_or, cth, e4, ec, s82 hs]
  · unfold c32_110s
    simp (disch := omega) only [cq_gi, cq_gr, cq_a, cq_s, cq_p, cq_pr, cq_is, cq_ar, cq_ab, cq_ln, xq_nz, Option.bind_some, xup2_n, xup2_s, Int.toNat_natCast, Int.reduceToNat, if_pos, if_neg, true_and, and_true, and_self, eq_self, if_true, reduceIte, not_true_eq_false, not_false_eq_true, or_true, true_or, cth, e4, ec, s82 hs, s72 hs, e]
    by_cases z : R.1 = 0
    · simp (disch := omega) only [cq_gi, cq_gr, cq_a, cq_s, cq_p, cq_pr, cq_is, cq_ar, cq_ab, cq_ln, xq_nz, Option.bind_some, xup2_n, xup2_s, Int.toNat_natCast, Int.reduceToNat, if_pos, if_neg, true_and, and_true, and_self, eq_self, if_true, reduceIte, not_true_eq_false, not_false_eq_true, or_true, true_or, z]
    · simp (disch := omega) only [cq_gi, cq_gr, cq_a, cq_s, cq_p, cq_pr, cq_is, cq_ar, cq_ab, cq_ln, xq_nz, Option.bind_some, xup2_n, xup2_s, Int.toNat_natCast, Int.reduceToNat, if_pos, if_neg, true_and, and_true, and_self, eq_self, if_true, reduceIte, not_true_eq_false, not_false_eq_true, or_true, true_or, z]
theorem st_141a (hs : cSs S) (e : c38 f 72 41 (S, G, m) = some R) : c32_141 r8 f 72 (x : Int) sg st p (c : Int) (S, G, m) = c32_141s r8 f 72 (x : Int) sg st p (c : Int) R := by
  rw [c32_141s_e]
  simp (disch := omega) only [cq_gi, cq_gr, cq_a, cq_s, cq_p, cq_pr, cq_is, cq_ar, cq_ab, cq_ln, xq_nz, Option.bind_some, xup2_n, xup2_s, Int.toNat_natCast, Int.reduceToNat, if_pos, if_neg, true_and, and_true, and_self, eq_self, if_true, reduceIte, not_true_eq_false, not_false_eq_true, or_true, true_or, s72 hs, e]
theorem st_141b (hs : cSs S) (e : c38 f 72 46 (S, G, m) = some R) : c32_141s r8 f 72 (x : Int) sg st p (c : Int) (.inr (), (S, G, m)) = c32_141t r8 f 72 (x : Int) sg st p (c : Int) R := by
  rw [c32_141t_e]
  simp (disch := omega) only [cq_gi, cq_gr, cq_a, cq_s, cq_p, cq_pr, cq_is, cq_ar, cq_ab, cq_ln, xq_nz, Option.bind_some, xup2_n, xup2_s, Int.toNat_natCast, Int.reduceToNat, if_pos, if_neg, true_and, and_true, and_self, eq_self, if_true, reduceIte, not_true_eq_false, not_false_eq_true, or_true, true_or, s72 hs, cth, e]
theorem st_141c (hs : cSs S) {T : xT_} (e : c40 f 72 sg p st (c : Int) (S, G, m) = some T) : c32_141t r8 f 72 (x : Int) sg st p (c : Int) (.inr (), (S, G, m)) = r8 72 (xwr ((x : Int) + 1)) T := by
  unfold c32_141t
  simp (disch := omega) only [cq_gi, cq_gr, cq_a, cq_s, cq_p, cq_pr, cq_is, cq_ar, cq_ab, cq_ln, xq_nz, Option.bind_some, xup2_n, xup2_s, Int.toNat_natCast, Int.reduceToNat, if_pos, if_neg, true_and, and_true, and_self, eq_self, if_true, reduceIte, not_true_eq_false, not_false_eq_true, or_true, true_or, s72 hs, cth, e]
theorem st_71a (hs : cSs S) {T : xT_} (e : c37 f 72 (S, G, m) = some T) : c32_71 r8 f 72 (x : Int) sg (S, G, m) = c32_71s r8 f 72 (x : Int) sg T := by
  rw [c32_71s_e]
  simp (disch := omega) only [cq_gi, cq_gr, cq_a, cq_s, cq_p, cq_pr, cq_is, cq_ar, cq_ab, cq_ln, xq_nz, Option.bind_some, xup2_n, xup2_s, Int.toNat_natCast, Int.reduceToNat, if_pos, if_neg, true_and, and_true, and_self, eq_self, if_true, reduceIte, not_true_eq_false, not_false_eq_true, or_true, true_or, s72 hs, e]
theorem st_71b (hs : cSs S) (hp : cPs G) (hy : y ≤ 3000) (k2 : G 68 y = st) (k3 : G 72 1 = (y : Int)) (e : c47 f 72 (S, G, m) = some Ri) : c32_71s r8 f 72 (x : Int) sg (S, G, m) = c32_71t r8 f 72 (x : Int) sg st Ri := by
  rw [c32_71t_e]
  simp (disch := omega) only [cq_gi, cq_gr, cq_a, cq_s, cq_p, cq_pr, cq_is, cq_ar, cq_ab, cq_ln, xq_nz, Option.bind_some, xup2_n, xup2_s, Int.toNat_natCast, Int.reduceToNat, if_pos, if_neg, true_and, and_true, and_self, eq_self, if_true, reduceIte, not_true_eq_false, not_false_eq_true, or_true, true_or, s72 hs, s65 hs, s68 hs, p72_0 hp, p65_4 hp, k2, k3, e]
theorem st_71c (hs : cSs S) (e : c48 f 72 v st (S, G, m) = some Ri) : c32_71t r8 f 72 (x : Int) sg st (.inr v, (S, G, m)) = c32_71u r8 f 72 (x : Int) sg st Ri := by
  rw [c32_71u_e]
  simp (disch := omega) only [cq_gi, cq_gr, cq_a, cq_s, cq_p, cq_pr, cq_is, cq_ar, cq_ab, cq_ln, xq_nz, Option.bind_some, xup2_n, xup2_s, Int.toNat_natCast, Int.reduceToNat, if_pos, if_neg, true_and, and_true, and_self, eq_self, if_true, reduceIte, not_true_eq_false, not_false_eq_true, or_true, true_or, s72 hs, cth, e]
theorem st_71d (hs : cSs S) (e : c38 f 72 40 (S, G, m) = some R) : c32_71u r8 f 72 (x : Int) sg st (.inr p, (S, G, m)) = cth R (fun _ => c32_110 r8 f f 72 (x : Int) sg st p 0 R.2) := by
  unfold c32_71u
  simp (disch := omega) only [cq_gi, cq_gr, cq_a, cq_s, cq_p, cq_pr, cq_is, cq_ar, cq_ab, cq_ln, xq_nz, Option.bind_some, xup2_n, xup2_s, Int.toNat_natCast, Int.reduceToNat, if_pos, if_neg, true_and, and_true, and_self, eq_self, if_true, reduceIte, not_true_eq_false, not_false_eq_true, or_true, true_or, s72 hs, cth, e]
theorem st_8 {k b : Int} (hs : cSs S) (hp : cPs G) (hx : x < 1024) (hy : y ≤ 3000) (k1 : G 67 y = k) (k2 : G 68 y = b) (k3 : G 72 1 = (y : Int)) : c32_8b r8 f 72 (x : Int) (S, G, m) = if k = 0 then some (.inr (), (S, G, m)) else if k = 43 ∨ k = 45 then c32_71 r8 f 72 (x : Int) k (S, G, m) else some (.inl 0, cWr S G m b) := by
  unfold c32_8b c32_170
  by_cases z0 : k = 0
  · simp (disch := omega) only [cq_gi, cq_gr, cq_a, cq_s, cq_p, cq_pr, cq_is, cq_ar, cq_ab, cq_ln, xq_nz, Option.bind_some, xup2_n, xup2_s, Int.toNat_natCast, Int.reduceToNat, if_pos, if_neg, true_and, and_true, and_self, eq_self, if_true, reduceIte, not_true_eq_false, not_false_eq_true, or_true, true_or, s72 hs, s65 hs, s67 hs, p72_0 hp, p65_3 hp, k1, k3, z0]
  · by_cases z1 : k = 43
    · simp (disch := omega) only [cq_gi, cq_gr, cq_a, cq_s, cq_p, cq_pr, cq_is, cq_ar, cq_ab, cq_ln, xq_nz, Option.bind_some, xup2_n, xup2_s, Int.toNat_natCast, Int.reduceToNat, if_pos, if_neg, true_and, and_true, and_self, eq_self, if_true, reduceIte, not_true_eq_false, not_false_eq_true, or_true, true_or, s72 hs, s65 hs, s67 hs, p72_0 hp, p65_3 hp, k1, k3, z0, z1]
    · by_cases z2 : k = 45
      · simp (disch := omega) only [cq_gi, cq_gr, cq_a, cq_s, cq_p, cq_pr, cq_is, cq_ar, cq_ab, cq_ln, xq_nz, Option.bind_some, xup2_n, xup2_s, Int.toNat_natCast, Int.reduceToNat, if_pos, if_neg, true_and, and_true, and_self, eq_self, if_true, reduceIte, not_true_eq_false, not_false_eq_true, or_true, true_or, s72 hs, s65 hs, s67 hs, p72_0 hp, p65_3 hp, k1, k3, z0, z1, z2]
      · simp (disch := omega) only [cq_gi, cq_gr, cq_a, cq_s, cq_p, cq_pr, cq_is, cq_ar, cq_ab, cq_ln, xq_nz, Option.bind_some, xup2_n, xup2_s, Int.toNat_natCast, Int.reduceToNat, if_pos, if_neg, true_and, and_true, and_self, eq_self, if_true, reduceIte, not_true_eq_false, not_false_eq_true, or_true, true_or, s72 hs, s65 hs, s67 hs, s68 hs, p72_0 hp, p65_3 hp, p65_4 hp, k1, k2, k3, z0, z1, z2, k_36 hs, cth, or_self]
end
end
section
/-! THE CLASS: one CHANGE -/
def cCs (G : xG_) (L : List Int) (cs : List pCh) : Prop := G 72 14 = (cs.length : Int) ∧ ∀ k, k < cs.length → G 79 k = (cs.getD k dCh).1 ∧ G 78 k = pIdx L (cs.getD k dCh).2.1 ∧ G 80 k = ((cs.getD k dCh).2.2.1 : Int) ∧ G 81 k = ((cs.getD k dCh).2.2.2.length : Int) ∧ (cs.getD k dCh).2.2.2.length ≤ 4 ∧ ∀ j, j < (cs.getD k dCh).2.2.2.length → G 82 (4 * k + j) = (cs.getD k dCh).2.2.2.getD j 0
def xFw (G G' : xG_) : Prop := ∀ a j, ¬ (a = 72 ∧ (j = 1 ∨ j = 2 ∨ j = 14)) → ¬ (78 ≤ a ∧ a ≤ 82) → G' a j = G a j
def cCe (S : Nat → Nat × Nat × Nat) (G : xG_) (B : Nat → Int) (n : Nat) (t : tStr) (N q : Nat) (L : List Int) (i : Nat) : Prop := cEv S G B n t N N ∧ cAt G N N i ∧ i ≤ N ∧ cPr0 S G q false L
section
variable {f n N i j q x : Nat} {S : Nat → Nat × Nat × Nat} {G G1 G2 G' : xG_} {m : Nat × Nat} {B : Nat → Int} {t : tStr} {L : List Int} {cs : List pCh} {sg p : Int} {sp : Nat} {vs : List Int} {r8 : Nat → Int → xT_ → Option ((Nat ⊕ Unit) × xT_)}
theorem xFw.id : xFw G G := fun _ _ _ _ => rfl
theorem xFw.tr (h1 : xFw G G1) (h2 : xFw G1 G2) : xFw G G2 := fun a j z1 z2 => by rw [h2 a j z1 z2, h1 a j z1 z2]
theorem xFw.a1 {v : Int} : xFw G (xup2 G 72 1 v) := fun a j z1 z2 => xup2_n (by omega)
theorem cCe.fr (h : cCe S G B n t N q L i) (hf : xFw G G') (hA : cAt G' N N j) (hj : j ≤ N) : cCe S G' B n t N q L j := by
  obtain ⟨a1, a2, a3, a4⟩ := h
  have hq := a4.2.1
  exact ⟨a1.ge (fun _ _ => rfl) (fun a j z1 z2 z3 => hf a j (by omega) (by omega)), hA, hj, a4.ge (hf _ _ (by omega) (by omega)) (hf _ _ (by omega) (by omega)) (fun j _ _ _ => hf _ _ (by omega) (by omega)) (fun j => hf _ _ (by omega) (by omega))⟩
theorem cCs.fr (h : cCs G L cs) (h0 : G' 72 14 = G 72 14) (h1 : ∀ a k, 78 ≤ a → a ≤ 81 → G' a k = G a k) (h2 : ∀ k, k < 4 * cs.length → G' 82 k = G 82 k) : cCs G' L cs := by
  refine ⟨by rw [h0]; exact h.1, fun k hk => ?_⟩
  obtain ⟨a1, a2, a3, a4, a5, a6⟩ := h.2 k hk
  rw [h1 _ _ (by omega) (by omega), h1 _ _ (by omega) (by omega), h1 _ _ (by omega) (by omega), h1 _ _ (by omega) (by omega)]
  exact ⟨a1, a2, a3, a4, a5, fun j hj => by rw [h2 _ (by omega)]; exact a6 j hj⟩
/-- ) and . behind the VALUES -/
theorem k_141 (hx : x < 1024) (h : cCe S G B n t N q L i) (hC : cCs G L cs) (hl : cs.length = x) (hv : ∀ k, k < vs.length → G 82 (4 * x + k) = vs.getD k 0) (hv4 : vs.length ≤ 4) (c : pCh) (hc : c = (sg, c.2.1, sp, vs)) (hp : p = pIdx L c.2.1) :
    pok (pbind (pNeed t 41 i) fun j => pNeed t 46 j) (fun w => ∃ G', c32_141 r8 f 72 (x : Int) sg (sp : Int) p (vs.length : Int) (S, G, m) = some (.inl 0, cWr S G' m (w : Int)) ∧ xFw G G')
      (fun j => ∃ G', c32_141 r8 f 72 (x : Int) sg (sp : Int) p (vs.length : Int) (S, G, m) = r8 72 ((x + 1 : Nat) : Int) (S, G', m) ∧ xFw G G' ∧ j = i + 2 ∧ cCe S G' B n t N q L j ∧ cCs G' L (cs ++ [c])) := by
  have hs := h.1.1
  have p1 := k_38 (f := f) (m := m) (c := 41) (by decide) h.1 h.2.1
  cases hn : pNeed t 41 i with
  | inl w =>
    rw [hn] at p1
    exact ⟨G, by rw [st_141a hs p1]; rfl, .id⟩
  | inr j =>
    rw [hn] at p1
    obtain ⟨a1, a2, a3, a4⟩ := p1
    have hlt := (h.1.lt h.2.1 (by omega)).1
    have h1 : cCe S (xup2 G 72 1 ((min j N : Nat) : Int)) B n t N q L j := h.fr .a1 a4 (by omega)
    have p2 := k_38 (f := f) (m := m) (c := 46) (by decide) h1.1 h1.2.1
    show pok (pNeed t 46 j) _ _
    cases hn2 : pNeed t 46 j with
    | inl w =>
      rw [hn2] at p2
      exact ⟨_, by rw [st_141a hs a1, st_141b hs p2]; rfl, .a1⟩
    | inr j2 =>
      rw [hn2] at p2
      obtain ⟨b1, b2, b3, b4⟩ := p2
      have hlt2 := (h1.1.lt h1.2.1 (by omega)).1
      obtain ⟨G2, hG2⟩ : ∃ G2, G2 = xup2 (xup2 G 72 1 ((min j N : Nat) : Int)) 72 1 ((min j2 N : Nat) : Int) := ⟨_, rfl⟩
      rw [← hG2] at b1 b4
      have z2 : ∀ a k, ¬ (a = 72 ∧ k = 1) → G2 a k = G a k := fun a k z => by rw [hG2, xup2_n z, xup2_n z]
      have h2 : cCe S G2 B n t N q L j2 := h.fr (fun a k w1 w2 => z2 a k (by omega)) b4 (by omega)
      have e40 := k_40 (f := f) (m := m) (k := sg) (p := p) (s := (sp : Int)) (d := (vs.length : Int)) hs h2.1.2.1 (by rw [z2 _ _ (by omega)]; rw [← hl]; exact hC.1) hx
      have ek : xwr ((x : Int) + 1) = ((x + 1 : Nat) : Int) := by rw [xwr_g _ (by omega) (by omega)]; omega
      have fr3 : xFw G2 (mSt G2 x sg p (sp : Int) (vs.length : Int)) := fun a k w1 w2 => mSt_n a k (by omega) (by omega)
      refine ⟨mSt G2 x sg p (sp : Int) (vs.length : Int), by rw [st_141a hs a1, st_141b hs b1, st_141c hs e40, ek]; rfl, fun a k w1 w2 => by rw [fr3 a k w1 w2, z2 a k (by omega)], by omega, h2.fr fr3 ?_ h2.2.2.1, ?_⟩
      · exact ⟨by rw [mSt_n _ _ (by omega) (by omega)]; exact b4.1, b4.2⟩
      · refine ⟨by unfold mSt; rw [xup2_s, len1, hl], fun k hk => ?_⟩
        rw [len1] at hk
        rw [getD_1]
        by_cases ck : k = cs.length
        · rw [if_pos ck, hc]
          subst ck
          rw [hl]
          unfold mSt
          refine ⟨?_, ?_, ?_, ?_, hv4, fun j hj => ?_⟩
          · rw [xup2_n (by omega), xup2_n (by omega), xup2_n (by omega), xup2_n (by omega), xup2_s]
          · rw [xup2_n (by omega), xup2_n (by omega), xup2_n (by omega), xup2_s]; exact hp
          · rw [xup2_n (by omega), xup2_n (by omega), xup2_s]
          · rw [xup2_n (by omega), xup2_s]
          · rw [xup2_n (by omega), xup2_n (by omega), xup2_n (by omega), xup2_n (by omega), xup2_n (by omega), z2 _ _ (by omega)]
            exact hv j hj
        · rw [if_neg ck]
          obtain ⟨y1, y2, y3, y4, y5, y6⟩ := hC.2 k (by omega)
          have kx : k ≠ x := by omega
          unfold mSt
          refine ⟨?_, ?_, ?_, ?_, y5, fun j hj => ?_⟩
          · rw [xup2_n (by omega), xup2_n (by omega), xup2_n (by omega), xup2_n (by omega), xup2_n (by omega), z2 _ _ (by omega)]; exact y1
          · rw [xup2_n (by omega), xup2_n (by omega), xup2_n (by omega), xup2_n (by omega), xup2_n (by omega), z2 _ _ (by omega)]; exact y2
          · rw [xup2_n (by omega), xup2_n (by omega), xup2_n (by omega), xup2_n (by omega), xup2_n (by omega), z2 _ _ (by omega)]; exact y3
          · rw [xup2_n (by omega), xup2_n (by omega), xup2_n (by omega), xup2_n (by omega), xup2_n (by omega), z2 _ _ (by omega)]; exact y4
          · rw [xup2_n (by omega), xup2_n (by omega), xup2_n (by omega), xup2_n (by omega), xup2_n (by omega), z2 _ _ (by omega)]
            exact y6 j hj
end
end
section
/-! THE CLASS: readChanges() -/
section
variable {f n N i j q x : Nat} {S : Nat → Nat × Nat × Nat} {G G1 G2 G' : xG_} {m : Nat × Nat} {B : Nat → Int} {t : tStr} {L : List Int} {cs : List pCh} {sg p nm : Int} {sp : Nat} {r8 : Nat → Int → xT_ → Option ((Nat ⊕ Unit) × xT_)}
theorem pbind_pk {α β : Type} {X : Nat ⊕ α} {k : α → β} {P : Nat → Prop} {Q : β → Prop} (h : pok X P (fun a => Q (k a))) : pok (pbind X fun a => .inr (k a)) P Q := by
  cases X with
  | inl w => exact h
  | inr a => exact h
theorem pVal_N {w : Nat} (hE : cEv S G B n t N w) {v : Int × Nat} (h : pVal t i = .inr v) : v.2 ≤ N := by
  have z : ∀ k, kK t k ≠ 0 → k < N := fun k hk => Nat.lt_of_not_le (fun q => hk (hE.2.2.2.2.1 k q).1)
  unfold pVal at h
  split at h
  · rename_i c
    cases h
    exact z i (by omega)
  split at h
  · split at h
    · rename_i c
      cases h
      exact z (i + 1) (by omega)
    · cases h
  split at h
  · rename_i c
    cases h
    exact z i (by omega)
  · cases h
/-- the VALUES of a CHANGE -/
theorem k_110 (hok : tOk t) (hx : x < 1024) (hl : cs.length = x) (hp : p = pIdx L nm) : ∀ (d c fu i : Nat) (vs : List Int) (G : xG_), vs.length = c → c + d = 3 → d < fu → cCe S G B n t N q L i → cCs G L cs → (∀ k, k < vs.length → G 82 (4 * x + k) = vs.getD k 0) →
    pok (pCv t d vs i) (fun w => ∃ G', c32_110 r8 f fu 72 (x : Int) sg (sp : Int) p (c : Int) (S, G, m) = some (.inl 0, cWr S G' m (w : Int)) ∧ xFw G G')
      (fun r => ∃ G', c32_110 r8 f fu 72 (x : Int) sg (sp : Int) p (c : Int) (S, G, m) = r8 72 ((x + 1 : Nat) : Int) (S, G', m) ∧ xFw G G' ∧ i + 3 ≤ r.2 ∧ cCe S G' B n t N q L r.2 ∧ cCs G' L (cs ++ [(sg, nm, sp, r.1)])) := by
  intro d
  induction d with
  | zero =>
    intro c fu i vs G h1 h2 h3 h hC hv
    obtain ⟨fu, rfl⟩ : ∃ t, fu = t + 1 := ⟨fu - 1, by omega⟩
    have hs := h.1.1
    have e4 : xwr ((xwr (4 * (x : Int))) + (c : Int)) = ((4 * x + c : Nat) : Int) := by rw [xwr_g (4 * (x : Int)) (by omega) (by omega), xwr_g _ (by omega) (by omega)]; omega
    have ec : xwr ((c : Int) + 1) = ((c + 1 : Nat) : Int) := by rw [xwr_g _ (by omega) (by omega)]; omega
    have p1 := k_51 (f := f) (m := m) hok h.1 h.2.1
    have e0 : ∀ {Ri : (Nat ⊕ Int) × xT_}, c51 f 72 (S, G, m) = some Ri → c32_110 r8 f (fu + 1) 72 (x : Int) sg (sp : Int) p (c : Int) (S, G, m) = _ := fun e => st_110a (r8 := r8) (r110 := c32_110 r8 f fu) (x := x) (c := c) (sg := sg) (st := (sp : Int)) (p := p) hs h.1.2.1 e
    cases hv1 : pVal t i with
    | inl w =>
      rw [hv1] at p1
      obtain ⟨v, a1⟩ := p1
      have : pCv t 0 vs i = .inl w := by unfold pCv; rw [hv1]; rfl
      rw [this]
      exact ⟨_, by rw [e0 a1]; rfl, .a1⟩
    | inr v =>
      rw [hv1] at p1
      obtain ⟨a1, a2⟩ := p1
      have lv := (pVal_le hv1)
      have hN2 : v.2 ≤ N := pVal_N h.1 hv1
      rw [pCv_0 hv1 (.inl rfl)]
      have hs3 : c = 3 := by omega
      have z : ∀ a k, ¬ (a = 72 ∧ k = 1) → ¬ (a = 82 ∧ k = 4 * x + c) → xup2 (xup2 G 72 1 ((min v.2 N : Nat) : Int)) 82 (4 * x + c) v.1 a k = G a k := fun a k w1 w2 => by rw [xup2_n w2, xup2_n w1]
      have fr : xFw G (xup2 (xup2 G 72 1 ((min v.2 N : Nat) : Int)) 82 (4 * x + c) v.1) := fun a k w1 w2 => z a k (by omega) (by omega)
      have hA : cAt (xup2 (xup2 G 72 1 ((min v.2 N : Nat) : Int)) 82 (4 * x + c) v.1) N N v.2 := ⟨by rw [xup2_n (by omega)]; exact a2.1, a2.2⟩
      have h' := h.fr fr hA hN2
      have hC' := hC.fr (z _ _ (by omega) (by omega)) (fun a k _ _ => z _ _ (by omega) (by omega)) (fun k hk => z _ _ (by omega) (by omega))
      have hv' : ∀ k, k < (vs ++ [v.1]).length → xup2 (xup2 G 72 1 ((min v.2 N : Nat) : Int)) 82 (4 * x + c) v.1 82 (4 * x + k) = (vs ++ [v.1]).getD k 0 := fun k hk => by
        rw [len1] at hk
        rw [getD_1]
        by_cases ck : k = vs.length
        · rw [if_pos ck, ck, h1, xup2_s]
        · rw [if_neg ck, z _ _ (by omega) (by omega)]; exact hv k (by omega)
      have q := k_141 (f := f) (m := m) (r8 := r8) (sg := sg) (p := p) (sp := sp) hx h' hC' hl hv' (by rw [len1]; omega) (sg, nm, sp, vs ++ [v.1]) rfl hp
      have e1 := (e0 a1).trans ((st_110b (p := p) hs hx (by omega) e4 ec).1 hs3)
      rw [len1, h1] at q
      rw [e1]
      refine pbind_pk (k := fun j => (vs ++ [v.1], j)) ?_
      cases hn : (pbind (pNeed t 41 v.2) fun j => pNeed t 46 j) with
      | inl w =>
        rw [hn] at q
        obtain ⟨G3, q1, q2⟩ := q
        exact ⟨G3, q1, fr.tr q2⟩
      | inr j =>
        rw [hn] at q
        obtain ⟨G3, q1, q2, q3, q4, q5⟩ := q
        exact ⟨G3, q1, fr.tr q2, by show i + 3 ≤ j; omega, q4, q5⟩
  | succ d ih =>
    intro c fu i vs G h1 h2 h3 h hC hv
    obtain ⟨fu, rfl⟩ : ∃ t, fu = t + 1 := ⟨fu - 1, by omega⟩
    have hs := h.1.1
    have e4 : xwr ((xwr (4 * (x : Int))) + (c : Int)) = ((4 * x + c : Nat) : Int) := by rw [xwr_g (4 * (x : Int)) (by omega) (by omega), xwr_g _ (by omega) (by omega)]; omega
    have ec : xwr ((c : Int) + 1) = ((c + 1 : Nat) : Int) := by rw [xwr_g _ (by omega) (by omega)]; omega
    have p1 := k_51 (f := f) (m := m) hok h.1 h.2.1
    have e0 : ∀ {Ri : (Nat ⊕ Int) × xT_}, c51 f 72 (S, G, m) = some Ri → c32_110 r8 f (fu + 1) 72 (x : Int) sg (sp : Int) p (c : Int) (S, G, m) = _ := fun e => st_110a (r8 := r8) (r110 := c32_110 r8 f fu) (x := x) (c := c) (sg := sg) (st := (sp : Int)) (p := p) hs h.1.2.1 e
    cases hv1 : pVal t i with
    | inl w =>
      rw [hv1] at p1
      obtain ⟨v, a1⟩ := p1
      have : pCv t (d + 1) vs i = .inl w := by unfold pCv; rw [hv1]; rfl
      rw [this]
      exact ⟨_, by rw [e0 a1]; rfl, .a1⟩
    | inr v =>
      rw [hv1] at p1
      obtain ⟨a1, a2⟩ := p1
      have lv := (pVal_le hv1)
      have hN2 : v.2 ≤ N := pVal_N h.1 hv1
      have z : ∀ a k, ¬ (a = 72 ∧ k = 1) → ¬ (a = 82 ∧ k = 4 * x + c) → xup2 (xup2 G 72 1 ((min v.2 N : Nat) : Int)) 82 (4 * x + c) v.1 a k = G a k := fun a k w1 w2 => by rw [xup2_n w2, xup2_n w1]
      have fr : xFw G (xup2 (xup2 G 72 1 ((min v.2 N : Nat) : Int)) 82 (4 * x + c) v.1) := fun a k w1 w2 => z a k (by omega) (by omega)
      have hA : cAt (xup2 (xup2 G 72 1 ((min v.2 N : Nat) : Int)) 82 (4 * x + c) v.1) N N v.2 := ⟨by rw [xup2_n (by omega)]; exact a2.1, a2.2⟩
      have h' := h.fr fr hA hN2
      have hC' := hC.fr (z _ _ (by omega) (by omega)) (fun a k _ _ => z _ _ (by omega) (by omega)) (fun k hk => z _ _ (by omega) (by omega))
      have hv' : ∀ k, k < (vs ++ [v.1]).length → xup2 (xup2 G 72 1 ((min v.2 N : Nat) : Int)) 82 (4 * x + c) v.1 82 (4 * x + k) = (vs ++ [v.1]).getD k 0 := fun k hk => by
        rw [len1] at hk
        rw [getD_1]
        by_cases ck : k = vs.length
        · rw [if_pos ck, ck, h1, xup2_s]
        · rw [if_neg ck, z _ _ (by omega) (by omega)]; exact hv k (by omega)
      have p39 := k_39 (f := f) (m := m) h'.1 h'.2.1
      by_cases c44 : kK t v.2 = 44
      · rw [pCv_1 hv1 c44]
        obtain ⟨b1, b2⟩ := p39.1 c44
        have hlt := (h'.1.lt h'.2.1 (by omega)).1
        have e1 := (e0 a1).trans ((st_110b (p := p) hs hx (by omega) e4 ec).2 (by omega) b1)
        rw [if_neg (by show ¬ (1 : Int) = 0; decide)] at e1
        have h'' := h'.fr .a1 b2 (by omega)
        have hC'' := hC'.fr (G' := xup2 (xup2 (xup2 G 72 1 ((min v.2 N : Nat) : Int)) 82 (4 * x + c) v.1) 72 1 ((min (v.2 + 1) N : Nat) : Int)) (xup2_n (by omega)) (fun a k _ _ => xup2_n (by omega)) (fun k hk => xup2_n (by omega))
        have q := ih (c + 1) fu (v.2 + 1) (vs ++ [v.1]) _ (by rw [len1, h1]) (by omega) (by omega) h'' hC'' (fun k hk => by rw [xup2_n (by omega)]; exact hv' k hk)
        rw [e1]
        show pok (pCv t d (vs ++ [v.1]) (v.2 + 1)) _ _
        cases hn : pCv t d (vs ++ [v.1]) (v.2 + 1) with
        | inl w =>
          rw [hn] at q
          obtain ⟨G3, q1, q2⟩ := q
          exact ⟨G3, q1, (fr.tr .a1).tr q2⟩
        | inr r =>
          rw [hn] at q
          obtain ⟨G3, q1, q2, q3, q4, q5⟩ := q
          exact ⟨G3, q1, (fr.tr .a1).tr q2, by omega, q4, q5⟩
      · rw [pCv_0 hv1 (.inr c44)]
        have e1 := (e0 a1).trans ((st_110b (p := p) hs hx (by omega) e4 ec).2 (by omega) (p39.2 c44))
        rw [if_pos rfl] at e1
        have q := k_141 (f := f) (m := m) (r8 := r8) (sg := sg) (p := p) (sp := sp) hx h' hC' hl hv' (by rw [len1]; omega) (sg, nm, sp, vs ++ [v.1]) rfl hp
        rw [len1, h1] at q
        rw [e1]
        refine pbind_pk (k := fun j => (vs ++ [v.1], j)) ?_
        cases hn : (pbind (pNeed t 41 v.2) fun j => pNeed t 46 j) with
        | inl w =>
          rw [hn] at q
          obtain ⟨G3, q1, q2⟩ := q
          exact ⟨G3, q1, fr.tr q2⟩
        | inr j =>
          rw [hn] at q
          obtain ⟨G3, q1, q2, q3, q4, q5⟩ := q
          exact ⟨G3, q1, fr.tr q2, by show i + 3 ≤ j; omega, q4, q5⟩
end
end
section
/-! THE CLASS: readChanges() whole -/
section
variable {f n N i j q x : Nat} {S : Nat → Nat × Nat × Nat} {G G1 G2 G' : xG_} {m : Nat × Nat} {B : Nat → Int} {t : tStr} {L : List Int} {cs : List pCh} {sg : Int} {r8 : Nat → Int → xT_ → Option ((Nat ⊕ Unit) × xT_)}
theorem k_71 (hf : 20 < f) (hok : tOk t) (hx : x < 1024) (hl : cs.length = x) (hk : kK t i ≠ 0 ∧ kK t i ≠ 5) (h : cCe S G B n t N q L i) (hC : cCs G L cs) :
    pok (pC1 t (i + 1)) (fun w => ∃ G', c32_71 r8 f 72 (x : Int) sg (S, G, m) = some (.inl 0, cWr S G' m (w : Int)) ∧ xFw G G')
      (fun r => ∃ G', c32_71 r8 f 72 (x : Int) sg (S, G, m) = r8 72 ((x + 1 : Nat) : Int) (S, G', m) ∧ xFw G G' ∧ i + 6 ≤ r.2.2 ∧ cCe S G' B n t N q L r.2.2 ∧ cCs G' L (cs ++ [(sg, r.1, kS t (i + 1), r.2.1)])) := by
  have hs := h.1.1
  have hlt := (h.1.lt h.2.1 hk.1).1
  obtain ⟨d1, d2⟩ := k_37 (f := f) (m := m) h.1 h.2.1 hk.2
  have h1 := h.fr .a1 d2 (by omega)
  have hC1 := hC.fr (G' := xup2 G 72 1 ((min (i + 1) N : Nat) : Int)) (xup2_n (by omega)) (fun a k _ _ => xup2_n (by omega)) (fun k _ => xup2_n (by omega))
  obtain ⟨k1, k2, k3, k4⟩ := h1.1.tk h1.2.1
  have p47 := k_47 (f := f) (m := m) h1.1 h1.2.1
  have e1 : ∀ {Ri : (Nat ⊕ Int) × xT_}, c47 f 72 (S, xup2 G 72 1 ((min (i + 1) N : Nat) : Int), m) = some Ri → c32_71 r8 f 72 (x : Int) sg (S, G, m) = c32_71t r8 f 72 (x : Int) sg (kS t (i + 1) : Int) Ri := fun e => (st_71a hs d1).trans (st_71b hs h1.1.2.1 k4 k2 k3 e)
  unfold pC1
  cases hn : pName t (i + 1) with
  | inl w =>
    rw [hn] at p47
    exact ⟨_, by rw [e1 p47]; rfl, .a1⟩
  | inr y =>
    rw [hn] at p47
    obtain ⟨b1, b2, b3, b4⟩ := p47
    have hlt1 := (h1.1.lt h1.2.1 (by omega)).1
    have h2 := h1.fr .a1 b4 (by omega)
    have hC2 := hC1.fr (G' := xup2 (xup2 G 72 1 ((min (i + 1) N : Nat) : Int)) 72 1 ((min y.2 N : Nat) : Int)) (xup2_n (by omega)) (fun a k _ _ => xup2_n (by omega)) (fun k _ => xup2_n (by omega))
    have hr2 := h2.2.2.2
    have e48 := (k_48 (f := f) (m := m) (x := y.1) (y := (kS t (i + 1) : Int)) hf hs hr2.1 hr2.2.1 hr2.2.2.2.1 hr2.2.2.2.2.1 hr2.2.2.2.2.2.1 hr2.2.2.2.2.2.2).2.2 (fun z => by cases z.2)
    have e2 := (e1 b1).trans (st_71c hs e48)
    have p38 := k_38 (f := f) (m := m) (c := 40) (by decide) h2.1 h2.2.1
    show pok (pbind (pNeed t 40 y.2) _) _ _
    cases hn2 : pNeed t 40 y.2 with
    | inl w =>
      rw [hn2] at p38
      exact ⟨_, by rw [e2, st_71d hs p38]; rfl, xFw.a1.tr .a1⟩
    | inr j =>
      rw [hn2] at p38
      obtain ⟨g1, g2, g3, g4⟩ := p38
      have hlt2 := (h2.1.lt h2.2.1 (by omega)).1
      have h3 := h2.fr .a1 g4 (by omega)
      have hC3 := hC2.fr (G' := xup2 (xup2 (xup2 G 72 1 ((min (i + 1) N : Nat) : Int)) 72 1 ((min y.2 N : Nat) : Int)) 72 1 ((min j N : Nat) : Int)) (xup2_n (by omega)) (fun a k _ _ => xup2_n (by omega)) (fun k _ => xup2_n (by omega))
      have e3 := e2.trans (st_71d hs g1)
      have p := k_110 (f := f) (m := m) (r8 := r8) (sg := sg) (nm := y.1) (sp := kS t (i + 1)) hok hx hl rfl 3 0 f j [] _ rfl rfl (by omega) h3 hC3 (fun k hk => absurd hk (Nat.not_lt_zero k))
      have e4 : c32_71 r8 f 72 (x : Int) sg (S, G, m) = c32_110 r8 f f 72 (x : Int) sg (kS t (i + 1) : Int) (pIdx L y.1) ((0 : Nat) : Int) (S, xup2 (xup2 (xup2 G 72 1 ((min (i + 1) N : Nat) : Int)) 72 1 ((min y.2 N : Nat) : Int)) 72 1 ((min j N : Nat) : Int), m) := e3
      rw [e4]
      show pok (pbind (pCv t 3 [] j) _) _ _
      cases hn3 : pCv t 3 [] j with
      | inl w =>
        rw [hn3] at p
        obtain ⟨G3, q1, q2⟩ := p
        exact ⟨G3, q1, ((xFw.a1.tr .a1).tr .a1).tr q2⟩
      | inr r =>
        rw [hn3] at p
        obtain ⟨G3, q1, q2, q3, q4, q5⟩ := p
        exact ⟨G3, q1, ((xFw.a1.tr .a1).tr .a1).tr q2, by show i + 6 ≤ r.2; omega, q4, q5⟩
theorem k_32l (hf : 3010 < f) (hok : tOk t) : ∀ (k x fu i : Nat) (cs : List pCh) (G : xG_), cs.length = x → 6 * x ≤ i → N < k + i → N < fu + i → cCe S G B n t N q L i → cCs G L cs →
    pok (pCs t k cs i) (fun w => ∃ G', c32_8 f fu 72 (x : Int) (S, G, m) = some (.inl 0, cWr S G' m (w : Int)) ∧ xFw G G')
      (fun r => ∃ G', c32_8 f fu 72 (x : Int) (S, G, m) = some (.inr (), (S, G', m)) ∧ xFw G G' ∧ cCs G' L r ∧ r.length ≤ 500) := by
  intro k
  induction k with
  | zero =>
    intro x fu i cs G h1 h2 h3 h4 h hC
    have := h.2.2.1
    omega
  | succ k ih =>
    intro x fu i cs G h1 h2 h3 h4 h hC
    have hiN := h.2.2.1
    have hN := h.1.2.2.2.1.2
    obtain ⟨fu, rfl⟩ : ∃ t, fu = t + 1 := ⟨fu - 1, by omega⟩
    have hs := h.1.1
    obtain ⟨k1, k2, k3, k4⟩ := h.1.tk h.2.1
    have e0 : c32_8 f (fu + 1) 72 (x : Int) (S, G, m) = _ := st_8 (r8 := c32_8 f fu) (f := f) (m := m) (x := x) hs h.1.2.1 (by omega) k4 k1 k2 k3
    unfold pCs
    by_cases c0 : kK t i = 0
    · rw [if_pos c0] at e0 ⊢
      exact ⟨G, e0, .id, hC, by omega⟩
    · rw [if_neg c0] at e0 ⊢
      by_cases c1 : kK t i = 43 ∨ kK t i = 45
      · rw [if_pos c1] at e0
        rw [if_neg (by omega)]
        have p := k_71 (f := f) (m := m) (r8 := c32_8 f fu) (sg := kK t i) (by omega) hok (by omega) h1 ⟨c0, by omega⟩ h hC
        rw [e0]
        cases hn : pC1 t (i + 1) with
        | inl w =>
          rw [hn] at p
          exact p
        | inr r =>
          rw [hn] at p
          obtain ⟨G3, q1, q2, q3, q4, q5⟩ := p
          rw [q1]
          have q := ih (x + 1) fu r.2.2 (cs ++ [(kK t i, r.1, kS t (i + 1), r.2.1)]) G3 (by rw [len1, h1]) (by omega) (by omega) (by omega) q4 q5
          show pok (pCs t k (cs ++ [(kK t i, r.1, kS t (i + 1), r.2.1)]) r.2.2) _ _
          cases hn2 : pCs t k (cs ++ [(kK t i, r.1, kS t (i + 1), r.2.1)]) r.2.2 with
          | inl w =>
            rw [hn2] at q
            obtain ⟨G4, w1, w2⟩ := q
            exact ⟨G4, w1, q2.tr w2⟩
          | inr z =>
            rw [hn2] at q
            obtain ⟨G4, w1, w2, w3, w4⟩ := q
            exact ⟨G4, w1, q2.tr w2, w3, w4⟩
      · rw [if_neg c1] at e0
        rw [if_pos (by omega)]
        exact ⟨G, e0, .id⟩
theorem k_32 {K : Nat} (hf : 3010 < f) (hok : tOk t) (hK : N < K) (hE : cEv S G B n t N N) (hq : 82 < q) (h1 : cPgS S q) (h2 : cPgP G q) (h3 : cNs G q L) :
    pok (pCs t K [] 0) (fun w => ∃ G', c32 f 72 q (S, G, m) = some (.inl 0, cWr S G' m (w : Int)) ∧ xFw (bUp G q 0) G')
      (fun r => ∃ G', c32 f 72 q (S, G, m) = some (.inr (), (S, G', m)) ∧ xFw (bUp G q 0) G' ∧ cCs G' L r ∧ r.length ≤ 500) := by
  have hs := hE.1
  have hN := hE.2.2.2.1.2
  obtain ⟨b1, b2, b3, b4, b5⟩ := bUp_s (G := G) (q := q) (b := 0)
  have z : ∀ a j, a ≠ 72 → bUp G q 0 a j = G a j := fun a j h => bUp_n a j (fun y => h y.1)
  have e : c32 f 72 q (S, G, m) = c32_8 f f 72 ((0 : Nat) : Int) (S, bUp G q 0, m) := by
    unfold c32
    simp (disch := omega) only [cq_gi, cq_gr, cq_a, cq_s, cq_p, cq_pr, cq_is, cq_ar, cq_ab, cq_ln, xq_nz, Option.bind_some, xup2_n, xup2_s, Int.toNat_natCast, Int.reduceToNat, if_pos, if_neg, true_and, and_true, and_self, eq_self, if_true, reduceIte, not_true_eq_false, not_false_eq_true, or_true, true_or, s72 hs, k_34 hs (.inl rfl)]
    rfl
  rw [e]
  refine k_32l hf hok K 0 f 0 [] (bUp G q 0) rfl (Nat.zero_le _) (by omega) (by omega) ⟨bUp_e hE, ⟨by rw [b3, Nat.zero_min]; rfl, .inr rfl⟩, Nat.zero_le _, b1, hq, (fun y => by cases y), b2, h1, h2.ge (fun j _ _ _ => z q j (by omega)), h3.ge (z _ _ (by omega)) (fun j => z _ _ (by omega))⟩ ⟨b5, fun k hk => absurd hk (Nat.not_lt_zero k)⟩
end
end
section
/-! THE CLASS: changesFault() -/
section
variable {f q x n pn : Nat} {S : Nat → Nat × Nat × Nat} {G : xG_} {m : Nat × Nat} {pl w wd : Int} {r2 : Nat → Int → xT_ → Option (Int × xT_)} {b : Bool}
theorem st_64e (hs : cSs S) (h14 : G 72 14 = (n : Int)) : c64_2b r2 f 72 (n : Int) (S, G, m) = some (0, (S, G, m)) := by
  unfold c64_2b
  simp (disch := omega) only [cq_gi, cq_gr, cq_a, cq_s, cq_p, cq_pr, cq_is, cq_ar, cq_ab, cq_ln, xq_nz, Option.bind_some, xup2_n, xup2_s, Int.toNat_natCast, Int.reduceToNat, if_pos, if_neg, true_and, and_true, and_self, eq_self, if_true, reduceIte, not_true_eq_false, not_false_eq_true, or_true, true_or, s72 hs, h14]
theorem st_64n (hs : cSs S) (hp : cPs G) (hx : x < n) (hn : n ≤ 1024) (h14 : G 72 14 = (n : Int)) (g78 : G 78 x = -1) (g80 : G 80 x = pl) : c64_2b r2 f 72 (x : Int) (S, G, m) = some (2, (S, xup2 G 72 2 pl, m)) := by
  unfold c64_2b c64_44
  simp (disch := omega) only [cq_gi, cq_gr, cq_a, cq_s, cq_p, cq_pr, cq_is, cq_ar, cq_ab, cq_ln, xq_nz, Option.bind_some, xup2_n, xup2_s, Int.toNat_natCast, Int.reduceToNat, if_pos, if_neg, true_and, and_true, and_self, eq_self, if_true, reduceIte, not_true_eq_false, not_false_eq_true, or_true, true_or, s72 hs, s78 hs, s80 hs, p72_15 hp, p72_17 hp, h14, g78, g80]
theorem st_64q (hs : cSs S) (hp : cPs G) (hx : x < n) (hn : n ≤ 1024) (hpn : pn < 16) (hq : 82 < q) (qs : cPgS S q) (qp : cPgP G q) (h3 : G 72 3 = (q : Int)) (h14 : G 72 14 = (n : Int)) (g78 : G 78 x = (pn : Int)) (g80 : G 80 x = pl) (g81 : G 81 x = w) (gi : G (q + 4) pn = b01 b) (gw : G (q + 2) pn = wd) : c64_2b r2 f 72 (x : Int) (S, G, m) = if b = false then some (2, (S, xup2 G 72 2 pl, m)) else if wd = w then r2 72 (xwr ((x : Int) + 1)) (S, xup2 G 72 2 pl, m) else some (3, (S, xup2 G 72 2 pl, m)) := by
  have q0 := qs.1
  have q4 := qs.2.2.2.2.1
  have q2 := qs.2.2.1
  have w5 := qp.2.2.2.1
  have w3 := qp.2.1
  cases b with
  | false =>
    rw [if_pos rfl]
    have gi' : G (q + 4) pn = 0 := gi
    unfold c64_2b c64_44
    simp (disch := omega) only [cq_gi, cq_gr, cq_a, cq_s, cq_p, cq_pr, cq_is, cq_ar, cq_ab, cq_ln, xq_nz, Option.bind_some, xup2_n, xup2_s, Int.toNat_natCast, Int.reduceToNat, if_pos, if_neg, true_and, and_true, and_self, eq_self, if_true, reduceIte, not_true_eq_false, not_false_eq_true, or_true, true_or, s72 hs, s78 hs, s80 hs, p72_15 hp, p72_17 hp, h14, g78, g80, h3, q0, q4, w5, gi']
  | true =>
    rw [if_neg (by decide)]
    have gi' : G (q + 4) pn = 1 := gi
    by_cases c : wd = w
    · rw [if_pos c]
      unfold c64_2b
      simp (disch := omega) only [cq_gi, cq_gr, cq_a, cq_s, cq_p, cq_pr, cq_is, cq_ar, cq_ab, cq_ln, xq_nz, Option.bind_some, xup2_n, xup2_s, Int.toNat_natCast, Int.reduceToNat, if_pos, if_neg, true_and, and_true, and_self, eq_self, if_true, reduceIte, not_true_eq_false, not_false_eq_true, or_true, true_or, s72 hs, s78 hs, s80 hs, s81 hs, p72_15 hp, p72_17 hp, p72_18 hp, h14, g78, g80, g81, h3, q0, q4, q2, w5, w3, gi', gw, c]
    · rw [if_neg c]
      unfold c64_2b
      simp (disch := omega) only [cq_gi, cq_gr, cq_a, cq_s, cq_p, cq_pr, cq_is, cq_ar, cq_ab, cq_ln, xq_nz, Option.bind_some, xup2_n, xup2_s, Int.toNat_natCast, Int.reduceToNat, if_pos, if_neg, true_and, and_true, and_self, eq_self, if_true, reduceIte, not_true_eq_false, not_false_eq_true, or_true, true_or, s72 hs, s78 hs, s80 hs, s81 hs, p72_15 hp, p72_17 hp, p72_18 hp, h14, g78, g80, g81, h3, q0, q4, q2, w5, w3, gi', gw, c]
end
theorem qCk1_k {s : pPg} {q : Nat} : ∀ (cs : List pCh) (a : Int × Int), a.1 ≠ 0 → cs.foldl (qCk1 s q) a = a
  | [], a, _ => rfl
  | c :: cs, a, h => by
    have e : qCk1 s q a c = a := by
      unfold qCk1
      rw [if_neg h, if_neg (fun y => h y.1)]
    rw [List.foldl_cons, e]
    exact qCk1_k cs a h
/-- the first CHANGE with a FAULT -/
theorem qCk_1 {s : pPg} : ∀ (cs : List pCh) (x : Int), (∀ k, k < cs.length → qCq s (cs.getD k dCh) = 0) ∧ cs.foldl (qCk1 s 0) (0, x) = (0, x) ∨ ∃ j, j < cs.length ∧ qCq s (cs.getD j dCh) ≠ 0 ∧ (∀ k, k < j → qCq s (cs.getD k dCh) = 0) ∧ cs.foldl (qCk1 s 0) (0, x) = (qCq s (cs.getD j dCh), ((cs.getD j dCh).2.2.1 : Int))
  | [], x => .inl ⟨fun k hk => absurd hk (Nat.not_lt_zero k), rfl⟩
  | c :: cs, x => by
    by_cases h : qCq s c = 0
    · have e : qCk1 s 0 (0, x) c = (0, x) := by
        unfold qCk1
        rw [if_pos rfl, if_neg (fun y => y.2 h), h]
      rw [List.foldl_cons, e]
      rcases qCk_1 cs x with ⟨a1, a2⟩ | ⟨j, a1, a2, a3, a4⟩
      · refine .inl ⟨fun k hk => ?_, a2⟩
        cases k with
        | zero => exact h
        | succ k => exact a1 k (by rw [List.length_cons] at hk; omega)
      · refine .inr ⟨j + 1, by rw [List.length_cons]; omega, a2, fun k hk => ?_, a4⟩
        cases k with
        | zero => exact h
        | succ k => exact a3 k (by omega)
    · have e : qCk1 s 0 (0, x) c = (qCq s c, (c.2.2.1 : Int)) := by
        unfold qCk1
        rw [if_pos rfl, if_pos ⟨rfl, h⟩]
        show (qCq s c, ((0 : Nat) : Int) + (c.2.2.1 : Int)) = _
        rw [show ((0 : Nat) : Int) + (c.2.2.1 : Int) = (c.2.2.1 : Int) by omega]
      rw [List.foldl_cons, e, qCk1_k cs _ h]
      exact .inr ⟨0, Nat.succ_pos _, h, fun k hk => absurd hk (Nat.not_lt_zero k), rfl⟩
section
variable {f q : Nat} {S : Nat → Nat × Nat × Nat} {G : xG_} {m : Nat × Nat} {s : pPg} {cs : List pCh}
theorem pIdx_r {L : List Int} {x : Int} : pIdx L x = -1 ∨ ∃ p : Nat, pIdx L x = (p : Int) ∧ p < L.length := by
  unfold pIdx
  cases h : L.findIdx? (fun y => decide (y = x)) with
  | none => exact .inl rfl
  | some p => exact .inr ⟨p, rfl, (List.findIdx?_eq_some_iff_getElem.mp h).1⟩
/-- changesFault() from the k-th on -/
theorem k_64l (hs : cSs S) (hw : wPg s) (hc : cs.length ≤ 1000) (hq : 82 < q) (qs : cPgS S q) : ∀ (d k fu : Nat) (G : xG_), k + d = cs.length → d < fu → cPs G → cPgP G q → G 72 3 = (q : Int) → cCs G s.1 cs → cPg1 G q s.2.1 s.2.2.1 → cWd G q s.2.2.2.1 → ∃ v G', c64_2 f fu 72 (k : Int) (S, G, m) = some (v, (S, G', m)) ∧ (∀ a j, ¬ (a = 72 ∧ j = 2) → G' a j = G a j) ∧ (v = 0 ∧ (∀ i, k ≤ i → i < cs.length → qCq s (cs.getD i dCh) = 0) ∨ ∃ j, k ≤ j ∧ j < cs.length ∧ v = qCq s (cs.getD j dCh) ∧ v ≠ 0 ∧ G' 72 2 = ((cs.getD j dCh).2.2.1 : Int) ∧ ∀ i, k ≤ i → i < j → qCq s (cs.getD i dCh) = 0) := by
  intro d
  induction d with
  | zero =>
    intro k fu G e1 e2 hp hG h3 hC hP hW
    obtain ⟨fu, rfl⟩ : ∃ t, fu = t + 1 := ⟨fu - 1, by omega⟩
    have hk : k = cs.length := by omega
    rw [hk]
    exact ⟨0, G, st_64e (r2 := c64_2 f fu) hs hC.1, fun _ _ _ => rfl, .inl ⟨rfl, fun i z1 z2 => by omega⟩⟩
  | succ d ih =>
    intro k fu G e1 e2 hp hG h3 hC hP hW
    obtain ⟨fu, rfl⟩ : ∃ t, fu = t + 1 := ⟨fu - 1, by omega⟩
    have hk : k < cs.length := by omega
    obtain ⟨c1, c2, c3, c4, c5, c6⟩ := hC.2 k hk
    have z : ∀ v a j, ¬ (a = 72 ∧ j = 2) → xup2 G 72 2 v a j = G a j := fun v a j y => xup2_n y
    have h16 := hw.1
    rcases pIdx_r (L := s.1) (x := (cs.getD k dCh).2.1) with e | ⟨pn, e, hpn⟩
    · rw [e] at c2
      have hq2 : qCq s (cs.getD k dCh) = 2 := by unfold qCq qCf; rw [if_pos e]
      exact ⟨2, _, st_64n (r2 := c64_2 f fu) hs hp hk (by omega) hC.1 c2 c3, z _, .inr ⟨k, Nat.le_refl _, hk, hq2.symm, by decide, xup2_s _ _ _ _, fun i z1 z2 => by omega⟩⟩
    · rw [e] at c2
      have st : c64_2 f (fu + 1) 72 (k : Int) (S, G, m) = _ := st_64q (r2 := c64_2 f fu) hs hp hk (by omega) (by omega : pn < 16) hq qs hG h3 hC.1 c2 c3 c4 (hP pn (by omega)).2.1 (hW pn (by omega))
      have eq : qCq s (cs.getD k dCh) = if pIn s.2.1 (pn : Int) = true then (if pNn s.2.2.2.1 (pn : Int) = ((cs.getD k dCh).2.2.2.length : Int) then 0 else 3) else 2 := by
        unfold qCq qCf
        rw [e, if_neg (by omega)]
      by_cases cb : pIn s.2.1 (pn : Int) = false
      · rw [if_pos cb] at st
        rw [if_neg (by rw [cb]; decide)] at eq
        exact ⟨2, _, st, z _, .inr ⟨k, Nat.le_refl _, hk, eq.symm, by decide, xup2_s _ _ _ _, fun i z1 z2 => by omega⟩⟩
      · rw [if_neg cb] at st
        rw [if_pos (by cases h : pIn s.2.1 (pn : Int); exact absurd h cb; rfl)] at eq
        by_cases cw : pNn s.2.2.2.1 (pn : Int) = ((cs.getD k dCh).2.2.2.length : Int)
        · rw [if_pos cw] at st eq
          have ek : xwr ((k : Int) + 1) = ((k + 1 : Nat) : Int) := by rw [xwr_g _ (by omega) (by omega)]; omega
          rw [ek] at st
          obtain ⟨v, G', g1, g2, g3⟩ := ih (k + 1) fu (xup2 G 72 2 ((cs.getD k dCh).2.2.1 : Int)) (by omega) (by omega) (hp.read (fun a j w1 _ _ => z _ a j (by omega))) (hG.ge (fun j _ _ _ => z _ q j (by omega))) (by rw [z _ _ _ (by omega)]; exact h3) (hC.fr (z _ _ _ (by omega)) (fun a k _ _ => z _ _ _ (by omega)) (fun k _ => z _ _ _ (by omega))) (fun p hp => by rw [z _ _ _ (by omega), z _ _ _ (by omega), z _ _ _ (by omega)]; exact hP p hp) (hW.ge (fun j => z _ _ _ (by omega)))
          refine ⟨v, G', st.trans g1, fun a j y => by rw [g2 a j y, z _ a j y], ?_⟩
          rcases g3 with ⟨y1, y2⟩ | ⟨j, y1, y2, y3, y4, y5, y6⟩
          · refine .inl ⟨y1, fun i w1 w2 => ?_⟩
            by_cases ci : i = k
            · rw [ci]; exact eq
            · exact y2 i (by omega) w2
          · refine .inr ⟨j, by omega, y2, y3, y4, y5, fun i w1 w2 => ?_⟩
            by_cases ci : i = k
            · rw [ci]; exact eq
            · exact y6 i (by omega) w2
        · rw [if_neg cw] at st eq
          exact ⟨3, _, st, z _, .inr ⟨k, Nat.le_refl _, hk, eq.symm, by decide, xup2_s _ _ _ _, fun i z1 z2 => by omega⟩⟩
theorem k_64c (hf : 3010 < f) (hs : cSs S) (hw : wPg s) (hc : cs.length ≤ 1000) (hq : 82 < q) (qs : cPgS S q) (hp : cPs G) (hG : cPgP G q) (h3 : G 72 3 = (q : Int)) (hC : cCs G s.1 cs) (hP : cPg1 G q s.2.1 s.2.2.1) (hW : cWd G q s.2.2.2.1) : ∃ G', c64 f 72 (S, G, m) = some ((qCk s 0 cs).1, (S, G', m)) ∧ (∀ a j, ¬ (a = 72 ∧ j = 2) → G' a j = G a j) ∧ ((qCk s 0 cs).1 ≠ 0 → G' 72 2 = (qCk s 0 cs).2) := by
  obtain ⟨v, G', g1, g2, g3⟩ := k_64l (f := f) (m := m) hs hw hc hq qs cs.length 0 f G (by omega) (by omega) hp hG h3 hC hP hW
  have e : c64 f 72 (S, G, m) = some (v, (S, G', m)) := g1
  have q1 := qCk_1 (s := s) cs (-1)
  have eq : qCk s 0 cs = cs.foldl (qCk1 s 0) (0, -1) := rfl
  rcases q1 with ⟨a1, a2⟩ | ⟨j, a1, a2, a3, a4⟩
  · rw [eq, a2]
    rcases g3 with ⟨y1, y2⟩ | ⟨j, y1, y2, y3, y4, y5, y6⟩
    · rw [y1] at e
      exact ⟨G', e, g2, fun y => absurd rfl y⟩
    · exact absurd (y3.trans (a1 j y2)) y4
  · rw [eq, a4]
    rcases g3 with ⟨y1, y2⟩ | ⟨i, y1, y2, y3, y4, y5, y6⟩
    · exact absurd (y2 j (Nat.zero_le _) a1) a2
    · have : i = j := by
        by_cases c1 : i < j
        · exact absurd (y3.trans (a3 i c1)) y4
        · by_cases c2 : j < i
          · exact absurd (y6 j (Nat.zero_le _) c2) a2
          · omega
      subst this
      rw [y3] at e
      exact ⟨G', e, g2, fun _ => y5⟩
end
end
section
/-! THE CLASS: rows -/
/-- a Rows of the class at x: width W, place for cap -/
def cRw (S : Nat → Nat × Nat × Nat) (G : xG_) (x W cap : Nat) (R : List pRw) : Prop := S x = (1, 5, 4) ∧ (∃ z, S (x + 1) = (2, 4, z) ∧ cap * W ≤ z ∧ z ≤ 4096) ∧ S (x + 2) = (2, 3, cap) ∧ (G x 0 = (W : Int) ∧ G x 1 = (R.length : Int) ∧ G x 2 = ((x + 1 : Nat) : Int) ∧ G x 3 = ((x + 2 : Nat) : Int)) ∧ R.length ≤ cap ∧ cap ≤ 512 ∧ W ≤ 8 ∧ ∀ i, i < R.length → (R.getD i dRw).1.length = W ∧ (∀ c, c < W → G (x + 1) (i * W + c) = (R.getD i dRw).1.getD c 0) ∧ G (x + 2) i = (R.getD i dRw).2
/-- how two rows of values stand, from the c-th on -/
def nCmp (u v : Nat → Int) : Nat → Nat → Int
  | 0, _ => 0
  | d + 1, c => if u c = v c then nCmp u v d (c + 1) else if u c < v c then -1 else 1
theorem nCmp_l : ∀ (xs ys : List Int) (d c : Nat), c + d ≤ xs.length → c + d ≤ ys.length → nCmp (fun k => xs.getD k 0) (fun k => ys.getD k 0) d c = vCmp ((xs.drop c).take d) ((ys.drop c).take d)
  | xs, ys, 0, c, _, _ => by rw [List.take_zero, List.take_zero]; rfl
  | xs, ys, d + 1, c, h1, h2 => by
    have e1 : xs.drop c = xs.getD c 0 :: xs.drop (c + 1) := by rw [getD_e (by omega)]; exact List.drop_eq_getElem_cons (by omega)
    have e2 : ys.drop c = ys.getD c 0 :: ys.drop (c + 1) := by rw [getD_e (by omega)]; exact List.drop_eq_getElem_cons (by omega)
    rw [e1, e2, List.take_succ_cons, List.take_succ_cons]
    show (if _ = _ then nCmp _ _ d (c + 1) else _) = _
    unfold vCmp
    rw [nCmp_l xs ys d (c + 1) (by omega) (by omega)]
theorem nCmp_x {u v u' v' : Nat → Int} : ∀ (d c : Nat), (∀ k, c ≤ k → k < c + d → u k = u' k ∧ v k = v' k) → nCmp u v d c = nCmp u' v' d c
  | 0, _, _ => rfl
  | d + 1, c, h => by
    show (if u c = v c then nCmp u v d (c + 1) else _) = (if u' c = v' c then nCmp u' v' d (c + 1) else _)
    rw [(h c (Nat.le_refl _) (by omega)).1, (h c (Nat.le_refl _) (by omega)).2, nCmp_x d (c + 1) (fun k h1 h2 => h k (by omega) (by omega))]
section
variable {f x y i j c k e e2 W W2 z z2 kz a cap cap2 : Nat} {S : Nat → Nat × Nat × Nat} {G : xG_} {m : Nat × Nat} {R R2 : List pRw} {vi vj w1 : Int}
theorem st_71z {r3 : Nat → Int → Nat → Int → Int → xT_ → Option (Int × xT_)} : c71_3b r3 f x (i : Int) a (k : Int) (k : Int) (S, G, m) = some (0, (S, G, m)) := by
  unfold c71_3b
  rw [if_pos (Int.le_refl _)]
theorem st_71r {r3 : Nat → Int → Nat → Int → Int → xT_ → Option (Int × xT_)} (hc : c < k) (xs : S x = (1, 5, 4)) (cs : S (x + 1) = (2, 4, z)) (as : S a = (2, 4, kz)) (hck : c < kz) (w0 : G x 0 = w1) (w2 : G x 2 = ((x + 1 : Nat) : Int)) (ee : xwr ((xwr ((i : Int) * w1)) + (c : Int)) = (e : Int)) (he : e < z) (hi : G (x + 1) e = vi) (hj : G a c = vj) : c71_3b r3 f x (i : Int) a (k : Int) (c : Int) (S, G, m) = if vi = vj then r3 x (i : Int) a (k : Int) (xwr ((c : Int) + 1)) (S, G, m) else some (if vi < vj then -1 else 1, (S, G, m)) := by
  by_cases q1 : vi = vj
  · rw [if_pos q1]
    unfold c71_3b
    simp (disch := omega) only [cq_gi, cq_gr, cq_a, cq_s, cq_p, cq_pr, cq_is, cq_ar, cq_ab, cq_ln, xq_nz, Option.bind_some, xup2_n, xup2_s, Int.toNat_natCast, Int.reduceToNat, if_pos, if_neg, true_and, and_true, and_self, eq_self, if_true, reduceIte, not_true_eq_false, not_false_eq_true, or_true, true_or, xs, cs, as, w0, w2, ee, hi, hj, q1]
  · rw [if_neg q1]
    by_cases q2 : vi < vj
    · rw [if_pos q2]
      unfold c71_3b c71_50
      simp (disch := omega) only [cq_gi, cq_gr, cq_a, cq_s, cq_p, cq_pr, cq_is, cq_ar, cq_ab, cq_ln, xq_nz, Option.bind_some, xup2_n, xup2_s, Int.toNat_natCast, Int.reduceToNat, if_pos, if_neg, true_and, and_true, and_self, eq_self, if_true, reduceIte, not_true_eq_false, not_false_eq_true, or_true, true_or, xs, cs, as, w0, w2, ee, hi, hj, q1]
    · rw [if_neg q2]
      unfold c71_3b c71_50
      simp (disch := omega) only [cq_gi, cq_gr, cq_a, cq_s, cq_p, cq_pr, cq_is, cq_ar, cq_ab, cq_ln, xq_nz, Option.bind_some, xup2_n, xup2_s, Int.toNat_natCast, Int.reduceToNat, if_pos, if_neg, true_and, and_true, and_self, eq_self, if_true, reduceIte, not_true_eq_false, not_false_eq_true, or_true, true_or, xs, cs, as, w0, w2, ee, hi, hj, q1]
theorem ix_b (h : cRw S G x W cap R) (hi : i < R.length) (hc : c < W) : i * W + c < 4096 ∧ ∀ z, cap * W ≤ z → i * W + c < z := by
  have h1 : (i + 1) * W ≤ cap * W := Nat.mul_le_mul_right _ (by have := h.2.2.2.2.1; omega)
  rw [Nat.succ_mul] at h1
  obtain ⟨z, z1, z2, z3⟩ := h.2.1
  exact ⟨by omega, fun z hz => by omega⟩
theorem ix_e {W i c e : Nat} (h : e = i * W + c) (hb : e < 4096) : xwr ((xwr ((i : Int) * (W : Int))) + (c : Int)) = (e : Int) := by
  have e1 : (i : Int) * (W : Int) = ((i * W : Nat) : Int) := by rw [Int.natCast_mul]
  rw [e1]
  generalize i * W = p at h
  rw [xwr_g (p : Int) (by omega) (by omega), xwr_g _ (by omega) (by omega)]
  omega
/-- compare() -/
theorem k_71r (hf : 20 < f) (h : cRw S G x W cap R) (hi : i < R.length) (hk : k ≤ W) (as : S a = (2, 4, kz)) (hkz : k ≤ kz) : c71 f x (i : Int) a (k : Int) (S, G, m) = some (nCmp (fun c => (R.getD i dRw).1.getD c 0) (fun c => G a c) k 0, (S, G, m)) := by
  obtain ⟨xs, ⟨z, cs, z1, z2⟩, _, ⟨w0, w1, w2, w3⟩, hl, hcap, hW, hR⟩ := id h
  obtain ⟨r1, r2, r3⟩ := hR i hi
  have loop : ∀ (d c fu : Nat), c + d = k → d < fu → c71_3 f fu x (i : Int) a (k : Int) (c : Int) (S, G, m) = some (nCmp (fun c => (R.getD i dRw).1.getD c 0) (fun c => G a c) d c, (S, G, m)) := by
    intro d
    induction d with
    | zero =>
      intro c fu h1 h2
      obtain ⟨fu, rfl⟩ : ∃ t, fu = t + 1 := ⟨fu - 1, by omega⟩
      have : c = k := by omega
      subst this
      exact st_71z (r3 := c71_3 f fu)
    | succ d ih =>
      intro c fu h1 h2
      obtain ⟨fu, rfl⟩ : ∃ t, fu = t + 1 := ⟨fu - 1, by omega⟩
      obtain ⟨b1, b2⟩ := ix_b h hi (show c < W by omega)
      have st : c71_3 f (fu + 1) x (i : Int) a (k : Int) (c : Int) (S, G, m) = _ := st_71r (r3 := c71_3 f fu) (e := i * W + c) (by omega) xs cs as (by omega) w0 w2 (ix_e rfl b1) (b2 z z1) (r2 c (by omega)) rfl
      have ek : xwr ((c : Int) + 1) = ((c + 1 : Nat) : Int) := by rw [xwr_g _ (by omega) (by omega)]; omega
      rw [ek, ih (c + 1) fu (by omega) (by omega)] at st
      rw [st]
      show _ = some (if _ = _ then nCmp _ _ d (c + 1) else _, _)
      split <;> rfl
  exact loop k 0 f (by omega) (by omega)
theorem st_72z {r3 : Nat → Int → Nat → Int → Int → Int → xT_ → Option (Int × xT_)} : c72_3b r3 f x (i : Int) y (j : Int) (k : Int) (k : Int) (S, G, m) = some (0, (S, G, m)) := by
  unfold c72_3b
  rw [if_pos (Int.le_refl _)]
theorem st_72r {r3 : Nat → Int → Nat → Int → Int → Int → xT_ → Option (Int × xT_)} {w2' : Int} (hc : c < k) (xs : S x = (1, 5, 4)) (cs : S (x + 1) = (2, 4, z)) (ys : S y = (1, 5, 4)) (ds : S (y + 1) = (2, 4, z2)) (w0 : G x 0 = w1) (w2 : G x 2 = ((x + 1 : Nat) : Int)) (v0 : G y 0 = w2') (v2 : G y 2 = ((y + 1 : Nat) : Int)) (ee : xwr ((xwr ((i : Int) * w1)) + (c : Int)) = (e : Int)) (he : e < z) (ee2 : xwr ((xwr ((j : Int) * w2')) + (c : Int)) = (e2 : Int)) (he2 : e2 < z2) (hi : G (x + 1) e = vi) (hj : G (y + 1) e2 = vj) : c72_3b r3 f x (i : Int) y (j : Int) (k : Int) (c : Int) (S, G, m) = if vi = vj then r3 x (i : Int) y (j : Int) (k : Int) (xwr ((c : Int) + 1)) (S, G, m) else some (if vi < vj then -1 else 1, (S, G, m)) := by
  by_cases q1 : vi = vj
  · rw [if_pos q1]
    unfold c72_3b
    simp (disch := omega) only [cq_gi, cq_gr, cq_a, cq_s, cq_p, cq_pr, cq_is, cq_ar, cq_ab, cq_ln, xq_nz, Option.bind_some, xup2_n, xup2_s, Int.toNat_natCast, Int.reduceToNat, if_pos, if_neg, true_and, and_true, and_self, eq_self, if_true, reduceIte, not_true_eq_false, not_false_eq_true, or_true, true_or, xs, cs, ys, ds, w0, w2, v0, v2, ee, ee2, hi, hj, q1]
  · rw [if_neg q1]
    by_cases q2 : vi < vj
    · rw [if_pos q2]
      unfold c72_3b c72_63
      simp (disch := omega) only [cq_gi, cq_gr, cq_a, cq_s, cq_p, cq_pr, cq_is, cq_ar, cq_ab, cq_ln, xq_nz, Option.bind_some, xup2_n, xup2_s, Int.toNat_natCast, Int.reduceToNat, if_pos, if_neg, true_and, and_true, and_self, eq_self, if_true, reduceIte, not_true_eq_false, not_false_eq_true, or_true, true_or, xs, cs, ys, ds, w0, w2, v0, v2, ee, ee2, hi, hj, q1]
    · rw [if_neg q2]
      unfold c72_3b c72_63
      simp (disch := omega) only [cq_gi, cq_gr, cq_a, cq_s, cq_p, cq_pr, cq_is, cq_ar, cq_ab, cq_ln, xq_nz, Option.bind_some, xup2_n, xup2_s, Int.toNat_natCast, Int.reduceToNat, if_pos, if_neg, true_and, and_true, and_self, eq_self, if_true, reduceIte, not_true_eq_false, not_false_eq_true, or_true, true_or, xs, cs, ys, ds, w0, w2, v0, v2, ee, ee2, hi, hj, q1]
/-- compareRow() -/
theorem k_72 (hf : 20 < f) (h : cRw S G x W cap R) (h2 : cRw S G y W2 cap2 R2) (hi : i < R.length) (hj : j < R2.length) (hk : k ≤ W) (hk2 : k ≤ W2) : c72 f x (i : Int) y (j : Int) (k : Int) (S, G, m) = some (vCmp ((R.getD i dRw).1.take k) ((R2.getD j dRw).1.take k), (S, G, m)) := by
  obtain ⟨xs, ⟨z, cs, z1, z2⟩, _, ⟨w0, w1, w2, w3⟩, hl, hcap, hW, hR⟩ := id h
  obtain ⟨r1, r2, r3⟩ := hR i hi
  obtain ⟨ys, ⟨z', ds, z1', z2'⟩, _, ⟨v0, v1, v2, v3⟩, hl2, hcap2, hW2, hR2⟩ := id h2
  obtain ⟨t1, t2, t3⟩ := hR2 j hj
  have loop : ∀ (d c fu : Nat), c + d = k → d < fu → c72_3 f fu x (i : Int) y (j : Int) (k : Int) (c : Int) (S, G, m) = some (nCmp (fun c => (R.getD i dRw).1.getD c 0) (fun c => (R2.getD j dRw).1.getD c 0) d c, (S, G, m)) := by
    intro d
    induction d with
    | zero =>
      intro c fu h1 h2
      obtain ⟨fu, rfl⟩ : ∃ t, fu = t + 1 := ⟨fu - 1, by omega⟩
      have : c = k := by omega
      subst this
      exact st_72z (r3 := c72_3 f fu)
    | succ d ih =>
      intro c fu h1 h2'
      obtain ⟨fu, rfl⟩ : ∃ t, fu = t + 1 := ⟨fu - 1, by omega⟩
      obtain ⟨b1, b2⟩ := ix_b h hi (show c < W by omega)
      obtain ⟨b1', b2'⟩ := ix_b h2 hj (show c < W2 by omega)
      have st : c72_3 f (fu + 1) x (i : Int) y (j : Int) (k : Int) (c : Int) (S, G, m) = _ := st_72r (r3 := c72_3 f fu) (e := i * W + c) (e2 := j * W2 + c) (by omega) xs cs ys ds w0 w2 v0 v2 (ix_e rfl b1) (b2 z z1) (ix_e rfl b1') (b2' z' z1') (r2 c (by omega)) (t2 c (by omega))
      have ek : xwr ((c : Int) + 1) = ((c + 1 : Nat) : Int) := by rw [xwr_g _ (by omega) (by omega)]; omega
      rw [ek, ih (c + 1) fu (by omega) (by omega)] at st
      rw [st]
      show _ = some (if _ = _ then nCmp _ _ d (c + 1) else _, _)
      split <;> rfl
  have e := loop k 0 f (by omega) (by omega)
  rw [nCmp_l _ _ k 0 (by omega) (by omega)] at e
  exact e
end
end
section
/-! THE CLASS: rows: search(), find(), findKey() -/
theorem vCmp_t2 : ∀ (k : Nat) {xs ys : List Int}, vCmp xs ys < 0 → vCmp (xs.take k) (ys.take k) ≤ 0
  | 0, xs, ys, _ => by rw [List.take_zero, List.take_zero]; exact Int.le_refl 0
  | k + 1, [], _, _ => by rw [List.take_nil]; exact Int.le_refl 0
  | k + 1, _ :: _, [], _ => by rw [List.take_nil]; exact Int.le_refl 0
  | k + 1, x :: xs, y :: ys, h => by
    rw [List.take_succ_cons, List.take_succ_cons]
    unfold vCmp at h ⊢
    by_cases c : x = y
    · rw [if_pos c] at h ⊢
      exact vCmp_t2 k h
    · rw [if_neg c] at h ⊢
      exact Int.le_of_lt h
theorem vCmp_mn {xs ys zs : List Int} (h1 : xs.length = ys.length) (h2 : ys.length = zs.length) (h : vCmp xs ys ≤ 0) : vCmp xs zs ≤ vCmp ys zs := by
  rcases vCmp_in xs ys with a | a | a
  · rcases vCmp_in ys zs with b | b | b
    · have := vCmp_tr h1 h2 (by omega) (by omega : vCmp ys zs < 0)
      rcases vCmp_in xs zs with q | q | q <;> omega
    · have e := vCmp_eq h2 b
      rw [← e, vCmp_self, a]; omega
    · rcases vCmp_in xs zs with q | q | q <;> omega
  · rw [vCmp_eq h1 a]; exact Int.le_refl _
  · omega
section
variable {f x y i j c k W kz a cap : Nat} {S : Nat → Nat × Nat × Nat} {G : xG_} {m : Nat × Nat} {R : List pRw} {kl : List Int} {ab : Int}
/-- a key of k values at a -/
def cKl (S : Nat → Nat × Nat × Nat) (G : xG_) (a : Nat) (kl : List Int) : Prop := (∃ kz, S a = (2, 4, kz) ∧ kl.length ≤ kz) ∧ ∀ c, c < kl.length → G a c = kl.getD c 0
theorem k_71k (hf : 20 < f) (h : cRw S G x W cap R) (hi : i < R.length) (hk : kl.length ≤ W) (hK : cKl S G a kl) : c71 f x (i : Int) a (kl.length : Int) (S, G, m) = some (vCmp ((R.getD i dRw).1.take kl.length) kl, (S, G, m)) := by
  obtain ⟨⟨kz, k1, k2⟩, k3⟩ := hK
  rw [k_71r hf h hi hk k1 k2]
  rw [nCmp_x (u' := fun c => (R.getD i dRw).1.getD c 0) (v' := fun c => kl.getD c 0) kl.length 0 (fun c _ hc => ⟨rfl, k3 c (by omega)⟩)]
  have r1 := (h.2.2.2.2.2.2.2 i hi).1
  rw [nCmp_l _ _ kl.length 0 (by omega) (by omega), List.drop_zero, List.drop_zero, List.take_length]
theorem rw_mn (h : cRw S G x W cap R) (hs : R.Pairwise rwLt) (hk : kl.length ≤ W) (hij : i < j) (hj : j < R.length) : vCmp ((R.getD i dRw).1.take kl.length) kl ≤ vCmp ((R.getD j dRw).1.take kl.length) kl := by
  have hR := h.2.2.2.2.2.2.2
  have hi : i < R.length := by omega
  have l1 := (hR i hi).1
  have l2 := (hR j hj).1
  have hp := List.pairwise_iff_getElem.mp hs i j hi hj hij
  rw [← getD_e (d := dRw) hi, ← getD_e (d := dRw) hj] at hp
  have hp' := (vLt_iff (by omega)).mp hp
  refine vCmp_mn (by rw [List.length_take, List.length_take]; omega) (by rw [List.length_take]; omega) (vCmp_t2 _ hp')
/-- where a key stands: how many rows are below it -/
def isSr (R : List pRw) (kl : List Int) (ab : Int) (lo : Nat) : Prop := lo ≤ R.length ∧ (∀ i, i < lo → vCmp ((R.getD i dRw).1.take kl.length) kl < ab) ∧ ∀ i, lo ≤ i → i < R.length → ab ≤ vCmp ((R.getD i dRw).1.take kl.length) kl
theorem st_73z {r9 : Nat → Nat → Int → Int → Int → Int → xT_ → Option (Int × xT_)} {lo hi : Nat} (h : hi ≤ lo) : c73_9b r9 f x a (k : Int) ab (lo : Int) (hi : Int) (S, G, m) = some ((lo : Int), (S, G, m)) := by
  unfold c73_9b
  rw [if_pos (by omega)]
theorem st_73 {r9 : Nat → Nat → Int → Int → Int → Int → xT_ → Option (Int × xT_)} {lo hi : Nat} {md : Nat} {v : Int} (h : lo < hi) (xs : S x = (1, 5, 4)) (em : xush (xwr ((lo : Int) + (hi : Int))) 1 = (md : Int)) (e : c71 f x (md : Int) a (k : Int) (S, G, m) = some (v, (S, G, m))) (e1 : xwr ((md : Int) + 1) = ((md + 1 : Nat) : Int)) : c73_9b r9 f x a (k : Int) ab (lo : Int) (hi : Int) (S, G, m) = if ab ≤ v then r9 x a (k : Int) ab (lo : Int) (md : Int) (S, G, m) else r9 x a (k : Int) ab ((md + 1 : Nat) : Int) (hi : Int) (S, G, m) := by
  by_cases q : ab ≤ v
  · rw [if_pos q]
    unfold c73_9b c73_50
    simp (disch := omega) only [cq_gi, cq_gr, cq_a, cq_s, cq_p, cq_pr, cq_is, cq_ar, cq_ab, cq_ln, xq_nz, Option.bind_some, xup2_n, xup2_s, Int.toNat_natCast, Int.reduceToNat, if_pos, if_neg, true_and, and_true, and_self, eq_self, if_true, reduceIte, not_true_eq_false, not_false_eq_true, or_true, true_or, xs, em, e, q]
  · rw [if_neg q]
    unfold c73_9b c73_50
    simp (disch := omega) only [cq_gi, cq_gr, cq_a, cq_s, cq_p, cq_pr, cq_is, cq_ar, cq_ab, cq_ln, xq_nz, Option.bind_some, xup2_n, xup2_s, Int.toNat_natCast, Int.reduceToNat, if_pos, if_neg, true_and, and_true, and_self, eq_self, if_true, reduceIte, not_true_eq_false, not_false_eq_true, or_true, true_or, xs, em, e, q, e1]
theorem k_73 (hf : 600 < f) (h : cRw S G x W cap R) (hs : R.Pairwise rwLt) (hk : kl.length ≤ W) (hK : cKl S G a kl) : ∃ lo : Nat, c73 f x a (kl.length : Int) ab (S, G, m) = some ((lo : Int), (S, G, m)) ∧ isSr R kl ab lo := by
  obtain ⟨xs, ⟨z, cs, z1, z2⟩, _, ⟨w0, w1, w2, w3⟩, hl, hcap, hW, hR⟩ := id h
  have loop : ∀ (d lo hi fu : Nat), lo + d = hi → hi ≤ R.length → d < fu → (∀ i, i < lo → vCmp ((R.getD i dRw).1.take kl.length) kl < ab) → (∀ i, hi ≤ i → i < R.length → ab ≤ vCmp ((R.getD i dRw).1.take kl.length) kl) → ∃ lo' : Nat, c73_9 f fu x a (kl.length : Int) ab (lo : Int) (hi : Int) (S, G, m) = some ((lo' : Int), (S, G, m)) ∧ isSr R kl ab lo' := by
    intro d
    induction d using Nat.strongRecOn with
    | _ d ih =>
      intro lo hi fu h1 h2 h3 h4 h5
      obtain ⟨fu, rfl⟩ : ∃ t, fu = t + 1 := ⟨fu - 1, by omega⟩
      by_cases c : hi ≤ lo
      · have : hi = lo := by omega
        exact ⟨lo, st_73z (r9 := c73_9 f fu) c, by omega, h4, fun i y1 y2 => h5 i (by omega) y2⟩
      · obtain ⟨md, hmd⟩ : ∃ md, md = (lo + hi) / 2 := ⟨_, rfl⟩
        have em : xush (xwr ((lo : Int) + (hi : Int))) 1 = (md : Int) := by
          rw [xwr_g _ (by omega) (by omega), xush_1 _ (by omega) (by omega)]
          omega
        have e1 : xwr ((md : Int) + 1) = ((md + 1 : Nat) : Int) := by rw [xwr_g _ (by omega) (by omega)]; omega
        have st : c73_9 f (fu + 1) x a (kl.length : Int) ab (lo : Int) (hi : Int) (S, G, m) = _ := st_73 (r9 := c73_9 f fu) (by omega) xs em (k_71k (by omega) h (by omega : md < R.length) hk hK) e1
        by_cases q : ab ≤ vCmp ((R.getD md dRw).1.take kl.length) kl
        · rw [if_pos q] at st
          rw [st]
          refine ih (md - lo) (by omega) lo md fu (by omega) (by omega) (by omega) h4 (fun i y1 y2 => ?_)
          by_cases ci : i = md
          · rw [ci]; exact q
          · exact Int.le_trans q (rw_mn h hs hk (by omega) y2)
        · rw [if_neg q] at st
          rw [st]
          refine ih (hi - (md + 1)) (by omega) (md + 1) hi fu (by omega) (by omega) (by omega) (fun i y1 => ?_) h5
          by_cases ci : i = md
          · rw [ci]; omega
          · have := rw_mn (kl := kl) h hs hk (by omega : i < md) (by omega)
            omega
  obtain ⟨lo, l1, l2⟩ := loop R.length 0 R.length f (by omega) (Nat.le_refl _) (by omega) (fun i hi => absurd hi (Nat.not_lt_zero i)) (fun i y1 y2 => by omega)
  refine ⟨lo, ?_, l2⟩
  unfold c73
  simp (disch := omega) only [cq_gi, cq_gr, cq_a, cq_s, cq_p, cq_pr, cq_is, cq_ar, cq_ab, cq_ln, xq_nz, Option.bind_some, xup2_n, xup2_s, Int.toNat_natCast, Int.reduceToNat, if_pos, if_neg, true_and, and_true, and_self, eq_self, if_true, reduceIte, not_true_eq_false, not_false_eq_true, or_true, true_or, xs, w1]
  exact l1
end
end
section
/-! THE CLASS: rows: find(), findKey(), read(), at() -/
def cpG (G : xG_) (a0 sp a dp n : Nat) : xG_ := xz1 G a (fun i => if dp ≤ i ∧ i < dp + n then G a0 (sp + (i - dp)) else G a i)
theorem cpG_n {G : xG_} {a0 sp a dp n b j : Nat} (h : b ≠ a) : cpG G a0 sp a dp n b j = G b j := xz1_n _ h
theorem cpG_i {G : xG_} {a0 sp a dp n j : Nat} (h1 : dp ≤ j) (h2 : j < dp + n) : cpG G a0 sp a dp n a j = G a0 (sp + (j - dp)) := by
  unfold cpG
  rw [xz1_s, if_pos ⟨h1, h2⟩]
theorem cpG_o {G : xG_} {a0 sp a dp n j : Nat} (h : ¬ (dp ≤ j ∧ j < dp + n)) : cpG G a0 sp a dp n a j = G a j := by
  unfold cpG
  rw [xz1_s, if_neg h]
theorem cp_ok {S : Nat → Nat × Nat × Nat} {G : xG_} {m : Nat × Nat} {a0 a sp dp n z0 z kk : Nat} (h0 : S a0 = (2, kk, z0)) (h1 : S a = (2, kk, z)) (hk : kk = 3 ∨ kk = 4) (b0 : sp + n ≤ z0) (b1 : dp + n ≤ z) : cq_cp a0 (sp : Int) a (dp : Int) (n : Int) (S, G, m) = some (S, cpG G a0 sp a dp n, m) := by
  unfold cq_cp
  rw [if_pos]
  · rfl
  · show (S a0).1 = 2 ∧ (S a).1 = 2 ∧ (S a0).2.1 = (S a).2.1 ∧ ((S a).2.1 = 3 ∨ (S a).2.1 = 4) ∧ _ ∧ _ ∧ _ ∧ _ ≤ (S a0).2.2 ∧ _ ≤ (S a).2.2
    rw [h0, h1]
    exact ⟨rfl, rfl, rfl, hk, by omega, by omega, by omega, by simpa using b0, by simpa using b1⟩
section
variable {f x y i j c k W kz a cap p : Nat} {S S' : Nat → Nat × Nat × Nat} {G G' : xG_} {m : Nat × Nat} {R : List pRw} {kl : List Int} {ab v : Int} {lo : Nat}
theorem cRw.ge (h : cRw S G x W cap R) (hS : ∀ b, x ≤ b → b ≤ x + 2 → S' b = S b) (h0 : ∀ j, G' x j = G x j) (h1 : ∀ j, G' (x + 1) j = G (x + 1) j) (h2 : ∀ j, G' (x + 2) j = G (x + 2) j) : cRw S' G' x W cap R := by
  obtain ⟨a1, ⟨z, a2, a3⟩, a4, ⟨b1, b2, b3, b4⟩, a5, a6, a7, a8⟩ := h
  exact ⟨by rw [hS _ (by omega) (by omega)]; exact a1, ⟨z, by rw [hS _ (by omega) (by omega)]; exact a2, a3⟩, by rw [hS _ (by omega) (by omega)]; exact a4, ⟨by rw [h0]; exact b1, by rw [h0]; exact b2, by rw [h0]; exact b3, by rw [h0]; exact b4⟩, a5, a6, a7, fun i hi => ⟨(a8 i hi).1, fun c hc => by rw [h1]; exact (a8 i hi).2.1 c hc, by rw [h2]; exact (a8 i hi).2.2⟩⟩
theorem st_74a (xs : S x = (1, 5, 4)) (w0 : G x 0 = (W : Int)) (w1 : G x 1 = (R.length : Int)) (e : c73 f x a (W : Int) 0 (S, G, m) = some ((lo : Int), (S, G, m))) (hlo : R.length ≤ lo) : c74 f x a (S, G, m) = some (xwr (-1 - (lo : Int)), (S, G, m)) := by
  unfold c74 c74_36 c74_39
  simp (disch := omega) only [cq_gi, cq_gr, cq_a, cq_s, cq_p, cq_pr, cq_is, cq_ar, cq_ab, cq_ln, xq_nz, Option.bind_some, xup2_n, xup2_s, Int.toNat_natCast, Int.reduceToNat, if_pos, if_neg, true_and, and_true, and_self, eq_self, if_true, reduceIte, not_true_eq_false, not_false_eq_true, or_true, true_or, xs, w0, w1, e]
theorem st_74b (xs : S x = (1, 5, 4)) (w0 : G x 0 = (W : Int)) (w1 : G x 1 = (R.length : Int)) (e : c73 f x a (W : Int) 0 (S, G, m) = some ((lo : Int), (S, G, m))) (hlo : lo < R.length) (e2 : c71 f x (lo : Int) a (W : Int) (S, G, m) = some (v, (S, G, m))) : c74 f x a (S, G, m) = some (if v = 0 then (lo : Int) else xwr (-1 - (lo : Int)), (S, G, m)) := by
  by_cases c : v = 0
  · rw [if_pos c]
    unfold c74 c74_39
    simp (disch := omega) only [cq_gi, cq_gr, cq_a, cq_s, cq_p, cq_pr, cq_is, cq_ar, cq_ab, cq_ln, xq_nz, Option.bind_some, xup2_n, xup2_s, Int.toNat_natCast, Int.reduceToNat, if_pos, if_neg, true_and, and_true, and_self, eq_self, if_true, reduceIte, not_true_eq_false, not_false_eq_true, or_true, true_or, xs, w0, w1, e, e2, c]
  · rw [if_neg c]
    unfold c74 c74_36 c74_39
    simp (disch := omega) only [cq_gi, cq_gr, cq_a, cq_s, cq_p, cq_pr, cq_is, cq_ar, cq_ab, cq_ln, xq_nz, Option.bind_some, xup2_n, xup2_s, Int.toNat_natCast, Int.reduceToNat, if_pos, if_neg, true_and, and_true, and_self, eq_self, if_true, reduceIte, not_true_eq_false, not_false_eq_true, or_true, true_or, xs, w0, w1, e, e2, c]
/-- what find() answers: v is where kl stands, or lo tells where it would -/
def isFd (R : List pRw) (kl : List Int) (v : Int) : Prop := ∃ lo : Nat, isSr R kl 0 lo ∧ ((v = (lo : Int) ∧ lo < R.length ∧ (R.getD lo dRw).1 = kl) ∨ (v = -1 - (lo : Int) ∧ ∀ r ∈ R, r.1 ≠ kl))
theorem k_74 (hf : 600 < f) (h : cRw S G x W cap R) (hs : R.Pairwise rwLt) (hk : kl.length = W) (hK : cKl S G a kl) : ∃ v, c74 f x a (S, G, m) = some (v, (S, G, m)) ∧ isFd R kl v := by
  obtain ⟨xs, ⟨z, cs, z1, z2⟩, _, ⟨w0, w1, w2, w3⟩, hl, hcap, hW, hR⟩ := id h
  obtain ⟨lo, l1, l2⟩ := k_73 (f := f) (m := m) (ab := 0) hf h hs (Nat.le_of_eq hk) hK
  rw [hk] at l1
  have hn : R.length ≤ 512 := by omega
  have hlo := l2.1
  have tk : ∀ i, i < R.length → (R.getD i dRw).1.take kl.length = (R.getD i dRw).1 := fun i hi => by rw [hk, ← (hR i hi).1, List.take_length]
  have ew : xwr (-1 - (lo : Int)) = -1 - (lo : Int) := xwr_g _ (by omega) (by omega)
  have nm : (lo < R.length → (R.getD lo dRw).1 ≠ kl) → ∀ r ∈ R, r.1 ≠ kl := fun hne r hr er => by
    obtain ⟨j, hj, ej⟩ := List.getElem_of_mem hr
    have e0 : (R.getD j dRw).1 = kl := by rw [getD_e hj, ej]; exact er
    have c0 : vCmp ((R.getD j dRw).1.take kl.length) kl = 0 := by rw [tk j hj, e0, vCmp_self]
    by_cases c1 : j < lo
    · have := l2.2.1 j c1
      omega
    · by_cases c2 : j = lo
      · rw [c2] at e0
        exact hne (by omega) e0
      · have hp := List.pairwise_iff_getElem.mp hs lo j (by omega) hj (by omega)
        rw [← getD_e (d := dRw) (by omega : lo < R.length), ← getD_e (d := dRw) hj] at hp
        have hp' := (vLt_iff (by rw [(hR lo (by omega)).1, (hR j hj).1])).mp hp
        have := l2.2.2 lo (Nat.le_refl _) (by omega)
        rw [tk lo (by omega)] at this
        rw [e0] at hp'
        omega
  by_cases c : lo < R.length
  · have st := st_74b xs w0 w1 l1 c (by have := k_71k (m := m) (by omega : 20 < f) h c (Nat.le_of_eq hk) hK; rw [hk] at this; exact this)
    rw [← hk, tk lo c] at st
    by_cases d : vCmp (R.getD lo dRw).1 kl = 0
    · rw [if_pos d] at st
      exact ⟨_, st, lo, l2, .inl ⟨rfl, c, vCmp_eq (by rw [(hR lo c).1, hk]) d⟩⟩
    · rw [if_neg d, ew] at st
      exact ⟨_, st, lo, l2, .inr ⟨rfl, nm (fun _ e => d (by rw [e, vCmp_self]))⟩⟩
  · have st := st_74a xs w0 w1 l1 (by omega)
    rw [ew] at st
    exact ⟨_, st, lo, l2, .inr ⟨rfl, nm (fun q => absurd q c)⟩⟩
theorem st_75a (xs : S x = (1, 5, 4)) (w1 : G x 1 = (R.length : Int)) (e : c73 f x a (k : Int) 0 (S, G, m) = some ((lo : Int), (S, G, m))) (hlo : R.length ≤ lo) : c75 f x a (k : Int) (S, G, m) = some (-1, (S, G, m)) := by
  unfold c75 c75_30 c75_31
  simp (disch := omega) only [cq_gi, cq_gr, cq_a, cq_s, cq_p, cq_pr, cq_is, cq_ar, cq_ab, cq_ln, xq_nz, Option.bind_some, xup2_n, xup2_s, Int.toNat_natCast, Int.reduceToNat, if_pos, if_neg, true_and, and_true, and_self, eq_self, if_true, reduceIte, not_true_eq_false, not_false_eq_true, or_true, true_or, xs, w1, e]
theorem st_75b (xs : S x = (1, 5, 4)) (w1 : G x 1 = (R.length : Int)) (e : c73 f x a (k : Int) 0 (S, G, m) = some ((lo : Int), (S, G, m))) (hlo : lo < R.length) (e2 : c71 f x (lo : Int) a (k : Int) (S, G, m) = some (v, (S, G, m))) : c75 f x a (k : Int) (S, G, m) = some (if v = 0 then (lo : Int) else -1, (S, G, m)) := by
  by_cases c : v = 0
  · rw [if_pos c]
    unfold c75 c75_31
    simp (disch := omega) only [cq_gi, cq_gr, cq_a, cq_s, cq_p, cq_pr, cq_is, cq_ar, cq_ab, cq_ln, xq_nz, Option.bind_some, xup2_n, xup2_s, Int.toNat_natCast, Int.reduceToNat, if_pos, if_neg, true_and, and_true, and_self, eq_self, if_true, reduceIte, not_true_eq_false, not_false_eq_true, or_true, true_or, xs, w1, e, e2, c]
  · rw [if_neg c]
    unfold c75 c75_30 c75_31
    simp (disch := omega) only [cq_gi, cq_gr, cq_a, cq_s, cq_p, cq_pr, cq_is, cq_ar, cq_ab, cq_ln, xq_nz, Option.bind_some, xup2_n, xup2_s, Int.toNat_natCast, Int.reduceToNat, if_pos, if_neg, true_and, and_true, and_self, eq_self, if_true, reduceIte, not_true_eq_false, not_false_eq_true, or_true, true_or, xs, w1, e, e2, c]
/-- the first row with these first values -/
theorem k_75 (hf : 600 < f) (h : cRw S G x W cap R) (hs : R.Pairwise rwLt) (hk : kl.length ≤ W) (hK : cKl S G a kl) : ∃ v, c75 f x a (kl.length : Int) (S, G, m) = some (v, (S, G, m)) ∧ ((v = -1 ∧ ∀ r ∈ R, r.1.take kl.length ≠ kl) ∨ ∃ lo : Nat, v = (lo : Int) ∧ lo < R.length ∧ (R.getD lo dRw).1.take kl.length = kl ∧ ∀ i, i < lo → (R.getD i dRw).1.take kl.length ≠ kl) := by
  obtain ⟨xs, ⟨z, cs, z1, z2⟩, _, ⟨w0, w1, w2, w3⟩, hl, hcap, hW, hR⟩ := id h
  obtain ⟨lo, l1, l2⟩ := k_73 (f := f) (m := m) (ab := 0) hf h hs hk hK
  have hlo := l2.1
  have nm : (lo < R.length → vCmp ((R.getD lo dRw).1.take kl.length) kl ≠ 0) → ∀ r ∈ R, r.1.take kl.length ≠ kl := fun hne r hr er => by
    obtain ⟨j, hj, ej⟩ := List.getElem_of_mem hr
    have c0 : vCmp ((R.getD j dRw).1.take kl.length) kl = 0 := by rw [getD_e hj, ej, er, vCmp_self]
    by_cases c1 : j < lo
    · have := l2.2.1 j c1
      omega
    · by_cases c2 : j = lo
      · rw [c2] at c0
        exact hne (by omega) c0
      · have q1 := rw_mn (kl := kl) h hs hk (by omega : lo < j) hj
        have q2 := l2.2.2 lo (Nat.le_refl _) (by omega)
        exact hne (by omega) (by omega)
  by_cases c : lo < R.length
  · have st := st_75b xs w1 l1 c (k_71k (m := m) (by omega : 20 < f) h c hk hK)
    by_cases d : vCmp ((R.getD lo dRw).1.take kl.length) kl = 0
    · rw [if_pos d] at st
      refine ⟨_, st, .inr ⟨lo, rfl, c, vCmp_eq (by rw [List.length_take, (hR lo c).1]; omega) d, fun i hi e => ?_⟩⟩
      have := l2.2.1 i hi
      rw [e, vCmp_self] at this
      omega
    · rw [if_neg d] at st
      exact ⟨_, st, .inl ⟨rfl, nm (fun _ => d)⟩⟩
  · exact ⟨_, st_75a xs w1 l1 (by omega), .inl ⟨rfl, nm (fun q => absurd q c)⟩⟩
/-- at() -/
theorem st_70 {z e : Nat} {w1 : Int} (xs : S x = (1, 5, 4)) (cs : S (x + 1) = (2, 4, z)) (w0 : G x 0 = w1) (w2 : G x 2 = ((x + 1 : Nat) : Int)) (ee : xwr ((xwr ((i : Int) * w1)) + (c : Int)) = (e : Int)) (he : e < z) (hv : G (x + 1) e = v) : c70 f x (i : Int) (c : Int) (S, G, m) = some (v, (S, G, m)) := by
  unfold c70
  simp (disch := omega) only [cq_gi, cq_gr, cq_a, cq_s, cq_p, cq_pr, cq_is, cq_ar, cq_ab, cq_ln, xq_nz, Option.bind_some, xup2_n, xup2_s, Int.toNat_natCast, Int.reduceToNat, if_pos, if_neg, true_and, and_true, and_self, eq_self, if_true, reduceIte, not_true_eq_false, not_false_eq_true, or_true, true_or, xs, cs, w0, w2, ee, hv]
theorem k_70 (h : cRw S G x W cap R) (hi : i < R.length) (hc : c < W) : c70 f x (i : Int) (c : Int) (S, G, m) = some ((R.getD i dRw).1.getD c 0, (S, G, m)) := by
  obtain ⟨xs, ⟨z, cs, z1, z2⟩, _, ⟨w0, w1, w2, w3⟩, hl, hcap, hW, hR⟩ := id h
  obtain ⟨b1, b2⟩ := ix_b h hi hc
  exact st_70 xs cs w0 w2 (ix_e rfl b1) (b2 z z1) ((hR i hi).2.1 c hc)
theorem k_69 (xs : S x = (1, 5, 4)) : c69 f x v (S, G, m) = some (S, xup2 (xup2 G x 0 v) x 1 0, m) := by
  unfold c69
  simp (disch := omega) only [cq_gi, cq_gr, cq_a, cq_s, cq_p, cq_pr, cq_is, cq_ar, cq_ab, cq_ln, xq_nz, Option.bind_some, xup2_n, xup2_s, Int.toNat_natCast, Int.reduceToNat, if_pos, if_neg, true_and, and_true, and_self, eq_self, if_true, reduceIte, not_true_eq_false, not_false_eq_true, or_true, true_or, xs]
/-- read() -/
theorem st_78 {e : Nat} {T : xT_} (xs : S x = (1, 5, 4)) (w0 : G x 0 = (W : Int)) (w2 : G x 2 = ((x + 1 : Nat) : Int)) (ee : xwr ((i : Int) * (W : Int)) = (e : Int)) (ec : cq_cp (x + 1) (e : Int) a 0 (W : Int) (S, G, m) = some T) : c78 f x (i : Int) a (S, G, m) = some T := by
  unfold c78
  simp (disch := omega) only [cq_gi, cq_gr, cq_a, cq_s, cq_p, cq_pr, cq_is, cq_ar, cq_ab, cq_ln, xq_nz, Option.bind_some, xup2_n, xup2_s, Int.toNat_natCast, Int.reduceToNat, if_pos, if_neg, true_and, and_true, and_self, eq_self, if_true, reduceIte, not_true_eq_false, not_false_eq_true, or_true, true_or, xs, w0, w2, ee, ec]
theorem k_78 (h : cRw S G x W cap R) (hi : i < R.length) (as : S a = (2, 4, kz)) (hkz : W ≤ kz) (hax : a ≠ x + 1) : ∃ G', c78 f x (i : Int) a (S, G, m) = some (S, G', m) ∧ (∀ b j, ¬ (b = a ∧ j < W) → G' b j = G b j) ∧ ∀ c, c < W → G' a c = (R.getD i dRw).1.getD c 0 := by
  obtain ⟨xs, ⟨z, cs, z1, z2⟩, _, ⟨w0, w1, w2, w3⟩, hl, hcap, hW, hR⟩ := id h
  have hb : i * W + W ≤ z := by
    have h1 : (i + 1) * W ≤ cap * W := Nat.mul_le_mul_right _ (by omega)
    rw [Nat.succ_mul] at h1
    omega
  have ee : xwr ((i : Int) * (W : Int)) = ((i * W : Nat) : Int) := by
    have e1 : (i : Int) * (W : Int) = ((i * W : Nat) : Int) := by rw [Int.natCast_mul]
    rw [e1]
    exact xwr_g _ (by omega) (by omega)
  have ec := cp_ok (G := G) (m := m) (sp := i * W) (dp := 0) (n := W) cs as (.inr rfl) (by omega) (by omega)
  refine ⟨_, st_78 xs w0 w2 ee ec, fun b j hn => ?_, fun c hc => ?_⟩
  · by_cases cb : b = a
    · rw [cb]
      exact cpG_o (fun q => hn ⟨cb, by omega⟩)
    · exact cpG_n cb
  · rw [cpG_i (Nat.zero_le _) (by omega), Nat.sub_zero]
    exact (hR i hi).2.1 c hc
end
end
