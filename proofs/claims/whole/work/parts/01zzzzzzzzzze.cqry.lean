/-! THE CLASS: readQuery() -/
def c31_16t (r16 : Nat → Int → xT_ → Option ((Nat ⊕ Unit) × xT_)) (f : Nat) (x0 : Nat) (x2 : Int) (R164 : ((Nat ⊕ Unit) × xT_)) : Option ((Nat ⊕ Unit) × xT_) := cth R164 (fun _ => r16 (x0) (xwr ((x2) + (1))) R164.2)
theorem c31_16t_e (r16 : Nat → Int → xT_ → Option ((Nat ⊕ Unit) × xT_)) (f : Nat) (x0 : Nat) (x2 : Int) (T : xT_) : c31_16b r16 f x0 x2 T = (if (8) < (x2) then c31_53  f (x0) T else ((cq_gr 4 0 20 (x0) T).bind fun v149 => ((cq_gr 8 3 8 (v149) T).bind fun v151 => ((cq_gi 4 1 20 (x0) T).bind fun v153 => ((cq_a 3 (v151) (v153) T).bind fun v155 => (if ¬ (v155) = (44) then c31_53  f (x0) T else ((cq_is 4 20 (x0) T).bind fun _ => ((c37 f (x0) T).bind fun R158 => ((cq_is 4 20 (x0) R158).bind fun _ => ((c45 f (x0) R158).bind fun R164 => c31_16t r16 f x0 x2 R164)))))))))) := rfl
def c31_53t (f : Nat) (x0 : Nat) (R115 : ((Nat ⊕ Unit) × xT_)) : Option ((Nat ⊕ Unit) × xT_) := cth R115 (fun _ => ((cq_gr 4 0 20 (x0) R115.2).bind fun v123 => ((cq_gr 8 3 8 (v123) R115.2).bind fun v125 => ((cq_gi 4 1 20 (x0) R115.2).bind fun v127 => ((cq_a 3 (v125) (v127) R115.2).bind fun v129 => (if (v129) = 0 then c31_90  f (x0) R115.2 else ((cq_gr 4 0 20 (x0) R115.2).bind fun v132 => ((cq_gr 8 4 8 (v132) R115.2).bind fun v134 => ((cq_gi 4 1 20 (x0) R115.2).bind fun v136 => ((cq_a 3 (v134) (v136) R115.2).bind fun v138 => ((cq_is 4 20 (x0) R115.2).bind fun _ => ((c36 f (x0) (v138) R115.2).bind fun R140 => cth R140 (fun _ => c31_90  f (x0) R140.2)))))))))))))
theorem c31_53t_e (f : Nat) (x0 : Nat) (T : xT_) : c31_53 f x0 T = ((cq_is 4 20 (x0) T).bind fun _ => ((c38 f (x0) (46) T).bind fun R115 => c31_53t f x0 R115)) := rfl
def c31a (f : Nat) (a0 : Nat) (R178 : (xT_)) : Option ((Nat ⊕ Unit) × xT_) := ((cq_is 4 20 (a0) R178).bind fun _ => ((c45 f (a0) R178).bind fun R184 => cth R184 (fun _ => c31_16  f f (a0) (0) R184.2)))
theorem c31a_e (f : Nat) (a0 : Nat) (a1 : Nat) (T : xT_) : c31 f a0 a1 T = ((cq_is 4 20 (a0) T).bind fun _ => ((c34 f (a0) (a1) (0) T).bind fun R172 => ((cq_is 4 20 (a0) R172).bind fun _ => ((c35 f (a0) R172).bind fun R178 => c31a f a0 R178)))) := rfl
def c31b (f : Nat) (a0 : Nat) (R184 : ((Nat ⊕ Unit) × xT_)) : Option ((Nat ⊕ Unit) × xT_) := cth R184 (fun _ => c31_16  f f (a0) (0) R184.2)
theorem c31b_e (f : Nat) (a0 : Nat) (R178 : (xT_)) : c31a f a0 R178 = ((cq_is 4 20 (a0) R178).bind fun _ => ((c45 f (a0) R178).bind fun R184 => c31b f a0 R184)) := rfl
section
variable {f n N w i i' u q l F i0 sl p : Nat} {S S' : Nat → Nat × Nat × Nat} {G G1 G2 G' G'' : xG_} {m : Nat × Nat} {B : Nat → Int} {t : tStr} {V V' : List (Int × Nat)} {K K' : pCd} {M : List pMn} {x : Nat} {k : Int} {L : List Int}
theorem st_31a {r : Nat → Int → xT_ → Option ((Nat ⊕ Unit) × xT_)} {c : Nat} (hc : c ≤ 8) (hs : cSs S) (hp : cPs G) (hx : x ≤ 3000) (k1 : G 67 x = k) (k3 : G 72 1 = (x : Int)) (hk : k ≠ 44) : c31_16b r f 72 (c : Int) (S, G, m) = c31_53 f 72 (S, G, m) := by
  unfold c31_16b
  simp (disch := omega) only [cq_gi, cq_gr, cq_a, cq_s, cq_p, cq_pr, cq_is, cq_ar, cq_ab, cq_ln, xq_nz, Option.bind_some, xup2_n, xup2_s, Int.toNat_natCast, Int.reduceToNat, if_pos, if_neg, true_and, and_true, and_self, eq_self, if_true, reduceIte, not_true_eq_false, not_false_eq_true, or_true, true_or, s72 hs, s65 hs, s67 hs, p72_0 hp, p65_3 hp, k1, k3]
theorem st_31b {r : Nat → Int → xT_ → Option ((Nat ⊕ Unit) × xT_)} {c : Nat} (hc : c ≤ 8) (hs : cSs S) (hp : cPs G) (hx : x ≤ 3000) (k1 : G 67 x = 44) (k3 : G 72 1 = (x : Int)) (d1 : c37 f 72 (S, G, m) = some (S, G1, m)) : c31_16b r f 72 (c : Int) (S, G, m) = ((c45 f 72 (S, G1, m)).bind fun R => c31_16t r f 72 (c : Int) R) := by
  rw [c31_16t_e]
  simp (disch := omega) only [cq_gi, cq_gr, cq_a, cq_s, cq_p, cq_pr, cq_is, cq_ar, cq_ab, cq_ln, xq_nz, Option.bind_some, xup2_n, xup2_s, Int.toNat_natCast, Int.reduceToNat, if_pos, if_neg, true_and, and_true, and_self, eq_self, if_true, reduceIte, not_true_eq_false, not_false_eq_true, or_true, true_or, s72 hs, s65 hs, s67 hs, p72_0 hp, p65_3 hp, k1, k3, d1]
/-- further LITERALS -/
theorem k_31l (hf : 3010 < f) (hok : tOk t) (hvi : vIn t B n) (hF : 4 * N + 2 ≤ F) : ∀ (k c fu : Nat) (s : pRs) (G : xG_) (K : pCd), c + k = 9 → s.2.2.1.length = c + 1 → k < fu → cRL S G B n t N w q u false s K i0 → pok (pLits t false F k s) (fun x => ∃ G', c31_16 f fu 72 (c : Int) (S, G, m) = some (.inl 0, cWr S G' m (x : Int)) ∧ xF2 false q u G G') (fun s' => ∃ G' K', c31_16 f fu 72 (c : Int) (S, G, m) = c31_53 f 72 (S, G', m) ∧ xF2 false q u G G' ∧ (∃ D, K' = K ++ D) ∧ cRL S G' B n t N w q u false s' K' i0) := by
  intro k
  induction k with
  | zero =>
    intro c fu s G K h1 h2 h3 h
    have := h.2.2.2.2.2.1.2.1
    omega
  | succ k ih =>
    intro c fu s G K h1 h2 h3 h
    obtain ⟨fu, rfl⟩ : ∃ t, fu = t + 1 := ⟨fu - 1, by omega⟩
    have hc8 : c ≤ 8 := by have := h.2.2.2.2.2.1.2.1; omega
    have hs := h.1.1.1
    have hp := h.1.1.2.1
    obtain ⟨k1, k2, k3, k4⟩ := h.1.1.tk h.1.2.1
    unfold pLits
    by_cases c44 : kK t s.2.2.2.2 = 44
    · rw [if_pos c44]
      rw [c44] at k1
      obtain ⟨l1, l2⟩ := h.1.1.lt h.1.2.1 (by omega)
      obtain ⟨d1, d2⟩ := k_37 (f := f) (m := m) h.1.1 h.1.2.1 (by omega)
      obtain ⟨r1, r2⟩ := h.at d2 (by omega) (by omega)
      have e0 : c31_16 f (fu + 1) 72 (c : Int) (S, G, m) = _ := st_31b (r := c31_16 f fu) hc8 hs hp k4 k1 k3 d1
      have p := k_45 (f := f) (m := m) hf hok hvi hF r1
      rw [e0]
      cases hl : pLit t false F (s.1, s.2.1, s.2.2.1, s.2.2.2.1, s.2.2.2.2 + 1) with
      | inl x =>
        rw [hl] at p
        obtain ⟨G1, a1, a2⟩ := p
        exact ⟨G1, by rw [a1]; rfl, r2.tr a2⟩
      | inr s' =>
        rw [hl] at p
        obtain ⟨G1, K1, a1, a2, ⟨D1, hD1⟩, a3⟩ := p
        have hlen := pLit_len hl
        have hlen' : s'.2.2.1.length = c + 1 + 1 := by rw [hlen]; show s.2.2.1.length + 1 = c + 1 + 1; omega
        have ek : xwr ((c : Int) + 1) = ((c + 1 : Nat) : Int) := by rw [xwr_g _ (by omega) (by omega)]; omega
        have q := ih (c + 1) fu s' G1 K1 (by omega) hlen' (by omega) a3
        have e1 : ((c45 f 72 (S, xup2 G 72 1 ((min (s.2.2.2.2 + 1) N : Nat) : Int), m)).bind fun R => c31_16t (c31_16 f fu) f 72 (c : Int) R) = c31_16 f fu 72 ((c + 1 : Nat) : Int) (S, G1, m) := by
          rw [a1, ← ek]; rfl
        rw [e1]
        show pok (pLits t false F k s') _ _
        cases hz : pLits t false F k s' with
        | inl x =>
          rw [hz] at q
          obtain ⟨G2, y1, y2⟩ := q
          exact ⟨G2, y1, (r2.tr a2).tr y2⟩
        | inr z =>
          rw [hz] at q
          obtain ⟨G2, K2, y1, y2, ⟨D2, hD2⟩, y3⟩ := q
          exact ⟨G2, K2, y1, (r2.tr a2).tr y2, ⟨D1 ++ D2, by rw [hD2, hD1, List.append_assoc]⟩, y3⟩
    · rw [if_neg c44]
      exact ⟨G, K, st_31a (r := c31_16 f fu) hc8 hs hp k4 k1 k3 c44, .id, ⟨[], (List.append_nil K).symm⟩, h⟩
theorem st_53 {Rr : (Nat ⊕ Unit) × xT_} (hs : cSs S) (e : c38 f 72 46 (S, G, m) = some Rr) : c31_53 f 72 (S, G, m) = c31_53t f 72 Rr := by
  rw [c31_53t_e]
  simp (disch := omega) only [cq_gi, cq_gr, cq_a, cq_s, cq_p, cq_pr, cq_is, cq_ar, cq_ab, cq_ln, xq_nz, Option.bind_some, xup2_n, xup2_s, Int.toNat_natCast, Int.reduceToNat, if_pos, if_neg, true_and, and_true, and_self, eq_self, if_true, reduceIte, not_true_eq_false, not_false_eq_true, or_true, true_or, s72 hs, e]
theorem st_53w {b : Int} (hs : cSs S) (hp : cPs G) (hx : x ≤ 3000) (k1 : G 67 x = k) (k2 : G 68 x = b) (k3 : G 72 1 = (x : Int)) (hk : k ≠ 0) : c31_53t f 72 (.inr (), (S, G, m)) = some (.inl 0, cWr S G m b) := by
  unfold c31_53t
  simp (disch := omega) only [cq_gi, cq_gr, cq_a, cq_s, cq_p, cq_pr, cq_is, cq_ar, cq_ab, cq_ln, xq_nz, Option.bind_some, xup2_n, xup2_s, Int.toNat_natCast, Int.reduceToNat, if_pos, if_neg, true_and, and_true, and_self, eq_self, if_true, reduceIte, not_true_eq_false, not_false_eq_true, or_true, true_or, s72 hs, s65 hs, s67 hs, s68 hs, p72_0 hp, p65_3 hp, p65_4 hp, k1, k2, k3, cth, k_36 hs]
theorem st_53g {kl : Nat} {T : xT_} (hs : cSs S) (hp : cPs G) (hx : x ≤ 3000) (k1 : G 67 x = 0) (k3 : G 72 1 = (x : Int)) (us : S u = (1, 6, 20)) (hu : 278 < u) (u1 : G 72 5 = (u : Int)) (h9 : G 72 9 = (kl : Int)) (e : c88 f u 73 74 (kl : Int) (S, G, m) = some T) : c31_53t f 72 (.inr (), (S, G, m)) = some (.inr (), T) := by
  unfold c31_53t c31_90
  simp (disch := omega) only [cq_gi, cq_gr, cq_a, cq_s, cq_p, cq_pr, cq_is, cq_ar, cq_ab, cq_ln, xq_nz, Option.bind_some, xup2_n, xup2_s, Int.toNat_natCast, Int.reduceToNat, if_pos, if_neg, true_and, and_true, and_self, eq_self, if_true, reduceIte, not_true_eq_false, not_false_eq_true, or_true, true_or, s72 hs, s65 hs, s67 hs, p72_0 hp, p72_7 hp, p72_8 hp, p65_3 hp, k1, k3, cth, us, u1, h9, e]
/-- the end of a QUERY -/
theorem k_53e (hf : 3010 < f) {s : pRs} (h : cRL S G B n t N w q u false s K i0) (hI : cIt G u K (0, -1, -1) []) (hz : ∀ k, k < 8 → G (u + 9) k = 0) (hwf : ∀ y ∈ s.2.2.1, wLv s.2.1.length y) :
    pok (pbind (pNeed t 46 s.2.2.2.2) fun i => if kK t i = 0 then (.inr (s.1, s.2.1, s.2.2.1, s.2.2.2.1, i) : Nat ⊕ pRs) else .inl (kS t i)) (fun x => ∃ G', c31_53 f 72 (S, G, (u + 11, sl)) = some (.inl 0, cWr S G' (u + 11, sl) (x : Int)) ∧ ∀ a j, ¬ (a = 72 ∧ j = 1) → G' a j = G a j)
      (fun s' => ∃ S' G', c31_53 f 72 (S, G, (u + 11, sl)) = some (.inr (), (S', G', (u + 13, sl + 2 * K.length))) ∧ (∀ a, a < u → S' a = S a) ∧ (∀ a k, a < u → ¬ (a = 72 ∧ k = 1) → G' a k = G a k) ∧ s'.2.1 = s.2.1 ∧ s'.2.2.1 = s.2.2.1 ∧ s'.2.2.2.1 = s.2.2.2.1 ∧ cRul S' G' u s.2.1 (0, -1, -1) [] s.2.2.1) := by
  obtain ⟨g1, g2, g3, g4, g5, g6, g7, g8⟩ := h
  have hs := g1.1.1
  have hN := g1.1.2.2.2.1.2
  have hiN := g1.2.2.1
  obtain ⟨u1, u2, hrs, hrp⟩ := g1.2.2.2.1
  have p38 := k_38 (f := f) (m := (u + 11, sl)) (c := 46) (by decide) g1.1 g1.2.1
  cases hn : pNeed t 46 s.2.2.2.2 with
  | inl x =>
    rw [hn] at p38
    show ∃ G', _
    refine ⟨G, ?_, fun _ _ _ => rfl⟩
    rw [st_53 hs p38]
    rfl
  | inr j =>
    rw [hn] at p38
    obtain ⟨a1, a2, a3, a4⟩ := p38
    have hlt := (g1.1.lt g1.2.1 (by omega)).1
    obtain ⟨b1, b2⟩ := g1.at a4 (by omega)
    obtain ⟨G1, hG1⟩ : ∃ G1, G1 = xup2 G 72 1 ((min j N : Nat) : Int) := ⟨_, rfl⟩
    rw [← hG1] at a1 a4 b2
    have zG1 : ∀ a k, ¬ (a = 72 ∧ k = 1) → G1 a k = G a k := fun a k z => by rw [hG1, xup2_n z]
    obtain ⟨k1, k2, k3, k4⟩ := b2.1.tk a4
    show pok (if kK t j = 0 then (.inr (s.1, s.2.1, s.2.2.1, s.2.2.2.1, j) : Nat ⊕ pRs) else .inl (kS t j)) _ _
    by_cases c0 : kK t j = 0
    · rw [if_pos c0]
      rw [c0] at k1
      obtain ⟨S2, G2, e1, e2, e3, e4⟩ := k_88 (f := f) (sl := sl) (V := s.2.1) hf hs u2 hrs b2.2.2.2.1.2.2.2 (g6.rule (zG1 u 8 (by omega)) (fun a k _ _ => zG1 a k (by omega))) (hI.rule (fun k _ _ => zG1 u k (by omega)) (fun a k _ _ => zG1 a k (by omega))) b2.2.2.2.2.2.2 (by omega) ⟨b2.2.2.2.2.1.1, b2.2.2.2.2.1.2.1, fun v hv => (b2.2.2.2.2.1.2.2 v hv).2⟩ hwf (fun E hE => absurd hE (by simp)) (.inl rfl) (fun k hk => by rw [zG1 _ _ (by omega)]; exact hz k hk)
      have e6 := st_53g (f := f) (m := (u + 11, sl)) hs b2.1.2.1 k4 k1 k3 hrs.1 u2 b2.2.2.2.1.1 b2.2.2.2.2.2.2.1 e1
      exact ⟨S2, G2, by rw [st_53 hs a1, e6], fun a ha => e2 a (by omega), fun a k z z' => by rw [e3 a k (by omega) (by omega) (by omega) (by omega), zG1 a k z'], rfl, rfl, rfl, e4⟩
    · rw [if_neg c0]
      exact ⟨G1, by rw [st_53 hs a1, st_53w hs b2.1.2.1 k4 k1 k2 k3 c0], zG1⟩
end
