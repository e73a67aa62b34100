/-! THE CLASS reads rules: the LITERALS -/
theorem pLit_len {t : tStr} {tell : Bool} {F : Nat} {s s' : pRs} (h : pLit t tell F s = .inr s') : s'.2.2.1.length = s.2.2.1.length + 1 := (pLit_le h).1
def c43_169t (r169 : Nat → Int → Int → xT_ → Option ((Nat ⊕ Unit) × xT_)) (f : Nat) (x0 : Nat) (x3 : Int) (R163 : ((Nat ⊕ Unit) × xT_)) : Option ((Nat ⊕ Unit) × xT_) := cth R163 (fun _ => r169 (x0) (44) (xwr ((x3) + (1))) R163.2)
theorem c43_169t_e (r169 : Nat → Int → Int → xT_ → Option ((Nat ⊕ Unit) × xT_)) (f : Nat) (x0 : Nat) (x2 : Int) (x3 : Int) (T : xT_) : c43_169b r169 f x0 x2 x3 T = (if (8) < (x3) then c43_208  f (x0) T else ((cq_gr 4 0 20 (x0) T).bind fun v148 => ((cq_gr 8 3 8 (v148) T).bind fun v150 => ((cq_gi 4 1 20 (x0) T).bind fun v152 => ((cq_a 3 (v150) (v152) T).bind fun v154 => (if ¬ (v154) = (x2) then c43_208  f (x0) T else ((cq_is 4 20 (x0) T).bind fun _ => ((c37 f (x0) T).bind fun R157 => ((cq_is 4 20 (x0) R157).bind fun _ => ((c45 f (x0) R157).bind fun R163 => c43_169t r169 f x0 x3 R163)))))))))) := rfl
section
variable {f n N w i i' u q l F i0 sl p : Nat} {S S' : Nat → Nat × Nat × Nat} {G G1 G2 G' G'' : xG_} {m : Nat × Nat} {B : Nat → Int} {t : tStr} {V V' : List (Int × Nat)} {K K' : pCd} {tell : Bool} {M : List pMn} {x : Nat} {k jo : Int}
theorem st_169a {r : Nat → Int → Int → xT_ → Option ((Nat ⊕ Unit) × xT_)} {c : Nat} (hc : c ≤ 8) (hs : cSs S) (hp : cPs G) (hx : x ≤ 3000) (k1 : G 67 x = k) (k3 : G 72 1 = (x : Int)) (hk : k ≠ jo) : c43_169b r f 72 jo (c : Int) (S, G, m) = c43_208 f 72 (S, G, m) := by
  unfold c43_169b
  simp (disch := omega) only [cq_gi, cq_gr, cq_a, cq_s, cq_p, cq_pr, cq_is, cq_ar, cq_ab, cq_ln, xq_nz, Option.bind_some, xup2_n, xup2_s, Int.toNat_natCast, Int.reduceToNat, if_pos, if_neg, true_and, and_true, and_self, eq_self, if_true, reduceIte, not_true_eq_false, not_false_eq_true, or_true, true_or, s72 hs, s65 hs, s67 hs, p72_0 hp, p65_3 hp, k1, k3]
theorem st_169b {r : Nat → Int → Int → xT_ → Option ((Nat ⊕ Unit) × xT_)} {c : Nat} (hc : c ≤ 8) (hs : cSs S) (hp : cPs G) (hx : x ≤ 3000) (k1 : G 67 x = jo) (k3 : G 72 1 = (x : Int)) (d1 : c37 f 72 (S, G, m) = some (S, G1, m)) : c43_169b r f 72 jo (c : Int) (S, G, m) = ((c45 f 72 (S, G1, m)).bind fun R => c43_169t r f 72 (c : Int) R) := by
  rw [c43_169t_e]
  simp (disch := omega) only [cq_gi, cq_gr, cq_a, cq_s, cq_p, cq_pr, cq_is, cq_ar, cq_ab, cq_ln, xq_nz, Option.bind_some, xup2_n, xup2_s, Int.toNat_natCast, Int.reduceToNat, if_pos, if_neg, true_and, and_true, and_self, eq_self, if_true, reduceIte, not_true_eq_false, not_false_eq_true, or_true, true_or, s72 hs, s65 hs, s67 hs, p72_0 hp, p65_3 hp, k1, k3, d1]
/-- one TOKEN on -/
theorem cRL.at {s : pRs} {j : Nat} (h : cRL S G B n t N w q u tell s K i0) (h1 : cAt (xup2 G 72 1 ((min j N : Nat) : Int)) N w j) (h2 : j ≤ N) (h3 : s.2.2.2.2 ≤ j) : cRL S (xup2 G 72 1 ((min j N : Nat) : Int)) B n t N w q u tell (s.1, s.2.1, s.2.2.1, s.2.2.2.1, j) K i0 ∧ xF2 tell q u G (xup2 G 72 1 ((min j N : Nat) : Int)) := by
  obtain ⟨g1, g2, g3, g4, g5, g6, g7, g8⟩ := h
  have hu := g1.2.2.2.1.2.1
  obtain ⟨y1, y2⟩ := g1.at h1 h2
  have z : cLs (xup2 G 72 1 ((min j N : Nat) : Int)) u (K ++ []) s.2.2.1 := g6.fs (sl := 0) (fun a j z1 z2 z3 z4 z5 => xup2_n (fun y => z1 ⟨y.1, .inl y.2⟩)) hu (.inr (by decide))
  rw [List.append_nil] at z
  exact ⟨⟨y2, g2.at, g3, at_m g4, fun z => ⟨(g5 z).1.at g2.2.1, (g5 z).2⟩, z, by show 3 * s.2.2.2.1.length ≤ j; omega, by show K.length + i0 ≤ j; omega⟩, y1.f1.f2⟩
/-- LITERALS behind the joint -/
theorem k_169 (hf : 3010 < f) (hok : tOk t) (hvi : vIn t B n) (hF : 4 * N + 2 ≤ F) : ∀ (k c fu : Nat) (s : pRs) (G : xG_) (K : pCd), c + k = 10 → s.2.2.1.length = c → k < fu → cRL S G B n t N w q u tell s K i0 → pok (pLits t tell F k s) (fun x => ∃ G', c43_169 f fu 72 44 (c : Int) (S, G, m) = some (.inl 0, cWr S G' m (x : Int)) ∧ xF2 tell q u G G') (fun s' => ∃ G' K', c43_169 f fu 72 44 (c : Int) (S, G, m) = c43_208 f 72 (S, G', m) ∧ xF2 tell q u G G' ∧ (∃ D, K' = K ++ D) ∧ cRL S G' B n t N w q u tell s' K' i0) := by
  intro k
  induction k with
  | zero =>
    intro c fu s G K h1 h2 h3 h
    have := h.2.2.2.2.2.1.2.1
    omega
  | succ k ih =>
    intro c fu s G K h1 h2 h3 h
    obtain ⟨fu, rfl⟩ : ∃ t, fu = t + 1 := ⟨fu - 1, by omega⟩
    have hc8 : c ≤ 8 := by have := h.2.2.2.2.2.1.2.1; omega
    have hs := h.1.1.1
    have hp := h.1.1.2.1
    obtain ⟨k1, k2, k3, k4⟩ := h.1.1.tk h.1.2.1
    unfold pLits
    by_cases c44 : kK t s.2.2.2.2 = 44
    · rw [if_pos c44]
      rw [c44] at k1
      obtain ⟨l1, l2⟩ := h.1.1.lt h.1.2.1 (by omega)
      obtain ⟨d1, d2⟩ := k_37 (f := f) (m := m) h.1.1 h.1.2.1 (by omega)
      obtain ⟨r1, r2⟩ := h.at d2 (by omega) (by omega)
      have e0 : c43_169 f (fu + 1) 72 44 (c : Int) (S, G, m) = _ := st_169b (r := c43_169 f fu) hc8 hs hp k4 k1 k3 d1
      have p := k_45 (f := f) (m := m) hf hok hvi hF r1
      rw [e0]
      cases hl : pLit t tell F (s.1, s.2.1, s.2.2.1, s.2.2.2.1, s.2.2.2.2 + 1) with
      | inl x =>
        rw [hl] at p
        obtain ⟨G1, a1, a2⟩ := p
        exact ⟨G1, by rw [a1]; rfl, r2.tr a2⟩
      | inr s' =>
        rw [hl] at p
        obtain ⟨G1, K1, a1, a2, ⟨D1, hD1⟩, a3⟩ := p
        have hlen := pLit_len hl
        have hlen' : s'.2.2.1.length = c + 1 := by rw [hlen]; show s.2.2.1.length + 1 = c + 1; omega
        have ek : xwr ((c : Int) + 1) = ((c + 1 : Nat) : Int) := by rw [xwr_g _ (by omega) (by omega)]; omega
        have q := ih (c + 1) fu s' G1 K1 (by omega) hlen' (by omega) a3
        have e1 : ((c45 f 72 (S, xup2 G 72 1 ((min (s.2.2.2.2 + 1) N : Nat) : Int), m)).bind fun R => c43_169t (c43_169 f fu) f 72 (c : Int) R) = c43_169 f fu 72 44 ((c + 1 : Nat) : Int) (S, G1, m) := by
          rw [a1, ← ek]; rfl
        rw [e1]
        show pok (pLits t tell F k s') _ _
        cases hz : pLits t tell F k s' with
        | inl x =>
          rw [hz] at q
          obtain ⟨G2, y1, y2⟩ := q
          exact ⟨G2, y1, (r2.tr a2).tr y2⟩
        | inr z =>
          rw [hz] at q
          obtain ⟨G2, K2, y1, y2, ⟨D2, hD2⟩, y3⟩ := q
          exact ⟨G2, K2, y1, (r2.tr a2).tr y2, ⟨D1 ++ D2, by rw [hD2, hD1, List.append_assoc]⟩, y3⟩
    · rw [if_neg c44]
      exact ⟨G, K, st_169a (r := c43_169 f fu) hc8 hs hp k4 k1 k3 c44, .id, ⟨[], (List.append_nil K).symm⟩, h⟩
/-- the body of a rule -/
theorem k_169a (hf : 3010 < f) (hok : tOk t) (hvi : vIn t B n) (hF : 4 * N + 2 ≤ F) {s : pRs} (h0 : s.2.2.1 = []) (h : cRL S G B n t N w q u tell s K i0) : pok (if kK t s.2.2.2.2 = 256 then pbind (pLit t tell F (s.1, s.2.1, s.2.2.1, s.2.2.2.1, s.2.2.2.2 + 1)) (pLits t tell F 9) else .inr s) (fun x => ∃ G', c43_169 f f 72 256 0 (S, G, m) = some (.inl 0, cWr S G' m (x : Int)) ∧ xF2 tell q u G G') (fun s' => ∃ G' K', c43_169 f f 72 256 0 (S, G, m) = c43_208 f 72 (S, G', m) ∧ xF2 tell q u G G' ∧ (∃ D, K' = K ++ D) ∧ cRL S G' B n t N w q u tell s' K' i0) := by
  obtain ⟨fu, rfl⟩ : ∃ t, f = t + 1 := ⟨f - 1, by omega⟩
  have hs := h.1.1.1
  have hp := h.1.1.2.1
  obtain ⟨k1, k2, k3, k4⟩ := h.1.1.tk h.1.2.1
  by_cases c : kK t s.2.2.2.2 = 256
  · rw [if_pos c]
    rw [c] at k1
    obtain ⟨l1, l2⟩ := h.1.1.lt h.1.2.1 (by omega)
    obtain ⟨d1, d2⟩ := k_37 (f := fu + 1) (m := m) h.1.1 h.1.2.1 (by omega)
    obtain ⟨r1, r2⟩ := h.at d2 (by omega) (by omega)
    have e0 : c43_169 (fu + 1) (fu + 1) 72 256 0 (S, G, m) = ((c45 (fu + 1) 72 (S, xup2 G 72 1 ((min (s.2.2.2.2 + 1) N : Nat) : Int), m)).bind fun R => c43_169t (c43_169 (fu + 1) fu) (fu + 1) 72 ((0 : Nat) : Int) R) := st_169b (r := c43_169 (fu + 1) fu) (c := 0) (by omega) hs hp k4 k1 k3 d1
    have p := k_45 (f := fu + 1) (m := m) hf hok hvi hF r1
    rw [e0]
    cases hl : pLit t tell F (s.1, s.2.1, s.2.2.1, s.2.2.2.1, s.2.2.2.2 + 1) with
    | inl x =>
      rw [hl] at p
      obtain ⟨G1, a1, a2⟩ := p
      exact ⟨G1, by rw [a1]; rfl, r2.tr a2⟩
    | inr s' =>
      rw [hl] at p
      obtain ⟨G1, K1, a1, a2, ⟨D1, hD1⟩, a3⟩ := p
      have hlen := pLit_len hl
      have hlen' : s'.2.2.1.length = 1 := by rw [hlen]; show s.2.2.1.length + 1 = 1; rw [h0]; rfl
      have q := k_169 (f := fu + 1) (m := m) hf hok hvi hF 9 1 fu s' G1 K1 rfl hlen' (by omega) a3
      have e1 : ((c45 (fu + 1) 72 (S, xup2 G 72 1 ((min (s.2.2.2.2 + 1) N : Nat) : Int), m)).bind fun R => c43_169t (c43_169 (fu + 1) fu) (fu + 1) 72 ((0 : Nat) : Int) R) = c43_169 (fu + 1) fu 72 44 ((1 : Nat) : Int) (S, G1, m) := by
        rw [a1]; rfl
      rw [e1]
      show pok (pLits t tell F 9 s') _ _
      cases hz : pLits t tell F 9 s' with
      | inl x =>
        rw [hz] at q
        obtain ⟨G2, y1, y2⟩ := q
        exact ⟨G2, y1, (r2.tr a2).tr y2⟩
      | inr z =>
        rw [hz] at q
        obtain ⟨G2, K2, y1, y2, ⟨D2, hD2⟩, y3⟩ := q
        exact ⟨G2, K2, y1, (r2.tr a2).tr y2, ⟨D1 ++ D2, by rw [hD2, hD1, List.append_assoc]⟩, y3⟩
  · rw [if_neg c]
    exact ⟨G, K, st_169a (r := c43_169 (fu + 1) fu) (c := 0) (by omega) hs hp k4 k1 k3 c, .id, ⟨[], (List.append_nil K).symm⟩, h⟩
end
