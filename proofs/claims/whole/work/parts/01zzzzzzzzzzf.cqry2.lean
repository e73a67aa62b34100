/-! THE CLASS: readQuery() whole -/
section
variable {f n N w i u q F sl : Nat} {S S' : Nat → Nat × Nat × Nat} {G G1 G2 G' : xG_} {m : Nat × Nat} {B : Nat → Int} {t : tStr} {L : List Int}
theorem st_31_0 {T : xT_} (hs : cSs S) (e : c35 f 72 (S, bUp G q 0, m) = some T) : c31 f 72 q (S, G, m) = c31a f 72 T := by
  rw [c31a_e]
  simp (disch := omega) only [cq_gi, cq_gr, cq_a, cq_s, cq_p, cq_pr, cq_is, cq_ar, cq_ab, cq_ln, xq_nz, Option.bind_some, xup2_n, xup2_s, Int.toNat_natCast, Int.reduceToNat, if_pos, if_neg, true_and, and_true, and_self, eq_self, if_true, reduceIte, not_true_eq_false, not_false_eq_true, or_true, true_or, s72 hs, k_34 hs (.inl rfl), e]
theorem st_31_1 (hs : S 72 = (1, 4, 20)) : c31a f 72 (S, G, m) = ((c45 f 72 (S, G, m)).bind fun R => c31b f 72 R) := by
  rw [c31b_e]
  simp (disch := omega) only [cq_gi, cq_gr, cq_a, cq_s, cq_p, cq_pr, cq_is, cq_ar, cq_ab, cq_ln, xq_nz, Option.bind_some, xup2_n, xup2_s, Int.toNat_natCast, Int.reduceToNat, if_pos, if_neg, true_and, and_true, and_self, eq_self, if_true, reduceIte, not_true_eq_false, not_false_eq_true, or_true, true_or, hs]
theorem xF2.R (h : xF2 false q u G G') : ∀ a j, a < u → ¬ (a = 72 ∧ (1 ≤ j ∧ j ≤ 6 ∨ j = 9 ∨ j = 12 ∨ j = 14)) → ¬ (73 ≤ a ∧ a ≤ 82) → G' a j = G a j := fun a j z1 z2 z3 => h a j (by omega) (by omega) (fun y => by cases y.1) (by omega) (by omega) (by omega)
theorem k_31 (hf : 3010 < f) (hok : tOk t) (hvi : vIn t B n) (hF : 4 * N + 2 ≤ F) (hE : cEv S G B n t N N) (hq : 82 < q) (hqu : q + 10 < u) (hu : 278 < u) (h1 : cPgS S q) (h2 : cPgP G q) (h3 : cNs G q L) :
    pok (pQuery t F L) (fun x => ∃ S' G' m', c31 f 72 q (S, G, (u, sl)) = some (.inl 0, cWr S' G' m' (x : Int)) ∧ (∀ a, a < u → S' a = S a) ∧ xFR u G G' ∧ m'.1 = u + 11 ∧ m'.2 = sl + 172)
      (fun s => ∃ S' G' sl', c31 f 72 q (S, G, (u, sl)) = some (.inr (), (S', G', (u + 13, sl'))) ∧ (∀ a, a < u → S' a = S a) ∧ xFR u G G' ∧ sl' ≤ sl + 6172 ∧ cRul S' G' u s.2.1 (0, -1, -1) [] s.2.2.1 ∧ G' 72 5 = (u : Int) ∧ cMe G' s.2.2.2.1 ∧ cPr0 S' G' q false L ∧ s.2.2.2.1.length ≤ 1000) := by
  have hs := hE.1
  have hN := hE.2.2.2.1.2
  obtain ⟨b1, b2, b3, b4, b5⟩ := bUp_s (G := G) (q := q) (b := 0)
  have z : ∀ a j, a ≠ 72 → bUp G q 0 a j = G a j := fun a j h => bUp_n a j (fun y => h y.1)
  have hE0 : cEv S (bUp G q 0) B n t N N := bUp_e hE
  have hA0 : cAt (bUp G q 0) N N 0 := ⟨by rw [b3, Nat.zero_min]; rfl, .inr rfl⟩
  obtain ⟨S1, G1, d1, d2, d3, d4, d5, d6, d7, d8⟩ := k_35 (f := f) (sl := sl) (G := bUp G q 0) hs hu
  have e1 := st_31_0 (q := q) hs d1
  have s72' : S1 72 = (1, 4, 20) := by rw [d2 _ (by omega)]; exact s72 hs
  rw [st_31_1 s72'] at e1
  obtain ⟨x1, hI1, hL1⟩ := cXr.new hu hE0 hA0 (Nat.zero_le _) d2 d3 d4 d5 d6 d7 d8
  have hr0 : cPr0 S (bUp G q 0) q false L := ⟨b1, hq, (fun y => by cases y), b2, h1, h2.ge (fun j _ _ _ => z q j (by omega)), h3.ge (z _ _ (by omega)) (fun j => z _ _ (by omega))⟩
  have hr1 : cPr0 S1 G1 q false L := hr0.sg (fun a z1 z2 => d2 a (by omega)) (d3 _ _ (by omega) (by omega)) (d3 _ _ (by omega) (by omega)) (fun j _ _ _ => d3 _ _ (by omega) (by omega)) (fun j => d3 _ _ (by omega) (by omega))
  have hM1 : cMe G1 [] := ⟨by rw [d3 _ _ (by omega) (by omega)]; exact b5, fun k hk => absurd hk (Nat.not_lt_zero k)⟩
  have hRL : cRL S1 G1 B n t N N q u false (L, [], [], [], 0) [] 0 := ⟨x1, hr1, hqu, hM1, (fun y => by cases y), hL1, Nat.le_refl _, Nat.le_refl _⟩
  have hz1 : ∀ k, k < 8 → G1 (u + 9) k = 0 := fun k _ => d6.2.2.2.2.2 _ _ (by omega) (by omega)
  have fr1 : xFR u G G1 := fun a j y1 y2 y3 => by rw [d3 a j y1 (by omega), bUp_n a j (by omega)]
  have p := k_45 (f := f) (m := (u + 11, sl + 172)) hf hok hvi hF hRL
  unfold pQuery
  cases hl : pLit t false F (L, [], [], [], 0) with
  | inl x =>
    rw [hl] at p
    obtain ⟨G2, a1, a2⟩ := p
    rw [a1, Option.bind_some] at e1
    exact ⟨S1, G2, _, e1, d2, fun a j y1 y2 y3 => by rw [a2.R a j y1 y2 y3, fr1 a j y1 y2 y3], rfl, rfl⟩
  | inr s1 =>
    rw [hl] at p
    obtain ⟨G2, K2, a1, a2, ⟨D1, hD1⟩, a3⟩ := p
    rw [a1, Option.bind_some] at e1
    have hlen : s1.2.2.1.length = 0 + 1 := pLit_len hl
    have w0 : wRs false (L, [], [], [], 0) := ⟨fun l hl => (by cases hl), fun q => absurd q (by decide), fun l hl => (by cases hl), fun q => absurd q (by decide)⟩
    have w1 := pLit_wf hok hl w0
    have p2 := k_31l (f := f) (m := (u + 11, sl + 172)) hf hok hvi hF 9 0 f s1 G2 K2 rfl hlen (by omega) a3
    show pok (pbind (pLits t false F 9 s1) _) _ _
    have e2 : c31 f 72 q (S, G, (u, sl)) = c31_16 f f 72 ((0 : Nat) : Int) (S1, G2, (u + 11, sl + 172)) := e1
    cases hz : pLits t false F 9 s1 with
    | inl x =>
      rw [hz] at p2
      obtain ⟨G3, y1, y2⟩ := p2
      exact ⟨S1, G3, _, e2.trans y1, d2, fun a j v1 v2 v3 => by rw [y2.R a j v1 v2 v3, a2.R a j v1 v2 v3, fr1 a j v1 v2 v3], rfl, rfl⟩
    | inr s2 =>
      rw [hz] at p2
      obtain ⟨G3, K3, y1, y2, ⟨D2, hD2⟩, y3⟩ := p2
      have w2 := pLits_wf hok hz w1
      have fr3 : xF2 false q u G1 G3 := a2.tr y2
      have hI3 : cIt G3 u K3 (0, -1, -1) [] := ⟨by rw [fr3 _ _ (by omega) (by omega) (fun y => by cases y.1) (by omega) (by omega) (by omega)]; exact hI1.1, by decide, fun c hc => absurd hc (Nat.not_lt_zero c), fun c h0 hc => by rw [fr3 _ _ (by omega) (by omega) (fun y => by cases y.1) (by omega) (by omega) (by omega), fr3 _ _ (by omega) (by omega) (fun y => by cases y.1) (by omega) (by omega) (by omega)]; exact hI1.2.2.2.1 c h0 hc, .inl ⟨rfl, by rw [fr3 _ _ (by omega) (by omega) (fun y => by cases y.1) (by omega) (by omega) (by omega)]; exact d6.2.1⟩⟩
      have hz3 : ∀ k, k < 8 → G3 (u + 9) k = 0 := fun k hk => by rw [fr3 _ _ (by omega) (by omega) (fun y => by cases y.1) (by omega) (by omega) (by omega)]; exact hz1 k hk
      have p3 := k_53e (f := f) (sl := sl + 172) hf y3 hI3 hz3 (fun y hy => (w2.1 y hy).lv)
      show pok (pbind (pNeed t 46 s2.2.2.2.2) _) _ _
      cases hw : (pbind (pNeed t 46 s2.2.2.2.2) fun i => if kK t i = 0 then (.inr (s2.1, s2.2.1, s2.2.2.1, s2.2.2.2.1, i) : Nat ⊕ pRs) else .inl (kS t i)) with
      | inl x =>
        rw [hw] at p3
        obtain ⟨G4, v1, v2⟩ := p3
        exact ⟨S1, G4, _, (e2.trans y1).trans v1, d2, fun a j o1 o2 o3 => by rw [v2 a j (by omega), fr3.R a j o1 o2 o3, fr1 a j o1 o2 o3], rfl, rfl⟩
      | inr s3 =>
        rw [hw] at p3
        obtain ⟨S4, G4, v1, v2, v3, v4, v5, v6, v7⟩ := p3
        have g8 := y3.2.2.2.2.2.2.2
        have gN := y3.1.2.2.1
        refine ⟨S4, G4, _, (e2.trans y1).trans v1, fun a ha => by rw [v2 a ha, d2 a ha], fun a j o1 o2 o3 => by rw [v3 a j o1 (by omega), fr3.R a j o1 o2 o3, fr1 a j o1 o2 o3], by omega, by rw [v4, v5]; exact v7, by rw [v3 _ _ (by omega) (by omega)]; exact y3.1.2.2.2.1.1, ?_, ?_, ?_⟩
        · rw [v6]
          exact y3.2.2.2.1.ge (v3 _ _ (by omega) (by omega)) (fun a j _ _ => v3 _ _ (by omega) (by omega))
        · have hL2 : s2.1 = L := (pLits_N hz).trans (pLit_N hl)
          have := y3.2.1
          rw [hL2] at this
          exact this.sg (fun a _ _ => v2 a (by omega)) (v3 _ _ (by omega) (by omega)) (v3 _ _ (by omega) (by omega)) (fun j _ _ _ => v3 _ _ (by omega) (by omega)) (fun j => v3 _ _ (by omega) (by omega))
        · rw [v6]
          have := y3.2.2.2.2.2.2.1
          omega
end
