/-! THE CLASS reads FORMULAS: what gathers -/
theorem pok_m {α : Type} {x : Nat ⊕ α} {P P' : Nat → Prop} {Q Q' : α → Prop} (h : pok x P Q) (h1 : ∀ w, P w → P' w) (h2 : ∀ a, Q a → Q' a) : pok x P' Q' := by
  cases x with
  | inl w => exact h1 w h
  | inr a => exact h2 a h
section
variable {f n N w i it hh b : Nat} {S : Nat → Nat × Nat × Nat} {G G' G'' : xG_} {m : Nat × Nat} {B : Nat → Int} {t : tStr} {K K' : pCd} {st st' : List Int} {N0 : List pNd}
theorem ky_38 {c : Int} (hc : c ≠ 5 ∧ c ≠ 0) (h : cYs S G B n t N w K st i) : pok (pNeed t c i) (fun x => c38 f 72 c (S, G, m) = some (.inl 0, cWr S G m (x : Int))) (fun j => ∃ G', c38 f 72 c (S, G, m) = some (.inr (), (S, G', m)) ∧ xY hh G G' ∧ cYs S G' B n t N w K st j ∧ j = i + 1) := by
  have p := k_38 (f := f) (m := m) hc.1 h.1 h.2.1
  cases hn : pNeed t c i with
  | inl x => rw [hn] at p; exact p
  | inr j =>
    rw [hn] at p
    obtain ⟨p1, p2, p3, p4⟩ := p
    obtain ⟨q1, q2⟩ := h.at (hh := hh) p4 (by have := (h.1.lt h.2.1 (by omega)).1; omega)
    exact ⟨_, p1, q1, q2, p2⟩
theorem ky_52 (hck : tCk t) (h : cYs S G B n t N w K st i) : pok (pCell t i) (fun x => c52 f 72 (S, G, m) = some (.inl 0, cWr S G m (x : Int))) (fun r => ∃ G', c52 f 72 (S, G, m) = some (.inr r.1, (S, G', m)) ∧ xY hh G G' ∧ cYs S G' B n t N w K st r.2 ∧ r.2 = i + 1 ∧ 0 ≤ r.1 ∧ r.1 < 72) := by
  have p := k_52 (f := f) (m := m) hck.1 h.1 h.2.1
  cases hn : pCell t i with
  | inl x => rw [hn] at p; exact p
  | inr r =>
    rw [hn] at p
    obtain ⟨p1, p2, p3, p5, p4⟩ := p
    obtain ⟨q1, q2⟩ := h.at (hh := hh) p4 (by have := (h.1.lt h.2.1 (by rw [(pCell_in hn).1]; decide)).1; omega)
    exact ⟨_, p1, q1, q2, p2, p3, p5⟩
theorem ky_47 (h : cYs S G B n t N w K st i) : pok (pName t i) (fun x => c47 f 72 (S, G, m) = some (.inl 0, cWr S G m (x : Int))) (fun r => ∃ G', c47 f 72 (S, G, m) = some (.inr r.1, (S, G', m)) ∧ xY hh G G' ∧ cYs S G' B n t N w K st r.2 ∧ r.2 = i + 1) := by
  have p := k_47 (f := f) (m := m) h.1 h.2.1
  cases hn : pName t i with
  | inl x => rw [hn] at p; exact p
  | inr r =>
    rw [hn] at p
    obtain ⟨p1, p2, p3, p4⟩ := p
    obtain ⟨q1, q2⟩ := h.at (hh := hh) p4 (by have := (h.1.lt h.2.1 (by omega)).1; omega)
    exact ⟨_, p1, q1, q2, p2⟩
theorem ky_50 (h : cYs S G B n t N w K st i) : pok (pNum t 4 i) (fun x => c50 f 72 4 (S, G, m) = some (.inl 0, cWr S G m (x : Int))) (fun r => ∃ G', c50 f 72 4 (S, G, m) = some (.inr r.1, (S, G', m)) ∧ xY hh G G' ∧ cYs S G' B n t N w K st r.2 ∧ r.2 = i + 1 ∧ 1 ≤ r.1 ∧ r.1 ≤ 4) := by
  have p := k_50 (f := f) (m := m) (hi := 4) (by decide) h.1 h.2.1
  have p' : pok (pNum t 4 i) (fun x => c50 f 72 4 (S, G, m) = some (.inl 0, cWr S G m (x : Int))) (fun r => c50 f 72 4 (S, G, m) = some (.inr r.1, (S, xup2 G 72 1 ((min r.2 N : Nat) : Int), m)) ∧ r.2 = i + 1 ∧ 1 ≤ r.1 ∧ r.1 ≤ (4 : Nat) ∧ cAt (xup2 G 72 1 ((min r.2 N : Nat) : Int)) N w r.2) := p
  cases hn : pNum t 4 i with
  | inl x => rw [hn] at p'; exact p'
  | inr r =>
    rw [hn] at p'
    obtain ⟨p1, p2, p3, p5, p4⟩ := p'
    have hk : kK t i = 4 := by
      unfold pNum at hn
      split at hn
      · rename_i q; exact q.1
      · cases hn
    obtain ⟨q1, q2⟩ := h.at (hh := hh) p4 (by have := (h.1.lt h.2.1 (by omega)).1; omega)
    exact ⟨_, p1, q1, q2, p2, p3, p5⟩
theorem k_54z (h : cYs S G B n t N w K st i) : pok (pNeed t 41 i) (fun x => c54_186 f 72 (S, G, m) = some (.inl 0, cWr S G m (x : Int))) (fun j => ∃ G', c54_186 f 72 (S, G, m) = some (.inr (), (S, G', m)) ∧ xY hh G G' ∧ cYs S G' B n t N w K st j ∧ j = i + 1) := by
  have hs := h.1.1
  have p := ky_38 (f := f) (m := m) (hh := hh) (c := 41) (by decide) h
  cases hn : pNeed t 41 i with
  | inl x =>
    rw [hn] at p
    have p' : c38 f 72 41 (S, G, m) = _ := p
    show c54_186 f 72 (S, G, m) = _
    unfold c54_186
    simp (disch := omega) only [cq_gi, cq_gr, cq_a, cq_s, cq_p, cq_pr, cq_is, cq_ar, cq_ab, cq_ln, xq_nz, Option.bind_some, xup2_n, xup2_s, Int.toNat_natCast, Int.reduceToNat, if_pos, if_neg, true_and, and_true, and_self, eq_self, if_true, reduceIte, not_true_eq_false, not_false_eq_true, or_true, true_or, s72 hs, p', cth]
  | inr j =>
    rw [hn] at p
    obtain ⟨G1, p1, p2, p3, p4⟩ := p
    refine ⟨G1, ?_, p2, p3, p4⟩
    unfold c54_186
    simp (disch := omega) only [cq_gi, cq_gr, cq_a, cq_s, cq_p, cq_pr, cq_is, cq_ar, cq_ab, cq_ln, xq_nz, Option.bind_some, xup2_n, xup2_s, Int.toNat_natCast, Int.reduceToNat, if_pos, if_neg, true_and, and_true, and_self, eq_self, if_true, reduceIte, not_true_eq_false, not_false_eq_true, or_true, true_or, s72 hs, p1, cth]
/-- over CELLS -/
theorem k_54c {g : Int} (hg : g = 10 ∨ g = 11) (hck : tCk t) (h : cYs S G B n t N w K st i) (hK : K.length < 3001) : pok (pbind (pCell t i) fun a => pbind (pNeed t 58 a.2) fun k => pbind (pCell t k) fun c =>
    if c.1 % 6 < a.1 % 6 ∨ c.1 / 6 < a.1 / 6 then .inl (kS t k) else
    pbind (pNeed t 41 c.2) fun j => (.inr (N0 ++ [(if g = 11 then 4 else 5, a.1, c.1, 0, 0)], (N0.length : Int), j) : Nat ⊕ pFm))
    (fun x => ∃ G', c54_62 f 72 g (S, G, m) = some (.inl 0, cWr S G' m (x : Int)) ∧ xY hh G G')
    (fun e => ∃ G' C, c54_62 f 72 g (S, G, m) = some (.inr (), (S, G', m)) ∧ xY hh G G' ∧ cYs S G' B n t N w (K ++ [C]) st e.2.2 ∧ isC e.1 1 e.2.1 K.length 1 [C] ∧ i < e.2.2 ∧ ∃ y, e.1 = N0 ++ [y] ∧ lf y = some C ∧ lfC C = true) := by
  have hs := h.1.1
  have p1 := ky_52 (f := f) (m := m) (hh := hh) hck h
  cases h1 : pCell t i with
  | inl x =>
    rw [h1] at p1
    have p1' : c52 f 72 (S, G, m) = _ := p1
    refine ⟨G, ?_, .id⟩
    unfold c54_62
    simp (disch := omega) only [cq_gi, cq_gr, cq_a, cq_s, cq_p, cq_pr, cq_is, cq_ar, cq_ab, cq_ln, xq_nz, Option.bind_some, xup2_n, xup2_s, Int.toNat_natCast, Int.reduceToNat, if_pos, if_neg, true_and, and_true, and_self, eq_self, if_true, reduceIte, not_true_eq_false, not_false_eq_true, or_true, true_or, s72 hs, p1', cth]
  | inr a =>
    rw [h1] at p1
    obtain ⟨G1, a1, a2, a3, a4, a5, a6⟩ := p1
    have p2 := ky_38 (f := f) (m := m) (hh := hh) (c := 58) (by decide) a3
    show pok (pbind (pNeed t 58 a.2) _) _ _
    cases h2 : pNeed t 58 a.2 with
    | inl x =>
      rw [h2] at p2
      have p2' : c38 f 72 58 (S, G1, m) = _ := p2
      refine ⟨G1, ?_, a2⟩
      unfold c54_62
      simp (disch := omega) only [cq_gi, cq_gr, cq_a, cq_s, cq_p, cq_pr, cq_is, cq_ar, cq_ab, cq_ln, xq_nz, Option.bind_some, xup2_n, xup2_s, Int.toNat_natCast, Int.reduceToNat, if_pos, if_neg, true_and, and_true, and_self, eq_self, if_true, reduceIte, not_true_eq_false, not_false_eq_true, or_true, true_or, s72 hs, a1, p2', cth]
    | inr k =>
      rw [h2] at p2
      obtain ⟨G2, b1, b2, b3, b4⟩ := p2
      have hp2 := b3.1.2.1
      obtain ⟨k1, k2, k3, k4⟩ := b3.1.tk b3.2.1
      have p3 := ky_52 (f := f) (m := m) (hh := hh) hck b3
      show pok (pbind (pCell t k) _) _ _
      cases h3 : pCell t k with
      | inl x =>
        rw [h3] at p3
        have p3' : c52 f 72 (S, G2, m) = _ := p3
        refine ⟨G2, ?_, a2.tr b2⟩
        unfold c54_62
        simp (disch := omega) only [cq_gi, cq_gr, cq_a, cq_s, cq_p, cq_pr, cq_is, cq_ar, cq_ab, cq_ln, xq_nz, Option.bind_some, xup2_n, xup2_s, Int.toNat_natCast, Int.reduceToNat, if_pos, if_neg, true_and, and_true, and_self, eq_self, if_true, reduceIte, not_true_eq_false, not_false_eq_true, or_true, true_or, s72 hs, s65 hs, s68 hs, p72_0 hp2, p65_4 hp2, k2, k3, a1, b1, p3', cth]
      | inr c =>
        rw [h3] at p3
        obtain ⟨G3, c1, c2, c3, c4, c5, c6⟩ := p3
        have hp3 := c3.1.2.1
        obtain ⟨xa1, xa2⟩ := x6i a5 a6
        obtain ⟨xc1, xc2⟩ := x6i c5 c6
        have e1 : c54_62 f 72 g (S, G, m) = if c.1 % 6 < a.1 % 6 then c54_116 f 72 g a.1 (kS t k : Int) c.1 (S, G3, m) else if a.1 / 6 ≤ c.1 / 6 then c54_121 f 72 g a.1 c.1 (S, G3, m) else c54_116 f 72 g a.1 (kS t k : Int) c.1 (S, G3, m) := by
          unfold c54_62
          simp (disch := omega) only [cq_gi, cq_gr, cq_a, cq_s, cq_p, cq_pr, cq_is, cq_ar, cq_ab, cq_ln, xq_nz, Option.bind_some, xup2_n, xup2_s, Int.toNat_natCast, Int.reduceToNat, if_pos, if_neg, true_and, and_true, and_self, eq_self, if_true, reduceIte, not_true_eq_false, not_false_eq_true, or_true, true_or, s72 hs, s65 hs, s68 hs, p72_0 hp2, p65_4 hp2, k2, k3, a1, b1, c1, cth, xa1, xa2, xc1, xc2]
        show pok (if c.1 % 6 < a.1 % 6 ∨ c.1 / 6 < a.1 / 6 then _ else _) _ _
        by_cases cb : c.1 % 6 < a.1 % 6 ∨ c.1 / 6 < a.1 / 6
        · rw [if_pos cb]
          refine ⟨G3, ?_, (a2.tr b2).tr c2⟩
          have e2 : c54_62 f 72 g (S, G, m) = c54_116 f 72 g a.1 (kS t k : Int) c.1 (S, G3, m) := by
            rw [e1]
            by_cases q : c.1 % 6 < a.1 % 6
            · rw [if_pos q]
            · rw [if_neg q, if_neg (by omega)]
          rw [e2]
          unfold c54_116
          simp (disch := omega) only [cq_gi, cq_gr, cq_a, cq_s, cq_p, cq_pr, cq_is, cq_ar, cq_ab, cq_ln, xq_nz, Option.bind_some, xup2_n, xup2_s, Int.toNat_natCast, Int.reduceToNat, if_pos, if_neg, true_and, and_true, and_self, eq_self, if_true, reduceIte, not_true_eq_false, not_false_eq_true, or_true, true_or, s72 hs, k_36 hs, cth]
        · rw [if_neg cb]
          rw [if_neg (fun q => cb (.inl q)), if_pos (by omega)] at e1
          have w1 : xwr (72 * c.1) = 72 * c.1 := xwr_g _ (by omega) (by omega)
          have w2 : xwr (a.1 + 72 * c.1) = a.1 + 72 * c.1 := xwr_g _ (by omega) (by omega)
          obtain ⟨G4, d1, d2, _, d3⟩ := ky_56 (f := f) (m := m) (hh := hh) (a := if g = 11 then 3 else 4) (b := a.1 + 72 * c.1) c3 hK
          have e3 : c54_62 f 72 g (S, G, m) = c54_186 f 72 (S, G4, m) := by
            rw [e1]
            unfold c54_121 c54_133
            rcases hg with q | q
            · rw [if_pos (by omega)]
              rw [if_neg (by omega)] at d1
              simp (disch := omega) only [cq_gi, cq_gr, cq_a, cq_s, cq_p, cq_pr, cq_is, cq_ar, cq_ab, cq_ln, xq_nz, Option.bind_some, xup2_n, xup2_s, Int.toNat_natCast, Int.reduceToNat, if_pos, if_neg, true_and, and_true, and_self, eq_self, if_true, reduceIte, not_true_eq_false, not_false_eq_true, or_true, true_or, s72 hs, w1, w2, d1]
            · rw [if_neg (by omega)]
              rw [if_pos q] at d1
              simp (disch := omega) only [cq_gi, cq_gr, cq_a, cq_s, cq_p, cq_pr, cq_is, cq_ar, cq_ab, cq_ln, xq_nz, Option.bind_some, xup2_n, xup2_s, Int.toNat_natCast, Int.reduceToNat, if_pos, if_neg, true_and, and_true, and_self, eq_self, if_true, reduceIte, not_true_eq_false, not_false_eq_true, or_true, true_or, s72 hs, w1, w2, d1]
          have p4 := k_54z (f := f) (m := m) (hh := hh) d3
          show pok (pbind (pNeed t 41 c.2) _) _ _
          cases h4 : pNeed t 41 c.2 with
          | inl x =>
            rw [h4] at p4
            exact ⟨G4, by rw [e3]; exact p4, ((a2.tr b2).tr c2).tr d2⟩
          | inr j =>
            rw [h4] at p4
            obtain ⟨G5, f1, f2, f3, f4⟩ := p4
            refine ⟨G5, _, by rw [e3]; exact f1, (((a2.tr b2).tr c2).tr d2).tr f2, f3, isC_new (F := 0) (Nat.le_refl _) (.inr (.inr (.inr (.inl ⟨?_, ?_⟩)))), by show i < j; omega, _, rfl, ?_, ?_⟩
            · show (if g = 11 then (4 : Int) else 5) = 4 ∨ (if g = 11 then (4 : Int) else 5) = 5
              split
              · exact .inl rfl
              · exact .inr rfl
            · show [((if g = 11 then (3 : Int) else 4), a.1 + 72 * c.1)] = [((if g = 11 then (4 : Int) else 5) - 1, a.1 + 72 * c.1)]
              split <;> rfl
            · rcases hg with q | q
              · rw [q]; rfl
              · rw [q]; rfl
            · unfold lfC
              rw [decide_eq_true_iff]
              show (if g = 11 then (3 : Int) else 4) % 256 ≤ 13
              split <;> decide
theorem x_orsh : ∀ g : Nat, g < 4 → ∀ c : Nat, c < 5 → xor_ ((g + 10 : Nat) : Int) (xshl (c : Int) 8) = ((g + 10 : Nat) : Int) + 256 * (c : Int) := by decide +kernel
theorem x_orsh' {g c : Int} (hg : 10 ≤ g ∧ g ≤ 13) (hc : 0 ≤ c ∧ c ≤ 4) : xor_ g (xshl c 8) = g + 256 * c := by
  have := x_orsh (g.toNat - 10) (by omega) c.toNat (by omega)
  have e1 : ((g.toNat - 10 + 10 : Nat) : Int) = g := by omega
  have e2 : ((c.toNat : Nat) : Int) = c := by omega
  rw [e1, e2] at this
  exact this
/-- over rows -/
theorem k_54n {g : Int} (hg : 10 ≤ g ∧ g ≤ 13) (h : cYs S G B n t N w K st i) (hK : K.length < 3001) : pok (pbind (pName t i) fun x => pbind (if g = 10 then .inr ((0 : Int), x.2) else pbind (pNeed t 44 x.2) fun k => pNum t 4 k) fun k =>
    pbind (pNeed t 41 k.2) fun j => (.inr (N0 ++ [(g - 4, k.1, 0, 0, x.1)], (N0.length : Int), j) : Nat ⊕ pFm))
    (fun x => ∃ G', c54_147 f 72 g (S, G, m) = some (.inl 0, cWr S G' m (x : Int)) ∧ xY hh G G')
    (fun e => ∃ G' C, c54_147 f 72 g (S, G, m) = some (.inr (), (S, G', m)) ∧ xY hh G G' ∧ cYs S G' B n t N w (K ++ [C]) st e.2.2 ∧ isC e.1 1 e.2.1 K.length 1 [C] ∧ i < e.2.2 ∧ ∃ y, e.1 = N0 ++ [y] ∧ lf y = some C ∧ lfC C = true) := by
  have hs := h.1.1
  have p1 := ky_47 (f := f) (m := m) (hh := hh) h
  -- behind the column
  have last : ∀ (x k : Int × Nat) (G3 : xG_), i < k.2 → 0 ≤ k.1 ∧ k.1 ≤ 4 → c54_147 f 72 g (S, G, m) = c54_174 f 72 g x.1 k.1 (S, G3, m) → xY hh G G3 → cYs S G3 B n t N w K st k.2 → pok (pbind (pNeed t 41 k.2) fun j => (.inr (N0 ++ [(g - 4, k.1, 0, 0, x.1)], (N0.length : Int), j) : Nat ⊕ pFm))
    (fun x => ∃ G', c54_147 f 72 g (S, G, m) = some (.inl 0, cWr S G' m (x : Int)) ∧ xY hh G G')
    (fun e => ∃ G' C, c54_147 f 72 g (S, G, m) = some (.inr (), (S, G', m)) ∧ xY hh G G' ∧ cYs S G' B n t N w (K ++ [C]) st e.2.2 ∧ isC e.1 1 e.2.1 K.length 1 [C] ∧ i < e.2.2 ∧ ∃ y, e.1 = N0 ++ [y] ∧ lf y = some C ∧ lfC C = true) := by
    intro x k G3 hik hk e1 x3 y3
    obtain ⟨G4, d1, d2, _, d3⟩ := ky_56 (f := f) (m := m) (hh := hh) (a := g + 256 * k.1) (b := x.1) y3 hK
    have w1 := x_orsh' hg hk
    have e3 : c54_147 f 72 g (S, G, m) = c54_186 f 72 (S, G4, m) := by
      rw [e1]
      unfold c54_174
      simp (disch := omega) only [cq_gi, cq_gr, cq_a, cq_s, cq_p, cq_pr, cq_is, cq_ar, cq_ab, cq_ln, xq_nz, Option.bind_some, xup2_n, xup2_s, Int.toNat_natCast, Int.reduceToNat, if_pos, if_neg, true_and, and_true, and_self, eq_self, if_true, reduceIte, not_true_eq_false, not_false_eq_true, or_true, true_or, s72 hs, w1, d1]
    have p4 := k_54z (f := f) (m := m) (hh := hh) d3
    cases h4 : pNeed t 41 k.2 with
    | inl x =>
      rw [h4] at p4
      exact ⟨G4, by rw [e3]; exact p4, x3.tr d2⟩
    | inr j =>
      rw [h4] at p4
      obtain ⟨G5, f1, f2, f3, f4⟩ := p4
      refine ⟨G5, _, by rw [e3]; exact f1, (x3.tr d2).tr f2, f3, isC_new (F := 0) (Nat.le_refl _) (.inr (.inr (.inr (.inr (.inl ⟨by show 6 ≤ g - 4 ∧ g - 4 ≤ 9; omega, ?_⟩))))), by show i < j; omega, _, rfl, ?_, ?_⟩
      · show [(g + 256 * k.1, x.1)] = [(g - 4 + 4 + 256 * k.1, x.1)]
        have : g - 4 + 4 = g := by omega
        rw [this]
      · unfold lf
        have : g - 4 + 4 = g := by omega
        rw [if_neg (by show ¬ g - 4 = 1; omega), if_neg (by show ¬ g - 4 = 2; omega), if_neg (by show ¬ (g - 4 = 4 ∨ g - 4 = 5); omega), if_pos (by show 6 ≤ g - 4 ∧ g - 4 ≤ 9; omega)]
        show some (g - 4 + 4 + 256 * k.1, x.1) = _
        rw [this]
      · unfold lfC
        rw [decide_eq_true_iff]
        show (g + 256 * k.1) % 256 ≤ 13
        omega
  cases h1 : pName t i with
  | inl x =>
    rw [h1] at p1
    have p1' : c47 f 72 (S, G, m) = _ := p1
    refine ⟨G, ?_, .id⟩
    unfold c54_147
    simp (disch := omega) only [cq_gi, cq_gr, cq_a, cq_s, cq_p, cq_pr, cq_is, cq_ar, cq_ab, cq_ln, xq_nz, Option.bind_some, xup2_n, xup2_s, Int.toNat_natCast, Int.reduceToNat, if_pos, if_neg, true_and, and_true, and_self, eq_self, if_true, reduceIte, not_true_eq_false, not_false_eq_true, or_true, true_or, s72 hs, p1', cth]
  | inr x =>
    rw [h1] at p1
    obtain ⟨G1, a1, a2, a3, a4⟩ := p1
    show pok (pbind (if g = 10 then _ else _) _) _ _
    by_cases c10 : g = 10
    · rw [if_pos c10]
      refine last x (0, x.2) G1 (by show i < x.2; omega) (by show (0 : Int) ≤ 0 ∧ (0 : Int) ≤ 4; decide) ?_ a2 a3
      unfold c54_147
      simp (disch := omega) only [cq_gi, cq_gr, cq_a, cq_s, cq_p, cq_pr, cq_is, cq_ar, cq_ab, cq_ln, xq_nz, Option.bind_some, xup2_n, xup2_s, Int.toNat_natCast, Int.reduceToNat, if_pos, if_neg, true_and, and_true, and_self, eq_self, if_true, reduceIte, not_true_eq_false, not_false_eq_true, or_true, true_or, s72 hs, a1, cth, c10]
    · rw [if_neg c10]
      have p2 := ky_38 (f := f) (m := m) (hh := hh) (c := 44) (by decide) a3
      cases h2 : pNeed t 44 x.2 with
      | inl y =>
        rw [h2] at p2
        have p2' : c38 f 72 44 (S, G1, m) = _ := p2
        refine ⟨G1, ?_, a2⟩
        unfold c54_147
        simp (disch := omega) only [cq_gi, cq_gr, cq_a, cq_s, cq_p, cq_pr, cq_is, cq_ar, cq_ab, cq_ln, xq_nz, Option.bind_some, xup2_n, xup2_s, Int.toNat_natCast, Int.reduceToNat, if_pos, if_neg, true_and, and_true, and_self, eq_self, if_true, reduceIte, not_true_eq_false, not_false_eq_true, or_true, true_or, s72 hs, a1, p2', cth, c10]
      | inr k =>
        rw [h2] at p2
        obtain ⟨G2, b1, b2, b3, b4⟩ := p2
        have p3 := ky_50 (f := f) (m := m) (hh := hh) b3
        show pok (pbind (pNum t 4 k) _) _ _
        cases h3 : pNum t 4 k with
        | inl y =>
          rw [h3] at p3
          have p3' : c50 f 72 4 (S, G2, m) = _ := p3
          refine ⟨G2, ?_, a2.tr b2⟩
          unfold c54_147
          simp (disch := omega) only [cq_gi, cq_gr, cq_a, cq_s, cq_p, cq_pr, cq_is, cq_ar, cq_ab, cq_ln, xq_nz, Option.bind_some, xup2_n, xup2_s, Int.toNat_natCast, Int.reduceToNat, if_pos, if_neg, true_and, and_true, and_self, eq_self, if_true, reduceIte, not_true_eq_false, not_false_eq_true, or_true, true_or, s72 hs, a1, b1, p3', cth, c10]
        | inr r =>
          rw [h3] at p3
          obtain ⟨G3, c1, c2, c3, c4, c5, c6⟩ := p3
          refine last x r G3 (by omega) (by omega) ?_ ((a2.tr b2).tr c2) c3
          unfold c54_147
          simp (disch := omega) only [cq_gi, cq_gr, cq_a, cq_s, cq_p, cq_pr, cq_is, cq_ar, cq_ab, cq_ln, xq_nz, Option.bind_some, xup2_n, xup2_s, Int.toNat_natCast, Int.reduceToNat, if_pos, if_neg, true_and, and_true, and_self, eq_self, if_true, reduceIte, not_true_eq_false, not_false_eq_true, or_true, true_or, s72 hs, a1, b1, c1, cth, c10]
/-- readGathering() -/
theorem k_54 (hf : 100 < f) (hck : tCk t) (h : cYs S G B n t N w K st i) (hg : 10 ≤ kK t i ∧ kK t i ≤ 13) (hl : st.length ≤ 31) (hK : K.length < 3001) (hb : nBr st = b) : pok (pOf t b N0 i)
    (fun x => ∃ G', c54 f 72 (kK t i) (S, G, m) = some (.inl 0, cWr S G' m (x : Int)) ∧ xY hh G G')
    (fun e => ∃ G' C, c54 f 72 (kK t i) (S, G, m) = some (.inr (), (S, G', m)) ∧ xY hh G G' ∧ cYs S G' B n t N w (K ++ [C]) st e.2.2 ∧ isC e.1 1 e.2.1 K.length 1 [C] ∧ i < e.2.2 ∧ ∃ y, e.1 = N0 ++ [y] ∧ lf y = some C ∧ lfC C = true) := by
  have hs := h.1.1
  obtain ⟨l1, l2⟩ := h.1.lt h.2.1 (by omega)
  obtain ⟨d1, d2⟩ := k_37 (f := f) (m := m) h.1 h.2.1 (by omega)
  obtain ⟨y1, y2⟩ := h.at (hh := hh) d2 (by omega)
  generalize hG : xup2 G 72 1 ((min (i + 1) N : Nat) : Int) = G1 at *
  have hE := y2.1
  obtain ⟨k1, k2, k3, k4⟩ := hE.tk y2.2.1
  have hp := hE.2.1
  have e58 := ky_58 (m := m) (f := f) (by omega) y2 (by omega)
  unfold pOf pOpen
  by_cases c4 : b = 4
  · rw [if_neg (fun q => q.2 c4)]
    refine ⟨G1, ?_, y1⟩
    rw [hb, c4] at e58
    have e58' : c58 f 72 (S, G1, m) = some (4, (S, G1, m)) := e58
    unfold c54
    simp (disch := omega) only [cq_gi, cq_gr, cq_a, cq_s, cq_p, cq_pr, cq_is, cq_ar, cq_ab, cq_ln, xq_nz, Option.bind_some, xup2_n, xup2_s, Int.toNat_natCast, Int.reduceToNat, if_pos, if_neg, true_and, and_true, and_self, eq_self, if_true, reduceIte, not_true_eq_false, not_false_eq_true, or_true, true_or, s72 hs, s65 hs, s68 hs, p72_0 hp, p65_4 hp, k2, k3, d1, e58', k_36 hs, cth]
  · have e1 : c54 f 72 (kK t i) (S, G, m) = c54_28 f 72 (kK t i) (S, G1, m) := by
      unfold c54
      have : ¬ (nBr st : Int) = 4 := by omega
      simp (disch := omega) only [cq_gi, cq_gr, cq_a, cq_s, cq_p, cq_pr, cq_is, cq_ar, cq_ab, cq_ln, xq_nz, Option.bind_some, xup2_n, xup2_s, Int.toNat_natCast, Int.reduceToNat, if_pos, if_neg, true_and, and_true, and_self, eq_self, if_true, reduceIte, not_true_eq_false, not_false_eq_true, or_true, true_or, s72 hs, d1, e58, this]
    have p2 := ky_38 (f := f) (m := m) (hh := hh) (c := 40) (by decide) y2
    unfold pNeed at p2
    by_cases c40 : kK t (i + 1) = 40
    · rw [if_pos c40] at p2
      rw [if_pos ⟨c40, c4⟩]
      obtain ⟨G2, b1, b2, b3, b4⟩ := p2
      have hp2 := b3.1.2.1
      obtain ⟨j1, j2, j3, j4⟩ := b3.1.tk b3.2.1
      have e2 : c54 f 72 (kK t i) (S, G, m) = if ¬ kK t (i + 1 + 1) = 2 then c54_147 f 72 (kK t i) (S, G2, m) else if kK t i = 11 then c54_62 f 72 (kK t i) (S, G2, m) else if ¬ kK t i = 10 then c54_147 f 72 (kK t i) (S, G2, m) else c54_62 f 72 (kK t i) (S, G2, m) := by
        rw [e1]
        unfold c54_28
        simp (disch := omega) only [cq_gi, cq_gr, cq_a, cq_s, cq_p, cq_pr, cq_is, cq_ar, cq_ab, cq_ln, xq_nz, Option.bind_some, xup2_n, xup2_s, Int.toNat_natCast, Int.reduceToNat, if_pos, if_neg, true_and, and_true, and_self, eq_self, if_true, reduceIte, not_true_eq_false, not_false_eq_true, or_true, true_or, s72 hs, s65 hs, s67 hs, p72_0 hp2, p65_3 hp2, j1, j3, b1, cth]
      show pok (if (kK t i = 10 ∨ kK t i = 11) ∧ kK t (i + 1 + 1) = 2 then _ else _) _ _
      by_cases cc : (kK t i = 10 ∨ kK t i = 11) ∧ kK t (i + 1 + 1) = 2
      · rw [if_pos cc]
        have e3 : c54 f 72 (kK t i) (S, G, m) = c54_62 f 72 (kK t i) (S, G2, m) := by
          rw [e2, if_neg (fun q => q cc.2)]
          by_cases q : kK t i = 11
          · rw [if_pos q]
          · rw [if_neg q, if_neg (by omega)]
        have p := k_54c (f := f) (m := m) (hh := hh) (N0 := N0) cc.1 hck b3 hK
        rw [e3]
        refine pok_m p ?_ ?_
        · rintro x ⟨G', q1, q2⟩
          exact ⟨G', q1, (y1.tr b2).tr q2⟩
        · rintro e ⟨G', C, q1, q2, q3, q4, q5, q6⟩
          exact ⟨G', C, q1, (y1.tr b2).tr q2, q3, q4, by omega, q6⟩
      · rw [if_neg cc]
        have e3 : c54 f 72 (kK t i) (S, G, m) = c54_147 f 72 (kK t i) (S, G2, m) := by
          rw [e2]
          by_cases q : kK t (i + 1 + 1) = 2
          · rw [if_neg (fun z => z q), if_neg (by omega), if_pos (by omega)]
          · rw [if_pos q]
        have p := k_54n (f := f) (m := m) (hh := hh) (N0 := N0) hg b3 hK
        rw [e3]
        refine pok_m p ?_ ?_
        · rintro x ⟨G', q1, q2⟩
          exact ⟨G', q1, (y1.tr b2).tr q2⟩
        · rintro e ⟨G', C, q1, q2, q3, q4, q5, q6⟩
          exact ⟨G', C, q1, (y1.tr b2).tr q2, q3, q4, by omega, q6⟩
    · rw [if_neg c40] at p2
      rw [if_neg (fun q => c40 q.1)]
      refine ⟨G1, ?_, y1⟩
      have p2' : c38 f 72 40 (S, G1, m) = _ := p2
      rw [e1]
      unfold c54_28
      simp (disch := omega) only [cq_gi, cq_gr, cq_a, cq_s, cq_p, cq_pr, cq_is, cq_ar, cq_ab, cq_ln, xq_nz, Option.bind_some, xup2_n, xup2_s, Int.toNat_natCast, Int.reduceToNat, if_pos, if_neg, true_and, and_true, and_self, eq_self, if_true, reduceIte, not_true_eq_false, not_false_eq_true, or_true, true_or, s72 hs, p2', cth]
end
