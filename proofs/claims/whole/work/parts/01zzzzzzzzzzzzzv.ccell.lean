/-! THE CLASS: readCell(), cell() -/
def xFC (G G' : xG_) : Prop := ∀ a j, ¬ (a = 72 ∧ (1 ≤ j ∧ j ≤ 6 ∨ j = 9 ∨ j = 12 ∨ j = 14)) → ¬ (73 ≤ a ∧ a ≤ 82) → a ≠ 67 → G' a j = G a j
section
variable {f n N w A sl hr : Nat} {S : Nat → Nat × Nat × Nat} {G G' G'' : xG_} {m : Nat × Nat} {tx : List Int}
theorem xFC.id : xFC G G := fun _ _ _ _ _ => rfl
theorem xFC.tr (h : xFC G G') (h' : xFC G' G'') : xFC G G'' := fun a j p q r => by rw [h' a j p q r, h a j p q r]
theorem xY.fc {h : Nat} (h1 : xY h G G') : xFC G G' := fun a j p q _ => h1 a j (by omega) (by omega) (by omega)
theorem st_33 (hs : cSs S) (hp : cPs G) (h2 : G 65 2 = ((N + 1 : Nat) : Int)) (hN : N ≤ 3000) : c33 f 72 (S, G, m) = c33_32 f 72 (S, (if N ≤ 62 then bUp G 0 0 else xup2 (bUp G 0 0) 67 62 5), m) := by
  have e34 := k_34 (f := f) (G := G) (m := m) (q := 0) (b := 0) hs (.inl rfl)
  have z : ∀ a j, a ≠ 72 → bUp G 0 0 a j = G a j := fun a j h => bUp_n a j (fun y => h y.1)
  have p0 : bUp G 0 0 72 0 = 65 := by rw [bUp_n _ _ (by omega)]; exact p72_0 hp
  have q2 : bUp G 0 0 65 2 = ((N + 1 : Nat) : Int) := by rw [z _ _ (by omega)]; exact h2
  have q3 : bUp G 0 0 65 3 = 67 := by rw [z _ _ (by omega)]; exact p65_3 hp
  have e1 : xwr (((N + 1 : Nat) : Int) - 1) = (N : Int) := by rw [xwr_g _ (by omega) (by omega)]; omega
  unfold c33
  by_cases c : N ≤ 62
  · rw [if_pos c]
    have c' : (N : Int) ≤ 62 := by omega
    simp (disch := omega) only [cq_gi, cq_gr, cq_a, cq_s, cq_p, cq_pr, cq_is, cq_ar, cq_ab, cq_ln, xq_nz, Option.bind_some, xup2_n, xup2_s, Int.toNat_natCast, Int.reduceToNat, if_pos, if_neg, true_and, and_true, and_self, eq_self, if_true, reduceIte, not_true_eq_false, not_false_eq_true, or_true, true_or, s72 hs, s65 hs, p0, q2, e34, e1, c']
  · rw [if_neg c]
    have c' : ¬ (N : Int) ≤ 62 := by omega
    simp (disch := omega) only [cq_gi, cq_gr, cq_a, cq_s, cq_p, cq_pr, cq_is, cq_ar, cq_ab, cq_ln, xq_nz, Option.bind_some, xup2_n, xup2_s, Int.toNat_natCast, Int.reduceToNat, if_pos, if_neg, true_and, and_true, and_self, eq_self, if_true, reduceIte, not_true_eq_false, not_false_eq_true, or_true, true_or, s72 hs, s65 hs, s67 hs, p0, q2, q3, e34, e1, c']
theorem st_33b {G1 G2 : xG_} {c kk : Int} {x : Nat} (hs : cSs S) (a1 : c52 f 72 (S, G1, m) = some (.inr c, (S, G', m))) (c1 : c38 f 72 61 (S, G', m) = some (.inr (), (S, G2, m))) (p0 : G2 72 0 = 65) (p3 : G2 65 3 = 67) (k1 : G2 67 x = kk) (k3 : G2 72 1 = (x : Int)) (k4 : x ≤ 3000) : c33_32 f 72 (S, G1, m) = if kk = 0 then c33_132 f c (S, xup2 G2 72 6 ((0 : Nat) : Int), m) else ((c53 f 72 1 (S, xup2 G2 72 6 ((0 : Nat) : Int), m)).bind fun R164 => cth R164 (fun _ => ((cq_gr 4 0 20 72 R164.2).bind fun v172 => ((cq_gr 8 3 8 (v172) R164.2).bind fun v174 => ((cq_gi 4 1 20 72 R164.2).bind fun v176 => ((cq_a 3 (v174) (v176) R164.2).bind fun v178 => (if (v178) = 0 then c33_99 f 72 c R164.2 else ((cq_gr 4 0 20 72 R164.2).bind fun v181 => ((cq_gr 8 4 8 (v181) R164.2).bind fun v183 => ((cq_gi 4 1 20 72 R164.2).bind fun v185 => ((cq_a 3 (v183) (v185) R164.2).bind fun v187 => ((cq_is 4 20 72 R164.2).bind fun _ => ((c36 f 72 (v187) R164.2).bind fun R189 => cth R189 (fun _ => c33_99 f 72 c R189.2)))))))))))))) := by
  unfold c33_32
  simp (disch := omega) only [cq_gi, cq_gr, cq_a, cq_s, cq_p, cq_pr, cq_is, cq_ar, cq_ab, cq_ln, xq_nz, Option.bind_some, xup2_n, xup2_s, Int.toNat_natCast, Int.reduceToNat, if_pos, if_neg, true_and, and_true, and_self, eq_self, if_true, reduceIte, not_true_eq_false, not_false_eq_true, or_true, true_or, s72 hs, s65 hs, s67 hs, a1, c1, cth, p0, p3, k1, k3]
/-- readCell() -/
theorem k_33 (hf : 3100 < f) (hs : cSs S) (hp : cPs G) (hx : cTx G (tBt tx) tx.length) (hT : cTks G (tBt tx) tx.length N) (hA : 278 < A) : pok (qCt tx)
    (fun x => ∃ G', c33 f 72 (S, G, (A, sl)) = some (.inl 0, cWr S G' (A, sl) (x : Int)) ∧ xFC G G')
    (fun r => ∃ S' G' m', c33 f 72 (S, G, (A, sl)) = some (.inr r.1, (S', G', m')) ∧ (∀ a, a < A → S' a = S a) ∧ (∀ a j, a < A → ¬ (a = 72 ∧ (1 ≤ j ∧ j ≤ 6 ∨ j = 9 ∨ j = 12 ∨ j = 14)) → ¬ (73 ≤ a ∧ a ≤ 82) → a ≠ 67 → G' a j = G a j) ∧ (0 ≤ r.1 ∧ r.1 < 72) ∧ A ≤ m'.1 ∧ m'.1 ≤ A + 3 ∧ m'.2 ≤ sl + 129 ∧ (r.2.2 = -1 ∧ G' 72 6 = 0 ∨ r.2.2 ≠ -1 ∧ G' 72 6 = (A : Int) ∧ m'.1 = A + 3 ∧ cFm S' G' A r.2)) := by
  have hB := hx.2.2.1
  have hn := hx.2.1
  have hE0 := cEv_of hs hp hx hT
  obtain ⟨t1, t2, t3, t4, t5⟩ := hT
  have hEb := bUp_e (q := 0) (b := 0) hE0
  have hE := cEv_lm hEb (fun i hi => by
    have e := tS_end hB t3 (i - N)
    rw [show N + (i - N) = i by omega] at e
    rw [e, (hB _).2 (Nat.le_refl _)]; decide) (fun i hi => ((hB _).1 (t4 i hi)).1)
  have e0 := st_33 (f := f) (m := (A, sl)) hs hp t2 (by omega)
  have fr0 : xFC G (if N ≤ 62 then bUp G 0 0 else xup2 (bUp G 0 0) 67 62 5) := fun a j p q r => by
    split
    · rw [bUp_n _ _ (by omega)]
    · rw [xup2_n (by omega), bUp_n _ _ (by omega)]
  have b1 : (if N ≤ 62 then bUp G 0 0 else xup2 (bUp G 0 0) 67 62 5) 72 1 = 0 := by
    obtain ⟨_, _, q, _⟩ := bUp_s (G := G) (q := 0) (b := 0)
    split
    · exact q
    · rw [xup2_n (by omega)]; exact q
  have b9 : (if N ≤ 62 then bUp G 0 0 else xup2 (bUp G 0 0) 67 62 5) 72 9 = 0 := by
    obtain ⟨_, _, _, q, _⟩ := bUp_s (G := G) (q := 0) (b := 0)
    split
    · exact q
    · rw [xup2_n (by omega)]; exact q
  generalize (if N ≤ 62 then bUp G 0 0 else xup2 (bUp G 0 0) 67 62 5) = G1 at hE e0 fr0 b1 b9
  have hwN : (if N ≤ 62 then N else 62) ≤ 62 := by split <;> omega
  generalize (if N ≤ 62 then N else 62) = w at hE hwN
  have hck : tCk (tstr (tBt tx) tx.length true) := tstr_ck hB
  have hif : ∀ i, i ≤ w → kK (tstr (tBt tx) tx.length true) i = 1 → (spl (tBt tx) (kS (tstr (tBt tx) tx.length true) i) (kE (tstr (tBt tx) tx.length true) i) 10 ↔ kC (tstr (tBt tx) tx.length true) i = 348) := fun i _ h1 => if_spl hB h1
  unfold qCt
  generalize hst : tstr (tBt tx) tx.length true = t at hE hck hif
  have hA0 : cAt G1 N w 0 := ⟨by rw [b1]; show (0 : Int) = ((min 0 N : Nat) : Int); omega, .inl (Nat.zero_le _)⟩
  have p1 := k_52 (f := f) (m := (A, sl)) hck.1 hE hA0
  cases h1 : pCell t 0 with
  | inl x =>
    rw [h1] at p1
    have p1' : c52 f 72 (S, G1, (A, sl)) = _ := p1
    refine ⟨G1, ?_, fr0⟩
    rw [e0]
    unfold c33_32
    simp (disch := omega) only [cq_gi, cq_gr, cq_a, cq_s, cq_p, cq_pr, cq_is, cq_ar, cq_ab, cq_ln, xq_nz, Option.bind_some, xup2_n, xup2_s, Int.toNat_natCast, Int.reduceToNat, if_pos, if_neg, true_and, and_true, and_self, eq_self, if_true, reduceIte, not_true_eq_false, not_false_eq_true, or_true, true_or, s72 hs, p1', cth]
  | inr c =>
    rw [h1] at p1
    obtain ⟨a1, a2, a3, a4, a5⟩ := p1
    have hc0 := hE.lt hA0 (by rw [(pCell_in h1).1]; decide)
    have x1 : xFC G1 (xup2 G1 72 1 ((min c.2 N : Nat) : Int)) := fun a j p q r => xup2_n (by omega)
    have y1 : xY 0 G1 (xup2 G1 72 1 ((min c.2 N : Nat) : Int)) := fun a j p q r => xup2_n (by omega)
    have b9' : (xup2 G1 72 1 ((min c.2 N : Nat) : Int)) 72 9 = 0 := by rw [xup2_n (by omega)]; exact b9
    generalize xup2 G1 72 1 ((min c.2 N : Nat) : Int) = G2 at a1 a5 x1 y1 b9'
    have hE2 := y1.ev hE
    have p2 := k_38 (f := f) (m := (A, sl)) (c := 61) (by decide) hE2 a5
    show pok (pbind (pNeed t 61 c.2) _) _ _
    cases h2 : pNeed t 61 c.2 with
    | inl x =>
      rw [h2] at p2
      have p2' : c38 f 72 61 (S, G2, (A, sl)) = _ := p2
      refine ⟨G2, ?_, fr0.tr x1⟩
      rw [e0]
      unfold c33_32
      simp (disch := omega) only [cq_gi, cq_gr, cq_a, cq_s, cq_p, cq_pr, cq_is, cq_ar, cq_ab, cq_ln, xq_nz, Option.bind_some, xup2_n, xup2_s, Int.toNat_natCast, Int.reduceToNat, if_pos, if_neg, true_and, and_true, and_self, eq_self, if_true, reduceIte, not_true_eq_false, not_false_eq_true, or_true, true_or, s72 hs, a1, p2', cth]
    | inr i =>
      rw [h2] at p2
      obtain ⟨c1, c2, c3, c4⟩ := p2
      have hi0 := hE2.lt a5 (by omega)
      let G3 := xup2 (xup2 G2 72 1 ((min i N : Nat) : Int)) 72 6 0
      have g3 : ∀ a j, ¬ (a = 72 ∧ (j = 1 ∨ j = 6)) → G3 a j = G2 a j := fun a j q => by
        show xup2 _ _ _ _ _ _ = _
        rw [xup2_n (by omega), xup2_n (by omega)]
      have x3 : xFC G2 G3 := fun a j p q r => g3 a j (by omega)
      have hE3 : cEv S G3 (tBt tx) tx.length t N w := hE2.ge (fun _ _ => rfl) (fun a j z1 z2 z3 => g3 a j (by omega))
      have hA3 : cAt G3 N w i := ⟨by show xup2 _ _ _ _ _ _ = _; rw [xup2_n (by omega)]; exact c4.1, c4.2⟩
      have hp3 := hE3.2.1
      obtain ⟨k1, k2, k3, k4⟩ := hE3.tk hA3
      have g36 : G3 72 6 = 0 := xup2_s _ _ _ _
      have e3 : c33 f 72 (S, G, (A, sl)) = if kK t i = 0 then c33_132 f c.1 (S, G3, (A, sl)) else ((c53 f 72 1 (S, G3, (A, sl))).bind fun R164 => cth R164 (fun _ => ((cq_gr 4 0 20 72 R164.2).bind fun v172 => ((cq_gr 8 3 8 (v172) R164.2).bind fun v174 => ((cq_gi 4 1 20 72 R164.2).bind fun v176 => ((cq_a 3 (v174) (v176) R164.2).bind fun v178 => (if (v178) = 0 then c33_99 f 72 c.1 R164.2 else ((cq_gr 4 0 20 72 R164.2).bind fun v181 => ((cq_gr 8 4 8 (v181) R164.2).bind fun v183 => ((cq_gi 4 1 20 72 R164.2).bind fun v185 => ((cq_a 3 (v183) (v185) R164.2).bind fun v187 => ((cq_is 4 20 72 R164.2).bind fun _ => ((c36 f 72 (v187) R164.2).bind fun R189 => cth R189 (fun _ => c33_99 f 72 c.1 R189.2)))))))))))))) := by
        rw [e0]
        have q0 : ∀ a j, ¬ (a = 72 ∧ j = 6) → xup2 G2 72 1 ((min i N : Nat) : Int) a j = G3 a j := fun a j q => (xup2_n q).symm
        exact st_33b hs a1 c1 (by rw [q0 _ _ (by omega)]; exact p72_0 hp3) (by rw [q0 _ _ (by omega)]; exact p65_3 hp3) (by rw [q0 _ _ (by omega)]; exact k1) (by rw [q0 _ _ (by omega)]; exact k3) k4
      show pok (if kK t i = 0 then _ else _) _ _
      by_cases ck : kK t i = 0
      · rw [if_pos ck] at e3 ⊢
        exact ⟨S, G3, (A, sl), e3, fun _ _ => rfl, fun a j _ q1 q2 q3 => ((fr0.tr x1).tr x3) a j q1 q2 q3, ⟨a3, a4⟩, Nat.le_refl _, by show A ≤ A + 3; omega, by show sl ≤ sl + 129; omega, .inl ⟨rfl, g36⟩⟩
      · rw [if_neg ck] at e3 ⊢
        have hCo : cCo G3 [] := ⟨by rw [g3 _ _ (by omega)]; exact b9', fun k hk => absurd hk (Nat.not_lt_zero k)⟩
        have p3 := ky_53 (f := f) (m := (A, sl)) (F := 255) (by omega) hif hck hE3 hA3 (by omega) hCo (by omega)
        show pok (pbind (pF t 255 1 0 ([], 0, i)) _) _ _
        cases h3 : pF t 255 1 0 ([], 0, i) with
        | inl x =>
          rw [h3] at p3
          obtain ⟨G4, d1, d2⟩ := p3
          refine ⟨G4, ?_, ((fr0.tr x1).tr x3).tr d2.fc⟩
          rw [e3, d1]
          rfl
        | inr e =>
          rw [h3] at p3
          obtain ⟨G4, C, F', d1, d2, d3, d4, d5, d6, d7, d8, d9⟩ := p3
          have hp4 := d3.2.1
          obtain ⟨j1, j2, j3, j4⟩ := d3.tk d4
          obtain ⟨_, _, _, _, w5, w6, w7⟩ := pF_le hck 255 1 0 _ e (by decide) h3 (fun k hk => absurd hk (Nat.not_lt_zero k)) (fun q => absurd q (by decide))
          have e4 : c33 f 72 (S, G, (A, sl)) = if kK t e.2.2 = 0 then c33_99 f 72 c.1 (S, G4, (A, sl)) else some (.inl 0, cWr S G4 (A, sl) (kS t e.2.2 : Int)) := by
            rw [e3]
            simp (disch := omega) only [cq_gi, cq_gr, cq_a, cq_s, cq_p, cq_pr, cq_is, cq_ar, cq_ab, cq_ln, xq_nz, Option.bind_some, xup2_n, xup2_s, Int.toNat_natCast, Int.reduceToNat, if_pos, if_neg, true_and, and_true, and_self, eq_self, if_true, reduceIte, not_true_eq_false, not_false_eq_true, or_true, true_or, s72 hs, s65 hs, s67 hs, s68 hs, d1, cth, p72_0 hp4, p65_3 hp4, p65_4 hp4, j1, j2, j3, k_36 hs]
          show pok (if kK t e.2.2 = 0 then _ else _) _ _
          by_cases c0 : kK t e.2.2 = 0
          · rw [if_pos c0] at e4 ⊢
            have hCl : C.length ≤ 62 := by
              have hle : e.2.2 ≤ w := by
                rcases d4.2 with q | q
                · exact q
                · omega
              omega
            obtain ⟨S5, G5, f1, f2, f3, f4, f5⟩ := k_33f (f := f) (A := A) (sl := sl) (x := c.1) (e := (e.1, e.2.1)) (by omega) hs hp4 hA d6 hCl d7 d9 w5
            refine ⟨S5, G5, _, e4.trans f1, f2, fun a j y1 q1 q2 q3 => ?_, ⟨a3, a4⟩, by show A ≤ A + 3; omega, Nat.le_refl _, by show sl + 5 + C.length + C.length ≤ sl + 129; omega, .inr ⟨by show e.2.1 ≠ -1; omega, f4, rfl, f5⟩⟩
            rw [f3 a j y1 (by omega)]
            exact (((fr0.tr x1).tr x3).tr d2.fc) a j q1 q2 q3
          · rw [if_neg c0] at e4 ⊢
            exact ⟨G4, e4, ((fr0.tr x1).tr x3).tr d2.fc⟩
end
