/-! THE CLASS reads inputs -/
theorem pKl_1 (l : List (Int × Int × Int)) (y : Int × Int × Int) (x : Int) : pKl (l ++ [y]) x = if y.1 = x then y.2.2 else pKl l x := by
  unfold pKl pKy
  rw [List.reverse_append]
  show (match (y :: l.reverse).find? (fun z => decide (z.1 = x)) with | some z => z.2.2 | none => 0) = _
  by_cases c : y.1 = x
  · rw [if_pos c, List.find?_cons_of_pos (by simp [c])]
  · rw [if_neg c, List.find?_cons_of_neg (by simp [c])]
    rfl
section
variable {f n N w i j u q F sl p nx : Nat} {S : Nat → Nat × Nat × Nat} {G G1 G2 G3 G4 G' : xG_} {m : Nat × Nat} {B : Nat → Int} {t : tStr} {s : pPg} {L : List Int} {v sp : Int}
theorem st_41w {x : Nat} {T : xT_} (hs : cSs S) (hp : cPs G1) (hx : x ≤ 3000) (d1 : c37 f 72 (S, G, m) = some (S, G1, m)) (k2 : G1 68 x = sp) (k3 : G1 72 1 = (x : Int)) (h : c47 f 72 (S, G1, m) = some (.inl 0, T) ∨ ∃ v, c47 f 72 (S, G1, m) = some (.inr v, (S, G2, m)) ∧ (c48 f 72 v sp (S, G2, m) = some (.inl 0, T) ∨ ∃ pr, c48 f 72 v sp (S, G2, m) = some (.inr pr, (S, G3, m)) ∧ c38 f 72 47 (S, G3, m) = some (.inl 0, T))) : c41 f 72 (S, G, m) = some (.inl 0, T) := by
  rw [c41t_e]
  rcases h with p1 | ⟨v, p1, p2 | ⟨pr, p2, p3⟩⟩
  · simp (disch := omega) only [cq_gi, cq_gr, cq_a, cq_s, cq_p, cq_pr, cq_is, cq_ar, cq_ab, cq_ln, xq_nz, Option.bind_some, xup2_n, xup2_s, Int.toNat_natCast, Int.reduceToNat, if_pos, if_neg, true_and, and_true, and_self, eq_self, if_true, reduceIte, not_true_eq_false, not_false_eq_true, or_true, true_or, s72 hs, s65 hs, s68 hs, p72_0 hp, p65_4 hp, d1, k2, k3, p1, cth]
  · simp (disch := omega) only [cq_gi, cq_gr, cq_a, cq_s, cq_p, cq_pr, cq_is, cq_ar, cq_ab, cq_ln, xq_nz, Option.bind_some, xup2_n, xup2_s, Int.toNat_natCast, Int.reduceToNat, if_pos, if_neg, true_and, and_true, and_self, eq_self, if_true, reduceIte, not_true_eq_false, not_false_eq_true, or_true, true_or, s72 hs, s65 hs, s68 hs, p72_0 hp, p65_4 hp, d1, k2, k3, p1, p2, cth]
  · simp (disch := omega) only [cq_gi, cq_gr, cq_a, cq_s, cq_p, cq_pr, cq_is, cq_ar, cq_ab, cq_ln, xq_nz, Option.bind_some, xup2_n, xup2_s, Int.toNat_natCast, Int.reduceToNat, if_pos, if_neg, true_and, and_true, and_self, eq_self, if_true, reduceIte, not_true_eq_false, not_false_eq_true, or_true, true_or, s72 hs, s65 hs, s68 hs, p72_0 hp, p65_4 hp, d1, k2, k3, p1, p2, p3, cth]
theorem st_41 {x : Nat} {pr : Int} {R : (Nat ⊕ Int) × xT_} (hs : cSs S) (hp : cPs G1) (hx : x ≤ 3000) (d1 : c37 f 72 (S, G, m) = some (S, G1, m)) (k2 : G1 68 x = sp) (k3 : G1 72 1 = (x : Int)) (p1 : c47 f 72 (S, G1, m) = some (.inr v, (S, G2, m))) (p2 : c48 f 72 v sp (S, G2, m) = some (.inr pr, (S, G3, m))) (p3 : c38 f 72 47 (S, G3, m) = some (.inr (), (S, G4, m))) (p4 : c50 f 72 4 (S, G4, m) = some R) : c41 f 72 (S, G, m) = c41t f 72 sp pr R := by
  rw [c41t_e]
  simp (disch := omega) only [cq_gi, cq_gr, cq_a, cq_s, cq_p, cq_pr, cq_is, cq_ar, cq_ab, cq_ln, xq_nz, Option.bind_some, xup2_n, xup2_s, Int.toNat_natCast, Int.reduceToNat, if_pos, if_neg, true_and, and_true, and_self, eq_self, if_true, reduceIte, not_true_eq_false, not_false_eq_true, or_true, true_or, s72 hs, s65 hs, s68 hs, p72_0 hp, p65_4 hp, d1, k2, k3, p1, p2, p3, p4, cth]
theorem st_41t {x : Nat} {pr k wd : Int} (hs : cSs S) (hp : cPs G) (hx : x ≤ 3000) (k1 : G 67 x = k) (k3 : G 72 1 = (x : Int)) : (k ≠ 8 → c41t f 72 sp pr (.inr wd, (S, G, m)) = c41_72 f 72 sp pr wd 0 (S, G, m)) ∧ (∀ {G1 : xG_} {R : (Nat ⊕ Int) × xT_}, k = 8 → c37 f 72 (S, G, m) = some (S, G1, m) → c50 f 72 (xwr (wd - 1)) (S, G1, m) = some R → c41t f 72 sp pr (.inr wd, (S, G, m)) = cth R (fun v => c41_72 f 72 sp pr wd v R.2)) := by
  refine ⟨fun c => ?_, fun c d1 e => ?_⟩
  · unfold c41t
    simp (disch := omega) only [cq_gi, cq_gr, cq_a, cq_s, cq_p, cq_pr, cq_is, cq_ar, cq_ab, cq_ln, xq_nz, Option.bind_some, xup2_n, xup2_s, Int.toNat_natCast, Int.reduceToNat, if_pos, if_neg, true_and, and_true, and_self, eq_self, if_true, reduceIte, not_true_eq_false, not_false_eq_true, or_true, true_or, s72 hs, s65 hs, s67 hs, p72_0 hp, p65_3 hp, k1, k3, cth]
  · rw [c] at k1
    unfold c41t
    simp (disch := omega) only [cq_gi, cq_gr, cq_a, cq_s, cq_p, cq_pr, cq_is, cq_ar, cq_ab, cq_ln, xq_nz, Option.bind_some, xup2_n, xup2_s, Int.toNat_natCast, Int.reduceToNat, if_pos, if_neg, true_and, and_true, and_self, eq_self, if_true, reduceIte, not_true_eq_false, not_false_eq_true, or_true, true_or, s72 hs, s65 hs, s67 hs, p72_0 hp, p65_3 hp, k1, k3, cth, d1, e]
theorem st_72 {pr wd ke : Int} {R : (Nat ⊕ Unit) × xT_} (hs : cSs S) (e : c38 f 72 46 (S, G, m) = some R) : c41_72 f 72 sp pr wd ke (S, G, m) = c41_72t f 72 sp pr wd ke R := by
  rw [c41_72t_e]
  simp (disch := omega) only [cq_gi, cq_gr, cq_a, cq_s, cq_p, cq_pr, cq_is, cq_ar, cq_ab, cq_ln, xq_nz, Option.bind_some, xup2_n, xup2_s, Int.toNat_natCast, Int.reduceToNat, if_pos, if_neg, true_and, and_true, and_self, eq_self, if_true, reduceIte, not_true_eq_false, not_false_eq_true, or_true, true_or, s72 hs, e]
theorem st_72t {pr wd ke : Int} (hs : cSs S) (e : c40 f 72 6 pr sp wd (S, G, m) = some (S, G1, m)) : c41_72t f 72 sp pr wd ke (.inr (), (S, G, m)) = c41_72u f 72 pr wd ke (S, G1, m) := by
  rw [c41_72u_e]
  simp (disch := omega) only [cq_gi, cq_gr, cq_a, cq_s, cq_p, cq_pr, cq_is, cq_ar, cq_ab, cq_ln, xq_nz, Option.bind_some, xup2_n, xup2_s, Int.toNat_natCast, Int.reduceToNat, if_pos, if_neg, true_and, and_true, and_self, eq_self, if_true, reduceIte, not_true_eq_false, not_false_eq_true, or_true, true_or, s72 hs, e, cth]
theorem st_72u {wd ke : Int} (hs : cSs S) (hp : p < 16) (hq : 82 < q) (qs : S q = (1, 3, 14)) (q3 : S (q + 3) = (2, 3, 16)) (q4 : S (q + 4) = (2, 0, 16)) (h3 : G 72 3 = (q : Int)) (w4 : G q 4 = ((q + 3 : Nat) : Int)) (w5 : G q 5 = ((q + 4 : Nat) : Int)) (e : c23 f q (p : Int) wd (S, xup2 (xup2 G (q + 4) p 1) (q + 3) p ke, m) = some (S, G1, m)) : c41_72u f 72 (p : Int) wd ke (S, G, m) = some (.inr (), (S, G1, m)) := by
  have eb := cq_sb_ok (G := G) (m := m) q4 hp
  unfold c41_72u
  simp (disch := omega) only [cq_gi, cq_gr, cq_a, cq_s, cq_p, cq_pr, cq_is, cq_ar, cq_ab, cq_ln, xq_nz, Option.bind_some, xup2_n, xup2_s, Int.toNat_natCast, Int.reduceToNat, if_pos, if_neg, true_and, and_true, and_self, eq_self, if_true, reduceIte, not_true_eq_false, not_false_eq_true, or_true, true_or, s72 hs, qs, q3, h3, w4, w5, eb, e]
/-- from the . on -/
theorem k_41e {wd : Nat} {ke : Int} (h : cPS S G B n t N w q nx s) (hp : p < 16) (h1 : 1 ≤ wd) (h3 : 3 * s.2.2.2.1.length + 3 ≤ s.2.2.2.2.2) {sn : Nat} : pok (pNeed t 46 s.2.2.2.2.2) (iW S G q nx m (c41_72 f 72 (sn : Int) (p : Int) (wd : Int) ke (S, G, m))) (fun j => ∃ G', c41_72 f 72 (sn : Int) (p : Int) (wd : Int) ke (S, G, m) = some (.inr (), (S, G', m)) ∧ xFp q nx G G' ∧ j = s.2.2.2.2.2 + 1 ∧ cPS S G' B n t N w q nx (s.1, s.2.1 ++ [((p : Int), (wd : Int), ke)], s.2.2.1, s.2.2.2.1 ++ [((p : Int), sn, (wd : Int), 1)], s.2.2.2.2.1, j)) := by
  have hs := h.1.1
  have hN := h.1.2.2.2.1.2
  have hiN := h.2.2.1
  have p38 := k_38 (f := f) (m := m) (c := 46) (by decide) h.1 h.2.1
  cases hn : pNeed t 46 s.2.2.2.2.2 with
  | inl x =>
    rw [hn] at p38
    exact ⟨G, by rw [st_72 hs p38]; rfl, .id⟩
  | inr j =>
    rw [hn] at p38
    obtain ⟨a1, a2, a3, a4⟩ := p38
    have hlt := (h.1.lt h.2.1 (by omega)).1
    obtain ⟨r1, r2⟩ := h.at a4 (by omega) (by omega)
    have hM1 : cMe _ s.2.2.2.1 := r1.2.2.2.2.1.1
    have hmp : mPos s.2.2.2.1 := h.2.2.2.2.1.2.2.1
    have e40 := mSt_40 (f := f) (m := m) (k := 6) (p := (p : Int)) (s := (sn : Int)) (d := (wd : Int)) hs r1.1.2.1 hM1.1 (by omega)
    obtain ⟨z1, z2, z3, z4, z5, z6, z7, z8⟩ := r1.men (k := 6) (pr := (p : Int)) (sp' := (sn : Int)) (d := (wd : Int)) (y := ((p : Int), sn, (wd : Int), 1)) rfl rfl rfl (fun _ => rfl)
    obtain ⟨G5, hG5⟩ : ∃ G5, G5 = mSt (xup2 G 72 1 ((min j N : Nat) : Int)) s.2.2.2.1.length 6 (p : Int) (sn : Int) (wd : Int) := ⟨_, rfl⟩
    rw [show mSt (xup2 G 72 1 ((min j N : Nat) : Int)) (s.1, s.2.1, s.2.2.1, s.2.2.2.1, s.2.2.2.2.1, j).2.2.2.1.length 6 (p : Int) (sn : Int) (wd : Int) = G5 from hG5.symm] at z1 z2 z3 z4 z5 z6 z7 z8
    have hq := z3.2.2.1 rfl
    have hqu := h.2.2.2.2.2.2.2
    have zz : ∀ a k, ¬ (a = q + 4 ∧ k = p) → ¬ (a = q + 3 ∧ k = p) → xup2 (xup2 G5 (q + 4) p 1) (q + 3) p ke a k = G5 a k := fun a k y1 y2 => by rw [xup2_n y2, xup2_n y1]
    have z5' : cWd (xup2 (xup2 G5 (q + 4) p 1) (q + 3) p ke) q s.2.2.2.1 := z5.ge (fun k => zz _ _ (by omega) (by omega))
    have z3' : cPr0 S (xup2 (xup2 G5 (q + 4) p 1) (q + 3) p ke) q true s.1 := z3.ge (zz _ _ (by omega) (by omega)) (zz _ _ (by omega) (by omega)) (fun k _ _ _ => zz _ _ (by omega) (by omega)) (fun k => zz _ _ (by omega) (by omega))
    obtain ⟨G6, f1, f2, f3⟩ := k_23 (f := f) (m := m) (p := p) (c := wd) z3'.2.2.2.2.1 z3'.2.2.2.2.2.1 hp hmp z5' (y := ((p : Int), sn, (wd : Int), 1)) rfl rfl h1
    have e2 := st_72u (f := f) (m := m) hs hp z3.2.1 z3.2.2.2.2.1.1 z3.2.2.2.2.1.2.2.2.1 z3.2.2.2.2.1.2.2.2.2.1 z3.1 z3.2.2.2.2.2.1.2.2.1 z3.2.2.2.2.2.1.2.2.2.1 f1
    have e3 : c41_72 f 72 (sn : Int) (p : Int) (wd : Int) ke (S, G, m) = some (.inr (), (S, G6, m)) := by
      rw [st_72 hs a1, ← e2, hG5]
      exact st_72t hs e40
    have y6 : ∀ a k, a ≠ q + 2 → ¬ (a = q + 4 ∧ k = p) → ¬ (a = q + 3 ∧ k = p) → G6 a k = G5 a k := fun a k q1 q2 q3 => by rw [f3 a k q1, zz a k q2 q3]
    refine ⟨G6, e3, (r2.tr z8).tr (fun a k q1 q2 q3 q4 => y6 a k (by omega) (by omega) (by omega)), a2, z1.ge (fun _ _ => rfl) (fun a k q1 q2 q3 => y6 a k (by omega) (by omega) (by omega)), ⟨by rw [y6 _ _ (by omega) (by omega) (by omega)]; exact z2.1, z2.2⟩, by show j ≤ N; omega, z3.ge (y6 _ _ (by omega) (by omega) (by omega)) (y6 _ _ (by omega) (by omega) (by omega)) (fun k _ _ _ => y6 _ _ (by omega) (by omega) (by omega)) (fun k => y6 _ _ (by omega) (by omega) (by omega)), ⟨z4.ge (y6 _ _ (by omega) (by omega) (by omega)) (fun a k q1 q2 => y6 _ _ (by omega) (by omega) (by omega)), f2, mPos_1 hmp (.inr (by show (1 : Int) ≤ (wd : Int); omega)), by show 3 * (s.2.2.2.1 ++ [_]).length ≤ j; rw [len1]; omega⟩, ⟨?_, z6.2.1.ge (Nat.le_refl _) (y6 _ _ (by omega) (by omega) (by omega)) (fun k _ => y6 _ _ (by omega) (by omega) (by omega)) (fun _ _ => rfl) (fun a k q1 q2 => y6 _ _ (by omega) (by omega) (by omega)), fun a k q1 q2 => by rw [y6 a k (by omega) (by omega) (by omega)]; exact z6.2.2.1 a k q1 q2, by rw [y6 _ _ (by omega) (by omega) (by omega)]; exact z6.2.2.2⟩, z7.ge (fun k => y6 _ _ (by omega) (by omega) (by omega)), hqu⟩
    intro x hx
    obtain ⟨w1, w2, w3⟩ := z6.1 x hx
    show _ = pKl (s.2.1 ++ [((p : Int), (wd : Int), ke)]) (x : Int) ∧ _ = b01 (pIn (s.2.1 ++ [((p : Int), (wd : Int), ke)]) (x : Int)) ∧ _
    rw [pKl_1, pIn_1, f3 (q + 3) x (by omega), f3 (q + 4) x (by omega), y6 (q + 5) x (by omega) (by omega) (by omega)]
    show _ = (if (p : Int) = (x : Int) then ke else _) ∧ _ = (if (x : Int) = (p : Int) then 1 else _) ∧ _
    by_cases cx : x = p
    · rw [if_pos (by omega), if_pos (by omega), cx, xup2_s, xup2_n (by omega), xup2_s]
      rw [cx] at w3
      exact ⟨rfl, rfl, w3⟩
    · rw [if_neg (by omega), if_neg (by omega), zz _ _ (by omega) (by omega), zz _ _ (by omega) (by omega)]
      exact ⟨w1, w2, w3⟩
/-- readInput() -/
theorem k_41 (hf : 20 < f) (hk : kK t s.2.2.2.2.2 = 6) (h : cPS S G B n t N w q nx s) : pok (pInput t s) (iW S G q nx m (c41 f 72 (S, G, m))) (fun s' => ∃ G', c41 f 72 (S, G, m) = some (.inr (), (S, G', m)) ∧ xFp q nx G G' ∧ cPS S G' B n t N w q nx s' ∧ s.2.2.2.2.2 < s'.2.2.2.2.2) := by
  have hs := h.1.1
  have hN := h.1.2.2.2.1.2
  have h3m : 3 * s.2.2.2.1.length ≤ s.2.2.2.2.2 := h.2.2.2.2.1.2.2.2
  obtain ⟨G1, d1, ⟨k2, k3, k4, kp⟩, pp⟩ := k_io (m := m) hf h (by omega) (by omega)
  unfold pInput
  cases hX : pPred t s.1 (s.2.2.2.2.2 + 1) with
  | inl x =>
    rw [hX] at pp
    obtain ⟨G2, a1, a2⟩ := pp
    exact ⟨G2, st_41w (G3 := G2) hs kp k4 d1 k2 k3 (a2.imp id (fun ⟨v, b1, b2⟩ => ⟨v, b1, .inl b2⟩)), a1⟩
  | inr r =>
    rw [hX] at pp
    obtain ⟨v, G2, G3, p1, p2, p3, p4, ⟨pn, p5, p6⟩, p7⟩ := pp
    have p38 := k_38 (f := f) (m := m) (c := 47) (by decide) p7.1 p7.2.1
    show pok (pbind (pNeed t 47 r.2.2) _) _ _
    rw [p4]
    have p38' : pok (pNeed t 47 (s.2.2.2.2.2 + 2)) _ _ := p38
    cases hn : pNeed t 47 (s.2.2.2.2.2 + 2) with
    | inl x =>
      rw [hn] at p38'
      exact ⟨G3, st_41w (G3 := G3) hs kp k4 d1 k2 k3 (.inr ⟨v, p1, .inr ⟨_, p2, p38'⟩⟩), p3⟩
    | inr j =>
      rw [hn] at p38'
      obtain ⟨a1, a2, a3, a4⟩ := p38'
      replace a2 : j = s.2.2.2.2.2 + 2 + 1 := a2
      replace a3 : kK t (s.2.2.2.2.2 + 2) = 47 := a3
      have hlt := (p7.1.lt p7.2.1 (by show kK t (s.2.2.2.2.2 + 2) ≠ 0; omega)).1
      have hlt' : s.2.2.2.2.2 + 2 < N := hlt
      obtain ⟨r1, r2⟩ := p7.at a4 (by omega) (by show s.2.2.2.2.2 + 2 ≤ j; omega)
      have p50 := k_50 (f := f) (m := m) (hi := 4) (by decide) r1.1 r1.2.1
      show pok (pbind (pNum t 4 j) _) _ _
      have p50' : pok (pNum t 4 j) _ _ := p50
      cases hm : pNum t 4 j with
      | inl x =>
        rw [hm] at p50'
        exact ⟨_, by rw [st_41 hs kp k4 d1 k2 k3 p1 p2 a1 p50']; rfl, p3.tr r2⟩
      | inr nn =>
        rw [hm] at p50'
        obtain ⟨b1, b2, b3, b4, b5⟩ := p50'
        replace b2 : nn.2 = j + 1 := b2
        have hj0 : kK t j ≠ 0 := by
          intro z
          unfold pNum at hm
          rw [if_neg (fun y => by omega)] at hm
          cases hm
        have hltj := (r1.1.lt r1.2.1 hj0).1
        have hltj' : j < N := hltj
        obtain ⟨t1, t2⟩ := r1.at b5 (by omega) (by show j ≤ nn.2; omega)
        obtain ⟨wd, hwd⟩ : ∃ wd : Nat, nn.1 = (wd : Int) := ⟨nn.1.toNat, by omega⟩
        have e41 := st_41 hs kp k4 d1 k2 k3 p1 p2 a1 b1
        obtain ⟨kk1, kk2, kk3, kk4⟩ := t1.1.tk t1.2.1
        obtain ⟨s1, s2⟩ := st_41t (f := f) (m := m) (sp := (kS t (s.2.2.2.2.2 + 1) : Int)) (pr := r.1) (wd := nn.1) hs t1.1.2.1 kk4 kk1 kk3
        rw [e41]
        show pok (pbind (if kK t nn.2 = 8 then pNum t (nn.1 - 1) (nn.2 + 1) else .inr (0, nn.2)) _) _ _
        have fr := (p3.tr r2).tr t2
        by_cases c8 : kK t nn.2 = 8
        · rw [if_pos c8]
          obtain ⟨g1, g2⟩ := k_37 (f := f) (m := m) t1.1 t1.2.1 (by show kK t nn.2 ≠ 5; omega)
          have hltn := (t1.1.lt t1.2.1 (by show kK t nn.2 ≠ 0; omega)).1
          have hltn' : nn.2 < N := hltn
          obtain ⟨v1, v2⟩ := t1.at g2 (by show nn.2 + 1 ≤ N; omega) (by show nn.2 ≤ nn.2 + 1; omega)
          have q50 := k_50 (f := f) (m := m) (hi := wd - 1) (by omega) v1.1 v1.2.1
          have ew : xwr (nn.1 - 1) = ((wd - 1 : Nat) : Int) := by rw [xwr_g _ (by omega) (by omega)]; omega
          have ew' : nn.1 - 1 = ((wd - 1 : Nat) : Int) := by omega
          rw [ew']
          have q50' : pok (pNum t ((wd - 1 : Nat) : Int) (nn.2 + 1)) _ _ := q50
          cases hk : pNum t ((wd - 1 : Nat) : Int) (nn.2 + 1) with
          | inl x =>
            rw [hk] at q50'
            exact ⟨_, by rw [s2 c8 g1 (by rw [ew]; exact q50')]; rfl, fr.tr v2⟩
          | inr ke =>
            rw [hk] at q50'
            obtain ⟨w1, w2, w3, w4, w5⟩ := q50'
            replace w2 : ke.2 = nn.2 + 1 + 1 := w2
            have hk0 : kK t (nn.2 + 1) ≠ 0 := by
              intro z
              unfold pNum at hk
              rw [if_neg (fun y => by omega)] at hk
              cases hk
            have hltk := (v1.1.lt v1.2.1 hk0).1
            have hltk' : nn.2 + 1 < N := hltk
            obtain ⟨y1, y2⟩ := v1.at w5 (by omega) (by show nn.2 + 1 ≤ ke.2; omega)
            have e := s2 c8 g1 (by rw [ew]; exact w1)
            have kx := k_41e (f := f) (m := m) (p := pn) (wd := wd) (ke := ke.1) (sn := kS t (s.2.2.2.2.2 + 1)) y1 p6 (by omega) (by show 3 * s.2.2.2.1.length + 3 ≤ ke.2; omega)
            rw [← hwd, ← p5] at kx
            rw [e]
            show pok (pbind (pNeed t 46 ke.2) _) _ _
            have kx' : pok (pNeed t 46 ke.2) _ _ := kx
            cases hz : pNeed t 46 ke.2 with
            | inl x =>
              rw [hz] at kx'
              obtain ⟨G9, u1, u2⟩ := kx'
              exact ⟨G9, u1, (fr.tr v2).tr (y2.tr u2)⟩
            | inr j' =>
              rw [hz] at kx'
              obtain ⟨G9, u1, u2, u3, u4⟩ := kx'
              replace u3 : j' = ke.2 + 1 := u3
              exact ⟨G9, u1, (fr.tr v2).tr (y2.tr u2), u4, by show s.2.2.2.2.2 < j'; omega⟩
        · rw [if_neg c8]
          have e := s1 c8
          have kx := k_41e (f := f) (m := m) (p := pn) (wd := wd) (ke := 0) (sn := kS t (s.2.2.2.2.2 + 1)) t1 p6 (by omega) (by show 3 * s.2.2.2.1.length + 3 ≤ nn.2; omega)
          rw [← hwd, ← p5] at kx
          rw [e]
          show pok (pbind (pNeed t 46 nn.2) _) _ _
          have kx' : pok (pNeed t 46 nn.2) _ _ := kx
          cases hz : pNeed t 46 nn.2 with
          | inl x =>
            rw [hz] at kx'
            obtain ⟨G9, u1, u2⟩ := kx'
            exact ⟨G9, u1, fr.tr u2⟩
          | inr j' =>
            rw [hz] at kx'
            obtain ⟨G9, u1, u2, u3, u4⟩ := kx'
            replace u3 : j' = nn.2 + 1 := u3
            exact ⟨G9, u1, fr.tr u2, u4, by show s.2.2.2.2.2 < j'; omega⟩
end
