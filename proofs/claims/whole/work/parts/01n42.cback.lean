section
/-! THE CLASS: back() -/
section
variable {f A hr n sl ln : Nat} {S : Nat → Nat × Nat × Nat} {G G' : xG_} {m : Nat × Nat} {T : List (List Int)} {P : Nat → Nat} {l : sLn} {lns : Nat → sLn} {tx : List Int} {kp : Nat × List (List Int)} {mt : Int × List Int} {pl rf : Int} {H : Nat → sMo} {b k ed : Nat}
/-- fewer rounds -/
theorem cRo.cut {i : Nat} (h : cRo T S G A P ln H b k ed) (hi : i ≤ k) (hG : xSf A G G') (e1 : G' ln 1 = ((b + i : Nat) : Int)) (e2 : G' ln 2 = G ln 2) (em : ∀ j, b ≤ j → j ≤ b + i → G' (ln + 1) j = G (ln + 1) j) : cRo T S G' A P ln H b i (ed - (hCat (hEg H) (b + i) (k - i)).length) := by
  obtain ⟨⟨h1, h2⟩, mp, h3, h4⟩ := h
  have gm : ∀ r, b ≤ r → r ≤ b + k → ∀ j, G' (mp r) j = G (mp r) j := fun r r1 r2 j => by
    obtain ⟨_, ⟨s, M, rp, xr, cr, tp, ac, to, _, _, _, _, _, _, ⟨z, _⟩, _⟩, _⟩ := h3 r r1 r2
    exact hG _ _ z.1 (.inr z.2)
  refine ⟨⟨e1, by rw [e2]; exact h2⟩, mp, fun r r1 r2 => ?_, fun r r1 r2 => ?_⟩
  · obtain ⟨a1, a2, x, a3, a4⟩ := h3 r r1 (by omega)
    refine ⟨by rw [em r r1 r2]; exact a1, a2.ge (Nat.le_refl _) (fun _ _ => rfl) hG, x, by rw [gm r r1 (by omega)]; exact a3, ?_⟩
    have e3 : b + k - r = (b + i - r) + (k - i) := by omega
    rw [e3, hCat_split, List.length_append] at a4
    have e4 : r + (b + i - r) = b + i := by omega
    rw [e4] at a4
    omega
  · have := h4 r r1 (by omega)
    rw [gm r (by omega) (by omega), gm r (by omega) (by omega), gm r (by omega) (by omega)]
    exact this
/-- the forks of lines behind a round -/
theorem k_186l {r v : Int} (hs : cSs S) (hr4 : hr < 4) : ∀ (d i fu : Nat) (G : xG_), i + d = 4 → d < fu → cPs G → G 64 6 = (hr : Int) → ∃ G', c186_35 f fu 64 r v (i : Int) (S, G, m) = some (v, (S, G', m)) ∧ G' 64 13 = 0 ∧ (∀ y, i ≤ y → y < 4 → G' (243 + 9 * y) 3 = if G (243 + 9 * y) 3 = (hr : Int) ∧ r < G (243 + 9 * y) 4 then -1 else G (243 + 9 * y) 3) ∧ ∀ a j, ¬ (a = 64 ∧ j = 13) → ¬ (j = 3 ∧ ∃ y, i ≤ y ∧ y < 4 ∧ a = 243 + 9 * y) → G' a j = G a j := by
  intro d
  induction d with
  | zero =>
    intro i fu G e1 e2 hp h6
    obtain ⟨fu, rfl⟩ : ∃ t, fu = t + 1 := ⟨fu - 1, by omega⟩
    refine ⟨xup2 G 64 13 ((0 : Nat) : Int), ?_, xup2_s _ _ _ _, fun y y1 y2 => by omega, fun a j y1 y2 => xup2_n y1⟩
    show c186_35b (c186_35 f fu) f _ _ _ _ _ = _
    unfold c186_35b
    rw [if_pos (by omega), o_pr (s64 hs), Option.bind_some]
  | succ d ih =>
    intro i fu G e1 e2 hp h6
    obtain ⟨fu, rfl⟩ : ∃ t, fu = t + 1 := ⟨fu - 1, by omega⟩
    have hi : i < 4 := by omega
    have ls := lnSt_of hs hi
    have pl := p_ln hp hi
    have g6 : cq_gi 11 6 17 64 (S, G, m) = some (hr : Int) := by rw [o_gi (s64 hs), h6]
    have w : xwr ((i : Int) + 1) = ((i + 1 : Nat) : Int) := by rw [xwr_g _ (by omega) (by omega)]; omega
    have same : ¬ (G (243 + 9 * i) 3 = (hr : Int) ∧ r < G (243 + 9 * i) 4) → c186_35 f (fu + 1) 64 r v (i : Int) (S, G, m) = c186_35 f fu 64 r v ((i + 1 : Nat) : Int) (S, G, m) → ∃ G', c186_35 f (fu + 1) 64 r v (i : Int) (S, G, m) = some (v, (S, G', m)) ∧ G' 64 13 = 0 ∧ (∀ y, i ≤ y → y < 4 → G' (243 + 9 * y) 3 = if G (243 + 9 * y) 3 = (hr : Int) ∧ r < G (243 + 9 * y) 4 then -1 else G (243 + 9 * y) 3) ∧ ∀ a j, ¬ (a = 64 ∧ j = 13) → ¬ (j = 3 ∧ ∃ y, i ≤ y ∧ y < 4 ∧ a = 243 + 9 * y) → G' a j = G a j := fun hc he => by
      obtain ⟨G', k1, k2, k3, k4⟩ := ih (i + 1) fu G (by omega) (by omega) hp h6
      refine ⟨G', he.trans k1, k2, fun y y1 y2 => ?_, fun a j y1 y2 => k4 a j y1 (fun z => y2 ⟨z.1, by obtain ⟨y, z1, z2, z3⟩ := z.2; exact ⟨y, by omega, z2, z3⟩⟩)⟩
      by_cases c : y = i
      · subst c
        rw [if_neg hc]
        exact k4 _ _ (by omega) (fun z => by obtain ⟨x, z1, z2, z3⟩ := z.2; omega)
      · exact k3 y (by omega) y2
    by_cases c1 : G (243 + 9 * i) 3 = (hr : Int)
    · by_cases c2 : r < G (243 + 9 * i) 4
      · have z : ∀ a j, ¬ (a = 243 + 9 * i ∧ j = 3) → xup2 G (243 + 9 * i) 3 (-1) a j = G a j := fun a j y => xup2_n y
        obtain ⟨G', k1, k2, k3, k4⟩ := ih (i + 1) fu (xup2 G (243 + 9 * i) 3 (-1)) (by omega) (by omega) (hp.ge (fun a j hz => z a j (by
          rcases hz with z | z | z | z | z | z | z | ⟨z, z1, z2, k, z3⟩ | z | z | z | ⟨k, z1, z2, z3⟩ <;> omega))) (by rw [z _ _ (by omega)]; exact h6)
        refine ⟨G', ?_, k2, fun y y1 y2 => ?_, fun a j y1 y2 => ?_⟩
        · show c186_35b (c186_35 f fu) f _ _ _ _ _ = _
          unfold c186_35b c186_83
          rw [if_neg (by omega), o_gr (y := 220) (s64 hs) (p64_5 hp), Option.bind_some, o_ar (s220 hs) (by decide) hi pl, Option.bind_some, o_gi ls.1, Option.bind_some, g6, Option.bind_some, if_neg (fun z => z c1), Option.bind_some, o_ar (s220 hs) (by decide) hi pl, Option.bind_some, o_gi ls.1, Option.bind_some, if_neg (by omega), Option.bind_some, o_ar (s220 hs) (by decide) hi pl, Option.bind_some, o_p ls.1, Option.bind_some, w]
          exact k1
        · by_cases c : y = i
          · subst c
            rw [if_pos ⟨c1, c2⟩, k4 _ _ (by omega) (fun z => by obtain ⟨x, z1, z2, z3⟩ := z.2; omega), xup2_s]
          · rw [k3 y (by omega) y2, z _ _ (by omega), z _ _ (by omega)]
        · rw [k4 a j y1 (fun w => y2 ⟨w.1, by obtain ⟨y, z1, z2, z3⟩ := w.2; exact ⟨y, by omega, z2, z3⟩⟩), z a j (fun w => y2 ⟨w.2, i, Nat.le_refl _, hi, w.1⟩)]
      · refine same (fun z => c2 z.2) ?_
        show c186_35b (c186_35 f fu) f _ _ _ _ _ = _
        unfold c186_35b c186_83
        rw [if_neg (by omega), o_gr (y := 220) (s64 hs) (p64_5 hp), Option.bind_some, o_ar (s220 hs) (by decide) hi pl, Option.bind_some, o_gi ls.1, Option.bind_some, g6, Option.bind_some, if_neg (fun z => z c1), Option.bind_some, o_ar (s220 hs) (by decide) hi pl, Option.bind_some, o_gi ls.1, Option.bind_some, if_pos (by omega), w]
    · refine same (fun z => c1 z.1) ?_
      show c186_35b (c186_35 f fu) f _ _ _ _ _ = _
      unfold c186_35b c186_83
      rw [if_neg (by omega), o_gr (y := 220) (s64 hs) (p64_5 hp), Option.bind_some, o_ar (s220 hs) (by decide) hi pl, Option.bind_some, o_gi ls.1, Option.bind_some, g6, Option.bind_some, if_pos c1, w]
/-- goBack() -/
theorem k_12 {r mp mq q q' R : Nat} {s1 s2 g3 g4 : Int} (hf : 100 < f) (hp : cPs G) (ls : lnSt S ln) (lp : lnPt G ln) (hln : 242 < ln ∧ ln + 8 < 279) (h1 : G ln 1 = (R : Int)) (hR : R < 520) (hr : r ≤ R) (m1 : G (ln + 1) r = (mp : Int)) (m2 : G (ln + 1) R = (mq : Int)) (S1 : S mp = (1, 2, 8)) (S2 : S mq = (1, 2, 8)) (p1 : G mp 0 = (q : Int)) (p2 : G mq 0 = (q' : Int)) (q1 : S q = (1, 3, 14)) (q2 : S q' = (1, 3, 14)) (e1 : G q 0 = s1) (e2 : G q' 0 = s2) (e3 : G ln 3 = g3) (e4 : G ln 4 = g4) :
    ∃ G', c12 f ln (r : Int) (S, G, m) = some (S, G', m) ∧ (∀ a j, ¬ (a = ln ∧ (j = 1 ∨ j = 3 ∨ j = 7 ∨ j = 8)) → a ≠ ln + 2 → a ≠ ln + 7 → a ≠ ln + 8 → G' a j = G a j) ∧ G' ln 1 = (r : Int) ∧ G' ln 3 = (if g4 ≤ (r : Int) then g3 else -1) ∧ G' ln 7 = 0 ∧ G' ln 8 = 0 ∧ (∀ y, y < 72 → G' (ln + 7) y = 0 ∧ G' (ln + 8) y = 0) ∧ ∀ p, p < 16 → G' (ln + 2) p = if s1 = s2 then G (ln + 2) p else 0 := by
  have i1 : ∀ G' : xG_, cq_is 1 14 ln (S, G', m) = some () := fun G' => if_pos ls.1
  -- the end
  have t46 : ∀ Z : xG_, (∀ j, j ≠ 3 → Z ln j = G ln j) → ∃ G', c12_46 f ln (r : Int) (S, Z, m) = some (S, G', m) ∧ (∀ a j, ¬ (a = ln ∧ (j = 1 ∨ j = 7 ∨ j = 8)) → a ≠ ln + 7 → a ≠ ln + 8 → G' a j = Z a j) ∧ G' ln 1 = (r : Int) ∧ G' ln 7 = 0 ∧ G' ln 8 = 0 ∧ ∀ y, y < 72 → G' (ln + 7) y = 0 ∧ G' (ln + 8) y = 0 := fun Z hZ => by
    have lpZ : lnPt (xup2 Z ln 1 (r : Int)) ln := by
      obtain ⟨h0, h1, h2, h3, h4, h5, h6, h7⟩ := lp
      exact ⟨by rw [xup2_n (by omega), hZ _ (by decide)]; exact h0, by rw [xup2_n (by omega), hZ _ (by decide)]; exact h1, by rw [xup2_n (by omega), hZ _ (by decide)]; exact h2, by rw [xup2_n (by omega), hZ _ (by decide)]; exact h3, by rw [xup2_n (by omega), hZ _ (by decide)]; exact h4, by rw [xup2_n (by omega), hZ _ (by decide)]; exact h5, by rw [xup2_n (by omega), hZ _ (by decide)]; exact h6, by rw [xup2_n (by omega), hZ _ (by decide)]; exact h7⟩
    obtain ⟨G', k1, k2, k3, k4, k5⟩ := k_7 (f := f) (m := m) hf ls lpZ
    refine ⟨G', ?_, fun a j y1 y2 y3 => by rw [k2 a j (by omega) y2 y3, xup2_n (by omega)], ?_, k3, k4, k5⟩
    · unfold c12_46
      rw [o_p ls.1, Option.bind_some, i1, Option.bind_some, k1, Option.bind_some]
    · rw [k2 _ _ (by omega) (by omega) (by omega), xup2_s]
  have t33 : ∀ Z : xG_, (∀ j, Z ln j = G ln j) → ∃ G', c12_33 f ln (r : Int) (S, Z, m) = some (S, G', m) ∧ (∀ a j, ¬ (a = ln ∧ (j = 1 ∨ j = 3 ∨ j = 7 ∨ j = 8)) → a ≠ ln + 7 → a ≠ ln + 8 → G' a j = Z a j) ∧ G' ln 1 = (r : Int) ∧ G' ln 3 = (if g4 ≤ (r : Int) then g3 else -1) ∧ G' ln 7 = 0 ∧ G' ln 8 = 0 ∧ ∀ y, y < 72 → G' (ln + 7) y = 0 ∧ G' (ln + 8) y = 0 := fun Z hZ => by
    unfold c12_33
    rw [o_gi ls.1, Option.bind_some, hZ, e4]
    by_cases c : g4 ≤ (r : Int)
    · rw [if_pos c, if_pos c]
      obtain ⟨G', k1, k2, k3, k4, k5, k6⟩ := t46 Z (fun j _ => hZ j)
      exact ⟨G', k1, fun a j y1 y2 y3 => k2 a j (by omega) y2 y3, k3, by rw [k2 _ _ (by omega) (by omega) (by omega), hZ]; exact e3, k4, k5, k6⟩
    · rw [if_neg c, if_neg c, o_p ls.1, Option.bind_some]
      obtain ⟨G', k1, k2, k3, k4, k5, k6⟩ := t46 (xup2 Z ln 3 (-1)) (fun j hj => by rw [xup2_n (by omega)]; exact hZ j)
      exact ⟨G', k1, fun a j y1 y2 y3 => by rw [k2 a j (by omega) y2 y3, xup2_n (by omega)], k3, by rw [k2 _ _ (by omega) (by omega) (by omega), xup2_s], k4, k5, k6⟩
  unfold c12
  rw [o_gr ls.1 lp.1, Option.bind_some, o_ar ls.2.1 (by decide) (by omega) m1, Option.bind_some, o_gr S1 p1, Option.bind_some, o_gi q1, Option.bind_some, e1, i1, Option.bind_some, k_5 ls lp h1 hR m2, Option.bind_some, o_gr S2 p2, Option.bind_some, o_gi q2, Option.bind_some, e2]
  by_cases c : s1 = s2
  · rw [if_pos c]
    obtain ⟨G', k1, k2, k3, k4, k5, k6, k7⟩ := t33 G (fun _ => rfl)
    exact ⟨G', k1, fun a j y1 y2 y3 y4 => k2 a j y1 y3 y4, k3, k4, k5, k6, k7, fun p hp => by rw [if_pos c]; exact k2 _ _ (by omega) (by omega) (by omega)⟩
  · rw [if_neg c, o_gr ls.1 lp.2.1, Option.bind_some]
    obtain ⟨Z, z1, z2, z3⟩ := k_382f (f := f) (m := m) (G := G) (v := 0) (by omega) (by decide) ls.2.2.1
    rw [z1, Option.bind_some]
    obtain ⟨G', k1, k2, k3, k4, k5, k6, k7⟩ := t33 Z (fun j => z3 _ _ (by omega))
    exact ⟨G', k1, fun a j y1 y2 y3 y4 => by rw [k2 a j y1 y3 y4, z3 a j y2], k3, k4, k5, k6, k7, fun p hp => by rw [if_neg c, k2 _ _ (by omega) (by omega) (by omega)]; exact z2 p hp⟩
/-- back() -/
theorem k_186 {r v : Int} {lns' : Nat → sLn} (hf : 100 < f) (h : cHs S G A (T, lns, hr, tx, kp, mt, pl, rf) n) (hb : (lns hr).2.1.1 + (lns hr).2.1.2.1 < 520) (hst : stBk lns hr r v lns') : ∃ G', c186 f 64 r (S, G, m) = some (v, (S, G', m)) ∧ cHs S G' A (T, lns', hr, tx, kp, mt, pl, rf) (n + 1) := by
  have hh := h
  obtain ⟨⟨a1, a2, a3, a4⟩, ⟨P, b1, b2, b3⟩, ⟨c1, c2⟩, ⟨c3, c4⟩, c5, c6, c7, c8, c9⟩ := h
  have ls := lnSt_of a1 c1
  have lp := lnPt_of a2 c1
  have pl' := p_ln a2 c1
  have L := b2 hr c1
  obtain ⟨Lr, ⟨Lw, Lc⟩, Le, Lp, Lt, L3, L4⟩ := id L
  obtain ⟨⟨l1, l2⟩, mp, l3, l4⟩ := id Lr
  have g6 : cq_gi 11 6 17 64 (S, G, m) = some (hr : Int) := by rw [o_gi (s64 a1), c2]
  have i3 : cq_is 1 14 (243 + 9 * hr) (S, G, m) = some () := if_pos ls.1
  rcases hst with ⟨i, i1, rfl, rfl, rfl⟩ | ⟨i1, rfl, el⟩
  · obtain ⟨m1, m2, _⟩ := l3 _ (Nat.le_add_right _ i) (by omega)
    obtain ⟨n1, n2, _⟩ := l3 _ (Nat.le_add_right _ _) (Nat.le_refl _)
    obtain ⟨s1, M1, is1⟩ := m2.is
    obtain ⟨s2, M2, is2⟩ := n2.is
    obtain ⟨rp1, xr1, cr1, nq1, r1, r2, r3, r4, r5, r6⟩ := m2.pm b1 is1
    obtain ⟨rp2, xr2, cr2, nq2, t1, t2, t3, t4, t5, t6⟩ := n2.pm b1 is2
    obtain ⟨G1, k1, k2, k3, k4, k5, k6, k7, k8⟩ := k_12 (f := f) (m := m) (r := (lns hr).2.1.1 + i) hf a2 ls lp (by omega) l1 hb (by omega) m1 n1 r1.1 t1.1 r1.2.1 t1.2.1 r2.1.1 t2.1.1 rfl rfl rfl rfl
    have z1 : ∀ a j, ¬ (243 + 9 * hr ≤ a ∧ a ≤ 243 + 9 * hr + 8) → G1 a j = G a j := fun a j y => k2 a j (by omega) (by omega) (by omega) (by omega)
    have hp1 : cPs G1 := a2.ge (fun a j hz => k2 a j (by
        rcases hz with z | z | z | z | z | z | z | ⟨z, z1, z2, k, z3⟩ | z | z | z | ⟨k, z1, z2, z3⟩ <;> omega) (by
        rcases hz with z | z | z | z | z | z | z | ⟨z, z1, z2, k, z3⟩ | z | z | z | ⟨k, z1, z2, z3⟩ <;> omega) (by
        rcases hz with z | z | z | z | z | z | z | ⟨z, z1, z2, k, z3⟩ | z | z | z | ⟨k, z1, z2, z3⟩ <;> omega) (by
        rcases hz with z | z | z | z | z | z | z | ⟨z, z1, z2, k, z3⟩ | z | z | z | ⟨k, z1, z2, z3⟩ <;> omega))
    obtain ⟨G2, g1, g2, g3, g4⟩ := k_186l (f := f) (m := m) (r := (((lns hr).2.1.1 + i : Nat) : Int)) (v := (((lns hr).2.1.2.1 - i : Nat) : Int)) a1 c1 4 0 f G1 (by omega) (by omega) hp1 (by rw [z1 _ _ (by omega)]; exact c2)
    have ew : xwr ((((lns hr).2.1.1 + (lns hr).2.1.2.1 : Nat) : Int) - (((lns hr).2.1.1 + i : Nat) : Int)) = (((lns hr).2.1.2.1 - i : Nat) : Int) := by rw [xwr_g _ (by omega) (by omega)]; omega
    have z2 : ∀ a j, ¬ (a = 64 ∧ j = 13) → ¬ (j = 3 ∧ 243 ≤ a ∧ a ≤ 278) → G2 a j = G1 a j := fun a j y1 y2 => g4 a j y1 (fun z => by obtain ⟨zj, y, z1, z2, z3⟩ := z; omega)
    have zz : ∀ a j, ¬ (a = 64 ∧ j = 13) → ¬ (243 ≤ a ∧ a ≤ 278) → G2 a j = G a j := fun a j y1 y2 => by rw [z2 a j y1 (by omega), z1 a j (by omega)]
    have sf : xSf A G G2 := fun a j y1 y2 => zz a j (by omega) (by omega)
    refine ⟨G2, ?_, ⟨⟨a1, hp1.ge (fun a j hz => z2 a j (by
        rcases hz with z | z | z | z | z | z | z | ⟨z, z1, z2, k, z3⟩ | z | z | z | ⟨k, z1, z2, z3⟩ <;> omega) (by
        rcases hz with z | z | z | z | z | z | z | ⟨z, z1, z2, k, z3⟩ | z | z | z | ⟨k, z1, z2, z3⟩ <;> omega)), a3.ge (fun a j y1 y2 => zz a j (by omega) (by omega)), a4⟩, ⟨P, b1.ge (Nat.le_refl _) (fun _ _ => rfl) sf (by rw [zz _ _ (by omega) (by omega)]; exact Int.le_refl _), fun y hy => ?_, ?_⟩, ⟨c1, by rw [zz _ _ (by omega) (by omega)]; exact c2⟩, ⟨by rw [zz _ _ (by omega) (by omega)]; exact c3, by rw [zz _ _ (by omega) (by omega)]; omega⟩, by rw [zz _ _ (by omega) (by omega)]; exact c5, by rw [zz _ _ (by omega) (by omega)]; exact c6, c7.ge (zz _ _ (by omega) (by omega)) (fun p => zz _ _ (by omega) (by omega)), c8.ge (fun _ _ => rfl) (fun a j y1 y2 => zz a j (by omega) (by omega)) ⟨zz _ _ (by omega) (by omega), zz _ _ (by omega) (by omega)⟩, c9.ge ⟨zz _ _ (by omega) (by omega), zz _ _ (by omega) (by omega)⟩ (fun j => zz _ _ (by omega) (by omega))⟩⟩
    · unfold c186
      rw [o_gr (y := 220) (s64 a1) (p64_5 a2), Option.bind_some, g6, Option.bind_some, o_ar (s220 a1) (by decide) c1 pl', Option.bind_some, i3, Option.bind_some, k_6 ls.1 l1 l2, Option.bind_some, if_pos (show ¬ (if (((lns hr).2.1.1 : Int) ≤ (((lns hr).2.1.1 + i : Nat) : Int) ∧ (((lns hr).2.1.1 + i : Nat) : Int) ≤ (((lns hr).2.1.1 + (lns hr).2.1.2.1 : Nat) : Int)) then (1 : Int) else 0) = 0 by rw [if_pos (by omega)]; decide), o_gi ls.1, Option.bind_some, l1, i3, Option.bind_some, k1, Option.bind_some, ew]
      exact g1
    · by_cases d : y = hr
      · subst d
        show cLn _ _ _ _ _ _ (if _ then _ else _)
        rw [if_pos rfl]
        have e3 := g3 y (Nat.zero_le _) hy
        rw [k4, k2 (243 + 9 * y) 4 (by omega) (by omega) (by omega) (by omega)] at e3
        refine ⟨Lr.cut i1 sf (by rw [z2 _ _ (by omega) (by omega)]; exact k3) (by rw [z2 _ _ (by omega) (by omega), k2 _ _ (by omega) (by omega) (by omega) (by omega)]) (fun j _ _ => by rw [g4 _ _ (by omega) (fun z => by obtain ⟨_, x, z1, z2, z3⟩ := z; omega), k2 _ _ (by omega) (by omega) (by omega) (by omega)]), ⟨fun p hp => ?_, fun c hc => ?_⟩, .inl ⟨rfl, by rw [z2 _ _ (by omega) (by omega)]; exact k5⟩, ⟨s1, is1.2.1, cPn.nil (by rw [z2 _ _ (by omega) (by omega)]; exact k6)⟩, cCt.nil (fun c hc => by
          rw [g4 _ _ (by omega) (fun z => by obtain ⟨_, x, z1, z2, z3⟩ := z; omega), g4 _ _ (by omega) (fun z => by obtain ⟨_, x, z1, z2, z3⟩ := z; omega)]
          exact k7 c hc), ?_, fun hne => ?_⟩
        · rw [g4 _ _ (by omega) (fun z => by obtain ⟨_, x, z1, z2, z3⟩ := z; omega), k8 p hp]
          show _ = (if ((lns y).1 ((lns y).2.1.1 + i)).1 = (lMo (lns y)).1 then (lns y).2.2.1.1 p else 0)
          by_cases q : ((lns y).1 ((lns y).2.1.1 + i)).1 = (lMo (lns y)).1
          · rw [if_pos q, if_pos (by rw [q])]
            exact Lw p hp
          · rw [if_neg q, if_neg (fun z => q (b1.2 _ _ (by
              obtain ⟨_, _, _, _, _, _, _, _, _, _, _, _, _, w, _⟩ := m2
              exact w) (by
              obtain ⟨_, _, _, _, _, _, _, _, _, _, _, _, _, w, _⟩ := n2
              exact w) z))]
        · rw [g4 _ _ (by omega) (fun z => by obtain ⟨_, x, z1, z2, z3⟩ := z; omega), k2 _ _ (by omega) (by omega) (by omega) (by omega)]
          exact Lc c hc
        · show G2 (243 + 9 * y) 3 = (fkB (((lns y).2.1.1 + i : Nat) : Int) (fkL (y : Int) (((lns y).2.1.1 + i : Nat) : Int) (lns y).2.2.2.2)).1
          rw [e3]
          unfold fkB fkL
          by_cases q : (lns y).2.2.2.2.1 = -1
          · rw [L3, q]
            have e5 : (if G (243 + 9 * y) 4 ≤ (((lns y).2.1.1 + i : Nat) : Int) then (-1 : Int) else -1) = -1 := by
              by_cases w : G (243 + 9 * y) 4 ≤ (((lns y).2.1.1 + i : Nat) : Int)
              · rw [if_pos w]
              · rw [if_neg w]
            rw [e5, if_neg (show ¬ ((-1 : Int) = (y : Int) ∧ (((lns y).2.1.1 + i : Nat) : Int) < G (243 + 9 * y) 4) by omega), if_neg (show ¬ ((-1 : Int) = (y : Int) ∧ (((lns y).2.1.1 + i : Nat) : Int) < (lns y).2.2.2.2.2) by omega), if_neg (fun z => z.1 q), q]
          · rw [L4 q, L3]
            by_cases w : (((lns y).2.1.1 + i : Nat) : Int) < (lns y).2.2.2.2.2
            · rw [if_neg (show ¬ (lns y).2.2.2.2.2 ≤ (((lns y).2.1.1 + i : Nat) : Int) by omega), if_neg (show ¬ ((-1 : Int) = (y : Int) ∧ (((lns y).2.1.1 + i : Nat) : Int) < (lns y).2.2.2.2.2) by omega)]
              by_cases w2 : (lns y).2.2.2.2.1 = (y : Int) ∧ (((lns y).2.1.1 + i : Nat) : Int) < (lns y).2.2.2.2.2
              · rw [if_pos w2, if_neg (fun z => z.1 rfl)]
              · rw [if_neg w2, if_pos ⟨q, w⟩]
            · rw [if_pos (show (lns y).2.2.2.2.2 ≤ (((lns y).2.1.1 + i : Nat) : Int) by omega), if_neg (show ¬ ((lns y).2.2.2.2.1 = (y : Int) ∧ (((lns y).2.1.1 + i : Nat) : Int) < (lns y).2.2.2.2.2) from fun z => w z.2), if_neg (show ¬ ((lns y).2.2.2.2.1 = (y : Int) ∧ (((lns y).2.1.1 + i : Nat) : Int) < (lns y).2.2.2.2.2) from fun z => w z.2), if_neg (show ¬ ((lns y).2.2.2.2.1 ≠ -1 ∧ (((lns y).2.1.1 + i : Nat) : Int) < (lns y).2.2.2.2.2) from fun z => w z.2)]
        · rw [z2 _ _ (by omega) (by omega), k2 _ _ (by omega) (by omega) (by omega) (by omega)]
          have hne' : ¬ (fkB (((lns y).2.1.1 + i : Nat) : Int) (fkL (y : Int) (((lns y).2.1.1 + i : Nat) : Int) (lns y).2.2.2.2)).1 = -1 := hne
          show G (243 + 9 * y) 4 = (fkB (((lns y).2.1.1 + i : Nat) : Int) (fkL (y : Int) (((lns y).2.1.1 + i : Nat) : Int) (lns y).2.2.2.2)).2
          have q : (lns y).2.2.2.2.1 ≠ -1 := fun q => hne' (by
            unfold fkB fkL
            rw [if_neg (show ¬ ((lns y).2.2.2.2.1 = (y : Int) ∧ (((lns y).2.1.1 + i : Nat) : Int) < (lns y).2.2.2.2.2) by rw [q]; omega), if_neg (fun z => z.1 q), q])
          rw [L4 q]
          unfold fkB fkL
          by_cases w2 : (lns y).2.2.2.2.1 = (y : Int) ∧ (((lns y).2.1.1 + i : Nat) : Int) < (lns y).2.2.2.2.2
          · rw [if_pos w2, if_neg (fun z => z.1 rfl)]
          · rw [if_neg w2]
            by_cases w3 : (lns y).2.2.2.2.1 ≠ -1 ∧ (((lns y).2.1.1 + i : Nat) : Int) < (lns y).2.2.2.2.2
            · rw [if_pos w3]
            · rw [if_neg w3]
      · show cLn _ _ _ _ _ _ (if _ then _ else _)
        rw [if_neg d]
        have Ly := b2 y hy
        obtain ⟨Yr, ⟨Yw, Yc⟩, Ye, ⟨s, Yp1, Yp2⟩, Yt, Y3, Y4⟩ := Ly
        have zy : ∀ a j, 243 + 9 * y ≤ a → a ≤ 243 + 9 * y + 8 → ¬ (a = 243 + 9 * y ∧ j = 3) → G2 a j = G a j := fun a j y1 y2 y3 => by
          rw [g4 a j (by omega) (fun z => by obtain ⟨_, x, z1, z2, z3⟩ := z; omega), z1 a j (by omega)]
        have e3 := g3 y (Nat.zero_le _) hy
        rw [z1 _ _ (by omega), z1 _ _ (by omega)] at e3
        refine ⟨Yr.ge (Nat.le_refl _) (fun _ _ => rfl) sf ⟨zy _ _ (by omega) (by omega) (by omega), zy _ _ (by omega) (by omega) (by omega), fun j _ _ => zy _ _ (by omega) (by omega) (by omega)⟩, ⟨fun p hp => by rw [zy _ _ (by omega) (by omega) (by omega)]; exact Yw p hp, fun c hc => by rw [zy _ _ (by omega) (by omega) (by omega)]; exact Yc c hc⟩, by rw [zy _ _ (by omega) (by omega) (by omega)]; exact Ye, ⟨s, Yp1, ?_⟩, Yt.ge (Nat.le_refl _) (fun _ _ => rfl) sf (fun c _ => ⟨zy _ _ (by omega) (by omega) (by omega), zy _ _ (by omega) (by omega) (by omega)⟩), ?_, fun hne => ?_⟩
        · obtain ⟨w1, w2, w3⟩ := Yp2
          refine ⟨by rw [zy _ _ (by omega) (by omega) (by omega)]; exact w1, w2, fun x hx => ?_⟩
          obtain ⟨v1, v2, v3⟩ := w3 x hx
          exact ⟨by rw [zy _ _ (by omega) (by omega) (by omega)]; exact v1, by rw [zy _ _ (by omega) (by omega) (by omega)]; exact v2, fun c hc => by rw [zy _ _ (by omega) (by omega) (by omega)]; exact v3 c hc⟩
        · show G2 (243 + 9 * y) 3 = (fkL (hr : Int) (((lns hr).2.1.1 + i : Nat) : Int) (lns y).2.2.2.2).1
          rw [e3, Y3]
          unfold fkL
          by_cases q : (lns y).2.2.2.2.1 = (hr : Int)
          · rw [Y4 (by omega)]
            by_cases w : (((lns hr).2.1.1 + i : Nat) : Int) < (lns y).2.2.2.2.2
            · rw [if_pos ⟨q, w⟩, if_pos ⟨q, w⟩]
            · rw [if_neg (fun z => w z.2), if_neg (fun z => w z.2)]
          · rw [if_neg (fun z => q z.1), if_neg (fun z => q z.1)]
        · rw [zy _ _ (by omega) (by omega) (by omega)]
          have hne' : ¬ (fkL (hr : Int) (((lns hr).2.1.1 + i : Nat) : Int) (lns y).2.2.2.2).1 = -1 := hne
          show G (243 + 9 * y) 4 = (fkL (hr : Int) (((lns hr).2.1.1 + i : Nat) : Int) (lns y).2.2.2.2).2
          unfold fkL at hne' ⊢
          by_cases q : (lns y).2.2.2.2.1 = (hr : Int) ∧ (((lns hr).2.1.1 + i : Nat) : Int) < (lns y).2.2.2.2.2
          · rw [if_pos q]; exact Y4 (by omega)
          · rw [if_neg q] at hne' ⊢; exact Y4 hne'
    · show cEe _ _ _ _ _ (if _ then _ else _)
      rw [if_pos rfl]
      exact ⟨fun _ => g2, fun z => absurd z (by show ¬ (false = true); decide)⟩
  · refine ⟨G, ?_, by rw [el]; exact hh.ge (Nat.le_succ n) (Nat.le_refl _) (fun _ _ => rfl) a2 (fun _ _ _ _ => rfl)⟩
    unfold c186
    rw [o_gr (y := 220) (s64 a1) (p64_5 a2), Option.bind_some, g6, Option.bind_some, o_ar (s220 a1) (by decide) c1 pl', Option.bind_some, i3, Option.bind_some, k_6 ls.1 l1 l2, Option.bind_some, if_neg (show ¬ ¬ (if (((lns hr).2.1.1 : Int) ≤ r ∧ r ≤ (((lns hr).2.1.1 + (lns hr).2.1.2.1 : Nat) : Int)) then (1 : Int) else 0) = 0 by rw [if_neg i1]; decide)]
end
end
