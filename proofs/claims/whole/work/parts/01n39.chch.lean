section
/-! THE CLASS: change() in the house -/
section
variable {f A hr n sl ln q : Nat} {S : Nat → Nat × Nat × Nat} {G G1 G2 : xG_} {m : Nat × Nat} {T : List (List Int)} {P : Nat → Nat} {lns : Nat → sLn} {tx : List Int} {kp : Nat × List (List Int)} {mt : Int × List Int} {pl rf : Int} {s : pPg} {E : List pPe}
/-- which program CHANGES are read against -/
theorem st_ch0 {mp e : Nat} (hs : cSs S) (hp : cPs G) (h6 : G 64 6 = (hr : Int)) (hr4 : hr < 4) (h7 : G (243 + 9 * hr) 7 = (e : Int)) (h5 : ∀ G', (∀ a j, ¬ (a = 64 ∧ j = 9) → G' a j = G a j) → c5 f (243 + 9 * hr) (S, G', m) = some (mp, (S, G', m))) (sm : S mp = (1, 2, 8)) (h0 : G mp 0 = (q : Int)) (hmp : mp ≠ 64) : c1001 f 64 (S, G, m) = c1001_36 f 64 (243 + 9 * hr) (if e = 0 then q else e) (S, xup2 G 64 9 (-1), m) := by
  have z : ∀ a j, ¬ (a = 64 ∧ j = 9) → xup2 G 64 9 (-1) a j = G a j := fun a j y => xup2_n y
  have ls := lnSt_of hs hr4
  have i1 : cq_is 1 14 (243 + 9 * hr) (S, xup2 G 64 9 (-1), m) = some () := if_pos ls.1
  have g5 : cq_gr 11 5 17 64 (S, xup2 G 64 9 (-1), m) = some 220 := o_gr (y := 220) (s64 hs) (by rw [z _ _ (by omega)]; exact p64_5 hp)
  have g6 : cq_gi 11 6 17 64 (S, xup2 G 64 9 (-1), m) = some (hr : Int) := by rw [o_gi (s64 hs), z _ _ (by omega), h6]
  have ga : cq_ar 220 (hr : Int) (S, xup2 G 64 9 (-1), m) = some (243 + 9 * hr) := o_ar (s220 hs) (by decide) hr4 (by rw [z _ _ (by omega)]; exact p_ln hp hr4)
  have g7 : cq_gr 1 7 14 (243 + 9 * hr) (S, xup2 G 64 9 (-1), m) = some e := o_gr ls.1 (by rw [z _ _ (by omega)]; exact h7)
  have g0 : cq_gr 2 0 8 mp (S, xup2 G 64 9 (-1), m) = some q := o_gr sm (by rw [z _ _ (by omega)]; exact h0)
  unfold c1001
  rw [o_p (s64 hs), Option.bind_some, g5, Option.bind_some, g6, Option.bind_some, ga, Option.bind_some, g7, Option.bind_some]
  by_cases c : e = 0
  · rw [if_pos c, if_pos c, i1, Option.bind_some, h5 _ z, Option.bind_some, g0, Option.bind_some]
  · rw [if_neg c, if_neg c, Option.bind_some]
theorem st_ch1 (hs : cSs S) (hp : cPs G) (hp1 : cPs G1) (e1 : c112 f 65 (S, G, m) = some (S, G1, m)) : c1001_36 f 64 ln q (S, G, m) = ((c32 f 72 q (S, G1, m)).bind fun R186 => chd R186 0 (c1001_61 f 64 ln 0 R186.2) (fun _ => c1001_61 f 64 ln 1 R186.2)) := by
  have i1 : cq_is 8 8 65 (S, G, m) = some () := if_pos (s65 hs)
  have i2 : cq_is 4 20 72 (S, G1, m) = some () := if_pos (s72 hs)
  unfold c1001_36
  rw [o_gr (y := 65) (s64 hs) (p64_0 hp), Option.bind_some, i1, Option.bind_some, e1, Option.bind_some, o_gr (y := 72) (s64 hs) (p64_1 hp1), Option.bind_some, i2, Option.bind_some]
theorem st_ch2 {w : Int} (hs : cSs S) (hp : cPs G) (h2 : G 72 2 = w) : c1001_61 f 64 ln 0 (S, G, m) = some (xwr (-1 - w), (S, xup2 G 65 1 0, m)) := by
  have z : ∀ a j, ¬ (a = 65 ∧ j = 1) → xup2 G 65 1 0 a j = G a j := fun a j y => xup2_n y
  unfold c1001_61
  rw [o_gr (y := 65) (s64 hs) (p64_0 hp), Option.bind_some, o_p (s65 hs), Option.bind_some, if_neg (fun z => z rfl), o_gr (y := 72) (s64 hs) (by rw [z _ _ (by omega)]; exact p64_1 hp), Option.bind_some, o_gi (s72 hs), Option.bind_some, z _ _ (by omega), h2]
theorem st_ch3 {k : Int} (hs : cSs S) (hp : cPs G) (ls : S ln = (1, 1, 14)) (hp2 : cPs G2) (e64 : c64 f 72 (S, xup2 G 65 1 0, m) = some (k, (S, G2, m))) : c1001_61 f 64 ln 1 (S, G, m) = if k = 0 then (if xwr (G2 ln 8 + G2 72 14) ≤ 400 then c1001_140 f f 64 ln 0 (S, G2, m) else some (-6000, (S, G2, m))) else some (xwr (-5000 - k), (S, xup2 G2 64 9 (G2 72 2), m)) := by
  have z : ∀ a j, ¬ (a = 65 ∧ j = 1) → xup2 G 65 1 0 a j = G a j := fun a j y => xup2_n y
  have i2 : cq_is 4 20 72 (S, xup2 G 65 1 0, m) = some () := if_pos (s72 hs)
  have g72 : cq_gr 11 1 17 64 (S, G2, m) = some 72 := o_gr (y := 72) (s64 hs) (p64_1 hp2)
  unfold c1001_61
  rw [o_gr (y := 65) (s64 hs) (p64_0 hp), Option.bind_some, o_p (s65 hs), Option.bind_some, if_pos (by decide), o_gr (y := 72) (s64 hs) (by rw [z _ _ (by omega)]; exact p64_1 hp), Option.bind_some, i2, Option.bind_some, e64, Option.bind_some]
  by_cases c : k = 0
  · rw [if_pos c, if_pos c, o_gi ls, Option.bind_some, g72, Option.bind_some, o_gi (s72 hs), Option.bind_some]
  · rw [if_neg c, if_neg c, g72, Option.bind_some, o_gi (s72 hs), Option.bind_some, o_p (s64 hs), Option.bind_some]
/-- change() -/
theorem k_ch {v pl' : Int} {lns' : Nat → sLn} (hf : 3100 < f) (h : cHs S G A (T, lns, hr, tx, kp, mt, pl, rf) n) (hb : (lns hr).2.1.1 + (lns hr).2.1.2.1 < 520) (hE4 : ∀ i, i < (lns hr).2.2.2.1.1.length → ((lns hr).2.2.2.1.1.getD i dPe).2.2.length ≤ 4) (hst : stCh T lns hr tx v pl' lns') : ∃ S' G' m', c1001 f 64 (S, G, (A, sl)) = some (v, (S', G', m')) ∧ (A ≤ m'.1 ∧ m'.1 ≤ A + 1 ∧ m'.2 ≤ sl + 6) ∧ (∀ a, a < A → S' a = S a) ∧ cHs S' G' m'.1 (T, lns', hr, [], kp, mt, pl', rf) (n + 1) := by
  obtain ⟨P, mp, b1, b2, _, b4, b5, b6, b7, b8, b9, b10⟩ := hs_ln h hb
  obtain ⟨⟨a1, a2, a3, a4⟩, ⟨P0, d1, d2, d3⟩, ⟨c1, c2⟩, ⟨c3, c4⟩, c5', c6', c7', c8', c9'⟩ := h
  obtain ⟨s, s1, s2, hv, hpl, hln⟩ := hst
  obtain ⟨⟨⟨l1, l2⟩, mps, l3, l4⟩, Lw, Le, ⟨s', Lp1, Lp2⟩, Lt, Lf⟩ := id (d2 hr c1)
  have es : s' = s := by
    rw [s1] at Lp1
    injection Lp1 with z
    exact z.symm
  subst es
  -- the program
  obtain ⟨m1, m2, _⟩ := l3 _ (Nat.le_add_right _ _) (Nat.le_refl _)
  have pE : P0 (lnE (lns hr)) ≠ 0 ∧ ∃ e : Nat, G (243 + 9 * hr) 7 = (e : Int) ∧ (if e = 0 then P0 (lMo (lns hr)).1 else e) = P0 (lnE (lns hr)) := by
    have pm : P0 (lMo (lns hr)).1 ≠ 0 := by
      obtain ⟨_, _, _, _, _, _, _, _, _, _, _, _, _, w, _⟩ := m2
      exact w
    unfold lnE
    rcases Le with ⟨e1, e2⟩ | ⟨e1, e2, e3⟩
    · rw [if_pos e1]
      exact ⟨pm, 0, e2, if_pos rfl⟩
    · rw [if_neg (by omega)]
      exact ⟨e2, _, e3, if_neg e2⟩
  obtain ⟨pE1, e0, pE2, pE3⟩ := pE
  obtain ⟨_, ⟨sx, nq, x1, x2, x3, x4, x5⟩, _⟩ := d1.1 _ pE1
  have es : sx = s' := by
    rw [s1] at x1
    injection x1 with z
    exact z.symm
  subst es
  obtain ⟨sm, Mm, ism⟩ := m2.is
  obtain ⟨rp, xr, cr, nqm, r1, _⟩ := m2.pm d1 ism
  have mpA : 64 < mps ((lns hr).2.1.1 + (lns hr).2.1.2.1) := by
    obtain ⟨_, _, _, _, _, _, _, _, _, _, _, _, _, _, ⟨w, _⟩, _⟩ := m2
    have := w.2
    omega
  obtain ⟨G0, hG0⟩ : ∃ G0, G0 = xup2 G 64 9 (-1) := ⟨_, rfl⟩
  have z0 : ∀ a j, ¬ (a = 64 ∧ j = 9) → G0 a j = G a j := fun a j y => by rw [hG0]; exact xup2_n y
  have p0 : cPs G0 := a2.ge (fun a j hz => z0 a j (by
      rcases hz with z | z | z | z | z | z | z | ⟨z, z1, z2, k, z3⟩ | z | z | z | ⟨k, z1, z2, z3⟩ <;> omega))
  have e1 := st_ch0 (f := f) (m := (A, sl)) a1 a2 c2 c1 pE2 (fun G' hz => k_5 b4 (lnPt_of' b5 (fun j => hz _ _ (by omega))) (by rw [hz _ _ (by omega)]; exact l1) hb (by rw [hz _ _ (by omega)]; exact m1)) r1.1 r1.2.1 (by omega)
  rw [pE3, ← hG0] at e1
  have t0 : cTx G0 (tBt tx) tx.length := c7'.ge (z0 _ _ (by omega)) (fun p => z0 _ _ (by omega))
  obtain ⟨G1, N, f1, f2, f3⟩ := k_112 (m := (A, sl)) a1 p0 t0 hf
  have p1 : cPs G1 := p0.tape (fun a j y1 y2 => f3 a j (by omega) (by omega))
  have t1 : cTx G1 (tBt tx) tx.length := t0.ge (f3 _ _ (by omega) (by omega)) (fun p => f3 _ _ (by omega) (by omega))
  have ev := cEv_of a1 p1 t1 f2
  have e2 := st_ch1 (f := f) (ln := 243 + 9 * hr) (q := P0 (lnE (lns hr))) a1 p0 p1 f1
  have z1 : ∀ a j, ¬ (a = 64 ∧ j = 9) → ¬ (65 ≤ a ∧ a ≤ 71) → G1 a j = G a j := fun a j y1 y2 => by rw [f3 a j (by omega) (by omega), z0 a j y1]
  have hq : 82 < P0 (lnE (lns hr)) := by omega
  have hN : N ≤ tx.length := f2.1
  have key := k_32 (f := f) (m := (A, sl)) (K := tx.length + 1) (q := P0 (lnE (lns hr))) (L := sx.1) (by omega) (tOk_of false t1.2.2.1) (by omega) ev hq x3.1 (x3.2.1.ge (fun j _ _ _ => z1 _ _ (by omega) (by omega))) (x3.2.2.1.ge (z1 _ _ (by omega) (by omega)) (fun j => z1 _ _ (by omega) (by omega)))
  have bu : ∀ a j, a ≠ 72 → bUp G1 (P0 (lnE (lns hr))) 0 a j = G1 a j := fun a j y => bUp_n a j (fun z => y z.1)
  -- what else stands
  have rest : ∀ (S' : Nat → Nat × Nat × Nat) (G' : xG_) (A' : Nat) (pl' : Int) (ps : List pPe), A ≤ A' → (∀ a, a < A → S' a = S a) → cPs G' → G' 65 1 = 0 → G' 64 9 = pl' → cPn G' (243 + 9 * hr) sx ps → (∀ a j, a < A → ¬ (a = 64 ∧ j = 9) → ¬ (65 ≤ a ∧ a ≤ 82) → ¬ (a = 243 + 9 * hr ∧ j = 8) → ¬ (243 + 9 * hr + 4 ≤ a ∧ a ≤ 243 + 9 * hr + 6) → G' a j = G a j) → cHs S' G' A' (T, lUp lns hr (lnP (lns hr) ps), hr, [], kp, mt, pl', rf) (n + 1) := fun S' G' A' pl' ps hA hS hp' h65 h9 hPn g => by
    have sf : xSf A G G' := fun a j y1 y2 => g a j y1 (by omega) (by omega) (by omega) (by omega)
    have zy : ∀ a j, 243 + 9 * hr ≤ a → a ≤ 243 + 9 * hr + 8 → ¬ (a = 243 + 9 * hr ∧ j = 8) → ¬ (243 + 9 * hr + 4 ≤ a ∧ a ≤ 243 + 9 * hr + 6) → G' a j = G a j := fun a j y1 y2 y3 y4 => g a j (by omega) (by omega) (by omega) y3 y4
    refine ⟨⟨fun k hk => by rw [hS _ (by omega)]; exact a1 k hk, hp', a3.ge (fun a j y1 y2 => g a j (by omega) (by omega) (by omega) (by omega) (by omega)), by omega⟩, ⟨P0, d1.ge hA hS sf (by rw [g _ _ (by omega) (by omega) (by omega) (by omega) (by omega)]; exact Int.le_refl _), fun y hy => ?_, ?_⟩, ⟨c1, by rw [g _ _ (by omega) (by omega) (by omega) (by omega) (by omega)]; exact c2⟩, ⟨by rw [g _ _ (by omega) (by omega) (by omega) (by omega) (by omega)]; exact c3, by rw [g _ _ (by omega) (by omega) (by omega) (by omega) (by omega)]; omega⟩, by rw [g _ _ (by omega) (by omega) (by omega) (by omega) (by omega)]; exact c5', h9, cTx.nil h65, c8'.ge (fun a y => hS a (by omega)) (fun a j y1 y2 => g a j (by omega) (by omega) (by omega) (by omega) (by omega)) ⟨g _ _ (by omega) (by omega) (by omega) (by omega) (by omega), g _ _ (by omega) (by omega) (by omega) (by omega) (by omega)⟩, c9'.ge ⟨g _ _ (by omega) (by omega) (by omega) (by omega) (by omega), g _ _ (by omega) (by omega) (by omega) (by omega) (by omega)⟩ (fun j => g _ _ (by omega) (by omega) (by omega) (by omega) (by omega))⟩
    · unfold lUp
      by_cases d : y = hr
      · subst d
        rw [if_pos rfl]
        obtain ⟨Yr, ⟨Yw, Yc⟩, Ye, _, Yt, Y3, Y4⟩ := d2 y hy
        exact ⟨Yr.ge hA hS sf ⟨zy _ _ (by omega) (by omega) (by omega) (by omega), zy _ _ (by omega) (by omega) (by omega) (by omega), fun j _ _ => zy _ _ (by omega) (by omega) (by omega) (by omega)⟩, ⟨fun p hp => by rw [zy _ _ (by omega) (by omega) (by omega) (by omega)]; exact Yw p hp, fun c hc => by rw [zy _ _ (by omega) (by omega) (by omega) (by omega)]; exact Yc c hc⟩, by rw [zy _ _ (by omega) (by omega) (by omega) (by omega)]; exact Ye, ⟨sx, s1, hPn⟩, Yt.ge hA hS sf (fun c _ => ⟨zy _ _ (by omega) (by omega) (by omega) (by omega), zy _ _ (by omega) (by omega) (by omega) (by omega)⟩), by rw [zy _ _ (by omega) (by omega) (by omega) (by omega)]; exact Y3, fun hne => by rw [zy _ _ (by omega) (by omega) (by omega) (by omega)]; exact Y4 hne⟩
      · rw [if_neg d]
        exact (d2 y hy).ge hA hS sf (fun a j y1 y2 => g a j (by omega) (by omega) (by omega) (by omega) (by omega))
    · unfold lUp
      rw [if_pos rfl]
      exact d3.ge hA hS sf ⟨g _ _ (by omega) (by omega) (by omega) (by omega) (by omega), g _ _ (by omega) (by omega) (by omega) (by omega) (by omega)⟩
  rw [hln, hpl, hv]
  unfold qChg
  cases hX : pCs (tstr (tBt tx) tx.length false) (tx.length + 1) [] 0 with
  | inl x =>
    rw [hX] at key
    obtain ⟨G2, g1, g2⟩ := key
    obtain ⟨S3, G3, q1, q2, q3⟩ := cWr_ex S G2 (A, sl) (x : Int)
    rw [g1, Option.bind_some, q1] at e2
    have fr : ∀ a j, a < A → ¬ (a = 64 ∧ j = 9) → ¬ (65 ≤ a ∧ a ≤ 82) → G3 a j = G a j := fun a j y1 y2 y3 => by
      rw [q3 a j y1, xup2_n (by omega), g2 a j (by omega) (by omega), bu a j (by omega), z1 a j y2 (by omega)]
    have s3 : cSs S3 := fun k hk => by rw [q2 _ (by show 64 + k < A; omega)]; exact a1 k hk
    have g9 : G3 64 9 = -1 := by
      rw [q3 _ _ (by show 64 < A; omega), xup2_n (by omega), g2 _ _ (by omega) (by omega), bu _ _ (by omega), f3 _ _ (by omega) (by omega), hG0, xup2_s]
    have p3 : cPs G3 := p1.ge (fun a j hz => by
      have hb : a < A ∧ ¬ (a = 72 ∧ (j = 1 ∨ j = 2 ∨ j = 3 ∨ j = 4 ∨ j = 9 ∨ j = 14)) ∧ ¬ (78 ≤ a ∧ a ≤ 82) := by
        rcases hz with z | z | z | z | z | z | z | ⟨z, z1, z2, k, z3⟩ | z | z | z | ⟨k, z1, z2, z3⟩ <;> omega
      rw [q3 a j hb.1, xup2_n (by omega), g2 a j (by omega) (by omega), bUp_n a j (by omega)])
    have st := st_ch2 (f := f) (ln := 243 + 9 * hr) (m := (A + 1, sl + 6)) s3 p3 (by rw [q3 _ _ (by show 72 < A; omega), xup2_s])
    have e2' : c1001_36 f 64 (243 + 9 * hr) (P0 (lnE (lns hr))) (S, G0, (A, sl)) = c1001_61 f 64 (243 + 9 * hr) 0 (S3, G3, (A + 1, sl + 6)) := e2
    refine ⟨S3, xup2 G3 65 1 0, (A + 1, sl + 6), (e1.trans e2').trans st, ⟨Nat.le_succ _, Nat.le_refl _, Nat.le_refl _⟩, q2, rest _ _ _ _ _ (Nat.le_succ _) q2 (p3.tape (fun a j y1 y2 => xup2_n (by omega))) (xup2_s _ _ _ _) (by rw [xup2_n (by omega)]; exact g9) ?_ (fun a j y1 y2 y3 _ _ => by rw [xup2_n (by omega)]; exact fr a j y1 y2 y3)⟩
    exact Lp2.ge (fun a j y1 y2 => by rw [xup2_n (by omega)]; exact fr a j (by omega) (by omega) (by omega))
  | inr cs =>
    rw [hX] at key
    obtain ⟨G2, g1, g2, g3, g4⟩ := key
    rw [g1, Option.bind_some] at e2
    have e2' : c1001_36 f 64 (243 + 9 * hr) (P0 (lnE (lns hr))) (S, G0, (A, sl)) = c1001_61 f 64 (243 + 9 * hr) 1 (S, G2, (A, sl)) := e2
    have fr2 : ∀ a j, ¬ (a = 64 ∧ j = 9) → ¬ (65 ≤ a ∧ a ≤ 82) → G2 a j = G a j := fun a j y2 y3 => by
      rw [g2 a j (by omega) (by omega), bu a j (by omega), z1 a j y2 (by omega)]
    have g9 : G2 64 9 = -1 := by
      rw [g2 _ _ (by omega) (by omega), bu _ _ (by omega), f3 _ _ (by omega) (by omega), hG0, xup2_s]
    have p2 : cPs G2 := p1.ge (fun a j hz => by
      have hb : ¬ (a = 72 ∧ (j = 1 ∨ j = 2 ∨ j = 3 ∨ j = 4 ∨ j = 9 ∨ j = 14)) ∧ ¬ (78 ≤ a ∧ a ≤ 82) := by
        rcases hz with z | z | z | z | z | z | z | ⟨z, z1, z2, k, z3⟩ | z | z | z | ⟨k, z1, z2, z3⟩ <;> omega
      rw [g2 a j (by omega) (by omega), bUp_n a j (by omega)])
    have zt : ∀ a j, ¬ (a = 65 ∧ j = 1) → xup2 G2 65 1 0 a j = G2 a j := fun a j y => xup2_n y
    have p2' : cPs (xup2 G2 65 1 0) := p2.tape (fun a j y1 y2 => xup2_n (by omega))
    have h723 : G2 72 3 = ((P0 (lnE (lns hr)) : Nat) : Int) := by
      obtain ⟨w1, _⟩ := bUp_s (G := G1) (q := P0 (lnE (lns hr))) (b := 0)
      rw [g2 _ _ (by omega) (by omega)]
      exact w1
    obtain ⟨G4, k1, k2, k3⟩ := k_64c (f := f) (m := (A, sl)) (s := sx) (cs := cs) (q := P0 (lnE (lns hr))) (by omega) a1 x2.1.1 (by omega) hq x3.1 p2' (x3.2.1.ge (fun j _ _ _ => by rw [zt _ _ (by omega), fr2 _ _ (by omega) (by omega)])) (by rw [zt _ _ (by omega)]; exact h723) (g3.ge (fun a j y1 y2 => zt _ _ (by omega))) (fun p hp => by rw [zt _ _ (by omega), zt _ _ (by omega), zt _ _ (by omega), fr2 _ _ (by omega) (by omega), fr2 _ _ (by omega) (by omega), fr2 _ _ (by omega) (by omega)]; exact x3.2.2.2.2.1 p hp) (fun p hp => by rw [zt _ _ (by omega), fr2 _ _ (by omega) (by omega)]; exact x3.2.2.2.1 p hp)
    have p4 : cPs G4 := p2'.ge (fun a j hz => k2 a j (by
      rcases hz with z | z | z | z | z | z | z | ⟨z, z1, z2, k, z3⟩ | z | z | z | ⟨k, z1, z2, z3⟩ <;> omega))
    have fr4 : ∀ a j, ¬ (a = 64 ∧ j = 9) → ¬ (65 ≤ a ∧ a ≤ 82) → G4 a j = G a j := fun a j y2 y3 => by
      rw [k2 a j (by omega), zt a j (by omega), fr2 a j y2 y3]
    have h65 : G4 65 1 = 0 := by rw [k2 _ _ (by omega), xup2_s]
    have h9 : G4 64 9 = -1 := by rw [k2 _ _ (by omega), zt _ _ (by omega)]; exact g9
    have e3 := st_ch3 (f := f) (ln := 243 + 9 * hr) a1 p2 b4.1 p4 k1
    have Lp4 : cPn G4 (243 + 9 * hr) sx (lns hr).2.2.2.1.1 := Lp2.ge (fun a j y1 y2 => fr4 a j (by omega) (by omega))
    dsimp only
    by_cases q0 : (qCk sx 0 cs).1 ≠ 0
    · rw [if_neg q0] at e3
      rw [if_pos q0]
      refine ⟨S, xup2 G4 64 9 (G4 72 2), (A, sl), (e1.trans e2').trans e3, ⟨Nat.le_refl _, Nat.le_succ _, Nat.le_add_right _ _⟩, (fun _ _ => rfl), rest _ _ _ _ _ (Nat.le_refl _) (fun _ _ => rfl) (p4.ge (fun a j hz => xup2_n (by
        rcases hz with z | z | z | z | z | z | z | ⟨z, z1, z2, k, z3⟩ | z | z | z | ⟨k, z1, z2, z3⟩ <;> omega))) (by rw [xup2_n (by omega)]; exact h65) (by rw [xup2_s]; exact k3 q0) (Lp4.ge (fun a j y1 y2 => xup2_n (by omega))) (fun a j y1 y2 y3 _ _ => by rw [xup2_n y2]; exact fr4 a j y2 y3)⟩
    · rw [if_neg q0]
      have q0' : (qCk sx 0 cs).1 = 0 := Classical.byContradiction q0
      rw [if_pos q0'] at e3
      have c4' : cCs G4 sx.1 cs := by
        refine ⟨by rw [k2 _ _ (by omega), zt _ _ (by omega)]; exact g3.1, fun k hk => ?_⟩
        obtain ⟨w1, w2, w3, w4, w5, w6⟩ := g3.2 k hk
        have y : ∀ a j, 78 ≤ a → a ≤ 82 → G4 a j = G2 a j := fun a j y1 y2 => by rw [k2 a j (by omega), zt a j (by omega)]
        exact ⟨by rw [y _ _ (by omega) (by omega)]; exact w1, by rw [y _ _ (by omega) (by omega)]; exact w2, by rw [y _ _ (by omega) (by omega)]; exact w3, by rw [y _ _ (by omega) (by omega)]; exact w4, w5, fun j hj => by rw [y _ _ (by omega) (by omega)]; exact w6 j hj⟩
      have l4' := Lp4.2.1
      have ew : xwr (G4 (243 + 9 * hr) 8 + G4 72 14) = (((lns hr).2.2.2.1.1.length + cs.length : Nat) : Int) := by
        rw [Lp4.1, c4'.1, xwr_g _ (by omega) (by omega)]
        omega
      rw [ew] at e3
      by_cases q1 : 400 < (lns hr).2.2.2.1.1.length + cs.length
      · rw [if_pos q1]
        rw [if_neg (by omega)] at e3
        exact ⟨S, G4, (A, sl), (e1.trans e2').trans e3, ⟨Nat.le_refl _, Nat.le_succ _, Nat.le_add_right _ _⟩, (fun _ _ => rfl), rest _ _ _ _ _ (Nat.le_refl _) (fun _ _ => rfl) p4 h65 h9 Lp4 (fun a j y1 y2 y3 _ _ => fr4 a j y2 y3)⟩
      · rw [if_neg q1]
        rw [if_pos (by omega)] at e3
        have hq0 : ∀ k, k < cs.length → qCq sx (cs.getD k dCh) = 0 := by
          rcases qCk_1 (s := sx) cs (-1) with ⟨w, _⟩ | ⟨j, j1, j2, _, j4⟩
          · exact w
          · exact absurd (by rw [← q0']; unfold qCk; rw [j4]) j2
        obtain ⟨G5, u1, u2, u3, u4⟩ := k_1001l (f := f) (m := (A, sl)) (cs := cs) (s := sx) a1 c1 x2.1 (by omega) hq0 cs.length 0 f G4 (lns hr).2.2.2.1.1 (by omega) (by omega) p4 c4' Lp4 hE4 (by omega)
        refine ⟨S, G5, (A, sl), ((e1.trans e2').trans e3).trans u1, ⟨Nat.le_refl _, Nat.le_succ _, Nat.le_add_right _ _⟩, (fun _ _ => rfl), rest _ _ _ _ _ (Nat.le_refl _) (fun _ _ => rfl) u2 (by rw [u4 _ _ (by omega) (by omega)]; exact h65) (by rw [u4 _ _ (by omega) (by omega)]; exact h9) u3 (fun a j y1 y2 y3 y4 y5 => by rw [u4 a j y4 y5]; exact fr4 a j y2 y3)⟩
end
end
section
/-! THE CLASS: round(): its rows -/
section
variable {s so : pPg} {In A B R Mo : Nat → List pRw} {O : List Nat} {ch wk rg : Nat} {fr : Prop}
theorem dn_same (hw : wPg s) (hT : qTb s R) (hA : qTb s A) (h : dnR s R rg) (h' : dnR s A rg) (hr : ∀ p, p < s.1.length → rgR s rg p → qK s p ≠ rg → vEq (R p) (A p)) : ∀ p, p < s.1.length → qK s p = rg → R p = A p := by
  obtain ⟨M', eM⟩ : ∃ M' : Nat → List pRw, M' = fun p => if qK s p = rg then A p else R p := ⟨_, rfl⟩
  have m1 : ∀ p, qK s p = rg → M' p = A p := fun p q => by rw [eM]; exact if_pos q
  have m2 : ∀ p, qK s p ≠ rg → M' p = R p := fun p q => by rw [eM]; exact if_neg q
  have hM : qTb s M' := fun p hp => by
    by_cases q : qK s p = rg
    · rw [m1 p q]; exact hA p hp
    · rw [m2 p q]; exact hT p hp
  have hd : dnR s M' rg := dnR_cv hw hA hM (fun p _ q => (m1 p q).symm) (fun p hp r q => by rw [m2 p q]; exact (hr p hp r q).symm) h'
  obtain ⟨R0, c1, c2, c3⟩ := h
  obtain ⟨R0', d1, d2, d3⟩ := hd
  have hag : ∀ q, q < s.1.length → (qK s q = rg ∨ rgR s rg q) → R0 q = R0' q := fun q hq _ => by
    by_cases cq : qK s q = rg
    · rw [c2 q hq cq, d2 q hq cq]
    · rw [c1 q hq cq, d1 q hq cq, m2 q cq]
  obtain ⟨R'', e1, e2⟩ := wkE_cg hw (dnR.srt hT c1 c2) (dnR.srt hM d1 d2) hag c3
  intro p hp hk
  rw [← e2 p hp hk, ← m1 p hk]
  exact wkE_det (fun y hy => rgR_lt hw hy) e1 d3 p hp
/-- which predicates a round works -/
theorem wk_iff (hw : wPg s) (hO : oRd s O) (h : rgI s fr In A B R O O.length ch wk) (hT : qTb s R) (hB : ¬ fr → qTb s A ∧ ∀ p, p < s.1.length → pIn s.2.1 (p : Int) = false → dnR s A (qK s p)) (j : Nat) : wk.testBit j = true ↔ j < s.1.length ∧ qWc s fr (fun p => p < s.1.length ∧ ¬ vEq (R p) (A p)) j := by
  obtain ⟨h1, h2, h3, h4, h5⟩ := h
  have all : ∀ p, p < s.1.length → qK s p ∈ O.take O.length := fun p hp => by
    rw [List.take_length]
    exact hO.2.2.2 _ (qK_lt hp) (qK_id hw hp)
  rw [h5 j]
  constructor
  · rintro ⟨a1, a2, a3, a4⟩
    refine ⟨a1, a2, ?_⟩
    rcases a4 with z | ⟨x, x1, x2, x3⟩
    · exact .inl z
    · obtain ⟨p, p1, p2, p3⟩ := (rgR_rd hw).mp x1
      exact .inr ⟨p, p1, p2, x, rgR_lt hw x1, p3, rgR_lt hw x1, x3⟩
  · rintro ⟨a1, a2, a3⟩
    refine ⟨a1, a2, all j a1, ?_⟩
    rcases a3 with z | ⟨z, z1, z2, x, x1, x2, x3, x4⟩
    · exact .inl z
    · by_cases hf : fr
      · exact .inl hf
      · right
        have hx : rgR s (qK s j) x := (rgR_rd hw).mpr ⟨z, z1, z2, x2⟩
        by_cases q : qK s x = qK s j
        · refine Classical.byContradiction fun hn => x4 ?_
          have := dn_same hw hT (hB hf).1 (h2 j a1 a2 (all j a1)) ((hB hf).2 j a1 a2) (fun p hp r k => Classical.byContradiction fun hv => hn ⟨p, r, k, hv⟩) x x3 q
          rw [this]
          rfl
        · exact ⟨x, hx, q, x4⟩
theorem ch_iff (hw : wPg s) (hO : oRd s O) (h : rgI s fr In A B R O O.length ch wk) : ∀ j, j < s.1.length → (ch.testBit j = true ↔ ¬ vEq (R j) (A j)) := fun j hj => by
  rw [h.2.2.2.1 j]
  have : qK s j ∈ O.take O.length := by
    rw [List.take_length]
    exact hO.2.2.2 _ (qK_lt hj) (qK_id hw hj)
  exact ⟨fun z => z.2.2, fun z => ⟨hj, .inr this, z⟩⟩
theorem bg_ah {tk : Int} {Ri : Nat → List pRw} (hs : tk = 0 → s = so) (h : ∀ p, p < s.1.length → bgR so s Mo tk p (A p) (Ri p)) : isAh so s Mo A := fun p hp => by
  rcases h p hp with ⟨a, b, _⟩ | ⟨_, r, r1, r2, r3, r4, _⟩ | ⟨_, r1, r2, _⟩
  · have e := hs a
    subst e
    exact .inl ⟨p, hp, rfl, rfl, b⟩
  · exact .inl ⟨r, r1, r2, r3, r4⟩
  · exact .inr ⟨r1, r2⟩
theorem ky_no {p : Nat} (h : pIn s.2.1 (p : Int) = false) : qKy s p = 0 := by
  unfold qKy pKy
  unfold pIn at h
  cases hq : s.2.1.find? (fun x => decide (x.1 = (p : Int))) with
  | none => rfl
  | some y =>
    exfalso
    have h1 := List.find?_some hq
    have h2 := List.mem_of_find?_eq_some hq
    have : s.2.1.any (fun x => decide (x.1 = (p : Int))) = true := List.any_eq_true.mpr ⟨y, h2, h1⟩
    rw [this] at h
    cases h
end
end
section
/-! THE CLASS: round(): begin, tell, rings -/
section
variable {f A q qo kk mp rp r : Nat} {S : Nat → Nat × Nat × Nat} {G : xG_} {m : Nat × Nat} {s so : pPg} {xr cr : Nat → Nat} {Mo R0 R : Nat → List pRw} {F : List pFc} {E : List pPe} {tk : Int} {fr : Prop}
theorem rd_rows (hf : 100003010 < f) (hs : cSs S) (hp : cPs G) (hem : cEm G) (hkk : kk < 4) (h1 : G (243 + 9 * kk) 1 = (r : Int)) (hr : r + 1 < 520) (hmp : 203 < mp) (hrp : 203 < rp) (hq : 226 < q) (hqo : 226 < qo) (hoks : qOc s) (hoko : qOc so) (htk : G q 0 = G qo 0 ∧ tk = 0 ∧ s = so ∨ G q 0 ≠ G qo 0 ∧ tk = 1) (hP : cPgm S G q A s) (ho : cPgm S G qo A so) (hM : cMr S G A mp qo rp so xr cr Mo) (hMo : okM8 so Mo) (hPn : cPn G (243 + 9 * kk) s E) (hst : qSt1 so Mo) (hF : qFa so Mo F) (huk : ukM so Mo) (hfr : fr ↔ tk = 1) (hR0 : qR0 so s fr F R0) (hR : chA s E R0 R) (hvE : ∀ e ∈ E, ∀ x ∈ e.2.2, vOk x) (hxr : ∀ p, p < so.1.length → xr p + 2 < 216 ∨ 555 < xr p) :
    ∃ v G', c173_43 f 64 (243 + 9 * kk) mp tk q (S, G, m) = c173_127 f 64 (243 + 9 * kk) mp tk v (S, G', m) ∧ (∀ a j, a < 83 ∨ 203 < a → G' a j = G a j) ∧ cPs G' ∧ ((v = 0 ∧ ¬ ∃ M, qMod s R M) ∨ (v = 1 ∧ ∃ (xp cp yp ap : Nat → Nat) (R' A0 : Nat → List pRw) (ch wk : Nat), cWk S G' q A s xp cp R' ∧ cAh S G' A s yp ap A0 ∧ isAh so s Mo A0 ∧ (tk = 0 → ∀ p, p < s.1.length → A0 p = Mo p) ∧ G' 93 13 = (ch : Int) ∧ ch < 2 ^ 16 ∧ G' 93 14 = (wk : Int) ∧ wk < 2 ^ 16 ∧ qMod s R R' ∧ (∀ j, j < s.1.length → (ch.testBit j = true ↔ ¬ vEq (R' j) (A0 j))) ∧ (∀ j, ch.testBit j = true → j < s.1.length) ∧ (∀ j, wk.testBit j = true ↔ j < s.1.length ∧ qWc s fr (fun p => p < s.1.length ∧ ¬ vEq (R' p) (A0 p)) j) ∧ (∀ p, p < s.1.length → (203 < xp p → xp p + 2 < 216 ∨ 555 < xp p) ∧ (yp p + 2 < 216 ∨ 555 < yp p)) ∧ ∀ p, p < s.1.length → pIn s.2.1 (p : Int) = true → ∀ w ∈ R' p, w.2 = 0)) := by
  have hw := hoks.1.1
  have htk2 : tk = 0 ∧ s = so ∨ tk = 1 := by
    rcases htk with z | z
    · exact .inl z.2
    · exact .inr z.2
  have htk01 : tk = 0 ∨ tk = 1 := by
    rcases htk2 with z | z
    · exact .inl z.1
    · exact .inr z
  have hs0 : tk = 0 → s = so := fun z => by
    rcases htk2 with y | y
    · exact y.2
    · omega
  obtain ⟨G1, xp, cp, yp, ap, Ri, A0, b1, b2, b3, b4, b5, b6, b7, b8, b9⟩ := k_145 (f := f) (m := m) (tk := tk) (by omega) hs hp hem hmp hrp hq hqo hoks hoko htk hP ho hM hMo
  have z1 : ∀ a j, a < 83 ∨ 203 < a → G1 a j = G a j := fun a j y => b2 a j (by omega) (by omega) (by omega)
  -- rows of INPUTS
  have e0 : ∀ p, p < s.1.length → pIn s.2.1 (p : Int) = true → R0 p = Ri p := fun p hp hi => bg_R0 hoko.1 hoks.1 hst hF hfr htk2 hR0 hp hi (b8 p hp)
  have r0ok : ∀ p, p < s.1.length → pIn s.2.1 (p : Int) = true → (R0 p).Pairwise rwLt ∧ ∀ y ∈ R0 p, y.2 = 0 ∧ ∀ x ∈ y.1, vOk x := fun p hp hi => by
    have key : ∀ {cd : Nat → Prop}, qFt s cd F R0 → (R0 p).Pairwise rwLt ∧ ∀ y ∈ R0 p, y.2 = 0 ∧ ∀ x ∈ y.1, vOk x := fun {cd} h => by
      obtain ⟨a1, _, a2⟩ := h p hp
      refine ⟨a1, fun y hy => ?_⟩
      obtain ⟨_, w2, w3, _⟩ := (a2 y).mp hy
      refine ⟨w2, fun x hx => ?_⟩
      obtain ⟨p', p1, _, w, w4, w5⟩ := (hF.2 _).mp w3
      exact (hMo p' p1).2.2.1 w w4 x (by rw [w5]; exact hx)
    rcases hR0 with ⟨_, h⟩ | ⟨_, h⟩
    · exact key h
    · exact key h
  have riok : ∀ p, p < s.1.length → (Ri p).Pairwise rwLt ∧ ∀ y ∈ Ri p, (∀ x ∈ y.1, vOk x) ∧ 0 ≤ y.2 ∧ y.2 ≤ 1700 := fun p hp => by
    obtain ⟨_, _, _, w1, w2, w3, w4⟩ := b6.2 p hp
    exact ⟨w1, fun y hy => ⟨w3 y hy, w4 y hy⟩⟩
  obtain ⟨Rf, eRf⟩ : ∃ Rf : Nat → List pRw, Rf = fun p : Nat => if pIn s.2.1 (p : Int) = true then R p else Ri p := ⟨_, rfl⟩
  have rf1 : ∀ p : Nat, pIn s.2.1 (p : Int) = true → Rf p = R p := fun p h => by rw [eRf]; exact if_pos h
  have rf2 : ∀ p : Nat, pIn s.2.1 (p : Int) = false → Rf p = Ri p := fun p h => by rw [eRf]; exact if_neg (by rw [h]; decide)
  have hA1 : ∀ j, j < s.1.length → chA1 s j E (Ri j) (Rf j) := fun j hj => by
    cases hi : pIn s.2.1 (j : Int) with
    | true => rw [rf1 j hi, ← e0 j hj hi]; exact chA1_of hR j hj
    | false => rw [rf2 j hi]; exact chA1_no hi (riok j hj).1 E
  have ukr := ukM.r0 hoko.1 hF huk (fun z => hs0 (by rcases htk01 with y | y; exact y; exact absurd (hfr.mpr y) z)) hR0
  have hU : ∀ j, j < s.1.length → kU (qKy s j) (Ri j) := fun j hj hk a ha b hb e => by
    cases hi : pIn s.2.1 (j : Int) with
    | true =>
      rw [← e0 j hj hi] at ha hb
      exact rw_one (r0ok j hj hi).1 ha hb (ukr j hj hi hk a ha b hb e)
    | false => rw [ky_no hi] at hk; omega
  have hRf : ∀ j, j < s.1.length → ∀ y ∈ Rf j, (∀ x ∈ y.1, vOk x) ∧ 0 ≤ y.2 ∧ y.2 ≤ 1700 := fun j hj y hy => by
    cases hi : pIn s.2.1 (j : Int) with
    | true =>
      have := (hA1 j hj).ok hvE (by rw [← e0 j hj hi]; exact (r0ok j hj hi).2) y hy
      exact ⟨this.2, by omega, by omega⟩
    | false => rw [rf2 j hi] at hy; exact (riok j hj).2 y hy
  have pn1 : cPn G1 (243 + 9 * kk) s E := hPn.ge (fun a j y1 y2 => z1 a j (by omega))
  obtain ⟨v, G2, c1, ⟨c2, c2'⟩, c3, c4⟩ := k_146 (f := f) (m := m) (q := q) (nx := A) (yp := yp) (ap := ap) (A := A0) (by omega) hkk hA1 hU hRf (fun j hj hi => rf2 j hi) s.1.length 0 f G1 xp cp Ri 0 (by omega) (by have := hw.1; omega) b6 b7 pn1 (fun j hj => absurd hj (Nat.not_lt_zero j)) (fun j _ _ => rfl) b4 (by decide) (fun j => ⟨fun z => (by rw [Nat.zero_testBit] at z; cases z), fun z => absurd z.1 (Nat.not_lt_zero j)⟩)
  have e146 : c146 f 93 (243 + 9 * kk) (S, G1, m) = some (v, (S, G2, m)) := c1
  have z2 : ∀ a j, a < 83 ∨ 203 < a → G2 a j = G a j := fun a j y => by rw [c2 a j (by omega) (by omega) (by omega) (by omega) (by omega), z1 a j y]
  have ls := lnSt_of hs hkk
  have st := sw_173b (f := f) (m := m) (m1 := m) (x3 := tk) (r := r) (b := v) (T := (S, G2, m)) hs hp hs b3 (s93 hs) (s93 hs) ls.1 b1 (by rw [z1 _ _ (by omega)]; exact h1) (by omega) (fun _ => e146)
  rw [if_pos hr] at st
  -- what a model says of rows of INPUTS
  have mod_in : ∀ {M : Nat → List pRw}, qMod s Rf M ↔ qMod s R M := fun {M} => ⟨fun h => ⟨h.1, fun p hp hi => by rw [h.2.1 p hp hi]; exact rf1 p hi, h.2.2⟩, fun h => ⟨h.1, fun p hp hi => by rw [h.2.1 p hp hi]; exact (rf1 p hi).symm, h.2.2⟩⟩
  obtain ⟨f', ef⟩ : ∃ t, f = t + 1 := ⟨f - 1, by omega⟩
  rcases c4 with ⟨v0, j, j1, j2, j3⟩ | ⟨v1, xp', cp', ch', w0, w1, w2, w3, w4⟩
  · refine ⟨0, G2, ?_, z2, c3, .inl ⟨rfl, fun ⟨M, hMm⟩ => ?_⟩⟩
    · rw [st, if_pos v0]
      have := sw_173z (f := f) (ln := 243 + 9 * kk) (mo := mp) (q := q) (x3 := tk) (x6 := 0) (fu := f') (T := (S, G2, m))
      rw [← ef] at this
      exact this
    · have := (hMm.1 j j1).1
      rw [hMm.2.1 j j1 j2, ← rf1 j j2] at this
      omega
  · rw [if_neg (by omega)] at st
    obtain ⟨O, hO, hOr⟩ := oRd_of w1.1.2.2.2.2.1
    have ah2 : cAh S G2 A s yp ap A0 := b7.ge (fun j => c2 _ _ (by omega) (by omega) (by omega) (by omega) (by omega)) (fun a j y => c2 a j (by omega) (by omega) (by omega) (by omega) (by omega))
    have hB : ¬ fr → qTb s A0 ∧ ∀ p, p < s.1.length → pIn s.2.1 (p : Int) = false → dnR s A0 (qK s p) ∧ Rf p = A0 p := fun hnf => by
      have t0 : tk = 0 := by
        rcases htk01 with y | y
        · exact y
        · exact absurd (hfr.mpr y) hnf
      have es := hs0 t0
      subst es
      have eA : ∀ p, p < s.1.length → A0 p = Mo p ∧ Ri p = Mo p := fun p hp => by
        rcases b8 p hp with ⟨_, y1, y2⟩ | ⟨y, _⟩ | ⟨y, _⟩
        · exact ⟨y1, y2⟩
        · omega
        · omega
      have tA : qTb s A0 := fun p hp => by rw [(eA p hp).1]; exact hst.1.1 p hp
      refine ⟨tA, fun p hp hi => ⟨?_, by rw [rf2 p hi, (eA p hp).1, (eA p hp).2]⟩⟩
      exact dnR_cv hw hst.1.1 tA (fun p' hp' _ => (eA p' hp').1.symm) (fun p' hp' _ _ => by rw [(eA p' hp').1]; rfl) (hst.1.2.2 p hp hi)
    have h14 : G2 93 14 = ((0 : Nat) : Int) := by rw [c2']; exact b5
    obtain ⟨v', G3, d1, d2, d3, d4⟩ := k_173r (f := f) (m := m) (ln := 243 + 9 * kk) (mp := mp) (S := S) (q := q) (nx := A) (yp := yp) (ap := ap) (tk := tk) (fr := fr) (In := Rf) (A := A0) (B := Rf) hf hO htk01 hfr hB O.length 0 f G2 xp' cp' Rf ch' 0 (by omega) (by
      have : O.length ≤ 16 := by
        have := nodup_len O (List.range s.1.length) hO.1 (fun x hx => List.mem_range.mpr (hO.2.1 x hx).1)
        rw [List.length_range] at this
        have := hw.1
        omega
      omega) w1 ah2 hOr w2 w3 h14 (by decide) ⟨fun _ _ _ => rfl, fun p _ _ hm => absurd hm (by rw [List.take_zero]; exact List.not_mem_nil), fun _ _ _ _ => rfl, fun j => by
        rw [w4 j, List.take_zero]
        exact ⟨fun z => ⟨z.1, .inl z.2.1, z.2.2⟩, fun z => ⟨z.1, z.2.1.resolve_right List.not_mem_nil, z.2.2⟩⟩, fun j => by
        rw [Nat.zero_testBit, List.take_zero]
        exact ⟨fun z => (by cases z), fun z => absurd z.2.2.1 List.not_mem_nil⟩⟩
    have z3 : ∀ a j, a < 83 ∨ 203 < a → G3 a j = G a j := fun a j y => by rw [d2 a j (by omega) (by omega) (by omega) (by omega) (by omega), z2 a j y]
    refine ⟨v', G3, st.trans d1, z3, d3, ?_⟩
    rcases d4 with ⟨y1, y2⟩ | ⟨y1, xp3, cp3, R3, ch3, wk3, y0, y2, y3, y4, y5, y6, y7⟩
    · exact .inl ⟨y1, fun ⟨M, hMm⟩ => y2 ⟨M, mod_in.mpr hMm⟩⟩
    · have tb3 : qTb s R3 := fun p hp => by
        obtain ⟨_, _, q3, q4, q5, q6, _⟩ := y2.2 p hp
        refine ⟨q5, q4, fun w hw => ⟨?_, q6 w hw⟩⟩
        obtain ⟨i, hi, e⟩ := List.getElem_of_mem hw
        have := (q3.2.2.2.2.2.2.2 i hi).1
        rw [getD_e hi, e] at this
        exact this
      refine .inr ⟨y1, xp3, cp3, yp, ap, R3, A0, ch3, wk3, y2, ah2.ge (fun j => d2 _ _ (by omega) (by omega) (by omega) (by omega) (by omega)) (fun a j y => d2 a j (by omega) (by omega) (by omega) (by omega) (by omega)), bg_ah hs0 b8, fun t0 p hp => ?_, y3, y4, y5, y6, mod_in.mp (rgI.done hw hO y7 tb3), ch_iff hw hO y7, fun j hj => ((y7.2.2.2.1 j).mp hj).1, fun j => wk_iff hw hO y7 tb3 (fun hnf => ⟨(hB hnf).1, fun p hp hi => ((hB hnf).2 p hp hi).1⟩) j, fun p hp => ⟨fun h203 => ?_, ?_⟩, fun p hp hi w hw => ?_⟩
      · rcases b8 p hp with ⟨_, q1, q2⟩ | ⟨q, _⟩ | ⟨q, _⟩
        · exact q1
        · omega
        · omega
      · have hnp := hw.1
        rcases (w0.tr y0) p hp with z | z
        · rw [z]
          rcases (b9 p hp).1 with ⟨r, r1, r2⟩ | q
          · rw [r2]; exact hxr r r1
          · exact .inl q
        · rw [z] at h203; omega
      · rcases (b9 p hp).2 with ⟨r, r1, r2⟩ | q
        · rw [r2]; exact hxr r r1
        · exact .inl q
      · have e1 : R3 p = Rf p := y7.1 p hp hi
        rw [e1] at hw
        exact ((hA1 p hp).ok hvE (by rw [← e0 p hp hi]; exact (r0ok p hp hi).2) w hw).1
end
end
section
/-! THE CLASS: round(): what its logs count -/
theorem lgC_app {α : Type} {l l' : List (Int × α)} {r : Nat} : lgC (l ++ l') r = lgC l r + lgC l' r := by
  unfold lgC
  rw [List.filter_append, List.length_append]
theorem lgC_all {α : Type} {l : List (Int × α)} {r : Nat} (h : ∀ a ∈ l, a.1 = (r : Int)) : lgC l r = l.length := by
  unfold lgC
  rw [List.filter_eq_self.mpr (fun a ha => decide_eq_true (h a ha))]
theorem lgC_no {α : Type} {l : List (Int × α)} {r : Nat} (h : ∀ a ∈ l, a.1 ≠ (r : Int)) : lgC l r = 0 := by
  unfold lgC
  rw [List.filter_eq_nil_iff.mpr (fun a ha z => h a ha (of_decide_eq_true z))]
  rfl
theorem lgC_cat {α : Type} {g : Nat → List (Int × α)} (hg : ∀ r, ∀ a ∈ g r, a.1 = (r : Int)) {b r : Nat} (h1 : b < r) : ∀ k, r ≤ b + k → lgC (hCat g b k) r = (g r).length
  | 0, h => by omega
  | k + 1, h => by
    show lgC (hCat g b k ++ g (b + k + 1)) r = _
    rw [lgC_app]
    by_cases c : r = b + k + 1
    · rw [lgC_no (fun a ha => by have := (hCat_mem hg k ha).2; omega), c, lgC_all (hg _), Nat.zero_add]
    · rw [lgC_cat hg h1 k (by omega), lgC_no (fun a ha => by rw [hg _ a ha]; omega), Nat.add_zero]
theorem tmIs_u {L : List pLg} {C : List pCg} {E : List pEg} {old x y : Int} (h : tmIs L C E old x) (h' : tmIs L C E old y) : x = y := by
  obtain ⟨a1, a2, a3⟩ := h
  obtain ⟨b1, b2, b3⟩ := h'
  rcases (by omega : x < y ∨ x = y ∨ y < x) with z | z | z
  · exact absurd a2 (b3 x a1 z)
  · exact z
  · exact absurd b2 (a3 y b1 z)
theorem tC9_cg {G : xG_} {ln : Nat} {W : Nat → Int} {rd : Int} {K : Nat → Nat} : ∀ n, (∀ c, c < n → (G (ln + 7) c = 0 ↔ W c = -1)) → tC9 G ln n = (cgN rd K W n).length
  | 0, _ => rfl
  | n + 1, h => by
    show tC9 G ln n + _ = (cgN rd K W n ++ _).length
    rw [List.length_append, tC9_cg n (fun c hc => h c (by omega))]
    by_cases q : W n = -1
    · rw [if_pos ((h n (by omega)).mpr q), if_pos q]; rfl
    · rw [if_neg (fun z => q ((h n (by omega)).mp z)), if_neg q]; rfl
theorem hLg_n {H : Nat → sMo} {r r0 : Nat} {mo : sMo} (h : r < r0) : hLg (hAd H r0 mo) r = hLg H r ∧ hCg (hAd H r0 mo) r = hCg H r ∧ hEg (hAd H r0 mo) r = hEg H r := by
  unfold hLg hCg hEg
  rw [hAd_n (by omega), hAd_n (by omega)]
  exact ⟨rfl, rfl, rfl⟩
theorem hLg_s {H : Nat → sMo} {r : Nat} {mo : sMo} : hLg (hAd H (r + 1) mo) (r + 1) = lgR ((r + 1 : Nat) : Int) mo.2.1 (H r).2.1 ∧ hCg (hAd H (r + 1) mo) (r + 1) = cgN ((r + 1 : Nat) : Int) (H r).2.2.1 mo.2.2.2.1 72 ∧ (hEg (hAd H (r + 1) mo) (r + 1)).length = if mo.2.2.2.2 = true then 1 else 0 := by
  unfold hLg hCg hEg
  rw [hAd_s, Nat.add_sub_cancel, hAd_n (by omega)]
  refine ⟨rfl, rfl, ?_⟩
  by_cases q : mo.2.2.2.2 = true
  · rw [if_pos q, if_pos q]; rfl
  · rw [if_neg q, if_neg q]; rfl
theorem lgR_le {rd : Int} {A B : List pFc} : (lgR rd A B).length ≤ A.length + B.length := by
  unfold lgR
  rw [List.length_append, lgD_ln2, lgD_ln2]
  have h1 := List.length_filter_le (fun y => ! decide (y ∈ A)) B
  have h2 := List.length_filter_le (fun y => ! decide (y ∈ B)) A
  omega
theorem hEg_le {H : Nat → sMo} {r : Nat} : (hEg H r).length ≤ 1 := by
  unfold hEg
  by_cases q : (H r).2.2.2.2 = true
  · rw [if_pos q]; exact Nat.le_refl _
  · rw [if_neg q]; exact Nat.zero_le _
theorem qCw_w {X : fXs} {s : pPg} {fr : Prop} {W W' : Nat → Int} {C D : fCs} {H : Nat → Prop} {c : Nat} (h : W c = W' c) : qCw X s fr W C D H c ↔ qCw X s fr W' C D H c := by
  unfold qCw
  rw [h]
theorem qFa.cg {s : pPg} {M M' : Nat → List pRw} {F : List pFc} (h : qFa s M F) (e : ∀ p, p < s.1.length → M p = M' p) : qFa s M' F := ⟨h.1, fun y => by
  rw [h.2 y]
  constructor
  · rintro ⟨p, p1, p2, w, p3, p4⟩
    exact ⟨p, p1, p2, w, by rw [← e p p1]; exact p3, p4⟩
  · rintro ⟨p, p1, p2, w, p3, p4⟩
    exact ⟨p, p1, p2, w, by rw [e p p1]; exact p3, p4⟩⟩
theorem xX_nx {T : List (List Int)} {K : Nat → Nat} {W : Nat → Int} {c : Nat} (hc : c < 72) : xOf T (kNx K W 72) c = if W c = -1 then xOf T K c else xOf T (fun c => (W c).toNat) c := by
  by_cases q : W c = -1
  · rw [if_pos q]
    exact xOf_1 (by unfold kNx; rw [if_neg (fun z => z.2 q)])
  · rw [if_neg q]
    exact xOf_1 (by unfold kNx; rw [if_pos ⟨hc, q⟩])
theorem xX_ge {T : List (List Int)} {K : Nat → Nat} {W : Nat → Int} {c : Nat} (hc : 72 ≤ c) : xOf T (kNx K W 72) c = xOf T K c := xOf_1 (by unfold kNx; rw [if_neg (fun z => by omega)])
end
section
/-! THE CLASS: round(): a round is made -/
/-- cells that a round may change -/
def xRd9 (A ln R : Nat) (G G' : xG_) : Prop := ∀ a j, a < A → ¬ (a = 64 ∧ (j = 12 ∨ j = 13)) → ¬ (216 ≤ a ∧ a ≤ 219) → ¬ (a = ln ∧ (j = 1 ∨ j = 2 ∨ j = 7 ∨ j = 8)) → ¬ (a = ln + 1 ∧ j = R + 1) → a ≠ ln + 2 → a ≠ ln + 3 → a ≠ ln + 7 → a ≠ ln + 8 → G' a j = G a j
section
variable {f A sl q qo nq kk ln mp ro tp ac R old ed ch wk : Nat} {S : Nat → Nat × Nat × Nat} {G : xG_} {s so : pPg} {xp cp yp ap xr cr to lt mps : Nat → Nat} {Mo R' A0 : Nat → List pRw} {tk : Int} {X X' Y : fXs} {C : fCs} {W : Nat → Int} {mv tl tkn : Nat → Nat}
theorem rd_made (hf : 700 < f) (hs : cSs S) (hp : cPs G) (hkk : kk < 4) (hln : ln = 243 + 9 * kk) (hA : 555 < A) (hW : cWk S G q A s xp cp R') (hAh : cAh S G A s yp ap A0) (hx : ∀ p, p < s.1.length → (203 < xp p → xp p + 2 < 216 ∨ 555 < xp p) ∧ (yp p + 2 < 216 ∨ 555 < yp p)) (ho : cPgm S G qo A so) (hoko : qOk so) (hM : cMr S G A mp qo ro so xr cr Mo) (hsm : sfP A mp) (hsr : sfP A ro) (hMo : okM8 so Mo) (h13 : G 93 13 = (ch : Int)) (hch : ch < 2 ^ 16) (h14 : G 93 14 = (wk : Int)) (hwk : wk < 2 ^ 16) (hcb : ∀ j, j < s.1.length → (ch.testBit j = true ↔ ¬ vEq (R' j) (A0 j))) (hAs : ∀ j, j < s.1.length → (A0 j).Pairwise rwLt ∧ (A0 j).length ≤ 100) (htk : tk = 0 ∨ tk = 1) (h7 : G mp 7 = (ed : Int)) (he : ed ≤ 1000) (hP : cPgm S G q nq s) (hnq : nq ≤ A) (hq : q = 229 ∧ nq ≤ 243 ∨ 555 < q)
    (h2 : G mp 2 = (tp : Int)) (hT : cTt S G tp X to) (hstp : sfP A tp) (hto : ∀ c, c < 72 → to c = 0 ∨ 555 < to c ∧ to c + 2 < A) (h3 : G mp 3 = (ac : Int)) (hac : S ac = (2, 4, 72)) (hsac : sfP A ac) (hC : okC C) (gC : ∀ x, x < 72 → G ac x = eC (C x)) (hY : ∀ c, c < 72 → G (ln + 8) c = (lt c : Int) ∧ (lt c = 0 ∧ Y c = none ∨ 555 < lt c ∧ lt c + 2 < A ∧ ∃ e, Y c = some e ∧ cFm S G (lt c) e)) (hWt : ∀ c, c < 72 → (G (ln + 7) c = 0 ↔ W c = -1)) (hX' : ∀ c, c < 72 → X' c = if W c = -1 then X c else Y c) (hXg : ∀ c, 72 ≤ c → X' c = X c) (hoX : okX X') (hv3 : ∀ y, y < 72 → 0 ≤ G (ln + 3) y ∧ G (ln + 3) y ≤ 100000) (hv2 : ∀ p, p < 16 → 0 ≤ G (ln + 2) p ∧ G (ln + 2) p ≤ 100000) (hSm : ch = 0 → ¬ tk = 1 → ∀ x, x < 72 → fSh X s R' x = C x) (hCn : (∀ c, c < 72 → X c = none) → ∀ x, x < 72 → C x = (0, 0))
    (h1 : G ln 1 = (R : Int)) (h2' : G ln 2 = (old : Int)) (hR : R + 1 < 520) (hold : old ≤ R) (hm : ∀ r, old < r → r ≤ R → G (ln + 1) r = (mps r : Int) ∧ S (mps r) = (1, 2, 8) ∧ sfP A (mps r) ∧ G (mps r) 4 = (mv r : Int) ∧ G (mps r) 5 = (tl r : Int) ∧ G (mps r) 6 = (tkn r : Int)) (hbd : ∀ r, mv r ≤ 100000 ∧ tl r ≤ 100000 ∧ tkn r ≤ 100000) (hmR : mv (R + 1) = dfS R' A0 s.1.length + (if tk = 0 then 0 else dfG s so Mo so.1.length)) (htR : tl (R + 1) = tC9 G ln 72) (hkR : (tkn (R + 1) : Int) = tk) :
    ∃ (S' : Nat → Nat × Nat × Nat) (G' : xG_) (m' : Nat × Nat) (be : Nat) (xr' cr' : Nat → Nat) (tp2 ac2 k : Nat), c173_127 f 64 ln mp tk 1 (S, G, (A, sl)) = some ((mv (R + 1) : Int), (S', G', m')) ∧ (A ≤ m'.1 ∧ m'.1 ≤ A + 52 ∧ m'.2 ≤ sl + 8240) ∧ (∀ a, a < A → S' a = S a) ∧ xRd9 A ln R G G' ∧ cPs G' ∧ (A < be ∧ be < m'.1) ∧ cMr S' G' m'.1 be q A s xr' cr' R' ∧ (∀ p, p < s.1.length → xr' p + 2 < 216 ∨ 555 < xr' p) ∧ (G' 64 12 = (mp : Int) ∧ G' 64 13 = (be : Int)) ∧ (G' be 4 = (mv (R + 1) : Int) ∧ G' be 5 = (tl (R + 1) : Int) ∧ G' be 6 = tk ∧ G' be 7 = (ed : Int) + tk) ∧ (G' be 2 = (tp2 : Int) ∧ (tp2 = tp ∨ A ≤ tp2 ∧ tp2 < m'.1) ∧ cTt S' G' tp2 X' (tN9 G ln to lt)) ∧ (G' be 3 = (ac2 : Int) ∧ (ac2 = ac ∨ A ≤ ac2 ∧ ac2 < m'.1) ∧ S' ac2 = (2, 4, 72) ∧ ∀ x, x < 72 → G' ac2 x = eC (fSh X' s R' x)) ∧
      (G' ln 1 = ((R + 1 : Nat) : Int) ∧ G' ln 2 = ((R + 1 - k : Nat) : Int) ∧ G' (ln + 1) (R + 1) = (be : Int)) ∧ (okK9 mv tl tkn (R + 1) k ∧ k ≤ R + 1 - old ∧ ∀ k', k < k' → k' ≤ R + 1 - old → ¬ okK9 mv tl tkn (R + 1) k') ∧ (G' ln 7 = 0 ∧ G' ln 8 = 0 ∧ ∀ y, y < 72 → G' (ln + 7) y = 0 ∧ G' (ln + 8) y = 0) ∧ (∀ p, p < 16 → G' (ln + 2) p = (if tk = 0 then G (ln + 2) p else 0) + if wk.testBit p = true then 1 else 0) ∧
      ∀ c, c < 72 → (qCw X' s (tk = 1) W C (fSh X' s R') (fun p => p < s.1.length ∧ ¬ vEq (R' p) (A0 p)) c → G' (ln + 3) c = G (ln + 3) c + 1) ∧ (¬ qCw X' s (tk = 1) W C (fSh X' s R') (fun p => p < s.1.length ∧ ¬ vEq (R' p) (A0 p)) c → G' (ln + 3) c = G (ln + 3) c) := by
  have hln2 : 242 < ln ∧ ln + 8 < 279 := by omega
  have ls : lnSt S ln := by rw [hln]; exact lnSt_of hs hkk
  have lp : lnPt G ln := by rw [hln]; exact lnPt_of hp hkk
  have hok := hW.1.2.2.2.2.2.1
  obtain ⟨sm1, sm2⟩ := hsm
  obtain ⟨st1, st2⟩ := hstp
  obtain ⟨sc1, sc2⟩ := hsac
  -- outcome
  obtain ⟨S1, G1, be, s1, xr', cr', a1, a2, a3, a4, a5, a6, a7, a8, a9, a10, a11, a12, a13, a14, a15⟩ := k_162 (f := f) (sl := sl) (tk := tk) (e := (ed : Int)) (by omega) (by omega) hW hAh ho hoko hM sm1 hsr.1 (fun r hr => (hMo r hr).2.1) h13 hch hcb hAs htk h7 ⟨by omega, by omega⟩
  have hs1 : cSs S1 := fun k hk => by rw [a2 _ (by omega)]; exact hs k hk
  have hp1 : cPs G1 := hp.al (by omega) a3
  have xo : ∀ p, p < s.1.length → xr' p + 2 < 216 ∨ 555 < xr' p := fun p hp => by
    rcases a9 p hp with z | z | ⟨z1, z2⟩
    · exact .inr (by omega)
    · rw [z]; exact (hx p hp).2
    · rw [z1]; exact (hx p hp).1 z2
  have xb : ∀ p, p < s.1.length → be < xr' p ∨ xr' p + 2 < be := fun p hp => by
    obtain ⟨_, _, w⟩ := a8.2.2.2.2 p hp
    have e0 := a8.1
    rcases (by omega : be < xr' p ∨ xr' p + 2 < be ∨ be = xr' p ∨ be = xr' p + 1 ∨ be = xr' p + 2) with z | z | z | z | z
    · exact .inl z
    · exact .inr z
    · have := w.1; rw [← z, e0] at this; injection this with _ h; injection h with h _; omega
    · obtain ⟨y, y1, _⟩ := w.2.1; rw [← z, e0] at y1; injection y1 with h _; omega
    · have := w.2.2.1; rw [← z, e0] at this; injection this with h _; omega
  have fm1 : ∀ {o : Nat} {e : List pNd × Int}, o + 2 < A → cFm S G o e → cFm S1 G1 o e := fun {o e} h1 h => h.ge (fun a y1 y2 => a2 a (by omega)) (fun a j y1 y2 => a3 a j (by omega))
  have hT1 : cTt S1 G1 tp X to := hT.lt st1 (fun c hc => by have := hto c hc; omega) a2 (fun c _ => a3 _ _ st1) (fun c hc z a j y1 y2 => a3 _ _ (by have := hto c hc; omega))
  obtain ⟨W', eW⟩ : ∃ W' : Nat → Int, W' = fun y => if y < 72 then W y else if G1 (ln + 7) y = 0 then -1 else 0 := ⟨_, rfl⟩
  have w1 : ∀ y, y < 72 → W' y = W y := fun y hy => by rw [eW]; exact if_pos hy
  have lsA : ∀ j, j ≤ 8 → ln + j < A := fun j hj => by omega
  have ht : ∀ y, ¬ G1 (ln + 7) y = 0 ↔ W' y ≠ -1 := fun y => by
    by_cases hy : y < 72
    · rw [w1 y hy, a3 _ _ (lsA 7 (by omega))]
      exact ⟨fun z z2 => z ((hWt y hy).mpr z2), fun z z2 => z ((hWt y hy).mp z2)⟩
    · rw [eW]
      show _ ↔ (if y < 72 then W y else if G1 (ln + 7) y = 0 then (-1 : Int) else 0) ≠ -1
      rw [if_neg hy]
      by_cases z : G1 (ln + 7) y = 0
      · rw [if_pos z]; exact ⟨fun q => absurd z q, fun q => absurd rfl q⟩
      · rw [if_neg z]; exact ⟨fun _ => by decide, fun _ => z⟩
  have ls1 : lnSt S1 ln := lnSt_of' ls (fun a y1 y2 => a2 a (by omega))
  have lp1 : lnPt G1 ln := lnPt_of' lp (fun j => a3 _ _ (lsA 0 (by omega)))
  -- settle
  obtain ⟨S2, G2, m2, tp2, ac2, b1, b2, b3, b4, b5, b6, b7, b8⟩ := k_99s (f := f) (ah := mp) (be := be) (ln := ln) (tp := tp) (ac := ac) (A := be + 1) (sl := s1) (q := q) (rp := A) (nq := nq) (S := S1) (G := G1) (s := s) (X := X) (X' := X') (Y := Y) (to := to) (lt := lt) (xr := xr') (cr := cr') (M := R') (fr := tk) (ch := ch) (C := C) (W := W') (H := fun p => p < s.1.length ∧ ¬ vEq (R' p) (A0 p)) hf (by omega) hs1 hp1 (by omega) a8.1 ⟨by omega, by omega⟩ a8 (hP.ge (Nat.le_refl _) (fun a y => a2 a (by omega)) (fun a j y1 y2 => a3 a j (by omega))) ⟨by omega, by omega, by omega⟩ hok (fun p hp => (hW.2 p hp).2.2.2.2.2.1) (fun p hp => (hW.2 p hp).2.2.2.2.1) ⟨by omega, by omega, by omega⟩ (fun p hp => ⟨by have := xo p hp; omega, xb p hp⟩) hT1 ⟨by omega, by omega, by omega⟩ (fun c hc => by have := hto c hc; omega) a13 a14 ls1 lp1 hln2 (by rw [a2 _ sm1]; exact hM.1) ⟨by omega, by omega, by omega⟩ (by rw [a3 _ _ sm1]; exact h2) (by rw [a3 _ _ sm1]; exact h3) (by rw [a2 _ sc1]; exact hac) ⟨by omega, by omega, by omega, by omega⟩ hC (fun x hx => by rw [a3 _ _ sc1]; exact gC x hx) (fun c hc => by
      rw [a3 _ _ (lsA 8 (by omega))]
      obtain ⟨y1, y2⟩ := hY c hc
      refine ⟨y1, ?_⟩
      rcases y2 with z | ⟨z1, z2, e, z3, z4⟩
      · exact .inl z
      · exact .inr ⟨by omega, ⟨by omega, by omega⟩, e, z3, fm1 z2 z4⟩) (fun c hc => by
      rw [hX' c hc]
      unfold xN9
      rw [a3 _ _ (lsA 7 (by omega))]
      by_cases z : W c = -1
      · rw [if_pos z, if_pos ((hWt c hc).mpr z)]
      · rw [if_neg z, if_neg (fun y => z ((hWt c hc).mp y))]) hXg hoX (fun y hy => by rw [a3 _ _ (lsA 3 (by omega))]; exact hv3 y hy) ht (fun p hp => by rw [hcb p hp]; exact ⟨fun z => ⟨hp, z⟩, fun z => z.2⟩) hSm hCn (by
      by_cases z : ch = 0
      · left
        rintro p ⟨p1, p2⟩
        have := (hcb p p1).mpr p2
        rw [z, Nat.zero_testBit] at this
        cases this
      · exact .inr z)
  have z2 : ∀ a j, a < A → ¬ (216 ≤ a ∧ a ≤ 219) → a ≠ ln + 3 → G2 a j = G a j := fun a j y1 y2 y3 => by rw [b4 a j (by omega) (by omega) (by omega) (by omega) y3, a3 a j y1]
  have s2 : ∀ a, a < A → S2 a = S a := fun a y => by rw [b3 a (by omega), a2 a y]
  have hs2 : cSs S2 := fun k hk => by rw [s2 _ (by omega)]; exact hs k hk
  have hp2 : cPs G2 := hp.ge (fun a j hz => by
    by_cases q3 : a = 216
    · have : ¬ j ≤ 1 := by
        rcases hz with z | z | z | z | z | z | z | ⟨z, z1, z2, k, z3⟩ | z | z | z | ⟨k, z1, z2, z3⟩ <;> omega
      rw [b4 a j (by omega) (by omega) (by omega) (by omega) (by omega), a3 a j (by omega)]
    · exact z2 a j (by
        rcases hz with z | z | z | z | z | z | z | ⟨z, z1, z2, k, z3⟩ | z | z | z | ⟨k, z1, z2, z3⟩ <;> omega) (by
        rcases hz with z | z | z | z | z | z | z | ⟨z, z1, z2, k, z3⟩ | z | z | z | ⟨k, z1, z2, z3⟩ <;> omega) (by
        rcases hz with z | z | z | z | z | z | z | ⟨z, z1, z2, k, z3⟩ | z | z | z | ⟨k, z1, z2, z3⟩ <;> omega))
  have ls2 : lnSt S2 ln := lnSt_of' ls (fun a y1 y2 => s2 a (by omega))
  have lp2 : lnPt G2 ln := lnPt_of' lp (fun j => z2 _ _ (lsA 0 (by omega)) (by omega) (by omega))
  -- countWorked, append, emptyPending
  obtain ⟨G3, c1, c2, c3⟩ := k_10 (f := f) (m := m2) (wk := wk) (tk := tk) (by omega) (by omega) ls2 lp2 (fun p hp => by rw [z2 _ _ (lsA 2 (by omega)) (by omega) (by omega)]; exact hv2 p hp)
  have z3 : ∀ a j, a < A → ¬ (216 ≤ a ∧ a ≤ 219) → a ≠ ln + 3 → a ≠ ln + 2 → G3 a j = G a j := fun a j y1 y2 y3 y4 => by rw [c2 a j y4, z2 a j y1 y2 y3]
  have beN : be ≠ ln ∧ be ≠ ln + 1 ∧ be ≠ ln + 2 ∧ be ≠ ln + 3 ∧ be ≠ ln + 7 ∧ be ≠ ln + 8 ∧ be ≠ 64 := by omega
  have be4 : ∀ j, ¬ (j = 2 ∨ j = 3 ∨ j = 5) → G3 be j = G1 be j := fun j y => by rw [c2 _ _ (by omega), b4 _ _ (by omega) (by omega) (by omega) (by omega) (by omega)]
  have tc1 : tC9 G1 ln 72 = tC9 G ln 72 := tC9_c 72 (fun c _ => a3 _ _ (lsA 7 (by omega)))
  obtain ⟨G4, k, d1, d2, d3, d4, d5, d6, d7, d8⟩ := k_11 (f := f) (m := m2) (ln := ln) (R := R) (old := old) (be := be) (mo := fun r => if r = R + 1 then be else mps r) (mv := mv) (tl := tl) (tk := tkn) (by omega) ls2 (lnPt_of' lp2 (fun j => c2 _ _ (by omega))) (by rw [z3 ln _ (by omega) (by omega) (by omega) (by omega)]; exact h1) (by rw [z3 ln _ (by omega) (by omega) (by omega) (by omega)]; exact h2') hR hold (by rw [b3 _ (by omega)]; exact a8.1) (fun r r1 r2 => by
      show (if r = R + 1 then be else mps r) ≠ ln ∧ (if r = R + 1 then be else mps r) ≠ ln + 1
      by_cases z : r = R + 1
      · rw [if_pos z]; omega
      · rw [if_neg z]
        have := (hm r r1 (by omega)).2.2.1.2
        omega) (if_pos rfl) (fun r r1 r2 => by
      obtain ⟨y1, y2, y3, _⟩ := hm r r1 r2
      show _ = (((if r = R + 1 then be else mps r) : Nat) : Int) ∧ S2 (if r = R + 1 then be else mps r) = _
      rw [if_neg (by omega), z3 _ _ (lsA 1 (by omega)) (by omega) (by omega) (by omega), s2 _ y3.1]
      exact ⟨y1, y2⟩) (fun r r1 r2 => by
      show G3 (if r = R + 1 then be else mps r) 4 = _ ∧ G3 (if r = R + 1 then be else mps r) 5 = _ ∧ G3 (if r = R + 1 then be else mps r) 6 = _
      by_cases z : r = R + 1
      · rw [if_pos z, z, be4 4 (by omega), be4 6 (by omega), c2 _ _ (by omega), a12, a14, hmR, htR, b5, tc1, hkR]
        exact ⟨rfl, rfl, rfl⟩
      · obtain ⟨_, _, y3, y4⟩ := hm r r1 (by omega)
        have y5 := y3.2
        rw [if_neg z, z3 _ _ y3.1 (by omega) (by omega) (by omega), z3 _ _ y3.1 (by omega) (by omega) (by omega), z3 _ _ y3.1 (by omega) (by omega) (by omega)]
        exact y4) hbd
  have z4 : ∀ a j, a < A → ¬ (216 ≤ a ∧ a ≤ 219) → a ≠ ln + 3 → a ≠ ln + 2 → ¬ (a = ln ∧ (j = 1 ∨ j = 2)) → ¬ (a = ln + 1 ∧ j = R + 1) → G4 a j = G a j := fun a j y1 y2 y3 y4 y5 y6 => by rw [d2 a j y5 y6, z3 a j y1 y2 y3 y4]
  have lp4 : lnPt G4 ln := by
    obtain ⟨h0, h1, h2, h3, h4, h5, h6, h7⟩ := lp
    have y : ∀ j, ¬ (j = 1 ∨ j = 2) → G4 ln j = G ln j := fun j hj => z4 _ _ (lsA 0 (by omega)) (by omega) (by omega) (by omega) (by omega) (by omega)
    exact ⟨(y _ (by omega)).trans h0, (y _ (by omega)).trans h1, (y _ (by omega)).trans h2, (y _ (by omega)).trans h3, (y _ (by omega)).trans h4, (y _ (by omega)).trans h5, (y _ (by omega)).trans h6, (y _ (by omega)).trans h7⟩
  obtain ⟨G5, e1, e2, e3, e4, e5⟩ := k_7 (f := f) (m := m2) (by omega) ls2 lp4
  have z5 : ∀ a j, ¬ (a = ln ∧ (j = 1 ∨ j = 2 ∨ j = 7 ∨ j = 8)) → ¬ (a = ln + 1 ∧ j = R + 1) → a ≠ ln + 2 → a ≠ ln + 7 → a ≠ ln + 8 → G5 a j = G2 a j := fun a j y1 y2 y3 y4 y5 => by rw [e2 a j (by omega) y4 y5, d2 a j (by omega) y2, c2 a j y3]
  have hbe5 : G5 be 4 = (mv (R + 1) : Int) := by rw [z5 _ _ (by omega) (by omega) (by omega) (by omega) (by omega), b4 _ _ (by omega) (by omega) (by omega) (by omega) (by omega), a12, hmR]
  have fin := sw_173m (f := f) (ln := ln) (mo := mp) (be := be) (x3 := tk) (x5 := 1) (m := (A, sl)) hs1 hs2 hp hp1 hp2 hs (s93 hs) (s93 hs1) (s93 hs2) ls2.1 (by rw [b3 _ (by omega)]; exact a8.1) (by omega) a1 (by rw [a3 _ _ (by omega)]; exact h13) b1 (show G2 93 14 = (wk : Int) by rw [z2 _ _ (by omega) (by omega) (by omega)]; exact h14) c1 d1 e1 hbe5 (by decide)
  obtain ⟨G6, hG6⟩ : ∃ G6, G6 = xup2 (xup2 G5 64 12 (mp : Int)) 64 13 (be : Int) := ⟨_, rfl⟩
  rw [← hG6] at fin
  have z6 : ∀ a j, ¬ (a = 64 ∧ (j = 12 ∨ j = 13)) → G6 a j = G5 a j := fun a j y => by rw [hG6, xup2_n (by omega), xup2_n (by omega)]
  -- cells that are made here
  have zb : ∀ a j, A ≤ a → G6 a j = G2 a j := fun a j y => by rw [z6 a j (by omega), z5 a j (by omega) (by omega) (by omega) (by omega) (by omega)]
  have zl : ∀ a j, a < A → ¬ (216 ≤ a ∧ a ≤ 219) → ¬ (ln ≤ a ∧ a ≤ ln + 8) → a ≠ 64 → G6 a j = G2 a j := fun a j y1 y2 y3 y4 => by rw [z6 a j (by omega), z5 a j (by omega) (by omega) (by omega) (by omega) (by omega)]
  have mle : be + 1 ≤ m2.1 := b2.1
  refine ⟨S2, G6, m2, be, xr', cr', tp2, ac2, k, fin, ⟨by omega, by omega, by omega⟩, s2, ?_, ?_, ⟨a4, by omega⟩, ?_, xo, ⟨?_, ?_⟩, ⟨?_, ?_, ?_, ?_⟩, ⟨?_, ?_, ?_⟩, ⟨?_, ?_, ?_, ?_⟩, ⟨?_, ?_, ?_⟩, ⟨d6, d7, d8⟩, ⟨?_, ?_, ?_⟩, ?_, ?_⟩
  · intro a j y1 y2 y3 y4 y5 y6 y7 y8 y9
    rw [z6 a j y2, z5 a j y4 y5 y6 y8 y9, z2 a j y1 y3 y7]
  · refine hp2.ge (fun a j hz => ?_)
    have q2 : ¬ (a = 64 ∧ (j = 12 ∨ j = 13)) ∧ ¬ (a = ln ∧ (j = 1 ∨ j = 2 ∨ j = 7 ∨ j = 8)) ∧ a ≠ ln + 1 ∧ a ≠ ln + 2 ∧ a ≠ ln + 7 ∧ a ≠ ln + 8 := by
      rcases hz with z | z | z | z | z | z | z | ⟨z, z1, z2, k, z3⟩ | z | z | z | ⟨k, z1, z2, z3⟩ <;> omega
    rw [z6 a j q2.1, z5 a j q2.2.1 (by omega) q2.2.2.2.1 q2.2.2.2.2.1 q2.2.2.2.2.2]
  · refine a8.ge2 (by omega) (fun a hz => b3 a ?_) (fun a j hz => ?_)
    · rcases hz with z | z | ⟨p, hp, y1, y2⟩
      · omega
      · omega
      · have := (a8.2.2.2.2 p hp).2.1; omega
    · rcases hz with ⟨z, zj⟩ | z | ⟨p, hp, y1, y2⟩
      · rw [zb a j (by omega), b4 a j (by omega) (by omega) (by omega) (by omega) (by omega)]
      · rw [zb a j (by omega), b4 a j (by omega) (by omega) (by omega) (by omega) (by omega)]
      · have u1 := (a8.2.2.2.2 p hp).2.1
        have u2 := xo p hp
        have u3 := xb p hp
        have : G6 a j = G2 a j := by
          by_cases y : A ≤ a
          · exact zb a j y
          · exact zl a j (by omega) (by omega) (by omega) (by omega)
        rw [this, b4 a j (by omega) (by omega) (by omega) (by omega) (by omega)]
  · rw [hG6, xup2_n (by omega), xup2_s]
  · rw [hG6, xup2_s]
  · rw [z6 _ _ (by omega)]; exact hbe5
  · rw [zb _ _ (by omega), b5, tc1, htR]
  · rw [zb _ _ (by omega), b4 _ _ (by omega) (by omega) (by omega) (by omega) (by omega)]; exact a14
  · rw [zb _ _ (by omega), b4 _ _ (by omega) (by omega) (by omega) (by omega) (by omega)]; exact a15
  · rw [zb _ _ (by omega)]; exact b6.1
  · rcases b6.2.1 with z | z
    · exact .inl z
    · exact .inr ⟨by omega, z.2⟩
  · have tt := b6.2.2
    have etN : ∀ c, c < 72 → tN9 G ln to lt c = tN9 G1 ln to lt c := fun c _ => by unfold tN9; rw [a3 _ _ (lsA 7 (by omega))]
    have tgt : ∀ c, c < 72 → tN9 G1 ln to lt c = 0 ∨ 555 < tN9 G1 ln to lt c ∧ tN9 G1 ln to lt c + 2 < A := fun c hc => by
      unfold tN9
      by_cases z : G1 (ln + 7) c = 0
      · rw [if_pos z]; exact hto c hc
      · rw [if_neg z]
        rcases (hY c hc).2 with w | ⟨w1, w2, _⟩
        · exact .inl w.1
        · exact .inr ⟨w1, w2⟩
    have tp2b : tp2 = tp ∨ A ≤ tp2 := by
      rcases b6.2.1 with z | z
      · exact .inl z
      · exact .inr (by omega)
    have r1 : cTt S2 G6 tp2 X' (tN9 G1 ln to lt) := by
      refine ⟨tt.1, tt.2.1, fun c hc => ?_⟩
      obtain ⟨t1, t2⟩ := tt.2.2 c hc
      refine ⟨?_, ?_⟩
      · have : G6 tp2 c = G2 tp2 c := by
          rcases tp2b with z | z
          · rw [z]; exact zl _ _ st1 (by omega) (by omega) (by omega)
          · exact zb _ _ z
        rw [this]; exact t1
      · rcases t2 with z | ⟨z1, e, z2, z3⟩
        · exact .inl z
        · have := tgt c hc
          exact .inr ⟨z1, e, z2, z3.ge (fun _ _ _ => rfl) (fun a j y1 y2 => zl _ _ (by omega) (by omega) (by omega) (by omega))⟩
    exact r1.cg (fun _ _ => rfl) etN
  · rw [zb _ _ (by omega)]; exact b7.1
  · rcases b7.2.1 with z | z
    · exact .inl z
    · exact .inr ⟨by omega, z.2⟩
  · exact b7.2.2.1
  · intro x hx'
    have : G6 ac2 x = G2 ac2 x := by
      rcases b7.2.1 with z | z
      · rw [z]; exact zl _ _ sc1 (by omega) (by omega) (by omega)
      · exact zb _ _ (by omega)
    rw [this]
    exact b7.2.2.2 x hx'
  · rw [z6 _ _ (by omega), e2 _ _ (by omega) (by omega) (by omega)]; exact d3
  · rw [z6 _ _ (by omega), e2 _ _ (by omega) (by omega) (by omega)]; exact d5
  · rw [z6 _ _ (by omega), e2 _ _ (by omega) (by omega) (by omega)]; exact d4
  · rw [z6 _ _ (by omega)]; exact e3
  · rw [z6 _ _ (by omega)]; exact e4
  · intro y hy
    rw [z6 _ _ (by omega), z6 _ _ (by omega)]
    exact e5 y hy
  · intro p hp'
    rw [z6 _ _ (by omega), e2 _ _ (by omega) (by omega) (by omega), d2 _ _ (by omega) (by omega), c3 p hp', z2 _ _ (lsA 2 (by omega)) (by omega) (by omega)]
  · intro c hc
    rw [z6 _ _ (by omega), z5 _ _ (by omega) (by omega) (by omega) (by omega) (by omega)]
    have := b8 c hc
    rw [a3 _ _ (lsA 3 (by omega)), qCw_w (W := W') (W' := W) (w1 c hc)] at this
    exact this
end
end
section
/-! THE CLASS: round() in the house -/
section
variable {f A hr n sl : Nat} {S : Nat → Nat × Nat × Nat} {G : xG_} {T : List (List Int)} {P : Nat → Nat} {lns : Nat → sLn} {tx : List Int} {kp : Nat × List (List Int)} {mt : Int × List Int} {pl rf : Int}
/-- which program a round is of -/
theorem rd_prog {l : sLn} {s so : pPg} {Mo : Nat → List pRw} {ln : Nat} (hE : cEd T S G A P) (hL : cLn T S G A P ln l) (hI : l.2.2.2.1.2.1 = -1 ∨ ((lMo l).1 : Int) < l.2.2.2.1.2.1) (hp : P (lMo l).1 ≠ 0) (io : isMo T (lMo l) so Mo) (is' : qPr (T.getD (lnE l) []) = .inr s) :
    ∃ (e : Nat) (tk : Int), G ln 7 = (e : Int) ∧ (tk = 0 ∧ e = 0 ∧ l.2.2.2.1.2.1 = -1 ∨ tk = 1 ∧ e ≠ 0 ∧ e = P (lnE l) ∧ l.2.2.2.1.2.1 ≠ -1) ∧ (G (P (lnE l)) 0 = G (P (lMo l).1) 0 ∧ tk = 0 ∧ s = so ∨ G (P (lnE l)) 0 ≠ G (P (lMo l).1) 0 ∧ tk = 1) ∧ (tk = 0 → P (lnE l) = P (lMo l).1) ∧ P (lnE l) ≠ 0 := by
  rcases hL.2.2.1 with ⟨a1, a2⟩ | ⟨a1, a2, a3⟩
  · have e1 : lnE l = (lMo l).1 := if_pos a1
    rw [e1] at is' ⊢
    have es : s = so := by
      have := io.2.1
      rw [is'] at this
      injection this
    exact ⟨0, 0, a2, .inl ⟨rfl, rfl, a1⟩, .inl ⟨rfl, rfl, es⟩, fun _ => rfl, hp⟩
  · have e1 : lnE l = l.2.2.2.1.2.1.toNat := if_neg (by omega)
    rw [e1]
    refine ⟨_, 1, a3, .inr ⟨rfl, a2, rfl, by omega⟩, .inr ⟨fun z => ?_, rfl⟩, fun z => absurd z (by decide), a2⟩
    have := hE.2 _ _ a2 hp z
    omega
/-- round() is refused -/
theorem k_rd0 {G1 : xG_} {mp : Nat} {tk : Int} (hf : 700 < f) (h : cHs S G A (T, lns, hr, tx, kp, mt, pl, rf) n) (hrf : 0 ≤ rf ∧ rf ≤ 100000) (hG : ∀ a j, a < 83 ∨ 203 < a → G1 a j = G a j) (hp1 : cPs G1) : ∃ G', c173_127 f 64 (243 + 9 * hr) mp tk 0 (S, G1, (A, sl)) = some (-1, (S, G', (A, sl))) ∧ cHs S G' A (T, lUp lns hr (lnF (lns hr)), hr, tx, kp, mt, pl, rf + 1) (n + 1) := by
  obtain ⟨⟨a1, a2, a3, a4⟩, ⟨P, b1, b2, b3⟩, ⟨c1, c2⟩, ⟨c3, c4⟩, c5, c6, c7, c8, c9⟩ := h
  have ls := lnSt_of a1 c1
  have z0 : ∀ a j, ¬ (a = 64 ∧ j = 8) → xup2 G1 64 8 (rf + 1) a j = G1 a j := fun a j y => xup2_n y
  have p0 : cPs (xup2 G1 64 8 (rf + 1)) := hp1.ge (fun a j hz => z0 a j (by
      rcases hz with z | z | z | z | z | z | z | ⟨z, z1, z2, k, z3⟩ | z | z | z | ⟨k, z1, z2, z3⟩ <;> omega))
  obtain ⟨G', k1, k2, k3, k4, k5⟩ := k_7 (f := f) (m := (A, sl)) (by omega) ls (lnPt_of p0 c1)
  have g : ∀ a j, a < 83 ∨ 203 < a → ¬ (a = 64 ∧ j = 8) → ¬ (243 + 9 * hr ≤ a ∧ a ≤ 243 + 9 * hr + 8) → G' a j = G a j := fun a j y1 y2 y3 => by rw [k2 a j (by omega) (by omega) (by omega), z0 a j y2, hG a j y1]
  have gl : ∀ a j, 242 < a → ¬ (a = 243 + 9 * hr ∧ (j = 7 ∨ j = 8)) → a ≠ 243 + 9 * hr + 7 → a ≠ 243 + 9 * hr + 8 → G' a j = G a j := fun a j y1 y2 y3 y4 => by rw [k2 a j y2 y3 y4, z0 a j (by omega), hG a j (by omega)]
  have sf : xSf A G G' := fun a j y1 y2 => g a j (by omega) (by omega) (by omega)
  refine ⟨G', sw_173f a1 ls.1 (by rw [hG _ _ (by omega)]; exact c5) hrf k1, ⟨⟨a1, p0.ge (fun a j hz => k2 a j (by
        rcases hz with z | z | z | z | z | z | z | ⟨z, z1, z2, k, z3⟩ | z | z | z | ⟨k, z1, z2, z3⟩ <;> omega) (by
        rcases hz with z | z | z | z | z | z | z | ⟨z, z1, z2, k, z3⟩ | z | z | z | ⟨k, z1, z2, z3⟩ <;> omega) (by
        rcases hz with z | z | z | z | z | z | z | ⟨z, z1, z2, k, z3⟩ | z | z | z | ⟨k, z1, z2, z3⟩ <;> omega)), a3.ge (fun a j y1 y2 => g a j (by omega) (by omega) (by omega)), a4⟩, ⟨P, b1.ge (Nat.le_refl _) (fun _ _ => rfl) sf (by rw [g _ _ (by omega) (by omega) (by omega)]; exact Int.le_refl _), fun y hy => ?_, ?_⟩, ⟨c1, by rw [g _ _ (by omega) (by omega) (by omega)]; exact c2⟩, ⟨by rw [g _ _ (by omega) (by omega) (by omega)]; exact c3, by rw [g _ _ (by omega) (by omega) (by omega)]; omega⟩, ?_, by rw [g _ _ (by omega) (by omega) (by omega)]; exact c6, c7.ge (g _ _ (by omega) (by omega) (by omega)) (fun p => g _ _ (by omega) (by omega) (by omega)), c8.ge (fun _ _ => rfl) (fun a j y1 y2 => g a j (by omega) (by omega) (by omega)) ⟨g _ _ (by omega) (by omega) (by omega), g _ _ (by omega) (by omega) (by omega)⟩, c9.ge ⟨g _ _ (by omega) (by omega) (by omega), g _ _ (by omega) (by omega) (by omega)⟩ (fun j => g _ _ (by omega) (by omega) (by omega))⟩⟩
  · unfold lUp
    by_cases d : y = hr
    · rw [if_pos d, d]
      have L : cLn T S G A P (243 + 9 * hr) (lns hr) := b2 hr c1
      obtain ⟨s, M, hm⟩ := L.mo
      obtain ⟨h1, ⟨h2, h3⟩, h4, _, _, h8, h9⟩ := L
      exact ⟨h1.ge (Nat.le_refl _) (fun _ _ => rfl) sf ⟨gl _ _ (by omega) (by omega) (by omega) (by omega), gl _ _ (by omega) (by omega) (by omega) (by omega), fun j _ _ => gl _ _ (by omega) (by omega) (by omega) (by omega)⟩, ⟨fun p hp => by rw [gl _ _ (by omega) (by omega) (by omega) (by omega)]; exact h2 p hp, fun c hc => by rw [gl _ _ (by omega) (by omega) (by omega) (by omega)]; exact h3 c hc⟩, .inl ⟨rfl, k3⟩, ⟨s, hm.2.1, cPn.nil k4⟩, cCt.nil k5, by rw [gl _ _ (by omega) (by omega) (by omega) (by omega)]; exact h8, by rw [gl _ _ (by omega) (by omega) (by omega) (by omega)]; exact h9⟩
    · rw [if_neg d]
      exact (b2 y hy).ge (Nat.le_refl _) (fun _ _ => rfl) sf (fun a j y1 y2 => gl a j (by omega) (by omega) (by omega) (by omega))
  · unfold lUp
    rw [if_pos rfl]
    exact b3.ge (Nat.le_refl _) (fun _ _ => rfl) sf ⟨g _ _ (by omega) (by omega) (by omega), g _ _ (by omega) (by omega) (by omega)⟩
  · rw [k2 _ _ (by omega) (by omega) (by omega), xup2_s]
end
end
section
/-! THE CLASS: round() in the house, a round is made -/
section
variable {T : List (List Int)} {S S' : Nat → Nat × Nat × Nat} {G G' : xG_} {A A' ln : Nat} {P : Nat → Nat} {H : Nat → sMo} {mo : sMo} {b k ed b' k' be t : Nat}
theorem ro_new (h : cRo T S G A P ln H b k ed) (hA : A ≤ A') (hS : ∀ a, a < A → S' a = S a) (sf : xSf A G G') (hb' : b ≤ b') (hbk : b' + k' = b + k + 1) (e1 : G' ln 1 = ((b + k + 1 : Nat) : Int)) (e2 : G' ln 2 = (b' : Int)) (em : ∀ j, b ≤ j → j ≤ b + k → G' (ln + 1) j = G (ln + 1) j) (eb : G' (ln + 1) (b + k + 1) = (be : Int)) (hmo : cMo T S' G' A' P be mo) (f7 : G' be 7 = ((ed + t : Nat) : Int)) (ht : t = if mo.2.2.2.2 = true then 1 else 0) (f4 : G' be 4 = ((lgR ((b + k + 1 : Nat) : Int) mo.2.1 (H (b + k)).2.1).length : Int)) (f5 : G' be 5 = ((cgN ((b + k + 1 : Nat) : Int) (H (b + k)).2.2.1 mo.2.2.2.1 72).length : Int)) (f6 : G' be 6 = (t : Int)) : cRo T S' G' A' P ln (hAd H (b + k + 1) mo) b' k' (ed + t) := by
  obtain ⟨⟨h1, h2⟩, mp, h3, h4⟩ := h
  have gm : ∀ r, b ≤ r → r ≤ b + k → ∀ j, G' (mp r) j = G (mp r) j := fun r r1 r2 j => by
    obtain ⟨_, ⟨s, M, rp, xr, cr, tp, ac, to, _, _, _, _, _, _, ⟨z, _⟩, _⟩, _⟩ := h3 r r1 r2
    exact sf _ _ z.1 (.inr z.2)
  obtain ⟨s1, s2, s3⟩ := hLg_s (H := H) (r := b + k) (mo := mo)
  refine ⟨⟨by rw [hbk]; exact e1, e2⟩, fun r => if r = b + k + 1 then be else mp r, fun r r1 r2 => ?_, fun r r1 r2 => ?_⟩
  · show G' (ln + 1) r = (((if r = b + k + 1 then be else mp r) : Nat) : Int) ∧ cMo T S' G' A' P (if r = b + k + 1 then be else mp r) _ ∧ ∃ x : Nat, G' (if r = b + k + 1 then be else mp r) 7 = (x : Int) ∧ _
    by_cases q : r = b + k + 1
    · rw [if_pos q, q, hAd_s]
      refine ⟨eb, hmo, ed + t, f7, ?_⟩
      rw [show b' + k' - (b + k + 1) = 0 by omega]
      rfl
    · rw [if_neg q, hAd_n q]
      obtain ⟨a1, a2, x, a3, a4⟩ := h3 r (by omega) (by omega)
      refine ⟨by rw [em r (by omega) (by omega)]; exact a1, a2.ge hA hS sf, x, by rw [gm r (by omega) (by omega)]; exact a3, ?_⟩
      rw [show b' + k' - r = (b + k - r) + 1 by omega]
      show x + (hCat (hEg (hAd H (b + k + 1) mo)) r (b + k - r) ++ hEg (hAd H (b + k + 1) mo) (r + (b + k - r) + 1)).length = _
      rw [List.length_append, show r + (b + k - r) + 1 = b + k + 1 by omega, s3, ← ht, hCat_c (g' := hEg H) (b + k - r) (fun x x1 x2 => (hLg_n (by omega)).2.2)]
      omega
  · show G' (if r = b + k + 1 then be else mp r) 4 = _ ∧ G' (if r = b + k + 1 then be else mp r) 5 = _ ∧ G' (if r = b + k + 1 then be else mp r) 6 = _
    by_cases q : r = b + k + 1
    · rw [if_pos q, q, s1, s2, s3, ← ht]
      exact ⟨f4, f5, f6⟩
    · obtain ⟨u1, u2, u3⟩ := hLg_n (H := H) (r := r) (r0 := b + k + 1) (mo := mo) (by omega)
      rw [if_neg q, u1, u2, u3, gm r (by omega) (by omega), gm r (by omega) (by omega), gm r (by omega) (by omega)]
      exact h4 r (by omega) (by omega)
end
section
variable {f A hr n sl : Nat} {S : Nat → Nat × Nat × Nat} {G : xG_} {T : List (List Int)} {P : Nat → Nat} {lns : Nat → sLn} {tx : List Int} {kp : Nat × List (List Int)} {mt : Int × List Int} {pl rf : Int}
theorem k_rd {v : Int} {ln' : sLn} {good : Bool} (hf : 100003010 < f) (h : cHs S G A (T, lns, hr, tx, kp, mt, pl, rf) n) (hn : n ≤ 515) (hI : lInv T (lns hr)) (hsO : sOk T (lns hr) n) (hXK : ∀ K, kOk T K → okX (xOf T K)) (hrf : 0 ≤ rf ∧ rf ≤ 100000) (hst : stRd T (lns hr) v ln' good) (hnew : ∃ s M, isMo T (lMo ln') s M) :
    ∃ S' G' m', c173 f 64 (S, G, (A, sl)) = some (v, (S', G', m')) ∧ (A ≤ m'.1 ∧ m'.1 ≤ A + 52 ∧ m'.2 ≤ sl + 8240) ∧ (∀ a, a < A → S' a = S a) ∧ cHs S' G' m'.1 (T, lUp lns hr ln', hr, tx, kp, mt, pl, if good = true then rf else rf + 1) (n + 1) := by
  have hh := h
  obtain ⟨⟨a1, a2, a3, a4⟩, ⟨P, b1, b2, b3⟩, ⟨c1, c2⟩, ⟨c3, c4⟩, c5, c6, c7, c8, c9⟩ := h
  obtain ⟨so, Mo, s, R0, R, i1, i2, i3, i4, i5⟩ := hst
  have hnewf : Unit → _ := fun _ => hnew
  clear hnew
  have L := b2 hr c1
  obtain ⟨Lr, ⟨Lw, Lc⟩, Le, ⟨sp, Lp1, Lp2⟩, ⟨lt, Lt⟩, L3, L4⟩ := id L
  obtain ⟨⟨l1, l2⟩, mps, l3, l4⟩ := id Lr
  obtain ⟨l, hl⟩ : ∃ l, l = lns hr := ⟨_, rfl⟩
  rw [← hl] at hI hsO i1 i2 i3 i4 i5 L Lr Lw Lc Le Lp1 Lp2 Lt L3 L4 l1 l2 l3 l4
  have i5f : Unit → _ := fun _ => i5
  clear i5
  have es : sp = s := by
    rw [i2] at Lp1
    injection Lp1 with z
    exact z.symm
  subst es
  have hRn : l.2.1.1 + l.2.1.2.1 ≤ n := hsO.2.2.1.1
  obtain ⟨m1, m2, xe, m3, m4⟩ := l3 _ (Nat.le_add_right _ _) (Nat.le_refl _)
  rw [Nat.sub_self] at m4
  have m4' : xe + 0 = l.2.1.2.2 := m4
  obtain ⟨s1, M1, rp, xr, cr, tp, ac, to, n1, n2, n3, ⟨n4, n5⟩, ⟨n6, n7, n8⟩, n9, ⟨n10, n11, n12, n13⟩, n14, n15⟩ := id m2
  obtain ⟨e1, e2⟩ := isMo_u n1 i1
  subst e1
  have n2 := n2.cg e2
  have n3 := n3.cg e2
  have eM : fSh (xOf T (lMo l).2.2.1) s1 M1 = fSh (xOf T (lMo l).2.2.1) s1 Mo := fSh_v n1.2.2.1.1.2.1 (fun p hp => by rw [e2 p hp]) _
  have n8' : ∀ x, x < 72 → G ac x = eC (fSh (xOf T (lMo l).2.2.1) s1 Mo x) := fun x hx => by rw [← eM]; exact n8 x hx
  obtain ⟨e, tk, g7, gt, gs, gp, gn⟩ := rd_prog b1 L hI.2.2 n9 i1 i2
  obtain ⟨_, ⟨so', nqo, o1, o2, o3, o4, o5⟩, _⟩ := b1.1 _ n9
  have es : so' = s1 := by
    have := i1.2.1
    rw [o1] at this
    injection this
  subst es
  obtain ⟨q1, ⟨s', nq, q2, q3, q4, q5, q6⟩, _⟩ := b1.1 _ gn
  have es : s' = sp := by
    rw [i2] at q2
    injection q2 with z
    exact z.symm
  subst es
  have htk01 : tk = 0 ∨ tk = 1 := by
    rcases gt with z | z
    · exact .inl z.1
    · exact .inr z.1
  have hfr : l.2.2.2.1.2.1 ≠ -1 ↔ tk = 1 := by
    rcases gt with ⟨z1, _, z3⟩ | ⟨z1, _, _, z3⟩
    · exact ⟨fun y => absurd z3 y, fun y => by omega⟩
    · exact ⟨fun _ => z1, fun _ => z3⟩
  have pm : P (lMo l).1 = 229 ∧ nqo ≤ 243 ∨ 555 < P (lMo l).1 := o5
  have sm1 := n10.1
  have sm2 := n10.2
  have sr1 := n11.1
  have sr2 := n11.2
  have o3' : cPgm S G (P (lMo l).1) A so' := o3.ge o4 (fun _ _ => rfl) (fun _ _ _ _ => rfl)
  have q4' : cPgm S G (P (lnE l)) A s' := q4.ge q5 (fun _ _ => rfl) (fun _ _ _ _ => rfl)
  obtain ⟨s0, M0, iu, uk⟩ := hI.1 _ (Nat.le_add_right _ _) (Nat.le_refl _)
  obtain ⟨e3, e4⟩ := isMo_u iu i1
  subst e3
  have ukM' : ukM s0 Mo := uk.fa i1.2.2.1 iu.2.2.2.2.2.1 i1.2.2.2.2.2.1
  -- its rows
  obtain ⟨v0, G1, r1, r2, r3, r4⟩ := rd_rows (f := f) (A := A) (q := P (lnE l)) (qo := P (lMo l).1) (kk := hr) (mp := mps (l.2.1.1 + l.2.1.2.1)) (rp := rp) (r := l.2.1.1 + l.2.1.2.1) (m := (A, sl)) (tk := tk) (fr := l.2.2.2.1.2.1 ≠ -1) hf a1 a2 a3 c1 l1 (by omega) (by omega) (by omega) (by omega) (by omega) q3 o2 gs q4' o3' n3 n2 Lp2 i1.2.2.2.2.1 i1.2.2.2.2.2.1 ukM' hfr i3 i4 hsO.2.2.2.2.2.2.2.1 n14
  have r4f : Unit → _ := fun _ => r4
  clear r4
  have e173 : c173 f 64 (S, G, (A, sl)) = c173_127 f 64 (243 + 9 * hr) (mps (l.2.1.1 + l.2.1.2.1)) tk v0 (S, G1, (A, sl)) := by
    rw [sw_173s (f := f) (m := (A, sl)) a1 a2 c2 c1 rfl l1 (by omega) m1 n3.1 n3.2.1 g7]
    rcases gt with ⟨z1, z2, _⟩ | ⟨z1, z2, z3, _⟩
    · rw [if_pos z2, ← r1, z1, gp z1]
    · rw [if_neg z2, ← r1, z1, z3]
  have lUpe : ∀ x, lUp lns hr x = lUp lns hr x := fun _ => rfl
  rcases r4f () with ⟨y1, y2⟩ | ⟨y1, xp, cp, yp, ap, R', A0, ch, wk, w1, w2, w3, w4, w5, w6, w7, w8, w9, w10, w11, w12, w13, w14⟩
  · -- refused
    rcases i5f () with ⟨g1, g2, g3, g4⟩ | ⟨_, M, F, _, _, _, _, g1, _⟩
    · obtain ⟨G', k1, k2⟩ := k_rd0 (f := f) (sl := sl) (mp := mps (l.2.1.1 + l.2.1.2.1)) (tk := tk) (by omega) hh hrf r2 r3
      rw [g1, g3, g4]
      refine ⟨S, G', (A, sl), ?_, ⟨Nat.le_refl _, by omega, by omega⟩, (fun _ _ => rfl), ?_⟩
      · rw [e173, y1]; exact k1
      · rw [hl]; exact k2
    · exact absurd ⟨M, g1⟩ y2
  · rcases i5f () with ⟨_, g2, _⟩ | ⟨g0, M, F, b', k', wk', cw', g1, g2, g3, g4, g5, g6, g7', g8⟩
    · exact absurd ⟨_, w9⟩ g2
    have hw := q3.1.1
    have hMR : ∀ p, p < s'.1.length → M p = R' p := qMod_det hw g1 w9
    have hFR : qFa s' R' F := g2.cg hMR
    have tbR := w9.1
    have tbM := i1.2.2.2.2.1.1.1
    have okR8 : okM8 s' R' := fun p hp => by
      obtain ⟨_, _, _, z1, z2, z3, z4⟩ := w1.2 p hp
      exact ⟨z1, z2, z3, z4⟩
    obtain ⟨sN, MN, iN⟩ := hnewf ()
    have hlast : lMo ln' = lnM l F := by
      rw [g4]
      show lnH l F (b' + k') = _
      rw [g5]
      exact hAd_s
    rw [hlast] at iN
    have kN : kOk T (kNx (lMo l).2.2.1 l.2.2.2.1.2.2 72) := iN.2.2.2.2.2.2
    have isN : isMo T (lnM l F) s' R' := ⟨iN.1, i2, q3.1, q3.2.2.2.2.1, ⟨⟨tbR, fun p hp hi => rfl, w9.2.2⟩, w14⟩, hFR, kN⟩
    have hX0 := hXK _ i1.2.2.2.2.2.2
    have hXn := hXK _ kN
    have lenF : F.length ≤ 1600 := hFR.len hw.1 tbR
    have lenO : ∀ r, l.2.1.1 ≤ r → r ≤ l.2.1.1 + l.2.1.2.1 → (l.1 r).2.1.length ≤ 1600 := fun r z1 z2 => by
      obtain ⟨sx, Mx, ix⟩ := (l3 r z1 z2).2.1.is
      exact ix.2.2.2.2.2.1.len ix.2.2.1.1.1 ix.2.2.2.2.1.1.1
    -- the logs
    obtain ⟨H', hH'⟩ : ∃ H', H' = lnH l F := ⟨_, rfl⟩
    have hn1 : ∀ r, r < l.2.1.1 + l.2.1.2.1 + 1 → hLg H' r = hLg l.1 r ∧ hCg H' r = hCg l.1 r ∧ hEg H' r = hEg l.1 r := fun r z => by rw [hH']; exact hLg_n z
    obtain ⟨u1, u2, u3⟩ := hLg_s (H := l.1) (r := l.2.1.1 + l.2.1.2.1) (mo := lnM l F)
    have u1' : hLg H' (l.2.1.1 + l.2.1.2.1 + 1) = lgR ((l.2.1.1 + l.2.1.2.1 + 1 : Nat) : Int) F (lMo l).2.1 := by rw [hH']; exact u1
    have u2' : hCg H' (l.2.1.1 + l.2.1.2.1 + 1) = cgN ((l.2.1.1 + l.2.1.2.1 + 1 : Nat) : Int) (lMo l).2.2.1 l.2.2.2.1.2.2 72 := by rw [hH']; exact u2
    have u3' : ((hEg H' (l.2.1.1 + l.2.1.2.1 + 1)).length : Int) = tk := by
      rw [hH']
      show ((hEg (hAd l.1 (l.2.1.1 + l.2.1.2.1 + 1) (lnM l F)) (l.2.1.1 + l.2.1.2.1 + 1)).length : Int) = tk
      rw [u3]
      show (((if decide (l.2.2.2.1.2.1 ≠ -1) = true then 1 else 0) : Nat) : Int) = tk
      rcases gt with ⟨z1, _, z3⟩ | ⟨z1, _, _, z3⟩
      · rw [if_neg (by rw [z3]; decide), z1]; rfl
      · rw [if_pos (decide_eq_true z3), z1]; rfl
    have hbd : ∀ r, (if l.2.1.1 < r ∧ r ≤ l.2.1.1 + l.2.1.2.1 + 1 then (hLg H' r).length else 0) ≤ 100000 ∧ (if l.2.1.1 < r ∧ r ≤ l.2.1.1 + l.2.1.2.1 + 1 then (hCg H' r).length else 0) ≤ 100000 ∧ (if l.2.1.1 < r ∧ r ≤ l.2.1.1 + l.2.1.2.1 + 1 then (hEg H' r).length else 0) ≤ 100000 := fun r => by
      by_cases q : l.2.1.1 < r ∧ r ≤ l.2.1.1 + l.2.1.2.1 + 1
      · rw [if_pos q, if_pos q, if_pos q]
        have z1 : (hLg H' r).length ≤ 3200 := by
          by_cases z : r = l.2.1.1 + l.2.1.2.1 + 1
          · rw [z, u1']
            have := lgR_le (rd := ((l.2.1.1 + l.2.1.2.1 + 1 : Nat) : Int)) (A := F) (B := (lMo l).2.1)
            have z9 : (lMo l).2.1.length ≤ 1600 := lenO (l.2.1.1 + l.2.1.2.1) (by omega) (by omega)
            omega
          · rw [(hn1 r (by omega)).1]
            have := lgR_le (rd := (r : Int)) (A := (l.1 r).2.1) (B := (l.1 (r - 1)).2.1)
            have := lenO r (by omega) (by omega)
            have := lenO (r - 1) (by omega) (by omega)
            unfold hLg
            omega
        have z2 : (hCg H' r).length ≤ 72 := cgN_len _ _ _ _
        have z3 := hEg_le (H := H') (r := r)
        omega
      · rw [if_neg q, if_neg q, if_neg q]; omega
    have inR : l.2.1.1 < l.2.1.1 + l.2.1.2.1 + 1 ∧ l.2.1.1 + l.2.1.2.1 + 1 ≤ l.2.1.1 + l.2.1.2.1 + 1 := by omega
    have llen := lg_len (rd := ((l.2.1.1 + l.2.1.2.1 + 1 : Nat) : Int)) q3.1 i1.2.2.1 tbR tbM hFR i1.2.2.2.2.2.1 w3
    have hdf : dfG s' s0 Mo s0.1.length = if tk = 0 then 0 else dfG s' s0 Mo s0.1.length := by
      by_cases z : tk = 0
      · rw [if_pos z]
        have : s' = s0 := by
          rcases gs with y | y
          · exact y.2.2
          · omega
        rw [this]
        exact dfG_self _ (Nat.le_refl _)
      · rw [if_neg z]
    have G1l : ∀ j k, G1 (243 + 9 * hr + j) k = G (243 + 9 * hr + j) k := fun j k => r2 _ _ (by omega)
    have tcl : tC9 G1 (243 + 9 * hr) 72 = (hCg H' (l.2.1.1 + l.2.1.2.1 + 1)).length := by
      rw [u2']
      exact tC9_cg 72 (fun c hc => by rw [G1l]; exact (Lt c hc).1)
    have cnv : ∀ {a : Nat}, sfP A a → ∀ j, G1 a j = G a j := fun {a} z j => r2 _ _ (by have := z.2; omega)
    obtain ⟨S', G', m', be, xr', cr', tp2, ac2, kx, t1, t2, t3, t4, t5, t6, t7, t8, t9, t10, t11, t12, t13, t14, t15, t16, t17⟩ := rd_made (f := f) (sl := sl) (kk := hr) (ln := 243 + 9 * hr) (nq := nq) (ed := l.2.1.2.2) (R := l.2.1.1 + l.2.1.2.1) (old := l.2.1.1) (tk := tk) (to := to) (lt := lt) (mps := mps) (C := fSh (xOf T (lMo l).2.2.1) s0 Mo) (X := xOf T (lMo l).2.2.1) (Y := xOf T (fun c => (l.2.2.2.1.2.2 c).toNat)) (X' := xOf T (kNx (lMo l).2.2.1 l.2.2.2.1.2.2 72)) (W := l.2.2.2.1.2.2) (mv := fun r => if l.2.1.1 < r ∧ r ≤ l.2.1.1 + l.2.1.2.1 + 1 then (hLg H' r).length else 0) (tl := fun r => if l.2.1.1 < r ∧ r ≤ l.2.1.1 + l.2.1.2.1 + 1 then (hCg H' r).length else 0) (tkn := fun r => if l.2.1.1 < r ∧ r ≤ l.2.1.1 + l.2.1.2.1 + 1 then (hEg H' r).length else 0) (by omega) a1 r3 c1 rfl a4 w1 w2 w13 (o3'.ge (Nat.le_refl _) (fun _ _ => rfl) (fun a j z1 z2 => r2 _ _ (by omega))) i1.2.2.1 (n3.ge2 (Nat.le_refl _) (fun _ _ => rfl) (fun a j hz => r2 _ _ (by
        rcases hz with ⟨z, _⟩ | z | ⟨p, hp, z1, z2⟩
        · omega
        · omega
        · have := (n3.2.2.2.2 p hp).2.1; omega))) n10 n11 n2 w5 w6 w7 w8 w10 (fun j hj => ⟨(w3.srt tbM j hj).1, (w3.srt tbM j hj).2.1⟩) htk01 (by rw [cnv n10, m3]; omega) (by have := hsO.2.2.1.2; omega) (q4.ge (Nat.le_refl _) (fun _ _ => rfl) (fun a j z1 z2 => r2 _ _ (by omega))) q5 q6 (by rw [cnv n10]; exact n4) (n5.lt n12.1 (fun c hc => by have := n15 c hc; omega) (fun _ _ => rfl) (fun c _ => cnv n12 c) (fun c hc z a j z1 z2 => r2 _ _ (by omega))) n12 n15 (by rw [cnv n10]; exact n6) n7 n13 (fSh_ok hX0 (fun p hp => (n2 p hp).2.2.1) (fun p hp => Nat.le_trans (n2 p hp).2.1 (by decide))) (fun x hx => by rw [cnv n13]; exact n8' x hx) (fun c hc => by
        rw [G1l]
        obtain ⟨_, z2, z3⟩ := Lt c hc
        refine ⟨z2, ?_⟩
        rcases z3 with z | ⟨z1, z2, e, z3, z4⟩
        · exact .inl z
        · exact .inr ⟨z1, z2, e, z3, z4.ge (fun _ _ _ => rfl) (fun a j y1 y2 => r2 _ _ (by omega))⟩) (fun c hc => by rw [G1l]; exact (Lt c hc).1) (fun c hc => xX_nx hc) (fun c hc => xX_ge hc) hXn (fun y hy => by rw [G1l, Lc y hy]; have := hsO.2.2.2.2.2.2.1 y hy; omega) (fun p hp => by rw [G1l, Lw p hp]; have := hsO.2.2.2.2.2.1 p hp; omega) (fun z0 z1 x hx => by
        have t0 : tk = 0 := by omega
        have es : s' = s0 := by
          rcases gs with y | y
          · exact y.2.2
          · omega
        subst es
        have : fSh (xOf T (lMo l).2.2.1) s' R' = fSh (xOf T (lMo l).2.2.1) s' Mo := fSh_v n1.2.2.1.1.2.1 (fun p hp => by
          rw [← w4 t0 p hp]
          refine Classical.byContradiction fun q => ?_
          have := (w10 p hp).mpr q
          rw [z0, Nat.zero_testBit] at this
          cases this) _
        rw [this]) (fun z x hx => fSh_no hX0 hx (z x hx)) (by rw [r2 _ _ (by omega)]; exact l1) (by rw [r2 _ _ (by omega)]; exact l2) (by omega) (by omega) (fun r z1 z2 => by
        obtain ⟨x1, x2, _⟩ := l3 r (by omega) z2
        obtain ⟨f4, f5, f6⟩ := l4 r z1 z2
        obtain ⟨sx, Mx, rpx, xrx, crx, tpx, acx, tox, _, _, x3, _, _, _, ⟨x4, _⟩, _⟩ := x2
        obtain ⟨v1, v2, v3⟩ := hn1 r (by omega)
        rw [if_pos ⟨z1, by omega⟩, if_pos ⟨z1, by omega⟩, if_pos ⟨z1, by omega⟩, cnv x4, cnv x4, cnv x4, G1l, v1, v2, v3]
        exact ⟨x1, x3.1, x4, f4, f5, f6⟩) hbd (by
        show (if _ then _ else _) = _
        rw [if_pos inR, u1', llen, ← hdf]) (by
        show (if _ then _ else _) = _
        rw [if_pos inR, tcl]) (by
        show (((if _ then _ else _) : Nat) : Int) = _
        rw [if_pos inR]
        exact u3')
    clear gt
    have t4' : ∀ a j, a < A → a < 83 ∨ 203 < a → ¬ (a = 64 ∧ (j = 12 ∨ j = 13)) → ¬ (216 ≤ a ∧ a ≤ 219) → ¬ (a = 243 + 9 * hr ∧ (j = 1 ∨ j = 2 ∨ j = 7 ∨ j = 8)) → ¬ (a = 243 + 9 * hr + 1 ∧ j = l.2.1.1 + l.2.1.2.1 + 1) → a ≠ 243 + 9 * hr + 2 → a ≠ 243 + 9 * hr + 3 → a ≠ 243 + 9 * hr + 7 → a ≠ 243 + 9 * hr + 8 → G' a j = G a j := fun a j y1 y2 y3 y4 y5 y6 y7 y8 y9 y10 => by rw [t4 a j y1 y3 y4 y5 y6 y7 y8 y9 y10, r2 a j y2]
    have gg : ∀ a j, a < A → a < 83 ∨ 203 < a → ¬ (a = 64 ∧ (j = 12 ∨ j = 13)) → ¬ (216 ≤ a ∧ a ≤ 219) → ¬ (243 + 9 * hr ≤ a ∧ a ≤ 243 + 9 * hr + 8) → G' a j = G a j := fun a j y1 y2 y3 y4 y5 => t4' a j y1 y2 y3 y4 (by omega) (by omega) (by omega) (by omega) (by omega) (by omega)
    have sf : xSf A G G' := fun a j y1 y2 => gg a j y1 (by omega) (by omega) (by omega) (by omega)
    have emv : (if l.2.1.1 < l.2.1.1 + l.2.1.2.1 + 1 ∧ l.2.1.1 + l.2.1.2.1 + 1 ≤ l.2.1.1 + l.2.1.2.1 + 1 then (hLg H' (l.2.1.1 + l.2.1.2.1 + 1)).length else 0) = (lgR ((l.2.1.1 + l.2.1.2.1 + 1 : Nat) : Int) F (lMo l).2.1).length := by rw [if_pos inR, u1']
    have etl : (if l.2.1.1 < l.2.1.1 + l.2.1.2.1 + 1 ∧ l.2.1.1 + l.2.1.2.1 + 1 ≤ l.2.1.1 + l.2.1.2.1 + 1 then (hCg H' (l.2.1.1 + l.2.1.2.1 + 1)).length else 0) = (cgN ((l.2.1.1 + l.2.1.2.1 + 1 : Nat) : Int) (lMo l).2.2.1 l.2.2.2.1.2.2 72).length := by rw [if_pos inR, u2']
    have fin : c173 f 64 (S, G, (A, sl)) = some (v, (S', G', m')) := by
      rw [e173, y1, g3, ← emv]
      exact t1
    -- what is forgotten
    have tm := tm_of (L := hCat (hLg H') l.2.1.1 (l.2.1.2.1 + 1)) (C := hCat (hCg H') l.2.1.1 (l.2.1.2.1 + 1)) (E := hCat (hEg H') l.2.1.1 (l.2.1.2.1 + 1)) (R := l.2.1.1 + l.2.1.2.1 + 1) (old := l.2.1.1) (by omega) (fun a ha => by have := (hCat_mem (hLg_r H') _ ha).2; omega) (fun a ha => by have := (hCat_mem (hCg_r H') _ ha).2; omega) (fun a ha => by have := (hCat_mem (hEg_r H') _ ha).2; omega) (fun r z1 z2 => by
      show (if _ then _ else _) = _
      rw [if_pos ⟨z1, z2⟩, lgC_cat (hLg_r H') z1 _ z2]) (fun r z1 z2 => by
      show (if _ then _ else _) = _
      rw [if_pos ⟨z1, z2⟩, lgC_cat (hCg_r H') z1 _ z2]) (fun r z1 z2 => by
      show (if _ then _ else _) = _
      rw [if_pos ⟨z1, z2⟩, lgC_cat (hEg_r H') z1 _ z2]) t14.2.1 t14.1 t14.2.2
    rw [← hH'] at g6
    have eb := tmIs_u g6 tm
    have hb1 := g6.1
    -- the moment that is made
    have hmoN : cMo T S' G' m'.1 P be (lnM l F) := by
      refine ⟨s', R', A, xr', cr', tp2, ac2, tN9 G1 (243 + 9 * hr) to lt, isN, okR8, t7, ⟨t11.1, t11.2.2⟩, ⟨t12.1, t12.2.2.1, t12.2.2.2⟩, gn, ⟨⟨t6.2, .inr (by omega)⟩, ⟨by omega, .inr (by omega)⟩, ?_, ?_⟩, t8, fun c hc => ?_⟩
      · rcases t11.2.1 with z | z
        · rw [z]; exact ⟨by have := n12.1; omega, n12.2⟩
        · exact ⟨z.2, .inr (by omega)⟩
      · rcases t12.2.1 with z | z
        · rw [z]; exact ⟨by have := n13.1; omega, n13.2⟩
        · exact ⟨z.2, .inr (by omega)⟩
      · unfold tN9
        by_cases z : G1 (243 + 9 * hr + 7) c = 0
        · rw [if_pos z]
          rcases n15 c hc with y | y
          · exact .inl y
          · exact .inr ⟨y.1, by omega⟩
        · rw [if_neg z]
          rcases (Lt c hc).2.2 with y | ⟨y1, y2, _⟩
          · exact .inl y.1
          · exact .inr ⟨y1, by omega⟩
    have htt : (((if l.2.2.2.1.2.1 = -1 then 0 else 1) : Nat) : Int) = tk := by
      by_cases z : l.2.2.2.1.2.1 = -1
      · rw [if_pos z]
        have : ¬ tk = 1 := fun y => (hfr.mpr y) z
        omega
      · rw [if_neg z, hfr.mp z]
        rfl
    have hro : cRo T S' G' m'.1 P (243 + 9 * hr) (lnH l F) b' k' (l.2.1.2.2 + (if l.2.2.2.1.2.1 = -1 then 0 else 1)) := by
      refine ro_new Lr t2.1 t3 sf (by omega) g5 t13.1 (by rw [t13.2.1, eb]) (fun j z1 z2 => t4' _ _ (by omega) (by omega) (by omega) (by omega) (by omega) (by omega) (by omega) (by omega) (by omega) (by omega)) t13.2.2 hmoN (by rw [t10.2.2.2]; omega) ?_ (by rw [t10.1, emv]; rfl) (by rw [t10.2.1, etl]; rfl) (by rw [t10.2.2.1, htt])
      show _ = if decide (l.2.2.2.1.2.1 ≠ -1) = true then 1 else 0
      by_cases z : l.2.2.2.1.2.1 = -1
      · rw [if_pos z, if_neg (by rw [z]; decide)]
      · rw [if_neg z, if_pos (decide_eq_true z)]
    have hC0 : (fun p => ∃ x, x ∈ lgR ((l.2.1.1 + l.2.1.2.1 + 1 : Nat) : Int) F (lMo l).2.1 ∧ ofP s' x.2.2 p) = fun p => p < s'.1.length ∧ ¬ vEq (R' p) (A0 p) := funext fun p => propext (chg_iff q3.1 i1.2.2.1 tbR tbM hFR i1.2.2.2.2.2.1 w3 p)
    have hfr' : (l.2.2.2.1.2.1 ≠ -1) = (tk = 1) := propext hfr
    have hfS : fSh (xOf T (kNx (lMo l).2.2.1 l.2.2.2.1.2.2 72)) s' M = fSh (xOf T (kNx (lMo l).2.2.1 l.2.2.2.1.2.2 72)) s' R' := fSh_v q3.1.1.2.1 (fun p hp => by rw [hMR p hp]) _
    rw [hC0] at g7' g8
    rw [hfS, hfr'] at g8
    have hln' : cLn T S' G' m'.1 P (243 + 9 * hr) ln' := by
      rw [g4]
      refine ⟨hro, ⟨fun p hp => ?_, fun c hc => ?_⟩, .inl ⟨rfl, t15.1⟩, ⟨s', ?_, cPn.nil t15.2.1⟩, cCt.nil t15.2.2, ?_, fun hne => ?_⟩
      · show G' (243 + 9 * hr + 2) p = wk' p
        rw [t16 p hp, G1l, Lw p hp]
        have e0 : (if tk = 0 then l.2.2.1.1 p else 0) = if l.2.2.2.1.2.1 = -1 then l.2.2.1.1 p else 0 := by
          by_cases z : l.2.2.2.1.2.1 = -1
          · rw [if_pos z, if_pos (by rcases htk01 with y | y; exact y; exact absurd z (hfr.mpr y))]
          · rw [if_neg z, if_neg (by rw [hfr.mp z]; decide)]
        rw [e0]
        rcases g7' p hp with ⟨z1, z2⟩ | ⟨z1, z2⟩
        · rw [z2, if_pos ((w12 p).mpr z1)]
        · rw [z2, if_neg (fun y => z1 ((w12 p).mp y)), Int.add_zero]
      · show G' (243 + 9 * hr + 3) c = cw' c
        have := t17 c hc
        rw [G1l, Lc c hc] at this
        rcases g8 c hc with ⟨z1, z2⟩ | ⟨z1, z2⟩
        · rw [z2]; exact this.1 z1
        · rw [z2]; exact this.2 z1
      · show qPr (T.getD (lnE (lnH l F, (b', k', _), (wk', cw', true), ([], -1, fun _ => -1), l.2.2.2.2)) []) = _
        have : lnE (lnH l F, (b', k', l.2.1.2.2 + (if l.2.2.2.1.2.1 = -1 then 0 else 1)), (wk', cw', true), ([], -1, fun _ => -1), l.2.2.2.2) = lnE l := by
          show (if (-1 : Int) = -1 then (lnH l F (b' + k')).1 else _) = _
          rw [if_pos rfl, g5]
          show (hAd l.1 (l.2.1.1 + l.2.1.2.1 + 1) (lnM l F) (l.2.1.1 + l.2.1.2.1 + 1)).1 = _
          rw [hAd_s]
          rfl
        rw [this]
        exact i2
      · rw [t4' _ _ (by omega) (by omega) (by omega) (by omega) (by omega) (by omega) (by omega) (by omega) (by omega) (by omega)]; exact L3
      · rw [t4' _ _ (by omega) (by omega) (by omega) (by omega) (by omega) (by omega) (by omega) (by omega) (by omega) (by omega)]; exact L4 hne
    rw [g0, if_pos rfl]
    refine ⟨S', G', m', fin, t2, t3, ⟨⟨fun k hk => by rw [t3 _ (by omega)]; exact a1 k hk, t5, a3.ge (fun a j z1 z2 => gg a j (by omega) (by omega) (by omega) (by omega) (by omega)), by omega⟩, ⟨P, b1.ge t2.1 t3 sf (by rw [gg _ _ (by omega) (by omega) (by omega) (by omega) (by omega)]; exact Int.le_refl _), fun y hy => ?_, ?_⟩, ⟨c1, by rw [gg _ _ (by omega) (by omega) (by omega) (by omega) (by omega)]; exact c2⟩, ⟨by rw [gg _ _ (by omega) (by omega) (by omega) (by omega) (by omega)]; exact c3, by rw [gg _ _ (by omega) (by omega) (by omega) (by omega) (by omega)]; omega⟩, by rw [gg _ _ (by omega) (by omega) (by omega) (by omega) (by omega)]; exact c5, by rw [gg _ _ (by omega) (by omega) (by omega) (by omega) (by omega)]; exact c6, c7.ge (gg _ _ (by omega) (by omega) (by omega) (by omega) (by omega)) (fun p => gg _ _ (by omega) (by omega) (by omega) (by omega) (by omega)), c8.ge (fun a z => t3 a (by omega)) (fun a j z1 z2 => gg a j (by omega) (by omega) (by omega) (by omega) (by omega)) ⟨gg _ _ (by omega) (by omega) (by omega) (by omega) (by omega), gg _ _ (by omega) (by omega) (by omega) (by omega) (by omega)⟩, c9.ge ⟨gg _ _ (by omega) (by omega) (by omega) (by omega) (by omega), gg _ _ (by omega) (by omega) (by omega) (by omega) (by omega)⟩ (fun j => gg _ _ (by omega) (by omega) (by omega) (by omega) (by omega))⟩⟩
    · unfold lUp
      by_cases d : y = hr
      · rw [if_pos d, d]; exact hln'
      · rw [if_neg d]
        exact (b2 y hy).ge t2.1 t3 sf (fun a j z1 z2 => gg a j (by omega) (by omega) (by omega) (by omega) (by omega))
    · unfold lUp
      rw [if_pos rfl, g4]
      refine ⟨fun z => absurd z (by show ¬ (true = false); decide), fun _ => ⟨_, be, t9.1, t9.2, ?_, ?_⟩⟩
      · have : lnH l F (b' + k' - 1) = lMo l := by
          rw [g5, Nat.add_sub_cancel]
          exact hAd_n (by omega)
        show cMo T S' G' m'.1 P _ (lnH l F (b' + k' - 1))
        rw [this]
        exact m2.ge t2.1 t3 sf
      · show cMo T S' G' m'.1 P be (lnH l F (b' + k'))
        have : lnH l F (b' + k') = lnM l F := by
          rw [g5]
          exact hAd_s
        rw [this]
        exact hmoN
end
end
section
/-! THE CLASS: ask() -/
section
variable {f u q mp rp nx an sp : Nat} {S : Nat → Nat × Nat × Nat} {G : xG_} {m : Nat × Nat} {s : pPg} {xr cr : Nat → Nat} {M : Nat → List pRw} {V : List (Int × Nat)} {Ls : List pLt}
theorem st_179 {G2 : xG_} (hs : cSs S) (hp : cPs G) (h11 : G 64 11 = (sp : Int)) (hsp : sp = 221 ∨ sp = 224) (su : S u = (1, 6, 20)) (h6 : G u 6 = (V.length : Int)) (hu : 278 < u) (sm : S mp = (1, 2, 8)) (h1 : G mp 1 = (rp : Int)) (hmp : mp < 216 ∨ 227 < mp) (e : c130 f 83 u rp 0 (S, xup2 (xup2 G sp 0 (V.length : Int)) sp 1 0, m) = some (S, G2, m)) : c179 f 64 u mp (S, G, m) = c179_29 f f 64 sp 0 (S, G2, m) := by
  have ssp : S sp = (1, 5, 4) := by
    rcases hsp with rfl | rfl
    · exact s221 hs
    · exact s224 hs
  have z : ∀ a j, a ≠ sp → xup2 (xup2 G sp 0 (V.length : Int)) sp 1 0 a j = G a j := fun a j y => by rw [xup2_n (by omega), xup2_n (by omega)]
  have i1 : cq_is 5 4 sp (S, G, m) = some () := if_pos ssp
  have i2 : cq_is 9 14 83 (S, xup2 (xup2 G sp 0 (V.length : Int)) sp 1 0, m) = some () := if_pos (s83 hs)
  unfold c179
  rw [o_gr (s64 hs) h11, Option.bind_some, o_gi su, Option.bind_some, h6, i1, Option.bind_some, k_69 ssp, Option.bind_some, o_gr (y := 83) (s64 hs) (by rw [z _ _ (by omega)]; exact p64_2 hp), Option.bind_some, o_gr sm (by rw [z _ _ (by omega)]; exact h1), Option.bind_some, i2, Option.bind_some, e, Option.bind_some]
/-- ask() -/
theorem k_179 (hf : 100003010 < f) (hs : cSs S) (hp : cPs G) (han : an = 221 ∧ sp = 224 ∨ an = 224 ∧ sp = 221) (h10 : G 64 10 = (an : Int)) (h11 : G 64 11 = (sp : Int)) (hR : cRul S G u V (0, -1, -1) [] Ls) (hu : 278 < u) (hM : cMr S G nx mp q rp s xr cr M) (hMo : okM8 s M) (hmp : 227 < mp) (hrp : 227 < rp) (hxr : ∀ p, p < s.1.length → xr p + 2 < 216 ∨ 226 < xr p) (hn16 : s.1.length ≤ 16) (hw : ∀ y ∈ Ls, wLt s.1.length V.length y ∧ (y.1 ≠ 3 → 0 ≤ y.2.1 ∧ y.2.2.2.1.length = qN s y.2.1.toNat)) (hd : dLs Ls) (hat : pAtoms Ls ≤ 3) (hsf : sfe Ls V.length) :
    ∃ v G', c179 f 64 u mp (S, G, m) = some (v, (S, G', m)) ∧ cPs G' ∧ (∀ a j, ¬ (83 ≤ a ∧ a ≤ 92) → ¬ (sp ≤ a ∧ a ≤ sp + 2) → ¬ (a = 64 ∧ (j = 10 ∨ j = 11)) → G' a j = G a j) ∧
      ((v = -6000 ∧ G' 64 10 = (an : Int) ∧ G' 64 11 = (sp : Int) ∧ ∃ W : List (List Int), W.Nodup ∧ 500 < W.length ∧ ∀ x ∈ W, isW Ls V.length M qO1 x) ∨
       ∃ Q : List (List Int), Q.length ≤ 500 ∧ Q.Pairwise vLe ∧ isAll Ls V.length M qO1 Q ∧ v = (Q.length : Int) ∧ (Q.length = 0 ∧ G' 64 10 = (an : Int) ∧ G' 64 11 = (sp : Int) ∨ 0 < Q.length ∧ G' 64 10 = (sp : Int) ∧ G' 64 11 = (an : Int) ∧ cRw S G' sp V.length 500 (Q.map (fun x => (x, 0))))) := by
  obtain ⟨K, r1, r2, ⟨pl, p1, p2, p3⟩, r4, r5, r6⟩ := hR
  obtain ⟨hnd, bb, hpB⟩ := p3 hsf
  have hsp : sp = 221 ∨ sp = 224 := by omega
  have sS : S sp = (1, 5, 4) ∧ S (sp + 1) = (2, 4, 4000) ∧ S (sp + 2) = (2, 3, 500) := by
    rcases hsp with rfl | rfl
    · exact ⟨s221 hs, s222 hs, s223 hs⟩
    · exact ⟨s224 hs, s225 hs, s226 hs⟩
  have sP : G sp 2 = ((sp + 1 : Nat) : Int) ∧ G sp 3 = ((sp + 2 : Nat) : Int) := by
    rcases hsp with rfl | rfl
    · exact ⟨hp (221, 2, 222) (by decide), hp (221, 3, 223) (by decide)⟩
    · exact ⟨hp (224, 2, 225) (by decide), hp (224, 3, 226) (by decide)⟩
  obtain ⟨G1, hG1⟩ : ∃ G1, G1 = xup2 (xup2 G sp 0 (V.length : Int)) sp 1 0 := ⟨_, rfl⟩
  have z1 : ∀ a j, ¬ (a = sp ∧ j ≤ 1) → G1 a j = G a j := fun a j y => by rw [hG1, xup2_n (by omega), xup2_n (by omega)]
  have p1' : cPs G1 := hp.ge (fun a j hz => z1 a j (by
      rcases hz with z | z | z | z | z | z | z | ⟨z, z1, z2, k, z3⟩ | z | z | z | ⟨k, z1, z2, z3⟩ <;> omega))
  obtain ⟨G2, e1, e2, e3, e4, e5, e6, e7, e8, e9, e10, e11⟩ := k_130 (u := u) (fa := rp) (m := m) (G := G1) (f := f) (br := 0) (by omega) hs p1' (.inl rfl)
  have st := st_179 (f := f) (m := m) hs hp h11 hsp r1.1.1 r4 hu hM.1 hM.2.2.1 (by omega) (by rw [← hG1]; exact e1)
  have z2 : ∀ a j, ¬ (83 ≤ a ∧ a ≤ 92) → ¬ (a = sp ∧ j ≤ 1) → G2 a j = G a j := fun a j y1 y2 => by rw [e2 a j (by omega) (by omega) (by omega) (by omega), z1 a j y2]
  have hr1 : cRq S G2 u K Ls := r1.fx (fun a j y => z2 a j (by omega) (by omega))
  have hE : cWE S G2 u K Ls pl rp s.1.length s.1.length V.length (qAs (0, -1, -1) []) 0 (qN s) xr cr M (fun _ => 0) (fun _ => 1700) := by
    refine ⟨⟨hs, e3, e4, e5, e6, hM.2.2.2.1, by omega, Nat.le_refl _⟩, hr1, ⟨r5, hw, hd⟩, ⟨p1, fun k hk => ?_⟩, fun p hp' => ?_, fun l hl => ⟨e10 l hl, e11 l hl⟩⟩
    · obtain ⟨w1, w2, w3⟩ := p2 k hk
      refine ⟨by rw [z2 _ _ (by omega) (by omega)]; exact w1, w2, by rw [z2 _ _ (by omega) (by omega)]; exact w3, plA_8 (nv := V.length) (by decide +kernel) (fun y hy => (hw y hy).1.lv) r5 _ (fun x hx => ?_)⟩
      obtain ⟨i, hi, ei⟩ := List.getElem_of_mem (List.mem_of_mem_drop hx)
      have := (p2 i (by omega)).2.1
      rw [getD_e hi, ei] at this
      exact this
    · obtain ⟨w1, w2, w3⟩ := hM.2.2.2.2 p hp'
      have w4 := hxr p hp'
      obtain ⟨v1, v2, v3, _⟩ := hMo p hp'
      exact ⟨by rw [z2 _ _ (by omega) (by omega)]; exact w1, by omega, w3.ge (fun _ _ _ => rfl) (fun j => z2 _ _ (by omega) (by omega)) (fun j => z2 _ _ (by omega) (by omega)) (fun j => z2 _ _ (by omega) (by omega)), v1, v2, v3⟩
  obtain ⟨W, k, Bf, w1, w2, w3, w4, w5, w6, _⟩ := ways_start hE e7 e8 (b := 0) (vl := fun _ => 0) ⟨e9, by decide, fun k hk => by rw [Nat.zero_testBit] at hk; cases hk⟩ hat hsf hnd hpB
  obtain ⟨w7, w8⟩ := w6 rfl
  have hall : isAll Ls V.length M qO1 (W.map (vec V.length)) := all_of (np := s.1.length) (lo := fun _ => 0) (hi := fun _ => 1700) (fun y hy => (hw y hy).1) w4 (ways_bits hE e7 e8 e9 w3) (fun l hl h3 r hr => by
    have hy := (hw _ (lt_in hl))
    have h0 := hy.1
    have hlt : (Ls.getD l dLt).2.1.toNat < s.1.length := by
      have h5 := (hy.2 h3).1
      rcases h0 with ⟨_, _, h6, _⟩ | ⟨h6, _⟩
      · omega
      · exact absurd h6 h3
    exact (hMo _ hlt).2.2.2 r hr) (fun v hv => (w5 v hv).2) w7 (fun w hw' => w8 w (fun j hj => by rw [Nat.zero_testBit] at hj; cases hj) hw')
  have hF0 : cRw S G2 sp V.length 500 [] := by
    refine ⟨sS.1, ⟨4000, sS.2.1, by omega, by decide⟩, sS.2.2, ⟨?_, ?_, by rw [z2 _ _ (by omega) (by omega)]; exact sP.1, by rw [z2 _ _ (by omega) (by omega)]; exact sP.2⟩, Nat.zero_le _, by decide, r5, fun i hi => absurd hi (Nat.not_lt_zero i)⟩
    · rw [e2 _ _ (by omega) (by omega) (by omega) (by omega), hG1, xup2_n (by omega), xup2_s]
    · rw [e2 _ _ (by omega) (by omega) (by omega) (by omega), hG1, xup2_s]; rfl
  obtain ⟨G3, g1, g2, g3⟩ := k_179l (f := f) (m := m) (x := sp) hf hsp (fun p hp' => by have := hxr p hp'; omega) (by omega) r5 w4 W k 0 f G2 [] hE w3 w1 (by omega) (by omega) hF0 List.Pairwise.nil (fun r hr => by cases hr)
  have z3 : ∀ a j, ¬ (83 ≤ a ∧ a ≤ 92) → ¬ (sp ≤ a ∧ a ≤ sp + 2) → G3 a j = G a j := fun a j y1 y2 => by rw [g1 a j y1 y2, z2 a j y1 (by omega)]
  have c10 : G3 64 10 = (an : Int) := by rw [z3 _ _ (by omega) (by omega)]; exact h10
  have c11 : G3 64 11 = (sp : Int) := by rw [z3 _ _ (by omega) (by omega)]; exact h11
  rcases g3 with ⟨F, f1, f2, f3, f4, f5⟩ | ⟨f1, Z, f2, f3, f4⟩
  · have hQ : isAll Ls V.length M qO1 (F.map (·.1)) := by
      refine ⟨?_, fun v => ?_⟩
      · rw [List.nodup_iff_pairwise_ne, List.pairwise_map]
        exact f3.imp (fun {a b} h => (fun e : a.1 = b.1 => vLt_irr b.1 (by have h' : vLt a.1 b.1 := h; rw [e] at h'; exact h')))
      · rw [← hall.2 v, List.mem_map, List.mem_map]
        have := f5 v
        constructor
        · rintro ⟨r, r1, r2⟩
          rcases this.mp ⟨r, r1, r2⟩ with ⟨_, z, _⟩ | z
          · cases z
          · exact z
        · intro z
          obtain ⟨r, r1, r2⟩ := this.mpr (.inr z)
          exact ⟨r, r1, r2⟩
    have hFm : (F.map (·.1)).map (fun x => ((x, 0) : pRw)) = F := by
      rw [List.map_map]
      conv => rhs; rw [← List.map_id F]
      exact List.map_congr_left (fun r hr => Prod.ext rfl (f4 r hr).symm)
    have hlen : (F.map (·.1)).length = F.length := List.length_map _
    have hpw : (F.map (·.1)).Pairwise vLe := by
      rw [List.pairwise_map]
      have hlf : ∀ r ∈ F, r.1.length = V.length := fun r hr => by
        obtain ⟨i, hi, ei⟩ := List.getElem_of_mem hr
        have := (f2.2.2.2.2.2.2.2 i hi).1
        rw [getD_e hi, ei] at this
        exact this
      exact f3.imp_of_mem (fun {a b} ha hb h => Int.le_of_lt ((vLt_iff ((hlf a ha).trans (hlf b hb).symm)).mp h))
    have g1F : cq_gi 5 1 4 sp (S, G3, m) = some (F.length : Int) := by rw [o_gi sS.1, f2.2.2.2.1.2.1]
    by_cases c : F.length = 0
    · refine ⟨(F.length : Int), G3, ?_, g2, fun a j y1 y2 _ => z3 a j y1 y2, .inr ⟨F.map (·.1), by omega, hpw, hQ, by rw [hlen], .inl ⟨by omega, c10, c11⟩⟩⟩
      rw [st]
      have f1' : c179_29 f f 64 sp 0 (S, G2, m) = c179_101 f 64 sp (S, G3, m) := f1
      rw [f1']
      unfold c179_101 c179_121
      rw [g1F, Option.bind_some, if_pos (by omega), Option.bind_some]
    · have hle := f2.2.2.2.2.1
      have zz : ∀ a j, ¬ (a = 64 ∧ (j = 10 ∨ j = 11)) → xup2 (xup2 G3 64 11 (an : Int)) 64 10 (sp : Int) a j = G3 a j := fun a j y => by rw [xup2_n (by omega), xup2_n (by omega)]
      refine ⟨(F.length : Int), xup2 (xup2 G3 64 11 (an : Int)) 64 10 (sp : Int), ?_, g2.ge (fun a j hz => zz a j (by
        rcases hz with z | z | z | z | z | z | z | ⟨z, z1, z2, k, z3⟩ | z | z | z | ⟨k, z1, z2, z3⟩ <;> omega)), fun a j y1 y2 y3 => by rw [zz a j y3, z3 a j y1 y2], .inr ⟨F.map (·.1), by omega, hpw, hQ, by rw [hlen], .inr ⟨by omega, xup2_s _ _ _ _, by rw [xup2_n (by omega), xup2_s], ?_⟩⟩⟩
      · rw [st]
        have f1' : c179_29 f f 64 sp 0 (S, G2, m) = c179_101 f 64 sp (S, G3, m) := f1
        rw [f1']
        unfold c179_101 c179_121
        rw [g1F, Option.bind_some, if_neg (by omega), o_gr (s64 hs) c10, Option.bind_some, o_pr (s64 hs), Option.bind_some, o_pr (s64 hs), Option.bind_some, o_gi sS.1, Option.bind_some, zz _ _ (by omega), f2.2.2.2.1.2.1]
      · rw [hFm]
        exact f2.ge (fun _ _ _ => rfl) (fun j => zz _ _ (by omega)) (fun j => zz _ _ (by omega)) (fun j => zz _ _ (by omega))
  · refine ⟨-6000, G3, st.trans f1, g2, fun a j y1 y2 _ => z3 a j y1 y2, .inl ⟨rfl, c10, c11, Z, f2, f3, fun x hx => ?_⟩⟩
    rcases f4 x hx with ⟨_, z, _⟩ | ⟨v, v1, v2⟩
    · cases z
    · exact (hall.2 x).mp (List.mem_map.mpr ⟨v, v1, v2⟩)
end
end
section
/-! THE CLASS: query() in the house -/
theorem all_u {Ls : List pLt} {nv : Nat} {M : Nat → List pRw} {Q Q' : List (List Int)} (h : isAll Ls nv M qO1 Q) (h' : isAll Ls nv M qO1 Q') (hs : Q.Pairwise vLe) (hs' : Q'.Pairwise vLe) : Q = Q' := by
  have up : ∀ {Q : List (List Int)}, isAll Ls nv M qO1 Q → Q.Pairwise vLe → Q.Pairwise vLt := fun {Q} h hs => by
    have nd := List.nodup_iff_pairwise_ne.mp h.1
    refine (hs.and nd).imp_of_mem (fun {a b} ha hb z => ?_)
    have l1 := ((h.2 a).mp ha).1
    have l2 := ((h.2 b).mp hb).1
    refine (vLt_iff (l1.trans l2.symm)).mpr ?_
    have z1 : vCmp a b ≤ 0 := z.1
    have z2 : vCmp a b ≠ 0 := fun e => z.2 (vCmp_eq (l1.trans l2.symm) e)
    omega
  exact srt_ext (lt := vLt) vLt_irr (fun a b c => vLt_tr) _ _ (up h hs) (up h' hs') (fun y => by rw [h.2 y, h'.2 y])
section
variable {f A hr n sl q mp : Nat} {S : Nat → Nat × Nat × Nat} {G G1 G2 : xG_} {m : Nat × Nat} {T : List (List Int)} {P : Nat → Nat} {lns : Nat → sLn} {tx : List Int} {kp kp' : Nat × List (List Int)} {mt : Int × List Int} {pl rf : Int} {s : pPg} {M : Nat → List pRw}
theorem st_qu0 (hs : cSs S) (hp : cPs G) (h6 : G 64 6 = (hr : Int)) (hr4 : hr < 4) (h5 : ∀ G', (∀ a j, ¬ (a = 64 ∧ j = 9) → G' a j = G a j) → c5 f (243 + 9 * hr) (S, G', m) = some (mp, (S, G', m))) (sm : S mp = (1, 2, 8)) (hp1 : cPs G1) (e1 : c112 f 65 (S, xup2 G 64 9 (-1), m) = some (S, G1, m)) (h0 : G1 mp 0 = (q : Int)) : c1003 f 64 (S, G, m) = ((c31 f 72 q (S, G1, m)).bind fun R170 => chd R170 0 (c1003_44 f 64 mp 0 R170.2) (fun _ => c1003_44 f 64 mp 1 R170.2)) := by
  have z : ∀ a j, ¬ (a = 64 ∧ j = 9) → xup2 G 64 9 (-1) a j = G a j := fun a j y => xup2_n y
  have ls := lnSt_of hs hr4
  have i1 : cq_is 1 14 (243 + 9 * hr) (S, xup2 G 64 9 (-1), m) = some () := if_pos ls.1
  have g5 : cq_gr 11 5 17 64 (S, xup2 G 64 9 (-1), m) = some 220 := o_gr (y := 220) (s64 hs) (by rw [z _ _ (by omega)]; exact p64_5 hp)
  have g6 : cq_gi 11 6 17 64 (S, xup2 G 64 9 (-1), m) = some (hr : Int) := by rw [o_gi (s64 hs), z _ _ (by omega), h6]
  have ga : cq_ar 220 (hr : Int) (S, xup2 G 64 9 (-1), m) = some (243 + 9 * hr) := o_ar (s220 hs) (by decide) hr4 (by rw [z _ _ (by omega)]; exact p_ln hp hr4)
  have g0 : cq_gr 11 0 17 64 (S, xup2 G 64 9 (-1), m) = some 65 := o_gr (y := 65) (s64 hs) (by rw [z _ _ (by omega)]; exact p64_0 hp)
  have i2 : cq_is 8 8 65 (S, xup2 G 64 9 (-1), m) = some () := if_pos (s65 hs)
  have i3 : cq_is 4 20 72 (S, G1, m) = some () := if_pos (s72 hs)
  unfold c1003
  rw [o_p (s64 hs), Option.bind_some, g5, Option.bind_some, g6, Option.bind_some, ga, Option.bind_some, i1, Option.bind_some, h5 _ z, Option.bind_some, g0, Option.bind_some, i2, Option.bind_some, e1, Option.bind_some, o_gr (y := 72) (s64 hs) (p64_1 hp1), Option.bind_some, o_gr sm h0, Option.bind_some, i3, Option.bind_some]
theorem st_qu2 {w : Int} (hs : cSs S) (hp : cPs G) (h2 : G 72 2 = w) : c1003_44 f 64 mp 0 (S, G, m) = some (xwr (-1 - w), (S, xup2 G 65 1 0, m)) := by
  have z : ∀ a j, ¬ (a = 65 ∧ j = 1) → xup2 G 65 1 0 a j = G a j := fun a j y => xup2_n y
  unfold c1003_44
  rw [o_gr (y := 65) (s64 hs) (p64_0 hp), Option.bind_some, o_p (s65 hs), Option.bind_some, if_neg (fun z => z rfl), o_gr (y := 72) (s64 hs) (by rw [z _ _ (by omega)]; exact p64_1 hp), Option.bind_some, o_gi (s72 hs), Option.bind_some, z _ _ (by omega), h2]
theorem st_qu3 {k : Int} {u : Nat} (hs : cSs S) (hp : cPs G) (hp2 : cPs G2) (e63 : c63 f 72 (S, xup2 G 65 1 0, m) = some (k, (S, G2, m))) (h5 : G2 72 5 = (u : Int)) : c1003_44 f 64 mp 1 (S, G, m) = if k = 0 then (c179 f 64 u mp (S, G2, m)).bind (fun R => some (R.1, R.2)) else some (xwr (-5000 - k), (S, xup2 G2 64 9 (G2 72 2), m)) := by
  have z : ∀ a j, ¬ (a = 65 ∧ j = 1) → xup2 G 65 1 0 a j = G a j := fun a j y => xup2_n y
  have i2 : cq_is 4 20 72 (S, xup2 G 65 1 0, m) = some () := if_pos (s72 hs)
  have i4 : cq_is 11 17 64 (S, G2, m) = some () := if_pos (s64 hs)
  have g72 : cq_gr 11 1 17 64 (S, G2, m) = some 72 := o_gr (y := 72) (s64 hs) (p64_1 hp2)
  unfold c1003_44
  rw [o_gr (y := 65) (s64 hs) (p64_0 hp), Option.bind_some, o_p (s65 hs), Option.bind_some, if_pos (by decide), o_gr (y := 72) (s64 hs) (by rw [z _ _ (by omega)]; exact p64_1 hp), Option.bind_some, i2, Option.bind_some, e63, Option.bind_some]
  by_cases c : k = 0
  · rw [if_pos c, if_pos c, g72, Option.bind_some, o_gr (s72 hs) h5, Option.bind_some, i4, Option.bind_some]
  · rw [if_neg c, if_neg c, g72, Option.bind_some, o_gi (s72 hs), Option.bind_some, o_p (s64 hs), Option.bind_some]
/-- query() -/
theorem k_qu {v pl' : Int} (hf : 100003010 < f) (h : cHs S G A (T, lns, hr, tx, kp, mt, pl, rf) n) (hb : (lns hr).2.1.1 + (lns hr).2.1.2.1 < 520) (im : isMo T (lMo (lns hr)) s M) (hst : stQu s M kp tx v pl' kp') : ∃ S' G' m', c1003 f 64 (S, G, (A, sl)) = some (v, (S', G', m')) ∧ (A ≤ m'.1 ∧ m'.1 ≤ A + 14 ∧ m'.2 ≤ sl + 6200) ∧ (∀ a, a < A → S' a = S a) ∧ cHs S' G' m'.1 (T, lns, hr, [], kp', mt, pl', rf) (n + 1) := by
  obtain ⟨⟨a1, a2, a3, a4⟩, ⟨P, d1, d2, d3⟩, ⟨c1, c2⟩, ⟨c3, c4⟩, c5', c6', c7', ⟨an, sp, k1, k2, k3, k4⟩, c9'⟩ := h
  obtain ⟨⟨⟨l1, l2⟩, mps, l3, l4⟩, _⟩ := id (d2 hr c1)
  obtain ⟨m1, m2, m3⟩ := l3 _ (Nat.le_add_right _ _) (Nat.le_refl _)
  clear m3
  obtain ⟨rp, xr, cr, nq, r1', r2', r3, r4, r5, r6', r7, r8, r9⟩ := m2.pm d1 im
  obtain ⟨q, hqe⟩ : ∃ q, q = P (lMo (lns hr)).1 := ⟨_, rfl⟩
  have r1 : cMr S G A (mps ((lns hr).2.1.1 + (lns hr).2.1.2.1)) q rp s xr cr M := by rw [hqe]; exact r1'
  have r2 : cPgm S G q nq s := by rw [hqe]; exact r2'
  have r6 : q = 229 ∧ nq ≤ 243 ∨ 555 < q := by rw [hqe]; exact r6'
  clear r1' r2' r6' hqe
  have r10 : 82 < q := by omega
  have ls := lnSt_of a1 c1
  have lp := lnPt_of a2 c1
  have smp := r7.2
  have smr := r8.2
  obtain ⟨G0, hG0⟩ : ∃ G0, G0 = xup2 G 64 9 (-1) := ⟨_, rfl⟩
  have z0 : ∀ a j, ¬ (a = 64 ∧ j = 9) → G0 a j = G a j := fun a j y => by rw [hG0]; exact xup2_n y
  have p0 : cPs G0 := a2.ge (fun a j hz => z0 a j (by
      rcases hz with z | z | z | z | z | z | z | ⟨z, z1, z2, k, z3⟩ | z | z | z | ⟨k, z1, z2, z3⟩ <;> omega))
  have t0 : cTx G0 (tBt tx) tx.length := c7'.ge (z0 _ _ (by omega)) (fun p => z0 _ _ (by omega))
  obtain ⟨G1, N, f1, f2, f3⟩ := k_112 (m := (A, sl)) a1 p0 t0 (f := f) (by omega)
  have p1 : cPs G1 := p0.tape (fun a j y1 y2 => f3 a j (by omega) (by omega))
  have t1 : cTx G1 (tBt tx) tx.length := t0.ge (f3 _ _ (by omega) (by omega)) (fun p => f3 _ _ (by omega) (by omega))
  have ev := cEv_of a1 p1 t1 f2
  have z1 : ∀ a j, ¬ (a = 64 ∧ j = 9) → ¬ (65 ≤ a ∧ a ≤ 71) → G1 a j = G a j := fun a j y1 y2 => by rw [f3 a j (by omega) (by omega), z0 a j y1]
  have e2 := st_qu0 (f := f) (m := (A, sl)) (mp := mps ((lns hr).2.1.1 + (lns hr).2.1.2.1)) (q := q) a1 a2 c2 c1 (fun G' hz => k_5 ls (lnPt_of' lp (fun j => hz _ _ (by omega))) (by rw [hz _ _ (by omega)]; exact l1) hb (by rw [hz _ _ (by omega)]; exact m1)) r1.1 p1 (by rw [← hG0]; exact f1) (by rw [z1 _ _ (by omega) (by omega)]; exact r1.2.1)
  have hN : N ≤ tx.length := f2.1
  have hq10 := r2.2.2.2.2.2.2.2.2
  have key := k_31 (f := f) (sl := sl) (q := q) (u := A) (F := 4 * (tx.length + 1) + 4) (L := s.1) (by omega) (tOk_of false t1.2.2.1) (vIn_t t1.2.2.1) (by omega) ev (by omega) (by omega) (by omega) r2.1 (r2.2.1.ge (fun j _ _ _ => z1 _ _ (by omega) (by omega))) (r2.2.2.1.ge (z1 _ _ (by omega) (by omega)) (fun j => z1 _ _ (by omega) (by omega)))
  -- what else stands
  have rest : ∀ (S' : Nat → Nat × Nat × Nat) (G' : xG_) (A' : Nat) (pl' : Int) (kp' : Nat × List (List Int)), A ≤ A' → (∀ a, a < A → S' a = S a) → cPs G' → G' 65 1 = 0 → G' 64 9 = pl' → cKp S' G' kp' → (∀ a j, a < A → ¬ (a = 64 ∧ 9 ≤ j ∧ j ≤ 11) → ¬ (65 ≤ a ∧ a ≤ 92) → ¬ (221 ≤ a ∧ a ≤ 226) → G' a j = G a j) → cHs S' G' A' (T, lns, hr, [], kp', mt, pl', rf) (n + 1) := fun S' G' A' pl' kp' hA hS hp' h65 h9 hk g => by
    have sf : xSf A G G' := fun a j y1 y2 => g a j y1 (by omega) (by omega) (by omega)
    exact ⟨⟨fun k hk => by rw [hS _ (by omega)]; exact a1 k hk, hp', a3.ge (fun a j y1 y2 => g a j (by omega) (by omega) (by omega) (by omega)), by omega⟩, ⟨P, d1.ge hA hS sf (by rw [g _ _ (by omega) (by omega) (by omega) (by omega)]; exact Int.le_refl _), fun y hy => (d2 y hy).ge hA hS sf (fun a j y1 y2 => g a j (by omega) (by omega) (by omega) (by omega)), d3.ge hA hS sf ⟨g _ _ (by omega) (by omega) (by omega) (by omega), g _ _ (by omega) (by omega) (by omega) (by omega)⟩⟩, ⟨c1, by rw [g _ _ (by omega) (by omega) (by omega) (by omega)]; exact c2⟩, ⟨by rw [g _ _ (by omega) (by omega) (by omega) (by omega)]; exact c3, by rw [g _ _ (by omega) (by omega) (by omega) (by omega)]; omega⟩, by rw [g _ _ (by omega) (by omega) (by omega) (by omega)]; exact c5', h9, cTx.nil h65, hk, c9'.ge ⟨g _ _ (by omega) (by omega) (by omega) (by omega), g _ _ (by omega) (by omega) (by omega) (by omega)⟩ (fun j => g _ _ (by omega) (by omega) (by omega) (by omega))⟩
  have keep : ∀ (S' : Nat → Nat × Nat × Nat) (G' : xG_), (∀ a, a < A → S' a = S a) → G' 64 10 = (an : Int) → G' 64 11 = (sp : Int) → (∀ a j, an ≤ a → a ≤ an + 2 → G' a j = G a j) → cKp S' G' kp := fun S' G' hS h10 h11 g => ⟨an, sp, k1, h10, h11, k4.ge (fun a y1 y2 => hS a (by omega)) (fun j => g _ _ (by omega) (by omega)) (fun j => g _ _ (by omega) (by omega)) (fun j => g _ _ (by omega) (by omega))⟩
  unfold stQu at hst
  cases hX : qQu tx s.1 with
  | inl x =>
    rw [hX] at hst
    have hX' : pQuery (tstr (tBt tx) tx.length false) (4 * (tx.length + 1) + 4) s.1 = .inl x := hX
    rw [hX'] at key
    obtain ⟨g1, g2, g3⟩ := hst
    obtain ⟨S2, G2, ⟨u2, v2⟩, e31, q1, q2, q3, q4⟩ := key
    obtain ⟨S3, G3, q5, q6, q7⟩ := cWr_ex S2 G2 (u2, v2) (x : Int)
    rw [e31, Option.bind_some, q5] at e2
    have q3' : u2 = A + 11 := q3
    have q4' : v2 = sl + 172 := q4
    subst q3' q4'
    have fr : ∀ a j, a < A → ¬ (a = 64 ∧ j = 9) → ¬ (65 ≤ a ∧ a ≤ 82) → G3 a j = G a j := fun a j y1 y2 y3 => by
      rw [q7 a j (by show a < A + 11; omega), xup2_n (by omega), q2 a j y1 (by omega) (by omega), z1 a j y2 (by omega)]
    have s3 : ∀ a, a < A → S3 a = S a := fun a y => by rw [q6 a (by show a < A + 11; omega), q1 a y]
    have hs3 : cSs S3 := fun k hk => by rw [s3 _ (by omega)]; exact a1 k hk
    have g9 : G3 64 9 = -1 := by
      rw [q7 _ _ (by show 64 < A + 11; omega), xup2_n (by omega), q2 _ _ (by omega) (by omega) (by omega), f3 _ _ (by omega) (by omega), hG0, xup2_s]
    have p3 : cPs G3 := p1.ge (fun a j hz => by
      have hb : a < A ∧ ¬ (a = 72 ∧ (1 ≤ j ∧ j ≤ 6 ∨ j = 9 ∨ j = 12 ∨ j = 14)) ∧ ¬ (73 ≤ a ∧ a ≤ 82) := by
        rcases hz with z | z | z | z | z | z | z | ⟨z, z1, z2, k, z3⟩ | z | z | z | ⟨k, z1, z2, z3⟩ <;> omega
      rw [q7 a j (by show a < A + 11; omega), xup2_n (by omega), q2 a j hb.1 hb.2.1 hb.2.2])
    have st := st_qu2 (f := f) (mp := mps ((lns hr).2.1.1 + (lns hr).2.1.2.1)) (m := (A + 11 + 1, sl + 172 + 6)) hs3 p3 (by rw [q7 _ _ (by show 72 < A + 11; omega), xup2_s])
    have e2' : c1003 f 64 (S, G, (A, sl)) = c1003_44 f 64 (mps ((lns hr).2.1.1 + (lns hr).2.1.2.1)) 0 (S3, G3, (A + 11 + 1, sl + 172 + 6)) := e2
    rw [g1, g2, g3]
    refine ⟨S3, xup2 G3 65 1 0, (A + 11 + 1, sl + 172 + 6), e2'.trans st, ⟨by show A ≤ A + 11 + 1; omega, by show A + 11 + 1 ≤ A + 14; omega, by show sl + 172 + 6 ≤ sl + 6200; omega⟩, s3, rest _ _ _ _ _ (by show A ≤ A + 11 + 1; omega) s3 (p3.tape (fun a j y1 y2 => xup2_n (by omega))) (xup2_s _ _ _ _) (by rw [xup2_n (by omega)]; exact g9) (keep _ _ s3 (by rw [xup2_n (by omega), fr _ _ (by omega) (by omega) (by omega)]; exact k2) (by rw [xup2_n (by omega), fr _ _ (by omega) (by omega) (by omega)]; exact k3) (fun a j y1 y2 => by rw [xup2_n (by omega), fr _ _ (by omega) (by omega) (by omega)])) (fun a j y1 y2 y3 _ => by rw [xup2_n (by omega)]; exact fr a j y1 (by omega) (by omega))⟩
  | inr r =>
    rw [hX] at hst
    have hX' : pQuery (tstr (tBt tx) tx.length false) (4 * (tx.length + 1) + 4) s.1 = .inr r := hX
    rw [hX'] at key
    obtain ⟨S2, G2, sl2, e31, q1, q2, q3, q4, q5, q6, q7, q8⟩ := key
    rw [e31, Option.bind_some] at e2
    have e2' : c1003 f 64 (S, G, (A, sl)) = c1003_44 f 64 (mps ((lns hr).2.1.1 + (lns hr).2.1.2.1)) 1 (S2, G2, (A + 13, sl2)) := e2
    have fr2 : ∀ a j, a < A → ¬ (a = 64 ∧ j = 9) → ¬ (65 ≤ a ∧ a ≤ 82) → G2 a j = G a j := fun a j y1 y2 y3 => by
      rw [q2 a j y1 (by omega) (by omega), z1 a j y2 (by omega)]
    have hs2 : cSs S2 := fun k hk => by rw [q1 _ (by omega)]; exact a1 k hk
    have g9 : G2 64 9 = -1 := by
      rw [q2 _ _ (by omega) (by omega) (by omega), f3 _ _ (by omega) (by omega), hG0, xup2_s]
    have p2 : cPs G2 := p1.ge (fun a j hz => by
      have hb : a < A ∧ ¬ (a = 72 ∧ (1 ≤ j ∧ j ≤ 6 ∨ j = 9 ∨ j = 12 ∨ j = 14)) ∧ ¬ (73 ≤ a ∧ a ≤ 82) := by
        rcases hz with z | z | z | z | z | z | z | ⟨z, z1, z2, k, z3⟩ | z | z | z | ⟨k, z1, z2, z3⟩ <;> omega
      rw [q2 a j hb.1 hb.2.1 hb.2.2])
    have zt : ∀ a j, ¬ (a = 65 ∧ j = 1) → xup2 G2 65 1 0 a j = G2 a j := fun a j y => xup2_n y
    have p2' : cPs (xup2 G2 65 1 0) := p2.tape (fun a j y1 y2 => xup2_n (by omega))
    obtain ⟨w1, w2, w3⟩ := qQu_wf c7'.2.2.1 hX
    obtain ⟨v1, v2, bq, v3⟩ := qQu_fa c7'.2.2.1 hX
    have hqs : q + 10 < A := by omega
    have frq : ∀ a j, q ≤ a → a ≤ q + 10 → xup2 G2 65 1 0 a j = G a j := fun a j y1 y2 => by rw [zt _ _ (by omega), fr2 _ _ (by omega) (by omega) (by omega)]
    have hQt : cQt S2 (xup2 G2 65 1 0) (q) A s r := by
      refine ⟨hs2, p2', ?_, ?_, fun p hp => by rw [frq _ _ (by omega) (by omega)]; exact r2.2.2.2.1 p hp, fun p hp => by rw [frq _ _ (by omega) (by omega), frq _ _ (by omega) (by omega), frq _ _ (by omega) (by omega)]; exact r2.2.2.2.2.1 p hp, fun p hp => by rw [frq _ _ (by omega) (by omega)]; exact r2.2.2.2.2.2.2.1 p hp, q4.ge (fun _ _ _ => rfl) (fun a j y1 y2 => zt _ _ (by omega)), by rw [zt _ _ (by omega)]; exact q5, by omega⟩
      · obtain ⟨x1, x2, x3, x4, x5, x6, x7⟩ := q7
        exact ⟨by rw [zt _ _ (by omega)]; exact x1, x2, x3, by rw [zt _ _ (by omega)]; exact x4, x5, x6.ge (fun j _ _ _ => zt _ _ (by omega)), x7.ge (zt _ _ (by omega)) (fun j => zt _ _ (by omega))⟩
      · refine ⟨by rw [zt _ _ (by omega)]; exact q6.1, fun k hk => ?_⟩
        obtain ⟨x1, x2, x3, x4⟩ := q6.2 k hk
        exact ⟨by rw [zt _ _ (by omega)]; exact x1, by rw [zt _ _ (by omega)]; exact x2, by rw [zt _ _ (by omega)]; exact x3, fun y => by rw [zt _ _ (by omega)]; exact x4 y⟩
    obtain ⟨k, G4, e63, u2, u3⟩ := k_63 (f := f) (m := (A + 13, sl2)) (by omega) hQt r4.1.1 r4.2.2.2.1 q8 w1 w3 v1 v2 v3
    have p4 : cPs G4 := p2'.ge (fun a j hz => u2 a j (by
      rcases hz with z | z | z | z | z | z | z | ⟨z, z1, z2, k, z3⟩ | z | z | z | ⟨k, z1, z2, z3⟩ <;> omega))
    have fr4 : ∀ a j, a < A → ¬ (a = 64 ∧ j = 9) → ¬ (65 ≤ a ∧ a ≤ 82) → G4 a j = G a j := fun a j y1 y2 y3 => by
      rw [u2 a j (by omega), zt a j (by omega), fr2 a j y1 y2 y3]
    have h65 : G4 65 1 = 0 := by rw [u2 _ _ (by omega), xup2_s]
    have h9 : G4 64 9 = -1 := by rw [u2 _ _ (by omega), zt _ _ (by omega)]; exact g9
    have e3 := st_qu3 (f := f) (mp := mps ((lns hr).2.1.1 + (lns hr).2.1.2.1)) (u := A) hs2 p2 p4 e63 (by rw [u2 _ _ (by omega), zt _ _ (by omega)]; exact q5)
    have bnd : A ≤ A + 13 ∧ A + 13 ≤ A + 14 ∧ sl2 ≤ sl + 6200 := by omega
    rcases u3 with ⟨k0, nof⟩ | ⟨k0, fl1, fl2⟩
    · rw [if_pos k0] at e3
      rcases hst with ⟨kk, _, _, x1, _⟩ | ⟨_, x1, x2⟩
      · exact absurd x1 (nof _ _)
      have hwl : ∀ y ∈ r.2.2.1, wLt s.1.length r.2.1.length y ∧ (y.1 ≠ 3 → 0 ≤ y.2.1 ∧ y.2.2.2.1.length = qN s y.2.1.toNat) := fun y hy => by
        have h0 := w3.1 y hy
        rw [w1] at h0
        refine ⟨h0, fun h3 => ?_⟩
        obtain ⟨pl0, hm⟩ := w2.1 y hy h3
        have f2' : y.2.1 ≠ -1 := fun z => nof 2 _ (.inl ⟨rfl, _, hm, z, rfl⟩)
        have f3' : pNn s.2.2.2.1 y.2.1 = (y.2.2.2.1.length : Int) := Classical.byContradiction fun z => nof 3 _ (.inr (.inl ⟨rfl, _, hm, f2', z, rfl⟩))
        have h5 : -1 ≤ y.2.1 := by
          rcases h0 with ⟨_, z, _⟩ | ⟨z, _⟩
          · exact z
          · exact absurd z h3
        have hn := (qN_c r4.1.1 y.2.1.toNat).1
        rw [show ((y.2.1.toNat : Nat) : Int) = y.2.1 by omega] at hn
        exact ⟨by omega, by omega⟩
      have hsf : sfe r.2.2.1 r.2.1.length := fun j hj => by
        cases hbj : (qBd r.2.2.1).testBit j with
        | true => rfl
        | false => exact absurd (.inr (.inr ⟨rfl, j, ⟨hj, hbj⟩, rfl⟩)) (nof 4 _)
      have hM4 : cMr S2 G4 A (mps ((lns hr).2.1.1 + (lns hr).2.1.2.1)) (q) rp s xr cr M := r1.ge2 (Nat.le_refl _) (fun a hz => q1 a (by
        rcases hz with z | z | ⟨p, hp, y1, y2⟩
        · rw [z]; exact r7.1
        · rw [z]; exact r8.1
        · have := (r1.2.2.2.2 p hp).2.1; omega)) (fun a j hz => by
        rcases hz with ⟨z, zj⟩ | z | ⟨p, hp, y1, y2⟩
        · exact fr4 a j (by rw [z]; exact r7.1) (by omega) (by omega)
        · exact fr4 a j (by rw [z]; exact r8.1) (by omega) (by omega)
        · have y3 := (r1.2.2.2.2 p hp).2.1
          have y4 := r9 p hp
          exact fr4 a j (by omega) (by omega) (by omega))
      obtain ⟨vv, G5, o1, o2, o3, o4⟩ := k_179 (f := f) (u := A) (m := (A + 13, sl2)) (an := an) (sp := sp) (V := r.2.1) (Ls := r.2.2.1) hf hs2 p4 k1 (by rw [fr4 _ _ (by omega) (by omega) (by omega)]; exact k2) (by rw [fr4 _ _ (by omega) (by omega) (by omega)]; exact k3) (q4.ge (fun _ _ _ => rfl) (fun a j y1 y2 => by rw [u2 _ _ (by omega), zt _ _ (by omega)])) (by omega) hM4 r5 (by omega) (by omega) (fun p hp => by have := r9 p hp; omega) r4.1.1.1 hwl (qQu_d c7'.2.2.1 hX) w2.2.2.1 hsf
      rw [o1, Option.bind_some] at e3
      have xf : Unit → _ := fun _ => x2
      have of : Unit → _ := fun _ => o4
      clear x2 o4
      have fin : c1003 f 64 (S, G, (A, sl)) = some (vv, (S2, G5, (A + 13, sl2))) := e2'.trans e3
      have g5 : ∀ a j, a < A → ¬ (a = 64 ∧ 9 ≤ j ∧ j ≤ 11) → ¬ (65 ≤ a ∧ a ≤ 92) → ¬ (221 ≤ a ∧ a ≤ 226) → G5 a j = G a j := fun a j y1 y2 y3 y4 => by rw [o3 a j (by omega) (by omega) (by omega), fr4 a j y1 (by omega) (by omega)]
      have g65 : G5 65 1 = 0 := by rw [o3 _ _ (by omega) (by omega) (by omega)]; exact h65
      have g59 : G5 64 9 = -1 := by rw [o3 _ _ (by omega) (by omega) (by omega)]; exact h9
      have gan : ∀ a j, an ≤ a → a ≤ an + 2 → G5 a j = G a j := fun a j y1 y2 => by rw [o3 a j (by omega) (by omega) (by omega), fr4 a j (by omega) (by omega) (by omega)]
      rw [x1]
      rcases of () with ⟨v0, y10, y11, Wl, W1, W2, W3⟩ | ⟨Q, Q1, Q2, Q3, Q4, Q5⟩
      · rcases xf () with ⟨x3, x4, _⟩ | ⟨Sx, s1, s2', s3, s4, s5⟩
        · rw [x3, x4]
          exact ⟨S2, G5, (A + 13, sl2), by rw [fin, v0], bnd, q1, rest _ _ _ _ _ (by omega) q1 o2 g65 g59 (keep _ _ q1 y10 y11 gan) g5⟩
        · have := nodup_len Wl Sx W1 (fun x hx => (s3.2 x).mpr (W3 x hx))
          omega
      · rcases xf () with ⟨_, _, Vx, n1, n2, n3⟩ | ⟨Sx, s1, s2', s3, s4, s5⟩
        · have := nodup_len Vx Q n1 (fun x hx => (Q3.2 x).mpr (n3 x hx))
          omega
        · have eQ : Q = Sx := all_u Q3 s3 Q2 s2'
          subst eQ
          rw [s4, s5]
          refine ⟨S2, G5, (A + 13, sl2), by rw [fin, Q4], bnd, q1, rest _ _ _ _ _ (by omega) q1 o2 g65 g59 ?_ g5⟩
          rcases Q5 with ⟨z0, z1, z2⟩ | ⟨z0, z1, z2, z3⟩
          · rw [if_pos z0]
            exact keep _ _ q1 z1 z2 gan
          · rw [if_neg (by omega)]
            exact ⟨sp, an, by omega, z1, z2, _, fun _ => rfl, z3⟩
    · rw [if_neg k0] at e3
      rcases hst with ⟨kk, x1, x2, x3, x4⟩ | ⟨x1, _⟩
      · have e5 := fl2 _ _ x3
        have e6 := x4 _ _ fl1
        have e7 : k = kk ∧ G4 72 2 = pl' := by omega
        rw [x1, x2, ← e7.1]
        exact ⟨S2, xup2 G4 64 9 (G4 72 2), (A + 13, sl2), e2'.trans e3, bnd, q1, rest _ _ _ _ _ (by omega) q1 (p4.ge (fun a j hz => xup2_n (by
          rcases hz with z | z | z | z | z | z | z | ⟨z, z1, z2, k, z3⟩ | z | z | z | ⟨k, z1, z2, z3⟩ <;> omega))) (by rw [xup2_n (by omega)]; exact h65) (by rw [xup2_s]; exact e7.2) (keep _ _ q1 (by rw [xup2_n (by omega), fr4 _ _ (by omega) (by omega) (by omega)]; exact k2) (by rw [xup2_n (by omega), fr4 _ _ (by omega) (by omega) (by omega)]; exact k3) (fun a j y1 y2 => by rw [xup2_n (by omega), fr4 _ _ (by omega) (by omega) (by omega)])) (fun a j y1 y2 y3 _ => by rw [xup2_n (by omega)]; exact fr4 a j y1 (by omega) (by omega))⟩
      · exact absurd fl1 (x1 _ _)
end
end
