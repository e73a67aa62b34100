/-! THE CLASS: change() in the house -/
section
variable {f A hr n sl ln q : Nat} {S : Nat → Nat × Nat × Nat} {G G1 G2 : xG_} {m : Nat × Nat} {T : List (List Int)} {P : Nat → Nat} {lns : Nat → sLn} {tx : List Int} {kp : Nat × List (List Int)} {mt : Int × List Int} {pl rf : Int} {s : pPg} {E : List pPe}
/-- which program CHANGES are read against -/
theorem st_ch0 {mp e : Nat} (hs : cSs S) (hp : cPs G) (h6 : G 64 6 = (hr : Int)) (hr4 : hr < 4) (h7 : G (243 + 9 * hr) 7 = (e : Int)) (h5 : ∀ G', (∀ a j, ¬ (a = 64 ∧ j = 9) → G' a j = G a j) → c5 f (243 + 9 * hr) (S, G', m) = some (mp, (S, G', m))) (sm : S mp = (1, 2, 8)) (h0 : G mp 0 = (q : Int)) (hmp : mp ≠ 64) : c1001 f 64 (S, G, m) = c1001_36 f 64 (243 + 9 * hr) (if e = 0 then q else e) (S, xup2 G 64 9 (-1), m) := by
  have z : ∀ a j, ¬ (a = 64 ∧ j = 9) → xup2 G 64 9 (-1) a j = G a j := fun a j y => xup2_n y
  have ls := lnSt_of hs hr4
  have i1 : cq_is 1 14 (243 + 9 * hr) (S, xup2 G 64 9 (-1), m) = some () := if_pos ls.1
  have g5 : cq_gr 11 5 17 64 (S, xup2 G 64 9 (-1), m) = some 220 := o_gr (y := 220) (s64 hs) (by rw [z _ _ (by omega)]; exact p64_5 hp)
  have g6 : cq_gi 11 6 17 64 (S, xup2 G 64 9 (-1), m) = some (hr : Int) := by rw [o_gi (s64 hs), z _ _ (by omega), h6]
  have ga : cq_ar 220 (hr : Int) (S, xup2 G 64 9 (-1), m) = some (243 + 9 * hr) := o_ar (s220 hs) (by decide) hr4 (by rw [z _ _ (by omega)]; exact p_ln hp hr4)
  have g7 : cq_gr 1 7 14 (243 + 9 * hr) (S, xup2 G 64 9 (-1), m) = some e := o_gr ls.1 (by rw [z _ _ (by omega)]; exact h7)
  have g0 : cq_gr 2 0 8 mp (S, xup2 G 64 9 (-1), m) = some q := o_gr sm (by rw [z _ _ (by omega)]; exact h0)
  unfold c1001
  rw [o_p (s64 hs), Option.bind_some, g5, Option.bind_some, g6, Option.bind_some, ga, Option.bind_some, g7, Option.bind_some]
  by_cases c : e = 0
  · rw [if_pos c, if_pos c, i1, Option.bind_some, h5 _ z, Option.bind_some, g0, Option.bind_some]
  · rw [if_neg c, if_neg c, Option.bind_some]
theorem st_ch1 (hs : cSs S) (hp : cPs G) (hp1 : cPs G1) (e1 : c112 f 65 (S, G, m) = some (S, G1, m)) : c1001_36 f 64 ln q (S, G, m) = ((c32 f 72 q (S, G1, m)).bind fun R186 => chd R186 0 (c1001_61 f 64 ln 0 R186.2) (fun _ => c1001_61 f 64 ln 1 R186.2)) := by
  have i1 : cq_is 8 8 65 (S, G, m) = some () := if_pos (s65 hs)
  have i2 : cq_is 4 20 72 (S, G1, m) = some () := if_pos (s72 hs)
  unfold c1001_36
  rw [o_gr (y := 65) (s64 hs) (p64_0 hp), Option.bind_some, i1, Option.bind_some, e1, Option.bind_some, o_gr (y := 72) (s64 hs) (p64_1 hp1), Option.bind_some, i2, Option.bind_some]
theorem st_ch2 {w : Int} (hs : cSs S) (hp : cPs G) (h2 : G 72 2 = w) : c1001_61 f 64 ln 0 (S, G, m) = some (xwr (-1 - w), (S, xup2 G 65 1 0, m)) := by
  have z : ∀ a j, ¬ (a = 65 ∧ j = 1) → xup2 G 65 1 0 a j = G a j := fun a j y => xup2_n y
  unfold c1001_61
  rw [o_gr (y := 65) (s64 hs) (p64_0 hp), Option.bind_some, o_p (s65 hs), Option.bind_some, if_neg (fun z => z rfl), o_gr (y := 72) (s64 hs) (by rw [z _ _ (by omega)]; exact p64_1 hp), Option.bind_some, o_gi (s72 hs), Option.bind_some, z _ _ (by omega), h2]
theorem st_ch3 {k : Int} (hs : cSs S) (hp : cPs G) (ls : S ln = (1, 1, 14)) (hp2 : cPs G2) (e64 : c64 f 72 (S, xup2 G 65 1 0, m) = some (k, (S, G2, m))) : c1001_61 f 64 ln 1 (S, G, m) = if k = 0 then (if xwr (G2 ln 8 + G2 72 14) ≤ 400 then c1001_140 f f 64 ln 0 (S, G2, m) else some (-6000, (S, G2, m))) else some (xwr (-5000 - k), (S, xup2 G2 64 9 (G2 72 2), m)) := by
  have z : ∀ a j, ¬ (a = 65 ∧ j = 1) → xup2 G 65 1 0 a j = G a j := fun a j y => xup2_n y
  have i2 : cq_is 4 20 72 (S, xup2 G 65 1 0, m) = some () := if_pos (s72 hs)
  have g72 : cq_gr 11 1 17 64 (S, G2, m) = some 72 := o_gr (y := 72) (s64 hs) (p64_1 hp2)
  unfold c1001_61
  rw [o_gr (y := 65) (s64 hs) (p64_0 hp), Option.bind_some, o_p (s65 hs), Option.bind_some, if_pos (by decide), o_gr (y := 72) (s64 hs) (by rw [z _ _ (by omega)]; exact p64_1 hp), Option.bind_some, i2, Option.bind_some, e64, Option.bind_some]
  by_cases c : k = 0
  · rw [if_pos c, if_pos c, o_gi ls, Option.bind_some, g72, Option.bind_some, o_gi (s72 hs), Option.bind_some]
  · rw [if_neg c, if_neg c, g72, Option.bind_some, o_gi (s72 hs), Option.bind_some, o_p (s64 hs), Option.bind_some]
/-- change() -/
theorem k_ch {v pl' : Int} {lns' : Nat → sLn} (hf : 3100 < f) (h : cHs S G A (T, lns, hr, tx, kp, mt, pl, rf) n) (hb : (lns hr).2.1.1 + (lns hr).2.1.2.1 < 520) (hE4 : ∀ i, i < (lns hr).2.2.2.1.1.length → ((lns hr).2.2.2.1.1.getD i dPe).2.2.length ≤ 4) (hst : stCh T lns hr tx v pl' lns') : ∃ S' G' m', c1001 f 64 (S, G, (A, sl)) = some (v, (S', G', m')) ∧ (A ≤ m'.1 ∧ m'.1 ≤ A + 1 ∧ m'.2 ≤ sl + 6) ∧ (∀ a, a < A → S' a = S a) ∧ cHs S' G' m'.1 (T, lns', hr, [], kp, mt, pl', rf) (n + 1) := by
  obtain ⟨P, mp, b1, b2, _, b4, b5, b6, b7, b8, b9, b10⟩ := hs_ln h hb
  obtain ⟨⟨a1, a2, a3, a4⟩, ⟨P0, d1, d2, d3⟩, ⟨c1, c2⟩, ⟨c3, c4⟩, c5', c6', c7', c8', c9'⟩ := h
  obtain ⟨s, s1, s2, hv, hpl, hln⟩ := hst
  obtain ⟨⟨⟨l1, l2⟩, mps, l3, l4⟩, Lw, Le, ⟨s', Lp1, Lp2⟩, Lt, Lf⟩ := id (d2 hr c1)
  have es : s' = s := by
    rw [s1] at Lp1
    injection Lp1 with z
    exact z.symm
  subst es
  -- the program
  obtain ⟨m1, m2, _⟩ := l3 _ (Nat.le_add_right _ _) (Nat.le_refl _)
  have pE : P0 (lnE (lns hr)) ≠ 0 ∧ ∃ e : Nat, G (243 + 9 * hr) 7 = (e : Int) ∧ (if e = 0 then P0 (lMo (lns hr)).1 else e) = P0 (lnE (lns hr)) := by
    have pm : P0 (lMo (lns hr)).1 ≠ 0 := by
      obtain ⟨_, _, _, _, _, _, _, _, _, _, _, _, _, w, _⟩ := m2
      exact w
    unfold lnE
    rcases Le with ⟨e1, e2⟩ | ⟨e1, e2, e3⟩
    · rw [if_pos e1]
      exact ⟨pm, 0, e2, if_pos rfl⟩
    · rw [if_neg (by omega)]
      exact ⟨e2, _, e3, if_neg e2⟩
  obtain ⟨pE1, e0, pE2, pE3⟩ := pE
  obtain ⟨_, ⟨sx, nq, x1, x2, x3, x4, x5⟩, _⟩ := d1.1 _ pE1
  have es : sx = s' := by
    rw [s1] at x1
    injection x1 with z
    exact z.symm
  subst es
  obtain ⟨sm, Mm, ism⟩ := m2.is
  obtain ⟨rp, xr, cr, nqm, r1, _⟩ := m2.pm d1 ism
  have mpA : 64 < mps ((lns hr).2.1.1 + (lns hr).2.1.2.1) := by
    obtain ⟨_, _, _, _, _, _, _, _, _, _, _, _, _, _, ⟨w, _⟩, _⟩ := m2
    have := w.2
    omega
  obtain ⟨G0, hG0⟩ : ∃ G0, G0 = xup2 G 64 9 (-1) := ⟨_, rfl⟩
  have z0 : ∀ a j, ¬ (a = 64 ∧ j = 9) → G0 a j = G a j := fun a j y => by rw [hG0]; exact xup2_n y
  have p0 : cPs G0 := a2.ge (fun a j hz => z0 a j (by
      rcases hz with z | z | z | z | z | z | z | ⟨z, z1, z2, k, z3⟩ | z | z | z | ⟨k, z1, z2, z3⟩ <;> omega))
  have e1 := st_ch0 (f := f) (m := (A, sl)) a1 a2 c2 c1 pE2 (fun G' hz => k_5 b4 (lnPt_of' b5 (fun j => hz _ _ (by omega))) (by rw [hz _ _ (by omega)]; exact l1) hb (by rw [hz _ _ (by omega)]; exact m1)) r1.1 r1.2.1 (by omega)
  rw [pE3, ← hG0] at e1
  have t0 : cTx G0 (tBt tx) tx.length := c7'.ge (z0 _ _ (by omega)) (fun p => z0 _ _ (by omega))
  obtain ⟨G1, N, f1, f2, f3⟩ := k_112 (m := (A, sl)) a1 p0 t0 hf
  have p1 : cPs G1 := p0.tape (fun a j y1 y2 => f3 a j (by omega) (by omega))
  have t1 : cTx G1 (tBt tx) tx.length := t0.ge (f3 _ _ (by omega) (by omega)) (fun p => f3 _ _ (by omega) (by omega))
  have ev := cEv_of a1 p1 t1 f2
  have e2 := st_ch1 (f := f) (ln := 243 + 9 * hr) (q := P0 (lnE (lns hr))) a1 p0 p1 f1
  have z1 : ∀ a j, ¬ (a = 64 ∧ j = 9) → ¬ (65 ≤ a ∧ a ≤ 71) → G1 a j = G a j := fun a j y1 y2 => by rw [f3 a j (by omega) (by omega), z0 a j y1]
  have hq : 82 < P0 (lnE (lns hr)) := by omega
  have hN : N ≤ tx.length := f2.1
  have key := k_32 (f := f) (m := (A, sl)) (K := tx.length + 1) (q := P0 (lnE (lns hr))) (L := sx.1) (by omega) (tOk_of false t1.2.2.1) (by omega) ev hq x3.1 (x3.2.1.ge (fun j _ _ _ => z1 _ _ (by omega) (by omega))) (x3.2.2.1.ge (z1 _ _ (by omega) (by omega)) (fun j => z1 _ _ (by omega) (by omega)))
  have bu : ∀ a j, a ≠ 72 → bUp G1 (P0 (lnE (lns hr))) 0 a j = G1 a j := fun a j y => bUp_n a j (fun z => y z.1)
  -- what else stands
  have rest : ∀ (S' : Nat → Nat × Nat × Nat) (G' : xG_) (A' : Nat) (pl' : Int) (ps : List pPe), A ≤ A' → (∀ a, a < A → S' a = S a) → cPs G' → G' 65 1 = 0 → G' 64 9 = pl' → cPn G' (243 + 9 * hr) sx ps → (∀ a j, a < A → ¬ (a = 64 ∧ j = 9) → ¬ (65 ≤ a ∧ a ≤ 82) → ¬ (a = 243 + 9 * hr ∧ j = 8) → ¬ (243 + 9 * hr + 4 ≤ a ∧ a ≤ 243 + 9 * hr + 6) → G' a j = G a j) → cHs S' G' A' (T, lUp lns hr (lnP (lns hr) ps), hr, [], kp, mt, pl', rf) (n + 1) := fun S' G' A' pl' ps hA hS hp' h65 h9 hPn g => by
    have sf : xSf A G G' := fun a j y1 y2 => g a j y1 (by omega) (by omega) (by omega) (by omega)
    have zy : ∀ a j, 243 + 9 * hr ≤ a → a ≤ 243 + 9 * hr + 8 → ¬ (a = 243 + 9 * hr ∧ j = 8) → ¬ (243 + 9 * hr + 4 ≤ a ∧ a ≤ 243 + 9 * hr + 6) → G' a j = G a j := fun a j y1 y2 y3 y4 => g a j (by omega) (by omega) (by omega) y3 y4
    refine ⟨⟨fun k hk => by rw [hS _ (by omega)]; exact a1 k hk, hp', a3.ge (fun a j y1 y2 => g a j (by omega) (by omega) (by omega) (by omega) (by omega)), by omega⟩, ⟨P0, d1.ge hA hS sf (by rw [g _ _ (by omega) (by omega) (by omega) (by omega) (by omega)]; exact Int.le_refl _), fun y hy => ?_, ?_⟩, ⟨c1, by rw [g _ _ (by omega) (by omega) (by omega) (by omega) (by omega)]; exact c2⟩, ⟨by rw [g _ _ (by omega) (by omega) (by omega) (by omega) (by omega)]; exact c3, by rw [g _ _ (by omega) (by omega) (by omega) (by omega) (by omega)]; omega⟩, by rw [g _ _ (by omega) (by omega) (by omega) (by omega) (by omega)]; exact c5', h9, cTx.nil h65, c8'.ge (fun a y => hS a (by omega)) (fun a j y1 y2 => g a j (by omega) (by omega) (by omega) (by omega) (by omega)) ⟨g _ _ (by omega) (by omega) (by omega) (by omega) (by omega), g _ _ (by omega) (by omega) (by omega) (by omega) (by omega)⟩, c9'.ge ⟨g _ _ (by omega) (by omega) (by omega) (by omega) (by omega), g _ _ (by omega) (by omega) (by omega) (by omega) (by omega)⟩ (fun j => g _ _ (by omega) (by omega) (by omega) (by omega) (by omega))⟩
    · unfold lUp
      by_cases d : y = hr
      · subst d
        rw [if_pos rfl]
        obtain ⟨Yr, ⟨Yw, Yc⟩, Ye, _, Yt, Y3, Y4⟩ := d2 y hy
        exact ⟨Yr.ge hA hS sf ⟨zy _ _ (by omega) (by omega) (by omega) (by omega), zy _ _ (by omega) (by omega) (by omega) (by omega), fun j _ _ => zy _ _ (by omega) (by omega) (by omega) (by omega)⟩, ⟨fun p hp => by rw [zy _ _ (by omega) (by omega) (by omega) (by omega)]; exact Yw p hp, fun c hc => by rw [zy _ _ (by omega) (by omega) (by omega) (by omega)]; exact Yc c hc⟩, by rw [zy _ _ (by omega) (by omega) (by omega) (by omega)]; exact Ye, ⟨sx, s1, hPn⟩, Yt.ge hA hS sf (fun c _ => ⟨zy _ _ (by omega) (by omega) (by omega) (by omega), zy _ _ (by omega) (by omega) (by omega) (by omega)⟩), by rw [zy _ _ (by omega) (by omega) (by omega) (by omega)]; exact Y3, fun hne => by rw [zy _ _ (by omega) (by omega) (by omega) (by omega)]; exact Y4 hne⟩
      · rw [if_neg d]
        exact (d2 y hy).ge hA hS sf (fun a j y1 y2 => g a j (by omega) (by omega) (by omega) (by omega) (by omega))
    · unfold lUp
      rw [if_pos rfl]
      exact d3.ge hA hS sf ⟨g _ _ (by omega) (by omega) (by omega) (by omega) (by omega), g _ _ (by omega) (by omega) (by omega) (by omega) (by omega)⟩
  rw [hln, hpl, hv]
  unfold qChg
  cases hX : pCs (tstr (tBt tx) tx.length false) (tx.length + 1) [] 0 with
  | inl x =>
    rw [hX] at key
    obtain ⟨G2, g1, g2⟩ := key
    obtain ⟨S3, G3, q1, q2, q3⟩ := cWr_ex S G2 (A, sl) (x : Int)
    rw [g1, Option.bind_some, q1] at e2
    have fr : ∀ a j, a < A → ¬ (a = 64 ∧ j = 9) → ¬ (65 ≤ a ∧ a ≤ 82) → G3 a j = G a j := fun a j y1 y2 y3 => by
      rw [q3 a j y1, xup2_n (by omega), g2 a j (by omega) (by omega), bu a j (by omega), z1 a j y2 (by omega)]
    have s3 : cSs S3 := fun k hk => by rw [q2 _ (by show 64 + k < A; omega)]; exact a1 k hk
    have g9 : G3 64 9 = -1 := by
      rw [q3 _ _ (by show 64 < A; omega), xup2_n (by omega), g2 _ _ (by omega) (by omega), bu _ _ (by omega), f3 _ _ (by omega) (by omega), hG0, xup2_s]
    have p3 : cPs G3 := p1.ge (fun a j hz => by
      have hb : a < A ∧ ¬ (a = 72 ∧ (j = 1 ∨ j = 2 ∨ j = 3 ∨ j = 4 ∨ j = 9 ∨ j = 14)) ∧ ¬ (78 ≤ a ∧ a ≤ 82) := by
        rcases hz with z | z | z | z | z | z | z | ⟨z, z1, z2, k, z3⟩ | z | z | z | ⟨k, z1, z2, z3⟩ <;> omega
      rw [q3 a j hb.1, xup2_n (by omega), g2 a j (by omega) (by omega), bUp_n a j (by omega)])
    have st := st_ch2 (f := f) (ln := 243 + 9 * hr) (m := (A + 1, sl + 6)) s3 p3 (by rw [q3 _ _ (by show 72 < A; omega), xup2_s])
    have e2' : c1001_36 f 64 (243 + 9 * hr) (P0 (lnE (lns hr))) (S, G0, (A, sl)) = c1001_61 f 64 (243 + 9 * hr) 0 (S3, G3, (A + 1, sl + 6)) := e2
    refine ⟨S3, xup2 G3 65 1 0, (A + 1, sl + 6), (e1.trans e2').trans st, ⟨Nat.le_succ _, Nat.le_refl _, Nat.le_refl _⟩, q2, rest _ _ _ _ _ (Nat.le_succ _) q2 (p3.tape (fun a j y1 y2 => xup2_n (by omega))) (xup2_s _ _ _ _) (by rw [xup2_n (by omega)]; exact g9) ?_ (fun a j y1 y2 y3 _ _ => by rw [xup2_n (by omega)]; exact fr a j y1 y2 y3)⟩
    exact Lp2.ge (fun a j y1 y2 => by rw [xup2_n (by omega)]; exact fr a j (by omega) (by omega) (by omega))
  | inr cs =>
    rw [hX] at key
    obtain ⟨G2, g1, g2, g3, g4⟩ := key
    rw [g1, Option.bind_some] at e2
    have e2' : c1001_36 f 64 (243 + 9 * hr) (P0 (lnE (lns hr))) (S, G0, (A, sl)) = c1001_61 f 64 (243 + 9 * hr) 1 (S, G2, (A, sl)) := e2
    have fr2 : ∀ a j, ¬ (a = 64 ∧ j = 9) → ¬ (65 ≤ a ∧ a ≤ 82) → G2 a j = G a j := fun a j y2 y3 => by
      rw [g2 a j (by omega) (by omega), bu a j (by omega), z1 a j y2 (by omega)]
    have g9 : G2 64 9 = -1 := by
      rw [g2 _ _ (by omega) (by omega), bu _ _ (by omega), f3 _ _ (by omega) (by omega), hG0, xup2_s]
    have p2 : cPs G2 := p1.ge (fun a j hz => by
      have hb : ¬ (a = 72 ∧ (j = 1 ∨ j = 2 ∨ j = 3 ∨ j = 4 ∨ j = 9 ∨ j = 14)) ∧ ¬ (78 ≤ a ∧ a ≤ 82) := by
        rcases hz with z | z | z | z | z | z | z | ⟨z, z1, z2, k, z3⟩ | z | z | z | ⟨k, z1, z2, z3⟩ <;> omega
      rw [g2 a j (by omega) (by omega), bUp_n a j (by omega)])
    have zt : ∀ a j, ¬ (a = 65 ∧ j = 1) → xup2 G2 65 1 0 a j = G2 a j := fun a j y => xup2_n y
    have p2' : cPs (xup2 G2 65 1 0) := p2.tape (fun a j y1 y2 => xup2_n (by omega))
    have h723 : G2 72 3 = ((P0 (lnE (lns hr)) : Nat) : Int) := by
      obtain ⟨w1, _⟩ := bUp_s (G := G1) (q := P0 (lnE (lns hr))) (b := 0)
      rw [g2 _ _ (by omega) (by omega)]
      exact w1
    obtain ⟨G4, k1, k2, k3⟩ := k_64c (f := f) (m := (A, sl)) (s := sx) (cs := cs) (q := P0 (lnE (lns hr))) (by omega) a1 x2.1.1 (by omega) hq x3.1 p2' (x3.2.1.ge (fun j _ _ _ => by rw [zt _ _ (by omega), fr2 _ _ (by omega) (by omega)])) (by rw [zt _ _ (by omega)]; exact h723) (g3.ge (fun a j y1 y2 => zt _ _ (by omega))) (fun p hp => by rw [zt _ _ (by omega), zt _ _ (by omega), zt _ _ (by omega), fr2 _ _ (by omega) (by omega), fr2 _ _ (by omega) (by omega), fr2 _ _ (by omega) (by omega)]; exact x3.2.2.2.2.1 p hp) (fun p hp => by rw [zt _ _ (by omega), fr2 _ _ (by omega) (by omega)]; exact x3.2.2.2.1 p hp)
    have p4 : cPs G4 := p2'.ge (fun a j hz => k2 a j (by
      rcases hz with z | z | z | z | z | z | z | ⟨z, z1, z2, k, z3⟩ | z | z | z | ⟨k, z1, z2, z3⟩ <;> omega))
    have fr4 : ∀ a j, ¬ (a = 64 ∧ j = 9) → ¬ (65 ≤ a ∧ a ≤ 82) → G4 a j = G a j := fun a j y2 y3 => by
      rw [k2 a j (by omega), zt a j (by omega), fr2 a j y2 y3]
    have h65 : G4 65 1 = 0 := by rw [k2 _ _ (by omega), xup2_s]
    have h9 : G4 64 9 = -1 := by rw [k2 _ _ (by omega), zt _ _ (by omega)]; exact g9
    have e3 := st_ch3 (f := f) (ln := 243 + 9 * hr) a1 p2 b4.1 p4 k1
    have Lp4 : cPn G4 (243 + 9 * hr) sx (lns hr).2.2.2.1.1 := Lp2.ge (fun a j y1 y2 => fr4 a j (by omega) (by omega))
    dsimp only
    by_cases q0 : (qCk sx 0 cs).1 ≠ 0
    · rw [if_neg q0] at e3
      rw [if_pos q0]
      refine ⟨S, xup2 G4 64 9 (G4 72 2), (A, sl), (e1.trans e2').trans e3, ⟨Nat.le_refl _, Nat.le_succ _, Nat.le_add_right _ _⟩, (fun _ _ => rfl), rest _ _ _ _ _ (Nat.le_refl _) (fun _ _ => rfl) (p4.ge (fun a j hz => xup2_n (by
        rcases hz with z | z | z | z | z | z | z | ⟨z, z1, z2, k, z3⟩ | z | z | z | ⟨k, z1, z2, z3⟩ <;> omega))) (by rw [xup2_n (by omega)]; exact h65) (by rw [xup2_s]; exact k3 q0) (Lp4.ge (fun a j y1 y2 => xup2_n (by omega))) (fun a j y1 y2 y3 _ _ => by rw [xup2_n y2]; exact fr4 a j y2 y3)⟩
    · rw [if_neg q0]
      have q0' : (qCk sx 0 cs).1 = 0 := Classical.byContradiction q0
      rw [if_pos q0'] at e3
      have c4' : cCs G4 sx.1 cs := by
        refine ⟨by rw [k2 _ _ (by omega), zt _ _ (by omega)]; exact g3.1, fun k hk => ?_⟩
        obtain ⟨w1, w2, w3, w4, w5, w6⟩ := g3.2 k hk
        have y : ∀ a j, 78 ≤ a → a ≤ 82 → G4 a j = G2 a j := fun a j y1 y2 => by rw [k2 a j (by omega), zt a j (by omega)]
        exact ⟨by rw [y _ _ (by omega) (by omega)]; exact w1, by rw [y _ _ (by omega) (by omega)]; exact w2, by rw [y _ _ (by omega) (by omega)]; exact w3, by rw [y _ _ (by omega) (by omega)]; exact w4, w5, fun j hj => by rw [y _ _ (by omega) (by omega)]; exact w6 j hj⟩
      have l4' := Lp4.2.1
      have ew : xwr (G4 (243 + 9 * hr) 8 + G4 72 14) = (((lns hr).2.2.2.1.1.length + cs.length : Nat) : Int) := by
        rw [Lp4.1, c4'.1, xwr_g _ (by omega) (by omega)]
        omega
      rw [ew] at e3
      by_cases q1 : 400 < (lns hr).2.2.2.1.1.length + cs.length
      · rw [if_pos q1]
        rw [if_neg (by omega)] at e3
        exact ⟨S, G4, (A, sl), (e1.trans e2').trans e3, ⟨Nat.le_refl _, Nat.le_succ _, Nat.le_add_right _ _⟩, (fun _ _ => rfl), rest _ _ _ _ _ (Nat.le_refl _) (fun _ _ => rfl) p4 h65 h9 Lp4 (fun a j y1 y2 y3 _ _ => fr4 a j y2 y3)⟩
      · rw [if_neg q1]
        rw [if_pos (by omega)] at e3
        have hq0 : ∀ k, k < cs.length → qCq sx (cs.getD k dCh) = 0 := by
          rcases qCk_1 (s := sx) cs (-1) with ⟨w, _⟩ | ⟨j, j1, j2, _, j4⟩
          · exact w
          · exact absurd (by rw [← q0']; unfold qCk; rw [j4]) j2
        obtain ⟨G5, u1, u2, u3, u4⟩ := k_1001l (f := f) (m := (A, sl)) (cs := cs) (s := sx) a1 c1 x2.1 (by omega) hq0 cs.length 0 f G4 (lns hr).2.2.2.1.1 (by omega) (by omega) p4 c4' Lp4 hE4 (by omega)
        refine ⟨S, G5, (A, sl), ((e1.trans e2').trans e3).trans u1, ⟨Nat.le_refl _, Nat.le_succ _, Nat.le_add_right _ _⟩, (fun _ _ => rfl), rest _ _ _ _ _ (Nat.le_refl _) (fun _ _ => rfl) u2 (by rw [u4 _ _ (by omega) (by omega)]; exact h65) (by rw [u4 _ _ (by omega) (by omega)]; exact h9) u3 (fun a j y1 y2 y3 y4 y5 => by rw [u4 a j y4 y5]; exact fr4 a j y2 y3)⟩
end
