section
/-! THE CLASS: change() in the house -/
section
variable {f A hr n sl ln q : Nat} {S : Nat → Nat × Nat × Nat} {G G1 G2 : xG_} {m : Nat × Nat} {T : List (List Int)} {P : Nat → Nat} {lns : Nat → sLn} {tx : List Int} {kp : Nat × List (List Int)} {mt : Int × List Int} {pl rf : Int} {s : pPg} {E : List pPe}
/-- which program CHANGES are read against -/
theorem st_ch0 {mp e : Nat} (hs : cSs S) (hp : cPs G) (h6 : G 64 6 = (hr : Int)) (hr4 : hr < 4) (h7 : G (243 + 9 * hr) 7 = (e : Int)) (h5 : ∀ G', (∀ a j, ¬ (a = 64 ∧ j = 9) → G' a j = G a j) → c5 f (243 + 9 * hr) (S, G', m) = some (mp, (S, G', m))) (sm : S mp = (1, 2, 8)) (h0 : G mp 0 = (q : Int)) (hmp : mp ≠ 64) : c1001 f 64 (S, G, m) = c1001_36 f 64 (243 + 9 * hr) (if e = 0 then q else e) (S, xup2 G 64 9 (-1), m) := by
  have z : ∀ a j, ¬ (a = 64 ∧ j = 9) → xup2 G 64 9 (-1) a j = G a j := fun a j y => xup2_n y
  have ls := lnSt_of hs hr4
  have i1 : cq_is 1 14 (243 + 9 * hr) (S, xup2 G 64 9 (-1), m) = some () := if_pos ls.1
  have g5 : cq_gr 11 5 17 64 (S, xup2 G 64 9 (-1), m) = some 220 := o_gr (y := 220) (s64 hs) (by rw [z _ _ (by omega)]; exact p64_5 hp)
  have g6 : cq_gi 11 6 17 64 (S, xup2 G 64 9 (-1), m) = some (hr : Int) := by rw [o_gi (s64 hs), z _ _ (by omega), h6]
  have ga : cq_ar 220 (hr : Int) (S, xup2 G 64 9 (-1), m) = some (243 + 9 * hr) := o_ar (s220 hs) (by decide) hr4 (by rw [z _ _ (by omega)]; exact p_ln hp hr4)
  have g7 : cq_gr 1 7 14 (243 + 9 * hr) (S, xup2 G 64 9 (-1), m) = some e := o_gr ls.1 (by rw [z _ _ (by omega)]; exact h7)
  have g0 : cq_gr 2 0 8 mp (S, xup2 G 64 9 (-1), m) = some q := o_gr sm (by rw [z _ _ (by omega)]; exact h0)
  unfold c1001
  rw [o_p (s64 hs), Option.bind_some, g5, Option.bind_some, g6, Option.bind_some, ga, Option.bind_some, g7, Option.bind_some]
  by_cases c : e = 0
  · rw [if_pos c, if_pos c, i1, Option.bind_some, h5 _ z, Option.bind_some, g0, Option.bind_some]
  · rw [if_neg c, if_neg c, Option.bind_some]
theorem st_ch1 (hs : cSs S) (hp : cPs G) (hp1 : cPs G1) (e1 : c112 f 65 (S, G, m) = some (S, G1, m)) : c1001_36 f 64 ln q (S, G, m) = ((c32 f 72 q (S, G1, m)).bind fun R186 => chd R186 0 (c1001_61 f 64 ln 0 R186.2) (fun _ => c1001_61 f 64 ln 1 R186.2)) := by
  have i1 : cq_is 8 8 65 (S, G, m) = some () := if_pos (s65 hs)
  have i2 : cq_is 4 20 72 (S, G1, m) = some () := if_pos (s72 hs)
  unfold c1001_36
  rw [o_gr (y := 65) (s64 hs) (p64_0 hp), Option.bind_some, i1, Option.bind_some, e1, Option.bind_some, o_gr (y := 72) (s64 hs) (p64_1 hp1), Option.bind_some, i2, Option.bind_some]
theorem st_ch2 {w : Int} (hs : cSs S) (hp : cPs G) (h2 : G 72 2 = w) : c1001_61 f 64 ln 0 (S, G, m) = some (xwr (-1 - w), (S, xup2 G 65 1 0, m)) := by
  have z : ∀ a j, ¬ (a = 65 ∧ j = 1) → xup2 G 65 1 0 a j = G a j := fun a j y => xup2_n y
  unfold c1001_61
  rw [o_gr (y := 65) (s64 hs) (p64_0 hp), Option.bind_some, o_p (s65 hs), Option.bind_some, if_neg (fun z => z rfl), o_gr (y := 72) (s64 hs) (by rw [z _ _ (by omega)]; exact p64_1 hp), Option.bind_some, o_gi (s72 hs), Option.bind_some, z _ _ (by omega), h2]
theorem st_ch3 {k : Int} (hs : cSs S) (hp : cPs G) (ls : S ln = (1, 1, 14)) (hp2 : cPs G2) (e64 : c64 f 72 (S, xup2 G 65 1 0, m) = some (k, (S, G2, m))) : c1001_61 f 64 ln 1 (S, G, m) = if k = 0 then (if xwr (G2 ln 8 + G2 72 14) ≤ 400 then c1001_140 f f 64 ln 0 (S, G2, m) else some (-6000, (S, G2, m))) else some (xwr (-5000 - k), (S, xup2 G2 64 9 (G2 72 2), m)) := by
  have z : ∀ a j, ¬ (a = 65 ∧ j = 1) → xup2 G 65 1 0 a j = G a j := fun a j y => xup2_n y
  have i2 : cq_is 4 20 72 (S, xup2 G 65 1 0, m) = some () := if_pos (s72 hs)
  have g72 : cq_gr 11 1 17 64 (S, G2, m) = some 72 := o_gr (y := 72) (s64 hs) (p64_1 hp2)
  unfold c1001_61
  rw [o_gr (y := 65) (s64 hs) (p64_0 hp), Option.bind_some, o_p (s65 hs), Option.bind_some, if_pos (by decide), o_gr (y := 72) (s64 hs) (by rw [z _ _ (by omega)]; exact p64_1 hp), Option.bind_some, i2, Option.bind_some, e64, Option.bind_some]
  by_cases c : k = 0
  · rw [if_pos c, if_pos c, o_gi ls, Option.bind_some, g72, Option.bind_some, o_gi (s72 hs), Option.bind_some]
  · rw [if_neg c, if_neg c, g72, Option.bind_some, o_gi (s72 hs), Option.bind_some, o_p (s64 hs), Option.bind_some]
/-- change() -/
theorem k_ch {v pl' : Int} {lns' : Nat → sLn} (hf : 3100 < f) (h : cHs S G A (T, lns, hr, tx, kp, mt, pl, rf) n) (hb : (lns hr).2.1.1 + (lns hr).2.1.2.1 < 520) (hE4 : ∀ i, i < (lns hr).2.2.2.1.1.length → ((lns hr).2.2.2.1.1.getD i dPe).2.2.length ≤ 4) (hst : stCh T lns hr tx v pl' lns') : ∃ S' G' m', c1001 f 64 (S, G, (A, sl)) = some (v, (S', G', m')) ∧ (A ≤ m'.1 ∧ m'.1 ≤ A + 1 ∧ m'.2 ≤ sl + 6) ∧ (∀ a, a < A → S' a = S a) ∧ cHs S' G' m'.1 (T, lns', hr, [], kp, mt, pl', rf) (n + 1) := by
  obtain ⟨P, mp, b1, b2, _, b4, b5, b6, b7, b8, b9, b10⟩ := hs_ln h hb
  obtain ⟨⟨a1, a2, a3, a4⟩, ⟨P0, d1, d2, d3⟩, ⟨c1, c2⟩, ⟨c3, c4⟩, c5', c6', c7', c8', c9'⟩ := h
  obtain ⟨s, s1, s2, hv, hpl, hln⟩ := hst
  obtain ⟨⟨⟨l1, l2⟩, mps, l3, l4⟩, Lw, Le, ⟨s', Lp1, Lp2⟩, Lt, Lf⟩ := id (d2 hr c1)
  have es : s' = s := by
    rw [s1] at Lp1
    injection Lp1 with z
    exact z.symm
  subst es
  -- the program
  obtain ⟨m1, m2, _⟩ := l3 _ (Nat.le_add_right _ _) (Nat.le_refl _)
  have pE : P0 (lnE (lns hr)) ≠ 0 ∧ ∃ e : Nat, G (243 + 9 * hr) 7 = (e : Int) ∧ (if e = 0 then P0 (lMo (lns hr)).1 else e) = P0 (lnE (lns hr)) := by
    have pm : P0 (lMo (lns hr)).1 ≠ 0 := by
      obtain ⟨_, _, _, _, _, _, _, _, _, _, _, _, _, w, _⟩ := m2
      exact w
    unfold lnE
    rcases Le with ⟨e1, e2⟩ | ⟨e1, e2, e3⟩
    · rw [if_pos e1]
      exact ⟨pm, 0, e2, if_pos rfl⟩
    · rw [if_neg (by omega)]
      exact ⟨e2, _, e3, if_neg e2⟩
  obtain ⟨pE1, e0, pE2, pE3⟩ := pE
  obtain ⟨_, ⟨sx, nq, x1, x2, x3, x4, x5⟩, _⟩ := d1.1 _ pE1
  have es : sx = s' := by
    rw [s1] at x1
    injection x1 with z
    exact z.symm
  subst es
  obtain ⟨sm, Mm, ism⟩ := m2.is
  obtain ⟨rp, xr, cr, nqm, r1, _⟩ := m2.pm d1 ism
  have mpA : 64 < mps ((lns hr).2.1.1 + (lns hr).2.1.2.1) := by
    obtain ⟨_, _, _, _, _, _, _, _, _, _, _, _, _, _, ⟨w, _⟩, _⟩ := m2
    have := w.2
    omega
  obtain ⟨G0, hG0⟩ : ∃ G0, G0 = xup2 G 64 9 (-1) := ⟨_, rfl⟩
  have z0 : ∀ a j, ¬ (a = 64 ∧ j = 9) → G0 a j = G a j := fun a j y => by rw [hG0]; exact xup2_n y
  have p0 : cPs G0 := a2.ge (fun a j hz => z0 a j (by
      rcases hz with z | z | z | z | z | z | z | ⟨z, z1, z2, k, z3⟩ | z | z | z | ⟨k, z1, z2, z3⟩ <;> omega))
  have e1 := st_ch0 (f := f) (m := (A, sl)) a1 a2 c2 c1 pE2 (fun G' hz => k_5 b4 (lnPt_of' b5 (fun j => hz _ _ (by omega))) (by rw [hz _ _ (by omega)]; exact l1) hb (by rw [hz _ _ (by omega)]; exact m1)) r1.1 r1.2.1 (by omega)
  rw [pE3, ← hG0] at e1
  have t0 : cTx G0 (tBt tx) tx.length := c7'.ge (z0 _ _ (by omega)) (fun p => z0 _ _ (by omega))
  obtain ⟨G1, N, f1, f2, f3⟩ := k_112 (m := (A, sl)) a1 p0 t0 hf
  have p1 : cPs G1 := p0.tape (fun a j y1 y2 => f3 a j (by omega) (by omega))
  have t1 : cTx G1 (tBt tx) tx.length := t0.ge (f3 _ _ (by omega) (by omega)) (fun p => f3 _ _ (by omega) (by omega))
  have ev := cEv_of a1 p1 t1 f2
  have e2 := st_ch1 (f := f) (ln := 243 + 9 * hr) (q := P0 (lnE (lns hr))) a1 p0 p1 f1
  have z1 : ∀ a j, ¬ (a = 64 ∧ j = 9) → ¬ (65 ≤ a ∧ a ≤ 71) → G1 a j = G a j := fun a j y1 y2 => by rw [f3 a j (by omega) (by omega), z0 a j y1]
  have hq : 82 < P0 (lnE (lns hr)) := by omega
  have hN : N ≤ tx.length := f2.1
  have key := k_32 (f := f) (m := (A, sl)) (K := tx.length + 1) (q := P0 (lnE (lns hr))) (L := sx.1) (by omega) (tOk_of false t1.2.2.1) (by omega) ev hq x3.1 (x3.2.1.ge (fun j _ _ _ => z1 _ _ (by omega) (by omega))) (x3.2.2.1.ge (z1 _ _ (by omega) (by omega)) (fun j => z1 _ _ (by omega) (by omega)))
  have bu : ∀ a j, a ≠ 72 → bUp G1 (P0 (lnE (lns hr))) 0 a j = G1 a j := fun a j y => bUp_n a j (fun z => y z.1)
  -- what else stands
  have rest : ∀ (S' : Nat → Nat × Nat × Nat) (G' : xG_) (A' : Nat) (pl' : Int) (ps : List pPe), A ≤ A' → (∀ a, a < A → S' a = S a) → cPs G' → G' 65 1 = 0 → G' 64 9 = pl' → cPn G' (243 + 9 * hr) sx ps → (∀ a j, a < A → ¬ (a = 64 ∧ j = 9) → ¬ (65 ≤ a ∧ a ≤ 82) → ¬ (a = 243 + 9 * hr ∧ j = 8) → ¬ (243 + 9 * hr + 4 ≤ a ∧ a ≤ 243 + 9 * hr + 6) → G' a j = G a j) → cHs S' G' A' (T, lUp lns hr (lnP (lns hr) ps), hr, [], kp, mt, pl', rf) (n + 1) := fun S' G' A' pl' ps hA hS hp' h65 h9 hPn g => by
    have sf : xSf A G G' := fun a j y1 y2 => g a j y1 (by omega) (by omega) (by omega) (by omega)
    have zy : ∀ a j, 243 + 9 * hr ≤ a → a ≤ 243 + 9 * hr + 8 → ¬ (a = 243 + 9 * hr ∧ j = 8) → ¬ (243 + 9 * hr + 4 ≤ a ∧ a ≤ 243 + 9 * hr + 6) → G' a j = G a j := fun a j y1 y2 y3 y4 => g a j (by omega) (by omega) (by omega) y3 y4
    refine ⟨⟨fun k hk => by rw [hS _ (by omega)]; exact a1 k hk, hp', a3.ge (fun a j y1 y2 => g a j (by omega) (by omega) (by omega) (by omega) (by omega)), by omega⟩, ⟨P0, d1.ge hA hS sf (by rw [g _ _ (by omega) (by omega) (by omega) (by omega) (by omega)]; exact Int.le_refl _), fun y hy => ?_, ?_⟩, ⟨c1, by rw [g _ _ (by omega) (by omega) (by omega) (by omega) (by omega)]; exact c2⟩, ⟨by rw [g _ _ (by omega) (by omega) (by omega) (by omega) (by omega)]; exact c3, by rw [g _ _ (by omega) (by omega) (by omega) (by omega) (by omega)]; omega⟩, by rw [g _ _ (by omega) (by omega) (by omega) (by omega) (by omega)]; exact c5', h9, cTx.nil h65, c8'.ge (fun a y => hS a (by omega)) (fun a j y1 y2 => g a j (by omega) (by omega) (by omega) (by omega) (by omega)) ⟨g _ _ (by omega) (by omega) (by omega) (by omega) (by omega), g _ _ (by omega) (by omega) (by omega) (by omega) (by omega)⟩, c9'.ge ⟨g _ _ (by omega) (by omega) (by omega) (by omega) (by omega), g _ _ (by omega) (by omega) (by omega) (by omega) (by omega)⟩ (fun j => g _ _ (by omega) (by omega) (by omega) (by omega) (by omega))⟩
    · unfold lUp
      by_cases d : y = hr
      · subst d
        rw [if_pos rfl]
        obtain ⟨Yr, ⟨Yw, Yc⟩, Ye, _, Yt, Y3, Y4⟩ := d2 y hy
        exact ⟨Yr.ge hA hS sf ⟨zy _ _ (by omega) (by omega) (by omega) (by omega), zy _ _ (by omega) (by omega) (by omega) (by omega), fun j _ _ => zy _ _ (by omega) (by omega) (by omega) (by omega)⟩, ⟨fun p hp => by rw [zy _ _ (by omega) (by omega) (by omega) (by omega)]; exact Yw p hp, fun c hc => by rw [zy _ _ (by omega) (by omega) (by omega) (by omega)]; exact Yc c hc⟩, by rw [zy _ _ (by omega) (by omega) (by omega) (by omega)]; exact Ye, ⟨sx, s1, hPn⟩, Yt.ge hA hS sf (fun c _ => ⟨zy _ _ (by omega) (by omega) (by omega) (by omega), zy _ _ (by omega) (by omega) (by omega) (by omega)⟩), by rw [zy _ _ (by omega) (by omega) (by omega) (by omega)]; exact Y3, fun hne => by rw [zy _ _ (by omega) (by omega) (by omega) (by omega)]; exact Y4 hne⟩
      · rw [if_neg d]
        exact (d2 y hy).ge hA hS sf (fun a j y1 y2 => g a j (by omega) (by omega) (by omega) (by omega) (by omega))
    · unfold lUp
      rw [if_pos rfl]
      exact d3.ge hA hS sf ⟨g _ _ (by omega) (by omega) (by omega) (by omega) (by omega), g _ _ (by omega) (by omega) (by omega) (by omega) (by omega)⟩
  rw [hln, hpl, hv]
  unfold qChg
  cases hX : pCs (tstr (tBt tx) tx.length false) (tx.length + 1) [] 0 with
  | inl x =>
    rw [hX] at key
    obtain ⟨G2, g1, g2⟩ := key
    obtain ⟨S3, G3, q1, q2, q3⟩ := cWr_ex S G2 (A, sl) (x : Int)
    rw [g1, Option.bind_some, q1] at e2
    have fr : ∀ a j, a < A → ¬ (a = 64 ∧ j = 9) → ¬ (65 ≤ a ∧ a ≤ 82) → G3 a j = G a j := fun a j y1 y2 y3 => by
      rw [q3 a j y1, xup2_n (by omega), g2 a j (by omega) (by omega), bu a j (by omega), z1 a j y2 (by omega)]
    have s3 : cSs S3 := fun k hk => by rw [q2 _ (by show 64 + k < A; omega)]; exact a1 k hk
    have g9 : G3 64 9 = -1 := by
      rw [q3 _ _ (by show 64 < A; omega), xup2_n (by omega), g2 _ _ (by omega) (by omega), bu _ _ (by omega), f3 _ _ (by omega) (by omega), hG0, xup2_s]
    have p3 : cPs G3 := p1.ge (fun a j hz => by
      have hb : a < A ∧ ¬ (a = 72 ∧ (j = 1 ∨ j = 2 ∨ j = 3 ∨ j = 4 ∨ j = 9 ∨ j = 14)) ∧ ¬ (78 ≤ a ∧ a ≤ 82) := by
        rcases hz with z | z | z | z | z | z | z | ⟨z, z1, z2, k, z3⟩ | z | z | z | ⟨k, z1, z2, z3⟩ <;> omega
      rw [q3 a j hb.1, xup2_n (by omega), g2 a j (by omega) (by omega), bUp_n a j (by omega)])
    have st := st_ch2 (f := f) (ln := 243 + 9 * hr) (m := (A + 1, sl + 6)) s3 p3 (by rw [q3 _ _ (by show 72 < A; omega), xup2_s])
    have e2' : c1001_36 f 64 (243 + 9 * hr) (P0 (lnE (lns hr))) (S, G0, (A, sl)) = c1001_61 f 64 (243 + 9 * hr) 0 (S3, G3, (A + 1, sl + 6)) := e2
    refine ⟨S3, xup2 G3 65 1 0, (A + 1, sl + 6), (e1.trans e2').trans st, ⟨Nat.le_succ _, Nat.le_refl _, Nat.le_refl _⟩, q2, rest _ _ _ _ _ (Nat.le_succ _) q2 (p3.tape (fun a j y1 y2 => xup2_n (by omega))) (xup2_s _ _ _ _) (by rw [xup2_n (by omega)]; exact g9) ?_ (fun a j y1 y2 y3 _ _ => by rw [xup2_n (by omega)]; exact fr a j y1 y2 y3)⟩
    exact Lp2.ge (fun a j y1 y2 => by rw [xup2_n (by omega)]; exact fr a j (by omega) (by omega) (by omega))
  | inr cs =>
    rw [hX] at key
    obtain ⟨G2, g1, g2, g3, g4⟩ := key
    rw [g1, Option.bind_some] at e2
    have e2' : c1001_36 f 64 (243 + 9 * hr) (P0 (lnE (lns hr))) (S, G0, (A, sl)) = c1001_61 f 64 (243 + 9 * hr) 1 (S, G2, (A, sl)) := e2
    have fr2 : ∀ a j, ¬ (a = 64 ∧ j = 9) → ¬ (65 ≤ a ∧ a ≤ 82) → G2 a j = G a j := fun a j y2 y3 => by
      rw [g2 a j (by omega) (by omega), bu a j (by omega), z1 a j y2 (by omega)]
    have g9 : G2 64 9 = -1 := by
      rw [g2 _ _ (by omega) (by omega), bu _ _ (by omega), f3 _ _ (by omega) (by omega), hG0, xup2_s]
    have p2 : cPs G2 := p1.ge (fun a j hz => by
      have hb : ¬ (a = 72 ∧ (j = 1 ∨ j = 2 ∨ j = 3 ∨ j = 4 ∨ j = 9 ∨ j = 14)) ∧ ¬ (78 ≤ a ∧ a ≤ 82) := by
        rcases hz with z | z | z | z | z | z | z | ⟨z, z1, z2, k, z3⟩ | z | z | z | ⟨k, z1, z2, z3⟩ <;> omega
      rw [g2 a j (by omega) (by omega), bUp_n a j (by omega)])
    have zt : ∀ a j, ¬ (a = 65 ∧ j = 1) → xup2 G2 65 1 0 a j = G2 a j := fun a j y => xup2_n y
    have p2' : cPs (xup2 G2 65 1 0) := p2.tape (fun a j y1 y2 => xup2_n (by omega))
    have h723 : G2 72 3 = ((P0 (lnE (lns hr)) : Nat) : Int) := by
      obtain ⟨w1, _⟩ := bUp_s (G := G1) (q := P0 (lnE (lns hr))) (b := 0)
      rw [g2 _ _ (by omega) (by omega)]
      exact w1
    obtain ⟨G4, k1, k2, k3⟩ := k_64c (f := f) (m := (A, sl)) (s := sx) (cs := cs) (q := P0 (lnE (lns hr))) (by omega) a1 x2.1.1 (by omega) hq x3.1 p2' (x3.2.1.ge (fun j _ _ _ => by rw [zt _ _ (by omega), fr2 _ _ (by omega) (by omega)])) (by rw [zt _ _ (by omega)]; exact h723) (g3.ge (fun a j y1 y2 => zt _ _ (by omega))) (fun p hp => by rw [zt _ _ (by omega), zt _ _ (by omega), zt _ _ (by omega), fr2 _ _ (by omega) (by omega), fr2 _ _ (by omega) (by omega), fr2 _ _ (by omega) (by omega)]; exact x3.2.2.2.2.1 p hp) (fun p hp => by rw [zt _ _ (by omega), fr2 _ _ (by omega) (by omega)]; exact x3.2.2.2.1 p hp)
    have p4 : cPs G4 := p2'.ge (fun a j hz => k2 a j (by
      rcases hz with z | z | z | z | z | z | z | ⟨z, z1, z2, k, z3⟩ | z | z | z | ⟨k, z1, z2, z3⟩ <;> omega))
    have fr4 : ∀ a j, ¬ (a = 64 ∧ j = 9) → ¬ (65 ≤ a ∧ a ≤ 82) → G4 a j = G a j := fun a j y2 y3 => by
      rw [k2 a j (by omega), zt a j (by omega), fr2 a j y2 y3]
    have h65 : G4 65 1 = 0 := by rw [k2 _ _ (by omega), xup2_s]
    have h9 : G4 64 9 = -1 := by rw [k2 _ _ (by omega), zt _ _ (by omega)]; exact g9
    have e3 := st_ch3 (f := f) (ln := 243 + 9 * hr) a1 p2 b4.1 p4 k1
    have Lp4 : cPn G4 (243 + 9 * hr) sx (lns hr).2.2.2.1.1 := Lp2.ge (fun a j y1 y2 => fr4 a j (by omega) (by omega))
    dsimp only
    by_cases q0 : (qCk sx 0 cs).1 ≠ 0
    · rw [if_neg q0] at e3
      rw [if_pos q0]
      refine ⟨S, xup2 G4 64 9 (G4 72 2), (A, sl), (e1.trans e2').trans e3, ⟨Nat.le_refl _, Nat.le_succ _, Nat.le_add_right _ _⟩, (fun _ _ => rfl), rest _ _ _ _ _ (Nat.le_refl _) (fun _ _ => rfl) (p4.ge (fun a j hz => xup2_n (by
        rcases hz with z | z | z | z | z | z | z | ⟨z, z1, z2, k, z3⟩ | z | z | z | ⟨k, z1, z2, z3⟩ <;> omega))) (by rw [xup2_n (by omega)]; exact h65) (by rw [xup2_s]; exact k3 q0) (Lp4.ge (fun a j y1 y2 => xup2_n (by omega))) (fun a j y1 y2 y3 _ _ => by rw [xup2_n y2]; exact fr4 a j y2 y3)⟩
    · rw [if_neg q0]
      have q0' : (qCk sx 0 cs).1 = 0 := Classical.byContradiction q0
      rw [if_pos q0'] at e3
      have c4' : cCs G4 sx.1 cs := by
        refine ⟨by rw [k2 _ _ (by omega), zt _ _ (by omega)]; exact g3.1, fun k hk => ?_⟩
        obtain ⟨w1, w2, w3, w4, w5, w6⟩ := g3.2 k hk
        have y : ∀ a j, 78 ≤ a → a ≤ 82 → G4 a j = G2 a j := fun a j y1 y2 => by rw [k2 a j (by omega), zt a j (by omega)]
        exact ⟨by rw [y _ _ (by omega) (by omega)]; exact w1, by rw [y _ _ (by omega) (by omega)]; exact w2, by rw [y _ _ (by omega) (by omega)]; exact w3, by rw [y _ _ (by omega) (by omega)]; exact w4, w5, fun j hj => by rw [y _ _ (by omega) (by omega)]; exact w6 j hj⟩
      have l4' := Lp4.2.1
      have ew : xwr (G4 (243 + 9 * hr) 8 + G4 72 14) = (((lns hr).2.2.2.1.1.length + cs.length : Nat) : Int) := by
        rw [Lp4.1, c4'.1, xwr_g _ (by omega) (by omega)]
        omega
      rw [ew] at e3
      by_cases q1 : 400 < (lns hr).2.2.2.1.1.length + cs.length
      · rw [if_pos q1]
        rw [if_neg (by omega)] at e3
        exact ⟨S, G4, (A, sl), (e1.trans e2').trans e3, ⟨Nat.le_refl _, Nat.le_succ _, Nat.le_add_right _ _⟩, (fun _ _ => rfl), rest _ _ _ _ _ (Nat.le_refl _) (fun _ _ => rfl) p4 h65 h9 Lp4 (fun a j y1 y2 y3 _ _ => fr4 a j y2 y3)⟩
      · rw [if_neg q1]
        rw [if_pos (by omega)] at e3
        have hq0 : ∀ k, k < cs.length → qCq sx (cs.getD k dCh) = 0 := by
          rcases qCk_1 (s := sx) cs (-1) with ⟨w, _⟩ | ⟨j, j1, j2, _, j4⟩
          · exact w
          · exact absurd (by rw [← q0']; unfold qCk; rw [j4]) j2
        obtain ⟨G5, u1, u2, u3, u4⟩ := k_1001l (f := f) (m := (A, sl)) (cs := cs) (s := sx) a1 c1 x2.1 (by omega) hq0 cs.length 0 f G4 (lns hr).2.2.2.1.1 (by omega) (by omega) p4 c4' Lp4 hE4 (by omega)
        refine ⟨S, G5, (A, sl), ((e1.trans e2').trans e3).trans u1, ⟨Nat.le_refl _, Nat.le_succ _, Nat.le_add_right _ _⟩, (fun _ _ => rfl), rest _ _ _ _ _ (Nat.le_refl _) (fun _ _ => rfl) u2 (by rw [u4 _ _ (by omega) (by omega)]; exact h65) (by rw [u4 _ _ (by omega) (by omega)]; exact h9) u3 (fun a j y1 y2 y3 y4 y5 => by rw [u4 a j y4 y5]; exact fr4 a j y2 y3)⟩
end
end
section
/-! THE CLASS: round(): its rows -/
section
variable {s so : pPg} {In A B R Mo : Nat → List pRw} {O : List Nat} {ch wk rg : Nat} {fr : Prop}
theorem dn_same (hw : wPg s) (hT : qTb s R) (hA : qTb s A) (h : dnR s R rg) (h' : dnR s A rg) (hr : ∀ p, p < s.1.length → rgR s rg p → qK s p ≠ rg → vEq (R p) (A p)) : ∀ p, p < s.1.length → qK s p = rg → R p = A p := by
  obtain ⟨M', eM⟩ : ∃ M' : Nat → List pRw, M' = fun p => if qK s p = rg then A p else R p := ⟨_, rfl⟩
  have m1 : ∀ p, qK s p = rg → M' p = A p := fun p q => by rw [eM]; exact if_pos q
  have m2 : ∀ p, qK s p ≠ rg → M' p = R p := fun p q => by rw [eM]; exact if_neg q
  have hM : qTb s M' := fun p hp => by
    by_cases q : qK s p = rg
    · rw [m1 p q]; exact hA p hp
    · rw [m2 p q]; exact hT p hp
  have hd : dnR s M' rg := dnR_cv hw hA hM (fun p _ q => (m1 p q).symm) (fun p hp r q => by rw [m2 p q]; exact (hr p hp r q).symm) h'
  obtain ⟨R0, c1, c2, c3⟩ := h
  obtain ⟨R0', d1, d2, d3⟩ := hd
  have hag : ∀ q, q < s.1.length → (qK s q = rg ∨ rgR s rg q) → R0 q = R0' q := fun q hq _ => by
    by_cases cq : qK s q = rg
    · rw [c2 q hq cq, d2 q hq cq]
    · rw [c1 q hq cq, d1 q hq cq, m2 q cq]
  obtain ⟨R'', e1, e2⟩ := wkE_cg hw (dnR.srt hT c1 c2) (dnR.srt hM d1 d2) hag c3
  intro p hp hk
  rw [← e2 p hp hk, ← m1 p hk]
  exact wkE_det (fun y hy => rgR_lt hw hy) e1 d3 p hp
/-- which predicates a round works -/
theorem wk_iff (hw : wPg s) (hO : oRd s O) (h : rgI s fr In A B R O O.length ch wk) (hT : qTb s R) (hB : ¬ fr → qTb s A ∧ ∀ p, p < s.1.length → pIn s.2.1 (p : Int) = false → dnR s A (qK s p)) (j : Nat) : wk.testBit j = true ↔ j < s.1.length ∧ qWc s fr (fun p => p < s.1.length ∧ ¬ vEq (R p) (A p)) j := by
  obtain ⟨h1, h2, h3, h4, h5⟩ := h
  have all : ∀ p, p < s.1.length → qK s p ∈ O.take O.length := fun p hp => by
    rw [List.take_length]
    exact hO.2.2.2 _ (qK_lt hp) (qK_id hw hp)
  rw [h5 j]
  constructor
  · rintro ⟨a1, a2, a3, a4⟩
    refine ⟨a1, a2, ?_⟩
    rcases a4 with z | ⟨x, x1, x2, x3⟩
    · exact .inl z
    · obtain ⟨p, p1, p2, p3⟩ := (rgR_rd hw).mp x1
      exact .inr ⟨p, p1, p2, x, rgR_lt hw x1, p3, rgR_lt hw x1, x3⟩
  · rintro ⟨a1, a2, a3⟩
    refine ⟨a1, a2, all j a1, ?_⟩
    rcases a3 with z | ⟨z, z1, z2, x, x1, x2, x3, x4⟩
    · exact .inl z
    · by_cases hf : fr
      · exact .inl hf
      · right
        have hx : rgR s (qK s j) x := (rgR_rd hw).mpr ⟨z, z1, z2, x2⟩
        by_cases q : qK s x = qK s j
        · refine Classical.byContradiction fun hn => x4 ?_
          have := dn_same hw hT (hB hf).1 (h2 j a1 a2 (all j a1)) ((hB hf).2 j a1 a2) (fun p hp r k => Classical.byContradiction fun hv => hn ⟨p, r, k, hv⟩) x x3 q
          rw [this]
          rfl
        · exact ⟨x, hx, q, x4⟩
theorem ch_iff (hw : wPg s) (hO : oRd s O) (h : rgI s fr In A B R O O.length ch wk) : ∀ j, j < s.1.length → (ch.testBit j = true ↔ ¬ vEq (R j) (A j)) := fun j hj => by
  rw [h.2.2.2.1 j]
  have : qK s j ∈ O.take O.length := by
    rw [List.take_length]
    exact hO.2.2.2 _ (qK_lt hj) (qK_id hw hj)
  exact ⟨fun z => z.2.2, fun z => ⟨hj, .inr this, z⟩⟩
theorem bg_ah {tk : Int} {Ri : Nat → List pRw} (hs : tk = 0 → s = so) (h : ∀ p, p < s.1.length → bgR so s Mo tk p (A p) (Ri p)) : isAh so s Mo A := fun p hp => by
  rcases h p hp with ⟨a, b, _⟩ | ⟨_, r, r1, r2, r3, r4, _⟩ | ⟨_, r1, r2, _⟩
  · have e := hs a
    subst e
    exact .inl ⟨p, hp, rfl, rfl, b⟩
  · exact .inl ⟨r, r1, r2, r3, r4⟩
  · exact .inr ⟨r1, r2⟩
theorem ky_no {p : Nat} (h : pIn s.2.1 (p : Int) = false) : qKy s p = 0 := by
  unfold qKy pKy
  unfold pIn at h
  cases hq : s.2.1.find? (fun x => decide (x.1 = (p : Int))) with
  | none => rfl
  | some y =>
    exfalso
    have h1 := List.find?_some hq
    have h2 := List.mem_of_find?_eq_some hq
    have : s.2.1.any (fun x => decide (x.1 = (p : Int))) = true := List.any_eq_true.mpr ⟨y, h2, h1⟩
    rw [this] at h
    cases h
end
end
section
/-! THE CLASS: round(): begin, tell, rings -/
section
variable {f A q qo kk mp rp r : Nat} {S : Nat → Nat × Nat × Nat} {G : xG_} {m : Nat × Nat} {s so : pPg} {xr cr : Nat → Nat} {Mo R0 R : Nat → List pRw} {F : List pFc} {E : List pPe} {tk : Int} {fr : Prop}
theorem rd_rows (hf : 100003010 < f) (hs : cSs S) (hp : cPs G) (hem : cEm G) (hkk : kk < 4) (h1 : G (243 + 9 * kk) 1 = (r : Int)) (hr : r + 1 < 520) (hmp : 203 < mp) (hrp : 203 < rp) (hq : 226 < q) (hqo : 226 < qo) (hoks : qOc s) (hoko : qOc so) (htk : G q 0 = G qo 0 ∧ tk = 0 ∧ s = so ∨ G q 0 ≠ G qo 0 ∧ tk = 1) (hP : cPgm S G q A s) (ho : cPgm S G qo A so) (hM : cMr S G A mp qo rp so xr cr Mo) (hMo : okM8 so Mo) (hPn : cPn G (243 + 9 * kk) s E) (hst : qSt1 so Mo) (hF : qFa so Mo F) (huk : ukM so Mo) (hfr : fr ↔ tk = 1) (hR0 : qR0 so s fr F R0) (hR : chA s E R0 R) (hvE : ∀ e ∈ E, ∀ x ∈ e.2.2, vOk x) (hxr : ∀ p, p < so.1.length → xr p + 2 < 216 ∨ 555 < xr p) :
    ∃ v G', c173_43 f 64 (243 + 9 * kk) mp tk q (S, G, m) = c173_127 f 64 (243 + 9 * kk) mp tk v (S, G', m) ∧ (∀ a j, a < 83 ∨ 203 < a → G' a j = G a j) ∧ cPs G' ∧ ((v = 0 ∧ ¬ ∃ M, qMod s R M) ∨ (v = 1 ∧ ∃ (xp cp yp ap : Nat → Nat) (R' A0 : Nat → List pRw) (ch wk : Nat), cWk S G' q A s xp cp R' ∧ cAh S G' A s yp ap A0 ∧ isAh so s Mo A0 ∧ (tk = 0 → ∀ p, p < s.1.length → A0 p = Mo p) ∧ G' 93 13 = (ch : Int) ∧ ch < 2 ^ 16 ∧ G' 93 14 = (wk : Int) ∧ wk < 2 ^ 16 ∧ qMod s R R' ∧ (∀ j, j < s.1.length → (ch.testBit j = true ↔ ¬ vEq (R' j) (A0 j))) ∧ (∀ j, ch.testBit j = true → j < s.1.length) ∧ (∀ j, wk.testBit j = true ↔ j < s.1.length ∧ qWc s fr (fun p => p < s.1.length ∧ ¬ vEq (R' p) (A0 p)) j) ∧ (∀ p, p < s.1.length → (203 < xp p → xp p + 2 < 216 ∨ 555 < xp p) ∧ (yp p + 2 < 216 ∨ 555 < yp p)) ∧ ∀ p, p < s.1.length → pIn s.2.1 (p : Int) = true → ∀ w ∈ R' p, w.2 = 0)) := by
  have hw := hoks.1.1
  have htk2 : tk = 0 ∧ s = so ∨ tk = 1 := by
    rcases htk with z | z
    · exact .inl z.2
    · exact .inr z.2
  have htk01 : tk = 0 ∨ tk = 1 := by
    rcases htk2 with z | z
    · exact .inl z.1
    · exact .inr z
  have hs0 : tk = 0 → s = so := fun z => by
    rcases htk2 with y | y
    · exact y.2
    · omega
  obtain ⟨G1, xp, cp, yp, ap, Ri, A0, b1, b2, b3, b4, b5, b6, b7, b8, b9⟩ := k_145 (f := f) (m := m) (tk := tk) (by omega) hs hp hem hmp hrp hq hqo hoks hoko htk hP ho hM hMo
  have z1 : ∀ a j, a < 83 ∨ 203 < a → G1 a j = G a j := fun a j y => b2 a j (by omega) (by omega) (by omega)
  -- rows of INPUTS
  have e0 : ∀ p, p < s.1.length → pIn s.2.1 (p : Int) = true → R0 p = Ri p := fun p hp hi => bg_R0 hoko.1 hoks.1 hst hF hfr htk2 hR0 hp hi (b8 p hp)
  have r0ok : ∀ p, p < s.1.length → pIn s.2.1 (p : Int) = true → (R0 p).Pairwise rwLt ∧ ∀ y ∈ R0 p, y.2 = 0 ∧ ∀ x ∈ y.1, vOk x := fun p hp hi => by
    have key : ∀ {cd : Nat → Prop}, qFt s cd F R0 → (R0 p).Pairwise rwLt ∧ ∀ y ∈ R0 p, y.2 = 0 ∧ ∀ x ∈ y.1, vOk x := fun {cd} h => by
      obtain ⟨a1, _, a2⟩ := h p hp
      refine ⟨a1, fun y hy => ?_⟩
      obtain ⟨_, w2, w3, _⟩ := (a2 y).mp hy
      refine ⟨w2, fun x hx => ?_⟩
      obtain ⟨p', p1, _, w, w4, w5⟩ := (hF.2 _).mp w3
      exact (hMo p' p1).2.2.1 w w4 x (by rw [w5]; exact hx)
    rcases hR0 with ⟨_, h⟩ | ⟨_, h⟩
    · exact key h
    · exact key h
  have riok : ∀ p, p < s.1.length → (Ri p).Pairwise rwLt ∧ ∀ y ∈ Ri p, (∀ x ∈ y.1, vOk x) ∧ 0 ≤ y.2 ∧ y.2 ≤ 1700 := fun p hp => by
    obtain ⟨_, _, _, w1, w2, w3, w4⟩ := b6.2 p hp
    exact ⟨w1, fun y hy => ⟨w3 y hy, w4 y hy⟩⟩
  obtain ⟨Rf, eRf⟩ : ∃ Rf : Nat → List pRw, Rf = fun p : Nat => if pIn s.2.1 (p : Int) = true then R p else Ri p := ⟨_, rfl⟩
  have rf1 : ∀ p : Nat, pIn s.2.1 (p : Int) = true → Rf p = R p := fun p h => by rw [eRf]; exact if_pos h
  have rf2 : ∀ p : Nat, pIn s.2.1 (p : Int) = false → Rf p = Ri p := fun p h => by rw [eRf]; exact if_neg (by rw [h]; decide)
  have hA1 : ∀ j, j < s.1.length → chA1 s j E (Ri j) (Rf j) := fun j hj => by
    cases hi : pIn s.2.1 (j : Int) with
    | true => rw [rf1 j hi, ← e0 j hj hi]; exact chA1_of hR j hj
    | false => rw [rf2 j hi]; exact chA1_no hi (riok j hj).1 E
  have ukr := ukM.r0 hoko.1 hF huk (fun z => hs0 (by rcases htk01 with y | y; exact y; exact absurd (hfr.mpr y) z)) hR0
  have hU : ∀ j, j < s.1.length → kU (qKy s j) (Ri j) := fun j hj hk a ha b hb e => by
    cases hi : pIn s.2.1 (j : Int) with
    | true =>
      rw [← e0 j hj hi] at ha hb
      exact rw_one (r0ok j hj hi).1 ha hb (ukr j hj hi hk a ha b hb e)
    | false => rw [ky_no hi] at hk; omega
  have hRf : ∀ j, j < s.1.length → ∀ y ∈ Rf j, (∀ x ∈ y.1, vOk x) ∧ 0 ≤ y.2 ∧ y.2 ≤ 1700 := fun j hj y hy => by
    cases hi : pIn s.2.1 (j : Int) with
    | true =>
      have := (hA1 j hj).ok hvE (by rw [← e0 j hj hi]; exact (r0ok j hj hi).2) y hy
      exact ⟨this.2, by omega, by omega⟩
    | false => rw [rf2 j hi] at hy; exact (riok j hj).2 y hy
  have pn1 : cPn G1 (243 + 9 * kk) s E := hPn.ge (fun a j y1 y2 => z1 a j (by omega))
  obtain ⟨v, G2, c1, ⟨c2, c2'⟩, c3, c4⟩ := k_146 (f := f) (m := m) (q := q) (nx := A) (yp := yp) (ap := ap) (A := A0) (by omega) hkk hA1 hU hRf (fun j hj hi => rf2 j hi) s.1.length 0 f G1 xp cp Ri 0 (by omega) (by have := hw.1; omega) b6 b7 pn1 (fun j hj => absurd hj (Nat.not_lt_zero j)) (fun j _ _ => rfl) b4 (by decide) (fun j => ⟨fun z => (by rw [Nat.zero_testBit] at z; cases z), fun z => absurd z.1 (Nat.not_lt_zero j)⟩)
  have e146 : c146 f 93 (243 + 9 * kk) (S, G1, m) = some (v, (S, G2, m)) := c1
  have z2 : ∀ a j, a < 83 ∨ 203 < a → G2 a j = G a j := fun a j y => by rw [c2 a j (by omega) (by omega) (by omega) (by omega) (by omega), z1 a j y]
  have ls := lnSt_of hs hkk
  have st := sw_173b (f := f) (m := m) (m1 := m) (x3 := tk) (r := r) (b := v) (T := (S, G2, m)) hs hp hs b3 (s93 hs) (s93 hs) ls.1 b1 (by rw [z1 _ _ (by omega)]; exact h1) (by omega) (fun _ => e146)
  rw [if_pos hr] at st
  -- what a model says of rows of INPUTS
  have mod_in : ∀ {M : Nat → List pRw}, qMod s Rf M ↔ qMod s R M := fun {M} => ⟨fun h => ⟨h.1, fun p hp hi => by rw [h.2.1 p hp hi]; exact rf1 p hi, h.2.2⟩, fun h => ⟨h.1, fun p hp hi => by rw [h.2.1 p hp hi]; exact (rf1 p hi).symm, h.2.2⟩⟩
  obtain ⟨f', ef⟩ : ∃ t, f = t + 1 := ⟨f - 1, by omega⟩
  rcases c4 with ⟨v0, j, j1, j2, j3⟩ | ⟨v1, xp', cp', ch', w0, w1, w2, w3, w4⟩
  · refine ⟨0, G2, ?_, z2, c3, .inl ⟨rfl, fun ⟨M, hMm⟩ => ?_⟩⟩
    · rw [st, if_pos v0]
      have := sw_173z (f := f) (ln := 243 + 9 * kk) (mo := mp) (q := q) (x3 := tk) (x6 := 0) (fu := f') (T := (S, G2, m))
      rw [← ef] at this
      exact this
    · have := (hMm.1 j j1).1
      rw [hMm.2.1 j j1 j2, ← rf1 j j2] at this
      omega
  · rw [if_neg (by omega)] at st
    obtain ⟨O, hO, hOr⟩ := oRd_of w1.1.2.2.2.2.1
    have ah2 : cAh S G2 A s yp ap A0 := b7.ge (fun j => c2 _ _ (by omega) (by omega) (by omega) (by omega) (by omega)) (fun a j y => c2 a j (by omega) (by omega) (by omega) (by omega) (by omega))
    have hB : ¬ fr → qTb s A0 ∧ ∀ p, p < s.1.length → pIn s.2.1 (p : Int) = false → dnR s A0 (qK s p) ∧ Rf p = A0 p := fun hnf => by
      have t0 : tk = 0 := by
        rcases htk01 with y | y
        · exact y
        · exact absurd (hfr.mpr y) hnf
      have es := hs0 t0
      subst es
      have eA : ∀ p, p < s.1.length → A0 p = Mo p ∧ Ri p = Mo p := fun p hp => by
        rcases b8 p hp with ⟨_, y1, y2⟩ | ⟨y, _⟩ | ⟨y, _⟩
        · exact ⟨y1, y2⟩
        · omega
        · omega
      have tA : qTb s A0 := fun p hp => by rw [(eA p hp).1]; exact hst.1.1 p hp
      refine ⟨tA, fun p hp hi => ⟨?_, by rw [rf2 p hi, (eA p hp).1, (eA p hp).2]⟩⟩
      exact dnR_cv hw hst.1.1 tA (fun p' hp' _ => (eA p' hp').1.symm) (fun p' hp' _ _ => by rw [(eA p' hp').1]; rfl) (hst.1.2.2 p hp hi)
    have h14 : G2 93 14 = ((0 : Nat) : Int) := by rw [c2']; exact b5
    obtain ⟨v', G3, d1, d2, d3, d4⟩ := k_173r (f := f) (m := m) (ln := 243 + 9 * kk) (mp := mp) (S := S) (q := q) (nx := A) (yp := yp) (ap := ap) (tk := tk) (fr := fr) (In := Rf) (A := A0) (B := Rf) hf hO htk01 hfr hB O.length 0 f G2 xp' cp' Rf ch' 0 (by omega) (by
      have : O.length ≤ 16 := by
        have := nodup_len O (List.range s.1.length) hO.1 (fun x hx => List.mem_range.mpr (hO.2.1 x hx).1)
        rw [List.length_range] at this
        have := hw.1
        omega
      omega) w1 ah2 hOr w2 w3 h14 (by decide) ⟨fun _ _ _ => rfl, fun p _ _ hm => absurd hm (by rw [List.take_zero]; exact List.not_mem_nil), fun _ _ _ _ => rfl, fun j => by
        rw [w4 j, List.take_zero]
        exact ⟨fun z => ⟨z.1, .inl z.2.1, z.2.2⟩, fun z => ⟨z.1, z.2.1.resolve_right List.not_mem_nil, z.2.2⟩⟩, fun j => by
        rw [Nat.zero_testBit, List.take_zero]
        exact ⟨fun z => (by cases z), fun z => absurd z.2.2.1 List.not_mem_nil⟩⟩
    have z3 : ∀ a j, a < 83 ∨ 203 < a → G3 a j = G a j := fun a j y => by rw [d2 a j (by omega) (by omega) (by omega) (by omega) (by omega), z2 a j y]
    refine ⟨v', G3, st.trans d1, z3, d3, ?_⟩
    rcases d4 with ⟨y1, y2⟩ | ⟨y1, xp3, cp3, R3, ch3, wk3, y0, y2, y3, y4, y5, y6, y7⟩
    · exact .inl ⟨y1, fun ⟨M, hMm⟩ => y2 ⟨M, mod_in.mpr hMm⟩⟩
    · have tb3 : qTb s R3 := fun p hp => by
        obtain ⟨_, _, q3, q4, q5, q6, _⟩ := y2.2 p hp
        refine ⟨q5, q4, fun w hw => ⟨?_, q6 w hw⟩⟩
        obtain ⟨i, hi, e⟩ := List.getElem_of_mem hw
        have := (q3.2.2.2.2.2.2.2 i hi).1
        rw [getD_e hi, e] at this
        exact this
      refine .inr ⟨y1, xp3, cp3, yp, ap, R3, A0, ch3, wk3, y2, ah2.ge (fun j => d2 _ _ (by omega) (by omega) (by omega) (by omega) (by omega)) (fun a j y => d2 a j (by omega) (by omega) (by omega) (by omega) (by omega)), bg_ah hs0 b8, fun t0 p hp => ?_, y3, y4, y5, y6, mod_in.mp (rgI.done hw hO y7 tb3), ch_iff hw hO y7, fun j hj => ((y7.2.2.2.1 j).mp hj).1, fun j => wk_iff hw hO y7 tb3 (fun hnf => ⟨(hB hnf).1, fun p hp hi => ((hB hnf).2 p hp hi).1⟩) j, fun p hp => ⟨fun h203 => ?_, ?_⟩, fun p hp hi w hw => ?_⟩
      · rcases b8 p hp with ⟨_, q1, q2⟩ | ⟨q, _⟩ | ⟨q, _⟩
        · exact q1
        · omega
        · omega
      · have hnp := hw.1
        rcases (w0.tr y0) p hp with z | z
        · rw [z]
          rcases (b9 p hp).1 with ⟨r, r1, r2⟩ | q
          · rw [r2]; exact hxr r r1
          · exact .inl q
        · rw [z] at h203; omega
      · rcases (b9 p hp).2 with ⟨r, r1, r2⟩ | q
        · rw [r2]; exact hxr r r1
        · exact .inl q
      · have e1 : R3 p = Rf p := y7.1 p hp hi
        rw [e1] at hw
        exact ((hA1 p hp).ok hvE (by rw [← e0 p hp hi]; exact (r0ok p hp hi).2) w hw).1
end
end
