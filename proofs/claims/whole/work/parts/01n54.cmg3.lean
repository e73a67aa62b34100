section
/-! THE CLASS: merge() in the house -/
section
variable {f A hr n sl : Nat} {S : Nat → Nat × Nat × Nat} {G : xG_} {T : List (List Int)} {P : Nat → Nat} {lns lns' : Nat → sLn} {tx : List Int} {kp : Nat × List (List Int)} {mt mt' : Int × List Int} {pl rf : Int}
theorem cMr.al {A' mp q rp : Nat} {S' : Nat → Nat × Nat × Nat} {G' : xG_} {s : pPg} {xr cr : Nat → Nat} {M : Nat → List pRw} (h : cMr S G A mp q rp s xr cr M) (hA : A ≤ A') (hS : ∀ a, a < A → S' a = S a) (hG : ∀ a j, a < A → G' a j = G a j) (hm : mp < A) (hr : rp < A) : cMr S' G' A' mp q rp s xr cr M := by
  obtain ⟨h1, h2, h3, h4, h5⟩ := h
  refine ⟨by rw [hS _ hm]; exact h1, by rw [hG _ _ hm]; exact h2, by rw [hG _ _ hm]; exact h3, by rw [hS _ hr]; exact h4, fun p hp => ?_⟩
  obtain ⟨p1, p2, p3⟩ := h5 p hp
  exact ⟨by rw [hG _ _ hr]; exact p1, by omega, p3.ge (fun b _ _ => hS b (by omega)) (fun j => hG _ _ (by omega)) (fun j => hG _ _ (by omega)) (fun j => hG _ _ (by omega))⟩
theorem lUp_p {lns : Nat → sLn} {hr : Nat} : lUp lns hr (lnP (lns hr) (lns hr).2.2.2.1.1) = lns := by
  funext y
  unfold lUp
  by_cases c : y = hr
  · rw [if_pos c, c]; rfl
  · rw [if_neg c]
theorem k_189 {k v : Int} (hf : 1100 < f) (h : cHs S G A (T, lns, hr, tx, kp, mt, pl, rf) n) (hb : ∀ y, y < 4 → (lns y).2.1.1 + (lns y).2.1.2.1 < 520) (hE4 : ∀ i, i < (lns hr).2.2.2.1.1.length → ((lns hr).2.2.2.1.1.getD i dPe).2.2.length ≤ 4) (hst : stMg T lns hr k mt v mt' lns') : ∃ S' G' m', c189 f 64 k (S, G, (A, sl)) = some (v, (S', G', m')) ∧ (A ≤ m'.1 ∧ m'.1 ≤ A + 48 ∧ m'.2 ≤ sl + 192) ∧ (∀ a, a < A → S' a = S a) ∧ cHs S' G' m'.1 (T, lns', hr, tx, kp, mt', pl, rf) (n + 1) := by
  have hh := h
  obtain ⟨⟨a1, a2, a3, a4⟩, ⟨P, d1, d2, d3⟩, ⟨c1, c2⟩, ⟨c3, c4⟩, c5', c6', c7', c8', c9'⟩ := h
  have ls := lnSt_of a1 c1
  have lp := lnPt_of a2 c1
  have g5 : cq_gr 11 5 17 64 (S, G, (A, sl)) = some 220 := o_gr (y := 220) (s64 a1) (p64_5 a2)
  have g6 : cq_gi 11 6 17 64 (S, G, (A, sl)) = some (hr : Int) := by rw [o_gi (s64 a1), c2]
  have ga : ∀ y : Nat, y < 4 → cq_ar 220 (y : Int) (S, G, (A, sl)) = some (243 + 9 * y) := fun y hy => o_ar (s220 a1) (by decide) hy (p_ln a2 hy)
  have il : ∀ y : Nat, y < 4 → cq_is 1 14 (243 + 9 * y) (S, G, (A, sl)) = some () := fun y hy => if_pos (lnSt_of a1 hy).1
  have same : ∀ w : Int, c189 f 64 k (S, G, (A, sl)) = some (w, (S, G, (A, sl))) → v = w → mt' = mt → lns' = lns → ∃ S' G' m', c189 f 64 k (S, G, (A, sl)) = some (v, (S', G', m')) ∧ (A ≤ m'.1 ∧ m'.1 ≤ A + 48 ∧ m'.2 ≤ sl + 192) ∧ (∀ a, a < A → S' a = S a) ∧ cHs S' G' m'.1 (T, lns', hr, tx, kp, mt', pl, rf) (n + 1) := fun w e1 e2 e3 e4 => by
    rw [e2, e3, e4]
    exact ⟨S, G, (A, sl), e1, ⟨Nat.le_refl _, Nat.le_add_right _ _, Nat.le_add_right _ _⟩, (fun _ _ => rfl), hh.al (Nat.le_succ _) (Nat.le_refl _) (fun _ _ => rfl) (fun _ _ _ => rfl)⟩
  have nok : ¬ mgOk lns hr k → c189 f 64 k (S, G, (A, sl)) = some (-1, (S, G, (A, sl))) → ∃ S' G' m', c189 f 64 k (S, G, (A, sl)) = some (v, (S', G', m')) ∧ (A ≤ m'.1 ∧ m'.1 ≤ A + 48 ∧ m'.2 ≤ sl + 192) ∧ (∀ a, a < A → S' a = S a) ∧ cHs S' G' m'.1 (T, lns', hr, tx, kp, mt', pl, rf) (n + 1) := fun hn he => by
    rcases hst with ⟨_, e1, e2, e3⟩ | ⟨z, _⟩ | ⟨z, _⟩
    · exact same _ he e1 e2 e3
    · exact absurd z hn
    · exact absurd z hn
  have e0 := Eq.refl (c189 f 64 k (S, G, (A, sl)))
  conv at e0 => { rhs; unfold c189 }
  rw [g5, Option.bind_some, g6, Option.bind_some, ga hr c1, Option.bind_some] at e0
  unfold c189_59 at e0
  by_cases k1 : k < 0
  · rw [if_pos k1] at e0
    exact nok (fun z => by have := z.1; omega) e0
  rw [if_neg k1] at e0
  by_cases k2 : 4 ≤ k
  · rw [if_pos k2] at e0
    exact nok (fun z => by have := z.2.1; omega) e0
  rw [if_neg k2, Option.bind_some] at e0
  by_cases k3 : k = (hr : Int)
  · rw [if_pos k3] at e0
    exact nok (fun z => z.2.2.1 k3) e0
  rw [if_neg k3, Option.bind_some] at e0
  obtain ⟨x, rfl⟩ : ∃ x : Nat, k = (x : Int) := ⟨k.toNat, by omega⟩
  have hx : x < 4 := by omega
  have ex : ((x : Nat) : Int).toNat = x := by omega
  unfold mgOk at nok
  rw [ex] at nok
  obtain ⟨Xr, _, _, _, _, X3, X4⟩ := id (d2 x hx)
  obtain ⟨⟨⟨l1, l2⟩, mps, l3, l4⟩, Lw, Le, ⟨s', Lp1, Lp2⟩, Lt, Lf⟩ := id (d2 hr c1)
  obtain ⟨⟨x1, x2⟩, mpx, x3, x4⟩ := Xr
  have lsx := lnSt_of a1 hx
  have lpx := lnPt_of a2 hx
  rw [ga x hx, Option.bind_some, o_gi lsx.1, Option.bind_some, X3, Option.bind_some] at e0
  by_cases k4 : ¬ (lns x).2.2.2.2.1 = (hr : Int)
  · rw [if_pos k4] at e0
    exact nok (fun z => k4 z.2.2.2.1) e0
  rw [if_neg k4, Option.bind_some, ga x hx, Option.bind_some, o_gi lsx.1, Option.bind_some] at e0
  replace k4 := Classical.not_not.mp k4
  have g4 := X4 (by omega)
  have e6 := k_6 (f := f) (m := (A, sl)) (r := (lns x).2.2.2.2.2) ls.1 l1 l2
  rw [g4, il hr c1, Option.bind_some, e6, Option.bind_some] at e0
  by_cases k5 : ¬ (((lns hr).2.1.1 : Int) ≤ (lns x).2.2.2.2.2 ∧ (lns x).2.2.2.2.2 ≤ (((lns hr).2.1.1 + (lns hr).2.1.2.1 : Nat) : Int))
  · rw [if_neg k5, if_neg (fun z => z rfl)] at e0
    exact nok (fun z => k5 ⟨z.2.2.2.2.1, z.2.2.2.2.2⟩) e0
  replace k5 := Classical.not_not.mp k5
  have hmok : mgOk lns hr (x : Int) := by
    unfold mgOk
    rw [ex]
    exact ⟨by omega, by omega, k3, k4, k5.1, k5.2⟩
  clear nok
  obtain ⟨r, er⟩ : ∃ r : Nat, (lns x).2.2.2.2.2 = (r : Int) := ⟨(lns x).2.2.2.2.2.toNat, by omega⟩
  have er' : (lns x).2.2.2.2.2.toNat = r := by omega
  obtain ⟨mzA, mzM, mz0⟩ := l3 r (by omega) (by omega)
  obtain ⟨maA, maM, ma0⟩ := l3 _ (Nat.le_add_right _ _) (Nat.le_refl _)
  obtain ⟨mbA, mbM, mb0⟩ := x3 _ (Nat.le_add_right _ _) (Nat.le_refl _)
  clear mz0 ma0 mb0
  have bh := hb hr c1
  have bx := hb x hx
  have e5 := k_5 (f := f) (m := (A, sl)) ls lp l1 bh maA
  have e5x := k_5 (f := f) (m := (A, sl)) lsx lpx x1 bx mbA
  obtain ⟨sa, Ma, ima⟩ := maM.is
  obtain ⟨sb, Mb, imb⟩ := mbM.is
  obtain ⟨sz, Mz, imz⟩ := mzM.is
  obtain ⟨ra, xa, ca, nqa, A1, A2, A3, A4, A5, A6, A7, A8, A9⟩ := maM.pm d1 ima
  obtain ⟨rb, xb, cb, nqb, B1, B2, B3, B4, B5, B6, B7, B8, B9⟩ := mbM.pm d1 imb
  obtain ⟨rz, xz, cz, nqz, Z1, Z2, Z3, Z4, Z5, Z6, Z7, Z8, Z9⟩ := mzM.pm d1 imz
  have pA : P (lMo (lns hr)).1 ≠ 0 := by
    obtain ⟨_, _, _, _, _, _, _, _, _, _, _, _, _, w, _⟩ := maM
    exact w
  have pB : P (lMo (lns x)).1 ≠ 0 := by
    obtain ⟨_, _, _, _, _, _, _, _, _, _, _, _, _, w, _⟩ := mbM
    exact w
  have pZ : P ((lns hr).1 r).1 ≠ 0 := by
    obtain ⟨_, _, _, _, _, _, _, _, _, _, _, _, _, w, _⟩ := mzM
    exact w
  have A1' : cMr S G A (mps ((lns hr).2.1.1 + (lns hr).2.1.2.1)) (P (lMo (lns hr)).1) ra sa xa ca Ma := A1
  have B1' : cMr S G A (mpx ((lns x).2.1.1 + (lns x).2.1.2.1)) (P (lMo (lns x)).1) rb sb xb cb Mb := B1
  have Z1' : cMr S G A (mps r) (P ((lns hr).1 r).1) rz sz xz cz Mz := Z1
  have A2' : cPgm S G (P (lMo (lns hr)).1) nqa sa := A2
  have B2' : cPgm S G (P (lMo (lns x)).1) nqb sb := B2
  have Z2' : cPgm S G (P ((lns hr).1 r).1) nqz sz := Z2
  rw [if_pos k5, if_pos (show ¬ (1 : Int) = 0 by decide), o_gr ls.1 lp.1, Option.bind_some, g5, Option.bind_some, ga x hx, Option.bind_some, o_gi lsx.1, Option.bind_some, g4, er, o_ar ls.2.1 (by decide) (by omega) mzA, Option.bind_some, il hr c1, Option.bind_some, e5, Option.bind_some, g5, Option.bind_some, ga x hx, Option.bind_some, il x hx, Option.bind_some, e5x, Option.bind_some, o_gr Z1'.1 Z1'.2.1, Option.bind_some, o_gi Z2'.1.1, Option.bind_some, o_gr A1'.1 A1'.2.1, Option.bind_some, o_gi A2'.1.1, Option.bind_some] at e0
  have wrongE : ¬ ((lMo (lns hr)).1 = ((lns hr).1 r).1 ∧ (lMo (lns x)).1 = ((lns hr).1 r).1) → c189 f 64 (x : Int) (S, G, (A, sl)) = some (-2, (S, G, (A, sl))) → ∃ S' G' m', c189 f 64 (x : Int) (S, G, (A, sl)) = some (v, (S', G', m')) ∧ (A ≤ m'.1 ∧ m'.1 ≤ A + 48 ∧ m'.2 ≤ sl + 192) ∧ (∀ a, a < A → S' a = S a) ∧ cHs S' G' m'.1 (T, lns', hr, tx, kp, mt', pl, rf) (n + 1) := fun hn he => by
    rcases hst with ⟨z, _⟩ | ⟨_, _, e1, e2, e3⟩ | ⟨_, s, _, _, _, _, _, _, z, _⟩
    · exact absurd hmok z
    · exact same _ he e1 e2 e3
    · rw [ex, er'] at z
      exact absurd z.1 hn
  by_cases k6 : ¬ G (P (lMo (lns hr)).1) 0 = G (P ((lns hr).1 r).1) 0
  · rw [if_pos k6] at e0
    exact wrongE (fun z => k6 (by rw [z.1])) e0
  rw [if_neg k6, o_gr B1'.1 B1'.2.1, Option.bind_some, o_gi B2'.1.1, Option.bind_some] at e0
  replace k6 := Classical.not_not.mp k6
  by_cases k7 : ¬ G (P (lMo (lns x)).1) 0 = G (P ((lns hr).1 r).1) 0
  · rw [if_neg k7] at e0
    exact wrongE (fun z => k7 (by rw [z.2])) e0
  replace k7 := Classical.not_not.mp k7
  have eA : (lMo (lns hr)).1 = ((lns hr).1 r).1 := d1.2 _ _ pA pZ k6
  have eB : (lMo (lns x)).1 = ((lns hr).1 r).1 := d1.2 _ _ pB pZ k7
  clear wrongE A1 A2 A3 A4 A5 A6 A7 A8 A9 B1 B2 B3 B4 B5 B6 B7 B8 B9 Z1 Z2 Z3 Z4 Z5 Z6 Z7 Z8 Z9 A1' A2' B1' B2' Z1' Z2' ima imb imz
  rcases hst with ⟨z, _⟩ | ⟨_, z, _⟩ | ⟨_, s, Ma, Mb, Mz, ima, imb, imz, hsm, hlast⟩
  · exact absurd hmok z
  · rw [ex, er'] at z
    exact absurd ⟨eA, eB⟩ z
  rw [ex] at imb imz hsm hlast
  rw [er'] at imz hsm hlast
  obtain ⟨ra, xa, ca, nqa, A1, A2, A3, A4, A5, A6, A7, A8, A9⟩ := maM.pm d1 ima
  obtain ⟨rb, xb, cb, nqb, B1, B2, B3, B4, B5, B6, B7, B8, B9⟩ := mbM.pm d1 imb
  obtain ⟨rz, xz, cz, nqz, Z1, Z2, Z3, Z4, Z5, Z6, Z7, Z8, Z9⟩ := mzM.pm d1 imz
  obtain ⟨ln, hln⟩ : ∃ ln, ln = 243 + 9 * hr := ⟨_, rfl⟩
  obtain ⟨ma, hma⟩ : ∃ ma, ma = mps ((lns hr).2.1.1 + (lns hr).2.1.2.1) := ⟨_, rfl⟩
  obtain ⟨mb, hmb⟩ : ∃ mb, mb = mpx ((lns x).2.1.1 + (lns x).2.1.2.1) := ⟨_, rfl⟩
  obtain ⟨mz, hmz⟩ : ∃ mz, mz = mps r := ⟨_, rfl⟩
  obtain ⟨q, hq⟩ : ∃ q, q = P ((lns hr).1 r).1 := ⟨_, rfl⟩
  have A1' : cMr S G A ma q ra s xa ca Ma := by rw [hma, hq, ← eA]; exact A1
  have B1' : cMr S G A mb q rb s xb cb Mb := by rw [hmb, hq, ← eB]; exact B1
  have Z1' : cMr S G A mz q rz s xz cz Mz := by rw [hmz, hq]; exact Z1
  have Z2' : cPgm S G q nqz s := by rw [hq]; exact Z2
  have Z6' : q = 229 ∧ nqz ≤ 243 ∨ 555 < q := by rw [hq]; exact Z6
  have A7' : sfP A ma := by rw [hma]; exact A7
  have B7' : sfP A mb := by rw [hmb]; exact B7
  have Z7' : sfP A mz := by rw [hmz]; exact Z7
  rw [if_pos k7, ← hma, ← hmb, ← hmz, ← hln] at e0
  rw [← hln] at ls lp Lp2
  clear A1 A2 A3 A6 A7 B1 B2 B3 B6 B7 Z1 Z2 Z6 Z7 hma hmb hmz hq maA maM mbA mbM mzA mzM e5 e5x e6
  have hq10 := Z2'.2.2.2.2.2.2.2.2
  have tA : qTb s Ma := ima.2.2.2.2.1.1.1
  have tB : qTb s Mb := imb.2.2.2.2.1.1.1
  have tZ : qTb s Mz := imz.2.2.2.2.1.1.1
  have fA := ima.2.2.2.2.2.1
  have fB := imb.2.2.2.2.2.1
  have fZ := imz.2.2.2.2.2.1
  have hok := Z4
  have h16 : s.1.length ≤ 16 := Z2'.2.2.1.2.1
  have isC : cq_is 11 17 64 (S, G, (A, sl)) = some () := if_pos (s64 a1)
  have hin : ∀ p, p < s.1.length → 0 < qKy s p → pIn s.2.1 (p : Int) = true := fun p hp hk => by
    cases hb : pIn s.2.1 (p : Int) with
    | true => rfl
    | false => have := ky_no hb; omega
  obtain ⟨w, S1, G1, A', sl', m1, m2, m3, m4, m5, m6, m7⟩ := k_190l (f := f) hf a1 a2 a4 Z2' (by omega) hok A1' B1' Z1' ⟨A7'.1, B7'.1, Z7'.1, A8.1, B8.1, Z8.1⟩ (fun p hp => ⟨Z9 p hp, B9 p hp⟩) A5 B5 Z5 (fun p hp hk => by
    have hi := hin p hp hk
    obtain ⟨u1, u2, u3⟩ := hsm.2 p hp hi hk
    exact ⟨Nat.le_of_lt (key_lt imz.2.1 hok.1 hp hi), uk_of hok.1 hp fA u1, uk_of hok.1 hp fB u2, uk_of hok.1 hp fZ u3⟩) s.1.length 0 f S G A sl (by omega) (by omega) (Nat.le_refl _) (fun _ _ => rfl) (fun _ _ _ => rfl) (fun p hp => absurd hp (Nat.not_lt_zero _))
  have m1' : c190 f 64 ma mb mz (S, G, (A, sl)) = some (w, (S1, G1, (A', sl'))) := by
    unfold c190
    rw [o_gr Z1'.1 Z1'.2.1, Option.bind_some]
    exact m1
  rw [isC, Option.bind_some, m1', Option.bind_some] at e0
  -- what else stands
  have rest : ∀ (S' : Nat → Nat × Nat × Nat) (G' : xG_) (A' : Nat) (mt' : Int × List Int) (ps : List pPe), A ≤ A' → (∀ a, a < A → S' a = S a) → cMt G' mt' → cPn G' ln s' ps → (∀ a j, a < A → ¬ (a = 64 ∧ (j = 15 ∨ j = 16)) → a ≠ 227 → ¬ (a = ln ∧ j = 8) → ¬ (ln + 4 ≤ a ∧ a ≤ ln + 6) → G' a j = G a j) → cHs S' G' A' (T, lUp lns hr (lnP (lns hr) ps), hr, tx, kp, mt', pl, rf) (n + 1) := fun S' G' A' mt' ps hA hS hMt hPn g => by
    have sf : xSf A G G' := fun a j y1 y2 => g a j y1 (by omega) (by omega) (by omega) (by omega)
    have zy : ∀ a j, ln ≤ a → a ≤ ln + 8 → ¬ (a = ln ∧ j = 8) → ¬ (ln + 4 ≤ a ∧ a ≤ ln + 6) → G' a j = G a j := fun a j y1 y2 y3 y4 => g a j (by omega) (by omega) (by omega) y3 y4
    refine ⟨⟨fun k hk => by rw [hS _ (by omega)]; exact a1 k hk, a2.ge (fun a j hz => g a j (by
      rcases hz with z | z | z | z | z | z | z | ⟨z, z1, z2, k, z3⟩ | z | z | z | ⟨k, z1, z2, z3⟩ <;> omega) (by
      rcases hz with z | z | z | z | z | z | z | ⟨z, z1, z2, k, z3⟩ | z | z | z | ⟨k, z1, z2, z3⟩ <;> omega) (by
      rcases hz with z | z | z | z | z | z | z | ⟨z, z1, z2, k, z3⟩ | z | z | z | ⟨k, z1, z2, z3⟩ <;> omega) (by
      rcases hz with z | z | z | z | z | z | z | ⟨z, z1, z2, k, z3⟩ | z | z | z | ⟨k, z1, z2, z3⟩ <;> omega) (by
      rcases hz with z | z | z | z | z | z | z | ⟨z, z1, z2, k, z3⟩ | z | z | z | ⟨k, z1, z2, z3⟩ <;> omega)), a3.ge (fun a j y1 y2 => g a j (by omega) (by omega) (by omega) (by omega) (by omega)), by omega⟩, ⟨P, d1.ge hA hS sf (by rw [g _ _ (by omega) (by omega) (by omega) (by omega) (by omega)]; exact Int.le_refl _), fun y hy => ?_, ?_⟩, ⟨c1, by rw [g _ _ (by omega) (by omega) (by omega) (by omega) (by omega)]; exact c2⟩, ⟨by rw [g _ _ (by omega) (by omega) (by omega) (by omega) (by omega)]; exact c3, by rw [g _ _ (by omega) (by omega) (by omega) (by omega) (by omega)]; omega⟩, by rw [g _ _ (by omega) (by omega) (by omega) (by omega) (by omega)]; exact c5', by rw [g _ _ (by omega) (by omega) (by omega) (by omega) (by omega)]; exact c6', c7'.ge (g _ _ (by omega) (by omega) (by omega) (by omega) (by omega)) (fun p => g _ _ (by omega) (by omega) (by omega) (by omega) (by omega)), c8'.ge (fun a y => hS a (by omega)) (fun a j y1 y2 => g a j (by omega) (by omega) (by omega) (by omega) (by omega)) ⟨g _ _ (by omega) (by omega) (by omega) (by omega) (by omega), g _ _ (by omega) (by omega) (by omega) (by omega) (by omega)⟩, hMt⟩
    · unfold lUp
      by_cases d : y = hr
      · subst d
        rw [if_pos rfl]
        obtain ⟨Yr, ⟨Yw, Yc⟩, Ye, _, Yt, Y3, Y4⟩ := d2 y hy
        rw [← hln] at Yr Yw Yc Ye Yt Y3 Y4 ⊢
        exact ⟨Yr.ge hA hS sf ⟨zy _ _ (by omega) (by omega) (by omega) (by omega), zy _ _ (by omega) (by omega) (by omega) (by omega), fun j _ _ => zy _ _ (by omega) (by omega) (by omega) (by omega)⟩, ⟨fun p hp => by rw [zy _ _ (by omega) (by omega) (by omega) (by omega)]; exact Yw p hp, fun c hc => by rw [zy _ _ (by omega) (by omega) (by omega) (by omega)]; exact Yc c hc⟩, by rw [zy _ _ (by omega) (by omega) (by omega) (by omega)]; exact Ye, ⟨s', Lp1, hPn⟩, Yt.ge hA hS sf (fun c _ => ⟨zy _ _ (by omega) (by omega) (by omega) (by omega), zy _ _ (by omega) (by omega) (by omega) (by omega)⟩), by rw [zy _ _ (by omega) (by omega) (by omega) (by omega)]; exact Y3, fun hne => by rw [zy _ _ (by omega) (by omega) (by omega) (by omega)]; exact Y4 hne⟩
      · rw [if_neg d]
        exact (d2 y hy).ge hA hS sf (fun a j y1 y2 => g a j (by omega) (by omega) (by omega) (by omega) (by omega))
    · unfold lUp
      rw [if_pos rfl]
      exact d3.ge hA hS sf ⟨g _ _ (by omega) (by omega) (by omega) (by omega) (by omega), g _ _ (by omega) (by omega) (by omega) (by omega) (by omega)⟩
  rcases m7 with ⟨rfl, n1, n2⟩ | ⟨rfl, t, κ, n1, n2, n3, n4, n5, n6, n7, n8, n9, n10⟩
  · rw [if_pos rfl] at e0
    rcases hlast with ⟨p, κ, ⟨p1, p2, p3, p4, _⟩, _⟩ | ⟨_, hmt, hlast⟩
    · exact absurd ((mt_rf hok.1 p1 fA fB fZ).mp p4.1) (n2 p p1 p3 κ)
    have hdA : dfB s (lMo (lns x)).2.1 ((lns hr).1 r).2.1 0 s.1.length = dfA s (lMo (lns x)).2.1 ((lns hr).1 r).2.1 s.1.length := by
      have := dfB_A (s := s) (B := (lMo (lns x)).2.1) (Z := ((lns hr).1 r).2.1) s.1.length 0
      rw [Nat.zero_add] at this
      exact this
    have b400 := Lp2.2.1
    have B1s := B1'.al m2 m6 n1 B7'.1 B8.1
    have Z1s := Z1'.al m2 m6 n1 Z7'.1 Z8.1
    have Z2s : cPgm S1 G1 q nqz s := Z2'.ge (Nat.le_refl _) (fun a ha => m6 a (by omega)) (fun a j y1 y2 => n1 a j (by omega))
    have ls1 : lnSt S1 ln := lnSt_of' ls (fun a y1 y2 => m6 a (by omega))
    have lp1 : lnPt G1 ln := lnPt_of' lp (fun j => n1 _ _ (by omega))
    have Lp1' : cPn G1 ln s' (lns hr).2.2.2.1.1 := Lp2.ge (fun a j y1 y2 => n1 a j (by omega))
    have e1 := k_152s (f := f) (m := (A', sl')) (ln := ln) (FB := (lMo (lns x)).2.1) (FZ := ((lns hr).1 r).2.1) (by omega) Z2s hok.1 B1s Z1s B5 Z5 tB tZ fB fZ ls1.1 Lp1'.1 b400 s.1.length 0 0 f (by omega) (by omega) (Nat.zero_le _)
    rw [Nat.zero_add, hdA] at e1
    have e1' : c189 f 64 (x : Int) (S, G, (A, sl)) = _ := e0.trans e1
    rcases hlast with ⟨b1, rfl, rfl⟩ | ⟨b1, rfl, rfl⟩
    · rw [if_neg (by omega)] at e1'
      refine ⟨S1, G1, (A', sl'), e1', ⟨m2, by show A' ≤ A + 48; omega, by show sl' ≤ sl + 192; omega⟩, m6, ?_⟩
      rw [hmt]
      exact hh.al (Nat.le_succ _) m2 m6 n1
    · rw [if_pos (by omega)] at e1'
      have pd : pdOk S1 G1 A' ln s s' := by
        rw [← hln] at Le
        unfold lnE at Lp1
        rcases Le with ⟨z1, z2⟩ | ⟨z1, z2, z3⟩
        · rw [if_pos z1, eA, imz.2.1] at Lp1
          injection Lp1 with z
          exact .inl ⟨by rw [n1 _ _ (by omega)]; exact z2, z.symm⟩
        · rw [if_neg (by omega)] at Lp1
          obtain ⟨_, ⟨sx, nqx, y1, y2, y3, y4, y5⟩, _⟩ := d1.1 _ z2
          rw [Lp1] at y1
          injection y1 with y1
          rw [← y1] at y2 y3
          refine .inr ⟨_, nqx, by rw [n1 _ _ (by omega)]; exact z3, z2, y3.ge (Nat.le_refl _) (fun a ha => m6 a (by omega)) (fun a j u1 u2 => n1 a j (by omega)), by omega, y5, y2.1⟩
      have sfu : ∀ {a : Nat}, sfP A a → sfP A' a := fun {a} z => ⟨Nat.lt_of_lt_of_le z.1 m2, z.2⟩
      obtain ⟨S2, G2, A2, sl2, r1, r2, r3, r4, r5, r6, r7, r8⟩ := k_219 (f := f) (A0 := A') (ln := ln) (cm := ((dfA s (lMo (lns x)).2.1 ((lns hr).1 r).2.1 s.1.length).length : Int)) (by omega) (by omega) (by omega) ls1 lp1 Z2s ⟨by omega, Z6'⟩ hok B1s Z1s ⟨sfu B7', sfu B8, sfu Z7', sfu Z8⟩ (fun p hp => ⟨Z9 p hp, B9 p hp⟩) tB tZ fB fZ pd s.1.length 0 f S1 G1 A' sl' (lns hr).2.2.2.1.1 (by omega) (by omega) (Nat.le_refl _) (fun _ _ => rfl) (fun _ _ _ _ _ => rfl) Lp1' hE4 (by rw [hdA]; exact b1)
      rw [hdA] at r8
      refine ⟨S2, G2, (A2, sl2), e1'.trans r1, ⟨by show A ≤ A2; omega, by show A2 ≤ A + 48; omega, by show sl2 ≤ sl + 192; omega⟩, (fun a ha => by rw [r6 a (by omega), m6 a ha]), ?_⟩
      rw [hmt, lUp_f (g := fun l => lnP l ((lns hr).2.2.2.1.1 ++ dfA s (lMo (lns x)).2.1 ((lns hr).1 r).2.1 s.1.length))]
      have gg : ∀ a j, a < A → ¬ (a = ln ∧ j = 8) → ¬ (ln + 4 ≤ a ∧ a ≤ ln + 6) → G2 a j = G a j := fun a j y1 y2 y3 => by rw [r7 a j (by omega) y2 y3, n1 a j y1]
      exact rest _ _ _ _ _ (by show A ≤ A2; omega) (fun a ha => by rw [r6 a (by omega), m6 a ha]) (c9'.ge ⟨gg _ _ (by omega) (by omega) (by omega), gg _ _ (by omega) (by omega) (by omega)⟩ (fun j => gg _ _ (by omega) (by omega) (by omega))) r8 (fun a j y1 _ _ y4 y5 => gg a j y1 y4 y5)
  · rw [if_neg (show ¬ (1 : Int) = 0 by decide)] at e0
    rcases hlast with ⟨p, κ', ⟨p1, p2, p3, p4, p5⟩, rfl, rfl, hl⟩ | ⟨z, _⟩
    · have ept : p = t := by
        rcases Nat.lt_trichotomy p t with c | c | c
        · exact absurd ((mt_rf hok.1 p1 fA fB fZ).mp p4.1) (n6 p c p3 κ')
        · exact c
        · exact absurd ((mt_rf hok.1 n1 fA fB fZ).mpr n3) (p5 t c (hin t n1 n2) n2 κ)
      subst ept
      have i1 := p4.2.2 κ ((mt_rf hok.1 n1 fA fB fZ).mpr n3)
      have i2 := n5 κ' ((mt_rf hok.1 p1 fA fB fZ).mp p4.1)
      have i3 := vCmp_anti κ κ'
      have eκ : κ = κ' := vCmp_eq (by rw [n4, p4.2.1]) (by omega)
      subst eκ
      have hk4 : qKy s p ≤ 4 := by
        have := key_lt imz.2.1 hok.1 p1 p2
        have := (qN_pos hok p1).2
        omega
      refine ⟨S1, G1, (A', sl'), e0, ⟨m2, by show A' ≤ A + 48; omega, by show sl' ≤ sl + 192; omega⟩, m6, ?_⟩
      have := rest S1 G1 A' ((p : Int), κ) (lns hr).2.2.2.1.1 m2 m6 ⟨n7, n8, by show κ.length ≤ 4; omega, n9⟩ (Lp2.ge (fun a j y1 y2 => n10 a j (by omega) (by omega) (by omega))) (fun a j y1 y2 y3 _ _ => n10 a j y1 y2 y3)
      rw [lUp_p] at this
      rw [hl]
      exact this
    · exact absurd ((mt_rf hok.1 n1 fA fB fZ).mpr n3) (z t n1 (hin t n1 n2) n2 κ)
end
end
section
/-! THE CLASS: reason: isGiven, isBelowBest, fix -/
section
variable {f u n nv x b : Nat} {S : Nat → Nat × Nat × Nat} {G G' : xG_} {m : Nat × Nat} {gt : Int} {as xs : List Int} {I : List pCd} {K : pCd} {g : Int × Int × Int}
theorem o_s {x kk L z : Nat} {v : Int} (h : S x = (2, kk, L)) (hz : z < L) : cq_s kk x (z : Int) v (S, G, m) = some (S, xup2 G x z v, m) := by
  unfold cq_s
  show (if (S x).1 = 2 ∧ (S x).2.1 = kk ∧ 0 ≤ (z : Int) ∧ (z : Int) < (S x).2.2 then some (S, xup2 G x (z : Int).toNat v, m) else none) = _
  rw [h, if_pos ⟨rfl, rfl, by omega, by show (z : Int) < (L : Int); omega⟩]
  rfl
theorem k_165l (hs : cSs S) (hp : cPs G) (su : S u = (1, 6, 20)) (h2 : G u 2 = (n : Int)) (hn : n ≤ 4) (h3 : G u 3 = gt) : ∀ (d c fu : Nat), c + d = n → d < fu → ∃ v, c165_2 f fu 93 u (c : Int) (S, G, m) = some (v, (S, G, m)) ∧ (v = 1 ∧ (∀ k, c ≤ k → k < n → (k : Int) ≠ gt → G 103 k = G 105 k) ∨ v = 0 ∧ ∃ k, c ≤ k ∧ k < n ∧ (k : Int) ≠ gt ∧ G 103 k ≠ G 105 k) := by
  intro d
  induction d with
  | zero =>
    intro c fu e1 e2
    obtain ⟨fu, rfl⟩ : ∃ t, fu = t + 1 := ⟨fu - 1, by omega⟩
    refine ⟨1, ?_, .inl ⟨rfl, fun k k1 k2 => by omega⟩⟩
    show c165_2b (c165_2 f fu) f _ _ _ _ = _
    unfold c165_2b
    rw [o_gi su, Option.bind_some, h2, if_pos (by omega)]
  | succ d ih =>
    intro c fu e1 e2
    obtain ⟨fu, rfl⟩ : ∃ t, fu = t + 1 := ⟨fu - 1, by omega⟩
    have w1 : xwr ((c : Int) + 1) = ((c + 1 : Nat) : Int) := by rw [xwr_g _ (by omega) (by omega)]; omega
    obtain ⟨v, i1, i2⟩ := ih (c + 1) fu (by omega) (by omega)
    have ee : c165_2 f (fu + 1) 93 u (c : Int) (S, G, m) = c165_2b (c165_2 f fu) f 93 u (c : Int) (S, G, m) := rfl
    rw [ee]
    unfold c165_2b c165_36
    rw [o_gi su, Option.bind_some, h2, if_neg (by omega), o_gi su, Option.bind_some, h3, w1]
    by_cases cg : (c : Int) = gt
    · rw [if_pos cg]
      refine ⟨v, i1, ?_⟩
      rcases i2 with ⟨e, z⟩ | ⟨e, k, k1, k2, k3⟩
      · refine .inl ⟨e, fun k q1 q2 q3 => z k ?_ q2 q3⟩
        by_cases ek : k = c
        · rw [ek] at q3; exact absurd cg q3
        · omega
      · exact .inr ⟨e, k, by omega, k2, k3⟩
    · rw [if_neg cg, o_gr (y := 103) (s93 hs) (p93_9 hp), Option.bind_some, o_a (s103 hs) (by omega), Option.bind_some, o_gr (y := 105) (s93 hs) (p93_11 hp), Option.bind_some, o_a (s105 hs) (by omega), Option.bind_some]
      by_cases ce : G 103 c = G 105 c
      · rw [if_pos ce]
        refine ⟨v, i1, ?_⟩
        rcases i2 with ⟨e, z⟩ | ⟨e, k, k1, k2, k3⟩
        · refine .inl ⟨e, fun k q1 q2 q3 => ?_⟩
          by_cases ek : k = c
          · rw [ek]; exact ce
          · exact z k (by omega) q2 q3
        · exact .inr ⟨e, k, by omega, k2, k3⟩
      · rw [if_neg ce]
        exact ⟨0, rfl, .inr ⟨rfl, c, Nat.le_refl _, by omega, cg, ce⟩⟩
/-- isGiven() -/
theorem k_165 (hf : 20 < f) (hs : cSs S) (hp : cPs G) (su : S u = (1, 6, 20)) (h2 : G u 2 = (n : Int)) (hn : n ≤ 4) (h3 : G u 3 = gt) : ∃ v, c165 f 93 u (S, G, m) = some (v, (S, G, m)) ∧ (v = 1 ∧ (∀ k, k < n → (k : Int) ≠ gt → G 103 k = G 105 k) ∨ v = 0 ∧ ∃ k, k < n ∧ (k : Int) ≠ gt ∧ G 103 k ≠ G 105 k) := by
  obtain ⟨v, v1, v2⟩ := k_165l (f := f) (m := m) hs hp su h2 hn h3 n 0 f (by omega) (by omega)
  refine ⟨v, v1, ?_⟩
  rcases v2 with ⟨e, z⟩ | ⟨e, k, k1, k2⟩
  · exact .inl ⟨e, fun k => z k (Nat.zero_le _)⟩
  · exact .inr ⟨e, k, k2⟩
/-- isBelowBest() -/
def vcN (g h : Nat → Int) : Nat → Nat → Int
  | _, 0 => 0
  | v, d + 1 => if g v = h v then vcN g h (v + 1) d else if g v < h v then -1 else 1
theorem vcN_e (g h : Nat → Int) : ∀ (d v : Nat), vCmp ((List.range' v d).map g) ((List.range' v d).map h) = vcN g h v d
  | 0, v => rfl
  | d + 1, v => by
    show (if g v = h v then vCmp ((List.range' (v + 1) d).map g) ((List.range' (v + 1) d).map h) else if g v < h v then -1 else 1) = if g v = h v then vcN g h (v + 1) d else if g v < h v then -1 else 1
    rw [vcN_e g h d (v + 1)]
theorem vcN_v (g h : Nat → Int) : vcN g h 0 nv = vCmp (vec nv g) (vec nv h) := by
  unfold vec
  rw [List.range_eq_range', vcN_e]
theorem k_166 (hs : cSs S) (hp : cPs G) (hnv : nv ≤ 8) : ∀ (d v fu : Nat), v + d = nv → d < fu → c166_2 f fu 93 (nv : Int) (v : Int) (S, G, m) = some (if vcN (G 84) (G 106) v d < 0 then 1 else 0, (S, G, m)) := by
  intro d
  induction d with
  | zero =>
    intro v fu e1 e2
    obtain ⟨fu, rfl⟩ : ∃ t, fu = t + 1 := ⟨fu - 1, by omega⟩
    show c166_2b (c166_2 f fu) f _ _ _ _ = some (if (0 : Int) < 0 then 1 else 0, (S, G, m))
    unfold c166_2b
    rw [if_pos (by omega), if_neg (by omega)]
  | succ d ih =>
    intro v fu e1 e2
    obtain ⟨fu, rfl⟩ : ∃ t, fu = t + 1 := ⟨fu - 1, by omega⟩
    have w1 : xwr ((v : Int) + 1) = ((v + 1 : Nat) : Int) := by rw [xwr_g _ (by omega) (by omega)]; omega
    have e50 : ∀ w : Int, w = 0 ∨ w = 1 → c166_50 f w (S, G, m) = some (w, (S, G, m)) := fun w hw => if_pos hw
    show c166_2b (c166_2 f fu) f _ _ _ _ = some (if (if G 84 v = G 106 v then vcN (G 84) (G 106) (v + 1) d else if G 84 v < G 106 v then -1 else 1) < 0 then 1 else 0, (S, G, m))
    unfold c166_2b
    rw [if_neg (by omega), o_gr (y := 83) (s93 hs) (p93_0 hp), Option.bind_some, o_gr (y := 84) (s83 hs) (p83_0 hp), Option.bind_some, o_a (s84 hs) (by omega), Option.bind_some, o_gr (y := 106) (s93 hs) (p93_12 hp), Option.bind_some, o_a (s106 hs) (by omega), Option.bind_some]
    by_cases c : G 84 v = G 106 v
    · rw [if_pos c, if_pos c, w1]
      exact ih (v + 1) fu (by omega) (by omega)
    · rw [if_neg c, if_neg c, Option.bind_some, o_gr (y := 84) (s83 hs) (p83_0 hp), Option.bind_some, o_a (s84 hs) (by omega), Option.bind_some, Option.bind_some, o_a (s106 hs) (by omega), Option.bind_some]
      by_cases c2 : G 106 v ≤ G 84 v
      · rw [if_pos c2, e50 0 (.inl rfl), if_neg (show ¬ G 84 v < G 106 v by omega), if_neg (by decide)]
      · rw [if_neg c2, e50 1 (.inr rfl), if_pos (show G 84 v < G 106 v by omega), if_pos (by decide)]
/-- fix() -/
theorem k_131 {vl : Nat → Int} {w : Int} (hs : cSs S) (hp : cPs G) (hx : x < 8) (hl : lvE G 0 b vl) (hw : vOk w) : ∃ v G', c131 f 83 (x : Int) w (S, G, m) = some (v, (S, G', m)) ∧ (∀ a j, ¬ (a = 84 ∧ j = x) → ¬ (a = 87 ∧ j = 0) → G' a j = G a j) ∧ ((v = 0 ∧ b.testBit x = true ∧ vl x ≠ w) ∨ (v = 1 ∧ ∃ vl', lvE G' 0 (b ||| 2 ^ x) vl' ∧ vl' x = w ∧ ∀ j, b.testBit j = true → vl' j = vl j)) := by
  obtain ⟨l1, l2, l3⟩ := hl
  have e30 : ∀ w : Int, w = 0 ∨ w = 1 → c131_30 f w (S, G, m) = some (w, (S, G, m)) := fun w hw => if_pos hw
  have ea : cq_a 3 87 0 (S, G, m) = some (b : Int) := by rw [← l1]; exact o_a (z := 0) (s87 hs) (by omega)
  have b31 : b < 2147483648 := by omega
  have b8 : b < 256 := l2
  unfold c131
  rw [o_gr (y := 87) (s83 hs) (p83_8 hp), Option.bind_some, ea, Option.bind_some]
  cases hb : b.testBit x with
  | true =>
    have z := (xbit b31 (by omega : x < 32)).mpr hb
    obtain ⟨q1, q2, q3⟩ := l3 x hb
    rw [if_neg (fun y => y z), o_gr (y := 84) (s83 hs) (p83_0 hp), Option.bind_some, o_a (s84 hs) hx, Option.bind_some, q2]
    by_cases c : vl x = w
    · rw [if_neg (fun y => y c), e30 1 (.inr rfl)]
      have eb : b ||| 2 ^ x = b := by
        apply Nat.eq_of_testBit_eq
        intro j
        rw [Nat.testBit_or, Nat.testBit_two_pow]
        by_cases ej : x = j
        · rw [← ej, hb]; rfl
        · rw [decide_eq_false ej, Bool.or_false]
      exact ⟨1, G, rfl, fun _ _ _ _ => rfl, .inr ⟨rfl, vl, by rw [eb]; exact ⟨l1, l2, l3⟩, c, fun _ _ => rfl⟩⟩
    · rw [if_pos c, e30 0 (.inl rfl)]
      exact ⟨0, G, rfl, fun _ _ _ _ => rfl, .inl ⟨rfl, rfl, c⟩⟩
  | false =>
    have z : ¬ xand (xshr (b : Int) (x : Int)) 1 = 1 := fun y => by rw [(xbit b31 (by omega : x < 32)).mp y] at hb; cases hb
    have es : cq_s 4 84 (x : Int) w (S, G, m) = some (S, xup2 G 84 x w, m) := o_s (s84 hs) hx
    have p1 : cPs (xup2 G 84 x w) := hp.ge (fun a j hz => xup2_n (by
      rcases hz with z | z | z | z | z | z | z | ⟨z, z1, z2, k, z3⟩ | z | z | z | ⟨k, z1, z2, z3⟩ <;> omega))
    have ea2 : cq_a 3 87 0 (S, xup2 G 84 x w, m) = some (b : Int) := by
      have : cq_a 3 87 0 (S, xup2 G 84 x w, m) = some (xup2 G 84 x w 87 0) := o_a (z := 0) (s87 hs) (by omega)
      rw [this, xup2_n (by omega), l1]
    have lt : b ||| 2 ^ x < 2 ^ 8 := Nat.or_lt_two_pow l2 (Nat.pow_lt_pow_right (by decide) hx)
    have eo : xor_ (b : Int) (xshl 1 (x : Int)) = ((b ||| 2 ^ x : Nat) : Int) := by
      rw [xshl_nat (by omega : x < 31), xor_nat b31 (by have : 2 ^ x < 2 ^ 8 := Nat.pow_lt_pow_right (by decide) hx; omega)]
    have es2 : cq_s 3 87 0 ((b ||| 2 ^ x : Nat) : Int) (S, xup2 G 84 x w, m) = some (S, xup2 (xup2 G 84 x w) 87 0 ((b ||| 2 ^ x : Nat) : Int), m) := o_s (z := 0) (s87 hs) (by omega)
    rw [if_pos z, o_gr (y := 84) (s83 hs) (p83_0 hp), Option.bind_some, es, Option.bind_some, o_gr (y := 87) (s83 hs) (p83_8 p1), Option.bind_some, ea2, Option.bind_some, eo, es2, Option.bind_some]
    refine ⟨1, _, rfl, fun a j y1 y2 => by rw [xup2_n y2, xup2_n y1], .inr ⟨rfl, fun j => if j = x then w else vl j, ⟨by rw [xup2_s], lt, fun j hj => ?_⟩, if_pos rfl, fun j hj => if_neg (fun e => by rw [e, hb] at hj; cases hj)⟩⟩
    rw [xup2_n (by omega)]
    by_cases ej : j = x
    · subst ej
      refine ⟨hx, ?_, ?_⟩
      · rw [xup2_s]; exact (if_pos rfl).symm
      · show vOk (if j = j then w else vl j)
        rw [if_pos rfl]; exact hw
    · rw [Nat.testBit_or, Nat.testBit_two_pow, decide_eq_false (fun e => ej e.symm), Bool.or_false] at hj
      obtain ⟨q1, q2, q3⟩ := l3 j hj
      refine ⟨q1, ?_, ?_⟩
      · rw [xup2_n (by omega), q2]; exact (if_neg ej).symm
      · show vOk (if j = x then w else vl j)
        rw [if_neg ej]; exact q3
end
end
