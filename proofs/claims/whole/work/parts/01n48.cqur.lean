section
/-! THE CLASS: query() in the house -/
theorem all_u {Ls : List pLt} {nv : Nat} {M : Nat → List pRw} {Q Q' : List (List Int)} (h : isAll Ls nv M qO1 Q) (h' : isAll Ls nv M qO1 Q') (hs : Q.Pairwise vLe) (hs' : Q'.Pairwise vLe) : Q = Q' := by
  have up : ∀ {Q : List (List Int)}, isAll Ls nv M qO1 Q → Q.Pairwise vLe → Q.Pairwise vLt := fun {Q} h hs => by
    have nd := List.nodup_iff_pairwise_ne.mp h.1
    refine (hs.and nd).imp_of_mem (fun {a b} ha hb z => ?_)
    have l1 := ((h.2 a).mp ha).1
    have l2 := ((h.2 b).mp hb).1
    refine (vLt_iff (l1.trans l2.symm)).mpr ?_
    have z1 : vCmp a b ≤ 0 := z.1
    have z2 : vCmp a b ≠ 0 := fun e => z.2 (vCmp_eq (l1.trans l2.symm) e)
    omega
  exact srt_ext (lt := vLt) vLt_irr (fun a b c => vLt_tr) _ _ (up h hs) (up h' hs') (fun y => by rw [h.2 y, h'.2 y])
section
variable {f A hr n sl q mp : Nat} {S : Nat → Nat × Nat × Nat} {G G1 G2 : xG_} {m : Nat × Nat} {T : List (List Int)} {P : Nat → Nat} {lns : Nat → sLn} {tx : List Int} {kp kp' : Nat × List (List Int)} {mt : Int × List Int} {pl rf : Int} {s : pPg} {M : Nat → List pRw}
theorem st_qu0 (hs : cSs S) (hp : cPs G) (h6 : G 64 6 = (hr : Int)) (hr4 : hr < 4) (h5 : ∀ G', (∀ a j, ¬ (a = 64 ∧ j = 9) → G' a j = G a j) → c5 f (243 + 9 * hr) (S, G', m) = some (mp, (S, G', m))) (sm : S mp = (1, 2, 8)) (hp1 : cPs G1) (e1 : c112 f 65 (S, xup2 G 64 9 (-1), m) = some (S, G1, m)) (h0 : G1 mp 0 = (q : Int)) : c1003 f 64 (S, G, m) = ((c31 f 72 q (S, G1, m)).bind fun R170 => chd R170 0 (c1003_44 f 64 mp 0 R170.2) (fun _ => c1003_44 f 64 mp 1 R170.2)) := by
  have z : ∀ a j, ¬ (a = 64 ∧ j = 9) → xup2 G 64 9 (-1) a j = G a j := fun a j y => xup2_n y
  have ls := lnSt_of hs hr4
  have i1 : cq_is 1 14 (243 + 9 * hr) (S, xup2 G 64 9 (-1), m) = some () := if_pos ls.1
  have g5 : cq_gr 11 5 17 64 (S, xup2 G 64 9 (-1), m) = some 220 := o_gr (y := 220) (s64 hs) (by rw [z _ _ (by omega)]; exact p64_5 hp)
  have g6 : cq_gi 11 6 17 64 (S, xup2 G 64 9 (-1), m) = some (hr : Int) := by rw [o_gi (s64 hs), z _ _ (by omega), h6]
  have ga : cq_ar 220 (hr : Int) (S, xup2 G 64 9 (-1), m) = some (243 + 9 * hr) := o_ar (s220 hs) (by decide) hr4 (by rw [z _ _ (by omega)]; exact p_ln hp hr4)
  have g0 : cq_gr 11 0 17 64 (S, xup2 G 64 9 (-1), m) = some 65 := o_gr (y := 65) (s64 hs) (by rw [z _ _ (by omega)]; exact p64_0 hp)
  have i2 : cq_is 8 8 65 (S, xup2 G 64 9 (-1), m) = some () := if_pos (s65 hs)
  have i3 : cq_is 4 20 72 (S, G1, m) = some () := if_pos (s72 hs)
  unfold c1003
  rw [o_p (s64 hs), Option.bind_some, g5, Option.bind_some, g6, Option.bind_some, ga, Option.bind_some, i1, Option.bind_some, h5 _ z, Option.bind_some, g0, Option.bind_some, i2, Option.bind_some, e1, Option.bind_some, o_gr (y := 72) (s64 hs) (p64_1 hp1), Option.bind_some, o_gr sm h0, Option.bind_some, i3, Option.bind_some]
theorem st_qu2 {w : Int} (hs : cSs S) (hp : cPs G) (h2 : G 72 2 = w) : c1003_44 f 64 mp 0 (S, G, m) = some (xwr (-1 - w), (S, xup2 G 65 1 0, m)) := by
  have z : ∀ a j, ¬ (a = 65 ∧ j = 1) → xup2 G 65 1 0 a j = G a j := fun a j y => xup2_n y
  unfold c1003_44
  rw [o_gr (y := 65) (s64 hs) (p64_0 hp), Option.bind_some, o_p (s65 hs), Option.bind_some, if_neg (fun z => z rfl), o_gr (y := 72) (s64 hs) (by rw [z _ _ (by omega)]; exact p64_1 hp), Option.bind_some, o_gi (s72 hs), Option.bind_some, z _ _ (by omega), h2]
theorem st_qu3 {k : Int} {u : Nat} (hs : cSs S) (hp : cPs G) (hp2 : cPs G2) (e63 : c63 f 72 (S, xup2 G 65 1 0, m) = some (k, (S, G2, m))) (h5 : G2 72 5 = (u : Int)) : c1003_44 f 64 mp 1 (S, G, m) = if k = 0 then (c179 f 64 u mp (S, G2, m)).bind (fun R => some (R.1, R.2)) else some (xwr (-5000 - k), (S, xup2 G2 64 9 (G2 72 2), m)) := by
  have z : ∀ a j, ¬ (a = 65 ∧ j = 1) → xup2 G 65 1 0 a j = G a j := fun a j y => xup2_n y
  have i2 : cq_is 4 20 72 (S, xup2 G 65 1 0, m) = some () := if_pos (s72 hs)
  have i4 : cq_is 11 17 64 (S, G2, m) = some () := if_pos (s64 hs)
  have g72 : cq_gr 11 1 17 64 (S, G2, m) = some 72 := o_gr (y := 72) (s64 hs) (p64_1 hp2)
  unfold c1003_44
  rw [o_gr (y := 65) (s64 hs) (p64_0 hp), Option.bind_some, o_p (s65 hs), Option.bind_some, if_pos (by decide), o_gr (y := 72) (s64 hs) (by rw [z _ _ (by omega)]; exact p64_1 hp), Option.bind_some, i2, Option.bind_some, e63, Option.bind_some]
  by_cases c : k = 0
  · rw [if_pos c, if_pos c, g72, Option.bind_some, o_gr (s72 hs) h5, Option.bind_some, i4, Option.bind_some]
  · rw [if_neg c, if_neg c, g72, Option.bind_some, o_gi (s72 hs), Option.bind_some, o_p (s64 hs), Option.bind_some]
/-- query() -/
theorem k_qu {v pl' : Int} (hf : 100003010 < f) (h : cHs S G A (T, lns, hr, tx, kp, mt, pl, rf) n) (hb : (lns hr).2.1.1 + (lns hr).2.1.2.1 < 520) (im : isMo T (lMo (lns hr)) s M) (hst : stQu s M kp tx v pl' kp') : ∃ S' G' m', c1003 f 64 (S, G, (A, sl)) = some (v, (S', G', m')) ∧ (A ≤ m'.1 ∧ m'.1 ≤ A + 14 ∧ m'.2 ≤ sl + 6200) ∧ (∀ a, a < A → S' a = S a) ∧ cHs S' G' m'.1 (T, lns, hr, [], kp', mt, pl', rf) (n + 1) := by
  obtain ⟨⟨a1, a2, a3, a4⟩, ⟨P, d1, d2, d3⟩, ⟨c1, c2⟩, ⟨c3, c4⟩, c5', c6', c7', ⟨an, sp, k1, k2, k3, k4⟩, c9'⟩ := h
  obtain ⟨⟨⟨l1, l2⟩, mps, l3, l4⟩, _⟩ := id (d2 hr c1)
  obtain ⟨m1, m2, m3⟩ := l3 _ (Nat.le_add_right _ _) (Nat.le_refl _)
  clear m3
  obtain ⟨rp, xr, cr, nq, r1', r2', r3, r4, r5, r6', r7, r8, r9⟩ := m2.pm d1 im
  obtain ⟨q, hqe⟩ : ∃ q, q = P (lMo (lns hr)).1 := ⟨_, rfl⟩
  have r1 : cMr S G A (mps ((lns hr).2.1.1 + (lns hr).2.1.2.1)) q rp s xr cr M := by rw [hqe]; exact r1'
  have r2 : cPgm S G q nq s := by rw [hqe]; exact r2'
  have r6 : q = 229 ∧ nq ≤ 243 ∨ 555 < q := by rw [hqe]; exact r6'
  clear r1' r2' r6' hqe
  have r10 : 82 < q := by omega
  have ls := lnSt_of a1 c1
  have lp := lnPt_of a2 c1
  have smp := r7.2
  have smr := r8.2
  obtain ⟨G0, hG0⟩ : ∃ G0, G0 = xup2 G 64 9 (-1) := ⟨_, rfl⟩
  have z0 : ∀ a j, ¬ (a = 64 ∧ j = 9) → G0 a j = G a j := fun a j y => by rw [hG0]; exact xup2_n y
  have p0 : cPs G0 := a2.ge (fun a j hz => z0 a j (by
      rcases hz with z | z | z | z | z | z | z | ⟨z, z1, z2, k, z3⟩ | z | z | z | ⟨k, z1, z2, z3⟩ <;> omega))
  have t0 : cTx G0 (tBt tx) tx.length := c7'.ge (z0 _ _ (by omega)) (fun p => z0 _ _ (by omega))
  obtain ⟨G1, N, f1, f2, f3⟩ := k_112 (m := (A, sl)) a1 p0 t0 (f := f) (by omega)
  have p1 : cPs G1 := p0.tape (fun a j y1 y2 => f3 a j (by omega) (by omega))
  have t1 : cTx G1 (tBt tx) tx.length := t0.ge (f3 _ _ (by omega) (by omega)) (fun p => f3 _ _ (by omega) (by omega))
  have ev := cEv_of a1 p1 t1 f2
  have z1 : ∀ a j, ¬ (a = 64 ∧ j = 9) → ¬ (65 ≤ a ∧ a ≤ 71) → G1 a j = G a j := fun a j y1 y2 => by rw [f3 a j (by omega) (by omega), z0 a j y1]
  have e2 := st_qu0 (f := f) (m := (A, sl)) (mp := mps ((lns hr).2.1.1 + (lns hr).2.1.2.1)) (q := q) a1 a2 c2 c1 (fun G' hz => k_5 ls (lnPt_of' lp (fun j => hz _ _ (by omega))) (by rw [hz _ _ (by omega)]; exact l1) hb (by rw [hz _ _ (by omega)]; exact m1)) r1.1 p1 (by rw [← hG0]; exact f1) (by rw [z1 _ _ (by omega) (by omega)]; exact r1.2.1)
  have hN : N ≤ tx.length := f2.1
  have hq10 := r2.2.2.2.2.2.2.2.2
  have key := k_31 (f := f) (sl := sl) (q := q) (u := A) (F := 4 * (tx.length + 1) + 4) (L := s.1) (by omega) (tOk_of false t1.2.2.1) (vIn_t t1.2.2.1) (by omega) ev (by omega) (by omega) (by omega) r2.1 (r2.2.1.ge (fun j _ _ _ => z1 _ _ (by omega) (by omega))) (r2.2.2.1.ge (z1 _ _ (by omega) (by omega)) (fun j => z1 _ _ (by omega) (by omega)))
  -- what else stands
  have rest : ∀ (S' : Nat → Nat × Nat × Nat) (G' : xG_) (A' : Nat) (pl' : Int) (kp' : Nat × List (List Int)), A ≤ A' → (∀ a, a < A → S' a = S a) → cPs G' → G' 65 1 = 0 → G' 64 9 = pl' → cKp S' G' kp' → (∀ a j, a < A → ¬ (a = 64 ∧ 9 ≤ j ∧ j ≤ 11) → ¬ (65 ≤ a ∧ a ≤ 92) → ¬ (221 ≤ a ∧ a ≤ 226) → G' a j = G a j) → cHs S' G' A' (T, lns, hr, [], kp', mt, pl', rf) (n + 1) := fun S' G' A' pl' kp' hA hS hp' h65 h9 hk g => by
    have sf : xSf A G G' := fun a j y1 y2 => g a j y1 (by omega) (by omega) (by omega)
    exact ⟨⟨fun k hk => by rw [hS _ (by omega)]; exact a1 k hk, hp', a3.ge (fun a j y1 y2 => g a j (by omega) (by omega) (by omega) (by omega)), by omega⟩, ⟨P, d1.ge hA hS sf (by rw [g _ _ (by omega) (by omega) (by omega) (by omega)]; exact Int.le_refl _), fun y hy => (d2 y hy).ge hA hS sf (fun a j y1 y2 => g a j (by omega) (by omega) (by omega) (by omega)), d3.ge hA hS sf ⟨g _ _ (by omega) (by omega) (by omega) (by omega), g _ _ (by omega) (by omega) (by omega) (by omega)⟩⟩, ⟨c1, by rw [g _ _ (by omega) (by omega) (by omega) (by omega)]; exact c2⟩, ⟨by rw [g _ _ (by omega) (by omega) (by omega) (by omega)]; exact c3, by rw [g _ _ (by omega) (by omega) (by omega) (by omega)]; omega⟩, by rw [g _ _ (by omega) (by omega) (by omega) (by omega)]; exact c5', h9, cTx.nil h65, hk, c9'.ge ⟨g _ _ (by omega) (by omega) (by omega) (by omega), g _ _ (by omega) (by omega) (by omega) (by omega)⟩ (fun j => g _ _ (by omega) (by omega) (by omega) (by omega))⟩
  have keep : ∀ (S' : Nat → Nat × Nat × Nat) (G' : xG_), (∀ a, a < A → S' a = S a) → G' 64 10 = (an : Int) → G' 64 11 = (sp : Int) → (∀ a j, an ≤ a → a ≤ an + 2 → G' a j = G a j) → cKp S' G' kp := fun S' G' hS h10 h11 g => ⟨an, sp, k1, h10, h11, k4.ge (fun a y1 y2 => hS a (by omega)) (fun j => g _ _ (by omega) (by omega)) (fun j => g _ _ (by omega) (by omega)) (fun j => g _ _ (by omega) (by omega))⟩
  unfold stQu at hst
  cases hX : qQu tx s.1 with
  | inl x =>
    rw [hX] at hst
    have hX' : pQuery (tstr (tBt tx) tx.length false) (4 * (tx.length + 1) + 4) s.1 = .inl x := hX
    rw [hX'] at key
    obtain ⟨g1, g2, g3⟩ := hst
    obtain ⟨S2, G2, ⟨u2, v2⟩, e31, q1, q2, q3, q4⟩ := key
    obtain ⟨S3, G3, q5, q6, q7⟩ := cWr_ex S2 G2 (u2, v2) (x : Int)
    rw [e31, Option.bind_some, q5] at e2
    have q3' : u2 = A + 11 := q3
    have q4' : v2 = sl + 172 := q4
    subst q3' q4'
    have fr : ∀ a j, a < A → ¬ (a = 64 ∧ j = 9) → ¬ (65 ≤ a ∧ a ≤ 82) → G3 a j = G a j := fun a j y1 y2 y3 => by
      rw [q7 a j (by show a < A + 11; omega), xup2_n (by omega), q2 a j y1 (by omega) (by omega), z1 a j y2 (by omega)]
    have s3 : ∀ a, a < A → S3 a = S a := fun a y => by rw [q6 a (by show a < A + 11; omega), q1 a y]
    have hs3 : cSs S3 := fun k hk => by rw [s3 _ (by omega)]; exact a1 k hk
    have g9 : G3 64 9 = -1 := by
      rw [q7 _ _ (by show 64 < A + 11; omega), xup2_n (by omega), q2 _ _ (by omega) (by omega) (by omega), f3 _ _ (by omega) (by omega), hG0, xup2_s]
    have p3 : cPs G3 := p1.ge (fun a j hz => by
      have hb : a < A ∧ ¬ (a = 72 ∧ (1 ≤ j ∧ j ≤ 6 ∨ j = 9 ∨ j = 12 ∨ j = 14)) ∧ ¬ (73 ≤ a ∧ a ≤ 82) := by
        rcases hz with z | z | z | z | z | z | z | ⟨z, z1, z2, k, z3⟩ | z | z | z | ⟨k, z1, z2, z3⟩ <;> omega
      rw [q7 a j (by show a < A + 11; omega), xup2_n (by omega), q2 a j hb.1 hb.2.1 hb.2.2])
    have st := st_qu2 (f := f) (mp := mps ((lns hr).2.1.1 + (lns hr).2.1.2.1)) (m := (A + 11 + 1, sl + 172 + 6)) hs3 p3 (by rw [q7 _ _ (by show 72 < A + 11; omega), xup2_s])
    have e2' : c1003 f 64 (S, G, (A, sl)) = c1003_44 f 64 (mps ((lns hr).2.1.1 + (lns hr).2.1.2.1)) 0 (S3, G3, (A + 11 + 1, sl + 172 + 6)) := e2
    rw [g1, g2, g3]
    refine ⟨S3, xup2 G3 65 1 0, (A + 11 + 1, sl + 172 + 6), e2'.trans st, ⟨by show A ≤ A + 11 + 1; omega, by show A + 11 + 1 ≤ A + 14; omega, by show sl + 172 + 6 ≤ sl + 6200; omega⟩, s3, rest _ _ _ _ _ (by show A ≤ A + 11 + 1; omega) s3 (p3.tape (fun a j y1 y2 => xup2_n (by omega))) (xup2_s _ _ _ _) (by rw [xup2_n (by omega)]; exact g9) (keep _ _ s3 (by rw [xup2_n (by omega), fr _ _ (by omega) (by omega) (by omega)]; exact k2) (by rw [xup2_n (by omega), fr _ _ (by omega) (by omega) (by omega)]; exact k3) (fun a j y1 y2 => by rw [xup2_n (by omega), fr _ _ (by omega) (by omega) (by omega)])) (fun a j y1 y2 y3 _ => by rw [xup2_n (by omega)]; exact fr a j y1 (by omega) (by omega))⟩
  | inr r =>
    rw [hX] at hst
    have hX' : pQuery (tstr (tBt tx) tx.length false) (4 * (tx.length + 1) + 4) s.1 = .inr r := hX
    rw [hX'] at key
    obtain ⟨S2, G2, sl2, e31, q1, q2, q3, q4, q5, q6, q7, q8⟩ := key
    rw [e31, Option.bind_some] at e2
    have e2' : c1003 f 64 (S, G, (A, sl)) = c1003_44 f 64 (mps ((lns hr).2.1.1 + (lns hr).2.1.2.1)) 1 (S2, G2, (A + 13, sl2)) := e2
    have fr2 : ∀ a j, a < A → ¬ (a = 64 ∧ j = 9) → ¬ (65 ≤ a ∧ a ≤ 82) → G2 a j = G a j := fun a j y1 y2 y3 => by
      rw [q2 a j y1 (by omega) (by omega), z1 a j y2 (by omega)]
    have hs2 : cSs S2 := fun k hk => by rw [q1 _ (by omega)]; exact a1 k hk
    have g9 : G2 64 9 = -1 := by
      rw [q2 _ _ (by omega) (by omega) (by omega), f3 _ _ (by omega) (by omega), hG0, xup2_s]
    have p2 : cPs G2 := p1.ge (fun a j hz => by
      have hb : a < A ∧ ¬ (a = 72 ∧ (1 ≤ j ∧ j ≤ 6 ∨ j = 9 ∨ j = 12 ∨ j = 14)) ∧ ¬ (73 ≤ a ∧ a ≤ 82) := by
        rcases hz with z | z | z | z | z | z | z | ⟨z, z1, z2, k, z3⟩ | z | z | z | ⟨k, z1, z2, z3⟩ <;> omega
      rw [q2 a j hb.1 hb.2.1 hb.2.2])
    have zt : ∀ a j, ¬ (a = 65 ∧ j = 1) → xup2 G2 65 1 0 a j = G2 a j := fun a j y => xup2_n y
    have p2' : cPs (xup2 G2 65 1 0) := p2.tape (fun a j y1 y2 => xup2_n (by omega))
    obtain ⟨w1, w2, w3⟩ := qQu_wf c7'.2.2.1 hX
    obtain ⟨v1, v2, bq, v3⟩ := qQu_fa c7'.2.2.1 hX
    have hqs : q + 10 < A := by omega
    have frq : ∀ a j, q ≤ a → a ≤ q + 10 → xup2 G2 65 1 0 a j = G a j := fun a j y1 y2 => by rw [zt _ _ (by omega), fr2 _ _ (by omega) (by omega) (by omega)]
    have hQt : cQt S2 (xup2 G2 65 1 0) (q) A s r := by
      refine ⟨hs2, p2', ?_, ?_, fun p hp => by rw [frq _ _ (by omega) (by omega)]; exact r2.2.2.2.1 p hp, fun p hp => by rw [frq _ _ (by omega) (by omega), frq _ _ (by omega) (by omega), frq _ _ (by omega) (by omega)]; exact r2.2.2.2.2.1 p hp, fun p hp => by rw [frq _ _ (by omega) (by omega)]; exact r2.2.2.2.2.2.2.1 p hp, q4.ge (fun _ _ _ => rfl) (fun a j y1 y2 => zt _ _ (by omega)), by rw [zt _ _ (by omega)]; exact q5, by omega⟩
      · obtain ⟨x1, x2, x3, x4, x5, x6, x7⟩ := q7
        exact ⟨by rw [zt _ _ (by omega)]; exact x1, x2, x3, by rw [zt _ _ (by omega)]; exact x4, x5, x6.ge (fun j _ _ _ => zt _ _ (by omega)), x7.ge (zt _ _ (by omega)) (fun j => zt _ _ (by omega))⟩
      · refine ⟨by rw [zt _ _ (by omega)]; exact q6.1, fun k hk => ?_⟩
        obtain ⟨x1, x2, x3, x4⟩ := q6.2 k hk
        exact ⟨by rw [zt _ _ (by omega)]; exact x1, by rw [zt _ _ (by omega)]; exact x2, by rw [zt _ _ (by omega)]; exact x3, fun y => by rw [zt _ _ (by omega)]; exact x4 y⟩
    obtain ⟨k, G4, e63, u2, u3⟩ := k_63 (f := f) (m := (A + 13, sl2)) (by omega) hQt r4.1.1 r4.2.2.2.1 q8 w1 w3 v1 v2 v3
    have p4 : cPs G4 := p2'.ge (fun a j hz => u2 a j (by
      rcases hz with z | z | z | z | z | z | z | ⟨z, z1, z2, k, z3⟩ | z | z | z | ⟨k, z1, z2, z3⟩ <;> omega))
    have fr4 : ∀ a j, a < A → ¬ (a = 64 ∧ j = 9) → ¬ (65 ≤ a ∧ a ≤ 82) → G4 a j = G a j := fun a j y1 y2 y3 => by
      rw [u2 a j (by omega), zt a j (by omega), fr2 a j y1 y2 y3]
    have h65 : G4 65 1 = 0 := by rw [u2 _ _ (by omega), xup2_s]
    have h9 : G4 64 9 = -1 := by rw [u2 _ _ (by omega), zt _ _ (by omega)]; exact g9
    have e3 := st_qu3 (f := f) (mp := mps ((lns hr).2.1.1 + (lns hr).2.1.2.1)) (u := A) hs2 p2 p4 e63 (by rw [u2 _ _ (by omega), zt _ _ (by omega)]; exact q5)
    have bnd : A ≤ A + 13 ∧ A + 13 ≤ A + 14 ∧ sl2 ≤ sl + 6200 := by omega
    rcases u3 with ⟨k0, nof⟩ | ⟨k0, fl1, fl2⟩
    · rw [if_pos k0] at e3
      rcases hst with ⟨kk, _, _, x1, _⟩ | ⟨_, x1, x2⟩
      · exact absurd x1 (nof _ _)
      have hwl : ∀ y ∈ r.2.2.1, wLt s.1.length r.2.1.length y ∧ (y.1 ≠ 3 → 0 ≤ y.2.1 ∧ y.2.2.2.1.length = qN s y.2.1.toNat) := fun y hy => by
        have h0 := w3.1 y hy
        rw [w1] at h0
        refine ⟨h0, fun h3 => ?_⟩
        obtain ⟨pl0, hm⟩ := w2.1 y hy h3
        have f2' : y.2.1 ≠ -1 := fun z => nof 2 _ (.inl ⟨rfl, _, hm, z, rfl⟩)
        have f3' : pNn s.2.2.2.1 y.2.1 = (y.2.2.2.1.length : Int) := Classical.byContradiction fun z => nof 3 _ (.inr (.inl ⟨rfl, _, hm, f2', z, rfl⟩))
        have h5 : -1 ≤ y.2.1 := by
          rcases h0 with ⟨_, z, _⟩ | ⟨z, _⟩
          · exact z
          · exact absurd z h3
        have hn := (qN_c r4.1.1 y.2.1.toNat).1
        rw [show ((y.2.1.toNat : Nat) : Int) = y.2.1 by omega] at hn
        exact ⟨by omega, by omega⟩
      have hsf : sfe r.2.2.1 r.2.1.length := fun j hj => by
        cases hbj : (qBd r.2.2.1).testBit j with
        | true => rfl
        | false => exact absurd (.inr (.inr ⟨rfl, j, ⟨hj, hbj⟩, rfl⟩)) (nof 4 _)
      have hM4 : cMr S2 G4 A (mps ((lns hr).2.1.1 + (lns hr).2.1.2.1)) (q) rp s xr cr M := r1.ge2 (Nat.le_refl _) (fun a hz => q1 a (by
        rcases hz with z | z | ⟨p, hp, y1, y2⟩
        · rw [z]; exact r7.1
        · rw [z]; exact r8.1
        · have := (r1.2.2.2.2 p hp).2.1; omega)) (fun a j hz => by
        rcases hz with ⟨z, zj⟩ | z | ⟨p, hp, y1, y2⟩
        · exact fr4 a j (by rw [z]; exact r7.1) (by omega) (by omega)
        · exact fr4 a j (by rw [z]; exact r8.1) (by omega) (by omega)
        · have y3 := (r1.2.2.2.2 p hp).2.1
          have y4 := r9 p hp
          exact fr4 a j (by omega) (by omega) (by omega))
      obtain ⟨vv, G5, o1, o2, o3, o4⟩ := k_179 (f := f) (u := A) (m := (A + 13, sl2)) (an := an) (sp := sp) (V := r.2.1) (Ls := r.2.2.1) hf hs2 p4 k1 (by rw [fr4 _ _ (by omega) (by omega) (by omega)]; exact k2) (by rw [fr4 _ _ (by omega) (by omega) (by omega)]; exact k3) (q4.ge (fun _ _ _ => rfl) (fun a j y1 y2 => by rw [u2 _ _ (by omega), zt _ _ (by omega)])) (by omega) hM4 r5 (by omega) (by omega) (fun p hp => by have := r9 p hp; omega) r4.1.1.1 hwl (qQu_d c7'.2.2.1 hX) w2.2.2.1 hsf
      rw [o1, Option.bind_some] at e3
      have xf : Unit → _ := fun _ => x2
      have of : Unit → _ := fun _ => o4
      clear x2 o4
      have fin : c1003 f 64 (S, G, (A, sl)) = some (vv, (S2, G5, (A + 13, sl2))) := e2'.trans e3
      have g5 : ∀ a j, a < A → ¬ (a = 64 ∧ 9 ≤ j ∧ j ≤ 11) → ¬ (65 ≤ a ∧ a ≤ 92) → ¬ (221 ≤ a ∧ a ≤ 226) → G5 a j = G a j := fun a j y1 y2 y3 y4 => by rw [o3 a j (by omega) (by omega) (by omega), fr4 a j y1 (by omega) (by omega)]
      have g65 : G5 65 1 = 0 := by rw [o3 _ _ (by omega) (by omega) (by omega)]; exact h65
      have g59 : G5 64 9 = -1 := by rw [o3 _ _ (by omega) (by omega) (by omega)]; exact h9
      have gan : ∀ a j, an ≤ a → a ≤ an + 2 → G5 a j = G a j := fun a j y1 y2 => by rw [o3 a j (by omega) (by omega) (by omega), fr4 a j (by omega) (by omega) (by omega)]
      rw [x1]
      rcases of () with ⟨v0, y10, y11, Wl, W1, W2, W3⟩ | ⟨Q, Q1, Q2, Q3, Q4, Q5⟩
      · rcases xf () with ⟨x3, x4, _⟩ | ⟨Sx, s1, s2', s3, s4, s5⟩
        · rw [x3, x4]
          exact ⟨S2, G5, (A + 13, sl2), by rw [fin, v0], bnd, q1, rest _ _ _ _ _ (by omega) q1 o2 g65 g59 (keep _ _ q1 y10 y11 gan) g5⟩
        · have := nodup_len Wl Sx W1 (fun x hx => (s3.2 x).mpr (W3 x hx))
          omega
      · rcases xf () with ⟨_, _, Vx, n1, n2, n3⟩ | ⟨Sx, s1, s2', s3, s4, s5⟩
        · have := nodup_len Vx Q n1 (fun x hx => (Q3.2 x).mpr (n3 x hx))
          omega
        · have eQ : Q = Sx := all_u Q3 s3 Q2 s2'
          subst eQ
          rw [s4, s5]
          refine ⟨S2, G5, (A + 13, sl2), by rw [fin, Q4], bnd, q1, rest _ _ _ _ _ (by omega) q1 o2 g65 g59 ?_ g5⟩
          rcases Q5 with ⟨z0, z1, z2⟩ | ⟨z0, z1, z2, z3⟩
          · rw [if_pos z0]
            exact keep _ _ q1 z1 z2 gan
          · rw [if_neg (by omega)]
            exact ⟨sp, an, by omega, z1, z2, _, fun _ => rfl, z3⟩
    · rw [if_neg k0] at e3
      rcases hst with ⟨kk, x1, x2, x3, x4⟩ | ⟨x1, _⟩
      · have e5 := fl2 _ _ x3
        have e6 := x4 _ _ fl1
        have e7 : k = kk ∧ G4 72 2 = pl' := by omega
        rw [x1, x2, ← e7.1]
        exact ⟨S2, xup2 G4 64 9 (G4 72 2), (A + 13, sl2), e2'.trans e3, bnd, q1, rest _ _ _ _ _ (by omega) q1 (p4.ge (fun a j hz => xup2_n (by
          rcases hz with z | z | z | z | z | z | z | ⟨z, z1, z2, k, z3⟩ | z | z | z | ⟨k, z1, z2, z3⟩ <;> omega))) (by rw [xup2_n (by omega)]; exact h65) (by rw [xup2_s]; exact e7.2) (keep _ _ q1 (by rw [xup2_n (by omega), fr4 _ _ (by omega) (by omega) (by omega)]; exact k2) (by rw [xup2_n (by omega), fr4 _ _ (by omega) (by omega) (by omega)]; exact k3) (fun a j y1 y2 => by rw [xup2_n (by omega), fr4 _ _ (by omega) (by omega) (by omega)])) (fun a j y1 y2 y3 _ => by rw [xup2_n (by omega)]; exact fr4 a j y1 (by omega) (by omega))⟩
      · exact absurd fl1 (x1 _ _)
end
end
