section
/-! THE CLASS: round() in the house, a round is made -/
section
variable {T : List (List Int)} {S S' : Nat → Nat × Nat × Nat} {G G' : xG_} {A A' ln : Nat} {P : Nat → Nat} {H : Nat → sMo} {mo : sMo} {b k ed b' k' be t : Nat}
theorem ro_new (h : cRo T S G A P ln H b k ed) (hA : A ≤ A') (hS : ∀ a, a < A → S' a = S a) (sf : xSf A G G') (hb' : b ≤ b') (hbk : b' + k' = b + k + 1) (e1 : G' ln 1 = ((b + k + 1 : Nat) : Int)) (e2 : G' ln 2 = (b' : Int)) (em : ∀ j, b ≤ j → j ≤ b + k → G' (ln + 1) j = G (ln + 1) j) (eb : G' (ln + 1) (b + k + 1) = (be : Int)) (hmo : cMo T S' G' A' P be mo) (f7 : G' be 7 = ((ed + t : Nat) : Int)) (ht : t = if mo.2.2.2.2 = true then 1 else 0) (f4 : G' be 4 = ((lgR ((b + k + 1 : Nat) : Int) mo.2.1 (H (b + k)).2.1).length : Int)) (f5 : G' be 5 = ((cgN ((b + k + 1 : Nat) : Int) (H (b + k)).2.2.1 mo.2.2.2.1 72).length : Int)) (f6 : G' be 6 = (t : Int)) : cRo T S' G' A' P ln (hAd H (b + k + 1) mo) b' k' (ed + t) := by
  obtain ⟨⟨h1, h2⟩, mp, h3, h4⟩ := h
  have gm : ∀ r, b ≤ r → r ≤ b + k → ∀ j, G' (mp r) j = G (mp r) j := fun r r1 r2 j => by
    obtain ⟨_, ⟨s, M, rp, xr, cr, tp, ac, to, _, _, _, _, _, _, ⟨z, _⟩, _⟩, _⟩ := h3 r r1 r2
    exact sf _ _ z.1 (.inr z.2)
  obtain ⟨s1, s2, s3⟩ := hLg_s (H := H) (r := b + k) (mo := mo)
  refine ⟨⟨by rw [hbk]; exact e1, e2⟩, fun r => if r = b + k + 1 then be else mp r, fun r r1 r2 => ?_, fun r r1 r2 => ?_⟩
  · show G' (ln + 1) r = (((if r = b + k + 1 then be else mp r) : Nat) : Int) ∧ cMo T S' G' A' P (if r = b + k + 1 then be else mp r) _ ∧ ∃ x : Nat, G' (if r = b + k + 1 then be else mp r) 7 = (x : Int) ∧ _
    by_cases q : r = b + k + 1
    · rw [if_pos q, q, hAd_s]
      refine ⟨eb, hmo, ed + t, f7, ?_⟩
      rw [show b' + k' - (b + k + 1) = 0 by omega]
      rfl
    · rw [if_neg q, hAd_n q]
      obtain ⟨a1, a2, x, a3, a4⟩ := h3 r (by omega) (by omega)
      refine ⟨by rw [em r (by omega) (by omega)]; exact a1, a2.ge hA hS sf, x, by rw [gm r (by omega) (by omega)]; exact a3, ?_⟩
      rw [show b' + k' - r = (b + k - r) + 1 by omega]
      show x + (hCat (hEg (hAd H (b + k + 1) mo)) r (b + k - r) ++ hEg (hAd H (b + k + 1) mo) (r + (b + k - r) + 1)).length = _
      rw [List.length_append, show r + (b + k - r) + 1 = b + k + 1 by omega, s3, ← ht, hCat_c (g' := hEg H) (b + k - r) (fun x x1 x2 => (hLg_n (by omega)).2.2)]
      omega
  · show G' (if r = b + k + 1 then be else mp r) 4 = _ ∧ G' (if r = b + k + 1 then be else mp r) 5 = _ ∧ G' (if r = b + k + 1 then be else mp r) 6 = _
    by_cases q : r = b + k + 1
    · rw [if_pos q, q, s1, s2, s3, ← ht]
      exact ⟨f4, f5, f6⟩
    · obtain ⟨u1, u2, u3⟩ := hLg_n (H := H) (r := r) (r0 := b + k + 1) (mo := mo) (by omega)
      rw [if_neg q, u1, u2, u3, gm r (by omega) (by omega), gm r (by omega) (by omega), gm r (by omega) (by omega)]
      exact h4 r (by omega) (by omega)
end
section
variable {f A hr n sl : Nat} {S : Nat → Nat × Nat × Nat} {G : xG_} {T : List (List Int)} {P : Nat → Nat} {lns : Nat → sLn} {tx : List Int} {kp : Nat × List (List Int)} {mt : Int × List Int} {pl rf : Int}
theorem k_rd {v : Int} {ln' : sLn} {good : Bool} (hf : 100003010 < f) (h : cHs S G A (T, lns, hr, tx, kp, mt, pl, rf) n) (hn : n ≤ 515) (hI : lInv T (lns hr)) (hsO : sOk T (lns hr) n) (hXK : ∀ K, kOk T K → okX (xOf T K)) (hrf : 0 ≤ rf ∧ rf ≤ 100000) (hst : stRd T (lns hr) v ln' good) (hnew : ∃ s M, isMo T (lMo ln') s M) :
    ∃ S' G' m', c173 f 64 (S, G, (A, sl)) = some (v, (S', G', m')) ∧ (A ≤ m'.1 ∧ m'.1 ≤ A + 52 ∧ m'.2 ≤ sl + 8240) ∧ (∀ a, a < A → S' a = S a) ∧ cHs S' G' m'.1 (T, lUp lns hr ln', hr, tx, kp, mt, pl, if good = true then rf else rf + 1) (n + 1) := by
  have hh := h
  obtain ⟨⟨a1, a2, a3, a4⟩, ⟨P, b1, b2, b3⟩, ⟨c1, c2⟩, ⟨c3, c4⟩, c5, c6, c7, c8, c9⟩ := h
  obtain ⟨so, Mo, s, R0, R, i1, i2, i3, i4, i5⟩ := hst
  have hnewf : Unit → _ := fun _ => hnew
  clear hnew
  have L := b2 hr c1
  obtain ⟨Lr, ⟨Lw, Lc⟩, Le, ⟨sp, Lp1, Lp2⟩, ⟨lt, Lt⟩, L3, L4⟩ := id L
  obtain ⟨⟨l1, l2⟩, mps, l3, l4⟩ := id Lr
  obtain ⟨l, hl⟩ : ∃ l, l = lns hr := ⟨_, rfl⟩
  rw [← hl] at hI hsO i1 i2 i3 i4 i5 L Lr Lw Lc Le Lp1 Lp2 Lt L3 L4 l1 l2 l3 l4
  have i5f : Unit → _ := fun _ => i5
  clear i5
  have es : sp = s := by
    rw [i2] at Lp1
    injection Lp1 with z
    exact z.symm
  subst es
  have hRn : l.2.1.1 + l.2.1.2.1 ≤ n := hsO.2.2.1.1
  obtain ⟨m1, m2, xe, m3, m4⟩ := l3 _ (Nat.le_add_right _ _) (Nat.le_refl _)
  rw [Nat.sub_self] at m4
  have m4' : xe + 0 = l.2.1.2.2 := m4
  obtain ⟨s1, M1, rp, xr, cr, tp, ac, to, n1, n2, n3, ⟨n4, n5⟩, ⟨n6, n7, n8⟩, n9, ⟨n10, n11, n12, n13⟩, n14, n15⟩ := id m2
  obtain ⟨e1, e2⟩ := isMo_u n1 i1
  subst e1
  have n2 := n2.cg e2
  have n3 := n3.cg e2
  have eM : fSh (xOf T (lMo l).2.2.1) s1 M1 = fSh (xOf T (lMo l).2.2.1) s1 Mo := fSh_v n1.2.2.1.1.2.1 (fun p hp => by rw [e2 p hp]) _
  have n8' : ∀ x, x < 72 → G ac x = eC (fSh (xOf T (lMo l).2.2.1) s1 Mo x) := fun x hx => by rw [← eM]; exact n8 x hx
  obtain ⟨e, tk, g7, gt, gs, gp, gn⟩ := rd_prog b1 L hI.2.2 n9 i1 i2
  obtain ⟨_, ⟨so', nqo, o1, o2, o3, o4, o5⟩, _⟩ := b1.1 _ n9
  have es : so' = s1 := by
    have := i1.2.1
    rw [o1] at this
    injection this
  subst es
  obtain ⟨q1, ⟨s', nq, q2, q3, q4, q5, q6⟩, _⟩ := b1.1 _ gn
  have es : s' = sp := by
    rw [i2] at q2
    injection q2 with z
    exact z.symm
  subst es
  have htk01 : tk = 0 ∨ tk = 1 := by
    rcases gt with z | z
    · exact .inl z.1
    · exact .inr z.1
  have hfr : l.2.2.2.1.2.1 ≠ -1 ↔ tk = 1 := by
    rcases gt with ⟨z1, _, z3⟩ | ⟨z1, _, _, z3⟩
    · exact ⟨fun y => absurd z3 y, fun y => by omega⟩
    · exact ⟨fun _ => z1, fun _ => z3⟩
  have pm : P (lMo l).1 = 229 ∧ nqo ≤ 243 ∨ 555 < P (lMo l).1 := o5
  have sm1 := n10.1
  have sm2 := n10.2
  have sr1 := n11.1
  have sr2 := n11.2
  have o3' : cPgm S G (P (lMo l).1) A so' := o3.ge o4 (fun _ _ => rfl) (fun _ _ _ _ => rfl)
  have q4' : cPgm S G (P (lnE l)) A s' := q4.ge q5 (fun _ _ => rfl) (fun _ _ _ _ => rfl)
  obtain ⟨s0, M0, iu, uk⟩ := hI.1 _ (Nat.le_add_right _ _) (Nat.le_refl _)
  obtain ⟨e3, e4⟩ := isMo_u iu i1
  subst e3
  have ukM' : ukM s0 Mo := uk.fa i1.2.2.1 iu.2.2.2.2.2.1 i1.2.2.2.2.2.1
  -- its rows
  obtain ⟨v0, G1, r1, r2, r3, r4⟩ := rd_rows (f := f) (A := A) (q := P (lnE l)) (qo := P (lMo l).1) (kk := hr) (mp := mps (l.2.1.1 + l.2.1.2.1)) (rp := rp) (r := l.2.1.1 + l.2.1.2.1) (m := (A, sl)) (tk := tk) (fr := l.2.2.2.1.2.1 ≠ -1) hf a1 a2 a3 c1 l1 (by omega) (by omega) (by omega) (by omega) (by omega) q3 o2 gs q4' o3' n3 n2 Lp2 i1.2.2.2.2.1 i1.2.2.2.2.2.1 ukM' hfr i3 i4 hsO.2.2.2.2.2.2.2.1 n14
  have r4f : Unit → _ := fun _ => r4
  clear r4
  have e173 : c173 f 64 (S, G, (A, sl)) = c173_127 f 64 (243 + 9 * hr) (mps (l.2.1.1 + l.2.1.2.1)) tk v0 (S, G1, (A, sl)) := by
    rw [sw_173s (f := f) (m := (A, sl)) a1 a2 c2 c1 rfl l1 (by omega) m1 n3.1 n3.2.1 g7]
    rcases gt with ⟨z1, z2, _⟩ | ⟨z1, z2, z3, _⟩
    · rw [if_pos z2, ← r1, z1, gp z1]
    · rw [if_neg z2, ← r1, z1, z3]
  have lUpe : ∀ x, lUp lns hr x = lUp lns hr x := fun _ => rfl
  rcases r4f () with ⟨y1, y2⟩ | ⟨y1, xp, cp, yp, ap, R', A0, ch, wk, w1, w2, w3, w4, w5, w6, w7, w8, w9, w10, w11, w12, w13, w14⟩
  · -- refused
    rcases i5f () with ⟨g1, g2, g3, g4⟩ | ⟨_, M, F, _, _, _, _, g1, _⟩
    · obtain ⟨G', k1, k2⟩ := k_rd0 (f := f) (sl := sl) (mp := mps (l.2.1.1 + l.2.1.2.1)) (tk := tk) (by omega) hh hrf r2 r3
      rw [g1, g3, g4]
      refine ⟨S, G', (A, sl), ?_, ⟨Nat.le_refl _, by omega, by omega⟩, (fun _ _ => rfl), ?_⟩
      · rw [e173, y1]; exact k1
      · rw [hl]; exact k2
    · exact absurd ⟨M, g1⟩ y2
  · rcases i5f () with ⟨_, g2, _⟩ | ⟨g0, M, F, b', k', wk', cw', g1, g2, g3, g4, g5, g6, g7', g8⟩
    · exact absurd ⟨_, w9⟩ g2
    have hw := q3.1.1
    have hMR : ∀ p, p < s'.1.length → M p = R' p := qMod_det hw g1 w9
    have hFR : qFa s' R' F := g2.cg hMR
    have tbR := w9.1
    have tbM := i1.2.2.2.2.1.1.1
    have okR8 : okM8 s' R' := fun p hp => by
      obtain ⟨_, _, _, z1, z2, z3, z4⟩ := w1.2 p hp
      exact ⟨z1, z2, z3, z4⟩
    obtain ⟨sN, MN, iN⟩ := hnewf ()
    have hlast : lMo ln' = lnM l F := by
      rw [g4]
      show lnH l F (b' + k') = _
      rw [g5]
      exact hAd_s
    rw [hlast] at iN
    have kN : kOk T (kNx (lMo l).2.2.1 l.2.2.2.1.2.2 72) := iN.2.2.2.2.2.2
    have isN : isMo T (lnM l F) s' R' := ⟨iN.1, i2, q3.1, q3.2.2.2.2.1, ⟨⟨tbR, fun p hp hi => rfl, w9.2.2⟩, w14⟩, hFR, kN⟩
    have hX0 := hXK _ i1.2.2.2.2.2.2
    have hXn := hXK _ kN
    have lenF : F.length ≤ 1600 := hFR.len hw.1 tbR
    have lenO : ∀ r, l.2.1.1 ≤ r → r ≤ l.2.1.1 + l.2.1.2.1 → (l.1 r).2.1.length ≤ 1600 := fun r z1 z2 => by
      obtain ⟨sx, Mx, ix⟩ := (l3 r z1 z2).2.1.is
      exact ix.2.2.2.2.2.1.len ix.2.2.1.1.1 ix.2.2.2.2.1.1.1
    -- the logs
    obtain ⟨H', hH'⟩ : ∃ H', H' = lnH l F := ⟨_, rfl⟩
    have hn1 : ∀ r, r < l.2.1.1 + l.2.1.2.1 + 1 → hLg H' r = hLg l.1 r ∧ hCg H' r = hCg l.1 r ∧ hEg H' r = hEg l.1 r := fun r z => by rw [hH']; exact hLg_n z
    obtain ⟨u1, u2, u3⟩ := hLg_s (H := l.1) (r := l.2.1.1 + l.2.1.2.1) (mo := lnM l F)
    have u1' : hLg H' (l.2.1.1 + l.2.1.2.1 + 1) = lgR ((l.2.1.1 + l.2.1.2.1 + 1 : Nat) : Int) F (lMo l).2.1 := by rw [hH']; exact u1
    have u2' : hCg H' (l.2.1.1 + l.2.1.2.1 + 1) = cgN ((l.2.1.1 + l.2.1.2.1 + 1 : Nat) : Int) (lMo l).2.2.1 l.2.2.2.1.2.2 72 := by rw [hH']; exact u2
    have u3' : ((hEg H' (l.2.1.1 + l.2.1.2.1 + 1)).length : Int) = tk := by
      rw [hH']
      show ((hEg (hAd l.1 (l.2.1.1 + l.2.1.2.1 + 1) (lnM l F)) (l.2.1.1 + l.2.1.2.1 + 1)).length : Int) = tk
      rw [u3]
      show (((if decide (l.2.2.2.1.2.1 ≠ -1) = true then 1 else 0) : Nat) : Int) = tk
      rcases gt with ⟨z1, _, z3⟩ | ⟨z1, _, _, z3⟩
      · rw [if_neg (by rw [z3]; decide), z1]; rfl
      · rw [if_pos (decide_eq_true z3), z1]; rfl
    have hbd : ∀ r, (if l.2.1.1 < r ∧ r ≤ l.2.1.1 + l.2.1.2.1 + 1 then (hLg H' r).length else 0) ≤ 100000 ∧ (if l.2.1.1 < r ∧ r ≤ l.2.1.1 + l.2.1.2.1 + 1 then (hCg H' r).length else 0) ≤ 100000 ∧ (if l.2.1.1 < r ∧ r ≤ l.2.1.1 + l.2.1.2.1 + 1 then (hEg H' r).length else 0) ≤ 100000 := fun r => by
      by_cases q : l.2.1.1 < r ∧ r ≤ l.2.1.1 + l.2.1.2.1 + 1
      · rw [if_pos q, if_pos q, if_pos q]
        have z1 : (hLg H' r).length ≤ 3200 := by
          by_cases z : r = l.2.1.1 + l.2.1.2.1 + 1
          · rw [z, u1']
            have := lgR_le (rd := ((l.2.1.1 + l.2.1.2.1 + 1 : Nat) : Int)) (A := F) (B := (lMo l).2.1)
            have z9 : (lMo l).2.1.length ≤ 1600 := lenO (l.2.1.1 + l.2.1.2.1) (by omega) (by omega)
            omega
          · rw [(hn1 r (by omega)).1]
            have := lgR_le (rd := (r : Int)) (A := (l.1 r).2.1) (B := (l.1 (r - 1)).2.1)
            have := lenO r (by omega) (by omega)
            have := lenO (r - 1) (by omega) (by omega)
            unfold hLg
            omega
        have z2 : (hCg H' r).length ≤ 72 := cgN_len _ _ _ _
        have z3 := hEg_le (H := H') (r := r)
        omega
      · rw [if_neg q, if_neg q, if_neg q]; omega
    have inR : l.2.1.1 < l.2.1.1 + l.2.1.2.1 + 1 ∧ l.2.1.1 + l.2.1.2.1 + 1 ≤ l.2.1.1 + l.2.1.2.1 + 1 := by omega
    have llen := lg_len (rd := ((l.2.1.1 + l.2.1.2.1 + 1 : Nat) : Int)) q3.1 i1.2.2.1 tbR tbM hFR i1.2.2.2.2.2.1 w3
    have hdf : dfG s' s0 Mo s0.1.length = if tk = 0 then 0 else dfG s' s0 Mo s0.1.length := by
      by_cases z : tk = 0
      · rw [if_pos z]
        have : s' = s0 := by
          rcases gs with y | y
          · exact y.2.2
          · omega
        rw [this]
        exact dfG_self _ (Nat.le_refl _)
      · rw [if_neg z]
    have G1l : ∀ j k, G1 (243 + 9 * hr + j) k = G (243 + 9 * hr + j) k := fun j k => r2 _ _ (by omega)
    have tcl : tC9 G1 (243 + 9 * hr) 72 = (hCg H' (l.2.1.1 + l.2.1.2.1 + 1)).length := by
      rw [u2']
      exact tC9_cg 72 (fun c hc => by rw [G1l]; exact (Lt c hc).1)
    have cnv : ∀ {a : Nat}, sfP A a → ∀ j, G1 a j = G a j := fun {a} z j => r2 _ _ (by have := z.2; omega)
    obtain ⟨S', G', m', be, xr', cr', tp2, ac2, kx, t1, t2, t3, t4, t5, t6, t7, t8, t9, t10, t11, t12, t13, t14, t15, t16, t17⟩ := rd_made (f := f) (sl := sl) (kk := hr) (ln := 243 + 9 * hr) (nq := nq) (ed := l.2.1.2.2) (R := l.2.1.1 + l.2.1.2.1) (old := l.2.1.1) (tk := tk) (to := to) (lt := lt) (mps := mps) (C := fSh (xOf T (lMo l).2.2.1) s0 Mo) (X := xOf T (lMo l).2.2.1) (Y := xOf T (fun c => (l.2.2.2.1.2.2 c).toNat)) (X' := xOf T (kNx (lMo l).2.2.1 l.2.2.2.1.2.2 72)) (W := l.2.2.2.1.2.2) (mv := fun r => if l.2.1.1 < r ∧ r ≤ l.2.1.1 + l.2.1.2.1 + 1 then (hLg H' r).length else 0) (tl := fun r => if l.2.1.1 < r ∧ r ≤ l.2.1.1 + l.2.1.2.1 + 1 then (hCg H' r).length else 0) (tkn := fun r => if l.2.1.1 < r ∧ r ≤ l.2.1.1 + l.2.1.2.1 + 1 then (hEg H' r).length else 0) (by omega) a1 r3 c1 rfl a4 w1 w2 w13 (o3'.ge (Nat.le_refl _) (fun _ _ => rfl) (fun a j z1 z2 => r2 _ _ (by omega))) i1.2.2.1 (n3.ge2 (Nat.le_refl _) (fun _ _ => rfl) (fun a j hz => r2 _ _ (by
        rcases hz with ⟨z, _⟩ | z | ⟨p, hp, z1, z2⟩
        · omega
        · omega
        · have := (n3.2.2.2.2 p hp).2.1; omega))) n10 n11 n2 w5 w6 w7 w8 w10 (fun j hj => ⟨(w3.srt tbM j hj).1, (w3.srt tbM j hj).2.1⟩) htk01 (by rw [cnv n10, m3]; omega) (by have := hsO.2.2.1.2; omega) (q4.ge (Nat.le_refl _) (fun _ _ => rfl) (fun a j z1 z2 => r2 _ _ (by omega))) q5 q6 (by rw [cnv n10]; exact n4) (n5.lt n12.1 (fun c hc => by have := n15 c hc; omega) (fun _ _ => rfl) (fun c _ => cnv n12 c) (fun c hc z a j z1 z2 => r2 _ _ (by omega))) n12 n15 (by rw [cnv n10]; exact n6) n7 n13 (fSh_ok hX0 (fun p hp => (n2 p hp).2.2.1) (fun p hp => Nat.le_trans (n2 p hp).2.1 (by decide))) (fun x hx => by rw [cnv n13]; exact n8' x hx) (fun c hc => by
        rw [G1l]
        obtain ⟨_, z2, z3⟩ := Lt c hc
        refine ⟨z2, ?_⟩
        rcases z3 with z | ⟨z1, z2, e, z3, z4⟩
        · exact .inl z
        · exact .inr ⟨z1, z2, e, z3, z4.ge (fun _ _ _ => rfl) (fun a j y1 y2 => r2 _ _ (by omega))⟩) (fun c hc => by rw [G1l]; exact (Lt c hc).1) (fun c hc => xX_nx hc) (fun c hc => xX_ge hc) hXn (fun y hy => by rw [G1l, Lc y hy]; have := hsO.2.2.2.2.2.2.1 y hy; omega) (fun p hp => by rw [G1l, Lw p hp]; have := hsO.2.2.2.2.2.1 p hp; omega) (fun z0 z1 x hx => by
        have t0 : tk = 0 := by omega
        have es : s' = s0 := by
          rcases gs with y | y
          · exact y.2.2
          · omega
        subst es
        have : fSh (xOf T (lMo l).2.2.1) s' R' = fSh (xOf T (lMo l).2.2.1) s' Mo := fSh_v n1.2.2.1.1.2.1 (fun p hp => by
          rw [← w4 t0 p hp]
          refine Classical.byContradiction fun q => ?_
          have := (w10 p hp).mpr q
          rw [z0, Nat.zero_testBit] at this
          cases this) _
        rw [this]) (fun z x hx => fSh_no hX0 hx (z x hx)) (by rw [r2 _ _ (by omega)]; exact l1) (by rw [r2 _ _ (by omega)]; exact l2) (by omega) (by omega) (fun r z1 z2 => by
        obtain ⟨x1, x2, _⟩ := l3 r (by omega) z2
        obtain ⟨f4, f5, f6⟩ := l4 r z1 z2
        obtain ⟨sx, Mx, rpx, xrx, crx, tpx, acx, tox, _, _, x3, _, _, _, ⟨x4, _⟩, _⟩ := x2
        obtain ⟨v1, v2, v3⟩ := hn1 r (by omega)
        rw [if_pos ⟨z1, by omega⟩, if_pos ⟨z1, by omega⟩, if_pos ⟨z1, by omega⟩, cnv x4, cnv x4, cnv x4, G1l, v1, v2, v3]
        exact ⟨x1, x3.1, x4, f4, f5, f6⟩) hbd (by
        show (if _ then _ else _) = _
        rw [if_pos inR, u1', llen, ← hdf]) (by
        show (if _ then _ else _) = _
        rw [if_pos inR, tcl]) (by
        show (((if _ then _ else _) : Nat) : Int) = _
        rw [if_pos inR]
        exact u3')
    clear gt
    have t4' : ∀ a j, a < A → a < 83 ∨ 203 < a → ¬ (a = 64 ∧ (j = 12 ∨ j = 13)) → ¬ (216 ≤ a ∧ a ≤ 219) → ¬ (a = 243 + 9 * hr ∧ (j = 1 ∨ j = 2 ∨ j = 7 ∨ j = 8)) → ¬ (a = 243 + 9 * hr + 1 ∧ j = l.2.1.1 + l.2.1.2.1 + 1) → a ≠ 243 + 9 * hr + 2 → a ≠ 243 + 9 * hr + 3 → a ≠ 243 + 9 * hr + 7 → a ≠ 243 + 9 * hr + 8 → G' a j = G a j := fun a j y1 y2 y3 y4 y5 y6 y7 y8 y9 y10 => by rw [t4 a j y1 y3 y4 y5 y6 y7 y8 y9 y10, r2 a j y2]
    have gg : ∀ a j, a < A → a < 83 ∨ 203 < a → ¬ (a = 64 ∧ (j = 12 ∨ j = 13)) → ¬ (216 ≤ a ∧ a ≤ 219) → ¬ (243 + 9 * hr ≤ a ∧ a ≤ 243 + 9 * hr + 8) → G' a j = G a j := fun a j y1 y2 y3 y4 y5 => t4' a j y1 y2 y3 y4 (by omega) (by omega) (by omega) (by omega) (by omega) (by omega)
    have sf : xSf A G G' := fun a j y1 y2 => gg a j y1 (by omega) (by omega) (by omega) (by omega)
    have emv : (if l.2.1.1 < l.2.1.1 + l.2.1.2.1 + 1 ∧ l.2.1.1 + l.2.1.2.1 + 1 ≤ l.2.1.1 + l.2.1.2.1 + 1 then (hLg H' (l.2.1.1 + l.2.1.2.1 + 1)).length else 0) = (lgR ((l.2.1.1 + l.2.1.2.1 + 1 : Nat) : Int) F (lMo l).2.1).length := by rw [if_pos inR, u1']
    have etl : (if l.2.1.1 < l.2.1.1 + l.2.1.2.1 + 1 ∧ l.2.1.1 + l.2.1.2.1 + 1 ≤ l.2.1.1 + l.2.1.2.1 + 1 then (hCg H' (l.2.1.1 + l.2.1.2.1 + 1)).length else 0) = (cgN ((l.2.1.1 + l.2.1.2.1 + 1 : Nat) : Int) (lMo l).2.2.1 l.2.2.2.1.2.2 72).length := by rw [if_pos inR, u2']
    have fin : c173 f 64 (S, G, (A, sl)) = some (v, (S', G', m')) := by
      rw [e173, y1, g3, ← emv]
      exact t1
    -- what is forgotten
    have tm := tm_of (L := hCat (hLg H') l.2.1.1 (l.2.1.2.1 + 1)) (C := hCat (hCg H') l.2.1.1 (l.2.1.2.1 + 1)) (E := hCat (hEg H') l.2.1.1 (l.2.1.2.1 + 1)) (R := l.2.1.1 + l.2.1.2.1 + 1) (old := l.2.1.1) (by omega) (fun a ha => by have := (hCat_mem (hLg_r H') _ ha).2; omega) (fun a ha => by have := (hCat_mem (hCg_r H') _ ha).2; omega) (fun a ha => by have := (hCat_mem (hEg_r H') _ ha).2; omega) (fun r z1 z2 => by
      show (if _ then _ else _) = _
      rw [if_pos ⟨z1, z2⟩, lgC_cat (hLg_r H') z1 _ z2]) (fun r z1 z2 => by
      show (if _ then _ else _) = _
      rw [if_pos ⟨z1, z2⟩, lgC_cat (hCg_r H') z1 _ z2]) (fun r z1 z2 => by
      show (if _ then _ else _) = _
      rw [if_pos ⟨z1, z2⟩, lgC_cat (hEg_r H') z1 _ z2]) t14.2.1 t14.1 t14.2.2
    rw [← hH'] at g6
    have eb := tmIs_u g6 tm
    have hb1 := g6.1
    -- the moment that is made
    have hmoN : cMo T S' G' m'.1 P be (lnM l F) := by
      refine ⟨s', R', A, xr', cr', tp2, ac2, tN9 G1 (243 + 9 * hr) to lt, isN, okR8, t7, ⟨t11.1, t11.2.2⟩, ⟨t12.1, t12.2.2.1, t12.2.2.2⟩, gn, ⟨⟨t6.2, .inr (by omega)⟩, ⟨by omega, .inr (by omega)⟩, ?_, ?_⟩, t8, fun c hc => ?_⟩
      · rcases t11.2.1 with z | z
        · rw [z]; exact ⟨by have := n12.1; omega, n12.2⟩
        · exact ⟨z.2, .inr (by omega)⟩
      · rcases t12.2.1 with z | z
        · rw [z]; exact ⟨by have := n13.1; omega, n13.2⟩
        · exact ⟨z.2, .inr (by omega)⟩
      · unfold tN9
        by_cases z : G1 (243 + 9 * hr + 7) c = 0
        · rw [if_pos z]
          rcases n15 c hc with y | y
          · exact .inl y
          · exact .inr ⟨y.1, by omega⟩
        · rw [if_neg z]
          rcases (Lt c hc).2.2 with y | ⟨y1, y2, _⟩
          · exact .inl y.1
          · exact .inr ⟨y1, by omega⟩
    have htt : (((if l.2.2.2.1.2.1 = -1 then 0 else 1) : Nat) : Int) = tk := by
      by_cases z : l.2.2.2.1.2.1 = -1
      · rw [if_pos z]
        have : ¬ tk = 1 := fun y => (hfr.mpr y) z
        omega
      · rw [if_neg z, hfr.mp z]
        rfl
    have hro : cRo T S' G' m'.1 P (243 + 9 * hr) (lnH l F) b' k' (l.2.1.2.2 + (if l.2.2.2.1.2.1 = -1 then 0 else 1)) := by
      refine ro_new Lr t2.1 t3 sf (by omega) g5 t13.1 (by rw [t13.2.1, eb]) (fun j z1 z2 => t4' _ _ (by omega) (by omega) (by omega) (by omega) (by omega) (by omega) (by omega) (by omega) (by omega) (by omega)) t13.2.2 hmoN (by rw [t10.2.2.2]; omega) ?_ (by rw [t10.1, emv]; rfl) (by rw [t10.2.1, etl]; rfl) (by rw [t10.2.2.1, htt])
      show _ = if decide (l.2.2.2.1.2.1 ≠ -1) = true then 1 else 0
      by_cases z : l.2.2.2.1.2.1 = -1
      · rw [if_pos z, if_neg (by rw [z]; decide)]
      · rw [if_neg z, if_pos (decide_eq_true z)]
    have hC0 : (fun p => ∃ x, x ∈ lgR ((l.2.1.1 + l.2.1.2.1 + 1 : Nat) : Int) F (lMo l).2.1 ∧ ofP s' x.2.2 p) = fun p => p < s'.1.length ∧ ¬ vEq (R' p) (A0 p) := funext fun p => propext (chg_iff q3.1 i1.2.2.1 tbR tbM hFR i1.2.2.2.2.2.1 w3 p)
    have hfr' : (l.2.2.2.1.2.1 ≠ -1) = (tk = 1) := propext hfr
    have hfS : fSh (xOf T (kNx (lMo l).2.2.1 l.2.2.2.1.2.2 72)) s' M = fSh (xOf T (kNx (lMo l).2.2.1 l.2.2.2.1.2.2 72)) s' R' := fSh_v q3.1.1.2.1 (fun p hp => by rw [hMR p hp]) _
    rw [hC0] at g7' g8
    rw [hfS, hfr'] at g8
    have hln' : cLn T S' G' m'.1 P (243 + 9 * hr) ln' := by
      rw [g4]
      refine ⟨hro, ⟨fun p hp => ?_, fun c hc => ?_⟩, .inl ⟨rfl, t15.1⟩, ⟨s', ?_, cPn.nil t15.2.1⟩, cCt.nil t15.2.2, ?_, fun hne => ?_⟩
      · show G' (243 + 9 * hr + 2) p = wk' p
        rw [t16 p hp, G1l, Lw p hp]
        have e0 : (if tk = 0 then l.2.2.1.1 p else 0) = if l.2.2.2.1.2.1 = -1 then l.2.2.1.1 p else 0 := by
          by_cases z : l.2.2.2.1.2.1 = -1
          · rw [if_pos z, if_pos (by rcases htk01 with y | y; exact y; exact absurd z (hfr.mpr y))]
          · rw [if_neg z, if_neg (by rw [hfr.mp z]; decide)]
        rw [e0]
        rcases g7' p hp with ⟨z1, z2⟩ | ⟨z1, z2⟩
        · rw [z2, if_pos ((w12 p).mpr z1)]
        · rw [z2, if_neg (fun y => z1 ((w12 p).mp y)), Int.add_zero]
      · show G' (243 + 9 * hr + 3) c = cw' c
        have := t17 c hc
        rw [G1l, Lc c hc] at this
        rcases g8 c hc with ⟨z1, z2⟩ | ⟨z1, z2⟩
        · rw [z2]; exact this.1 z1
        · rw [z2]; exact this.2 z1
      · show qPr (T.getD (lnE (lnH l F, (b', k', _), (wk', cw', true), ([], -1, fun _ => -1), l.2.2.2.2)) []) = _
        have : lnE (lnH l F, (b', k', l.2.1.2.2 + (if l.2.2.2.1.2.1 = -1 then 0 else 1)), (wk', cw', true), ([], -1, fun _ => -1), l.2.2.2.2) = lnE l := by
          show (if (-1 : Int) = -1 then (lnH l F (b' + k')).1 else _) = _
          rw [if_pos rfl, g5]
          show (hAd l.1 (l.2.1.1 + l.2.1.2.1 + 1) (lnM l F) (l.2.1.1 + l.2.1.2.1 + 1)).1 = _
          rw [hAd_s]
          rfl
        rw [this]
        exact i2
      · rw [t4' _ _ (by omega) (by omega) (by omega) (by omega) (by omega) (by omega) (by omega) (by omega) (by omega) (by omega)]; exact L3
      · rw [t4' _ _ (by omega) (by omega) (by omega) (by omega) (by omega) (by omega) (by omega) (by omega) (by omega) (by omega)]; exact L4 hne
    rw [g0, if_pos rfl]
    refine ⟨S', G', m', fin, t2, t3, ⟨⟨fun k hk => by rw [t3 _ (by omega)]; exact a1 k hk, t5, a3.ge (fun a j z1 z2 => gg a j (by omega) (by omega) (by omega) (by omega) (by omega)), by omega⟩, ⟨P, b1.ge t2.1 t3 sf (by rw [gg _ _ (by omega) (by omega) (by omega) (by omega) (by omega)]; exact Int.le_refl _), fun y hy => ?_, ?_⟩, ⟨c1, by rw [gg _ _ (by omega) (by omega) (by omega) (by omega) (by omega)]; exact c2⟩, ⟨by rw [gg _ _ (by omega) (by omega) (by omega) (by omega) (by omega)]; exact c3, by rw [gg _ _ (by omega) (by omega) (by omega) (by omega) (by omega)]; omega⟩, by rw [gg _ _ (by omega) (by omega) (by omega) (by omega) (by omega)]; exact c5, by rw [gg _ _ (by omega) (by omega) (by omega) (by omega) (by omega)]; exact c6, c7.ge (gg _ _ (by omega) (by omega) (by omega) (by omega) (by omega)) (fun p => gg _ _ (by omega) (by omega) (by omega) (by omega) (by omega)), c8.ge (fun a z => t3 a (by omega)) (fun a j z1 z2 => gg a j (by omega) (by omega) (by omega) (by omega) (by omega)) ⟨gg _ _ (by omega) (by omega) (by omega) (by omega) (by omega), gg _ _ (by omega) (by omega) (by omega) (by omega) (by omega)⟩, c9.ge ⟨gg _ _ (by omega) (by omega) (by omega) (by omega) (by omega), gg _ _ (by omega) (by omega) (by omega) (by omega) (by omega)⟩ (fun j => gg _ _ (by omega) (by omega) (by omega) (by omega) (by omega))⟩⟩
    · unfold lUp
      by_cases d : y = hr
      · rw [if_pos d, d]; exact hln'
      · rw [if_neg d]
        exact (b2 y hy).ge t2.1 t3 sf (fun a j z1 z2 => gg a j (by omega) (by omega) (by omega) (by omega) (by omega))
    · unfold lUp
      rw [if_pos rfl, g4]
      refine ⟨fun z => absurd z (by show ¬ (true = false); decide), fun _ => ⟨_, be, t9.1, t9.2, ?_, ?_⟩⟩
      · have : lnH l F (b' + k' - 1) = lMo l := by
          rw [g5, Nat.add_sub_cancel]
          exact hAd_n (by omega)
        show cMo T S' G' m'.1 P _ (lnH l F (b' + k' - 1))
        rw [this]
        exact m2.ge t2.1 t3 sf
      · show cMo T S' G' m'.1 P be (lnH l F (b' + k'))
        have : lnH l F (b' + k') = lnM l F := by
          rw [g5]
          exact hAd_s
        rw [this]
        exact hmoN
end
end
section
/-! THE CLASS: ask() -/
section
variable {f u q mp rp nx an sp : Nat} {S : Nat → Nat × Nat × Nat} {G : xG_} {m : Nat × Nat} {s : pPg} {xr cr : Nat → Nat} {M : Nat → List pRw} {V : List (Int × Nat)} {Ls : List pLt}
theorem st_179 {G2 : xG_} (hs : cSs S) (hp : cPs G) (h11 : G 64 11 = (sp : Int)) (hsp : sp = 221 ∨ sp = 224) (su : S u = (1, 6, 20)) (h6 : G u 6 = (V.length : Int)) (hu : 278 < u) (sm : S mp = (1, 2, 8)) (h1 : G mp 1 = (rp : Int)) (hmp : mp < 216 ∨ 227 < mp) (e : c130 f 83 u rp 0 (S, xup2 (xup2 G sp 0 (V.length : Int)) sp 1 0, m) = some (S, G2, m)) : c179 f 64 u mp (S, G, m) = c179_29 f f 64 sp 0 (S, G2, m) := by
  have ssp : S sp = (1, 5, 4) := by
    rcases hsp with rfl | rfl
    · exact s221 hs
    · exact s224 hs
  have z : ∀ a j, a ≠ sp → xup2 (xup2 G sp 0 (V.length : Int)) sp 1 0 a j = G a j := fun a j y => by rw [xup2_n (by omega), xup2_n (by omega)]
  have i1 : cq_is 5 4 sp (S, G, m) = some () := if_pos ssp
  have i2 : cq_is 9 14 83 (S, xup2 (xup2 G sp 0 (V.length : Int)) sp 1 0, m) = some () := if_pos (s83 hs)
  unfold c179
  rw [o_gr (s64 hs) h11, Option.bind_some, o_gi su, Option.bind_some, h6, i1, Option.bind_some, k_69 ssp, Option.bind_some, o_gr (y := 83) (s64 hs) (by rw [z _ _ (by omega)]; exact p64_2 hp), Option.bind_some, o_gr sm (by rw [z _ _ (by omega)]; exact h1), Option.bind_some, i2, Option.bind_some, e, Option.bind_some]
/-- ask() -/
theorem k_179 (hf : 100003010 < f) (hs : cSs S) (hp : cPs G) (han : an = 221 ∧ sp = 224 ∨ an = 224 ∧ sp = 221) (h10 : G 64 10 = (an : Int)) (h11 : G 64 11 = (sp : Int)) (hR : cRul S G u V (0, -1, -1) [] Ls) (hu : 278 < u) (hM : cMr S G nx mp q rp s xr cr M) (hMo : okM8 s M) (hmp : 227 < mp) (hrp : 227 < rp) (hxr : ∀ p, p < s.1.length → xr p + 2 < 216 ∨ 226 < xr p) (hn16 : s.1.length ≤ 16) (hw : ∀ y ∈ Ls, wLt s.1.length V.length y ∧ (y.1 ≠ 3 → 0 ≤ y.2.1 ∧ y.2.2.2.1.length = qN s y.2.1.toNat)) (hd : dLs Ls) (hat : pAtoms Ls ≤ 3) (hsf : sfe Ls V.length) :
    ∃ v G', c179 f 64 u mp (S, G, m) = some (v, (S, G', m)) ∧ cPs G' ∧ (∀ a j, ¬ (83 ≤ a ∧ a ≤ 92) → ¬ (sp ≤ a ∧ a ≤ sp + 2) → ¬ (a = 64 ∧ (j = 10 ∨ j = 11)) → G' a j = G a j) ∧
      ((v = -6000 ∧ G' 64 10 = (an : Int) ∧ G' 64 11 = (sp : Int) ∧ ∃ W : List (List Int), W.Nodup ∧ 500 < W.length ∧ ∀ x ∈ W, isW Ls V.length M qO1 x) ∨
       ∃ Q : List (List Int), Q.length ≤ 500 ∧ Q.Pairwise vLe ∧ isAll Ls V.length M qO1 Q ∧ v = (Q.length : Int) ∧ (Q.length = 0 ∧ G' 64 10 = (an : Int) ∧ G' 64 11 = (sp : Int) ∨ 0 < Q.length ∧ G' 64 10 = (sp : Int) ∧ G' 64 11 = (an : Int) ∧ cRw S G' sp V.length 500 (Q.map (fun x => (x, 0))))) := by
  obtain ⟨K, r1, r2, ⟨pl, p1, p2, p3⟩, r4, r5, r6⟩ := hR
  obtain ⟨hnd, bb, hpB⟩ := p3 hsf
  have hsp : sp = 221 ∨ sp = 224 := by omega
  have sS : S sp = (1, 5, 4) ∧ S (sp + 1) = (2, 4, 4000) ∧ S (sp + 2) = (2, 3, 500) := by
    rcases hsp with rfl | rfl
    · exact ⟨s221 hs, s222 hs, s223 hs⟩
    · exact ⟨s224 hs, s225 hs, s226 hs⟩
  have sP : G sp 2 = ((sp + 1 : Nat) : Int) ∧ G sp 3 = ((sp + 2 : Nat) : Int) := by
    rcases hsp with rfl | rfl
    · exact ⟨hp (221, 2, 222) (by decide), hp (221, 3, 223) (by decide)⟩
    · exact ⟨hp (224, 2, 225) (by decide), hp (224, 3, 226) (by decide)⟩
  obtain ⟨G1, hG1⟩ : ∃ G1, G1 = xup2 (xup2 G sp 0 (V.length : Int)) sp 1 0 := ⟨_, rfl⟩
  have z1 : ∀ a j, ¬ (a = sp ∧ j ≤ 1) → G1 a j = G a j := fun a j y => by rw [hG1, xup2_n (by omega), xup2_n (by omega)]
  have p1' : cPs G1 := hp.ge (fun a j hz => z1 a j (by
      rcases hz with z | z | z | z | z | z | z | ⟨z, z1, z2, k, z3⟩ | z | z | z | ⟨k, z1, z2, z3⟩ <;> omega))
  obtain ⟨G2, e1, e2, e3, e4, e5, e6, e7, e8, e9, e10, e11⟩ := k_130 (u := u) (fa := rp) (m := m) (G := G1) (f := f) (br := 0) (by omega) hs p1' (.inl rfl)
  have st := st_179 (f := f) (m := m) hs hp h11 hsp r1.1.1 r4 hu hM.1 hM.2.2.1 (by omega) (by rw [← hG1]; exact e1)
  have z2 : ∀ a j, ¬ (83 ≤ a ∧ a ≤ 92) → ¬ (a = sp ∧ j ≤ 1) → G2 a j = G a j := fun a j y1 y2 => by rw [e2 a j (by omega) (by omega) (by omega) (by omega), z1 a j y2]
  have hr1 : cRq S G2 u K Ls := r1.fx (fun a j y => z2 a j (by omega) (by omega))
  have hE : cWE S G2 u K Ls pl rp s.1.length s.1.length V.length (qAs (0, -1, -1) []) 0 (qN s) xr cr M (fun _ => 0) (fun _ => 1700) := by
    refine ⟨⟨hs, e3, e4, e5, e6, hM.2.2.2.1, by omega, Nat.le_refl _⟩, hr1, ⟨r5, hw, hd⟩, ⟨p1, fun k hk => ?_⟩, fun p hp' => ?_, fun l hl => ⟨e10 l hl, e11 l hl⟩⟩
    · obtain ⟨w1, w2, w3⟩ := p2 k hk
      refine ⟨by rw [z2 _ _ (by omega) (by omega)]; exact w1, w2, by rw [z2 _ _ (by omega) (by omega)]; exact w3, plA_8 (nv := V.length) (by decide +kernel) (fun y hy => (hw y hy).1.lv) r5 _ (fun x hx => ?_)⟩
      obtain ⟨i, hi, ei⟩ := List.getElem_of_mem (List.mem_of_mem_drop hx)
      have := (p2 i (by omega)).2.1
      rw [getD_e hi, ei] at this
      exact this
    · obtain ⟨w1, w2, w3⟩ := hM.2.2.2.2 p hp'
      have w4 := hxr p hp'
      obtain ⟨v1, v2, v3, _⟩ := hMo p hp'
      exact ⟨by rw [z2 _ _ (by omega) (by omega)]; exact w1, by omega, w3.ge (fun _ _ _ => rfl) (fun j => z2 _ _ (by omega) (by omega)) (fun j => z2 _ _ (by omega) (by omega)) (fun j => z2 _ _ (by omega) (by omega)), v1, v2, v3⟩
  obtain ⟨W, k, Bf, w1, w2, w3, w4, w5, w6, _⟩ := ways_start hE e7 e8 (b := 0) (vl := fun _ => 0) ⟨e9, by decide, fun k hk => by rw [Nat.zero_testBit] at hk; cases hk⟩ hat hsf hnd hpB
  obtain ⟨w7, w8⟩ := w6 rfl
  have hall : isAll Ls V.length M qO1 (W.map (vec V.length)) := all_of (np := s.1.length) (lo := fun _ => 0) (hi := fun _ => 1700) (fun y hy => (hw y hy).1) w4 (ways_bits hE e7 e8 e9 w3) (fun l hl h3 r hr => by
    have hy := (hw _ (lt_in hl))
    have h0 := hy.1
    have hlt : (Ls.getD l dLt).2.1.toNat < s.1.length := by
      have h5 := (hy.2 h3).1
      rcases h0 with ⟨_, _, h6, _⟩ | ⟨h6, _⟩
      · omega
      · exact absurd h6 h3
    exact (hMo _ hlt).2.2.2 r hr) (fun v hv => (w5 v hv).2) w7 (fun w hw' => w8 w (fun j hj => by rw [Nat.zero_testBit] at hj; cases hj) hw')
  have hF0 : cRw S G2 sp V.length 500 [] := by
    refine ⟨sS.1, ⟨4000, sS.2.1, by omega, by decide⟩, sS.2.2, ⟨?_, ?_, by rw [z2 _ _ (by omega) (by omega)]; exact sP.1, by rw [z2 _ _ (by omega) (by omega)]; exact sP.2⟩, Nat.zero_le _, by decide, r5, fun i hi => absurd hi (Nat.not_lt_zero i)⟩
    · rw [e2 _ _ (by omega) (by omega) (by omega) (by omega), hG1, xup2_n (by omega), xup2_s]
    · rw [e2 _ _ (by omega) (by omega) (by omega) (by omega), hG1, xup2_s]; rfl
  obtain ⟨G3, g1, g2, g3⟩ := k_179l (f := f) (m := m) (x := sp) hf hsp (fun p hp' => by have := hxr p hp'; omega) (by omega) r5 w4 W k 0 f G2 [] hE w3 w1 (by omega) (by omega) hF0 List.Pairwise.nil (fun r hr => by cases hr)
  have z3 : ∀ a j, ¬ (83 ≤ a ∧ a ≤ 92) → ¬ (sp ≤ a ∧ a ≤ sp + 2) → G3 a j = G a j := fun a j y1 y2 => by rw [g1 a j y1 y2, z2 a j y1 (by omega)]
  have c10 : G3 64 10 = (an : Int) := by rw [z3 _ _ (by omega) (by omega)]; exact h10
  have c11 : G3 64 11 = (sp : Int) := by rw [z3 _ _ (by omega) (by omega)]; exact h11
  rcases g3 with ⟨F, f1, f2, f3, f4, f5⟩ | ⟨f1, Z, f2, f3, f4⟩
  · have hQ : isAll Ls V.length M qO1 (F.map (·.1)) := by
      refine ⟨?_, fun v => ?_⟩
      · rw [List.nodup_iff_pairwise_ne, List.pairwise_map]
        exact f3.imp (fun {a b} h => (fun e : a.1 = b.1 => vLt_irr b.1 (by have h' : vLt a.1 b.1 := h; rw [e] at h'; exact h')))
      · rw [← hall.2 v, List.mem_map, List.mem_map]
        have := f5 v
        constructor
        · rintro ⟨r, r1, r2⟩
          rcases this.mp ⟨r, r1, r2⟩ with ⟨_, z, _⟩ | z
          · cases z
          · exact z
        · intro z
          obtain ⟨r, r1, r2⟩ := this.mpr (.inr z)
          exact ⟨r, r1, r2⟩
    have hFm : (F.map (·.1)).map (fun x => ((x, 0) : pRw)) = F := by
      rw [List.map_map]
      conv => rhs; rw [← List.map_id F]
      exact List.map_congr_left (fun r hr => Prod.ext rfl (f4 r hr).symm)
    have hlen : (F.map (·.1)).length = F.length := List.length_map _
    have hpw : (F.map (·.1)).Pairwise vLe := by
      rw [List.pairwise_map]
      have hlf : ∀ r ∈ F, r.1.length = V.length := fun r hr => by
        obtain ⟨i, hi, ei⟩ := List.getElem_of_mem hr
        have := (f2.2.2.2.2.2.2.2 i hi).1
        rw [getD_e hi, ei] at this
        exact this
      exact f3.imp_of_mem (fun {a b} ha hb h => Int.le_of_lt ((vLt_iff ((hlf a ha).trans (hlf b hb).symm)).mp h))
    have g1F : cq_gi 5 1 4 sp (S, G3, m) = some (F.length : Int) := by rw [o_gi sS.1, f2.2.2.2.1.2.1]
    by_cases c : F.length = 0
    · refine ⟨(F.length : Int), G3, ?_, g2, fun a j y1 y2 _ => z3 a j y1 y2, .inr ⟨F.map (·.1), by omega, hpw, hQ, by rw [hlen], .inl ⟨by omega, c10, c11⟩⟩⟩
      rw [st]
      have f1' : c179_29 f f 64 sp 0 (S, G2, m) = c179_101 f 64 sp (S, G3, m) := f1
      rw [f1']
      unfold c179_101 c179_121
      rw [g1F, Option.bind_some, if_pos (by omega), Option.bind_some]
    · have hle := f2.2.2.2.2.1
      have zz : ∀ a j, ¬ (a = 64 ∧ (j = 10 ∨ j = 11)) → xup2 (xup2 G3 64 11 (an : Int)) 64 10 (sp : Int) a j = G3 a j := fun a j y => by rw [xup2_n (by omega), xup2_n (by omega)]
      refine ⟨(F.length : Int), xup2 (xup2 G3 64 11 (an : Int)) 64 10 (sp : Int), ?_, g2.ge (fun a j hz => zz a j (by
        rcases hz with z | z | z | z | z | z | z | ⟨z, z1, z2, k, z3⟩ | z | z | z | ⟨k, z1, z2, z3⟩ <;> omega)), fun a j y1 y2 y3 => by rw [zz a j y3, z3 a j y1 y2], .inr ⟨F.map (·.1), by omega, hpw, hQ, by rw [hlen], .inr ⟨by omega, xup2_s _ _ _ _, by rw [xup2_n (by omega), xup2_s], ?_⟩⟩⟩
      · rw [st]
        have f1' : c179_29 f f 64 sp 0 (S, G2, m) = c179_101 f 64 sp (S, G3, m) := f1
        rw [f1']
        unfold c179_101 c179_121
        rw [g1F, Option.bind_some, if_neg (by omega), o_gr (s64 hs) c10, Option.bind_some, o_pr (s64 hs), Option.bind_some, o_pr (s64 hs), Option.bind_some, o_gi sS.1, Option.bind_some, zz _ _ (by omega), f2.2.2.2.1.2.1]
      · rw [hFm]
        exact f2.ge (fun _ _ _ => rfl) (fun j => zz _ _ (by omega)) (fun j => zz _ _ (by omega)) (fun j => zz _ _ (by omega))
  · refine ⟨-6000, G3, st.trans f1, g2, fun a j y1 y2 _ => z3 a j y1 y2, .inl ⟨rfl, c10, c11, Z, f2, f3, fun x hx => ?_⟩⟩
    rcases f4 x hx with ⟨_, z, _⟩ | ⟨v, v1, v2⟩
    · cases z
    · exact (hall.2 x).mp (List.mem_map.mpr ⟨v, v1, v2⟩)
end
end
