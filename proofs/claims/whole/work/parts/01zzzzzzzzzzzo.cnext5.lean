/-! THE CLASS: next(), the other steps -/
section
variable {f u fa fn np nv a st b : Nat} {S : Nat → Nat × Nat × Nat} {G : xG_} {m : Nat × Nat} {K : pCd} {Ls : List pLt} {pl : List Nat} {br : Int} {qn xp cp : Nat → Nat} {R : Nat → List pRw} {lo hi : Nat → Int} {r2 : Nat → Int → xT_ → Option (Int × xT_)} {x : Int} {Bf : Nat} {vl : Nat → Int} {V V1 V2 : List (Nat → Int)} {k k1 k2 : Nat}
theorem nx_fn (hf : 3010 < f) (hx : 0 ≤ x ∧ x < 1000000000) (h : cWE S G u K Ls pl fa fn np nv a br qn xp cp R lo hi) (hn : st < pl.length) (h6 : G 83 6 = (st : Int)) (h7 : G 83 7 = 1) (hlv : lvE G st b vl) (hok : okP Ls (pl.drop st) b) (hmk : mkP Ls (pl.drop st) b = Bf) (hw : wyE Ls a br R lo hi (pl.drop st) b vl V1 k1) (hk : bkE Ls pl a br R lo hi G st b V2 k2) (hy : (Ls.getD (pl.getD st 0) dLt).1 = 2) (hkd : G (u + 2) (pl.getD st 0) = 9) : nxS Ls pl a br R lo hi Bf G (V1 ++ V2) (k1 + k2) S m (c132_2b r2 f 83 x (S, G, m)) (r2 83 (x + 1)) := by
  have hW := h.wy
  obtain ⟨hn', hl8, hl, hp9, h8, _⟩ := h.at hn
  have hu := hW.2.2.2.1
  have ed : pl.drop st = pl.getD st 0 :: pl.drop (st + 1) := by rw [getD_e hn]; exact List.drop_eq_getElem_cons hn
  have es : xwr ((st : Int) + 1) = ((st + 1 : Nat) : Int) := by rw [xwr_g _ (by omega) (by omega)]; omega
  have z0 : ∀ a j, ¬ (a = 87 ∧ j = st + 1) → xup2 G 87 (st + 1) (b : Int) a j = G a j := fun a j y => xup2_n y
  have wf0 : xWf G (xup2 G 87 (st + 1) (b : Int)) := fun a j y1 y2 y3 => z0 a j (by omega)
  have h0 := h.ge wf0
  obtain ⟨p, p1, p2, p3, p4, p5, p6, p7⟩ := h0.lv hl (by omega) (by rw [z0 _ _ (by omega)]; exact h6) (by omega : st < 8) (by rw [z0 _ _ (by omega)]; exact hlv.1) hlv.2.1
  have hpp : (Ls.getD (pl.getD st 0) dLt).2.1.toNat = p := by rw [p2]; rfl
  have hv : ∀ k, b.testBit k = true → xup2 G 87 (st + 1) (b : Int) 84 k = vl k := fun k hk => by rw [z0 _ _ (by omega)]; exact (hlv.2.2 k hk).2.1
  obtain ⟨w, G1, g1, g2, g3, g4, g5, g6⟩ := k_138 (f := f) (m := m) (by omega) p3 p4 p5 hv
  have e1 := sw_132n (r2 := r2) (f := f) (m := m) (x := x) hW.1 hW.2.1 hx.2 hW.2.2.1 hu hW.2.2.2.2.1.1 hW.2.2.2.2.1.2.2.1 hW.2.2.2.2.1.2.2.2.2.2.2.2.2.2.1 hW.2.2.2.2.2.1.2.1 hW.2.2.2.2.2.1.2.2.2.2.2.2.2.2.1 h8 h6 (by omega) hl8 hp9 (by omega) hkd hlv.1 es h7 g1 g5
  have h61 : G1 83 6 = (st : Int) := by rw [g2 _ _ (by omega) (by omega) (by omega) (by omega) (by omega), z0 _ _ (by omega)]; exact h6
  have e3 := e1.trans (st_185 hW.1 h61 g5 (xwr_g _ (by omega) (by omega)) (by rw [xwr_g _ (by omega) (by omega)]; omega) (xwr_g _ (by omega) (by omega)))
  have fr1 : ∀ a j, 87 ≤ a → a ≤ 90 → j < st → G1 a j = G a j := fun a j y1 y2 y3 => by
    by_cases c : a = 87
    · rw [c, g2 _ _ (by omega) (by omega) (by omega) (by omega) (by omega), z0 _ _ (by omega)]
    · rw [g3 a j (by omega) (by omega) y2, z0 _ _ (by omega)]
  have fr2 : G1 87 st = G 87 st := by rw [g2 _ _ (by omega) (by omega) (by omega) (by omega) (by omega), z0 _ _ (by omega)]
  have fr3 : ∀ j, b.testBit j = true → G1 84 j = G 84 j := fun j hj => by rw [g4 j hj, z0 _ _ (by omega)]
  have wf2 : xWf G G1 := fun a j y1 y2 y3 => by rw [g2 a j y1 (by omega) (by omega) (by omega) (by omega), wf0 a j y1 y2 y3]
  rw [ed] at hw
  obtain ⟨D, k', c1, c2, c3⟩ := hw
  have c1' : ((∀ j, j < (R p).length → fitR (Ls.getD (pl.getD st 0) dLt).2.2.2.1 (lo (pl.getD st 0)) (hi (pl.getD st 0)) b vl ((R p).getD j dRw) = none) → D = [vl]) ∧ (¬ (∀ j, j < (R p).length → fitR (Ls.getD (pl.getD st 0) dLt).2.2.2.1 (lo (pl.getD st 0)) (hi (pl.getD st 0)) b vl ((R p).getD j dRw) = none) → D = []) := by
    rcases c1 with ⟨q, _⟩ | ⟨_, q⟩ | ⟨q, _⟩
    · omega
    · rw [hpp] at q; exact q
    · omega
  have hqs : qSub (qLv (Ls.getD (pl.getD st 0) dLt)) b := by
    have hok' := hok
    rw [ed] at hok'
    have hq := hok'.1
    unfold qBh at hq
    by_cases c : (Ls.getD (pl.getD st 0) dLt).1 = 1 ∨ qSub (qLv (Ls.getD (pl.getD st 0) dLt)) b
    · exact c.elim (fun q => by omega) id
    · rw [if_neg c, if_neg (fun q => by have := q.1; omega)] at hq
      exact absurd rfl hq
  have hB : b = b ||| qLv (Ls.getD (pl.getD st 0) dLt) := (or_sub hqs).symm
  rcases g5 with q1 | q1
  · subst q1
    rw [if_pos rfl] at e3
    have hD := c1'.2 (fun q => by have := g6.mpr q; omega)
    rw [hD] at c2
    obtain ⟨s1, s2⟩ := wyS_n c2
    refine .inl ⟨_, k2, e3, fun a j y1 y2 y3 => by rw [up67 y3]; exact wf2 a j y1 y2 y3, by omega, ?_⟩
    rw [s1, List.nil_append]
    exact bk_back (by omega) hmk hk fr1 fr2 fr3
  · subst q1
    rw [if_neg (by decide)] at e3
    have hD := c1'.1 (g6.mp rfl)
    rw [hD] at c2
    obtain ⟨Va, ka, Vb, kb, s1, s2, s3, s4⟩ := wyS_c c2
    obtain ⟨s5, s6⟩ := wyS_n s2
    rw [← hB] at s1 s2
    have hlv2 : lvE G1 (st + 1) b vl := ⟨by rw [g2 _ _ (by omega) (by omega) (by omega) (by omega) (by omega), xup2_s], hlv.2.1, fun j hj => by rw [fr3 j hj]; exact hlv.2.2 j hj⟩
    refine .inl ⟨_, ka + (1 + kb + k2), e3, fun a j y1 y2 y3 => by rw [up67 y3]; exact wf2 a j y1 y2 y3, by omega, ?_⟩
    rw [s3, List.append_assoc]
    exact bk_on hn hlv hB hlv.2.1 hok (by have := mk_on hn hmk; rw [← hB] at this; exact this) (.inr ⟨by omega, rfl⟩) s2 s1 hk fr1 fr2 fr3 hlv2
theorem nx_fc (hf : 3010 < f) (hx : 0 ≤ x ∧ x < 1000000000) (h : cWE S G u K Ls pl fa fn np nv a br qn xp cp R lo hi) (hn : st < pl.length) (h6 : G 83 6 = (st : Int)) (h7 : G 83 7 = 1) (hlv : lvE G st b vl) (hok : okP Ls (pl.drop st) b) (hmk : mkP Ls (pl.drop st) b = Bf) (hw : wyE Ls a br R lo hi (pl.drop st) b vl V1 k1) (hk : bkE Ls pl a br R lo hi G st b V2 k2) (hy : (Ls.getD (pl.getD st 0) dLt).1 = 3) (hkd : G (u + 2) (pl.getD st 0) ≠ 15) (hkd2 : G (u + 2) (pl.getD st 0) ≠ 9) : nxS Ls pl a br R lo hi Bf G (V1 ++ V2) (k1 + k2) S m (c132_2b r2 f 83 x (S, G, m)) (r2 83 (x + 1)) := by
  have hW := h.wy
  obtain ⟨hn', hl8, hl, hp9, h8, _⟩ := h.at hn
  have hu := hW.2.2.2.1
  have ed : pl.drop st = pl.getD st 0 :: pl.drop (st + 1) := by rw [getD_e hn]; exact List.drop_eq_getElem_cons hn
  have es : xwr ((st : Int) + 1) = ((st + 1 : Nat) : Int) := by rw [xwr_g _ (by omega) (by omega)]; omega
  have z0 : ∀ a j, ¬ (a = 87 ∧ j = st + 1) → xup2 G 87 (st + 1) (b : Int) a j = G a j := fun a j y => xup2_n y
  have wf0 : xWf G (xup2 G 87 (st + 1) (b : Int)) := fun a j y1 y2 y3 => z0 a j (by omega)
  have h0 := h.ge wf0
  have hq : qBh (Ls.getD (pl.getD st 0) dLt) b ≠ none := by
    have hok' := hok
    rw [ed] at hok'
    exact hok'.1
  have hC := h0.cm hl hy (by rw [z0 _ _ (by omega)]; exact h6) (by omega : st < 8) (by rw [z0 _ _ (by omega)]; exact hlv.1) (xup2_s _ _ _ _) hlv.2.1 hq
  obtain ⟨w, G1, g1, g2, g3, g4⟩ := k_139 (f := f) (m := m) (vl := vl) hf hC (hlv.2.2.ge (fun k => z0 _ _ (by omega)))
  have g5 : w = 0 ∨ w = 1 := by rcases g4 with ⟨q, _⟩ | ⟨q, _⟩ <;> omega
  have e1 := sw_132m (r2 := r2) (f := f) (m := m) (x := x) hW.1 hW.2.1 hx.2 hW.2.2.1 hu hW.2.2.2.2.1.1 hW.2.2.2.2.1.2.2.1 hW.2.2.2.2.1.2.2.2.2.2.2.2.2.2.1 hW.2.2.2.2.2.1.2.1 hW.2.2.2.2.2.1.2.2.2.2.2.2.2.2.1 h8 h6 (by omega) hl8 hp9 (by omega) rfl hkd hkd2 hlv.1 es h7 g1 g5
  have h61 : G1 83 6 = (st : Int) := by rw [g2 _ _ (by omega) (by omega) (by omega), z0 _ _ (by omega)]; exact h6
  have e3 := e1.trans (st_185 hW.1 h61 g5 (xwr_g _ (by omega) (by omega)) (by rw [xwr_g _ (by omega) (by omega)]; omega) (xwr_g _ (by omega) (by omega)))
  have fr1 : ∀ a j, 87 ≤ a → a ≤ 90 → j < st → G1 a j = G a j := fun a j y1 y2 y3 => by rw [g2 a j (by omega) (by omega) (by omega), z0 _ _ (by omega)]
  have fr2 : G1 87 st = G 87 st := by rw [g2 _ _ (by omega) (by omega) (by omega), z0 _ _ (by omega)]
  have fr3 : ∀ j, b.testBit j = true → G1 84 j = G 84 j := fun j hj => by rw [g3 j hj, z0 _ _ (by omega)]
  have wf2 : xWf G G1 := fun a j y1 y2 y3 => by rw [g2 a j y1 (by omega) (by omega), wf0 a j y1 y2 y3]
  rw [ed] at hw
  obtain ⟨D, k', c1, c2, c3⟩ := hw
  have c1' : (∀ b' v', cmpV (Ls.getD (pl.getD st 0) dLt) b vl = some (b', v') → D = [v']) ∧ (cmpV (Ls.getD (pl.getD st 0) dLt) b vl = none → D = []) := by
    rcases c1 with ⟨q, _⟩ | ⟨q, _⟩ | ⟨_, q⟩
    · omega
    · omega
    · exact q
  rcases g4 with ⟨q1, b', v', q2, q3, q4⟩ | ⟨q1, q2⟩
  · subst q1
    rw [if_neg (by decide)] at e3
    have hB := cmpV_b hy hq q2
    have hD := c1'.1 _ _ q2
    rw [hD] at c2
    obtain ⟨Va, ka, Vb, kb, s1, s2, s3, s4⟩ := wyS_c c2
    rw [← hB] at s1 s2
    have hmm : Ls.getD (pl.getD st 0) dLt ∈ Ls := by rw [getD_e hl]; exact List.getElem_mem hl
    have hlt := (h.2.2.1.2.1 _ hmm).1
    have hB8 : b' < 2 ^ 8 := by rw [hB]; exact Nat.or_lt_two_pow hlv.2.1 (qLv_8 hlt.lv h.2.2.1.1)
    refine .inl ⟨_, ka + (1 + kb + k2), e3, fun a j y1 y2 y3 => by rw [up67 y3]; exact wf2 a j y1 y2 y3, by omega, ?_⟩
    rw [s3, List.append_assoc]
    exact bk_on hn hlv hB hB8 hok (by rw [hB]; exact mk_on hn hmk) (.inr ⟨by omega, rfl⟩) s2 s1 hk fr1 fr2 fr3 ⟨q3, hB8, q4⟩
  · subst q1
    rw [if_pos rfl] at e3
    have hD := c1'.2 q2
    rw [hD] at c2
    obtain ⟨s1, s2⟩ := wyS_n c2
    refine .inl ⟨_, k2, e3, fun a j y1 y2 y3 => by rw [up67 y3]; exact wf2 a j y1 y2 y3, by omega, ?_⟩
    rw [s1, List.nil_append]
    exact bk_back (by omega) hmk hk fr1 fr2 fr3
theorem nx_be (hx : 0 ≤ x ∧ x < 1000000000) (h : cWE S G u K Ls pl fa fn np nv a br qn xp cp R lo hi) {B : Nat} (h6 : G 83 6 = ((0 : Nat) : Int) - 1) (hk : bkE Ls pl a br R lo hi G 0 B V k) : nxS Ls pl a br R lo hi Bf G V k S m (c132_2b r2 f 83 x (S, G, m)) (r2 83 (x + 1)) := .inr (.inr ⟨sw_132e h.1.1 hx.2 h6, hk.1⟩)
theorem nx_b (hf : 3010 < f) (hx : 0 ≤ x ∧ x < 1000000000) (h : cWE S G u K Ls pl fa fn np nv a br qn xp cp R lo hi) {B : Nat} (hn : st < pl.length) (h6 : G 83 6 = ((st + 1 : Nat) : Int) - 1) (h7 : G 83 7 = 0) (hmk : mkP Ls (pl.drop (st + 1)) B = Bf) (hk : bkE Ls pl a br R lo hi G (st + 1) B V k) : nxS Ls pl a br R lo hi Bf G V k S m (c132_2b r2 f 83 x (S, G, m)) (r2 83 (x + 1)) := by
  have hW := h.wy
  obtain ⟨hn', hl8, hl, hp9, h8, hkind⟩ := h.at hn
  have hu := hW.2.2.2.1
  have h6' : G 83 6 = (st : Int) := by rw [h6]; omega
  have ed : pl.drop st = pl.getD st 0 :: pl.drop (st + 1) := by rw [getD_e hn]; exact List.drop_eq_getElem_cons hn
  have es : xwr ((st : Int) + 1) = ((st + 1 : Nat) : Int) := by rw [xwr_g _ (by omega) (by omega)]; omega
  have ep := xwr_g ((st : Int) + 1) (by omega) (by omega)
  have em : xwr ((st : Int) + (-1)) = (st : Int) - 1 := by rw [xwr_g _ (by omega) (by omega)]; omega
  have ex : xwr (x + 1) = x + 1 := xwr_g _ (by omega) (by omega)
  obtain ⟨b, vl, D, V1, k1, V2, k2, a1, hlv, hB, hB8, hok, hr, hs, hk2, hV, hkk⟩ := hk
  have hmk2 : mkP Ls (pl.drop st) b = Bf := by
    rw [ed]
    show mkP Ls (pl.drop (st + 1)) (b ||| qLv (Ls.getD (pl.getD st 0) dLt)) = Bf
    rw [← hB]; exact hmk
  rcases hr with ⟨hy, c2, fi, la, cu, D0, c3, c4, c5, c6, c7, c8, c9, c10⟩ | ⟨hy, hD⟩
  · have hkd : G (u + 2) (pl.getD st 0) = 15 := by
      rcases hkind with ⟨_, q⟩ | ⟨q, _⟩ | ⟨q, _⟩
      · exact q
      · omega
      · omega
    obtain ⟨p, p1, p2, p3, p4, p5, p6, p7⟩ := h.lv hl (by omega) h6' (by omega) hlv.1 hlv.2.1
    have hpp : (Ls.getD (pl.getD st 0) dLt).2.1.toNat = p := by rw [p2]; rfl
    rw [hpp] at c6 c7 c8
    have hT := p3.2.2.2.2.2.1
    have hTW := p3.2.2.2.2.1
    have hRw := p3.2.2.1
    have lT : ∀ j, j < (R p).length → ((R p).getD j dRw).1.length = (Ls.getD (pl.getD st 0) dLt).2.2.2.1.length := fun j hj => by rw [(hRw.2.2.2.2.2.2.2 j hj).1, hTW]
    obtain ⟨_, _, e3', e4'⟩ := h.2.2.2.1.2 st hn'
    obtain ⟨w, w1, w2, w3⟩ := k_133 (f := f) (m := m) hW.1 hW.2.1 hW.2.2.1 hu hW.2.2.2.2.1.1 hW.2.2.2.2.1.2.2.2.2.2.2.2.2.2.2 hW.2.2.2.2.2.1.2.2.2.2.2.2.2.2.2 h6' (by omega) h.1.2.2.2.2.1 hlv.1 hlv.2.1 (by rw [c2, ← hB]) hB8 e3' e4'
    have wm : w = 1 ↔ mre Ls a br (Ls.getD (pl.getD st 0) dLt) (pl.drop (st + 1)) b := by
      rw [w3, hB]; exact Iff.rfl
    have e1 := sw_132b (r2 := r2) (f := f) (m := m) (x := x) hW.1 hx.2 hW.2.2.1 hu hW.2.2.2.2.1.1 hW.2.2.2.2.1.2.2.1 hW.2.2.2.2.1.2.2.2.2.2.2.2.2.2.1 hW.2.2.2.2.2.1.2.1 hW.2.2.2.2.2.1.2.2.2.2.2.2.2.2.1 h8 h6' (by omega) hl8 hp9 (by omega) hkd h7 w1
    by_cases cw : w = 0
    · rw [if_pos cw] at e1
      have e2 := e1.trans (st_205 (w := 0) hW.1 h6' (.inl rfl) ep em ex)
      rw [if_pos rfl] at e2
      have hD := c10 (fun q => by have := wm.mpr q; omega)
      rw [hD] at hs
      obtain ⟨s1, s2⟩ := wyS_n hs
      refine .inl ⟨_, k2, e2, fun a j y1 y2 y3 => up67 y3, by omega, ?_⟩
      rw [hV, s1, List.nil_append]
      exact bk_back (by omega) hmk2 hk2 (fun _ _ _ _ _ => rfl) rfl (fun _ _ => rfl)
    · rw [if_neg cw] at e1
      have cm := wm.mp (by omega)
      have hD := c9 cm
      have hv : ∀ k, b.testBit k = true → G 84 k = vl k := fun k hk => (hlv.2.2 k hk).2.1
      obtain ⟨v, G2, i1, i2, i3, i4⟩ := k_135 (f := f) (m := m) (cu := cu) (by omega) p3 p4 h.1.2.2.2.2.1 c3 c4 c5 c6 c7 hv
      have hw01 : v = 0 ∨ v = 1 := by rcases i4 with ⟨q, _⟩ | ⟨q, _⟩ <;> omega
      have e2 := e1.trans (st_100 hW.1 i1 hw01)
      have h62 : G2 83 6 = (st : Int) := by rw [i2 _ _ (by omega) (by omega) (by omega)]; exact h6'
      have e3 := e2.trans (st_205 hW.1 h62 hw01 ep em ex)
      have fr1 : ∀ a j, 87 ≤ a → a ≤ 90 → j < st → G2 a j = G a j := fun a j y1 y2 y3 => i2 a j (by omega) (by omega) (by omega)
      have fr2 : G2 87 st = G 87 st := i2 _ _ (by omega) (by omega) (by omega)
      have wf2 : xWf G G2 := fun a j y1 y2 y3 => i2 a j y1 (by omega) (by omega)
      rcases i4 with ⟨q1, i', b', v', j1, j2, j3, j4, j5, j6, j7, j8⟩ | ⟨q1, j1⟩
      · subst q1
        rw [if_neg (by decide)] at e3
        obtain ⟨D0', d4, d5⟩ := c8.head j1 j2 j3 j4 j5
        obtain ⟨f1, f2⟩ := fit_84 hT (Nat.le_of_eq (lT i' j2).symm) j3
        have hB' : b' = B := by rw [f2, hB, qT_lv (by omega)]
        subst hB'
        rw [hD, d4] at hs
        obtain ⟨Va, ka, Vb, kb, s1, s2, s3, s4⟩ := wyS_c hs
        have hlv2 : lvE G2 (st + 1) b' v' := ⟨j7, hB8, fun k hk => ⟨tb8 hB8 hk, j8 k hk, fit_ok hT (Nat.le_of_eq (lT i' j2).symm) (fun k hk => (hlv.2.2 k hk).2.2) (p7 _ (by rw [getD_e j2]; exact List.getElem_mem j2)) j3 k hk⟩⟩
        have hr2 : rmD Ls a br R lo hi G2 st (pl.getD st 0) (pl.drop (st + 1)) b vl (D0'.map (·.2)) := .inl ⟨hy, by rw [← hB]; exact j7, fi, la, i' + 1, D0', by rw [i2 _ _ (by omega) (by omega) (by omega)]; exact c3, by rw [i2 _ _ (by omega) (by omega) (by omega)]; exact c4, j6, by rw [hpp]; omega, by rw [hpp]; exact c7, by rw [hpp]; exact d5, fun _ => rfl, fun q => absurd cm q⟩
        refine .inl ⟨_, ka + (1 + kb + k2), e3, fun a j y1 y2 y3 => by rw [up67 y3]; exact wf2 a j y1 y2 y3, by omega, ?_⟩
        rw [hV, s3, List.append_assoc]
        exact bk_on hn hlv hB hB8 hok hmk hr2 s2 s1 hk2 fr1 fr2 i3 hlv2
      · subst q1
        rw [if_pos rfl] at e3
        have dn : D0 = [] := c8.none j1
        rw [hD, dn] at hs
        obtain ⟨s1, s2⟩ := wyS_n hs
        refine .inl ⟨_, k2, e3, fun a j y1 y2 y3 => by rw [up67 y3]; exact wf2 a j y1 y2 y3, by omega, ?_⟩
        rw [hV, s1, List.nil_append]
        exact bk_back (by omega) hmk2 hk2 fr1 fr2 i3
  · have hkd : G (u + 2) (pl.getD st 0) ≠ 15 := by
      rcases hkind with ⟨q, _⟩ | ⟨_, q⟩ | ⟨_, q, _⟩
      · exact absurd q hy
      · omega
      · exact q
    have e1 := sw_132c (r2 := r2) (f := f) (m := m) (x := x) hW.1 hW.2.1 hx.2 hW.2.2.1 hu hW.2.2.2.2.1.1 hW.2.2.2.2.1.2.2.1 hW.2.2.2.2.1.2.2.2.2.2.2.2.2.2.1 hW.2.2.2.2.2.1.2.1 hW.2.2.2.2.2.1.2.2.2.2.2.2.2.2.1 h8 h6' (by omega) hl8 hp9 (by omega) rfl hkd hlv.1 es h7
    have e2 := e1.trans (st_185 (w := 0) hW.1 (by rw [xup2_n (by omega)]; exact h6') (.inl rfl) ep em ex)
    rw [if_pos rfl] at e2
    rw [hD] at hs
    obtain ⟨s1, s2⟩ := wyS_n hs
    refine .inl ⟨_, k2, e2, fun a j y1 y2 y3 => by rw [up67 y3, xup2_n (by omega)], by omega, ?_⟩
    rw [hV, s1, List.nil_append]
    exact bk_back (by omega) hmk2 hk2 (fun a j _ _ y3 => xup2_n (by omega)) (xup2_n (by omega)) (fun j _ => xup2_n (by omega))
end
