/-! THE CLASS: next(), a step ahead -/
section
variable {f u fa fn np nv a st b : Nat} {S : Nat → Nat × Nat × Nat} {G : xG_} {m : Nat × Nat} {K : pCd} {Ls : List pLt} {pl : List Nat} {br : Int} {qn xp cp : Nat → Nat} {R : Nat → List pRw} {lo hi : Nat → Int} {r2 : Nat → Int → xT_ → Option (Int × xT_)} {x : Int} {Bf : Nat} {vl : Nat → Int} {V V1 V2 : List (Nat → Int)} {k k1 k2 : Nat}
theorem mk_on (hn : st < pl.length) (hmk : mkP Ls (pl.drop st) b = Bf) : mkP Ls (pl.drop (st + 1)) (b ||| qLv (Ls.getD (pl.getD st 0) dLt)) = Bf := by
  have ed : pl.drop st = pl.getD st 0 :: pl.drop (st + 1) := by rw [getD_e hn]; exact List.drop_eq_getElem_cons hn
  rw [ed] at hmk
  exact hmk
theorem nx_fl (hx : 0 ≤ x ∧ x < 1000000000) (h : cWE S G u K Ls pl fa fn np nv a br qn xp cp R lo hi) (h6 : G 83 6 = (pl.length : Int)) (h7 : G 83 7 = 1) (hlv : lvE G pl.length b vl) (hmk : mkP Ls (pl.drop pl.length) b = Bf) (hw : wyE Ls a br R lo hi (pl.drop pl.length) b vl V1 k1) (hk : bkE Ls pl a br R lo hi G pl.length b V2 k2) : nxS Ls pl a br R lo hi Bf G (V1 ++ V2) (k1 + k2) S m (c132_2b r2 f 83 x (S, G, m)) (r2 83 (x + 1)) := by
  have hW := h.wy
  have hls := h.2.1.2.2.2.1
  have hl8 := hls.2.1
  have hnl := nl_eq h
  have hd : pl.drop pl.length = [] := List.drop_length
  rw [hd] at hmk hw
  obtain ⟨w1, w2⟩ : V1 = [vl] ∧ k1 = 1 := hw
  have hmk' : b = Bf := hmk
  rw [hnl] at h6
  have e := sw_132l (r2 := r2) (f := f) (m := m) (x := x) hW.1 hx.2 hW.2.2.1 hW.2.2.2.1 hW.2.2.2.2.1.1 hls.1 h6 (by rw [xwr_g _ (by omega) (by omega)])
  have z : ∀ {a j : Nat}, ¬ (a = 83 ∧ (j = 6 ∨ j = 7)) → xup2 (xup2 G 83 6 ((Ls.length : Int) - 1)) 83 7 0 a j = G a j := fun h => by rw [xup2_n (by omega), xup2_n (by omega)]
  refine .inr (.inl ⟨_, vl, V2, k2, e, fun a j _ _ y3 => z y3, by rw [w1]; rfl, by omega, .inr ⟨pl.length, b, Nat.le_refl _, by rw [xup2_n (by omega), xup2_s, hnl], xup2_s _ _ _ _, by rw [hd]; exact hmk, hk.ge _ _ _ _ (fun a j y1 y2 y3 => z (by omega)) (z (by omega)) (fun j hj => z (by omega))⟩, ?_⟩)
  rw [← hmk']
  exact hlv.2.2.ge (fun j => z (by omega))
theorem nx_fa (hf : 3010 < f) (hx : 0 ≤ x ∧ x < 1000000000) (h : cWE S G u K Ls pl fa fn np nv a br qn xp cp R lo hi) (hn : st < pl.length) (h6 : G 83 6 = (st : Int)) (h7 : G 83 7 = 1) (hlv : lvE G st b vl) (hok : okP Ls (pl.drop st) b) (hmk : mkP Ls (pl.drop st) b = Bf) (hw : wyE Ls a br R lo hi (pl.drop st) b vl V1 k1) (hk : bkE Ls pl a br R lo hi G st b V2 k2) (hy : (Ls.getD (pl.getD st 0) dLt).1 = 1) (hkd : G (u + 2) (pl.getD st 0) = 15) : nxS Ls pl a br R lo hi Bf G (V1 ++ V2) (k1 + k2) S m (c132_2b r2 f 83 x (S, G, m)) (r2 83 (x + 1)) := by
  have hW := h.wy
  obtain ⟨hn', hl8, hl, hp9, h8, _⟩ := h.at hn
  have hu := hW.2.2.2.1
  have ed : pl.drop st = pl.getD st 0 :: pl.drop (st + 1) := by rw [getD_e hn]; exact List.drop_eq_getElem_cons hn
  obtain ⟨p, p1, p2, p3, p4, p5, p6, p7⟩ := h.lv hl (by omega) h6 (by omega) hlv.1 hlv.2.1
  have hpp : (Ls.getD (pl.getD st 0) dLt).2.1.toNat = p := by rw [p2]; rfl
  have hT := p3.2.2.2.2.2.1
  have hTW := p3.2.2.2.2.1
  have hRw := p3.2.2.1
  have lT : ∀ j, j < (R p).length → ((R p).getD j dRw).1.length = (Ls.getD (pl.getD st 0) dLt).2.2.2.1.length := fun j hj => by rw [(hRw.2.2.2.2.2.2.2 j hj).1, hTW]
  have hv : ∀ k, b.testBit k = true → G 84 k = vl k := fun k hk => (hlv.2.2 k hk).2.1
  obtain ⟨G1, fi, la, g1, g2, g3, g4, g5, g6, g7⟩ := k_134 (f := f) (m := m) (by omega) p3 p4 p5 hv
  have wf1 : xWf G G1 := fun a j y1 y2 y3 => g2 a j (by omega) (by omega) (by omega) (by omega)
  have hE1 := h.ge wf1
  have p31 : cLv S G1 u (xp p) (pl.getD st 0) st b nv (qn p) (cp p) K (Ls.getD (pl.getD st 0) dLt).2.2.2.1 (R p) (lo (pl.getD st 0)) (hi (pl.getD st 0)) := p3.ge (fun a j _ _ y3 y4 y5 y6 _ _ => g2 a j y3 y4 y5 y6)
  have p41 : cFs S G1 u (pl.getD st 0) fa fn p (xp p) := p4.ge hu (g2 _ _ (by omega) (by omega) (by omega) (by omega)) (fun a j y => g2 _ _ (by omega) (by omega) (by omega) (by omega))
  have hv1 : ∀ k, b.testBit k = true → G1 84 k = vl k := fun k hk => by rw [g2 _ _ (by omega) (by omega) (by omega) (by omega)]; exact hv k hk
  obtain ⟨w, G2, i1, i2, i3, i4⟩ := k_135 (f := f) (m := m) (cu := fi) (by omega) p31 p41 hE1.1.2.2.2.2.1 g4 g6 g5 g7.1 g7 hv1
  have hw01 : w = 0 ∨ w = 1 := by rcases i4 with ⟨q, _⟩ | ⟨q, _⟩ <;> omega
  have e1 := sw_132f (r2 := r2) (f := f) (m := m) (x := x) hW.1 hx.2 hW.2.2.1 hu hW.2.2.2.2.1.1 hW.2.2.2.2.1.2.2.1 hW.2.2.2.2.1.2.2.2.2.2.2.2.2.2.1 hW.2.2.2.2.2.1.2.1 hW.2.2.2.2.2.1.2.2.2.2.2.2.2.2.1 h8 h6 (by omega) hl8 hp9 (by omega) hkd h7 g1 (by rw [g2 _ _ (by omega) (by omega) (by omega) (by omega)]; exact h7)
  have e2 := e1.trans (st_100 hW.1 i1 hw01)
  have h62 : G2 83 6 = (st : Int) := by rw [i2 _ _ (by omega) (by omega) (by omega), g2 _ _ (by omega) (by omega) (by omega) (by omega)]; exact h6
  have e3 := e2.trans (st_205 hW.1 h62 hw01 (xwr_g _ (by omega) (by omega)) (by rw [xwr_g _ (by omega) (by omega)]; omega) (xwr_g _ (by omega) (by omega)))
  have fr1 : ∀ a j, 87 ≤ a → a ≤ 90 → j < st → G2 a j = G a j := fun a j y1 y2 y3 => by
    rw [i2 a j (by omega) (by omega) (by omega)]
    by_cases c : a = 87
    · rw [c, g2 _ _ (by omega) (by omega) (by omega) (by omega)]
    · exact g3 a j (by omega) (by omega) y2
  have fr2 : G2 87 st = G 87 st := by rw [i2 _ _ (by omega) (by omega) (by omega), g2 _ _ (by omega) (by omega) (by omega) (by omega)]
  have fr3 : ∀ j, b.testBit j = true → G2 84 j = G 84 j := fun j hj => by rw [i3 j hj, g2 _ _ (by omega) (by omega) (by omega) (by omega)]
  have wf2 : xWf G G2 := fun a j y1 y2 y3 => by rw [i2 a j y1 (by omega) (by omega), wf1 a j y1 y2 y3]
  rw [ed] at hw
  obtain ⟨D, k', c1, c2, c3⟩ := hw
  have c1' : ∃ D0, chD (Ls.getD (pl.getD st 0) dLt).2.2.2.1 (lo (pl.getD st 0)) (hi (pl.getD st 0)) (R p) b vl br 0 D0 ∧ (mre Ls a br (Ls.getD (pl.getD st 0) dLt) (pl.drop (st + 1)) b → D = D0.map (·.2)) ∧ (¬ mre Ls a br (Ls.getD (pl.getD st 0) dLt) (pl.drop (st + 1)) b → D = (D0.take 1).map (·.2)) := by
    rcases c1 with ⟨_, D0, q⟩ | ⟨q, _⟩ | ⟨q, _⟩
    · rw [hpp] at q; exact ⟨D0, q⟩
    · omega
    · omega
  obtain ⟨D0, d1, d2, d3⟩ := c1'
  obtain ⟨kl, kl1, kl2⟩ := g7.2.2
  have low : ∀ j, j < (R p).length → accR (Ls.getD (pl.getD st 0) dLt).2.2.2.1 (lo (pl.getD st 0)) (hi (pl.getD st 0)) (R p) b vl br j → fi ≤ j := fun j hj ⟨b', v', y1, _⟩ => (kl2 j hj (kl1.fit hT (lT j hj) y1)).1
  rcases i4 with ⟨q1, i', b', v', j1, j2, j3, j4, j5, j6, j7, j8⟩ | ⟨q1, j1⟩
  · subst q1
    rw [if_neg (by decide)] at e3
    obtain ⟨D0', d4, d5⟩ := d1.head (Nat.zero_le _) j2 j3 j4 (fun j y1 y2 y3 => by
      by_cases c : fi ≤ j
      · exact j5 j c y2 y3
      · exact c (low j (by omega) y3))
    obtain ⟨f1, f2⟩ := fit_84 hT (Nat.le_of_eq (lT i' j2).symm) j3
    have hB : b' = b ||| qLv (Ls.getD (pl.getD st 0) dLt) := by rw [f2, qT_lv (by omega)]
    have hB8 : b' < 2 ^ 8 := by rw [f2]; exact Nat.or_lt_two_pow hlv.2.1 (qT_lt hT p3.2.2.2.2.2.2.1)
    have hlv2 : lvE G2 (st + 1) b' v' := ⟨j7, hB8, fun k hk => ⟨tb8 hB8 hk, j8 k hk, fit_ok hT (Nat.le_of_eq (lT i' j2).symm) (fun k hk => (hlv.2.2 k hk).2.2) (p7 _ (by rw [getD_e j2]; exact List.getElem_mem j2)) j3 k hk⟩⟩
    have hcu : i' + 1 ≤ (R p).length := by omega
    have hG88 : G2 88 st = (fi : Int) := by rw [i2 _ _ (by omega) (by omega) (by omega)]; exact g4
    have hG90 : G2 90 st = (la : Int) := by rw [i2 _ _ (by omega) (by omega) (by omega)]; exact g6
    have fin : ∀ (Dr : List (Nat → Int)), (mre Ls a br (Ls.getD (pl.getD st 0) dLt) (pl.drop (st + 1)) b → Dr = D0'.map (·.2)) → (¬ mre Ls a br (Ls.getD (pl.getD st 0) dLt) (pl.drop (st + 1)) b → Dr = []) → D = v' :: Dr → nxS Ls pl a br R lo hi Bf G (V1 ++ V2) (k1 + k2) S m (c132_2b r2 f 83 x (S, G, m)) (r2 83 (x + 1)) := fun Dr m1 m2 m3 => by
      rw [m3] at c2
      obtain ⟨Va, ka, Vb, kb, s1, s2, s3, s4⟩ := wyS_c c2
      have hr : rmD Ls a br R lo hi G2 st (pl.getD st 0) (pl.drop (st + 1)) b vl Dr := .inl ⟨hy, by rw [← hB]; exact j7, fi, la, i' + 1, D0', hG88, hG90, j6, by rw [hpp]; exact hcu, by rw [hpp]; exact g7, by rw [hpp]; exact d5, m1, m2⟩
      rw [← hB] at s1 s2
      refine .inl ⟨_, ka + (1 + kb + k2), e3, fun a j y1 y2 y3 => by rw [up67 y3]; exact wf2 a j y1 y2 y3, by omega, ?_⟩
      rw [s3, List.append_assoc]
      exact bk_on hn hlv hB hB8 hok (by rw [hB]; exact mk_on hn hmk) hr s2 s1 hk fr1 fr2 fr3 hlv2
    by_cases cm : mre Ls a br (Ls.getD (pl.getD st 0) dLt) (pl.drop (st + 1)) b
    · exact fin (D0'.map (·.2)) (fun _ => rfl) (fun q => absurd cm q) (by rw [d2 cm, d4]; rfl)
    · exact fin [] (fun q => absurd q cm) (fun _ => rfl) (by rw [d3 cm, d4]; rfl)
  · subst q1
    rw [if_pos rfl] at e3
    have dn : D0 = [] := d1.none (fun j y1 y2 y3 => j1 j (low j y2 y3) y2 y3)
    have hD : D = [] := by
      by_cases cm : mre Ls a br (Ls.getD (pl.getD st 0) dLt) (pl.drop (st + 1)) b
      · rw [d2 cm, dn]; rfl
      · rw [d3 cm, dn]; rfl
    rw [hD] at c2
    obtain ⟨s1, s2⟩ := wyS_n c2
    refine .inl ⟨_, k2, e3, fun a j y1 y2 y3 => by rw [up67 y3]; exact wf2 a j y1 y2 y3, by omega, ?_⟩
    rw [s1, List.nil_append]
    exact bk_back (by omega) hmk hk fr1 fr2 fr3
end
