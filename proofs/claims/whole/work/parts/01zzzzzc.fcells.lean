/-! The reference reads FORMULAS: sum and count over CELLS; if -/
theorem x6 : ∀ a : Nat, a < 72 → xdiv (a : Int) 6 = ((a / 6 : Nat) : Int) ∧ xrem (a : Int) 6 = ((a % 6 : Nat) : Int) := by decide +kernel
theorem x6i {a : Int} (h0 : 0 ≤ a) (h1 : a < 72) : xdiv a 6 = a / 6 ∧ xrem a 6 = a % 6 := by
  obtain ⟨k, rfl⟩ : ∃ k : Nat, a = (k : Int) := ⟨a.toNat, by omega⟩
  have := x6 k (by omega)
  rw [this.1, this.2]
  exact ⟨by omega, by omega⟩
section
variable {f q n i b : Nat} {B : Nat → Int} {G : xG_} {L : Nat → Int} {N : List pNd}
theorem l_of115 {x1 x3 x5 : Int} {c : Nat} (hC : rC G) (hc : G 0 89 = (c : Int)) (hc2 : c < 140) : g340_115 f x1 x3 x5 (xlx G L) = some ((c : Int), xlx (nPut G c (if x1 = 28247 then 4 else 5) x3 x5 0 0) L) := by
  have c17 : xlx G L 0 17 = 28247 := by rw [xlx_o _ _ (by omega)]; exact hC.2.2.2.2.2.1
  unfold g340_115 g340_130
  rw [c17]
  by_cases h : x1 = 28247
  · rw [if_neg (fun q => q h), if_pos h, l_node hc hc2]
    rfl
  · rw [if_pos h, if_neg h, l_node hc hc2]
    rfl
/-- WRONG at the second CELL's place: no bracket is asked for -/
theorem l_of94_bad {x1 x3 x4 x5 : Int} (hC : rC G) (hN : rNd G N) (hl : N.length < 140) (h7 : L 7 = x4) (h4 : x4 ≠ -1) : g340_94 f x1 x3 x4 x5 (xlx G L) = some ((N.length : Int), xlx (nPut G N.length (if x1 = 28247 then 4 else 5) x3 x5 0 0) L) := by
  unfold g340_94
  rw [xlx_7, h7, if_neg h4, if_pos rfl]
  exact l_of115 hC hN.1 hl
theorem l_of26 {kd x1 : Int} (hf : n + 20 < f) (hE : rEw G q B n true) (hN : rNd G N) (h25 : G 0 25 = ((b + 1 : Nat) : Int)) (hb : b ≤ 4) (hA : rAt q B n true i L) (hi : i ≤ 62) (hNi : N.length ≤ i) (hkd : kd = 10 ∨ kd = 11) (hx1 : tres x1 = kd) (hK : kK (tstr B n true) i = 2) :
    pok (pbind (pCell (tstr B n true) i) fun a => pbind (pNeed (tstr B n true) 58 a.2) fun k => pbind (pCell (tstr B n true) k) fun c =>
      if c.1 % 6 < a.1 % 6 ∨ c.1 / 6 < a.1 / 6 then .inl (kS (tstr B n true) k) else
      pbind (pNeed (tstr B n true) 41 c.2) fun j => (.inr (N ++ [(if kd = 11 then 4 else 5, a.1, c.1, 0, 0)], (N.length : Int), j) : Nat ⊕ pFm))
      (rYW q i N G (g340_26 f x1 (xlx G L))) (rYS q B n b G (g340_26 f x1 (xlx G L))) := by
  obtain ⟨t4, tsg, tn, tv, tu, tnum, tend, tn9, tv9, tnum9, t6, t5, tlt, t3⟩ := hA.tk hE.1.2.1
  have hB := hE.1.2.1
  have hC := hE.2.2
  have k3 : L 2 = 3 := tv.mpr hK
  have hi61 := hA.lim hK (by decide) (by decide)
  have inv := @tres_inv x1
  rw [hx1] at inv
  have i17 : x1 = 28247 ↔ kd = 11 := ⟨fun q => by rw [← hx1, q]; decide, fun q => inv.2.2.2.2.2.1 q⟩
  have ek : (if x1 = 28247 then (4 : Int) else 5) = if kd = 11 then 4 else 5 := by
    by_cases c : kd = 11
    · rw [if_pos c, if_pos (i17.mpr c)]
    · rw [if_neg c, if_neg (fun q => c (i17.mp q))]
  have h58 : isSg 58 := by unfold isSg; omega
  have e0 : g340_26 f x1 (xlx G L) = ((g332 f (xlx G L)).bind fun R165 => ((g222 f 58 R165.2).bind fun R170 => ((g332 f R170).bind fun R175 => ((g211 f R175.2).bind fun R180 => (if ¬ (R180.1) = 0 then g340_94 f x1 R165.1 (R170 0 4) R175.1 R180.2 else (if xrem R175.1 6 < xrem R165.1 6 then g340_88 f x1 R165.1 (R170 0 4) R175.1 R180.2 else (if xdiv R165.1 6 ≤ xdiv R175.1 6 then g340_94 f x1 R165.1 (R170 0 4) R175.1 R180.2 else g340_88 f x1 R165.1 (R170 0 4) R175.1 R180.2))))))) := by
    unfold g340_26
    rw [l_kind, if_pos ⟨hA.1, k3⟩, Option.bind_some]
    have n1 : ¬ ((1 : Int), xlx G L).1 = 0 := fun q => absurd q (by decide : ¬ (1 : Int) = 0)
    rw [if_neg n1]
  -- WRONG ahead of the second CELL, or at it
  have bad : ∀ (L1 : Nat → Int) (s : Nat) (v : Int), L1 4 = (q : Int) + s → L1 7 = (q : Int) + s → s ≤ n → ((g222 f 58 (xlx G L1)).bind fun R170 => ((g332 f R170).bind fun R175 => ((g211 f R175.2).bind fun R180 => (if ¬ (R180.1) = 0 then g340_94 f x1 v (R170 0 4) R175.1 R180.2 else (if xrem R175.1 6 < xrem v 6 then g340_88 f x1 v (R170 0 4) R175.1 R180.2 else (if xdiv v 6 ≤ xdiv R175.1 6 then g340_94 f x1 v (R170 0 4) R175.1 R180.2 else g340_88 f x1 v (R170 0 4) R175.1 R180.2)))))) = some ((N.length : Int), xlx (nPut G N.length (if x1 = 28247 then 4 else 5) v 0 0 0) L1) := fun L1 s v h4 h7 hs => by
    have hbad : L1 7 ≠ -1 := by omega
    have c1 := l_cell_no (f := f) (s := s) hE h4 hs (fun q => hbad q.1)
    rw [if_neg hbad] at c1
    rw [l_need_bad hbad, Option.bind_some, c1, Option.bind_some]
    show Option.bind (g211 f (xlx G L1)) _ = _
    rw [l_bad, if_neg hbad, Option.bind_some]
    have n1 : ¬ ((1 : Int), xlx G L1).1 = 0 := fun q => absurd q (by decide : ¬ (1 : Int) = 0)
    rw [if_pos n1]
    exact l_of94_bad hC hN (by omega) (by rw [xlx_4]; omega) (by rw [xlx_4]; omega)
  have bw : ∀ (L1 : Nat → Int) (v x5 : Int) (w : Nat) (r : Option (Int × xG_)), r = some ((N.length : Int), xlx (nPut G N.length (if x1 = 28247 then 4 else 5) v x5 0 0) L1) → L1 7 = (q : Int) + w → rYW q i N G r w := fun L1 v x5 w r hr h7 => ⟨_, _, L1, hr, h7, nPut_ff, i, N.length + 1, Nat.le_refl _, hi, xup2_s _ _ _ _, by omega⟩
  have h1 := l_cell (f := f) hf hE hA
  cases hp1 : pCell (tstr B n true) i with
  | inl w =>
    rw [hp1] at h1
    obtain ⟨u1, u2⟩ := h1
    refine bw (xu L 7 ((q : Int) + w)) 0 0 w _ ?_ rfl
    rw [e0, u1, Option.bind_some]
    exact bad _ w 0 (by show L 4 = _; rw [u2]; exact t4) rfl (by rw [u2]; exact (tS_le hB i).1)
  | inr a =>
    rw [hp1] at h1
    obtain ⟨L1, u1, u2, u3, u4, u5⟩ := h1
    rw [u1, Option.bind_some] at e0
    have at4 := (u2.tk hB).1
    show pok (pbind (pNeed (tstr B n true) 58 a.2) _) _ _
    unfold pNeed
    by_cases c2 : kK (tstr B n true) a.2 = 58
    · rw [if_pos c2]
      obtain ⟨L2, s1, s2⟩ := l_need' hf hE u2 h58 c2
      have s1' : g222 f 58 (xlx G L1) = _ := s1
      rw [s1', Option.bind_some] at e0
      have hi2 := u2.lim c2 (by decide) (by decide)
      have bt4 := (s2.tk hB).1
      have h2 := l_cell (f := f) hf hE s2
      show pok (pbind (pCell (tstr B n true) (a.2 + 1)) _) _ _
      cases hp2 : pCell (tstr B n true) (a.2 + 1) with
      | inl w =>
        rw [hp2] at h2
        obtain ⟨y1, y2⟩ := h2
        refine bw (xu L2 7 ((q : Int) + w)) a.1 0 w _ ?_ rfl
        have hbad : xu L2 7 ((q : Int) + w) 7 ≠ -1 := by show (q : Int) + w ≠ -1; omega
        rw [e0, y1, Option.bind_some]
        show Option.bind (g211 f (xlx G (xu L2 7 ((q : Int) + w)))) _ = _
        rw [l_bad, if_neg hbad, Option.bind_some]
        have n1 : ¬ ((1 : Int), xlx G (xu L2 7 ((q : Int) + w))).1 = 0 := fun q => absurd q (by decide : ¬ (1 : Int) = 0)
        rw [if_pos n1]
        exact l_of94_bad hC hN (by omega) (by rw [xlx_4, bt4, ← y2]; rfl) (by rw [xlx_4]; omega)
      | inr c =>
        rw [hp2] at h2
        obtain ⟨L3, y1, y2, y3, y4, y5⟩ := h2
        have hK2 := (pCell_in hp2).1
        have hi3 := s2.lim hK2 (by decide) (by decide)
        have xa := x6i u3 u4
        have xc := x6i y3 y4
        have n0 : ¬ ¬ ((0 : Int), xlx G L3).1 = 0 := fun q => q rfl
        have e1 : g340_26 f x1 (xlx G L) = (if c.1 % 6 < a.1 % 6 then g340_88 f x1 a.1 (L2 4) c.1 (xlx G L3) else (if a.1 / 6 ≤ c.1 / 6 then g340_94 f x1 a.1 (L2 4) c.1 (xlx G L3) else g340_88 f x1 a.1 (L2 4) c.1 (xlx G L3))) := by
          rw [e0, y1, Option.bind_some]
          show Option.bind (g211 f (xlx G L3)) _ = _
          rw [l_bad, if_pos y2.1, Option.bind_some, if_neg n0, xlx_4, xa.1, xa.2, xc.1, xc.2]
        show pok (if c.1 % 6 < a.1 % 6 ∨ c.1 / 6 < a.1 / 6 then .inl (kS (tstr B n true) (a.2 + 1)) else _) _ _
        by_cases cc : c.1 % 6 < a.1 % 6 ∨ c.1 / 6 < a.1 / 6
        · rw [if_pos cc]
          have e2 : g340_26 f x1 (xlx G L) = g340_88 f x1 a.1 (L2 4) c.1 (xlx G L3) := by
            rw [e1]
            by_cases d1 : c.1 % 6 < a.1 % 6
            · rw [if_pos d1]
            · rw [if_neg d1, if_neg (by omega)]
          refine bw (xu L3 7 (L2 4)) a.1 c.1 _ _ ?_ bt4
          rw [e2]
          unfold g340_88
          rw [l_fail, if_pos y2.1, Option.bind_some]
          exact l_of94_bad hC hN (by omega) rfl (by omega)
        · rw [if_neg cc]
          have e2 : g340_26 f x1 (xlx G L) = g340_111 f x1 a.1 c.1 (xlx G L3) := by
            rw [e1, if_neg (fun q => cc (.inl q)), if_pos (by omega)]
            unfold g340_94
            rw [xlx_7, y2.1, if_pos rfl]
          have h3 := l_close hf hE h25 hb y2
          show pok (pbind (pNeed (tstr B n true) 41 c.2) _) _ _
          cases hp3 : pNeed (tstr B n true) 41 c.2 with
          | inl w =>
            rw [hp3] at h3
            obtain ⟨v, L4, z1, z2⟩ := h3
            have hN4 : rNd (xup2 G 0 25 v) N := hN.ge (xup2_n (by omega)) (fun a j _ _ => xup2_n (by omega))
            refine ⟨(N.length : Int), nPut (xup2 G 0 25 v) N.length (if x1 = 28247 then 4 else 5) a.1 c.1 0 0, L4, ?_, z2, xff.u25.tr nPut_ff, i, N.length + 1, Nat.le_refl _, hi, xup2_s _ _ _ _, by omega⟩
            rw [e2]
            unfold g340_111
            rw [z1, Option.bind_some]
            exact l_of115 (hE.u (k := 25) (v := v) (.inr rfl)).2.2 hN4.1 (by omega)
          | inr j =>
            rw [hp3] at h3
            obtain ⟨L4, z1, z2, z3, z4⟩ := h3
            have hX : rYX (xup2 G 0 25 (b : Int)) q B n N b := ⟨hE.u (.inr rfl), hN.ge (xup2_n (by omega)) (fun a j _ _ => xup2_n (by omega)), xup2_s _ _ _ _, hb⟩
            refine ⟨_, L4, ?_, z2, xff.u25.tr nPut_ff, hX.put, by have := y2.lim z4 (by decide) (by decide); show j ≤ 62; omega⟩
            rw [e2]
            unfold g340_111
            rw [z1, Option.bind_some]
            have := l_of115 (f := f) (L := L4) (x1 := x1) (x3 := a.1) (x5 := c.1) hX.1.2.2 hX.2.1.1 (by omega)
            rw [ek] at this
            exact this
    · rw [if_neg c2]
      have s1 := l_need_no' (f := f) hE u2 h58 c2
      have s1' : g222 f 58 (xlx G L1) = _ := s1
      refine bw (xu L1 7 ((q : Int) + kS (tstr B n true) a.2)) a.1 0 _ _ ?_ rfl
      have hbad : xu L1 7 ((q : Int) + kS (tstr B n true) a.2) 7 ≠ -1 := by show (q : Int) + kS (tstr B n true) a.2 ≠ -1; omega
      have c1 := l_cell_no (f := f) (L := xu L1 7 ((q : Int) + kS (tstr B n true) a.2)) (s := kS (tstr B n true) a.2) hE at4 (tS_le hB a.2).1 (fun q => hbad q.1)
      rw [if_neg hbad] at c1
      rw [e0, s1', Option.bind_some, c1, Option.bind_some]
      show Option.bind (g211 f (xlx G (xu L1 7 ((q : Int) + kS (tstr B n true) a.2)))) _ = _
      rw [l_bad, if_neg hbad, Option.bind_some]
      have n1 : ¬ ((1 : Int), xlx G (xu L1 7 ((q : Int) + kS (tstr B n true) a.2))).1 = 0 := fun q => absurd q (by decide : ¬ (1 : Int) = 0)
      rw [if_pos n1]
      exact l_of94_bad hC hN (by omega) (by rw [xlx_4]; show _ = L1 4; rw [at4]; rfl) (by rw [xlx_4]; show L1 4 ≠ -1; omega)
/-- sum, count, least, most -/
theorem l_of (hf : n + 20 < f) (hX : rYX G q B n N b) (hA : rAt q B n true i L) (hi : i ≤ 62) (hNi : N.length ≤ i) (hK : 10 ≤ kK (tstr B n true) i ∧ kK (tstr B n true) i ≤ 13) :
    pok (pOf (tstr B n true) b N i) (rYW q i N G (g340 f (L 9) (xlx G L))) (rYS q B n b G (g340 f (L 9) (xlx G L))) := by
  obtain ⟨hE, hN, h25, hb⟩ := hX
  obtain ⟨w1, w2, L1, w3, w4⟩ := hA.wd' (f := f) hf hE (by omega)
  have hi61 := hA.lim rfl (by omega) (by omega)
  have h1 := l_open (f := f) hf ⟨hE, hN, h25, hb⟩ w4
  have hx1 : tres (L 9) = kK (tstr B n true) i := by rw [w1]; exact w2
  have e0 : g340 f (L 9) (xlx G L) = (g336 f (xlx G L1)).bind fun R193 => (if L 9 = R193 0 17 then g340_26 f (L 9) R193 else (if ¬ L 9 = R193 0 16 then g340_139 f (L 9) R193 else g340_26 f (L 9) R193)) := by
    unfold g340
    rw [w3, Option.bind_some]
  unfold pOf
  cases hp : pOpen (tstr B n true) b (i + 1) with
  | inl w =>
    rw [hp] at h1
    obtain ⟨v, L2, u1, u2⟩ := h1
    have hbad : L2 7 ≠ -1 := by omega
    have hC' : rC (xup2 G 0 25 v) := (hE.u (.inr rfl)).2.2
    refine ⟨0, xup2 G 0 25 v, L2, ?_, u2, xff.u25, i, N.length, Nat.le_refl _, hi, by rw [xup2_n (by omega)]; exact hN.1, by omega⟩
    rw [e0, u1, Option.bind_some]
    split
    · exact l_of_bad hC' hbad
    · split
      · exact l_of139_bad hC' hbad
      · exact l_of_bad hC' hbad
  | inr j =>
    rw [hp] at h1
    obtain ⟨L2, u1, u2, u3, u4, u5⟩ := h1
    have hi2 := w4.lim u5 (by decide) (by decide)
    have hE' : rEw (xup2 G 0 25 ((b + 1 : Nat) : Int)) q B n true := hE.u (.inr rfl)
    have hN' : rNd (xup2 G 0 25 ((b + 1 : Nat) : Int)) N := hN.ge (xup2_n (by omega)) (fun a j _ _ => xup2_n (by omega))
    have h25' : xup2 G 0 25 ((b + 1 : Nat) : Int) 0 25 = ((b + 1 : Nat) : Int) := xup2_s _ _ _ _
    have r16 : xlx (xup2 G 0 25 ((b + 1 : Nat) : Int)) L2 0 16 = 7109364 := by rw [xlx_o _ _ (by omega)]; exact hE'.2.2.2.2.2.2.1
    have r17 : xlx (xup2 G 0 25 ((b + 1 : Nat) : Int)) L2 0 17 = 28247 := by rw [xlx_o _ _ (by omega)]; exact hE'.2.2.2.2.2.2.2.1
    have inv := @tres_inv (L 9)
    rw [hx1] at inv
    rw [u1, Option.bind_some, r16, r17] at e0
    show pok (if (kK (tstr B n true) i = 10 ∨ kK (tstr B n true) i = 11) ∧ kK (tstr B n true) j = 2 then _ else _) _ _
    have rows : ∀ r, r = g340_139 f (L 9) (xlx (xup2 G 0 25 ((b + 1 : Nat) : Int)) L2) → pok (pbind (pName (tstr B n true) j) fun x => pbind (if kK (tstr B n true) i = 10 then .inr ((0 : Int), x.2) else pbind (pNeed (tstr B n true) 44 x.2) fun k => pNum (tstr B n true) 4 k) fun k => pbind (pNeed (tstr B n true) 41 k.2) fun j => (.inr (N ++ [(kK (tstr B n true) i - 4, k.1, 0, 0, x.1)], (N.length : Int), j) : Nat ⊕ pFm)) (rYW q i N G r) (rYS q B n b G r) := fun r hr => by
      rw [hr]
      have h2 := l_of139 (f := f) (x1 := L 9) hf hE' hN' h25' hb u2 (by omega) (by omega) hK hx1
      cases hq : (pbind (pName (tstr B n true) j) fun x => pbind (if kK (tstr B n true) i = 10 then .inr ((0 : Int), x.2) else pbind (pNeed (tstr B n true) 44 x.2) fun k => pNum (tstr B n true) 4 k) fun k => pbind (pNeed (tstr B n true) 41 k.2) fun j => (.inr (N ++ [(kK (tstr B n true) i - 4, k.1, 0, 0, x.1)], (N.length : Int), j) : Nat ⊕ pFm)) with
      | inl w =>
        rw [hq] at h2
        exact h2.fr xff.u25 (by omega) (by omega)
      | inr y =>
        rw [hq] at h2
        exact h2.fr xff.u25
    by_cases c1 : kK (tstr B n true) i = 10 ∨ kK (tstr B n true) i = 11
    · have e1 : g340 f (L 9) (xlx G L) = g340_26 f (L 9) (xlx (xup2 G 0 25 ((b + 1 : Nat) : Int)) L2) := by
        rw [e0]
        rcases c1 with c | c
        · have := inv.2.2.2.2.1 c
          rw [if_neg (by rw [this]; decide), if_neg (fun q => q this)]
        · have := inv.2.2.2.2.2.1 c
          rw [if_pos this]
      by_cases c2 : kK (tstr B n true) j = 2
      · rw [if_pos ⟨c1, c2⟩, e1]
        have h2 := l_of26 (f := f) (x1 := L 9) hf hE' hN' h25' hb u2 (by omega) (by omega) c1 hx1 c2
        cases hq : (pbind (pCell (tstr B n true) j) fun a => pbind (pNeed (tstr B n true) 58 a.2) fun k => pbind (pCell (tstr B n true) k) fun c => if c.1 % 6 < a.1 % 6 ∨ c.1 / 6 < a.1 / 6 then .inl (kS (tstr B n true) k) else pbind (pNeed (tstr B n true) 41 c.2) fun j => (.inr (N ++ [(if kK (tstr B n true) i = 11 then 4 else 5, a.1, c.1, 0, 0)], (N.length : Int), j) : Nat ⊕ pFm)) with
        | inl w =>
          rw [hq] at h2
          exact h2.fr xff.u25 (by omega) (by omega)
        | inr y =>
          rw [hq] at h2
          exact h2.fr xff.u25
      · rw [if_neg (fun q => c2 q.2)]
        refine rows _ ?_
        rw [e1]
        have k3 : ¬ L2 2 = 3 := fun q => c2 ((u2.tk hE.1.2.1).2.2.2.1.mp q)
        unfold g340_26
        rw [l_kind, if_neg (fun q => k3 q.2), Option.bind_some]
        show (if (0 : Int) = 0 then _ else _) = _
        rw [if_pos rfl]
    · rw [if_neg (fun q => c1 q.1)]
      refine rows _ ?_
      have n16 : ¬ L 9 = 7109364 := fun q => c1 (.inl (by rw [← hx1, q]; decide))
      have n17 : ¬ L 9 = 28247 := fun q => c1 (.inr (by rw [← hx1, q]; decide))
      rw [e0, if_neg n17, if_pos n16]
end
