section
/-! The reference reads FORMULAS: sum and count over CELLS; if -/
theorem x6 : ∀ a : Nat, a < 72 → xdiv (a : Int) 6 = ((a / 6 : Nat) : Int) ∧ xrem (a : Int) 6 = ((a % 6 : Nat) : Int) := by decide +kernel
theorem x6i {a : Int} (h0 : 0 ≤ a) (h1 : a < 72) : xdiv a 6 = a / 6 ∧ xrem a 6 = a % 6 := by
  obtain ⟨k, rfl⟩ : ∃ k : Nat, a = (k : Int) := ⟨a.toNat, by omega⟩
  have := x6 k (by omega)
  rw [this.1, this.2]
  exact ⟨by omega, by omega⟩
section
variable {f q n i b : Nat} {B : Nat → Int} {G : xG_} {L : Nat → Int} {N : List pNd}
theorem l_of115 {x1 x3 x5 : Int} {c : Nat} (hC : rC G) (hc : G 0 89 = (c : Int)) (hc2 : c < 140) : g340_115 f x1 x3 x5 (xlx G L) = some ((c : Int), xlx (nPut G c (if x1 = 28247 then 4 else 5) x3 x5 0 0) L) := by
  have c17 : xlx G L 0 17 = 28247 := by rw [xlx_o _ _ (by omega)]; exact hC.2.2.2.2.2.1
  unfold g340_115 g340_130
  rw [c17]
  by_cases h : x1 = 28247
  · rw [if_neg (fun q => q h), if_pos h, l_node hc hc2]
    rfl
  · rw [if_pos h, if_neg h, l_node hc hc2]
    rfl
/-- WRONG at the second CELL's place: no bracket is asked for -/
theorem l_of94_bad {x1 x3 x4 x5 : Int} (hC : rC G) (hN : rNd G N) (hl : N.length < 140) (h7 : L 7 = x4) (h4 : x4 ≠ -1) : g340_94 f x1 x3 x4 x5 (xlx G L) = some ((N.length : Int), xlx (nPut G N.length (if x1 = 28247 then 4 else 5) x3 x5 0 0) L) := by
  unfold g340_94
  rw [xlx_7, h7, if_neg h4, if_pos rfl]
  exact l_of115 hC hN.1 hl
theorem l_of26 {kd x1 : Int} (hf : n + 20 < f) (hE : rEw G q B n true) (hN : rNd G N) (h25 : G 0 25 = ((b + 1 : Nat) : Int)) (hb : b ≤ 4) (hA : rAt q B n true i L) (hi : i ≤ 62) (hNi : N.length ≤ i) (hkd : kd = 10 ∨ kd = 11) (hx1 : tres x1 = kd) (hK : kK (tstr B n true) i = 2) :
    pok (pbind (pCell (tstr B n true) i) fun a => pbind (pNeed (tstr B n true) 58 a.2) fun k => pbind (pCell (tstr B n true) k) fun c =>
      if c.1 % 6 < a.1 % 6 ∨ c.1 / 6 < a.1 / 6 then .inl (kS (tstr B n true) k) else
      pbind (pNeed (tstr B n true) 41 c.2) fun j => (.inr (N ++ [(if kd = 11 then 4 else 5, a.1, c.1, 0, 0)], (N.length : Int), j) : Nat ⊕ pFm))
      (rYW q i N G (g340_26 f x1 (xlx G L))) (rYS q B n b G (g340_26 f x1 (xlx G L))) := by
  obtain ⟨t4, tsg, tn, tv, tu, tnum, tend, tn9, tv9, tnum9, t6, t5, tlt, t3⟩ := hA.tk hE.1.2.1
  have hB := hE.1.2.1
  have hC := hE.2.2
  have k3 : L 2 = 3 := tv.mpr hK
  have hi61 := hA.lim hK (by decide) (by decide)
  have inv := @tres_inv x1
  rw [hx1] at inv
  have i17 : x1 = 28247 ↔ kd = 11 := ⟨fun q => by rw [← hx1, q]; decide, fun q => inv.2.2.2.2.2.1 q⟩
  have ek : (if x1 = 28247 then (4 : Int) else 5) = if kd = 11 then 4 else 5 := by
    by_cases c : kd = 11
    · rw [if_pos c, if_pos (i17.mpr c)]
    · rw [if_neg c, if_neg (fun q => c (i17.mp q))]
  have h58 : isSg 58 := by unfold isSg; omega
  have e0 : g340_26 f x1 (xlx G L) = ((g332 f (xlx G L)).bind fun R165 => ((g222 f 58 R165.2).bind fun R170 => ((g332 f R170).bind fun R175 => ((g211 f R175.2).bind fun R180 => (if ¬ (R180.1) = 0 then g340_94 f x1 R165.1 (R170 0 4) R175.1 R180.2 else (if xrem R175.1 6 < xrem R165.1 6 then g340_88 f x1 R165.1 (R170 0 4) R175.1 R180.2 else (if xdiv R165.1 6 ≤ xdiv R175.1 6 then g340_94 f x1 R165.1 (R170 0 4) R175.1 R180.2 else g340_88 f x1 R165.1 (R170 0 4) R175.1 R180.2))))))) := by
    unfold g340_26
    rw [l_kind, if_pos ⟨hA.1, k3⟩, Option.bind_some]
    have n1 : ¬ ((1 : Int), xlx G L).1 = 0 := fun q => absurd q (by decide : ¬ (1 : Int) = 0)
    rw [if_neg n1]
  -- WRONG ahead of the second CELL, or at it
  have bad : ∀ (L1 : Nat → Int) (s : Nat) (v : Int), L1 4 = (q : Int) + s → L1 7 = (q : Int) + s → s ≤ n → ((g222 f 58 (xlx G L1)).bind fun R170 => ((g332 f R170).bind fun R175 => ((g211 f R175.2).bind fun R180 => (if ¬ (R180.1) = 0 then g340_94 f x1 v (R170 0 4) R175.1 R180.2 else (if xrem R175.1 6 < xrem v 6 then g340_88 f x1 v (R170 0 4) R175.1 R180.2 else (if xdiv v 6 ≤ xdiv R175.1 6 then g340_94 f x1 v (R170 0 4) R175.1 R180.2 else g340_88 f x1 v (R170 0 4) R175.1 R180.2)))))) = some ((N.length : Int), xlx (nPut G N.length (if x1 = 28247 then 4 else 5) v 0 0 0) L1) := fun L1 s v h4 h7 hs => by
    have hbad : L1 7 ≠ -1 := by omega
    have c1 := l_cell_no (f := f) (s := s) hE h4 hs (fun q => hbad q.1)
    rw [if_neg hbad] at c1
    rw [l_need_bad hbad, Option.bind_some, c1, Option.bind_some]
    show Option.bind (g211 f (xlx G L1)) _ = _
    rw [l_bad, if_neg hbad, Option.bind_some]
    have n1 : ¬ ((1 : Int), xlx G L1).1 = 0 := fun q => absurd q (by decide : ¬ (1 : Int) = 0)
    rw [if_pos n1]
    exact l_of94_bad hC hN (by omega) (by rw [xlx_4]; omega) (by rw [xlx_4]; omega)
  have bw : ∀ (L1 : Nat → Int) (v x5 : Int) (w : Nat) (r : Option (Int × xG_)), r = some ((N.length : Int), xlx (nPut G N.length (if x1 = 28247 then 4 else 5) v x5 0 0) L1) → L1 7 = (q : Int) + w → rYW q i N G r w := fun L1 v x5 w r hr h7 => ⟨_, _, L1, hr, h7, nPut_ff, i, N.length + 1, Nat.le_refl _, hi, xup2_s _ _ _ _, by omega⟩
  have h1 := l_cell (f := f) hf hE hA
  cases hp1 : pCell (tstr B n true) i with
  | inl w =>
    rw [hp1] at h1
    obtain ⟨u1, u2⟩ := h1
    refine bw (xu L 7 ((q : Int) + w)) 0 0 w _ ?_ rfl
    rw [e0, u1, Option.bind_some]
    exact bad _ w 0 (by show L 4 = _; rw [u2]; exact t4) rfl (by rw [u2]; exact (tS_le hB i).1)
  | inr a =>
    rw [hp1] at h1
    obtain ⟨L1, u1, u2, u3, u4, u5⟩ := h1
    rw [u1, Option.bind_some] at e0
    have at4 := (u2.tk hB).1
    show pok (pbind (pNeed (tstr B n true) 58 a.2) _) _ _
    unfold pNeed
    by_cases c2 : kK (tstr B n true) a.2 = 58
    · rw [if_pos c2]
      obtain ⟨L2, s1, s2⟩ := l_need' hf hE u2 h58 c2
      have s1' : g222 f 58 (xlx G L1) = _ := s1
      rw [s1', Option.bind_some] at e0
      have hi2 := u2.lim c2 (by decide) (by decide)
      have bt4 := (s2.tk hB).1
      have h2 := l_cell (f := f) hf hE s2
      show pok (pbind (pCell (tstr B n true) (a.2 + 1)) _) _ _
      cases hp2 : pCell (tstr B n true) (a.2 + 1) with
      | inl w =>
        rw [hp2] at h2
        obtain ⟨y1, y2⟩ := h2
        refine bw (xu L2 7 ((q : Int) + w)) a.1 0 w _ ?_ rfl
        have hbad : xu L2 7 ((q : Int) + w) 7 ≠ -1 := by show (q : Int) + w ≠ -1; omega
        rw [e0, y1, Option.bind_some]
        show Option.bind (g211 f (xlx G (xu L2 7 ((q : Int) + w)))) _ = _
        rw [l_bad, if_neg hbad, Option.bind_some]
        have n1 : ¬ ((1 : Int), xlx G (xu L2 7 ((q : Int) + w))).1 = 0 := fun q => absurd q (by decide : ¬ (1 : Int) = 0)
        rw [if_pos n1]
        exact l_of94_bad hC hN (by omega) (by rw [xlx_4, bt4, ← y2]; rfl) (by rw [xlx_4]; omega)
      | inr c =>
        rw [hp2] at h2
        obtain ⟨L3, y1, y2, y3, y4, y5⟩ := h2
        have hK2 := (pCell_in hp2).1
        have hi3 := s2.lim hK2 (by decide) (by decide)
        have xa := x6i u3 u4
        have xc := x6i y3 y4
        have n0 : ¬ ¬ ((0 : Int), xlx G L3).1 = 0 := fun q => q rfl
        have e1 : g340_26 f x1 (xlx G L) = (if c.1 % 6 < a.1 % 6 then g340_88 f x1 a.1 (L2 4) c.1 (xlx G L3) else (if a.1 / 6 ≤ c.1 / 6 then g340_94 f x1 a.1 (L2 4) c.1 (xlx G L3) else g340_88 f x1 a.1 (L2 4) c.1 (xlx G L3))) := by
          rw [e0, y1, Option.bind_some]
          show Option.bind (g211 f (xlx G L3)) _ = _
          rw [l_bad, if_pos y2.1, Option.bind_some, if_neg n0, xlx_4, xa.1, xa.2, xc.1, xc.2]
        show pok (if c.1 % 6 < a.1 % 6 ∨ c.1 / 6 < a.1 / 6 then .inl (kS (tstr B n true) (a.2 + 1)) else _) _ _
        by_cases cc : c.1 % 6 < a.1 % 6 ∨ c.1 / 6 < a.1 / 6
        · rw [if_pos cc]
          have e2 : g340_26 f x1 (xlx G L) = g340_88 f x1 a.1 (L2 4) c.1 (xlx G L3) := by
            rw [e1]
            by_cases d1 : c.1 % 6 < a.1 % 6
            · rw [if_pos d1]
            · rw [if_neg d1, if_neg (by omega)]
          refine bw (xu L3 7 (L2 4)) a.1 c.1 _ _ ?_ bt4
          rw [e2]
          unfold g340_88
          rw [l_fail, if_pos y2.1, Option.bind_some]
          exact l_of94_bad hC hN (by omega) rfl (by omega)
        · rw [if_neg cc]
          have e2 : g340_26 f x1 (xlx G L) = g340_111 f x1 a.1 c.1 (xlx G L3) := by
            rw [e1, if_neg (fun q => cc (.inl q)), if_pos (by omega)]
            unfold g340_94
            rw [xlx_7, y2.1, if_pos rfl]
          have h3 := l_close hf hE h25 hb y2
          show pok (pbind (pNeed (tstr B n true) 41 c.2) _) _ _
          cases hp3 : pNeed (tstr B n true) 41 c.2 with
          | inl w =>
            rw [hp3] at h3
            obtain ⟨v, L4, z1, z2⟩ := h3
            have hN4 : rNd (xup2 G 0 25 v) N := hN.ge (xup2_n (by omega)) (fun a j _ _ => xup2_n (by omega))
            refine ⟨(N.length : Int), nPut (xup2 G 0 25 v) N.length (if x1 = 28247 then 4 else 5) a.1 c.1 0 0, L4, ?_, z2, xff.u25.tr nPut_ff, i, N.length + 1, Nat.le_refl _, hi, xup2_s _ _ _ _, by omega⟩
            rw [e2]
            unfold g340_111
            rw [z1, Option.bind_some]
            exact l_of115 (hE.u (k := 25) (v := v) (.inr rfl)).2.2 hN4.1 (by omega)
          | inr j =>
            rw [hp3] at h3
            obtain ⟨L4, z1, z2, z3, z4⟩ := h3
            have hX : rYX (xup2 G 0 25 (b : Int)) q B n N b := ⟨hE.u (.inr rfl), hN.ge (xup2_n (by omega)) (fun a j _ _ => xup2_n (by omega)), xup2_s _ _ _ _, hb⟩
            refine ⟨_, L4, ?_, z2, xff.u25.tr nPut_ff, hX.put, by have := y2.lim z4 (by decide) (by decide); show j ≤ 62; omega⟩
            rw [e2]
            unfold g340_111
            rw [z1, Option.bind_some]
            have := l_of115 (f := f) (L := L4) (x1 := x1) (x3 := a.1) (x5 := c.1) hX.1.2.2 hX.2.1.1 (by omega)
            rw [ek] at this
            exact this
    · rw [if_neg c2]
      have s1 := l_need_no' (f := f) hE u2 h58 c2
      have s1' : g222 f 58 (xlx G L1) = _ := s1
      refine bw (xu L1 7 ((q : Int) + kS (tstr B n true) a.2)) a.1 0 _ _ ?_ rfl
      have hbad : xu L1 7 ((q : Int) + kS (tstr B n true) a.2) 7 ≠ -1 := by show (q : Int) + kS (tstr B n true) a.2 ≠ -1; omega
      have c1 := l_cell_no (f := f) (L := xu L1 7 ((q : Int) + kS (tstr B n true) a.2)) (s := kS (tstr B n true) a.2) hE at4 (tS_le hB a.2).1 (fun q => hbad q.1)
      rw [if_neg hbad] at c1
      rw [e0, s1', Option.bind_some, c1, Option.bind_some]
      show Option.bind (g211 f (xlx G (xu L1 7 ((q : Int) + kS (tstr B n true) a.2)))) _ = _
      rw [l_bad, if_neg hbad, Option.bind_some]
      have n1 : ¬ ((1 : Int), xlx G (xu L1 7 ((q : Int) + kS (tstr B n true) a.2))).1 = 0 := fun q => absurd q (by decide : ¬ (1 : Int) = 0)
      rw [if_pos n1]
      exact l_of94_bad hC hN (by omega) (by rw [xlx_4]; show _ = L1 4; rw [at4]; rfl) (by rw [xlx_4]; show L1 4 ≠ -1; omega)
/-- sum, count, least, most -/
theorem l_of (hf : n + 20 < f) (hX : rYX G q B n N b) (hA : rAt q B n true i L) (hi : i ≤ 62) (hNi : N.length ≤ i) (hK : 10 ≤ kK (tstr B n true) i ∧ kK (tstr B n true) i ≤ 13) :
    pok (pOf (tstr B n true) b N i) (rYW q i N G (g340 f (L 9) (xlx G L))) (rYS q B n b G (g340 f (L 9) (xlx G L))) := by
  obtain ⟨hE, hN, h25, hb⟩ := hX
  obtain ⟨w1, w2, L1, w3, w4⟩ := hA.wd' (f := f) hf hE (by omega)
  have hi61 := hA.lim rfl (by omega) (by omega)
  have h1 := l_open (f := f) hf ⟨hE, hN, h25, hb⟩ w4
  have hx1 : tres (L 9) = kK (tstr B n true) i := by rw [w1]; exact w2
  have e0 : g340 f (L 9) (xlx G L) = (g336 f (xlx G L1)).bind fun R193 => (if L 9 = R193 0 17 then g340_26 f (L 9) R193 else (if ¬ L 9 = R193 0 16 then g340_139 f (L 9) R193 else g340_26 f (L 9) R193)) := by
    unfold g340
    rw [w3, Option.bind_some]
  unfold pOf
  cases hp : pOpen (tstr B n true) b (i + 1) with
  | inl w =>
    rw [hp] at h1
    obtain ⟨v, L2, u1, u2⟩ := h1
    have hbad : L2 7 ≠ -1 := by omega
    have hC' : rC (xup2 G 0 25 v) := (hE.u (.inr rfl)).2.2
    refine ⟨0, xup2 G 0 25 v, L2, ?_, u2, xff.u25, i, N.length, Nat.le_refl _, hi, by rw [xup2_n (by omega)]; exact hN.1, by omega⟩
    rw [e0, u1, Option.bind_some]
    split
    · exact l_of_bad hC' hbad
    · split
      · exact l_of139_bad hC' hbad
      · exact l_of_bad hC' hbad
  | inr j =>
    rw [hp] at h1
    obtain ⟨L2, u1, u2, u3, u4, u5⟩ := h1
    have hi2 := w4.lim u5 (by decide) (by decide)
    have hE' : rEw (xup2 G 0 25 ((b + 1 : Nat) : Int)) q B n true := hE.u (.inr rfl)
    have hN' : rNd (xup2 G 0 25 ((b + 1 : Nat) : Int)) N := hN.ge (xup2_n (by omega)) (fun a j _ _ => xup2_n (by omega))
    have h25' : xup2 G 0 25 ((b + 1 : Nat) : Int) 0 25 = ((b + 1 : Nat) : Int) := xup2_s _ _ _ _
    have r16 : xlx (xup2 G 0 25 ((b + 1 : Nat) : Int)) L2 0 16 = 7109364 := by rw [xlx_o _ _ (by omega)]; exact hE'.2.2.2.2.2.2.1
    have r17 : xlx (xup2 G 0 25 ((b + 1 : Nat) : Int)) L2 0 17 = 28247 := by rw [xlx_o _ _ (by omega)]; exact hE'.2.2.2.2.2.2.2.1
    have inv := @tres_inv (L 9)
    rw [hx1] at inv
    rw [u1, Option.bind_some, r16, r17] at e0
    show pok (if (kK (tstr B n true) i = 10 ∨ kK (tstr B n true) i = 11) ∧ kK (tstr B n true) j = 2 then _ else _) _ _
    have rows : ∀ r, r = g340_139 f (L 9) (xlx (xup2 G 0 25 ((b + 1 : Nat) : Int)) L2) → pok (pbind (pName (tstr B n true) j) fun x => pbind (if kK (tstr B n true) i = 10 then .inr ((0 : Int), x.2) else pbind (pNeed (tstr B n true) 44 x.2) fun k => pNum (tstr B n true) 4 k) fun k => pbind (pNeed (tstr B n true) 41 k.2) fun j => (.inr (N ++ [(kK (tstr B n true) i - 4, k.1, 0, 0, x.1)], (N.length : Int), j) : Nat ⊕ pFm)) (rYW q i N G r) (rYS q B n b G r) := fun r hr => by
      rw [hr]
      have h2 := l_of139 (f := f) (x1 := L 9) hf hE' hN' h25' hb u2 (by omega) (by omega) hK hx1
      cases hq : (pbind (pName (tstr B n true) j) fun x => pbind (if kK (tstr B n true) i = 10 then .inr ((0 : Int), x.2) else pbind (pNeed (tstr B n true) 44 x.2) fun k => pNum (tstr B n true) 4 k) fun k => pbind (pNeed (tstr B n true) 41 k.2) fun j => (.inr (N ++ [(kK (tstr B n true) i - 4, k.1, 0, 0, x.1)], (N.length : Int), j) : Nat ⊕ pFm)) with
      | inl w =>
        rw [hq] at h2
        exact h2.fr xff.u25 (by omega) (by omega)
      | inr y =>
        rw [hq] at h2
        exact h2.fr xff.u25
    by_cases c1 : kK (tstr B n true) i = 10 ∨ kK (tstr B n true) i = 11
    · have e1 : g340 f (L 9) (xlx G L) = g340_26 f (L 9) (xlx (xup2 G 0 25 ((b + 1 : Nat) : Int)) L2) := by
        rw [e0]
        rcases c1 with c | c
        · have := inv.2.2.2.2.1 c
          rw [if_neg (by rw [this]; decide), if_neg (fun q => q this)]
        · have := inv.2.2.2.2.2.1 c
          rw [if_pos this]
      by_cases c2 : kK (tstr B n true) j = 2
      · rw [if_pos ⟨c1, c2⟩, e1]
        have h2 := l_of26 (f := f) (x1 := L 9) hf hE' hN' h25' hb u2 (by omega) (by omega) c1 hx1 c2
        cases hq : (pbind (pCell (tstr B n true) j) fun a => pbind (pNeed (tstr B n true) 58 a.2) fun k => pbind (pCell (tstr B n true) k) fun c => if c.1 % 6 < a.1 % 6 ∨ c.1 / 6 < a.1 / 6 then .inl (kS (tstr B n true) k) else pbind (pNeed (tstr B n true) 41 c.2) fun j => (.inr (N ++ [(if kK (tstr B n true) i = 11 then 4 else 5, a.1, c.1, 0, 0)], (N.length : Int), j) : Nat ⊕ pFm)) with
        | inl w =>
          rw [hq] at h2
          exact h2.fr xff.u25 (by omega) (by omega)
        | inr y =>
          rw [hq] at h2
          exact h2.fr xff.u25
      · rw [if_neg (fun q => c2 q.2)]
        refine rows _ ?_
        rw [e1]
        have k3 : ¬ L2 2 = 3 := fun q => c2 ((u2.tk hE.1.2.1).2.2.2.1.mp q)
        unfold g340_26
        rw [l_kind, if_neg (fun q => k3 q.2), Option.bind_some]
        show (if (0 : Int) = 0 then _ else _) = _
        rw [if_pos rfl]
    · rw [if_neg (fun q => c1 q.1)]
      refine rows _ ?_
      have n16 : ¬ L 9 = 7109364 := fun q => c1 (.inl (by rw [← hx1, q]; decide))
      have n17 : ¬ L 9 = 28247 := fun q => c1 (.inr (by rw [← hx1, q]; decide))
      rw [e0, if_neg n17, if_pos n16]
end
end
section
/-! The reference reads FORMULAS: if; operands; signs; all of it -/
section
variable {f q n i b : Nat} {B : Nat → Int} {G : xG_} {L : Nat → Int} {N : List pNd} {e : xG_ → Option (Int × xG_)}
/-- what stands behind the parts of an if -/
def gIf4 (f : Nat) (x y z : Int) (G : xG_) : Option (Int × xG_) := (g337 f G).bind fun R136 => ((g331 f 10 x y z 0 R136).bind fun R141 => some (R141.1, R141.2))
def gIf3 (e : xG_ → Option (Int × xG_)) (f : Nat) (x y : Int) (G : xG_) : Option (Int × xG_) := (g222 f 44 G).bind fun R126 => ((e R126).bind fun R131 => gIf4 f x y R131.1 R131.2)
def gIf2 (e : xG_ → Option (Int × xG_)) (f : Nat) (x : Int) (G : xG_) : Option (Int × xG_) := (g222 f 44 G).bind fun R116 => ((e R116).bind fun R121 => gIf3 e f x R121.1 R121.2)
def gIf1 (e : xG_ → Option (Int × xG_)) (f : Nat) (G : xG_) : Option (Int × xG_) := (e G).bind fun R111 => gIf2 e f R111.1 R111.2
theorem gIf_e : g339 e f G = (g213 f G).bind fun R101 => ((g336 f R101).bind fun R106 => gIf1 e f R106) := rfl
theorem gIf4_bad {c : Nat} {x y z : Int} (h : L 7 ≠ -1) (hc : G 0 89 = (c : Int)) (hc2 : c < 140) : ∃ v G', gIf4 f x y z (xlx G L) = some (v, xlx G' L) ∧ xff G G' ∧ G' 0 89 = ((c + 1 : Nat) : Int) := by
  obtain ⟨v, e1⟩ := l_close_bad (f := f) (G := G) h
  have hc' : xup2 G 0 25 v 0 89 = (c : Int) := by rw [xup2_n (by omega)]; exact hc
  obtain ⟨G', k1, k2, k3⟩ := l_node_bad (f := f) (L := L) (a1 := 10) (a2 := x) (a3 := y) (a4 := z) (a5 := 0) hc' hc2
  refine ⟨(c : Int), G', ?_, xff.u25.tr k2, k3⟩
  unfold gIf4
  rw [e1, Option.bind_some, k1]
  rfl
theorem gIf3_bad {c : Nat} {x y : Int} (hq : rYB e) (h : L 7 ≠ -1) (hc : G 0 89 = (c : Int)) (hc2 : c < 140) : ∃ v G', gIf3 e f x y (xlx G L) = some (v, xlx G' L) ∧ xff G G' ∧ G' 0 89 = ((c + 1 : Nat) : Int) := by
  obtain ⟨v, G', k⟩ := gIf4_bad (f := f) (x := x) (y := y) (z := 0) h hc hc2
  refine ⟨v, G', ?_, k.2⟩
  unfold gIf3
  rw [l_need_bad h, Option.bind_some, hq G L h, Option.bind_some]
  exact k.1
theorem gIf2_bad {c : Nat} {x : Int} (hq : rYB e) (h : L 7 ≠ -1) (hc : G 0 89 = (c : Int)) (hc2 : c < 140) : ∃ v G', gIf2 e f x (xlx G L) = some (v, xlx G' L) ∧ xff G G' ∧ G' 0 89 = ((c + 1 : Nat) : Int) := by
  obtain ⟨v, G', k⟩ := gIf3_bad (f := f) (x := x) (y := 0) hq h hc hc2
  refine ⟨v, G', ?_, k.2⟩
  unfold gIf2
  rw [l_need_bad h, Option.bind_some, hq G L h, Option.bind_some]
  exact k.1
theorem gIf1_bad {c : Nat} (hq : rYB e) (h : L 7 ≠ -1) (hc : G 0 89 = (c : Int)) (hc2 : c < 140) : ∃ v G', gIf1 e f (xlx G L) = some (v, xlx G' L) ∧ xff G G' ∧ G' 0 89 = ((c + 1 : Nat) : Int) := by
  obtain ⟨v, G', k⟩ := gIf2_bad (f := f) (x := 0) hq h hc hc2
  refine ⟨v, G', ?_, k.2⟩
  unfold gIf1
  rw [hq G L h, Option.bind_some]
  exact k.1
/-- a WRONG that an if passes on -/
theorem rYW.cont {q i i' w : Nat} {N N' : List pNd} {G G1 : xG_} {r : Option (Int × xG_)} {k : Int → xG_ → Option (Int × xG_)} (h : rYW q i' N' G1 r w) (hf : xff G G1) (hi : i < i') (hN : N'.length + i < N.length + i') (hN2 : N'.length ≤ i') (hk : ∀ (v : Int) (G' : xG_) (L' : Nat → Int) (c : Nat), L' 7 ≠ -1 → G' 0 89 = (c : Int) → c < 140 → ∃ v' G2, k v (xlx G' L') = some (v', xlx G2 L') ∧ xff G' G2 ∧ G2 0 89 = ((c + 1 : Nat) : Int)) : rYW q i N G (r.bind fun R => k R.1 R.2) w := by
  obtain ⟨v, G', L', a1, a2, a3, k', c, a4, a5, a6, a7⟩ := h
  obtain ⟨v', G2, b1, b2, b3⟩ := hk v G' L' c (by omega) a6 (by omega)
  refine ⟨v', G2, L', ?_, a2, (hf.tr a3).tr b2, k', c + 1, by omega, a5, b3, by omega⟩
  rw [a1, Option.bind_some]
  exact b1
theorem gIf4_ok {x y z : Int} (hf : n + 20 < f) (hX : rYX G q B n N (b + 1)) (hA : rAt q B n true i L) (hi : i ≤ 62) (hNi : N.length ≤ i) :
    pok (pbind (pNeed (tstr B n true) 41 i) fun j => (.inr (N ++ [(10, x, y, z, 0)], (N.length : Int), j) : Nat ⊕ pFm)) (rYW q i N G (gIf4 f x y z (xlx G L))) (rYS q B n b G (gIf4 f x y z (xlx G L))) := by
  obtain ⟨hE, hN, h25, hb⟩ := hX
  have h1 := l_close hf hE h25 (by omega) hA
  cases hp : pNeed (tstr B n true) 41 i with
  | inl w =>
    rw [hp] at h1
    obtain ⟨v, L1, e1, e2⟩ := h1
    have hc' : xup2 G 0 25 v 0 89 = (N.length : Int) := by rw [xup2_n (by omega)]; exact hN.1
    obtain ⟨G', k1, k2, k3⟩ := l_node_bad (f := f) (L := L1) (a1 := 10) (a2 := x) (a3 := y) (a4 := z) (a5 := 0) hc' (by omega)
    refine ⟨(N.length : Int), G', L1, ?_, e2, xff.u25.tr k2, i, N.length + 1, Nat.le_refl _, hi, k3, by omega⟩
    unfold gIf4
    rw [e1, Option.bind_some, k1]
    rfl
  | inr j =>
    rw [hp] at h1
    obtain ⟨L1, e1, e2, e3, e4⟩ := h1
    have hX1 : rYX (xup2 G 0 25 (b : Int)) q B n N b := ⟨hE.u (.inr rfl), hN.ge (xup2_n (by omega)) (fun a j _ _ => xup2_n (by omega)), xup2_s _ _ _ _, by omega⟩
    refine ⟨nPut (xup2 G 0 25 (b : Int)) N.length 10 x y z 0, L1, ?_, e2, xff.u25.tr nPut_ff, hX1.put, by have := hA.lim e4 (by decide) (by decide); show j ≤ 62; omega⟩
    unfold gIf4
    rw [e1, Option.bind_some, l_node hX1.2.1.1 (by omega)]
    rfl
theorem gIf3_ok {F : Nat} {x y : Int} (hf : n + 20 < f) (hq : rYB e) (hQ : rYP q B n 1 (b + 1) e) (hX : rYX G q B n N (b + 1)) (hA : rAt q B n true i L) (hi : i ≤ 62) (hNi : N.length ≤ i) (hw : wFm N) (hF : 4 * (63 - (i + 1)) + 3 ≤ F) :
    pok (pbind (pNeed (tstr B n true) 44 i) fun i => pbind (pF (tstr B n true) F 1 (b + 1) (N, 0, i)) fun z => pbind (pNeed (tstr B n true) 41 z.2.2) fun j => (.inr (z.1 ++ [(10, x, y, z.2.1, 0)], (z.1.length : Int), j) : Nat ⊕ pFm)) (rYW q i N G (gIf3 e f x y (xlx G L))) (rYS q B n b G (gIf3 e f x y (xlx G L))) := by
  have hE := hX.1
  have h44 : isSg 44 := by unfold isSg; omega
  unfold pNeed
  by_cases c : kK (tstr B n true) i = 44
  · obtain ⟨L1, s1, s2⟩ := l_need' hf hE hA h44 c
    have s1' : g222 f 44 (xlx G L) = _ := s1
    have hi2 := hA.lim c (by decide) (by decide)
    have h1 := hQ F G L1 N (i + 1) (by rw [if_pos rfl]; exact hF) hX s2 (by omega) (by omega) hw
    have e0 : gIf3 e f x y (xlx G L) = (e (xlx G L1)).bind fun R131 => gIf4 f x y R131.1 R131.2 := by
      unfold gIf3
      rw [s1', Option.bind_some]
    rw [if_pos c, e0]
    show pok (pbind (pF (tstr B n true) F 1 (b + 1) (N, 0, i + 1)) _) _ _
    cases hp : pF (tstr B n true) F 1 (b + 1) (N, 0, i + 1) with
    | inl w =>
      rw [hp] at h1
      exact h1.cont (k := fun v G => gIf4 f x y v G) (.rf G) (by omega) (by omega) (by omega) (fun v G' L' c h7 h89 hc => gIf4_bad h7 h89 hc)
    | inr z =>
      rw [hp] at h1
      obtain ⟨G2, L2, u1, u2, u3, u4, hz⟩ := h1
      obtain ⟨p1, p2, p3, p4, p5, p6⟩ := pF_le (tstr_ck hE.1.2.1) F 1 (b + 1) _ z (by decide) hp hw (fun q => absurd q (by decide))
      simp only at p1 p2 p3 p4
      have h2 := gIf4_ok (x := x) (y := y) (z := z.2.1) hf u4 u2 hz (by omega)
      rw [u1, Option.bind_some]
      show pok (pbind (pNeed (tstr B n true) 41 z.2.2) fun j => (.inr (z.1 ++ [(10, x, y, z.2.1, 0)], (z.1.length : Int), j) : Nat ⊕ pFm)) _ _
      cases hp2 : (pbind (pNeed (tstr B n true) 41 z.2.2) fun j => (.inr (z.1 ++ [(10, x, y, z.2.1, 0)], (z.1.length : Int), j) : Nat ⊕ pFm)) with
      | inl w =>
        rw [hp2] at h2
        exact h2.fr u3 (by omega) (by omega)
      | inr r =>
        rw [hp2] at h2
        exact h2.fr u3
  · rw [if_neg c]
    have s1 := l_need_no' (f := f) hE hA h44 c
    have s1' : g222 f 44 (xlx G L) = _ := s1
    have hbad : xu L 7 ((q : Int) + kS (tstr B n true) i) 7 ≠ -1 := by show (q : Int) + kS (tstr B n true) i ≠ -1; omega
    obtain ⟨v, G', k1, k2, k3⟩ := gIf4_bad (f := f) (x := x) (y := y) (z := 0) hbad hX.2.1.1 (by omega)
    refine ⟨v, G', xu L 7 ((q : Int) + kS (tstr B n true) i), ?_, rfl, k2, i, N.length + 1, Nat.le_refl _, hi, k3, by omega⟩
    unfold gIf3
    rw [s1', Option.bind_some, hq _ _ hbad, Option.bind_some]
    exact k1
theorem gIf2_ok {F : Nat} {x : Int} (hf : n + 20 < f) (hq : rYB e) (hQ : rYP q B n 1 (b + 1) e) (hX : rYX G q B n N (b + 1)) (hA : rAt q B n true i L) (hi : i ≤ 62) (hNi : N.length ≤ i) (hw : wFm N) (hF : 4 * (63 - (i + 1)) + 3 ≤ F) :
    pok (pbind (pNeed (tstr B n true) 44 i) fun i => pbind (pF (tstr B n true) F 1 (b + 1) (N, 0, i)) fun y => pbind (pNeed (tstr B n true) 44 y.2.2) fun i => pbind (pF (tstr B n true) F 1 (b + 1) (y.1, 0, i)) fun z => pbind (pNeed (tstr B n true) 41 z.2.2) fun j => (.inr (z.1 ++ [(10, x, y.2.1, z.2.1, 0)], (z.1.length : Int), j) : Nat ⊕ pFm)) (rYW q i N G (gIf2 e f x (xlx G L))) (rYS q B n b G (gIf2 e f x (xlx G L))) := by
  have hE := hX.1
  have h44 : isSg 44 := by unfold isSg; omega
  show pok (pbind (if kK (tstr B n true) i = 44 then .inr (i + 1) else .inl (kS (tstr B n true) i)) _) _ _
  by_cases c : kK (tstr B n true) i = 44
  · obtain ⟨L1, s1, s2⟩ := l_need' hf hE hA h44 c
    have s1' : g222 f 44 (xlx G L) = _ := s1
    have hi2 := hA.lim c (by decide) (by decide)
    have h1 := hQ F G L1 N (i + 1) (by rw [if_pos rfl]; exact hF) hX s2 (by omega) (by omega) hw
    have e0 : gIf2 e f x (xlx G L) = (e (xlx G L1)).bind fun R121 => gIf3 e f x R121.1 R121.2 := by
      unfold gIf2
      rw [s1', Option.bind_some]
    rw [if_pos c, e0]
    show pok (pbind (pF (tstr B n true) F 1 (b + 1) (N, 0, i + 1)) _) _ _
    cases hp : pF (tstr B n true) F 1 (b + 1) (N, 0, i + 1) with
    | inl w =>
      rw [hp] at h1
      exact h1.cont (k := fun v G => gIf3 e f x v G) (.rf G) (by omega) (by omega) (by omega) (fun v G' L' c h7 h89 hc => gIf3_bad hq h7 h89 hc)
    | inr y =>
      rw [hp] at h1
      obtain ⟨G2, L2, u1, u2, u3, u4, hz⟩ := h1
      obtain ⟨p1, p2, p3, p4, p5, p6⟩ := pF_le (tstr_ck hE.1.2.1) F 1 (b + 1) _ y (by decide) hp hw (fun q => absurd q (by decide))
      simp only at p1 p2 p3 p4
      have h2 := gIf3_ok (F := F) (x := x) (y := y.2.1) hf hq hQ u4 u2 hz (by omega) p5 (by omega)
      rw [u1, Option.bind_some]
      show pok (pbind (pNeed (tstr B n true) 44 y.2.2) fun i => pbind (pF (tstr B n true) F 1 (b + 1) (y.1, 0, i)) fun z => pbind (pNeed (tstr B n true) 41 z.2.2) fun j => (.inr (z.1 ++ [(10, x, y.2.1, z.2.1, 0)], (z.1.length : Int), j) : Nat ⊕ pFm)) _ _
      cases hp2 : (pbind (pNeed (tstr B n true) 44 y.2.2) fun i => pbind (pF (tstr B n true) F 1 (b + 1) (y.1, 0, i)) fun z => pbind (pNeed (tstr B n true) 41 z.2.2) fun j => (.inr (z.1 ++ [(10, x, y.2.1, z.2.1, 0)], (z.1.length : Int), j) : Nat ⊕ pFm)) with
      | inl w =>
        rw [hp2] at h2
        exact h2.fr u3 (by omega) (by omega)
      | inr r =>
        rw [hp2] at h2
        exact h2.fr u3
  · rw [if_neg c]
    have s1 := l_need_no' (f := f) hE hA h44 c
    have s1' : g222 f 44 (xlx G L) = _ := s1
    have hbad : xu L 7 ((q : Int) + kS (tstr B n true) i) 7 ≠ -1 := by show (q : Int) + kS (tstr B n true) i ≠ -1; omega
    obtain ⟨v, G', k1, k2, k3⟩ := gIf3_bad (f := f) (x := x) (y := 0) hq hbad hX.2.1.1 (by omega)
    refine ⟨v, G', xu L 7 ((q : Int) + kS (tstr B n true) i), ?_, rfl, k2, i, N.length + 1, Nat.le_refl _, hi, k3, by omega⟩
    unfold gIf2
    rw [s1', Option.bind_some, hq _ _ hbad, Option.bind_some]
    exact k1
/-- if -/
theorem l_if {F : Nat} (hf : n + 20 < f) (hq : rYB e) (hQ : b < 4 → rYP q B n 1 (b + 1) e) (hX : rYX G q B n N b) (hA : rAt q B n true i L) (hi : i ≤ 62) (hNi : N.length ≤ i) (hw : wFm N) (hF : 4 * (63 - i) + 1 ≤ F + 1) (hK : kK (tstr B n true) i = 1) (hC : kC (tstr B n true) i = 348) :
    pok (pbind (pOpen (tstr B n true) b (i + 1)) fun i => pbind (pF (tstr B n true) F 1 (b + 1) (N, 0, i)) fun x => pbind (pNeed (tstr B n true) 44 x.2.2) fun i => pbind (pF (tstr B n true) F 1 (b + 1) (x.1, 0, i)) fun y => pbind (pNeed (tstr B n true) 44 y.2.2) fun i => pbind (pF (tstr B n true) F 1 (b + 1) (y.1, 0, i)) fun z => pbind (pNeed (tstr B n true) 41 z.2.2) fun j => (.inr (z.1 ++ [(10, x.2.1, y.2.1, z.2.1, 0)], (z.1.length : Int), j) : Nat ⊕ pFm)) (rYW q i N G (g339 e f (xlx G L))) (rYS q B n b G (g339 e f (xlx G L))) := by
  have hE := hX.1
  obtain ⟨L1, s1, s2⟩ := hA.if' (f := f) hf hE hK hC
  have hi2 := hA.lim hK (by decide) (by decide)
  have h1 := l_open (f := f) hf hX s2
  have e0 : g339 e f (xlx G L) = (g336 f (xlx G L1)).bind fun R106 => gIf1 e f R106 := by
    rw [gIf_e, s1, Option.bind_some]
  cases hp : pOpen (tstr B n true) b (i + 1) with
  | inl w =>
    rw [hp] at h1
    obtain ⟨v, L2, u1, u2⟩ := h1
    have hbad : L2 7 ≠ -1 := by omega
    obtain ⟨v', G', k1, k2, k3⟩ := gIf1_bad (f := f) (G := xup2 G 0 25 v) (c := N.length) hq hbad (by rw [xup2_n (by omega)]; exact hX.2.1.1) (by omega)
    refine ⟨v', G', L2, ?_, u2, xff.u25.tr k2, i, N.length + 1, Nat.le_refl _, hi, k3, by omega⟩
    rw [e0, u1, Option.bind_some]
    exact k1
  | inr j =>
    rw [hp] at h1
    obtain ⟨L2, u1, u2, u3, u4, u5⟩ := h1
    have hi3 := s2.lim u5 (by decide) (by decide)
    have hX1 : rYX (xup2 G 0 25 ((b + 1 : Nat) : Int)) q B n N (b + 1) := hX.b (by omega)
    have hQ' := hQ u4
    have h2 := hQ' F _ L2 N j (by rw [if_pos rfl]; omega) hX1 u2 (by omega) (by omega) hw
    have e1 : g339 e f (xlx G L) = (e (xlx (xup2 G 0 25 ((b + 1 : Nat) : Int)) L2)).bind fun R111 => gIf2 e f R111.1 R111.2 := by
      rw [e0, u1, Option.bind_some]
      rfl
    rw [e1]
    show pok (pbind (pF (tstr B n true) F 1 (b + 1) (N, 0, j)) _) _ _
    cases hp1 : pF (tstr B n true) F 1 (b + 1) (N, 0, j) with
    | inl w =>
      rw [hp1] at h2
      exact h2.cont (k := fun v G => gIf2 e f v G) xff.u25 (by omega) (by omega) (by omega) (fun v G' L' c h7 h89 hc => gIf2_bad hq h7 h89 hc)
    | inr x =>
      rw [hp1] at h2
      obtain ⟨G2, L3, y1, y2, y3, y4, y5⟩ := h2
      obtain ⟨p1, p2, p3, p4, p5, p6⟩ := pF_le (tstr_ck hE.1.2.1) F 1 (b + 1) _ x (by decide) hp1 hw (fun q => absurd q (by decide))
      simp only at p1 p2 p3 p4
      have h3 := gIf2_ok (F := F) (x := x.2.1) hf hq hQ' y4 y2 y5 (by omega) p5 (by omega)
      rw [y1, Option.bind_some]
      show pok (pbind (pNeed (tstr B n true) 44 x.2.2) fun i => pbind (pF (tstr B n true) F 1 (b + 1) (x.1, 0, i)) fun y => pbind (pNeed (tstr B n true) 44 y.2.2) fun i => pbind (pF (tstr B n true) F 1 (b + 1) (y.1, 0, i)) fun z => pbind (pNeed (tstr B n true) 41 z.2.2) fun j => (.inr (z.1 ++ [(10, x.2.1, y.2.1, z.2.1, 0)], (z.1.length : Int), j) : Nat ⊕ pFm)) _ _
      cases hp2 : (pbind (pNeed (tstr B n true) 44 x.2.2) fun i => pbind (pF (tstr B n true) F 1 (b + 1) (x.1, 0, i)) fun y => pbind (pNeed (tstr B n true) 44 y.2.2) fun i => pbind (pF (tstr B n true) F 1 (b + 1) (y.1, 0, i)) fun z => pbind (pNeed (tstr B n true) 41 z.2.2) fun j => (.inr (z.1 ++ [(10, x.2.1, y.2.1, z.2.1, 0)], (z.1.length : Int), j) : Nat ⊕ pFm)) with
      | inl w =>
        rw [hp2] at h3
        exact h3.fr (xff.u25.tr y3) (by omega) (by omega)
      | inr r =>
        rw [hp2] at h3
        exact h3.fr (xff.u25.tr y3)
end
end
section
/-! The reference reads FORMULAS: operands; signs between them; all of it -/
theorem bind_pr {r : Option (Int × xG_)} : (r.bind fun R => some (R.1, R.2)) = r := by
  cases r with
  | none => rfl
  | some x => rfl
section
variable {f q n b : Nat} {B : Nat → Int} {e : xG_ → Option (Int × xG_)}
theorem l_oper_bad : rYB (g338 e f) := by
  intro G L h
  unfold g338
  rw [l_bad, if_neg h, Option.bind_some]
  have n1 : ¬ ((1 : Int), xlx G L).1 = 0 := fun q => absurd q (by decide : ¬ (1 : Int) = 0)
  rw [if_neg n1]
theorem l_oper_e {i : Nat} {G : xG_} {L : Nat → Int} (hE : rEw G q B n true) (hA : rAt q B n true i L) : g338 e f (xlx G L) =
    if kK (tstr B n true) i = 2 then ((g332 f (xlx G L)).bind fun R185 => g331 f 2 R185.1 0 0 0 R185.2)
    else if kK (tstr B n true) i = 40 then ((g336 f (xlx G L)).bind fun R170 => ((e R170).bind fun R175 => ((g337 f R175.2).bind fun R180 => some (R175.1, R180))))
    else if kK (tstr B n true) i = 1 ∧ kC (tstr B n true) i = 348 then g339 e f (xlx G L)
    else if 10 ≤ kK (tstr B n true) i ∧ kK (tstr B n true) i ≤ 13 then g340 f (L 9) (xlx G L)
    else ((g227 f (xlx G L)).bind fun R154 => (if R154.1 = 0 then some (0, R154.2) else (g331 f 1 0 0 0 (R154.2 0 21) R154.2).bind fun R160 => some (R160.1, R160.2))) := by
  obtain ⟨t4, tsg, tn, tv, tu, tnum, tend, tn9, tv9, tnum9, t6, t5, tlt, t3⟩ := hA.tk hE.1.2.1
  have h7 := hA.1
  have s40 := hA.issign' (f := f) hE (c := 40) (by unfold isSg; omega)
  have s40' : g220 f 40 (xlx G L) = _ := s40
  have wif := hA.isif' (f := f) hE
  obtain ⟨r12, r13, r14, r15, r16, r17, r18, r19, r20⟩ := hE.2.2
  have w17 := hA.isword' (f := f) (c := 28247) (k := 11) hE (by decide) (fun x h => (tres_inv (x := x)).2.2.2.2.2.1 h) (by decide)
  have w16 := hA.isword' (f := f) (c := 7109364) (k := 10) hE (by decide) (fun x h => (tres_inv (x := x)).2.2.2.2.1 h) (by decide)
  have w18 := hA.isword' (f := f) (c := 25298178) (k := 12) hE (by decide) (fun x h => (tres_inv (x := x)).2.2.2.2.2.2.1 h) (by decide)
  have w19 := hA.isword' (f := f) (c := 735738) (k := 13) hE (by decide) (fun x h => (tres_inv (x := x)).2.2.2.2.2.2.2 h) (by decide)
  have x20 : xlx G L 0 20 = G 0 20 := xlx_o _ _ (by omega)
  have x17 : xlx G L 0 17 = 28247 := by rw [xlx_o _ _ (by omega)]; exact r17
  have x16 : xlx G L 0 16 = 7109364 := by rw [xlx_o _ _ (by omega)]; exact r16
  have x18 : xlx G L 0 18 = 25298178 := by rw [xlx_o _ _ (by omega)]; exact r18
  have x19 : xlx G L 0 19 = 735738 := by rw [xlx_o _ _ (by omega)]; exact r19
  have k3 : (L 7 = -1 ∧ L 2 = 3) ↔ kK (tstr B n true) i = 2 := ⟨fun q => tv.mp q.2, fun q => ⟨h7, tv.mpr q⟩⟩
  have i1 : ¬ (1 : Int) = 0 := by decide
  have j1 : ¬ ¬ (1 : Int) = 0 ↔ False := by decide
  unfold g338
  rw [l_bad, if_pos h7, Option.bind_some]
  show (if (0 : Int) = 0 then Option.bind (g221 f 3 (xlx G L)) _ else _) = _
  rw [if_pos rfl, l_kind, Option.bind_some]
  by_cases c2 : kK (tstr B n true) i = 2
  · simp only [if_pos (k3.mpr c2), if_pos c2, if_neg i1, bind_pr]
  · simp only [if_neg (fun q => c2 (k3.mp q)), if_neg c2, if_true]
    rw [s40', Option.bind_some]
    by_cases c40 : kK (tstr B n true) i = 40
    · simp only [if_pos c40, if_neg i1]
    · simp only [if_neg c40, if_true, x20]
      rw [wif, Option.bind_some]
      by_cases cif : kK (tstr B n true) i = 1 ∧ kC (tstr B n true) i = 348
      · simp only [if_pos cif, if_neg i1, bind_pr]
      · simp only [if_neg cif, if_true, x17]
        rw [w17, Option.bind_some]
        unfold g338_116 g338_148
        by_cases c11 : kK (tstr B n true) i = 11
        · have c : 10 ≤ kK (tstr B n true) i ∧ kK (tstr B n true) i ≤ 13 := by omega
          simp only [if_pos c11, if_pos c, if_pos i1, xlx_9, bind_pr]
        · simp only [if_neg c11, x16]
          rw [if_neg (fun q => q trivial), w16, Option.bind_some]
          by_cases c10 : kK (tstr B n true) i = 10
          · have c : 10 ≤ kK (tstr B n true) i ∧ kK (tstr B n true) i ≤ 13 := by omega
            simp only [if_pos c10, if_pos c, if_pos i1, xlx_9, bind_pr]
          · simp only [if_neg c10, x18]
            rw [if_neg (fun q => q trivial), w18, Option.bind_some]
            by_cases c12 : kK (tstr B n true) i = 12
            · have c : 10 ≤ kK (tstr B n true) i ∧ kK (tstr B n true) i ≤ 13 := by omega
              simp only [if_pos c12, if_pos c, if_pos i1, xlx_9, bind_pr]
            · simp only [if_neg c12, x19]
              rw [if_neg (fun q => q trivial), w19, Option.bind_some]
              by_cases c13 : kK (tstr B n true) i = 13
              · have c : 10 ≤ kK (tstr B n true) i ∧ kK (tstr B n true) i ≤ 13 := by omega
                simp only [if_pos c13, if_pos c, if_neg i1, xlx_9, bind_pr]
              · have c : ¬ (10 ≤ kK (tstr B n true) i ∧ kK (tstr B n true) i ≤ 13) := by omega
                simp only [if_neg c13, if_neg c, if_true]
theorem pVal_62 {i : Nat} {r : Int × Nat} (h : pVal (tstr B n true) i = .inr r) {L : Nat → Int} (hl : ∀ j, kK (tstr B n true) j ≠ 0 → kK (tstr B n true) j ≠ 5 → j ≤ 61) : r.2 ≤ 62 := by
  unfold pVal at h
  split at h
  · rename_i c
    cases h
    have := hl i (by omega) (by omega)
    show i + 1 ≤ 62
    omega
  · split at h
    · split at h
      · rename_i c
        cases h
        have := hl (i + 1) (by omega) (by omega)
        show i + 2 ≤ 62
        omega
      · cases h
    · split at h
      · rename_i c
        cases h
        have := hl i (by omega) (by omega)
        show i + 1 ≤ 62
        omega
      · cases h
theorem k62 (j : Nat) (h0 : kK (tstr B n true) j ≠ 0) (h5 : kK (tstr B n true) j ≠ 5) : j ≤ 61 := by
  have e : kK (tstr B n true) j = if 0 ≤ B (tS B n j) ∧ true = true ∧ 62 ≤ j then 5 else tkd B n (tS B n j) := rfl
  rw [e] at h0 h5
  by_cases c : 0 ≤ B (tS B n j) ∧ true = true ∧ 62 ≤ j
  · rw [if_pos c] at h5
    exact absurd rfl h5
  · rw [if_neg c] at h0
    by_cases c2 : B (tS B n j) < 0
    · have : tkd B n (tS B n j) = 0 := if_pos c2
      exact absurd this h0
    · refine Decidable.byContradiction fun q => c ⟨by omega, rfl, by omega⟩
theorem l_oper (hf : n + 20 < f) (hq : rYB e) (hQ : b < 4 → rYP q B n 1 (b + 1) e) : rYP q B n 0 b (g338 e f) := by
  intro F G L N i hF hX hA hi hNi hw
  rw [if_neg (by decide), if_neg (by decide)] at hF
  obtain ⟨F, rfl⟩ : ∃ t, F = t + 1 := ⟨F - 1, by omega⟩
  have hE := hX.1
  have hB := hE.1.2.1
  have e0 := l_oper_e (f := f) (e := e) hE hA
  rw [pF_0]
  simp only
  by_cases c2 : kK (tstr B n true) i = 2
  · rw [if_pos c2] at e0 ⊢
    have h1 := l_cell (f := f) hf hE hA
    have hi61 := hA.lim c2 (by decide) (by decide)
    rw [e0]
    cases hp : pCell (tstr B n true) i with
    | inl w =>
      rw [hp] at h1
      refine ⟨(N.length : Int), nPut G N.length 2 0 0 0 0, xu L 7 ((q : Int) + w), ?_, rfl, nPut_ff, i, N.length + 1, Nat.le_refl _, hi, xup2_s _ _ _ _, by omega⟩
      rw [h1.1, Option.bind_some]
      exact l_node hX.2.1.1 (by omega)
    | inr r =>
      rw [hp] at h1
      obtain ⟨L1, u1, u2, u3, u4, u5⟩ := h1
      refine ⟨nPut G N.length 2 r.1 0 0 0, L1, ?_, u2, nPut_ff, hX.put, by show r.2 ≤ 62; omega⟩
      rw [u1, Option.bind_some]
      exact l_node hX.2.1.1 (by omega)
  rw [if_neg c2] at e0 ⊢
  by_cases c40 : kK (tstr B n true) i = 40
  · rw [if_pos c40] at e0 ⊢
    have h1 := l_open (f := f) hf hX hA
    have hi61 := hA.lim c40 (by decide) (by decide)
    rw [e0]
    cases hp : pOpen (tstr B n true) b i with
    | inl w =>
      rw [hp] at h1
      obtain ⟨v, L1, u1, u2⟩ := h1
      have hbad : L1 7 ≠ -1 := by omega
      obtain ⟨v2, k1⟩ := l_close_bad (f := f) (G := xup2 G 0 25 v) hbad
      refine ⟨0, xup2 (xup2 G 0 25 v) 0 25 v2, L1, ?_, u2, xff.u25.tr xff.u25, i, N.length, Nat.le_refl _, hi, ?_, by omega⟩
      · rw [u1, Option.bind_some, hq _ _ hbad, Option.bind_some, k1]
        rfl
      · rw [xup2_n (by omega), xup2_n (by omega)]
        exact hX.2.1.1
    | inr j =>
      rw [hp] at h1
      obtain ⟨L1, u1, u2, u3, u4, u5⟩ := h1
      have hX1 : rYX (xup2 G 0 25 ((b + 1 : Nat) : Int)) q B n N (b + 1) := hX.b (by omega)
      have h2 := hQ u4 F _ L1 N j (by rw [if_pos rfl]; omega) hX1 u2 (by omega) (by omega) hw
      rw [u1, Option.bind_some]
      show pok (pbind (pF (tstr B n true) F 1 (b + 1) (N, 0, j)) _) _ _
      cases hp1 : pF (tstr B n true) F 1 (b + 1) (N, 0, j) with
      | inl w =>
        rw [hp1] at h2
        obtain ⟨v, G', L', a1, a2, a3, k, c, a4, a5, a6, a7⟩ := h2
        have hbad : L' 7 ≠ -1 := by omega
        obtain ⟨v2, k1⟩ := l_close_bad (f := f) (G := G') hbad
        refine ⟨v, xup2 G' 0 25 v2, L', ?_, a2, (xff.u25.tr a3).tr xff.u25, k, c, by omega, a5, by rw [xup2_n (by omega)]; exact a6, by omega⟩
        rw [a1, Option.bind_some, k1]
        rfl
      | inr x =>
        rw [hp1] at h2
        obtain ⟨G2, L2, y1, y2, y3, y4, y5⟩ := h2
        obtain ⟨p1, p2, p3, p4, p5, p6⟩ := pF_le (tstr_ck hB) F 1 (b + 1) _ x (by decide) hp1 hw (fun q => absurd q (by decide))
        simp only at p1 p2 p3 p4
        have h3 := l_close (f := f) hf y4.1 y4.2.2.1 (by omega) y2
        rw [y1, Option.bind_some]
        show pok (pbind (pNeed (tstr B n true) 41 x.2.2) _) _ _
        cases hp2 : pNeed (tstr B n true) 41 x.2.2 with
        | inl w =>
          rw [hp2] at h3
          obtain ⟨v, L3, z1, z2⟩ := h3
          refine ⟨x.2.1, xup2 G2 0 25 v, L3, ?_, z2, (xff.u25.tr y3).tr xff.u25, x.2.2, x.1.length, by omega, y5, by rw [xup2_n (by omega)]; exact y4.2.1.1, by omega⟩
          rw [z1]
          rfl
        | inr m =>
          rw [hp2] at h3
          obtain ⟨L3, z1, z2, z3, z4⟩ := h3
          have := y2.lim z4 (by decide) (by decide)
          refine ⟨xup2 G2 0 25 (b : Int), L3, ?_, z2, (xff.u25.tr y3).tr xff.u25, y4.b (by omega), by show m ≤ 62; omega⟩
          rw [z1]
          rfl
  rw [if_neg c40] at e0 ⊢
  by_cases cif : kK (tstr B n true) i = 1 ∧ kC (tstr B n true) i = 348
  · rw [if_pos cif] at e0 ⊢
    rw [e0]
    exact l_if hf hq hQ hX hA hi hNi hw (by omega) cif.1 cif.2
  rw [if_neg cif] at e0 ⊢
  by_cases cof : 10 ≤ kK (tstr B n true) i ∧ kK (tstr B n true) i ≤ 13
  · rw [if_pos cof] at e0 ⊢
    rw [e0]
    exact l_of hf hX hA hi hNi cof
  rw [if_neg cof] at e0 ⊢
  rw [e0]
  have h1 := l_value' (f := f) hf hE hA
  cases hp : pVal (tstr B n true) i with
  | inl w =>
    rw [hp] at h1
    obtain ⟨L1, u1, u2⟩ := h1
    refine ⟨0, G, L1, ?_, u2, .rf G, i, N.length, Nat.le_refl _, hi, hX.2.1.1, by omega⟩
    rw [u1, Option.bind_some]
    rfl
  | inr r =>
    rw [hp] at h1
    obtain ⟨L1, u1, u2, u3, u4⟩ := h1
    have f1 : xff G (xup2 G 0 21 r.1) := xff.up (.inl ⟨rfl, .inl rfl⟩)
    have hX1 : rYX (xup2 G 0 21 r.1) q B n N b := ⟨hE.fr f1, hX.2.1.ge (xup2_n (by omega)) (fun a j _ _ => xup2_n (by omega)), by rw [xup2_n (by omega)]; exact hX.2.2.1, hX.2.2.2⟩
    refine ⟨nPut (xup2 G 0 21 r.1) N.length 1 0 0 0 r.1, L1, ?_, u2, f1.tr nPut_ff, hX1.put, (by have := pVal_62 (L := L) hp k62; exact this)⟩
    have i1 : ¬ (1 : Int) = 0 := by decide
    rw [u1, Option.bind_some]
    simp only [if_neg i1]
    rw [xlx_o _ _ (by omega), xup2_s, l_node hX1.2.1.1 (by omega)]
    rfl
end
end
section
/-! The reference reads FORMULAS: signs between operands; all of it -/
section
variable {f q n b : Nat} {B : Nat → Int} {e : xG_ → Option (Int × xG_)}
theorem l_sloop_bad {fu : Nat} (hfu : 0 < fu) {x1 : Int} (G : xG_) (L : Nat → Int) (h : L 7 ≠ -1) : g335_5 e f fu x1 (xlx G L) = some (x1, xlx G L) := by
  obtain ⟨fu, rfl⟩ : ∃ t, fu = t + 1 := ⟨fu - 1, by omega⟩
  show g335_5b e (g335_5 e f fu) f x1 (xlx G L) = _
  unfold g335_5b
  rw [l_isOf_bad h (by omega), Option.bind_some]
  rfl
theorem l_wloop_bad {fu : Nat} (hfu : 0 < fu) {x1 : Int} (G : xG_) (L : Nat → Int) (h : L 7 ≠ -1) : g334_5 e f fu x1 (xlx G L) = some (x1, xlx G L) := by
  obtain ⟨fu, rfl⟩ : ∃ t, fu = t + 1 := ⟨fu - 1, by omega⟩
  show g334_5b e (g334_5 e f fu) f x1 (xlx G L) = _
  unfold g334_5b
  rw [l_isOf_bad h (by omega), Option.bind_some]
  rfl
theorem l_strong_bad (hf : 0 < f) : rYB (g335 e f) := by
  intro G L h
  unfold g335
  rw [l_oper_bad G L h, Option.bind_some]
  exact l_sloop_bad hf G L h
theorem l_form_bad (hf : 0 < f) : rYB (g334b e f) := by
  intro G L h
  unfold g334b
  rw [l_strong_bad hf G L h, Option.bind_some]
  exact l_wloop_bad hf G L h
/-- strong signs -/
theorem l_sloop (hf : n + 70 < f) (hP : rYP q B n 0 b (g338 e f)) : ∀ (d fu F : Nat) (G : xG_) (L : Nat → Int) (N : List pNd) (x : Int) (i : Nat), 63 - i ≤ d → d < fu → 4 * (63 - i) + 1 ≤ F → rYX G q B n N b → rAt q B n true i L → i ≤ 62 → N.length ≤ i → wFm N → 0 ≤ x → x < N.length →
    pok (pF (tstr B n true) F 3 b (N, x, i)) (rYW q i N G (g335_5 e f fu x (xlx G L))) (rYS q B n b G (g335_5 e f fu x (xlx G L))) := by
  intro d
  induction d with
  | zero => intro fu F G L N x i h1 h2 hF hX hA hi; omega
  | succ d ih =>
    intro fu F G L N x i h1 h2 hF hX hA hi hNi hw hx0 hx1
    obtain ⟨fu, rfl⟩ : ∃ t, fu = t + 1 := ⟨fu - 1, by omega⟩
    obtain ⟨F, rfl⟩ : ∃ t, F = t + 1 := ⟨F - 1, by omega⟩
    have hE := hX.1
    have hB := hE.1.2.1
    have i1 : ¬ (1 : Int) = 0 := by decide
    rw [pF_3]
    simp only
    by_cases c : kK (tstr B n true) i = 42 ∨ kK (tstr B n true) i = 47 ∨ kK (tstr B n true) i = 37
    · rw [if_pos c]
      have hi61 := hA.lim rfl (by omega) (by omega)
      obtain ⟨s3, L1, s1, s2⟩ := hA.sg' (f := f) (by omega) hE rfl (by unfold isSg; omega)
      have h3' : L 3 = kK (tstr B n true) i := by rw [s3]; unfold rsc; rw [if_neg (by omega)]
      have e0 : g335_5 e f (fu + 1) x (xlx G L) = (g338 e f (xlx G L1)).bind fun R112 => (fun v G => (g331 f 3 x v (kK (tstr B n true) i) 0 G).bind fun R117 => g335_5 e f fu R117.1 R117.2) R112.1 R112.2 := by
        show g335_5b e (g335_5 e f fu) f x (xlx G L) = _
        unfold g335_5b
        rw [l_strong hB hA, if_pos c, Option.bind_some]
        simp only [if_neg i1]
        rw [s1, Option.bind_some, xlx_3, h3']
      have h4 := hP F G L1 N (i + 1) (by rw [if_neg (by decide), if_neg (by decide)]; omega) hX s2 (by omega) (by omega) hw
      rw [e0]
      cases hp : pF (tstr B n true) F 0 b (N, 0, i + 1) with
      | inl w =>
        rw [hp] at h4
        refine h4.cont (k := fun v G => (g331 f 3 x v (kK (tstr B n true) i) 0 G).bind fun R117 => g335_5 e f fu R117.1 R117.2) (.rf G) (by omega) (by omega) (by omega) (fun v G' L' c h7 h89 hc => ?_)
        obtain ⟨G2, k1, k2, k3⟩ := l_node_bad (f := f) (L := L') (a1 := 3) (a2 := x) (a3 := v) (a4 := kK (tstr B n true) i) (a5 := 0) h89 hc
        refine ⟨(c : Int), G2, ?_, k2, k3⟩
        show Option.bind (g331 f 3 x v (kK (tstr B n true) i) 0 (xlx G' L')) _ = _
        rw [k1, Option.bind_some]
        exact l_sloop_bad (by omega) G2 L' h7
      | inr y =>
        rw [hp] at h4
        obtain ⟨G2, L2, y1, y2, y3, y4, y5⟩ := h4
        obtain ⟨p1, p2, p3, p4, p5, p6, p7⟩ := pF_le (tstr_ck hB) F 0 b _ y (by decide) hp hw (fun q => absurd q (by decide))
        simp only at p1 p2 p3 p4
        have h5 := ih fu F (nPut G2 y.1.length 3 x y.2.1 (kK (tstr B n true) i) 0) L2 (y.1 ++ [(3, x, y.2.1, kK (tstr B n true) i, 0)]) (y.1.length : Int) y.2.2 (by omega) (by omega) (by omega) y4.put y2 y5 (by rw [List.length_append, List.length_singleton]; omega) (p5.put (.inr (.inr (.inl ⟨rfl, ⟨hx0, by show x < _; omega⟩, ⟨p6, p7⟩, by simp only; omega⟩)))) (by omega) (by rw [List.length_append, List.length_singleton]; omega)
        have e1 : (g338 e f (xlx G L1)).bind (fun R112 => (fun v G => (g331 f 3 x v (kK (tstr B n true) i) 0 G).bind fun R117 => g335_5 e f fu R117.1 R117.2) R112.1 R112.2) = g335_5 e f fu (y.1.length : Int) (xlx (nPut G2 y.1.length 3 x y.2.1 (kK (tstr B n true) i) 0) L2) := by
          rw [y1, Option.bind_some]
          show Option.bind (g331 f 3 x y.2.1 (kK (tstr B n true) i) 0 (xlx G2 L2)) _ = _
          rw [l_node y4.2.1.1 (by omega)]
          rfl
        rw [e1]
        show pok (pF (tstr B n true) F 3 b (y.1 ++ [(3, x, y.2.1, kK (tstr B n true) i, 0)], (y.1.length : Int), y.2.2)) _ _
        cases hp2 : pF (tstr B n true) F 3 b (y.1 ++ [(3, x, y.2.1, kK (tstr B n true) i, 0)], (y.1.length : Int), y.2.2) with
        | inl w =>
          rw [hp2] at h5
          exact h5.fr (y3.tr nPut_ff) (by omega) (by rw [List.length_append, List.length_singleton]; omega)
        | inr z =>
          rw [hp2] at h5
          exact h5.fr (y3.tr nPut_ff)
    · rw [if_neg c]
      refine ⟨G, L, ?_, hA, .rf G, hX, hi⟩
      show g335_5b e (g335_5 e f fu) f x (xlx G L) = _
      unfold g335_5b
      rw [l_strong hB hA, if_neg c, Option.bind_some]
      rfl
theorem l_strongs (hf : n + 70 < f) (hP : rYP q B n 0 b (g338 e f)) : rYP q B n 2 b (g335 e f) := by
  intro F G L N i hF hX hA hi hNi hw
  rw [if_neg (by decide), if_pos rfl] at hF
  obtain ⟨F, rfl⟩ : ∃ t, F = t + 1 := ⟨F - 1, by omega⟩
  have hB := hX.1.1.2.1
  rw [pF_2]
  have h1 := hP F G L N i (by rw [if_neg (by decide), if_neg (by decide)]; omega) hX hA hi hNi hw
  cases hp : pF (tstr B n true) F 0 b (N, 0, i) with
  | inl w =>
    rw [hp] at h1
    obtain ⟨v, G', L', a1, a2, a3, a4⟩ := h1
    refine ⟨v, G', L', ?_, a2, a3, a4⟩
    unfold g335
    rw [a1, Option.bind_some]
    exact l_sloop_bad (by omega) G' L' (by omega)
  | inr y =>
    rw [hp] at h1
    obtain ⟨G2, L2, y1, y2, y3, y4, y5⟩ := h1
    obtain ⟨p1, p2, p3, p4, p5, p6, p7⟩ := pF_le (tstr_ck hB) F 0 b _ y (by decide) hp hw (fun q => absurd q (by decide))
    simp only at p1 p2 p3 p4
    have h5 := l_sloop (f := f) hf hP 63 f F G2 L2 y.1 y.2.1 y.2.2 (by omega) (by omega) (by omega) y4 y2 y5 (by omega) p5 p6 p7
    have e1 : g335 e f (xlx G L) = g335_5 e f f y.2.1 (xlx G2 L2) := by
      unfold g335
      rw [y1, Option.bind_some]
    rw [e1]
    show pok (pF (tstr B n true) F 3 b (y.1, y.2.1, y.2.2)) _ _
    cases hp2 : pF (tstr B n true) F 3 b (y.1, y.2.1, y.2.2) with
    | inl w =>
      rw [hp2] at h5
      exact h5.fr y3 (by omega) (by omega)
    | inr z =>
      rw [hp2] at h5
      exact h5.fr y3
/-- weak signs -/
theorem l_wloop (hf : n + 70 < f) (hP : rYP q B n 2 b (g335 e f)) : ∀ (d fu F : Nat) (G : xG_) (L : Nat → Int) (N : List pNd) (x : Int) (i : Nat), 63 - i ≤ d → d < fu → 4 * (63 - i) + 1 ≤ F → rYX G q B n N b → rAt q B n true i L → i ≤ 62 → N.length ≤ i → wFm N → 0 ≤ x → x < N.length →
    pok (pF (tstr B n true) F 4 b (N, x, i)) (rYW q i N G (g334_5 e f fu x (xlx G L))) (rYS q B n b G (g334_5 e f fu x (xlx G L))) := by
  intro d
  induction d with
  | zero => intro fu F G L N x i h1 h2 hF hX hA hi; omega
  | succ d ih =>
    intro fu F G L N x i h1 h2 hF hX hA hi hNi hw hx0 hx1
    obtain ⟨fu, rfl⟩ : ∃ t, fu = t + 1 := ⟨fu - 1, by omega⟩
    obtain ⟨F, rfl⟩ : ∃ t, F = t + 1 := ⟨F - 1, by omega⟩
    have hE := hX.1
    have hB := hE.1.2.1
    have i1 : ¬ (1 : Int) = 0 := by decide
    rw [pF_4]
    simp only
    by_cases c : kK (tstr B n true) i = 43 ∨ kK (tstr B n true) i = 45
    · rw [if_pos c]
      have hi61 := hA.lim rfl (by omega) (by omega)
      obtain ⟨s3, L1, s1, s2⟩ := hA.sg' (f := f) (by omega) hE rfl (by unfold isSg; omega)
      have h3' : L 3 = kK (tstr B n true) i := by rw [s3]; unfold rsc; rw [if_neg (by omega)]
      have e0 : g334_5 e f (fu + 1) x (xlx G L) = (g335 e f (xlx G L1)).bind fun R112 => (fun v G => (g331 f 3 x v (kK (tstr B n true) i) 0 G).bind fun R117 => g334_5 e f fu R117.1 R117.2) R112.1 R112.2 := by
        show g334_5b e (g334_5 e f fu) f x (xlx G L) = _
        unfold g334_5b
        rw [l_weak hB hA, if_pos c, Option.bind_some]
        simp only [if_neg i1]
        rw [s1, Option.bind_some, xlx_3, h3']
      have h4 := hP F G L1 N (i + 1) (by rw [if_neg (by decide), if_pos rfl]; omega) hX s2 (by omega) (by omega) hw
      rw [e0]
      cases hp : pF (tstr B n true) F 2 b (N, 0, i + 1) with
      | inl w =>
        rw [hp] at h4
        refine h4.cont (k := fun v G => (g331 f 3 x v (kK (tstr B n true) i) 0 G).bind fun R117 => g334_5 e f fu R117.1 R117.2) (.rf G) (by omega) (by omega) (by omega) (fun v G' L' c h7 h89 hc => ?_)
        obtain ⟨G2, k1, k2, k3⟩ := l_node_bad (f := f) (L := L') (a1 := 3) (a2 := x) (a3 := v) (a4 := kK (tstr B n true) i) (a5 := 0) h89 hc
        refine ⟨(c : Int), G2, ?_, k2, k3⟩
        show Option.bind (g331 f 3 x v (kK (tstr B n true) i) 0 (xlx G' L')) _ = _
        rw [k1, Option.bind_some]
        exact l_wloop_bad (by omega) G2 L' h7
      | inr y =>
        rw [hp] at h4
        obtain ⟨G2, L2, y1, y2, y3, y4, y5⟩ := h4
        obtain ⟨p1, p2, p3, p4, p5, p6, p7⟩ := pF_le (tstr_ck hB) F 2 b _ y (by decide) hp hw (fun q => absurd q (by decide))
        simp only at p1 p2 p3 p4
        have h5 := ih fu F (nPut G2 y.1.length 3 x y.2.1 (kK (tstr B n true) i) 0) L2 (y.1 ++ [(3, x, y.2.1, kK (tstr B n true) i, 0)]) (y.1.length : Int) y.2.2 (by omega) (by omega) (by omega) y4.put y2 y5 (by rw [List.length_append, List.length_singleton]; omega) (p5.put (.inr (.inr (.inl ⟨rfl, ⟨hx0, by show x < _; omega⟩, ⟨p6, p7⟩, by simp only; omega⟩)))) (by omega) (by rw [List.length_append, List.length_singleton]; omega)
        have e1 : (g335 e f (xlx G L1)).bind (fun R112 => (fun v G => (g331 f 3 x v (kK (tstr B n true) i) 0 G).bind fun R117 => g334_5 e f fu R117.1 R117.2) R112.1 R112.2) = g334_5 e f fu (y.1.length : Int) (xlx (nPut G2 y.1.length 3 x y.2.1 (kK (tstr B n true) i) 0) L2) := by
          rw [y1, Option.bind_some]
          show Option.bind (g331 f 3 x y.2.1 (kK (tstr B n true) i) 0 (xlx G2 L2)) _ = _
          rw [l_node y4.2.1.1 (by omega)]
          rfl
        rw [e1]
        show pok (pF (tstr B n true) F 4 b (y.1 ++ [(3, x, y.2.1, kK (tstr B n true) i, 0)], (y.1.length : Int), y.2.2)) _ _
        cases hp2 : pF (tstr B n true) F 4 b (y.1 ++ [(3, x, y.2.1, kK (tstr B n true) i, 0)], (y.1.length : Int), y.2.2) with
        | inl w =>
          rw [hp2] at h5
          exact h5.fr (y3.tr nPut_ff) (by omega) (by rw [List.length_append, List.length_singleton]; omega)
        | inr z =>
          rw [hp2] at h5
          exact h5.fr (y3.tr nPut_ff)
    · rw [if_neg c]
      refine ⟨G, L, ?_, hA, .rf G, hX, hi⟩
      show g334_5b e (g334_5 e f fu) f x (xlx G L) = _
      unfold g334_5b
      rw [l_weak hB hA, if_neg c, Option.bind_some]
      rfl
theorem l_forms (hf : n + 70 < f) (hP : rYP q B n 2 b (g335 e f)) : rYP q B n 1 b (g334b e f) := by
  intro F G L N i hF hX hA hi hNi hw
  rw [if_pos rfl] at hF
  obtain ⟨F, rfl⟩ : ∃ t, F = t + 1 := ⟨F - 1, by omega⟩
  have hB := hX.1.1.2.1
  rw [pF_1]
  have h1 := hP F G L N i (by rw [if_neg (by decide), if_pos rfl]; omega) hX hA hi hNi hw
  cases hp : pF (tstr B n true) F 2 b (N, 0, i) with
  | inl w =>
    rw [hp] at h1
    obtain ⟨v, G', L', a1, a2, a3, a4⟩ := h1
    refine ⟨v, G', L', ?_, a2, a3, a4⟩
    unfold g334b
    rw [a1, Option.bind_some]
    exact l_wloop_bad (by omega) G' L' (by omega)
  | inr y =>
    rw [hp] at h1
    obtain ⟨G2, L2, y1, y2, y3, y4, y5⟩ := h1
    obtain ⟨p1, p2, p3, p4, p5, p6, p7⟩ := pF_le (tstr_ck hB) F 2 b _ y (by decide) hp hw (fun q => absurd q (by decide))
    simp only at p1 p2 p3 p4
    have h5 := l_wloop (f := f) hf hP 63 f F G2 L2 y.1 y.2.1 y.2.2 (by omega) (by omega) (by omega) y4 y2 y5 (by omega) p5 p6 p7
    have e1 : g334b e f (xlx G L) = g334_5 e f f y.2.1 (xlx G2 L2) := by
      unfold g334b
      rw [y1, Option.bind_some]
    rw [e1]
    show pok (pF (tstr B n true) F 4 b (y.1, y.2.1, y.2.2)) _ _
    cases hp2 : pF (tstr B n true) F 4 b (y.1, y.2.1, y.2.2) with
    | inl w =>
      rw [hp2] at h5
      exact h5.fr y3 (by omega) (by omega)
    | inr z =>
      rw [hp2] at h5
      exact h5.fr y3
/-- a FORMULA, up to what can't belong to it -/
theorem l_form (hf : n + 70 < f) : ∀ (d b : Nat), b ≤ 4 → 5 ≤ b + d → rYP q B n 1 b (g334r f (d + 1)) := by
  have hbd : ∀ d, rYB (g334r f (d + 1)) := fun d G L h => l_form_bad (by omega) G L h
  intro d
  induction d with
  | zero =>
    intro b hb hd
    omega
  | succ d ih =>
    intro b hb hd
    exact l_forms hf (l_strongs hf (l_oper (by omega) (hbd d) (fun h => ih (b + 1) (by omega) (by omega))))
end
end
section
/-! CELL TEXTS -/
/-- a CELL, its FORMULA's nodes and root; -1 if the cell becomes empty -/
def qCt (t : List Int) : Nat ⊕ (Int × List pNd × Int) :=
  pbind (pCell (tstr (tBt t) t.length true) 0) fun c => pbind (pNeed (tstr (tBt t) t.length true) 61 c.2) fun i =>
  if kK (tstr (tBt t) t.length true) i = 0 then .inr (c.1, [], -1) else
  pbind (pF (tstr (tBt t) t.length true) 255 1 0 ([], 0, i)) fun e => if kK (tstr (tBt t) t.length true) e.2.2 = 0 then .inr (c.1, e.1, e.2.1) else .inl (kS (tstr (tBt t) t.length true) e.2.2)
def xfK (G G' : xG_) : Prop := ∀ a j, ¬ (a = 0 ∧ (j ≤ 11 ∨ j = 21 ∨ j = 25 ∨ j = 89 ∨ j = 90)) → ¬ (258 ≤ a ∧ a ≤ 262) → G' a j = G a j
theorem xlx_up8 (G : xG_) (L : Nat → Int) (v : Int) : xup2 (xlx G L) 0 8 v = xlx G (xu L 8 v) := by
  funext a j
  unfold xlx xu xup2
  grind
theorem kK_lm {B : Nat → Int} {n i : Nat} (hi : i < 62) : kK (tstr B n true) i = kK (tstr B n false) i := by
  have e1 : kK (tstr B n true) i = if 0 ≤ B (tS B n i) ∧ true = true ∧ 62 ≤ i then 5 else tkd B n (tS B n i) := rfl
  have e2 : kK (tstr B n false) i = if 0 ≤ B (tS B n i) ∧ false = true ∧ 62 ≤ i then 5 else tkd B n (tS B n i) := rfl
  rw [e1, e2, if_neg (by omega), if_neg (by omega)]
theorem rAt.lm {q n i : Nat} {B : Nat → Int} {L : Nat → Int} (h : rAt q B n false i L) (hi : i = 1) : rAt q B n true i (xu L 8 0) := by
  obtain ⟨a1, a2, a3, a4, a5, a6⟩ := h
  refine ⟨a1, ?_, a3, ?_, ?_, fun _ => ?_⟩
  · have nb1 : ¬ (0 ≤ B (tS B n i) ∧ false = true ∧ 62 ≤ i) := fun h => (by cases h.2.1)
    have nb2 : ¬ (0 ≤ B (tS B n i) ∧ true = true ∧ 62 ≤ i) := fun h => (by omega)
    unfold rTk at a2 ⊢
    simp only [if_neg nb1] at a2
    obtain ⟨x1, x2, x3, x4, x5, x6, x7⟩ := a2
    exact ⟨x1, by rw [if_neg nb2]; exact x2, by rw [if_neg nb2]; exact x3, by rw [if_neg nb2]; exact x4, fun _ => x5 nb1, fun _ => x6 nb1, fun _ => x7 nb1⟩
  · show (0 : Int) ≤ 0; decide
  · show (0 : Int) ≤ (i : Int) + 1; omega
  · show (0 : Int) = (i : Int) - 1; omega
section
variable {f b q : Nat} {G : xG_} {t : List Int}
theorem l_333 (hf : 3100 < f) (hn : t.length ≤ 3000) (hC : rC G) (h : rTe G b q t) :
    pok (qCt t) (fun w => ∃ v G', g333 f b q ((q : Int) + t.length) G = some (v, G') ∧ G' 0 7 = (q : Int) + w ∧ xfK G G')
      (fun r => ∃ G', g333 f b q ((q : Int) + t.length) G = some (r.2.2, G') ∧ G' 0 7 = -1 ∧ G' 0 90 = r.1 ∧ 0 ≤ r.1 ∧ r.1 < 72 ∧ rNd G' r.2.1 ∧ wFm r.2.1 ∧ (r.2.2 = -1 ∧ r.2.1 = [] ∨ 0 ≤ r.2.2 ∧ r.2.2 < r.2.1.length) ∧ r.2.1.length ≤ 62 ∧ xfK G G') := by
  obtain ⟨L1, b1, b2⟩ := l_begin (f := f) (by omega) h.1
  rw [h.by] at b2
  have hb := h.1.1
  have mkT : ∀ G' : xG_, G' 0 0 = (b : Int) → G' 0 1 = (q : Int) + t.length → (∀ j, G' b j = G b j) → rTx G' q (tBt t) t.length := fun G' h0 h1 h2 => by
    have := rTx_of h.1 h0 h1 h2
    rw [h.by] at this
    exact this
  let G2 := xup2 (xup2 (xup2 (xup2 (xup2 G 0 0 (b : Int)) 0 1 ((q : Int) + t.length)) 0 11 0) 0 89 0) 0 25 0
  have z2 : ∀ a j, ¬ (a = 0 ∧ (j = 0 ∨ j = 1 ∨ j = 11 ∨ j = 89 ∨ j = 25)) → G2 a j = G a j := fun a j y => by
    show xup2 _ _ _ _ _ _ = _
    rw [xup2_n (by omega), xup2_n (by omega), xup2_n (by omega), xup2_n (by omega), xup2_n (by omega)]
  have z20 : G2 0 0 = (b : Int) := by
    show xup2 _ _ _ _ _ _ = _
    rw [xup2_n (by omega), xup2_n (by omega), xup2_n (by omega), xup2_n (by omega), xup2_s]
  have z21 : G2 0 1 = (q : Int) + t.length := by
    show xup2 _ _ _ _ _ _ = _
    rw [xup2_n (by omega), xup2_n (by omega), xup2_n (by omega), xup2_s]
  have z2b : G2 0 11 = 0 := by
    show xup2 _ _ _ _ _ _ = _
    rw [xup2_n (by omega), xup2_n (by omega), xup2_s]
  have z89 : G2 0 89 = 0 := by
    show xup2 _ _ _ _ _ _ = _
    rw [xup2_n (by omega), xup2_s]
  have z25 : G2 0 25 = 0 := xup2_s _ _ _ _
  have rCz : ∀ G' : xG_, (∀ j, 12 ≤ j → j ≤ 20 → G' 0 j = G 0 j) → rC G' := fun G' hz => by
    obtain ⟨k1, k2, k3, k4, k5, k6, k7, k8, k9⟩ := hC
    exact ⟨by rw [hz _ (by decide) (by decide)]; exact k1, by rw [hz _ (by decide) (by decide)]; exact k2, by rw [hz _ (by decide) (by decide)]; exact k3, by rw [hz _ (by decide) (by decide)]; exact k4, by rw [hz _ (by decide) (by decide)]; exact k5, by rw [hz _ (by decide) (by decide)]; exact k6, by rw [hz _ (by decide) (by decide)]; exact k7, by rw [hz _ (by decide) (by decide)]; exact k8, by rw [hz _ (by decide) (by decide)]; exact k9⟩
  have hE2 : rEw G2 q (tBt t) t.length false := ⟨mkT G2 z20 z21 (fun j => z2 _ _ (by omega)), z2b, rCz G2 (fun j _ _ => z2 _ _ (by omega))⟩
  have hB := hE2.1.2.1
  -- what is read, over all
  have e0 : g333 f b q ((q : Int) + t.length) G = (g332 f (xlx G2 L1)).bind fun R131 => ((some (xup2 R131.2 0 90 R131.1)).bind fun G139 => ((some (xup2 G139 0 11 1)).bind fun G143 => ((some (xup2 G143 0 8 0)).bind fun G147 => ((g222 f 61 G147).bind fun R148 => ((g211 f R148).bind fun R153 => (if ¬ (R153.1) = 0 then g333_57 f R153.2 else (if ¬ (R153.2 0 2) = 0 then g333_57 f R153.2 else (some (-1, R153.2))))))))) := by
    unfold g333
    rw [b1, Option.bind_some, xlx_upo _ _ _ (by omega), Option.bind_some, xlx_upo _ _ _ (by omega), Option.bind_some]
  have st : ∀ (c : Int) (L : Nat → Int), ((some (xup2 (xlx G2 L) 0 90 c)).bind fun G139 => ((some (xup2 G139 0 11 1)).bind fun G143 => ((some (xup2 G143 0 8 0)).bind fun G147 => ((g222 f 61 G147).bind fun R148 => ((g211 f R148).bind fun R153 => (if ¬ (R153.1) = 0 then g333_57 f R153.2 else (if ¬ (R153.2 0 2) = 0 then g333_57 f R153.2 else (some (-1, R153.2))))))))) = ((g222 f 61 (xlx (xup2 (xup2 G2 0 90 c) 0 11 1) (xu L 8 0))).bind fun R148 => ((g211 f R148).bind fun R153 => (if ¬ (R153.1) = 0 then g333_57 f R153.2 else (if ¬ (R153.2 0 2) = 0 then g333_57 f R153.2 else (some (-1, R153.2)))))) := fun c L => by
    rw [xlx_upo _ _ _ (by omega), Option.bind_some, xlx_upo _ _ _ (by omega), Option.bind_some, xlx_up8, Option.bind_some]
  -- while WRONG
  have i1 : ¬ (1 : Int) = 0 := by decide
  have bad : ∀ (G' : xG_) (L : Nat → Int), L 7 ≠ -1 → ((g211 f (xlx G' L)).bind fun R153 => (if ¬ (R153.1) = 0 then g333_57 f R153.2 else (if ¬ (R153.2 0 2) = 0 then g333_57 f R153.2 else (some (-1, R153.2))))) = some (0, xlx G' L) := fun G' L hbad => by
    rw [l_bad, if_neg hbad, Option.bind_some]
    simp only [if_pos i1]
    unfold g333_57 g333_85
    have hb8 : g334 f (xlx G' L) = some (0, xlx G' L) := l_form_bad (f := f) (e := g334r f 7) (by omega) G' L hbad
    rw [hb8, Option.bind_some]
    show Option.bind (g211 f (xlx G' L)) _ = _
    rw [l_bad, if_neg hbad, Option.bind_some]
    simp only [if_pos i1]
  have fK : ∀ (G' : xG_) (L : Nat → Int) (c : Int), xff (xup2 (xup2 G2 0 90 c) 0 11 1) G' → xfK G (xlx G' L) := fun G' L c hx a j y1 y2 => by
    rw [xlx_o _ _ (by omega), hx _ _ (by omega) y2, xup2_n (by omega), xup2_n (by omega), z2 _ _ (by omega)]
  have h1 := l_cell (f := f) (by omega) hE2 b2
  have hpc : pCell (tstr (tBt t) t.length true) 0 = pCell (tstr (tBt t) t.length false) 0 := by
    unfold pCell
    rw [kK_lm (by decide)]
    rfl
  unfold qCt
  rw [hpc]
  cases hp : pCell (tstr (tBt t) t.length false) 0 with
  | inl w =>
    rw [hp] at h1
    have hbad : xu (xu L1 7 ((q : Int) + w)) 8 0 7 ≠ -1 := by show (q : Int) + w ≠ -1; omega
    refine ⟨0, xlx (xup2 (xup2 G2 0 90 0) 0 11 1) (xu (xu L1 7 ((q : Int) + w)) 8 0), ?_, rfl, fK _ _ 0 (.rf _)⟩
    rw [e0, h1.1, Option.bind_some]
    refine (st 0 _).trans ?_
    rw [l_need_bad hbad, Option.bind_some]
    exact bad _ _ hbad
  | inr c =>
    rw [hp] at h1
    obtain ⟨L2, u1, u2, u3, u4, u5⟩ := h1
    let G3 := xup2 (xup2 G2 0 90 c.1) 0 11 1
    have z3 : ∀ a j, ¬ (a = 0 ∧ (j = 90 ∨ j = 11)) → G3 a j = G2 a j := fun a j y => by
      show xup2 _ _ _ _ _ _ = _
      rw [xup2_n (by omega), xup2_n (by omega)]
    have hE3 : rEw G3 q (tBt t) t.length true := ⟨mkT G3 (by rw [z3 _ _ (by omega)]; exact z20) (by rw [z3 _ _ (by omega)]; exact z21) (fun j => by rw [z3 _ _ (by omega)]; exact z2 _ _ (by omega)), by rw [if_pos rfl]; exact xup2_s _ _ _ _, rCz G3 (fun j _ _ => by rw [z3 _ _ (by omega)]; exact z2 _ _ (by omega))⟩
    have hX3 : rYX G3 q (tBt t) t.length [] 0 := ⟨hE3, ⟨by rw [z3 _ _ (by omega)]; exact z89, fun j hj => absurd hj (Nat.not_lt_zero j)⟩, by rw [z3 _ _ (by omega)]; exact z25, Nat.zero_le _⟩
    have hA3 : rAt q (tBt t) t.length true c.2 (xu L2 8 0) := u2.lm (by omega)
    have z90 : G3 0 90 = c.1 := by
      show xup2 _ _ _ _ _ _ = _
      rw [xup2_n (by omega), xup2_s]
    have e1 : g333 f b q ((q : Int) + t.length) G = ((g222 f 61 (xlx G3 (xu L2 8 0))).bind fun R148 => ((g211 f R148).bind fun R153 => (if ¬ (R153.1) = 0 then g333_57 f R153.2 else (if ¬ (R153.2 0 2) = 0 then g333_57 f R153.2 else (some (-1, R153.2)))))) := by
      rw [e0, u1, Option.bind_some]
      exact st c.1 L2
    have h61 : isSg 61 := by unfold isSg; omega
    show pok (pbind (pNeed (tstr (tBt t) t.length true) 61 c.2) _) _ _
    unfold pNeed
    by_cases c1 : kK (tstr (tBt t) t.length true) c.2 = 61
    · obtain ⟨L4, s1, s2⟩ := l_need' (f := f) (by omega) hE3 hA3 h61 c1
      have s1' : g222 f 61 (xlx G3 (xu L2 8 0)) = _ := s1
      have tk4 := s2.tk hB
      have k0 : L4 2 = 0 ↔ kK (tstr (tBt t) t.length true) (c.2 + 1) = 0 := tk4.2.2.2.2.2.2.1
      have i0 : ¬ ¬ ((0 : Int) = 0) := fun q => q rfl
      rw [if_pos c1]
      show pok (if kK (tstr (tBt t) t.length true) (c.2 + 1) = 0 then _ else _) _ _
      have e2 : g333 f b q ((q : Int) + t.length) G = (if ¬ (L4 2) = 0 then g333_57 f (xlx G3 L4) else (some (-1, xlx G3 L4))) := by
        rw [e1, s1', Option.bind_some, l_bad, if_pos s2.1, Option.bind_some]
        simp only [xlx_2]
        rw [if_neg (fun q => q trivial)]
        rfl
      by_cases c2 : kK (tstr (tBt t) t.length true) (c.2 + 1) = 0
      · rw [if_pos c2]
        refine ⟨xlx G3 L4, ?_, s2.1, by rw [xlx_o _ _ (by omega)]; exact z90, u3, u4, ⟨by rw [xlx_o _ _ (by omega)]; exact hX3.2.1.1, fun j hj => absurd hj (Nat.not_lt_zero j)⟩, fun j hj => absurd hj (Nat.not_lt_zero j), .inl ⟨rfl, rfl⟩, Nat.zero_le _, fK _ _ c.1 (.rf _)⟩
        rw [e2, if_neg (fun q => q (k0.mpr c2))]
      · rw [if_neg c2]
        rw [if_pos (fun q => c2 (k0.mp q))] at e2
        have wnil : wFm [] := fun j hj => absurd hj (Nat.not_lt_zero j)
        have h2 := l_form (f := f) (q := q) (B := tBt t) (n := t.length) (by omega) 7 0 (Nat.zero_le _) (by decide) 255 G3 L4 [] (c.2 + 1) (by rw [if_pos rfl]; omega) hX3 s2 (by omega) (Nat.zero_le _) wnil
        have h2' : pok (pF (tstr (tBt t) t.length true) 255 1 0 ([], 0, c.2 + 1)) (rYW q (c.2 + 1) [] G3 (g334 f (xlx G3 L4))) (rYS q (tBt t) t.length 0 G3 (g334 f (xlx G3 L4))) := h2
        show pok (pbind (pF (tstr (tBt t) t.length true) 255 1 0 ([], 0, c.2 + 1)) _) _ _
        cases hp2 : pF (tstr (tBt t) t.length true) 255 1 0 ([], 0, c.2 + 1) with
        | inl w =>
          rw [hp2] at h2'
          obtain ⟨v, G5, L5, a1, a2, a3, a4⟩ := h2'
          have hbad : L5 7 ≠ -1 := by omega
          refine ⟨v, xlx G5 L5, ?_, a2, fK _ _ c.1 a3⟩
          rw [e2]
          unfold g333_57 g333_85
          rw [a1, Option.bind_some]
          show Option.bind (g211 f (xlx G5 L5)) _ = _
          rw [l_bad, if_neg hbad, Option.bind_some]
          simp only [if_pos i1]
        | inr y =>
          rw [hp2] at h2'
          obtain ⟨G5, L5, a1, a2, a3, a4, a5⟩ := h2'
          obtain ⟨p1, p2, p3, p4, p5, p6, p7⟩ := pF_le (tstr_ck hB) 255 1 0 _ y (by decide) hp2 wnil (fun q => absurd q (by decide))
          simp only [List.length_nil] at p1 p2 p3 p4
          have tk5 := a2.tk hB
          have k5 : L5 2 = 0 ↔ kK (tstr (tBt t) t.length true) y.2.2 = 0 := tk5.2.2.2.2.2.2.1
          have e3 : g333 f b q ((q : Int) + t.length) G = (if L5 2 = 0 then some (y.2.1, xlx G5 L5) else ((g210 f (L5 4) (xlx G5 L5)).bind fun R113 => some (y.2.1, R113))) := by
            rw [e2]
            unfold g333_57 g333_85
            rw [a1, Option.bind_some]
            show Option.bind (g211 f (xlx G5 L5)) _ = _
            rw [l_bad, if_pos a2.1, Option.bind_some]
            simp only [xlx_2, xlx_4]
            rw [if_neg (fun q => q trivial)]
            rfl
          show pok (if kK (tstr (tBt t) t.length true) y.2.2 = 0 then _ else _) _ _
          by_cases c3 : kK (tstr (tBt t) t.length true) y.2.2 = 0
          · rw [if_pos c3]
            refine ⟨xlx G5 L5, ?_, a2.1, ?_, u3, u4, ?_, p5, .inr ⟨p6, p7⟩, by show y.1.length ≤ 62; omega, fK _ _ c.1 a3⟩
            · rw [e3, if_pos (k5.mpr c3)]
            · rw [xlx_o _ _ (by omega), a3 _ _ (by omega) (by omega)]
              exact z90
            · exact a4.2.1.ge (xlx_o _ _ (by omega)) (fun a j _ _ => xlx_o _ _ (by omega))
          · rw [if_neg c3]
            refine ⟨y.2.1, xlx G5 (xu L5 7 (L5 4)), ?_, ?_, fK _ _ c.1 a3⟩
            · rw [e3, if_neg (fun q => c3 (k5.mp q)), l_fail, if_pos a2.1]
              rfl
            · show L5 4 = _
              exact tk5.1
    · rw [if_neg c1]
      have s1 := l_need_no' (f := f) hE3 hA3 h61 c1
      have s1' : g222 f 61 (xlx G3 (xu L2 8 0)) = _ := s1
      have hbad : xu (xu L2 8 0) 7 ((q : Int) + kS (tstr (tBt t) t.length true) c.2) 7 ≠ -1 := by show (q : Int) + kS (tstr (tBt t) t.length true) c.2 ≠ -1; omega
      refine ⟨0, xlx G3 (xu (xu L2 8 0) 7 ((q : Int) + kS (tstr (tBt t) t.length true) c.2)), ?_, rfl, fK _ _ c.1 (.rf _)⟩
      rw [e1, s1', Option.bind_some]
      exact bad _ _ hbad
end
end
section
/-! The SHEET: what a FORMULA is worth -/
/-- each CELL's kind (0 empty, 1 a value, 2 an ERROR) and its value -/
abbrev fCs : Type := Nat → Int × Int
abbrev fWo : Type := Int ⊕ Int
def ebind (x : fWo) (k : Int → fWo) : fWo := match x with
  | .inl e => .inl e
  | .inr v => k v
def eok (x : fWo) (P : Int → Prop) (Q : Int → Prop) : Prop := match x with
  | .inl e => P e
  | .inr v => Q v
abbrev fIn (x : Nat) (a b : Int) : Prop := (a % 6 ≤ (x : Int) % 6 ∧ (x : Int) % 6 ≤ b % 6) ∧ a / 6 ≤ (x : Int) / 6 ∧ (x : Int) / 6 ≤ b / 6
/-- over the CELLS from x on, k of them: the first ERROR, or sum and number -/
def fOc (C : fCs) (a b : Int) : Nat → Nat → Int → Int → Int ⊕ (Int × Int)
  | 0, _, v, n => .inr (v, n)
  | k + 1, x, v, n => if fIn x a b ∧ ¬ (C x).1 = 0 then (if (C x).1 = 2 then .inl (C x).2 else fOc C a b k (x + 1) (if 2000000000000 ≤ (C x).2 then v else v + (C x).2) (n + 1)) else fOc C a b k (x + 1) v n
def fBd (v : Int) : fWo := if 1000000000000 < v ∨ v < -1000000000000 then .inl 3 else .inr v
def fOv (C : fCs) (kd a b : Int) : fWo := match fOc C a b 72 0 0 0 with
  | .inl e => .inl e
  | .inr r => if kd = 5 then .inr r.2 else fBd r.1
/-- over rows -/
def fRl (kd : Int) (k : Nat) : List pRw → Nat → Int → Int
  | [], _, v => v
  | r :: R, i, v => fRl kd k R (i + 1) (if kd = 7 then v + (if 2000000000000 ≤ r.1.getD k 0 then 0 else r.1.getD k 0) else if i = 0 then r.1.getD k 0 else if kd = 8 then xmin v (r.1.getD k 0) else xmax v (r.1.getD k 0))
def fRo (s : pPg) (M : Nat → List pRw) (kd k x : Int) : fWo :=
  if pIdx s.1 x = -1 ∨ (qN s (pIdx s.1 x).toNat : Int) < k then .inl 4
  else if kd = 6 then .inr ((M (pIdx s.1 x).toNat).length : Int)
  else if kd = 7 then fBd (fRl kd (k - 1).toNat (M (pIdx s.1 x).toNat) 0 0)
  else .inr (fRl kd (k - 1).toNat (M (pIdx s.1 x).toNat) 0 0)
def fSg (op a b : Int) : fWo := if 2000000000000 ≤ a ∨ 2000000000000 ≤ b then .inl 2 else match qWk op a b with
  | none => .inl 3
  | some w => .inr w
def fCe (c : Int × Int) : fWo := if c.1 = 2 then .inl c.2 else if c.1 = 1 then .inr c.2 else .inr 0
/-- a node's worth -/
def fW (N : List pNd) (C : fCs) (s : pPg) (M : Nat → List pRw) : Nat → Nat → fWo
  | 0, _ => .inl 0
  | F + 1, i =>
    if (N.getD i dNd).1 = 1 then .inr (N.getD i dNd).2.2.2.2
    else if (N.getD i dNd).1 = 2 then fCe (C (N.getD i dNd).2.1.toNat)
    else if (N.getD i dNd).1 = 3 then ebind (fW N C s M F (N.getD i dNd).2.1.toNat) fun a => ebind (fW N C s M F (N.getD i dNd).2.2.1.toNat) fun b => fSg (N.getD i dNd).2.2.2.1 a b
    else if (N.getD i dNd).1 = 4 ∨ (N.getD i dNd).1 = 5 then fOv C (N.getD i dNd).1 (N.getD i dNd).2.1 (N.getD i dNd).2.2.1
    else if (N.getD i dNd).1 = 10 then ebind (fW N C s M F (N.getD i dNd).2.1.toNat) fun a => if a = 0 then fW N C s M F (N.getD i dNd).2.2.2.1.toNat else fW N C s M F (N.getD i dNd).2.2.1.toNat
    else fRo s M (N.getD i dNd).1 (N.getD i dNd).2.1 (N.getD i dNd).2.2.2.2
def okC (C : fCs) : Prop := ∀ x, x < 72 → ((C x).1 = 0 ∧ (C x).2 = 0) ∨ ((C x).1 = 1 ∧ vOk (C x).2) ∨ ((C x).1 = 2 ∧ 1 ≤ (C x).2 ∧ (C x).2 ≤ 4)
def okM (s : pPg) (M : Nat → List pRw) : Prop := ∀ p, p < s.1.length → ∀ r ∈ M p, ∀ x ∈ r.1, vOk x
/-- a worth is a value, or an ERROR -/
def okW (x : fWo) : Prop := eok x (fun e => 1 ≤ e ∧ e ≤ 4) vOk
def rCs (G : xG_) (o : Nat) (C : fCs) : Prop := ∀ x, x < 72 → G (o + 17) x = (C x).1 ∧ G (o + 20) x = (C x).2
/-- ERROR and isNone alone have changed -/
def xfE (G G' : xG_) : Prop := ∀ a j, ¬ (a = 0 ∧ (j = 91 ∨ j = 42)) → G' a j = G a j
/-- what an evaluation answers -/
def rWo (G : xG_) (r : Option (Int × xG_)) (x : fWo) : Prop := ∃ v G', r = some (v, G') ∧ xfE G G' ∧ eok x (fun e => G' 0 91 = e) (fun w => G' 0 91 = 0 ∧ v = w)
theorem fBd_ok (v : Int) : okW (fBd v) := by
  unfold fBd
  split
  · exact ⟨by decide, by decide⟩
  · show vOk v
    unfold vOk
    omega
theorem fSg_ok (op a b : Int) : okW (fSg op a b) := by
  unfold fSg
  split
  · exact ⟨by decide, by decide⟩
  · cases h : qWk op a b with
    | none => exact ⟨by decide, by decide⟩
    | some w => exact qWk_ok h
section
variable {f o : Nat} {G : xG_} {C : fCs}
theorem l_345 {x : Nat} {a b : Int} (hx : x < 72) (ha : 0 ≤ a ∧ a < 72) (hb : 0 ≤ b ∧ b < 72) : g345 f (x : Int) a b G = some (if fIn x a b then 1 else 0, G) := by
  have k1 := x6i (a := (x : Int)) (by omega) (by omega)
  have k2 := x6i ha.1 ha.2
  have k3 := x6i hb.1 hb.2
  unfold g345 g345_48 g345_49
  rw [k1.1, k1.2, k2.1, k2.2, k3.1, k3.2, if_pos (Or.inl rfl), if_pos (Or.inr rfl)]
  by_cases h : fIn x a b
  · rw [if_pos h]
    unfold fIn at h
    rw [if_neg (by omega), if_neg (by omega), if_neg (by omega), if_neg (by omega)]
  · rw [if_neg h]
    unfold fIn at h
    by_cases c1 : (x : Int) % 6 < a % 6
    · rw [if_pos c1]
    · rw [if_neg c1]
      by_cases c2 : b % 6 < (x : Int) % 6
      · rw [if_pos c2]
      · rw [if_neg c2]
        by_cases c3 : (x : Int) / 6 < a / 6
        · rw [if_pos c3]
        · rw [if_neg c3, if_pos (by omega)]
theorem fOc_ok (hC : okC C) {a b : Int} : ∀ (k x : Nat) (v n : Int), x + k = 72 → 0 ≤ n → n ≤ (x : Int) → (match fOc C a b k x v n with | .inl e => 1 ≤ e ∧ e ≤ 4 | .inr r => 0 ≤ r.2 ∧ r.2 ≤ 72)
  | 0, x, v, n, h1, h2, h3 => by
    show 0 ≤ n ∧ n ≤ 72
    omega
  | k + 1, x, v, n, h1, h2, h3 => by
    unfold fOc
    by_cases c : fIn x a b ∧ ¬ (C x).1 = 0
    · rw [if_pos c]
      by_cases d : (C x).1 = 2
      · rw [if_pos d]
        rcases hC x (by omega) with q | q | q
        · omega
        · omega
        · exact q.2
      · rw [if_neg d]
        exact fOc_ok hC k (x + 1) _ (n + 1) (by omega) (by omega) (by omega)
    · rw [if_neg c]
      exact fOc_ok hC k (x + 1) v n (by omega) (by omega) (by omega)
theorem l_352_8 {i : Nat} {a b kd : Int} (hC : okC C) (hr : rCs G o C) (hi : i < 140) (ha : 0 ≤ a ∧ a < 72) (hb : 0 ≤ b ∧ b < 72) (h1 : G 259 i = a) (h2 : G 260 i = b) (h3 : G 258 i = kd) (hk : kd = 4 ∨ kd = 5) (h0 : G 0 91 = 0) : ∀ (k x fu : Nat) (v : Int) (n : Nat), x + k = 72 → k < fu → n ≤ x → -1000000000000 * (x : Int) ≤ v → v ≤ 1000000000000 * (x : Int) →
    rWo G (g352_8 f fu o (i : Int) v (n : Int) (x : Int) G) (match fOc C a b k x v (n : Int) with | .inl e => .inl e | .inr r => if kd = 5 then .inr r.2 else fBd r.1) := by
  intro k
  induction k with
  | zero =>
    intro x fu v n y1 y2 y3 y4 y5
    obtain ⟨fu, rfl⟩ : ∃ t, fu = t + 1 := ⟨fu - 1, by omega⟩
    have hx : x = 72 := by omega
    subst hx
    show rWo G (g352_8b (g352_8 f fu) f o (i : Int) v (n : Int) ((72 : Nat) : Int) G) (if kd = 5 then .inr (n : Int) else fBd v)
    unfold g352_8b g352_135 g352_140
    rw [if_pos (by omega), if_pos (by omega), Int.toNat_natCast, h3]
    by_cases c : kd = 5
    · rw [if_neg (fun q => q c), if_pos c]
      exact ⟨_, _, rfl, fun _ _ _ => rfl, h0, rfl⟩
    · rw [if_pos c, if_neg c]
      unfold fBd
      by_cases c1 : 1000000000000 < v
      · rw [if_pos c1, if_pos (Or.inl c1)]
        exact ⟨v, _, rfl, fun a j q => xup2_n (by omega), xup2_s _ _ _ _⟩
      · rw [if_neg c1]
        by_cases c2 : -1000000000000 ≤ v
        · rw [if_pos c2, if_neg (by omega)]
          exact ⟨v, _, rfl, fun _ _ _ => rfl, h0, rfl⟩
        · rw [if_neg c2, if_pos (by omega)]
          exact ⟨v, _, rfl, fun a j q => xup2_n (by omega), xup2_s _ _ _ _⟩
  | succ k ih =>
    intro x fu v n y1 y2 y3 y4 y5
    obtain ⟨fu, rfl⟩ : ∃ t, fu = t + 1 := ⟨fu - 1, by omega⟩
    have hx : x < 72 := by omega
    have e : xwr ((x : Int) + 1) = ((x + 1 : Nat) : Int) := by rw [xwr_g _ (by omega) (by omega)]; omega
    have en : xwr ((n : Int) + 1) = ((n + 1 : Nat) : Int) := by rw [xwr_g _ (by omega) (by omega)]; omega
    obtain ⟨r1, r2⟩ := hr x hx
    have hx2 : 0 ≤ (x : Int) ∧ (x : Int) < 72 := by omega
    have hi2 : 0 ≤ (i : Int) ∧ (i : Int) < 140 := by omega
    have hc := hC x hx
    show rWo G (g352_8b (g352_8 f fu) f o (i : Int) v (n : Int) (x : Int) G) _
    unfold g352_8b g352_99 fOc
    rw [if_neg (by omega), if_pos hi2, if_pos hi2, Int.toNat_natCast, h1, h2, l_345 hx ha hb, Option.bind_some]
    by_cases c : fIn x a b
    · have s1 : ¬ ((if fIn x a b then (1 : Int) else 0, G) : Int × xG_).1 = 0 := by
        rw [if_pos c]; show ¬ (1 : Int) = 0; decide
      rw [if_neg s1, if_pos hx2]
      simp only [Int.toNat_natCast]
      rw [r1]
      by_cases c0 : (C x).1 = 0
      · have cn : ¬ (fIn x a b ∧ ¬ (C x).1 = 0) := fun q => q.2 c0
        have nn : ¬ ¬ (C x).1 = 0 := fun q => q c0
        rw [if_neg nn, if_neg cn, e]
        exact ih (x + 1) fu v n (by omega) (by omega) (by omega) (by omega) (by omega)
      · have cc : fIn x a b ∧ ¬ (C x).1 = 0 := ⟨c, c0⟩
        rw [if_pos c0, if_pos hx2, if_pos cc]
        by_cases c2 : (C x).1 = 2
        · have nn : ¬ ¬ (C x).1 = 2 := fun q => q c2
          rw [if_neg nn, if_pos hx2, if_pos c2, r2]
          have hv : 1 ≤ (C x).2 ∧ (C x).2 ≤ 4 := by
            rcases hc with q | q | q
            · omega
            · omega
            · exact q.2
          rw [xwr_g _ (by omega) (by omega)]
          exact ⟨_, _, rfl, fun a j q => xup2_n (by omega), xup2_s _ _ _ _⟩
        · have hv : vOk (C x).2 := by
            rcases hc with q | q | q
            · exact absurd q.1 c0
            · exact q.2
            · exact absurd q.1 c2
          unfold vOk at hv
          rw [if_pos c2, if_pos hx2, if_neg c2, r2, l_267, Option.bind_some]
          by_cases c3 : (C x).2 < 2000000000000
          · have s3 : ¬ ¬ ((if (C x).2 < 2000000000000 then (0 : Int) else 1, G) : Int × xG_).1 = 0 := by
              rw [if_pos c3]; exact fun q => q rfl
            rw [if_neg s3, if_pos hx2]
            simp only [Int.toNat_natCast]
            rw [r2, xwl_g _ (by omega) (by omega), en, e, if_neg (by omega : ¬ 2000000000000 ≤ (C x).2)]
            exact ih (x + 1) fu _ (n + 1) (by omega) (by omega) (by omega) (by omega) (by omega)
          · have s3 : ¬ ((if (C x).2 < 2000000000000 then (0 : Int) else 1, G) : Int × xG_).1 = 0 := by
              rw [if_neg c3]; show ¬ (1 : Int) = 0; decide
            rw [if_pos s3, en, e, if_pos (by omega : 2000000000000 ≤ (C x).2)]
            exact ih (x + 1) fu _ (n + 1) (by omega) (by omega) (by omega) (by omega) (by omega)
    · have s1 : ((if fIn x a b then (1 : Int) else 0, G) : Int × xG_).1 = 0 := by
        rw [if_neg c]
      have cn : ¬ (fIn x a b ∧ ¬ (C x).1 = 0) := fun q => c q.1
      rw [if_pos s1, if_neg cn, e]
      exact ih (x + 1) fu v n (by omega) (by omega) (by omega) (by omega) (by omega)
theorem l_352 {i : Nat} {a b kd : Int} (hf : 100 < f) (hC : okC C) (hr : rCs G o C) (hi : i < 140) (ha : 0 ≤ a ∧ a < 72) (hb : 0 ≤ b ∧ b < 72) (h1 : G 259 i = a) (h2 : G 260 i = b) (h3 : G 258 i = kd) (hk : kd = 4 ∨ kd = 5) (h0 : G 0 91 = 0) :
    rWo G (g352 f o (i : Int) G) (fOv C kd a b) := by
  have := l_352_8 (f := f) hC hr hi ha hb h1 h2 h3 hk h0 72 0 f 0 0 rfl (by omega) (by omega) (by decide) (by decide)
  exact this
theorem fOv_ok {kd a b : Int} (hC : okC C) : okW (fOv C kd a b) := by
  have h := fOc_ok hC (a := a) (b := b) 72 0 0 0 rfl (by decide) (by decide)
  unfold fOv
  cases hh : fOc C a b 72 0 0 0 with
  | inl e => rw [hh] at h; exact h
  | inr r =>
    rw [hh] at h
    show okW (if kd = 5 then .inr r.2 else fBd r.1)
    split
    · show vOk r.2
      have h' : 0 ≤ r.2 ∧ r.2 ≤ 72 := h
      unfold vOk
      omega
    · exact fBd_ok _
theorem l_351 {op a b : Int} (hop : wSg op) (ha : vOk a) (hb : vOk b) (h0 : G 0 91 = 0) : rWo G (g351 f op a b G) (fSg op a b) := by
  have w2 : (2000000000000 ≤ a ∨ 2000000000000 ≤ b) → fSg op a b = .inl 2 := fun q => by
    unfold fSg
    rw [if_pos q]
  have bad : rWo G (some (0, xup2 G 0 91 2)) (.inl 2) := ⟨_, _, rfl, fun a j q => xup2_n (by omega), xup2_s _ _ _ _⟩
  unfold g351 g351_15 g351_49
  rw [l_267, Option.bind_some]
  by_cases c1 : a < 2000000000000
  · have s1 : ¬ ¬ ((if a < 2000000000000 then (0 : Int) else 1, G) : Int × xG_).1 = 0 := by
      rw [if_pos c1]; exact fun q => q rfl
    rw [if_neg s1, l_267, Option.bind_some]
    by_cases c2 : b < 2000000000000
    · have s2 : ((if b < 2000000000000 then (0 : Int) else 1, G) : Int × xG_).1 = 0 := by
        rw [if_pos c2]
      have cs : ¬ (2000000000000 ≤ a ∨ 2000000000000 ≤ b) := by omega
      obtain ⟨v, k1, k2⟩ := l_268 (f := f) (G := xup2 G 0 42 0) hop ha hb
      rw [if_pos s2, Option.bind_some, k1, Option.bind_some]
      unfold fSg
      rw [if_neg cs]
      simp only [xup2_s]
      cases hq : qWk op a b with
      | none =>
        show rWo G (if (1 : Int) = 0 then _ else _) (.inl 3)
        rw [if_neg (by decide)]
        exact ⟨v, _, rfl, fun a j q => by
          rw [xup2_n (by omega), xup2_n (by omega), xup2_n (by omega)], xup2_s _ _ _ _⟩
      | some w =>
        show rWo G (if (0 : Int) = 0 then _ else _) (.inr w)
        rw [if_pos rfl]
        refine ⟨v, _, rfl, fun a j q => ?_, ?_, k2 w hq⟩
        · rw [xup2_n (by omega), xup2_n (by omega)]
        · rw [xup2_n (by omega), xup2_n (by omega)]
          exact h0
    · have s2 : ¬ ((if b < 2000000000000 then (0 : Int) else 1, G) : Int × xG_).1 = 0 := by
        rw [if_neg c2]; show ¬ (1 : Int) = 0; decide
      rw [if_neg s2, w2 (by omega)]
      exact bad
  · have s1 : ¬ ((if a < 2000000000000 then (0 : Int) else 1, G) : Int × xG_).1 = 0 := by
      rw [if_neg c1]; show ¬ (1 : Int) = 0; decide
    rw [if_pos s1, w2 (by omega)]
    exact bad
end
end
section
/-! What a FORMULA is worth: over rows, and whole -/
section
variable {f o : Nat} {G : xG_} {C : fCs} {s : pPg} {M : Nat → List pRw}
theorem xmin_ok {a b : Int} (ha : vOk a) (hb : vOk b) : vOk (xmin a b) := by
  unfold xmin
  split
  · exact hb
  · exact ha
theorem xmax_ok {a b : Int} (ha : vOk a) (hb : vOk b) : vOk (xmax a b) := by
  unfold xmax
  split
  · exact hb
  · exact ha
theorem fRl_ok {kd : Int} {k : Nat} (hk : kd ≠ 7) : ∀ (R : List pRw) (i : Nat) (v : Int), vOk v → (∀ r ∈ R, vOk (r.1.getD k 0)) → vOk (fRl kd k R i v)
  | [], _, _, hv, _ => hv
  | r :: R, i, v, hv, hR => by
    unfold fRl
    rw [if_neg hk]
    have h1 := hR r (List.mem_cons_self ..)
    refine fRl_ok hk R (i + 1) _ ?_ (fun r' h => hR r' (List.mem_cons_of_mem _ h))
    split
    · exact h1
    · split
      · exact xmin_ok hv h1
      · exact xmax_ok hv h1
theorem getD_vok {L : List Int} {k : Nat} (h : ∀ x ∈ L, vOk x) : vOk (L.getD k 0) := by
  by_cases c : k < L.length
  · have e : L.getD k 0 = L[k] := by rw [List.getD_eq_getElem?_getD, List.getElem?_eq_getElem c]; rfl
    rw [e]
    exact h _ (List.getElem_mem c)
  · have e : L.getD k 0 = 0 := by rw [List.getD_eq_getElem?_getD, List.getElem?_eq_none (by omega)]; rfl
    rw [e]
    unfold vOk
    omega
theorem fRo_ok {kd k x : Int} (hM : okM s M) (hl : ∀ p, p < s.1.length → (M p).length ≤ 520) : okW (fRo s M kd k x) := by
  unfold fRo
  split
  · exact ⟨by decide, by decide⟩
  · rename_i c
    have hp := pIdx_in s.1 x
    have hp2 : (pIdx s.1 x).toNat < s.1.length := by omega
    split
    · show vOk _
      have := hl _ hp2
      unfold vOk
      omega
    · split
      · exact fBd_ok _
      · rename_i c7
        exact fRl_ok c7 _ _ _ (by unfold vOk; omega) (fun r hr => getD_vok (hM _ hp2 r hr))
theorem drop_step {R : List pRw} {x : Nat} (h : x < R.length) : R.drop x = R.getD x dRw :: R.drop (x + 1) := by
  rw [List.drop_eq_getElem_cons h]
  congr 1
  rw [List.getD_eq_getElem?_getD, List.getElem?_eq_getElem h]
  rfl
theorem l_353_73 {i p k n : Nat} {kd : Int} {R : List pRw} (hR : rRw G p n R) (hM : ∀ r ∈ R, ∀ x ∈ r.1, vOk x) (hp : p < 16) (hk : k < 4) (hi : i < 140) (h3 : G 258 i = kd) (h0 : G 0 91 = 0) : ∀ (d x fu : Nat) (v : Int), x + d = R.length → d < fu → (kd = 7 → -1000000000000 * (x : Int) ≤ v ∧ v ≤ 1000000000000 * (x : Int)) →
    rWo G (g353_73 f fu (i : Int) (p : Int) (k : Int) v (x : Int) G) (if kd = 7 then fBd (fRl kd k (R.drop x) x v) else .inr (fRl kd k (R.drop x) x v)) := by
  obtain ⟨a1, a2, a3⟩ := hR
  intro d
  induction d with
  | zero =>
    intro x fu v y1 y2 y3
    obtain ⟨fu, rfl⟩ : ∃ t, fu = t + 1 := ⟨fu - 1, by omega⟩
    rw [List.drop_eq_nil_of_le (by omega)]
    show rWo G (g353_73b (g353_73 f fu) f (i : Int) (p : Int) (k : Int) v (x : Int) G) (if kd = 7 then fBd v else .inr v)
    unfold g353_73b g353_213 g353_208
    rw [if_pos (by omega), Int.toNat_natCast, a1, if_pos (by omega), if_pos (by omega), Int.toNat_natCast, h3]
    by_cases c : kd = 7
    · rw [if_neg (fun q => q c), if_pos c]
      unfold fBd
      by_cases c1 : 1000000000000 < v
      · rw [if_pos c1, if_pos (Or.inl c1)]
        exact ⟨v, _, rfl, fun a j q => xup2_n (by omega), xup2_s _ _ _ _⟩
      · rw [if_neg c1]
        by_cases c2 : -1000000000000 ≤ v
        · rw [if_pos c2, if_neg (by omega)]
          exact ⟨v, _, rfl, fun _ _ _ => rfl, h0, rfl⟩
        · rw [if_neg c2, if_pos (by omega)]
          exact ⟨v, _, rfl, fun a j q => xup2_n (by omega), xup2_s _ _ _ _⟩
    · rw [if_pos c, if_neg c]
      exact ⟨v, _, rfl, fun _ _ _ => rfl, h0, rfl⟩
  | succ d ih =>
    intro x fu v y1 y2 y3
    obtain ⟨fu, rfl⟩ : ∃ t, fu = t + 1 := ⟨fu - 1, by omega⟩
    have hx : x < R.length := by omega
    obtain ⟨b1, b2, b3⟩ := a3 x hx
    have e : xwr ((x : Int) + 1) = ((x + 1 : Nat) : Int) := by rw [xwr_g _ (by omega) (by omega)]; omega
    have e2 : xwr ((((p * 520 + x) * 4 : Nat) : Int) + (k : Int)) = (((p * 520 + x) * 4 + k : Nat) : Int) := by rw [xwr_g _ (by omega) (by omega)]; omega
    have hi2 : 0 ≤ (i : Int) ∧ (i : Int) < 140 := by omega
    have hm : R.getD x dRw ∈ R := by
      have e : R.getD x dRw = R[x] := by rw [List.getD_eq_getElem?_getD, List.getElem?_eq_getElem hx]; rfl
      rw [e]
      exact List.getElem_mem hx
    have hv : vOk ((R.getD x dRw).1.getD k 0) := getD_vok (hM _ hm)
    have g7 := b2 k hk
    rw [drop_step hx]
    show rWo G (g353_73b (g353_73 f fu) f (i : Int) (p : Int) (k : Int) v (x : Int) G) _
    unfold g353_73b g353_127 g353_171 g353_173 fRl
    generalize (R.getD x dRw).1.getD k 0 = w at hv g7 ⊢
    rw [if_pos (by omega), Int.toNat_natCast, a1, if_neg (by omega), l_261 hp (by omega), Option.bind_some]
    simp only [e2]
    rw [if_pos (by omega), if_pos hi2, Int.toNat_natCast, Int.toNat_natCast, h3, g7]
    by_cases c : kd = 7
    · unfold vOk at hv
      have y4 := y3 c
      rw [if_neg (fun q => q c), l_267, Option.bind_some, if_pos c, if_pos c]
      have ih' := fun (v' : Int) (q : -1000000000000 * ((x + 1 : Nat) : Int) ≤ v' ∧ v' ≤ 1000000000000 * ((x + 1 : Nat) : Int)) => ih (x + 1) fu v' (by omega) (by omega) (fun _ => q)
      simp only [if_pos c] at ih'
      by_cases c3 : w < 2000000000000
      · have s3 : ((if w < 2000000000000 then (0 : Int) else 1, G) : Int × xG_).1 = 0 := by
          rw [if_pos c3]
        rw [if_pos s3, xwl_g _ (by omega) (by omega), e, if_neg (by omega : ¬ 2000000000000 ≤ w)]
        exact ih' (v + w) (by omega)
      · have s3 : ¬ ((if w < 2000000000000 then (0 : Int) else 1, G) : Int × xG_).1 = 0 := by
          rw [if_neg c3]; show ¬ (1 : Int) = 0; decide
        rw [if_neg s3, xwl_g _ (by omega) (by omega), e, if_pos (by omega : 2000000000000 ≤ w)]
        exact ih' (v + 0) (by omega)
    · have ih' := fun (v' : Int) => ih (x + 1) fu v' (by omega) (by omega) (fun q => absurd q c)
      simp only [if_neg c] at ih'
      rw [if_pos c, if_neg c, if_neg c]
      by_cases c0 : x = 0
      · rw [if_neg (by omega), if_pos c0, e]
        exact ih' w
      · rw [if_pos (by omega), if_neg c0, if_pos hi2]
        by_cases c8 : kd = 8
        · rw [if_neg (fun q => q c8), if_pos c8, e]
          exact ih' _
        · rw [if_pos c8, if_neg c8, e]
          exact ih' _
theorem l_353 {i : Nat} {kd k x : Int} (hf : 600 < f) (hN : rNs G 2 s.1) (hn : rPn G 2 s) (hn2 : ∀ p, p < s.1.length → 0 ≤ pNn s.2.2.2.1 (p : Int)) (hT : rTb G s.1.length (qN s) M) (hM : okM s M) (hi : i < 140) (h1 : G 259 i = k) (h3 : G 258 i = kd) (h4 : G 262 i = x) (hk : kd = 6 ∧ k = 0 ∨ 7 ≤ kd ∧ kd ≤ 9 ∧ 1 ≤ k ∧ k ≤ 4) (h0 : G 0 91 = 0) :
    rWo G (g353 f (i : Int) G) (fRo s M kd k x) := by
  have hi2 : 0 ≤ (i : Int) ∧ (i : Int) < 140 := by omega
  have hk2 : 0 ≤ k ∧ k ≤ 4 := by omega
  unfold g353 g353_41 fRo
  rw [if_pos hi2, Int.toNat_natCast, h4, hN.idx (by decide) (by omega), Option.bind_some, if_pos hi2]
  simp only []
  by_cases c : pIdx s.1 x = -1
  · rw [if_pos c, if_pos (Or.inl c)]
    exact ⟨_, _, rfl, fun a j q => xup2_n (by omega), xup2_s _ _ _ _⟩
  · have hp := pIdx_in s.1 x
    have hl := hN.2.1
    obtain ⟨p, hpe⟩ : ∃ p : Nat, pIdx s.1 x = (p : Int) := ⟨(pIdx s.1 x).toNat, by omega⟩
    rw [hpe] at hp c ⊢
    have hp2 : p < s.1.length := by omega
    have hq : (qN s p : Int) = pNn s.2.2.2.1 (p : Int) := by
      have := hn2 p hp2
      unfold qN
      omega
    have g2 : G (2 + 2) p = (qN s p : Int) := by rw [hq]; exact hn p hp2
    obtain ⟨t1, t2⟩ := hT p hp2
    rw [if_neg c, if_pos (by omega), Int.toNat_natCast, h1, g2, xwr_g _ (by omega) (by omega), h3]
    by_cases c2 : (qN s p : Int) < k
    · rw [if_neg (by omega), if_pos (Or.inr c2)]
      exact ⟨_, _, rfl, fun a j q => xup2_n (by omega), xup2_s _ _ _ _⟩
    · have cn : ¬ ((p : Int) = -1 ∨ (qN s p : Int) < k) := by omega
      rw [if_pos (by omega : k - 1 < (qN s p : Int)), if_neg cn, if_pos hi2]
      by_cases c6 : kd = 6
      · rw [if_neg (fun q => q c6), if_pos c6, if_pos (by omega)]
        exact ⟨_, _, rfl, fun _ _ _ => rfl, h0, t1.1⟩
      · rw [if_pos c6, if_neg c6]
        obtain ⟨k', hk'⟩ : ∃ k' : Nat, k - 1 = (k' : Int) := ⟨(k - 1).toNat, by omega⟩
        rw [hk', Int.toNat_natCast]
        have := l_353_73 (f := f) (k := k') t1 (hM p hp2) (by omega) (by omega) hi h3 h0 (M p).length 0 f 0 (by omega) (by have := t1.2.1; omega) (fun _ => by omega)
        rw [List.drop_zero] at this
        exact this
/-- the worth of a node does not hang on turns -/
theorem fW_f {N : List pNd} (hN : wFm N) : ∀ (n i m : Nat), i < n → i < m → i < N.length → fW N C s M n i = fW N C s M m i := by
  intro n
  induction n with
  | zero => intro i m h; omega
  | succ n ih =>
    intro i m h1 h2 h3
    obtain ⟨m, rfl⟩ : ∃ t, m = t + 1 := ⟨m - 1, by omega⟩
    have hw := hN i h3
    unfold wNd at hw
    unfold fW
    by_cases c1 : (N.getD i dNd).1 = 1
    · rw [if_pos c1, if_pos c1]
    · rw [if_neg c1, if_neg c1]
      by_cases c2 : (N.getD i dNd).1 = 2
      · rw [if_pos c2, if_pos c2]
      · rw [if_neg c2, if_neg c2]
        by_cases c3 : (N.getD i dNd).1 = 3
        · have q : (0 ≤ (N.getD i dNd).2.1 ∧ (N.getD i dNd).2.1 < i) ∧ (0 ≤ (N.getD i dNd).2.2.1 ∧ (N.getD i dNd).2.2.1 < i) := by
            clear ih
            rcases hw with q | q | q | q | q | q
            · omega
            · omega
            · exact ⟨q.2.1, q.2.2.1⟩
            · omega
            · omega
            · omega
          rw [if_pos c3, if_pos c3, ih _ m (by omega) (by omega) (by omega), ih _ m (by omega) (by omega) (by omega)]
        · rw [if_neg c3, if_neg c3]
          by_cases c4 : (N.getD i dNd).1 = 4 ∨ (N.getD i dNd).1 = 5
          · rw [if_pos c4, if_pos c4]
          · rw [if_neg c4, if_neg c4]
            by_cases c5 : (N.getD i dNd).1 = 10
            · have q : (0 ≤ (N.getD i dNd).2.1 ∧ (N.getD i dNd).2.1 < i) ∧ (0 ≤ (N.getD i dNd).2.2.1 ∧ (N.getD i dNd).2.2.1 < i) ∧ 0 ≤ (N.getD i dNd).2.2.2.1 ∧ (N.getD i dNd).2.2.2.1 < i := by
                clear ih
                rcases hw with q | q | q | q | q | q
                · omega
                · omega
                · omega
                · omega
                · omega
                · exact q.2
              rw [if_pos c5, if_pos c5, ih _ m (by omega) (by omega) (by omega), ih _ m (by omega) (by omega) (by omega), ih _ m (by omega) (by omega) (by omega)]
            · rw [if_neg c5, if_neg c5]
theorem ebind_ok {x : fWo} {k : Int → fWo} (h1 : okW x) (h2 : ∀ v, vOk v → okW (k v)) : okW (ebind x k) := by
  cases x with
  | inl e => exact h1
  | inr v => exact h2 v h1
theorem fW_ok {N : List pNd} (hN : wFm N) (hC : okC C) (hM : okM s M) (hl : ∀ p, p < s.1.length → (M p).length ≤ 520) : ∀ (n i : Nat), i < n → i < N.length → okW (fW N C s M n i) := by
  intro n
  induction n with
  | zero => intro i h; omega
  | succ n ih =>
    intro i h1 h3
    have hw := hN i h3
    unfold wNd at hw
    unfold fW
    split
    · rename_i c
      rcases hw with q | q | q | q | q | q
      · exact q.2
      · omega
      · omega
      · omega
      · omega
      · omega
    · rename_i c1
      split
      · rename_i c2
        have q : 0 ≤ (N.getD i dNd).2.1 ∧ (N.getD i dNd).2.1 < 72 := by
          clear ih
          rcases hw with q | q | q | q | q | q
          · omega
          · exact q.2
          · omega
          · omega
          · omega
          · omega
        unfold fCe
        rcases hC (N.getD i dNd).2.1.toNat (by omega) with u | u | u
        · rw [if_neg (by omega), if_neg (by omega)]
          show vOk 0
          unfold vOk
          omega
        · rw [if_neg (by omega), if_pos u.1]
          exact u.2
        · rw [if_pos u.1]
          exact u.2
      · rename_i c2
        split
        · rename_i c3
          have q : (0 ≤ (N.getD i dNd).2.1 ∧ (N.getD i dNd).2.1 < i) ∧ (0 ≤ (N.getD i dNd).2.2.1 ∧ (N.getD i dNd).2.2.1 < i) := by
            clear ih
            rcases hw with q | q | q | q | q | q
            · omega
            · omega
            · exact ⟨q.2.1, q.2.2.1⟩
            · omega
            · omega
            · omega
          exact ebind_ok (ih _ (by omega) (by omega)) (fun a _ => ebind_ok (ih _ (by omega) (by omega)) (fun b _ => fSg_ok _ _ _))
        · rename_i c3
          split
          · exact fOv_ok hC
          · split
            · rename_i c5
              have q : (0 ≤ (N.getD i dNd).2.1 ∧ (N.getD i dNd).2.1 < i) ∧ (0 ≤ (N.getD i dNd).2.2.1 ∧ (N.getD i dNd).2.2.1 < i) ∧ 0 ≤ (N.getD i dNd).2.2.2.1 ∧ (N.getD i dNd).2.2.2.1 < i := by
                clear ih
                rcases hw with q | q | q | q | q | q
                · omega
                · omega
                · omega
                · omega
                · omega
                · exact q.2
              refine ebind_ok (ih _ (by omega) (by omega)) (fun a _ => ?_)
              split
              · exact ih _ (by omega) (by omega)
              · exact ih _ (by omega) (by omega)
            · exact fRo_ok hM hl
end
end
section
/-! What a FORMULA is worth: the reference says so -/
section
variable {f o : Nat} {G : xG_} {C : fCs} {s : pPg} {M : Nat → List pRw} {N : List pNd}
def eFm (G : xG_) (o : Nat) (N : List pNd) (C : fCs) (s : pPg) (M : Nat → List pRw) : Prop := rNd G N ∧ rCs G o C ∧ rNs G 2 s.1 ∧ rPn G 2 s ∧ rTb G s.1.length (qN s) M
theorem rNs.ge' {G' : xG_} {o : Nat} {L : List Int} (h : rNs G o L) (h0 : G' o 8 = G o 8) (h1 : ∀ j, G' (o + 1) j = G (o + 1) j) : rNs G' o L := ⟨by rw [h0]; exact h.1, h.2.1, fun k hk => by rw [h1]; exact h.2.2 k hk⟩
theorem eFm.ge {G' : xG_} (h : eFm G o N C s M) (ho : 0 < o) (hf : xfE G G') : eFm G' o N C s M := by
  obtain ⟨a1, a2, a3, a4, a5⟩ := h
  exact ⟨a1.ge (hf _ _ (by omega)) (fun a j _ _ => hf _ _ (by omega)), fun x hx => by rw [hf _ _ (by omega), hf _ _ (by omega)]; exact a2 x hx, a3.ge' (hf _ _ (by omega)) (fun j => hf _ _ (by omega)), fun y hy => by rw [hf _ _ (by omega)]; exact a4 y hy, a5.ge (fun a j _ _ => hf _ _ (by omega))⟩
theorem xfE.tr {G1 G2 : xG_} (h1 : xfE G G1) (h2 : xfE G1 G2) : xfE G G2 := fun a j q => (h2 a j q).trans (h1 a j q)
theorem l_350r (hf : 600 < f) (ho : 0 < o) (hN : wFm N) (hl : N.length ≤ 62) (hC : okC C) (hM : okM s M) (hn2 : ∀ p, p < s.1.length → 0 ≤ pNn s.2.2.2.1 (p : Int)) : ∀ (n i : Nat) (G : xG_), i < n → i < N.length → eFm G o N C s M → G 0 91 = 0 →
    rWo G (g350r f n o (i : Int) G) (fW N C s M n i) := by
  intro n
  induction n with
  | zero => intro i G h; omega
  | succ n ih =>
    intro i G h1 h2 he h0
    obtain ⟨e1, e2, e3, e4, e5⟩ := he
    obtain ⟨n1, n2, n3, n4, n5⟩ := e1.2 i h2
    have hl5 : ∀ p, p < s.1.length → (M p).length ≤ 520 := fun p hp => (e5 p hp).1.2.1
    have hi2 : 0 ≤ (i : Int) ∧ (i : Int) < 140 := by omega
    have hw := hN i h2
    have hok := fun j (hj : j < n) (hj2 : j < N.length) => fW_ok hN hC hM hl5 n j hj hj2
    have go : ∀ {G' : xG_}, xfE G G' → ∀ j, j < i → G' 0 91 = 0 → rWo G' (g350r f n o (j : Int) G') (fW N C s M n j) := fun hx j hj h0' => ih j _ (by omega) (by omega) (eFm.ge ⟨e1, e2, e3, e4, e5⟩ ho hx) h0'
    clear ih
    show rWo G (g350b (g350r f n) f o (i : Int) G) (fW N C s M (n + 1) i)
    unfold g350b fW
    unfold wNd at hw
    rw [if_pos hi2, Int.toNat_natCast, n1]
    generalize hy : N.getD i dNd = y at *
    have hk : 1 ≤ y.1 ∧ y.1 ≤ 10 := by
      clear go hok
      omega
    rw [if_neg (by omega)]
    by_cases c1 : y.1 = 1
    · rw [if_pos c1, if_pos c1, if_pos hi2, n5]
      exact ⟨_, _, rfl, fun _ _ _ => rfl, h0, rfl⟩
    rw [if_neg c1, if_neg c1]
    by_cases c2 : y.1 = 2
    · have q : 0 ≤ y.2.1 ∧ y.2.1 < 72 := by
        clear go hok
        omega
      obtain ⟨c, hc⟩ : ∃ c : Nat, y.2.1 = (c : Int) := ⟨y.2.1.toNat, by omega⟩
      obtain ⟨r1, r2⟩ := e2 c (by omega)
      rw [if_pos c2, if_pos c2, if_pos hi2]
      unfold g350_98 g350_128 fCe
      rw [n2, if_pos q, hc, Int.toNat_natCast, r1]
      by_cases d2 : (C c).1 = 2
      · have hv : 1 ≤ (C c).2 ∧ (C c).2 ≤ 4 := by
          rcases hC c (by omega) with u | u | u
          · omega
          · omega
          · exact u.2
        have s1 : ∀ a j, ¬ (a = 0 ∧ j = 91) → xup2 G 0 91 (C c).2 a j = G a j := fun a j q => xup2_n (by omega)
        rw [if_neg (fun q => q d2), if_pos hi2, if_pos (by omega), if_pos d2, r2, xwr_g _ (by omega) (by omega), Option.bind_some, if_pos hi2]
        rw [s1 _ _ (by omega), Int.toNat_natCast, n2, hc, if_pos (by omega), Int.toNat_natCast, s1 _ _ (by omega), r1, if_pos (by omega)]
        exact ⟨_, _, rfl, fun a j q => xup2_n (by omega), xup2_s _ _ _ _⟩
      · rw [if_pos d2, if_pos hi2, if_neg d2, Int.toNat_natCast, n2, hc, if_pos (by omega), Int.toNat_natCast, r1]
        by_cases d1 : (C c).1 = 1
        · rw [if_neg (fun q => q d1), if_pos hi2, if_pos (by omega), if_pos d1, r2]
          exact ⟨_, _, rfl, fun _ _ _ => rfl, h0, rfl⟩
        · rw [if_pos d1, if_neg d1]
          exact ⟨_, _, rfl, fun _ _ _ => rfl, h0, rfl⟩
    rw [if_neg c2, if_neg c2]
    by_cases c3 : y.1 = 3
    · have q : (0 ≤ y.2.1 ∧ y.2.1 < i) ∧ (0 ≤ y.2.2.1 ∧ y.2.2.1 < i) ∧ (y.2.2.2.1 = 42 ∨ y.2.2.2.1 = 47 ∨ y.2.2.2.1 = 37 ∨ y.2.2.2.1 = 43 ∨ y.2.2.2.1 = 45) := by
        clear go hok
        rcases hw with q | q | q | q | q | q
        · omega
        · omega
        · exact q.2
        · omega
        · omega
        · omega
      obtain ⟨⟨q1, q2⟩, ⟨q3, q4⟩, q5⟩ := q
      obtain ⟨a, ha⟩ : ∃ a : Nat, y.2.1 = (a : Int) := ⟨y.2.1.toNat, by omega⟩
      obtain ⟨b, hb⟩ : ∃ b : Nat, y.2.2.1 = (b : Int) := ⟨y.2.2.1.toNat, by omega⟩
      have hoka := hok a (by omega) (by omega)
      have hokb := hok b (by omega) (by omega)
      obtain ⟨v1, G1, u1, u2, u3⟩ := go (fun _ _ _ => rfl) a (by omega) h0
      rw [if_pos c3, if_pos c3, if_pos hi2, n2, ha, hb, u1, Option.bind_some, Int.toNat_natCast, Int.toNat_natCast]
      simp only []
      unfold g350_163 g350_189
      cases hr : fW N C s M n a with
      | inl e =>
        rw [hr] at u3 hoka
        have z1 : G1 0 91 = e := u3
        have z2 : 1 ≤ e ∧ e ≤ 4 := hoka
        rw [if_pos (by omega), if_pos (by omega)]
        exact ⟨_, _, rfl, u2, z1⟩
      | inr va =>
        rw [hr] at u3 hoka
        obtain ⟨z1, z2⟩ : G1 0 91 = 0 ∧ v1 = va := u3
        have z3 : vOk va := hoka
        obtain ⟨v2, G2, w1, w2, w3⟩ := go u2 b (by omega) z1
        rw [if_neg (fun q => q z1), if_pos hi2, u2 _ _ (by omega), n3, hb, w1, Option.bind_some, z2]
        show rWo G _ (ebind (fW N C s M n b) _)
        simp only []
        cases hr2 : fW N C s M n b with
        | inl e =>
          rw [hr2] at w3 hokb
          have z4 : G2 0 91 = e := w3
          have z5 : 1 ≤ e ∧ e ≤ 4 := hokb
          rw [if_pos (by omega)]
          exact ⟨_, _, rfl, u2.tr w2, z4⟩
        | inr vb =>
          rw [hr2] at w3 hokb
          obtain ⟨z4, z5⟩ : G2 0 91 = 0 ∧ v2 = vb := w3
          obtain ⟨v3, G3, t1, t2, t3⟩ := l_351 (f := f) (op := y.2.2.2.1) q5 z3 hokb z4
          rw [if_neg (fun q => q z4), if_pos hi2, w2 _ _ (by omega), u2 _ _ (by omega), Int.toNat_natCast, n4, z5, t1, Option.bind_some]
          exact ⟨_, _, rfl, (u2.tr w2).tr t2, t3⟩
    rw [if_neg c3, if_neg c3]
    by_cases c4 : y.1 = 4 ∨ y.1 = 5
    · have q : (0 ≤ y.2.1 ∧ y.2.1 < 72) ∧ (0 ≤ y.2.2.1 ∧ y.2.2.1 < 72) := by
        clear go hok
        rcases hw with q | q | q | q | q | q
        · omega
        · omega
        · omega
        · exact q.2
        · omega
        · omega
      obtain ⟨v1, G1, u1, u2, u3⟩ := l_352 (f := f) (i := i) (by omega) hC e2 (by omega) q.1 q.2 n2 n3 n1 c4 h0
      rw [if_pos c4, u1, Option.bind_some]
      by_cases d : y.1 = 4
      · rw [if_pos d]
        exact ⟨_, _, rfl, u2, u3⟩
      · rw [if_neg d, if_pos (by omega)]
        exact ⟨_, _, rfl, u2, u3⟩
    rw [if_neg c4, if_neg (by omega), if_neg (by omega)]
    by_cases c10 : y.1 = 10
    · have q : (0 ≤ y.2.1 ∧ y.2.1 < i) ∧ (0 ≤ y.2.2.1 ∧ y.2.2.1 < i) ∧ 0 ≤ y.2.2.2.1 ∧ y.2.2.2.1 < i := by
        clear go hok
        rcases hw with q | q | q | q | q | q
        · omega
        · omega
        · omega
        · omega
        · omega
        · exact q.2
      obtain ⟨⟨q1, q2⟩, ⟨q3, q4⟩, q5, q6⟩ := q
      obtain ⟨a, ha⟩ : ∃ a : Nat, y.2.1 = (a : Int) := ⟨y.2.1.toNat, by omega⟩
      obtain ⟨b, hb⟩ : ∃ b : Nat, y.2.2.1 = (b : Int) := ⟨y.2.2.1.toNat, by omega⟩
      obtain ⟨c, hc⟩ : ∃ c : Nat, y.2.2.2.1 = (c : Int) := ⟨y.2.2.2.1.toNat, by omega⟩
      have hoka := hok a (by omega) (by omega)
      obtain ⟨v1, G1, u1, u2, u3⟩ := go (fun _ _ _ => rfl) a (by omega) h0
      rw [if_neg (by omega), if_neg (by omega), if_neg (by omega), if_neg (by omega), if_pos hi2, if_pos c10, n2, ha, hb, hc, u1, Option.bind_some, Int.toNat_natCast, Int.toNat_natCast, Int.toNat_natCast]
      simp only []
      unfold g350_243 g350_246
      cases hr : fW N C s M n a with
      | inl e =>
        rw [hr] at u3 hoka
        have z1 : G1 0 91 = e := u3
        have z2 : 1 ≤ e ∧ e ≤ 4 := hoka
        rw [if_neg (by omega)]
        exact ⟨_, _, rfl, u2, z1⟩
      | inr va =>
        rw [hr] at u3 hoka
        obtain ⟨z1, z2⟩ : G1 0 91 = 0 ∧ v1 = va := u3
        rw [if_pos z1, z2]
        show rWo G _ (if va = 0 then fW N C s M n c else fW N C s M n b)
        by_cases d : va = 0
        · obtain ⟨v2, G2, w1, w2, w3⟩ := go u2 c (by omega) z1
          rw [if_pos d, if_pos d, if_pos hi2, u2 _ _ (by omega), n4, hc, w1, Option.bind_some]
          exact ⟨_, _, rfl, u2.tr w2, w3⟩
        · obtain ⟨v2, G2, w1, w2, w3⟩ := go u2 b (by omega) z1
          rw [if_neg d, if_neg d, if_pos hi2, u2 _ _ (by omega), n3, hb, w1, Option.bind_some]
          exact ⟨_, _, rfl, u2.tr w2, w3⟩
    have q : y.1 = 6 ∧ y.2.1 = 0 ∨ 7 ≤ y.1 ∧ y.1 ≤ 9 ∧ 1 ≤ y.2.1 ∧ y.2.1 ≤ 4 := by
      clear go hok
      rcases hw with q | q | q | q | q | q
      · omega
      · omega
      · omega
      · omega
      · exact q
      · omega
    obtain ⟨v1, G1, u1, u2, u3⟩ := l_353 (f := f) (i := i) (by omega) e3 e4 hn2 e5 hM (by omega) n2 n1 n5 q h0
    rw [if_neg c10, u1, Option.bind_some]
    by_cases d6 : y.1 = 6
    · rw [if_pos d6]
      exact ⟨_, _, rfl, u2, u3⟩
    rw [if_neg d6]
    by_cases d7 : y.1 = 7
    · rw [if_pos d7]
      exact ⟨_, _, rfl, u2, u3⟩
    rw [if_neg d7]
    by_cases d8 : y.1 = 8
    · rw [if_pos d8]
      exact ⟨_, _, rfl, u2, u3⟩
    rw [if_neg d8, if_pos (by omega)]
    exact ⟨_, _, rfl, u2, u3⟩
/-- what the FORMULA with nodes N and root r is worth -/
def fWr (N : List pNd) (r : Int) (C : fCs) (s : pPg) (M : Nat → List pRw) : fWo := fW N C s M 64 r.toNat
theorem l_350 {r : Int} (hf : 600 < f) (ho : 0 < o) (hN : wFm N) (hl : N.length ≤ 62) (hC : okC C) (hM : okM s M) (hn2 : ∀ p, p < s.1.length → 0 ≤ pNn s.2.2.2.1 (p : Int)) (hr : 0 ≤ r ∧ r < N.length) (he : eFm G o N C s M) (h0 : G 0 91 = 0) : rWo G (g350 f o r G) (fWr N r C s M) := by
  have := l_350r (n := 64) hf ho hN hl hC hM hn2 r.toNat G (by omega) (by omega) he h0
  have e : ((r.toNat : Nat) : Int) = r := by omega
  rw [e] at this
  exact this
end
end
section
/-! Masks of CELLS: two longs -/
def hb8 (lo hi : Int) (x : Nat) : Bool := if x < 64 then (BitVec.ofInt 64 lo).getLsbD x else (BitVec.ofInt 64 hi).getLsbD (x - 64)
theorem ofInt_toInt8 (x : Int64) : BitVec.ofInt 64 x.toInt = x.toBitVec := by
  show BitVec.ofInt 64 x.toBitVec.toInt = _
  exact BitVec.ofInt_toInt
theorem xor8_bv (a b : Int) : BitVec.ofInt 64 (xor8 a b) = BitVec.ofInt 64 a ||| BitVec.ofInt 64 b := by
  unfold xor8
  rw [ofInt_toInt8]
  rfl
theorem xshl8_bv : ∀ m : Fin 64, BitVec.ofInt 64 (xshl8 1 ((m.val : Nat) : Int)) = BitVec.twoPow 64 m.val := by decide +kernel
theorem xshr8_t : ∀ m : Fin 64, ((((Int32.ofInt ((m.val : Nat) : Int)).toInt64 &&& 63).toBitVec).smod 64#64).toNat = m.val := by decide +kernel
theorem xshr8_bv {a : Int} {m : Nat} (hm : m < 64) : BitVec.ofInt 64 (xshr8 a (m : Int)) = (BitVec.ofInt 64 a).sshiftRight m := by
  have e1 : (Int64.ofInt a >>> ((Int32.ofInt (m : Int)).toInt64 &&& 63)).toBitVec = (BitVec.ofInt 64 a).sshiftRight ((((Int32.ofInt (m : Int)).toInt64 &&& 63).toBitVec).smod 64#64).toNat := rfl
  unfold xshr8
  rw [ofInt_toInt8, e1, xshr8_t ⟨m, hm⟩]
theorem xand8_1 (a : Int) : xand8 a 1 = if (BitVec.ofInt 64 a).getLsbD 0 = true then 1 else 0 := by
  have e1 : xand8 a 1 = (BitVec.ofInt 64 a &&& 1#64).toInt := rfl
  rw [e1, BitVec.and_one_eq_setWidth_ofBool_getLsbD]
  cases (BitVec.ofInt 64 a).getLsbD 0 <;> rfl
theorem hb8_is {a : Int} {m : Nat} (hm : m < 64) : xand8 (xshr8 a (m : Int)) 1 = if (BitVec.ofInt 64 a).getLsbD m = true then 1 else 0 := by
  rw [xand8_1, xshr8_bv hm, BitVec.getLsbD_sshiftRight]
  have e : (!decide (64 ≤ 0) && if m + 0 < 64 then (BitVec.ofInt 64 a).getLsbD (m + 0) else (BitVec.ofInt 64 a).msb) = (BitVec.ofInt 64 a).getLsbD m := by
    rw [if_pos (by omega)]
    simp
  rw [e]
/-- the mask of two longs -/
def rM8 (lo hi : Int) (a : Nat) : Prop := a < 2 ^ 72 ∧ ∀ x, x < 72 → hb8 lo hi x = a.testBit x
theorem rM8.z : rM8 0 0 0 := by
  refine ⟨by decide, ?_⟩
  decide +kernel
theorem rM8.or {lo hi lo' hi' : Int} {a b : Nat} (h1 : rM8 lo hi a) (h2 : rM8 lo' hi' b) : rM8 (xor8 lo lo') (xor8 hi hi') (a ||| b) := by
  refine ⟨Nat.or_lt_two_pow h1.1 h2.1, fun x hx => ?_⟩
  rw [Nat.testBit_or, ← h1.2 x hx, ← h2.2 x hx]
  unfold hb8
  rw [xor8_bv, xor8_bv]
  by_cases c : x < 64
  · rw [if_pos c, if_pos c, if_pos c, BitVec.getLsbD_or]
  · rw [if_neg c, if_neg c, if_neg c, BitVec.getLsbD_or]
theorem rM8.lo {lo hi : Int} {a m : Nat} (h1 : rM8 lo hi a) (hm : m < 64) : rM8 (xor8 lo (xshl8 1 (m : Int))) hi (a ||| 2 ^ m) := by
  refine ⟨or_lt h1.1 (by omega), fun x hx => ?_⟩
  rw [or_bit, ← h1.2 x hx]
  unfold hb8
  rw [xor8_bv, xshl8_bv ⟨m, hm⟩]
  by_cases c : x < 64
  · rw [if_pos c, if_pos c, BitVec.getLsbD_or, BitVec.getLsbD_twoPow]
    simp [hm]
  · rw [if_neg c, if_neg c]
    have : ¬ m = x := by omega
    simp [this]
theorem rM8.hi {lo hi : Int} {a m : Nat} (h1 : rM8 lo hi a) (hm : 64 ≤ m) (hm2 : m < 72) : rM8 lo (xor8 hi (xshl8 1 ((m - 64 : Nat) : Int))) (a ||| 2 ^ m) := by
  refine ⟨or_lt h1.1 (by omega), fun x hx => ?_⟩
  rw [or_bit, ← h1.2 x hx]
  unfold hb8
  rw [xor8_bv, xshl8_bv ⟨m - 64, by omega⟩]
  by_cases c : x < 64
  · rw [if_pos c, if_pos c]
    have : ¬ m = x := by omega
    simp [this]
  · rw [if_neg c, if_neg c, BitVec.getLsbD_or, BitVec.getLsbD_twoPow]
    have e1 : decide (m - 64 < 64) = true := by rw [decide_eq_true_iff]; omega
    have e2 : decide (m - 64 = x - 64) = decide (m = x) := by
      rw [decide_eq_decide]
      omega
    show ((BitVec.ofInt 64 hi).getLsbD (x - 64) || (decide (m - 64 < 64) && decide (m - 64 = x - 64))) = _
    rw [e1, e2, Bool.true_and]
section
variable {f : Nat} {G : xG_}
theorem l_343 {lo hi : Int} {x a : Nat} (h : rM8 lo hi a) (hx : x < 72) : g343 f lo hi (x : Int) G = some (if a.testBit x = true then 1 else 0, G) := by
  have k := h.2 x hx
  unfold hb8 at k
  have fin : ∀ b : Bool, g343_21 f (xshr8 0 0) G = g343_21 f (xshr8 0 0) G → True := fun _ _ => trivial
  have sel : ∀ (y : Int) (b : Bool), xand8 y 1 = (if b = true then 1 else 0) → g343_21 f y G = some (if b = true then 1 else 0, G) := fun y b hb => by
    unfold g343_21 g343_33
    rw [hb]
    cases b with
    | true => rfl
    | false => rfl
  unfold g343
  by_cases c : x < 64
  · rw [if_pos c] at k
    rw [if_neg (by omega)]
    refine sel _ _ ?_
    rw [hb8_is c, k]
  · rw [if_neg c] at k
    have e : xwr ((x : Int) - 64) = ((x - 64 : Nat) : Int) := by rw [xwr_g _ (by omega) (by omega)]; omega
    rw [if_pos (by omega), e]
    refine sel _ _ ?_
    rw [hb8_is (by omega), k]
/-- what cells x reads: one more -/
def pRm (G : xG_) (c x : Nat) : xG_ := if x < 64 then xup2 G 263 c (xor8 (G 263 c) (xshl8 1 (x : Int))) else xup2 G 264 c (xor8 (G 264 c) (xshl8 1 ((x - 64 : Nat) : Int)))
theorem pRm_fr {c x : Nat} {a j : Nat} (h : ¬ (a = 263 ∧ j = c)) (h2 : ¬ (a = 264 ∧ j = c)) : pRm G c x a j = G a j := by
  unfold pRm
  split
  · exact xup2_n (by omega)
  · exact xup2_n (by omega)
theorem pRm_m {c x a : Nat} (hx : x < 72) (h : rM8 (G 263 c) (G 264 c) a) : rM8 (pRm G c x 263 c) (pRm G c x 264 c) (a ||| 2 ^ x) := by
  unfold pRm
  by_cases k : x < 64
  · rw [if_pos k, xup2_s, xup2_n (by omega)]
    exact h.lo k
  · rw [if_neg k, xup2_s, xup2_n (by omega)]
    exact h.hi (by omega) hx
theorem l_342 {c x : Nat} (hc : c < 72) (hx : x < 72) : g342 f (c : Int) (x : Int) G = some (pRm G c x) := by
  unfold g342 g342_36 pRm
  by_cases k : x < 64
  · rw [if_neg (by omega), if_pos (by omega), if_pos (by omega), if_pos k]
    rfl
  · have e : xwr ((x : Int) - 64) = ((x - 64 : Nat) : Int) := by rw [xwr_g _ (by omega) (by omega)]; omega
    rw [if_pos (by omega), if_pos (by omega), if_pos (by omega), if_neg k, e]
    rfl
end
/-! What a FORMULA reads -/
def nBx (a b : Int) : Nat → Nat
  | 0 => 0
  | k + 1 => if fIn k a b then nBx a b k ||| 2 ^ k else nBx a b k
def nR1 (y : pNd) : Nat := if y.1 = 2 then 2 ^ y.2.1.toNat else if y.1 = 4 ∨ y.1 = 5 then nBx y.2.1 y.2.2.1 72 else 0
def nRd : List pNd → Nat
  | [] => 0
  | y :: N => nR1 y ||| nRd N
def nO1 (s : pPg) (y : pNd) : Nat := if 6 ≤ y.1 ∧ y.1 ≤ 9 ∧ pIdx s.1 y.2.2.2.2 ≠ -1 then 2 ^ (pIdx s.1 y.2.2.2.2).toNat else 0
def nOf (s : pPg) : List pNd → Nat
  | [] => 0
  | y :: N => nO1 s y ||| nOf s N
def nNm : List pNd → Bool
  | [] => false
  | y :: N => decide (6 ≤ y.1 ∧ y.1 ≤ 9) || nNm N
theorem nBx_t {a b : Int} : ∀ (k x : Nat), (nBx a b k).testBit x = true ↔ x < k ∧ fIn x a b
  | 0, x => by
    unfold nBx
    rw [Nat.zero_testBit]
    constructor
    · intro h; cases h
    · intro h; omega
  | k + 1, x => by
    unfold nBx
    have ih := nBx_t (a := a) (b := b) k x
    by_cases c : fIn k a b
    · rw [if_pos c, or_bit, Bool.or_eq_true, ih, decide_eq_true_iff]
      constructor
      · rintro (h | h)
        · exact ⟨by omega, h.2⟩
        · rw [← h]; exact ⟨by omega, c⟩
      · rintro ⟨h1, h2⟩
        by_cases d : k = x
        · exact .inr d
        · exact .inl ⟨by omega, h2⟩
    · rw [if_neg c, ih]
      constructor
      · rintro ⟨h1, h2⟩; exact ⟨by omega, h2⟩
      · rintro ⟨h1, h2⟩
        refine ⟨?_, h2⟩
        by_cases d : k = x
        · rw [d] at c; exact absurd h2 c
        · omega
end
