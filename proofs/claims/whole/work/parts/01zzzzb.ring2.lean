/-! Rings of the reference: level after level -/
section
variable {f q c : Nat} {s : pPg} {rg : Nat} {R0 : Nat → List pRw}
/-- rows that rules give are rows of values -/
theorem rlD_ok {u : pRu} {R : Nat → List pRw} {xs : List Int} (hok : qOk s) (hu : u ∈ s.2.2.2.2.1) (hT : qTb s R) (hV : qG u ≠ 0 → ∀ V, isAll u.2.2.2.2.2 u.2.2.2.2.1.length R qO1 V → V.length ≤ 1000000) (h : rlD u R xs) : xs.length = u.2.2.2.1.length ∧ ∀ x ∈ xs, vOk x := by
  obtain ⟨w1, w2, w3, w4, w5, w6, w7, w8, w9⟩ := hok.1.2.2.2.2.2.2 u hu
  have u6 := (hok.2.1 u hu).1
  have hR : ∀ p, p < s.1.length → ∀ w ∈ R p, ∀ x ∈ w.1, vOk x := fun p hp w hw => ((hT p hp).2.2 w hw).2
  have wit := w5.2
  unfold rlD at h
  by_cases cg : u.2.2.1.1 = 0
  · have hqg : qG u = 0 := by unfold qG; rw [if_pos cg]
    have hgA : u.2.2.1.2.1 = -1 := by
      rcases w5.1 with z | z
      · exact z.2.1
      · have : (10 : Int) ≤ u.2.2.1.1 := z.1.1
        omega
    rw [if_pos hqg] at h
    obtain ⟨v, v1, v2⟩ := h
    have vo := isW_ok w6 w9 u6 hR v1
    refine ⟨qMk_len _ _ v2, qMk_ok (nv := u.2.2.2.2.1.length) (fun k hk _ => ?_) (fun k hk => ?_) _ xs (Nat.le_refl _) v2⟩
    · rcases wit k hk with ⟨y1, _⟩ | ⟨_, y2⟩
      · have y3 : (k : Int) = u.2.2.1.2.1 := y1
        omega
      · exact y2
    · unfold vF
      rw [getD_e (by rw [v1.1]; exact hk)]
      exact vo _ (List.getElem_mem _)
  · have hg10 : (10 ≤ u.2.2.1.1 ∧ u.2.2.1.1 ≤ 13) ∧ 0 ≤ u.2.2.1.2.1 ∧ u.2.2.1.2.1 < u.2.2.2.1.length ∧ (u.2.2.1.1 = 10 ∧ u.2.2.1.2.2 = -1 ∨ u.2.2.1.1 ≠ 10 ∧ 0 ≤ u.2.2.1.2.2 ∧ u.2.2.1.2.2 < u.2.2.2.2.1.length) := by
      rcases w5.1 with z | z
      · exact absurd z.1 cg
      · exact z
    have hqg : qG u = u.2.2.1.1 - 9 := by unfold qG; rw [if_neg cg]
    rw [if_neg (by omega)] at h
    obtain ⟨ks, hk⟩ := h
    refine gDs_ok w6 w9 u6 hR (fun k hk hne => ?_) (by omega) (fun q => by omega) (hV (by omega)) hk
    rcases wit k hk with ⟨y1, _⟩ | ⟨_, y2⟩
    · have y3 : (k : Int) = u.2.2.1.2.1 := y1
      omega
    · exact y2
/-- WAYS of a gathering rule are no more than a million -/
theorem isAll_le {G : xG_} {R : Nat → List pRw} {r : Nat} (hf : 6300 < f) (hok : qOk s) (hE : rEn G q c s R) (hT : qTb s R) (hr : r < s.2.2.2.2.1.length) (hg : qG (s.2.2.2.2.1.getD r dRu) ≠ 0) : ∀ V, isAll (s.2.2.2.2.1.getD r dRu).2.2.2.2.2 (s.2.2.2.2.1.getD r dRu).2.2.2.2.1.length R qO1 V → V.length ≤ 1000000 := by
  obtain ⟨u, eu, u1, u2, u3, u4, u5, u6, p, p1, p2, p3⟩ := rul hok hE hr
  rw [← eu] at hg ⊢
  obtain ⟨e1, e2, e3, e4⟩ := hE
  obtain ⟨t1, t2, ⟨t3, t4, t5, t6⟩, t7, t8, t9, t10, t11⟩ := u4
  obtain ⟨w1, w2, w3, w4, w5, w6, w7, w8, w9⟩ := u5
  have hnp : s.1.length ≤ 16 := hok.1.1
  have wit := w5.2
  let G1 := xup2 (xup2 (xup2 G 0 39 (r : Int)) 0 40 (-1)) 0 43 0
  have z : ∀ o j, ¬ (o = 0 ∧ (j = 39 ∨ j = 40 ∨ j = 43)) → G1 o j = G o j := fun o j h => by
    show xup2 _ _ _ _ _ _ = _
    rw [xup2_n (by omega), xup2_n (by omega), xup2_n (by omega)]
  have z2 : ∀ a j, 2 ≤ a → a ≤ 36 → G1 a j = G a j := fun a j _ _ => z a j (by omega)
  have cg : u.2.2.1.1 ≠ 0 := fun q => hg (by unfold qG; rw [if_pos q])
  have hg10 : (10 ≤ u.2.2.1.1 ∧ u.2.2.1.1 ≤ 13) ∧ 0 ≤ u.2.2.1.2.1 ∧ u.2.2.1.2.1 < u.2.2.2.1.length ∧ (u.2.2.1.1 = 10 ∧ u.2.2.1.2.2 = -1 ∨ u.2.2.1.1 ≠ 10 ∧ 0 ≤ u.2.2.1.2.2 ∧ u.2.2.1.2.2 < u.2.2.2.2.1.length) := by
    rcases w5.1 with z | z
    · exact absurd z.1 cg
    · exact z
  have hqg : qG u = u.2.2.1.1 - 9 := by unfold qG; rw [if_neg cg]
  obtain ⟨gA, hgA⟩ : ∃ gA : Nat, u.2.2.1.2.1 = (gA : Int) := ⟨u.2.2.1.2.1.toNat, by omega⟩
  have h18 : G 18 r = qG u := t3
  have h20 : G 20 r = u.2.2.1.2.2 := t5
  have hHd : rHd G r c u.2.2.2.1 (gA : Int) := ⟨t7, t8, by have h9 : G 19 r = u.2.2.1.2.1 := t4; rw [h9, hgA], t9⟩
  have := l_all (f := f) (K := fun _ => 0) (G := G1) (gA := gA) (kk := qG u) (gO := u.2.2.1.2.2) hf (by omega : r < 25) w6 hnp u3 w8 w9 u6 ⟨t11.v z2, hHd.v z2, by rw [z _ _ (by omega)]; exact h18, by rw [z _ _ (by omega)]; exact h20⟩ (fun k hk hne => by
        rcases wit k hk with ⟨y1, _⟩ | ⟨_, y2⟩
        · have y3 : (k : Int) = u.2.2.1.2.1 := y1
          omega
        · exact y2) (by omega) (by omega) (fun hk => by omega) (by show xup2 _ _ _ _ _ _ = _; rw [xup2_n (by omega), xup2_n (by omega), xup2_s]) (by show xup2 _ _ _ _ _ _ = _; rw [xup2_n (by omega), xup2_s]) (e4.ge (fun a j _ _ => z a j (by omega))) (fun p hp => ⟨(hT p hp).1, fun w hw => ((hT p hp).2.2 w hw).2⟩) (xup2_s _ _ _ _)
  rw [qOp_1] at this
  exact this
theorem l_26 {r12 : Int → Int → xG_ → Option (Int × xG_)} {x1 x2 : Int} {G0 : xG_} {np : Nat} (hnp : np ≤ 16) (h8 : G0 2 8 = (np : Int)) : ∀ (d p fu : Nat) (G : xG_), p + d = np → d < fu → (∀ o j, o ≠ 115 → G o j = G0 o j) → (∀ j, j < p → G 115 j = 0) → ∃ G', g293_26 r12 f fu x1 x2 (p : Int) G = g293_52 r12 f f x1 x2 0 G' ∧ (∀ o j, o ≠ 115 → G' o j = G0 o j) ∧ ∀ j, j < np → G' 115 j = 0 := by
  intro d
  induction d with
  | zero =>
    intro p fu G h1 h2 h3 h4
    obtain ⟨fu, rfl⟩ : ∃ t, fu = t + 1 := ⟨fu - 1, by omega⟩
    refine ⟨G, ?_, h3, fun j hj => h4 j (by omega)⟩
    show g293_26b r12 (g293_26 r12 f fu) f _ _ _ _ = _
    unfold g293_26b
    rw [h3 _ _ (by omega), h8, if_pos (by omega)]
  | succ d ih =>
    intro p fu G h1 h2 h3 h4
    obtain ⟨fu, rfl⟩ : ∃ t, fu = t + 1 := ⟨fu - 1, by omega⟩
    have e5 : xwr ((p : Int) + 1) = ((p + 1 : Nat) : Int) := by rw [xwr_g _ (by omega) (by omega)]; omega
    obtain ⟨G', k1, k2, k3⟩ := ih (p + 1) fu (xup2 G 115 p 0) (by omega) (by omega) (fun o j y => by rw [xup2_n (fun q => y q.1)]; exact h3 o j y) (fun j hj => by
      by_cases cj : j = p
      · rw [cj, xup2_s]
      · rw [xup2_n (by omega)]; exact h4 j (by omega))
    refine ⟨G', ?_, k2, k3⟩
    rw [← k1]
    show g293_26b r12 (g293_26 r12 f fu) f _ _ _ _ = _
    unfold g293_26b
    rw [h3 _ _ (by omega), h8, if_neg (by omega), if_pos (by omega), Int.toNat_natCast, Option.bind_some, e5]
/-- workRing, level after level -/
theorem l_293_12 (hf : 1000100 < f) (hok : qOk s) : ∀ (d n fu : Nat) (G : xG_) (R : Nat → List pRw), 1601 ≤ qTo R s.1.length + d → d + 1 < fu → n + d ≤ 3300 → rEn G q c s R → qTb s R → G 0 40 = -1 → G 0 43 = 0 → wkC s rg R0 n R → ∃ G' b, g293_12 f fu (rg : Int) ((n + 1 : Nat) : Int) G = some (b, G') ∧ xRg G G' ∧ ((b = 1 ∧ G' 0 43 = 0 ∧ ∃ R', rEn G' q c s R' ∧ qTb s R' ∧ wkE s rg R0 R') ∨ (b = 0 ∧ wkO s rg R0)) := by
  have hnp : s.1.length ≤ 16 := hok.1.1
  intro d
  induction d with
  | zero =>
    intro n fu G R h1 h2 hn hE hT h40 h43 hC
    exfalso
    have := qTo_le s.1.length (fun p hp => (hT p hp).1)
    omega
  | succ d ih =>
    intro n fu G R h1 h2 hn hE hT h40 h43 hC
    obtain ⟨fu, rfl⟩ : ∃ t, fu = t + 1 := ⟨fu - 1, by omega⟩
    have n43 : ¬ ¬ G 0 43 = 0 := fun q => q h43
    have h8 : G 2 8 = (s.1.length : Int) := hE.1.1.1
    let G1 := xup2 G 0 47 0
    have z1 : ∀ o j, ¬ (o = 0 ∧ j = 47) → G1 o j = G o j := fun o j h => xup2_n h
    obtain ⟨G2, a1, a2, a3⟩ := l_26 (f := f) (r12 := g293_12 f fu) (x1 := (rg : Int)) (x2 := ((n + 1 : Nat) : Int)) (G0 := G1) hnp (by rw [z1 _ _ (by omega)]; exact h8) s.1.length 0 f G1 (by omega) (by omega) (fun _ _ _ => rfl) (fun j hj => absurd hj (by omega))
    have e0 : g293_12 f (fu + 1) (rg : Int) ((n + 1 : Nat) : Int) G = g293_52 (g293_12 f fu) f f (rg : Int) ((n + 1 : Nat) : Int) 0 G2 := by
      rw [← a1]
      show g293_12b (g293_12 f fu) f _ _ _ = _
      unfold g293_12b
      rw [if_neg n43]
      rfl
    have hE2 : rEn G2 q c s R := hE.ge (fun a j _ _ => by rw [a2 _ _ (by omega), z1 _ _ (by omega)]) (fun a j _ _ => by rw [a2 _ _ (by omega), z1 _ _ (by omega)])
    have hF0 : rFr G2 s.1.length (qN s) R [] := ⟨by rw [a2 _ _ (by omega)]; exact xup2_s _ _ _ _, fun i hi => absurd hi (Nat.not_lt_zero _), fun p hp => ⟨a3 p hp, (hT p hp).1⟩⟩
    have z43 : G2 0 43 = 0 := by rw [a2 _ _ (by omega), z1 _ _ (by omega)]; exact h43
    obtain ⟨G3, b1, b2, b3⟩ := l_52 (f := f) (r12 := g293_12 f fu) (rg := rg) (st := ((n + 1 : Nat) : Int)) hf hok hT (by omega) s.2.2.2.2.1.length 0 f G2 (by omega) (by have := hE.1.2.2.1.2.1; omega) hE2 (by rw [a2 _ _ (by omega), z1 _ _ (by omega)]; exact h40) (.inl ⟨z43, [], hF0, List.nodup_nil, fun y => ⟨fun h => absurd h (by simp), fun ⟨r, hr, _⟩ => by omega⟩⟩)
    have b1' : g293_52 (g293_12 f fu) f f (rg : Int) ((n + 1 : Nat) : Int) 0 G2 = _ := b1
    have fr3 : ∀ o j, ¬ (o = 0 ∧ (37 ≤ j ∧ j ≤ 39 ∨ 42 ≤ j ∧ j ≤ 61)) → ¬ (110 ≤ o ∧ o ≤ 121 ∧ o ≠ 118) → G3 o j = G o j := fun o j y1 y2 => by rw [b2 o j y1 y2, a2 o j (by omega), z1 o j (by omega)]
    rw [e0, b1']
    rcases b3 with ⟨c43, F, c1, c2, c3⟩ | ⟨c43, c1⟩
    · have hlenF := c1.len
      by_cases cF : F = []
      · refine ⟨G3, 1, ?_, fun o j y1 y2 => fr3 o j y1 (by omega), .inl ⟨rfl, c43, R, hE.ge (fun a j _ _ => fr3 _ _ (by omega) (by omega)) (fun a j _ _ => fr3 _ _ (by omega) (by omega)), hT, n, hC, fun p xs hp hs => ?_⟩⟩
        · have h47 : G3 0 47 = 0 := by rw [c1.1, cF]; rfl
          have n47 : ¬ ¬ G3 0 47 = 0 := fun q => q h47
          unfold g293_159
          rw [if_pos c43, if_neg n47]
        · have := (c3 (p, xs)).mpr hs
          rw [cF] at this
          cases this
      · have n47 : ¬ G3 0 47 = 0 := by
          rw [c1.1]
          have := List.length_pos_iff.mpr cF
          omega
        have hE3 : rEn G3 q c s R := hE.ge (fun a j _ _ => fr3 _ _ (by omega) (by omega)) (fun a j _ _ => fr3 _ _ (by omega) (by omega))
        have hN3 : ∀ p, p < s.1.length → G3 4 p = (qN s p : Int) := fun p hp => by
          rw [(qN_c hok.1 p).1]
          exact hE3.2.1 p hp
        have e12 : ((n + 2 : Nat) : Int) = xwr (((n + 1 : Nat) : Int) + 1) := by rw [xwr_g _ (by omega) (by omega)]; omega
        obtain ⟨G4, R', d1, d2, d3, d4⟩ := l_179 (f := f) (r12 := g293_12 f fu) (rg := rg) (st := ((n + 1 : Nat) : Int)) (G0 := G3) (by omega) hok hT c1 c2 (fun y hy => by
            obtain ⟨r, _, _, _, _, _, _, h⟩ := (c3 y).mp hy
            exact h) hN3 (e12 := ((n + 2 : Nat) : Int)) F.length 0 f G3 R (by omega) (by omega) (fun _ _ _ => rfl) hE3.2.2.2 (fun p hp => ⟨(hT p hp).2.1, by rw [List.take_zero]; rfl, fun y => by rw [List.take_zero]; exact ⟨.inl, fun h => h.elim id (fun h => absurd h.2 (by simp))⟩⟩) e12
        have d1' : g293_179 (g293_12 f fu) f f (rg : Int) ((n + 1 : Nat) : Int) 0 G3 = _ := d1
        have hlv : isLv s rg ((n + 1 : Nat) : Int) R R' := fun p hp => by
          obtain ⟨w1, w2, w3⟩ := d4 p hp
          refine ⟨w1, fun y => ?_⟩
          rw [w3 y, c3 (p, y.1)]
        have hT' : qTb s R' := fun p hp => by
          obtain ⟨w1, w2, w3⟩ := d4 p hp
          have := (c1.2.2 p hp).2
          refine ⟨by omega, w1, fun w hw => ?_⟩
          rcases (w3 w).mp hw with h | ⟨_, h⟩
          · exact (hT p hp).2.2 w h
          · obtain ⟨r, r1, r2, r3, r4, r5, r6, r7⟩ := (c3 _).mp h
            have hm : s.2.2.2.2.1.getD r dRu ∈ s.2.2.2.2.1 := by rw [getD_e r2]; exact List.getElem_mem r2
            obtain ⟨v1, v2⟩ := rlD_ok hok hm hT (fun hg => isAll_le (f := f) (by omega) hok hE3 hT r2 hg) r6
            refine ⟨?_, v2⟩
            obtain ⟨u, eu, _, _, _, _, _, _, p', p1, p2, p3⟩ := rul hok hE3 r2
            rw [eu] at p1 p3
            have : p' = p := by
              have r3' : (s.2.2.2.2.1.getD r dRu).1 = ((p : Nat) : Int) := r3
              omega
            rw [← this]
            exact v1.trans p3
        have hgrow : qTo R s.1.length < qTo R' s.1.length := by
          refine (qTo_lt s.1.length (fun p hp => by have := (d4 p hp).2.1; omega)).2 ?_
          obtain ⟨y, hy⟩ := List.exists_mem_of_ne_nil _ cF
          obtain ⟨i, hi, ei⟩ := List.getElem_of_mem hy
          have hp := (c1.2.1 i hi).1
          rw [getD_e hi, ei] at hp
          have := fCt_pos.mpr ⟨y, hy, rfl⟩
          exact ⟨y.1, hp, by have := (d4 y.1 hp).2.1; omega⟩
        have hC' : wkC s rg R0 (n + 1) R' := ⟨R, hC, by
          obtain ⟨y, hy⟩ := List.exists_mem_of_ne_nil _ cF
          obtain ⟨i, hi, ei⟩ := List.getElem_of_mem hy
          have hp := (c1.2.1 i hi).1
          rw [getD_e hi, ei] at hp
          exact ⟨y.1, y.2, hp, (c3 y).mp hy⟩, hlv⟩
        obtain ⟨e1, e2, e3, e4⟩ := hE3
        have hE4 : rEn G4 q c s R' := by
          refine ⟨e1.ge (fun j => d2 _ _ (by omega)) (fun a j _ _ _ _ _ => d2 _ _ (by omega)), fun y hy => by rw [d2 _ _ (by omega)]; exact e2 y hy, ⟨fun p hp => by rw [d2 _ _ (by omega)]; exact e3.1 p hp, fun p hp => by rw [d2 _ _ (by omega)]; exact e3.2 p hp⟩, d3⟩
        obtain ⟨G5, b, s1, s2, s3⟩ := ih (n + 1) fu G4 R' (by omega) (by omega) (by omega) hE4 hT' (by rw [d2 _ _ (by omega), fr3 _ _ (by omega) (by omega)]; exact h40) (by rw [d2 _ _ (by omega)]; exact c43) hC'
        refine ⟨G5, b, ?_, fun o j y1 y2 => by rw [s2 o j y1 y2, d2 o j (by omega), fr3 o j y1 (by omega)], s3⟩
        unfold g293_159
        rw [if_pos c43, if_pos n47, d1']
        exact s1
    · refine ⟨G3, 0, ?_, fun o j y1 y2 => fr3 o j y1 (by omega), .inr ⟨rfl, n, R, hC, c1⟩⟩
      unfold g293_159
      rw [if_neg c43]
/-- workRing -/
theorem l_293 {G : xG_} {R : Nat → List pRw} (hf : 1000100 < f) (hok : qOk s) (hE : rEn G q c s R) (hT : qTb s R) : ∃ G' b, g293 f (rg : Int) G = some (b, G') ∧ (∀ o j, ¬ (o = 0 ∧ (37 ≤ j ∧ j ≤ 40 ∨ 42 ≤ j ∧ j ≤ 61)) → ¬ (107 ≤ o ∧ o ≤ 121 ∧ o ≠ 118) → G' o j = G o j) ∧ ((b = 1 ∧ ∃ R', rEn G' q c s R' ∧ qTb s R' ∧ wkE s rg R R') ∨ (b = 0 ∧ wkO s rg R)) := by
  let G1 := xup2 (xup2 G 0 43 0) 0 40 (-1)
  have z1 : ∀ o j, ¬ (o = 0 ∧ (j = 40 ∨ j = 43)) → G1 o j = G o j := fun o j h => by
    show xup2 _ _ _ _ _ _ = _
    rw [xup2_n (by omega), xup2_n (by omega)]
  obtain ⟨G2, b, k1, k2, k3⟩ := l_293_12 (f := f) (rg := rg) (R0 := R) hf hok 1601 0 f G1 R (by omega) (by omega) (by omega) (hE.ge (fun a j _ _ => z1 _ _ (by omega)) (fun a j _ _ => z1 _ _ (by omega))) hT (xup2_s _ _ _ _) (by show xup2 _ _ _ _ _ _ = _; rw [xup2_n (by omega), xup2_s]) (fun p _ => rfl)
  refine ⟨G2, b, ?_, fun o j y1 y2 => by rw [k2 o j (by omega) y2, z1 o j (by omega)], ?_⟩
  · unfold g293
    exact k1
  · rcases k3 with ⟨c1, _, c2⟩ | c1
    · exact .inl ⟨c1, c2⟩
    · exact .inr c1
end
