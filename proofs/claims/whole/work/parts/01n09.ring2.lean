section
/-! Rings of the reference: level after level -/
section
variable {f q c : Nat} {s : pPg} {rg : Nat} {R0 : Nat → List pRw}
/-- rows that rules give are rows of values -/
theorem rlD_ok {u : pRu} {R : Nat → List pRw} {xs : List Int} (hok : qOk s) (hu : u ∈ s.2.2.2.2.1) (hT : qTb s R) (hV : qG u ≠ 0 → ∀ V, isAll u.2.2.2.2.2 u.2.2.2.2.1.length R qO1 V → V.length ≤ 1000000) (h : rlD u R xs) : xs.length = u.2.2.2.1.length ∧ ∀ x ∈ xs, vOk x := by
  obtain ⟨w1, w2, w3, w4, w5, w6, w7, w8, w9⟩ := hok.1.2.2.2.2.2.2 u hu
  have u6 := (hok.2.1 u hu).1
  have hR : ∀ p, p < s.1.length → ∀ w ∈ R p, ∀ x ∈ w.1, vOk x := fun p hp w hw => ((hT p hp).2.2 w hw).2
  have wit := w5.2
  unfold rlD at h
  by_cases cg : u.2.2.1.1 = 0
  · have hqg : qG u = 0 := by unfold qG; rw [if_pos cg]
    have hgA : u.2.2.1.2.1 = -1 := by
      rcases w5.1 with z | z
      · exact z.2.1
      · have : (10 : Int) ≤ u.2.2.1.1 := z.1.1
        omega
    rw [if_pos hqg] at h
    obtain ⟨v, v1, v2⟩ := h
    have vo := isW_ok w6 w9 u6 hR v1
    refine ⟨qMk_len _ _ v2, qMk_ok (nv := u.2.2.2.2.1.length) (fun k hk _ => ?_) (fun k hk => ?_) _ xs (Nat.le_refl _) v2⟩
    · rcases wit k hk with ⟨y1, _⟩ | ⟨_, y2⟩
      · have y3 : (k : Int) = u.2.2.1.2.1 := y1
        omega
      · exact y2
    · unfold vF
      rw [getD_e (by rw [v1.1]; exact hk)]
      exact vo _ (List.getElem_mem _)
  · have hg10 : (10 ≤ u.2.2.1.1 ∧ u.2.2.1.1 ≤ 13) ∧ 0 ≤ u.2.2.1.2.1 ∧ u.2.2.1.2.1 < u.2.2.2.1.length ∧ (u.2.2.1.1 = 10 ∧ u.2.2.1.2.2 = -1 ∨ u.2.2.1.1 ≠ 10 ∧ 0 ≤ u.2.2.1.2.2 ∧ u.2.2.1.2.2 < u.2.2.2.2.1.length) := by
      rcases w5.1 with z | z
      · exact absurd z.1 cg
      · exact z
    have hqg : qG u = u.2.2.1.1 - 9 := by unfold qG; rw [if_neg cg]
    rw [if_neg (by omega)] at h
    obtain ⟨ks, hk⟩ := h
    refine gDs_ok w6 w9 u6 hR (fun k hk hne => ?_) (by omega) (fun q => by omega) (hV (by omega)) hk
    rcases wit k hk with ⟨y1, _⟩ | ⟨_, y2⟩
    · have y3 : (k : Int) = u.2.2.1.2.1 := y1
      omega
    · exact y2
/-- WAYS of a gathering rule are no more than a million -/
theorem isAll_le {G : xG_} {R : Nat → List pRw} {r : Nat} (hf : 6300 < f) (hok : qOk s) (hE : rEn G q c s R) (hT : qTb s R) (hr : r < s.2.2.2.2.1.length) (hg : qG (s.2.2.2.2.1.getD r dRu) ≠ 0) : ∀ V, isAll (s.2.2.2.2.1.getD r dRu).2.2.2.2.2 (s.2.2.2.2.1.getD r dRu).2.2.2.2.1.length R qO1 V → V.length ≤ 1000000 := by
  obtain ⟨u, eu, u1, u2, u3, u4, u5, u6, p, p1, p2, p3⟩ := rul hok hE hr
  rw [← eu] at hg ⊢
  obtain ⟨e1, e2, e3, e4⟩ := hE
  obtain ⟨t1, t2, ⟨t3, t4, t5, t6⟩, t7, t8, t9, t10, t11⟩ := u4
  obtain ⟨w1, w2, w3, w4, w5, w6, w7, w8, w9⟩ := u5
  have hnp : s.1.length ≤ 16 := hok.1.1
  have wit := w5.2
  let G1 := xup2 (xup2 (xup2 G 0 39 (r : Int)) 0 40 (-1)) 0 43 0
  have z : ∀ o j, ¬ (o = 0 ∧ (j = 39 ∨ j = 40 ∨ j = 43)) → G1 o j = G o j := fun o j h => by
    show xup2 _ _ _ _ _ _ = _
    rw [xup2_n (by omega), xup2_n (by omega), xup2_n (by omega)]
  have z2 : ∀ a j, 2 ≤ a → a ≤ 36 → G1 a j = G a j := fun a j _ _ => z a j (by omega)
  have cg : u.2.2.1.1 ≠ 0 := fun q => hg (by unfold qG; rw [if_pos q])
  have hg10 : (10 ≤ u.2.2.1.1 ∧ u.2.2.1.1 ≤ 13) ∧ 0 ≤ u.2.2.1.2.1 ∧ u.2.2.1.2.1 < u.2.2.2.1.length ∧ (u.2.2.1.1 = 10 ∧ u.2.2.1.2.2 = -1 ∨ u.2.2.1.1 ≠ 10 ∧ 0 ≤ u.2.2.1.2.2 ∧ u.2.2.1.2.2 < u.2.2.2.2.1.length) := by
    rcases w5.1 with z | z
    · exact absurd z.1 cg
    · exact z
  have hqg : qG u = u.2.2.1.1 - 9 := by unfold qG; rw [if_neg cg]
  obtain ⟨gA, hgA⟩ : ∃ gA : Nat, u.2.2.1.2.1 = (gA : Int) := ⟨u.2.2.1.2.1.toNat, by omega⟩
  have h18 : G 18 r = qG u := t3
  have h20 : G 20 r = u.2.2.1.2.2 := t5
  have hHd : rHd G r c u.2.2.2.1 (gA : Int) := ⟨t7, t8, by have h9 : G 19 r = u.2.2.1.2.1 := t4; rw [h9, hgA], t9⟩
  have := l_all (f := f) (K := fun _ => 0) (G := G1) (gA := gA) (kk := qG u) (gO := u.2.2.1.2.2) hf (by omega : r < 25) w6 hnp u3 w8 w9 u6 ⟨t11.v z2, hHd.v z2, by rw [z _ _ (by omega)]; exact h18, by rw [z _ _ (by omega)]; exact h20⟩ (fun k hk hne => by
        rcases wit k hk with ⟨y1, _⟩ | ⟨_, y2⟩
        · have y3 : (k : Int) = u.2.2.1.2.1 := y1
          omega
        · exact y2) (by omega) (by omega) (fun hk => by omega) (by show xup2 _ _ _ _ _ _ = _; rw [xup2_n (by omega), xup2_n (by omega), xup2_s]) (by show xup2 _ _ _ _ _ _ = _; rw [xup2_n (by omega), xup2_s]) (e4.ge (fun a j _ _ => z a j (by omega))) (fun p hp => ⟨(hT p hp).1, fun w hw => ((hT p hp).2.2 w hw).2⟩) (xup2_s _ _ _ _)
  rw [qOp_1] at this
  exact this
theorem l_26 {r12 : Int → Int → xG_ → Option (Int × xG_)} {x1 x2 : Int} {G0 : xG_} {np : Nat} (hnp : np ≤ 16) (h8 : G0 2 8 = (np : Int)) : ∀ (d p fu : Nat) (G : xG_), p + d = np → d < fu → (∀ o j, o ≠ 115 → G o j = G0 o j) → (∀ j, j < p → G 115 j = 0) → ∃ G', g293_26 r12 f fu x1 x2 (p : Int) G = g293_52 r12 f f x1 x2 0 G' ∧ (∀ o j, o ≠ 115 → G' o j = G0 o j) ∧ ∀ j, j < np → G' 115 j = 0 := by
  intro d
  induction d with
  | zero =>
    intro p fu G h1 h2 h3 h4
    obtain ⟨fu, rfl⟩ : ∃ t, fu = t + 1 := ⟨fu - 1, by omega⟩
    refine ⟨G, ?_, h3, fun j hj => h4 j (by omega)⟩
    show g293_26b r12 (g293_26 r12 f fu) f _ _ _ _ = _
    unfold g293_26b
    rw [h3 _ _ (by omega), h8, if_pos (by omega)]
  | succ d ih =>
    intro p fu G h1 h2 h3 h4
    obtain ⟨fu, rfl⟩ : ∃ t, fu = t + 1 := ⟨fu - 1, by omega⟩
    have e5 : xwr ((p : Int) + 1) = ((p + 1 : Nat) : Int) := by rw [xwr_g _ (by omega) (by omega)]; omega
    obtain ⟨G', k1, k2, k3⟩ := ih (p + 1) fu (xup2 G 115 p 0) (by omega) (by omega) (fun o j y => by rw [xup2_n (fun q => y q.1)]; exact h3 o j y) (fun j hj => by
      by_cases cj : j = p
      · rw [cj, xup2_s]
      · rw [xup2_n (by omega)]; exact h4 j (by omega))
    refine ⟨G', ?_, k2, k3⟩
    rw [← k1]
    show g293_26b r12 (g293_26 r12 f fu) f _ _ _ _ = _
    unfold g293_26b
    rw [h3 _ _ (by omega), h8, if_neg (by omega), if_pos (by omega), Int.toNat_natCast, Option.bind_some, e5]
/-- workRing, level after level -/
theorem l_293_12 (hf : 1000100 < f) (hok : qOk s) : ∀ (d n fu : Nat) (G : xG_) (R : Nat → List pRw), 1601 ≤ qTo R s.1.length + d → d + 1 < fu → n + d ≤ 3300 → rEn G q c s R → qTb s R → G 0 40 = -1 → G 0 43 = 0 → wkC s rg R0 n R → ∃ G' b, g293_12 f fu (rg : Int) ((n + 1 : Nat) : Int) G = some (b, G') ∧ xRg G G' ∧ ((b = 1 ∧ G' 0 43 = 0 ∧ ∃ R', rEn G' q c s R' ∧ qTb s R' ∧ wkE s rg R0 R') ∨ (b = 0 ∧ wkO s rg R0)) := by
  have hnp : s.1.length ≤ 16 := hok.1.1
  intro d
  induction d with
  | zero =>
    intro n fu G R h1 h2 hn hE hT h40 h43 hC
    exfalso
    have := qTo_le s.1.length (fun p hp => (hT p hp).1)
    omega
  | succ d ih =>
    intro n fu G R h1 h2 hn hE hT h40 h43 hC
    obtain ⟨fu, rfl⟩ : ∃ t, fu = t + 1 := ⟨fu - 1, by omega⟩
    have n43 : ¬ ¬ G 0 43 = 0 := fun q => q h43
    have h8 : G 2 8 = (s.1.length : Int) := hE.1.1.1
    let G1 := xup2 G 0 47 0
    have z1 : ∀ o j, ¬ (o = 0 ∧ j = 47) → G1 o j = G o j := fun o j h => xup2_n h
    obtain ⟨G2, a1, a2, a3⟩ := l_26 (f := f) (r12 := g293_12 f fu) (x1 := (rg : Int)) (x2 := ((n + 1 : Nat) : Int)) (G0 := G1) hnp (by rw [z1 _ _ (by omega)]; exact h8) s.1.length 0 f G1 (by omega) (by omega) (fun _ _ _ => rfl) (fun j hj => absurd hj (by omega))
    have e0 : g293_12 f (fu + 1) (rg : Int) ((n + 1 : Nat) : Int) G = g293_52 (g293_12 f fu) f f (rg : Int) ((n + 1 : Nat) : Int) 0 G2 := by
      rw [← a1]
      show g293_12b (g293_12 f fu) f _ _ _ = _
      unfold g293_12b
      rw [if_neg n43]
      rfl
    have hE2 : rEn G2 q c s R := hE.ge (fun a j _ _ => by rw [a2 _ _ (by omega), z1 _ _ (by omega)]) (fun a j _ _ => by rw [a2 _ _ (by omega), z1 _ _ (by omega)])
    have hF0 : rFr G2 s.1.length (qN s) R [] := ⟨by rw [a2 _ _ (by omega)]; exact xup2_s _ _ _ _, fun i hi => absurd hi (Nat.not_lt_zero _), fun p hp => ⟨a3 p hp, (hT p hp).1⟩⟩
    have z43 : G2 0 43 = 0 := by rw [a2 _ _ (by omega), z1 _ _ (by omega)]; exact h43
    obtain ⟨G3, b1, b2, b3⟩ := l_52 (f := f) (r12 := g293_12 f fu) (rg := rg) (st := ((n + 1 : Nat) : Int)) hf hok hT (by omega) s.2.2.2.2.1.length 0 f G2 (by omega) (by have := hE.1.2.2.1.2.1; omega) hE2 (by rw [a2 _ _ (by omega), z1 _ _ (by omega)]; exact h40) (.inl ⟨z43, [], hF0, List.nodup_nil, fun y => ⟨fun h => absurd h (by simp), fun ⟨r, hr, _⟩ => by omega⟩⟩)
    have b1' : g293_52 (g293_12 f fu) f f (rg : Int) ((n + 1 : Nat) : Int) 0 G2 = _ := b1
    have fr3 : ∀ o j, ¬ (o = 0 ∧ (37 ≤ j ∧ j ≤ 39 ∨ 42 ≤ j ∧ j ≤ 61)) → ¬ (110 ≤ o ∧ o ≤ 121 ∧ o ≠ 118) → G3 o j = G o j := fun o j y1 y2 => by rw [b2 o j y1 y2, a2 o j (by omega), z1 o j (by omega)]
    rw [e0, b1']
    rcases b3 with ⟨c43, F, c1, c2, c3⟩ | ⟨c43, c1⟩
    · have hlenF := c1.len
      by_cases cF : F = []
      · refine ⟨G3, 1, ?_, fun o j y1 y2 => fr3 o j y1 (by omega), .inl ⟨rfl, c43, R, hE.ge (fun a j _ _ => fr3 _ _ (by omega) (by omega)) (fun a j _ _ => fr3 _ _ (by omega) (by omega)), hT, n, hC, fun p xs hp hs => ?_⟩⟩
        · have h47 : G3 0 47 = 0 := by rw [c1.1, cF]; rfl
          have n47 : ¬ ¬ G3 0 47 = 0 := fun q => q h47
          unfold g293_159
          rw [if_pos c43, if_neg n47]
        · have := (c3 (p, xs)).mpr hs
          rw [cF] at this
          cases this
      · have n47 : ¬ G3 0 47 = 0 := by
          rw [c1.1]
          have := List.length_pos_iff.mpr cF
          omega
        have hE3 : rEn G3 q c s R := hE.ge (fun a j _ _ => fr3 _ _ (by omega) (by omega)) (fun a j _ _ => fr3 _ _ (by omega) (by omega))
        have hN3 : ∀ p, p < s.1.length → G3 4 p = (qN s p : Int) := fun p hp => by
          rw [(qN_c hok.1 p).1]
          exact hE3.2.1 p hp
        have e12 : ((n + 2 : Nat) : Int) = xwr (((n + 1 : Nat) : Int) + 1) := by rw [xwr_g _ (by omega) (by omega)]; omega
        obtain ⟨G4, R', d1, d2, d3, d4⟩ := l_179 (f := f) (r12 := g293_12 f fu) (rg := rg) (st := ((n + 1 : Nat) : Int)) (G0 := G3) (by omega) hok hT c1 c2 (fun y hy => by
            obtain ⟨r, _, _, _, _, _, _, h⟩ := (c3 y).mp hy
            exact h) hN3 (e12 := ((n + 2 : Nat) : Int)) F.length 0 f G3 R (by omega) (by omega) (fun _ _ _ => rfl) hE3.2.2.2 (fun p hp => ⟨(hT p hp).2.1, by rw [List.take_zero]; rfl, fun y => by rw [List.take_zero]; exact ⟨.inl, fun h => h.elim id (fun h => absurd h.2 (by simp))⟩⟩) e12
        have d1' : g293_179 (g293_12 f fu) f f (rg : Int) ((n + 1 : Nat) : Int) 0 G3 = _ := d1
        have hlv : isLv s rg ((n + 1 : Nat) : Int) R R' := fun p hp => by
          obtain ⟨w1, w2, w3⟩ := d4 p hp
          refine ⟨w1, fun y => ?_⟩
          rw [w3 y, c3 (p, y.1)]
        have hT' : qTb s R' := fun p hp => by
          obtain ⟨w1, w2, w3⟩ := d4 p hp
          have := (c1.2.2 p hp).2
          refine ⟨by omega, w1, fun w hw => ?_⟩
          rcases (w3 w).mp hw with h | ⟨_, h⟩
          · exact (hT p hp).2.2 w h
          · obtain ⟨r, r1, r2, r3, r4, r5, r6, r7⟩ := (c3 _).mp h
            have hm : s.2.2.2.2.1.getD r dRu ∈ s.2.2.2.2.1 := by rw [getD_e r2]; exact List.getElem_mem r2
            obtain ⟨v1, v2⟩ := rlD_ok hok hm hT (fun hg => isAll_le (f := f) (by omega) hok hE3 hT r2 hg) r6
            refine ⟨?_, v2⟩
            obtain ⟨u, eu, _, _, _, _, _, _, p', p1, p2, p3⟩ := rul hok hE3 r2
            rw [eu] at p1 p3
            have : p' = p := by
              have r3' : (s.2.2.2.2.1.getD r dRu).1 = ((p : Nat) : Int) := r3
              omega
            rw [← this]
            exact v1.trans p3
        have hgrow : qTo R s.1.length < qTo R' s.1.length := by
          refine (qTo_lt s.1.length (fun p hp => by have := (d4 p hp).2.1; omega)).2 ?_
          obtain ⟨y, hy⟩ := List.exists_mem_of_ne_nil _ cF
          obtain ⟨i, hi, ei⟩ := List.getElem_of_mem hy
          have hp := (c1.2.1 i hi).1
          rw [getD_e hi, ei] at hp
          have := fCt_pos.mpr ⟨y, hy, rfl⟩
          exact ⟨y.1, hp, by have := (d4 y.1 hp).2.1; omega⟩
        have hC' : wkC s rg R0 (n + 1) R' := ⟨R, hC, by
          obtain ⟨y, hy⟩ := List.exists_mem_of_ne_nil _ cF
          obtain ⟨i, hi, ei⟩ := List.getElem_of_mem hy
          have hp := (c1.2.1 i hi).1
          rw [getD_e hi, ei] at hp
          exact ⟨y.1, y.2, hp, (c3 y).mp hy⟩, hlv⟩
        obtain ⟨e1, e2, e3, e4⟩ := hE3
        have hE4 : rEn G4 q c s R' := by
          refine ⟨e1.ge (fun j => d2 _ _ (by omega)) (fun a j _ _ _ _ _ => d2 _ _ (by omega)), fun y hy => by rw [d2 _ _ (by omega)]; exact e2 y hy, ⟨fun p hp => by rw [d2 _ _ (by omega)]; exact e3.1 p hp, fun p hp => by rw [d2 _ _ (by omega)]; exact e3.2 p hp⟩, d3⟩
        obtain ⟨G5, b, s1, s2, s3⟩ := ih (n + 1) fu G4 R' (by omega) (by omega) (by omega) hE4 hT' (by rw [d2 _ _ (by omega), fr3 _ _ (by omega) (by omega)]; exact h40) (by rw [d2 _ _ (by omega)]; exact c43) hC'
        refine ⟨G5, b, ?_, fun o j y1 y2 => by rw [s2 o j y1 y2, d2 o j (by omega), fr3 o j y1 (by omega)], s3⟩
        unfold g293_159
        rw [if_pos c43, if_pos n47, d1']
        exact s1
    · refine ⟨G3, 0, ?_, fun o j y1 y2 => fr3 o j y1 (by omega), .inr ⟨rfl, n, R, hC, c1⟩⟩
      unfold g293_159
      rw [if_neg c43]
/-- workRing -/
theorem l_293 {G : xG_} {R : Nat → List pRw} (hf : 1000100 < f) (hok : qOk s) (hE : rEn G q c s R) (hT : qTb s R) : ∃ G' b, g293 f (rg : Int) G = some (b, G') ∧ (∀ o j, ¬ (o = 0 ∧ (37 ≤ j ∧ j ≤ 40 ∨ 42 ≤ j ∧ j ≤ 61)) → ¬ (107 ≤ o ∧ o ≤ 121 ∧ o ≠ 118) → G' o j = G o j) ∧ ((b = 1 ∧ ∃ R', rEn G' q c s R' ∧ qTb s R' ∧ wkE s rg R R') ∨ (b = 0 ∧ wkO s rg R)) := by
  let G1 := xup2 (xup2 G 0 43 0) 0 40 (-1)
  have z1 : ∀ o j, ¬ (o = 0 ∧ (j = 40 ∨ j = 43)) → G1 o j = G o j := fun o j h => by
    show xup2 _ _ _ _ _ _ = _
    rw [xup2_n (by omega), xup2_n (by omega)]
  obtain ⟨G2, b, k1, k2, k3⟩ := l_293_12 (f := f) (rg := rg) (R0 := R) hf hok 1601 0 f G1 R (by omega) (by omega) (by omega) (hE.ge (fun a j _ _ => z1 _ _ (by omega)) (fun a j _ _ => z1 _ _ (by omega))) hT (xup2_s _ _ _ _) (by show xup2 _ _ _ _ _ _ = _; rw [xup2_n (by omega), xup2_s]) (fun p _ => rfl)
  refine ⟨G2, b, ?_, fun o j y1 y2 => by rw [k2 o j (by omega) y2, z1 o j (by omega)], ?_⟩
  · unfold g293
    exact k1
  · rcases k3 with ⟨c1, _, c2⟩ | c1
    · exact .inl ⟨c1, c2⟩
    · exact .inr c1
end
end
section
/-! RINGS: what the closure says; a ring that may be worked next -/
section
variable {np : Nat} {T : Nat → Nat}
theorem qW1_t {m p j : Nat} (hp : p < np) : (qW1 T m np p).testBit j = true ↔ (T p).testBit j = true ∨ ((T p).testBit m = true ∧ (T m).testBit j = true) := by
  unfold qW1
  by_cases c : (T p).testBit m = true
  · rw [if_pos ⟨hp, c⟩, Nat.testBit_or, Bool.or_eq_true]
    constructor
    · rintro (h | h)
      · exact .inl h
      · exact .inr ⟨c, h⟩
    · rintro (h | ⟨_, h⟩)
      · exact .inl h
      · exact .inr h
  · rw [if_neg (fun h => c h.2)]
    constructor
    · exact .inl
    · rintro (h | ⟨h, _⟩)
      · exact h
      · exact absurd h c
theorem qWm_i : ∀ (k : Nat), k ≤ np → (∀ x, x < np → ∀ j, (T x).testBit j = true → (qWm np T k x).testBit j = true) ∧ ∀ j, j < k → ∀ x, x < np → (qWm np T k x).testBit j = true → ∀ y, (qWm np T k j).testBit y = true → (qWm np T k x).testBit y = true
  | 0, _ => ⟨fun _ _ _ h => h, fun j hj => by omega⟩
  | k + 1, hk => by
    obtain ⟨a1, a2⟩ := qWm_i k (by omega)
    refine ⟨fun x hx j h => (qW1_t hx).mpr (.inl (a1 x hx j h)), fun j hj x hx hxj y hjy => ?_⟩
    have hjn : j < np := by omega
    rcases (qW1_t hx).mp hxj with h1 | ⟨h1, h2⟩
    · by_cases cj : j = k
      · rw [cj] at h1 hjy
        rcases (qW1_t (by omega : k < np)).mp hjy with h3 | ⟨_, h3⟩
        · exact (qW1_t hx).mpr (.inr ⟨h1, h3⟩)
        · exact (qW1_t hx).mpr (.inr ⟨h1, h3⟩)
      · rcases (qW1_t hjn).mp hjy with h3 | ⟨h3, h4⟩
        · exact (qW1_t hx).mpr (.inl (a2 j (by omega) x hx h1 y h3))
        · exact (qW1_t hx).mpr (.inr ⟨a2 j (by omega) x hx h1 k h3, h4⟩)
    · by_cases cj : j = k
      · rw [cj] at hjy
        rcases (qW1_t (by omega : k < np)).mp hjy with h3 | ⟨_, h3⟩
        · exact (qW1_t hx).mpr (.inr ⟨h1, h3⟩)
        · exact (qW1_t hx).mpr (.inr ⟨h1, h3⟩)
      · rcases (qW1_t hjn).mp hjy with h3 | ⟨h3, h4⟩
        · exact (qW1_t hx).mpr (.inr ⟨h1, a2 j (by omega) k (by omega) h2 y h3⟩)
        · exact (qW1_t hx).mpr (.inr ⟨h1, h4⟩)
/-- the closure holds all that is read, and goes on -/
theorem qWm_tr : (∀ x, x < np → ∀ j, (T x).testBit j = true → (qWm np T np x).testBit j = true) ∧ ∀ x j y, x < np → j < np → (qWm np T np x).testBit j = true → (qWm np T np j).testBit y = true → (qWm np T np x).testBit y = true := by
  obtain ⟨a1, a2⟩ := qWm_i (T := T) np (Nat.le_refl _)
  exact ⟨a1, fun x j y hx hj h1 h2 => a2 j hj x hx h1 y h2⟩
theorem qRg_is {A : Nat → Nat} {x : Nat} : ∀ (k c : Nat), (∃ y, y < k ∧ qRg A x k c = y ∧ (A x).testBit y = true ∧ (A y).testBit x = true ∧ ∀ z, z < y → ¬ ((A x).testBit z = true ∧ (A z).testBit x = true)) ∨ (qRg A x k c = c ∧ ∀ z, z < k → ¬ ((A x).testBit z = true ∧ (A z).testBit x = true))
  | 0, c => .inr ⟨rfl, fun z hz => by omega⟩
  | k + 1, c => by
    show (∃ y, y < k + 1 ∧ qRg A x k (if (A x).testBit k = true ∧ (A k).testBit x = true then k else c) = y ∧ _) ∨ (qRg A x k (if (A x).testBit k = true ∧ (A k).testBit x = true then k else c) = c ∧ _)
    by_cases h : (A x).testBit k = true ∧ (A k).testBit x = true
    · rw [if_pos h]
      rcases qRg_is k k with ⟨y, y1, y2, y3, y4, y5⟩ | ⟨y1, y2⟩
      · exact .inl ⟨y, by omega, y2, y3, y4, y5⟩
      · exact .inl ⟨k, by omega, y1, h.1, h.2, y2⟩
    · rw [if_neg h]
      rcases qRg_is k c with ⟨y, y1, y2, y3, y4, y5⟩ | ⟨y1, y2⟩
      · exact .inl ⟨y, by omega, y2, y3, y4, y5⟩
      · refine .inr ⟨y1, fun z hz => ?_⟩
        by_cases cz : z = k
        · rw [cz]; exact h
        · exact y2 z (by omega)
def mt (A : Nat → Nat) (x y : Nat) : Prop := x = y ∨ ((A x).testBit y = true ∧ (A y).testBit x = true)
theorem qRing_is (A : Nat → Nat) (x : Nat) : qRing A x ≤ x ∧ mt A x (qRing A x) ∧ ∀ z, z < qRing A x → ¬ mt A x z := by
  unfold qRing
  rcases qRg_is (A := A) (x := x) x x with ⟨y, y1, y2, y3, y4, y5⟩ | ⟨y1, y2⟩
  · rw [y2]
    refine ⟨by omega, .inr ⟨y3, y4⟩, fun z hz h => ?_⟩
    rcases h with h | h
    · omega
    · exact y5 z hz h
  · rw [y1]
    refine ⟨Nat.le_refl _, .inl rfl, fun z hz h => ?_⟩
    rcases h with h | h
    · omega
    · exact y2 z hz h
end
section
variable {np : Nat} {A : Nat → Nat}
theorem mt_tr (hA : ∀ x j y, x < np → j < np → (A x).testBit j = true → (A j).testBit y = true → (A x).testBit y = true) {x y z : Nat} (hx : x < np) (hy : y < np) (hz : z < np) (h1 : mt A x y) (h2 : mt A y z) : mt A x z := by
  rcases h1 with h1 | h1
  · rw [h1]; exact h2
  · rcases h2 with h2 | h2
    · rw [← h2]; exact .inr h1
    · exact .inr ⟨hA x y z hx hy h1.1 h2.1, hA z y x hz hy h2.2 h1.2⟩
theorem mt_sy {x y : Nat} (h : mt A x y) : mt A y x := h.elim (fun h => .inl h.symm) (fun h => .inr ⟨h.2, h.1⟩)
theorem qRing_eq (hA : ∀ x j y, x < np → j < np → (A x).testBit j = true → (A j).testBit y = true → (A x).testBit y = true) {x y : Nat} (hx : x < np) (hy : y < np) (h : mt A x y) : qRing A x = qRing A y := by
  obtain ⟨a1, a2, a3⟩ := qRing_is A x
  obtain ⟨b1, b2, b3⟩ := qRing_is A y
  by_cases c : qRing A x < qRing A y
  · exact absurd (mt_tr hA hy hx (by omega) (mt_sy h) a2) (b3 _ c)
  · by_cases c2 : qRing A y < qRing A x
    · exact absurd (mt_tr hA hx hy (by omega) h b2) (a3 _ c2)
    · omega
theorem qRing_id (hA : ∀ x j y, x < np → j < np → (A x).testBit j = true → (A j).testBit y = true → (A x).testBit y = true) {x : Nat} (hx : x < np) : qRing A (qRing A x) = qRing A x := by
  obtain ⟨a1, a2, a3⟩ := qRing_is A x
  exact (qRing_eq hA hx (by omega) a2).symm
/-- a ring whose readings are worked -/
theorem rdy (hA : ∀ x j y, x < np → j < np → (A x).testBit j = true → (A j).testBit y = true → (A x).testBit y = true) {Rd : Nat → Nat} {dn : Nat} (h1 : ∀ x, x < np → ∀ j, (Rd x).testBit j = true → (A x).testBit j = true ∧ j < np) (hd : ∀ p, p < np → (dn.testBit p = true ↔ dn.testBit (qRing A p) = true)) : ∀ (n r : Nat), (List.range np).countP (fun z => decide (z = r) || (A r).testBit z) ≤ n → r < np → qRing A r = r → dn.testBit r = false → ∃ r, r < np ∧ qRing A r = r ∧ dn.testBit r = false ∧ ∀ p, p < np → qRing A p = r → ∀ y, (Rd p).testBit y = true → dn.testBit y = true ∨ qRing A y = r := by
  intro n
  induction n with
  | zero =>
    intro r hc hr _ _
    exfalso
    have : 0 < (List.range np).countP (fun z => decide (z = r) || (A r).testBit z) := List.countP_pos_iff.mpr ⟨r, List.mem_range.mpr hr, by simp⟩
    omega
  | succ n ih =>
    intro r hc hr hrr hdr
    by_cases c : ∃ p y, p < np ∧ qRing A p = r ∧ (Rd p).testBit y = true ∧ dn.testBit y = false ∧ qRing A y ≠ r
    · obtain ⟨p, y, q1, q2, q3, q4, q5⟩ := c
      obtain ⟨y1, y2⟩ := h1 p q1 y q3
      obtain ⟨a1, a2, a3⟩ := qRing_is A p
      obtain ⟨b1, b2, b3⟩ := qRing_is A y
      rw [q2] at a2
      have hy' : qRing A y < np := by omega
      have ry : (A r).testBit y = true := by
        rcases a2 with e | e
        · rw [← e]; exact y1
        · exact hA r p y hr q1 e.2 y1
      have rr' : (A r).testBit (qRing A y) = true := by
        rcases b2 with e | e
        · rw [← e]; exact ry
        · exact hA r y _ hr y2 ry e.1
      have nr : ¬ (A (qRing A y)).testBit r = true := fun e => by
        have := qRing_eq hA hr hy' (.inr ⟨rr', e⟩)
        rw [hrr, qRing_id hA y2] at this
        exact q5 this.symm
      refine ih (qRing A y) ?_ hy' (qRing_id hA y2) ?_
      · have := countP_lt (p := fun z => decide (z = qRing A y) || (A (qRing A y)).testBit z) (q := fun z => decide (z = r) || (A r).testBit z) (List.range np) (fun z hz hp => by
          simp only [Bool.or_eq_true, decide_eq_true_eq] at hp ⊢
          rcases hp with e | e
          · rw [e]; exact .inr rr'
          · exact .inr (hA r _ z hr hy' rr' e)) ⟨r, List.mem_range.mpr hr, by simp, by
          simp only [Bool.or_eq_false_iff, decide_eq_false_iff_not]
          exact ⟨fun e => q5 e.symm, by cases h : (A (qRing A y)).testBit r with
            | true => exact absurd h nr
            | false => rfl⟩⟩
        omega
      · cases h : dn.testBit (qRing A y) with
        | true => rw [(hd y y2).mpr h] at q4; cases q4
        | false => rfl
    · refine ⟨r, hr, hrr, hdr, fun p hp hpr y hy => ?_⟩
      by_cases c1 : dn.testBit y = true
      · exact .inl c1
      · refine .inr (Classical.byContradiction (fun q => c ⟨p, y, hp, hpr, hy, ?_, q⟩))
        cases h : dn.testBit y with
        | true => exact absurd h c1
        | false => rfl
end
end
section
/-! RINGS: what their rows hang on; there is but one outcome -/
theorem isW_cg {l : List pLt} {nv : Nat} {R R' : Nat → List pRw} {v : List Int} (h : ∀ y ∈ l, y.1 ≠ 3 → R y.2.1.toNat = R' y.2.1.toNat) : isW l nv R qO1 v → isW l nv R' qO1 v := by
  rintro ⟨h1, h2, h3⟩
  refine ⟨h1, fun y hy c => ?_, fun y hy => ⟨fun c => ?_, (h3 y hy).2⟩⟩
  · rw [← h y hy (by omega)]
    exact h2 y hy c
  · rw [← h y hy (by omega)]
    exact (h3 y hy).1 c
theorem isW_ci {l : List pLt} {nv : Nat} {R R' : Nat → List pRw} {v : List Int} (h : ∀ y ∈ l, y.1 ≠ 3 → R y.2.1.toNat = R' y.2.1.toNat) : isW l nv R qO1 v ↔ isW l nv R' qO1 v := ⟨isW_cg h, isW_cg (fun y hy c => (h y hy c).symm)⟩
theorem rlD_cg {u : pRu} {R R' : Nat → List pRw} {xs : List Int} (h : ∀ y ∈ u.2.2.2.2.2, y.1 ≠ 3 → R y.2.1.toNat = R' y.2.1.toNat) : rlD u R xs ↔ rlD u R' xs := by
  unfold rlD
  by_cases c : qG u = 0
  · rw [if_pos c, if_pos c]
    constructor
    · rintro ⟨v, v1, v2⟩
      exact ⟨v, (isW_ci h).mp v1, v2⟩
    · rintro ⟨v, v1, v2⟩
      exact ⟨v, (isW_ci h).mpr v1, v2⟩
  · rw [if_neg c, if_neg c]
    have ha : ∀ V, isAll u.2.2.2.2.2 u.2.2.2.2.1.length R qO1 V ↔ isAll u.2.2.2.2.2 u.2.2.2.2.1.length R' qO1 V := fun V => by
      unfold isAll
      constructor
      · exact fun ⟨a, b⟩ => ⟨a, fun v => (b v).trans (isW_ci h)⟩
      · exact fun ⟨a, b⟩ => ⟨a, fun v => (b v).trans (isW_ci h).symm⟩
    unfold gDs
    constructor
    · rintro ⟨ks, V, v1, v2⟩
      exact ⟨ks, V, (ha V).mp v1, v2⟩
    · rintro ⟨ks, V, v1, v2⟩
      exact ⟨ks, V, (ha V).mpr v1, v2⟩
/-- y is read by a rule whose HEAD is in the ring -/
def rgR (s : pPg) (rg : Nat) (y : Nat) : Prop := ∃ u ∈ s.2.2.2.2.1, qK s u.1.toNat = rg ∧ ∃ z ∈ u.2.2.2.2.2, z.1 ≠ 3 ∧ z.2.1.toNat = y
section
variable {s : pPg} {rg : Nat} {st : Int} {R R' R0 R0' : Nat → List pRw}
theorem stD_cg {rm p : Nat} {xs : List Int} (h1 : ∀ y, rgR s rg y → R y = R' y) (h2 : p < s.1.length → qK s p = rg → R p = R' p) (hp : p < s.1.length) : stD s rg st R rm p xs ↔ stD s rg st R' rm p xs := by
  have key : ∀ {R R' : Nat → List pRw}, (∀ y, rgR s rg y → R y = R' y) → (qK s p = rg → R p = R' p) → stD s rg st R rm p xs → stD s rg st R' rm p xs := by
    rintro R R' h1 h2 ⟨r, a1, a2, a3, a4, a5, a6, a7⟩
    have hm : s.2.2.2.2.1.getD r dRu ∈ s.2.2.2.2.1 := by rw [getD_e a2]; exact List.getElem_mem a2
    refine ⟨r, a1, a2, a3, a4, a5, (rlD_cg (fun y hy c => h1 _ ⟨_, hm, by rw [a3]; exact a4, y, hy, c, rfl⟩)).mp a6, ?_⟩
    unfold rNw
    rw [← h2 a4]
    exact a7
  exact ⟨key h1 (h2 hp), key (fun y hy => (h1 y hy).symm) (fun h => (h2 hp h).symm)⟩
theorem lv_out {p : Nat} (h : isLv s rg st R R') (hp : p < s.1.length) (hk : qK s p ≠ rg) (hs : (R p).Pairwise rwLt) : R' p = R p := by
  obtain ⟨a1, a2⟩ := h p hp
  refine srt_ext rwLt_irr (fun _ _ _ => rwLt_tr) _ _ a1 hs (fun y => ?_)
  rw [a2]
  constructor
  · rintro (q | ⟨_, r, _, _, _, q, _⟩)
    · exact q
    · exact absurd q hk
  · exact .inl
/-- rows of other rings stay -/
theorem wkC_out (hs : ∀ p, p < s.1.length → (R0 p).Pairwise rwLt) : ∀ (n : Nat) (R : Nat → List pRw), wkC s rg R0 n R → (∀ p, p < s.1.length → (R p).Pairwise rwLt) ∧ ∀ p, p < s.1.length → qK s p ≠ rg → R p = R0 p
  | 0, R, h => ⟨fun p hp => by rw [h p hp]; exact hs p hp, fun p hp _ => h p hp⟩
  | n + 1, R, h => by
    obtain ⟨R1, h1, _, h3⟩ := h
    obtain ⟨a1, a2⟩ := wkC_out hs n R1 h1
    exact ⟨fun p hp => (h3 p hp).1, fun p hp hk => by rw [lv_out h3 hp hk (a1 p hp)]; exact a2 p hp hk⟩
/-- the same levels over rows that are the same where the ring looks -/
theorem wkC_cg (hrd : ∀ y, rgR s rg y → y < s.1.length) (hs : ∀ p, p < s.1.length → (R0 p).Pairwise rwLt) (hs' : ∀ p, p < s.1.length → (R0' p).Pairwise rwLt) (h0 : ∀ p, p < s.1.length → (qK s p = rg ∨ rgR s rg p) → R0 p = R0' p) : ∀ (n : Nat) (R : Nat → List pRw), wkC s rg R0 n R → ∃ R', wkC s rg R0' n R' ∧ (∀ p, p < s.1.length → qK s p = rg → R' p = R p) ∧ ∀ p, p < s.1.length → (qK s p = rg ∨ rgR s rg p) → R' p = R p
  | 0, R, h => ⟨R0', fun _ _ => rfl, fun p hp hk => by rw [h p hp]; exact (h0 p hp (.inl hk)).symm, fun p hp hk => by rw [h p hp]; exact (h0 p hp hk).symm⟩
  | n + 1, R, h => by
    obtain ⟨R1, h1, ⟨p0, xs0, q1, q2⟩, h3⟩ := h
    obtain ⟨R1', k1, k2, k3⟩ := wkC_cg hrd hs hs' h0 n R1 h1
    obtain ⟨a1, a2⟩ := wkC_out hs n R1 h1
    obtain ⟨b1, b2⟩ := wkC_out hs' n R1' k1
    have hst : ∀ rm p xs, p < s.1.length → (stD s rg ((n + 1 : Nat) : Int) R1 rm p xs ↔ stD s rg ((n + 1 : Nat) : Int) R1' rm p xs) := fun rm p xs hp => stD_cg (fun y hy => (k3 y (hrd y hy) (.inr hy)).symm) (fun hp hk => (k2 p hp hk).symm) hp
    let R' : Nat → List pRw := fun p => if qK s p = rg then R p else R1' p
    have eo : ∀ p, qK s p = rg → R' p = R p := fun p hk => if_pos hk
    have en : ∀ p, qK s p ≠ rg → R' p = R1' p := fun p hk => if_neg hk
    refine ⟨R', ⟨R1', k1, ⟨p0, xs0, q1, (hst _ _ _ q1).mp q2⟩, fun p hp => ?_⟩, fun p hp hk => eo p hk, fun p hp hk => ?_⟩
    · by_cases c : qK s p = rg
      · rw [eo p c]
        obtain ⟨w1, w2⟩ := h3 p hp
        refine ⟨w1, fun y => ?_⟩
        rw [w2, k2 p hp c, hst _ _ _ hp]
      · rw [en p c]
        refine ⟨b1 p hp, fun y => ⟨.inl, ?_⟩⟩
        rintro (q | ⟨_, r, _, _, _, q, _⟩)
        · exact q
        · exact absurd q c
    · by_cases c : qK s p = rg
      · exact eo p c
      · rw [en p c, k3 p hp hk, lv_out h3 hp c (a1 p hp)]
/-- levels are what they are -/
theorem wkC_det (hrd : ∀ y, rgR s rg y → y < s.1.length) : ∀ (n : Nat) (R R' : Nat → List pRw), wkC s rg R0 n R → wkC s rg R0 n R' → ∀ p, p < s.1.length → R p = R' p
  | 0, R, R', h, h', p, hp => by rw [h p hp, h' p hp]
  | n + 1, R, R', h, h', p, hp => by
    obtain ⟨R1, h1, _, h3⟩ := h
    obtain ⟨R1', k1, _, k3⟩ := h'
    have ih := wkC_det hrd n R1 R1' h1 k1
    obtain ⟨a1, a2⟩ := h3 p hp
    obtain ⟨b1, b2⟩ := k3 p hp
    refine srt_ext rwLt_irr (fun _ _ _ => rwLt_tr) _ _ a1 b1 (fun y => ?_)
    rw [a2, b2, ih p hp]
    rw [stD_cg (fun y hy => ih y (hrd y hy)) (fun hp _ => ih p hp) hp]
theorem wkC_pre : ∀ (n : Nat) (R : Nat → List pRw), wkC s rg R0 n R → ∀ m, m ≤ n → ∃ Rm, wkC s rg R0 m Rm ∧ (m < n → ∃ p xs, p < s.1.length ∧ stD s rg ((m + 1 : Nat) : Int) Rm s.2.2.2.2.1.length p xs) ∧ ∀ p, p < s.1.length → ∀ y, y ∈ Rm p → y ∈ R p
  | 0, R, h, m, hm => by
    have : m = 0 := by omega
    subst this
    exact ⟨R, h, fun q => by omega, fun _ _ _ h => h⟩
  | n + 1, R, h, m, hm => by
    by_cases c : m = n + 1
    · subst c
      exact ⟨R, h, fun q => by omega, fun _ _ _ h => h⟩
    · obtain ⟨R1, h1, h2, h3⟩ := h
      obtain ⟨Rm, k1, k2, k3⟩ := wkC_pre n R1 h1 m (by omega)
      by_cases c2 : m = n
      · subst c2
        exact ⟨R1, h1, fun _ => h2, fun p hp y hy => ((h3 p hp).2 y).mpr (.inl hy)⟩
      · exact ⟨Rm, k1, fun _ => k2 (by omega), fun p hp y hy => ((h3 p hp).2 y).mpr (.inl (k3 p hp y hy))⟩
theorem wkE_det (hrd : ∀ y, rgR s rg y → y < s.1.length) (h : wkE s rg R0 R) (h' : wkE s rg R0 R') : ∀ p, p < s.1.length → R p = R' p := by
  obtain ⟨n, a1, a2⟩ := h
  obtain ⟨n', b1, b2⟩ := h'
  have no : ∀ {n n' : Nat} {R R' : Nat → List pRw}, wkC s rg R0 n R → (∀ p xs, p < s.1.length → ¬ stD s rg ((n + 1 : Nat) : Int) R s.2.2.2.2.1.length p xs) → wkC s rg R0 n' R' → ¬ n < n' := by
    intro n n' R R' a1 a2 b1 hlt
    obtain ⟨Rm, k1, k2, _⟩ := wkC_pre n' R' b1 n (by omega)
    obtain ⟨p, xs, p1, p2⟩ := k2 hlt
    have e := wkC_det hrd n Rm R k1 a1
    exact a2 p xs p1 ((stD_cg (fun y hy => e y (hrd y hy)) (fun hp _ => e p hp) p1).mp p2)
  have h1 := no a1 a2 b1
  have h2 := no b1 b2 a1
  have : n = n' := by omega
  subst this
  exact wkC_det hrd n R R' a1 b1
theorem nodup_len {α : Type} [DecidableEq α] : ∀ (l l' : List α), l.Nodup → (∀ x ∈ l, x ∈ l') → l.length ≤ l'.length
  | [], _, _, _ => Nat.zero_le _
  | x :: l, l', h, hs => by
    rw [List.nodup_cons] at h
    have hx := hs x List.mem_cons_self
    have h1 := nodup_len l (l'.erase x) h.2 (fun y hy => by
      have hne : y ≠ x := fun e => h.1 (e ▸ hy)
      exact (List.mem_erase_of_ne hne).mpr (hs y (List.mem_cons_of_mem _ hy)))
    rw [List.length_erase_of_mem hx] at h1
    have := List.length_pos_of_mem hx
    rw [List.length_cons]
    omega
/-- too many at a level: no end within the LIMIT -/
theorem wkO_no (hrd : ∀ y, rgR s rg y → y < s.1.length) (hs : ∀ p, p < s.1.length → (R0 p).Pairwise rwLt) (hhd : ∀ u ∈ s.2.2.2.2.1, 0 ≤ u.1 ∧ u.1 < s.1.length) (h : wkO s rg R0) (h' : wkE s rg R0 R) (hl : ∀ p, p < s.1.length → (R p).length ≤ 100) : False := by
  obtain ⟨n1, R1, a1, F, p, a2, a3, a4, a5⟩ := h
  obtain ⟨n, b1, b2⟩ := h'
  have stp : ∀ {st : Int} {R : Nat → List pRw} {p : Nat} {xs : List Int}, stD s rg st R s.2.2.2.2.1.length p xs → p < s.1.length := by
    rintro st R p xs ⟨r, _, r2, r3, _⟩
    have := hhd _ (List.getElem_mem r2)
    rw [← getD_e (d := dRu) r2, r3] at this
    omega
  by_cases c : n1 < n
  · obtain ⟨R2, ⟨R1', k1, k2, k3⟩, _, k5⟩ := wkC_pre n R b1 (n1 + 1) (by omega)
    have e := wkC_det hrd n1 R1' R1 k1 a1
    obtain ⟨w1, w2⟩ := k3 p a3
    have hsub : ∀ x ∈ R1 p ++ (F.filter (fun y => decide (y.1 = p))).map (fun y => (y.2, ((n1 + 1 : Nat) : Int))), x ∈ R p := fun x hx => by
      refine k5 p a3 x ((w2 x).mpr ?_)
      rcases List.mem_append.mp hx with q | q
      · rw [e p a3]; exact .inl q
      · obtain ⟨y, y1, rfl⟩ := List.mem_map.mp q
        obtain ⟨y2, y3⟩ := List.mem_filter.mp y1
        have ep : y.1 = p := of_decide_eq_true y3
        have hy := a4 y y2
        rw [ep] at hy
        exact .inr ⟨rfl, (stD_cg (fun z hz => (e z (hrd z hz)).symm) (fun hp _ => (e p hp).symm) a3).mp hy⟩
    have hnd : (R1 p ++ (F.filter (fun y => decide (y.1 = p))).map (fun y => (y.2, ((n1 + 1 : Nat) : Int)))).Nodup := by
      rw [List.nodup_append]
      refine ⟨?_, ?_, ?_⟩
      · rw [← e p a3]
        have srt : (R1' p).Pairwise rwLt := (wkC_out hs n1 R1' k1).1 p a3
        refine List.nodup_iff_pairwise_ne.mpr (List.Pairwise.imp (S := fun x y => x ≠ y) (fun {a b} h => ?_) srt)
        intro q
        rw [q] at h
        exact rwLt_irr _ h
      · rw [List.nodup_iff_pairwise_ne, List.pairwise_map]
        refine (List.nodup_iff_pairwise_ne.mp (a2.filter _)).imp_of_mem (fun {a b} ha hb hab q => hab ?_)
        have ea := of_decide_eq_true (List.mem_filter.mp ha).2
        have eb := of_decide_eq_true (List.mem_filter.mp hb).2
        exact Prod.ext (ea.trans eb.symm) (congrArg Prod.fst q)
      · intro a ha b hb hab
        obtain ⟨y, y1, rfl⟩ := List.mem_map.mp hb
        obtain ⟨y2, y3⟩ := List.mem_filter.mp y1
        have ep : y.1 = p := of_decide_eq_true y3
        obtain ⟨_, _, _, _, _, _, _, hn⟩ := a4 y y2
        rw [ep] at hn
        exact hn a ha (by rw [hab])
    have := nodup_len _ _ hnd hsub
    rw [List.length_append, List.length_map, ← List.countP_eq_length_filter] at this
    have := hl p a3
    unfold fCt at a5
    omega
  · by_cases c2 : n1 = n
    · subst c2
      have e := wkC_det hrd n1 R1 R a1 b1
      have := hl p a3
      rw [← e p a3] at this
      have hpos : 0 < fCt F p := by omega
      obtain ⟨y, y1, y2⟩ := fCt_pos.mp hpos
      have hy := a4 y y1
      have hyp := stp hy
      exact b2 y.1 y.2 hyp ((stD_cg (fun z hz => e z (hrd z hz)) (fun hp _ => e _ hp) hyp).mp hy)
    · obtain ⟨Rm, k1, k2, _⟩ := wkC_pre n1 R1 a1 n (by omega)
      obtain ⟨p', xs, p1, p2⟩ := k2 (by omega)
      have e := wkC_det hrd n Rm R k1 b1
      exact b2 p' xs p1 ((stD_cg (fun y hy => e y (hrd y hy)) (fun hp _ => e p' hp) p1).mp p2)
end
end
section
/-! The rows of a program over its INPUTS: there is but one way -/
theorem qLm_in : ∀ (l : List pLt) (k : Nat), (qLm l).testBit k = true ↔ ∃ z ∈ l, z.1 ≠ 3 ∧ z.2.1.toNat = k
  | [], k => by
    have : (qLm []).testBit k = (0 : Nat).testBit k := rfl
    rw [this, Nat.zero_testBit]
    simp
  | y :: l, k => by
    have e : (qLm (y :: l)).testBit k = ((if y.1 = 3 then 0 else 2 ^ y.2.1.toNat) ||| qLm l).testBit k := rfl
    rw [e, Nat.testBit_or, Bool.or_eq_true, qLm_in l k]
    constructor
    · rintro (h | ⟨z, h1, h2⟩)
      · by_cases c : y.1 = 3
        · rw [if_pos c, Nat.zero_testBit] at h; cases h
        · rw [if_neg c, Nat.testBit_two_pow] at h
          exact ⟨y, List.mem_cons_self, c, of_decide_eq_true h⟩
      · exact ⟨z, List.mem_cons_of_mem _ h1, h2⟩
    · rintro ⟨z, h1, h2, h3⟩
      rcases List.mem_cons.mp h1 with h1 | h1
      · refine .inl ?_
        rw [← h1, if_neg h2, Nat.testBit_two_pow]
        exact decide_eq_true h3
      · exact .inr ⟨z, h1, h2, h3⟩
theorem qRd_in : ∀ (R : List pRu) (p k : Nat), (qRd R p).testBit k = true ↔ ∃ u ∈ R, (p : Int) = u.1 ∧ ∃ z ∈ u.2.2.2.2.2, z.1 ≠ 3 ∧ z.2.1.toNat = k
  | [], p, k => by
    have : (qRd [] p).testBit k = (0 : Nat).testBit k := rfl
    rw [this, Nat.zero_testBit]
    simp
  | u :: R, p, k => by
    have e : (qRd (u :: R) p).testBit k = ((if (p : Int) = u.1 then qLm u.2.2.2.2.2 else 0) ||| qRd R p).testBit k := rfl
    rw [e, Nat.testBit_or, Bool.or_eq_true, qRd_in R p k]
    constructor
    · rintro (h | ⟨z, h1, h2⟩)
      · by_cases c : (p : Int) = u.1
        · rw [if_pos c] at h
          exact ⟨u, List.mem_cons_self, c, (qLm_in _ _).mp h⟩
        · rw [if_neg c, Nat.zero_testBit] at h; cases h
      · exact ⟨z, List.mem_cons_of_mem _ h1, h2⟩
    · rintro ⟨z, h1, h2, h3⟩
      rcases List.mem_cons.mp h1 with h1 | h1
      · refine .inl ?_
        rw [← h1, if_pos h2]
        exact (qLm_in _ _).mpr h3
      · exact .inr ⟨z, h1, h2, h3⟩
/-- the closure of who reads whom -/
def qAc (s : pPg) : Nat → Nat := qWm s.1.length (qRd s.2.2.2.2.1) s.1.length
theorem qK_is (s : pPg) (p : Nat) : qK s p = qRing (qAc s) p := rfl
theorem qAc_tr (s : pPg) : ∀ x j y, x < s.1.length → j < s.1.length → (qAc s x).testBit j = true → (qAc s j).testBit y = true → (qAc s x).testBit y = true := qWm_tr.2
def qCn (s : pPg) (r : Nat) : Nat := (List.range s.1.length).countP (fun z => decide (z = r) || (qAc s r).testBit z)
section
variable {s : pPg}
theorem rdB (hw : wPg s) {p y : Nat} (h : (qRd s.2.2.2.2.1 p).testBit y = true) : y < s.1.length := by
  obtain ⟨u, u1, _, z, z1, z2, z3⟩ := (qRd_in _ _ _).mp h
  obtain ⟨_, _, _, _, _, _, _, _, w9⟩ := hw.2.2.2.2.2.2 u u1
  obtain ⟨w1, w2⟩ := w9 z z1
  have := w2 z2
  rcases w1 with q | q
  · omega
  · omega
theorem rgR_rd (hw : wPg s) {rg y : Nat} : rgR s rg y ↔ ∃ p, p < s.1.length ∧ qK s p = rg ∧ (qRd s.2.2.2.2.1 p).testBit y = true := by
  constructor
  · rintro ⟨u, u1, u2, u3⟩
    obtain ⟨w1, w2, _⟩ := hw.2.2.2.2.2.2 u u1
    exact ⟨u.1.toNat, by omega, u2, (qRd_in _ _ _).mpr ⟨u, u1, by omega, u3⟩⟩
  · rintro ⟨p, p1, p2, p3⟩
    obtain ⟨u, u1, u2, u3⟩ := (qRd_in _ _ _).mp p3
    refine ⟨u, u1, ?_, u3⟩
    rw [← u2, Int.toNat_natCast]
    exact p2
theorem rgR_lt (hw : wPg s) {rg y : Nat} (h : rgR s rg y) : y < s.1.length := by
  obtain ⟨p, _, _, p3⟩ := (rgR_rd hw).mp h
  exact rdB hw p3
/-- another ring that is read is less -/
theorem qCn_lt (hw : wPg s) {rg y : Nat} (h : rgR s rg y) (hne : qK s y ≠ rg) : qCn s (qK s y) < qCn s rg := by
  obtain ⟨p, q1, q2, q3⟩ := (rgR_rd hw).mp h
  have y2 := rdB hw q3
  have hA := qAc_tr s
  obtain ⟨a1, a2, a3⟩ := qRing_is (qAc s) p
  obtain ⟨b1, b2, b3⟩ := qRing_is (qAc s) y
  have hr : rg < s.1.length := by rw [← q2, qK_is]; omega
  have e2 : qRing (qAc s) p = rg := q2
  rw [e2] at a2
  have hy' : qK s y < s.1.length := by rw [qK_is]; omega
  have y1 : (qAc s p).testBit y = true := qWm_tr.1 p q1 y q3
  have ry : (qAc s rg).testBit y = true := by
    rcases a2 with e | e
    · rw [← e]; exact y1
    · exact hA rg p y hr q1 e.2 y1
  have rr' : (qAc s rg).testBit (qK s y) = true := by
    rcases b2 with e | e
    · rw [qK_is, ← e]; exact ry
    · exact hA rg y _ hr y2 ry e.1
  have hrr : qRing (qAc s) rg = rg := by rw [← e2]; exact qRing_id hA q1
  have nr : ¬ (qAc s (qK s y)).testBit rg = true := fun e => by
    have := qRing_eq hA hr hy' (.inr ⟨rr', e⟩)
    rw [hrr, qK_is, qRing_id hA y2] at this
    exact hne this.symm
  refine countP_lt (List.range s.1.length) (fun z hz hp => ?_) ⟨rg, List.mem_range.mpr hr, by simp, ?_⟩
  · simp only [Bool.or_eq_true, decide_eq_true_eq] at hp ⊢
    rcases hp with e | e
    · rw [e]; exact .inr rr'
    · exact .inr (hA rg _ z hr hy' rr' e)
  · simp only [Bool.or_eq_false_iff, decide_eq_false_iff_not]
    refine ⟨fun e => hne e.symm, ?_⟩
    cases h : (qAc s (qK s y)).testBit rg with
    | true => exact absurd h nr
    | false => rfl
/-- the rows of a ring come from the others -/
def dnR (s : pPg) (R : Nat → List pRw) (rg : Nat) : Prop := ∃ R0, (∀ p, p < s.1.length → qK s p ≠ rg → R0 p = R p) ∧ (∀ p, p < s.1.length → qK s p = rg → R0 p = []) ∧ wkE s rg R0 R
/-- the rows R of the program over the rows In of its INPUTS -/
def qMod (s : pPg) (In R : Nat → List pRw) : Prop := qTb s R ∧ (∀ p, p < s.1.length → pIn s.2.1 (p : Int) = true → R p = In p) ∧ ∀ p, p < s.1.length → pIn s.2.1 (p : Int) = false → dnR s R (qK s p)
theorem wkE_cg {rg : Nat} {R R0 R0' : Nat → List pRw} (hw : wPg s) (hs : ∀ p, p < s.1.length → (R0 p).Pairwise rwLt) (hs' : ∀ p, p < s.1.length → (R0' p).Pairwise rwLt) (h0 : ∀ p, p < s.1.length → (qK s p = rg ∨ rgR s rg p) → R0 p = R0' p) (h : wkE s rg R0 R) : ∃ R', wkE s rg R0' R' ∧ ∀ p, p < s.1.length → qK s p = rg → R' p = R p := by
  obtain ⟨n, a1, a2⟩ := h
  obtain ⟨R', k1, k2, k3⟩ := wkC_cg (fun y hy => rgR_lt hw hy) hs hs' h0 n R a1
  refine ⟨R', ⟨n, k1, fun p xs hp hst => a2 p xs hp ((stD_cg (fun y hy => k3 y (rgR_lt hw hy) (.inr hy)) (fun hp hk => k2 p hp hk) hp).mp hst)⟩, k2⟩
theorem dnR.srt {R R0 : Nat → List pRw} {rg : Nat} (hT : qTb s R) (h1 : ∀ p, p < s.1.length → qK s p ≠ rg → R0 p = R p) (h2 : ∀ p, p < s.1.length → qK s p = rg → R0 p = []) : ∀ p, p < s.1.length → (R0 p).Pairwise rwLt := fun p hp => by
  by_cases c : qK s p = rg
  · rw [h2 p hp c]; exact List.Pairwise.nil
  · rw [h1 p hp c]; exact (hT p hp).2.1
theorem qMod_det {In R R' : Nat → List pRw} (hw : wPg s) (h : qMod s In R) (h' : qMod s In R') : ∀ p, p < s.1.length → R p = R' p := by
  obtain ⟨a1, a2, a3⟩ := h
  obtain ⟨b1, b2, b3⟩ := h'
  have key : ∀ (n p : Nat), qCn s (qK s p) < n → p < s.1.length → R p = R' p := by
    intro n
    induction n with
    | zero => intro p h; omega
    | succ n ih =>
      intro p hc hp
      cases hi : pIn s.2.1 (p : Int) with
      | true => rw [a2 p hp hi, b2 p hp hi]
      | false =>
        obtain ⟨R0, c1, c2, c3⟩ := a3 p hp hi
        obtain ⟨R0', d1, d2, d3⟩ := b3 p hp hi
        have hag : ∀ q, q < s.1.length → (qK s q = qK s p ∨ rgR s (qK s p) q) → R0 q = R0' q := fun q hq hk => by
          by_cases cq : qK s q = qK s p
          · rw [c2 q hq cq, d2 q hq cq]
          · have hr : rgR s (qK s p) q := hk.resolve_left cq
            rw [c1 q hq cq, d1 q hq cq]
            exact ih q (by have := qCn_lt hw hr cq; omega) hq
        obtain ⟨R'', e1, e2⟩ := wkE_cg hw (dnR.srt a1 c1 c2) (dnR.srt b1 d1 d2) hag c3
        rw [← e2 p hp rfl]
        exact wkE_det (fun y hy => rgR_lt hw hy) e1 d3 p hp
  exact fun p hp => key _ p (Nat.lt_succ_self _) hp
end
end
section
/-! INPUTS are no HEADS; masks of predicates -/
def wIn (s : pPg) : Prop := ∀ x ∈ s.2.1, ∃ a, (x.1, a, x.2.1, (1 : Int)) ∈ s.2.2.2.1
theorem pRule_in {t : tStr} {F : Nat} {s s' : pPg} (h : pRule t F s = .inr s') (hs : wIn s) : wIn s' := by
  unfold pRule at h
  split at h
  · cases h
  obtain ⟨p, h1, h⟩ := pbind_inr h
  obtain ⟨i, h2, h⟩ := pbind_inr h
  obtain ⟨a, h3, h⟩ := pbind_inr h
  obtain ⟨a', h4, h⟩ := pbind_inr h
  obtain ⟨i', h5, h⟩ := pbind_inr h
  obtain ⟨l, h6, h⟩ := pbind_inr h
  obtain ⟨i'', h7, h⟩ := pbind_inr h
  have hl : ∀ m ∈ s.2.2.2.1 ++ [(p.1, kS t s.2.2.2.2.2, (a'.2.2.1.length : Int), (3 : Int))], m ∈ l.2.2.2.1 := by
    split at h6
    · obtain ⟨u, g1, g2⟩ := pbind_inr h6
      exact fun m hm => pLits_mm g2 m (pLit_mm g1 m hm)
    · cases h6
      exact fun m hm => hm
  cases h
  intro x hx
  obtain ⟨b, hb⟩ := hs x hx
  exact ⟨b, hl _ (List.mem_append.mpr (.inl hb))⟩
theorem pProg_in {t : tStr} {F : Nat} : ∀ {k : Nat} {s s' : pPg}, pProg t F k s = .inr s' → wIn s → wIn s' := by
  intro k
  induction k with
  | zero => intro s s' h; cases h
  | succ k ih =>
    intro s s' h hs
    unfold pProg at h
    split at h
    · cases h; exact hs
    · obtain ⟨u, g1, g2⟩ := pbind_inr h
      refine ih g2 ?_
      split at g1
      · unfold pInput at g1
        obtain ⟨p, h1, g1⟩ := pbind_inr g1
        obtain ⟨i, h2, g1⟩ := pbind_inr g1
        obtain ⟨n, h3, g1⟩ := pbind_inr g1
        obtain ⟨q, h4, g1⟩ := pbind_inr g1
        obtain ⟨i', h5, g1⟩ := pbind_inr g1
        cases g1
        intro x hx
        rcases List.mem_append.mp hx with b | b
        · obtain ⟨a, ha⟩ := hs x b
          exact ⟨a, List.mem_append.mpr (.inl ha)⟩
        · rw [List.mem_singleton.mp b]
          exact ⟨_, List.mem_append.mpr (.inr (List.mem_singleton.mpr rfl))⟩
      split at g1
      · unfold pOutput at g1
        obtain ⟨p, h1, g1⟩ := pbind_inr g1
        obtain ⟨i, h2, g1⟩ := pbind_inr g1
        cases g1
        intro x hx
        obtain ⟨a, ha⟩ := hs x hx
        exact ⟨a, List.mem_append.mpr (.inl ha)⟩
      · exact pRule_in g1 hs
/-- an INPUT is no HEAD -/
def wNh (s : pPg) : Prop := ∀ x ∈ s.2.1, ∀ u ∈ s.2.2.2.2.1, x.1 ≠ u.1
theorem wNh_of {t : List Int} {s : pPg} (h : qPr t = .inr s) (hf : ∀ k a, ¬ pFa s 0 k a) : wNh s := by
  have h1 : wHd s := pProg_hd h (fun u hu => absurd hu (by simp))
  have h2 : wIn s := pProg_in h (fun u hu => absurd hu (by simp))
  intro x hx u hu e
  obtain ⟨a, ha⟩ := h2 x hx
  obtain ⟨i, hi, ei⟩ := List.getElem_of_mem ha
  obtain ⟨j, hj, ej⟩ := List.getElem_of_mem (h1 u hu)
  have mi : mN s.2.2.2.1 i = x.1 ∧ mW s.2.2.2.1 i = 1 := by unfold mN mW; rw [getD_e hi, ei]; exact ⟨rfl, rfl⟩
  have mj : mN s.2.2.2.1 j = u.1 ∧ mW s.2.2.2.1 j = 3 := by unfold mN mW; rw [getD_e hj, ej]; exact ⟨rfl, rfl⟩
  have hne : i ≠ j := fun q => by
    have a1 := mi.2
    have a2 := mj.2
    rw [q] at a1
    omega
  have flt : ∀ a b, a < b → b < s.2.2.2.1.length → mN s.2.2.2.1 a = mN s.2.2.2.1 b → twc (mW s.2.2.2.1 a) (mW s.2.2.2.1 b) → False := fun a b hab hb hn ht =>
    hf 1 (((0 : Nat) : Int) + mP s.2.2.2.1 b) (.inl (.inl (.inl ⟨b, Nat.zero_le _, hb, .inl ⟨rfl, rfl, a, Nat.zero_le _, hab, hn, ht⟩⟩)))
  by_cases c : i < j
  · exact flt i j c hj (by rw [mi.1, mj.1, e]) (by rw [mi.2, mj.2]; unfold twc; omega)
  · exact flt j i (by omega) hi (by rw [mi.1, mj.1, e]) (by rw [mi.2, mj.2]; unfold twc; omega)
section
variable {s : pPg}
theorem inp_rd (h : wNh s) {p : Nat} (hp : pIn s.2.1 (p : Int) = true) : qRd s.2.2.2.2.1 p = 0 := by
  refine Nat.eq_of_testBit_eq (fun k => ?_)
  rw [Nat.zero_testBit]
  cases hb : (qRd s.2.2.2.2.1 p).testBit k with
  | false => rfl
  | true =>
    obtain ⟨u, u1, u2, _⟩ := (qRd_in _ _ _).mp hb
    unfold pIn at hp
    obtain ⟨x, x1, x2⟩ := List.any_eq_true.mp hp
    exact absurd ((of_decide_eq_true x2).trans u2) (h x x1 u u1)
theorem qWm_0 {np : Nat} {T : Nat → Nat} {p : Nat} (h : T p = 0) : ∀ k, qWm np T k p = 0
  | 0 => h
  | k + 1 => by
    show qW1 (qWm np T k) k np p = 0
    unfold qW1
    rw [qWm_0 h k, Nat.zero_testBit, if_neg (fun q => by cases q.2)]
/-- an INPUT is a ring of its own -/
theorem inp_k (hn : wNh s) {p q : Nat} (hp : p < s.1.length) (hq : q < s.1.length) (hi : pIn s.2.1 (p : Int) = true) (h : qK s q = qK s p) : q = p := by
  have h0 : qAc s p = 0 := qWm_0 (inp_rd hn hi) _
  have hA := qAc_tr s
  obtain ⟨a1, a2, a3⟩ := qRing_is (qAc s) p
  obtain ⟨b1, b2, b3⟩ := qRing_is (qAc s) q
  have ep : qRing (qAc s) p = p := by
    rcases a2 with e | e
    · exact e.symm
    · rw [h0, Nat.zero_testBit] at e; cases e.1
  have eq : qRing (qAc s) q = p := by rw [← ep]; exact h
  rw [eq] at b2
  rcases b2 with e | e
  · exact e
  · rw [h0, Nat.zero_testBit] at e; cases e.2
end
/-- a mask less another -/
theorem xandn {a b : Nat} (ha : a < 65536) (hb : b < 65536) : ∃ w : Nat, w < 65536 ∧ xand (a : Int) (xxor (b : Int) (-1)) = (w : Int) ∧ ∀ j, w.testBit j = true ↔ a.testBit j = true ∧ b.testBit j = false := by
  refine ⟨a &&& (65535 ^^^ b), ?_, ?_, fun j => ?_⟩
  · exact Nat.lt_of_le_of_lt Nat.and_le_left ha
  · have e1 : xand (a : Int) (xxor (b : Int) (-1)) = (BitVec.ofNat 32 a &&& (BitVec.ofNat 32 b ^^^ (Int32.ofInt (-1)).toBitVec)).toInt := by
      unfold xand xxor
      have : Int32.ofInt ((Int32.ofInt (b : Int) ^^^ Int32.ofInt (-1)).toInt) = Int32.ofInt (b : Int) ^^^ Int32.ofInt (-1) := Int32.ofInt_toInt _
      rw [this]
      show ((Int32.ofInt (a : Int)).toBitVec &&& ((Int32.ofInt (b : Int)).toBitVec ^^^ (Int32.ofInt (-1)).toBitVec)).toInt = _
      rw [i32_nat, i32_nat]
    have e2 : (Int32.ofInt (-1)).toBitVec = BitVec.allOnes 32 := by decide
    have e3 : (BitVec.ofNat 32 a &&& (BitVec.ofNat 32 b ^^^ BitVec.allOnes 32)).toNat = a &&& (65535 ^^^ b) := by
      refine Nat.eq_of_testBit_eq (fun j => ?_)
      rw [BitVec.testBit_toNat, BitVec.getLsbD_and, BitVec.getLsbD_xor, BitVec.getLsbD_ofNat, BitVec.getLsbD_ofNat, BitVec.getLsbD_allOnes, Nat.testBit_and, Nat.testBit_xor]
      by_cases c : j < 16
      · have h16 : (65535 : Nat).testBit j = true := by
          have : (65535 : Nat) = 2 ^ 16 - 1 := by decide
          rw [this, Nat.testBit_two_pow_sub_one]
          exact decide_eq_true c
        rw [h16, decide_eq_true (by omega : j < 32)]
        simp [Bool.xor_comm]
      · have ha0 : a.testBit j = false := Nat.testBit_lt_two_pow (Nat.lt_of_lt_of_le ha (Nat.le_trans (by decide : 65536 ≤ 2 ^ 16) (Nat.pow_le_pow_right (by decide) (by omega))))
        rw [ha0]
        simp
    rw [e1, e2, BitVec.toInt_eq_toNat_of_lt (by rw [e3]; have := Nat.and_le_left (n := a) (m := 65535 ^^^ b); omega), e3]
  · rw [Nat.testBit_and, Nat.testBit_xor, Bool.and_eq_true]
    by_cases c : j < 16
    · have h16 : (65535 : Nat).testBit j = true := by
        have : (65535 : Nat) = 2 ^ 16 - 1 := by decide
        rw [this, Nat.testBit_two_pow_sub_one]
        exact decide_eq_true c
      rw [h16]
      simp
    · have ha0 : a.testBit j = false := Nat.testBit_lt_two_pow (Nat.lt_of_lt_of_le ha (Nat.le_trans (by decide : 65536 ≤ 2 ^ 16) (Nat.pow_le_pow_right (by decide) (by omega))))
      rw [ha0]
      simp
end
section
/-! Ring after ring: what holds between -/
def wkI (s : pPg) (In : Nat → List pRw) (dn : Nat) (R : Nat → List pRw) : Prop := qTb s R ∧ (∀ p, p < s.1.length → pIn s.2.1 (p : Int) = true → R p = In p ∧ dn.testBit p = true) ∧ (∀ p, p < s.1.length → dn.testBit p = false → R p = []) ∧ (∀ p, p < s.1.length → pIn s.2.1 (p : Int) = false → dn.testBit p = true → dnR s R (qK s p)) ∧ (∀ p, p < s.1.length → (dn.testBit p = true ↔ dn.testBit (qK s p) = true)) ∧ ∀ p, p < s.1.length → dn.testBit p = true → ∀ y, rgR s (qK s p) y → dn.testBit y = true
/-- a ring that may be worked now -/
def wkN (s : pPg) (dn r : Nat) : Prop := r < s.1.length ∧ qK s r = r ∧ dn.testBit r = false ∧ ∀ y, rgR s r y → dn.testBit y = true ∨ qK s y = r
section
variable {s : pPg} {In : Nat → List pRw} {dn r : Nat} {R R' : Nat → List pRw}
theorem wkC_ext {rg : Nat} {R0 : Nat → List pRw} : ∀ (n : Nat) (R R' : Nat → List pRw), (∀ p, p < s.1.length → R p = R' p) → wkC s rg R0 n R → wkC s rg R0 n R'
  | 0, R, R', he, h => fun p hp => by rw [← he p hp]; exact h p hp
  | n + 1, R, R', he, h => by
    obtain ⟨R1, h1, h2, h3⟩ := h
    exact ⟨R1, h1, h2, fun p hp => by rw [← he p hp]; exact h3 p hp⟩
theorem wkE_ext {rg : Nat} {R0 : Nat → List pRw} (hw : wPg s) (he : ∀ p, p < s.1.length → R p = R' p) (h : wkE s rg R0 R) : wkE s rg R0 R' := by
  obtain ⟨n, a1, a2⟩ := h
  exact ⟨n, wkC_ext n R R' he a1, fun p xs hp hs => a2 p xs hp ((stD_cg (fun y hy => he y (rgR_lt hw hy)) (fun hp _ => he p hp) hp).mpr hs)⟩
theorem qK_id (hw : wPg s) {p : Nat} (hp : p < s.1.length) : qK s (qK s p) = qK s p := by
  rw [qK_is, qK_is]
  exact qRing_id (qAc_tr s) hp
theorem qK_lt {p : Nat} (hp : p < s.1.length) : qK s p < s.1.length := by
  have := (qRing_is (qAc s) p).1
  rw [qK_is]
  omega
/-- one more ring is worked -/
theorem wkI.next {dn' : Nat} (hw : wPg s) (h : wkI s In dn R) (hr : wkN s dn r) (hE : wkE s r R R') (hT' : qTb s R') (hd : ∀ p, p < s.1.length → (dn'.testBit p = true ↔ dn.testBit p = true ∨ qK s p = r)) : wkI s In dn' R' := by
  obtain ⟨i1, i2, i4, i5, i6, i7⟩ := h
  obtain ⟨r1, r2, r3, r4⟩ := hr
  have srt : ∀ p, p < s.1.length → (R p).Pairwise rwLt := fun p hp => (i1 p hp).2.1
  have out : ∀ p, p < s.1.length → qK s p ≠ r → R' p = R p := by
    obtain ⟨n, a1, _⟩ := hE
    exact (wkC_out srt n R' a1).2
  have notr : ∀ p, p < s.1.length → dn.testBit p = true → qK s p ≠ r := fun p hp hd e => by
    have := (i6 p hp).mp hd
    rw [e, r3] at this
    cases this
  have undone : ∀ p, p < s.1.length → qK s p = r → dn.testBit p = false := fun p hp e => by
    cases h : dn.testBit p with
    | false => rfl
    | true => exact absurd e (notr p hp h)
  have f2t : ∀ {b : Bool}, ¬ b = true → b = false := fun {b} h => by cases b with
    | true => exact absurd rfl h
    | false => rfl
  refine ⟨hT', fun p hp hi => ?_, fun p hp hn => ?_, fun p hp hi hn => ?_, fun p hp => ?_, fun p hp hn y hy => ?_⟩
  · obtain ⟨a1, a2⟩ := i2 p hp hi
    exact ⟨by rw [out p hp (notr p hp a2)]; exact a1, (hd p hp).mpr (.inl a2)⟩
  · have h1 : ¬ dn.testBit p = true := fun q => by rw [(hd p hp).mpr (.inl q)] at hn; cases hn
    have h2 : qK s p ≠ r := fun q => by rw [(hd p hp).mpr (.inr q)] at hn; cases hn
    rw [out p hp h2]
    exact i4 p hp (f2t h1)
  · by_cases cr : qK s p = r
    · rw [cr]
      exact ⟨R, fun q hq hk => (out q hq hk).symm, fun q hq hk => i4 q hq (undone q hq hk), hE⟩
    · have hdp : dn.testBit p = true := ((hd p hp).mp hn).resolve_right cr
      obtain ⟨R0, c1, c2, c3⟩ := i5 p hp hi hdp
      let R0' : Nat → List pRw := fun q => if qK s q = qK s p then [] else R' q
      have e1 : ∀ q, qK s q = qK s p → R0' q = [] := fun q h => if_pos h
      have e2 : ∀ q, qK s q ≠ qK s p → R0' q = R' q := fun q h => if_neg h
      have same : ∀ q, q < s.1.length → (qK s q = qK s p ∨ rgR s (qK s p) q) → R0 q = R0' q := fun q hq hk => by
        by_cases cq : qK s q = qK s p
        · rw [c2 q hq cq, e1 q cq]
        · have hr := hk.resolve_left cq
          rw [c1 q hq cq, e2 q cq, out q hq (notr q hq (i7 p hp hdp q hr))]
      have s1 := dnR.srt i1 c1 c2
      have s2 : ∀ q, q < s.1.length → (R0' q).Pairwise rwLt := dnR.srt hT' (fun q _ h => e2 q h) (fun q _ h => e1 q h)
      obtain ⟨R'', k1, k2⟩ := wkE_cg hw s1 s2 same c3
      refine ⟨R0', fun q hq h => e2 q h, fun q hq h => e1 q h, wkE_ext hw (fun q hq => ?_) k1⟩
      by_cases cq : qK s q = qK s p
      · rw [k2 q hq cq, out q hq (by rw [cq]; exact cr)]
      · obtain ⟨n, a1, _⟩ := k1
        rw [(wkC_out s2 n R'' a1).2 q hq cq, e2 q cq]
  · rw [hd p hp, hd _ (qK_lt hp), i6 p hp, qK_id hw hp]
  · have hyl := rgR_lt hw hy
    rw [hd y hyl]
    rcases (hd p hp).mp hn with q | q
    · exact .inl (i7 p hp q y hy)
    · rw [q] at hy
      exact r4 y hy
/-- all rings are worked -/
theorem wkI.done (h : wkI s In dn R) (hd : ∀ p, p < s.1.length → dn.testBit p = true) : qMod s In R := ⟨h.1, fun p hp hi => (h.2.1 p hp hi).1, fun p hp hi => h.2.2.2.1 p hp hi (hd p hp)⟩
/-- a ring passes the LIMIT: there are no rows -/
theorem wkI.none (hw : wPg s) (h : wkI s In dn R) (hr : wkN s dn r) (hO : wkO s r R) : ¬ ∃ M, qMod s In M := by
  rintro ⟨M, m1, m2, m3⟩
  obtain ⟨i1, i2, i4, i5, i6, i7⟩ := h
  obtain ⟨r1, r2, r3, r4⟩ := hr
  have same : ∀ (n p : Nat), qCn s (qK s p) < n → p < s.1.length → dn.testBit p = true → R p = M p := by
    intro n
    induction n with
    | zero => intro p h; omega
    | succ n ih =>
      intro p hc hp hd
      cases hi : pIn s.2.1 (p : Int) with
      | true => rw [(i2 p hp hi).1, m2 p hp hi]
      | false =>
        obtain ⟨R0, c1, c2, c3⟩ := i5 p hp hi hd
        obtain ⟨R0', d1, d2, d3⟩ := m3 p hp hi
        have hag : ∀ q, q < s.1.length → (qK s q = qK s p ∨ rgR s (qK s p) q) → R0 q = R0' q := fun q hq hk => by
          by_cases cq : qK s q = qK s p
          · rw [c2 q hq cq, d2 q hq cq]
          · have hr : rgR s (qK s p) q := hk.resolve_left cq
            rw [c1 q hq cq, d1 q hq cq]
            exact ih q (by have := qCn_lt hw hr cq; omega) hq (i7 p hp hd q hr)
        obtain ⟨R'', e1, e2⟩ := wkE_cg hw (dnR.srt i1 c1 c2) (dnR.srt m1 d1 d2) hag c3
        rw [← e2 p hp rfl]
        exact wkE_det (fun y hy => rgR_lt hw hy) e1 d3 p hp
  have hi : pIn s.2.1 (r : Int) = false := by
    cases h : pIn s.2.1 (r : Int) with
    | false => rfl
    | true => rw [(i2 r r1 h).2] at r3; cases r3
  obtain ⟨R0, c1, c2, c3⟩ := m3 r r1 hi
  rw [r2] at c1 c2 c3
  have srt : ∀ p, p < s.1.length → (R p).Pairwise rwLt := fun p hp => (i1 p hp).2.1
  have own : ∀ p, p < s.1.length → qK s p = r → R p = [] := fun p hp e => i4 p hp (by
    cases h : dn.testBit p with
    | false => rfl
    | true =>
      have := (i6 p hp).mp h
      rw [e, r3] at this
      cases this)
  have hag : ∀ q, q < s.1.length → (qK s q = r ∨ rgR s r q) → R0 q = R q := fun q hq hk => by
    by_cases cq : qK s q = r
    · rw [c2 q hq cq, own q hq cq]
    · have hd : dn.testBit q = true := (r4 q (hk.resolve_left cq)).resolve_right cq
      rw [c1 q hq cq]
      exact (same _ q (Nat.lt_succ_self _) hq hd).symm
  obtain ⟨R'', e1, e2⟩ := wkE_cg hw (dnR.srt m1 c1 c2) srt hag c3
  refine wkO_no (fun y hy => rgR_lt hw hy) srt (fun u hu => ⟨(hw.2.2.2.2.2.2 u hu).1, (hw.2.2.2.2.2.2 u hu).2.1⟩) hO e1 (fun p hp => ?_)
  by_cases cp : qK s p = r
  · rw [e2 p hp cp]; exact (m1 p hp).1
  · obtain ⟨n, a1, _⟩ := e1
    rw [(wkC_out srt n R'' a1).2 p hp cp]
    exact (i1 p hp).1
/-- while something is left there is a ring that may be worked -/
theorem wkI.some (hw : wPg s) (h : wkI s In dn R) (hu : ∃ p, p < s.1.length ∧ dn.testBit p = false) : ∃ r, wkN s dn r := by
  obtain ⟨p, p1, p2⟩ := hu
  obtain ⟨i1, i2, i4, i5, i6, i7⟩ := h
  have hk : dn.testBit (qK s p) = false := by
    cases h : dn.testBit (qK s p) with
    | false => rfl
    | true => rw [(i6 p p1).mpr h] at p2; cases p2
  obtain ⟨r, r1, r2, r3, r4⟩ := rdy (np := s.1.length) (A := qAc s) (qAc_tr s) (Rd := qRd s.2.2.2.2.1) (dn := dn) (fun x hx j hj => ⟨qWm_tr.1 x hx j hj, rdB hw hj⟩) (fun p hp => i6 p hp) _ (qK s p) (Nat.le_refl _) (qK_lt p1) (qK_id hw p1) hk
  refine ⟨r, r1, r2, r3, fun y hy => ?_⟩
  obtain ⟨q, q1, q2, q3⟩ := (rgR_rd hw).mp hy
  exact r4 q q1 q2 y q3
end
end
section
/-! workAll of the reference -/
section
variable {f q c : Nat} {s : pPg} {R : Nat → List pRw}
theorem or_l16 {a b : Nat} (ha : a < 65536) (hb : b < 65536) : a ||| b < 65536 := Nat.or_lt_two_pow (n := 16) ha hb
theorem p2_l16 {p : Nat} (h : p < 16) : 2 ^ p < 65536 := by
  have : 2 ^ p < 2 ^ 16 := Nat.pow_lt_pow_right (by decide : 1 < 2) h
  exact this
/-- readsOf -/
theorem l_292 {G : xG_} {r : Nat} (hf : 20 < f) (hok : qOk s) (hE : rEn G q c s R) : ∃ w : Nat, g292 f (r : Int) G = some ((w : Int), G) ∧ w < 65536 ∧ ∀ y, w.testBit y = true ↔ rgR s r y ∧ qK s y ≠ r := by
  have hnp : s.1.length ≤ 16 := hok.1.1
  have h8 : G 2 8 = (s.1.length : Int) := hE.1.1.1
  have h6 : ∀ p, p < s.1.length → G 6 p = (qRd s.2.2.2.2.1 p : Int) := hE.2.2.1.1
  have h7 : ∀ p, p < s.1.length → G 7 p = (qK s p : Int) := hE.2.2.1.2
  have hrd : ∀ p, qRd s.2.2.2.2.1 p < 65536 := qRd_lt (wRq_of hok.1.2.2.2.2.2.2) hnp
  have loop : ∀ (d p fu a b : Nat), p + d = s.1.length → d < fu → a < 65536 → b < 65536 → (∀ y, a.testBit y = true ↔ ∃ p', p' < p ∧ qK s p' = r ∧ (qRd s.2.2.2.2.1 p').testBit y = true) → (∀ y, b.testBit y = true ↔ y < p ∧ qK s y = r) → ∃ w : Nat, g292_7 f fu (r : Int) (a : Int) (b : Int) (p : Int) G = some ((w : Int), G) ∧ w < 65536 ∧ ∀ y, w.testBit y = true ↔ rgR s r y ∧ qK s y ≠ r := by
    intro d
    induction d with
    | zero =>
      intro p fu a b h1 h2 ha hb hA hB
      obtain ⟨fu, rfl⟩ : ∃ t, fu = t + 1 := ⟨fu - 1, by omega⟩
      obtain ⟨w, w1, w2, w3⟩ := xandn ha hb
      have ep : p = s.1.length := by omega
      refine ⟨w, ?_, w1, fun y => ?_⟩
      · show g292_7b (g292_7 f fu) f _ _ _ _ _ = _
        unfold g292_7b
        rw [h8, if_pos (by omega), w2]
      · rw [w3 y, rgR_rd hok.1]
        have hb0 : b.testBit y = false ↔ ¬ (y < p ∧ qK s y = r) := by
          rw [← hB y]
          cases b.testBit y <;> simp
        rw [hb0, hA y]
        constructor
        · rintro ⟨⟨p', q1, q2, q3⟩, q4⟩
          have := rdB hok.1 q3
          exact ⟨⟨p', by omega, q2, q3⟩, fun e => q4 ⟨by omega, e⟩⟩
        · rintro ⟨⟨p', q1, q2, q3⟩, q4⟩
          exact ⟨⟨p', by omega, q2, q3⟩, fun e => q4 e.2⟩
    | succ d ih =>
      intro p fu a b h1 h2 ha hb hA hB
      obtain ⟨fu, rfl⟩ : ∃ t, fu = t + 1 := ⟨fu - 1, by omega⟩
      have hp : p < s.1.length := by omega
      have e5 : xwr ((p : Int) + 1) = ((p + 1 : Nat) : Int) := by rw [xwr_g _ (by omega) (by omega)]; omega
      have hpp : 0 ≤ (p : Int) ∧ (p : Int) < 16 := by omega
      have hr1 := hrd p
      have step : g292_7 f (fu + 1) (r : Int) (a : Int) (b : Int) (p : Int) G = if (qK s p : Int) = (r : Int) then g292_7 f fu (r : Int) ((a ||| qRd s.2.2.2.2.1 p : Nat) : Int) ((b ||| 2 ^ p : Nat) : Int) ((p + 1 : Nat) : Int) G else g292_7 f fu (r : Int) (a : Int) (b : Int) ((p + 1 : Nat) : Int) G := by
        show g292_7b (g292_7 f fu) f _ _ _ _ _ = _
        unfold g292_7b g292_56
        rw [h8, if_neg (by omega)]
        simp only [Nat.reduceAdd, Int.toNat_natCast, if_pos hpp]
        rw [h7 p hp, h6 p hp, e5, xor_nat (by omega) (by omega), xorb (by omega) (by omega)]
      rw [step]
      by_cases ck : qK s p = r
      · rw [if_pos (by rw [ck])]
        refine ih (p + 1) fu _ _ (by omega) (by omega) (or_l16 ha hr1) (or_l16 hb (p2_l16 (by omega))) (fun y => ?_) (fun y => ?_)
        · rw [Nat.testBit_or, Bool.or_eq_true, hA y]
          constructor
          · rintro (⟨p', q1, q2⟩ | q)
            · exact ⟨p', by omega, q2⟩
            · exact ⟨p, by omega, ck, q⟩
          · rintro ⟨p', q1, q2, q3⟩
            by_cases cp : p' = p
            · rw [cp] at q3; exact .inr q3
            · exact .inl ⟨p', by omega, q2, q3⟩
        · rw [or_bit, Bool.or_eq_true, hB y, decide_eq_true_eq]
          constructor
          · rintro (q | q)
            · exact ⟨by omega, q.2⟩
            · rw [← q]; exact ⟨by omega, ck⟩
          · rintro ⟨q1, q2⟩
            by_cases cp : y = p
            · exact .inr cp.symm
            · exact .inl ⟨by omega, q2⟩
      · rw [if_neg (by omega)]
        refine ih (p + 1) fu a b (by omega) (by omega) ha hb (fun y => ?_) (fun y => ?_)
        · rw [hA y]
          constructor
          · rintro ⟨p', q1, q2⟩
            exact ⟨p', by omega, q2⟩
          · rintro ⟨p', q1, q2, q3⟩
            by_cases cp : p' = p
            · rw [cp] at q2; exact absurd q2 ck
            · exact ⟨p', by omega, q2, q3⟩
        · rw [hB y]
          constructor
          · exact fun q => ⟨by omega, q.2⟩
          · rintro ⟨q1, q2⟩
            by_cases cp : y = p
            · rw [cp] at q2; exact absurd q2 ck
            · exact ⟨by omega, q2⟩
  unfold g292
  obtain ⟨w, w1, w2⟩ := loop s.1.length 0 f 0 0 (by omega) (by omega) (by decide) (by decide) (fun y => by rw [Nat.zero_testBit]; exact ⟨fun h => (by cases h), fun ⟨p', h, _⟩ => (by omega)⟩) (fun y => by rw [Nat.zero_testBit]; exact ⟨fun h => (by cases h), fun h => (by omega)⟩)
  exact ⟨w, w1, w2⟩
/-- nextRing -/
theorem l_291 {G : xG_} {dn : Nat} (hf : 40 < f) (hok : qOk s) (hE : rEn G q c s R) (hd : dn < 65536) (hr : ∃ r, wkN s dn r) : ∃ r, wkN s dn r ∧ g291 f (dn : Int) G = some ((r : Int), G) := by
  have hnp : s.1.length ≤ 16 := hok.1.1
  have h7 : ∀ p, p < s.1.length → G 7 p = (qK s p : Int) := hE.2.2.1.2
  obtain ⟨r0, hr0⟩ := hr
  have loop : ∀ (d r fu : Nat), r + d = r0 → d < fu → ∃ r, wkN s dn r ∧ g291_2 f fu (dn : Int) ((r0 - d : Nat) : Int) G = some ((r : Int), G) := by
    intro d
    induction d with
    | zero =>
      intro r fu h1 h2
      obtain ⟨fu, rfl⟩ : ∃ t, fu = t + 1 := ⟨fu - 1, by omega⟩
      obtain ⟨r1, r2, r3, r4⟩ := hr0
      obtain ⟨w, w1, w2, w3⟩ := l_292 (f := f) (r := r0) (by omega) hok hE
      refine ⟨r0, ⟨r1, r2, r3, r4⟩, ?_⟩
      obtain ⟨v, v1, v2, v3⟩ := xandn w2 hd
      have v0 : v = 0 := by
        refine Nat.eq_of_testBit_eq (fun j => ?_)
        rw [Nat.zero_testBit]
        cases hb : v.testBit j with
        | false => rfl
        | true =>
          obtain ⟨b1, b2⟩ := (v3 j).mp hb
          obtain ⟨b3, b4⟩ := (w3 j).mp b1
          rcases r4 j b3 with q | q
          · rw [q] at b2; cases b2
          · exact absurd q b4
      have n1 : ¬ ¬ (qK s r0 : Int) = (r0 : Int) := fun q => q (by rw [r2])
      have n2 : ¬ xand (xshr (dn : Int) (r0 : Int)) 1 = 1 := fun q => by
        have := (xbit (by omega) (by omega)).mp q
        rw [r3] at this
        cases this
      rw [Nat.sub_zero]
      show g291_2b (g291_2 f fu) f _ _ _ = _
      unfold g291_2b
      rw [if_pos (by omega)]
      simp only [Nat.reduceAdd, Int.toNat_natCast]
      simp only [h7 r0 r1]
      rw [if_neg n1, if_neg n2, w1, Option.bind_some]
      show (if xand (w : Int) (xxor (dn : Int) (-1)) = 0 then _ else _) = _
      rw [v2, v0, if_pos (show ((0 : Nat) : Int) = 0 from rfl)]
    | succ d ih =>
      intro r fu h1 h2
      obtain ⟨fu, rfl⟩ : ∃ t, fu = t + 1 := ⟨fu - 1, by omega⟩
      have hr0l := hr0.1
      have ek : r0 - (d + 1) = r := by omega
      have e5 : xwr ((r : Int) + 1) = ((r + 1 : Nat) : Int) := by rw [xwr_g _ (by omega) (by omega)]; omega
      have hrl : r < s.1.length := by omega
      obtain ⟨w, w1, w2, w3⟩ := l_292 (f := f) (r := r) (by omega) hok hE
      obtain ⟨v, v1, v2, v3⟩ := xandn w2 hd
      have ihh := ih (r + 1) fu (by omega) (by omega)
      rw [show r0 - d = r + 1 by omega] at ihh
      have step : g291_2 f (fu + 1) (dn : Int) (r : Int) G = if ¬ (qK s r : Int) = (r : Int) then g291_2 f fu (dn : Int) ((r + 1 : Nat) : Int) G else if xand (xshr (dn : Int) (r : Int)) 1 = 1 then g291_2 f fu (dn : Int) ((r + 1 : Nat) : Int) G else if (v : Int) = 0 then some ((r : Int), G) else g291_2 f fu (dn : Int) ((r + 1 : Nat) : Int) G := by
        show g291_2b (g291_2 f fu) f _ _ _ = _
        unfold g291_2b g291_36
        rw [if_pos (by omega)]
        simp only [Nat.reduceAdd, Int.toNat_natCast]
        simp only [h7 r hrl, w1, Option.bind_some, e5, v2]
      rw [ek, step]
      by_cases c1 : qK s r = r
      · have n1 : ¬ ¬ (qK s r : Int) = (r : Int) := fun q => q (by rw [c1])
        rw [if_neg n1]
        by_cases c2 : dn.testBit r = true
        · rw [if_pos ((xbit (by omega) (by omega)).mpr c2)]
          exact ihh
        · rw [if_neg (fun q => c2 ((xbit (by omega) (by omega)).mp q))]
          by_cases c3 : v = 0
          · rw [if_pos (by omega)]
            refine ⟨r, ⟨hrl, c1, ?_, fun y hy => ?_⟩, rfl⟩
            · cases h : dn.testBit r with
              | false => rfl
              | true => exact absurd h c2
            · by_cases cy : qK s y = r
              · exact .inr cy
              · refine .inl ?_
                cases h : dn.testBit y with
                | true => rfl
                | false =>
                  have := (v3 y).mpr ⟨(w3 y).mpr ⟨hy, cy⟩, h⟩
                  rw [c3, Nat.zero_testBit] at this
                  cases this
          · rw [if_neg (by omega)]
            exact ihh
      · have n1 : ¬ (qK s r : Int) = (r : Int) := by omega
        rw [if_pos n1]
        exact ihh
  obtain ⟨r, r1, r2⟩ := loop r0 0 f (by omega) (by have := hr0.1; omega)
  refine ⟨r, r1, ?_⟩
  rw [Nat.sub_self] at r2
  exact r2
theorem l_290_98 {G : xG_} {r : Nat} {x2 : Int} {r64 : Int → Int → xG_ → Option (Int × xG_)} (hok : qOk s) (hE : rEn G q c s R) : ∀ (d p fu dn : Nat), p + d = s.1.length → d < fu → dn < 65536 → ∃ dn' : Nat, g290_98 r64 f fu (dn : Int) x2 (r : Int) (p : Int) G = r64 (dn' : Int) x2 G ∧ dn' < 65536 ∧ ∀ y, dn'.testBit y = true ↔ dn.testBit y = true ∨ (p ≤ y ∧ y < s.1.length ∧ qK s y = r) := by
  have hnp : s.1.length ≤ 16 := hok.1.1
  have h8 : G 2 8 = (s.1.length : Int) := hE.1.1.1
  have h7 : ∀ p, p < s.1.length → G 7 p = (qK s p : Int) := hE.2.2.1.2
  intro d
  induction d with
  | zero =>
    intro p fu dn h1 h2 h3
    obtain ⟨fu, rfl⟩ : ∃ t, fu = t + 1 := ⟨fu - 1, by omega⟩
    refine ⟨dn, ?_, h3, fun y => ⟨.inl, fun h => h.elim id (fun h => by omega)⟩⟩
    show g290_98b r64 (g290_98 r64 f fu) f _ _ _ _ _ = _
    unfold g290_98b
    rw [h8, if_pos (by omega)]
  | succ d ih =>
    intro p fu dn h1 h2 h3
    obtain ⟨fu, rfl⟩ : ∃ t, fu = t + 1 := ⟨fu - 1, by omega⟩
    have hp : p < s.1.length := by omega
    have e5 : xwr ((p : Int) + 1) = ((p + 1 : Nat) : Int) := by rw [xwr_g _ (by omega) (by omega)]; omega
    have step : g290_98 r64 f (fu + 1) (dn : Int) x2 (r : Int) (p : Int) G = if ¬ (qK s p : Int) = (r : Int) then g290_98 r64 f fu (dn : Int) x2 (r : Int) ((p + 1 : Nat) : Int) G else g290_98 r64 f fu ((dn ||| 2 ^ p : Nat) : Int) x2 (r : Int) ((p + 1 : Nat) : Int) G := by
      show g290_98b r64 (g290_98 r64 f fu) f _ _ _ _ _ = _
      unfold g290_98b g290_131
      rw [h8, if_neg (by omega), if_pos (by omega)]
      simp only [Nat.reduceAdd, Int.toNat_natCast]
      simp only [h7 p hp, e5]
      rw [xorb (by omega) (by omega)]
    rw [step]
    by_cases ck : qK s p = r
    · have n1 : ¬ ¬ (qK s p : Int) = (r : Int) := fun q => q (by rw [ck])
      rw [if_neg n1]
      obtain ⟨dn', k1, k2, k3⟩ := ih (p + 1) fu (dn ||| 2 ^ p) (by omega) (by omega) (or_l16 h3 (p2_l16 (by omega)))
      refine ⟨dn', k1, k2, fun y => ?_⟩
      rw [k3 y, or_bit, Bool.or_eq_true, decide_eq_true_eq]
      constructor
      · rintro ((q | q) | q)
        · exact .inl q
        · rw [← q]; exact .inr ⟨Nat.le_refl _, hp, ck⟩
        · exact .inr ⟨by omega, q.2⟩
      · rintro (q | ⟨q1, q2⟩)
        · exact .inl (.inl q)
        · by_cases cy : y = p
          · exact .inl (.inr cy.symm)
          · exact .inr ⟨by omega, q2⟩
    · have n1 : ¬ (qK s p : Int) = (r : Int) := by omega
      rw [if_pos n1]
      obtain ⟨dn', k1, k2, k3⟩ := ih (p + 1) fu dn (by omega) (by omega) h3
      refine ⟨dn', k1, k2, fun y => ?_⟩
      rw [k3 y]
      constructor
      · rintro (q | q)
        · exact .inl q
        · exact .inr ⟨by omega, q.2⟩
      · rintro (q | ⟨q1, q2, q3⟩)
        · exact .inl q
        · by_cases cy : y = p
          · rw [cy] at q3; exact absurd q3 ck
          · exact .inr ⟨by omega, q2, q3⟩
def xWk (G G' : xG_) : Prop := ∀ o j, ¬ (o = 0 ∧ (37 ≤ j ∧ j ≤ 40 ∨ 42 ≤ j ∧ j ≤ 61)) → ¬ (107 ≤ o ∧ o ≤ 121 ∧ o ≠ 118) → G' o j = G o j
theorem full_is {dn np : Nat} (hnp : np ≤ 16) (h : ∀ y, dn.testBit y = true → y < np) : (dn : Int) = xwr (xshl 1 (np : Int) - 1) ↔ ∀ p, p < np → dn.testBit p = true := by
  have h2 : 2 ^ np ≤ 2 ^ 16 := Nat.pow_le_pow_right (by decide) hnp
  have h1 := Nat.two_pow_pos np
  rw [xshl_nat (by omega), xwr_g _ (by omega) (by omega)]
  have e : (dn : Int) = ((2 ^ np : Nat) : Int) - 1 ↔ dn = 2 ^ np - 1 := by omega
  rw [e]
  constructor
  · intro h3 p hp
    rw [h3, Nat.testBit_two_pow_sub_one]
    exact decide_eq_true hp
  · intro h3
    refine Nat.eq_of_testBit_eq (fun j => ?_)
    rw [Nat.testBit_two_pow_sub_one]
    by_cases c : j < np
    · rw [h3 j c, decide_eq_true c]
    · rw [decide_eq_false c]
      cases hb : dn.testBit j with
      | false => rfl
      | true => exact absurd (h j hb) c
theorem l_290_64 {In : Nat → List pRw} (hf : 1000100 < f) (hok : qOk s) : ∀ (d fu dn : Nat) (G : xG_) (R : Nat → List pRw), (List.range s.1.length).countP (fun p => !(dn.testBit p)) ≤ d → d + 1 < fu → dn < 65536 → (∀ y, dn.testBit y = true → y < s.1.length) → rEn G q c s R → wkI s In dn R → ∃ G' b, g290_64 f fu (dn : Int) 1 G = some (b, G') ∧ xWk G G' ∧ ((b = 1 ∧ ∃ M, rEn G' q c s M ∧ qMod s In M) ∨ (b = 0 ∧ ¬ ∃ M, qMod s In M)) := by
  have hnp : s.1.length ≤ 16 := hok.1.1
  have hw := hok.1
  intro d
  induction d using Nat.strongRecOn with
  | _ d ih =>
    intro fu dn G R h1 h2 h3 h4 hE hI
    obtain ⟨fu, rfl⟩ : ∃ t, fu = t + 1 := ⟨fu - 1, by omega⟩
    have h8 : G 2 8 = (s.1.length : Int) := hE.1.1.1
    by_cases call : ∀ p, p < s.1.length → dn.testBit p = true
    · refine ⟨G, 1, ?_, fun _ _ _ _ => rfl, .inl ⟨rfl, R, hE, hI.done call⟩⟩
      show g290_64b (g290_64 f fu) f _ _ _ = _
      unfold g290_64b g290_140
      rw [if_neg (by decide), h8, if_pos ((full_is hnp h4).mpr call)]
      rfl
    · have hu : ∃ p, p < s.1.length ∧ dn.testBit p = false := by
        refine Classical.byContradiction (fun q => call (fun p hp => ?_))
        cases h : dn.testBit p with
        | true => rfl
        | false => exact absurd ⟨p, hp, h⟩ q
      obtain ⟨r, hr, e1⟩ := l_291 (f := f) (by omega) hok hE h3 (hI.some hw hu)
      obtain ⟨G1, b, k1, k2, k3⟩ := l_293 (f := f) (rg := r) hf hok hE hI.1
      have step : g290_64 f (fu + 1) (dn : Int) 1 G = g290_98 (g290_64 f fu) f f (dn : Int) b (r : Int) 0 G1 := by
        show g290_64b (g290_64 f fu) f _ _ _ = _
        unfold g290_64b
        rw [if_neg (by decide), h8, if_neg (fun q => call ((full_is hnp h4).mp q)), e1, Option.bind_some]
        show Option.bind (g293 f (r : Int) G) _ = _
        rw [k1, Option.bind_some]
      rcases k3 with ⟨b1, R', c1, c2, c3⟩ | ⟨b1, c1⟩
      · obtain ⟨dn', s1, s2, s3⟩ := l_290_98 (f := f) (r := r) (x2 := b) (r64 := g290_64 f fu) hok c1 s.1.length 0 f dn (by omega) (by omega) h3
        have s1' : g290_98 (g290_64 f fu) f f (dn : Int) b (r : Int) 0 G1 = _ := s1
        have hd' : ∀ p, p < s.1.length → (dn'.testBit p = true ↔ dn.testBit p = true ∨ qK s p = r) := fun p hp => by
          rw [s3 p]
          constructor
          · rintro (q | q)
            · exact .inl q
            · exact .inr q.2.2
          · rintro (q | q)
            · exact .inl q
            · exact .inr ⟨Nat.zero_le _, hp, q⟩
        have hlt : (List.range s.1.length).countP (fun p => !(dn'.testBit p)) < (List.range s.1.length).countP (fun p => !(dn.testBit p)) := by
          refine countP_lt _ (fun p hp h => ?_) ⟨r, List.mem_range.mpr hr.1, by rw [hr.2.2.1]; rfl, ?_⟩
          · cases hb : dn.testBit p with
            | false => rfl
            | true =>
              rw [(hd' p (List.mem_range.mp hp)).mpr (.inl hb)] at h
              cases h
          · rw [(hd' r hr.1).mpr (.inr hr.2.1)]
            rfl
        obtain ⟨G2, b', u1, u2, u3⟩ := ih (d - 1) (by omega) fu dn' G1 R' (by omega) (by omega) s2 (fun y hy => by
          rcases (s3 y).mp hy with q | q
          · exact h4 y q
          · exact q.2.1) c1 (hI.next hw hr c3 c2 hd')
        refine ⟨G2, b', ?_, fun o j y1 y2 => by rw [u2 o j y1 y2, k2 o j y1 y2], u3⟩
        rw [step, s1', b1]
        exact u1
      · have hE1 : ∀ a j, 2 ≤ a → a ≤ 36 → G1 a j = G a j := fun a j _ _ => k2 a j (by omega) (by omega)
        have c8 : G1 2 8 = (s.1.length : Int) := by rw [hE1 _ _ (by omega) (by omega)]; exact h8
        have lp : ∀ (d p fu' dn : Nat), p + d = s.1.length → d < fu' → dn < 65536 → ∃ dn' : Nat, g290_98 (g290_64 f fu) f fu' (dn : Int) b (r : Int) (p : Int) G1 = g290_64 f fu (dn' : Int) b G1 := by
          intro d
          induction d with
          | zero =>
            intro p fu' dn y1 y2 y3
            obtain ⟨fu', rfl⟩ : ∃ t, fu' = t + 1 := ⟨fu' - 1, by omega⟩
            refine ⟨dn, ?_⟩
            show g290_98b (g290_64 f fu) (g290_98 (g290_64 f fu) f fu') f _ _ _ _ _ = _
            unfold g290_98b
            rw [c8, if_pos (by omega)]
          | succ d ihd =>
            intro p fu' dn y1 y2 y3
            obtain ⟨fu', rfl⟩ : ∃ t, fu' = t + 1 := ⟨fu' - 1, by omega⟩
            have hp : p < s.1.length := by omega
            have e5 : xwr ((p : Int) + 1) = ((p + 1 : Nat) : Int) := by rw [xwr_g _ (by omega) (by omega)]; omega
            have step2 : g290_98 (g290_64 f fu) f (fu' + 1) (dn : Int) b (r : Int) (p : Int) G1 = if ¬ G1 7 p = (r : Int) then g290_98 (g290_64 f fu) f fu' (dn : Int) b (r : Int) ((p + 1 : Nat) : Int) G1 else g290_98 (g290_64 f fu) f fu' ((dn ||| 2 ^ p : Nat) : Int) b (r : Int) ((p + 1 : Nat) : Int) G1 := by
              show g290_98b (g290_64 f fu) (g290_98 (g290_64 f fu) f fu') f _ _ _ _ _ = _
              unfold g290_98b g290_131
              rw [c8, if_neg (by omega), if_pos (by omega)]
              simp only [Nat.reduceAdd, Int.toNat_natCast]
              rw [e5, xorb (by omega) (by omega)]
            rw [step2]
            by_cases cc : G1 7 p = (r : Int)
            · have nn : ¬ ¬ G1 7 p = (r : Int) := fun q => q cc
              rw [if_neg nn]
              exact ihd (p + 1) fu' _ (by omega) (by omega) (or_l16 y3 (p2_l16 (by omega)))
            · rw [if_pos cc]
              exact ihd (p + 1) fu' dn (by omega) (by omega) y3
        obtain ⟨dn', s1⟩ := lp s.1.length 0 f dn (by omega) (by omega) h3
        have s1' : g290_98 (g290_64 f fu) f f (dn : Int) b (r : Int) 0 G1 = _ := s1
        obtain ⟨fu, rfl⟩ : ∃ t, fu = t + 1 := ⟨fu - 1, by omega⟩
        refine ⟨G1, 0, ?_, k2, .inr ⟨rfl, hI.none hw hr c1⟩⟩
        rw [step, s1', b1]
        show g290_64b (g290_64 f fu) f _ _ _ = _
        unfold g290_64b g290_140
        rw [if_pos rfl, if_pos (Or.inl rfl)]
end
end
section
/-! workAll of the reference: from its start -/
section
variable {f q c : Nat} {s : pPg} {In : Nat → List pRw}
/-- rows of INPUTS -/
def qIn (s : pPg) (In : Nat → List pRw) : Prop := ∀ p, p < s.1.length → pIn s.2.1 (p : Int) = true → (In p).Pairwise rwLt ∧ ∀ w ∈ In p, w.1.length = qN s p ∧ ∀ x ∈ w.1, vOk x
theorem l_290_4 (hok : qOk s) : ∀ (d p fu dn : Nat) (G : xG_) (R : Nat → List pRw), p + d = s.1.length → d < fu → dn < 65536 → (∀ y, dn.testBit y = true ↔ y < p ∧ pIn s.2.1 (y : Int) = true) → rEn G q c s R → (∀ y, y < s.1.length → pIn s.2.1 (y : Int) = true → R y = In y) → (∀ y, y < p → pIn s.2.1 (y : Int) = false → R y = []) → (∀ y, y < p → pIn s.2.1 (y : Int) = true → (In y).length ≤ 100) →
    ∃ G', (∀ o j, o ≠ 108 → G' o j = G o j) ∧ ((g290_4 f fu (dn : Int) (p : Int) G = some (0, G') ∧ ∃ y, y < s.1.length ∧ pIn s.2.1 (y : Int) = true ∧ 100 < (In y).length) ∨ ∃ dn' R', g290_4 f fu (dn : Int) (p : Int) G = g290_64 f f ((dn' : Nat) : Int) 1 G' ∧ dn' < 65536 ∧ (∀ y, dn'.testBit y = true ↔ y < s.1.length ∧ pIn s.2.1 (y : Int) = true) ∧ rEn G' q c s R' ∧ (∀ y, y < s.1.length → pIn s.2.1 (y : Int) = true → R' y = In y ∧ (In y).length ≤ 100) ∧ ∀ y, y < s.1.length → pIn s.2.1 (y : Int) = false → R' y = []) := by
  have hnp : s.1.length ≤ 16 := hok.1.1
  intro d
  induction d with
  | zero =>
    intro p fu dn G R h1 h2 h3 hd hE hi hn hl
    obtain ⟨fu, rfl⟩ : ∃ t, fu = t + 1 := ⟨fu - 1, by omega⟩
    have h8 : G 2 8 = (s.1.length : Int) := hE.1.1.1
    have ep : p = s.1.length := by omega
    subst ep
    refine ⟨G, fun _ _ _ => rfl, .inr ⟨dn, R, ?_, h3, hd, hE, fun y hy hb => ⟨hi y hy hb, hl y hy hb⟩, hn⟩⟩
    show g290_4b (g290_4 f fu) f _ _ _ = _
    unfold g290_4b
    rw [h8, if_pos (by omega)]
  | succ d ih =>
    intro p fu dn G R h1 h2 h3 hd hE hi hn hl
    obtain ⟨fu, rfl⟩ : ∃ t, fu = t + 1 := ⟨fu - 1, by omega⟩
    have h8 : G 2 8 = (s.1.length : Int) := hE.1.1.1
    have hp : p < s.1.length := by omega
    have e5 : xwr ((p : Int) + 1) = ((p + 1 : Nat) : Int) := by rw [xwr_g _ (by omega) (by omega)]; omega
    have hpp : 0 ≤ (p : Int) ∧ (p : Int) < 16 := by omega
    have hin : G 8 p = b01 (pIn s.2.1 (p : Int)) := (hE.1.2.2.2.1 p (by omega)).1
    cases hb : pIn s.2.1 (p : Int) with
    | true =>
      have hin' : G 8 p = 1 := by rw [hin, hb]; rfl
      have h108 : G 108 p = ((In p).length : Int) := by rw [← hi p hp hb]; exact (hE.2.2.2 p hp).1.1
      have step : g290_4 f (fu + 1) (dn : Int) (p : Int) G = if ((In p).length : Int) ≤ 100 then g290_4 f fu ((dn ||| 2 ^ p : Nat) : Int) ((p + 1 : Nat) : Int) G else some (0, G) := by
        show g290_4b (g290_4 f fu) f _ _ _ = _
        unfold g290_4b g290_43
        rw [h8, if_neg (by omega)]
        simp only [Nat.reduceAdd, Int.toNat_natCast, if_pos hpp, hin', h108, e5]
        rw [if_neg (by decide), xorb (by omega) (by omega)]
      by_cases cl : (In p).length ≤ 100
      · rw [if_pos (by omega)] at step
        rw [step]
        exact ih (p + 1) fu (dn ||| 2 ^ p) G R (by omega) (by omega) (or_l16 h3 (p2_l16 (by omega))) (fun y => by
          rw [or_bit, Bool.or_eq_true, hd y, decide_eq_true_eq]
          constructor
          · rintro (q | q)
            · exact ⟨by omega, q.2⟩
            · rw [← q]; exact ⟨by omega, hb⟩
          · rintro ⟨q1, q2⟩
            by_cases cy : y = p
            · exact .inr cy.symm
            · exact .inl ⟨by omega, q2⟩) hE hi (fun y hy hby => by
          by_cases cy : y = p
          · rw [cy, hb] at hby; cases hby
          · exact hn y (by omega) hby) (fun y hy hby => by
          by_cases cy : y = p
          · rw [cy]; exact cl
          · exact hl y (by omega) hby)
      · rw [if_neg (by omega)] at step
        exact ⟨G, fun _ _ _ => rfl, .inl ⟨step, p, hp, hb, by omega⟩⟩
    | false =>
      have hin' : G 8 p = 0 := by rw [hin, hb]; rfl
      have step : g290_4 f (fu + 1) (dn : Int) (p : Int) G = g290_4 f fu (dn : Int) ((p + 1 : Nat) : Int) (xup2 G 108 p 0) := by
        show g290_4b (g290_4 f fu) f _ _ _ = _
        unfold g290_4b g290_43
        rw [h8, if_neg (by omega)]
        simp only [Nat.reduceAdd, Int.toNat_natCast, if_pos hpp, hin', e5, Option.bind_some, if_true, xup2_s]
        rw [if_pos (by decide)]
      let R1 : Nat → List pRw := fun y => if y = p then [] else R y
      have r1 : R1 p = [] := if_pos rfl
      have r2 : ∀ y, y ≠ p → R1 y = R y := fun y h => if_neg h
      have hE1 : rEn (xup2 G 108 p 0) q c s R1 := by
        obtain ⟨a1, a2, a3, a4⟩ := hE
        refine ⟨a1.ge (fun j => xup2_n (by omega)) (fun a j _ _ _ _ _ => xup2_n (by omega)), fun y hy => by rw [xup2_n (by omega)]; exact a2 y hy, ⟨fun y hy => by rw [xup2_n (by omega)]; exact a3.1 y hy, fun y hy => by rw [xup2_n (by omega)]; exact a3.2 y hy⟩, fun y hy => ?_⟩
        by_cases cy : y = p
        · rw [cy, r1]
          exact ⟨⟨xup2_s _ _ _ _, by decide, fun i hi => absurd hi (Nat.not_lt_zero _)⟩, (a4 p hp).2⟩
        · rw [r2 y cy]
          obtain ⟨⟨b1, b2, b3⟩, b4⟩ := a4 y hy
          refine ⟨⟨by rw [xup2_n (by omega)]; exact b1, b2, fun i hi => ?_⟩, b4⟩
          obtain ⟨c1, c2, c3⟩ := b3 i hi
          exact ⟨c1, fun j hj => by rw [xup2_n (by omega)]; exact c2 j hj, by rw [xup2_n (by omega)]; exact c3⟩
      obtain ⟨G', k1, k2⟩ := ih (p + 1) fu dn (xup2 G 108 p 0) R1 (by omega) (by omega) h3 (fun y => by
          rw [hd y]
          constructor
          · exact fun q => ⟨by omega, q.2⟩
          · rintro ⟨q1, q2⟩
            by_cases cy : y = p
            · rw [cy, hb] at q2; cases q2
            · exact ⟨by omega, q2⟩) hE1 (fun y hy hby => by
          by_cases cy : y = p
          · rw [cy, hb] at hby; cases hby
          · rw [r2 y cy]; exact hi y hy hby) (fun y hy hby => by
          by_cases cy : y = p
          · rw [cy]; exact r1
          · rw [r2 y cy]; exact hn y (by omega) hby) (fun y hy hby => by
          by_cases cy : y = p
          · rw [cy, hb] at hby; cases hby
          · exact hl y (by omega) hby)
      refine ⟨G', fun o j y => by rw [k1 o j y, xup2_n (fun q => y q.1)], ?_⟩
      rw [step]
      exact k2
/-- workAll -/
theorem l_290 {G : xG_} {R : Nat → List pRw} (hf : 1000100 < f) (hok : qOk s) (hnh : wNh s) (hE : rEn G q c s R) (hi : ∀ y, y < s.1.length → pIn s.2.1 (y : Int) = true → R y = In y) (hIn : qIn s In) :
    ∃ G' b, g290 f G = some (b, G') ∧ xWk G G' ∧ ((b = 1 ∧ ∃ M, rEn G' q c s M ∧ qMod s In M) ∨ (b = 0 ∧ ¬ ∃ M, qMod s In M)) := by
  have hnp : s.1.length ≤ 16 := hok.1.1
  have hw := hok.1
  obtain ⟨G1, k1, k2⟩ := l_290_4 (f := f) (In := In) hok s.1.length 0 f 0 G R (by omega) (by omega) (by decide) (fun y => by rw [Nat.zero_testBit]; exact ⟨fun h => (by cases h), fun h => (by omega)⟩) hE hi (fun y hy => by omega) (fun y hy => by omega)
  have fr : xWk G G1 := fun o j y1 y2 => k1 o j (by omega)
  rcases k2 with ⟨k2, y, y1, y2, y3⟩ | ⟨dn, R', k2, k3, k4, k5, k6, k7⟩
  · refine ⟨G1, 0, ?_, fr, .inr ⟨rfl, fun ⟨M, m1, m2, _⟩ => ?_⟩⟩
    · unfold g290
      exact k2
    · have := (m1 y y1).1
      rw [m2 y y1 y2] at this
      omega
  · have ik : ∀ p, p < s.1.length → pIn s.2.1 (p : Int) = true → qK s p = p := fun p hp hb => inp_k hnh hp (qK_lt hp) hb (qK_id hw hp)
    have hI : wkI s In dn R' := by
      refine ⟨fun p hp => ?_, fun p hp hb => ⟨(k6 p hp hb).1, (k4 p).mpr ⟨hp, hb⟩⟩, fun p hp hb => k7 p hp ?_, fun p hp hb hd => ?_, fun p hp => ?_, fun p hp hd y hy => ?_⟩
      · cases hb : pIn s.2.1 (p : Int) with
        | true =>
          obtain ⟨a1, a2⟩ := k6 p hp hb
          rw [a1]
          exact ⟨a2, hIn p hp hb⟩
        | false =>
          rw [k7 p hp hb]
          exact ⟨by decide, List.Pairwise.nil, fun w hw => absurd hw (by simp)⟩
      · cases hi : pIn s.2.1 (p : Int) with
        | false => rfl
        | true => rw [(k4 p).mpr ⟨hp, hi⟩] at hb; cases hb
      · rw [((k4 p).mp hd).2] at hb; cases hb
      · rw [k4 p, k4 (qK s p)]
        constructor
        · rintro ⟨_, a⟩
          rw [ik p hp a]
          exact ⟨hp, a⟩
        · rintro ⟨a1, a2⟩
          have := inp_k hnh a1 hp a2 (qK_id hw hp).symm
          rw [this]
          exact ⟨a1, a2⟩
      · exfalso
        have hb := ((k4 p).mp hd).2
        rw [ik p hp hb] at hy
        obtain ⟨p', q1, q2, q3⟩ := (rgR_rd hw).mp hy
        have : p' = p := inp_k hnh hp q1 hb (by rw [q2, ik p hp hb])
        rw [this, inp_rd hnh hb, Nat.zero_testBit] at q3
        cases q3
    obtain ⟨G2, b, u1, u2, u3⟩ := l_290_64 (f := f) (In := In) hf hok 100 f dn G1 R' (by
      have := List.countP_le_length (p := fun p => !(dn.testBit p)) (l := List.range s.1.length)
      rw [List.length_range] at this
      omega) (by omega) k3 (fun y hy => ((k4 y).mp hy).1) k5 hI
    refine ⟨G2, b, ?_, fun o j y1 y2 => by rw [u2 o j y1 y2, fr o j y1 y2], u3⟩
    unfold g290
    have k2' : g290_4 f f 0 0 G = _ := k2
    rw [k2']
    exact u1
end
end
section
/-! Tables of the reference: one row more, one less -/
section
variable {f np p c i : Nat} {N : Nat → Nat} {R : Nat → List pRw} {G : xG_} {xs : List Int}
theorem rTb.set {G' : xG_} {L : List pRw} (h : rTb G np N R) (hp : p < np) (hL : rRw G' p (N p) L) (hx : xfw p G G') : rTb G' np N (fun q => if q = p then L else R q) := fun q hq => by
  by_cases cq : q = p
  · show rRw G' q (N q) (if q = p then L else R q) ∧ _
    rw [if_pos cq, cq]
    exact ⟨hL, (h p hp).2⟩
  · show rRw G' q (N q) (if q = p then L else R q) ∧ _
    rw [if_neg cq]
    obtain ⟨⟨w1, w2, w3⟩, w4⟩ := h q hq
    have hfar : ∀ o j, (o = 107 ∧ q * 520 * 4 ≤ j ∧ j < (q * 520 + 520) * 4) ∨ (o = 108 ∧ j = q) ∨ (o = 109 ∧ q * 520 ≤ j ∧ j < q * 520 + 520) → G' o j = G o j := fun o j h => by
      refine hx o j (fun z => ?_) (fun z => ?_) (fun z => ?_)
      · rcases h with h | h | h
        · have h1 := h.2.1; have h2 := h.2.2; have h3 := z.2.1; have h4 := z.2.2
          omega
        · omega
        · omega
      · omega
      · rcases h with h | h | h
        · omega
        · omega
        · have h1 := h.2.1; have h2 := h.2.2; have h3 := z.2.1; have h4 := z.2.2
          omega
    refine ⟨⟨by rw [hfar _ _ (.inr (.inl ⟨rfl, rfl⟩))]; exact w1, w2, fun k hk => ?_⟩, w4⟩
    obtain ⟨v1, v2, v3⟩ := w3 k hk
    exact ⟨v1, fun j hj => by rw [hfar _ _ (.inl ⟨rfl, by omega, by omega⟩)]; exact v2 j hj, by rw [hfar _ _ (.inr (.inr ⟨rfl, by omega, by omega⟩))]; exact v3⟩
/-- add, for all tables -/
theorem l_add {u : Int} (hf : 600 < f) (hnp : np ≤ 16) (hp : p < np) (hT : rTb G np N R) (hs : ∀ q, q < np → (R q).Pairwise rwLt) (hl : (R p).length < 520) (h4 : G 4 p = (N p : Int)) (hc : c ≠ 107 ∧ c ≠ 108 ∧ c ≠ 109) (hx : rVe G c i xs) (hxn : xs.length = N p) :
    ∃ G' R', g264 f (p : Int) c (i : Int) u G = some G' ∧ (∀ o j, ¬ (107 ≤ o ∧ o ≤ 109) → G' o j = G o j) ∧ rTb G' np N R' ∧ (∀ q, q < np → (R' q).Pairwise rwLt) ∧ (∀ q, q ≠ p → R' q = R q) ∧ (((∃ y, y ∈ R p ∧ y.1 = xs) ∧ R' p = R p) ∨ ((∀ y, y ∈ R p → y.1 ≠ xs) ∧ (R' p).length = (R p).length + 1 ∧ ∀ y, y ∈ R' p ↔ y ∈ R p ∨ y = (xs, u))) := by
  obtain ⟨t1, t2⟩ := hT p hp
  obtain ⟨G', L, k1, k2, k3, k4, k5⟩ := l_264 (f := f) (u := u) hf (by omega : p < 16) t2 hc t1 (hs p hp) hl h4 hx hxn
  refine ⟨G', fun q => if q = p then L else R q, k1, fun o j y => k4 o j (by omega) (by omega) (by omega), hT.set hp k2 k4, fun q hq => ?_, fun q hq => if_neg hq, ?_⟩
  · show (if q = p then L else R q).Pairwise rwLt
    by_cases cq : q = p
    · rw [if_pos cq]; exact k3
    · rw [if_neg cq]; exact hs q hq
  · show _ ∧ (if p = p then L else R p) = R p ∨ _ ∧ (if p = p then L else R p).length = _ ∧ ∀ y, y ∈ (if p = p then L else R p) ↔ _
    rw [if_pos rfl]
    exact k5
/-- remove, for all tables -/
theorem l_rem {k : Nat} (hf : 600 < f) (hnp : np ≤ 16) (hp : p < np) (hT : rTb G np N R) (hs : ∀ q, q < np → (R q).Pairwise rwLt) (hk : k < (R p).length) :
    ∃ G' R', g265 f (p : Int) (k : Int) G = some G' ∧ (∀ o j, ¬ (107 ≤ o ∧ o ≤ 109) → G' o j = G o j) ∧ rTb G' np N R' ∧ (∀ q, q < np → (R' q).Pairwise rwLt) ∧ (∀ q, q ≠ p → R' q = R q) ∧ R' p = (R p).take k ++ (R p).drop (k + 1) := by
  obtain ⟨t1, t2⟩ := hT p hp
  obtain ⟨G', k1, k2, k3⟩ := l_265 (f := f) hf (by omega : p < 16) t1 hk
  refine ⟨G', fun q => if q = p then (R p).take k ++ (R p).drop (k + 1) else R q, k1, fun o j y => k3 o j (by omega) (by omega) (by omega), hT.set hp k2 k3, fun q hq => ?_, fun q hq => if_neg hq, if_pos rfl⟩
  show (if q = p then (R p).take k ++ (R p).drop (k + 1) else R q).Pairwise rwLt
  by_cases cq : q = p
  · rw [if_pos cq]; exact srt_del (hs p hp) k
  · rw [if_neg cq]; exact hs q hq
end
/-- NAMES and their numbers -/
theorem pIdx_get {L : List Int} {x : Int} (hn : L.Nodup) : (pIdx L x = -1 ∧ x ∉ L) ∨ ∃ p : Nat, p < L.length ∧ pIdx L x = (p : Int) ∧ L.getD p 0 = x ∧ ∀ q, q < L.length → L.getD q 0 = x → q = p := by
  unfold pIdx
  cases h : L.findIdx? (fun y => decide (y = x)) with
  | none =>
    refine .inl ⟨rfl, fun hm => ?_⟩
    rw [List.findIdx?_eq_none_iff] at h
    have := h x hm
    simp at this
  | some p =>
    rw [List.findIdx?_eq_some_iff_getElem] at h
    obtain ⟨h1, h2, h3⟩ := h
    have e : L[p] = x := of_decide_eq_true h2
    refine .inr ⟨p, h1, rfl, by rw [getD_e h1]; exact e, fun q hq hx => ?_⟩
    rw [getD_e hq] at hx
    have := (List.nodup_iff_pairwise_ne.mp hn)
    by_cases c : q < p
    · exact absurd (hx.trans e.symm) ((List.pairwise_iff_getElem.mp this) q p hq h1 c)
    · by_cases c2 : p < q
      · exact absurd (e.trans hx.symm) ((List.pairwise_iff_getElem.mp this) p q h1 hq c2)
      · omega
end
section
/-! The reference's facts come to the rows of INPUTS -/
def qNm (s : pPg) (p : Nat) : Int := s.1.getD p 0
/-- rows of the predicates of cd, from facts -/
def qFt (s : pPg) (cd : Nat → Prop) (F : List pFc) (R : Nat → List pRw) : Prop := ∀ p, p < s.1.length → (R p).Pairwise rwLt ∧ (R p).length ≤ F.countP (fun y => decide (y.1 = qNm s p ∧ y.2.length = qN s p)) ∧ ∀ y, y ∈ R p ↔ cd p ∧ y.2 = 0 ∧ (qNm s p, y.1) ∈ F ∧ y.1.length = qN s p
section
variable {f q c b : Nat} {s : pPg} {cd : Nat → Prop} {F : List pFc} {R : Nat → List pRw}
theorem qFt.skip {x : pFc} (h : qFt s cd F R) (hn : ∀ p, p < s.1.length → ¬ (cd p ∧ qNm s p = x.1 ∧ x.2.length = qN s p)) : qFt s cd (F ++ [x]) R := fun p hp => by
  obtain ⟨a1, a2, a3⟩ := h p hp
  refine ⟨a1, by rw [List.countP_append]; omega, fun y => ?_⟩
  rw [a3 y, List.mem_append, List.mem_singleton]
  constructor
  · rintro ⟨b1, b2, b3, b4⟩
    exact ⟨b1, b2, .inl b3, b4⟩
  · rintro ⟨b1, b2, b3 | b3, b4⟩
    · exact ⟨b1, b2, b3, b4⟩
    · refine absurd ⟨b1, ?_, ?_⟩ (hn p hp)
      · rw [← b3]
      · rw [← b3]; exact b4
theorem qFt.go {G : xG_} {x : pFc} {p o i : Nat} (hf : 600 < f) (hok : qOk s) (h : qFt s cd F R) (hT : rTb G s.1.length (qN s) R) (hp : p < s.1.length) (hcd : cd p) (hnm : qNm s p = x.1) (hx : x.2.length = qN s p) (hnew : x ∉ F) (hl : F.countP (fun y => decide (y.1 = qNm s p ∧ y.2.length = qN s p)) < 520) (h4 : G 4 p = (qN s p : Int)) (ho : o ≠ 107 ∧ o ≠ 108 ∧ o ≠ 109) (hv : rVe G o i x.2) :
    ∃ G' R', g264 f (p : Int) o (i : Int) 0 G = some G' ∧ (∀ o j, ¬ (107 ≤ o ∧ o ≤ 109) → G' o j = G o j) ∧ rTb G' s.1.length (qN s) R' ∧ qFt s cd (F ++ [x]) R' := by
  have hlen := (h p hp).2.1
  obtain ⟨G', R', k1, k2, k3, k4, k5, k6⟩ := l_add (f := f) (u := 0) hf hok.1.1 hp hT (fun q hq => (h q hq).1) (by omega) h4 ho hv hx
  refine ⟨G', R', k1, k2, k3, fun q hq => ?_⟩
  obtain ⟨a1, a2, a3⟩ := h q hq
  by_cases cq : q = p
  · subst cq
    rcases k6 with ⟨⟨y, y1, y2⟩, _⟩ | ⟨k6, k7, k8⟩
    · exfalso
      have := ((a3 y).mp y1).2.2.1
      rw [y2, hnm] at this
      exact hnew this
    · refine ⟨k4 q hq, ?_, fun y => ?_⟩
      · rw [k7, List.countP_append, List.countP_cons_of_pos (by simp [hnm, hx])]
        show _ ≤ _ + (0 + 1)
        omega
      · rw [k8 y, a3 y, List.mem_append, List.mem_singleton]
        constructor
        · rintro (⟨b1, b2, b3, b4⟩ | b)
          · exact ⟨b1, b2, .inl b3, b4⟩
          · rw [b]; exact ⟨hcd, rfl, .inr (Prod.ext hnm rfl), hx⟩
        · rintro ⟨b1, b2, b3 | b3, b4⟩
          · exact .inl ⟨b1, b2, b3, b4⟩
          · refine .inr (Prod.ext ?_ b2)
            rw [← b3]
  · rw [k5 q cq]
    refine ⟨a1, by rw [List.countP_append]; omega, fun y => ?_⟩
    rw [a3 y, List.mem_append, List.mem_singleton]
    constructor
    · rintro ⟨b1, b2, b3, b4⟩
      exact ⟨b1, b2, .inl b3, b4⟩
    · rintro ⟨b1, b2, b3 | b3, b4⟩
      · exact ⟨b1, b2, b3, b4⟩
      · exfalso
        have e1 : qNm s q = qNm s p := by rw [hnm, ← b3]
        unfold qNm at e1
        rw [getD_e hq, getD_e hp] at e1
        have nd := List.nodup_iff_pairwise_ne.mp hok.1.2.1
        by_cases c1 : q < p
        · exact (List.pairwise_iff_getElem.mp nd) q p hq hp c1 e1
        · exact (List.pairwise_iff_getElem.mp nd) p q hp hq (by omega) e1.symm
/-- facts that may be filled in -/
def qFo (s : pPg) (F : List pFc) : Prop := F.Pairwise fLt ∧ (∀ p, p < s.1.length → F.countP (fun y => decide (y.1 = qNm s p ∧ y.2.length = qN s p)) ≤ 500) ∧ ∀ y ∈ F, ∀ x ∈ y.2, vOk x
theorem fa_new {i : Nat} (hs : F.Pairwise fLt) (hi : i < F.length) : F.getD i dFc ∉ F.take i := fun hm => by
  obtain ⟨j, hj, ej⟩ := List.getElem_of_mem hm
  rw [List.length_take] at hj
  rw [List.getElem_take] at ej
  have := srt_get (d := dFc) hs (by omega : j < i) hi
  rw [getD_e (by omega : j < F.length), ej] at this
  exact fLt_irr _ this
theorem fa_tk {i : Nat} (hi : i < F.length) : F.take (i + 1) = F.take i ++ [F.getD i dFc] := by rw [List.take_succ_eq_append_getElem hi, getD_e hi]
/-- fillInputs: the facts, one after another -/
theorem l_297_23 {G0 : xG_} (hf : 3600 < f) (hok : qOk s) (hb : isFb b) (hP : rPr G0 2 q c s ∧ rPn G0 2 s) (hF : rFa G0 b F) (hFo : qFo s F) : ∀ (d i fu : Nat) (G : xG_) (R : Nat → List pRw), i + d = F.length → d < fu → (∀ o j, ¬ (107 ≤ o ∧ o ≤ 109) → G o j = G0 o j) → rTb G s.1.length (qN s) R → qFt s (fun p => pIn s.2.1 (p : Int) = true) (F.take i) R →
    ∃ G' R', g297_23 f fu b (i : Int) G = some G' ∧ (∀ o j, ¬ (107 ≤ o ∧ o ≤ 109) → G' o j = G0 o j) ∧ rTb G' s.1.length (qN s) R' ∧ qFt s (fun p => pIn s.2.1 (p : Int) = true) F R' := by
  have hl := hF.2.1
  have hbb : b + 3 < 107 ∨ 109 < b := by unfold isFb at hb; omega
  intro d
  induction d with
  | zero =>
    intro i fu G R h1 h2 h3 hT hq
    obtain ⟨fu, rfl⟩ : ∃ t, fu = t + 1 := ⟨fu - 1, by omega⟩
    have ei : F.take i = F := List.take_of_length_le (by omega)
    rw [ei] at hq
    refine ⟨G, R, ?_, h3, hT, hq⟩
    show g297_23b (g297_23 f fu) f _ _ _ = _
    unfold g297_23b
    rw [h3 _ _ (by omega), hF.1, if_pos (by omega)]
  | succ d ih =>
    intro i fu G R h1 h2 h3 hT hq
    obtain ⟨fu, rfl⟩ : ∃ t, fu = t + 1 := ⟨fu - 1, by omega⟩
    have hi : i < F.length := by omega
    obtain ⟨q1, q2, q3, q4⟩ := hF.2.2 i hi
    have e4 : xwr (4 * (i : Int)) = ((4 * i : Nat) : Int) := by rw [xwr_g _ (by omega) (by omega)]; omega
    have e5 : xwr ((i : Int) + 1) = ((i + 1 : Nat) : Int) := by rw [xwr_g _ (by omega) (by omega)]; omega
    have hii : 0 ≤ (i : Int) ∧ (i : Int) < 3400 := by omega
    have hN : rNs G 2 s.1 := ⟨by rw [h3 _ _ (by omega)]; exact hP.1.1.1, hP.1.1.2.1, fun k hk => by rw [h3 _ _ (by omega)]; exact hP.1.1.2.2 k hk⟩
    have g1 : G (b + 1) i = (F.getD i dFc).1 := by rw [h3 _ _ (by omega)]; exact q1
    have g3 : G (b + 3) i = ((F.getD i dFc).2.length : Int) := by rw [h3 _ _ (by omega)]; exact q2
    have hnp := hok.1.1
    have skip : (∀ p, p < s.1.length → ¬ (pIn s.2.1 (p : Int) = true ∧ qNm s p = (F.getD i dFc).1 ∧ (F.getD i dFc).2.length = qN s p)) → g297_23 f (fu + 1) b (i : Int) G = g297_23 f fu b ((i + 1 : Nat) : Int) G → ∃ G' R', g297_23 f (fu + 1) b (i : Int) G = some G' ∧ (∀ o j, ¬ (107 ≤ o ∧ o ≤ 109) → G' o j = G0 o j) ∧ rTb G' s.1.length (qN s) R' ∧ qFt s (fun p => pIn s.2.1 (p : Int) = true) F R' := fun hn he => by
      rw [he]
      exact ih (i + 1) fu G R (by omega) (by omega) h3 hT (by rw [fa_tk hi]; exact hq.skip hn)
    rcases pIdx_get (x := (F.getD i dFc).1) hok.1.2.1 with ⟨c1, c2⟩ | ⟨p, p1, p2, p3, p4⟩
    · refine skip (fun p hp hh => c2 ?_) ?_
      · rw [← hh.2.1]
        unfold qNm
        rw [getD_e hp]
        exact List.getElem_mem hp
      · show g297_23b (g297_23 f fu) f _ _ _ = _
        unfold g297_23b g297_93
        rw [h3 b 3 (by omega), hF.1, if_neg (by omega), if_pos hii, Int.toNat_natCast, g1, hN.idx (by omega) (by omega), Option.bind_some, c1, if_pos rfl, e5]
    · have hin : G 8 p = b01 (pIn s.2.1 (p : Int)) := by rw [h3 _ _ (by omega)]; exact (hP.1.2.2.2.1 p (by omega)).1
      have h4 : G 4 p = (qN s p : Int) := by
        rw [h3 _ _ (by omega), (qN_c hok.1 p).1]
        exact hP.2 p p1
      have hpp : 0 ≤ (p : Int) ∧ (p : Int) < 16 := by omega
      have n1 : ¬ (p : Int) = -1 := by omega
      have step : g297_23 f (fu + 1) b (i : Int) G = if b01 (pIn s.2.1 (p : Int)) = 0 then g297_23 f fu b ((i + 1 : Nat) : Int) G else if ¬ (qN s p : Int) = ((F.getD i dFc).2.length : Int) then g297_23 f fu b ((i + 1 : Nat) : Int) G else (g264 f (p : Int) (b + 2) ((4 * i : Nat) : Int) 0 G).bind fun R114 => g297_23 f fu b ((i + 1 : Nat) : Int) R114 := by
        show g297_23b (g297_23 f fu) f _ _ _ = _
        unfold g297_23b g297_93
        rw [h3 b 3 (by omega), hF.1, if_neg (by omega), if_pos hii, Int.toNat_natCast, g1, hN.idx (by omega) (by omega), Option.bind_some, p2, if_neg n1]
        simp only [Nat.reduceAdd, Int.toNat_natCast, if_pos hpp, if_pos hii, hin, h4, g3, e4, e5]
      have only : ∀ p', p' < s.1.length → qNm s p' = (F.getD i dFc).1 → p' = p := fun p' hp' h => p4 p' hp' h
      cases hbi : pIn s.2.1 (p : Int) with
      | false =>
        rw [hbi] at step
        refine skip (fun p' hp' hh => ?_) (by rw [step, if_pos (show b01 false = 0 from rfl)])
        rw [only p' hp' hh.2.1, hbi] at hh
        cases hh.1
      | true =>
        rw [hbi, if_neg (show ¬ b01 true = 0 from by decide)] at step
        by_cases cl : (F.getD i dFc).2.length = qN s p
        · have n2 : ¬ ¬ (qN s p : Int) = ((F.getD i dFc).2.length : Int) := fun q => q (by omega)
          rw [if_neg n2] at step
          have hcnt : (F.take i).countP (fun y => decide (y.1 = qNm s p ∧ y.2.length = qN s p)) < 520 := by
            have h5 := List.Sublist.countP_le (p := fun y : pFc => decide (y.1 = qNm s p ∧ y.2.length = qN s p)) (List.take_sublist i F)
            have h6 := hFo.2.1 p p1
            omega
          have hv : rVe G (b + 2) (4 * i) (F.getD i dFc).2 := by
            obtain ⟨z1, z2, z3, z4⟩ := hF.ve hb hi
            exact ⟨z1, z2, z3, fun k hk => by rw [h3 _ _ (by omega)]; exact z4 k hk⟩
          obtain ⟨G1, R1, k1, k2, k3, k4⟩ := hq.go (f := f) (by omega) hok hT p1 hbi p3 cl (fa_new hFo.1 hi) hcnt h4 ⟨by omega, by omega, by omega⟩ hv
          obtain ⟨G2, R2, u1, u2, u3, u4⟩ := ih (i + 1) fu G1 R1 (by omega) (by omega) (fun o j y => by rw [k2 o j y]; exact h3 o j y) k3 (by rw [fa_tk hi]; exact k4)
          refine ⟨G2, R2, ?_, u2, u3, u4⟩
          rw [step, k1]
          exact u1
        · have n2 : ¬ (qN s p : Int) = ((F.getD i dFc).2.length : Int) := by omega
          rw [if_pos n2] at step
          refine skip (fun p' hp' hh => ?_) step
          rw [only p' hp' hh.2.1] at hh
          exact cl hh.2.2
end
end
section
/-! The reference reads the program of a line, and works its rows -/
def xLd (G G' : xG_) : Prop := ∀ o j, ¬ (o = 0 ∧ (j ≤ 11 ∨ 21 ≤ j ∧ j ≤ 27 ∨ 37 ≤ j ∧ j ≤ 40 ∨ 42 ≤ j ∧ j ≤ 61 ∨ 65 ≤ j ∧ j ≤ 66)) → ¬ (1 ≤ o ∧ o ≤ 36) → ¬ (107 ≤ o ∧ o ≤ 121 ∧ o ≠ 118) → G' o j = G o j
section
variable {f b : Nat} {s : pPg} {F : List pFc} {T : List (List Int)} {m e : Nat}
/-- readText -/
theorem l_295 {G : xG_} {o : Nat} (hf : 6400 < f) (ho : o = 2 ∨ o = 37 ∨ o = 72) (hC : rC G) (hT : rTxs G T m) (he : e < T.length) (hs : qPr (T.getD e []) = .inr s) (hfl : ∀ k a, ¬ pFa s 0 k a) :
    ∃ G' q c, g295 f o (e : Int) G = some G' ∧ rPr G' o q c s ∧ rPn G' o s ∧ rPk G' o s ∧ ∀ a j, ¬ (a = 0 ∧ (j ≤ 11 ∨ 21 ≤ j ∧ j ≤ 27)) → a ≠ 1 → ¬ (o ≤ a ∧ a ≤ o + 34) → G' a j = G a j := by
  obtain ⟨t1, t2, t3, t4, t5⟩ := hT
  obtain ⟨b0, q, b1, b2, b3, b4⟩ := t5 e he
  have hr := l_rt (f := f) (o := o) (by omega) b0 ho hC b4
  rw [hs] at hr
  obtain ⟨G1, c, r1, r2, r22, r3, r4, r5, r6, r7⟩ := hr
  obtain ⟨G2, u1, u2, u3, u4, u5, u6⟩ := l_fa (f := f) (by omega) (by omega) r4 r5 r6 r7
  refine ⟨G2, q, c, ?_, u3, u4, u6 (pFa_q hfl q), fun a j y1 y2 y3 => by rw [u2 a j (by omega) y2 (by omega) (by omega) (by omega), r3 a j y1 y2 y3]⟩
  have hee : 0 ≤ (e : Int) ∧ (e : Int) < 4200 := by omega
  unfold g295
  rw [if_pos hee, if_pos hee, if_pos hee, Int.toNat_natCast, b1, b2, xwr_g _ (by omega) (by omega), r1, Option.bind_some, u1]
  rfl
/-- fillInputs -/
theorem l_297 {G : xG_} {q c : Nat} (hf : 3600 < f) (hok : qOk s) (hb : isFb b) (hP : rPr G 2 q c s) (hPn : rPn G 2 s) (hF : rFa G b F) (hFo : qFo s F) :
    ∃ G' R', g297 f b G = some G' ∧ (∀ o j, ¬ (107 ≤ o ∧ o ≤ 109) → G' o j = G o j) ∧ rTb G' s.1.length (qN s) R' ∧ qFt s (fun p => pIn s.2.1 (p : Int) = true) F R' := by
  have hnp := hok.1.1
  have loop : ∀ (d p fu : Nat) (Z : xG_), p + d = 16 → d < fu → (∀ o j, o ≠ 108 → Z o j = G o j) → (∀ j, j < p → Z 108 j = 0) → ∃ Z', g297_2 f fu b (p : Int) Z = g297_23 f f b 0 Z' ∧ (∀ o j, o ≠ 108 → Z' o j = G o j) ∧ ∀ j, j < 16 → Z' 108 j = 0 := by
    intro d
    induction d with
    | zero =>
      intro p fu Z h1 h2 h3 h4
      obtain ⟨fu, rfl⟩ : ∃ t, fu = t + 1 := ⟨fu - 1, by omega⟩
      refine ⟨Z, ?_, h3, fun j hj => h4 j (by omega)⟩
      show g297_2b (g297_2 f fu) f _ _ _ = _
      unfold g297_2b
      rw [if_pos (by omega)]
    | succ d ih =>
      intro p fu Z h1 h2 h3 h4
      obtain ⟨fu, rfl⟩ : ∃ t, fu = t + 1 := ⟨fu - 1, by omega⟩
      have e5 : xwr ((p : Int) + 1) = ((p + 1 : Nat) : Int) := by rw [xwr_g _ (by omega) (by omega)]; omega
      obtain ⟨Z', k1, k2, k3⟩ := ih (p + 1) fu (xup2 Z 108 p 0) (by omega) (by omega) (fun o j y => by rw [xup2_n (fun q => y q.1)]; exact h3 o j y) (fun j hj => by
        by_cases cj : j = p
        · rw [cj, xup2_s]
        · rw [xup2_n (by omega)]; exact h4 j (by omega))
      refine ⟨Z', ?_, k2, k3⟩
      rw [← k1]
      show g297_2b (g297_2 f fu) f _ _ _ = _
      unfold g297_2b
      rw [if_neg (by omega), if_pos (by omega), Int.toNat_natCast, Option.bind_some, e5]
  obtain ⟨Z, k1, k2, k3⟩ := loop 16 0 f G (by omega) (by omega) (fun _ _ _ => rfl) (fun j hj => absurd hj (by omega))
  have hbb : b + 3 < 107 ∨ 109 < b := by unfold isFb at hb; omega
  have hT0 : rTb Z s.1.length (qN s) (fun _ => []) := fun p hp => ⟨⟨k3 p (by omega), Nat.zero_le _, fun i hi => absurd hi (Nat.not_lt_zero _)⟩, (qN_c hok.1 p).2⟩
  have hFz : rFa Z b F := ⟨by rw [k2 _ _ (by omega)]; exact hF.1, hF.2.1, fun i hi => by
    obtain ⟨a1, a2, a3, a4⟩ := hF.2.2 i hi
    exact ⟨by rw [k2 _ _ (by omega)]; exact a1, by rw [k2 _ _ (by omega)]; exact a2, a3, fun j hj => by rw [k2 _ _ (by omega)]; exact a4 j hj⟩⟩
  obtain ⟨G', R', u1, u2, u3, u4⟩ := l_297_23 (f := f) (q := q) (c := c) (G0 := Z) hf hok hb ⟨hP.ge (fun j => k2 _ _ (by omega)) (fun a j _ _ _ _ _ => k2 _ _ (by omega)), fun y hy => by rw [k2 _ _ (by omega)]; exact hPn y hy⟩ hFz hFo F.length 0 f Z (fun _ => []) (by omega) (by have := hF.2.1; omega) (fun _ _ _ => rfl) hT0 (fun p hp => by
    rw [List.take_zero]
    exact ⟨List.Pairwise.nil, Nat.zero_le _, fun y => ⟨fun h => absurd h (by simp), fun h => absurd h.2.2.1 (by simp)⟩⟩)
  refine ⟨G', R', ?_, fun o j y => by rw [u2 o j y, k2 o j (by omega)], u3, u4⟩
  have k1' : g297_2 f f b 0 G = _ := k1
  unfold g297
  rw [k1']
  exact u1
/-- the rows M of the program s, its facts F -/
def qFa (s : pPg) (M : Nat → List pRw) (F : List pFc) : Prop := F.Pairwise fLt ∧ ∀ y : pFc, y ∈ F ↔ ∃ p, p < s.1.length ∧ y.1 = qNm s p ∧ ∃ w, w ∈ M p ∧ w.1 = y.2
/-- rows of a program as they stand behind a round -/
def qSt1 (s : pPg) (M : Nat → List pRw) : Prop := qMod s M M ∧ ∀ p, p < s.1.length → pIn s.2.1 (p : Int) = true → ∀ w ∈ M p, w.2 = 0
theorem nm_inj (hok : qOk s) {p q : Nat} (hp : p < s.1.length) (hq : q < s.1.length) (h : qNm s p = qNm s q) : p = q := by
  unfold qNm at h
  rw [getD_e hp, getD_e hq] at h
  have nd := List.nodup_iff_pairwise_ne.mp hok.1.2.1
  by_cases c1 : q < p
  · exact absurd h.symm ((List.pairwise_iff_getElem.mp nd) q p hq hp c1)
  · by_cases c2 : p < q
    · exact absurd h ((List.pairwise_iff_getElem.mp nd) p q hp hq c2)
    · omega
theorem qFa.fo {M : Nat → List pRw} (hok : qOk s) (hM : qTb s M) (h : qFa s M F) : qFo s F := by
  refine ⟨h.1, fun p hp => ?_, fun y hy x hx => ?_⟩
  · rw [List.countP_eq_length_filter]
    have nd : F.Nodup := by
      refine List.nodup_iff_pairwise_ne.mpr (List.Pairwise.imp (S := fun x y => x ≠ y) (fun {a b} h => ?_) h.1)
      intro q
      rw [q] at h
      exact fLt_irr _ h
    have := nodup_len (F.filter (fun y => decide (y.1 = qNm s p ∧ y.2.length = qN s p))) ((M p).map (fun w => (qNm s p, w.1))) (nd.filter _) (fun y hy => by
      obtain ⟨y1, y2⟩ := List.mem_filter.mp hy
      have y3 := of_decide_eq_true y2
      obtain ⟨p', a1, a2, w, a3, a4⟩ := (h.2 y).mp y1
      have : p' = p := nm_inj hok a1 hp (by rw [← a2]; exact y3.1)
      subst this
      exact List.mem_map.mpr ⟨w, a3, Prod.ext a2.symm a4⟩)
    rw [List.length_map] at this
    have := (hM p hp).1
    omega
  · obtain ⟨p, a1, a2, w, a3, a4⟩ := (h.2 y).mp hy
    rw [← a4] at hx
    exact ((hM p a1).2.2 w a3).2 x hx
/-- the rows of INPUTS are in the facts -/
theorem qFt.inp {M R : Nat → List pRw} (hok : qOk s) (hM : qSt1 s M) (hF : qFa s M F) (h : qFt s (fun p => pIn s.2.1 (p : Int) = true) F R) : ∀ p, p < s.1.length → pIn s.2.1 (p : Int) = true → R p = M p := fun p hp hi => by
  obtain ⟨a1, a2, a3⟩ := h p hp
  obtain ⟨b1, b2, b3⟩ := hM.1.1 p hp
  refine srt_ext rwLt_irr (fun _ _ _ => rwLt_tr) _ _ a1 b2 (fun y => ?_)
  rw [a3 y]
  constructor
  · rintro ⟨_, c1, c2, c3⟩
    obtain ⟨p', d1, d2, w, d3, d4⟩ := (hF.2 _).mp c2
    have : p = p' := nm_inj hok hp d1 d2
    subst this
    have : w = y := Prod.ext d4 (by rw [hM.2 p hp hi w d3, c1])
    rw [← this]
    exact d3
  · intro hy
    exact ⟨hi, hM.2 p hp hi y hy, (hF.2 _).mpr ⟨p, hp, rfl, y, hy, rfl⟩, (b3 y hy).1⟩
theorem rTb.ext {G : xG_} {np : Nat} {N : Nat → Nat} {R R' : Nat → List pRw} (h : rTb G np N R) (he : ∀ p, p < np → R p = R' p) : rTb G np N R' := fun p hp => by
  rw [← he p hp]
  exact h p hp
/-- the program, its rows: read and worked -/
theorem l_296_23 {G : xG_} {h o : Nat} {M : Nat → List pRw} (hf : 1000100 < f) (hh : h < 4) (ho : o = 123 + 29 * h) (h62 : G 0 62 = (h : Int)) (hC : rC G) (hT : rTxs G T m) (he : e < T.length) (h1 : G o 1 = (e : Int)) (hs : qPr (T.getD e []) = .inr s) (hok : qOk s) (hnh : wNh s) (hM : qSt1 s M) (hF : rFa G (o + 1) F) (hFa : qFa s M F) :
    ∃ G' q c, g296_23 f G = some G' ∧ xLd G G' ∧ rEn G' q c s M ∧ G' 0 65 = G 0 64 ∧ G' 0 66 = (h : Int) := by
  obtain ⟨G1, q, c, k1, k2, k3, k4, k5⟩ := l_295 (f := f) (o := 2) (by omega) (by omega) hC hT he hs hok.2.2
  have hb : isFb (o + 1) := by
    unfold isFb
    omega
  have hF1 : rFa G1 (o + 1) F := ⟨by rw [k5 _ _ (by omega) (by omega) (by omega)]; exact hF.1, hF.2.1, fun i hi => by
    obtain ⟨a1, a2, a3, a4⟩ := hF.2.2 i hi
    exact ⟨by rw [k5 _ _ (by omega) (by omega) (by omega)]; exact a1, by rw [k5 _ _ (by omega) (by omega) (by omega)]; exact a2, a3, fun j hj => by rw [k5 _ _ (by omega) (by omega) (by omega)]; exact a4 j hj⟩⟩
  obtain ⟨G2, R, u1, u2, u3, u4⟩ := l_297 (f := f) (by omega) hok hb k2 k3 hF1 (hFa.fo hok hM.1.1)
  have hE2 : rEn G2 q c s R := ⟨k2.ge (fun j => u2 _ _ (by omega)) (fun a j _ _ _ _ _ => u2 _ _ (by omega)), fun y hy => by rw [u2 _ _ (by omega)]; exact k3 y hy, ⟨fun p hp => by rw [u2 _ _ (by omega)]; exact k4.1 p hp, fun p hp => by rw [u2 _ _ (by omega)]; exact k4.2 p hp⟩, u3⟩
  have hRM := u4.inp hok hM hFa
  obtain ⟨G3, b, v1, v2, v3⟩ := l_290 (f := f) (In := M) hf hok hnh hE2 hRM (fun p hp hi => ⟨(hM.1.1 p hp).2.1, (hM.1.1 p hp).2.2⟩)
  have v4 : rEn G3 q c s M := by
    rcases v3 with ⟨_, M', w1, w2⟩ | ⟨_, w⟩
    · obtain ⟨z1, z2, z3, z4⟩ := w1
      exact ⟨z1, z2, z3, z4.ext (qMod_det hok.1 w2 hM.1)⟩
    · exact absurd ⟨M, hM.1⟩ w
  have e62 : G1 0 62 = (h : Int) := by rw [k5 _ _ (by omega) (by omega) (by omega)]; exact h62
  have e64 : G3 0 64 = G 0 64 := by rw [v2 _ _ (by omega) (by omega), u2 _ _ (by omega), k5 _ _ (by omega) (by omega) (by omega)]
  have e623 : G3 0 62 = (h : Int) := by rw [v2 _ _ (by omega) (by omega), u2 _ _ (by omega)]; exact e62
  refine ⟨xup2 (xup2 G3 0 65 (G3 0 64)) 0 66 (G3 0 62), q, c, ?_, fun a j y1 y2 y3 => ?_, v4.ge (fun a j _ _ => by rw [xup2_n (by omega), xup2_n (by omega)]) (fun a j _ _ => by rw [xup2_n (by omega), xup2_n (by omega)]), ?_, ?_⟩
  · unfold g296_23
    rw [h62, if_pos (by omega), Int.toNat_natCast, ← ho, h1, k1, Option.bind_some, u1, Option.bind_some, v1, Option.bind_some, Option.bind_some]
    show some (xup2 (xup2 G3 0 65 (G3 0 64)) 0 66 (xup2 G3 0 65 (G3 0 64) 0 62)) = _
    rw [xup2_n (show ¬ (0 = 0 ∧ 62 = 65) by omega)]
  · rw [xup2_n (by omega), xup2_n (by omega), v2 a j (by omega) y3, u2 a j (by omega), k5 a j (by omega) (by omega) (by omega)]
  · rw [xup2_n (by omega), xup2_s]; exact e64
  · rw [xup2_s]; exact e623
end
end
