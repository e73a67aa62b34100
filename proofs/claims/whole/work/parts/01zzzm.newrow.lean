/-! Rows that a level gives: one more -/
abbrev pFw : Type := Nat × List Int
abbrev dFw : pFw := (0, [])
def fCt (F : List pFw) (p : Nat) : Nat := F.countP (fun y => decide (y.1 = p))
theorem fCt_len : ∀ (np : Nat) (F : List pFw), (∀ y ∈ F, y.1 < np) → (∀ p, p < np → fCt F p ≤ 100) → F.length ≤ 100 * np
  | 0, F, h, _ => by
    cases F with
    | nil => exact Nat.le_refl _
    | cons y F => exact absurd (h y List.mem_cons_self) (by omega)
  | np + 1, F, h, hc => by
    have e := List.length_eq_countP_add_countP (l := F) (fun y : pFw => decide (y.1 = np))
    have h1 : F.countP (fun y : pFw => decide (y.1 = np)) ≤ 100 := hc np (by omega)
    have h2 : F.countP (fun y : pFw => decide (¬ decide (y.1 = np) = true)) = (F.filter (fun y : pFw => decide (¬ decide (y.1 = np) = true))).length := List.countP_eq_length_filter
    have h3 := fCt_len np (F.filter (fun y : pFw => decide (¬ decide (y.1 = np) = true))) (fun y hy => by
      obtain ⟨y1, y2⟩ := List.mem_filter.mp hy
      have := h y y1
      have y3 : ¬ y.1 = np := fun q => by simp [q] at y2
      omega) (fun p hp => by
      refine Nat.le_trans ?_ (hc p (by omega))
      unfold fCt
      exact List.Sublist.countP_le (List.filter_sublist ..))
    omega
/-- the new rows F of a level, over rows R -/
def rFr (G : xG_) (np : Nat) (N : Nat → Nat) (R : Nat → List pRw) (F : List pFw) : Prop := G 0 47 = (F.length : Int) ∧ (∀ i, i < F.length → (F.getD i dFw).1 < np ∧ G 113 i = ((F.getD i dFw).1 : Int) ∧ (F.getD i dFw).2.length = N (F.getD i dFw).1 ∧ ∀ j, j < (F.getD i dFw).2.length → G 114 (4 * i + j) = (F.getD i dFw).2.getD j 0) ∧ ∀ p, p < np → G 115 p = (fCt F p : Int) ∧ (R p).length + fCt F p ≤ 100
theorem rFr.len {G : xG_} {np : Nat} {N : Nat → Nat} {R : Nat → List pRw} {F : List pFw} (h : rFr G np N R F) : F.length ≤ 100 * np := fCt_len np F (fun y hy => by
  obtain ⟨i, hi, rfl⟩ := List.getElem_of_mem hy
  have := (h.2.1 i hi).1
  rw [getD_e hi] at this
  exact this) (fun p hp => by have := (h.2.2 p hp).2; omega)
theorem rFr.ge {G G' : xG_} {np : Nat} {N : Nat → Nat} {R : Nat → List pRw} {F : List pFw} (h : rFr G np N R F) (h0 : G' 0 47 = G 0 47) (hf : ∀ a j, 113 ≤ a → a ≤ 115 → G' a j = G a j) : rFr G' np N R F := by
  obtain ⟨a1, a2, a3⟩ := h
  refine ⟨by rw [h0]; exact a1, fun i hi => ?_, fun p hp => by rw [hf _ _ (by omega) (by omega)]; exact a3 p hp⟩
  obtain ⟨b1, b2, b3, b4⟩ := a2 i hi
  exact ⟨b1, by rw [hf _ _ (by omega) (by omega)]; exact b2, b3, fun j hj => by rw [hf _ _ (by omega) (by omega)]; exact b4 j hj⟩
theorem xl112 : ((xl_t 112).2.2 : Int) = 4 := by decide +kernel
theorem xl114 : ((xl_t 114).2.2 : Int) = 13600 := by decide +kernel
section
variable {f np p : Nat} {N : Nat → Nat} {R : Nat → List pRw} {F : List pFw} {xs : List Int} {G : xG_}
theorem l_284_115 {L : Nat} (hL : L < 3400) : ∀ (d k fu : Nat) (G : xG_), k + d = 4 → d < fu → G 0 47 = (L : Int) → ∃ G', g284_115 f fu (k : Int) G = some G' ∧ G' 0 47 = ((L + 1 : Nat) : Int) ∧ (∀ j, k ≤ j → j < 4 → G' 114 (4 * L + j) = G 112 j) ∧ ∀ o j, ¬ (o = 0 ∧ j = 47) → ¬ (o = 114 ∧ 4 * L + k ≤ j ∧ j < 4 * L + 4) → G' o j = G o j := by
  intro d
  induction d with
  | zero =>
    intro k fu G h1 h2 h3
    obtain ⟨fu, rfl⟩ : ∃ t, fu = t + 1 := ⟨fu - 1, by omega⟩
    have e : xwr ((L : Int) + 1) = ((L + 1 : Nat) : Int) := by rw [xwr_g _ (by omega) (by omega)]; omega
    refine ⟨xup2 G 0 47 ((L + 1 : Nat) : Int), ?_, xup2_s _ _ _ _, fun j _ _ => by omega, fun o j y1 _ => xup2_n y1⟩
    show g284_115b (g284_115 f fu) f _ _ = _
    unfold g284_115b
    rw [if_pos (by omega), h3, e]
    rfl
  | succ d ih =>
    intro k fu G h1 h2 h3
    obtain ⟨fu, rfl⟩ : ∃ t, fu = t + 1 := ⟨fu - 1, by omega⟩
    have e1 : xwr (xwr (4 * (L : Int)) + (k : Int)) = ((4 * L + k : Nat) : Int) := by
      rw [xwr_g (4 * (L : Int)) (by omega) (by omega), xwr_g _ (by omega) (by omega)]; omega
    have e2 : xwr ((k : Int) + 1) = ((k + 1 : Nat) : Int) := by rw [xwr_g _ (by omega) (by omega)]; omega
    obtain ⟨G', k1, k2, k3, k4⟩ := ih (k + 1) fu (xup2 G 114 (4 * L + k) (G 112 k)) (by omega) (by omega) (by rw [xup2_n (by omega)]; exact h3)
    refine ⟨G', ?_, k2, fun j y1 y2 => ?_, fun o j y1 y2 => by rw [k4 o j y1 (by omega), xup2_n (by omega)]⟩
    · show g284_115b (g284_115 f fu) f _ _ = _
      unfold g284_115b
      rw [if_neg (by omega), if_pos (by omega), h3, e1, if_pos (by omega), Int.toNat_natCast, Int.toNat_natCast, Option.bind_some, e2]
      exact k1
    · by_cases cj : j = k
      · rw [cj, k4 _ _ (by omega) (by omega), xup2_s]
      · rw [k3 j (by omega) y2, xup2_n (by omega)]
/-- newRow -/
theorem l_284 (hf : 4000 < f) (hnp : np ≤ 16) (hp : p < np) (hT : rTb G np N R) (hN : G 4 p = (N p : Int)) (hF : rFr G np N R F) (hx : ∀ k, k < xs.length → G 112 k = xs.getD k 0) (hxn : xs.length = N p) :
    ∃ G', g284 f (p : Int) G = some G' ∧ (∀ o j, ¬ (o = 0 ∧ (j = 43 ∨ j = 47)) → ¬ (113 ≤ o ∧ o ≤ 115) → G' o j = G o j) ∧ ((((∃ y, y ∈ R p ∧ y.1 = xs) ∨ (p, xs) ∈ F) ∧ G' = G) ∨ ((∀ y, y ∈ R p → y.1 ≠ xs) ∧ (p, xs) ∉ F ∧ ((100 < (R p).length + fCt F p + 1 ∧ G' 0 43 = 1) ∨ (G' 0 43 = G 0 43 ∧ rFr G' np N R (F ++ [(p, xs)]))))) := by
  obtain ⟨hR, hN4⟩ := hT p hp
  have hFl := hF.len
  obtain ⟨f1, f2, f3⟩ := hF
  have hve : rVe G 112 0 xs := ⟨by rw [xl112]; omega, by omega, by omega, fun k hk => by rw [Nat.zero_add]; exact hx k hk⟩
  obtain ⟨q, e1, e2⟩ := l_263 (f := f) (by omega) (by omega : p < 16) hN4 hR hN hve hxn
  have e1' : g263 f (p : Int) 112 0 G = some (q, G) := e1
  rcases e2 with ⟨e2, e3⟩ | ⟨k, k1, k2, k3⟩
  · have loop : ∀ (d i fu : Nat), i + d = F.length → d < fu → (∀ j, j < i → F.getD j dFw ≠ (p, xs)) → ∃ G', g284_17 f fu (p : Int) (i : Int) G = some G' ∧ (∀ o j, ¬ (o = 0 ∧ (j = 43 ∨ j = 47)) → ¬ (113 ≤ o ∧ o ≤ 115) → G' o j = G o j) ∧ (((p, xs) ∈ F ∧ G' = G) ∨ ((p, xs) ∉ F ∧ ((100 < (R p).length + fCt F p + 1 ∧ G' 0 43 = 1) ∨ (G' 0 43 = G 0 43 ∧ rFr G' np N R (F ++ [(p, xs)]))))) := by
      intro d
      induction d with
      | zero =>
        intro i fu h1 h2 h3
        obtain ⟨fu, rfl⟩ : ∃ t, fu = t + 1 := ⟨fu - 1, by omega⟩
        have hnin : (p, xs) ∉ F := fun hm => by
          obtain ⟨j, hj, ej⟩ := List.getElem_of_mem hm
          have := h3 j (by omega)
          rw [getD_e hj] at this
          exact this ej
        obtain ⟨c1, c2⟩ := f3 p hp
        have ec : xwr ((fCt F p : Int) + 1) = ((fCt F p + 1 : Nat) : Int) := by rw [xwr_g _ (by omega) (by omega)]; omega
        have es : xwr (((R p).length : Int) + ((fCt F p + 1 : Nat) : Int)) = (((R p).length + (fCt F p + 1) : Nat) : Int) := by rw [xwr_g _ (by omega) (by omega)]; omega
        have hpp : 0 ≤ (p : Int) ∧ (p : Int) < 16 := by omega
        have step : g284_17 f (fu + 1) (p : Int) (i : Int) G = if (((R p).length + (fCt F p + 1) : Nat) : Int) ≤ 100 then g284_115 f f 0 (xup2 (xup2 G 115 p ((fCt F p + 1 : Nat) : Int)) 113 F.length (p : Int)) else some (xup2 (xup2 G 115 p ((fCt F p + 1 : Nat) : Int)) 0 43 1) := by
          show g284_17b (g284_17 f fu) f _ _ _ = _
          unfold g284_17b
          have t1 : xup2 G 115 p ((fCt F p + 1 : Nat) : Int) 108 p = ((R p).length : Int) := by rw [xup2_n (by omega)]; exact hR.1
          have t2 : xup2 G 115 p ((fCt F p + 1 : Nat) : Int) 0 47 = (F.length : Int) := by rw [xup2_n (by omega)]; exact f1
          have h34 : 0 ≤ (F.length : Int) ∧ (F.length : Int) < 3400 := by omega
          rw [f1, if_pos (by omega), if_pos hpp, if_pos hpp, Int.toNat_natCast, c1, ec, Option.bind_some, if_pos hpp, if_pos hpp, t1, xup2_s, es, t2, if_pos h34, Int.toNat_natCast, Option.bind_some, Option.bind_some]
        by_cases cl : (R p).length + (fCt F p + 1) ≤ 100
        · rw [if_pos (by omega)] at step
          obtain ⟨G', k1, k2, k3, k4⟩ := l_284_115 (f := f) (L := F.length) (by omega) 4 0 f (xup2 (xup2 G 115 p ((fCt F p + 1 : Nat) : Int)) 113 F.length (p : Int)) (by omega) (by omega) (by rw [xup2_n (by omega), xup2_n (by omega)]; exact f1)
          refine ⟨G', by rw [step]; exact k1, fun o j y1 y2 => by rw [k4 o j (by omega) (by omega), xup2_n (by omega), xup2_n (by omega)], .inr ⟨hnin, .inr ⟨by rw [k4 _ _ (by omega) (by omega), xup2_n (by omega), xup2_n (by omega)], by rw [k2, List.length_append]; rfl, fun j hj => ?_, fun p' hp' => ?_⟩⟩⟩
          · rw [List.length_append] at hj
            have hj' : j < F.length + 1 := hj
            by_cases cj : j = F.length
            · have e : (F ++ [(p, xs)]).getD j dFw = (p, xs) := by rw [getD_1, if_pos cj]
              rw [e, cj]
              exact ⟨hp, by rw [k4 _ _ (by omega) (by omega), xup2_s], hxn, fun z hz => by
                have hz' : z < xs.length := hz
                rw [k3 z (by omega) (by omega), xup2_n (by omega), xup2_n (by omega)]
                exact hx z hz'⟩
            · have e : (F ++ [(p, xs)]).getD j dFw = F.getD j dFw := by rw [getD_1, if_neg cj]
              rw [e]
              obtain ⟨z1, z2, z3, z4⟩ := f2 j (by omega)
              have z5 : N (F.getD j dFw).1 ≤ 4 := (hT _ z1).2
              exact ⟨z1, by rw [k4 _ _ (by omega) (by omega), xup2_n (by omega), xup2_n (by omega)]; exact z2, z3, fun z hz => by rw [k4 _ _ (by omega) (by omega), xup2_n (by omega), xup2_n (by omega)]; exact z4 z hz⟩
          · have ect : fCt (F ++ [(p, xs)]) p' = fCt F p' + if p = p' then 1 else 0 := by
              unfold fCt
              rw [List.countP_append]
              congr 1
              by_cases cp : p = p'
              · rw [if_pos cp, List.countP_cons_of_pos (by simp [cp])]; rfl
              · rw [if_neg cp, List.countP_cons_of_neg (by simp [cp])]; rfl
            rw [k4 _ _ (by omega) (by omega), xup2_n (by omega), ect]
            by_cases cp : p = p'
            · rw [if_pos cp, ← cp, xup2_s]
              exact ⟨rfl, cl⟩
            · rw [if_neg cp, xup2_n (by omega)]
              exact f3 p' hp'
        · rw [if_neg (by omega)] at step
          exact ⟨_, step, fun o j y1 y2 => by rw [xup2_n (by omega), xup2_n (by omega)], .inr ⟨hnin, .inl ⟨by omega, xup2_s _ _ _ _⟩⟩⟩
      | succ d ih =>
        intro i fu h1 h2 h3
        obtain ⟨fu, rfl⟩ : ∃ t, fu = t + 1 := ⟨fu - 1, by omega⟩
        obtain ⟨z1, z2, z3, z4⟩ := f2 i (by omega)
        have z5 : N (F.getD i dFw).1 ≤ 4 := (hT _ z1).2
        have e4 : xwr (4 * (i : Int)) = ((4 * i : Nat) : Int) := by rw [xwr_g _ (by omega) (by omega)]; omega
        have e5 : xwr ((i : Int) + 1) = ((i + 1 : Nat) : Int) := by rw [xwr_g _ (by omega) (by omega)]; omega
        have go : F.getD i dFw ≠ (p, xs) → g284_17 f (fu + 1) (p : Int) (i : Int) G = g284_17 f fu (p : Int) ((i + 1 : Nat) : Int) G → _ := fun hne he => by
          have := ih (i + 1) fu (by omega) (by omega) (fun j hj => by
            by_cases cj : j = i
            · rw [cj]; exact hne
            · exact h3 j (by omega))
          rw [← he] at this
          exact this
        by_cases c1 : (F.getD i dFw).1 = p
        · have n1 : ¬ ¬ (((F.getD i dFw).1 : Nat) : Int) = (p : Int) := fun q => q (by omega)
          have hvF : rVe G 114 (4 * i) (F.getD i dFw).2 := ⟨by rw [xl114, z3]; omega, by omega, by omega, z4⟩
          have hlen : (F.getD i dFw).2.length = N p := by rw [z3, c1]
          have step : g284_17 f (fu + 1) (p : Int) (i : Int) G = if ¬ vCmp (F.getD i dFw).2 xs = 0 then g284_17 f fu (p : Int) ((i + 1 : Nat) : Int) G else some G := by
            show g284_17b (g284_17 f fu) f _ _ _ = _
            unfold g284_17b g284_63
            rw [f1, if_neg (by omega), if_pos (by omega), Int.toNat_natCast, z2, if_neg n1, if_pos (by omega), e4, e5]
            show Option.bind (g262 f 114 _ 112 ((0 : Nat) : Int) (G 4 ((p : Int)).toNat) G) _ = _
            rw [Int.toNat_natCast, hN, l_262 (by omega) hvF hve hlen hxn, Option.bind_some]
          by_cases c2 : vCmp (F.getD i dFw).2 xs = 0
          · have n2 : ¬ ¬ vCmp (F.getD i dFw).2 xs = 0 := fun q => q c2
            rw [if_neg n2] at step
            refine ⟨G, step, fun _ _ _ _ => rfl, .inl ⟨?_, rfl⟩⟩
            have : F.getD i dFw = (p, xs) := Prod.ext c1 (vCmp_eq (show (F.getD i dFw).2.length = xs.length by omega) c2)
            rw [← this, getD_e (by omega : i < F.length)]
            exact List.getElem_mem _
          · rw [if_pos c2] at step
            exact go (fun q => c2 (by rw [q]; exact vCmp_self xs)) step
        · have n1 : ¬ (((F.getD i dFw).1 : Nat) : Int) = (p : Int) := by omega
          refine go (fun q => c1 (by rw [q])) ?_
          show g284_17b (g284_17 f fu) f _ _ _ = _
          unfold g284_17b g284_63
          rw [f1, if_neg (by omega), if_pos (by omega), Int.toNat_natCast, z2, if_pos n1, e5]
    obtain ⟨G', u1, u2, u3⟩ := loop F.length 0 f (by omega) (by omega) (fun j hj => absurd hj (by omega))
    refine ⟨G', ?_, u2, ?_⟩
    · unfold g284
      rw [e1', Option.bind_some, e2, if_pos rfl]
      exact u1
    · rcases u3 with ⟨u3, u4⟩ | ⟨u3, u4⟩
      · exact .inl ⟨.inr u3, u4⟩
      · exact .inr ⟨e3, u3, u4⟩
  · refine ⟨G, ?_, fun _ _ _ _ => rfl, .inl ⟨.inl ⟨(R p).getD k dRw, by rw [getD_e k1]; exact List.getElem_mem k1, k3⟩, rfl⟩⟩
    unfold g284
    rw [e1', Option.bind_some, k2]
    show (if (k : Int) = -1 then _ else _) = _
    rw [if_neg (by omega)]
end
