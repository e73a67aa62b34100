/-! The reference's rows of a predicate: one more, one less -/
section
variable {f p n c i : Nat} {G : xG_} {R : List pRw} {xs : List Int}
theorem rRw.at {k k' : Nat} {G' : xG_} (h : rRw G p n R) (hk : k < R.length) (hr : rRr p G k G' k') : (R.getD k dRw).1.length = n ∧ (∀ j, j < 4 → G' 107 ((p * 520 + k') * 4 + j) = (R.getD k dRw).1.getD j 0) ∧ G' 109 (p * 520 + k') = (R.getD k dRw).2 := by
  obtain ⟨q1, q2, q3⟩ := h.2.2 k hk
  exact ⟨q1, fun j hj => by rw [hr.1 j hj]; exact q2 j hj, by rw [hr.2]; exact q3⟩
theorem l_264_20 {u : Int} (hf : 600 < f) (hp : p < 16) (hn : n ≤ 4) (hc : c ≠ 107 ∧ c ≠ 109) (h : rRw G p n R) (hl : R.length < 520) (hx : rVe G c i xs) (hxn : xs.length = n) : ∀ (m fu : Nat) (G1 : xG_), m ≤ R.length → m < fu → G1 4 p = (n : Int) → (∀ z, G1 c z = G c z) → (∀ j, j < m → rRr p G j G1 j) →
    ∃ k G', k ≤ m ∧ g264_20 f fu (p : Int) c (i : Int) u (m : Int) G1 = g264_136 f (p : Int) c (i : Int) u (k : Int) G' ∧ (∀ j, k ≤ j → j < m → rRr p G1 j G' (j + 1)) ∧ (∀ j, j < k ∨ m < j → rRr p G1 j G' j) ∧ (∀ j, j + 1 = k → ¬ 0 < vCmp (R.getD j dRw).1 xs) ∧ (∀ j, k ≤ j → j < m → 0 < vCmp (R.getD j dRw).1 xs) ∧ ∀ a z, ¬ (a = 107 ∧ p * 520 * 4 ≤ z ∧ z < (p * 520 + 520) * 4) → ¬ (a = 109 ∧ p * 520 ≤ z ∧ z < p * 520 + 520) → G' a z = G1 a z := by
  intro m
  induction m with
  | zero =>
    intro fu G1 h1 h2 h3 h4 h5
    obtain ⟨fu, rfl⟩ : ∃ t, fu = t + 1 := ⟨fu - 1, by omega⟩
    refine ⟨0, G1, Nat.le_refl _, ?_, fun j _ _ => by omega, fun j _ => .rf _ _ _, fun j _ => by omega, fun j _ _ => by omega, fun _ _ _ _ => rfl⟩
    show g264_20b (g264_20 f fu) f _ _ _ _ _ _ = _
    unfold g264_20b
    rw [if_pos (by omega)]
  | succ m ih =>
    intro fu G1 h1 h2 h3 h4 h5
    obtain ⟨fu, rfl⟩ : ∃ t, fu = t + 1 := ⟨fu - 1, by omega⟩
    have hm : m < R.length := by omega
    have e1 : xwr (((m + 1 : Nat) : Int) - 1) = (m : Int) := by rw [xwr_g _ (by omega) (by omega)]; omega
    have hv1 : rVe G1 107 ((p * 520 + m) * 4) (R.getD m dRw).1 := by
      obtain ⟨z1, z2, z3, z4⟩ := h.ve hp hn hm
      refine ⟨z1, z2, z3, fun j hj => ?_⟩
      rw [(h5 m (by omega)).1 j (by have := (h.2.2 m hm).1; omega)]
      exact z4 j hj
    have hx1 : rVe G1 c i xs := ⟨hx.1, hx.2.1, hx.2.2.1, fun j hj => by rw [h4]; exact hx.2.2.2 j hj⟩
    have step : g264_20 f (fu + 1) (p : Int) c (i : Int) u ((m + 1 : Nat) : Int) G1 = if vCmp (R.getD m dRw).1 xs ≤ 0 then g264_136 f (p : Int) c (i : Int) u ((m + 1 : Nat) : Int) G1 else g264_58 (g264_20 f fu) f f (p : Int) c (i : Int) u ((m + 1 : Nat) : Int) 0 G1 := by
      show g264_20b (g264_20 f fu) f _ _ _ _ _ _ = _
      unfold g264_20b
      rw [if_neg (by omega), e1, l_261 hp (by omega), Option.bind_some, if_pos (by omega)]
      show Option.bind (g262 f 107 _ c (i : Int) (G1 4 ((p : Int)).toNat) G1) _ = _
      rw [Int.toNat_natCast, h3, l_262 (by omega) hv1 hx1 (h.2.2 m hm).1 hxn, Option.bind_some]
    rw [step]
    by_cases c1 : vCmp (R.getD m dRw).1 xs ≤ 0
    · rw [if_pos c1]
      refine ⟨m + 1, G1, Nat.le_refl _, rfl, fun j _ _ => by omega, fun j _ => .rf _ _ _, fun j hj => ?_, fun j _ _ => by omega, fun _ _ _ _ => rfl⟩
      have : j = m := by omega
      rw [this]
      omega
    · rw [if_neg c1]
      obtain ⟨G2, q1, q2, q3, q4⟩ := l_264_58 (f := f) (p := p) (c := c) (r20 := g264_20 f fu) (u := (i : Int)) (v := u) (k := m) hp (by omega) 4 0 f G1 (by omega) (by omega)
      have r2 : rRr p G1 m G2 (m + 1) := ⟨fun j hj => q2 j (by omega) hj, q3⟩
      have r3 : ∀ j, j ≠ m + 1 → rRr p G1 j G2 j := fun j hj => ⟨fun z hz => q4 _ _ (by omega) (by omega), q4 _ _ (by omega) (by omega)⟩
      obtain ⟨k, G', k0, k1, k2, k3, k4, k5, k6⟩ := ih fu G2 (by omega) (by omega) (by rw [q4 _ _ (by omega) (by omega)]; exact h3) (fun z => by rw [q4 _ _ (by omega) (by omega)]; exact h4 z) (fun j hj => (h5 j (by omega)).tr (r3 j (by omega)))
      refine ⟨k, G', by omega, by rw [← k1]; exact q1, fun j y1 y2 => ?_, fun j hj => (r3 j (by omega)).tr (k3 j (by omega)), k4, fun j y1 y2 => ?_, fun a z y1 y2 => by rw [k6 a z y1 y2, q4 a z (fun q => y1 ⟨q.1, by omega, by omega⟩) (fun q => y2 ⟨q.1, by omega, by omega⟩)]⟩
      · by_cases cj : j = m
        · rw [cj]
          exact r2.tr (k3 (m + 1) (by omega))
        · exact (r3 j (by omega)).tr (k2 j y1 (by omega))
      · by_cases cj : j = m
        · rw [cj]
          omega
        · exact k5 j y1 (by omega)
/-- add -/
theorem l_264 {u : Int} (hf : 600 < f) (hp : p < 16) (hn : n ≤ 4) (hc : c ≠ 107 ∧ c ≠ 108 ∧ c ≠ 109) (h : rRw G p n R) (hs : R.Pairwise rwLt) (hl : R.length < 520) (h4 : G 4 p = (n : Int)) (hx : rVe G c i xs) (hxn : xs.length = n) :
    ∃ G' R', g264 f (p : Int) c (i : Int) u G = some G' ∧ rRw G' p n R' ∧ R'.Pairwise rwLt ∧ xfw p G G' ∧ (((∃ y, y ∈ R ∧ y.1 = xs) ∧ R' = R) ∨ ((∀ y, y ∈ R → y.1 ≠ xs) ∧ R'.length = R.length + 1 ∧ ∀ y, y ∈ R' ↔ y ∈ R ∨ y = (xs, u))) := by
  obtain ⟨r, e1, e2⟩ := l_263 hf hp hn h h4 hx hxn
  rcases e2 with ⟨e2, e3⟩ | ⟨k, k1, k2, k3⟩
  · obtain ⟨k, G1, a0, a1, a2, a3, a4, a5, a6⟩ := l_264_20 (f := f) (u := u) hf hp hn ⟨hc.1, hc.2.2⟩ h hl hx hxn R.length f G (Nat.le_refl _) (by omega) h4 (fun _ => rfl) (fun j _ => .rf _ _ _)
    obtain ⟨G2, b1, b2, b3, b4, b5⟩ := l_264_139 (f := f) (c := c) (i := i) (u := u) (G0 := G) hp (by omega : k < 520) hn hc.1 hx hxn 4 0 f G1 (by omega) (by omega) (fun z => a6 _ _ (by omega) (by omega)) (by rw [a6 _ _ (by omega) (by omega)]; exact h4) (by rw [a6 _ _ (by omega) (by omega), h.1]; omega) (by rw [a6 _ _ (by omega) (by omega), h.1]; omega)
    have keep : ∀ j, j ≠ k → j < 520 → rRr p G1 j G2 j := fun j hj hj2 => ⟨fun z hz => b5 _ _ (by omega) (by omega) (by omega), b5 _ _ (by omega) (by omega) (by omega)⟩
    have hnl : ∀ j, j < R.length → (R.getD j dRw).1.length = xs.length := fun j hj => by rw [(h.2.2 j hj).1, hxn]
    have hne : ∀ j, j < R.length → (R.getD j dRw).1 ≠ xs := fun j hj => by
      rw [getD_e hj]
      exact e3 _ (List.getElem_mem hj)
    have srt : (R.take k ++ (xs, u) :: R.drop k).Pairwise rwLt := by
      refine srt_ins hs (fun y hy => ?_) (fun y hy => ?_)
      · obtain ⟨j, hj, rfl⟩ := List.getElem_of_mem hy
        rw [List.length_take] at hj
        rw [List.getElem_take]
        have last : vLt (R.getD (k - 1) dRw).1 xs := by
          have z1 := a4 (k - 1) (by omega)
          have z2 := hne (k - 1) (by omega)
          rcases vLt_tot (R.getD (k - 1) dRw).1 xs with q | q | q
          · exact q
          · exact absurd q z2
          · have := (vLt_iff (hnl (k - 1) (by omega)).symm).mp q
            have := vCmp_anti (R.getD (k - 1) dRw).1 xs
            omega
        show vLt (R[j]).1 xs
        rw [← getD_e (d := dRw) (by omega : j < R.length)]
        by_cases cj : j = k - 1
        · rw [cj]; exact last
        · have : rwLt (R.getD j dRw) (R.getD (k - 1) dRw) := srt_get hs (by omega) (by omega)
          exact vLt_tr this last
      · obtain ⟨j, hj, rfl⟩ := List.getElem_of_mem hy
        rw [List.length_drop] at hj
        rw [List.getElem_drop]
        show vLt xs (R[k + j]).1
        rw [← getD_e (d := dRw) (by omega : k + j < R.length)]
        have z1 := a5 (k + j) (by omega) (by omega)
        have z2 := vCmp_anti (R.getD (k + j) dRw).1 xs
        exact (vLt_iff (hnl (k + j) (by omega)).symm).mpr (by omega)
    refine ⟨G2, R.take k ++ (xs, u) :: R.drop k, ?_, ⟨?_, by rw [len_ins a0]; omega, fun j hj => ?_⟩, srt, fun a j y1 y2 y3 => by rw [b5 a j (fun q => y1 ⟨q.1, by omega, by omega⟩) (fun q => y3 ⟨q.1, by omega, by omega⟩) y2, a6 a j y1 y3], .inr ⟨e3, len_ins a0, fun y => srt_ins_mem⟩⟩
    · unfold g264
      rw [e1, Option.bind_some, e2, if_pos rfl, if_pos (by omega)]
      show g264_20 f f (p : Int) c (i : Int) u (G 108 ((p : Int)).toNat) G = _
      rw [Int.toNat_natCast, h.1, a1]
      unfold g264_136
      exact b1
    · rw [len_ins a0, b4, a6 _ _ (by omega) (by omega), h.1]
      omega
    · rw [len_ins a0] at hj
      rw [getD_ins a0]
      by_cases j1 : j < k
      · rw [if_pos j1]
        exact h.at (by omega) ((a3 j (by omega)).tr (keep j (by omega) (by omega)))
      · rw [if_neg j1]
        by_cases j2 : j = k
        · rw [if_pos j2, j2]
          exact ⟨hxn, fun z hz => b2 z (by omega) hz, b3⟩
        · rw [if_neg j2]
          obtain ⟨j, rfl⟩ : ∃ t, j = t + 1 := ⟨j - 1, by omega⟩
          rw [Nat.add_sub_cancel]
          exact h.at (by omega) ((a2 j (by omega) (by omega)).tr (keep (j + 1) (by omega) (by omega)))
  · refine ⟨G, R, ?_, h, hs, fun _ _ _ _ _ => rfl, .inl ⟨⟨R.getD k dRw, by rw [getD_e k1]; exact List.getElem_mem k1, k3⟩, rfl⟩⟩
    unfold g264
    rw [e1, Option.bind_some, k2]
    show (if (k : Int) = -1 then _ else _) = _
    rw [if_neg (by omega)]
theorem l_265_25 {r12 : Int → Int → xG_ → Option xG_} {k : Nat} (hp : p < 16) (hk : k < 519) : ∀ (d j fu : Nat) (G : xG_), j + d = 4 → d < fu → ∃ G', g265_25 r12 f fu (p : Int) (k : Int) (j : Int) G = r12 (p : Int) ((k + 1 : Nat) : Int) G' ∧ (∀ z, j ≤ z → z < 4 → G' 107 ((p * 520 + k) * 4 + z) = G 107 ((p * 520 + (k + 1)) * 4 + z)) ∧ G' 109 (p * 520 + k) = G 109 (p * 520 + (k + 1)) ∧ ∀ a z, ¬ (a = 107 ∧ (p * 520 + k) * 4 + j ≤ z ∧ z < (p * 520 + k) * 4 + 4) → ¬ (a = 109 ∧ z = p * 520 + k) → G' a z = G a z := by
  intro d
  induction d with
  | zero =>
    intro j fu G h1 h2
    obtain ⟨fu, rfl⟩ : ∃ t, fu = t + 1 := ⟨fu - 1, by omega⟩
    have e1 : xwr (xwr ((p : Int) * 520) + (k : Int)) = ((p * 520 + k : Nat) : Int) := by
      rw [xwr_g ((p : Int) * 520) (by omega) (by omega), xwr_g _ (by omega) (by omega)]; omega
    have e2 : xwr (((p * 520 + k : Nat) : Int) + 1) = ((p * 520 + (k + 1) : Nat) : Int) := by rw [xwr_g _ (by omega) (by omega)]; omega
    have e3 : xwr ((k : Int) + 1) = ((k + 1 : Nat) : Int) := by rw [xwr_g _ (by omega) (by omega)]; omega
    refine ⟨xup2 G 109 (p * 520 + k) (G 109 (p * 520 + (k + 1))), ?_, fun z _ _ => by omega, xup2_s _ _ _ _, fun a z _ h => xup2_n h⟩
    show g265_25b r12 (g265_25 r12 f fu) f _ _ _ _ = _
    unfold g265_25b
    rw [if_pos (by omega), e1, e2, if_pos (by omega), if_pos (by omega), Int.toNat_natCast, Int.toNat_natCast, Option.bind_some, e3]
  | succ d ih =>
    intro j fu G h1 h2
    obtain ⟨fu, rfl⟩ : ∃ t, fu = t + 1 := ⟨fu - 1, by omega⟩
    obtain ⟨G', k1, k2, k3, k4⟩ := ih (j + 1) fu (xup2 G 107 ((p * 520 + k) * 4 + j) (G 107 ((p * 520 + (k + 1)) * 4 + j))) (by omega) (by omega)
    have e1 : xwr ((k : Int) + 1) = ((k + 1 : Nat) : Int) := by rw [xwr_g _ (by omega) (by omega)]; omega
    have e2 : xwr ((((p * 520 + k) * 4 : Nat) : Int) + (j : Int)) = (((p * 520 + k) * 4 + j : Nat) : Int) := by rw [xwr_g _ (by omega) (by omega)]; omega
    have e3 : xwr ((((p * 520 + (k + 1)) * 4 : Nat) : Int) + (j : Int)) = (((p * 520 + (k + 1)) * 4 + j : Nat) : Int) := by rw [xwr_g _ (by omega) (by omega)]; omega
    have e4 : xwr ((j : Int) + 1) = ((j + 1 : Nat) : Int) := by rw [xwr_g _ (by omega) (by omega)]; omega
    refine ⟨G', ?_, fun z y1 y2 => ?_, by rw [k3, xup2_n (by omega)], fun a z y1 y2 => by rw [k4 a z (by omega) y2, xup2_n (by omega)]⟩
    · rw [← k1]
      show g265_25b r12 (g265_25 r12 f fu) f _ _ _ _ = _
      unfold g265_25b
      rw [if_neg (by omega), l_261 hp (by omega), Option.bind_some, e1, l_261 hp (by omega), Option.bind_some]
      simp only [e2, e3]
      rw [if_pos (by omega), if_pos (by omega), Int.toNat_natCast, Int.toNat_natCast, Option.bind_some, e4]
    · by_cases cz : z = j
      · rw [cz, k4 _ _ (by omega) (by omega), xup2_s]
      · rw [k2 z (by omega) y2, xup2_n (by omega)]
/-- remove -/
theorem l_265 {k : Nat} (hf : 600 < f) (hp : p < 16) (h : rRw G p n R) (hk : k < R.length) : ∃ G', g265 f (p : Int) (k : Int) G = some G' ∧ rRw G' p n (R.take k ++ R.drop (k + 1)) ∧ xfw p G G' := by
  have hl := h.2.1
  have loop : ∀ (d m fu : Nat) (G1 : xG_), m + d = R.length - 1 → d < fu → G1 108 p = ((R.length - 1 : Nat) : Int) → ∃ G', g265_12 f fu (p : Int) (m : Int) G1 = some G' ∧ (∀ j, m ≤ j → j < R.length - 1 → rRr p G1 (j + 1) G' j) ∧ (∀ j, j < m → rRr p G1 j G' j) ∧ ∀ a z, ¬ (a = 107 ∧ p * 520 * 4 ≤ z ∧ z < (p * 520 + 520) * 4) → ¬ (a = 109 ∧ p * 520 ≤ z ∧ z < p * 520 + 520) → G' a z = G1 a z := by
    intro d
    induction d with
    | zero =>
      intro m fu G1 h1 h2 h3
      obtain ⟨fu, rfl⟩ : ∃ t, fu = t + 1 := ⟨fu - 1, by omega⟩
      refine ⟨G1, ?_, fun j _ _ => by omega, fun j _ => .rf _ _ _, fun _ _ _ _ => rfl⟩
      show g265_12b (g265_12 f fu) f _ _ _ = _
      unfold g265_12b
      rw [if_pos (by omega), Int.toNat_natCast, h3, if_pos (by omega)]
    | succ d ih =>
      intro m fu G1 h1 h2 h3
      obtain ⟨fu, rfl⟩ : ∃ t, fu = t + 1 := ⟨fu - 1, by omega⟩
      obtain ⟨G2, q1, q2, q3, q4⟩ := l_265_25 (f := f) (p := p) (r12 := g265_12 f fu) (k := m) hp (by omega) 4 0 f G1 (by omega) (by omega)
      have r2 : rRr p G1 (m + 1) G2 m := ⟨fun j hj => q2 j (by omega) hj, q3⟩
      have r3 : ∀ j, j ≠ m → rRr p G1 j G2 j := fun j hj => ⟨fun z hz => q4 _ _ (by omega) (by omega), q4 _ _ (by omega) (by omega)⟩
      obtain ⟨G', k1, k2, k3, k4⟩ := ih (m + 1) fu G2 (by omega) (by omega) (by rw [q4 _ _ (by omega) (by omega)]; exact h3)
      refine ⟨G', ?_, fun j y1 y2 => ?_, fun j hj => (r3 j (by omega)).tr (k3 j (by omega)), fun a z y1 y2 => by rw [k4 a z y1 y2, q4 a z (fun q => y1 ⟨q.1, by omega, by omega⟩) (fun q => y2 ⟨q.1, by omega, by omega⟩)]⟩
      · show g265_12b (g265_12 f fu) f _ _ _ = _
        unfold g265_12b
        rw [if_pos (by omega), Int.toNat_natCast, h3, if_neg (by omega)]
        exact q1.trans k1
      · by_cases cj : j = m
        · rw [cj]
          exact r2.tr (k3 m (by omega))
        · exact (r3 (j + 1) (by omega)).tr (k2 j (by omega) y2)
  have e5 : xwr ((R.length : Int) - 1) = ((R.length - 1 : Nat) : Int) := by rw [xwr_g _ (by omega) (by omega)]; omega
  obtain ⟨G1, a1, a2, a3, a4⟩ := loop (R.length - 1 - k) k f (xup2 G 108 p ((R.length - 1 : Nat) : Int)) (by omega) (by omega) (xup2_s _ _ _ _)
  have r0 : ∀ j, rRr p G j (xup2 G 108 p ((R.length - 1 : Nat) : Int)) j := fun j => ⟨fun z _ => xup2_n (by omega), xup2_n (by omega)⟩
  refine ⟨G1, ?_, ⟨by rw [len_del hk, a4 _ _ (by omega) (by omega), xup2_s], by rw [len_del hk]; omega, fun j hj => ?_⟩, fun a j y1 y2 y3 => by rw [a4 a j y1 y3, xup2_n y2]⟩
  · unfold g265
    rw [if_pos (by omega), if_pos (by omega), Int.toNat_natCast, h.1, e5, Option.bind_some]
    exact a1
  · rw [len_del hk] at hj
    rw [getD_del hk]
    by_cases j1 : j < k
    · rw [if_pos j1]
      exact h.at (by omega) ((r0 j).tr (a3 j j1))
    · rw [if_neg j1]
      exact h.at (by omega) ((r0 (j + 1)).tr (a2 j (by omega) hj))
end
