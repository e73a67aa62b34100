/-! GATHERING of the reference: the rows of groups -/
theorem getD_st {xs : List Int} {g j : Nat} {v : Int} (hg : g < xs.length) : (xs.set g v).getD j 0 = if j = g then v else xs.getD j 0 := getD_set hg
theorem gRo_len {kk : Int} {gA : Nat} {xs zs : List Int} {a : Int} (h : gRo kk gA xs a = some zs) : zs = xs.set gA a ∧ ¬ (kk = 2 ∧ (1000000000000 < a ∨ a < -1000000000000)) := by
  unfold gRo at h
  by_cases c : kk = 2 ∧ (1000000000000 < a ∨ a < -1000000000000)
  · rw [if_pos c] at h; cases h
  · rw [if_neg c] at h
    injection h with h
    exact ⟨h.symm, c⟩
theorem gDs_ok {l : List pLt} {nv np : Nat} {R : Nat → List pRw} {op : Nat → pRw → Prop} {kk gO : Int} {I : List pCd} {gA : Nat} {xs zs : List Int} (hnv : nv ≤ 8) (hw : ∀ y ∈ l, wLt np nv y ∧ (y.1 ≠ 3 → 0 ≤ y.2.1)) (hsafe : ∀ k, k < nv → (qBd l).testBit k = true) (hR : ∀ p, p < np → ∀ w ∈ R p, ∀ x ∈ w.1, vOk x)
    (hwI : ∀ k, k < I.length → (k : Int) ≠ (gA : Int) → wEx nv (I.getD k [])) (hkk : kk = 1 ∨ kk = 2 ∨ kk = 3 ∨ kk = 4) (hO : kk ≠ 1 → 0 ≤ gO ∧ gO < nv) (hV : ∀ V, isAll l nv R op V → V.length ≤ 1000000) (h : gDs l nv R op kk gO I gA xs zs) : zs.length = I.length ∧ ∀ x ∈ zs, vOk x := by
  obtain ⟨V, h1, h2, h3⟩ := h
  obtain ⟨e1, e2⟩ := gRo_len h3
  obtain ⟨v, v1, v2⟩ := gVs_ne h2
  have hvo : ∀ v ∈ V, v.length = nv ∧ ∀ x ∈ v, vOk x := fun v hv => ⟨((h1.2 v).mp hv).1, isW_ok hnv hw hsafe hR ((h1.2 v).mp hv)⟩
  have hvf : ∀ v ∈ V, ∀ k, k < nv → vOk (vF v k) := fun v hv k hk => by
    obtain ⟨w1, w2⟩ := hvo v hv
    unfold vF
    rw [getD_e (by omega)]
    exact w2 _ (List.getElem_mem _)
  have hq : qMk I (gA : Int) (vF v) I.length = some xs := by
    have v2' : gKy kk gO I (gA : Int) none (vF v) = some xs := v2
    unfold gKy at v2'
    by_cases c : kk = 2 ∧ 2000000000000 ≤ gXv kk gO (vF v)
    · rw [if_pos c] at v2'; cases v2'
    · rw [if_neg c] at v2'
      cases hm : qMk I (gA : Int) (vF v) I.length with
      | none => rw [hm] at v2'; cases v2'
      | some ys =>
        rw [hm, Option.bind_some] at v2'
        exact v2'
  have hxs := qMk_ok hwI (hvf v v1) I.length xs (Nat.le_refl _) hq
  have hval : ∀ x ∈ gVs (fun v : List Int => gKy kk gO I (gA : Int) none (vF v)) (fun v => gXv kk gO (vF v)) V xs, (kk = 1 → x = 1) ∧ vOk x := fun x hx => by
    unfold gVs at hx
    obtain ⟨u, u1, u2⟩ := List.mem_filterMap.mp hx
    by_cases c : gKy kk gO I (gA : Int) none (vF u) = some xs
    · rw [if_pos c] at u2
      injection u2 with u2
      rw [← u2]
      show (kk = 1 → gXv kk gO (vF u) = 1) ∧ vOk (gXv kk gO (vF u))
      unfold gXv
      by_cases c1 : kk = 1
      · rw [if_pos c1]; exact ⟨fun _ => rfl, .inl ⟨by decide, by decide⟩⟩
      · rw [if_neg c1]
        exact ⟨fun q => absurd q c1, hvf u u1 _ (by have := hO c1; omega)⟩
    · rw [if_neg c] at u2; cases u2
  have hag : vOk (gAg kk (gVs (fun v : List Int => gKy kk gO I (gA : Int) none (vF v)) (fun v => gXv kk gO (vF v)) V xs)) := by
    rcases hkk with k | k | k | k
    · have e : gAg kk (gVs (fun v : List Int => gKy kk gO I (gA : Int) none (vF v)) (fun v => gXv kk gO (vF v)) V xs) = ((gVs (fun v : List Int => gKy kk gO I (gA : Int) none (vF v)) (fun v => gXv kk gO (vF v)) V xs).length : Int) := by
        have := gAg_one _ (fun x hx => (hval x hx).1 k)
        rw [k] at this ⊢
        exact this
      rw [e]
      have := gVs_len (key := fun v : List Int => gKy kk gO I (gA : Int) none (vF v)) (val := fun v : List Int => gXv kk gO (vF v)) V xs
      have := hV V h1
      exact .inl ⟨by omega, by omega⟩
    · have : ¬ (1000000000000 < gAg kk (gVs (fun v : List Int => gKy kk gO I (gA : Int) none (vF v)) (fun v => gXv kk gO (vF v)) V xs) ∨ gAg kk (gVs (fun v : List Int => gKy kk gO I (gA : Int) none (vF v)) (fun v => gXv kk gO (vF v)) V xs) < -1000000000000) := fun q => e2 ⟨k, q⟩
      exact .inl ⟨by omega, by omega⟩
    · exact (hval _ (gAg_in (.inl k) _ h2)).2
    · exact (hval _ (gAg_in (.inr k) _ h2)).2
  rw [e1]
  refine ⟨by rw [List.length_set]; exact qMk_len _ _ hq, fun x hx => ?_⟩
  rcases List.mem_or_eq_of_mem_set hx with u | u
  · exact hxs x u
  · rw [u]; exact hag
theorem xl118 : ((xl_t 118).2.2 : Int) = 4 := by decide +kernel
section
variable {f n r gA i : Nat} {a v kk : Int} {S : List pRw}
theorem l_289_60 {xs : List Int} (hn : n ≤ 4) (hi : i < 1024) : ∀ (d k fu : Nat) (G : xG_), k + d = n → d < fu → (∀ j, j < 4 → G 119 (4 * i + j) = xs.getD j 0) → (∀ j, j < k → G 112 j = xs.getD j 0) → ∃ G' fu', g289_60 f fu (i : Int) a (n : Int) v (k : Int) G = g289_60 f (fu' + 1) (i : Int) a (n : Int) v (n : Int) G' ∧ (∀ j, j < n → G' 112 j = xs.getD j 0) ∧ ∀ o j, o ≠ 112 → G' o j = G o j := by
  intro d
  induction d with
  | zero =>
    intro k fu G h1 h2 h3 h4
    obtain ⟨fu, rfl⟩ : ∃ t, fu = t + 1 := ⟨fu - 1, by omega⟩
    have : k = n := by omega
    subst this
    exact ⟨G, fu, rfl, h4, fun _ _ _ => rfl⟩
  | succ d ih =>
    intro k fu G h1 h2 h3 h4
    obtain ⟨fu, rfl⟩ : ∃ t, fu = t + 1 := ⟨fu - 1, by omega⟩
    have e1 : xwr (xwr (4 * (i : Int)) + (k : Int)) = ((4 * i + k : Nat) : Int) := by
      rw [xwr_g (4 * (i : Int)) (by omega) (by omega), xwr_g _ (by omega) (by omega)]; omega
    have e2 : xwr ((k : Int) + 1) = ((k + 1 : Nat) : Int) := by rw [xwr_g _ (by omega) (by omega)]; omega
    obtain ⟨G', fu', k1, k2, k3⟩ := ih (k + 1) fu (xup2 G 112 k (xs.getD k 0)) (by omega) (by omega) (fun j hj => by rw [xup2_n (by omega)]; exact h3 j hj) (fun j hj => by
      by_cases cj : j = k
      · rw [cj, xup2_s]
      · rw [xup2_n (by omega)]; exact h4 j (by omega))
    refine ⟨G', fu', ?_, k2, fun o j y => by rw [k3 o j y, xup2_n (fun q => y q.1)]⟩
    rw [← k1]
    show g289_60b (g289_60 f fu) f _ _ _ _ _ _ = _
    unfold g289_60b
    rw [if_neg (by omega), e1, if_pos (by omega), if_pos (by omega), Int.toNat_natCast, Int.toNat_natCast, h3 k (by omega), Option.bind_some, e2]
/-- gives: up to the row -/
theorem l_289 {G : xG_} (hf : 20 < f) (hr : r < 25) (hn : n ≤ 4) (hgA : gA < n) (h39 : G 0 39 = (r : Int)) (h17 : G 17 r = (n : Int)) (h18 : G 18 r = kk) (h19 : G 19 r = (gA : Int)) (hS : rGr G n S) (hi : i < S.length) :
    (gRo kk gA (S.getD i dRw).1 (S.getD i dRw).2 = none → g289 f (i : Int) a G = some (0, G)) ∧ (∀ zs, gRo kk gA (S.getD i dRw).1 (S.getD i dRw).2 = some zs → ∃ G', (∀ j, j < n → G' 112 j = zs.getD j 0) ∧ (∀ o j, o ≠ 112 → G' o j = G o j) ∧ g289 f (i : Int) a G = if a = 0 then (g284 f (G 15 r) G').bind fun R111 => some (0, R111) else (g262 f 112 0 118 0 (n : Int) G').bind fun R116 => if ¬ R116.1 = 0 then some (0, R116.2) else some (1, R116.2)) := by
  have hl := hS.2.1
  obtain ⟨q1, q2, q3⟩ := hS.2.2 i hi
  have hrr : 0 ≤ (r : Int) ∧ (r : Int) < 25 := by omega
  have hii : 0 ≤ (i : Int) ∧ (i : Int) < 1025 := by omega
  have e1 : g289 f (i : Int) a G = if ¬ kk = 2 then g289_57 f (i : Int) a (n : Int) (S.getD i dRw).2 G else if 1000000000000 < (S.getD i dRw).2 then some (0, G) else if -1000000000000 ≤ (S.getD i dRw).2 then g289_57 f (i : Int) a (n : Int) (S.getD i dRw).2 G else some (0, G) := by
    unfold g289 g289_55
    rw [h39]
    simp only [Nat.reduceAdd, Int.toNat_natCast, if_pos hrr, if_pos hii]
    rw [h18, h17, q3]
  constructor
  · intro hk
    unfold gRo at hk
    by_cases c : kk = 2 ∧ (1000000000000 < (S.getD i dRw).2 ∨ (S.getD i dRw).2 < -1000000000000)
    · have n2 : ¬ ¬ kk = 2 := fun q => q c.1
      rw [e1, if_neg n2]
      by_cases c1 : 1000000000000 < (S.getD i dRw).2
      · rw [if_pos c1]
      · rw [if_neg c1, if_neg (by omega)]
    · rw [if_neg c] at hk; cases hk
  · intro zs hz
    obtain ⟨z1, z2⟩ := gRo_len hz
    have e2 : g289 f (i : Int) a G = g289_60 f f (i : Int) a (n : Int) (S.getD i dRw).2 0 G := by
      rw [e1]
      by_cases c : kk = 2
      · have n2 : ¬ ¬ kk = 2 := fun q => q c
        rw [if_neg n2, if_neg (fun q => z2 ⟨c, .inl q⟩), if_pos (Int.not_lt.mp (fun q => z2 ⟨c, .inr q⟩))]
        rfl
      · rw [if_pos c]
        rfl
    obtain ⟨G1, fu, k1, k2, k3⟩ := l_289_60 (f := f) (a := a) (v := (S.getD i dRw).2) (xs := (S.getD i dRw).1) hn (by omega : i < 1024) n 0 f G (by omega) (by omega) q2 (fun j hj => absurd hj (by omega))
    have k1' : g289_60 f f (i : Int) a (n : Int) (S.getD i dRw).2 0 G = _ := k1
    have h4 : 0 ≤ (gA : Int) ∧ (gA : Int) < 4 := by omega
    have t39 : G1 0 39 = (r : Int) := by rw [k3 _ _ (by omega)]; exact h39
    have t19 : G1 19 r = (gA : Int) := by rw [k3 _ _ (by omega)]; exact h19
    let G2 := xup2 G1 112 gA (S.getD i dRw).2
    have g2 : ∀ o j, ¬ (o = 112 ∧ j = gA) → G2 o j = G1 o j := fun o j h => xup2_n h
    refine ⟨G2, fun j hj => ?_, fun o j y => by rw [g2 o j (fun q => y q.1), k3 o j y], ?_⟩
    · rw [z1, getD_st (by omega)]
      by_cases cj : j = gA
      · rw [if_pos cj, cj]
        exact xup2_s _ _ _ _
      · rw [if_neg cj, g2 _ _ (by omega)]
        exact k2 j hj
    · rw [e2, k1']
      show g289_60b (g289_60 f fu) f _ _ _ _ _ _ = _
      have s39 : G2 0 39 = (r : Int) := by rw [g2 _ _ (by omega)]; exact t39
      have s15 : G2 15 r = G 15 r := by rw [g2 _ _ (by omega), k3 _ _ (by omega)]
      unfold g289_60b g289_135
      rw [if_pos (by omega), t39]
      simp only [Nat.reduceAdd, Int.toNat_natCast, if_pos hrr]
      rw [t19, if_pos h4, Int.toNat_natCast, Option.bind_some]
      show (if a = 0 then (if 0 ≤ G2 0 39 ∧ G2 0 39 < 25 then (g284 f (G2 15 (G2 0 39).toNat) G2).bind (fun R111 => some (0, R111)) else none) else (g262 f 112 0 118 0 (n : Int) G2).bind fun R116 => (if ¬ R116.1 = 0 then (if (0 : Int) = 0 ∨ (0 : Int) = 1 then some (0, R116.2) else none) else (if (1 : Int) = 0 ∨ (1 : Int) = 1 then some (1, R116.2) else none))) = _
      rw [s39, if_pos hrr, Int.toNat_natCast, s15]
      rfl
end
