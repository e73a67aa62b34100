/-! GATHERING of the reference: the use of a WAY -/
def gXv (kk gO : Int) (v : Nat → Int) : Int := if kk = 1 then 1 else v gO.toNat
def gLa (last : Option (List Int)) (xs : List Int) : Option (List Int) := match last with
  | none => some xs
  | some ys => if fCmp (0, ys) (0, xs) < 0 then some xs else none
/-- the group of a WAY, if it counts and stands behind the last one -/
def gKy (kk gO : Int) (I : List pCd) (gA : Int) (last : Option (List Int)) (v : Nat → Int) : Option (List Int) := if kk = 2 ∧ 2000000000000 ≤ gXv kk gO v then none else (qMk I gA v I.length).bind (gLa last)
theorem qMk_xt {I : List pCd} {g : Int} {nv : Nat} {v w : Nat → Int} (hw : ∀ k, k < I.length → (k : Int) ≠ g → wEx nv (I.getD k [])) (h : ∀ k, k < nv → v k = w k) : ∀ k, k ≤ I.length → qMk I g v k = qMk I g w k
  | 0, _ => rfl
  | k + 1, hk => by
    show ((qMk I g v k).bind _) = ((qMk I g w k).bind _)
    rw [qMk_xt hw h k (by omega)]
    congr 1
    funext xs
    by_cases c : (k : Int) = g
    · rw [if_pos c, if_pos c]
    · rw [if_neg c, if_neg c]
      have hq := (hw k (by omega) c).1
      rw [qEv_xt hq (fun j hj => h j (qVm_in hq j hj))]
theorem qMk_g {I : List pCd} {g : Nat} {v : Nat → Int} : ∀ (k : Nat) (xs : List Int), qMk I (g : Int) v k = some xs → g < k → xs.getD g 0 = 0
  | 0, _, _, h => by omega
  | k + 1, xs, hq, h => by
    have h' : ((qMk I (g : Int) v k).bind fun xs => if (k : Int) = (g : Int) then some (xs ++ [0]) else (qEv v (I.getD k [])).bind fun z => some (xs ++ [z])) = some xs := hq
    cases hk : qMk I (g : Int) v k with
    | none => rw [hk] at h'; cases h'
    | some ys =>
      rw [hk, Option.bind_some] at h'
      have hl := qMk_len k ys hk
      by_cases c : (k : Int) = (g : Int)
      · rw [if_pos c] at h'
        injection h' with h'
        rw [← h', getD_1, if_pos (by omega)]
      · rw [if_neg c] at h'
        cases he : qEv v (I.getD k []) with
        | none => rw [he] at h'; cases h'
        | some z =>
          rw [he, Option.bind_some] at h'
          injection h' with h'
          rw [← h', getD_1, if_neg (by omega)]
          exact qMk_g k ys hk (by omega)
theorem gKy_xt {kk gO gA : Int} {I : List pCd} {last : Option (List Int)} {nv : Nat} {v w : Nat → Int} (hw : ∀ k, k < I.length → (k : Int) ≠ gA → wEx nv (I.getD k [])) (hO : kk ≠ 1 → 0 ≤ gO ∧ gO < nv) (h : ∀ k, k < nv → v k = w k) : gXv kk gO v = gXv kk gO w ∧ gKy kk gO I gA last v = gKy kk gO I gA last w := by
  have e : gXv kk gO v = gXv kk gO w := by
    unfold gXv
    by_cases c : kk = 1
    · rw [if_pos c, if_pos c]
    · rw [if_neg c, if_neg c]
      exact h _ (by have := hO c; omega)
  refine ⟨e, ?_⟩
  unfold gKy
  rw [e, qMk_xt hw h I.length (Nat.le_refl _)]
def rLa (G : xG_) (n : Nat) (last : Option (List Int)) : Prop := match last with
  | none => G 0 59 = 0
  | some ys => G 0 59 = 1 ∧ ys.length = n ∧ ∀ k, k < n → G 121 k = ys.getD k 0
section
variable {f nv r c m : Nat} {I : List pCd} {gA : Nat} {kk gO : Int} {last : Option (List Int)} {S : List pRw} {W : List (List Int)}
/-- the use of a WAY of a GATHERING rule -/
theorem l_u2 {G : xG_} (hf : 6300 < f) (hr : r < 25) (hnv : nv ≤ 8) (hc : c ≤ 6200) (hI : rHd G r c I (gA : Int)) (hw : ∀ k, k < I.length → (k : Int) ≠ (gA : Int) → wEx nv (I.getD k [])) (hgA : gA < I.length) (hkk : kk = 1 ∨ kk = 2 ∨ kk = 3 ∨ kk = 4) (h18 : G 18 r = kk) (h20 : G 20 r = gO) (hO : kk ≠ 1 → 0 ≤ gO ∧ gO < nv)
    (h38 : G 0 38 = 2) (h39 : G 0 39 = (r : Int)) (hm : rBn G m nv) (hfull : ∀ k, k < nv → m.testBit k = true) (hla : rLa G I.length last) (hS : rGr G I.length S) (hiv : gIv kk (fun v : List Int => gKy kk gO I (gA : Int) last (vF v)) (fun v => gXv kk gO (vF v)) W S (G 0 60)) (hWv : ∀ v ∈ W, v.length = nv ∧ ∀ x ∈ v, vOk x) (hWl : W.length < 1000000) :
    ∃ G' S', g283 f G = some G' ∧ (∀ o j, ¬ (o = 0 ∧ (j = 42 ∨ j = 58 ∨ j = 60)) → o ≠ 111 → o ≠ 112 → o ≠ 119 → o ≠ 120 → G' o j = G o j) ∧ rGr G' I.length S' ∧ gIv kk (fun v : List Int => gKy kk gO I (gA : Int) last (vF v)) (fun v => gXv kk gO (vF v)) (W ++ [vOf G nv]) S' (G' 0 60) := by
  have hI4 := hI.2.1
  obtain ⟨G1, b, k1, k2, k3⟩ := l_282 (f := f) hf hr hnv hc hI hw h39 hm hfull
  obtain ⟨ex, ek⟩ := gKy_xt (v := vF (vOf G nv)) (w := G 110) (kk := kk) (gO := gO) (I := I) (gA := (gA : Int)) (last := last) hw hO (fun k hk => vOf_get hk)
  have grk : ∀ {Z : xG_}, (∀ o j, ¬ (o = 0 ∧ j = 42) → o ≠ 111 → o ≠ 112 → Z o j = G o j) → rGr Z I.length S ∧ Z 0 60 = G 0 60 := fun {Z} hZ => by
    refine ⟨⟨by rw [hZ _ _ (by omega) (by omega) (by omega)]; exact hS.1, hS.2.1, fun i hi => ?_⟩, hZ _ _ (by omega) (by omega) (by omega)⟩
    obtain ⟨a1, a2, a3⟩ := hS.2.2 i hi
    exact ⟨a1, fun j hj => by rw [hZ _ _ (by omega) (by omega) (by omega)]; exact a2 j hj, by rw [hZ _ _ (by omega) (by omega) (by omega)]; exact a3⟩
  have skip : ∀ {Z : xG_}, (∀ o j, ¬ (o = 0 ∧ j = 42) → o ≠ 111 → o ≠ 112 → Z o j = G o j) → gKy kk gO I (gA : Int) last (G 110) = none → g283 f G = some Z → ∃ G' S', g283 f G = some G' ∧ (∀ o j, ¬ (o = 0 ∧ (j = 42 ∨ j = 58 ∨ j = 60)) → o ≠ 111 → o ≠ 112 → o ≠ 119 → o ≠ 120 → G' o j = G o j) ∧ rGr G' I.length S' ∧ gIv kk (fun v : List Int => gKy kk gO I (gA : Int) last (vF v)) (fun v => gXv kk gO (vF v)) (W ++ [vOf G nv]) S' (G' 0 60) := fun {Z} hZ hk he => by
    obtain ⟨g1, g2⟩ := grk hZ
    exact ⟨Z, S, he, fun o j y1 y2 y3 _ _ => hZ o j (by omega) y2 y3, g1, by rw [g2]; exact hiv.skip (by show gKy kk gO I (gA : Int) last (vF (vOf G nv)) = none; rw [ek]; exact hk)⟩
  have e283 : g283 f G = if b = 0 then some G1 else (g287 f G1).bind fun R140 => some R140 := by
    unfold g283 g283_118
    rw [h38, if_neg (by decide), if_neg (by decide), if_pos rfl, k1, Option.bind_some]
  rcases k3 with ⟨xs, b1, b2, b3, b4⟩ | ⟨b1, b2⟩
  · rw [if_neg (by omega)] at e283
    have hxl := qMk_len _ _ b2
    have hg0 := qMk_g _ _ b2 hgA
    have k17 : G1 17 r = (I.length : Int) := by rw [k2 _ _ (by omega) (by omega) (by omega)]; exact hI.1
    have k19 : G1 19 r = (gA : Int) := by rw [k2 _ _ (by omega) (by omega) (by omega)]; exact hI.2.2.1
    have k18 : G1 18 r = kk := by rw [k2 _ _ (by omega) (by omega) (by omega)]; exact h18
    have k20 : G1 20 r = gO := by rw [k2 _ _ (by omega) (by omega) (by omega)]; exact h20
    have k39 : G1 0 39 = (r : Int) := by rw [k2 _ _ (by omega) (by omega) (by omega)]; exact h39
    have k110 : G1 110 = G 110 := funext (fun j => k2 _ _ (by omega) (by omega) (by omega))
    have hrr : 0 ≤ (r : Int) ∧ (r : Int) < 25 := by omega
    -- the state with 0 for what is gathered
    let G2 := xup2 G1 112 gA 0
    have g2 : ∀ o j, ¬ (o = 112 ∧ j = gA) → G2 o j = G1 o j := fun o j h => xup2_n h
    have hG2 : ∀ o j, ¬ (o = 0 ∧ j = 42) → o ≠ 111 → o ≠ 112 → G2 o j = G o j := fun o j y1 y2 y3 => by rw [g2 o j (fun q => y3 q.1), k2 o j y1 y2 y3]
    have h112 : ∀ k, k < I.length → G2 112 k = xs.getD k 0 := fun k hk => by
      by_cases ck : k = gA
      · rw [ck, hg0]
        exact xup2_s _ _ _ _
      · rw [g2 _ _ (by omega)]
        exact b3 k hk (by omega)
    have e287 : g287 f G1 = if kk = 2 ∧ 2000000000000 ≤ gXv kk gO (G 110) then some G1 else if G2 0 59 = 0 then g287_111 f kk (gXv kk gO (G 110)) (I.length : Int) G2 else (g262 f 112 0 121 0 (I.length : Int) G2).bind fun R177 => if 0 < R177.1 then g287_111 f kk (gXv kk gO (G 110)) (I.length : Int) R177.2 else some R177.2 := by
      have e53 : ∀ y, g287_53 f kk y G1 = if G2 0 59 = 0 then g287_111 f kk y (I.length : Int) G2 else (g262 f 112 0 121 0 (I.length : Int) G2).bind fun R177 => if 0 < R177.1 then g287_111 f kk y (I.length : Int) R177.2 else some R177.2 := fun y => by
        have t39 : G2 0 39 = (r : Int) := by rw [g2 _ _ (by omega)]; exact k39
        have t17 : G2 17 r = (I.length : Int) := by rw [g2 _ _ (by omega)]; exact k17
        have h4 : 0 ≤ (gA : Int) ∧ (gA : Int) < 4 := by omega
        unfold g287_53
        rw [k39]
        simp only [Nat.reduceAdd, Int.toNat_natCast, if_pos hrr]
        rw [k19, if_pos h4, Int.toNat_natCast, Option.bind_some]
        show (if 0 ≤ G2 0 39 ∧ G2 0 39 < 25 then (if G2 0 59 = 0 then g287_111 f kk y (G2 17 (G2 0 39).toNat) G2 else (g262 f 112 0 121 0 (G2 17 (G2 0 39).toNat) G2).bind fun R177 => (if 0 < R177.1 then g287_111 f kk y (G2 17 (G2 0 39).toNat) R177.2 else some R177.2)) else none) = _
        rw [t39, if_pos hrr, Int.toNat_natCast, t17]
      have e39 : ∀ y, g287_39 f kk y G1 = if kk = 2 ∧ 2000000000000 ≤ y then some G1 else g287_53 f kk y G1 := fun y => by
        unfold g287_39
        by_cases c : kk = 2
        · have n2 : ¬ ¬ kk = 2 := fun q => q c
          rw [if_neg n2, l_267, Option.bind_some]
          by_cases c2 : y < 2000000000000
          · have n3 : ¬ (kk = 2 ∧ 2000000000000 ≤ y) := fun q => by omega
            rw [if_pos c2, if_neg n3, if_pos rfl]
          · have n3 : kk = 2 ∧ 2000000000000 ≤ y := ⟨c, by omega⟩
            have n4 : ¬ ((1 : Int), G1).1 = 0 := fun h => absurd (show (1 : Int) = 0 from h) (by decide)
            rw [if_neg c2, if_pos n3, if_neg n4]
        · have n3 : ¬ (kk = 2 ∧ 2000000000000 ≤ y) := fun q => c q.1
          rw [if_pos c, if_neg n3]
      unfold g287
      rw [k39]
      simp only [Nat.reduceAdd, Int.toNat_natCast, if_pos hrr]
      rw [k18, k20]
      unfold gXv
      by_cases c : kk = 1
      · have n1 : ¬ ¬ kk = 1 := fun q => q c
        rw [if_neg n1, if_pos c, e39, e53]
      · have ho := hO c
        rw [if_pos c, if_neg c, if_pos (by omega), k110, e39, e53]
    have hxv : -4000000000000 ≤ gXv kk gO (G 110) ∧ gXv kk gO (G 110) ≤ 4000000000000 := by
      unfold gXv
      by_cases c : kk = 1
      · rw [if_pos c]; omega
      · have ho := hO c
        rw [if_neg c]
        have := (hm.2.2 gO.toNat (hfull _ (by omega))).2
        unfold vOk at this
        omega
    have done : ∀ Z, g287 f G1 = some Z → g283 f G = some Z := fun Z h => by
      rw [e283, h]
      rfl
    by_cases c1 : kk = 2 ∧ 2000000000000 ≤ gXv kk gO (G 110)
    · rw [if_pos c1] at e287
      exact skip k2 (by unfold gKy; rw [if_pos c1]) (done G1 e287)
    · rw [if_neg c1] at e287
      have hkey : gKy kk gO I (gA : Int) last (G 110) = gLa last xs := by
        unfold gKy
        rw [if_neg c1, b2, Option.bind_some]
      have go : gKy kk gO I (gA : Int) last (G 110) = some xs → g287 f G1 = g287_111 f kk (gXv kk gO (G 110)) (I.length : Int) G2 → ∃ G' S', g283 f G = some G' ∧ (∀ o j, ¬ (o = 0 ∧ (j = 42 ∨ j = 58 ∨ j = 60)) → o ≠ 111 → o ≠ 112 → o ≠ 119 → o ≠ 120 → G' o j = G o j) ∧ rGr G' I.length S' ∧ gIv kk (fun v : List Int => gKy kk gO I (gA : Int) last (vF v)) (fun v => gXv kk gO (vF v)) (W ++ [vOf G nv]) S' (G' 0 60) := fun hk he => by
        obtain ⟨s1, s2⟩ := grk hG2
        have hbS : ∀ y ∈ S, -4000000000000000000 ≤ y.2 ∧ y.2 ≤ 4000000000000000000 := fun y hy => by
          obtain ⟨z1, z2⟩ := hiv.2.2.2.1 y hy
          rw [z2]
          have := gAg_bd (l := gVs (fun v : List Int => gKy kk gO I (gA : Int) last (vF v)) (fun v => gXv kk gO (vF v)) W y.1) hkk W.length (gVs_len W y.1) (fun x hx => by
            unfold gVs at hx
            obtain ⟨v, hv1, hv2⟩ := List.mem_filterMap.mp hx
            by_cases cv : gKy kk gO I (gA : Int) last (vF v) = some y.1
            · rw [if_pos cv] at hv2
              injection hv2 with hv2
              rw [← hv2]
              obtain ⟨w1, w2⟩ := hWv v hv1
              show -3000000000000 ≤ (if kk = 1 then 1 else v.getD gO.toNat 0) ∧ (if kk = 1 then 1 else v.getD gO.toNat 0) ≤ 3000000000000
              by_cases c : kk = 1
              · rw [if_pos c]; omega
              · have ho := hO c
                rw [if_neg c, getD_e (by omega : gO.toNat < v.length)]
                have := w2 _ (List.getElem_mem (by omega : gO.toNat < v.length))
                unfold vOk at this
                omega
            · rw [if_neg cv] at hv2; cases hv2)
          omega
        obtain ⟨G3, S3, u1, u2, u3, u4, u5⟩ := l_287_111 (f := f) (kk := kk) (x := gXv kk gO (G 110)) (xs := xs) (by omega) hI4 s1 hiv.1 h112 hxl hkk hxv hbS
        have hkey' : (fun v : List Int => gKy kk gO I (gA : Int) last (vF v)) (vOf G nv) = some xs := by
          show gKy kk gO I (gA : Int) last (vF (vOf G nv)) = some xs
          rw [ek]
          exact hk
        have hval' : (fun v : List Int => gXv kk gO (vF v)) (vOf G nv) = gXv kk gO (G 110) := ex
        refine ⟨G3, S3, done G3 (he.trans u1), fun o j y1 y2 y3 y4 y5 => by rw [u4 o j (by omega) y4 y5, hG2 o j (by omega) y2 y3], u2, ?_⟩
        rcases u5 with ⟨i, i1, i2, i3, i4⟩ | ⟨i1, i, i2, i3, i4, i5, i6⟩
        · rw [i3, i4, s2, ← hval']
          exact hiv.upd hkey' i1 i2
        · rw [i3, i6, s2, ← hval']
          exact hiv.new hkey' i1 i2 i4 i5
      cases last with
      | none =>
        have h59 : G2 0 59 = 0 := by rw [hG2 _ _ (by omega) (by omega) (by omega)]; exact hla
        rw [if_pos h59] at e287
        exact go hkey e287
      | some ys =>
        obtain ⟨l1, l2, l3⟩ := hla
        have h59 : ¬ G2 0 59 = 0 := by rw [hG2 _ _ (by omega) (by omega) (by omega), l1]; decide
        have ve1 : rVe G2 112 0 xs := ⟨by rw [xl112]; omega, by omega, by omega, fun k hk => by rw [Nat.zero_add]; exact h112 k (by omega)⟩
        have ve2 : rVe G2 121 0 ys := ⟨by rw [xl121]; omega, by omega, by omega, fun k hk => by rw [Nat.zero_add, hG2 _ _ (by omega) (by omega) (by omega)]; exact l3 k (by omega)⟩
        have ec : g262 f 112 0 121 0 (I.length : Int) G2 = some (vCmp xs ys, G2) := l_262 (by omega) ve1 ve2 hxl l2
        rw [if_neg h59, ec, Option.bind_some] at e287
        have hlt : fCmp (0, ys) (0, xs) < 0 ↔ 0 < vCmp xs ys := by
          have q1 := vLt_iff (a := ys) (b := xs) (by omega)
          have q2 := vCmp_anti ys xs
          unfold vLt fLt at q1
          rw [q1]
          omega
        by_cases c2 : 0 < vCmp xs ys
        · have e2 : g287 f G1 = g287_111 f kk (gXv kk gO (G 110)) (I.length : Int) G2 := by rw [e287, if_pos c2]
          exact go (by rw [hkey]; show (if fCmp (0, ys) (0, xs) < 0 then some xs else none) = some xs; rw [if_pos (hlt.mpr c2)]) e2
        · have e2 : g287 f G1 = some G2 := by rw [e287, if_neg c2]
          exact skip hG2 (by rw [hkey]; show (if fCmp (0, ys) (0, xs) < 0 then some xs else none) = none; rw [if_neg (fun q => c2 (hlt.mp q))]) (done G2 e2)
  · rw [if_pos b1] at e283
    refine skip k2 ?_ e283
    unfold gKy
    rw [b2]
    by_cases c : kk = 2 ∧ 2000000000000 ≤ gXv kk gO (G 110)
    · rw [if_pos c]
    · rw [if_neg c]; rfl
end
