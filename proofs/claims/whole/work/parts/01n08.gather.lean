section
/-! GATHERING of the reference: the use of a WAY -/
def gXv (kk gO : Int) (v : Nat → Int) : Int := if kk = 1 then 1 else v gO.toNat
def gLa (last : Option (List Int)) (xs : List Int) : Option (List Int) := match last with
  | none => some xs
  | some ys => if fCmp (0, ys) (0, xs) < 0 then some xs else none
/-- the group of a WAY, if it counts and stands behind the last one -/
def gKy (kk gO : Int) (I : List pCd) (gA : Int) (last : Option (List Int)) (v : Nat → Int) : Option (List Int) := if kk = 2 ∧ 2000000000000 ≤ gXv kk gO v then none else (qMk I gA v I.length).bind (gLa last)
theorem qMk_xt {I : List pCd} {g : Int} {nv : Nat} {v w : Nat → Int} (hw : ∀ k, k < I.length → (k : Int) ≠ g → wEx nv (I.getD k [])) (h : ∀ k, k < nv → v k = w k) : ∀ k, k ≤ I.length → qMk I g v k = qMk I g w k
  | 0, _ => rfl
  | k + 1, hk => by
    show ((qMk I g v k).bind _) = ((qMk I g w k).bind _)
    rw [qMk_xt hw h k (by omega)]
    congr 1
    funext xs
    by_cases c : (k : Int) = g
    · rw [if_pos c, if_pos c]
    · rw [if_neg c, if_neg c]
      have hq := (hw k (by omega) c).1
      rw [qEv_xt hq (fun j hj => h j (qVm_in hq j hj))]
theorem qMk_g {I : List pCd} {g : Nat} {v : Nat → Int} : ∀ (k : Nat) (xs : List Int), qMk I (g : Int) v k = some xs → g < k → xs.getD g 0 = 0
  | 0, _, _, h => by omega
  | k + 1, xs, hq, h => by
    have h' : ((qMk I (g : Int) v k).bind fun xs => if (k : Int) = (g : Int) then some (xs ++ [0]) else (qEv v (I.getD k [])).bind fun z => some (xs ++ [z])) = some xs := hq
    cases hk : qMk I (g : Int) v k with
    | none => rw [hk] at h'; cases h'
    | some ys =>
      rw [hk, Option.bind_some] at h'
      have hl := qMk_len k ys hk
      by_cases c : (k : Int) = (g : Int)
      · rw [if_pos c] at h'
        injection h' with h'
        rw [← h', getD_1, if_pos (by omega)]
      · rw [if_neg c] at h'
        cases he : qEv v (I.getD k []) with
        | none => rw [he] at h'; cases h'
        | some z =>
          rw [he, Option.bind_some] at h'
          injection h' with h'
          rw [← h', getD_1, if_neg (by omega)]
          exact qMk_g k ys hk (by omega)
theorem gKy_xt {kk gO gA : Int} {I : List pCd} {last : Option (List Int)} {nv : Nat} {v w : Nat → Int} (hw : ∀ k, k < I.length → (k : Int) ≠ gA → wEx nv (I.getD k [])) (hO : kk ≠ 1 → 0 ≤ gO ∧ gO < nv) (h : ∀ k, k < nv → v k = w k) : gXv kk gO v = gXv kk gO w ∧ gKy kk gO I gA last v = gKy kk gO I gA last w := by
  have e : gXv kk gO v = gXv kk gO w := by
    unfold gXv
    by_cases c : kk = 1
    · rw [if_pos c, if_pos c]
    · rw [if_neg c, if_neg c]
      exact h _ (by have := hO c; omega)
  refine ⟨e, ?_⟩
  unfold gKy
  rw [e, qMk_xt hw h I.length (Nat.le_refl _)]
def rLa (G : xG_) (n : Nat) (last : Option (List Int)) : Prop := match last with
  | none => G 0 59 = 0
  | some ys => G 0 59 = 1 ∧ ys.length = n ∧ ∀ k, k < n → G 121 k = ys.getD k 0
section
variable {f nv r c m : Nat} {I : List pCd} {gA : Nat} {kk gO : Int} {last : Option (List Int)} {S : List pRw} {W : List (List Int)}
/-- the use of a WAY of a GATHERING rule -/
theorem l_u2 {G : xG_} (hf : 6300 < f) (hr : r < 25) (hnv : nv ≤ 8) (hc : c ≤ 6200) (hI : rHd G r c I (gA : Int)) (hw : ∀ k, k < I.length → (k : Int) ≠ (gA : Int) → wEx nv (I.getD k [])) (hgA : gA < I.length) (hkk : kk = 1 ∨ kk = 2 ∨ kk = 3 ∨ kk = 4) (h18 : G 18 r = kk) (h20 : G 20 r = gO) (hO : kk ≠ 1 → 0 ≤ gO ∧ gO < nv)
    (h38 : G 0 38 = 2) (h39 : G 0 39 = (r : Int)) (hm : rBn G m nv) (hfull : ∀ k, k < nv → m.testBit k = true) (hla : rLa G I.length last) (hS : rGr G I.length S) (hiv : gIv kk (fun v : List Int => gKy kk gO I (gA : Int) last (vF v)) (fun v => gXv kk gO (vF v)) W S (G 0 60)) (hWv : ∀ v ∈ W, v.length = nv ∧ ∀ x ∈ v, vOk x) (hWl : W.length < 1000000) :
    ∃ G' S', g283 f G = some G' ∧ (∀ o j, ¬ (o = 0 ∧ (j = 42 ∨ j = 58 ∨ j = 60)) → o ≠ 111 → o ≠ 112 → o ≠ 119 → o ≠ 120 → G' o j = G o j) ∧ rGr G' I.length S' ∧ gIv kk (fun v : List Int => gKy kk gO I (gA : Int) last (vF v)) (fun v => gXv kk gO (vF v)) (W ++ [vOf G nv]) S' (G' 0 60) := by
  have hI4 := hI.2.1
  obtain ⟨G1, b, k1, k2, k3⟩ := l_282 (f := f) hf hr hnv hc hI hw h39 hm hfull
  obtain ⟨ex, ek⟩ := gKy_xt (v := vF (vOf G nv)) (w := G 110) (kk := kk) (gO := gO) (I := I) (gA := (gA : Int)) (last := last) hw hO (fun k hk => vOf_get hk)
  have grk : ∀ {Z : xG_}, (∀ o j, ¬ (o = 0 ∧ j = 42) → o ≠ 111 → o ≠ 112 → Z o j = G o j) → rGr Z I.length S ∧ Z 0 60 = G 0 60 := fun {Z} hZ => by
    refine ⟨⟨by rw [hZ _ _ (by omega) (by omega) (by omega)]; exact hS.1, hS.2.1, fun i hi => ?_⟩, hZ _ _ (by omega) (by omega) (by omega)⟩
    obtain ⟨a1, a2, a3⟩ := hS.2.2 i hi
    exact ⟨a1, fun j hj => by rw [hZ _ _ (by omega) (by omega) (by omega)]; exact a2 j hj, by rw [hZ _ _ (by omega) (by omega) (by omega)]; exact a3⟩
  have skip : ∀ {Z : xG_}, (∀ o j, ¬ (o = 0 ∧ j = 42) → o ≠ 111 → o ≠ 112 → Z o j = G o j) → gKy kk gO I (gA : Int) last (G 110) = none → g283 f G = some Z → ∃ G' S', g283 f G = some G' ∧ (∀ o j, ¬ (o = 0 ∧ (j = 42 ∨ j = 58 ∨ j = 60)) → o ≠ 111 → o ≠ 112 → o ≠ 119 → o ≠ 120 → G' o j = G o j) ∧ rGr G' I.length S' ∧ gIv kk (fun v : List Int => gKy kk gO I (gA : Int) last (vF v)) (fun v => gXv kk gO (vF v)) (W ++ [vOf G nv]) S' (G' 0 60) := fun {Z} hZ hk he => by
    obtain ⟨g1, g2⟩ := grk hZ
    exact ⟨Z, S, he, fun o j y1 y2 y3 _ _ => hZ o j (by omega) y2 y3, g1, by rw [g2]; exact hiv.skip (by show gKy kk gO I (gA : Int) last (vF (vOf G nv)) = none; rw [ek]; exact hk)⟩
  have e283 : g283 f G = if b = 0 then some G1 else (g287 f G1).bind fun R140 => some R140 := by
    unfold g283 g283_118
    rw [h38, if_neg (by decide), if_neg (by decide), if_pos rfl, k1, Option.bind_some]
  rcases k3 with ⟨xs, b1, b2, b3, b4⟩ | ⟨b1, b2⟩
  · rw [if_neg (by omega)] at e283
    have hxl := qMk_len _ _ b2
    have hg0 := qMk_g _ _ b2 hgA
    have k17 : G1 17 r = (I.length : Int) := by rw [k2 _ _ (by omega) (by omega) (by omega)]; exact hI.1
    have k19 : G1 19 r = (gA : Int) := by rw [k2 _ _ (by omega) (by omega) (by omega)]; exact hI.2.2.1
    have k18 : G1 18 r = kk := by rw [k2 _ _ (by omega) (by omega) (by omega)]; exact h18
    have k20 : G1 20 r = gO := by rw [k2 _ _ (by omega) (by omega) (by omega)]; exact h20
    have k39 : G1 0 39 = (r : Int) := by rw [k2 _ _ (by omega) (by omega) (by omega)]; exact h39
    have k110 : G1 110 = G 110 := funext (fun j => k2 _ _ (by omega) (by omega) (by omega))
    have hrr : 0 ≤ (r : Int) ∧ (r : Int) < 25 := by omega
    -- the state with 0 for what is gathered
    let G2 := xup2 G1 112 gA 0
    have g2 : ∀ o j, ¬ (o = 112 ∧ j = gA) → G2 o j = G1 o j := fun o j h => xup2_n h
    have hG2 : ∀ o j, ¬ (o = 0 ∧ j = 42) → o ≠ 111 → o ≠ 112 → G2 o j = G o j := fun o j y1 y2 y3 => by rw [g2 o j (fun q => y3 q.1), k2 o j y1 y2 y3]
    have h112 : ∀ k, k < I.length → G2 112 k = xs.getD k 0 := fun k hk => by
      by_cases ck : k = gA
      · rw [ck, hg0]
        exact xup2_s _ _ _ _
      · rw [g2 _ _ (by omega)]
        exact b3 k hk (by omega)
    have e287 : g287 f G1 = if kk = 2 ∧ 2000000000000 ≤ gXv kk gO (G 110) then some G1 else if G2 0 59 = 0 then g287_111 f kk (gXv kk gO (G 110)) (I.length : Int) G2 else (g262 f 112 0 121 0 (I.length : Int) G2).bind fun R177 => if 0 < R177.1 then g287_111 f kk (gXv kk gO (G 110)) (I.length : Int) R177.2 else some R177.2 := by
      have e53 : ∀ y, g287_53 f kk y G1 = if G2 0 59 = 0 then g287_111 f kk y (I.length : Int) G2 else (g262 f 112 0 121 0 (I.length : Int) G2).bind fun R177 => if 0 < R177.1 then g287_111 f kk y (I.length : Int) R177.2 else some R177.2 := fun y => by
        have t39 : G2 0 39 = (r : Int) := by rw [g2 _ _ (by omega)]; exact k39
        have t17 : G2 17 r = (I.length : Int) := by rw [g2 _ _ (by omega)]; exact k17
        have h4 : 0 ≤ (gA : Int) ∧ (gA : Int) < 4 := by omega
        unfold g287_53
        rw [k39]
        simp only [Nat.reduceAdd, Int.toNat_natCast, if_pos hrr]
        rw [k19, if_pos h4, Int.toNat_natCast, Option.bind_some]
        show (if 0 ≤ G2 0 39 ∧ G2 0 39 < 25 then (if G2 0 59 = 0 then g287_111 f kk y (G2 17 (G2 0 39).toNat) G2 else (g262 f 112 0 121 0 (G2 17 (G2 0 39).toNat) G2).bind fun R177 => (if 0 < R177.1 then g287_111 f kk y (G2 17 (G2 0 39).toNat) R177.2 else some R177.2)) else none) = _
        rw [t39, if_pos hrr, Int.toNat_natCast, t17]
      have e39 : ∀ y, g287_39 f kk y G1 = if kk = 2 ∧ 2000000000000 ≤ y then some G1 else g287_53 f kk y G1 := fun y => by
        unfold g287_39
        by_cases c : kk = 2
        · have n2 : ¬ ¬ kk = 2 := fun q => q c
          rw [if_neg n2, l_267, Option.bind_some]
          by_cases c2 : y < 2000000000000
          · have n3 : ¬ (kk = 2 ∧ 2000000000000 ≤ y) := fun q => by omega
            rw [if_pos c2, if_neg n3, if_pos rfl]
          · have n3 : kk = 2 ∧ 2000000000000 ≤ y := ⟨c, by omega⟩
            have n4 : ¬ ((1 : Int), G1).1 = 0 := fun h => absurd (show (1 : Int) = 0 from h) (by decide)
            rw [if_neg c2, if_pos n3, if_neg n4]
        · have n3 : ¬ (kk = 2 ∧ 2000000000000 ≤ y) := fun q => c q.1
          rw [if_pos c, if_neg n3]
      unfold g287
      rw [k39]
      simp only [Nat.reduceAdd, Int.toNat_natCast, if_pos hrr]
      rw [k18, k20]
      unfold gXv
      by_cases c : kk = 1
      · have n1 : ¬ ¬ kk = 1 := fun q => q c
        rw [if_neg n1, if_pos c, e39, e53]
      · have ho := hO c
        rw [if_pos c, if_neg c, if_pos (by omega), k110, e39, e53]
    have hxv : -4000000000000 ≤ gXv kk gO (G 110) ∧ gXv kk gO (G 110) ≤ 4000000000000 := by
      unfold gXv
      by_cases c : kk = 1
      · rw [if_pos c]; omega
      · have ho := hO c
        rw [if_neg c]
        have := (hm.2.2 gO.toNat (hfull _ (by omega))).2
        unfold vOk at this
        omega
    have done : ∀ Z, g287 f G1 = some Z → g283 f G = some Z := fun Z h => by
      rw [e283, h]
      rfl
    by_cases c1 : kk = 2 ∧ 2000000000000 ≤ gXv kk gO (G 110)
    · rw [if_pos c1] at e287
      exact skip k2 (by unfold gKy; rw [if_pos c1]) (done G1 e287)
    · rw [if_neg c1] at e287
      have hkey : gKy kk gO I (gA : Int) last (G 110) = gLa last xs := by
        unfold gKy
        rw [if_neg c1, b2, Option.bind_some]
      have go : gKy kk gO I (gA : Int) last (G 110) = some xs → g287 f G1 = g287_111 f kk (gXv kk gO (G 110)) (I.length : Int) G2 → ∃ G' S', g283 f G = some G' ∧ (∀ o j, ¬ (o = 0 ∧ (j = 42 ∨ j = 58 ∨ j = 60)) → o ≠ 111 → o ≠ 112 → o ≠ 119 → o ≠ 120 → G' o j = G o j) ∧ rGr G' I.length S' ∧ gIv kk (fun v : List Int => gKy kk gO I (gA : Int) last (vF v)) (fun v => gXv kk gO (vF v)) (W ++ [vOf G nv]) S' (G' 0 60) := fun hk he => by
        obtain ⟨s1, s2⟩ := grk hG2
        have hbS : ∀ y ∈ S, -4000000000000000000 ≤ y.2 ∧ y.2 ≤ 4000000000000000000 := fun y hy => by
          obtain ⟨z1, z2⟩ := hiv.2.2.2.1 y hy
          rw [z2]
          have := gAg_bd (l := gVs (fun v : List Int => gKy kk gO I (gA : Int) last (vF v)) (fun v => gXv kk gO (vF v)) W y.1) hkk W.length (gVs_len W y.1) (fun x hx => by
            unfold gVs at hx
            obtain ⟨v, hv1, hv2⟩ := List.mem_filterMap.mp hx
            by_cases cv : gKy kk gO I (gA : Int) last (vF v) = some y.1
            · rw [if_pos cv] at hv2
              injection hv2 with hv2
              rw [← hv2]
              obtain ⟨w1, w2⟩ := hWv v hv1
              show -3000000000000 ≤ (if kk = 1 then 1 else v.getD gO.toNat 0) ∧ (if kk = 1 then 1 else v.getD gO.toNat 0) ≤ 3000000000000
              by_cases c : kk = 1
              · rw [if_pos c]; omega
              · have ho := hO c
                rw [if_neg c, getD_e (by omega : gO.toNat < v.length)]
                have := w2 _ (List.getElem_mem (by omega : gO.toNat < v.length))
                unfold vOk at this
                omega
            · rw [if_neg cv] at hv2; cases hv2)
          omega
        obtain ⟨G3, S3, u1, u2, u3, u4, u5⟩ := l_287_111 (f := f) (kk := kk) (x := gXv kk gO (G 110)) (xs := xs) (by omega) hI4 s1 hiv.1 h112 hxl hkk hxv hbS
        have hkey' : (fun v : List Int => gKy kk gO I (gA : Int) last (vF v)) (vOf G nv) = some xs := by
          show gKy kk gO I (gA : Int) last (vF (vOf G nv)) = some xs
          rw [ek]
          exact hk
        have hval' : (fun v : List Int => gXv kk gO (vF v)) (vOf G nv) = gXv kk gO (G 110) := ex
        refine ⟨G3, S3, done G3 (he.trans u1), fun o j y1 y2 y3 y4 y5 => by rw [u4 o j (by omega) y4 y5, hG2 o j (by omega) y2 y3], u2, ?_⟩
        rcases u5 with ⟨i, i1, i2, i3, i4⟩ | ⟨i1, i, i2, i3, i4, i5, i6⟩
        · rw [i3, i4, s2, ← hval']
          exact hiv.upd hkey' i1 i2
        · rw [i3, i6, s2, ← hval']
          exact hiv.new hkey' i1 i2 i4 i5
      cases last with
      | none =>
        have h59 : G2 0 59 = 0 := by rw [hG2 _ _ (by omega) (by omega) (by omega)]; exact hla
        rw [if_pos h59] at e287
        exact go hkey e287
      | some ys =>
        obtain ⟨l1, l2, l3⟩ := hla
        have h59 : ¬ G2 0 59 = 0 := by rw [hG2 _ _ (by omega) (by omega) (by omega), l1]; decide
        have ve1 : rVe G2 112 0 xs := ⟨by rw [xl112]; omega, by omega, by omega, fun k hk => by rw [Nat.zero_add]; exact h112 k (by omega)⟩
        have ve2 : rVe G2 121 0 ys := ⟨by rw [xl121]; omega, by omega, by omega, fun k hk => by rw [Nat.zero_add, hG2 _ _ (by omega) (by omega) (by omega)]; exact l3 k (by omega)⟩
        have ec : g262 f 112 0 121 0 (I.length : Int) G2 = some (vCmp xs ys, G2) := l_262 (by omega) ve1 ve2 hxl l2
        rw [if_neg h59, ec, Option.bind_some] at e287
        have hlt : fCmp (0, ys) (0, xs) < 0 ↔ 0 < vCmp xs ys := by
          have q1 := vLt_iff (a := ys) (b := xs) (by omega)
          have q2 := vCmp_anti ys xs
          unfold vLt fLt at q1
          rw [q1]
          omega
        by_cases c2 : 0 < vCmp xs ys
        · have e2 : g287 f G1 = g287_111 f kk (gXv kk gO (G 110)) (I.length : Int) G2 := by rw [e287, if_pos c2]
          exact go (by rw [hkey]; show (if fCmp (0, ys) (0, xs) < 0 then some xs else none) = some xs; rw [if_pos (hlt.mpr c2)]) e2
        · have e2 : g287 f G1 = some G2 := by rw [e287, if_neg c2]
          exact skip hG2 (by rw [hkey]; show (if fCmp (0, ys) (0, xs) < 0 then some xs else none) = none; rw [if_neg (fun q => c2 (hlt.mp q))]) (done G2 e2)
  · rw [if_pos b1] at e283
    refine skip k2 ?_ e283
    unfold gKy
    rw [b2]
    by_cases c : kk = 2 ∧ 2000000000000 ≤ gXv kk gO (G 110)
    · rw [if_pos c]
    · rw [if_neg c]; rfl
end
end
section
/-! Rules of the reference: the rows that one gives -/
/-- xs is no row of p -/
def rNw (R : Nat → List pRw) (p : Nat) (xs : List Int) : Prop := ∀ w, w ∈ R p → w.1 ≠ xs
/-- what a rule with the HEAD p comes to, giving the rows D, if F came before: new rows, or too many -/
def rOt (np : Nat) (N : Nat → Nat) (R : Nat → List pRw) (F : List pFw) (p : Nat) (D : List Int → Prop) (G : xG_) : Prop :=
  (G 0 43 = 0 ∧ ∃ F', rFr G np N R F' ∧ F'.Nodup ∧ ∀ y, y ∈ F' ↔ y ∈ F ∨ (y.1 = p ∧ D y.2 ∧ rNw R p y.2)) ∨ (G 0 43 ≠ 0 ∧ ∃ F' : List pFw, F'.Nodup ∧ (∀ y, y ∈ F' → y ∈ F ∨ (y.1 = p ∧ D y.2 ∧ rNw R p y.2)) ∧ 100 < (R p).length + fCt F' p)
theorem rOt.ge {np p : Nat} {N : Nat → Nat} {R : Nat → List pRw} {F : List pFw} {D : List Int → Prop} {G G' : xG_} (h : rOt np N R F p D G) (h43 : G' 0 43 = G 0 43) (h47 : G' 0 47 = G 0 47) (hf : ∀ a j, 113 ≤ a → a ≤ 115 → G' a j = G a j) : rOt np N R F p D G' := by
  rcases h with ⟨a1, F', a2, a3⟩ | ⟨a1, a2⟩
  · exact .inl ⟨by rw [h43]; exact a1, F', a2.ge h47 hf, a3⟩
  · exact .inr ⟨by rw [h43]; exact a1, a2⟩
theorem rOt.iff {np p : Nat} {N : Nat → Nat} {R : Nat → List pRw} {F : List pFw} {D D' : List Int → Prop} {G : xG_} (h : rOt np N R F p D G) (he : G 0 43 = 0 → ∀ xs, D xs ↔ D' xs) (hi : ∀ xs, D xs → D' xs) : rOt np N R F p D' G := by
  rcases h with ⟨a1, F', a2, a3, a4⟩ | ⟨a1, F', a2, a3, a4⟩
  · refine .inl ⟨a1, F', a2, a3, fun y => ?_⟩
    rw [a4 y, he a1 y.2]
  · refine .inr ⟨a1, F', a2, fun y hy => ?_, a4⟩
    rcases a3 y hy with b | ⟨b1, b2, b3⟩
    · exact .inl b
    · exact .inr ⟨b1, hi _ b2, b3⟩
section
variable {f nv np r c m p : Nat} {I : List pCd} {N : Nat → Nat} {R : Nat → List pRw} {F : List pFw}
/-- one more row given -/
theorem rOt.row {G : xG_} {D : List Int → Prop} {xs : List Int} (hf : 4000 < f) (hnp : np ≤ 16) (hp : p < np) (hT : rTb G np N R) (hN : G 4 p = (N p : Int)) (h : rOt np N R F p D G) (h43 : G 0 43 = 0) (hx : ∀ k, k < xs.length → G 112 k = xs.getD k 0) (hxn : xs.length = N p) :
    ∃ G', g284 f (p : Int) G = some G' ∧ (∀ o j, ¬ (o = 0 ∧ (j = 43 ∨ j = 47)) → ¬ (113 ≤ o ∧ o ≤ 115) → G' o j = G o j) ∧ rOt np N R F p (fun z => D z ∨ z = xs) G' := by
  rcases h with ⟨a1, F', a2, a3, a4⟩ | ⟨a1, _⟩
  · obtain ⟨G', k1, k2, k3⟩ := l_284 (f := f) hf hnp hp hT hN a2 hx hxn
    refine ⟨G', k1, k2, ?_⟩
    rcases k3 with ⟨k3, k4⟩ | ⟨k3, k4, k5⟩
    · rw [k4]
      refine .inl ⟨a1, F', a2, a3, fun y => ?_⟩
      rw [a4 y]
      constructor
      · rintro (q | ⟨q1, q2, q3⟩)
        · exact .inl q
        · exact .inr ⟨q1, .inl q2, q3⟩
      · rintro (q | ⟨q1, q2 | q2, q3⟩)
        · exact .inl q
        · exact .inr ⟨q1, q2, q3⟩
        · rcases k3 with ⟨w, w1, w2⟩ | k3
          · exact absurd (w2.trans q2.symm) (q3 w w1)
          · have : y = (p, xs) := Prod.ext q1 q2
            rw [this]
            exact (a4 _).mp k3
    · have nd : (F' ++ [(p, xs)]).Nodup := by
        rw [List.nodup_append]
        refine ⟨a3, List.nodup_cons.mpr ⟨by simp, List.nodup_nil⟩, fun a ha b hb hab => ?_⟩
        rw [List.mem_singleton.mp hb] at hab
        exact k4 (hab ▸ ha)
      have mem : ∀ y, y ∈ F' ++ [(p, xs)] ↔ y ∈ F ∨ (y.1 = p ∧ (D y.2 ∨ y.2 = xs) ∧ rNw R p y.2) := fun y => by
        rw [List.mem_append, a4 y, List.mem_singleton]
        constructor
        · rintro ((q | ⟨q1, q2, q3⟩) | q)
          · exact .inl q
          · exact .inr ⟨q1, .inl q2, q3⟩
          · rw [q]; exact .inr ⟨rfl, .inr rfl, k3⟩
        · rintro (q | ⟨q1, q2 | q2, q3⟩)
          · exact .inl (.inl q)
          · exact .inl (.inr ⟨q1, q2, q3⟩)
          · exact .inr (Prod.ext q1 q2)
      rcases k5 with ⟨k5, k6⟩ | ⟨k5, k6⟩
      · refine .inr ⟨by rw [k6]; decide, F' ++ [(p, xs)], nd, fun y hy => (mem y).mp hy, ?_⟩
        have : fCt (F' ++ [(p, xs)]) p = fCt F' p + 1 := by
          unfold fCt
          rw [List.countP_append, List.countP_cons_of_pos (by simp)]
          rfl
        omega
      · exact .inl ⟨by rw [k5]; exact a1, F' ++ [(p, xs)], k6, nd, mem⟩
  · exact absurd h43 a1
/-- a rule that doesn't gather: its WAYS, all used -/
theorem l_der {K : Nat → Nat} {l : List pLt} {G : xG_} (hf : 6300 < f) (hr : r < 25) (hnv : nv ≤ 8) (hnp : np ≤ 16) (hc : c ≤ 6200) (hat : pAtoms l ≤ 3) (hw : ∀ y ∈ l, wLt np nv y ∧ (y.1 ≠ 3 → 0 ≤ y.2.1)) (hsafe : ∀ k, k < nv → (qBd l).testBit k = true) (hL : rLs G 2 r c l)
    (hI : rHd G r c I (-1)) (hwI : ∀ k, k < I.length → wEx nv (I.getD k [])) (h15 : G 15 r = (p : Int)) (hp : p < np) (hIN : I.length = N p) (hN : G 4 p = (N p : Int)) (h38 : G 0 38 = 1) (h39 : G 0 39 = (r : Int)) (h40 : G 0 40 = -1) (hT : rTb G np N R) (hR : ∀ p, p < np → (R p).length ≤ 100 ∧ ∀ w ∈ R p, ∀ x ∈ w.1, vOk x) (h37 : G 0 37 = 0) (h43 : G 0 43 = 0) (hF : rFr G np N R F) (hnd : F.Nodup) :
    ∃ G', g275 f 0 G = some G' ∧ xE G G' ∧ G' 0 37 = 0 ∧ rOt np N R F p (fun xs => ∃ v, isW l nv R (qOp K (-1) 0) v ∧ qMk I (-1) (vF v) I.length = some xs ∧ ∀ x ∈ xs, vOk x) G' := by
  have hI4 := hI.2.1
  obtain ⟨G', V, u1, u2, u3, u4, u5, u6, u7, u8⟩ := l_275 (f := f) (K := K) (ra := -1) (rb := 0) (P := fun W Z => rOt np N R F p (fun xs => ∃ v ∈ W, qMk I (-1) (vF v) I.length = some xs ∧ ∀ x ∈ xs, vOk x) Z) hf hr hnv hnp hc hat hw hsafe hL h39 h40 (fun q => absurd rfl q) (fun q => absurd rfl q) hT hR
    (fun W Z Z' h hz => h.ge (hz _ _ (by omega) (by omega) (by omega)) (hz _ _ (by omega) (by omega) (by omega)) (fun a j _ _ => hz _ _ (by omega) (by omega) (by omega)))
    (fun W G1 m hPW h43 hE hm hfull hs hWl => by
      have hI1 : rHd G1 r c I (-1) := hI.v (fun a j _ _ => hE _ _ (by omega) (by omega))
      have h391 : G1 0 39 = (r : Int) := by rw [hE _ _ (by omega) (by omega)]; exact h39
      obtain ⟨G2, b, k1, k2, k3⟩ := l_282 (f := f) hf hr hnv hc hI1 (fun k hk _ => hwI k hk) h391 hm hfull
      have h38' : G1 0 38 = 1 := by rw [hE _ _ (by omega) (by omega)]; exact h38
      have e1 : g283 f G1 = if b = 0 then some G2 else (g284 f (p : Int) G2).bind fun R128 => some R128 := by
        have t39 : G2 0 39 = (r : Int) := by rw [k2 _ _ (by omega) (by omega) (by omega)]; exact h391
        have t15 : G2 15 r = (p : Int) := by rw [k2 _ _ (by omega) (by omega) (by omega), hE _ _ (by omega) (by omega)]; exact h15
        unfold g283 g283_118
        rw [h38', if_neg (by decide), if_pos rfl, k1, Option.bind_some]
        show (if b = 0 then _ else (if 0 ≤ G2 0 39 ∧ G2 0 39 < 25 then (g284 f (G2 15 (G2 0 39).toNat) G2).bind _ else none)) = _
        have hrr : 0 ≤ (r : Int) ∧ (r : Int) < 25 := by omega
        rw [t39, if_pos hrr, Int.toNat_natCast, t15]
      have hmk : qMk I (-1) (vF (vOf G1 nv)) I.length = qMk I (-1) (G1 110) I.length := qMk_xt (nv := nv) (fun k hk _ => hwI k hk) (fun k hk => vOf_get hk) I.length (Nat.le_refl _)
      have hP2 : rOt np N R F p (fun xs => ∃ v ∈ W, qMk I (-1) (vF v) I.length = some xs ∧ ∀ x ∈ xs, vOk x) G2 := hPW.ge (k2 _ _ (by omega) (by omega) (by omega)) (k2 _ _ (by omega) (by omega) (by omega)) (fun a j _ _ => k2 _ _ (by omega) (by omega) (by omega))
      rcases k3 with ⟨xs, b1, b2, b3, b4⟩ | ⟨b1, b2⟩
      · have hxl := qMk_len _ _ b2
        have hxv : ∀ x ∈ xs, vOk x := fun x hx => by
          obtain ⟨k, hk, rfl⟩ := List.getElem_of_mem hx
          have := b4 k (by omega)
          rw [getD_e hk] at this
          exact this
        obtain ⟨G3, g1, g2, g3⟩ := rOt.row (f := f) (xs := xs) (by omega) hnp hp (hT.ge (fun a j _ _ => by rw [k2 _ _ (by omega) (by omega) (by omega), hE _ _ (by omega) (by omega)])) (by rw [k2 _ _ (by omega) (by omega) (by omega), hE _ _ (by omega) (by omega)]; exact hN) hP2 (by rw [k2 _ _ (by omega) (by omega) (by omega)]; exact h43) (fun k hk => b3 k (by omega) (by omega)) (by omega)
        refine ⟨G3, by rw [e1, if_neg (by omega), g1]; rfl, ?_, fun o j y1 y2 => by rw [g2 o j (by omega) (by omega), k2 o j (by omega) (by omega) (by omega)]⟩
        have eqv : ∀ zs, ((∃ v ∈ W, qMk I (-1) (vF v) I.length = some zs ∧ ∀ x ∈ zs, vOk x) ∨ zs = xs) ↔ ∃ v ∈ W ++ [vOf G1 nv], qMk I (-1) (vF v) I.length = some zs ∧ ∀ x ∈ zs, vOk x := fun zs => by
          constructor
          · rintro (⟨v, v1, v2⟩ | q)
            · exact ⟨v, List.mem_append.mpr (.inl v1), v2⟩
            · exact ⟨vOf G1 nv, List.mem_append.mpr (.inr (List.mem_singleton.mpr rfl)), by rw [hmk, q]; exact b2, by rw [q]; exact hxv⟩
          · rintro ⟨v, v1, v2, v3⟩
            rcases List.mem_append.mp v1 with v1 | v1
            · exact .inl ⟨v, v1, v2, v3⟩
            · rw [List.mem_singleton.mp v1, hmk, b2] at v2
              injection v2 with v2
              exact .inr v2.symm
        exact g3.iff (fun _ zs => eqv zs) (fun zs q => (eqv zs).mp q)
      · refine ⟨G2, by rw [e1, if_pos b1], ?_, fun o j y1 y2 => k2 o j (by omega) (by omega) (by omega)⟩
        have eqv : ∀ zs, (∃ v ∈ W, qMk I (-1) (vF v) I.length = some zs ∧ ∀ x ∈ zs, vOk x) ↔ ∃ v ∈ W ++ [vOf G1 nv], qMk I (-1) (vF v) I.length = some zs ∧ ∀ x ∈ zs, vOk x := fun zs => by
          constructor
          · rintro ⟨v, v1, v2⟩
            exact ⟨v, List.mem_append.mpr (.inl v1), v2⟩
          · rintro ⟨v, v1, v2, v3⟩
            rcases List.mem_append.mp v1 with v1 | v1
            · exact ⟨v, v1, v2, v3⟩
            · rw [List.mem_singleton.mp v1, hmk, b2] at v2
              cases v2
        exact hP2.iff (fun _ zs => eqv zs) (fun zs q => (eqv zs).mp q))
    h37 h43 (.inl ⟨h43, F, hF, hnd, fun y => ⟨.inl, fun q => q.elim id (fun ⟨_, ⟨v, v1, _⟩, _⟩ => absurd v1 (by simp))⟩⟩)
  refine ⟨G', u1, u2, u3, u4.iff (fun h xs => ⟨fun ⟨v, v1, v2⟩ => ⟨v, (u7 v v1).1, v2⟩, fun ⟨v, v1, v2⟩ => ⟨v, u8 h v v1, v2⟩⟩) (fun xs ⟨v, v1, v2⟩ => ⟨v, (u7 v v1).1, v2⟩)⟩
end
end
section
/-! GATHERING of the reference: one time over all WAYS; what comes of it -/
theorem qCo_comm (k a b : Int) : qCo k a b = qCo k b a := by
  unfold qCo
  repeat' split
  all_goals omega
theorem qCo_as (k a b c : Int) : qCo k (qCo k a b) c = qCo k (qCo k a c) b := by
  unfold qCo
  repeat' split
  all_goals omega
theorem gAg_perm {kk : Int} {l l' : List Int} (h : l.Perm l') : gAg kk l = gAg kk l' := by
  have ff : ∀ {l l' : List Int}, l.Perm l' → ∀ a, l.foldl (qCo kk) a = l'.foldl (qCo kk) a := by
    intro l l' h
    induction h with
    | nil => exact fun _ => rfl
    | cons x _ ih => exact fun a => ih _
    | swap x y l =>
      intro a
      show l.foldl (qCo kk) (qCo kk (qCo kk a y) x) = l.foldl (qCo kk) (qCo kk (qCo kk a x) y)
      rw [qCo_as]
    | trans _ _ i1 i2 => exact fun a => (i1 a).trans (i2 a)
  induction h with
  | nil => rfl
  | cons x h _ => exact ff h x
  | swap x y l =>
    show l.foldl (qCo kk) (qCo kk y x) = l.foldl (qCo kk) (qCo kk x y)
    rw [qCo_comm]
  | trans _ _ i1 i2 => exact i1.trans i2
/-- all WAYS, each once -/
def isAll (l : List pLt) (nv : Nat) (R : Nat → List pRw) (op : Nat → pRw → Prop) (V : List (List Int)) : Prop := V.Nodup ∧ ∀ v, v ∈ V ↔ isW l nv R op v
theorem isAll.perm {l : List pLt} {nv : Nat} {R : Nat → List pRw} {op : Nat → pRw → Prop} {V V' : List (List Int)} (h : isAll l nv R op V) (h' : isAll l nv R op V') : V.Perm V' := (List.perm_ext_iff_of_nodup h.1 h'.1).mpr (fun v => (h.2 v).trans (h'.2 v).symm)
theorem gVs_perm {α : Type} {key : α → Option (List Int)} {val : α → Int} {V V' : List α} (h : V.Perm V') (xs : List Int) : (gVs key val V xs).Perm (gVs key val V' xs) := h.filterMap _
/-- the row of a group -/
def gRo (kk : Int) (gA : Nat) (xs : List Int) (a : Int) : Option (List Int) := if kk = 2 ∧ (1000000000000 < a ∨ a < -1000000000000) then none else some (xs.set gA a)
/-- the group xs gives the row zs -/
def gDs (l : List pLt) (nv : Nat) (R : Nat → List pRw) (op : Nat → pRw → Prop) (kk gO : Int) (I : List pCd) (gA : Nat) (xs zs : List Int) : Prop := ∃ V, isAll l nv R op V ∧ gVs (fun v : List Int => gKy kk gO I (gA : Int) none (vF v)) (fun v => gXv kk gO (vF v)) V xs ≠ [] ∧ gRo kk gA xs (gAg kk (gVs (fun v : List Int => gKy kk gO I (gA : Int) none (vF v)) (fun v => gXv kk gO (vF v)) V xs)) = some zs
theorem gDs_of {l : List pLt} {nv : Nat} {R : Nat → List pRw} {op : Nat → pRw → Prop} {kk gO : Int} {I : List pCd} {gA : Nat} {xs zs : List Int} {V : List (List Int)} (hV : isAll l nv R op V) (h : gDs l nv R op kk gO I gA xs zs) : gVs (fun v : List Int => gKy kk gO I (gA : Int) none (vF v)) (fun v => gXv kk gO (vF v)) V xs ≠ [] ∧ gRo kk gA xs (gAg kk (gVs (fun v : List Int => gKy kk gO I (gA : Int) none (vF v)) (fun v => gXv kk gO (vF v)) V xs)) = some zs := by
  obtain ⟨V', h1, h2, h3⟩ := h
  have hp := gVs_perm (key := fun v : List Int => gKy kk gO I (gA : Int) none (vF v)) (val := fun v : List Int => gXv kk gO (vF v)) (h1.perm hV) xs
  refine ⟨fun q => h2 ?_, by rw [← gAg_perm hp]; exact h3⟩
  rw [q] at hp
  exact List.perm_nil.mp hp
theorem gKy_la (kk gO : Int) (I : List pCd) (gA : Int) (last : Option (List Int)) (v : Nat → Int) : gKy kk gO I gA last v = (gKy kk gO I gA none v).bind (gLa last) := by
  unfold gKy
  by_cases c : kk = 2 ∧ 2000000000000 ≤ gXv kk gO v
  · rw [if_pos c, if_pos c]; rfl
  · rw [if_neg c, if_neg c]
    cases qMk I gA v I.length <;> rfl
theorem gLa_in (last : Option (List Int)) (xs : List Int) : gLa last xs = some xs ∨ gLa last xs = none := by
  unfold gLa
  cases last with
  | none => exact .inl rfl
  | some ys =>
    show (if _ then _ else _) = _ ∨ (if _ then _ else _) = _
    by_cases c : fCmp (0, ys) (0, xs) < 0
    · rw [if_pos c]; exact .inl rfl
    · rw [if_neg c]; exact .inr rfl
theorem gKy_iff {kk gO : Int} {I : List pCd} {gA : Int} {last : Option (List Int)} {v : Nat → Int} {xs : List Int} : gKy kk gO I gA last v = some xs ↔ gKy kk gO I gA none v = some xs ∧ gLa last xs = some xs := by
  rw [gKy_la]
  constructor
  · intro h
    cases hk : gKy kk gO I gA none v with
    | none => rw [hk] at h; cases h
    | some ys =>
      rw [hk, Option.bind_some] at h
      rcases gLa_in last ys with e | e
      · rw [e] at h
        injection h with h
        rw [← h]
        exact ⟨rfl, e⟩
      · rw [e] at h; cases h
  · rintro ⟨h1, h2⟩
    rw [h1, Option.bind_some]
    exact h2
theorem gVs_la {kk gO : Int} {I : List pCd} {gA : Int} {last : Option (List Int)} {V : List (List Int)} {xs : List Int} (h : gLa last xs = some xs) : gVs (fun v : List Int => gKy kk gO I gA last (vF v)) (fun v => gXv kk gO (vF v)) V xs = gVs (fun v : List Int => gKy kk gO I gA none (vF v)) (fun v => gXv kk gO (vF v)) V xs := by
  unfold gVs
  congr 1
  funext v
  by_cases c : gKy kk gO I gA none (vF v) = some xs
  · rw [if_pos c, if_pos (gKy_iff.mpr ⟨c, h⟩)]
  · rw [if_neg c, if_neg (fun q => c (gKy_iff.mp q).1)]
/-- what one time over the WAYS leaves as it was -/
def xP (G G' : xG_) : Prop := ∀ o j, ¬ (o = 0 ∧ (j = 37 ∨ j = 42 ∨ j = 58 ∨ j = 60)) → ¬ (o = 110 ∨ o = 111 ∨ o = 112 ∨ o = 119 ∨ o = 120) → G' o j = G o j
section
variable {f nv np r c : Nat} {l : List pLt} {I : List pCd} {gA : Nat} {kk gO : Int} {last : Option (List Int)} {N : Nat → Nat} {R : Nat → List pRw} {K : Nat → Nat}
theorem rLa.ge {G G' : xG_} {n : Nat} (h : rLa G n last) (h59 : G' 0 59 = G 0 59) (h1 : ∀ k, G' 121 k = G 121 k) : rLa G' n last := by
  cases last with
  | none => show G' 0 59 = 0; rw [h59]; exact h
  | some ys =>
    obtain ⟨a, b, c⟩ := h
    exact ⟨by rw [h59]; exact a, b, fun k hk => by rw [h1]; exact c k hk⟩
/-- a gathering rule at r -/
def rGt (G : xG_) (r c nv : Nat) (l : List pLt) (I : List pCd) (gA : Nat) (kk gO : Int) : Prop := rLs G 2 r c l ∧ rHd G r c I (gA : Int) ∧ G 18 r = kk ∧ G 20 r = gO
theorem l_ps {G : xG_} (hf : 6300 < f) (hr : r < 25) (hnv : nv ≤ 8) (hnp : np ≤ 16) (hc : c ≤ 6200) (hat : pAtoms l ≤ 3) (hw : ∀ y ∈ l, wLt np nv y ∧ (y.1 ≠ 3 → 0 ≤ y.2.1)) (hsafe : ∀ k, k < nv → (qBd l).testBit k = true) (hg : rGt G r c nv l I gA kk gO)
    (hwI : ∀ k, k < I.length → (k : Int) ≠ (gA : Int) → wEx nv (I.getD k [])) (hgA : gA < I.length) (hkk : kk = 1 ∨ kk = 2 ∨ kk = 3 ∨ kk = 4) (hO : kk ≠ 1 → 0 ≤ gO ∧ gO < nv) (h38 : G 0 38 = 2) (h39 : G 0 39 = (r : Int)) (h40 : G 0 40 = -1) (hT : rTb G np N R) (hR : ∀ p, p < np → (R p).length ≤ 100 ∧ ∀ w ∈ R p, ∀ x ∈ w.1, vOk x) (h37 : G 0 37 = 0) (h43 : G 0 43 = 0) (h58 : G 0 58 = 0) (h60 : G 0 60 = 0) (hla : rLa G I.length last) :
    ∃ G' V S, g275 f 0 G = some G' ∧ xP G G' ∧ isAll l nv R (qOp K (-1) 0) V ∧ V.length ≤ 1000000 ∧ (∀ v ∈ V, ∀ x ∈ v, vOk x) ∧ rGr G' I.length S ∧ gIv kk (fun v : List Int => gKy kk gO I (gA : Int) last (vF v)) (fun v => gXv kk gO (vF v)) V S (G' 0 60) := by
  obtain ⟨hL, hI, h18, h20⟩ := hg
  obtain ⟨G', V, u1, u2, u3, u4, u5, u6, u7, u8⟩ := l_275 (f := f) (K := K) (ra := -1) (rb := 0) (P := fun W Z => (∀ v ∈ W, v.length = nv ∧ ∀ x ∈ v, vOk x) ∧ xP G Z ∧ ∃ S, rGr Z I.length S ∧ gIv kk (fun v : List Int => gKy kk gO I (gA : Int) last (vF v)) (fun v => gXv kk gO (vF v)) W S (Z 0 60)) hf hr hnv hnp hc hat hw hsafe hL h39 h40 (fun q => absurd rfl q) (fun q => absurd rfl q) hT hR
    (fun W Z Z' ⟨h1, h2, S, h3, h4⟩ hz => ⟨h1, fun o j y1 y2 => by rw [hz o j (by omega) (by omega) (by omega), h2 o j y1 y2], S, ⟨by rw [hz _ _ (by omega) (by omega) (by omega)]; exact h3.1, h3.2.1, fun i hi => by
      obtain ⟨a1, a2, a3⟩ := h3.2.2 i hi
      exact ⟨a1, fun j hj => by rw [hz _ _ (by omega) (by omega) (by omega)]; exact a2 j hj, by rw [hz _ _ (by omega) (by omega) (by omega)]; exact a3⟩⟩, by rw [hz _ _ (by omega) (by omega) (by omega)]; exact h4⟩)
    (fun W G1 m ⟨p1, p2, S, p3, p4⟩ h43 hE hm hfull hs hWl => by
      have e : ∀ a j, 2 ≤ a → a ≤ 36 → G1 a j = G a j := fun a j _ _ => hE _ _ (by omega) (by omega)
      obtain ⟨G2, S2, k1, k2, k3, k4⟩ := l_u2 (f := f) (W := W) hf hr hnv hc (hI.v e) hwI hgA hkk (by rw [e _ _ (by omega) (by omega)]; exact h18) (by rw [e _ _ (by omega) (by omega)]; exact h20) hO (by rw [hE _ _ (by omega) (by omega)]; exact h38) (by rw [hE _ _ (by omega) (by omega)]; exact h39) hm hfull (hla.ge (p2 _ _ (by omega) (by omega)) (fun k => p2 _ _ (by omega) (by omega))) p3 p4 p1 hWl
      refine ⟨G2, k1, ⟨fun v hv => ?_, fun o j y1 y2 => by rw [k2 o j (by omega) (by omega) (by omega) (by omega) (by omega), p2 o j y1 y2], S2, k3, k4⟩, fun o j y1 y2 => k2 o j (by omega) (by omega) (by omega) (by omega) (by omega)⟩
      rcases List.mem_append.mp hv with hv | hv
      · exact p1 v hv
      · rw [List.mem_singleton.mp hv]
        refine ⟨vOf_len _ _, fun x hx => ?_⟩
        unfold vOf at hx
        obtain ⟨k, hk, rfl⟩ := List.mem_map.mp hx
        exact (hm.2.2 k (hfull k (List.mem_range.mp hk))).2)
    h37 h43 ⟨fun v hv => absurd hv (by simp), fun _ _ _ _ => rfl, [], ⟨h58, by decide, fun i hi => absurd hi (Nat.not_lt_zero _)⟩, by rw [h60]; exact gIv_0 kk⟩
  obtain ⟨q1, q2, S, q3, q4⟩ := u4
  have z43 : G' 0 43 = 0 := by rw [q2 _ _ (by omega) (by omega)]; exact h43
  exact ⟨G', V, S, u1, q2, ⟨u6, fun v => ⟨fun hv => (u7 v hv).1, fun hv => u8 z43 v hv⟩⟩, u5, fun v hv => (u7 v hv).2, q3, q4⟩
end
end
section
/-! GATHERING of the reference: batch by batch -/
theorem countP_lt {α : Type} {p q : α → Bool} : ∀ (l : List α), (∀ x ∈ l, p x = true → q x = true) → (∃ x ∈ l, q x = true ∧ p x = false) → l.countP p < l.countP q
  | [], _, h => by
    obtain ⟨x, hx, _⟩ := h
    cases hx
  | y :: l, hs, h => by
    have hle : l.countP p ≤ l.countP q := List.countP_mono_left (fun x hx hp => hs x (List.mem_cons_of_mem _ hx) hp)
    by_cases cy : q y = true ∧ p y = false
    · rw [List.countP_cons_of_neg (by rw [cy.2]; decide), List.countP_cons_of_pos cy.1]
      omega
    · have h' : ∃ x ∈ l, q x = true ∧ p x = false := by
        obtain ⟨x, hx, hx2⟩ := h
        rcases List.mem_cons.mp hx with e | e
        · rw [e] at hx2; exact absurd hx2 cy
        · exact ⟨x, e, hx2⟩
      have := countP_lt l (fun x hx => hs x (List.mem_cons_of_mem _ hx)) h'
      by_cases cp : p y = true
      · rw [List.countP_cons_of_pos cp, List.countP_cons_of_pos (hs y List.mem_cons_self cp)]
        omega
      · rw [List.countP_cons_of_neg cp]
        by_cases cq : q y = true
        · rw [List.countP_cons_of_pos cq]; omega
        · rw [List.countP_cons_of_neg cq]; omega
def xG3 (G G' : xG_) : Prop := ∀ o j, ¬ (o = 0 ∧ (j = 43 ∨ j = 47)) → ¬ (112 ≤ o ∧ o ≤ 115) → G' o j = G o j
section
variable {f n : Nat} {a : Int} {r15 : Int → xG_ → Option (Int × xG_)} {S : List pRw}
theorem l_288_83 {G : xG_} (hf : 10 < f) (h : rGr G n S) : ∃ G', g288_83 r15 f a G = r15 a G' ∧ G' 0 59 = 1 ∧ (S ≠ [] → ∀ k, k < 4 → G' 121 k = (S.getD (S.length - 1) dRw).1.getD k 0) ∧ ∀ o j, ¬ (o = 0 ∧ j = 59) → o ≠ 121 → G' o j = G o j := by
  have hl := h.2.1
  have loop : ∀ (d k fu : Nat) (Z : xG_), k + d = 4 → d < fu → rGr Z n S → (S ≠ [] → ∀ j, j < k → Z 121 j = (S.getD (S.length - 1) dRw).1.getD j 0) → ∃ G', g288_85 r15 f fu a (k : Int) Z = r15 a G' ∧ G' 0 59 = 1 ∧ (S ≠ [] → ∀ k, k < 4 → G' 121 k = (S.getD (S.length - 1) dRw).1.getD k 0) ∧ ∀ o j, ¬ (o = 0 ∧ j = 59) → o ≠ 121 → G' o j = Z o j := by
    intro d
    induction d with
    | zero =>
      intro k fu Z h1 h2 hZ h3
      obtain ⟨fu, rfl⟩ : ∃ t, fu = t + 1 := ⟨fu - 1, by omega⟩
      refine ⟨xup2 Z 0 59 1, ?_, xup2_s _ _ _ _, fun hS j hj => by rw [xup2_n (by omega)]; exact h3 hS j (by omega), fun o j y1 y2 => xup2_n y1⟩
      show g288_85b r15 (g288_85 r15 f fu) f _ _ _ = _
      unfold g288_85b g288_124
      rw [if_pos (by omega)]
      rfl
    | succ d ih =>
      intro k fu Z h1 h2 hZ h3
      obtain ⟨fu, rfl⟩ : ∃ t, fu = t + 1 := ⟨fu - 1, by omega⟩
      by_cases cS : S = []
      · have h58 : Z 0 58 = 0 := by rw [hZ.1, cS]; rfl
        refine ⟨xup2 Z 0 59 1, ?_, xup2_s _ _ _ _, fun hS => absurd cS hS, fun o j y1 y2 => xup2_n y1⟩
        show g288_85b r15 (g288_85 r15 f fu) f _ _ _ = _
        unfold g288_85b g288_124
        rw [if_neg (by omega), h58, if_pos (by decide)]
        rfl
      · have hp : 0 < S.length := List.length_pos_iff.mpr cS
        have e1 : xwr ((S.length : Int) - 1) = ((S.length - 1 : Nat) : Int) := by rw [xwr_g _ (by omega) (by omega)]; omega
        have e2 : xwr (xwr (4 * ((S.length - 1 : Nat) : Int)) + (k : Int)) = ((4 * (S.length - 1) + k : Nat) : Int) := by
          rw [xwr_g (4 * ((S.length - 1 : Nat) : Int)) (by omega) (by omega), xwr_g _ (by omega) (by omega)]; omega
        have e3 : xwr ((k : Int) + 1) = ((k + 1 : Nat) : Int) := by rw [xwr_g _ (by omega) (by omega)]; omega
        obtain ⟨q1, q2, q3⟩ := hZ.2.2 (S.length - 1) (by omega)
        obtain ⟨G', u1, u2, u3, u4⟩ := ih (k + 1) fu (xup2 Z 121 k ((S.getD (S.length - 1) dRw).1.getD k 0)) (by omega) (by omega) ⟨by rw [xup2_n (by omega)]; exact hZ.1, hl, fun i hi => by
          obtain ⟨w1, w2, w3⟩ := hZ.2.2 i hi
          exact ⟨w1, fun j hj => by rw [xup2_n (by omega)]; exact w2 j hj, by rw [xup2_n (by omega)]; exact w3⟩⟩ (fun hS j hj => by
          by_cases cj : j = k
          · rw [cj, xup2_s]
          · rw [xup2_n (by omega)]; exact h3 hS j (by omega))
        refine ⟨G', ?_, u2, u3, fun o j y1 y2 => by rw [u4 o j y1 y2, xup2_n (by omega)]⟩
        rw [← u1]
        show g288_85b r15 (g288_85 r15 f fu) f _ _ _ = _
        unfold g288_85b
        rw [if_neg (by omega), hZ.1, if_neg (by omega), e1, e2, if_pos (by omega), if_pos (by omega), Int.toNat_natCast, Int.toNat_natCast, q2 k (by omega), Option.bind_some, e3]
  exact loop 4 0 f G (by omega) (by omega) h (fun _ j hj => absurd hj (by omega))
variable {kk : Int} {gA : Nat} {G0 : xG_} {Q : (List Int → Prop) → xG_ → Prop} {Stop : List Int → Prop}
theorem l_288_51 (hQ : ∀ D Z Z', Q D Z → Z' 0 43 = Z 0 43 → Z' 0 47 = Z 0 47 → (∀ b j, 113 ≤ b → b ≤ 115 → Z' b j = Z b j) → Q D Z')
    (hG : ∀ D Z i S, xE G0 Z → Z 0 43 = 0 → rGr Z n S → i < S.length → Q D Z → (gRo kk gA (S.getD i dRw).1 (S.getD i dRw).2 = none → g289 f (i : Int) a Z = some (0, Z)) ∧ (∀ zs, gRo kk gA (S.getD i dRw).1 (S.getD i dRw).2 = some zs → (∃ Z', g289 f (i : Int) a Z = some (0, Z') ∧ Q (fun z => D z ∨ z = zs) Z' ∧ xG3 Z Z') ∨ (∃ Z', g289 f (i : Int) a Z = some (1, Z') ∧ Stop zs ∧ xG3 Z Z'))) :
    ∀ (d i fu : Nat) (Z : xG_) (D : List Int → Prop), i + d = S.length → d < fu → xE G0 Z → rGr Z n S → Q D Z →
      (∃ Z', g288_51 r15 f fu a (i : Int) Z = some (1, Z') ∧ (∃ j zs, j < S.length ∧ gRo kk gA (S.getD j dRw).1 (S.getD j dRw).2 = some zs ∧ Stop zs) ∧ xG3 Z Z') ∨ (∃ Z' D', g288_51 r15 f fu a (i : Int) Z = g288_83 r15 f a Z' ∧ xG3 Z Z' ∧ Q D' Z' ∧ (∀ z, D' z → D z ∨ ∃ j, i ≤ j ∧ j < S.length ∧ gRo kk gA (S.getD j dRw).1 (S.getD j dRw).2 = some z) ∧ (Z' 0 43 = 0 → ∀ z, (D z ∨ ∃ j, i ≤ j ∧ j < S.length ∧ gRo kk gA (S.getD j dRw).1 (S.getD j dRw).2 = some z) → D' z)) := by
  intro d
  induction d with
  | zero =>
    intro i fu Z D h1 h2 hE hS hD
    obtain ⟨fu, rfl⟩ : ∃ t, fu = t + 1 := ⟨fu - 1, by omega⟩
    refine .inr ⟨Z, D, ?_, fun _ _ _ _ => rfl, hD, fun z hz => .inl hz, fun _ z hz => hz.elim id (fun ⟨j, j1, j2, _⟩ => by omega)⟩
    show g288_51b r15 (g288_51 r15 f fu) f _ _ _ = _
    unfold g288_51b
    rw [hS.1, if_pos (by omega)]
  | succ d ih =>
    intro i fu Z D h1 h2 hE hS hD
    obtain ⟨fu, rfl⟩ : ∃ t, fu = t + 1 := ⟨fu - 1, by omega⟩
    have hl := hS.2.1
    have e3 : xwr ((i : Int) + 1) = ((i + 1 : Nat) : Int) := by rw [xwr_g _ (by omega) (by omega)]; omega
    by_cases c43 : Z 0 43 = 0
    · have n43 : ¬ ¬ Z 0 43 = 0 := fun q => q c43
      obtain ⟨g1, g2⟩ := hG D Z i S hE c43 hS (by omega) hD
      have step : ∀ b Z', g289 f (i : Int) a Z = some (b, Z') → g288_51 r15 f (fu + 1) a (i : Int) Z = if b = 0 then g288_51 r15 f fu a ((i + 1 : Nat) : Int) Z' else some (1, Z') := fun b Z' he => by
        show g288_51b r15 (g288_51 r15 f fu) f _ _ _ = _
        unfold g288_51b
        rw [hS.1, if_neg (by omega), if_neg n43, he, Option.bind_some, e3]
      have cont : ∀ Z' D1, g289 f (i : Int) a Z = some (0, Z') → xG3 Z Z' → Q D1 Z' → (∀ z, D1 z ↔ D z ∨ gRo kk gA (S.getD i dRw).1 (S.getD i dRw).2 = some z) → ((∃ Z', g288_51 r15 f (fu + 1) a (i : Int) Z = some (1, Z') ∧ (∃ j zs, j < S.length ∧ gRo kk gA (S.getD j dRw).1 (S.getD j dRw).2 = some zs ∧ Stop zs) ∧ xG3 Z Z') ∨ (∃ Z' D', g288_51 r15 f (fu + 1) a (i : Int) Z = g288_83 r15 f a Z' ∧ xG3 Z Z' ∧ Q D' Z' ∧ (∀ z, D' z → D z ∨ ∃ j, i ≤ j ∧ j < S.length ∧ gRo kk gA (S.getD j dRw).1 (S.getD j dRw).2 = some z) ∧ (Z' 0 43 = 0 → ∀ z, (D z ∨ ∃ j, i ≤ j ∧ j < S.length ∧ gRo kk gA (S.getD j dRw).1 (S.getD j dRw).2 = some z) → D' z))) := fun Z' D1 he hx hD1 hiff => by
        have hS' : rGr Z' n S := ⟨by rw [hx _ _ (by omega) (by omega)]; exact hS.1, hl, fun k hk => by
          obtain ⟨w1, w2, w3⟩ := hS.2.2 k hk
          exact ⟨w1, fun j hj => by rw [hx _ _ (by omega) (by omega)]; exact w2 j hj, by rw [hx _ _ (by omega) (by omega)]; exact w3⟩⟩
        have := ih (i + 1) fu Z' D1 (by omega) (by omega) (fun o j y1 y2 => by rw [hx o j (by omega) (by omega), hE o j y1 y2]) hS' hD1
        have st := step 0 Z' he
        rw [if_pos rfl] at st
        rw [← st] at this
        rcases this with ⟨Z2, u1, u2, u3⟩ | ⟨Z2, D2, u1, u2, u3, u4, u5⟩
        · exact .inl ⟨Z2, u1, u2, fun o j y1 y2 => by rw [u3 o j y1 y2, hx o j y1 y2]⟩
        · refine .inr ⟨Z2, D2, u1, fun o j y1 y2 => by rw [u2 o j y1 y2, hx o j y1 y2], u3, fun z hz => ?_, fun h z hz => u5 h z ?_⟩
          · rcases u4 z hz with q | ⟨j, j1, j2, j3⟩
            · rcases (hiff z).mp q with q | q
              · exact .inl q
              · exact .inr ⟨i, Nat.le_refl _, by omega, q⟩
            · exact .inr ⟨j, by omega, j2, j3⟩
          · rcases hz with q | ⟨j, j1, j2, j3⟩
            · exact .inl ((hiff z).mpr (.inl q))
            · by_cases cj : j = i
              · rw [cj] at j3; exact .inl ((hiff z).mpr (.inr j3))
              · exact .inr ⟨j, by omega, j2, j3⟩
      cases hk : gRo kk gA (S.getD i dRw).1 (S.getD i dRw).2 with
      | none =>
        exact cont Z D (g1 hk) (fun _ _ _ _ => rfl) hD (fun z => ⟨.inl, fun q => q.elim id (fun q => by rw [hk] at q; cases q)⟩)
      | some zs =>
        rcases g2 zs hk with ⟨Z', k1, k2, k3⟩ | ⟨Z', k1, k2, k3⟩
        · exact cont Z' _ k1 k3 k2 (fun z => by
            rw [hk]
            constructor
            · rintro (q | q)
              · exact .inl q
              · rw [q]; exact .inr rfl
            · rintro (q | q)
              · exact .inl q
              · injection q with q; exact .inr q.symm)
        · refine .inl ⟨Z', ?_, ⟨i, zs, by omega, hk, k2⟩, k3⟩
          rw [step 1 Z' k1, if_neg (by decide)]
    · refine .inr ⟨Z, D, ?_, fun _ _ _ _ => rfl, hD, fun z hz => .inl hz, fun h => absurd h c43⟩
      show g288_51b r15 (g288_51 r15 f fu) f _ _ _ = _
      unfold g288_51b
      rw [hS.1, if_neg (by omega), if_pos c43]
end
section
variable {f nv np r c : Nat} {a : Int} {l : List pLt} {I : List pCd} {gA : Nat} {kk gO : Int} {N : Nat → Nat} {R : Nat → List pRw} {K : Nat → Nat} {G0 : xG_} {Q : (List Int → Prop) → xG_ → Prop} {Stop : List Int → Prop}
theorem l_288_15 (hf : 6300 < f) (hr : r < 25) (hnv : nv ≤ 8) (hnp : np ≤ 16) (hc : c ≤ 6200) (hat : pAtoms l ≤ 3) (hw : ∀ y ∈ l, wLt np nv y ∧ (y.1 ≠ 3 → 0 ≤ y.2.1)) (hsafe : ∀ k, k < nv → (qBd l).testBit k = true) (hg : rGt G0 r c nv l I gA kk gO)
    (hwI : ∀ k, k < I.length → (k : Int) ≠ (gA : Int) → wEx nv (I.getD k [])) (hgA : gA < I.length) (hkk : kk = 1 ∨ kk = 2 ∨ kk = 3 ∨ kk = 4) (hO : kk ≠ 1 → 0 ≤ gO ∧ gO < nv) (h38 : G0 0 38 = 2) (h39 : G0 0 39 = (r : Int)) (h40 : G0 0 40 = -1) (hT : rTb G0 np N R) (hR : ∀ p, p < np → (R p).length ≤ 100 ∧ ∀ w ∈ R p, ∀ x ∈ w.1, vOk x)
    (hQ : ∀ D Z Z', Q D Z → Z' 0 43 = Z 0 43 → Z' 0 47 = Z 0 47 → (∀ b j, 113 ≤ b → b ≤ 115 → Z' b j = Z b j) → Q D Z')
    (hG : ∀ D Z i S, xE G0 Z → Z 0 43 = 0 → rGr Z I.length S → i < S.length → Q D Z → (gRo kk gA (S.getD i dRw).1 (S.getD i dRw).2 = none → g289 f (i : Int) a Z = some (0, Z)) ∧ (∀ zs, gRo kk gA (S.getD i dRw).1 (S.getD i dRw).2 = some zs → (∃ Z', g289 f (i : Int) a Z = some (0, Z') ∧ Q (fun z => D z ∨ z = zs) Z' ∧ xG3 Z Z') ∨ (∃ Z', g289 f (i : Int) a Z = some (1, Z') ∧ Stop zs ∧ xG3 Z Z'))) :
    ∀ (d fu : Nat) (last : Option (List Int)) (Z : xG_) (D : List Int → Prop), (Z 0 60 = 1 → ∀ V, isAll l nv R (qOp K (-1) 0) V → V.countP (fun v => (gKy kk gO I (gA : Int) last (vF v)).isSome) ≤ d) → d + 1 < fu → xE G0 Z → (Z 0 60 = 1 → rLa Z I.length last) → (Z 0 60 = 0 ∨ Z 0 60 = 1) → Q D Z → (∀ zs, D zs → ∃ xs, gDs l nv R (qOp K (-1) 0) kk gO I gA xs zs) → (Z 0 43 = 0 → ∀ xs zs, gDs l nv R (qOp K (-1) 0) kk gO I gA xs zs → (Z 0 60 = 0 ∨ gLa last xs = none) → D zs) →
      ∃ Z' b, g288_15 f fu a Z = some (b, Z') ∧ xE G0 Z' ∧ ((b = 0 ∧ ∃ D', Q D' Z' ∧ (∀ zs, D' zs → ∃ xs, gDs l nv R (qOp K (-1) 0) kk gO I gA xs zs) ∧ (Z' 0 43 = 0 → ∀ xs zs, gDs l nv R (qOp K (-1) 0) kk gO I gA xs zs → D' zs)) ∨ (b = 1 ∧ ∃ xs zs, gDs l nv R (qOp K (-1) 0) kk gO I gA xs zs ∧ Stop zs)) := by
  intro d
  induction d using Nat.strongRecOn with
  | _ d ih =>
    intro fu last Z D h1 h2 hE hla h60 hD hsub hdone
    obtain ⟨fu, rfl⟩ : ∃ t, fu = t + 1 := ⟨fu - 1, by omega⟩
    by_cases c60 : Z 0 60 = 0
    · refine ⟨Z, 0, ?_, hE, .inl ⟨rfl, D, hD, hsub, fun h xs zs hz => hdone h xs zs hz (.inl c60)⟩⟩
      show g288_15b (g288_15 f fu) f _ _ = _
      unfold g288_15b g288_132
      rw [if_pos c60]
    · by_cases c43 : Z 0 43 = 0
      · have m1 : Z 0 60 = 1 := h60.resolve_left c60
        have n43 : ¬ ¬ Z 0 43 = 0 := fun q => q c43
        let Z1 := xup2 (xup2 (xup2 Z 0 60 0) 0 58 0) 0 37 0
        have z1 : ∀ o j, ¬ (o = 0 ∧ (j = 37 ∨ j = 58 ∨ j = 60)) → Z1 o j = Z o j := fun o j h => by
          show xup2 _ _ _ _ _ _ = _
          rw [xup2_n (by omega), xup2_n (by omega), xup2_n (by omega)]
        have z37 : Z1 0 37 = 0 := xup2_s _ _ _ _
        have z58 : Z1 0 58 = 0 := by show xup2 _ _ _ _ _ _ = _; rw [xup2_n (by omega), xup2_s]
        have z60 : Z1 0 60 = 0 := by show xup2 _ _ _ _ _ _ = _; rw [xup2_n (by omega), xup2_n (by omega), xup2_s]
        have e1 : g288_15 f (fu + 1) a Z = (g275 f 0 Z1).bind fun R135 => g288_51 (g288_15 f fu) f f a 0 R135 := by
          show g288_15b (g288_15 f fu) f _ _ = _
          unfold g288_15b
          rw [if_neg c60, if_neg n43]
          rfl
        have env : ∀ o j, 2 ≤ o → o ≤ 109 → Z1 o j = G0 o j := fun o j _ _ => by rw [z1 o j (by omega), hE o j (by omega) (by omega)]
        have env0 : ∀ j, 38 ≤ j → j ≤ 41 → Z1 0 j = G0 0 j := fun j _ _ => by rw [z1 0 j (by omega), hE 0 j (by omega) (by omega)]
        obtain ⟨g1, g2, g3, g4⟩ := hg
        obtain ⟨Z2, V, S, k1, k2, k3, k4, k5, k6, k7⟩ := l_ps (f := f) (K := K) (last := last) (G := Z1) hf hr hnv hnp hc hat hw hsafe ⟨g1.v (fun o j _ _ => env o j (by omega) (by omega)), g2.v (fun o j _ _ => env o j (by omega) (by omega)), by rw [env _ _ (by omega) (by omega)]; exact g3, by rw [env _ _ (by omega) (by omega)]; exact g4⟩ hwI hgA hkk hO (by rw [env0 _ (by omega) (by omega)]; exact h38) (by rw [env0 _ (by omega) (by omega)]; exact h39) (by rw [env0 _ (by omega) (by omega)]; exact h40) (hT.ge (fun o j _ _ => env o j (by omega) (by omega))) hR z37 (by rw [z1 _ _ (by omega)]; exact c43) z58 z60 ((hla m1).ge (z1 _ _ (by omega)) (fun k => z1 _ _ (by omega)))
        have hE2 : xE G0 Z2 := fun o j y1 y2 => by rw [k2 o j (by omega) (by omega), z1 o j (by omega), hE o j y1 y2]
        have hD2 : Q D Z2 := hQ D Z Z2 hD (by rw [k2 _ _ (by omega) (by omega), z1 _ _ (by omega)]) (by rw [k2 _ _ (by omega) (by omega), z1 _ _ (by omega)]) (fun b j _ _ => by rw [k2 _ _ (by omega) (by omega), z1 _ _ (by omega)])
        obtain ⟨v1, v2, v3, v4, v5, v6⟩ := k7
        -- a group of S is a group of all WAYS
        have grp : ∀ y, y ∈ S → gLa last y.1 = some y.1 ∧ ∀ zs, gRo kk gA y.1 y.2 = some zs → gDs l nv R (qOp K (-1) 0) kk gO I gA y.1 zs := fun y hy => by
          obtain ⟨w1, w2⟩ := v4 y hy
          obtain ⟨v, w3, w4⟩ := gVs_ne w1
          have w5 := (gKy_iff.mp w4).2
          refine ⟨w5, fun zs hz => ⟨V, k3, ?_, ?_⟩⟩
          · rw [← gVs_la w5]; exact w1
          · rw [← gVs_la w5, ← w2]; exact hz
        have hdone' : ∀ D' : List Int → Prop, (∀ z, (D z ∨ ∃ j, 0 ≤ j ∧ j < S.length ∧ gRo kk gA (S.getD j dRw).1 (S.getD j dRw).2 = some z) → D' z) → ∀ xs zs, gDs l nv R (qOp K (-1) 0) kk gO I gA xs zs → D' zs ∨ (Z2 0 60 = 1 ∧ S.length = 1024 ∧ ∀ y ∈ S, vLt y.1 xs) := fun D' hD' xs zs hz => by
          rcases gLa_in last xs with e | e
          · obtain ⟨w1, w2⟩ := gDs_of k3 hz
            obtain ⟨v, w3, w4⟩ := gVs_ne w1
            rcases v5 v w3 xs (gKy_iff.mpr ⟨w4, e⟩) with ⟨w, hw⟩ | q
            · obtain ⟨j, hj, ej⟩ := mem_get.mp hw
              refine .inl (hD' zs (.inr ⟨j, Nat.zero_le _, hj, ?_⟩))
              rw [ej]
              show gRo kk gA xs w = some zs
              have w5 := (v4 _ hw).2
              have w6 : w = gAg kk (gVs (fun v : List Int => gKy kk gO I (gA : Int) last (vF v)) (fun v => gXv kk gO (vF v)) V xs) := w5
              rw [w6, gVs_la e]
              exact w2
            · exact .inr q
          · exact .inl (hD' zs (.inl (hdone c43 xs zs hz (.inr e))))
        rw [e1, k1, Option.bind_some]
        have L51 := l_288_51 (f := f) (n := I.length) (a := a) (r15 := g288_15 f fu) (S := S) (kk := kk) (gA := gA) (G0 := G0) (Q := Q) (Stop := Stop) hQ hG S.length 0 f Z2 D (by omega) (by omega) hE2 k6 hD2
        rcases L51 with ⟨Z3, u1, ⟨j, zs, u2, u3, u4⟩, u5⟩ | ⟨Z3, D3, u1, u2, u3, u4, u5⟩
        · have u1' : g288_51 (g288_15 f fu) f f a 0 Z2 = some (1, Z3) := u1
          refine ⟨Z3, 1, u1', fun o j y1 y2 => by rw [u5 o j (by omega) (by omega), hE2 o j y1 y2], .inr ⟨rfl, (S.getD j dRw).1, zs, (grp _ (mem_get.mpr ⟨j, u2, rfl⟩)).2 zs u3, u4⟩⟩
        · have u1' : g288_51 (g288_15 f fu) f f a 0 Z2 = g288_83 (g288_15 f fu) f a Z3 := u1
          have hS3 : rGr Z3 I.length S := ⟨by rw [u2 _ _ (by omega) (by omega)]; exact k6.1, k6.2.1, fun k hk => by
            obtain ⟨w1, w2, w3⟩ := k6.2.2 k hk
            exact ⟨w1, fun j hj => by rw [u2 _ _ (by omega) (by omega)]; exact w2 j hj, by rw [u2 _ _ (by omega) (by omega)]; exact w3⟩⟩
          obtain ⟨Z4, t1, t2, t3, t4⟩ := l_288_83 (f := f) (a := a) (r15 := g288_15 f fu) (by omega) hS3
          rw [u1', t1]
          have h60' : Z4 0 60 = Z2 0 60 := by rw [t4 _ _ (by omega) (by omega), u2 _ _ (by omega) (by omega)]
          have h43' : Z4 0 43 = Z3 0 43 := t4 _ _ (by omega) (by omega)
          have hE4 : xE G0 Z4 := fun o j y1 y2 => by rw [t4 o j (by omega) (by omega), u2 o j (by omega) (by omega), hE2 o j y1 y2]
          have hD4 : Q D3 Z4 := hQ D3 Z3 Z4 u3 h43' (t4 _ _ (by omega) (by omega)) (fun b j _ _ => t4 _ _ (by omega) (by omega))
          have hsub4 : ∀ zs, D3 zs → ∃ xs, gDs l nv R (qOp K (-1) 0) kk gO I gA xs zs := fun zs hz => by
            rcases u4 zs hz with q | ⟨j, _, j2, j3⟩
            · exact hsub zs q
            · exact ⟨(S.getD j dRw).1, (grp _ (mem_get.mpr ⟨j, j2, rfl⟩)).2 zs j3⟩
          rcases v3 with m0 | m0
          · -- no more
            obtain ⟨fu, rfl⟩ : ∃ t, fu = t + 1 := ⟨fu - 1, by omega⟩
            refine ⟨Z4, 0, ?_, hE4, .inl ⟨rfl, D3, hD4, hsub4, fun h xs zs hz => ?_⟩⟩
            · show g288_15b (g288_15 f fu) f _ _ = _
              unfold g288_15b g288_132
              rw [h60', if_pos m0]
            · rcases hdone' D3 (u5 (by rw [← h43']; exact h)) xs zs hz with q | ⟨q, _⟩
              · exact q
              · omega
          · have hS1024 := v6 m0
            have hne : S ≠ [] := fun q => by rw [q] at hS1024; cases hS1024
            have hlast : S.getD (S.length - 1) dRw ∈ S := mem_get.mpr ⟨S.length - 1, by omega, rfl⟩
            have hmax : ∀ y ∈ S, y = S.getD (S.length - 1) dRw ∨ vLt y.1 (S.getD (S.length - 1) dRw).1 := fun y hy => by
              obtain ⟨j, hj, ej⟩ := mem_get.mp hy
              by_cases cj : j = S.length - 1
              · rw [cj] at ej; exact .inl ej.symm
              · rw [← ej]
                exact .inr (srt_get (d := dRw) v1 (by omega) (by omega))
            have cnt : V.countP (fun v => (gKy kk gO I (gA : Int) (some (S.getD (S.length - 1) dRw).1) (vF v)).isSome) < V.countP (fun v => (gKy kk gO I (gA : Int) last (vF v)).isSome) := by
              refine countP_lt V (fun v hv hp => ?_) ?_
              · obtain ⟨xs, hx⟩ := Option.isSome_iff_exists.mp hp
                obtain ⟨x1, x2⟩ := gKy_iff.mp hx
                have x3 : vLt (S.getD (S.length - 1) dRw).1 xs := by
                  have x4 : (if fCmp (0, (S.getD (S.length - 1) dRw).1) (0, xs) < 0 then some xs else none) = some xs := x2
                  by_cases cc : fCmp (0, (S.getD (S.length - 1) dRw).1) (0, xs) < 0
                  · exact cc
                  · rw [if_neg cc] at x4; cases x4
                have x5 : gLa last xs = some xs := by
                  have x6 := (grp _ hlast).1
                  cases last with
                  | none => rfl
                  | some ys =>
                    have x7 : (if fCmp (0, ys) (0, (S.getD (S.length - 1) dRw).1) < 0 then some (S.getD (S.length - 1) dRw).1 else none) = some (S.getD (S.length - 1) dRw).1 := x6
                    have x8 : vLt ys (S.getD (S.length - 1) dRw).1 := by
                      by_cases cc : fCmp (0, ys) (0, (S.getD (S.length - 1) dRw).1) < 0
                      · exact cc
                      · rw [if_neg cc] at x7; cases x7
                    have x9 : fCmp (0, ys) (0, xs) < 0 := vLt_tr x8 x3
                    show (if fCmp (0, ys) (0, xs) < 0 then some xs else none) = some xs
                    rw [if_pos x9]
                exact Option.isSome_iff_exists.mpr ⟨xs, gKy_iff.mpr ⟨x1, x5⟩⟩
              · obtain ⟨w1, w2⟩ := v4 _ hlast
                obtain ⟨v, w3, w4⟩ := gVs_ne w1
                refine ⟨v, w3, Option.isSome_iff_exists.mpr ⟨_, w4⟩, ?_⟩
                have w5 := (gKy_iff.mp w4).1
                rw [gKy_la, w5, Option.bind_some]
                show (if fCmp (0, (S.getD (S.length - 1) dRw).1) (0, (S.getD (S.length - 1) dRw).1) < 0 then _ else _ : Option (List Int)).isSome = false
                rw [fCmp_self, if_neg (by decide)]
                rfl
            have hVd := h1 m1 V k3
            obtain ⟨Z5, b, s1, s2, s3⟩ := ih (d - 1) (by omega) fu (some (S.getD (S.length - 1) dRw).1) Z4 D3 (fun _ V' hV' => by
                have := (k3.perm hV').countP_eq (fun v => (gKy kk gO I (gA : Int) (some (S.getD (S.length - 1) dRw).1) (vF v)).isSome)
                omega) (by omega) hE4 (fun _ => ⟨t2, (hS3.2.2 _ (by omega)).1, fun k hk => t3 hne k (by have := (hS3.2.2 (S.length - 1) (by omega)).1; have := g2.2.1; omega)⟩) (.inr (by rw [h60']; exact m0)) hD4 hsub4 (fun h xs zs hz hor => by
                rcases hdone' D3 (u5 (by rw [← h43']; exact h)) xs zs hz with q | ⟨_, _, q⟩
                · exact q
                · rcases hor with ho | ho
                  · rw [h60', m0] at ho; omega
                  · exfalso
                    have x4 : (if fCmp (0, (S.getD (S.length - 1) dRw).1) (0, xs) < 0 then some xs else none) = none := ho
                    have x5 : fCmp (0, (S.getD (S.length - 1) dRw).1) (0, xs) < 0 := q _ hlast
                    rw [if_pos x5] at x4
                    cases x4)
            exact ⟨Z5, b, s1, s2, s3⟩
      · refine ⟨Z, 0, ?_, hE, .inl ⟨rfl, D, hD, hsub, fun h => absurd h c43⟩⟩
        show g288_15b (g288_15 f fu) f _ _ = _
        unfold g288_15b g288_132
        rw [if_neg c60, if_pos c43]
end
end
section
/-! Values of WAYS and of rows are values -/
theorem qEs_ok {v : Nat → Int} {nv : Nat} : ∀ (Q : pCd) (st st' : List Int), wC nv Q → (∀ k, (qVm Q).testBit k = true → vOk (v k)) → (∀ x ∈ st, vOk x) → qEs v Q st = some st' → ∀ x ∈ st', vOk x
  | [], st, st', _, _, h, e => by
    have : some st = some st' := e
    injection this with this
    rw [← this]
    exact h
  | y :: q, st, st', hw, hv, h, e => by
    have hq : ∀ k, (qVm q).testBit k = true → vOk (v k) := fun k hk => hv k (by
      show ((if y.1 = 2 then 2 ^ y.2.toNat else 0) ||| qVm q).testBit k = true
      rw [Nat.testBit_or, hk, Bool.or_true])
    have hwq : wC nv q := fun z hz => hw z (List.mem_cons_of_mem _ hz)
    unfold qEs at e
    by_cases c : y.1 = 3
    · rw [if_pos c] at e
      cases st with
      | nil => cases e
      | cons b st =>
        cases st with
        | nil => cases e
        | cons a st =>
          have e' : (qWk y.2 a b).bind (fun w => qEs v q (w :: st)) = some st' := e
          cases hk : qWk y.2 a b with
          | none => rw [hk] at e'; cases e'
          | some w =>
            rw [hk, Option.bind_some] at e'
            exact qEs_ok q _ _ hwq hq (fun x hx => by
              rcases List.mem_cons.mp hx with z | z
              · rw [z]; exact qWk_ok hk
              · exact h x (List.mem_cons_of_mem _ (List.mem_cons_of_mem _ z))) e'
    · rw [if_neg c] at e
      refine qEs_ok q _ _ hwq hq (fun x hx => ?_) e
      rcases List.mem_cons.mp hx with z | z
      · rw [z]
        by_cases c1 : y.1 = 1
        · rw [if_pos c1]
          rcases hw y List.mem_cons_self with u | u | u
          · exact u.2
          · omega
          · omega
        · have c2 : y.1 = 2 := by
            rcases hw y List.mem_cons_self with u | u | u
            · exact absurd u.1 c1
            · exact u.1
            · exact absurd u.1 c
          rw [if_neg c1]
          exact hv _ (by
            show ((if y.1 = 2 then 2 ^ y.2.toNat else 0) ||| qVm q).testBit y.2.toNat = true
            rw [if_pos c2, Nat.testBit_or, Nat.testBit_two_pow_self, Bool.true_or])
      · exact h x z
theorem qEv_ok {v : Nat → Int} {nv : Nat} {Q : pCd} {w : Int} (hw : wC nv Q) (hv : ∀ k, (qVm Q).testBit k = true → vOk (v k)) (h : qEv v Q = some w) : vOk w := by
  unfold qEv at h
  cases he : qEs v Q [] with
  | none => rw [he] at h; cases h
  | some st =>
    rw [he, Option.bind_some] at h
    cases st with
    | nil => cases h
    | cons x st =>
      have : some x = some w := h
      injection this with this
      rw [← this]
      exact qEs_ok Q _ _ hw hv (fun x hx => absurd hx (by simp)) he x List.mem_cons_self
theorem isW_ok {l : List pLt} {nv np : Nat} {R : Nat → List pRw} {op : Nat → pRw → Prop} {v : List Int} (hnv : nv ≤ 8) (hw : ∀ y ∈ l, wLt np nv y ∧ (y.1 ≠ 3 → 0 ≤ y.2.1)) (hsafe : ∀ k, k < nv → (qBd l).testBit k = true) (hR : ∀ p, p < np → ∀ w ∈ R p, ∀ x ∈ w.1, vOk x) (h : isW l nv R op v) : ∀ x ∈ v, vOk x := by
  obtain ⟨h1, h2, h3⟩ := h
  have sub : ∀ (l' : List pLt), (∀ y ∈ l', y ∈ l) → ∀ k, (qA l').testBit k = true → vOk (vF v k) := by
    intro l'
    induction l' with
    | nil =>
      intro _ k hk
      have : (0 : Nat).testBit k = true := hk
      rw [Nat.zero_testBit] at this
      cases this
    | cons y l' ih =>
      intro hl k hk
      have hk' : ((if y.1 = 1 then qT y.2.2.2.1 else 0) ||| qA l').testBit k = true := hk
      rw [Nat.testBit_or, Bool.or_eq_true] at hk'
      rcases hk' with hk' | hk'
      · by_cases c : y.1 = 1
        · rw [if_pos c] at hk'
          obtain ⟨j, j1, j2, j3⟩ := qT_get.mp hk'
          have hy := hl y List.mem_cons_self
          obtain ⟨w, w1, w2, w3⟩ := h2 y hy c
          have e := (w3 j j1).1 j2
          rw [j3] at e
          rw [e]
          by_cases cj : j < w.1.length
          · rw [getD_e cj]
            refine hR _ ?_ w w1 _ (List.getElem_mem cj)
            rcases (hw y hy).1 with z | z
            · have := (hw y hy).2 (by omega)
              omega
            · omega
          · rw [List.getD_eq_getElem?_getD, List.getElem?_eq_none (by omega)]
            exact vOk_0
        · rw [if_neg c, Nat.zero_testBit] at hk'
          cases hk'
      · exact ih (fun z hz => hl z (List.mem_cons_of_mem _ hz)) k hk'
  have s1 : ∀ y ∈ l, ∀ s, (∀ k, s.testBit k = true → vOk (vF v k)) → ∀ k, (qS1 y s).testBit k = true → vOk (vF v k) := by
    intro y hy s hs k hk
    unfold qS1 at hk
    by_cases c : y.1 = 3 ∧ y.2.1 = 61
    · rw [if_pos c] at hk
      have hwy : wEx nv y.2.2.2.2.1 ∧ wEx nv y.2.2.2.2.2 := by
        rcases (hw y hy).1 with z | z
        · omega
        · exact z.2.2
      obtain ⟨z, z1, z2⟩ := sCm_eq ((h3 y hy).2 c.1) c.2
      have lft : ∀ k, (qL1 y s).testBit k = true → vOk (vF v k) := fun k hk => by
        unfold qL1 at hk
        by_cases c1 : qAl2 y.2.2.2.2.1 ∧ qSub (qVm y.2.2.2.2.2) s
        · rw [if_pos c1, Nat.testBit_or, Bool.or_eq_true] at hk
          rcases hk with hk | hk
          · exact hs k hk
          · obtain ⟨x, x1, x2⟩ := qAl_is hwy.1.1 c1.1
            rw [x2] at hk z1
            have hk' : ((if (2 : Int) = 2 then 2 ^ ((x : Int)).toNat else 0) ||| 0).testBit k = true := hk
            rw [if_pos rfl, Int.toNat_natCast, Nat.or_zero, Nat.testBit_two_pow] at hk'
            have hk2 := of_decide_eq_true hk'
            have z1' : some (vF v x) = some z := z1
            injection z1' with z1'
            rw [← hk2, z1']
            exact qEv_ok hwy.2.1 (fun j hj => hs j (qSub_t.mp c1.2 j hj)) z2
        · rw [if_neg c1] at hk
          exact hs k hk
      unfold qR1 at hk
      by_cases c1 : qAl2 y.2.2.2.2.2 ∧ qSub (qVm y.2.2.2.2.1) (qL1 y s)
      · rw [if_pos c1, Nat.testBit_or, Bool.or_eq_true] at hk
        rcases hk with hk | hk
        · exact lft k hk
        · obtain ⟨x, x1, x2⟩ := qAl_is hwy.2.1 c1.1
          rw [x2] at hk z2
          have hk' : ((if (2 : Int) = 2 then 2 ^ ((x : Int)).toNat else 0) ||| 0).testBit k = true := hk
          rw [if_pos rfl, Int.toNat_natCast, Nat.or_zero, Nat.testBit_two_pow] at hk'
          have hk2 := of_decide_eq_true hk'
          have z2' : some (vF v x) = some z := z2
          injection z2' with z2'
          rw [← hk2, z2']
          exact qEv_ok hwy.1.1 (fun j hj => lft j (qSub_t.mp c1.2 j hj)) z1
      · rw [if_neg c1] at hk
        exact lft k hk
    · rw [if_neg c] at hk
      exact hs k hk
  have st : ∀ (l' : List pLt), (∀ y ∈ l', y ∈ l) → ∀ s, (∀ k, s.testBit k = true → vOk (vF v k)) → ∀ k, (qSt l' s).testBit k = true → vOk (vF v k) := by
    intro l'
    induction l' with
    | nil => exact fun _ s hs => hs
    | cons y l' ih => exact fun hl s hs => ih (fun z hz => hl z (List.mem_cons_of_mem _ hz)) _ (s1 y (hl y List.mem_cons_self) s hs)
  have it : ∀ (n s : Nat), (∀ k, s.testBit k = true → vOk (vF v k)) → ∀ k, (qIt l n s).testBit k = true → vOk (vF v k) := by
    intro n
    induction n with
    | zero => exact fun s hs => hs
    | succ n ih =>
      intro s hs k hk
      unfold qIt at hk
      by_cases c : qSt l s = s
      · rw [if_pos c] at hk; exact hs k hk
      · rw [if_neg c] at hk
        exact ih _ (st l (fun _ h => h) s hs) k hk
  intro x hx
  obtain ⟨k, hk, rfl⟩ := List.getElem_of_mem hx
  have := it 256 (qA l) (sub l (fun _ h => h)) k (hsafe k (by omega))
  unfold vF at this
  rw [getD_e hk] at this
  exact this
theorem qMk_ok {I : List pCd} {g : Int} {nv : Nat} {v : Nat → Int} (hw : ∀ k, k < I.length → (k : Int) ≠ g → wEx nv (I.getD k [])) (hv : ∀ k, k < nv → vOk (v k)) : ∀ (k : Nat) (xs : List Int), k ≤ I.length → qMk I g v k = some xs → ∀ x ∈ xs, vOk x
  | 0, xs, _, h => by
    have : some [] = some xs := h
    injection this with this
    rw [← this]
    exact fun x hx => absurd hx (by simp)
  | k + 1, xs, hk, h => by
    have h' : ((qMk I g v k).bind fun xs => if (k : Int) = g then some (xs ++ [0]) else (qEv v (I.getD k [])).bind fun z => some (xs ++ [z])) = some xs := h
    cases hq : qMk I g v k with
    | none => rw [hq] at h'; cases h'
    | some ys =>
      rw [hq, Option.bind_some] at h'
      have ih := qMk_ok hw hv k ys (by omega) hq
      have app : ∀ z, vOk z → ∀ x ∈ ys ++ [z], vOk x := fun z hz x hx => by
        rcases List.mem_append.mp hx with u | u
        · exact ih x u
        · rw [List.mem_singleton.mp u]; exact hz
      by_cases c : (k : Int) = g
      · rw [if_pos c] at h'
        injection h' with h'
        rw [← h']
        exact app 0 vOk_0
      · rw [if_neg c] at h'
        have hq := (hw k (by omega) c).1
        cases he : qEv v (I.getD k []) with
        | none => rw [he] at h'; cases h'
        | some z =>
          rw [he, Option.bind_some] at h'
          injection h' with h'
          rw [← h']
          exact app z (qEv_ok hq (fun j hj => hv j (qVm_in hq j hj)) he)
/-- the least and the most are values of the group; a count is no more than all -/
theorem gAg_in {kk : Int} (hkk : kk = 3 ∨ kk = 4) : ∀ (l : List Int), l ≠ [] → gAg kk l ∈ l := by
  have key : ∀ (l : List Int) (a : Int), l.foldl (qCo kk) a = a ∨ l.foldl (qCo kk) a ∈ l := by
    intro l
    induction l with
    | nil => exact fun a => .inl rfl
    | cons x l ih =>
      intro a
      have h : qCo kk a x = a ∨ qCo kk a x = x := by
        unfold qCo
        rcases hkk with k | k
        · rw [if_neg (by omega), if_pos k]; split <;> omega
        · rw [if_neg (by omega), if_neg (by omega)]; split <;> omega
      show l.foldl (qCo kk) (qCo kk a x) = a ∨ l.foldl (qCo kk) (qCo kk a x) ∈ x :: l
      rcases ih (qCo kk a x) with q | q
      · rw [q]
        rcases h with h | h
        · exact .inl h
        · rw [h]; exact .inr List.mem_cons_self
      · exact .inr (List.mem_cons_of_mem _ q)
  intro l hl
  cases l with
  | nil => exact absurd rfl hl
  | cons x l =>
    rcases key l x with q | q
    · show l.foldl (qCo kk) x ∈ _
      rw [q]; exact List.mem_cons_self
    · exact List.mem_cons_of_mem _ q
theorem gAg_one : ∀ (l : List Int), (∀ x ∈ l, x = 1) → gAg 1 l = (l.length : Int)
  | [], _ => rfl
  | x :: l, h => by
    have key : ∀ (l : List Int) (a : Int), (∀ x ∈ l, x = 1) → l.foldl (qCo 1) a = a + (l.length : Int) := by
      intro l
      induction l with
      | nil => intro a _; show a = a + 0; omega
      | cons y l ih =>
        intro a h
        show l.foldl (qCo 1) (qCo 1 a y) = _
        rw [ih _ (fun z hz => h z (List.mem_cons_of_mem _ hz)), h y List.mem_cons_self]
        unfold qCo
        rw [if_pos (Or.inl rfl), List.length_cons]
        omega
    show l.foldl (qCo 1) x = _
    rw [key l x (fun z hz => h z (List.mem_cons_of_mem _ hz)), h x List.mem_cons_self, List.length_cons]
    omega
end
section
/-! GATHERING of the reference: the rows of groups -/
theorem getD_st {xs : List Int} {g j : Nat} {v : Int} (hg : g < xs.length) : (xs.set g v).getD j 0 = if j = g then v else xs.getD j 0 := getD_set hg
theorem gRo_len {kk : Int} {gA : Nat} {xs zs : List Int} {a : Int} (h : gRo kk gA xs a = some zs) : zs = xs.set gA a ∧ ¬ (kk = 2 ∧ (1000000000000 < a ∨ a < -1000000000000)) := by
  unfold gRo at h
  by_cases c : kk = 2 ∧ (1000000000000 < a ∨ a < -1000000000000)
  · rw [if_pos c] at h; cases h
  · rw [if_neg c] at h
    injection h with h
    exact ⟨h.symm, c⟩
theorem gDs_ok {l : List pLt} {nv np : Nat} {R : Nat → List pRw} {op : Nat → pRw → Prop} {kk gO : Int} {I : List pCd} {gA : Nat} {xs zs : List Int} (hnv : nv ≤ 8) (hw : ∀ y ∈ l, wLt np nv y ∧ (y.1 ≠ 3 → 0 ≤ y.2.1)) (hsafe : ∀ k, k < nv → (qBd l).testBit k = true) (hR : ∀ p, p < np → ∀ w ∈ R p, ∀ x ∈ w.1, vOk x)
    (hwI : ∀ k, k < I.length → (k : Int) ≠ (gA : Int) → wEx nv (I.getD k [])) (hkk : kk = 1 ∨ kk = 2 ∨ kk = 3 ∨ kk = 4) (hO : kk ≠ 1 → 0 ≤ gO ∧ gO < nv) (hV : ∀ V, isAll l nv R op V → V.length ≤ 1000000) (h : gDs l nv R op kk gO I gA xs zs) : zs.length = I.length ∧ ∀ x ∈ zs, vOk x := by
  obtain ⟨V, h1, h2, h3⟩ := h
  obtain ⟨e1, e2⟩ := gRo_len h3
  obtain ⟨v, v1, v2⟩ := gVs_ne h2
  have hvo : ∀ v ∈ V, v.length = nv ∧ ∀ x ∈ v, vOk x := fun v hv => ⟨((h1.2 v).mp hv).1, isW_ok hnv hw hsafe hR ((h1.2 v).mp hv)⟩
  have hvf : ∀ v ∈ V, ∀ k, k < nv → vOk (vF v k) := fun v hv k hk => by
    obtain ⟨w1, w2⟩ := hvo v hv
    unfold vF
    rw [getD_e (by omega)]
    exact w2 _ (List.getElem_mem _)
  have hq : qMk I (gA : Int) (vF v) I.length = some xs := by
    have v2' : gKy kk gO I (gA : Int) none (vF v) = some xs := v2
    unfold gKy at v2'
    by_cases c : kk = 2 ∧ 2000000000000 ≤ gXv kk gO (vF v)
    · rw [if_pos c] at v2'; cases v2'
    · rw [if_neg c] at v2'
      cases hm : qMk I (gA : Int) (vF v) I.length with
      | none => rw [hm] at v2'; cases v2'
      | some ys =>
        rw [hm, Option.bind_some] at v2'
        exact v2'
  have hxs := qMk_ok hwI (hvf v v1) I.length xs (Nat.le_refl _) hq
  have hval : ∀ x ∈ gVs (fun v : List Int => gKy kk gO I (gA : Int) none (vF v)) (fun v => gXv kk gO (vF v)) V xs, (kk = 1 → x = 1) ∧ vOk x := fun x hx => by
    unfold gVs at hx
    obtain ⟨u, u1, u2⟩ := List.mem_filterMap.mp hx
    by_cases c : gKy kk gO I (gA : Int) none (vF u) = some xs
    · rw [if_pos c] at u2
      injection u2 with u2
      rw [← u2]
      show (kk = 1 → gXv kk gO (vF u) = 1) ∧ vOk (gXv kk gO (vF u))
      unfold gXv
      by_cases c1 : kk = 1
      · rw [if_pos c1]; exact ⟨fun _ => rfl, .inl ⟨by decide, by decide⟩⟩
      · rw [if_neg c1]
        exact ⟨fun q => absurd q c1, hvf u u1 _ (by have := hO c1; omega)⟩
    · rw [if_neg c] at u2; cases u2
  have hag : vOk (gAg kk (gVs (fun v : List Int => gKy kk gO I (gA : Int) none (vF v)) (fun v => gXv kk gO (vF v)) V xs)) := by
    rcases hkk with k | k | k | k
    · have e : gAg kk (gVs (fun v : List Int => gKy kk gO I (gA : Int) none (vF v)) (fun v => gXv kk gO (vF v)) V xs) = ((gVs (fun v : List Int => gKy kk gO I (gA : Int) none (vF v)) (fun v => gXv kk gO (vF v)) V xs).length : Int) := by
        have := gAg_one _ (fun x hx => (hval x hx).1 k)
        rw [k] at this ⊢
        exact this
      rw [e]
      have := gVs_len (key := fun v : List Int => gKy kk gO I (gA : Int) none (vF v)) (val := fun v : List Int => gXv kk gO (vF v)) V xs
      have := hV V h1
      exact .inl ⟨by omega, by omega⟩
    · have : ¬ (1000000000000 < gAg kk (gVs (fun v : List Int => gKy kk gO I (gA : Int) none (vF v)) (fun v => gXv kk gO (vF v)) V xs) ∨ gAg kk (gVs (fun v : List Int => gKy kk gO I (gA : Int) none (vF v)) (fun v => gXv kk gO (vF v)) V xs) < -1000000000000) := fun q => e2 ⟨k, q⟩
      exact .inl ⟨by omega, by omega⟩
    · exact (hval _ (gAg_in (.inl k) _ h2)).2
    · exact (hval _ (gAg_in (.inr k) _ h2)).2
  rw [e1]
  refine ⟨by rw [List.length_set]; exact qMk_len _ _ hq, fun x hx => ?_⟩
  rcases List.mem_or_eq_of_mem_set hx with u | u
  · exact hxs x u
  · rw [u]; exact hag
theorem xl118 : ((xl_t 118).2.2 : Int) = 4 := by decide +kernel
section
variable {f n r gA i : Nat} {a v kk : Int} {S : List pRw}
theorem l_289_60 {xs : List Int} (hn : n ≤ 4) (hi : i < 1024) : ∀ (d k fu : Nat) (G : xG_), k + d = n → d < fu → (∀ j, j < 4 → G 119 (4 * i + j) = xs.getD j 0) → (∀ j, j < k → G 112 j = xs.getD j 0) → ∃ G' fu', g289_60 f fu (i : Int) a (n : Int) v (k : Int) G = g289_60 f (fu' + 1) (i : Int) a (n : Int) v (n : Int) G' ∧ (∀ j, j < n → G' 112 j = xs.getD j 0) ∧ ∀ o j, o ≠ 112 → G' o j = G o j := by
  intro d
  induction d with
  | zero =>
    intro k fu G h1 h2 h3 h4
    obtain ⟨fu, rfl⟩ : ∃ t, fu = t + 1 := ⟨fu - 1, by omega⟩
    have : k = n := by omega
    subst this
    exact ⟨G, fu, rfl, h4, fun _ _ _ => rfl⟩
  | succ d ih =>
    intro k fu G h1 h2 h3 h4
    obtain ⟨fu, rfl⟩ : ∃ t, fu = t + 1 := ⟨fu - 1, by omega⟩
    have e1 : xwr (xwr (4 * (i : Int)) + (k : Int)) = ((4 * i + k : Nat) : Int) := by
      rw [xwr_g (4 * (i : Int)) (by omega) (by omega), xwr_g _ (by omega) (by omega)]; omega
    have e2 : xwr ((k : Int) + 1) = ((k + 1 : Nat) : Int) := by rw [xwr_g _ (by omega) (by omega)]; omega
    obtain ⟨G', fu', k1, k2, k3⟩ := ih (k + 1) fu (xup2 G 112 k (xs.getD k 0)) (by omega) (by omega) (fun j hj => by rw [xup2_n (by omega)]; exact h3 j hj) (fun j hj => by
      by_cases cj : j = k
      · rw [cj, xup2_s]
      · rw [xup2_n (by omega)]; exact h4 j (by omega))
    refine ⟨G', fu', ?_, k2, fun o j y => by rw [k3 o j y, xup2_n (fun q => y q.1)]⟩
    rw [← k1]
    show g289_60b (g289_60 f fu) f _ _ _ _ _ _ = _
    unfold g289_60b
    rw [if_neg (by omega), e1, if_pos (by omega), if_pos (by omega), Int.toNat_natCast, Int.toNat_natCast, h3 k (by omega), Option.bind_some, e2]
/-- gives: up to the row -/
theorem l_289 {G : xG_} (hf : 20 < f) (hr : r < 25) (hn : n ≤ 4) (hgA : gA < n) (h39 : G 0 39 = (r : Int)) (h17 : G 17 r = (n : Int)) (h18 : G 18 r = kk) (h19 : G 19 r = (gA : Int)) (hS : rGr G n S) (hi : i < S.length) :
    (gRo kk gA (S.getD i dRw).1 (S.getD i dRw).2 = none → g289 f (i : Int) a G = some (0, G)) ∧ (∀ zs, gRo kk gA (S.getD i dRw).1 (S.getD i dRw).2 = some zs → ∃ G', (∀ j, j < n → G' 112 j = zs.getD j 0) ∧ (∀ o j, o ≠ 112 → G' o j = G o j) ∧ g289 f (i : Int) a G = if a = 0 then (g284 f (G 15 r) G').bind fun R111 => some (0, R111) else (g262 f 112 0 118 0 (n : Int) G').bind fun R116 => if ¬ R116.1 = 0 then some (0, R116.2) else some (1, R116.2)) := by
  have hl := hS.2.1
  obtain ⟨q1, q2, q3⟩ := hS.2.2 i hi
  have hrr : 0 ≤ (r : Int) ∧ (r : Int) < 25 := by omega
  have hii : 0 ≤ (i : Int) ∧ (i : Int) < 1025 := by omega
  have e1 : g289 f (i : Int) a G = if ¬ kk = 2 then g289_57 f (i : Int) a (n : Int) (S.getD i dRw).2 G else if 1000000000000 < (S.getD i dRw).2 then some (0, G) else if -1000000000000 ≤ (S.getD i dRw).2 then g289_57 f (i : Int) a (n : Int) (S.getD i dRw).2 G else some (0, G) := by
    unfold g289 g289_55
    rw [h39]
    simp only [Nat.reduceAdd, Int.toNat_natCast, if_pos hrr, if_pos hii]
    rw [h18, h17, q3]
  constructor
  · intro hk
    unfold gRo at hk
    by_cases c : kk = 2 ∧ (1000000000000 < (S.getD i dRw).2 ∨ (S.getD i dRw).2 < -1000000000000)
    · have n2 : ¬ ¬ kk = 2 := fun q => q c.1
      rw [e1, if_neg n2]
      by_cases c1 : 1000000000000 < (S.getD i dRw).2
      · rw [if_pos c1]
      · rw [if_neg c1, if_neg (by omega)]
    · rw [if_neg c] at hk; cases hk
  · intro zs hz
    obtain ⟨z1, z2⟩ := gRo_len hz
    have e2 : g289 f (i : Int) a G = g289_60 f f (i : Int) a (n : Int) (S.getD i dRw).2 0 G := by
      rw [e1]
      by_cases c : kk = 2
      · have n2 : ¬ ¬ kk = 2 := fun q => q c
        rw [if_neg n2, if_neg (fun q => z2 ⟨c, .inl q⟩), if_pos (Int.not_lt.mp (fun q => z2 ⟨c, .inr q⟩))]
        rfl
      · rw [if_pos c]
        rfl
    obtain ⟨G1, fu, k1, k2, k3⟩ := l_289_60 (f := f) (a := a) (v := (S.getD i dRw).2) (xs := (S.getD i dRw).1) hn (by omega : i < 1024) n 0 f G (by omega) (by omega) q2 (fun j hj => absurd hj (by omega))
    have k1' : g289_60 f f (i : Int) a (n : Int) (S.getD i dRw).2 0 G = _ := k1
    have h4 : 0 ≤ (gA : Int) ∧ (gA : Int) < 4 := by omega
    have t39 : G1 0 39 = (r : Int) := by rw [k3 _ _ (by omega)]; exact h39
    have t19 : G1 19 r = (gA : Int) := by rw [k3 _ _ (by omega)]; exact h19
    let G2 := xup2 G1 112 gA (S.getD i dRw).2
    have g2 : ∀ o j, ¬ (o = 112 ∧ j = gA) → G2 o j = G1 o j := fun o j h => xup2_n h
    refine ⟨G2, fun j hj => ?_, fun o j y => by rw [g2 o j (fun q => y q.1), k3 o j y], ?_⟩
    · rw [z1, getD_st (by omega)]
      by_cases cj : j = gA
      · rw [if_pos cj, cj]
        exact xup2_s _ _ _ _
      · rw [if_neg cj, g2 _ _ (by omega)]
        exact k2 j hj
    · rw [e2, k1']
      show g289_60b (g289_60 f fu) f _ _ _ _ _ _ = _
      have s39 : G2 0 39 = (r : Int) := by rw [g2 _ _ (by omega)]; exact t39
      have s15 : G2 15 r = G 15 r := by rw [g2 _ _ (by omega), k3 _ _ (by omega)]
      unfold g289_60b g289_135
      rw [if_pos (by omega), t39]
      simp only [Nat.reduceAdd, Int.toNat_natCast, if_pos hrr]
      rw [t19, if_pos h4, Int.toNat_natCast, Option.bind_some]
      show (if a = 0 then (if 0 ≤ G2 0 39 ∧ G2 0 39 < 25 then (g284 f (G2 15 (G2 0 39).toNat) G2).bind (fun R111 => some (0, R111)) else none) else (g262 f 112 0 118 0 (n : Int) G2).bind fun R116 => (if ¬ R116.1 = 0 then (if (0 : Int) = 0 ∨ (0 : Int) = 1 then some (0, R116.2) else none) else (if (1 : Int) = 0 ∨ (1 : Int) = 1 then some (1, R116.2) else none))) = _
      rw [s39, if_pos hrr, Int.toNat_natCast, s15]
      rfl
end
end
section
/-! GATHERING of the reference: a rule, and whether a row comes from it -/
def xE8 (G G' : xG_) : Prop := ∀ o j, ¬ (o = 0 ∧ (j = 37 ∨ j = 38 ∨ 42 ≤ j ∧ j ≤ 61)) → ¬ (110 ≤ o ∧ o ≤ 121 ∧ o ≠ 118) → G' o j = G o j
section
variable {f nv np r c p : Nat} {l : List pLt} {I : List pCd} {gA : Nat} {kk gO : Int} {N : Nat → Nat} {R : Nat → List pRw} {K : Nat → Nat} {F : List pFw}
/-- all WAYS of a gathering rule: there is a list of them -/
theorem l_all {G : xG_} (hf : 6300 < f) (hr : r < 25) (hnv : nv ≤ 8) (hnp : np ≤ 16) (hc : c ≤ 6200) (hat : pAtoms l ≤ 3) (hw : ∀ y ∈ l, wLt np nv y ∧ (y.1 ≠ 3 → 0 ≤ y.2.1)) (hsafe : ∀ k, k < nv → (qBd l).testBit k = true) (hg : rGt G r c nv l I gA kk gO)
    (hwI : ∀ k, k < I.length → (k : Int) ≠ (gA : Int) → wEx nv (I.getD k [])) (hgA : gA < I.length) (hkk : kk = 1 ∨ kk = 2 ∨ kk = 3 ∨ kk = 4) (hO : kk ≠ 1 → 0 ≤ gO ∧ gO < nv) (h39 : G 0 39 = (r : Int)) (h40 : G 0 40 = -1) (hT : rTb G np N R) (hR : ∀ p, p < np → (R p).length ≤ 100 ∧ ∀ w ∈ R p, ∀ x ∈ w.1, vOk x) (h43 : G 0 43 = 0) :
    ∀ V, isAll l nv R (qOp K (-1) 0) V → V.length ≤ 1000000 := by
  let Z := xup2 (xup2 (xup2 (xup2 (xup2 G 0 38 2) 0 59 0) 0 60 0) 0 58 0) 0 37 0
  have z : ∀ o j, ¬ (o = 0 ∧ (j = 37 ∨ j = 38 ∨ j = 58 ∨ j = 59 ∨ j = 60)) → Z o j = G o j := fun o j h => by
    show xup2 _ _ _ _ _ _ = _
    rw [xup2_n (by omega), xup2_n (by omega), xup2_n (by omega), xup2_n (by omega), xup2_n (by omega)]
  obtain ⟨g1, g2, g3, g4⟩ := hg
  obtain ⟨Z2, V0, S, k1, k2, k3, k4, k5, k6, k7⟩ := l_ps (f := f) (K := K) (last := none) (G := Z) hf hr hnv hnp hc hat hw hsafe ⟨g1.v (fun o j _ _ => z o j (by omega)), g2.v (fun o j _ _ => z o j (by omega)), by rw [z _ _ (by omega)]; exact g3, by rw [z _ _ (by omega)]; exact g4⟩ hwI hgA hkk hO (by show xup2 _ _ _ _ _ _ = _; rw [xup2_n (by omega), xup2_n (by omega), xup2_n (by omega), xup2_n (by omega), xup2_s]) (by rw [z _ _ (by omega)]; exact h39) (by rw [z _ _ (by omega)]; exact h40) (hT.ge (fun o j _ _ => z o j (by omega))) hR (xup2_s _ _ _ _) (by rw [z _ _ (by omega)]; exact h43) (by show xup2 _ _ _ _ _ _ = _; rw [xup2_n (by omega), xup2_s]) (by show xup2 _ _ _ _ _ _ = _; rw [xup2_n (by omega), xup2_n (by omega), xup2_s]) (by show xup2 _ _ _ _ _ _ = _; rw [xup2_n (by omega), xup2_n (by omega), xup2_n (by omega), xup2_s])
  intro V hV
  rw [(hV.perm k3).length_eq]
  exact k4
/-- a gathering rule -/
theorem l_gth {G : xG_} (hf : 1000100 < f) (hr : r < 25) (hnv : nv ≤ 8) (hnp : np ≤ 16) (hc : c ≤ 6200) (hat : pAtoms l ≤ 3) (hw : ∀ y ∈ l, wLt np nv y ∧ (y.1 ≠ 3 → 0 ≤ y.2.1)) (hsafe : ∀ k, k < nv → (qBd l).testBit k = true) (hg : rGt G r c nv l I gA kk gO)
    (hwI : ∀ k, k < I.length → (k : Int) ≠ (gA : Int) → wEx nv (I.getD k [])) (hgA : gA < I.length) (hkk : kk = 1 ∨ kk = 2 ∨ kk = 3 ∨ kk = 4) (hO : kk ≠ 1 → 0 ≤ gO ∧ gO < nv) (h15 : G 15 r = (p : Int)) (hp : p < np) (hIN : I.length = N p) (hN : G 4 p = (N p : Int)) (h39 : G 0 39 = (r : Int)) (h40 : G 0 40 = -1) (hT : rTb G np N R) (hR : ∀ p, p < np → (R p).length ≤ 100 ∧ ∀ w ∈ R p, ∀ x ∈ w.1, vOk x) (h43 : G 0 43 = 0) (hF : rFr G np N R F) (hnd : F.Nodup) :
    ∃ G' b, g288 f 0 G = some (b, G') ∧ xE8 G G' ∧ rOt np N R F p (fun zs => ∃ xs, gDs l nv R (qOp K (-1) 0) kk gO I gA xs zs) G' := by
  have hVl := l_all (f := f) (K := K) (by omega) hr hnv hnp hc hat hw hsafe hg hwI hgA hkk hO h39 h40 hT hR h43
  let G0 := xup2 (xup2 (xup2 G 0 38 2) 0 59 0) 0 60 1
  have z : ∀ o j, ¬ (o = 0 ∧ (j = 38 ∨ j = 59 ∨ j = 60)) → G0 o j = G o j := fun o j h => by
    show xup2 _ _ _ _ _ _ = _
    rw [xup2_n (by omega), xup2_n (by omega), xup2_n (by omega)]
  have hI4 := hg.2.1.2.1
  obtain ⟨g1, g2, g3, g4⟩ := hg
  have T0 : rTb G0 np N R := hT.ge (fun o j _ _ => z o j (by omega))
  have z39 : G0 0 39 = (r : Int) := by rw [z _ _ (by omega)]; exact h39
  obtain ⟨Z', b, k1, k2, k3⟩ := l_288_15 (f := f) (a := 0) (K := K) (G0 := G0) (np := np) (N := N) (r := r) (c := c) (Q := fun D Z => rOt np N R F p D Z) (Stop := fun _ => False) (by omega) hr hnv hnp hc hat hw hsafe ⟨g1.v (fun o j _ _ => z o j (by omega)), g2.v (fun o j _ _ => z o j (by omega)), by rw [z _ _ (by omega)]; exact g3, by rw [z _ _ (by omega)]; exact g4⟩ hwI hgA hkk hO (by show xup2 _ _ _ _ _ _ = _; rw [xup2_n (by omega), xup2_n (by omega), xup2_s]) z39 (by rw [z _ _ (by omega)]; exact h40) T0 hR
    (fun D Z Z' h a1 a2 a3 => h.ge a1 a2 a3)
    (fun D Z i S hE h43 hS hi hD => by
      have e : ∀ o j, 2 ≤ o → o ≤ 109 → Z o j = G o j := fun o j _ _ => by rw [hE o j (by omega) (by omega), z o j (by omega)]
      obtain ⟨u1, u2⟩ := l_289 (f := f) (a := 0) (kk := kk) (gA := gA) (i := i) (by omega) hr hI4 hgA (by rw [hE _ _ (by omega) (by omega)]; exact z39) (by rw [e _ _ (by omega) (by omega)]; exact g2.1) (by rw [e _ _ (by omega) (by omega)]; exact g3) (by rw [e _ _ (by omega) (by omega)]; exact g2.2.2.1) hS hi
      refine ⟨u1, fun zs hz => .inl ?_⟩
      obtain ⟨G1, v1, v2, v3⟩ := u2 zs hz
      have hzl : zs.length = N p := by
        rw [(gRo_len hz).1, List.length_set, (hS.2.2 i hi).1, hIN]
      obtain ⟨G2, w1, w2, w3⟩ := rOt.row (f := f) (xs := zs) (G := G1) (by omega) hnp hp (T0.ge (fun o j _ _ => by rw [v2 _ _ (by omega), hE _ _ (by omega) (by omega)])) (by rw [v2 _ _ (by omega), e _ _ (by omega) (by omega)]; exact hN) (hD.ge (v2 _ _ (by omega)) (v2 _ _ (by omega)) (fun b j _ _ => v2 _ _ (by omega))) (by rw [v2 _ _ (by omega)]; exact h43) (fun k hk => v1 k (by omega)) hzl
      refine ⟨G2, ?_, w3, fun o j y1 y2 => by rw [w2 o j y1 (by omega), v2 o j (by omega)]⟩
      rw [v3, if_pos rfl, e _ _ (by omega) (by omega), h15, w1]
      rfl)
    1000000 f none G0 (fun _ => False) (fun _ V hV => Nat.le_trans List.countP_le_length (hVl V hV)) (by omega) (fun _ _ _ _ => rfl) (fun _ => by show xup2 _ _ _ _ _ _ = _; rw [xup2_n (by omega), xup2_s]) (.inr (xup2_s _ _ _ _))
    (.inl ⟨by rw [z _ _ (by omega)]; exact h43, F, hF.ge (z _ _ (by omega)) (fun o j _ _ => z _ _ (by omega)), hnd, fun y => ⟨.inl, fun q => q.elim id (fun q => absurd q.2.1 (fun h => h))⟩⟩) (fun zs h => absurd h (fun h => h)) (fun _ xs zs _ hor => by
      rcases hor with q | q
      · have : G0 0 60 = 1 := xup2_s _ _ _ _
        omega
      · cases q)
  refine ⟨Z', b, ?_, fun o j y1 y2 => by rw [k2 o j (by omega) y2, z o j (by omega)], ?_⟩
  · unfold g288
    exact k1
  · rcases k3 with ⟨_, D', s1, s2, s3⟩ | ⟨_, _, _, _, q⟩
    · exact s1.iff (fun h zs => ⟨s2 zs, fun ⟨xs, hx⟩ => s3 h xs zs hx⟩) s2
    · exact absurd q (fun h => h)
/-- whether the row that is asked for comes from a gathering rule -/
theorem l_gas {G : xG_} {as : List Int} (hf : 1000100 < f) (hr : r < 25) (hnv : nv ≤ 8) (hnp : np ≤ 16) (hc : c ≤ 6200) (hat : pAtoms l ≤ 3) (hw : ∀ y ∈ l, wLt np nv y ∧ (y.1 ≠ 3 → 0 ≤ y.2.1)) (hsafe : ∀ k, k < nv → (qBd l).testBit k = true) (hg : rGt G r c nv l I gA kk gO)
    (hwI : ∀ k, k < I.length → (k : Int) ≠ (gA : Int) → wEx nv (I.getD k [])) (hgA : gA < I.length) (hkk : kk = 1 ∨ kk = 2 ∨ kk = 3 ∨ kk = 4) (hO : kk ≠ 1 → 0 ≤ gO ∧ gO < nv) (h39 : G 0 39 = (r : Int)) (h40 : G 0 40 = -1) (hT : rTb G np N R) (hR : ∀ p, p < np → (R p).length ≤ 100 ∧ ∀ w ∈ R p, ∀ x ∈ w.1, vOk x) (h43 : G 0 43 = 0) (has : as.length = I.length) (h118 : ∀ k, k < I.length → G 118 k = as.getD k 0) :
    ∃ G' b, g288 f 1 G = some (b, G') ∧ xE8 G G' ∧ isB b (∃ xs, gDs l nv R (qOp K (-1) 0) kk gO I gA xs as) := by
  have hVl := l_all (f := f) (K := K) (by omega) hr hnv hnp hc hat hw hsafe hg hwI hgA hkk hO h39 h40 hT hR h43
  let G0 := xup2 (xup2 (xup2 G 0 38 2) 0 59 0) 0 60 1
  have z : ∀ o j, ¬ (o = 0 ∧ (j = 38 ∨ j = 59 ∨ j = 60)) → G0 o j = G o j := fun o j h => by
    show xup2 _ _ _ _ _ _ = _
    rw [xup2_n (by omega), xup2_n (by omega), xup2_n (by omega)]
  have hI4 := hg.2.1.2.1
  obtain ⟨g1, g2, g3, g4⟩ := hg
  have T0 : rTb G0 np N R := hT.ge (fun o j _ _ => z o j (by omega))
  have z39 : G0 0 39 = (r : Int) := by rw [z _ _ (by omega)]; exact h39
  obtain ⟨Z', b, k1, k2, k3⟩ := l_288_15 (f := f) (a := 1) (K := K) (G0 := G0) (np := np) (N := N) (r := r) (c := c) (Q := fun D Z => Z 0 43 = 0 ∧ ¬ D as) (Stop := fun zs => zs = as) (by omega) hr hnv hnp hc hat hw hsafe ⟨g1.v (fun o j _ _ => z o j (by omega)), g2.v (fun o j _ _ => z o j (by omega)), by rw [z _ _ (by omega)]; exact g3, by rw [z _ _ (by omega)]; exact g4⟩ hwI hgA hkk hO (by show xup2 _ _ _ _ _ _ = _; rw [xup2_n (by omega), xup2_n (by omega), xup2_s]) z39 (by rw [z _ _ (by omega)]; exact h40) T0 hR
    (fun D Z Z' h a1 a2 a3 => ⟨by rw [a1]; exact h.1, h.2⟩)
    (fun D Z i S hE h43 hS hi hD => by
      have e : ∀ o j, 2 ≤ o → o ≤ 109 → Z o j = G o j := fun o j _ _ => by rw [hE o j (by omega) (by omega), z o j (by omega)]
      obtain ⟨u1, u2⟩ := l_289 (f := f) (a := 1) (kk := kk) (gA := gA) (i := i) (by omega) hr hI4 hgA (by rw [hE _ _ (by omega) (by omega)]; exact z39) (by rw [e _ _ (by omega) (by omega)]; exact g2.1) (by rw [e _ _ (by omega) (by omega)]; exact g3) (by rw [e _ _ (by omega) (by omega)]; exact g2.2.2.1) hS hi
      refine ⟨u1, fun zs hz => ?_⟩
      obtain ⟨G1, v1, v2, v3⟩ := u2 zs hz
      have hzl : zs.length = I.length := by
        rw [(gRo_len hz).1, List.length_set, (hS.2.2 i hi).1]
      have ve1 : rVe G1 112 0 zs := ⟨by rw [xl112]; omega, by omega, by omega, fun k hk => by rw [Nat.zero_add]; exact v1 k (by omega)⟩
      have ve2 : rVe G1 118 0 as := ⟨by rw [xl118]; omega, by omega, by omega, fun k hk => by rw [Nat.zero_add, v2 _ _ (by omega), hE _ _ (by omega) (by omega), z _ _ (by omega)]; exact h118 k (by omega)⟩
      have ec : g262 f 112 0 118 0 (I.length : Int) G1 = some (vCmp zs as, G1) := l_262 (by omega) ve1 ve2 hzl has
      rw [v3, if_neg (by decide), ec, Option.bind_some]
      have fr : xG3 Z G1 := fun o j y1 y2 => v2 o j (by omega)
      by_cases cc : vCmp zs as = 0
      · have n1 : ¬ ¬ (vCmp zs as, G1).1 = 0 := fun q => q cc
        rw [if_neg n1]
        exact .inr ⟨G1, rfl, vCmp_eq (by omega) cc, fr⟩
      · have n1 : ¬ (vCmp zs as, G1).1 = 0 := cc
        rw [if_pos n1]
        exact .inl ⟨G1, rfl, ⟨by rw [v2 _ _ (by omega)]; exact hD.1, fun q => q.elim hD.2 (fun q => cc (by rw [q]; exact vCmp_self zs))⟩, fr⟩)
    1000000 f none G0 (fun _ => False) (fun _ V hV => Nat.le_trans List.countP_le_length (hVl V hV)) (by omega) (fun _ _ _ _ => rfl) (fun _ => by show xup2 _ _ _ _ _ _ = _; rw [xup2_n (by omega), xup2_s]) (.inr (xup2_s _ _ _ _))
    ⟨by rw [z _ _ (by omega)]; exact h43, fun h => h⟩ (fun zs h => absurd h (fun h => h)) (fun _ xs zs _ hor => by
      rcases hor with q | q
      · have : G0 0 60 = 1 := xup2_s _ _ _ _
        omega
      · cases q)
  refine ⟨Z', b, ?_, fun o j y1 y2 => by rw [k2 o j (by omega) y2, z o j (by omega)], ?_⟩
  · unfold g288
    exact k1
  · rcases k3 with ⟨b0, D', s1, s2, s3⟩ | ⟨b1, xs, zs, q1, q2⟩
    · exact .inr ⟨b0, fun ⟨xs, hx⟩ => s1.2 (s3 s1.1 xs as hx)⟩
    · rw [q2] at q1
      exact .inl ⟨b1, xs, q1⟩
end
end
section
/-! Programs without FAULTS -/
theorem pLit_mm {t : tStr} {tell : Bool} {F : Nat} {s s' : pRs} (h : pLit t tell F s = .inr s') : ∀ m ∈ s.2.2.2.1, m ∈ s'.2.2.2.1 := by
  have atom : ∀ {k : Int} {s s' : pRs}, pAtom t tell k s = .inr s' → ∀ m ∈ s.2.2.2.1, m ∈ s'.2.2.2.1 := by
    intro k s s' h m hm
    unfold pAtom at h
    obtain ⟨p, h1, h2⟩ := pbind_inr h
    obtain ⟨j, _, h4⟩ := pbind_inr h2
    obtain ⟨y, h5, h6⟩ := pbind_inr h4
    obtain ⟨z, h7, h8'⟩ := pbind_inr h6
    obtain ⟨u, _, h10⟩ := pbind_inr h8'
    cases h10
    exact List.mem_append.mpr (.inl hm)
  have cmp : ∀ {s s' : pRs}, pCmp t F s = .inr s' → ∀ m ∈ s.2.2.2.1, m ∈ s'.2.2.2.1 := by
    intro s s' h m hm
    unfold pCmp at h
    obtain ⟨a, h1, h2⟩ := pbind_inr h
    split at h2
    · obtain ⟨b, h3, h4⟩ := pbind_inr h2
      cases h4
      exact hm
    · cases h2
  unfold pLit at h
  split at h
  · cases h
  split at h
  · exact fun m hm => atom (s := (s.1, s.2.1, s.2.2.1, s.2.2.2.1, s.2.2.2.2 + 1)) h m hm
  split at h
  · split at h
    · cases h
    split at h
    · split at h
      · cases h
      · exact atom h
    split at h
    · cases h
    · exact cmp h
  · exact cmp h
theorem pLits_mm {t : tStr} {tell : Bool} {F : Nat} : ∀ {k : Nat} {s s' : pRs}, pLits t tell F k s = .inr s' → ∀ m ∈ s.2.2.2.1, m ∈ s'.2.2.2.1 := by
  intro k
  induction k with
  | zero => intro s s' h; cases h; exact fun _ h => h
  | succ k ih =>
    intro s s' h
    unfold pLits at h
    split at h
    · obtain ⟨u, g1, g2⟩ := pbind_inr h
      exact fun m hm => ih g2 m (pLit_mm g1 m hm)
    · cases h; exact fun _ h => h
/-- each rule's HEAD is told of -/
def wHd (s : pPg) : Prop := ∀ u ∈ s.2.2.2.2.1, (u.1, u.2.1, (u.2.2.2.1.length : Int), 3) ∈ s.2.2.2.1
theorem pRule_hd {t : tStr} {F : Nat} {s s' : pPg} (h : pRule t F s = .inr s') (hs : wHd s) : wHd s' := by
  unfold pRule at h
  split at h
  · cases h
  obtain ⟨p, h1, h⟩ := pbind_inr h
  obtain ⟨i, h2, h⟩ := pbind_inr h
  obtain ⟨a, h3, h⟩ := pbind_inr h
  obtain ⟨a', h4, h⟩ := pbind_inr h
  obtain ⟨i', h5, h⟩ := pbind_inr h
  obtain ⟨l, h6, h⟩ := pbind_inr h
  obtain ⟨i'', h7, h⟩ := pbind_inr h
  have hl : ∀ m ∈ s.2.2.2.1 ++ [(p.1, kS t s.2.2.2.2.2, (a'.2.2.1.length : Int), (3 : Int))], m ∈ l.2.2.2.1 := by
    split at h6
    · obtain ⟨u, g1, g2⟩ := pbind_inr h6
      exact fun m hm => pLits_mm g2 m (pLit_mm g1 m hm)
    · cases h6
      exact fun m hm => hm
  cases h
  intro u hu
  rcases List.mem_append.mp hu with b | b
  · exact hl _ (List.mem_append.mpr (.inl (hs u b)))
  · rw [List.mem_singleton.mp b]
    exact hl _ (List.mem_append.mpr (.inr (List.mem_singleton.mpr rfl)))
theorem pProg_hd {t : tStr} {F : Nat} : ∀ {k : Nat} {s s' : pPg}, pProg t F k s = .inr s' → wHd s → wHd s' := by
  intro k
  induction k with
  | zero => intro s s' h; cases h
  | succ k ih =>
    intro s s' h hs
    unfold pProg at h
    split at h
    · cases h; exact hs
    · obtain ⟨u, g1, g2⟩ := pbind_inr h
      refine ih g2 ?_
      split at g1
      · unfold pInput at g1
        obtain ⟨p, h1, g1⟩ := pbind_inr g1
        obtain ⟨i, h2, g1⟩ := pbind_inr g1
        obtain ⟨n, h3, g1⟩ := pbind_inr g1
        obtain ⟨q, h4, g1⟩ := pbind_inr g1
        obtain ⟨i', h5, g1⟩ := pbind_inr g1
        cases g1
        exact fun u hu => List.mem_append.mpr (.inl (hs u hu))
      split at g1
      · unfold pOutput at g1
        obtain ⟨p, h1, g1⟩ := pbind_inr g1
        obtain ⟨i, h2, g1⟩ := pbind_inr g1
        cases g1
        exact fun u hu => List.mem_append.mpr (.inl (hs u hu))
      · exact pRule_hd g1 hs
/-- a program that may be worked -/
def qOk (s : pPg) : Prop := wPg s ∧ (∀ u ∈ s.2.2.2.2.1, (∀ k, k < u.2.2.2.2.1.length → (qBd u.2.2.2.2.2).testBit k = true) ∧ (u.2.2.2.1.length : Int) = pNn s.2.2.2.1 u.1) ∧ ∀ k a, ¬ pFa s 0 k a
theorem rTe.tx {G : xG_} {b q : Nat} {t : List Int} (h : rTe G b q t) : tTx (tBt t) t.length := by
  rw [← h.by]
  exact rBy_tx G b q t.length
theorem qOk_of {t : List Int} {s : pPg} (hB : tTx (tBt t) t.length) (hn : t.length ≤ 3000) (h : qPr t = .inr s) (hf : ∀ k a, ¬ pFa s 0 k a) : qOk s := by
  have h1 := (pProg_420 hB hn h).1
  have h2 : wHd s := pProg_hd h (fun u hu => absurd hu (by simp))
  refine ⟨h1, fun u hu => ⟨fun k hk => ?_, ?_⟩, hf⟩
  · obtain ⟨y, hy, rfl⟩ := List.getElem_of_mem hu
    cases hb : (qBd (s.2.2.2.2.1[y]).2.2.2.2.2).testBit k with
    | true => rfl
    | false =>
      exfalso
      refine hf 4 _ (.inl (.inr ⟨rfl, y, Nat.zero_le _, hy, k, ?_, rfl⟩))
      rw [getD_e hy]
      exact ⟨hk, hb⟩
  · obtain ⟨y, hy, ey⟩ := List.getElem_of_mem (h2 u hu)
    have hwu := h1.2.2.2.2.2.2 u hu
    obtain ⟨p, hp⟩ : ∃ p : Nat, u.1 = (p : Int) := ⟨u.1.toNat, by have := hwu.1; omega⟩
    have e1 : mN s.2.2.2.1 y = (p : Int) := by unfold mN; rw [getD_e hy, ey]; exact hp
    have e2 : mK s.2.2.2.1 y = (u.2.2.2.1.length : Int) := by unfold mK; rw [getD_e hy, ey]
    have hne : mK s.2.2.2.1 y ≠ -1 := by rw [e2]; omega
    refine Classical.byContradiction (fun q => hf 3 (((0 : Nat) : Int) + mP s.2.2.2.1 y) (.inl (.inl (.inr ⟨rfl, p, y, Nat.zero_le _, ?_, ⟨hy, e1, hne, ?_⟩, rfl⟩))))
    · have := hwu.2.1
      omega
    · rw [e2, ← hp]
      exact q
theorem pFa_q {s : pPg} (h : ∀ k a, ¬ pFa s 0 k a) (q : Nat) : ∀ k a, ¬ pFa s q k a := by
  have sa : ∀ {q' k a}, qSa s.2.1 s.2.2.2.2.1 s.2.2.2.1 q' s.1.length 0 k a → ∃ a', qSa s.2.1 s.2.2.2.2.1 s.2.2.2.1 0 s.1.length 0 k a' := by
    intro q' k a hh
    rcases hh with (⟨y, y1, y2, y3⟩ | ⟨y1, z, y, y2, y3, y4, y5⟩) | ⟨y1, y, y2, y3, v, y4, y5⟩
    · rcases y3 with ⟨z1, z2, z3⟩ | ⟨z1, z2, z3⟩
      · exact ⟨_, .inl (.inl ⟨y, y1, y2, .inl ⟨z1, rfl, z3⟩⟩)⟩
      · exact ⟨_, .inl (.inl ⟨y, y1, y2, .inr ⟨z1, rfl, z3⟩⟩)⟩
    · exact ⟨_, .inl (.inr ⟨y1, z, y, y2, y3, y4, rfl⟩)⟩
    · exact ⟨_, .inr ⟨y1, y, y2, y3, v, y4, rfl⟩⟩
  intro k a hh
  rcases hh with hh | ⟨h1, h2, y, h3, h4, h5, h6⟩
  · obtain ⟨a', ha⟩ := sa hh
    exact h k a' (.inl ha)
  · refine h k _ (.inr ⟨fun k' a' hk => h k' a' (.inl hk), h2, y, h3, h4, h5, rfl⟩)
end
section
/-! Rules of the reference: one, whether it gathers or not -/
def qO1 : Nat → pRw → Prop := fun _ _ => True
theorem qOp_1 (K : Nat → Nat) : qOp K (-1) 0 = qO1 := funext (fun _ => funext (fun _ => propext ⟨fun _ => trivial, fun _ => .inl rfl⟩))
/-- the rows that a rule gives over rows R -/
def rlD (u : pRu) (R : Nat → List pRw) (xs : List Int) : Prop := if qG u = 0 then ∃ v, isW u.2.2.2.2.2 u.2.2.2.2.1.length R qO1 v ∧ qMk u.2.2.2.1 (-1) (vF v) u.2.2.2.1.length = some xs else ∃ ks, gDs u.2.2.2.2.2 u.2.2.2.2.1.length R qO1 (qG u) u.2.2.1.2.2 u.2.2.2.1 u.2.2.1.2.1.toNat ks xs
/-- columns of a predicate -/
def qN (s : pPg) (p : Nat) : Nat := (pNn s.2.2.2.1 (p : Int)).toNat
theorem pNn_in {s : pPg} (hw : wPg s) (x : Int) : 0 ≤ pNn s.2.2.2.1 x ∧ pNn s.2.2.2.1 x ≤ 4 := by
  have key : ∀ (k i : Nat) (j : Nat), pFst s.2.2.2.1 x k i = some j → mK s.2.2.2.1 j ≠ -1 := by
    intro k
    induction k with
    | zero => intro i j h; cases h
    | succ k ih =>
      intro i j h
      unfold pFst at h
      split at h
      · rename_i c
        injection h with h
        rw [← h]
        exact c.2
      · exact ih _ _ h
  unfold pNn
  cases h : pFst s.2.2.2.1 x s.2.2.2.1.length 0 with
  | none => exact ⟨by show (0 : Int) ≤ 0; decide, by show (0 : Int) ≤ 4; decide⟩
  | some j =>
    show 0 ≤ mK s.2.2.2.1 j ∧ mK s.2.2.2.1 j ≤ 4
    have hne := key _ _ _ h
    by_cases c : j < s.2.2.2.1.length
    · have := hw.2.2.2.2.1 (s.2.2.2.1[j]) (List.getElem_mem c)
      unfold mK at hne ⊢
      rw [getD_e c] at hne ⊢
      rcases this.2.2 with z | z
      · omega
      · omega
    · unfold mK
      rw [List.getD_eq_getElem?_getD, List.getElem?_eq_none (by omega)]
      exact ⟨by decide, by decide⟩
theorem qN_c {s : pPg} (hw : wPg s) (p : Nat) : ((qN s p : Nat) : Int) = pNn s.2.2.2.1 (p : Int) ∧ qN s p ≤ 4 := by
  have := pNn_in hw (p : Int)
  unfold qN
  omega
/-- the program s lies at 2, with its parts, rings, and rows R -/
def rEn (G : xG_) (q c : Nat) (s : pPg) (R : Nat → List pRw) : Prop := rPr G 2 q c s ∧ rPn G 2 s ∧ rPk G 2 s ∧ rTb G s.1.length (qN s) R
theorem rEn.ge {G G' : xG_} {q c : Nat} {s : pPg} {R : Nat → List pRw} (h : rEn G q c s R) (hf : ∀ a j, 2 ≤ a → a ≤ 36 → G' a j = G a j) (hr : ∀ a j, 107 ≤ a → a ≤ 109 → G' a j = G a j) : rEn G' q c s R := by
  obtain ⟨a1, a2, a3, a4⟩ := h
  exact ⟨a1.ge (fun j => hf _ _ (by omega) (by omega)) (fun a j _ _ _ _ _ => hf _ _ (by omega) (by omega)), fun y hy => by rw [hf _ _ (by omega) (by omega)]; exact a2 y hy, ⟨fun p hp => by rw [hf _ _ (by omega) (by omega)]; exact a3.1 p hp, fun p hp => by rw [hf _ _ (by omega) (by omega)]; exact a3.2 p hp⟩, a4.ge hr⟩
/-- rows that a table may hold -/
def qTb (s : pPg) (R : Nat → List pRw) : Prop := ∀ p, p < s.1.length → (R p).length ≤ 100 ∧ (R p).Pairwise rwLt ∧ ∀ w ∈ R p, w.1.length = qN s p ∧ ∀ x ∈ w.1, vOk x
def xSt (G G' : xG_) : Prop := ∀ o j, ¬ (o = 0 ∧ (37 ≤ j ∧ j ≤ 39 ∨ 42 ≤ j ∧ j ≤ 61)) → ¬ (110 ≤ o ∧ o ≤ 121 ∧ o ≠ 118) → G' o j = G o j
section
variable {f q c r : Nat} {s : pPg} {R : Nat → List pRw} {F : List pFw}
/-- what is known of a rule of a program -/
theorem rul {G : xG_} (hok : qOk s) (hE : rEn G q c s R) (hr : r < s.2.2.2.2.1.length) : ∃ u, u = s.2.2.2.2.1.getD r dRu ∧ u ∈ s.2.2.2.2.1 ∧ r < 24 ∧ c ≤ 6200 ∧ rRu G 2 q r c u ∧ wRu s.1.length u ∧ (∀ k, k < u.2.2.2.2.1.length → (qBd u.2.2.2.2.2).testBit k = true) ∧ ∃ p : Nat, u.1 = (p : Int) ∧ p < s.1.length ∧ u.2.2.2.1.length = qN s p := by
  obtain ⟨⟨a1, a2, a3, a4, a5⟩, _, _, _⟩ := hE
  have hm : s.2.2.2.2.1.getD r dRu ∈ s.2.2.2.2.1 := by rw [getD_e hr]; exact List.getElem_mem hr
  have hw := hok.1.2.2.2.2.2.2 _ hm
  obtain ⟨o1, o2⟩ := hok.2.1 _ hm
  have := a3.2.1
  obtain ⟨p, hp⟩ : ∃ p : Nat, (s.2.2.2.2.1.getD r dRu).1 = (p : Int) := ⟨(s.2.2.2.2.1.getD r dRu).1.toNat, by have := hw.1; omega⟩
  refine ⟨_, rfl, hm, by omega, (by omega : c ≤ 6200), a3.2.2 r hr, hw, o1, p, hp, by have := hw.2.1; omega, ?_⟩
  have := (qN_c hok.1 p).1
  rw [hp] at o2
  omega
/-- a rule, used -/
theorem l_rul {G : xG_} {r12 : Int → Int → xG_ → Option (Int × xG_)} {r52 : Int → Int → Int → xG_ → Option (Int × xG_)} {x1 x2 : Int} (hf : 1000100 < f) (hok : qOk s) (hE : rEn G q c s R) (hT : qTb s R) (hr : r < s.2.2.2.2.1.length) (h40 : G 0 40 = -1) (h43 : G 0 43 = 0) (hF : rFr G s.1.length (qN s) R F) (hnd : F.Nodup) :
    ∃ G' p, (s.2.2.2.2.1.getD r dRu).1 = ((p : Nat) : Int) ∧ p < s.1.length ∧ g293_111 r12 r52 f x1 x2 (r : Int) G = r52 x1 x2 ((r + 1 : Nat) : Int) G' ∧ xSt G G' ∧ rOt s.1.length (qN s) R F p (rlD (s.2.2.2.2.1.getD r dRu) R) G' := by
  obtain ⟨u, eu, u1, u2, u3, u4, u5, u6, p, p1, p2, p3⟩ := rul hok hE hr
  rw [← eu]
  obtain ⟨e1, e2, e3, e4⟩ := hE
  obtain ⟨t1, t2, ⟨t3, t4, t5, t6⟩, t7, t8, t9, t10, t11⟩ := u4
  obtain ⟨w1, w2, w3, w4, w5, w6, w7, w8, w9⟩ := u5
  have hnp : s.1.length ≤ 16 := hok.1.1
  have er : xwr ((r : Int) + 1) = ((r + 1 : Nat) : Int) := by rw [xwr_g _ (by omega) (by omega)]; omega
  have hR' : ∀ p, p < s.1.length → (R p).length ≤ 100 ∧ ∀ w ∈ R p, ∀ x ∈ w.1, vOk x := fun p hp => ⟨(hT p hp).1, fun w hw => ((hT p hp).2.2 w hw).2⟩
  have hN : G 4 p = (qN s p : Int) := by
    have := e2 p p2
    rw [(qN_c hok.1 p).1]
    exact this
  have hrr : 0 ≤ (r : Int) ∧ (r : Int) < 25 := by omega
  have h15 : G 15 r = (p : Int) := by rw [← p1]; exact t1
  have h18 : G 18 r = qG u := t3
  have wit := w5.2
  by_cases cg : u.2.2.1.1 = 0
  · have hqg : qG u = 0 := by unfold qG; rw [if_pos cg]
    have hgA : u.2.2.1.2.1 = -1 := by
      rcases w5.1 with z | z
      · exact z.2.1
      · have := z.1; have : (10 : Int) ≤ u.2.2.1.1 := z.1.1; omega
    let G1 := xup2 (xup2 (xup2 G 0 39 (r : Int)) 0 38 1) 0 37 0
    have z : ∀ o j, ¬ (o = 0 ∧ (j = 37 ∨ j = 38 ∨ j = 39)) → G1 o j = G o j := fun o j h => by
      show xup2 _ _ _ _ _ _ = _
      rw [xup2_n (by omega), xup2_n (by omega), xup2_n (by omega)]
    have z2 : ∀ a j, 2 ≤ a → a ≤ 36 → G1 a j = G a j := fun a j _ _ => z a j (by omega)
    have hHd : rHd G r c u.2.2.2.1 (-1) := ⟨t7, t8, by have h9 : G 19 r = u.2.2.1.2.1 := t4; rw [h9, hgA], t9⟩
    obtain ⟨G2, k1, k2, k3, k4⟩ := l_der (f := f) (K := fun _ => 0) (G := G1) (F := F) (by omega) (by omega : r < 25) w6 hnp u3 w8 w9 u6 (t11.v z2) (hHd.v z2) (fun k hk => by
        rcases wit k hk with ⟨y1, _⟩ | ⟨_, y2⟩
        · have y3 : (k : Int) = u.2.2.1.2.1 := y1
          omega
        · exact y2) (by rw [z _ _ (by omega)]; exact h15) p2 p3 (by rw [z _ _ (by omega)]; exact hN) (by show xup2 _ _ _ _ _ _ = _; rw [xup2_n (by omega), xup2_s]) (by show xup2 _ _ _ _ _ _ = _; rw [xup2_n (by omega), xup2_n (by omega), xup2_s]) (by rw [z _ _ (by omega)]; exact h40) (e4.ge (fun a j _ _ => z a j (by omega))) hR' (xup2_s _ _ _ _) (by rw [z _ _ (by omega)]; exact h43) (hF.ge (z _ _ (by omega)) (fun a j _ _ => z _ _ (by omega))) hnd
    refine ⟨G2, p, p1, p2, ?_, fun o j y1 y2 => by rw [k2 o j (by omega) y2, z o j (by omega)], ?_⟩
    · have t18 : xup2 G 0 39 (r : Int) 18 r = 0 := by rw [xup2_n (by omega), h18]; exact hqg
      unfold g293_111 g293_153
      rw [Option.bind_some, if_pos hrr, Int.toNat_natCast]
      show (if xup2 G 0 39 (r : Int) 18 r = 0 then _ else _) = _
      rw [t18, if_pos rfl]
      show Option.bind (g275 f 0 G1) _ = _
      rw [k1, Option.bind_some, er]
    · have iff : ∀ xs, (∃ v, isW u.2.2.2.2.2 u.2.2.2.2.1.length R (qOp (fun _ => 0) (-1) 0) v ∧ qMk u.2.2.2.1 (-1) (vF v) u.2.2.2.1.length = some xs ∧ ∀ x ∈ xs, vOk x) ↔ rlD u R xs := fun xs => by
        unfold rlD
        rw [if_pos hqg, qOp_1]
        constructor
        · rintro ⟨v, v1, v2, _⟩
          exact ⟨v, v1, v2⟩
        · rintro ⟨v, v1, v2⟩
          have vo := isW_ok w6 w9 u6 (fun p hp w hw x hx => (hR' p hp).2 w hw x hx) v1
          refine ⟨v, v1, v2, qMk_ok (nv := u.2.2.2.2.1.length) (fun k hk _ => ?_) (fun k hk => ?_) _ xs (Nat.le_refl _) v2⟩
          · rcases wit k hk with ⟨y1, _⟩ | ⟨_, y2⟩
            · have y3 : (k : Int) = u.2.2.1.2.1 := y1
              omega
            · exact y2
          · unfold vF
            rw [getD_e (by rw [v1.1]; exact hk)]
            exact vo _ (List.getElem_mem _)
      exact k4.iff (fun _ xs => iff xs) (fun xs => (iff xs).mp)
  · have hg10 : (10 ≤ u.2.2.1.1 ∧ u.2.2.1.1 ≤ 13) ∧ 0 ≤ u.2.2.1.2.1 ∧ u.2.2.1.2.1 < u.2.2.2.1.length ∧ (u.2.2.1.1 = 10 ∧ u.2.2.1.2.2 = -1 ∨ u.2.2.1.1 ≠ 10 ∧ 0 ≤ u.2.2.1.2.2 ∧ u.2.2.1.2.2 < u.2.2.2.2.1.length) := by
      rcases w5.1 with z | z
      · exact absurd z.1 cg
      · exact z
    have hqg : qG u = u.2.2.1.1 - 9 := by unfold qG; rw [if_neg cg]
    obtain ⟨gA, hgA⟩ : ∃ gA : Nat, u.2.2.1.2.1 = (gA : Int) := ⟨u.2.2.1.2.1.toNat, by omega⟩
    let G1 := xup2 G 0 39 (r : Int)
    have z : ∀ o j, ¬ (o = 0 ∧ j = 39) → G1 o j = G o j := fun o j h => xup2_n h
    have z2 : ∀ a j, 2 ≤ a → a ≤ 36 → G1 a j = G a j := fun a j _ _ => z a j (by omega)
    have hHd : rHd G r c u.2.2.2.1 (gA : Int) := ⟨t7, t8, by have h9 : G 19 r = u.2.2.1.2.1 := t4; rw [h9, hgA], t9⟩
    have h20 : G 20 r = u.2.2.1.2.2 := t5
    obtain ⟨G2, b, k1, k2, k3⟩ := l_gth (f := f) (K := fun _ => 0) (G := G1) (F := F) (gA := gA) (kk := qG u) (gO := u.2.2.1.2.2) hf (by omega : r < 25) w6 hnp u3 w8 w9 u6 ⟨t11.v z2, hHd.v z2, by rw [z _ _ (by omega)]; exact h18, by rw [z _ _ (by omega)]; exact h20⟩ (fun k hk hne => by
        rcases wit k hk with ⟨y1, _⟩ | ⟨_, y2⟩
        · have y3 : (k : Int) = u.2.2.1.2.1 := y1
          omega
        · exact y2) (by omega) (by omega) (fun hk => by omega) (by rw [z _ _ (by omega)]; exact h15) p2 p3 (by rw [z _ _ (by omega)]; exact hN) (xup2_s _ _ _ _) (by rw [z _ _ (by omega)]; exact h40) (e4.ge (fun a j _ _ => z a j (by omega))) hR' (by rw [z _ _ (by omega)]; exact h43) (hF.ge (z _ _ (by omega)) (fun a j _ _ => z _ _ (by omega))) hnd
    refine ⟨G2, p, p1, p2, ?_, fun o j y1 y2 => by rw [k2 o j (by omega) y2, z o j (by omega)], ?_⟩
    · have t18 : G1 18 r = qG u := by rw [z _ _ (by omega)]; exact h18
      have n18 : ¬ qG u = 0 := by omega
      unfold g293_111 g293_153
      rw [Option.bind_some, if_pos hrr, Int.toNat_natCast]
      show (if G1 18 r = 0 then _ else (g288 f 0 G1).bind _) = _
      rw [t18, if_neg n18, k1, Option.bind_some, er]
    · have iff : ∀ zs, (∃ xs, gDs u.2.2.2.2.2 u.2.2.2.2.1.length R (qOp (fun _ => 0) (-1) 0) (qG u) u.2.2.1.2.2 u.2.2.2.1 gA xs zs) ↔ rlD u R zs := fun zs => by
        unfold rlD
        rw [if_neg (by omega), qOp_1, hgA, Int.toNat_natCast]
      exact k3.iff (fun _ zs => iff zs) (fun zs => (iff zs).mp)
end
end
section
/-! Levels of the reference: one -/
/-- the ring of a predicate -/
def qK (s : pPg) (p : Nat) : Nat := qRs s.1.length s.2.2.2.2.1 p
/-- xs is a new row of p at the level st of the ring rg, from the first rm rules -/
def stD (s : pPg) (rg : Nat) (st : Int) (R : Nat → List pRw) (rm : Nat) (p : Nat) (xs : List Int) : Prop := ∃ r, r < rm ∧ r < s.2.2.2.2.1.length ∧ (s.2.2.2.2.1.getD r dRu).1 = (p : Int) ∧ qK s p = rg ∧ (qG (s.2.2.2.2.1.getD r dRu) ≠ 0 → st = 1) ∧ rlD (s.2.2.2.2.1.getD r dRu) R xs ∧ rNw R p xs
/-- too many rows -/
def stO (s : pPg) (rg : Nat) (st : Int) (R : Nat → List pRw) : Prop := ∃ (F : List pFw) (p : Nat), F.Nodup ∧ p < s.1.length ∧ (∀ y ∈ F, stD s rg st R s.2.2.2.2.1.length y.1 y.2) ∧ 100 < (R p).length + fCt F p
def rOs (s : pPg) (rg : Nat) (st : Int) (R : Nat → List pRw) (rm : Nat) (G : xG_) : Prop :=
  (G 0 43 = 0 ∧ ∃ F, rFr G s.1.length (qN s) R F ∧ F.Nodup ∧ ∀ y, y ∈ F ↔ stD s rg st R rm y.1 y.2) ∨ (G 0 43 ≠ 0 ∧ stO s rg st R)
section
variable {f q c : Nat} {s : pPg} {R : Nat → List pRw} {rg : Nat} {st : Int} {r12 : Int → Int → xG_ → Option (Int × xG_)}
theorem l_52 (hf : 1000100 < f) (hok : qOk s) (hT : qTb s R) (hst : 1 ≤ st) : ∀ (d r fu : Nat) (G : xG_), r + d = s.2.2.2.2.1.length → d < fu → rEn G q c s R → G 0 40 = -1 → rOs s rg st R r G → ∃ G', g293_52 r12 f fu (rg : Int) st (r : Int) G = g293_159 r12 f (rg : Int) st G' ∧ xSt G G' ∧ rOs s rg st R s.2.2.2.2.1.length G' := by
  intro d
  induction d with
  | zero =>
    intro r fu G h1 h2 hE h40 hO
    obtain ⟨fu, rfl⟩ : ∃ t, fu = t + 1 := ⟨fu - 1, by omega⟩
    have h9 : G 2 9 = (s.2.2.2.2.1.length : Int) := hE.1.2.2.1.1
    have er : r = s.2.2.2.2.1.length := by omega
    refine ⟨G, ?_, fun _ _ _ _ => rfl, by rw [er] at hO; exact hO⟩
    show g293_52b r12 (g293_52 r12 f fu) f _ _ _ _ = _
    unfold g293_52b
    rw [h9, if_pos (by omega)]
  | succ d ih =>
    intro r fu G h1 h2 hE h40 hO
    obtain ⟨fu, rfl⟩ : ∃ t, fu = t + 1 := ⟨fu - 1, by omega⟩
    have hr : r < s.2.2.2.2.1.length := by omega
    have h9 : G 2 9 = (s.2.2.2.2.1.length : Int) := hE.1.2.2.1.1
    obtain ⟨u, eu, u1, u2, u3, u4, u5, u6, p, p1, p2, p3⟩ := rul hok hE hr
    have hnp : s.1.length ≤ 16 := hok.1.1
    have h15 : G 15 r = (p : Int) := by rw [← p1]; exact u4.1
    have h18 : G 18 r = qG u := u4.2.2.1.1
    have h7 : G 7 p = (qK s p : Int) := hE.2.2.1.2 p p2
    have er : xwr ((r : Int) + 1) = ((r + 1 : Nat) : Int) := by rw [xwr_g _ (by omega) (by omega)]; omega
    have hrr : 0 ≤ (r : Int) ∧ (r : Int) < 25 := by omega
    have hpp : 0 ≤ (p : Int) ∧ (p : Int) < 16 := by omega
    rcases hO with ⟨h43, F, f1, f2, f3⟩ | ⟨h43, hov⟩
    · have n43 : ¬ ¬ G 0 43 = 0 := fun q => q h43
      have step : g293_52 r12 f (fu + 1) (rg : Int) st (r : Int) G = if ¬ (qK s p : Int) = (rg : Int) then g293_52 r12 f fu (rg : Int) st ((r + 1 : Nat) : Int) G else if qG u = 0 then g293_111 r12 (g293_52 r12 f fu) f (rg : Int) st (r : Int) G else if st ≤ 1 then g293_111 r12 (g293_52 r12 f fu) f (rg : Int) st (r : Int) G else g293_52 r12 f fu (rg : Int) st ((r + 1 : Nat) : Int) G := by
        show g293_52b r12 (g293_52 r12 f fu) f _ _ _ _ = _
        unfold g293_52b g293_153
        rw [h9, if_neg (by omega), if_neg n43, if_pos hrr]
        simp only [Nat.reduceAdd, Int.toNat_natCast]
        simp only [h15, if_pos hpp, Int.toNat_natCast, h7, h18, if_pos hrr, er]
      have skip : (¬ ∃ xs, stD s rg st R (r + 1) p xs ∧ ¬ stD s rg st R r p xs) → g293_52 r12 f (fu + 1) (rg : Int) st (r : Int) G = g293_52 r12 f fu (rg : Int) st ((r + 1 : Nat) : Int) G → ∃ G', g293_52 r12 f (fu + 1) (rg : Int) st (r : Int) G = g293_159 r12 f (rg : Int) st G' ∧ xSt G G' ∧ rOs s rg st R s.2.2.2.2.1.length G' := fun hn he => by
        rw [he]
        refine ih (r + 1) fu G (by omega) (by omega) hE h40 (.inl ⟨h43, F, f1, f2, fun y => ?_⟩)
        rw [f3 y]
        constructor
        · rintro ⟨r', a1, a2⟩
          exact ⟨r', by omega, a2⟩
        · rintro ⟨r', a1, a2, a3, a4⟩
          by_cases cr : r' = r
          · rw [cr, ← eu, p1] at a3
            have ey : y.1 = p := by omega
            refine Classical.byContradiction (fun nn => hn ⟨y.2, ⟨r', a1, a2, ?_, ?_⟩, ?_⟩)
            · rw [cr, ← eu, p1]
            · rw [← ey]; exact a4
            · rw [← ey]; exact nn
          · exact ⟨r', by omega, a2, a3, a4⟩
      have only : ∀ xs, stD s rg st R (r + 1) p xs → stD s rg st R r p xs ∨ (qK s p = rg ∧ (qG u ≠ 0 → st = 1) ∧ rlD u R xs ∧ rNw R p xs) := fun xs ⟨r', a1, a2, a3, a4, a5, a6, a7⟩ => by
        by_cases cr : r' = r
        · rw [cr, ← eu] at a5 a6
          exact .inr ⟨a4, a5, a6, a7⟩
        · exact .inl ⟨r', by omega, a2, a3, a4, a5, a6, a7⟩
      have use : qK s p = rg → (qG u ≠ 0 → st = 1) → g293_52 r12 f (fu + 1) (rg : Int) st (r : Int) G = g293_111 r12 (g293_52 r12 f fu) f (rg : Int) st (r : Int) G → ∃ G', g293_52 r12 f (fu + 1) (rg : Int) st (r : Int) G = g293_159 r12 f (rg : Int) st G' ∧ xSt G G' ∧ rOs s rg st R s.2.2.2.2.1.length G' := fun hk hs he => by
        obtain ⟨G1, p', g1, g2, g3, g4, g5⟩ := l_rul (f := f) (r12 := r12) (r52 := g293_52 r12 f fu) (x1 := (rg : Int)) (x2 := st) hf hok hE hT hr h40 h43 f1 f2
        rw [← eu] at g1 g5
        have epp : p' = p := by omega
        subst epp
        have hE1 : rEn G1 q c s R := hE.ge (fun a j _ _ => g4 _ _ (by omega) (by omega)) (fun a j _ _ => g4 _ _ (by omega) (by omega))
        have iffD : ∀ y : pFw, (y ∈ F ∨ (y.1 = p' ∧ rlD u R y.2 ∧ rNw R p' y.2)) ↔ stD s rg st R (r + 1) y.1 y.2 := fun y => by
          rw [f3 y]
          constructor
          · rintro (⟨r', a1, a2⟩ | ⟨a1, a2, a3⟩)
            · exact ⟨r', by omega, a2⟩
            · exact ⟨r, by omega, hr, by rw [← eu, p1, a1], by rw [a1]; exact hk, by rw [← eu]; exact hs, by rw [← eu]; exact a2, by rw [a1]; exact a3⟩
          · rintro ⟨r', a1, a2, a3, a4, a5, a6, a7⟩
            by_cases cr : r' = r
            · rw [cr, ← eu] at a3 a6
              have : y.1 = p' := by omega
              exact .inr ⟨this, a6, by rw [← this]; exact a7⟩
            · exact .inl ⟨r', by omega, a2, a3, a4, a5, a6, a7⟩
        have hO1 : rOs s rg st R (r + 1) G1 := by
          rcases g5 with ⟨b1, F', b2, b3, b4⟩ | ⟨b1, F', b2, b3, b4⟩
          · exact .inl ⟨b1, F', b2, b3, fun y => (b4 y).trans (iffD y)⟩
          · refine .inr ⟨b1, F', p', b2, p2, fun y hy => ?_, b4⟩
            obtain ⟨r', a1, a2⟩ := (iffD y).mp (b3 y hy)
            exact ⟨r', by omega, a2⟩
        obtain ⟨G2, k1, k2, k3⟩ := ih (r + 1) fu G1 (by omega) (by omega) hE1 (by rw [g4 _ _ (by omega) (by omega)]; exact h40) hO1
        exact ⟨G2, by rw [he, g3, k1], fun o j y1 y2 => by rw [k2 o j y1 y2, g4 o j y1 y2], k3⟩
      by_cases ck : qK s p = rg
      · have n1 : ¬ ¬ (qK s p : Int) = (rg : Int) := fun q => q (by rw [ck])
        rw [if_neg n1] at step
        by_cases cg : qG u = 0
        · rw [if_pos cg] at step
          exact use ck (fun q => absurd cg q) step
        · rw [if_neg cg] at step
          by_cases cs : st ≤ 1
          · rw [if_pos cs] at step
            exact use ck (fun _ => by omega) step
          · rw [if_neg cs] at step
            refine skip (fun ⟨xs, a, b⟩ => ?_) step
            rcases only xs a with z | z
            · exact b z
            · have := z.2.1 cg; omega
      · have n1 : ¬ (qK s p : Int) = (rg : Int) := by omega
        rw [if_pos n1] at step
        refine skip (fun ⟨xs, a, b⟩ => ?_) step
        rcases only xs a with z | z
        · exact b z
        · exact ck z.1
    · refine ⟨G, ?_, fun _ _ _ _ => rfl, .inr ⟨h43, hov⟩⟩
      show g293_52b r12 (g293_52 r12 f fu) f _ _ _ _ = _
      unfold g293_52b
      rw [h9, if_neg (by omega), if_pos h43]
end
end
section
/-! Levels of the reference: new rows come to the rows; a ring is worked -/
def isLv (s : pPg) (rg : Nat) (st : Int) (R R' : Nat → List pRw) : Prop := ∀ p, p < s.1.length → (R' p).Pairwise rwLt ∧ ∀ y, y ∈ R' p ↔ y ∈ R p ∨ (y.2 = st ∧ stD s rg st R s.2.2.2.2.1.length p y.1)
def wkC (s : pPg) (rg : Nat) (R0 : Nat → List pRw) : Nat → (Nat → List pRw) → Prop
  | 0, R => ∀ p, p < s.1.length → R p = R0 p
  | n + 1, R => ∃ R1, wkC s rg R0 n R1 ∧ (∃ p xs, p < s.1.length ∧ stD s rg ((n + 1 : Nat) : Int) R1 s.2.2.2.2.1.length p xs) ∧ isLv s rg ((n + 1 : Nat) : Int) R1 R
/-- a ring worked to its end -/
def wkE (s : pPg) (rg : Nat) (R0 R : Nat → List pRw) : Prop := ∃ n, wkC s rg R0 n R ∧ ∀ p xs, p < s.1.length → ¬ stD s rg ((n + 1 : Nat) : Int) R s.2.2.2.2.1.length p xs
/-- a ring that passes the LIMIT -/
def wkO (s : pPg) (rg : Nat) (R0 : Nat → List pRw) : Prop := ∃ n R, wkC s rg R0 n R ∧ stO s rg ((n + 1 : Nat) : Int) R
def qTo (R : Nat → List pRw) : Nat → Nat
  | 0 => 0
  | p + 1 => qTo R p + (R p).length
theorem qTo_le {R : Nat → List pRw} : ∀ (np : Nat), (∀ p, p < np → (R p).length ≤ 100) → qTo R np ≤ 100 * np
  | 0, _ => Nat.le_refl _
  | np + 1, h => by
    have h1 := qTo_le np (fun p hp => h p (by omega))
    have h2 := h np (by omega)
    show qTo R np + (R np).length ≤ _
    omega
theorem qTo_lt {R R' : Nat → List pRw} : ∀ (np : Nat), (∀ p, p < np → (R p).length ≤ (R' p).length) → qTo R np ≤ qTo R' np ∧ ((∃ p, p < np ∧ (R p).length < (R' p).length) → qTo R np < qTo R' np)
  | 0, _ => ⟨Nat.le_refl _, fun ⟨p, hp, _⟩ => by omega⟩
  | np + 1, h => by
    obtain ⟨h1, h2⟩ := qTo_lt np (fun p hp => h p (by omega))
    have h3 := h np (by omega)
    constructor
    · show qTo R np + (R np).length ≤ qTo R' np + (R' np).length
      omega
    · rintro ⟨p, hp, hl⟩
      show qTo R np + (R np).length < qTo R' np + (R' np).length
      by_cases c : p = np
      · rw [c] at hl; omega
      · have := h2 ⟨p, by omega, hl⟩
        omega
theorem fCt_tk {F : List pFw} {i p : Nat} (hi : i < F.length) : fCt (F.take (i + 1)) p = fCt (F.take i) p + if (F.getD i dFw).1 = p then 1 else 0 := by
  unfold fCt
  rw [List.take_succ_eq_append_getElem hi, List.countP_append]
  congr 1
  rw [getD_e hi]
  by_cases c : (F[i]).1 = p
  · rw [if_pos c, List.countP_cons_of_pos (by simp [c])]; rfl
  · rw [if_neg c, List.countP_cons_of_neg (by simp [c])]; rfl
theorem fCt_pos {F : List pFw} {p : Nat} : 0 < fCt F p ↔ ∃ y ∈ F, y.1 = p := by
  unfold fCt
  rw [List.countP_pos_iff]
  simp
def xRg (G G' : xG_) : Prop := ∀ o j, ¬ (o = 0 ∧ (37 ≤ j ∧ j ≤ 39 ∨ 42 ≤ j ∧ j ≤ 61)) → ¬ (107 ≤ o ∧ o ≤ 121 ∧ o ≠ 118) → G' o j = G o j
section
variable {f q c : Nat} {s : pPg} {R : Nat → List pRw} {rg : Nat} {st : Int} {r12 : Int → Int → xG_ → Option (Int × xG_)} {F : List pFw}
theorem l_179 {G0 : xG_} (hf : 2000 < f) (hok : qOk s) (hT : qTb s R) (hF : rFr G0 s.1.length (qN s) R F) (hnd : F.Nodup) (hnw : ∀ y ∈ F, rNw R y.1 y.2) (h4 : ∀ p, p < s.1.length → G0 4 p = (qN s p : Int)) {e12 : Int} : ∀ (d i fu : Nat) (G : xG_) (R1 : Nat → List pRw), i + d = F.length → d < fu → (∀ o j, ¬ (107 ≤ o ∧ o ≤ 109) → G o j = G0 o j) → rTb G s.1.length (qN s) R1 → (∀ p, p < s.1.length → (R1 p).Pairwise rwLt ∧ (R1 p).length = (R p).length + fCt (F.take i) p ∧ ∀ y, y ∈ R1 p ↔ y ∈ R p ∨ (y.2 = st ∧ (p, y.1) ∈ F.take i)) → e12 = xwr (st + 1) →
    ∃ G' R', g293_179 r12 f fu (rg : Int) st (i : Int) G = r12 (rg : Int) e12 G' ∧ (∀ o j, ¬ (107 ≤ o ∧ o ≤ 109) → G' o j = G0 o j) ∧ rTb G' s.1.length (qN s) R' ∧ ∀ p, p < s.1.length → (R' p).Pairwise rwLt ∧ (R' p).length = (R p).length + fCt F p ∧ ∀ y, y ∈ R' p ↔ y ∈ R p ∨ (y.2 = st ∧ (p, y.1) ∈ F) := by
  have hFl := hF.len
  have hnp : s.1.length ≤ 16 := hok.1.1
  obtain ⟨f1, f2, f3⟩ := hF
  intro d
  induction d with
  | zero =>
    intro i fu G R1 h1 h2 h3 hT1 hR1 h12
    obtain ⟨fu, rfl⟩ : ∃ t, fu = t + 1 := ⟨fu - 1, by omega⟩
    have ei : F.take i = F := List.take_of_length_le (by omega)
    rw [ei] at hR1
    refine ⟨G, R1, ?_, h3, hT1, hR1⟩
    show g293_179b r12 (g293_179 r12 f fu) f _ _ _ _ = _
    unfold g293_179b
    rw [h3 _ _ (by omega), f1, if_pos (by omega), h12]
  | succ d ih =>
    intro i fu G R1 h1 h2 h3 hT1 hR1 h12
    obtain ⟨fu, rfl⟩ : ∃ t, fu = t + 1 := ⟨fu - 1, by omega⟩
    have hi : i < F.length := by omega
    obtain ⟨z1, z2, z3, z4⟩ := f2 i hi
    obtain ⟨t1, t2⟩ := hT1 _ z1
    obtain ⟨r1, r2, r3⟩ := hR1 _ z1
    have hlim := (f3 _ z1).2
    have hle : fCt (F.take i) (F.getD i dFw).1 ≤ fCt F (F.getD i dFw).1 := List.Sublist.countP_le (List.take_sublist _ _)
    have hsub : ∀ p, fCt (F.take i) p ≤ fCt F p := fun p => List.Sublist.countP_le (List.take_sublist _ _)
    have hq4 := (qN_c hok.1 (F.getD i dFw).1).2
    have e4 : xwr (4 * (i : Int)) = ((4 * i : Nat) : Int) := by rw [xwr_g _ (by omega) (by omega)]; omega
    have e5 : xwr ((i : Int) + 1) = ((i + 1 : Nat) : Int) := by rw [xwr_g _ (by omega) (by omega)]; omega
    have hve : rVe G 114 (4 * i) (F.getD i dFw).2 := ⟨by rw [xl114, z3]; omega, by omega, by omega, fun j hj => by rw [h3 _ _ (by omega)]; exact z4 j hj⟩
    obtain ⟨G1, R2, k1, k2, k3, k4, k5⟩ := l_264 (f := f) (u := st) (by omega) (by omega : (F.getD i dFw).1 < 16) t2 ⟨by decide, by decide, by decide⟩ t1 r1 (by omega) (by rw [h3 _ _ (by omega)]; exact h4 _ z1) hve z3
    have hyF : F.getD i dFw ∈ F := by rw [getD_e hi]; exact List.getElem_mem hi
    have htk : F.take (i + 1) = F.take i ++ [F.getD i dFw] := by rw [List.take_succ_eq_append_getElem hi, getD_e hi]
    have hnotin : F.getD i dFw ∉ F.take i := fun hm => by
      obtain ⟨j, hj, ej⟩ := List.getElem_of_mem hm
      rw [List.length_take] at hj
      rw [List.getElem_take, getD_e hi] at ej
      have := (List.nodup_iff_pairwise_ne.mp hnd)
      have := (List.pairwise_iff_getElem.mp this) j i (by omega) hi (by omega)
      exact this ej
    rcases k5 with ⟨⟨y, y1, y2⟩, _⟩ | ⟨k5, k6, k7⟩
    · exfalso
      rcases (r3 y).mp y1 with q | ⟨_, q⟩
      · exact hnw _ hyF y q y2
      · rw [y2] at q
        exact hnotin q
    · let R3 : Nat → List pRw := fun p => if p = (F.getD i dFw).1 then R2 else R1 p
      have hR3 : ∀ p, p < s.1.length → (R3 p).Pairwise rwLt ∧ (R3 p).length = (R p).length + fCt (F.take (i + 1)) p ∧ ∀ y, y ∈ R3 p ↔ y ∈ R p ∨ (y.2 = st ∧ (p, y.1) ∈ F.take (i + 1)) := fun p hp => by
        by_cases cp : p = (F.getD i dFw).1
        · have e : R3 p = R2 := if_pos cp
          rw [e, fCt_tk hi, if_pos cp.symm]
          refine ⟨k3, by rw [k6, r2, cp]; omega, fun y => ?_⟩
          rw [k7, r3, htk, List.mem_append, List.mem_singleton, cp]
          constructor
          · rintro ((q | ⟨q1, q2⟩) | q)
            · exact .inl q
            · exact .inr ⟨q1, .inl q2⟩
            · rw [q]; exact .inr ⟨rfl, .inr rfl⟩
          · rintro (q | ⟨q1, q2 | q2⟩)
            · exact .inl (.inl q)
            · exact .inl (.inr ⟨q1, q2⟩)
            · refine .inr (Prod.ext ?_ q1)
              have := congrArg Prod.snd q2
              exact this
        · have e : R3 p = R1 p := if_neg cp
          obtain ⟨w1, w2, w3⟩ := hR1 p hp
          rw [e, fCt_tk hi, if_neg (fun q => cp q.symm)]
          refine ⟨w1, by rw [w2]; omega, fun y => ?_⟩
          rw [w3, htk, List.mem_append, List.mem_singleton]
          constructor
          · rintro (q | ⟨q1, q2⟩)
            · exact .inl q
            · exact .inr ⟨q1, .inl q2⟩
          · rintro (q | ⟨q1, q2 | q2⟩)
            · exact .inl q
            · exact .inr ⟨q1, q2⟩
            · exact absurd (congrArg Prod.fst q2) cp
      have hT3 : rTb G1 s.1.length (qN s) R3 := fun p hp => by
        by_cases cp : p = (F.getD i dFw).1
        · have e : R3 p = R2 := if_pos cp
          rw [e, cp]
          exact ⟨k2, t2⟩
        · have e : R3 p = R1 p := if_neg cp
          rw [e]
          obtain ⟨⟨w1, w2, w3⟩, w4⟩ := hT1 p hp
          have hfar : ∀ o j, (o = 107 ∧ p * 520 * 4 ≤ j ∧ j < (p * 520 + 520) * 4) ∨ (o = 108 ∧ j = p) ∨ (o = 109 ∧ p * 520 ≤ j ∧ j < p * 520 + 520) → G1 o j = G o j := fun o j h => by
            refine k4 o j (fun z => ?_) (fun z => ?_) (fun z => ?_)
            · rcases h with h | h | h
              · have h1 := h.2.1; have h2 := h.2.2; have h3 := z.2.1; have h4 := z.2.2
                omega
              · omega
              · omega
            · omega
            · rcases h with h | h | h
              · omega
              · omega
              · have h1 := h.2.1; have h2 := h.2.2; have h3 := z.2.1; have h4 := z.2.2
                omega
          refine ⟨⟨by rw [hfar _ _ (.inr (.inl ⟨rfl, rfl⟩))]; exact w1, w2, fun k hk => ?_⟩, w4⟩
          obtain ⟨v1, v2, v3⟩ := w3 k hk
          exact ⟨v1, fun j hj => by rw [hfar _ _ (.inl ⟨rfl, by omega, by omega⟩)]; exact v2 j hj, by rw [hfar _ _ (.inr (.inr ⟨rfl, by omega, by omega⟩))]; exact v3⟩
      obtain ⟨G', R', u1, u2, u3, u4⟩ := ih (i + 1) fu G1 R3 (by omega) (by omega) (fun o j y => by rw [k4 o j (by omega) (by omega) (by omega)]; exact h3 o j y) hT3 hR3 h12
      refine ⟨G', R', ?_, u2, u3, u4⟩
      rw [← u1]
      show g293_179b r12 (g293_179 r12 f fu) f _ _ _ _ = _
      unfold g293_179b
      rw [h3 _ _ (by omega), f1, if_neg (by omega), if_pos (by omega), Int.toNat_natCast, h3 _ _ (by omega), z2, e4, k1, Option.bind_some, e5]
end
end
