/-! GATHERING of the reference: a rule, and whether a row comes from it -/
def xE8 (G G' : xG_) : Prop := ∀ o j, ¬ (o = 0 ∧ (j = 37 ∨ j = 38 ∨ 42 ≤ j ∧ j ≤ 61)) → ¬ (110 ≤ o ∧ o ≤ 121 ∧ o ≠ 118) → G' o j = G o j
section
variable {f nv np r c p : Nat} {l : List pLt} {I : List pCd} {gA : Nat} {kk gO : Int} {N : Nat → Nat} {R : Nat → List pRw} {K : Nat → Nat} {F : List pFw}
/-- all WAYS of a gathering rule: there is a list of them -/
theorem l_all {G : xG_} (hf : 6300 < f) (hr : r < 25) (hnv : nv ≤ 8) (hnp : np ≤ 16) (hc : c ≤ 6200) (hat : pAtoms l ≤ 3) (hw : ∀ y ∈ l, wLt np nv y ∧ (y.1 ≠ 3 → 0 ≤ y.2.1)) (hsafe : ∀ k, k < nv → (qBd l).testBit k = true) (hg : rGt G r c nv l I gA kk gO)
    (hwI : ∀ k, k < I.length → (k : Int) ≠ (gA : Int) → wEx nv (I.getD k [])) (hgA : gA < I.length) (hkk : kk = 1 ∨ kk = 2 ∨ kk = 3 ∨ kk = 4) (hO : kk ≠ 1 → 0 ≤ gO ∧ gO < nv) (h39 : G 0 39 = (r : Int)) (h40 : G 0 40 = -1) (hT : rTb G np N R) (hR : ∀ p, p < np → (R p).length ≤ 100 ∧ ∀ w ∈ R p, ∀ x ∈ w.1, vOk x) (h43 : G 0 43 = 0) :
    ∀ V, isAll l nv R (qOp K (-1) 0) V → V.length ≤ 1000000 := by
  let Z := xup2 (xup2 (xup2 (xup2 (xup2 G 0 38 2) 0 59 0) 0 60 0) 0 58 0) 0 37 0
  have z : ∀ o j, ¬ (o = 0 ∧ (j = 37 ∨ j = 38 ∨ j = 58 ∨ j = 59 ∨ j = 60)) → Z o j = G o j := fun o j h => by
    show xup2 _ _ _ _ _ _ = _
    rw [xup2_n (by omega), xup2_n (by omega), xup2_n (by omega), xup2_n (by omega), xup2_n (by omega)]
  obtain ⟨g1, g2, g3, g4⟩ := hg
  obtain ⟨Z2, V0, S, k1, k2, k3, k4, k5, k6, k7⟩ := l_ps (f := f) (K := K) (last := none) (G := Z) hf hr hnv hnp hc hat hw hsafe ⟨g1.v (fun o j _ _ => z o j (by omega)), g2.v (fun o j _ _ => z o j (by omega)), by rw [z _ _ (by omega)]; exact g3, by rw [z _ _ (by omega)]; exact g4⟩ hwI hgA hkk hO (by show xup2 _ _ _ _ _ _ = _; rw [xup2_n (by omega), xup2_n (by omega), xup2_n (by omega), xup2_n (by omega), xup2_s]) (by rw [z _ _ (by omega)]; exact h39) (by rw [z _ _ (by omega)]; exact h40) (hT.ge (fun o j _ _ => z o j (by omega))) hR (xup2_s _ _ _ _) (by rw [z _ _ (by omega)]; exact h43) (by show xup2 _ _ _ _ _ _ = _; rw [xup2_n (by omega), xup2_s]) (by show xup2 _ _ _ _ _ _ = _; rw [xup2_n (by omega), xup2_n (by omega), xup2_s]) (by show xup2 _ _ _ _ _ _ = _; rw [xup2_n (by omega), xup2_n (by omega), xup2_n (by omega), xup2_s])
  intro V hV
  rw [(hV.perm k3).length_eq]
  exact k4
/-- a gathering rule -/
theorem l_gth {G : xG_} (hf : 1000100 < f) (hr : r < 25) (hnv : nv ≤ 8) (hnp : np ≤ 16) (hc : c ≤ 6200) (hat : pAtoms l ≤ 3) (hw : ∀ y ∈ l, wLt np nv y ∧ (y.1 ≠ 3 → 0 ≤ y.2.1)) (hsafe : ∀ k, k < nv → (qBd l).testBit k = true) (hg : rGt G r c nv l I gA kk gO)
    (hwI : ∀ k, k < I.length → (k : Int) ≠ (gA : Int) → wEx nv (I.getD k [])) (hgA : gA < I.length) (hkk : kk = 1 ∨ kk = 2 ∨ kk = 3 ∨ kk = 4) (hO : kk ≠ 1 → 0 ≤ gO ∧ gO < nv) (h15 : G 15 r = (p : Int)) (hp : p < np) (hIN : I.length = N p) (hN : G 4 p = (N p : Int)) (h39 : G 0 39 = (r : Int)) (h40 : G 0 40 = -1) (hT : rTb G np N R) (hR : ∀ p, p < np → (R p).length ≤ 100 ∧ ∀ w ∈ R p, ∀ x ∈ w.1, vOk x) (h43 : G 0 43 = 0) (hF : rFr G np N R F) (hnd : F.Nodup) :
    ∃ G' b, g288 f 0 G = some (b, G') ∧ xE8 G G' ∧ rOt np N R F p (fun zs => ∃ xs, gDs l nv R (qOp K (-1) 0) kk gO I gA xs zs) G' := by
  have hVl := l_all (f := f) (K := K) (by omega) hr hnv hnp hc hat hw hsafe hg hwI hgA hkk hO h39 h40 hT hR h43
  let G0 := xup2 (xup2 (xup2 G 0 38 2) 0 59 0) 0 60 1
  have z : ∀ o j, ¬ (o = 0 ∧ (j = 38 ∨ j = 59 ∨ j = 60)) → G0 o j = G o j := fun o j h => by
    show xup2 _ _ _ _ _ _ = _
    rw [xup2_n (by omega), xup2_n (by omega), xup2_n (by omega)]
  have hI4 := hg.2.1.2.1
  obtain ⟨g1, g2, g3, g4⟩ := hg
  have T0 : rTb G0 np N R := hT.ge (fun o j _ _ => z o j (by omega))
  have z39 : G0 0 39 = (r : Int) := by rw [z _ _ (by omega)]; exact h39
  obtain ⟨Z', b, k1, k2, k3⟩ := l_288_15 (f := f) (a := 0) (K := K) (G0 := G0) (np := np) (N := N) (r := r) (c := c) (Q := fun D Z => rOt np N R F p D Z) (Stop := fun _ => False) (by omega) hr hnv hnp hc hat hw hsafe ⟨g1.v (fun o j _ _ => z o j (by omega)), g2.v (fun o j _ _ => z o j (by omega)), by rw [z _ _ (by omega)]; exact g3, by rw [z _ _ (by omega)]; exact g4⟩ hwI hgA hkk hO (by show xup2 _ _ _ _ _ _ = _; rw [xup2_n (by omega), xup2_n (by omega), xup2_s]) z39 (by rw [z _ _ (by omega)]; exact h40) T0 hR
    (fun D Z Z' h a1 a2 a3 => h.ge a1 a2 a3)
    (fun D Z i S hE h43 hS hi hD => by
      have e : ∀ o j, 2 ≤ o → o ≤ 109 → Z o j = G o j := fun o j _ _ => by rw [hE o j (by omega) (by omega), z o j (by omega)]
      obtain ⟨u1, u2⟩ := l_289 (f := f) (a := 0) (kk := kk) (gA := gA) (i := i) (by omega) hr hI4 hgA (by rw [hE _ _ (by omega) (by omega)]; exact z39) (by rw [e _ _ (by omega) (by omega)]; exact g2.1) (by rw [e _ _ (by omega) (by omega)]; exact g3) (by rw [e _ _ (by omega) (by omega)]; exact g2.2.2.1) hS hi
      refine ⟨u1, fun zs hz => .inl ?_⟩
      obtain ⟨G1, v1, v2, v3⟩ := u2 zs hz
      have hzl : zs.length = N p := by
        rw [(gRo_len hz).1, List.length_set, (hS.2.2 i hi).1, hIN]
      obtain ⟨G2, w1, w2, w3⟩ := rOt.row (f := f) (xs := zs) (G := G1) (by omega) hnp hp (T0.ge (fun o j _ _ => by rw [v2 _ _ (by omega), hE _ _ (by omega) (by omega)])) (by rw [v2 _ _ (by omega), e _ _ (by omega) (by omega)]; exact hN) (hD.ge (v2 _ _ (by omega)) (v2 _ _ (by omega)) (fun b j _ _ => v2 _ _ (by omega))) (by rw [v2 _ _ (by omega)]; exact h43) (fun k hk => v1 k (by omega)) hzl
      refine ⟨G2, ?_, w3, fun o j y1 y2 => by rw [w2 o j y1 (by omega), v2 o j (by omega)]⟩
      rw [v3, if_pos rfl, e _ _ (by omega) (by omega), h15, w1]
      rfl)
    1000000 f none G0 (fun _ => False) (fun _ V hV => Nat.le_trans List.countP_le_length (hVl V hV)) (by omega) (fun _ _ _ _ => rfl) (fun _ => by show xup2 _ _ _ _ _ _ = _; rw [xup2_n (by omega), xup2_s]) (.inr (xup2_s _ _ _ _))
    (.inl ⟨by rw [z _ _ (by omega)]; exact h43, F, hF.ge (z _ _ (by omega)) (fun o j _ _ => z _ _ (by omega)), hnd, fun y => ⟨.inl, fun q => q.elim id (fun q => absurd q.2.1 (fun h => h))⟩⟩) (fun zs h => absurd h (fun h => h)) (fun _ xs zs _ hor => by
      rcases hor with q | q
      · have : G0 0 60 = 1 := xup2_s _ _ _ _
        omega
      · cases q)
  refine ⟨Z', b, ?_, fun o j y1 y2 => by rw [k2 o j (by omega) y2, z o j (by omega)], ?_⟩
  · unfold g288
    exact k1
  · rcases k3 with ⟨_, D', s1, s2, s3⟩ | ⟨_, _, _, _, q⟩
    · exact s1.iff (fun h zs => ⟨s2 zs, fun ⟨xs, hx⟩ => s3 h xs zs hx⟩) s2
    · exact absurd q (fun h => h)
/-- whether the row that is asked for comes from a gathering rule -/
theorem l_gas {G : xG_} {as : List Int} (hf : 1000100 < f) (hr : r < 25) (hnv : nv ≤ 8) (hnp : np ≤ 16) (hc : c ≤ 6200) (hat : pAtoms l ≤ 3) (hw : ∀ y ∈ l, wLt np nv y ∧ (y.1 ≠ 3 → 0 ≤ y.2.1)) (hsafe : ∀ k, k < nv → (qBd l).testBit k = true) (hg : rGt G r c nv l I gA kk gO)
    (hwI : ∀ k, k < I.length → (k : Int) ≠ (gA : Int) → wEx nv (I.getD k [])) (hgA : gA < I.length) (hkk : kk = 1 ∨ kk = 2 ∨ kk = 3 ∨ kk = 4) (hO : kk ≠ 1 → 0 ≤ gO ∧ gO < nv) (h39 : G 0 39 = (r : Int)) (h40 : G 0 40 = -1) (hT : rTb G np N R) (hR : ∀ p, p < np → (R p).length ≤ 100 ∧ ∀ w ∈ R p, ∀ x ∈ w.1, vOk x) (h43 : G 0 43 = 0) (has : as.length = I.length) (h118 : ∀ k, k < I.length → G 118 k = as.getD k 0) :
    ∃ G' b, g288 f 1 G = some (b, G') ∧ xE8 G G' ∧ isB b (∃ xs, gDs l nv R (qOp K (-1) 0) kk gO I gA xs as) := by
  have hVl := l_all (f := f) (K := K) (by omega) hr hnv hnp hc hat hw hsafe hg hwI hgA hkk hO h39 h40 hT hR h43
  let G0 := xup2 (xup2 (xup2 G 0 38 2) 0 59 0) 0 60 1
  have z : ∀ o j, ¬ (o = 0 ∧ (j = 38 ∨ j = 59 ∨ j = 60)) → G0 o j = G o j := fun o j h => by
    show xup2 _ _ _ _ _ _ = _
    rw [xup2_n (by omega), xup2_n (by omega), xup2_n (by omega)]
  have hI4 := hg.2.1.2.1
  obtain ⟨g1, g2, g3, g4⟩ := hg
  have T0 : rTb G0 np N R := hT.ge (fun o j _ _ => z o j (by omega))
  have z39 : G0 0 39 = (r : Int) := by rw [z _ _ (by omega)]; exact h39
  obtain ⟨Z', b, k1, k2, k3⟩ := l_288_15 (f := f) (a := 1) (K := K) (G0 := G0) (np := np) (N := N) (r := r) (c := c) (Q := fun D Z => Z 0 43 = 0 ∧ ¬ D as) (Stop := fun zs => zs = as) (by omega) hr hnv hnp hc hat hw hsafe ⟨g1.v (fun o j _ _ => z o j (by omega)), g2.v (fun o j _ _ => z o j (by omega)), by rw [z _ _ (by omega)]; exact g3, by rw [z _ _ (by omega)]; exact g4⟩ hwI hgA hkk hO (by show xup2 _ _ _ _ _ _ = _; rw [xup2_n (by omega), xup2_n (by omega), xup2_s]) z39 (by rw [z _ _ (by omega)]; exact h40) T0 hR
    (fun D Z Z' h a1 a2 a3 => ⟨by rw [a1]; exact h.1, h.2⟩)
    (fun D Z i S hE h43 hS hi hD => by
      have e : ∀ o j, 2 ≤ o → o ≤ 109 → Z o j = G o j := fun o j _ _ => by rw [hE o j (by omega) (by omega), z o j (by omega)]
      obtain ⟨u1, u2⟩ := l_289 (f := f) (a := 1) (kk := kk) (gA := gA) (i := i) (by omega) hr hI4 hgA (by rw [hE _ _ (by omega) (by omega)]; exact z39) (by rw [e _ _ (by omega) (by omega)]; exact g2.1) (by rw [e _ _ (by omega) (by omega)]; exact g3) (by rw [e _ _ (by omega) (by omega)]; exact g2.2.2.1) hS hi
      refine ⟨u1, fun zs hz => ?_⟩
      obtain ⟨G1, v1, v2, v3⟩ := u2 zs hz
      have hzl : zs.length = I.length := by
        rw [(gRo_len hz).1, List.length_set, (hS.2.2 i hi).1]
      have ve1 : rVe G1 112 0 zs := ⟨by rw [xl112]; omega, by omega, by omega, fun k hk => by rw [Nat.zero_add]; exact v1 k (by omega)⟩
      have ve2 : rVe G1 118 0 as := ⟨by rw [xl118]; omega, by omega, by omega, fun k hk => by rw [Nat.zero_add, v2 _ _ (by omega), hE _ _ (by omega) (by omega), z _ _ (by omega)]; exact h118 k (by omega)⟩
      have ec : g262 f 112 0 118 0 (I.length : Int) G1 = some (vCmp zs as, G1) := l_262 (by omega) ve1 ve2 hzl has
      rw [v3, if_neg (by decide), ec, Option.bind_some]
      have fr : xG3 Z G1 := fun o j y1 y2 => v2 o j (by omega)
      by_cases cc : vCmp zs as = 0
      · have n1 : ¬ ¬ (vCmp zs as, G1).1 = 0 := fun q => q cc
        rw [if_neg n1]
        exact .inr ⟨G1, rfl, vCmp_eq (by omega) cc, fr⟩
      · have n1 : ¬ (vCmp zs as, G1).1 = 0 := cc
        rw [if_pos n1]
        exact .inl ⟨G1, rfl, ⟨by rw [v2 _ _ (by omega)]; exact hD.1, fun q => q.elim hD.2 (fun q => cc (by rw [q]; exact vCmp_self zs))⟩, fr⟩)
    1000000 f none G0 (fun _ => False) (fun _ V hV => Nat.le_trans List.countP_le_length (hVl V hV)) (by omega) (fun _ _ _ _ => rfl) (fun _ => by show xup2 _ _ _ _ _ _ = _; rw [xup2_n (by omega), xup2_s]) (.inr (xup2_s _ _ _ _))
    ⟨by rw [z _ _ (by omega)]; exact h43, fun h => h⟩ (fun zs h => absurd h (fun h => h)) (fun _ xs zs _ hor => by
      rcases hor with q | q
      · have : G0 0 60 = 1 := xup2_s _ _ _ _
        omega
      · cases q)
  refine ⟨Z', b, ?_, fun o j y1 y2 => by rw [k2 o j (by omega) y2, z o j (by omega)], ?_⟩
  · unfold g288
    exact k1
  · rcases k3 with ⟨b0, D', s1, s2, s3⟩ | ⟨b1, xs, zs, q1, q2⟩
    · exact .inr ⟨b0, fun ⟨xs, hx⟩ => s1.2 (s3 s1.1 xs as hx)⟩
    · rw [q2] at q1
      exact .inl ⟨b1, xs, q1⟩
end
