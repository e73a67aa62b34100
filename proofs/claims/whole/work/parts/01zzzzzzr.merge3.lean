/-! merge(), whole -/
section
variable {f m n hr : Nat} {T : List (List Int)} {lns : Nat → sLn}
def xfMg (G G' : xG_) : Prop := ∀ a j, ¬ (a = 0 ∧ (j ≤ 11 ∨ 21 ≤ j ∧ j ≤ 27 ∨ 37 ≤ j ∧ j ≤ 66 ∨ j = 74 ∨ 82 ≤ j ∧ j ≤ 83 ∨ 89 ≤ j ∧ j ≤ 91)) → ¬ (1 ≤ a ∧ a ≤ 71) → ¬ (107 ≤ a ∧ a ≤ 238) → ¬ (243 ≤ a ∧ a ≤ 270) → G' a j = G a j
theorem rMt.ge {G G' : xG_} {mt : Int × List Int} (h : rMt G mt) (h0 : ∀ j, j = 82 ∨ j = 83 → G' 0 j = G 0 j) (h1 : ∀ j, G' 257 j = G 257 j) : rMt G' mt := ⟨by rw [h0 _ (by omega)]; exact h.1, by rw [h0 _ (by omega)]; exact h.2.1, h.2.2.1, fun j hj => by rw [h1]; exact h.2.2.2 j hj⟩
theorem l_326 {G : xG_} {k : Int} {mt : Int × List Int} (hf : 1000100 < f) (hn : n < 900) (h : rHb G T m lns hr n) (hI : hInv T lns) (hmt : rMt G mt) :
    ∃ v G' mt' lns', g326 f k G = some (v, G') ∧ stMg T lns hr k mt v mt' lns' ∧ rHb G' T m lns' hr n ∧ rMt G' mt' ∧ G' 0 74 = 0 ∧ G' 0 63 = G 0 63 ∧ xfMg G G' := by
  have h0 := h.u74 (v := 0)
  have hh := h
  obtain ⟨a1, a2, a3, a4, a5, a6, a7, a8, a9⟩ := h
  obtain ⟨s0, M0, b1, b2, b3⟩ := a5 hr a4
  let G1 := xup2 G 0 74 0
  have z1 : ∀ a j, ¬ (a = 0 ∧ j = 74) → G1 a j = G a j := fun a j q => xup2_n (by omega)
  have hmt1 : rMt G1 mt := hmt.ge (fun j _ => z1 _ _ (by omega)) (fun j => z1 _ _ (by omega))
  -- answers that leave all as it was
  have same : ∀ v : Int, g326 f k G = some (v, G1) → stMg T lns hr k mt v mt lns → ∃ v G' mt' lns', g326 f k G = some (v, G') ∧ stMg T lns hr k mt v mt' lns' ∧ rHb G' T m lns' hr n ∧ rMt G' mt' ∧ G' 0 74 = 0 ∧ G' 0 63 = G 0 63 ∧ xfMg G G' := fun v e1 e2 => ⟨v, G1, mt, lns, e1, e2, h0, hmt1, xup2_s _ _ _ _, z1 _ _ (by omega), fun a j q1 q2 q3 q4 => z1 _ _ (by omega)⟩
  by_cases c1 : k < 0
  · refine same (-1) ?_ (.inl ⟨fun q => absurd q.1 (by omega), rfl, rfl, rfl⟩)
    unfold g326 g326_22
    rw [Option.bind_some, if_pos c1]
  by_cases c2 : 4 ≤ k
  · refine same (-1) ?_ (.inl ⟨fun q => absurd q.2.1 (by omega), rfl, rfl, rfl⟩)
    unfold g326 g326_22
    rw [Option.bind_some, if_neg c1, if_pos c2]
  by_cases c3 : k = (hr : Int)
  · refine same (-1) ?_ (.inl ⟨fun q => q.2.2.1 c3, rfl, rfl, rfl⟩)
    unfold g326 g326_22
    rw [Option.bind_some, if_neg c1, if_neg c2, xup2_n (by omega), a3, if_neg (fun q => q c3)]
  obtain ⟨x, rfl⟩ : ∃ x : Nat, k = (x : Int) := ⟨k.toNat, by omega⟩
  have hx : x < 4 := by omega
  have hxr : x ≠ hr := fun q => c3 (by rw [q])
  obtain ⟨sx, Mx, x1, x2, x3⟩ := a5 x hx
  have f35 : G1 (123 + 29 * x) 35 = (lns x).2.2.2.2.1 := by rw [z1 _ _ (by omega)]; exact x2.2.2.2.2.2.2.2.2.2.2.1
  have f36 : G1 (123 + 29 * x) 36 = (lns x).2.2.2.2.2 := by rw [z1 _ _ (by omega)]; exact x2.2.2.2.2.2.2.2.2.2.2.2
  have e0 : g326 f (x : Int) G = (if ¬ (lns x).2.2.2.2.1 = (hr : Int) then g326_64 f G1 else ((g310 f (123 + 29 * hr) ((lns x).2.2.2.2.2) G1).bind fun R128 => (if ¬ (R128.1) = 0 then (if ¬ (R128.2 (123 + 29 * hr) 1) = (R128.2 (123 + 29 * x) 1) then g326_115 f R128.2 else ((g309 f (123 + 29 * hr + 13) (R128.2 (123 + 29 * hr) 17) (R128.2 (123 + 29 * x) 36) R128.2).bind fun R135 => (if 0 < (R135.1) then g326_115 f R135.2 else ((g309 f (123 + 29 * x + 13) (R135.2 (123 + 29 * x) 17) (R128.2 (123 + 29 * x) 36) R135.2).bind fun R141 => (if (R141.1) ≤ 0 then ((g296 f R141.2).bind fun R147 => ((g311 f (123 + 29 * hr) (R128.2 (123 + 29 * x) 36) (253) R147).bind fun R152 => ((g327 f (123 + 29 * hr) (123 + 29 * x) R152.2).bind fun R157 => (if (R157.1) = 0 then g326_153 f f (123 + 29 * hr) (123 + 29 * x) (0) (0) R157.2 else (some (-3, R157.2)))))) else g326_115 f R141.2))))) else g326_64 f R128.2))) := by
    unfold g326
    rw [Option.bind_some, if_neg c1, if_neg c2, show xup2 G 0 74 0 = G1 from rfl, z1 0 62 (by omega), a3, if_pos c3, if_pos (by omega), if_pos (by omega), Int.toNat_natCast, Int.toNat_natCast, f35, f36]
  have nok : ¬ mgOk lns hr (x : Int) → g326 f (x : Int) G = some (-1, G1) → ∃ v G' mt' lns', g326 f (x : Int) G = some (v, G') ∧ stMg T lns hr (x : Int) mt v mt' lns' ∧ rHb G' T m lns' hr n ∧ rMt G' mt' ∧ G' 0 74 = 0 ∧ G' 0 63 = G 0 63 ∧ xfMg G G' := fun q e => same (-1) e (.inl ⟨q, rfl, rfl, rfl⟩)
  by_cases c4 : ¬ ((lns x).2.2.2.2.1 = (hr : Int))
  · refine nok (fun q => c4 ?_) (by rw [e0, if_pos c4]; rfl)
    have := q.2.2.2.1
    rw [Int.toNat_natCast] at this
    exact this
  replace c4 : (lns x).2.2.2.2.1 = (hr : Int) := Classical.not_not.mp c4
  rw [if_neg (fun q => q c4), l_310 (f := f) (o := 123 + 29 * hr) (b := (lns hr).2.1.1) (k := (lns hr).2.1.2.1) (by rw [z1 _ _ (by omega)]; exact b2.2.1.2.2.1) (by rw [z1 _ _ (by omega)]; exact b2.2.1.2.1), Option.bind_some] at e0
  by_cases c5 : ¬ (((lns hr).2.1.1 : Int) ≤ (lns x).2.2.2.2.2 ∧ (lns x).2.2.2.2.2 ≤ (((lns hr).2.1.1 + (lns hr).2.1.2.1 : Nat) : Int))
  · have n1 : ¬ ¬ ((if ((lns hr).2.1.1 : Int) ≤ (lns x).2.2.2.2.2 ∧ (lns x).2.2.2.2.2 ≤ (((lns hr).2.1.1 + (lns hr).2.1.2.1 : Nat) : Int) then (1 : Int) else 0, G1) : Int × xG_).1 = 0 := by
      rw [if_neg c5]; exact fun q => q rfl
    refine nok (fun q => c5 ?_) (by rw [e0, if_neg n1]; rfl)
    have := q.2.2.2.2
    rw [Int.toNat_natCast] at this
    exact this
  replace c5 : ((lns hr).2.1.1 : Int) ≤ (lns x).2.2.2.2.2 ∧ (lns x).2.2.2.2.2 ≤ (((lns hr).2.1.1 + (lns hr).2.1.2.1 : Nat) : Int) := Classical.not_not.mp c5
  have n1 : ¬ ((if ((lns hr).2.1.1 : Int) ≤ (lns x).2.2.2.2.2 ∧ (lns x).2.2.2.2.2 ≤ (((lns hr).2.1.1 + (lns hr).2.1.2.1 : Nat) : Int) then (1 : Int) else 0, G1) : Int × xG_).1 = 0 := by
    rw [if_pos c5]; show ¬ (1 : Int) = 0; decide
  rw [if_pos n1] at e0
  simp only [] at e0
  have hmok : mgOk lns hr (x : Int) := ⟨by omega, by omega, c3, by rw [Int.toNat_natCast]; exact c4, by rw [Int.toNat_natCast]; exact c5⟩
  -- the fork
  obtain ⟨r, hr1, hr2, hr3, hr4⟩ : ∃ r : Nat, (lns x).2.2.2.2.2 = (r : Int) ∧ r ≤ (lns hr).2.1.1 + (lns hr).2.1.2.1 ∧ r ≤ (lns x).2.1.1 + (lns x).2.1.2.1 ∧ ((lns x).1 r).1 = ((lns hr).1 r).1 := by
    rcases hI.2 x hx with q | ⟨y, r, y1, y2, y3, y4, y5, y6⟩
    · rw [c4] at q; omega
    · have e1 : (lns x).2.2.2.2.1 = (y : Int) := by rw [y3]
      have e2 : (lns x).2.2.2.2.2 = (r : Int) := by rw [y3]
      have : y = hr := by omega
      subst this
      exact ⟨r, e2, y4, y5, y6⟩
  obtain ⟨i, hi⟩ : ∃ i, r = (lns hr).2.1.1 + i := ⟨r - (lns hr).2.1.1, by omega⟩
  obtain ⟨k', hk'⟩ : ∃ k', (lns hr).2.1.2.1 = i + k' := ⟨(lns hr).2.1.2.1 - i, by omega⟩
  obtain ⟨ia1, ia2, ia3⟩ := hI.1 hr a4
  obtain ⟨ib1, ib2, ib3⟩ := hI.1 x hx
  have edA := eMo_no ia2 hr2
  have edB := eMo_no ib2 hr3
  have hA13 := bh13 (f := f) (h := hr) (o := 123 + 29 * hr) (x := (r : Int)) (G := G1) (E := hCat (hEg (lns hr).1) (lns hr).2.1.1 (lns hr).2.1.2.1) (by omega) a4 rfl (b2.1.2.2.1.ge (z1 _ _ (by omega)) (fun a j _ _ => z1 _ _ (by omega))) b2.1.2.2.2.2.2
  have hB13 := bh13 (f := f) (h := x) (o := 123 + 29 * x) (x := (r : Int)) (G := G1) (E := hCat (hEg (lns x).1) (lns x).2.1.1 (lns x).2.1.2.1) (by omega) hx rfl (x2.1.2.2.1.ge (z1 _ _ (by omega)) (fun a j _ _ => z1 _ _ (by omega))) x2.1.2.2.2.2.2
  have noA : (lgK (r : Int) (hCat (hEg (lns hr).1) (lns hr).2.1.1 (lns hr).2.1.2.1)).length = 0 ↔ (lMo (lns hr)).1 = ((lns hr).1 r).1 := by
    rw [hEg_no]
    refine Iff.trans ⟨fun q r' r1 r2 => q r' (by omega) r2 r1, fun q r' r1 r2 r3 => q r' r3 r2⟩ edA
  rw [z1 (123 + 29 * hr) 1 (by omega), z1 (123 + 29 * x) 1 (by omega), b2.2.1.1, x2.2.1.1, f36, hr1, hA13, Option.bind_some] at e0
  have ne2 : ¬ ((lMo (lns hr)).1 = ((lns hr).1 r).1 ∧ (lMo (lns x)).1 = ((lns hr).1 r).1) → g326 f (x : Int) G = some (-2, G1) → ∃ v G' mt' lns', g326 f (x : Int) G = some (v, G') ∧ stMg T lns hr (x : Int) mt v mt' lns' ∧ rHb G' T m lns' hr n ∧ rMt G' mt' ∧ G' 0 74 = 0 ∧ G' 0 63 = G 0 63 ∧ xfMg G G' := fun q e => same (-2) e (.inr (.inl ⟨hmok, by rw [Int.toNat_natCast, hr1, Int.toNat_natCast]; exact q, rfl, rfl, rfl⟩))
  by_cases c6 : ¬ (((lMo (lns hr)).1 : Int) = ((lMo (lns x)).1 : Int))
  · refine ne2 (fun q => c6 (by rw [q.1, q.2])) ?_
    rw [e0, if_pos c6]
    rfl
  replace c6 : ((lMo (lns hr)).1 : Int) = ((lMo (lns x)).1 : Int) := Classical.not_not.mp c6
  rw [if_neg (fun q => q c6)] at e0
  by_cases c7 : 0 < ((lgK (r : Int) (hCat (hEg (lns hr).1) (lns hr).2.1.1 (lns hr).2.1.2.1)).length : Int)
  · refine ne2 (fun q => ?_) (by rw [e0, if_pos c7]; rfl)
    have := noA.mpr q.1
    omega
  rw [if_neg c7, hB13, Option.bind_some] at e0
  have eA : (lMo (lns hr)).1 = ((lns hr).1 r).1 := noA.mp (by omega)
  have eB : (lMo (lns x)).1 = ((lns hr).1 r).1 := by omega
  have noB : (lgK (r : Int) (hCat (hEg (lns x).1) (lns x).2.1.1 (lns x).2.1.2.1)).length = 0 := by
    rw [hEg_no]
    have : (lMo (lns x)).1 = ((lns x).1 r).1 := by rw [eB, hr4]
    intro r' r1 r2 r3
    exact edB.mpr this r' r3 r2
  rw [if_pos (by omega)] at e0
  simp only [] at e0
  -- load
  obtain ⟨G2, q, c, s, Ma, k1, k2, k3, k4, k5, k6, k7⟩ := l_ld0 hf hh
  have k1' : g296 f G1 = some G2 := k1
  rw [k1', Option.bind_some] at e0
  have hok := k2.2.2.1
  have hnp := hok.1.1
  obtain ⟨sa, Ma', aa1, aa2, aa3⟩ := k4.l1
  obtain ⟨ea1, ea2⟩ := isMo_u k2 aa1
  subst ea1
  obtain ⟨sb, Mb', bb1, bb2, bb3⟩ := k4.2.2.2.2.1 x hx
  -- the three moments have one program
  obtain ⟨s1, Ma1, u1, u2⟩ := ia1 ((lns hr).2.1.1 + (lns hr).2.1.2.1) (by omega) (Nat.le_refl _)
  obtain ⟨s2, Mb, v1, v2⟩ := ib1 ((lns x).2.1.1 + (lns x).2.1.2.1) (by omega) (Nat.le_refl _)
  obtain ⟨s3, Mz, w1, w2⟩ := ia1 r (by omega) hr2
  have es1 : s1 = s := by
    have e1 := u1.2.1
    have e2 := k2.2.1
    rw [e2] at e1
    exact (Sum.inr.inj e1).symm
  have es2 : s2 = s := by
    have e1 : qPr (T.getD (lMo (lns x)).1 []) = .inr s2 := v1.2.1
    have e2 := k2.2.1
    rw [eB, ← eA, e2] at e1
    exact (Sum.inr.inj e1).symm
  have es3 : s3 = s := by
    have e1 : qPr (T.getD ((lns hr).1 r).1 []) = .inr s3 := w1.2.1
    have e2 := k2.2.1
    rw [← eA, e2] at e1
    exact (Sum.inr.inj e1).symm
  subst es1
  subst es2
  subst es3
  -- goBack
  have hst := aa3.2.1
  have hfc := aa3.fc
  have r1 := aa2.1
  have r2 := aa2.2.1.1
  have r6 := aa2.2.2.1
  rw [hk'] at hst hfc r1 r2 r6
  obtain ⟨G3, t1, t2, t3⟩ := l_311 (f := f) (o := 123 + 29 * hr) (h := hr) (G := G2) (H := (lns hr).1) (b := (lns hr).2.1.1) (i := i) (k := k') (by omega) a4 rfl r1 hst hfc r2 r6
  rw [← hi] at t1 t2
  rw [t1, Option.bind_some] at e0
  simp only [] at e0
  have z3 : ∀ a j, ¬ (253 ≤ a ∧ a ≤ 256) → G3 a j = G2 a j := fun a j q => t3 a j (by omega) (by omega) (by omega) (by omega)
  have hP3 : rPr G3 2 q c s3 := k3.1.ge (fun j => z3 _ _ (by omega)) (fun a j _ _ _ _ _ => z3 _ _ (by omega))
  have hA3 : rFa G3 (123 + 29 * hr + 1) (lMo (lns hr)).2.1 := aa2.2.2.1.ge (z3 _ _ (by omega)) (fun a j _ _ => z3 _ _ (by omega))
  have hB3 : rFa G3 (123 + 29 * x + 1) (lMo (lns x)).2.1 := bb2.2.2.1.ge (z3 _ _ (by omega)) (fun a j _ _ => z3 _ _ (by omega))
  have hps3 : rPe G3 (123 + 29 * hr) (lns hr).2.2.2.1.1 := (aa2.2.2.2.2.2.2.2.2.2.1.1).ge' (fun a j _ _ => z3 _ _ (by omega))
  have ifa : isFb (123 + 29 * hr + 1) := by unfold isFb; omega
  have ifb : isFb (123 + 29 * x + 1) := by unfold isFb; omega
  have hH3 : rHb G3 T m lns hr n := k4.ge (fun j _ => z3 _ _ (by omega)) (fun a j _ _ => z3 _ _ (by omega)) (fun a j _ _ => z3 _ _ (by omega)) (fun a j _ _ _ => z3 _ _ (by omega))
  have hmt3 : rMt G3 mt := hmt.ge (fun j q => by rw [z3 _ _ (by omega), k7 _ _ (by omega) (by omega) (by omega) (by omega) (by omega)]) (fun j => by rw [z3 _ _ (by omega), k7 _ _ (by omega) (by omega) (by omega) (by omega) (by omega)])
  have y74 : G3 0 74 = 0 := by rw [z3 _ _ (by omega)]; exact k5
  have y63 : G3 0 63 = G 0 63 := by rw [z3 _ _ (by omega)]; exact k6
  have yfr : xfMg G G3 := fun a j q1 q2 q3 q4 => by rw [z3 _ _ (by omega), k7 _ _ (by omega) q2 q3 (by omega) (by omega)]
  have hwk : ∀ p, p < s3.1.length → pIn s3.2.1 (p : Int) = true → 0 < qKy s3 p → wKf (lMo (lns hr)).2.1 (qNm s3 p) (qKy s3 p) (qN s3 p) ∧ wKf (lMo (lns x)).2.1 (qNm s3 p) (qKy s3 p) (qN s3 p) ∧ wKf ((lns hr).1 r).2.1 (qNm s3 p) (qKy s3 p) (qN s3 p) := fun p hp hi hk => ⟨wKf_of hok u1.2.2.2.2.1.1.1 u1.2.2.2.2.2.1 u2 hp hi hk, wKf_of hok v1.2.2.2.2.1.1.1 v1.2.2.2.2.2.1 v2 hp hi hk, wKf_of hok w1.2.2.2.2.1.1.1 w1.2.2.2.2.2.1 w2 hp hi hk⟩
  have hmeet := l_327_2 (f := f) (G := G3) (a := 123 + 29 * hr) (b := 123 + 29 * x) (A := (lMo (lns hr)).2.1) (B := (lMo (lns x)).2.1) (Z := ((lns hr).1 r).2.1) (by omega) ifa ifb (by omega) hok (fun p hp hi => Nat.le_of_lt (key_lt k2.2.1 hok hp hi)) hA3 hB3 t2 hP3 hwk s3.1.length 0 f (by omega) (by omega) (fun p hp => absurd hp (Nat.not_lt_zero p))
  have ern : (lns (x : Int).toNat).2.2.2.2.2.toNat = r := by rw [Int.toNat_natCast, hr1, Int.toNat_natCast]
  rcases hmeet with ⟨m1, m2⟩ | ⟨p, κ, G4, m1, m2, m3, m4⟩
  · have m1' : g327 f (123 + 29 * hr) (123 + 29 * x) G3 = some (0, G3) := m1
    rw [m1', Option.bind_some, if_pos rfl] at e0
    have lB : (lMo (lns x)).2.1.length ≤ 1600 := v1.2.2.2.2.2.1.len hnp v1.2.2.2.2.1.1.1
    have lZ : ((lns hr).1 r).2.1.length ≤ 1600 := w1.2.2.2.2.2.1.len hnp w1.2.2.2.2.1.1.1
    have hdA : dfB s3 (lMo (lns x)).2.1 ((lns hr).1 r).2.1 0 s3.1.length = dfA s3 (lMo (lns x)).2.1 ((lns hr).1 r).2.1 s3.1.length := by
      have := dfB_A (s := s3) (B := (lMo (lns x)).2.1) (Z := ((lns hr).1 r).2.1) s3.1.length 0
      rw [Nat.zero_add] at this
      exact this
    have hdl : (dfB s3 (lMo (lns x)).2.1 ((lns hr).1 r).2.1 0 s3.1.length).length ≤ 51200 := by
      have h1 := dfB_len (s := s3) (B := (lMo (lns x)).2.1) (Z := ((lns hr).1 r).2.1) s3.1.length 0
      have h2 : s3.1.length * ((lMo (lns x)).2.1.length + ((lns hr).1 r).2.1.length) ≤ 16 * 3200 := Nat.mul_le_mul hnp (by omega)
      omega
    obtain ⟨G4, d1, d2, d3⟩ := l_326_153 (f := f) (B := (lMo (lns x)).2.1) (Z := ((lns hr).1 r).2.1) (o := 123 + 29 * hr) (h := hr) (b := 123 + 29 * x) (q := q) (c := c) (s := s3) (ps := (lns hr).2.2.2.1.1) (by omega) a4 rfl ifb (by omega) v1.2.2.2.2.2.1.1 w1.2.2.2.2.2.1.1 hok s3.1.length 0 f 0 G3 (by omega) (by omega) hB3 t2 hP3 hps3 (by rw [Nat.zero_add]; exact Nat.le_trans hdl (by decide))
    rw [hdA, Nat.zero_add] at d1
    -- the house behind CHANGES
    have house : ∀ (G5 : xG_) (ps : List pPe), xfq (123 + 29 * hr) G3 G5 → rPe G5 (123 + 29 * hr) ps → (∀ e ∈ ps, ∀ y ∈ e.2.2, vOk y) → rHb G5 T m (fun y => if y = hr then lnP (lns y) ps else lns y) hr n ∧ rMt G5 mt ∧ G5 0 74 = 0 ∧ G5 0 63 = G 0 63 ∧ xfMg G G5 := fun G5 ps hq hp hv => by
      have zq : ∀ a j, a < 123 ∨ 238 < a → G5 a j = G3 a j := fun a j y => hq a j (by omega) (by omega) (by omega) (by omega) (by omega)
      obtain ⟨j1, j2, j3, j4, j5, j6, j7, j8, j9⟩ := hH3
      refine ⟨rHb.of ⟨j1.ge (fun j _ _ => zq _ _ (by omega)), j2.ge (zq _ _ (by omega)) (zq _ _ (by omega)) (fun a j _ => zq _ _ (by omega)), fun y hy => ?_⟩ (by rw [zq _ _ (by omega)]; exact j3) j4 (by rw [zq _ _ (by omega)]; exact j6) (by rw [zq _ _ (by omega)]; exact j7) (by rw [zq _ _ (by omega), zq _ _ (by omega)]; exact j8) ?_, hmt3.ge (fun j _ => zq _ _ (by omega)) (fun j => zq _ _ (by omega)), by rw [zq _ _ (by omega)]; exact y74, by rw [zq _ _ (by omega)]; exact y63, fun a j q1 q2 q3 q4 => by rw [zq _ _ (by omega)]; exact yfr a j q1 q2 q3 q4⟩
      · obtain ⟨s', M', l1, l2, l3⟩ := j5 y hy
        by_cases cy : y = hr
        · simp only [if_pos cy]
          rw [cy] at l1 l2 l3 ⊢
          exact ⟨s', M', l1, l2.pe (fun a j _ _ y1 y2 y3 y4 y5 => hq a j y1 y2 y3 y4 y5) hp, l3.pe hv⟩
        · simp only [if_neg cy]
          exact ⟨s', M', l1, l2.ge (fun a j _ _ => hq a j (by omega) (by omega) (by omega) (by omega) (by omega)), l3⟩
      · have hl := j9.ge (G' := G5) (fun j _ _ => zq _ _ (by omega)) (fun a j _ _ => zq _ _ (by omega)) (fun a j _ _ => zq _ _ (by omega))
        intro e1 y hy e2 s' M' hM
        refine hl e1 y hy e2 s' M' ?_
        by_cases cy : y = hr
        · simp only [if_pos cy] at hM
          exact hM
        · simp only [if_neg cy] at hM
          exact hM
    by_cases c8 : (lns hr).2.2.2.1.1.length + (dfA s3 (lMo (lns x)).2.1 ((lns hr).1 r).2.1 s3.1.length).length ≤ 400
    · rw [if_pos c8] at d1
      obtain ⟨G5, g1, g2, g3⟩ := l_326_220 (f := f) (B := (lMo (lns x)).2.1) (Z := ((lns hr).1 r).2.1) (o := 123 + 29 * hr) (h := hr) (b := 123 + 29 * x) (q := q) (c := c) (s := s3) (by omega) a4 rfl ifb (by omega) v1.2.2.2.2.2.1.1 w1.2.2.2.2.2.1.1 hok s3.1.length 0 f 0 G4 (lns hr).2.2.2.1.1 (by omega) (by omega) (hB3.q d3 (by omega)) (t2.q d3 (by omega)) (hP3.ge (fun j => d3 _ _ (by omega) (by omega) (by omega) (by omega) (by omega)) (fun a j _ _ _ _ _ => d3 _ _ (by omega) (by omega) (by omega) (by omega) (by omega))) d2 (by rw [hdA]; exact c8) (by rw [Nat.zero_add]; exact Nat.le_trans hdl (by decide))
      rw [hdA, Nat.zero_add] at g1
      rw [hdA] at g2
      obtain ⟨o1, o2, o3, o4, o5⟩ := house G5 _ (fun a j y1 y2 y3 y4 y5 => (g3 a j y1 y2 y3 y4 y5).trans (d3 a j y1 y2 y3 y4 y5)) g2 (fun e he => by
        rcases List.mem_append.mp he with q | q
        · exact aa3.2.2.2.2.2.2.2.1 e q
        · refine dfA_v (fun y hy => ?_) (fun y hy => ?_) s3.1.length e q
          · obtain ⟨p', p1, p2, w, p3, p4⟩ := (v1.2.2.2.2.2.1.2 y).mp hy
            rw [← p4]
            exact ((v1.2.2.2.2.1.1.1 p' p1).2.2 w p3).2
          · obtain ⟨p', p1, p2, w, p3, p4⟩ := (w1.2.2.2.2.2.1.2 y).mp hy
            rw [← p4]
            exact ((w1.2.2.2.2.1.1.1 p' p1).2.2 w p3).2)
      refine ⟨_, G5, mt, _, (e0.trans d1).trans g1, .inr (.inr ⟨hmok, s3, Ma1, Mb, Mz, u1, by rw [Int.toNat_natCast]; exact v1, by rw [ern]; exact w1, by rw [ern, Int.toNat_natCast]; exact ⟨⟨eA, eB⟩, hwk⟩, .inr ⟨by rw [ern, Int.toNat_natCast]; exact m2, rfl, .inr ⟨by rw [ern, Int.toNat_natCast]; exact c8, by rw [ern, Int.toNat_natCast], by rw [ern, Int.toNat_natCast]⟩⟩⟩), o1, o2, o3, o4, o5⟩
    · rw [if_neg c8] at d1
      obtain ⟨o1, o2, o3, o4, o5⟩ := house G4 (lns hr).2.2.2.1.1 d3 d2 aa3.2.2.2.2.2.2.2.1
      have el : (fun y => if y = hr then lnP (lns y) (lns hr).2.2.2.1.1 else lns y) = lns := by
        funext y
        by_cases cy : y = hr
        · rw [if_pos cy, cy]; rfl
        · rw [if_neg cy]
      rw [el] at o1
      exact ⟨-4, G4, mt, lns, e0.trans d1, .inr (.inr ⟨hmok, s3, Ma1, Mb, Mz, u1, by rw [Int.toNat_natCast]; exact v1, by rw [ern]; exact w1, by rw [ern, Int.toNat_natCast]; exact ⟨⟨eA, eB⟩, hwk⟩, .inr ⟨by rw [ern, Int.toNat_natCast]; exact m2, rfl, .inl ⟨by rw [ern, Int.toNat_natCast]; omega, rfl, rfl⟩⟩⟩), o1, o2, o3, o4, o5⟩
  · have m1' : g327 f (123 + 29 * hr) (123 + 29 * x) G3 = some (1, G4) := m1
    have n9 : ¬ ((1 : Int), G4).1 = 0 := fun q => absurd (show (1 : Int) = 0 from q) (by decide)
    rw [m1', Option.bind_some, if_neg n9] at e0
    refine ⟨-3, G4, ((p : Int), κ), lns, e0, .inr (.inr ⟨hmok, s3, Ma1, Mb, Mz, u1, by rw [Int.toNat_natCast]; exact v1, by rw [ern]; exact w1, by rw [ern, Int.toNat_natCast]; exact ⟨⟨eA, eB⟩, hwk⟩, .inl ⟨p, κ, by rw [ern, Int.toNat_natCast]; exact m2, rfl, rfl, rfl⟩⟩), hH3.ge (fun j _ => m4 _ _ (by omega) (by omega)) (fun a j _ _ => m4 _ _ (by omega) (by omega)) (fun a j _ _ => m4 _ _ (by omega) (by omega)) (fun a j _ _ _ => m4 _ _ (by omega) (by omega)), m3, by rw [m4 _ _ (by omega) (by omega)]; exact y74, by rw [m4 _ _ (by omega) (by omega)]; exact y63, fun a j q1 q2 q3 q4 => by rw [m4 _ _ (by omega) (by omega)]; exact yfr a j q1 q2 q3 q4⟩
end
