/-! THE CLASS: gather(), all its turns -/
section
variable {f u np nv a p gO gA n dd : Nat} {S : Nat → Nat × Nat × Nat} {m : Nat × Nat} {K : pCd} {Ls : List pLt} {pl : List Nat} {qn xp cp : Nat → Nat} {R : Nat → List pRw} {I : List pCd} {g : Int × Int × Int} {kk : Int}
theorem vec_mem {v : Nat → Int} {k : Nat} (hk : k < nv) : v k ∈ vec nv v := by
  have e := vec_get (nv := nv) (v := v) hk
  have hl : k < (vec nv v).length := by rw [vec_len]; exact hk
  rw [getD_e hl] at e
  rw [← e]
  exact List.getElem_mem hl
theorem ps_99 {G G' : xG_} (hp : cPs G) (z0 : ∀ b j, ¬ (b = 99 ∧ j ≤ 1) → G' b j = G b j) : cPs G' := hp.ge (fun b j hz => z0 b j (by
  rcases hz with z | z | z | z | z | z | z | ⟨z, z1, z2, k, z3⟩ | z | z | z | ⟨k, z1, z2, z3⟩ <;> omega))
theorem gr_z0 {G : xG_} (hs : cSs S) (hp : cPs G) (hn : n ≤ 4) (h0 : G 99 0 = (n : Int)) (h1 : G 99 1 = 0) : cGr S G n [] := by
  refine ⟨[], ⟨s99 hs, ⟨2048, s100 hs, by omega, by omega⟩, s101 hs, ⟨h0, h1, p99_2 hp, p99_3 hp⟩, Nat.zero_le _, Nat.le_refl _, by omega, fun i hi => absurd hi (Nat.not_lt_zero i)⟩, rfl, fun i hi => absurd hi (Nat.not_lt_zero i), fun i j _ hj => absurd hj (Nat.not_lt_zero j)⟩
theorem k_157t (hf : 100003010 < f) (hp16 : p < 16) (hxp : ∀ q, q < np → ∀ b, xp q ≤ b → b ≤ xp q + 2 → ¬ (111 + 6 * p ≤ b ∧ b ≤ 113 + 6 * p)) (hnI : I.length = n) (hn : n ≤ 4) (hgA : gA < n) (hwI : wIe nv I (gA : Int)) (hkk : kk = 1 ∨ kk = 2 ∨ kk = 3 ∨ kk = 4) (hO : kk ≠ 1 → gO < nv) (hat : pAtoms Ls ≤ 3) (hsf : sfe Ls nv) (hnd : pl.Nodup) (hpB : plB Ls pl 0 = some dd) (hr : ∀ l, l < Ls.length → (Ls.getD l dLt).1 ≠ 3 → ∀ r ∈ R (Ls.getD l dLt).2.1.toNat, 0 ≤ r.2 ∧ r.2 ≤ 1700) :
    ∀ (d fu t : Nat) (last : Option (List Int)) (G : xG_) (F : List pRw) (cm mo : Int), (mo = 1 → ∀ V, isAll Ls nv R qO1 V → V.countP (fun v => (gKy kk (gO : Int) I (gA : Int) last (vF v)).isSome) ≤ d) → d + 1 < fu → t + d + 1 < 10000000 → cWX S G u K Ls pl np nv a qn xp cp R → cIt G u K g I → G u 3 = (gA : Int) → G u 4 = kk + 9 → (kk ≠ 1 → G u 5 = (gO : Int)) → G u 0 = (p : Int) → cRw S G (108 + 6 * p) n 100 [] → cRw S G (111 + 6 * p) n 100 F → F.Pairwise rwLt → (∀ r ∈ F, r.2 = 0) → G 93 15 = cm → 0 ≤ cm → cm ≤ 9000000 + (F.length : Int) → (mo = 0 ∨ mo = 1) → (mo = 1 → cLa G n t last) →
      ∃ v G', c157_4 f fu 93 u mo (t : Int) (S, G, m) = some (v, (S, G', m)) ∧ (∀ b j, ¬ (83 ≤ b ∧ b ≤ 92) → ¬ (99 ≤ b ∧ b ≤ 105) → ¬ (b = 93 ∧ j = 15) → ¬ (111 + 6 * p ≤ b ∧ b ≤ 113 + 6 * p) → G' b j = G b j) ∧ cPs G' ∧ gvO S G' p n [] F cm (fun z => mo = 1 ∧ ∃ ks, gDs Ls nv R qO1 kk (gO : Int) I gA ks z ∧ gLa last ks = some ks) v := by
  have hwE : ∀ k, k < I.length → (k : Int) ≠ (gA : Int) → wEx nv (I.getD k []) := fun k h1 h2 => (hwI k h1 h2).1
  intro d
  induction d using Nat.strongRecOn with
  | _ d ih =>
    intro fu t last G F cm mo hcnt hfu ht hX hI h3 h4 h5 h0 hM hF hFs hF0 hcm hc0 hc1 hmo hla
    obtain ⟨fu, rfl⟩ : ∃ t, fu = t + 1 := ⟨fu - 1, by omega⟩
    rcases hmo with rfl | rfl
    · exact ⟨1, G, st_157w (r4 := c157_4 f fu) (by omega), fun _ _ _ _ _ _ => rfl, hX.1.2.1, gvO.no hF hFs hF0 hcm (fun xs hD _ => absurd hD.1 (by decide))⟩
    · have hs := hX.1.1
      have hp := hX.1.2.1
      have hu : 278 < u := hX.2.1.2.2.2.2.1
      have us : S u = (1, 6, 20) := hX.2.1.1.1
      have hnv := hX.2.2.1.1
      have h2 : G u 2 = (n : Int) := by rw [hI.1, hnI]
      obtain ⟨G0, hG0⟩ : ∃ G0, G0 = xup2 (xup2 G 99 0 (n : Int)) 99 1 0 := ⟨_, rfl⟩
      have z0 : ∀ b j, ¬ (b = 99 ∧ j ≤ 1) → G0 b j = G b j := fun b j y => by rw [hG0, xup2_n (by omega), xup2_n (by omega)]
      have hp0 : cPs G0 := ps_99 hp z0
      obtain ⟨G1, e1, e2, e3, e4, e5, e6, e7, e8, e9, e10, e11⟩ := k_130 (u := u) (fa := 94) (m := m) (G := G0) (f := f) (by omega) hs hp0 (.inl rfl)
      have f1 : ∀ b j, ¬ (83 ≤ b ∧ b ≤ 92) → ¬ (b = 99 ∧ j ≤ 1) → G1 b j = G b j := fun b j y1 y2 => by rw [e2 b j (by omega) (by omega) (by omega) (by omega), z0 b j y2]
      have hX0 : cWX S G0 u K Ls pl np nv a qn xp cp R := hX.ge hp0 (fun q hq b b1 b2 j => z0 b j (by have := (hX.2.2.2.2 q hq).2.1; omega)) (fun j => z0 _ _ (by omega)) (fun a j y => z0 a j (by omega))
      have hE : cWE S G1 u K Ls pl 94 16 np nv a 0 qn xp cp R (fun _ => 0) (fun _ => 1700) := hX0.we e2 e3 e4 e5 e6 (fun l hl => ⟨e10 l hl, e11 l hl⟩)
      obtain ⟨V, k, Bf, w1, w2, w3, w4, w5, w6, _⟩ := ways_start hE e7 e8 (b := 0) (vl := fun _ => 0) ⟨e9, by decide, fun k hk => by rw [Nat.zero_testBit] at hk; cases hk⟩ hat hsf hnd hpB
      obtain ⟨w7, w8⟩ := w6 rfl
      have hall : isAll Ls nv R qO1 (V.map (vec nv)) := all_of (np := np) (lo := fun _ => 0) (hi := fun _ => 1700) (fun y hy => (hX.2.2.1.2.1 y hy).1) w4 (ways_bits hE e7 e8 e9 w3) hr (fun v hv => (w5 v hv).2) w7 (fun w hw => w8 w (fun j hj => by rw [Nat.zero_testBit] at hj; cases hj) hw)
      have hval : ∀ v ∈ V, -3000000000000 ≤ gXv kk (gO : Int) v ∧ gXv kk (gO : Int) v ≤ 3000000000000 := fun v hv => by
        unfold gXv
        by_cases c : kk = 1
        · rw [if_pos c]; decide
        · rw [if_neg c, Int.toNat_natCast]
          have hw := (hall.2 (vec nv v)).mp (List.mem_map_of_mem hv)
          rcases isW_ok (np := np) hnv (fun y hy => ⟨(hX.2.2.1.2.1 y hy).1, fun q => ((hX.2.2.1.2.1 y hy).2 q).1⟩) hsf (fun q hq => (hX.2.2.2.2 q hq).2.2.2.2.2) hw (v gO) (vec_mem (hO c)) with q | q <;> omega
      have h99 : G1 99 0 = (n : Int) ∧ G1 99 1 = 0 := by
        rw [e2 _ _ (by omega) (by omega) (by omega) (by omega), e2 _ _ (by omega) (by omega) (by omega) (by omega), hG0]
        exact ⟨by rw [xup2_n (by omega), xup2_s], xup2_s _ _ _ _⟩
      have la1 : cLa G1 n t last := by
        rcases hla rfl with q | ⟨ys, y1, y2, y3, y4⟩
        · exact .inl q
        · exact .inr ⟨ys, y1, y2, y3, fun c hc => by rw [f1 _ _ (by omega) (by omega)]; exact y4 c hc⟩
      have st : c157_4 f (fu + 1) 93 u 1 (t : Int) (S, G, m) = c157_43 (c157_4 f fu) f f 93 u 0 (t : Int) 0 (S, G1, m) := st_157x hs hp us hu (by omega) h2 (by rw [← hG0]; exact hp0) (by rw [← hG0]; exact e1)
      obtain ⟨G2, j1, j2, j3⟩ := k_157p (r4 := c157_4 f fu) (m := m) (t := t) (last := last) (gO := gO) (g := g) hf (fun q hq => by have := (hX.2.2.2.2 q hq).2.1; omega) hnI hn hwI w4 hkk hnv V k 0 f G1 [] [] 0 hE w3 w1 (by omega) (by omega) (hI.fx hu (fun b j y => f1 b j (by omega) (by omega))) (by rw [f1 _ _ (by omega) (by omega)]; exact h3) (by rw [f1 _ _ (by omega) (by omega)]; exact h4) (fun c => ⟨by rw [f1 _ _ (by omega) (by omega)]; exact h5 c, hO c⟩) la1 (gr_z0 hs e3 hn h99.1 h99.2) (gIw_0 512 kk) (fun y => by cases y) (by rw [List.length_nil]; omega) (fun v hv => hval v (hv.resolve_left (fun q => nomatch q)))
      have f2 : ∀ b j, ¬ (83 ≤ b ∧ b ≤ 92) → ¬ (99 ≤ b ∧ b ≤ 103) → G2 b j = G b j := fun b j y1 y2 => by rw [j2 b j y1 y2, f1 b j y1 (by omega)]
      rcases j3 with ⟨L', mo', i1, i2, i3, i4⟩ | ⟨c2, i1, Ks, i2, i3, i4⟩
      · rw [List.nil_append] at i2
        obtain ⟨v1, v2, v3, v4, v5, v6⟩ := i2
        have hlen : ∀ j, j < L'.length → (L'.getD j dRw).1.length = n := fun j hj => by
          obtain ⟨T, t1, t2, t3, _⟩ := i4
          rw [← (t3 j hj).1]
          exact (t1.2.2.2.2.2.2.2 j (by omega)).1
        -- a group of L' is a group of all WAYS
        have grp : ∀ y, y ∈ L' → gLa last y.1 = some y.1 ∧ ∀ zs, gRo kk gA y.1 y.2 = some zs → gDs Ls nv R qO1 kk (gO : Int) I gA y.1 zs := fun y hy => by
          obtain ⟨x1, x2⟩ := v4 y hy
          obtain ⟨v, x3, x4⟩ := gVs_ne x1
          have x5 := (gKy_iff.mp x4).2
          refine ⟨x5, fun zs hz => (gDs_V hwE hO hall).mpr ⟨?_, ?_⟩⟩
          · rw [← gVs_lf x5]; exact x1
          · rw [← gVs_lf x5, ← x2]; exact hz
        have cov : ∀ ks z, gDs Ls nv R qO1 kk (gO : Int) I gA ks z → gLa last ks = some ks → (∃ j, 0 ≤ j ∧ j < L'.length ∧ gRo kk gA (L'.getD j dRw).1 (L'.getD j dRw).2 = some z) ∨ (mo' = 1 ∧ L'.length = 512 ∧ ∀ y ∈ L', vLt y.1 ks) := fun ks z hz hl => by
          obtain ⟨x1, x2⟩ := (gDs_V hwE hO hall).mp hz
          obtain ⟨v, x3, x4⟩ := gVs_ne x1
          rcases v5 v x3 ks (gKy_iff.mpr ⟨x4, hl⟩) with ⟨w, hw⟩ | q
          · obtain ⟨j, hj, ej⟩ := mem_get.mp hw
            refine .inl ⟨j, Nat.zero_le _, hj, ?_⟩
            rw [ej]
            show gRo kk gA ks w = some z
            have x5 : w = gAg kk (gVs (gKy kk (gO : Int) I (gA : Int) last) (gXv kk (gO : Int)) V ks) := (v4 _ hw).2
            rw [x5, gVs_lf hl]
            exact x2
          · exact .inr q
        obtain ⟨v, G3, x1, x2, x3, x4, x5⟩ := k_161l (m := m) (kk := kk) (gA := gA) (L := L') (M := []) (f := f) (by omega) hs hp16 hn us hu hgA List.Pairwise.nil v2 L'.length 0 f G2 F cm (by omega) (by omega) j1.1.2.1 i4 (by rw [f2 _ _ (by omega) (by omega)]; exact h4) (by rw [f2 _ _ (by omega) (by omega)]; exact h3) (by rw [f2 _ _ (by omega) (by omega)]; exact h0) (hM.ge (fun _ _ _ => rfl) (fun j => f2 _ _ (by omega) (by omega)) (fun j => f2 _ _ (by omega) (by omega)) (fun j => f2 _ _ (by omega) (by omega))) (hF.ge (fun _ _ _ => rfl) (fun j => f2 _ _ (by omega) (by omega)) (fun j => f2 _ _ (by omega) (by omega)) (fun j => f2 _ _ (by omega) (by omega))) hFs hF0 (by rw [f2 _ _ (by omega) (by omega)]; exact hcm) hc0 (by have := hF.2.2.2.2.1; omega)
        have f3 : ∀ b j, ¬ (83 ≤ b ∧ b ≤ 92) → ¬ (99 ≤ b ∧ b ≤ 105) → ¬ (b = 93 ∧ j = 15) → ¬ (111 + 6 * p ≤ b ∧ b ≤ 113 + 6 * p) → G3 b j = G b j := fun b j y1 y2 y3 y4 => by rw [x2 b j (by omega) (by omega) y3 y4, f2 b j y1 (by omega)]
        have st2 := (st.trans i1).trans (st_157e (v := v) (G1 := G3) (r4 := c157_4 f fu) (u := u) (mo := mo') (t := t) (f := f) hs x1 (by rw [xwr_g _ (by omega) (by omega)]; omega))
        rcases x4 with ⟨a1, F', a2, a3, a4, a5, a6, a7⟩ | ⟨a1, W, a2, a3, a4⟩
        · rw [if_neg (by omega)] at st2
          have hF'l := a2.2.2.2.2.1
          rcases v3 with m0 | m0
          · subst m0
            obtain ⟨fu, rfl⟩ : ∃ t, fu = t + 1 := ⟨fu - 1, by omega⟩
            have st3 := st2.trans (st_157w (r4 := c157_4 f fu) (f := f) (u := u) (t := t + 1) (by omega))
            refine ⟨1, G3, st3, f3, x3, .inl ⟨rfl, F', a2, a3, a4, a5, a6, fun xs => (a7 xs).trans (or_congr Iff.rfl (and_congr Iff.rfl ⟨fun ⟨j, _, j1, j2⟩ => ?_, fun ⟨_, ks, k1, k2⟩ => ?_⟩))⟩⟩
            · have hy := grp _ (mem_get.mpr ⟨j, j1, rfl⟩)
              exact ⟨rfl, _, hy.2 xs j2, hy.1⟩
            · rcases cov ks xs k1 k2 with q | ⟨q, _⟩
              · exact q
              · cases q
          · subst m0
            have hl5 := v6 rfl
            have hlast : L'.getD (L'.length - 1) dRw ∈ L' := mem_get.mpr ⟨L'.length - 1, by omega, rfl⟩
            have hmax : ∀ y ∈ L', ¬ vLt (L'.getD (L'.length - 1) dRw).1 y.1 := fun y hy q => by
              obtain ⟨j, hj, ej⟩ := mem_get.mp hy
              by_cases cj : j = L'.length - 1
              · rw [cj] at ej; rw [ej] at q; exact vLt_irr _ q
              · have h' : vLt (L'.getD j dRw).1 (L'.getD (L'.length - 1) dRw).1 := srt_get (d := dRw) v1 (by omega) (by omega)
                rw [ej] at h'
                exact vLt_irr _ (vLt_tr h' q)
            have hgl := (grp _ hlast).1
            have cnt : ∀ V', isAll Ls nv R qO1 V' → V'.countP (fun v => (gKy kk (gO : Int) I (gA : Int) (some (L'.getD (L'.length - 1) dRw).1) (vF v)).isSome) < V'.countP (fun v => (gKy kk (gO : Int) I (gA : Int) last (vF v)).isSome) := fun V' hV' => by
              refine countP_lt V' (fun v hv hp => ?_) ?_
              · obtain ⟨xs, hx⟩ := Option.isSome_iff_exists.mp hp
                obtain ⟨y1, y2⟩ := gKy_iff.mp hx
                exact Option.isSome_iff_exists.mpr ⟨xs, gKy_iff.mpr ⟨y1, gLa_tr hgl (gLa_lt.mp y2)⟩⟩
              · obtain ⟨y1, y2⟩ := v4 _ hlast
                obtain ⟨v, y3, y4⟩ := gVs_ne y1
                have y5 := (gKy_xt (kk := kk) (gO := (gO : Int)) (last := last) (v := vF (vec nv v)) (w := v) hwE (fun c => ⟨Int.natCast_nonneg _, by have := hO c; omega⟩) (fun k hk => vec_vF hk)).2
                rw [y4] at y5
                refine ⟨vec nv v, (hV'.2 _).mpr ((hall.2 _).mp (List.mem_map_of_mem y3)), by rw [y5]; rfl, ?_⟩
                cases hq : gKy kk (gO : Int) I (gA : Int) (some (L'.getD (L'.length - 1) dRw).1) (vF (vec nv v)) with
                | none => rfl
                | some xs =>
                  exfalso
                  obtain ⟨q1, q2⟩ := gKy_iff.mp hq
                  have q3 := (gKy_iff.mp y5).1
                  rw [q3] at q1
                  injection q1 with q1
                  rw [← q1] at q2
                  exact vLt_irr _ (gLa_lt.mp q2)
            have hd : (V.map (vec nv)).countP (fun v => (gKy kk (gO : Int) I (gA : Int) (some (L'.getD (L'.length - 1) dRw).1) (vF v)).isSome) < d := Nat.lt_of_lt_of_le (cnt _ hall) (hcnt rfl _ hall)
            obtain ⟨v', G4, b1, b2, b3, b4⟩ := ih _ hd fu (t + 1) (some (L'.getD (L'.length - 1) dRw).1) G3 F' (cm + ((F'.length - F.length : Nat) : Int)) 1 (fun _ V' hV' => by rw [(hV'.perm hall).countP_eq]; exact Nat.le_refl _) (by omega) (by omega)
              (hX.ge x3 (fun q hq b y1 y2 j => f3 b j (by have := (hX.2.2.2.2 q hq).2.1; omega) (by have := (hX.2.2.2.2 q hq).2.1; omega) (by have := (hX.2.2.2.2 q hq).2.1; omega) (hxp q hq b y1 y2)) (fun j => f3 _ _ (by omega) (by omega) (by omega) (by omega)) (fun b j y => f3 b j (by omega) (by omega) (by omega) (by omega)))
              (hI.fx hu (fun b j y => f3 b j (by omega) (by omega) (by omega) (by omega))) (by rw [f3 _ _ (by omega) (by omega) (by omega) (by omega)]; exact h3) (by rw [f3 _ _ (by omega) (by omega) (by omega) (by omega)]; exact h4) (fun c => by rw [f3 _ _ (by omega) (by omega) (by omega) (by omega)]; exact h5 c) (by rw [f3 _ _ (by omega) (by omega) (by omega) (by omega)]; exact h0)
              (hM.ge (fun _ _ _ => rfl) (fun j => f3 _ _ (by omega) (by omega) (by omega) (by omega)) (fun j => f3 _ _ (by omega) (by omega) (by omega) (by omega)) (fun j => f3 _ _ (by omega) (by omega) (by omega) (by omega))) a2 a3 a4 a6 (by omega) (by omega) (.inr rfl) (fun _ => .inr ⟨_, rfl, by omega, hlen _ (by omega), fun c hc => x5 a1 (by omega) c hc⟩)
            refine ⟨v', G4, st2.trans b1, fun b j y1 y2 y3 y4 => by rw [b2 b j y1 y2 y3 y4, f3 b j y1 y2 y3 y4], b3, (gvO.add a5 rfl a7 b4).cg (fun xs _ => ?_)⟩
            constructor
            · rintro (⟨j, _, j1, j2⟩ | ⟨_, ks, k1, k2⟩)
              · have hy := grp _ (mem_get.mpr ⟨j, j1, rfl⟩)
                exact ⟨rfl, _, hy.2 xs j2, hy.1⟩
              · exact ⟨rfl, ks, k1, gLa_tr hgl (gLa_lt.mp k2)⟩
            · rintro ⟨_, ks, k1, k2⟩
              rcases cov ks xs k1 k2 with q | ⟨_, _, q⟩
              · exact .inl q
              · exact .inr ⟨rfl, ks, k1, gLa_lt.mpr (q _ hlast)⟩
        · rw [if_pos a1] at st2
          refine ⟨0, G3, st2, f3, x3, .inr ⟨rfl, W, a2, a3, fun xs hx => (a4 xs hx).imp id (fun ⟨q1, j, _, j1, j2⟩ => ⟨q1, rfl, _, (grp _ (mem_get.mpr ⟨j, j1, rfl⟩)).2 xs j2, (grp _ (mem_get.mpr ⟨j, j1, rfl⟩)).1⟩)⟩⟩
      · rw [List.nil_append] at i4
        obtain ⟨W, W1, W2, W3⟩ := g_over (by omega) hwE hO hall c2 i2 i3 i4
        refine ⟨0, G2, st.trans i1, fun b j y1 y2 _ _ => f2 b j y1 (by omega), j1.1.2.1, .inr ⟨rfl, W, W1, by rw [List.length_nil]; omega, fun xs hx => .inr ⟨fun r hr => (nomatch hr), rfl, W3 xs hx⟩⟩⟩
end
