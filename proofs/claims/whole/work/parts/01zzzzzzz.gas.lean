/-! GATHERING of the reference once more: what is found of a reason stays -/
section
variable {f n : Nat} {a : Int} {r15 : Int → xG_ → Option (Int × xG_)} {S : List pRw}
variable {kk : Int} {gA : Nat} {G0 : xG_} {Q : (List Int → Prop) → xG_ → Prop} {Stop : List Int → Prop}
theorem l_288_51s (hQ : ∀ D Z Z', Q D Z → Z' 0 43 = Z 0 43 → Z' 0 47 = Z 0 47 → Z' 0 54 = Z 0 54 → (∀ b j, 113 ≤ b → b ≤ 115 → Z' b j = Z b j) → Q D Z')
    (hG : ∀ D Z i S, xE G0 Z → Z 0 43 = 0 → rGr Z n S → i < S.length → Q D Z → (gRo kk gA (S.getD i dRw).1 (S.getD i dRw).2 = none → g289 f (i : Int) a Z = some (0, Z)) ∧ (∀ zs, gRo kk gA (S.getD i dRw).1 (S.getD i dRw).2 = some zs → (∃ Z', g289 f (i : Int) a Z = some (0, Z') ∧ Q (fun z => D z ∨ z = zs) Z' ∧ xG3 Z Z') ∨ (∃ Z', g289 f (i : Int) a Z = some (1, Z') ∧ Stop zs ∧ xG3 Z Z'))) :
    ∀ (d i fu : Nat) (Z : xG_) (D : List Int → Prop), i + d = S.length → d < fu → xE G0 Z → rGr Z n S → Q D Z →
      (∃ Z', g288_51 r15 f fu a (i : Int) Z = some (1, Z') ∧ (∃ j zs, j < S.length ∧ gRo kk gA (S.getD j dRw).1 (S.getD j dRw).2 = some zs ∧ Stop zs) ∧ xG3 Z Z') ∨ (∃ Z' D', g288_51 r15 f fu a (i : Int) Z = g288_83 r15 f a Z' ∧ xG3 Z Z' ∧ Q D' Z' ∧ (∀ z, D' z → D z ∨ ∃ j, i ≤ j ∧ j < S.length ∧ gRo kk gA (S.getD j dRw).1 (S.getD j dRw).2 = some z) ∧ (Z' 0 43 = 0 → ∀ z, (D z ∨ ∃ j, i ≤ j ∧ j < S.length ∧ gRo kk gA (S.getD j dRw).1 (S.getD j dRw).2 = some z) → D' z)) := by
  intro d
  induction d with
  | zero =>
    intro i fu Z D h1 h2 hE hS hD
    obtain ⟨fu, rfl⟩ : ∃ t, fu = t + 1 := ⟨fu - 1, by omega⟩
    refine .inr ⟨Z, D, ?_, fun _ _ _ _ => rfl, hD, fun z hz => .inl hz, fun _ z hz => hz.elim id (fun ⟨j, j1, j2, _⟩ => by omega)⟩
    show g288_51b r15 (g288_51 r15 f fu) f _ _ _ = _
    unfold g288_51b
    rw [hS.1, if_pos (by omega)]
  | succ d ih =>
    intro i fu Z D h1 h2 hE hS hD
    obtain ⟨fu, rfl⟩ : ∃ t, fu = t + 1 := ⟨fu - 1, by omega⟩
    have hl := hS.2.1
    have e3 : xwr ((i : Int) + 1) = ((i + 1 : Nat) : Int) := by rw [xwr_g _ (by omega) (by omega)]; omega
    by_cases c43 : Z 0 43 = 0
    · have n43 : ¬ ¬ Z 0 43 = 0 := fun q => q c43
      obtain ⟨g1, g2⟩ := hG D Z i S hE c43 hS (by omega) hD
      have step : ∀ b Z', g289 f (i : Int) a Z = some (b, Z') → g288_51 r15 f (fu + 1) a (i : Int) Z = if b = 0 then g288_51 r15 f fu a ((i + 1 : Nat) : Int) Z' else some (1, Z') := fun b Z' he => by
        show g288_51b r15 (g288_51 r15 f fu) f _ _ _ = _
        unfold g288_51b
        rw [hS.1, if_neg (by omega), if_neg n43, he, Option.bind_some, e3]
      have cont : ∀ Z' D1, g289 f (i : Int) a Z = some (0, Z') → xG3 Z Z' → Q D1 Z' → (∀ z, D1 z ↔ D z ∨ gRo kk gA (S.getD i dRw).1 (S.getD i dRw).2 = some z) → ((∃ Z', g288_51 r15 f (fu + 1) a (i : Int) Z = some (1, Z') ∧ (∃ j zs, j < S.length ∧ gRo kk gA (S.getD j dRw).1 (S.getD j dRw).2 = some zs ∧ Stop zs) ∧ xG3 Z Z') ∨ (∃ Z' D', g288_51 r15 f (fu + 1) a (i : Int) Z = g288_83 r15 f a Z' ∧ xG3 Z Z' ∧ Q D' Z' ∧ (∀ z, D' z → D z ∨ ∃ j, i ≤ j ∧ j < S.length ∧ gRo kk gA (S.getD j dRw).1 (S.getD j dRw).2 = some z) ∧ (Z' 0 43 = 0 → ∀ z, (D z ∨ ∃ j, i ≤ j ∧ j < S.length ∧ gRo kk gA (S.getD j dRw).1 (S.getD j dRw).2 = some z) → D' z))) := fun Z' D1 he hx hD1 hiff => by
        have hS' : rGr Z' n S := ⟨by rw [hx _ _ (by omega) (by omega)]; exact hS.1, hl, fun k hk => by
          obtain ⟨w1, w2, w3⟩ := hS.2.2 k hk
          exact ⟨w1, fun j hj => by rw [hx _ _ (by omega) (by omega)]; exact w2 j hj, by rw [hx _ _ (by omega) (by omega)]; exact w3⟩⟩
        have := ih (i + 1) fu Z' D1 (by omega) (by omega) (fun o j y1 y2 => by rw [hx o j (by omega) (by omega), hE o j y1 y2]) hS' hD1
        have st := step 0 Z' he
        rw [if_pos rfl] at st
        rw [← st] at this
        rcases this with ⟨Z2, u1, u2, u3⟩ | ⟨Z2, D2, u1, u2, u3, u4, u5⟩
        · exact .inl ⟨Z2, u1, u2, fun o j y1 y2 => by rw [u3 o j y1 y2, hx o j y1 y2]⟩
        · refine .inr ⟨Z2, D2, u1, fun o j y1 y2 => by rw [u2 o j y1 y2, hx o j y1 y2], u3, fun z hz => ?_, fun h z hz => u5 h z ?_⟩
          · rcases u4 z hz with q | ⟨j, j1, j2, j3⟩
            · rcases (hiff z).mp q with q | q
              · exact .inl q
              · exact .inr ⟨i, Nat.le_refl _, by omega, q⟩
            · exact .inr ⟨j, by omega, j2, j3⟩
          · rcases hz with q | ⟨j, j1, j2, j3⟩
            · exact .inl ((hiff z).mpr (.inl q))
            · by_cases cj : j = i
              · rw [cj] at j3; exact .inl ((hiff z).mpr (.inr j3))
              · exact .inr ⟨j, by omega, j2, j3⟩
      cases hk : gRo kk gA (S.getD i dRw).1 (S.getD i dRw).2 with
      | none =>
        exact cont Z D (g1 hk) (fun _ _ _ _ => rfl) hD (fun z => ⟨.inl, fun q => q.elim id (fun q => by rw [hk] at q; cases q)⟩)
      | some zs =>
        rcases g2 zs hk with ⟨Z', k1, k2, k3⟩ | ⟨Z', k1, k2, k3⟩
        · exact cont Z' _ k1 k3 k2 (fun z => by
            rw [hk]
            constructor
            · rintro (q | q)
              · exact .inl q
              · rw [q]; exact .inr rfl
            · rintro (q | q)
              · exact .inl q
              · injection q with q; exact .inr q.symm)
        · refine .inl ⟨Z', ?_, ⟨i, zs, by omega, hk, k2⟩, k3⟩
          rw [step 1 Z' k1, if_neg (by decide)]
    · refine .inr ⟨Z, D, ?_, fun _ _ _ _ => rfl, hD, fun z hz => .inl hz, fun h => absurd h c43⟩
      show g288_51b r15 (g288_51 r15 f fu) f _ _ _ = _
      unfold g288_51b
      rw [hS.1, if_neg (by omega), if_pos c43]
end
section
variable {f nv np r c : Nat} {a : Int} {l : List pLt} {I : List pCd} {gA : Nat} {kk gO : Int} {N : Nat → Nat} {R : Nat → List pRw} {K : Nat → Nat} {G0 : xG_} {Q : (List Int → Prop) → xG_ → Prop} {Stop : List Int → Prop}
theorem l_288_15s (hf : 6300 < f) (hr : r < 25) (hnv : nv ≤ 8) (hnp : np ≤ 16) (hc : c ≤ 6200) (hat : pAtoms l ≤ 3) (hw : ∀ y ∈ l, wLt np nv y ∧ (y.1 ≠ 3 → 0 ≤ y.2.1)) (hsafe : ∀ k, k < nv → (qBd l).testBit k = true) (hg : rGt G0 r c nv l I gA kk gO)
    (hwI : ∀ k, k < I.length → (k : Int) ≠ (gA : Int) → wEx nv (I.getD k [])) (hgA : gA < I.length) (hkk : kk = 1 ∨ kk = 2 ∨ kk = 3 ∨ kk = 4) (hO : kk ≠ 1 → 0 ≤ gO ∧ gO < nv) (h38 : G0 0 38 = 2) (h39 : G0 0 39 = (r : Int)) (h40 : G0 0 40 = -1) (hT : rTb G0 np N R) (hR : ∀ p, p < np → (R p).length ≤ 100 ∧ ∀ w ∈ R p, ∀ x ∈ w.1, vOk x)
    (hQ : ∀ D Z Z', Q D Z → Z' 0 43 = Z 0 43 → Z' 0 47 = Z 0 47 → Z' 0 54 = Z 0 54 → (∀ b j, 113 ≤ b → b ≤ 115 → Z' b j = Z b j) → Q D Z')
    (hG : ∀ D Z i S, xE G0 Z → Z 0 43 = 0 → rGr Z I.length S → i < S.length → Q D Z → (gRo kk gA (S.getD i dRw).1 (S.getD i dRw).2 = none → g289 f (i : Int) a Z = some (0, Z)) ∧ (∀ zs, gRo kk gA (S.getD i dRw).1 (S.getD i dRw).2 = some zs → (∃ Z', g289 f (i : Int) a Z = some (0, Z') ∧ Q (fun z => D z ∨ z = zs) Z' ∧ xG3 Z Z') ∨ (∃ Z', g289 f (i : Int) a Z = some (1, Z') ∧ Stop zs ∧ xG3 Z Z'))) :
    ∀ (d fu : Nat) (last : Option (List Int)) (Z : xG_) (D : List Int → Prop), (Z 0 60 = 1 → ∀ V, isAll l nv R (qOp K (-1) 0) V → V.countP (fun v => (gKy kk gO I (gA : Int) last (vF v)).isSome) ≤ d) → d + 1 < fu → xE G0 Z → (Z 0 60 = 1 → rLa Z I.length last) → (Z 0 60 = 0 ∨ Z 0 60 = 1) → Q D Z → (∀ zs, D zs → ∃ xs, gDs l nv R (qOp K (-1) 0) kk gO I gA xs zs) → (Z 0 43 = 0 → ∀ xs zs, gDs l nv R (qOp K (-1) 0) kk gO I gA xs zs → (Z 0 60 = 0 ∨ gLa last xs = none) → D zs) →
      ∃ Z' b, g288_15 f fu a Z = some (b, Z') ∧ xE G0 Z' ∧ ((b = 0 ∧ ∃ D', Q D' Z' ∧ (∀ zs, D' zs → ∃ xs, gDs l nv R (qOp K (-1) 0) kk gO I gA xs zs) ∧ (Z' 0 43 = 0 → ∀ xs zs, gDs l nv R (qOp K (-1) 0) kk gO I gA xs zs → D' zs)) ∨ (b = 1 ∧ ∃ xs zs, gDs l nv R (qOp K (-1) 0) kk gO I gA xs zs ∧ Stop zs)) := by
  intro d
  induction d using Nat.strongRecOn with
  | _ d ih =>
    intro fu last Z D h1 h2 hE hla h60 hD hsub hdone
    obtain ⟨fu, rfl⟩ : ∃ t, fu = t + 1 := ⟨fu - 1, by omega⟩
    by_cases c60 : Z 0 60 = 0
    · refine ⟨Z, 0, ?_, hE, .inl ⟨rfl, D, hD, hsub, fun h xs zs hz => hdone h xs zs hz (.inl c60)⟩⟩
      show g288_15b (g288_15 f fu) f _ _ = _
      unfold g288_15b g288_132
      rw [if_pos c60]
    · by_cases c43 : Z 0 43 = 0
      · have m1 : Z 0 60 = 1 := h60.resolve_left c60
        have n43 : ¬ ¬ Z 0 43 = 0 := fun q => q c43
        let Z1 := xup2 (xup2 (xup2 Z 0 60 0) 0 58 0) 0 37 0
        have z1 : ∀ o j, ¬ (o = 0 ∧ (j = 37 ∨ j = 58 ∨ j = 60)) → Z1 o j = Z o j := fun o j h => by
          show xup2 _ _ _ _ _ _ = _
          rw [xup2_n (by omega), xup2_n (by omega), xup2_n (by omega)]
        have z37 : Z1 0 37 = 0 := xup2_s _ _ _ _
        have z58 : Z1 0 58 = 0 := by show xup2 _ _ _ _ _ _ = _; rw [xup2_n (by omega), xup2_s]
        have z60 : Z1 0 60 = 0 := by show xup2 _ _ _ _ _ _ = _; rw [xup2_n (by omega), xup2_n (by omega), xup2_s]
        have e1 : g288_15 f (fu + 1) a Z = (g275 f 0 Z1).bind fun R135 => g288_51 (g288_15 f fu) f f a 0 R135 := by
          show g288_15b (g288_15 f fu) f _ _ = _
          unfold g288_15b
          rw [if_neg c60, if_neg n43]
          rfl
        have env : ∀ o j, 2 ≤ o → o ≤ 109 → Z1 o j = G0 o j := fun o j _ _ => by rw [z1 o j (by omega), hE o j (by omega) (by omega)]
        have env0 : ∀ j, 38 ≤ j → j ≤ 41 → Z1 0 j = G0 0 j := fun j _ _ => by rw [z1 0 j (by omega), hE 0 j (by omega) (by omega)]
        obtain ⟨g1, g2, g3, g4⟩ := hg
        obtain ⟨Z2, V, S, k1, k2, k3, k4, k5, k6, k7⟩ := l_ps (f := f) (K := K) (last := last) (G := Z1) hf hr hnv hnp hc hat hw hsafe ⟨g1.v (fun o j _ _ => env o j (by omega) (by omega)), g2.v (fun o j _ _ => env o j (by omega) (by omega)), by rw [env _ _ (by omega) (by omega)]; exact g3, by rw [env _ _ (by omega) (by omega)]; exact g4⟩ hwI hgA hkk hO (by rw [env0 _ (by omega) (by omega)]; exact h38) (by rw [env0 _ (by omega) (by omega)]; exact h39) (by rw [env0 _ (by omega) (by omega)]; exact h40) (hT.ge (fun o j _ _ => env o j (by omega) (by omega))) hR z37 (by rw [z1 _ _ (by omega)]; exact c43) z58 z60 ((hla m1).ge (z1 _ _ (by omega)) (fun k => z1 _ _ (by omega)))
        have hE2 : xE G0 Z2 := fun o j y1 y2 => by rw [k2 o j (by omega) (by omega), z1 o j (by omega), hE o j y1 y2]
        have hD2 : Q D Z2 := hQ D Z Z2 hD (by rw [k2 _ _ (by omega) (by omega), z1 _ _ (by omega)]) (by rw [k2 _ _ (by omega) (by omega), z1 _ _ (by omega)]) (by rw [k2 _ _ (by omega) (by omega), z1 _ _ (by omega)]) (fun b j _ _ => by rw [k2 _ _ (by omega) (by omega), z1 _ _ (by omega)])
        obtain ⟨v1, v2, v3, v4, v5, v6⟩ := k7
        -- a group of S is a group of all WAYS
        have grp : ∀ y, y ∈ S → gLa last y.1 = some y.1 ∧ ∀ zs, gRo kk gA y.1 y.2 = some zs → gDs l nv R (qOp K (-1) 0) kk gO I gA y.1 zs := fun y hy => by
          obtain ⟨w1, w2⟩ := v4 y hy
          obtain ⟨v, w3, w4⟩ := gVs_ne w1
          have w5 := (gKy_iff.mp w4).2
          refine ⟨w5, fun zs hz => ⟨V, k3, ?_, ?_⟩⟩
          · rw [← gVs_la w5]; exact w1
          · rw [← gVs_la w5, ← w2]; exact hz
        have hdone' : ∀ D' : List Int → Prop, (∀ z, (D z ∨ ∃ j, 0 ≤ j ∧ j < S.length ∧ gRo kk gA (S.getD j dRw).1 (S.getD j dRw).2 = some z) → D' z) → ∀ xs zs, gDs l nv R (qOp K (-1) 0) kk gO I gA xs zs → D' zs ∨ (Z2 0 60 = 1 ∧ S.length = 1024 ∧ ∀ y ∈ S, vLt y.1 xs) := fun D' hD' xs zs hz => by
          rcases gLa_in last xs with e | e
          · obtain ⟨w1, w2⟩ := gDs_of k3 hz
            obtain ⟨v, w3, w4⟩ := gVs_ne w1
            rcases v5 v w3 xs (gKy_iff.mpr ⟨w4, e⟩) with ⟨w, hw⟩ | q
            · obtain ⟨j, hj, ej⟩ := mem_get.mp hw
              refine .inl (hD' zs (.inr ⟨j, Nat.zero_le _, hj, ?_⟩))
              rw [ej]
              show gRo kk gA xs w = some zs
              have w5 := (v4 _ hw).2
              have w6 : w = gAg kk (gVs (fun v : List Int => gKy kk gO I (gA : Int) last (vF v)) (fun v => gXv kk gO (vF v)) V xs) := w5
              rw [w6, gVs_la e]
              exact w2
            · exact .inr q
          · exact .inl (hD' zs (.inl (hdone c43 xs zs hz (.inr e))))
        rw [e1, k1, Option.bind_some]
        have L51 := l_288_51s (f := f) (n := I.length) (a := a) (r15 := g288_15 f fu) (S := S) (kk := kk) (gA := gA) (G0 := G0) (Q := Q) (Stop := Stop) hQ hG S.length 0 f Z2 D (by omega) (by omega) hE2 k6 hD2
        rcases L51 with ⟨Z3, u1, ⟨j, zs, u2, u3, u4⟩, u5⟩ | ⟨Z3, D3, u1, u2, u3, u4, u5⟩
        · have u1' : g288_51 (g288_15 f fu) f f a 0 Z2 = some (1, Z3) := u1
          refine ⟨Z3, 1, u1', fun o j y1 y2 => by rw [u5 o j (by omega) (by omega), hE2 o j y1 y2], .inr ⟨rfl, (S.getD j dRw).1, zs, (grp _ (mem_get.mpr ⟨j, u2, rfl⟩)).2 zs u3, u4⟩⟩
        · have u1' : g288_51 (g288_15 f fu) f f a 0 Z2 = g288_83 (g288_15 f fu) f a Z3 := u1
          have hS3 : rGr Z3 I.length S := ⟨by rw [u2 _ _ (by omega) (by omega)]; exact k6.1, k6.2.1, fun k hk => by
            obtain ⟨w1, w2, w3⟩ := k6.2.2 k hk
            exact ⟨w1, fun j hj => by rw [u2 _ _ (by omega) (by omega)]; exact w2 j hj, by rw [u2 _ _ (by omega) (by omega)]; exact w3⟩⟩
          obtain ⟨Z4, t1, t2, t3, t4⟩ := l_288_83 (f := f) (a := a) (r15 := g288_15 f fu) (by omega) hS3
          rw [u1', t1]
          have h60' : Z4 0 60 = Z2 0 60 := by rw [t4 _ _ (by omega) (by omega), u2 _ _ (by omega) (by omega)]
          have h43' : Z4 0 43 = Z3 0 43 := t4 _ _ (by omega) (by omega)
          have hE4 : xE G0 Z4 := fun o j y1 y2 => by rw [t4 o j (by omega) (by omega), u2 o j (by omega) (by omega), hE2 o j y1 y2]
          have hD4 : Q D3 Z4 := hQ D3 Z3 Z4 u3 h43' (t4 _ _ (by omega) (by omega)) (t4 _ _ (by omega) (by omega)) (fun b j _ _ => t4 _ _ (by omega) (by omega))
          have hsub4 : ∀ zs, D3 zs → ∃ xs, gDs l nv R (qOp K (-1) 0) kk gO I gA xs zs := fun zs hz => by
            rcases u4 zs hz with q | ⟨j, _, j2, j3⟩
            · exact hsub zs q
            · exact ⟨(S.getD j dRw).1, (grp _ (mem_get.mpr ⟨j, j2, rfl⟩)).2 zs j3⟩
          rcases v3 with m0 | m0
          · -- no more
            obtain ⟨fu, rfl⟩ : ∃ t, fu = t + 1 := ⟨fu - 1, by omega⟩
            refine ⟨Z4, 0, ?_, hE4, .inl ⟨rfl, D3, hD4, hsub4, fun h xs zs hz => ?_⟩⟩
            · show g288_15b (g288_15 f fu) f _ _ = _
              unfold g288_15b g288_132
              rw [h60', if_pos m0]
            · rcases hdone' D3 (u5 (by rw [← h43']; exact h)) xs zs hz with q | ⟨q, _⟩
              · exact q
              · omega
          · have hS1024 := v6 m0
            have hne : S ≠ [] := fun q => by rw [q] at hS1024; cases hS1024
            have hlast : S.getD (S.length - 1) dRw ∈ S := mem_get.mpr ⟨S.length - 1, by omega, rfl⟩
            have hmax : ∀ y ∈ S, y = S.getD (S.length - 1) dRw ∨ vLt y.1 (S.getD (S.length - 1) dRw).1 := fun y hy => by
              obtain ⟨j, hj, ej⟩ := mem_get.mp hy
              by_cases cj : j = S.length - 1
              · rw [cj] at ej; exact .inl ej.symm
              · rw [← ej]
                exact .inr (srt_get (d := dRw) v1 (by omega) (by omega))
            have cnt : V.countP (fun v => (gKy kk gO I (gA : Int) (some (S.getD (S.length - 1) dRw).1) (vF v)).isSome) < V.countP (fun v => (gKy kk gO I (gA : Int) last (vF v)).isSome) := by
              refine countP_lt V (fun v hv hp => ?_) ?_
              · obtain ⟨xs, hx⟩ := Option.isSome_iff_exists.mp hp
                obtain ⟨x1, x2⟩ := gKy_iff.mp hx
                have x3 : vLt (S.getD (S.length - 1) dRw).1 xs := by
                  have x4 : (if fCmp (0, (S.getD (S.length - 1) dRw).1) (0, xs) < 0 then some xs else none) = some xs := x2
                  by_cases cc : fCmp (0, (S.getD (S.length - 1) dRw).1) (0, xs) < 0
                  · exact cc
                  · rw [if_neg cc] at x4; cases x4
                have x5 : gLa last xs = some xs := by
                  have x6 := (grp _ hlast).1
                  cases last with
                  | none => rfl
                  | some ys =>
                    have x7 : (if fCmp (0, ys) (0, (S.getD (S.length - 1) dRw).1) < 0 then some (S.getD (S.length - 1) dRw).1 else none) = some (S.getD (S.length - 1) dRw).1 := x6
                    have x8 : vLt ys (S.getD (S.length - 1) dRw).1 := by
                      by_cases cc : fCmp (0, ys) (0, (S.getD (S.length - 1) dRw).1) < 0
                      · exact cc
                      · rw [if_neg cc] at x7; cases x7
                    have x9 : fCmp (0, ys) (0, xs) < 0 := vLt_tr x8 x3
                    show (if fCmp (0, ys) (0, xs) < 0 then some xs else none) = some xs
                    rw [if_pos x9]
                exact Option.isSome_iff_exists.mpr ⟨xs, gKy_iff.mpr ⟨x1, x5⟩⟩
              · obtain ⟨w1, w2⟩ := v4 _ hlast
                obtain ⟨v, w3, w4⟩ := gVs_ne w1
                refine ⟨v, w3, Option.isSome_iff_exists.mpr ⟨_, w4⟩, ?_⟩
                have w5 := (gKy_iff.mp w4).1
                rw [gKy_la, w5, Option.bind_some]
                show (if fCmp (0, (S.getD (S.length - 1) dRw).1) (0, (S.getD (S.length - 1) dRw).1) < 0 then _ else _ : Option (List Int)).isSome = false
                rw [fCmp_self, if_neg (by decide)]
                rfl
            have hVd := h1 m1 V k3
            obtain ⟨Z5, b, s1, s2, s3⟩ := ih (d - 1) (by omega) fu (some (S.getD (S.length - 1) dRw).1) Z4 D3 (fun _ V' hV' => by
                have := (k3.perm hV').countP_eq (fun v => (gKy kk gO I (gA : Int) (some (S.getD (S.length - 1) dRw).1) (vF v)).isSome)
                omega) (by omega) hE4 (fun _ => ⟨t2, (hS3.2.2 _ (by omega)).1, fun k hk => t3 hne k (by have := (hS3.2.2 (S.length - 1) (by omega)).1; have := g2.2.1; omega)⟩) (.inr (by rw [h60']; exact m0)) hD4 hsub4 (fun h xs zs hz hor => by
                rcases hdone' D3 (u5 (by rw [← h43']; exact h)) xs zs hz with q | ⟨_, _, q⟩
                · exact q
                · rcases hor with ho | ho
                  · rw [h60', m0] at ho; omega
                  · exfalso
                    have x4 : (if fCmp (0, (S.getD (S.length - 1) dRw).1) (0, xs) < 0 then some xs else none) = none := ho
                    have x5 : fCmp (0, (S.getD (S.length - 1) dRw).1) (0, xs) < 0 := q _ hlast
                    rw [if_pos x5] at x4
                    cases x4)
            exact ⟨Z5, b, s1, s2, s3⟩
      · refine ⟨Z, 0, ?_, hE, .inl ⟨rfl, D, hD, hsub, fun h => absurd h c43⟩⟩
        show g288_15b (g288_15 f fu) f _ _ = _
        unfold g288_15b g288_132
        rw [if_neg c60, if_pos c43]
end
section
variable {f nv np r c p : Nat} {l : List pLt} {I : List pCd} {gA : Nat} {kk gO : Int} {N : Nat → Nat} {R : Nat → List pRw} {K : Nat → Nat} {F : List pFw}
/-- whether the row that is asked for comes from a gathering rule -/
theorem l_gas4 {G : xG_} {as : List Int} (hf : 1000100 < f) (hr : r < 25) (hnv : nv ≤ 8) (hnp : np ≤ 16) (hc : c ≤ 6200) (hat : pAtoms l ≤ 3) (hw : ∀ y ∈ l, wLt np nv y ∧ (y.1 ≠ 3 → 0 ≤ y.2.1)) (hsafe : ∀ k, k < nv → (qBd l).testBit k = true) (hg : rGt G r c nv l I gA kk gO)
    (hwI : ∀ k, k < I.length → (k : Int) ≠ (gA : Int) → wEx nv (I.getD k [])) (hgA : gA < I.length) (hkk : kk = 1 ∨ kk = 2 ∨ kk = 3 ∨ kk = 4) (hO : kk ≠ 1 → 0 ≤ gO ∧ gO < nv) (h39 : G 0 39 = (r : Int)) (h40 : G 0 40 = -1) (hT : rTb G np N R) (hR : ∀ p, p < np → (R p).length ≤ 100 ∧ ∀ w ∈ R p, ∀ x ∈ w.1, vOk x) (h43 : G 0 43 = 0) (has : as.length = I.length) (h118 : ∀ k, k < I.length → G 118 k = as.getD k 0) :
    ∃ G' b, g288 f 1 G = some (b, G') ∧ xE8 G G' ∧ isB b (∃ xs, gDs l nv R (qOp K (-1) 0) kk gO I gA xs as) ∧ (b = 0 → G' 0 54 = G 0 54) := by
  have hVl := l_all (f := f) (K := K) (by omega) hr hnv hnp hc hat hw hsafe hg hwI hgA hkk hO h39 h40 hT hR h43
  let G0 := xup2 (xup2 (xup2 G 0 38 2) 0 59 0) 0 60 1
  have z : ∀ o j, ¬ (o = 0 ∧ (j = 38 ∨ j = 59 ∨ j = 60)) → G0 o j = G o j := fun o j h => by
    show xup2 _ _ _ _ _ _ = _
    rw [xup2_n (by omega), xup2_n (by omega), xup2_n (by omega)]
  have hI4 := hg.2.1.2.1
  obtain ⟨g1, g2, g3, g4⟩ := hg
  have T0 : rTb G0 np N R := hT.ge (fun o j _ _ => z o j (by omega))
  have z39 : G0 0 39 = (r : Int) := by rw [z _ _ (by omega)]; exact h39
  obtain ⟨Z', b, k1, k2, k3⟩ := l_288_15s (f := f) (a := 1) (K := K) (G0 := G0) (np := np) (N := N) (r := r) (c := c) (Q := fun D Z => Z 0 43 = 0 ∧ ¬ D as ∧ Z 0 54 = G 0 54) (Stop := fun zs => zs = as) (by omega) hr hnv hnp hc hat hw hsafe ⟨g1.v (fun o j _ _ => z o j (by omega)), g2.v (fun o j _ _ => z o j (by omega)), by rw [z _ _ (by omega)]; exact g3, by rw [z _ _ (by omega)]; exact g4⟩ hwI hgA hkk hO (by show xup2 _ _ _ _ _ _ = _; rw [xup2_n (by omega), xup2_n (by omega), xup2_s]) z39 (by rw [z _ _ (by omega)]; exact h40) T0 hR
    (fun D Z Z' h a1 a2 a4 a3 => ⟨by rw [a1]; exact h.1, h.2.1, by rw [a4]; exact h.2.2⟩)
    (fun D Z i S hE h43 hS hi hD => by
      have e : ∀ o j, 2 ≤ o → o ≤ 109 → Z o j = G o j := fun o j _ _ => by rw [hE o j (by omega) (by omega), z o j (by omega)]
      obtain ⟨u1, u2⟩ := l_289 (f := f) (a := 1) (kk := kk) (gA := gA) (i := i) (by omega) hr hI4 hgA (by rw [hE _ _ (by omega) (by omega)]; exact z39) (by rw [e _ _ (by omega) (by omega)]; exact g2.1) (by rw [e _ _ (by omega) (by omega)]; exact g3) (by rw [e _ _ (by omega) (by omega)]; exact g2.2.2.1) hS hi
      refine ⟨u1, fun zs hz => ?_⟩
      obtain ⟨G1, v1, v2, v3⟩ := u2 zs hz
      have hzl : zs.length = I.length := by
        rw [(gRo_len hz).1, List.length_set, (hS.2.2 i hi).1]
      have ve1 : rVe G1 112 0 zs := ⟨by rw [xl112]; omega, by omega, by omega, fun k hk => by rw [Nat.zero_add]; exact v1 k (by omega)⟩
      have ve2 : rVe G1 118 0 as := ⟨by rw [xl118]; omega, by omega, by omega, fun k hk => by rw [Nat.zero_add, v2 _ _ (by omega), hE _ _ (by omega) (by omega), z _ _ (by omega)]; exact h118 k (by omega)⟩
      have ec : g262 f 112 0 118 0 (I.length : Int) G1 = some (vCmp zs as, G1) := l_262 (by omega) ve1 ve2 hzl has
      rw [v3, if_neg (by decide), ec, Option.bind_some]
      have fr : xG3 Z G1 := fun o j y1 y2 => v2 o j (by omega)
      by_cases cc : vCmp zs as = 0
      · have n1 : ¬ ¬ (vCmp zs as, G1).1 = 0 := fun q => q cc
        rw [if_neg n1]
        exact .inr ⟨G1, rfl, vCmp_eq (by omega) cc, fr⟩
      · have n1 : ¬ (vCmp zs as, G1).1 = 0 := cc
        rw [if_pos n1]
        exact .inl ⟨G1, rfl, ⟨by rw [v2 _ _ (by omega)]; exact hD.1, fun q => q.elim hD.2.1 (fun q => cc (by rw [q]; exact vCmp_self zs)), by rw [v2 _ _ (by omega)]; exact hD.2.2⟩, fr⟩)
    1000000 f none G0 (fun _ => False) (fun _ V hV => Nat.le_trans List.countP_le_length (hVl V hV)) (by omega) (fun _ _ _ _ => rfl) (fun _ => by show xup2 _ _ _ _ _ _ = _; rw [xup2_n (by omega), xup2_s]) (.inr (xup2_s _ _ _ _))
    ⟨by rw [z _ _ (by omega)]; exact h43, fun h => h, z _ _ (by omega)⟩ (fun zs h => absurd h (fun h => h)) (fun _ xs zs _ hor => by
      rcases hor with q | q
      · have : G0 0 60 = 1 := xup2_s _ _ _ _
        omega
      · cases q)
  refine ⟨Z', b, ?_, fun o j y1 y2 => by rw [k2 o j (by omega) y2, z o j (by omega)], ?_⟩
  · unfold g288
    exact k1
  · rcases k3 with ⟨b0, D', s1, s2, s3⟩ | ⟨b1, xs, zs, q1, q2⟩
    · exact ⟨.inr ⟨b0, fun ⟨xs, hx⟩ => s1.2.1 (s3 s1.1 xs as hx)⟩, fun _ => s1.2.2⟩
    · rw [q2] at q1
      exact ⟨.inl ⟨b1, xs, q1⟩, fun q => by rw [b1] at q; cases q⟩
end
