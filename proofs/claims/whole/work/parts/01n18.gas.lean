section
/-! GATHERING of the reference once more: what is found of a reason stays -/
section
variable {f n : Nat} {a : Int} {r15 : Int → xG_ → Option (Int × xG_)} {S : List pRw}
variable {kk : Int} {gA : Nat} {G0 : xG_} {Q : (List Int → Prop) → xG_ → Prop} {Stop : List Int → Prop}
theorem l_288_51s (hQ : ∀ D Z Z', Q D Z → Z' 0 43 = Z 0 43 → Z' 0 47 = Z 0 47 → Z' 0 54 = Z 0 54 → (∀ b j, 113 ≤ b → b ≤ 115 → Z' b j = Z b j) → Q D Z')
    (hG : ∀ D Z i S, xE G0 Z → Z 0 43 = 0 → rGr Z n S → i < S.length → Q D Z → (gRo kk gA (S.getD i dRw).1 (S.getD i dRw).2 = none → g289 f (i : Int) a Z = some (0, Z)) ∧ (∀ zs, gRo kk gA (S.getD i dRw).1 (S.getD i dRw).2 = some zs → (∃ Z', g289 f (i : Int) a Z = some (0, Z') ∧ Q (fun z => D z ∨ z = zs) Z' ∧ xG3 Z Z') ∨ (∃ Z', g289 f (i : Int) a Z = some (1, Z') ∧ Stop zs ∧ xG3 Z Z'))) :
    ∀ (d i fu : Nat) (Z : xG_) (D : List Int → Prop), i + d = S.length → d < fu → xE G0 Z → rGr Z n S → Q D Z →
      (∃ Z', g288_51 r15 f fu a (i : Int) Z = some (1, Z') ∧ (∃ j zs, j < S.length ∧ gRo kk gA (S.getD j dRw).1 (S.getD j dRw).2 = some zs ∧ Stop zs) ∧ xG3 Z Z') ∨ (∃ Z' D', g288_51 r15 f fu a (i : Int) Z = g288_83 r15 f a Z' ∧ xG3 Z Z' ∧ Q D' Z' ∧ (∀ z, D' z → D z ∨ ∃ j, i ≤ j ∧ j < S.length ∧ gRo kk gA (S.getD j dRw).1 (S.getD j dRw).2 = some z) ∧ (Z' 0 43 = 0 → ∀ z, (D z ∨ ∃ j, i ≤ j ∧ j < S.length ∧ gRo kk gA (S.getD j dRw).1 (S.getD j dRw).2 = some z) → D' z)) := by
  intro d
  induction d with
  | zero =>
    intro i fu Z D h1 h2 hE hS hD
    obtain ⟨fu, rfl⟩ : ∃ t, fu = t + 1 := ⟨fu - 1, by omega⟩
    refine .inr ⟨Z, D, ?_, fun _ _ _ _ => rfl, hD, fun z hz => .inl hz, fun _ z hz => hz.elim id (fun ⟨j, j1, j2, _⟩ => by omega)⟩
    show g288_51b r15 (g288_51 r15 f fu) f _ _ _ = _
    unfold g288_51b
    rw [hS.1, if_pos (by omega)]
  | succ d ih =>
    intro i fu Z D h1 h2 hE hS hD
    obtain ⟨fu, rfl⟩ : ∃ t, fu = t + 1 := ⟨fu - 1, by omega⟩
    have hl := hS.2.1
    have e3 : xwr ((i : Int) + 1) = ((i + 1 : Nat) : Int) := by rw [xwr_g _ (by omega) (by omega)]; omega
    by_cases c43 : Z 0 43 = 0
    · have n43 : ¬ ¬ Z 0 43 = 0 := fun q => q c43
      obtain ⟨g1, g2⟩ := hG D Z i S hE c43 hS (by omega) hD
      have step : ∀ b Z', g289 f (i : Int) a Z = some (b, Z') → g288_51 r15 f (fu + 1) a (i : Int) Z = if b = 0 then g288_51 r15 f fu a ((i + 1 : Nat) : Int) Z' else some (1, Z') := fun b Z' he => by
        show g288_51b r15 (g288_51 r15 f fu) f _ _ _ = _
        unfold g288_51b
        rw [hS.1, if_neg (by omega), if_neg n43, he, Option.bind_some, e3]
      have cont : ∀ Z' D1, g289 f (i : Int) a Z = some (0, Z') → xG3 Z Z' → Q D1 Z' → (∀ z, D1 z ↔ D z ∨ gRo kk gA (S.getD i dRw).1 (S.getD i dRw).2 = some z) → ((∃ Z', g288_51 r15 f (fu + 1) a (i : Int) Z = some (1, Z') ∧ (∃ j zs, j < S.length ∧ gRo kk gA (S.getD j dRw).1 (S.getD j dRw).2 = some zs ∧ Stop zs) ∧ xG3 Z Z') ∨ (∃ Z' D', g288_51 r15 f (fu + 1) a (i : Int) Z = g288_83 r15 f a Z' ∧ xG3 Z Z' ∧ Q D' Z' ∧ (∀ z, D' z → D z ∨ ∃ j, i ≤ j ∧ j < S.length ∧ gRo kk gA (S.getD j dRw).1 (S.getD j dRw).2 = some z) ∧ (Z' 0 43 = 0 → ∀ z, (D z ∨ ∃ j, i ≤ j ∧ j < S.length ∧ gRo kk gA (S.getD j dRw).1 (S.getD j dRw).2 = some z) → D' z))) := fun Z' D1 he hx hD1 hiff => by
        have hS' : rGr Z' n S := ⟨by rw [hx _ _ (by omega) (by omega)]; exact hS.1, hl, fun k hk => by
          obtain ⟨w1, w2, w3⟩ := hS.2.2 k hk
          exact ⟨w1, fun j hj => by rw [hx _ _ (by omega) (by omega)]; exact w2 j hj, by rw [hx _ _ (by omega) (by omega)]; exact w3⟩⟩
        have := ih (i + 1) fu Z' D1 (by omega) (by omega) (fun o j y1 y2 => by rw [hx o j (by omega) (by omega), hE o j y1 y2]) hS' hD1
        have st := step 0 Z' he
        rw [if_pos rfl] at st
        rw [← st] at this
        rcases this with ⟨Z2, u1, u2, u3⟩ | ⟨Z2, D2, u1, u2, u3, u4, u5⟩
        · exact .inl ⟨Z2, u1, u2, fun o j y1 y2 => by rw [u3 o j y1 y2, hx o j y1 y2]⟩
        · refine .inr ⟨Z2, D2, u1, fun o j y1 y2 => by rw [u2 o j y1 y2, hx o j y1 y2], u3, fun z hz => ?_, fun h z hz => u5 h z ?_⟩
          · rcases u4 z hz with q | ⟨j, j1, j2, j3⟩
            · rcases (hiff z).mp q with q | q
              · exact .inl q
              · exact .inr ⟨i, Nat.le_refl _, by omega, q⟩
            · exact .inr ⟨j, by omega, j2, j3⟩
          · rcases hz with q | ⟨j, j1, j2, j3⟩
            · exact .inl ((hiff z).mpr (.inl q))
            · by_cases cj : j = i
              · rw [cj] at j3; exact .inl ((hiff z).mpr (.inr j3))
              · exact .inr ⟨j, by omega, j2, j3⟩
      cases hk : gRo kk gA (S.getD i dRw).1 (S.getD i dRw).2 with
      | none =>
        exact cont Z D (g1 hk) (fun _ _ _ _ => rfl) hD (fun z => ⟨.inl, fun q => q.elim id (fun q => by rw [hk] at q; cases q)⟩)
      | some zs =>
        rcases g2 zs hk with ⟨Z', k1, k2, k3⟩ | ⟨Z', k1, k2, k3⟩
        · exact cont Z' _ k1 k3 k2 (fun z => by
            rw [hk]
            constructor
            · rintro (q | q)
              · exact .inl q
              · rw [q]; exact .inr rfl
            · rintro (q | q)
              · exact .inl q
              · injection q with q; exact .inr q.symm)
        · refine .inl ⟨Z', ?_, ⟨i, zs, by omega, hk, k2⟩, k3⟩
          rw [step 1 Z' k1, if_neg (by decide)]
    · refine .inr ⟨Z, D, ?_, fun _ _ _ _ => rfl, hD, fun z hz => .inl hz, fun h => absurd h c43⟩
      show g288_51b r15 (g288_51 r15 f fu) f _ _ _ = _
      unfold g288_51b
      rw [hS.1, if_neg (by omega), if_pos c43]
end
section
variable {f nv np r c : Nat} {a : Int} {l : List pLt} {I : List pCd} {gA : Nat} {kk gO : Int} {N : Nat → Nat} {R : Nat → List pRw} {K : Nat → Nat} {G0 : xG_} {Q : (List Int → Prop) → xG_ → Prop} {Stop : List Int → Prop}
theorem l_288_15s (hf : 6300 < f) (hr : r < 25) (hnv : nv ≤ 8) (hnp : np ≤ 16) (hc : c ≤ 6200) (hat : pAtoms l ≤ 3) (hw : ∀ y ∈ l, wLt np nv y ∧ (y.1 ≠ 3 → 0 ≤ y.2.1)) (hsafe : ∀ k, k < nv → (qBd l).testBit k = true) (hg : rGt G0 r c nv l I gA kk gO)
    (hwI : ∀ k, k < I.length → (k : Int) ≠ (gA : Int) → wEx nv (I.getD k [])) (hgA : gA < I.length) (hkk : kk = 1 ∨ kk = 2 ∨ kk = 3 ∨ kk = 4) (hO : kk ≠ 1 → 0 ≤ gO ∧ gO < nv) (h38 : G0 0 38 = 2) (h39 : G0 0 39 = (r : Int)) (h40 : G0 0 40 = -1) (hT : rTb G0 np N R) (hR : ∀ p, p < np → (R p).length ≤ 100 ∧ ∀ w ∈ R p, ∀ x ∈ w.1, vOk x)
    (hQ : ∀ D Z Z', Q D Z → Z' 0 43 = Z 0 43 → Z' 0 47 = Z 0 47 → Z' 0 54 = Z 0 54 → (∀ b j, 113 ≤ b → b ≤ 115 → Z' b j = Z b j) → Q D Z')
    (hG : ∀ D Z i S, xE G0 Z → Z 0 43 = 0 → rGr Z I.length S → i < S.length → Q D Z → (gRo kk gA (S.getD i dRw).1 (S.getD i dRw).2 = none → g289 f (i : Int) a Z = some (0, Z)) ∧ (∀ zs, gRo kk gA (S.getD i dRw).1 (S.getD i dRw).2 = some zs → (∃ Z', g289 f (i : Int) a Z = some (0, Z') ∧ Q (fun z => D z ∨ z = zs) Z' ∧ xG3 Z Z') ∨ (∃ Z', g289 f (i : Int) a Z = some (1, Z') ∧ Stop zs ∧ xG3 Z Z'))) :
    ∀ (d fu : Nat) (last : Option (List Int)) (Z : xG_) (D : List Int → Prop), (Z 0 60 = 1 → ∀ V, isAll l nv R (qOp K (-1) 0) V → V.countP (fun v => (gKy kk gO I (gA : Int) last (vF v)).isSome) ≤ d) → d + 1 < fu → xE G0 Z → (Z 0 60 = 1 → rLa Z I.length last) → (Z 0 60 = 0 ∨ Z 0 60 = 1) → Q D Z → (∀ zs, D zs → ∃ xs, gDs l nv R (qOp K (-1) 0) kk gO I gA xs zs) → (Z 0 43 = 0 → ∀ xs zs, gDs l nv R (qOp K (-1) 0) kk gO I gA xs zs → (Z 0 60 = 0 ∨ gLa last xs = none) → D zs) →
      ∃ Z' b, g288_15 f fu a Z = some (b, Z') ∧ xE G0 Z' ∧ ((b = 0 ∧ ∃ D', Q D' Z' ∧ (∀ zs, D' zs → ∃ xs, gDs l nv R (qOp K (-1) 0) kk gO I gA xs zs) ∧ (Z' 0 43 = 0 → ∀ xs zs, gDs l nv R (qOp K (-1) 0) kk gO I gA xs zs → D' zs)) ∨ (b = 1 ∧ ∃ xs zs, gDs l nv R (qOp K (-1) 0) kk gO I gA xs zs ∧ Stop zs)) := by
  intro d
  induction d using Nat.strongRecOn with
  | _ d ih =>
    intro fu last Z D h1 h2 hE hla h60 hD hsub hdone
    obtain ⟨fu, rfl⟩ : ∃ t, fu = t + 1 := ⟨fu - 1, by omega⟩
    by_cases c60 : Z 0 60 = 0
    · refine ⟨Z, 0, ?_, hE, .inl ⟨rfl, D, hD, hsub, fun h xs zs hz => hdone h xs zs hz (.inl c60)⟩⟩
      show g288_15b (g288_15 f fu) f _ _ = _
      unfold g288_15b g288_132
      rw [if_pos c60]
    · by_cases c43 : Z 0 43 = 0
      · have m1 : Z 0 60 = 1 := h60.resolve_left c60
        have n43 : ¬ ¬ Z 0 43 = 0 := fun q => q c43
        let Z1 := xup2 (xup2 (xup2 Z 0 60 0) 0 58 0) 0 37 0
        have z1 : ∀ o j, ¬ (o = 0 ∧ (j = 37 ∨ j = 58 ∨ j = 60)) → Z1 o j = Z o j := fun o j h => by
          show xup2 _ _ _ _ _ _ = _
          rw [xup2_n (by omega), xup2_n (by omega), xup2_n (by omega)]
        have z37 : Z1 0 37 = 0 := xup2_s _ _ _ _
        have z58 : Z1 0 58 = 0 := by show xup2 _ _ _ _ _ _ = _; rw [xup2_n (by omega), xup2_s]
        have z60 : Z1 0 60 = 0 := by show xup2 _ _ _ _ _ _ = _; rw [xup2_n (by omega), xup2_n (by omega), xup2_s]
        have e1 : g288_15 f (fu + 1) a Z = (g275 f 0 Z1).bind fun R135 => g288_51 (g288_15 f fu) f f a 0 R135 := by
          show g288_15b (g288_15 f fu) f _ _ = _
          unfold g288_15b
          rw [if_neg c60, if_neg n43]
          rfl
        have env : ∀ o j, 2 ≤ o → o ≤ 109 → Z1 o j = G0 o j := fun o j _ _ => by rw [z1 o j (by omega), hE o j (by omega) (by omega)]
        have env0 : ∀ j, 38 ≤ j → j ≤ 41 → Z1 0 j = G0 0 j := fun j _ _ => by rw [z1 0 j (by omega), hE 0 j (by omega) (by omega)]
        obtain ⟨g1, g2, g3, g4⟩ := hg
        obtain ⟨Z2, V, S, k1, k2, k3, k4, k5, k6, k7⟩ := l_ps (f := f) (K := K) (last := last) (G := Z1) hf hr hnv hnp hc hat hw hsafe ⟨g1.v (fun o j _ _ => env o j (by omega) (by omega)), g2.v (fun o j _ _ => env o j (by omega) (by omega)), by rw [env _ _ (by omega) (by omega)]; exact g3, by rw [env _ _ (by omega) (by omega)]; exact g4⟩ hwI hgA hkk hO (by rw [env0 _ (by omega) (by omega)]; exact h38) (by rw [env0 _ (by omega) (by omega)]; exact h39) (by rw [env0 _ (by omega) (by omega)]; exact h40) (hT.ge (fun o j _ _ => env o j (by omega) (by omega))) hR z37 (by rw [z1 _ _ (by omega)]; exact c43) z58 z60 ((hla m1).ge (z1 _ _ (by omega)) (fun k => z1 _ _ (by omega)))
        have hE2 : xE G0 Z2 := fun o j y1 y2 => by rw [k2 o j (by omega) (by omega), z1 o j (by omega), hE o j y1 y2]
        have hD2 : Q D Z2 := hQ D Z Z2 hD (by rw [k2 _ _ (by omega) (by omega), z1 _ _ (by omega)]) (by rw [k2 _ _ (by omega) (by omega), z1 _ _ (by omega)]) (by rw [k2 _ _ (by omega) (by omega), z1 _ _ (by omega)]) (fun b j _ _ => by rw [k2 _ _ (by omega) (by omega), z1 _ _ (by omega)])
        obtain ⟨v1, v2, v3, v4, v5, v6⟩ := k7
        -- a group of S is a group of all WAYS
        have grp : ∀ y, y ∈ S → gLa last y.1 = some y.1 ∧ ∀ zs, gRo kk gA y.1 y.2 = some zs → gDs l nv R (qOp K (-1) 0) kk gO I gA y.1 zs := fun y hy => by
          obtain ⟨w1, w2⟩ := v4 y hy
          obtain ⟨v, w3, w4⟩ := gVs_ne w1
          have w5 := (gKy_iff.mp w4).2
          refine ⟨w5, fun zs hz => ⟨V, k3, ?_, ?_⟩⟩
          · rw [← gVs_la w5]; exact w1
          · rw [← gVs_la w5, ← w2]; exact hz
        have hdone' : ∀ D' : List Int → Prop, (∀ z, (D z ∨ ∃ j, 0 ≤ j ∧ j < S.length ∧ gRo kk gA (S.getD j dRw).1 (S.getD j dRw).2 = some z) → D' z) → ∀ xs zs, gDs l nv R (qOp K (-1) 0) kk gO I gA xs zs → D' zs ∨ (Z2 0 60 = 1 ∧ S.length = 1024 ∧ ∀ y ∈ S, vLt y.1 xs) := fun D' hD' xs zs hz => by
          rcases gLa_in last xs with e | e
          · obtain ⟨w1, w2⟩ := gDs_of k3 hz
            obtain ⟨v, w3, w4⟩ := gVs_ne w1
            rcases v5 v w3 xs (gKy_iff.mpr ⟨w4, e⟩) with ⟨w, hw⟩ | q
            · obtain ⟨j, hj, ej⟩ := mem_get.mp hw
              refine .inl (hD' zs (.inr ⟨j, Nat.zero_le _, hj, ?_⟩))
              rw [ej]
              show gRo kk gA xs w = some zs
              have w5 := (v4 _ hw).2
              have w6 : w = gAg kk (gVs (fun v : List Int => gKy kk gO I (gA : Int) last (vF v)) (fun v => gXv kk gO (vF v)) V xs) := w5
              rw [w6, gVs_la e]
              exact w2
            · exact .inr q
          · exact .inl (hD' zs (.inl (hdone c43 xs zs hz (.inr e))))
        rw [e1, k1, Option.bind_some]
        have L51 := l_288_51s (f := f) (n := I.length) (a := a) (r15 := g288_15 f fu) (S := S) (kk := kk) (gA := gA) (G0 := G0) (Q := Q) (Stop := Stop) hQ hG S.length 0 f Z2 D (by omega) (by omega) hE2 k6 hD2
        rcases L51 with ⟨Z3, u1, ⟨j, zs, u2, u3, u4⟩, u5⟩ | ⟨Z3, D3, u1, u2, u3, u4, u5⟩
        · have u1' : g288_51 (g288_15 f fu) f f a 0 Z2 = some (1, Z3) := u1
          refine ⟨Z3, 1, u1', fun o j y1 y2 => by rw [u5 o j (by omega) (by omega), hE2 o j y1 y2], .inr ⟨rfl, (S.getD j dRw).1, zs, (grp _ (mem_get.mpr ⟨j, u2, rfl⟩)).2 zs u3, u4⟩⟩
        · have u1' : g288_51 (g288_15 f fu) f f a 0 Z2 = g288_83 (g288_15 f fu) f a Z3 := u1
          have hS3 : rGr Z3 I.length S := ⟨by rw [u2 _ _ (by omega) (by omega)]; exact k6.1, k6.2.1, fun k hk => by
            obtain ⟨w1, w2, w3⟩ := k6.2.2 k hk
            exact ⟨w1, fun j hj => by rw [u2 _ _ (by omega) (by omega)]; exact w2 j hj, by rw [u2 _ _ (by omega) (by omega)]; exact w3⟩⟩
          obtain ⟨Z4, t1, t2, t3, t4⟩ := l_288_83 (f := f) (a := a) (r15 := g288_15 f fu) (by omega) hS3
          rw [u1', t1]
          have h60' : Z4 0 60 = Z2 0 60 := by rw [t4 _ _ (by omega) (by omega), u2 _ _ (by omega) (by omega)]
          have h43' : Z4 0 43 = Z3 0 43 := t4 _ _ (by omega) (by omega)
          have hE4 : xE G0 Z4 := fun o j y1 y2 => by rw [t4 o j (by omega) (by omega), u2 o j (by omega) (by omega), hE2 o j y1 y2]
          have hD4 : Q D3 Z4 := hQ D3 Z3 Z4 u3 h43' (t4 _ _ (by omega) (by omega)) (t4 _ _ (by omega) (by omega)) (fun b j _ _ => t4 _ _ (by omega) (by omega))
          have hsub4 : ∀ zs, D3 zs → ∃ xs, gDs l nv R (qOp K (-1) 0) kk gO I gA xs zs := fun zs hz => by
            rcases u4 zs hz with q | ⟨j, _, j2, j3⟩
            · exact hsub zs q
            · exact ⟨(S.getD j dRw).1, (grp _ (mem_get.mpr ⟨j, j2, rfl⟩)).2 zs j3⟩
          rcases v3 with m0 | m0
          · -- no more
            obtain ⟨fu, rfl⟩ : ∃ t, fu = t + 1 := ⟨fu - 1, by omega⟩
            refine ⟨Z4, 0, ?_, hE4, .inl ⟨rfl, D3, hD4, hsub4, fun h xs zs hz => ?_⟩⟩
            · show g288_15b (g288_15 f fu) f _ _ = _
              unfold g288_15b g288_132
              rw [h60', if_pos m0]
            · rcases hdone' D3 (u5 (by rw [← h43']; exact h)) xs zs hz with q | ⟨q, _⟩
              · exact q
              · omega
          · have hS1024 := v6 m0
            have hne : S ≠ [] := fun q => by rw [q] at hS1024; cases hS1024
            have hlast : S.getD (S.length - 1) dRw ∈ S := mem_get.mpr ⟨S.length - 1, by omega, rfl⟩
            have hmax : ∀ y ∈ S, y = S.getD (S.length - 1) dRw ∨ vLt y.1 (S.getD (S.length - 1) dRw).1 := fun y hy => by
              obtain ⟨j, hj, ej⟩ := mem_get.mp hy
              by_cases cj : j = S.length - 1
              · rw [cj] at ej; exact .inl ej.symm
              · rw [← ej]
                exact .inr (srt_get (d := dRw) v1 (by omega) (by omega))
            have cnt : V.countP (fun v => (gKy kk gO I (gA : Int) (some (S.getD (S.length - 1) dRw).1) (vF v)).isSome) < V.countP (fun v => (gKy kk gO I (gA : Int) last (vF v)).isSome) := by
              refine countP_lt V (fun v hv hp => ?_) ?_
              · obtain ⟨xs, hx⟩ := Option.isSome_iff_exists.mp hp
                obtain ⟨x1, x2⟩ := gKy_iff.mp hx
                have x3 : vLt (S.getD (S.length - 1) dRw).1 xs := by
                  have x4 : (if fCmp (0, (S.getD (S.length - 1) dRw).1) (0, xs) < 0 then some xs else none) = some xs := x2
                  by_cases cc : fCmp (0, (S.getD (S.length - 1) dRw).1) (0, xs) < 0
                  · exact cc
                  · rw [if_neg cc] at x4; cases x4
                have x5 : gLa last xs = some xs := by
                  have x6 := (grp _ hlast).1
                  cases last with
                  | none => rfl
                  | some ys =>
                    have x7 : (if fCmp (0, ys) (0, (S.getD (S.length - 1) dRw).1) < 0 then some (S.getD (S.length - 1) dRw).1 else none) = some (S.getD (S.length - 1) dRw).1 := x6
                    have x8 : vLt ys (S.getD (S.length - 1) dRw).1 := by
                      by_cases cc : fCmp (0, ys) (0, (S.getD (S.length - 1) dRw).1) < 0
                      · exact cc
                      · rw [if_neg cc] at x7; cases x7
                    have x9 : fCmp (0, ys) (0, xs) < 0 := vLt_tr x8 x3
                    show (if fCmp (0, ys) (0, xs) < 0 then some xs else none) = some xs
                    rw [if_pos x9]
                exact Option.isSome_iff_exists.mpr ⟨xs, gKy_iff.mpr ⟨x1, x5⟩⟩
              · obtain ⟨w1, w2⟩ := v4 _ hlast
                obtain ⟨v, w3, w4⟩ := gVs_ne w1
                refine ⟨v, w3, Option.isSome_iff_exists.mpr ⟨_, w4⟩, ?_⟩
                have w5 := (gKy_iff.mp w4).1
                rw [gKy_la, w5, Option.bind_some]
                show (if fCmp (0, (S.getD (S.length - 1) dRw).1) (0, (S.getD (S.length - 1) dRw).1) < 0 then _ else _ : Option (List Int)).isSome = false
                rw [fCmp_self, if_neg (by decide)]
                rfl
            have hVd := h1 m1 V k3
            obtain ⟨Z5, b, s1, s2, s3⟩ := ih (d - 1) (by omega) fu (some (S.getD (S.length - 1) dRw).1) Z4 D3 (fun _ V' hV' => by
                have := (k3.perm hV').countP_eq (fun v => (gKy kk gO I (gA : Int) (some (S.getD (S.length - 1) dRw).1) (vF v)).isSome)
                omega) (by omega) hE4 (fun _ => ⟨t2, (hS3.2.2 _ (by omega)).1, fun k hk => t3 hne k (by have := (hS3.2.2 (S.length - 1) (by omega)).1; have := g2.2.1; omega)⟩) (.inr (by rw [h60']; exact m0)) hD4 hsub4 (fun h xs zs hz hor => by
                rcases hdone' D3 (u5 (by rw [← h43']; exact h)) xs zs hz with q | ⟨_, _, q⟩
                · exact q
                · rcases hor with ho | ho
                  · rw [h60', m0] at ho; omega
                  · exfalso
                    have x4 : (if fCmp (0, (S.getD (S.length - 1) dRw).1) (0, xs) < 0 then some xs else none) = none := ho
                    have x5 : fCmp (0, (S.getD (S.length - 1) dRw).1) (0, xs) < 0 := q _ hlast
                    rw [if_pos x5] at x4
                    cases x4)
            exact ⟨Z5, b, s1, s2, s3⟩
      · refine ⟨Z, 0, ?_, hE, .inl ⟨rfl, D, hD, hsub, fun h => absurd h c43⟩⟩
        show g288_15b (g288_15 f fu) f _ _ = _
        unfold g288_15b g288_132
        rw [if_neg c60, if_pos c43]
end
section
variable {f nv np r c p : Nat} {l : List pLt} {I : List pCd} {gA : Nat} {kk gO : Int} {N : Nat → Nat} {R : Nat → List pRw} {K : Nat → Nat} {F : List pFw}
/-- whether the row that is asked for comes from a gathering rule -/
theorem l_gas4 {G : xG_} {as : List Int} (hf : 1000100 < f) (hr : r < 25) (hnv : nv ≤ 8) (hnp : np ≤ 16) (hc : c ≤ 6200) (hat : pAtoms l ≤ 3) (hw : ∀ y ∈ l, wLt np nv y ∧ (y.1 ≠ 3 → 0 ≤ y.2.1)) (hsafe : ∀ k, k < nv → (qBd l).testBit k = true) (hg : rGt G r c nv l I gA kk gO)
    (hwI : ∀ k, k < I.length → (k : Int) ≠ (gA : Int) → wEx nv (I.getD k [])) (hgA : gA < I.length) (hkk : kk = 1 ∨ kk = 2 ∨ kk = 3 ∨ kk = 4) (hO : kk ≠ 1 → 0 ≤ gO ∧ gO < nv) (h39 : G 0 39 = (r : Int)) (h40 : G 0 40 = -1) (hT : rTb G np N R) (hR : ∀ p, p < np → (R p).length ≤ 100 ∧ ∀ w ∈ R p, ∀ x ∈ w.1, vOk x) (h43 : G 0 43 = 0) (has : as.length = I.length) (h118 : ∀ k, k < I.length → G 118 k = as.getD k 0) :
    ∃ G' b, g288 f 1 G = some (b, G') ∧ xE8 G G' ∧ isB b (∃ xs, gDs l nv R (qOp K (-1) 0) kk gO I gA xs as) ∧ (b = 0 → G' 0 54 = G 0 54) := by
  have hVl := l_all (f := f) (K := K) (by omega) hr hnv hnp hc hat hw hsafe hg hwI hgA hkk hO h39 h40 hT hR h43
  let G0 := xup2 (xup2 (xup2 G 0 38 2) 0 59 0) 0 60 1
  have z : ∀ o j, ¬ (o = 0 ∧ (j = 38 ∨ j = 59 ∨ j = 60)) → G0 o j = G o j := fun o j h => by
    show xup2 _ _ _ _ _ _ = _
    rw [xup2_n (by omega), xup2_n (by omega), xup2_n (by omega)]
  have hI4 := hg.2.1.2.1
  obtain ⟨g1, g2, g3, g4⟩ := hg
  have T0 : rTb G0 np N R := hT.ge (fun o j _ _ => z o j (by omega))
  have z39 : G0 0 39 = (r : Int) := by rw [z _ _ (by omega)]; exact h39
  obtain ⟨Z', b, k1, k2, k3⟩ := l_288_15s (f := f) (a := 1) (K := K) (G0 := G0) (np := np) (N := N) (r := r) (c := c) (Q := fun D Z => Z 0 43 = 0 ∧ ¬ D as ∧ Z 0 54 = G 0 54) (Stop := fun zs => zs = as) (by omega) hr hnv hnp hc hat hw hsafe ⟨g1.v (fun o j _ _ => z o j (by omega)), g2.v (fun o j _ _ => z o j (by omega)), by rw [z _ _ (by omega)]; exact g3, by rw [z _ _ (by omega)]; exact g4⟩ hwI hgA hkk hO (by show xup2 _ _ _ _ _ _ = _; rw [xup2_n (by omega), xup2_n (by omega), xup2_s]) z39 (by rw [z _ _ (by omega)]; exact h40) T0 hR
    (fun D Z Z' h a1 a2 a4 a3 => ⟨by rw [a1]; exact h.1, h.2.1, by rw [a4]; exact h.2.2⟩)
    (fun D Z i S hE h43 hS hi hD => by
      have e : ∀ o j, 2 ≤ o → o ≤ 109 → Z o j = G o j := fun o j _ _ => by rw [hE o j (by omega) (by omega), z o j (by omega)]
      obtain ⟨u1, u2⟩ := l_289 (f := f) (a := 1) (kk := kk) (gA := gA) (i := i) (by omega) hr hI4 hgA (by rw [hE _ _ (by omega) (by omega)]; exact z39) (by rw [e _ _ (by omega) (by omega)]; exact g2.1) (by rw [e _ _ (by omega) (by omega)]; exact g3) (by rw [e _ _ (by omega) (by omega)]; exact g2.2.2.1) hS hi
      refine ⟨u1, fun zs hz => ?_⟩
      obtain ⟨G1, v1, v2, v3⟩ := u2 zs hz
      have hzl : zs.length = I.length := by
        rw [(gRo_len hz).1, List.length_set, (hS.2.2 i hi).1]
      have ve1 : rVe G1 112 0 zs := ⟨by rw [xl112]; omega, by omega, by omega, fun k hk => by rw [Nat.zero_add]; exact v1 k (by omega)⟩
      have ve2 : rVe G1 118 0 as := ⟨by rw [xl118]; omega, by omega, by omega, fun k hk => by rw [Nat.zero_add, v2 _ _ (by omega), hE _ _ (by omega) (by omega), z _ _ (by omega)]; exact h118 k (by omega)⟩
      have ec : g262 f 112 0 118 0 (I.length : Int) G1 = some (vCmp zs as, G1) := l_262 (by omega) ve1 ve2 hzl has
      rw [v3, if_neg (by decide), ec, Option.bind_some]
      have fr : xG3 Z G1 := fun o j y1 y2 => v2 o j (by omega)
      by_cases cc : vCmp zs as = 0
      · have n1 : ¬ ¬ (vCmp zs as, G1).1 = 0 := fun q => q cc
        rw [if_neg n1]
        exact .inr ⟨G1, rfl, vCmp_eq (by omega) cc, fr⟩
      · have n1 : ¬ (vCmp zs as, G1).1 = 0 := cc
        rw [if_pos n1]
        exact .inl ⟨G1, rfl, ⟨by rw [v2 _ _ (by omega)]; exact hD.1, fun q => q.elim hD.2.1 (fun q => cc (by rw [q]; exact vCmp_self zs)), by rw [v2 _ _ (by omega)]; exact hD.2.2⟩, fr⟩)
    1000000 f none G0 (fun _ => False) (fun _ V hV => Nat.le_trans List.countP_le_length (hVl V hV)) (by omega) (fun _ _ _ _ => rfl) (fun _ => by show xup2 _ _ _ _ _ _ = _; rw [xup2_n (by omega), xup2_s]) (.inr (xup2_s _ _ _ _))
    ⟨by rw [z _ _ (by omega)]; exact h43, fun h => h, z _ _ (by omega)⟩ (fun zs h => absurd h (fun h => h)) (fun _ xs zs _ hor => by
      rcases hor with q | q
      · have : G0 0 60 = 1 := xup2_s _ _ _ _
        omega
      · cases q)
  refine ⟨Z', b, ?_, fun o j y1 y2 => by rw [k2 o j (by omega) y2, z o j (by omega)], ?_⟩
  · unfold g288
    exact k1
  · rcases k3 with ⟨b0, D', s1, s2, s3⟩ | ⟨b1, xs, zs, q1, q2⟩
    · exact ⟨.inr ⟨b0, fun ⟨xs, hx⟩ => s1.2.1 (s3 s1.1 xs as hx)⟩, fun _ => s1.2.2⟩
    · rw [q2] at q1
      exact ⟨.inl ⟨b1, xs, q1⟩, fun q => by rw [b1] at q; cases q⟩
end
end
section
/-! Reasons: the least WAY that gives a row -/
/-- the least of the WAYS W of which Y holds stands at 117, where there is one -/
def rBs (G : xG_) (nv : Nat) (Y : List Int → Prop) (W : List (List Int)) : Prop := (G 0 54 = 0 ∧ ∀ v ∈ W, ¬ Y v) ∨ (G 0 54 = 1 ∧ ∃ v, v ∈ W ∧ Y v ∧ v.length = nv ∧ (∀ k, k < nv → G 117 k = v.getD k 0) ∧ ∀ x ∈ W, Y x → vLe v x)
theorem xl117 : ((xl_t 117).2.2 : Int) = 8 := by decide +kernel
section
variable {f nv r : Nat} {Y : List Int → Prop} {W : List (List Int)}
theorem l_286_45 (hnv : nv ≤ 8) : ∀ (d k fu : Nat) (G : xG_), k + d = nv → d < fu → ∃ G', g286_45 f fu (nv : Int) (k : Int) G = some G' ∧ (∀ z, k ≤ z → z < nv → G' 117 z = G 110 z) ∧ ∀ a j, ¬ (a = 117 ∧ k ≤ j) → G' a j = G a j := by
  intro d
  induction d with
  | zero =>
    intro k fu G h1 h2
    obtain ⟨fu, rfl⟩ : ∃ t, fu = t + 1 := ⟨fu - 1, by omega⟩
    refine ⟨G, ?_, fun z _ _ => by omega, fun _ _ _ => rfl⟩
    show g286_45b (g286_45 f fu) f _ _ _ = _
    unfold g286_45b
    rw [if_pos (by omega)]
  | succ d ih =>
    intro k fu G h1 h2
    obtain ⟨fu, rfl⟩ : ∃ t, fu = t + 1 := ⟨fu - 1, by omega⟩
    have ek : xwr ((k : Int) + 1) = ((k + 1 : Nat) : Int) := by rw [xwr_g _ (by omega) (by omega)]; omega
    obtain ⟨G', u1, u2, u3⟩ := ih (k + 1) fu (xup2 G 117 k (G 110 k)) (by omega) (by omega)
    refine ⟨G', ?_, fun z z1 z2 => ?_, fun a j q => by rw [u3 a j (by omega), xup2_n (by omega)]⟩
    · show g286_45b (g286_45 f fu) f _ _ _ = _
      unfold g286_45b
      rw [if_neg (by omega), if_pos (by omega), if_pos (by omega), Int.toNat_natCast, Option.bind_some, ek]
      exact u1
    · by_cases c : z = k
      · rw [c, u3 _ _ (by omega), xup2_s]
      · rw [u2 z (by omega) z2, xup2_n (by omega)]
/-- a WAY that gives the row -/
theorem l_286 {G : xG_} (hf : 100 < f) (hnv : nv ≤ 8) (hr : r < 25) (h39 : G 0 39 = (r : Int)) (h22 : G 22 r = (nv : Int)) (hY : Y (vOf G nv)) (hW : ∀ x ∈ W, x.length = nv) (h : rBs G nv Y W) : ∃ G', g286 f G = some G' ∧ rBs G' nv Y (W ++ [vOf G nv]) ∧ ∀ a j, ¬ (a = 0 ∧ j = 54) → a ≠ 117 → G' a j = G a j := by
  have hl : (vOf G nv).length = nv := vOf_len _ _
  have hrr : 0 ≤ (r : Int) ∧ (r : Int) < 25 := by omega
  have take : ∃ G', g286_38 f (nv : Int) G = some G' ∧ G' 0 54 = 1 ∧ (∀ k, k < nv → G' 117 k = (vOf G nv).getD k 0) ∧ ∀ a j, ¬ (a = 0 ∧ j = 54) → a ≠ 117 → G' a j = G a j := by
    obtain ⟨G', u1, u2, u3⟩ := l_286_45 (f := f) hnv nv 0 f (xup2 G 0 54 1) (by omega) (by omega)
    refine ⟨G', ?_, by rw [u3 _ _ (by omega), xup2_s], fun k hk => ?_, fun a j q1 q2 => by rw [u3 a j (by omega), xup2_n (by omega)]⟩
    · unfold g286_38
      rw [Option.bind_some]
      exact u1
    · rw [u2 k (Nat.zero_le _) hk, xup2_n (by omega)]
      exact (vOf_get hk).symm
  have ve0 : rVe G 110 0 (vOf G nv) := ⟨by rw [xl110, hl]; omega, by omega, by omega, fun k hk => by rw [Nat.zero_add]; exact (vOf_get (by omega)).symm⟩
  rcases h with ⟨h1, h2⟩ | ⟨h1, v, v1, v2, v3, v4, v5⟩
  · obtain ⟨G', k1, k2, k3, k4⟩ := take
    refine ⟨G', ?_, .inr ⟨k2, vOf G nv, List.mem_append.mpr (.inr (List.mem_singleton.mpr rfl)), hY, hl, k3, fun x hx hYx => ?_⟩, k4⟩
    · unfold g286
      rw [h39, if_pos hrr, h1, if_pos rfl, Int.toNat_natCast, h22]
      exact k1
    · rcases List.mem_append.mp hx with q | q
      · exact absurd hYx (h2 x q)
      · rw [List.mem_singleton.mp q]
        show vCmp _ _ ≤ 0
        rw [vCmp_self]
        exact Int.le_refl _
  · have ve1 : rVe G 117 0 v := ⟨by rw [xl117, v3]; omega, by omega, by omega, fun k hk => by rw [Nat.zero_add]; exact v4 k (by omega)⟩
    have ec : g262 f 117 0 110 0 (nv : Int) G = some (vCmp v (vOf G nv), G) := l_262 (by omega) ve1 ve0 v3 hl
    have e1 : g286 f G = (if 0 < vCmp v (vOf G nv) then g286_38 f (nv : Int) G else some G) := by
      unfold g286
      rw [h39, if_pos hrr, h1, if_neg (by decide), Int.toNat_natCast, h22, ec, Option.bind_some]
    by_cases cc : 0 < vCmp v (vOf G nv)
    · obtain ⟨G', k1, k2, k3, k4⟩ := take
      refine ⟨G', by rw [e1, if_pos cc]; exact k1, .inr ⟨k2, vOf G nv, List.mem_append.mpr (.inr (List.mem_singleton.mpr rfl)), hY, hl, k3, fun x hx hYx => ?_⟩, k4⟩
      rcases List.mem_append.mp hx with q | q
      · have h5 : vLe v x := v5 x q hYx
        have hav : vLe (vOf G nv) v := by
          show vCmp _ _ ≤ 0
          rw [vCmp_anti]
          omega
        by_cases cl : x.length = nv
        · exact vLe_tr (by omega) (by omega) hav h5
        · exact absurd (hW x q) cl
      · rw [List.mem_singleton.mp q]
        show vCmp _ _ ≤ 0
        rw [vCmp_self]
        exact Int.le_refl _
    · refine ⟨G, by rw [e1, if_neg cc], .inr ⟨h1, v, List.mem_append.mpr (.inl v1), v2, v3, v4, fun x hx hYx => ?_⟩, fun _ _ _ _ => rfl⟩
      rcases List.mem_append.mp hx with q | q
      · exact v5 x q hYx
      · rw [List.mem_singleton.mp q]
        show vCmp _ _ ≤ 0
        omega
end
end
section
/-! Reasons: a rule that doesn't gather -/
section
variable {f nv np r c : Nat} {I : List pCd} {N : Nat → Nat} {R : Nat → List pRw} {K : Nat → Nat} {ra rb : Int} {l : List pLt} {as : List Int}
/-- the least WAY that gives the row as -/
theorem l_bst {G : xG_} (hf : 6300 < f) (hr : r < 25) (hnv : nv ≤ 8) (hnp : np ≤ 16) (hc : c ≤ 6200) (hat : pAtoms l ≤ 3) (hw : ∀ y ∈ l, wLt np nv y ∧ (y.1 ≠ 3 → 0 ≤ y.2.1)) (hsafe : ∀ k, k < nv → (qBd l).testBit k = true) (hL : rLs G 2 r c l)
    (hI : rHd G r c I (-1)) (hwI : ∀ k, k < I.length → wEx nv (I.getD k [])) (h22 : G 22 r = (nv : Int)) (h38 : G 0 38 = 4) (h39 : G 0 39 = (r : Int)) (h40 : G 0 40 = ra) (h41 : ra ≠ -1 → G 0 41 = rb) (hK : ra ≠ -1 → ∀ p, p < np → G 7 p = (K p : Int)) (hT : rTb G np N R) (hR : ∀ p, p < np → (R p).length ≤ 100 ∧ ∀ w ∈ R p, ∀ x ∈ w.1, vOk x) (h37 : G 0 37 = 0) (h43 : G 0 43 = 0) (h54 : G 0 54 = 0) (has : as.length = I.length) (h118 : ∀ k, k < I.length → G 118 k = as.getD k 0) :
    ∃ G', g275 f 0 G = some G' ∧ xE G G' ∧ ((G' 0 54 = 0 ∧ ∀ v, isW l nv R (qOp K ra rb) v → qMk I (-1) (vF v) I.length ≠ some as) ∨ (G' 0 54 = 1 ∧ ∃ v, isW l nv R (qOp K ra rb) v ∧ qMk I (-1) (vF v) I.length = some as ∧ (∀ k, k < nv → G' 117 k = v.getD k 0) ∧ ∀ x, isW l nv R (qOp K ra rb) x → qMk I (-1) (vF x) I.length = some as → vLe v x)) := by
  have hI4 := hI.2.1
  obtain ⟨G', V, u1, u2, u3, u4, u5, u6, u7, u8⟩ := l_275 (f := f) (K := K) (ra := ra) (rb := rb) (P := fun W Z => Z 0 43 = 0 ∧ (∀ x ∈ W, x.length = nv) ∧ rBs Z nv (fun v => qMk I (-1) (vF v) I.length = some as) W) hf hr hnv hnp hc hat hw hsafe hL h39 h40 h41 hK hT hR
    (fun W Z Z' h hz => by
      obtain ⟨a0, aw, a1⟩ := h
      refine ⟨by rw [hz _ _ (by omega) (by omega) (by omega)]; exact a0, aw, ?_⟩
      unfold rBs at a1 ⊢
      rw [hz _ _ (by omega) (by omega) (by omega)]
      rcases a1 with a | ⟨a2, v, v1, v2, v3, v4, v5⟩
      · exact .inl a
      · exact .inr ⟨a2, v, v1, v2, v3, fun k hk => by rw [hz _ _ (by omega) (by omega) (by omega)]; exact v4 k hk, v5⟩)
    (fun W G1 m hPW h43 hE hm hfull hs hWl => by
      have hI1 : rHd G1 r c I (-1) := hI.v (fun a j _ _ => hE _ _ (by omega) (by omega))
      have h391 : G1 0 39 = (r : Int) := by rw [hE _ _ (by omega) (by omega)]; exact h39
      obtain ⟨G2, b, k1, k2, k3⟩ := l_282 (f := f) hf hr hnv hc hI1 (fun k hk _ => hwI k hk) h391 hm hfull
      have h38' : G1 0 38 = 4 := by rw [hE _ _ (by omega) (by omega)]; exact h38
      have hrr : 0 ≤ (r : Int) ∧ (r : Int) < 25 := by omega
      have t39 : G2 0 39 = (r : Int) := by rw [k2 _ _ (by omega) (by omega) (by omega)]; exact h391
      have t17 : G2 17 r = (I.length : Int) := by rw [k2 _ _ (by omega) (by omega) (by omega), hE _ _ (by omega) (by omega)]; exact hI.1
      have t22 : G2 22 r = (nv : Int) := by rw [k2 _ _ (by omega) (by omega) (by omega), hE _ _ (by omega) (by omega)]; exact h22
      have e1 : g283 f G1 = if b = 0 then some G2 else (g262 f 112 0 118 0 (I.length : Int) G2).bind fun R109 => (if ¬ (R109.1) = 0 then some R109.2 else ((g286 f R109.2).bind fun R115 => some R115)) := by
        unfold g283 g283_118
        rw [h38', if_pos (by decide), k1, Option.bind_some]
        show (if b = 0 then _ else (if 0 ≤ G2 0 39 ∧ G2 0 39 < 25 then (g262 f 112 0 118 0 (G2 17 (G2 0 39).toNat) G2).bind _ else none)) = _
        rw [t39, if_pos hrr, Int.toNat_natCast, t17]
      have hmk : qMk I (-1) (vF (vOf G1 nv)) I.length = qMk I (-1) (G1 110) I.length := qMk_xt (nv := nv) (fun k hk _ => hwI k hk) (fun k hk => vOf_get hk) I.length (Nat.le_refl _)
      have ev : vOf G2 nv = vOf G1 nv := by
        unfold vOf
        refine List.map_congr_left (fun k hk => ?_)
        exact k2 _ _ (by omega) (by omega) (by omega)
      obtain ⟨a0, aw, a1⟩ := hPW
      have aw' : ∀ x ∈ W ++ [vOf G1 nv], x.length = nv := fun x hx => by
        rcases List.mem_append.mp hx with q | q
        · exact aw x q
        · rw [List.mem_singleton.mp q]; exact vOf_len _ _
      have hP2 : rBs G2 nv (fun v => qMk I (-1) (vF v) I.length = some as) W := by
        unfold rBs at a1 ⊢
        rw [k2 _ _ (by omega) (by omega) (by omega)]
        rcases a1 with a | ⟨a2, v, v1, v2, v3, v4, v5⟩
        · exact .inl a
        · exact .inr ⟨a2, v, v1, v2, v3, fun k hk => by rw [k2 _ _ (by omega) (by omega) (by omega)]; exact v4 k hk, v5⟩
      have no : ¬ qMk I (-1) (vF (vOf G1 nv)) I.length = some as → rBs G2 nv (fun v => qMk I (-1) (vF v) I.length = some as) (W ++ [vOf G1 nv]) := fun hn => by
        rcases hP2 with ⟨p1, p2⟩ | ⟨p1, v, v1, v2, v3, v4, v5⟩
        · refine .inl ⟨p1, fun x hx => ?_⟩
          rcases List.mem_append.mp hx with q | q
          · exact p2 x q
          · rw [List.mem_singleton.mp q]; exact hn
        · refine .inr ⟨p1, v, List.mem_append.mpr (.inl v1), v2, v3, v4, fun x hx hx2 => ?_⟩
          rcases List.mem_append.mp hx with q | q
          · exact v5 x q hx2
          · rw [List.mem_singleton.mp q] at hx2; exact absurd hx2 hn
      have f2 : xUs G1 G2 := fun o j y1 y2 => k2 o j (by omega) (by omega) (by omega)
      have z43 : G2 0 43 = 0 := by rw [k2 _ _ (by omega) (by omega) (by omega)]; exact h43
      rcases k3 with ⟨xs, b1, b2, b3, b4⟩ | ⟨b1, b2⟩
      · have hxl := qMk_len _ _ b2
        have ve1 : rVe G2 112 0 xs := ⟨by rw [xl112]; omega, by omega, by omega, fun k hk => by rw [Nat.zero_add]; exact b3 k (by omega) (by omega)⟩
        have ve2 : rVe G2 118 0 as := ⟨by rw [xl118]; omega, by omega, by omega, fun k hk => by rw [Nat.zero_add, k2 _ _ (by omega) (by omega) (by omega), hE _ _ (by omega) (by omega)]; exact h118 k (by omega)⟩
        have ec : g262 f 112 0 118 0 (I.length : Int) G2 = some (vCmp xs as, G2) := l_262 (by omega) ve1 ve2 hxl has
        have e2 : g283 f G1 = (if ¬ vCmp xs as = 0 then some G2 else ((g286 f G2).bind fun R115 => some R115)) := by
          rw [e1, if_neg (by omega), ec, Option.bind_some]
        by_cases cc : vCmp xs as = 0
        · have exs : xs = as := vCmp_eq (by omega) cc
          obtain ⟨G3, w1, w2, w3⟩ := l_286 (f := f) (Y := fun v => qMk I (-1) (vF v) I.length = some as) (W := W) (G := G2) (by omega) hnv hr t39 t22 (by show qMk I (-1) (vF (vOf G2 nv)) I.length = some as; rw [ev, hmk, b2, exs]) aw hP2
          rw [ev] at w2
          refine ⟨G3, by rw [e2, if_neg (fun q => q cc), w1]; rfl, ⟨by rw [w3 _ _ (by omega) (by omega)]; exact z43, aw', w2⟩, fun o j y1 y2 => by rw [w3 o j (by omega) (by omega), f2 o j y1 y2]⟩
        · refine ⟨G2, by rw [e2, if_pos cc], ⟨z43, aw', no (fun q => cc ?_)⟩, f2⟩
          rw [hmk, b2] at q
          injection q with q
          rw [q]; exact vCmp_self as
      · refine ⟨G2, by rw [e1, if_pos b1], ⟨z43, aw', no (fun q => ?_)⟩, f2⟩
        rw [hmk, b2] at q
        cases q)
    h37 h43 ⟨h43, fun x hx => absurd hx (by simp), .inl ⟨h54, fun x hx => absurd hx (by simp)⟩⟩
  obtain ⟨z43, zw, z⟩ := u4
  refine ⟨G', u1, u2, ?_⟩
  rcases z with ⟨z1, z2⟩ | ⟨z1, v, v1, v2, v3, v4, v5⟩
  · exact .inl ⟨z1, fun x hx => z2 x (u8 z43 x hx)⟩
  · exact .inr ⟨z1, v, (u7 v v1).1, v2, v4, fun x hx hx2 => v5 x (u8 z43 x hx) hx2⟩
end
end
section
/-! Reasons: the row that an ATOM of the least WAY took -/
/-- the first of n that P holds of, or -1 -/
def fst1 (P : Nat → Prop) (n : Nat) (v : Int) : Prop := (∃ j, j < n ∧ P j ∧ (∀ i, i < j → ¬ P i) ∧ v = (j : Int)) ∨ (∀ j, j < n → ¬ P j) ∧ v = -1
def rsS (y : pLt) (R : Nat → List pRw) (op : Nat → pRw → Prop) (b : List Int) (v : Int) : Prop := fst1 (fun j => op y.2.1.toNat ((R y.2.1.toNat).getD j dRw) ∧ sTs (vF b) y.2.2.2.1 ((R y.2.1.toNat).getD j dRw).1) (R y.2.1.toNat).length v
def rsT (l : List pLt) (R : Nat → List pRw) (op : Nat → pRw → Prop) (b : List Int) (k : Nat) (v : Int) : Prop := match (l.filter (fun y => decide (y.1 = 1)))[k]? with
  | none => v = -1
  | some y => rsS y R op b v
section
variable {f nv np r c : Nat} {N : Nat → Nat} {R : Nat → List pRw} {K : Nat → Nat} {ra rb : Int} {l : List pLt} {b : List Int}
theorem l_376_68 {G : xG_} {x p : Nat} {T : pCd} {n : Nat} {L : List pRw} (hf : 600 < f) (hp : p < 16) (hT : rTm G x T) (hw : ∀ y ∈ T, wT1 nv y) (hnv : nv ≤ 8) (hR : rRw G p n L) (h37 : G 0 37 = ((2 ^ nv - 1 : Nat) : Int)) (h40 : G 0 40 = ra) (h41 : G 0 41 = rb) (hK : ra ≠ -1 → G 7 p = (K p : Int)) (hb : ∀ k, k < nv → G 110 k = vF b k) :
    ∀ (d i fu : Nat), i + d = L.length → d < fu → (∀ j, j < i → ¬ (qOp K ra rb p (L.getD j dRw) ∧ sTs (vF b) T (L.getD j dRw).1)) → ∃ v, g376_68 f fu (x : Int) (p : Int) (i : Int) G = some (v, G) ∧ fst1 (fun j => qOp K ra rb p (L.getD j dRw) ∧ sTs (vF b) T (L.getD j dRw).1) L.length v := by
  have hm : 2 ^ nv - 1 < 256 := by
    have : 2 ^ nv ≤ 2 ^ 8 := Nat.pow_le_pow_right (by decide) hnv
    omega
  have hfull : ∀ k, k < nv → (2 ^ nv - 1).testBit k = true := fun k hk => by rw [Nat.testBit_two_pow_sub_one]; exact decide_eq_true hk
  have hl := hR.2.1
  intro d
  induction d with
  | zero =>
    intro i fu h1 h2 hn
    obtain ⟨fu, rfl⟩ : ∃ t, fu = t + 1 := ⟨fu - 1, by omega⟩
    refine ⟨-1, ?_, .inr ⟨fun j hj => hn j (by omega), rfl⟩⟩
    show g376_68b (g376_68 f fu) f _ _ _ _ = _
    unfold g376_68b
    rw [if_pos (by omega), Int.toNat_natCast, hR.1, if_pos (by omega)]
  | succ d ih =>
    intro i fu h1 h2 hn
    obtain ⟨fu, rfl⟩ : ∃ t, fu = t + 1 := ⟨fu - 1, by omega⟩
    have hi : i < L.length := by omega
    have ek : xwr ((i : Int) + 1) = ((i + 1 : Nat) : Int) := by rw [xwr_g _ (by omega) (by omega)]; omega
    obtain ⟨b1, q1, q2⟩ := l_271 (f := f) (K := K) hp hR hi h40 h41 hK
    obtain ⟨b2, q3, q4⟩ := l_272 (f := f) (by omega) hp hT hw hnv hR hi hm h37
    have q5 : pFit (2 ^ nv - 1) (G 110) T (L.getD i dRw).1 ↔ sTs (vF b) T (L.getD i dRw).1 := by
      rw [pFit_full hw hfull]
      exact ⟨sTs_xt hw hb, sTs_xt hw (fun k hk => (hb k hk).symm)⟩
    have e1 : g376_68 f (fu + 1) (x : Int) (p : Int) (i : Int) G = (if b1 = 0 then g376_68 f fu (x : Int) (p : Int) ((i + 1 : Nat) : Int) G else if b2 = 0 then g376_68 f fu (x : Int) (p : Int) ((i + 1 : Nat) : Int) G else some ((i : Int), G)) := by
      show g376_68b (g376_68 f fu) f _ _ _ _ = _
      unfold g376_68b g376_99
      rw [if_pos (by omega), Int.toNat_natCast, hR.1, if_neg (by omega), q1, Option.bind_some, ek]
      by_cases c1 : b1 = 0
      · rw [if_pos c1, if_pos c1]
      · rw [if_neg c1, if_neg c1]
        show Option.bind (g272 f (x : Int) (p : Int) (i : Int) G) _ = _
        rw [q3, Option.bind_some]
    have next : ¬ (qOp K ra rb p (L.getD i dRw) ∧ sTs (vF b) T (L.getD i dRw).1) → g376_68 f (fu + 1) (x : Int) (p : Int) (i : Int) G = g376_68 f fu (x : Int) (p : Int) ((i + 1 : Nat) : Int) G → ∃ v, g376_68 f (fu + 1) (x : Int) (p : Int) (i : Int) G = some (v, G) ∧ fst1 (fun j => qOp K ra rb p (L.getD j dRw) ∧ sTs (vF b) T (L.getD j dRw).1) L.length v := fun hno he => by
      obtain ⟨v, k1, k2⟩ := ih (i + 1) fu (by omega) (by omega) (fun j hj => by
        by_cases cj : j = i
        · rw [cj]; exact hno
        · exact hn j (by omega))
      exact ⟨v, he.trans k1, k2⟩
    rcases q2 with ⟨y1, y2⟩ | ⟨y1, y2⟩
    · rcases q4 with ⟨y3, y4⟩ | ⟨y3, y4⟩
      · refine ⟨(i : Int), ?_, .inl ⟨i, hi, ⟨y2, q5.mp y4⟩, hn, rfl⟩⟩
        rw [e1, y1, if_neg (by decide), y3, if_neg (by decide)]
      · exact next (fun q => y4 (q5.mpr q.2)) (by rw [e1, y1, if_neg (by decide), y3, if_pos rfl])
    · exact next (fun q => y2 q.1) (by rw [e1, y1, if_pos rfl])
theorem l_376_2 {x : Int} (hnv : nv ≤ 8) (hr : r < 25) : ∀ (d k fu : Nat) (G : xG_), k + d = nv → d < fu → G 0 39 = (r : Int) → G 22 r = (nv : Int) →
    ∃ G', g376_2 f fu x (k : Int) G = (if 0 ≤ x ∧ x < 200 then g376_68 f f x (G' 28 x.toNat) 0 G' else none) ∧ G' 0 37 = ((2 ^ nv - 1 : Nat) : Int) ∧ (∀ z, k ≤ z → z < nv → G' 110 z = G 117 z) ∧ ∀ a j, ¬ (a = 0 ∧ j = 37) → ¬ (a = 110 ∧ k ≤ j) → G' a j = G a j := by
  intro d
  have hrr : 0 ≤ (r : Int) ∧ (r : Int) < 25 := by omega
  have hpw : 2 ^ nv ≤ 256 := Nat.pow_le_pow_right (n := 2) (by decide) hnv
  have hpw1 : 1 ≤ 2 ^ nv := Nat.one_le_two_pow
  induction d with
  | zero =>
    intro k fu G h1 h2 h39 h22
    obtain ⟨fu, rfl⟩ : ∃ t, fu = t + 1 := ⟨fu - 1, by omega⟩
    have e2 : xwr (xshl 1 (nv : Int) - 1) = ((2 ^ nv - 1 : Nat) : Int) := by
      rw [xshl_nat (by omega), xwr_g _ (by omega) (by omega)]; omega
    refine ⟨xup2 G 0 37 ((2 ^ nv - 1 : Nat) : Int), ?_, xup2_s _ _ _ _, fun z _ _ => by omega, fun a j q1 q2 => xup2_n (by omega)⟩
    show g376_2b (g376_2 f fu) f _ _ _ = _
    unfold g376_2b
    have h22' : G (2 + 20) r = (nv : Int) := h22
    rw [h39, if_pos hrr, Int.toNat_natCast, h22', if_pos (by omega), if_pos hrr, e2, Option.bind_some]
  | succ d ih =>
    intro k fu G h1 h2 h39 h22
    obtain ⟨fu, rfl⟩ : ∃ t, fu = t + 1 := ⟨fu - 1, by omega⟩
    have ek : xwr ((k : Int) + 1) = ((k + 1 : Nat) : Int) := by rw [xwr_g _ (by omega) (by omega)]; omega
    obtain ⟨G', u1, u2, u3, u4⟩ := ih (k + 1) fu (xup2 G 110 k (G 117 k)) (by omega) (by omega) (by rw [xup2_n (by omega)]; exact h39) (by rw [xup2_n (by omega)]; exact h22)
    refine ⟨G', ?_, u2, fun z z1 z2 => ?_, fun a j q1 q2 => by rw [u4 a j q1 (by omega), xup2_n (by omega)]⟩
    · show g376_2b (g376_2 f fu) f _ _ _ = _
      unfold g376_2b
      have h22' : G (2 + 20) r = (nv : Int) := h22
      rw [h39, if_pos hrr, Int.toNat_natCast, h22', if_neg (by omega), if_pos (by omega), if_pos (by omega), Int.toNat_natCast, Option.bind_some, ek]
      exact u1
    · by_cases cz : z = k
      · rw [cz, u4 _ _ (by omega) (by omega), xup2_s]
      · rw [u3 z (by omega) z2, xup2_n (by omega)]
/-- supporter() -/
theorem l_375 {G : xG_} (hf : 600 < f) (hr : r < 25) (hnv : nv ≤ 8) (hnp : np ≤ 16) (hw : ∀ y ∈ l, wLt np nv y ∧ (y.1 ≠ 3 → 0 ≤ y.2.1)) (hL : rLs G 2 r c l) (h39 : G 0 39 = (r : Int)) (h22 : G 22 r = (nv : Int)) (h40 : G 0 40 = ra) (h41 : G 0 41 = rb) (hK : ra ≠ -1 → ∀ p, p < np → G 7 p = (K p : Int)) (hT : rTb G np N R) (hb : ∀ k, k < nv → G 117 k = vF b k) :
    ∀ (d i fu k : Nat), i + d = l.length → d < fu → k < 2147483648 → ∃ v G', g375_4 f fu (k : Int) (i : Int) G = some (v, G') ∧ rsT (l.drop i) R (qOp K ra rb) b k v ∧ ∀ a j, ¬ (a = 0 ∧ j = 37) → a ≠ 110 → G' a j = G a j := by
  have hrr : 0 ≤ (r : Int) ∧ (r : Int) < 25 := by omega
  have hl8 := hL.2.1
  have h21 : G (2 + 19) r = (l.length : Int) := hL.1
  intro d
  induction d with
  | zero =>
    intro i fu k h1 h2 hk
    obtain ⟨fu, rfl⟩ : ∃ t, fu = t + 1 := ⟨fu - 1, by omega⟩
    refine ⟨-1, G, ?_, ?_, fun _ _ _ _ => rfl⟩
    · show g375_4b (g375_4 f fu) f _ _ _ = _
      unfold g375_4b
      rw [h39, if_pos hrr, Int.toNat_natCast, h21, if_pos (by omega)]
    · rw [List.drop_eq_nil_of_le (by omega)]
      rfl
  | succ d ih =>
    intro i fu k h1 h2 hk
    obtain ⟨fu, rfl⟩ : ∃ t, fu = t + 1 := ⟨fu - 1, by omega⟩
    have hi : i < l.length := by omega
    have ek : xwr ((i : Int) + 1) = ((i + 1 : Nat) : Int) := by rw [xwr_g _ (by omega) (by omega)]; omega
    have ex : xwr (xwr ((r : Int) * 8) + (i : Int)) = ((8 * r + i : Nat) : Int) := by
      rw [xwr_g ((r : Int) * 8) (by omega) (by omega), xwr_g _ (by omega) (by omega)]; omega
    have hLt := hL.2.2 i hi
    have ed : l.drop i = l[i] :: l.drop (i + 1) := List.drop_eq_getElem_cons hi
    rw [getD_e hi] at hLt
    have h27 : G (2 + 25) (8 * r + i) = l[i].1 := hLt.1
    have hwy := hw _ (List.getElem_mem hi)
    by_cases c1 : l[i].1 = 1
    · have ef : (l.drop i).filter (fun y => decide (y.1 = 1)) = l[i] :: (l.drop (i + 1)).filter (fun y => decide (y.1 = 1)) := by
        rw [ed, List.filter_cons_of_pos (by rw [decide_eq_true_iff]; exact c1)]
      by_cases c2 : k = 0
      · -- this ATOM
        have h3 : l[i].1 ≠ 3 := by omega
        obtain ⟨l1, l2, l3⟩ := hLt.2.2.1 h3
        have hp0 := hwy.2 h3
        have hwl : -1 ≤ l[i].2.1 ∧ l[i].2.1 < np ∧ l[i].2.2.2.1.length ≤ 4 ∧ ∀ x ∈ l[i].2.2.2.1, wT1 nv x := by
          rcases hwy.1 with q | q
          · exact ⟨q.2.1, q.2.2.1, q.2.2.2.2.1, q.2.2.2.2.2⟩
          · exact absurd q.1 h3
        obtain ⟨p, hp⟩ : ∃ p : Nat, l[i].2.1 = (p : Int) := ⟨l[i].2.1.toNat, by omega⟩
        have hpn : p < np := by omega
        obtain ⟨G1, u1, u2, u3, u4⟩ := l_376_2 (f := f) (nv := nv) (r := r) (x := ((8 * r + i : Nat) : Int)) hnv hr nv 0 f G (by omega) (by omega) h39 h22
        have z : ∀ a j, ¬ (a = 0 ∧ j = 37) → a ≠ 110 → G1 a j = G a j := fun a j q1 q2 => u4 a j q1 (by omega)
        have hTm : rTm G1 (8 * r + i) l[i].2.2.2.1 := ⟨by omega, by rw [z _ _ (by omega) (by omega)]; exact l2, hwl.2.2.1, fun k hk => by rw [z _ _ (by omega) (by omega), z _ _ (by omega) (by omega)]; exact l3 k hk⟩
        have h28 : G1 28 (8 * r + i) = (p : Int) := by rw [z _ _ (by omega) (by omega), ← hp]; exact l1
        have hTb := hT.ge (G' := G1) (fun a j _ _ => z _ _ (by omega) (by omega))
        obtain ⟨v, v1, v2⟩ := l_376_68 (f := f) (K := K) (ra := ra) (rb := rb) (b := b) (nv := nv) (G := G1) hf (by omega) hTm hwl.2.2.2 hnv (hTb p hpn).1 u2 (by rw [z _ _ (by omega) (by omega)]; exact h40) (by rw [z _ _ (by omega) (by omega)]; exact h41) (fun q => by rw [z _ _ (by omega) (by omega)]; exact hK q p hpn) (fun k hk => by rw [u3 k (Nat.zero_le _) hk]; exact hb k hk) (R p).length 0 f (by omega) (by have := (hTb p hpn).1.2.1; omega) (fun j hj => absurd hj (Nat.not_lt_zero j))
        refine ⟨v, G1, ?_, ?_, z⟩
        · show g375_4b (g375_4 f fu) f _ _ _ = _
          unfold g375_4b
          rw [h39, if_pos hrr, Int.toNat_natCast, h21, if_neg (by omega), ex, if_pos (by omega), Int.toNat_natCast, h27, if_pos c1, if_neg (by omega)]
          have eg : g376 f ((8 * r + i : Nat) : Int) G = some (v, G1) := by
            unfold g376
            have u1' : g376_2 f f ((8 * r + i : Nat) : Int) 0 G = _ := u1
            rw [u1', if_pos (by omega), Int.toNat_natCast, h28]
            exact v1
          rw [eg, Option.bind_some]
        · unfold rsT
          rw [ef, c2]
          show rsS l[i] R _ b v
          unfold rsS
          rw [hp, Int.toNat_natCast]
          exact v2
      · obtain ⟨k, rfl⟩ : ∃ t, k = t + 1 := ⟨k - 1, by omega⟩
        obtain ⟨v, G', v1, v2, v3⟩ := ih (i + 1) fu k (by omega) (by omega) (by omega)
        have ek2 : xwr (((k + 1 : Nat) : Int) + -1) = (k : Int) := by rw [xwr_g _ (by omega) (by omega)]; omega
        refine ⟨v, G', ?_, ?_, v3⟩
        · show g375_4b (g375_4 f fu) f _ _ _ = _
          unfold g375_4b g375_62
          rw [h39, if_pos hrr, Int.toNat_natCast, h21, if_neg (by omega), ex, if_pos (by omega), Int.toNat_natCast, h27, if_pos c1, if_pos (by omega), ek2, ek]
          exact v1
        · unfold rsT at v2 ⊢
          rw [ef, List.getElem?_cons_succ]
          exact v2
    · obtain ⟨v, G', v1, v2, v3⟩ := ih (i + 1) fu k (by omega) (by omega) hk
      have ef : (l.drop i).filter (fun y => decide (y.1 = 1)) = (l.drop (i + 1)).filter (fun y => decide (y.1 = 1)) := by
        rw [ed, List.filter_cons_of_neg (by rw [decide_eq_true_iff]; exact c1)]
      refine ⟨v, G', ?_, ?_, v3⟩
      · show g375_4b (g375_4 f fu) f _ _ _ = _
        unfold g375_4b g375_62
        rw [h39, if_pos hrr, Int.toNat_natCast, h21, if_neg (by omega), ex, if_pos (by omega), Int.toNat_natCast, h27, if_neg c1, ek]
        exact v1
      · unfold rsT at v2 ⊢
        rw [ef]
        exact v2
end
end
section
/-! reason() of the reference -/
/-- a WAY of a rule that gives the row as of p over rows in use before rk -/
def rsW (s : pPg) (M : Nat → List pRw) (p : Nat) (as : List Int) (rk : Int) (u : pRu) (v : List Int) : Prop := isW u.2.2.2.2.2 u.2.2.2.2.1.length M (qOp (qK s) (qK s p : Int) rk) v ∧ qMk u.2.2.2.1 (-1) (vF v) u.2.2.2.1.length = some as
/-- a rule that gives the row -/
def rsG (s : pPg) (M : Nat → List pRw) (p : Nat) (as : List Int) (rk : Int) (u : pRu) : Prop := u.1 = (p : Int) ∧ ((qG u = 0 ∧ ∃ v, rsW s M p as rk u v) ∨ (qG u ≠ 0 ∧ rk = 1 ∧ ∃ ks, gDs u.2.2.2.2.2 u.2.2.2.2.1.length M qO1 (qG u) u.2.2.1.2.2 u.2.2.2.1 u.2.2.1.2.1.toNat ks as))
/-- what reason tells of a row -/
def rsA (s : pPg) (M : Nat → List pRw) (p : Nat) (as : List Int) (rk k v : Int) : Prop :=
  (∃ r, r < s.2.2.2.2.1.length ∧ rsG s M p as rk (s.2.2.2.2.1.getD r dRu) ∧ (∀ i, i < r → ¬ rsG s M p as rk (s.2.2.2.2.1.getD i dRu)) ∧
    ((k = 0 ∧ v = (r : Int)) ∨ (k ≠ 0 ∧ qG (s.2.2.2.2.1.getD r dRu) ≠ 0 ∧ v = -1) ∨ (k ≠ 0 ∧ qG (s.2.2.2.2.1.getD r dRu) = 0 ∧ ∃ b, rsW s M p as rk (s.2.2.2.2.1.getD r dRu) b ∧ (∀ x, rsW s M p as rk (s.2.2.2.2.1.getD r dRu) x → vLe b x) ∧ rsT (s.2.2.2.2.1.getD r dRu).2.2.2.2.2 M (qOp (qK s) (qK s p : Int) rk) b (k - 1).toNat v))) ∨
  ((∀ r, r < s.2.2.2.2.1.length → ¬ rsG s M p as rk (s.2.2.2.2.1.getD r dRu)) ∧ v = -1)
def xfRs (G G' : xG_) : Prop := ∀ a j, ¬ (a = 0 ∧ 37 ≤ j ∧ j ≤ 61) → ¬ (110 ≤ a ∧ a ≤ 121 ∧ a ≠ 118) → G' a j = G a j
section
variable {f q c p : Nat} {s : pPg} {M : Nat → List pRw} {as : List Int} {rk k : Int}
theorem l_374_99 (hf : 1000100 < f) (hok : qOk s) (hT : qTb s M) (hp : p < s.1.length) (has : as.length = qN s p) (hk0 : 0 ≤ k) (hk1 : k < 2147483648) :
    ∀ (d i fu : Nat) (G : xG_), i + d = s.2.2.2.2.1.length → d < fu → rEn G q c s M → G 0 54 = 0 → (∀ j, j < 4 → G 118 j = as.getD j 0) → (∀ i', i' < i → ¬ rsG s M p as rk (s.2.2.2.2.1.getD i' dRu)) →
      ∃ v G', g374_99 f fu (p : Int) k rk (i : Int) G = some (v, G') ∧ rsA s M p as rk k v ∧ xfRs G G' := by
  have hnp : s.1.length ≤ 16 := hok.1.1
  have hR' : ∀ p, p < s.1.length → (M p).length ≤ 100 ∧ ∀ w ∈ M p, ∀ x ∈ w.1, vOk x := fun p hp => ⟨(hT p hp).1, fun w hw => ((hT p hp).2.2 w hw).2⟩
  intro d
  induction d with
  | zero =>
    intro i fu G h1 h2 hE h54 h118 hno
    obtain ⟨fu, rfl⟩ : ∃ t, fu = t + 1 := ⟨fu - 1, by omega⟩
    refine ⟨-1, G, ?_, .inr ⟨fun r hr => hno r (by omega), rfl⟩, fun _ _ _ _ => rfl⟩
    show g374_99b (g374_99 f fu) f _ _ _ _ _ = _
    unfold g374_99b
    rw [hE.1.2.2.1.1, if_pos (by omega)]
  | succ d ih =>
    intro i fu G h1 h2 hE h54 h118 hno
    obtain ⟨fu, rfl⟩ : ∃ t, fu = t + 1 := ⟨fu - 1, by omega⟩
    have hi : i < s.2.2.2.2.1.length := by omega
    obtain ⟨u, eu, u1, u2, u3, u4, u5, u6, p', p1, p2, p3⟩ := rul hok hE hi
    obtain ⟨e1, e2, e3, e4⟩ := hE
    obtain ⟨t1, t2, ⟨t3, t4, t5, t6⟩, t7, t8, t9, t10, t11⟩ := u4
    obtain ⟨w1, w2, w3, w4, w5, w6, w7, w8, w9⟩ := u5
    have hrr : 0 ≤ (i : Int) ∧ (i : Int) < 25 := by omega
    have ei : xwr ((i : Int) + 1) = ((i + 1 : Nat) : Int) := by rw [xwr_g _ (by omega) (by omega)]; omega
    have h9 : G 2 9 = (s.2.2.2.2.1.length : Int) := e1.2.2.1.1
    have h15 : G (2 + 13) i = u.1 := t1
    have h18 : G 18 i = qG u := t3
    have h22 : G 22 i = (u.2.2.2.2.1.length : Int) := t10.1
    have wit := w5.2
    -- on to the next rule
    have next : ∀ G1, xfRs G G1 → G1 0 54 = 0 → ¬ rsG s M p as rk (s.2.2.2.2.1.getD i dRu) → g374_99 f (fu + 1) (p : Int) k rk (i : Int) G = g374_99 f fu (p : Int) k rk ((i + 1 : Nat) : Int) G1 → ∃ v G', g374_99 f (fu + 1) (p : Int) k rk (i : Int) G = some (v, G') ∧ rsA s M p as rk k v ∧ xfRs G G' := fun G1 hx h54' hn he => by
      obtain ⟨v, G', k1, k2, k3⟩ := ih (i + 1) fu G1 (by omega) (by omega) (rEn.ge (G := G) ⟨e1, e2, e3, e4⟩ (fun a j _ _ => hx _ _ (by omega) (by omega)) (fun a j _ _ => hx _ _ (by omega) (by omega))) h54' (fun j hj => by rw [hx _ _ (by omega) (by omega)]; exact h118 j hj) (fun i' hi' => by
        by_cases ci : i' = i
        · rw [ci]; exact hn
        · exact hno i' (by omega))
      exact ⟨v, G', he.trans k1, k2, fun a j y1 y2 => (k3 a j y1 y2).trans (hx a j y1 y2)⟩
    by_cases cp : u.1 = (p : Int)
    · let Z := xup2 (xup2 (xup2 (xup2 G 0 39 (i : Int)) 0 43 0) 0 37 0) 0 40 (-1)
      have z : ∀ a j, ¬ (a = 0 ∧ (j = 37 ∨ j = 39 ∨ j = 40 ∨ j = 43)) → Z a j = G a j := fun a j h => by
        show xup2 _ _ _ _ _ _ = _
        simp (disch := omega) only [xup2_n]
      have z18 : Z (2 + 16) i = qG u := by rw [z _ _ (by omega)]; exact h18
      have z2 : ∀ a j, 2 ≤ a → a ≤ 36 → Z a j = G a j := fun a j _ _ => z a j (by omega)
      have est : g374_99 f (fu + 1) (p : Int) k rk (i : Int) G = (if (Z (2 + 16) i) = 0 then (if 0 ≤ (p : Int) ∧ (p : Int) < 16 then ((some (xup2 Z 0 40 (Z (2 + 5) (p : Int).toNat))).bind fun G126 => ((some (xup2 G126 0 41 rk)).bind fun G130 => ((some (xup2 G130 0 38 4)).bind fun G134 => ((g275 f 0 G134).bind fun R135 => (if (R135 0 54) = 0 then g374_240 (g374_99 f fu) f (p : Int) k rk (i : Int) R135 else (if ¬ k = 0 then ((g375 f (xwr (k - 1)) R135).bind fun R142 => g374_239 f (R142.1) R142.2) else g374_239 f (i : Int) R135)))))) else none) else (if ¬ rk = (1) then g374_240 (g374_99 f fu) f (p : Int) k rk (i : Int) Z else ((g288 f 1 Z).bind fun R148 => (if (R148.1) = 0 then g374_240 (g374_99 f fu) f (p : Int) k rk (i : Int) R148.2 else (if ¬ k = 0 then g374_186 f (-1) R148.2 else g374_186 f (i : Int) R148.2))))) := by
        show g374_99b (g374_99 f fu) f _ _ _ _ _ = _
        unfold g374_99b
        rw [h9, if_neg (by omega), if_pos hrr, Int.toNat_natCast, h15, if_pos cp]
        simp only [Option.bind_some]
        rw [if_pos hrr]
      have hlen : u.2.2.2.1.length = qN s p := by
        have : p' = p := by omega
        rw [← this]; exact p3
      by_cases cg : u.2.2.1.1 = 0
      · have hqg : qG u = 0 := by unfold qG; rw [if_pos cg]
        have hgA : u.2.2.1.2.1 = -1 := by
          rcases w5.1 with z | z
          · exact z.2.1
          · have : (10 : Int) ≤ u.2.2.1.1 := z.1.1; omega
        have hHd : rHd G i c u.2.2.2.1 (-1) := ⟨t7, t8, by have h9 : G 19 i = u.2.2.1.2.1 := t4; rw [h9, hgA], t9⟩
        let G1 := xup2 (xup2 (xup2 Z 0 40 (qK s p : Int)) 0 41 rk) 0 38 4
        have g1 : ∀ a j, ¬ (a = 0 ∧ (37 ≤ j ∧ j ≤ 41 ∨ j = 43)) → G1 a j = G a j := fun a j h => by
          show xup2 _ _ _ _ _ _ = _
          rw [xup2_n (by omega), xup2_n (by omega), xup2_n (by omega), z a j (by omega)]
        have g12 : ∀ a j, 2 ≤ a → a ≤ 36 → G1 a j = G a j := fun a j _ _ => g1 a j (by omega)
        have g37 : G1 0 37 = 0 := by
          show xup2 _ _ _ _ _ _ = _
          rw [xup2_n (by omega), xup2_n (by omega), xup2_n (by omega)]
          show xup2 _ _ _ _ _ _ = _
          rw [xup2_n (by omega), xup2_s]
        have g39 : G1 0 39 = (i : Int) := by
          show xup2 _ _ _ _ _ _ = _
          rw [xup2_n (by omega), xup2_n (by omega), xup2_n (by omega)]
          show xup2 _ _ _ _ _ _ = _
          rw [xup2_n (by omega), xup2_n (by omega), xup2_n (by omega), xup2_s]
        have g43 : G1 0 43 = 0 := by
          show xup2 _ _ _ _ _ _ = _
          rw [xup2_n (by omega), xup2_n (by omega), xup2_n (by omega)]
          show xup2 _ _ _ _ _ _ = _
          rw [xup2_n (by omega), xup2_n (by omega), xup2_s]
        have g40 : G1 0 40 = (qK s p : Int) := by
          show xup2 _ _ _ _ _ _ = _
          rw [xup2_n (by omega), xup2_n (by omega), xup2_s]
        have g41 : G1 0 41 = rk := by
          show xup2 _ _ _ _ _ _ = _
          rw [xup2_n (by omega), xup2_s]
        have hK : (qK s p : Int) ≠ -1 → ∀ y, y < s.1.length → G1 7 y = (qK s y : Int) := fun _ y hy => by rw [g12 _ _ (by omega) (by omega)]; exact e3.2 y hy
        obtain ⟨G2, k1, k2, k3⟩ := l_bst (f := f) (K := qK s) (ra := (qK s p : Int)) (rb := rk) (G := G1) (N := qN s) (np := s.1.length) (as := as) (by omega) (by omega : i < 25) w6 hnp u3 w8 w9 u6 (t11.v g12) (hHd.v g12) (fun k hk => by
            rcases wit k hk with ⟨y1, _⟩ | ⟨_, y2⟩
            · have y3 : (k : Int) = u.2.2.1.2.1 := y1
              omega
            · exact y2) (by rw [g12 _ _ (by omega) (by omega)]; exact h22) (xup2_s _ _ _ _) g39 g40 (fun _ => g41) hK (e4.ge (fun a j _ _ => g1 a j (by omega))) hR' g37 g43 (by rw [g1 _ _ (by omega)]; exact h54) (by omega) (fun k hk => by rw [g1 _ _ (by omega)]; exact h118 k (by omega))
        have x2 : xfRs G G2 := fun a j y1 y2 => by rw [k2 a j (by omega) y2, g1 a j (by omega)]
        have est2 : g374_99 f (fu + 1) (p : Int) k rk (i : Int) G = (if (G2 0 54) = 0 then g374_240 (g374_99 f fu) f (p : Int) k rk (i : Int) G2 else (if ¬ k = 0 then ((g375 f (xwr (k - 1)) G2).bind fun R142 => g374_239 f (R142.1) R142.2) else g374_239 f (i : Int) G2)) := by
          have z7 : Z (2 + 5) (p : Int).toNat = (qK s p : Int) := by rw [Int.toNat_natCast, z _ _ (by omega)]; exact e3.2 p hp
          rw [est, z18, hqg, if_pos rfl, if_pos (by omega), z7, Option.bind_some, Option.bind_some, Option.bind_some]
          show Option.bind (g275 f 0 G1) _ = _
          rw [k1, Option.bind_some]
        rcases k3 with ⟨q1, q2⟩ | ⟨q1, b, b1, b2, b3, b4⟩
        · refine next G2 x2 q1 ?_ ?_
          · rw [← eu]
            rintro ⟨_, ⟨_, v, v1, v2⟩ | ⟨q, _⟩⟩
            · exact q2 v v1 v2
            · exact q hqg
          · rw [est2, if_pos q1]
            unfold g374_240
            rw [ei]
        · have hG : rsG s M p as rk (s.2.2.2.2.1.getD i dRu) := by
            rw [← eu]
            exact ⟨cp, .inl ⟨hqg, b, b1, b2⟩⟩
          by_cases ck : k = 0
          · refine ⟨(i : Int), G2, ?_, .inl ⟨i, hi, hG, hno, .inl ⟨ck, rfl⟩⟩, x2⟩
            rw [est2, if_neg (by omega), if_neg (fun q => q ck)]
            rfl
          · obtain ⟨k', hk'⟩ : ∃ k' : Nat, k - 1 = (k' : Int) := ⟨(k - 1).toNat, by omega⟩
            have f2 : ∀ a j, 2 ≤ a → a ≤ 36 → G2 a j = G a j := fun a j _ _ => x2 a j (by omega) (by omega)
            obtain ⟨v, G3, v1, v2, v3⟩ := l_375 (f := f) (G := G2) (r := i) (nv := u.2.2.2.2.1.length) (np := s.1.length) (c := c) (l := u.2.2.2.2.2) (K := qK s) (ra := (qK s p : Int)) (rb := rk) (N := qN s) (R := M) (b := b) (by omega) (by omega) w6 hnp w9 (t11.v f2) (by rw [k2 _ _ (by omega) (by omega)]; exact g39) (by rw [f2 _ _ (by omega) (by omega)]; exact h22) (by rw [k2 _ _ (by omega) (by omega)]; exact g40) (by rw [k2 _ _ (by omega) (by omega)]; exact g41) (fun _ y hy => by rw [f2 _ _ (by omega) (by omega)]; exact e3.2 y hy) (e4.ge (fun a j _ _ => x2 a j (by omega) (by omega))) b3 u.2.2.2.2.2.length 0 f k' (by omega) (by have := t11.2.1; omega) (by omega)
            refine ⟨v, G3, ?_, .inl ⟨i, hi, hG, hno, .inr (.inr ⟨ck, by rw [← eu]; exact hqg, b, by rw [← eu]; exact ⟨b1, b2⟩, fun x hx => by rw [← eu] at hx; exact b4 x hx.1 hx.2, ?_⟩)⟩, fun a j y1 y2 => by rw [v3 a j (by omega) (by omega), x2 a j y1 y2]⟩
            · rw [est2, if_neg (by omega), if_pos ck, hk', xwr_g _ (by omega) (by omega)]
              have v1' : g375 f (k' : Int) G2 = some (v, G3) := v1
              rw [v1', Option.bind_some]
              rfl
            · rw [← eu, hk', Int.toNat_natCast]
              rw [List.drop_zero] at v2
              exact v2
      · have hg10 : (10 ≤ u.2.2.1.1 ∧ u.2.2.1.1 ≤ 13) ∧ 0 ≤ u.2.2.1.2.1 ∧ u.2.2.1.2.1 < u.2.2.2.1.length ∧ (u.2.2.1.1 = 10 ∧ u.2.2.1.2.2 = -1 ∨ u.2.2.1.1 ≠ 10 ∧ 0 ≤ u.2.2.1.2.2 ∧ u.2.2.1.2.2 < u.2.2.2.2.1.length) := by
          rcases w5.1 with z | z
          · exact absurd z.1 cg
          · exact z
        have hqg : qG u = u.2.2.1.1 - 9 := by unfold qG; rw [if_neg cg]
        have nqg : ¬ qG u = 0 := by omega
        obtain ⟨gA, hgA⟩ : ∃ gA : Nat, u.2.2.1.2.1 = (gA : Int) := ⟨u.2.2.1.2.1.toNat, by omega⟩
        have hHd : rHd G i c u.2.2.2.1 (gA : Int) := ⟨t7, t8, by have h9 : G 19 i = u.2.2.1.2.1 := t4; rw [h9, hgA], t9⟩
        have h20 : G 20 i = u.2.2.1.2.2 := t5
        have xz : xfRs G Z := fun a j y1 y2 => z a j (by omega)
        by_cases cr : rk = 1
        · have zz39 : Z 0 39 = (i : Int) := by
            show xup2 _ _ _ _ _ _ = _
            rw [xup2_n (by omega), xup2_n (by omega), xup2_n (by omega), xup2_s]
          have zz43 : Z 0 43 = 0 := by
            show xup2 _ _ _ _ _ _ = _
            rw [xup2_n (by omega), xup2_n (by omega), xup2_s]
          obtain ⟨G2, b, k1, k2, k3, k4⟩ := l_gas4 (f := f) (K := fun _ => 0) (G := Z) (N := qN s) (np := s.1.length) (gA := gA) (kk := qG u) (gO := u.2.2.1.2.2) (as := as) hf (by omega : i < 25) w6 hnp u3 w8 w9 u6 ⟨t11.v z2, hHd.v z2, by rw [z _ _ (by omega)]; exact h18, by rw [z _ _ (by omega)]; exact h20⟩ (fun k hk hne => by
              rcases wit k hk with ⟨y1, _⟩ | ⟨_, y2⟩
              · have y3 : (k : Int) = u.2.2.1.2.1 := y1
                omega
              · exact y2) (by omega) (by omega) (fun hk => by omega) zz39 (xup2_s _ _ _ _) (e4.ge (fun a j _ _ => z a j (by omega))) hR' zz43 (by omega) (fun k hk => by rw [z _ _ (by omega)]; exact h118 k (by omega))
          have x2 : xfRs G G2 := fun a j y1 y2 => by rw [k2 a j (by omega) y2, z a j (by omega)]
          have est2 : g374_99 f (fu + 1) (p : Int) k rk (i : Int) G = (if b = 0 then g374_240 (g374_99 f fu) f (p : Int) k rk (i : Int) G2 else (if ¬ k = 0 then g374_186 f (-1) G2 else g374_186 f (i : Int) G2)) := by
            rw [est, z18, if_neg nqg, if_neg (fun q => q cr), k1, Option.bind_some]
          rcases k3 with ⟨q1, ks, q2⟩ | ⟨q1, q2⟩
          · have hG : rsG s M p as rk (s.2.2.2.2.1.getD i dRu) := by
              rw [← eu]
              refine ⟨cp, .inr ⟨nqg, cr, ks, ?_⟩⟩
              rw [hgA, Int.toNat_natCast, ← qOp_1 (fun _ => 0)]
              exact q2
            by_cases ck : k = 0
            · refine ⟨(i : Int), G2, ?_, .inl ⟨i, hi, hG, hno, .inl ⟨ck, rfl⟩⟩, x2⟩
              rw [est2, if_neg (by omega), if_neg (fun q => q ck)]
              rfl
            · refine ⟨-1, G2, ?_, .inl ⟨i, hi, hG, hno, .inr (.inl ⟨ck, by rw [← eu]; exact nqg, rfl⟩)⟩, x2⟩
              rw [est2, if_neg (by omega), if_pos ck]
              rfl
          · refine next G2 x2 (by rw [k4 q1, z _ _ (by omega)]; exact h54) ?_ ?_
            · rw [← eu]
              rintro ⟨_, ⟨q, _⟩ | ⟨_, _, ks, q⟩⟩
              · exact nqg q
              · rw [hgA, Int.toNat_natCast, ← qOp_1 (fun _ => 0)] at q
                exact q2 ⟨ks, q⟩
            · rw [est2, if_pos q1]
              unfold g374_240
              rw [ei]
        · refine next Z xz (by rw [z _ _ (by omega)]; exact h54) ?_ ?_
          · rw [← eu]
            rintro ⟨_, ⟨q, _⟩ | ⟨_, q, _⟩⟩
            · exact nqg q
            · exact cr q
          · rw [est, z18, if_neg nqg, if_pos cr]
            unfold g374_240
            rw [ei]
    · refine next G (fun _ _ _ _ => rfl) h54 (by rw [← eu]; exact fun q => cp q.1) ?_
      show g374_99b (g374_99 f fu) f _ _ _ _ _ = _
      unfold g374_99b g374_240
      rw [h9, if_neg (by omega), if_pos hrr, Int.toNat_natCast, h15, if_neg cp, ei]
end
end
section
/-! reason() and thrown() of the reference -/
section
variable {f m n hr : Nat} {T : List (List Int)} {lns : Nat → sLn}
theorem l_374_58 {p i : Nat} {k rk : Int} {L : List pRw} {w : Nat} (hp : p < 16) (hi : i < L.length) : ∀ (d j fu : Nat) (G : xG_), j + d = 4 → d < fu → rRw G p w L →
    ∃ G', g374_58 f fu (p : Int) (i : Int) k rk (j : Int) G = g374_99 f f (p : Int) k rk 0 G' ∧ G' 0 54 = 0 ∧ (∀ z, j ≤ z → z < 4 → G' 118 z = (L.getD i dRw).1.getD z 0) ∧ ∀ a z, ¬ (a = 0 ∧ z = 54) → ¬ (a = 118 ∧ j ≤ z) → G' a z = G a z := by
  intro d
  induction d with
  | zero =>
    intro j fu G h1 h2 hR
    obtain ⟨fu, rfl⟩ : ∃ t, fu = t + 1 := ⟨fu - 1, by omega⟩
    refine ⟨xup2 G 0 54 0, ?_, xup2_s _ _ _ _, fun z _ _ => by omega, fun a z q1 q2 => xup2_n (by omega)⟩
    show g374_58b (g374_58 f fu) f _ _ _ _ _ _ = _
    unfold g374_58b
    rw [if_pos (by omega), Option.bind_some]
  | succ d ih =>
    intro j fu G h1 h2 hR
    obtain ⟨fu, rfl⟩ : ∃ t, fu = t + 1 := ⟨fu - 1, by omega⟩
    have hl := hR.2.1
    have ej : xwr ((j : Int) + 1) = ((j + 1 : Nat) : Int) := by rw [xwr_g _ (by omega) (by omega)]; omega
    have ex : xwr ((((p * 520 + i) * 4 : Nat) : Int) + (j : Int)) = (((p * 520 + i) * 4 + j : Nat) : Int) := by rw [xwr_g _ (by omega) (by omega)]; omega
    have hv := (hR.2.2 i hi).2.1 j (by omega)
    obtain ⟨G', u1, u2, u3, u4⟩ := ih (j + 1) fu (xup2 G 118 j ((L.getD i dRw).1.getD j 0)) (by omega) (by omega) ⟨by rw [xup2_n (by omega)]; exact hR.1, hl, fun y hy => ⟨(hR.2.2 y hy).1, fun x hx => by rw [xup2_n (by omega)]; exact (hR.2.2 y hy).2.1 x hx, by rw [xup2_n (by omega)]; exact (hR.2.2 y hy).2.2⟩⟩
    refine ⟨G', ?_, u2, fun z z1 z2 => ?_, fun a z q1 q2 => by rw [u4 a z q1 (by omega), xup2_n (by omega)]⟩
    · show g374_58b (g374_58 f fu) f _ _ _ _ _ _ = _
      unfold g374_58b
      rw [if_neg (by omega), l_261 hp (by omega), Option.bind_some]
      show (if 0 ≤ xwr ((((p * 520 + i) * 4 : Nat) : Int) + (j : Int)) ∧ xwr ((((p * 520 + i) * 4 : Nat) : Int) + (j : Int)) < 33280 then _ else none) = _
      rw [ex, if_pos (by omega), if_pos (by omega), Int.toNat_natCast, Int.toNat_natCast]
      show Option.bind (some (xup2 G 118 j (G 107 ((p * 520 + i) * 4 + j)))) _ = _
      rw [hv, Option.bind_some, ej]
      exact u1
    · by_cases cz : z = j
      · rw [cz, u4 _ _ (by omega) (by omega), xup2_s]
      · exact u3 z (by omega) z2
def stRe (T : List (List Int)) (ln : sLn) (p i k t v : Int) : Prop := ∃ s M, isMo T (lMo ln) s M ∧ ((((0 ≤ p ∧ p < s.1.length) ∧ 0 ≤ i ∧ i < (M p.toNat).length) ∧ t = 0 ∧ ((pIn s.2.1 p = true ∨ k < 0) ∧ v = -1 ∨ pIn s.2.1 p = false ∧ 0 ≤ k ∧ rsA s M p.toNat ((M p.toNat).getD i.toNat dRw).1 ((M p.toNat).getD i.toNat dRw).2 k v)) ∨ (¬ ((0 ≤ p ∧ p < s.1.length) ∧ 0 ≤ i ∧ i < (M p.toNat).length) ∧ t = 1 ∧ v = 0))
theorem l_374 {G : xG_} {p i k : Int} (hf : 1000100 < f) (hk : k < 2147483648) (h : rHb G T m lns hr n) :
    ∃ t v G', g374 f p i k G = some (v, G') ∧ stRe T (lns hr) p i k t v ∧ rHb G' T m lns hr n ∧ G' 0 74 = t ∧ G' 0 63 = G 0 63 ∧ xfHo G G' := by
  obtain ⟨G1, q, c, s, M, k1, k2, k3, k4, k5, k6, k7⟩ := l_ld0 hf h
  have hok := k2.2.2.1
  have hT : qTb s M := k2.2.2.2.2.1.1.1
  have hnp := hok.1.1
  have e1 := l_371 (f := f) (p := p) (i := i) hok k3
  have e0 : g374 f p i k G = ((g371 f p i G1).bind fun R180 => (if ¬ (R180.1) = 0 then (if 0 ≤ p ∧ p < 16 then (if ¬ (R180.2 (2 + 6) p.toNat) = 0 then g374_39 f R180.2 else (if 0 ≤ k then (if 0 ≤ (xwr ((xwr (p * (520))) + i)) ∧ (xwr ((xwr (p * (520))) + i)) < 8320 then g374_58 f f p i k (R180.2 109 (xwr ((xwr (p * (520))) + i)).toNat) 0 R180.2 else none) else g374_39 f R180.2)) else none) else ((g321 f R180.2).bind fun R190 => (some (R190.1, R190.2))))) := by
    unfold g374
    rw [Option.bind_some, k1, Option.bind_some]
  rw [e1, Option.bind_some] at e0
  by_cases ci : (0 ≤ p ∧ p < s.1.length) ∧ 0 ≤ i ∧ i < (M p.toNat).length
  · rw [if_pos ci] at e0
    replace e0 : g374 f p i k G = (if ¬ (1 : Int) = 0 then (if 0 ≤ p ∧ p < 16 then (if ¬ (G1 (2 + 6) p.toNat) = 0 then g374_39 f G1 else (if 0 ≤ k then (if 0 ≤ (xwr ((xwr (p * (520))) + i)) ∧ (xwr ((xwr (p * (520))) + i)) < 8320 then g374_58 f f p i k (G1 109 (xwr ((xwr (p * (520))) + i)).toNat) 0 G1 else none) else g374_39 f G1)) else none) else ((g321 f G1).bind fun R190 => (some (R190.1, R190.2)))) := e0
    rw [if_pos (by decide), if_pos (by omega)] at e0
    obtain ⟨p, rfl⟩ : ∃ x : Nat, p = (x : Int) := ⟨p.toNat, by omega⟩
    obtain ⟨i, rfl⟩ : ∃ x : Nat, i = (x : Int) := ⟨i.toNat, by omega⟩
    have hp : p < s.1.length := by omega
    have hi : i < (M p).length := by have := ci.2.2; rw [Int.toNat_natCast] at this; omega
    have h8 : G1 (2 + 6) p = b01 (pIn s.2.1 (p : Int)) := (k3.1.2.2.2.1 p (by omega)).1
    have hrow := (k3.2.2.2 p hp).1
    have hl100 := (hT p hp).1
    rw [Int.toNat_natCast, h8] at e0
    have ex : xwr (xwr ((p : Int) * 520) + (i : Int)) = ((p * 520 + i : Nat) : Int) := by
      rw [xwr_g ((p : Int) * 520) (by omega) (by omega), xwr_g _ (by omega) (by omega)]; omega
    cases hin : pIn s.2.1 (p : Int) with
    | true =>
      rw [hin] at e0
      rw [if_pos (by decide)] at e0
      exact ⟨0, -1, G1, e0, ⟨s, M, k2, .inl ⟨ci, rfl, .inl ⟨.inl hin, rfl⟩⟩⟩, k4, k5, k6, k7⟩
    | false =>
      rw [hin] at e0
      rw [if_neg (by decide)] at e0
      by_cases ck : 0 ≤ k
      · rw [if_pos ck, ex, if_pos (by omega), Int.toNat_natCast, (hrow.2.2 i hi).2.2] at e0
        obtain ⟨G2, u1, u2, u3, u4⟩ := l_374_58 (f := f) (p := p) (i := i) (k := k) (rk := ((M p).getD i dRw).2) (L := M p) (w := qN s p) (by omega) hi 4 0 f G1 (by omega) (by omega) hrow
        have hE2 : rEn G2 q c s M := k3.ge (fun a j _ _ => u4 _ _ (by omega) (by omega)) (fun a j _ _ => u4 _ _ (by omega) (by omega))
        have hmem : (M p).getD i dRw ∈ M p := mem_get.mpr ⟨i, hi, rfl⟩
        obtain ⟨v, G3, v1, v2, v3⟩ := l_374_99 (f := f) (q := q) (c := c) (p := p) (s := s) (M := M) (as := ((M p).getD i dRw).1) (rk := ((M p).getD i dRw).2) (k := k) hf hok hT hp ((hT p hp).2.2 _ hmem).1 ck hk s.2.2.2.2.1.length 0 f G2 (by omega) (by have := hE2.1.2.2.1.2.1; omega) hE2 u2 (fun j hj => u3 j (Nat.zero_le _) hj) (fun i' hi' => absurd hi' (Nat.not_lt_zero _))
        have z : ∀ a j, ¬ (a = 0 ∧ 37 ≤ j ∧ j ≤ 61) → ¬ (110 ≤ a ∧ a ≤ 121) → G3 a j = G1 a j := fun a j y1 y2 => by rw [v3 a j y1 (by omega), u4 a j (by omega) (by omega)]
        refine ⟨0, v, G3, ?_, ⟨s, M, k2, .inl ⟨ci, rfl, .inr ⟨hin, ck, by rw [Int.toNat_natCast, Int.toNat_natCast]; exact v2⟩⟩⟩, k4.ge (fun j _ => z _ _ (by omega) (by omega)) (fun a j _ _ => z _ _ (by omega) (by omega)) (fun a j _ _ => z _ _ (by omega) (by omega)) (fun a j _ _ _ => z _ _ (by omega) (by omega)), by rw [z _ _ (by omega) (by omega)]; exact k5, by rw [z _ _ (by omega) (by omega)]; exact k6, fun a j y1 y2 y3 y4 y5 => by rw [z a j (by omega) (by omega)]; exact k7 a j y1 y2 y3 y4 y5⟩
        rw [e0]
        have u1' : g374_58 f f (p : Int) (i : Int) k ((M p).getD i dRw).2 0 G1 = _ := u1
        rw [u1']
        exact v1
      · rw [if_neg ck] at e0
        exact ⟨0, -1, G1, e0, ⟨s, M, k2, .inl ⟨ci, rfl, .inl ⟨.inr (by omega), rfl⟩⟩⟩, k4, k5, k6, k7⟩
  · rw [if_neg ci] at e0
    replace e0 : g374 f p i k G = some (0, xup2 G1 0 74 1) := e0
    obtain ⟨z1, z2, z3, z4⟩ := k4.lost k6 k7
    exact ⟨1, 0, _, e0, ⟨s, M, k2, .inr ⟨ci, rfl, rfl⟩⟩, z1, z2, z3, z4⟩
end
end
section
/-! The house: what waits in a line -/
def lnD (ln : sLn) (ps : List pPe) (e : Int) (W : Nat → Int) : sLn := (ln.1, ln.2.1, ln.2.2.1, (ps, e, W), ln.2.2.2.2)
/-- a text that a house took as an edition -/
def edOk (T : List (List Int)) (e : Int) : Prop := e = -1 ∨ 0 ≤ e ∧ e.toNat < T.length ∧ ∃ s, qPr (T.getD e.toNat []) = .inr s ∧ qOk s ∧ wNh s
def ceOk (T : List (List Int)) (W : Nat → Int) : Prop := ∀ c, W c = -1 ∨ 0 ≤ W c ∧ (W c).toNat < T.length ∧ (c < 72 → (W c).toNat ≠ 0 → ∃ r, qCt (T.getD (W c).toNat []) = .inr r ∧ r.1 = (c : Int) ∧ r.2.2 ≠ -1)
theorem edOk.app {T : List (List Int)} {e : Int} (t : List Int) (h : edOk T e) : edOk (T ++ [t]) e := by
  rcases h with q | ⟨q1, q2, q3⟩
  · exact .inl q
  · exact .inr ⟨q1, by rw [List.length_append]; omega, by rw [getD_app _ q2]; exact q3⟩
theorem ceOk.app {T : List (List Int)} {W : Nat → Int} (t : List Int) (h : ceOk T W) : ceOk (T ++ [t]) W := fun c => by
  rcases h c with q | ⟨q1, q2, q3⟩
  · exact .inl q
  · exact .inr ⟨q1, by rw [List.length_append]; omega, by rw [getD_app _ q2]; exact q3⟩
theorem sOk.ed {T : List (List Int)} {ln : sLn} {n : Nat} (h : sOk T ln n) : edOk T ln.2.2.2.1.2.1 ∧ ceOk T ln.2.2.2.1.2.2 ∧ ∀ e ∈ ln.2.2.2.1.1, ∀ x ∈ e.2.2, vOk x := ⟨h.2.2.2.2.2.2.2.2.1, h.2.2.2.2.2.2.2.2.2, h.2.2.2.2.2.2.2.1⟩
theorem sOk.pd {T : List (List Int)} {ln : sLn} {n : Nat} {ps : List pPe} {e : Int} {W : Nat → Int} (h : sOk T ln n) (hps : ∀ e ∈ ps, ∀ x ∈ e.2.2, vOk x) (he : edOk T e) (hW : ceOk T W) : sOk T (lnD ln ps e W) n := by
  obtain ⟨a1, a2, a3, a4, a5, a6, a7, a8, a9, a10⟩ := h
  exact ⟨a1, a2, a3, a4, a5, a6, a7, hps, he, hW⟩
theorem rLn.pd {G G' : xG_} {o : Nat} {T : List (List Int)} {ln : sLn} {s : pPg} {M : Nat → List pRw} {ps : List pPe} {e : Int} {W : Nat → Int} (h : rLn G o T ln s M) (hx : ∀ a j, o ≤ a → a ≤ o + 28 → ¬ (a = o ∧ (j = 33 ∨ j = 34)) → a ≠ o + 24 → a ≠ o + 25 → a ≠ o + 26 → a ≠ o + 27 → a ≠ o + 28 → G' a j = G a j) (hp : rPe G' o ps) (he : G' o 34 = e) (hW : ∀ c, c < 72 → G' (o + 26) c = W c) : rLn G' o T (lnD ln ps e W) s M := by
  obtain ⟨r1, ⟨r2, r3, r4, r5⟩, r6, r7, r8, r9, r10, ⟨E, r11, r12⟩, r18, ⟨r13, r14, r15⟩, r16, r17⟩ := h
  have zl : ∀ a j, o ≤ a → a ≤ o + 23 → ¬ (a = o ∧ (j = 33 ∨ j = 34)) → G' a j = G a j := fun a j q1 q2 q3 => hx _ _ q1 (by omega) q3 (by omega) (by omega) (by omega) (by omega) (by omega)
  refine ⟨⟨r1.1.ge (zl _ _ (by omega) (by omega) (by omega)) (fun a j _ _ => zl _ _ (by omega) (by omega) (by omega)), r1.2.1.ge (zl _ _ (by omega) (by omega) (by omega)) (fun a j _ _ => zl _ _ (by omega) (by omega) (by omega)), r1.2.2.1.ge (zl _ _ (by omega) (by omega) (by omega)) (fun a j _ _ => zl _ _ (by omega) (by omega) (by omega)), r1.2.2.2⟩, ⟨by rw [zl _ _ (by omega) (by omega) (by omega)]; exact r2, by rw [zl _ _ (by omega) (by omega) (by omega)]; exact r3, by rw [zl _ _ (by omega) (by omega) (by omega)]; exact r4, by rw [zl _ _ (by omega) (by omega) (by omega)]; exact r5⟩, r6.ge (zl _ _ (by omega) (by omega) (by omega)) (fun a j _ _ => zl _ _ (by omega) (by omega) (by omega)), fun c hc => by rw [zl _ _ (by omega) (by omega) (by omega)]; exact r7 c hc, fun c hc => by rw [zl _ _ (by omega) (by omega) (by omega), zl _ _ (by omega) (by omega) (by omega)]; exact r8 c hc, fun p hp => by rw [zl _ _ (by omega) (by omega) (by omega)]; exact r9 p hp, fun c hc => by rw [zl _ _ (by omega) (by omega) (by omega)]; exact r10 c hc, ⟨E, ⟨by rw [zl _ _ (by omega) (by omega) (by omega)]; exact r11.1, r11.2.1, fun i hi => ?_⟩, r12⟩, r18.ge (fun j => zl _ _ (by omega) (by omega) (by omega)), ⟨hp, he, hW⟩, by rw [zl _ _ (by omega) (by omega) (by omega)]; exact r16, by rw [zl _ _ (by omega) (by omega) (by omega)]; exact r17⟩
  obtain ⟨b1, b2, b3⟩ := r11.2.2 i hi
  exact ⟨by rw [zl _ _ (by omega) (by omega) (by omega)]; exact b1, by rw [zl _ _ (by omega) (by omega) (by omega)]; exact b2, fun j hj => by rw [zl _ _ (by omega) (by omega) (by omega)]; exact b3 j hj⟩
/-- one line is another -/
def lUp (lns : Nat → sLn) (hr : Nat) (ln : sLn) : Nat → sLn := fun k => if k = hr then ln else lns k
theorem lUp_s {lns : Nat → sLn} {hr : Nat} {ln : sLn} : lUp lns hr ln hr = ln := if_pos rfl
theorem lUp_n {lns : Nat → sLn} {hr k : Nat} {ln : sLn} (h : k ≠ hr) : lUp lns hr ln k = lns k := if_neg h
section
variable {f m n hr : Nat} {T : List (List Int)} {lns : Nat → sLn} {t : List Int}
theorem rHb.pd {G G' : xG_} {ps : List pPe} {e : Int} {W : Nat → Int} {T' : List (List Int)} {m' : Nat} (h : rHb G T m lns hr n) (hT : T' = T ∨ ∃ t, T' = T ++ [t]) (hTx : rTxs G' T' m') (h0 : ∀ j, 12 ≤ j ∧ j ≤ 20 ∨ 62 ≤ j ∧ j ≤ 66 → G' 0 j = G 0 j) (h1 : ∀ a j, 2 ≤ a → a ≤ 36 → G' a j = G a j) (h2 : ∀ a j, 107 ≤ a → a ≤ 109 → G' a j = G a j)
    (hx : ∀ a j, 123 ≤ a → a ≤ 238 → ¬ (a = 123 + 29 * hr ∧ (j = 33 ∨ j = 34)) → a ≠ 123 + 29 * hr + 24 → a ≠ 123 + 29 * hr + 25 → a ≠ 123 + 29 * hr + 26 → a ≠ 123 + 29 * hr + 27 → a ≠ 123 + 29 * hr + 28 → G' a j = G a j) (hp : rPe G' (123 + 29 * hr) ps) (he : G' (123 + 29 * hr) 34 = e) (hW : ∀ c, c < 72 → G' (123 + 29 * hr + 26) c = W c) (hps : ∀ e ∈ ps, ∀ x ∈ e.2.2, vOk x) (he2 : edOk T' e) (hW2 : ceOk T' W) : rHb G' T' m' (lUp lns hr (lnD (lns hr) ps e W)) hr n := by
  have hc := h.c
  obtain ⟨a1, a2, a3, a4, a5, a6, a7, a8, a9⟩ := h
  have up : ∀ {ln : sLn} {s : pPg} {M : Nat → List pRw} {Z : xG_} {o : Nat}, isMo T (lMo ln) s M → rLn Z o T ln s M → sOk T ln n → isMo T' (lMo ln) s M ∧ rLn Z o T' ln s M ∧ sOk T' ln n := fun {ln s M Z o} y1 y2 y3 => by
    rcases hT with q | ⟨t, q⟩
    · rw [q]; exact ⟨y1, y2, y3⟩
    · rw [q]; exact ⟨y1.app t, y2.app t (y1.2.2.2.2.2.2.1), y3.app t⟩
  refine rHb.of ⟨a1.ge (fun j _ _ => h0 j (by omega)), hTx, fun k hk => ?_⟩ (by rw [h0 _ (by omega)]; exact a3) a4 (by rw [h0 _ (by omega)]; exact a6) (by rw [h0 _ (by omega)]; exact a7) (by rw [h0 _ (by omega), h0 _ (by omega)]; exact a8) ?_
  · obtain ⟨s, M, x1, x2, x3⟩ := a5 k hk
    obtain ⟨y1, y2, y3⟩ := up x1 x2 x3
    by_cases d : k = hr
    · rw [d] at y1 y2 y3 ⊢
      rw [lUp_s]
      exact ⟨s, M, y1, y2.pd (fun a j q1 q2 q3 q4 q5 q6 q7 q8 => hx a j (by omega) (by omega) q3 q4 q5 q6 q7 q8) hp he hW, y3.pd hps he2 hW2⟩
    · rw [lUp_n d]
      exact ⟨s, M, y1, y2.ge (fun a j _ _ => hx _ _ (by omega) (by omega) (by omega) (by omega) (by omega) (by omega) (by omega) (by omega)), y3⟩
  · intro e1 k hk e2 s M hM
    rw [h0 _ (by omega), h0 _ (by omega)] at e1
    rw [h0 _ (by omega)] at e2
    obtain ⟨s', M', x1, x2, x3⟩ := a5 k hk
    obtain ⟨q, c, hE⟩ := a9 e1 k hk e2 s' M' x1
    have hM' : isMo T' (lMo (lns k)) s M := by
      by_cases d : k = hr
      · rw [d] at hM ⊢
        rw [lUp_s] at hM
        exact hM
      · rw [lUp_n d] at hM
        exact hM
    obtain ⟨e3, e4⟩ := isMo_u (up x1 x2 x3).1 hM'
    subst e3
    exact ⟨q, c, (hE.ge h1 h2).ext e4⟩
/-- program() -/
def stPg (T : List (List Int)) (lns : Nat → sLn) (hr : Nat) (t : List Int) (v pl : Int) (T' : List (List Int)) (lns' : Nat → sLn) : Prop :=
  (qPrg t v pl ∧ T' = T ∧ lns' = lns) ∨ (∃ s, qPr t = .inr s ∧ (∀ k a, ¬ pFa s 0 k a) ∧ v = (s.2.2.2.2.1.length : Int) ∧ pl = -1 ∧ T' = T ++ [t] ∧ lns' = lUp lns hr (lnD (lns hr) [] (T.length : Int) (lns hr).2.2.2.1.2.2))
def xfPg (G G' : xG_) : Prop := ∀ a j, ¬ (a = 0 ∧ (j ≤ 11 ∨ 21 ≤ j ∧ j ≤ 27 ∨ 71 ≤ j ∧ j ≤ 75 ∨ 89 ≤ j ∧ j ≤ 91)) → a ≠ 1 → ¬ (72 ≤ a ∧ a ≤ 106) → ¬ (123 ≤ a ∧ a ≤ 242 ∧ a ≠ 240) → ¬ (258 ≤ a ∧ a ≤ 274) → G' a j = G a j
theorem lUp_same {hr : Nat} : lUp lns hr (lnD (lns hr) (lns hr).2.2.2.1.1 (lns hr).2.2.2.1.2.1 (lns hr).2.2.2.1.2.2) = lns := by
  funext k
  by_cases d : k = hr
  · rw [d, lUp_s]; rfl
  · rw [lUp_n d]
theorem l_363h {G : xG_} (hf : 6400 < f) (h : rHb G T m lns hr n) (hp : rTp G t) (hc : T.length < 4200) (hm : m + t.length ≤ 90000) :
    ∃ v G' T' m' lns', g363 f G = some (v, G') ∧ stPg T lns hr t v (G' 0 75) T' lns' ∧ rHb G' T' m' lns' hr n ∧ m' ≤ m + t.length ∧ G' 0 73 = 0 ∧ G' 0 74 = 0 ∧ xfPg G G' := by
  have h' := h
  obtain ⟨a1, a2, a3, a4, a5, a6, a7, a8, a9⟩ := h
  obtain ⟨s0, M0, b1, b2, b3⟩ := a5 hr a4
  obtain ⟨G', v, u1, u2, u3, u4, u5⟩ := l_363 (f := f) (h := hr) (o := 123 + 29 * hr) hf a4 rfl a3 a1 a2 hp hc hm
  have hpp := b2.2.2.2.2.2.2.2.2.2.1
  have fr : xfPg G G' := fun a j q1 q2 q3 q4 q5 => u4 a j (by omega) (by omega) q2 q3 (by omega) (by omega) (by omega)
  have z : ∀ a j, ¬ (a = 123 + 29 * hr ∧ (j = 33 ∨ j = 34)) → 123 ≤ a → a ≤ 238 → G' a j = G a j := fun a j q1 q2 q3 => u4 a j q1 (by omega) (by omega) (by omega) (by omega) (by omega) (by omega)
  have g0 : ∀ j, 12 ≤ j ∧ j ≤ 20 ∨ 62 ≤ j ∧ j ≤ 66 → G' 0 j = G 0 j := fun j _ => u4 _ _ (by omega) (by omega) (by omega) (by omega) (by omega) (by omega) (by omega)
  have g1 : ∀ a j, 2 ≤ a → a ≤ 36 → G' a j = G a j := fun a j _ _ => u4 _ _ (by omega) (by omega) (by omega) (by omega) (by omega) (by omega) (by omega)
  have g2 : ∀ a j, 107 ≤ a → a ≤ 109 → G' a j = G a j := fun a j _ _ => u4 _ _ (by omega) (by omega) (by omega) (by omega) (by omega) (by omega) (by omega)
  obtain ⟨ed1, ed2, ed3⟩ := b3.ed
  rcases u5 with ⟨w1, w2, w3, w4⟩ | ⟨s, w1, w2, w3, w4, w5, w6, w7⟩
  · have hH : rHb G' T m (lUp lns hr (lnD (lns hr) (lns hr).2.2.2.1.1 (lns hr).2.2.2.1.2.1 (lns hr).2.2.2.1.2.2)) hr n := h'.pd (.inl rfl) w2 g0 g1 g2 (fun a j q1 q2 q3 _ _ _ _ _ => z a j q3 q1 q2) (hpp.1.ge w3 (fun a j _ _ => z _ _ (by omega) (by omega) (by omega))) (w4.trans hpp.2.1) (fun c hc => by rw [z _ _ (by omega) (by omega) (by omega)]; exact hpp.2.2 c hc) ed3 ed1 ed2
    rw [lUp_same] at hH
    exact ⟨v, G', T, m, lns, u1, .inl ⟨w1, rfl, rfl⟩, hH, by omega, u2, u3, fr⟩
  · have htx := hp.2.2.tx
    refine ⟨v, G', T ++ [t], m + t.length, _, u1, .inr ⟨s, w1, w2, w3, w4, rfl, rfl⟩, ?_, Nat.le_refl _, u2, u3, fr⟩
    refine h'.pd (.inr ⟨t, rfl⟩) w5 g0 g1 g2 (fun a j q1 q2 q3 _ _ _ _ _ => z a j q3 q1 q2) ⟨w6, Nat.zero_le _, fun k hk => absurd hk (Nat.not_lt_zero k)⟩ w7 (fun c hc => by rw [z _ _ (by omega) (by omega) (by omega)]; exact hpp.2.2 c hc) (fun e he => absurd he (by simp)) (.inr ⟨by omega, by rw [List.length_append, List.length_singleton]; omega, s, ?_, qOk_of htx hp.2.1 w1 w2, wNh_of w1 w2⟩) (ed2.app t)
    rw [Int.toNat_natCast]
    exact (congrArg qPr (getD_apr [t] 0)).trans w1
end
end
section
/-! The house: change(), cell(), round(), sheet() -/
theorem pVals_ok {t : tStr} (ht : tOk t) : ∀ (m : Nat) (vs : List Int) (i : Nat) (r : List Int × Nat), pVals t m vs i = .inr r → (∀ x ∈ vs, vOk x) → ∀ x ∈ r.1, vOk x := by
  intro m
  induction m with
  | zero => intro vs i r h hv; cases h; exact hv
  | succ m ih =>
    intro vs i r h hv
    unfold pVals at h
    split at h
    · obtain ⟨v, h1, h2⟩ := pbind_inr h
      refine ih _ _ _ h2 (fun x hx => ?_)
      rcases List.mem_append.mp hx with q | q
      · exact hv x q
      · rw [List.mem_singleton.mp q]; exact ht _ _ h1
    · cases h; exact hv
theorem pCs_ok {t : tStr} (ht : tOk t) : ∀ (k : Nat) (cs : List pCh) (i : Nat) (r : List pCh), pCs t k cs i = .inr r → (∀ c ∈ cs, ∀ x ∈ c.2.2.2, vOk x) → ∀ c ∈ r, ∀ x ∈ c.2.2.2, vOk x := by
  intro k
  induction k with
  | zero => intro cs i r h _; cases h
  | succ k ih =>
    intro cs i r h hc
    unfold pCs at h
    split at h
    · cases h; exact hc
    split at h
    · cases h
    obtain ⟨y, h1, h2⟩ := pbind_inr h
    refine ih _ _ _ h2 (fun c hcm => ?_)
    rcases List.mem_append.mp hcm with q | q
    · exact hc c q
    · rw [List.mem_singleton.mp q]
      show ∀ x ∈ y.2.1, vOk x
      unfold pC1 at h1
      obtain ⟨n, _, h1⟩ := pbind_inr h1
      obtain ⟨j, _, h1⟩ := pbind_inr h1
      obtain ⟨z, h3, h4⟩ := pbind_inr h1
      cases h4
      show ∀ x ∈ z.1, vOk x
      unfold pCv at h3
      obtain ⟨v, h5, h3⟩ := pbind_inr h3
      obtain ⟨w, h6, h3⟩ := pbind_inr h3
      obtain ⟨j2, _, h7⟩ := pbind_inr h3
      cases h7
      show ∀ x ∈ w.1, vOk x
      refine pVals_ok ht _ _ _ w h6 (fun x hx => ?_)
      rw [List.nil_append] at hx
      rw [List.mem_singleton.mp hx]
      exact ht _ _ h5
theorem qChg_ok {s : pPg} {ps : List pPe} {t : List Int} (hB : tTx (tBt t) t.length) (h : ∀ e ∈ ps, ∀ x ∈ e.2.2, vOk x) : ∀ e ∈ (qChg s ps t).2.2, ∀ x ∈ e.2.2, vOk x := by
  unfold qChg
  cases hq : pCs (tstr (tBt t) t.length false) (t.length + 1) [] 0 with
  | inl w => exact h
  | inr cs =>
    simp only []
    split
    · exact h
    split
    · exact h
    · intro e he
      rcases List.mem_append.mp he with q | q
      · exact h e q
      · obtain ⟨c, c1, c2⟩ := List.mem_map.mp q
        rw [← c2]
        exact pCs_ok (tstr_ck hB).2 _ _ _ _ hq (fun c hc => absurd hc (by simp)) c c1
section
variable {f m n hr : Nat} {T : List (List Int)} {lns : Nat → sLn} {t : List Int}
/-- the program that CHANGES are told to -/
def stCh (T : List (List Int)) (lns : Nat → sLn) (hr : Nat) (t : List Int) (v pl : Int) (lns' : Nat → sLn) : Prop :=
  ∃ s, qPr (T.getD (lnE (lns hr)) []) = .inr s ∧ qOk s ∧ v = (qChg s (lns hr).2.2.2.1.1 t).1 ∧ pl = (qChg s (lns hr).2.2.2.1.1 t).2.1 ∧ lns' = lUp lns hr (lnP (lns hr) (qChg s (lns hr).2.2.2.1.1 t).2.2)
theorem l_365h {G : xG_} (hf : 6400 < f) (h : rHb G T m lns hr n) (hp : rTp G t) :
    ∃ v G' lns', g365 f G = some (v, G') ∧ stCh T lns hr t v (G' 0 75) lns' ∧ rHb G' T m lns' hr n ∧ G' 0 73 = 0 ∧ G' 0 74 = 0 ∧ xfPg G G' := by
  have h' := h
  obtain ⟨a1, a2, a3, a4, a5, a6, a7, a8, a9⟩ := h
  obtain ⟨s0, M0, b1, b2, b3⟩ := a5 hr a4
  obtain ⟨ed1, ed2, ed3⟩ := b3.ed
  have hpp := b2.2.2.2.2.2.2.2.2.2.1
  have hs : ∃ s, lnE (lns hr) < T.length ∧ qPr (T.getD (lnE (lns hr)) []) = .inr s ∧ qOk s ∧ (G (123 + 29 * hr) 34 = (lnE (lns hr) : Int) ∨ G (123 + 29 * hr) 34 = -1 ∧ G (123 + 29 * hr) 1 = (lnE (lns hr) : Int)) := by
    unfold lnE
    by_cases c : (lns hr).2.2.2.1.2.1 = -1
    · simp only [if_pos c]
      exact ⟨s0, b1.1, b1.2.1, b1.2.2.1, .inr ⟨by rw [hpp.2.1]; exact c, b2.2.1.1⟩⟩
    · simp only [if_neg c]
      rcases ed1 with q | ⟨q1, q2, s, q3, q4, _⟩
      · exact absurd q c
      · exact ⟨s, q2, q3, q4, .inl (by rw [hpp.2.1]; omega)⟩
  obtain ⟨s, s1, s2, s3, s4⟩ := hs
  obtain ⟨G', u1, u2, u3, u4, u5, u6⟩ := l_365 (f := f) (h := hr) (o := 123 + 29 * hr) (e := lnE (lns hr)) hf a4 rfl a3 a1 a2 hp s1 s4 s2 hpp.1
  have z : ∀ a j, 123 ≤ a → a ≤ 238 → ¬ (a = 123 + 29 * hr ∧ j = 33) → a ≠ 123 + 29 * hr + 24 → a ≠ 123 + 29 * hr + 25 → a ≠ 123 + 29 * hr + 27 → a ≠ 123 + 29 * hr + 28 → G' a j = G a j := fun a j q1 q2 q3 q4 q5 q6 q7 => u6 a j (by omega) (by omega) (by omega) (by omega) q3 q4 q5 q6 q7
  have g0 : ∀ a j, ¬ (a = 0 ∧ (j ≤ 11 ∨ 21 ≤ j ∧ j ≤ 27 ∨ 73 ≤ j ∧ j ≤ 75)) → a ≠ 1 → ¬ (72 ≤ a ∧ a ≤ 106) → ¬ (271 ≤ a ∧ a ≤ 274) → ¬ (123 ≤ a ∧ a ≤ 238) → G' a j = G a j := fun a j q1 q2 q3 q4 q5 => u6 a j q1 q2 q3 q4 (by omega) (by omega) (by omega) (by omega) (by omega)
  refine ⟨_, G', _, u1, ⟨s, s2, s3, rfl, u2, rfl⟩, ?_, u4, u5, fun a j q1 q2 q3 q4 q5 => u6 a j (by omega) q2 q3 (by omega) (by omega) (by omega) (by omega) (by omega) (by omega)⟩
  exact h'.pd (.inl rfl) (a2.ge (g0 _ _ (by omega) (by omega) (by omega) (by omega) (by omega)) (g0 _ _ (by omega) (by omega) (by omega) (by omega) (by omega)) (fun a j _ => g0 _ _ (by omega) (by omega) (by omega) (by omega) (by omega))) (fun j _ => g0 _ _ (by omega) (by omega) (by omega) (by omega) (by omega)) (fun a j _ _ => g0 _ _ (by omega) (by omega) (by omega) (by omega) (by omega)) (fun a j _ _ => g0 _ _ (by omega) (by omega) (by omega) (by omega) (by omega)) (fun a j q1 q2 q3 q4 q5 q6 q7 q8 => z a j q1 q2 (by omega) q4 q5 q7 q8) u3 (by rw [z _ _ (by omega) (by omega) (by omega) (by omega) (by omega) (by omega) (by omega)]; exact hpp.2.1) (fun c hc => by rw [z _ _ (by omega) (by omega) (by omega) (by omega) (by omega) (by omega) (by omega)]; exact hpp.2.2 c hc) (qChg_ok hp.2.2.tx ed3) ed1 ed2
/-- cell() -/
def stCe (T : List (List Int)) (lns : Nat → sLn) (hr : Nat) (t : List Int) (v : Int) (T' : List (List Int)) (lns' : Nat → sLn) : Prop := pok (qCt t) (fun w => v = xwr (-1 - (w : Int)) ∧ T' = T ∧ lns' = lns)
  (fun r => v = r.1 ∧ ((r.2.2 = -1 ∧ T' = T ∧ lns' = lUp lns hr (lnD (lns hr) (lns hr).2.2.2.1.1 (lns hr).2.2.2.1.2.1 (fun c => if c = r.1.toNat then 0 else (lns hr).2.2.2.1.2.2 c))) ∨ (r.2.2 ≠ -1 ∧ T' = T ++ [t] ∧ lns' = lUp lns hr (lnD (lns hr) (lns hr).2.2.2.1.1 (lns hr).2.2.2.1.2.1 (fun c => if c = r.1.toNat then (T.length : Int) else (lns hr).2.2.2.1.2.2 c)))))
theorem l_356h {G : xG_} (hf : 6400 < f) (h : rHb G T m lns hr n) (hp : rTp G t) (hc : T.length < 4200) (hm : m + t.length ≤ 90000) :
    ∃ v G' T' m' lns', g356 f G = some (v, G') ∧ stCe T lns hr t v T' lns' ∧ rHb G' T' m' lns' hr n ∧ m' ≤ m + t.length ∧ G' 0 73 = 0 ∧ G' 0 74 = 0 ∧ G' 0 75 = G 0 75 ∧ xfPg G G' := by
  have h' := h
  obtain ⟨a1, a2, a3, a4, a5, a6, a7, a8, a9⟩ := h
  obtain ⟨s0, M0, b1, b2, b3⟩ := a5 hr a4
  obtain ⟨ed1, ed2, ed3⟩ := b3.ed
  have hpp := b2.2.2.2.2.2.2.2.2.2.1
  obtain ⟨G', v, u1, u2, u3, u4, u5⟩ := l_356 (f := f) (h := hr) (o := 123 + 29 * hr) hf a4 rfl a3 a1 a2 hp hc hm
  have fr : xfPg G G' := fun a j q1 q2 q3 q4 q5 => u4 a j (by omega) (by omega) (by omega) (by omega) (by omega) (by omega)
  have z : ∀ a j, 123 ≤ a → a ≤ 238 → a ≠ 123 + 29 * hr + 26 → G' a j = G a j := fun a j q1 q2 q3 => u4 a j (by omega) (by omega) (by omega) (by omega) (by omega) q3
  have g0 : ∀ j, 12 ≤ j ∧ j ≤ 20 ∨ 62 ≤ j ∧ j ≤ 66 → G' 0 j = G 0 j := fun j _ => u4 _ _ (by omega) (by omega) (by omega) (by omega) (by omega) (by omega)
  have g1 : ∀ a j, 2 ≤ a → a ≤ 36 → G' a j = G a j := fun a j _ _ => u4 _ _ (by omega) (by omega) (by omega) (by omega) (by omega) (by omega)
  have g2 : ∀ a j, 107 ≤ a → a ≤ 109 → G' a j = G a j := fun a j _ _ => u4 _ _ (by omega) (by omega) (by omega) (by omega) (by omega) (by omega)
  have h75 : G' 0 75 = G 0 75 := u4 _ _ (by omega) (by omega) (by omega) (by omega) (by omega) (by omega)
  have h34 : G' (123 + 29 * hr) 34 = (lns hr).2.2.2.1.2.1 := by rw [z _ _ (by omega) (by omega) (by omega)]; exact hpp.2.1
  have hpe : rPe G' (123 + 29 * hr) (lns hr).2.2.2.1.1 := by
    obtain ⟨y1, y2, y3⟩ := hpp.1
    refine ⟨by rw [z _ _ (by omega) (by omega) (by omega)]; exact y1, y2, fun k hk => ?_⟩
    obtain ⟨w1, w2, w3, w4, w5⟩ := y3 k hk
    exact ⟨by rw [z _ _ (by omega) (by omega) (by omega)]; exact w1, by rw [z _ _ (by omega) (by omega) (by omega)]; exact w2, by rw [z _ _ (by omega) (by omega) (by omega)]; exact w3, w4, fun j hj => by rw [z _ _ (by omega) (by omega) (by omega)]; exact w5 j hj⟩
  unfold stCe
  cases hq : qCt t with
  | inl w =>
    rw [hq] at u5
    obtain ⟨w1, w2, w3⟩ := u5
    have hH : rHb G' T m (lUp lns hr (lnD (lns hr) (lns hr).2.2.2.1.1 (lns hr).2.2.2.1.2.1 (lns hr).2.2.2.1.2.2)) hr n := h'.pd (.inl rfl) w2 g0 g1 g2 (fun a j q1 q2 q3 _ _ q4 _ _ => z a j q1 q2 q4) hpe h34 (fun c hc => by rw [w3]; exact hpp.2.2 c hc) ed3 ed1 ed2
    rw [lUp_same] at hH
    exact ⟨v, G', T, m, lns, u1, ⟨w1, rfl, rfl⟩, hH, by omega, u2, u3, h75, fr⟩
  | inr r =>
    rw [hq] at u5
    obtain ⟨w1, w2, w3, w4, w5⟩ := u5
    rcases w5 with ⟨y1, y2, y3⟩ | ⟨y1, y2, y3⟩
    · refine ⟨v, G', T, m, _, u1, ⟨w1, .inl ⟨y1, rfl, rfl⟩⟩, ?_, by omega, u2, u3, h75, fr⟩
      refine h'.pd (.inl rfl) y3 g0 g1 g2 (fun a j q1 q2 q3 _ _ q4 _ _ => z a j q1 q2 q4) hpe h34 (fun c hc => ?_) ed3 ed1 (fun c => ?_)
      · by_cases d : c = r.1.toNat
        · simp only [if_pos d]; rw [d]; exact y2
        · simp only [if_neg d]; rw [w4 c d]; exact hpp.2.2 c hc
      · by_cases d : c = r.1.toNat
        · simp only [if_pos d]
          exact .inr ⟨Int.le_refl _, by have := b1.1; show 0 < T.length; omega, fun _ q => absurd rfl q⟩
        · simp only [if_neg d]; exact ed2 c
    · refine ⟨v, G', T ++ [t], m + t.length, _, u1, ⟨w1, .inr ⟨y1, rfl, rfl⟩⟩, ?_, Nat.le_refl _, u2, u3, h75, fr⟩
      refine h'.pd (.inr ⟨t, rfl⟩) y3 g0 g1 g2 (fun a j q1 q2 q3 _ _ q4 _ _ => z a j q1 q2 q4) hpe h34 (fun c hc => ?_) ed3 (ed1.app t) (fun c => ?_)
      · by_cases d : c = r.1.toNat
        · simp only [if_pos d]; rw [d]; exact y2
        · simp only [if_neg d]; rw [w4 c d]; exact hpp.2.2 c hc
      · by_cases d : c = r.1.toNat
        · simp only [if_pos d]
          refine .inr ⟨by omega, by rw [Int.toNat_natCast, List.length_append, List.length_singleton]; omega, fun _ _ => ⟨r, ?_, by omega, y1⟩⟩
          rw [Int.toNat_natCast]
          exact (congrArg qCt (getD_apr [t] 0)).trans hq
        · simp only [if_neg d]; exact ed2.app t c
/-- round() -/
theorem l_298h {G : xG_} (hf : 1000100 < f) (hn : n < 900) (h : rHb G T m lns hr n) :
    ∃ v G' ln' good, g298 f G = some (v, G') ∧ stRd T (lns hr) v ln' good ∧ rHb G' T m (lUp lns hr ln') hr (n + 1) ∧ G' 0 63 = (if good = true then G 0 63 else G 0 63 + 1) ∧ G' 0 74 = 0 ∧ xfHo G G' := by
  have h' := h.mo (Nat.le_succ n)
  obtain ⟨a1, a2, a3, a4, a5, a6, a7, a8, a9⟩ := h
  obtain ⟨s0, M0, b1, b2, b3⟩ := a5 hr a4
  obtain ⟨v, G', ln', good, s', M', u1, u2, u3, u4, u5, u6, u7, u8, u9⟩ := l_298 (f := f) (h := hr) (o := 123 + 29 * hr) hf (by omega : n < 1000) a4 rfl a3 a1 a2 b2 b1 b3 (by omega) (by omega)
  have e63 : G' 0 63 = (if good = true then G 0 63 else G 0 63 + 1) := by
    rcases u6 with ⟨q1, q2, _⟩ | ⟨q1, q2, _⟩
    · rw [if_pos q1]; exact q2
    · rw [if_neg (by rw [q1]; decide)]; exact q2
  refine ⟨v, G', ln', good, u1, u2, ?_, e63, u8, fun a j q1 q2 q3 q4 q5 => u9 a j (by omega) q2 (by omega) (by omega) (by omega) q5⟩
  refine rHb.of ⟨a1.ge (fun j _ _ => u9 _ _ (by omega) (by omega) (by omega) (by omega) (by omega) (by omega)), a2.ge (u9 _ _ (by omega) (by omega) (by omega) (by omega) (by omega) (by omega)) (u9 _ _ (by omega) (by omega) (by omega) (by omega) (by omega) (by omega)) (fun a j _ => u9 _ _ (by omega) (by omega) (by omega) (by omega) (by omega) (by omega)), fun k hk => ?_⟩ (by rw [u9 _ _ (by omega) (by omega) (by omega) (by omega) (by omega) (by omega)]; exact a3) a4 ?_ ?_ ?_ (fun e1 => ?_)
  · by_cases d : k = hr
    · rw [d, lUp_s]
      exact ⟨s', M', u4, u3, u5⟩
    · rw [lUp_n d]
      obtain ⟨s, M, x1, x2, x3⟩ := a5 k hk
      exact ⟨s, M, x1, x2.ge (fun a j _ _ => u9 _ _ (by omega) (by omega) (by omega) (by omega) (by omega) (by omega)), x3.mo (Nat.le_succ n)⟩
  · rcases u6 with ⟨q1, q2, q3⟩ | ⟨q1, q2, q3⟩ <;> omega
  · rcases u6 with ⟨q1, q2, q3⟩ | ⟨q1, q2, q3⟩ <;> omega
  · rcases u6 with ⟨q1, q2, q3⟩ | ⟨q1, q2, q3⟩ <;> omega
  · exfalso
    rcases u6 with ⟨q1, q2, q3⟩ | ⟨q1, q2, q3⟩ <;> omega
end
end
section
/-! The house: what always holds of its lines -/
theorem ukM.fa {s : pPg} {M M' : Nat → List pRw} {F : List pFc} (hok : qOk s) (h : qFa s M F) (h' : qFa s M' F) (hu : ukM s M) : ukM s M' := by
  intro p hp hi hk w hw w' hw' he
  have side : ∀ {x : pRw}, x ∈ M' p → ∃ y, y ∈ M p ∧ y.1 = x.1 := fun {x} hx => by
    obtain ⟨p', a1, a2, y, a3, a4⟩ := (h.2 _).mp ((h'.2 (qNm s p, x.1)).mpr ⟨p, hp, rfl, x, hx, rfl⟩)
    have := nm_inj hok hp a1 a2
    subst this
    exact ⟨y, a3, a4⟩
  obtain ⟨y, y1, y2⟩ := side hw
  obtain ⟨y', y3, y4⟩ := side hw'
  rw [← y2, ← y4] at he ⊢
  exact hu p hp hi hk y y1 y' y3 he
/-- keys are unique before CHANGES -/
theorem ukM.r0 {so s : pPg} {fr : Prop} {Mo R0 : Nat → List pRw} {F : List pFc} (hoo : qOk so) (hF : qFa so Mo F) (hu : ukM so Mo) (hs : ¬ fr → s = so) (h : qR0 so s fr F R0) : ukM s R0 := by
  intro p hp hi hk w hw w' hw' he
  have key : ∀ r, r < so.1.length → qNm so r = qNm s p → pIn so.2.1 (r : Int) = true → pKy so.2.1 (r : Int) = pKy s.2.1 (p : Int) → (qNm s p, w.1) ∈ F → (qNm s p, w'.1) ∈ F → w.1 = w'.1 := fun r r1 r2 r3 r4 f1 f2 => by
    have side : ∀ {x : List Int}, (qNm s p, x) ∈ F → ∃ y, y ∈ Mo r ∧ y.1 = x := fun {x} hx => by
      obtain ⟨p', a1, a2, y, a3, a4⟩ := (hF.2 _).mp hx
      have := nm_inj hoo r1 a1 (r2.trans a2)
      subst this
      exact ⟨y, a3, a4⟩
    obtain ⟨y, y1, y2⟩ := side f1
    obtain ⟨y', y3, y4⟩ := side f2
    have ek : qKy so r = qKy s p := by unfold qKy; rw [r4]
    rw [← y2, ← y4] at he ⊢
    refine hu r r1 r3 (by rw [ek]; exact hk) y y1 y' y3 (by rw [ek]; exact he)
  rcases h with ⟨_, h⟩ | ⟨h0, h⟩
  · obtain ⟨a1, a2, a3⟩ := h p hp
    obtain ⟨⟨_, r, r1, r2, r3, r4, r5⟩, _, f1, _⟩ := (a3 w).mp hw
    obtain ⟨_, _, f2, _⟩ := (a3 w').mp hw'
    exact key r r1 r2 r3 r5 f1 f2
  · obtain ⟨a1, a2, a3⟩ := h p hp
    have e := hs h0
    subst e
    exact key p hp rfl hi rfl ((a3 w).mp hw).2.2.1 ((a3 w').mp hw').2.2.1
theorem ukM.ch {s : pPg} {e : pPe} {R R' : Nat → List pRw} (hu : ukM s R) (h : chR s e R R') : ukM s R' := by
  intro p hp hi hk w hw w' hw' he
  obtain ⟨_, _, a3⟩ := h p hp
  have c1 := (a3 w).mp hw
  have c2 := (a3 w').mp hw'
  have old : ∀ {x y : pRw}, x ∈ R p → y ∈ R p → x.1.take (qKy s p) = y.1.take (qKy s p) → x.1 = y.1 := fun {x y} hx hy h => hu p hp hi hk x hx y hy h
  rcases c1 with ⟨_, q1⟩ | ⟨t1, ⟨_, q1, _⟩ | ⟨_, _, q1⟩ | ⟨b1, n1, ⟨q1, q2⟩ | q1⟩⟩
  · rcases c2 with ⟨_, q2⟩ | ⟨t2, _⟩
    · exact old q1 q2 he
    · exact absurd t2 (by assumption)
  · rcases c2 with ⟨t2, _⟩ | ⟨_, ⟨_, q2, _⟩ | ⟨b2, _⟩ | ⟨b2, _⟩⟩
    · exact absurd t1 t2
    · exact old q1 q2 he
    · omega
    · omega
  · rcases c2 with ⟨t2, _⟩ | ⟨_, ⟨b2, _⟩ | ⟨_, _, q2⟩ | ⟨_, n2, _⟩⟩
    · exact absurd t1 t2
    · omega
    · exact old q1 q2 he
    · obtain ⟨z, z1, z2⟩ : ∃ w, w ∈ R p ∧ w.1 = e.2.2 := by assumption
      exact absurd z2 (n2 z z1)
  · rcases c2 with ⟨t2, _⟩ | ⟨_, ⟨b2, _⟩ | ⟨_, ⟨z, z1, z2⟩, _⟩ | ⟨_, _, ⟨q3, q4⟩ | q3⟩⟩
    · exact absurd t1 t2
    · omega
    · exact absurd z2 (n1 z z1)
    · exact old q1 q3 he
    · rw [q3] at he
      exact absurd ⟨hk, he⟩ q2
  · rcases c2 with ⟨t2, _⟩ | ⟨_, ⟨b2, _⟩ | ⟨_, ⟨z, z1, z2⟩, _⟩ | ⟨_, _, ⟨q3, q4⟩ | q3⟩⟩
    · exact absurd t1 t2
    · omega
    · exact absurd z2 (n1 z z1)
    · rw [q1] at he
      exact absurd ⟨hk, he.symm⟩ q4
    · rw [q1, q3]
theorem ukM.chs {s : pPg} : ∀ {ps : List pPe} {R R' : Nat → List pRw}, ukM s R → chA s ps R R' → ukM s R'
  | [], R, R', hu, h => by
    have h' : R' = R := h
    rw [h']; exact hu
  | e :: ps, R, R', hu, h => by
    obtain ⟨R1, h1, h2⟩ := h
    exact ukM.chs (hu.ch h1) h2
theorem lInv.app {T : List (List Int)} {ln : sLn} (t : List Int) (h : lInv T ln) : lInv (T ++ [t]) ln := ⟨fun r r1 r2 => by
  obtain ⟨s, M, a1, a2⟩ := h.1 r r1 r2
  exact ⟨s, M, a1.app t, a2⟩, h.2⟩
theorem hInv.app {T : List (List Int)} {lns : Nat → sLn} (t : List Int) (h : hInv T lns) : hInv (T ++ [t]) lns := ⟨fun y hy => (h.1 y hy).app t, h.2⟩
section
variable {T : List (List Int)} {lns : Nat → sLn} {hr : Nat}
/-- another thing waits in a line -/
theorem hInv.pd {ps : List pPe} {e : Int} {W : Nat → Int} (h : hInv T lns) (he : e = -1 ∨ ((lMo (lns hr)).1 : Int) < e) : hInv T (lUp lns hr (lnD (lns hr) ps e W)) := by
  have e1 : ∀ y, (lUp lns hr (lnD (lns hr) ps e W) y).1 = (lns y).1 := fun y => by
    by_cases d : y = hr
    · rw [d, lUp_s]; rfl
    · rw [lUp_n d]
  have e2 : ∀ y, (lUp lns hr (lnD (lns hr) ps e W) y).2.1 = (lns y).2.1 := fun y => by
    by_cases d : y = hr
    · rw [d, lUp_s]; rfl
    · rw [lUp_n d]
  have e3 : ∀ y, (lUp lns hr (lnD (lns hr) ps e W) y).2.2.2.2 = (lns y).2.2.2.2 := fun y => by
    by_cases d : y = hr
    · rw [d, lUp_s]; rfl
    · rw [lUp_n d]
  refine ⟨fun y hy => ?_, fun y hy => ?_⟩
  · by_cases d : y = hr
    · rw [d] at hy ⊢
      rw [lUp_s]
      exact ⟨(h.1 hr hy).1, (h.1 hr hy).2.1, he⟩
    · rw [lUp_n d]; exact h.1 y hy
  · rcases h.2 y hy with q | ⟨x, r, q1, q2, q3, q4, q5, q6⟩
    · exact .inl (by rw [e3]; exact q)
    · exact .inr ⟨x, r, q1, q2, by rw [e3]; exact q3, by rw [e2]; exact q4, by rw [e2]; exact q5, by rw [e1, e1]; exact q6⟩
theorem hInv.pg {t : List Int} {v pl : Int} {T' : List (List Int)} {lns' : Nat → sLn} (h : hInv T lns) (hh : hr < 4) (hst : stPg T lns hr t v pl T' lns') : hInv T' lns' := by
  rcases hst with ⟨_, e1, e2⟩ | ⟨s, _, _, _, _, e1, e2⟩
  · rw [e1, e2]; exact h
  · rw [e1, e2]
    obtain ⟨s0, M0, b1, _⟩ := (h.1 hr hh).1 _ (Nat.le_add_right _ _) (Nat.le_refl _)
    have := b1.1
    exact (h.app t).pd (.inr (by show ((lMo (lns hr)).1 : Int) < _; unfold lMo; omega))
theorem hInv.ch {t : List Int} {v pl : Int} {lns' : Nat → sLn} (h : hInv T lns) (hh : hr < 4) (hst : stCh T lns hr t v pl lns') : hInv T lns' := by
  obtain ⟨s, _, _, _, _, e⟩ := hst
  rw [e]
  exact h.pd (h.1 hr hh).2.2
theorem hInv.ce {t : List Int} {v : Int} {T' : List (List Int)} {lns' : Nat → sLn} (h : hInv T lns) (hh : hr < 4) (hst : stCe T lns hr t v T' lns') : hInv T' lns' := by
  unfold stCe at hst
  cases hq : qCt t with
  | inl w =>
    rw [hq] at hst
    obtain ⟨_, e1, e2⟩ := hst
    rw [e1, e2]; exact h
  | inr r =>
    rw [hq] at hst
    obtain ⟨_, ⟨_, e1, e2⟩ | ⟨_, e1, e2⟩⟩ := hst
    · rw [e1, e2]; exact h.pd (h.1 hr hh).2.2
    · rw [e1, e2]; exact (h.app t).pd (h.1 hr hh).2.2
theorem hInv.fo (h : hInv T lns) : hInv T (lUp lns hr (lnF (lns hr))) := h.pd (.inl rfl)
/-- the latest round isn't told any more -/
theorem hInv.lt {k : Nat} (h : hInv T lns) : hInv T (lUp lns k (lnT (lns k))) := by
  have e0 : ∀ y, (lUp lns k (lnT (lns k)) y).1 = (lns y).1 ∧ (lUp lns k (lnT (lns k)) y).2.1 = (lns y).2.1 ∧ (lUp lns k (lnT (lns k)) y).2.2.2 = (lns y).2.2.2 := fun y => by
    by_cases d : y = k
    · rw [d, lUp_s]; exact ⟨rfl, rfl, rfl⟩
    · rw [lUp_n d]; exact ⟨rfl, rfl, rfl⟩
  refine ⟨fun y hy => ?_, fun y hy => ?_⟩
  · obtain ⟨e1, e2, e3⟩ := e0 y
    obtain ⟨a1, a2, a3⟩ := h.1 y hy
    refine ⟨by rw [e1, e2]; exact a1, by rw [e1, e2]; exact a2, ?_⟩
    unfold lMo at a3 ⊢
    rw [e1, e2, e3]; exact a3
  · rcases h.2 y hy with q | ⟨x, r, q1, q2, q3, q4, q5, q6⟩
    · exact .inl (by rw [(e0 y).2.2]; exact q)
    · exact .inr ⟨x, r, q1, q2, by rw [(e0 y).2.2]; exact q3, by rw [(e0 x).2.1]; exact q4, by rw [(e0 y).2.1]; exact q5, by rw [(e0 y).1, (e0 x).1]; exact q6⟩
theorem hInv.rd {v : Int} {ln' : sLn} {good : Bool} {s' : pPg} {M' : Nat → List pRw} (h : hInv T lns) (hh : hr < 4) (hst : stRd T (lns hr) v ln' good) (hmo : isMo T (lMo ln') s' M') : hInv T (lUp lns hr ln') := by
  obtain ⟨so, Mo, s, R0, R, b1, b2, b3, b4, b5⟩ := hst
  rcases b5 with ⟨_, _, _, e⟩ | ⟨_, M, F, b, k, wk, cw, c1, c2, _, e, c3, c4, _, _⟩
  · rw [e]; exact h.fo
  · have hL := h.1 hr hh
    obtain ⟨d1, d2, d3⟩ := hL
    have hle : (lns hr).2.1.1 ≤ b := by have := c4.1; omega
    have e1 : ln'.1 = lnH (lns hr) F := by rw [e]
    have e2 : ln'.2.1.1 + ln'.2.1.2.1 = (lns hr).2.1.1 + (lns hr).2.1.2.1 + 1 := by rw [e]; exact c3
    have e2b : ln'.2.1.1 = b := by rw [e]
    have e3 : ln'.2.2.2.2 = (lns hr).2.2.2.2 := by rw [e]
    have e4 : ln'.2.2.2.1.2.1 = -1 := by rw [e]
    have hn : ∀ r, r ≤ (lns hr).2.1.1 + (lns hr).2.1.2.1 → ln'.1 r = (lns hr).1 r := fun r hr' => by
      rw [e1]
      unfold lnH hAd
      rw [if_neg (by omega)]
    have hl : ln'.1 ((lns hr).2.1.1 + (lns hr).2.1.2.1 + 1) = lnM (lns hr) F := by
      rw [e1]
      unfold lnH hAd
      rw [if_pos rfl]
    have hlM : lMo ln' = lnM (lns hr) F := by
      unfold lMo
      rw [e2]; exact hl
    -- the latest moment's rows
    obtain ⟨s1, M1, y1, y2⟩ := d1 ((lns hr).2.1.1 + (lns hr).2.1.2.1) (Nat.le_add_right _ _) (Nat.le_refl _)
    obtain ⟨es, _⟩ := isMo_u b1 (show isMo T (lMo (lns hr)) s1 M1 from y1)
    subst es
    have huo : ukM so Mo := y2.fa b1.2.2.1 y1.2.2.2.2.2.1 b1.2.2.2.2.2.1
    have hss : s' = s := by
      have := hmo.2.1
      rw [hlM] at this
      have h2 : qPr (T.getD (lnE (lns hr)) []) = .inr s' := this
      rw [b2] at h2
      injection h2 with h2
      exact h2.symm
    subst hss
    have hu0 : ukM s' R0 := ukM.r0 b1.2.2.1 b1.2.2.2.2.2.1 huo (fun q => by
      have q' : (lns hr).2.2.2.1.2.1 = -1 := Classical.not_not.mp q
      have : lnE (lns hr) = (lMo (lns hr)).1 := by unfold lnE; rw [if_pos q']
      rw [this] at b2
      have h3 := b1.2.1
      rw [b2] at h3
      injection h3 with h3) b3
    have hu1 : ukM s' R := hu0.chs b4
    have hu2 : ukM s' M := fun p hp hi hk w hw w' hw' he => by
      rw [c1.2.1 p hp hi] at hw hw'
      exact hu1 p hp hi hk w hw w' hw' he
    have hF' : qFa s' M' F := by
      have := hmo.2.2.2.2.2.1
      rw [hlM] at this
      exact this
    have hu3 : ukM s' M' := hu2.fa hmo.2.2.1 c2 hF'
    refine ⟨fun y hy => ?_, fun y hy => ?_⟩
    · by_cases d : y = hr
      · rw [d, lUp_s]
        refine ⟨fun r r1 r2 => ?_, fun r r1 r2 => ?_, .inl e4⟩
        · rw [e2] at r2
          by_cases cr : r = (lns hr).2.1.1 + (lns hr).2.1.2.1 + 1
          · refine ⟨s', M', ?_, hu3⟩
            rw [cr, hl, ← hlM]
            exact hmo
          · rw [hn r (by omega)]
            exact d1 r (by omega) (by omega)
        · rw [e2] at r2
          by_cases cr : r = (lns hr).2.1.1 + (lns hr).2.1.2.1 + 1
          · rw [cr, hl, Nat.add_sub_cancel, hn _ (Nat.le_refl _)]
            show (decide ((lns hr).2.2.2.1.2.1 ≠ -1) = true → (lMo (lns hr)).1 < lnE (lns hr)) ∧ (decide ((lns hr).2.2.2.1.2.1 ≠ -1) ≠ true → lnE (lns hr) = (lMo (lns hr)).1)
            unfold lnE
            constructor
            · intro q
              have q' := of_decide_eq_true q
              rw [if_neg q']
              rcases d3 with z | z
              · exact absurd z q'
              · omega
            · intro q
              have q' : (lns hr).2.2.2.1.2.1 = -1 := Classical.not_not.mp (fun z => q (decide_eq_true z))
              rw [if_pos q']
          · rw [hn r (by omega), hn (r - 1) (by omega)]
            exact d2 r r1 (by omega)
      · rw [lUp_n d]; exact h.1 y hy
    · have eh : ∀ x r, r ≤ (lns x).2.1.1 + (lns x).2.1.2.1 → (lUp lns hr ln' x).1 r = (lns x).1 r ∧ r ≤ (lUp lns hr ln' x).2.1.1 + (lUp lns hr ln' x).2.1.2.1 := fun x r hr' => by
        by_cases d : x = hr
        · rw [d] at hr' ⊢
          rw [lUp_s]
          exact ⟨hn r hr', by omega⟩
        · rw [lUp_n d]; exact ⟨rfl, hr'⟩
      have ef : (lUp lns hr ln' y).2.2.2.2 = (lns y).2.2.2.2 := by
        by_cases d : y = hr
        · rw [d, lUp_s]; exact e3
        · rw [lUp_n d]
      rcases h.2 y hy with q | ⟨x, r, q1, q2, q3, q4, q5, q6⟩
      · exact .inl (by rw [ef]; exact q)
      · exact .inr ⟨x, r, q1, q2, by rw [ef]; exact q3, (eh x r q4).2, (eh y r q5).2, by rw [(eh y r q5).1, (eh x r q4).1]; exact q6⟩
end
end
section
/-! The house: what always holds of its lines, behind back, branch, merge, line, forget -/
theorem lUp_f {lns : Nat → sLn} {hr : Nat} {g : sLn → sLn} : (fun k => if k = hr then g (lns k) else lns k) = lUp lns hr (g (lns hr)) := by
  funext k
  by_cases d : k = hr
  · rw [d, lUp_s, if_pos rfl]
  · rw [lUp_n d, if_neg d]
section
variable {T : List (List Int)} {lns lns' : Nat → sLn} {hr : Nat}
theorem lInv.fk {ln : sLn} {fk : Int × Int} (h : lInv T ln) : lInv T (lnK ln fk) := h
theorem lInv.bk {ln : sLn} {i : Nat} (h : lInv T ln) (hi : i ≤ ln.2.1.2.1) : lInv T (lnB ln i) := ⟨fun r r1 r2 => h.1 r r1 (by have r2' : r ≤ ln.2.1.1 + i := r2; omega), fun r r1 r2 => h.2.1 r r1 (by have r2' : r ≤ ln.2.1.1 + i := r2; omega), .inl rfl⟩
theorem lInv.br {ln : sLn} {i : Nat} {fk : Int × Int} (h : lInv T ln) (hi : i ≤ ln.2.1.2.1) : lInv T (lnC ln i fk) := ⟨fun r r1 r2 => h.1 r r1 (by have r2' : r ≤ ln.2.1.1 + i := r2; omega), fun r r1 r2 => h.2.1 r r1 (by have r2' : r ≤ ln.2.1.1 + i := r2; omega), .inl rfl⟩
theorem hInv.bk {r v : Int} (h : hInv T lns) (hst : stBk lns hr r v lns') : hInv T lns' := by
  rcases hst with ⟨i, hi, er, _, e⟩ | ⟨_, _, e⟩
  · have es : lns' hr = lnK (lnB (lns hr) i) (fkB r (fkL (hr : Int) r (lns hr).2.2.2.2)) := by rw [e]; exact if_pos rfl
    have en : ∀ k, k ≠ hr → lns' k = lnK (lns k) (fkL (hr : Int) r (lns k).2.2.2.2) := fun k hk => by rw [e]; exact if_neg hk
    have eH : ∀ k, (lns' k).1 = (lns k).1 := fun k => by
      by_cases d : k = hr
      · rw [d, es]; rfl
      · rw [en k d]; rfl
    refine ⟨fun y hy => ?_, fun y hy => ?_⟩
    · by_cases d : y = hr
      · rw [d] at hy ⊢
        rw [es]
        exact (h.1 hr hy).bk hi
      · rw [en y d]; exact h.1 y hy
    · -- a fork that stays
      have keep : (lns' y).2.2.2.2.1 ≠ -1 → (lns' y).2.2.2.2 = (lns y).2.2.2.2 ∧ ¬ ((lns y).2.2.2.2.1 = (hr : Int) ∧ r < (lns y).2.2.2.2.2) ∧ (y = hr → ¬ ((lns y).2.2.2.2.1 ≠ -1 ∧ r < (lns y).2.2.2.2.2)) := fun hne => by
        by_cases d : y = hr
        · rw [d] at hne ⊢
          rw [es] at hne ⊢
          have hne' : (fkB r (fkL (hr : Int) r (lns hr).2.2.2.2)).1 ≠ -1 := hne
          show fkB r (fkL (hr : Int) r (lns hr).2.2.2.2) = _ ∧ _
          unfold fkB at hne' ⊢
          by_cases c1 : (fkL (hr : Int) r (lns hr).2.2.2.2).1 ≠ -1 ∧ r < (fkL (hr : Int) r (lns hr).2.2.2.2).2
          · rw [if_pos c1] at hne'; exact absurd rfl hne'
          · rw [if_neg c1] at hne' ⊢
            unfold fkL at hne' c1 ⊢
            by_cases c2 : (lns hr).2.2.2.2.1 = (hr : Int) ∧ r < (lns hr).2.2.2.2.2
            · rw [if_pos c2] at hne'; exact absurd rfl hne'
            · rw [if_neg c2] at c1 ⊢
              exact ⟨rfl, c2, fun _ => c1⟩
        · rw [en y d] at hne ⊢
          have hne' : (fkL (hr : Int) r (lns y).2.2.2.2).1 ≠ -1 := hne
          show fkL (hr : Int) r (lns y).2.2.2.2 = _ ∧ _
          unfold fkL at hne' ⊢
          by_cases c2 : (lns y).2.2.2.2.1 = (hr : Int) ∧ r < (lns y).2.2.2.2.2
          · rw [if_pos c2] at hne'; exact absurd rfl hne'
          · rw [if_neg c2]
            exact ⟨rfl, c2, fun q => absurd q d⟩
      by_cases c0 : (lns' y).2.2.2.2.1 = -1
      · exact .inl c0
      · obtain ⟨k1, k2, k3⟩ := keep c0
        rw [k1] at c0
        rcases h.2 y hy with q | ⟨x, r', q1, q2, q3, q4, q5, q6⟩
        · exact absurd q c0
        · rw [q3] at k2 k3
          have lhr : (lns' hr).2.1.1 + (lns' hr).2.1.2.1 = (lns hr).2.1.1 + i := by rw [es]; rfl
          have lln : ∀ k, k ≠ hr → (lns' k).2.1 = (lns k).2.1 := fun k hk => by rw [en k hk]; rfl
          refine .inr ⟨x, r', q1, q2, by rw [k1]; exact q3, ?_, ?_, by rw [eH, eH]; exact q6⟩
          · by_cases dx : x = hr
            · rw [dx, lhr]
              have : ¬ (r < (r' : Int)) := fun z => k2 ⟨by rw [dx], z⟩
              omega
            · rw [lln x dx]; exact q4
          · by_cases dy : y = hr
            · rw [dy, lhr]
              have : ¬ (r < (r' : Int)) := fun z => k3 dy ⟨by show (x : Int) ≠ -1; omega, z⟩
              omega
            · rw [lln y dy]; exact q5
  · rw [e]; exact h
theorem hInv.br {x r v : Int} (hh : hr < 4) (h : hInv T lns) (hst : stBr lns hr x r v lns') : hInv T lns' := by
  rcases hst with ⟨x0, x1, x2, i, hi, er, _, e⟩ | ⟨_, _, e⟩
  · obtain ⟨x, rfl⟩ : ∃ z : Nat, x = (z : Int) := ⟨x.toNat, by omega⟩
    rw [Int.toNat_natCast] at e
    have hxr : x ≠ hr := by omega
    have es : lns' x = lnC (lns hr) i ((hr : Int), r) := by rw [e]; exact if_pos rfl
    have en : ∀ k, k ≠ x → lns' k = lnK (lns k) (fkL (x : Int) (-1) (lns k).2.2.2.2) := fun k hk => by rw [e]; exact if_neg hk
    have eHn : ∀ k, k ≠ x → (lns' k).1 = (lns k).1 ∧ (lns' k).2.1 = (lns k).2.1 := fun k hk => by rw [en k hk]; exact ⟨rfl, rfl⟩
    refine ⟨fun y hy => ?_, fun y hy => ?_⟩
    · by_cases d : y = x
      · rw [d, es]; exact (h.1 hr hh).br hi
      · rw [en y d]; exact h.1 y hy
    · by_cases d : y = x
      · rw [d]
        refine .inr ⟨hr, (lns hr).2.1.1 + i, hh, fun q => hxr q.symm, ?_, ?_, ?_, ?_⟩
        · rw [es, er]; rfl
        · rw [(eHn hr (fun q => hxr q.symm)).2]; omega
        · rw [es]; exact Nat.le_refl _
        · rw [(eHn hr (fun q => hxr q.symm)).1, es]; rfl
      · have ef : (lns' y).2.2.2.2 = fkL (x : Int) (-1) (lns y).2.2.2.2 := by rw [en y d]; rfl
        rcases h.2 y hy with q | ⟨x', r', q1, q2, q3, q4, q5, q6⟩
        · refine .inl ?_
          rw [ef]
          unfold fkL
          split
          · rfl
          · exact q
        · by_cases dx : x' = x
          · refine .inl ?_
            rw [ef, q3]
            unfold fkL
            rw [if_pos ⟨by rw [dx], by show (-1 : Int) < (r' : Int); omega⟩]
          · refine .inr ⟨x', r', q1, q2, ?_, by rw [(eHn x' dx).2]; exact q4, by rw [(eHn y d).2]; exact q5, by rw [(eHn y d).1, (eHn x' dx).1]; exact q6⟩
            rw [ef, q3]
            unfold fkL
            rw [if_neg (fun z => dx (by have : ((x' : Nat) : Int) = (x : Int) := z.1; omega))]
  · rw [e]; exact h
theorem hInv.mg {k v : Int} {mt mt' : Int × List Int} (hh : hr < 4) (h : hInv T lns) (hst : stMg T lns hr k mt v mt' lns') : hInv T lns' := by
  rcases hst with ⟨_, _, _, e⟩ | ⟨_, _, _, _, e⟩ | ⟨_, s, Ma, Mb, Mz, _, _, _, _, ⟨_, _, _, _, _, e⟩ | ⟨_, _, ⟨_, _, e⟩ | ⟨_, _, e⟩⟩⟩
  · rw [e]; exact h
  · rw [e]; exact h
  · rw [e]; exact h
  · rw [e]; exact h
  · rw [e, lUp_f (g := fun l => lnP l _)]
    exact h.pd (h.1 hr hh).2.2
end
end
