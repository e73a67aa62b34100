/-! THE CLASS: gather(), its turns -/
section
variable {nv gO gA n : Nat} {Ls : List pLt} {R : Nat → List pRw} {I : List pCd} {kk : Int} {last : Option (List Int)} {V : List (Nat → Int)} {xs zs : List Int}
theorem gVs_vec (hw : ∀ k, k < I.length → (k : Int) ≠ (gA : Int) → wEx nv (I.getD k [])) (hO : kk ≠ 1 → gO < nv) : gVs (fun v : List Int => gKy kk (gO : Int) I (gA : Int) last (vF v)) (fun v => gXv kk (gO : Int) (vF v)) (V.map (vec nv)) xs = gVs (gKy kk (gO : Int) I (gA : Int) last) (gXv kk (gO : Int)) V xs := by
  unfold gVs
  rw [List.filterMap_map]
  congr 1
  funext v
  obtain ⟨e1, e2⟩ := gKy_xt (kk := kk) (gO := (gO : Int)) (last := last) (v := vF (vec nv v)) (w := v) hw (fun c => ⟨Int.natCast_nonneg _, by have := hO c; omega⟩) (fun k hk => vec_vF hk)
  show (if gKy kk (gO : Int) I (gA : Int) last (vF (vec nv v)) = some xs then some (gXv kk (gO : Int) (vF (vec nv v))) else none) = _
  rw [e1, e2]
theorem gVs_lf (h : gLa last xs = some xs) : gVs (gKy kk (gO : Int) I (gA : Int) last) (gXv kk (gO : Int)) V xs = gVs (gKy kk (gO : Int) I (gA : Int) none) (gXv kk (gO : Int)) V xs := by
  unfold gVs
  congr 1
  funext v
  by_cases c : gKy kk (gO : Int) I (gA : Int) none v = some xs
  · rw [if_pos c, if_pos (gKy_iff.mpr ⟨c, h⟩)]
  · rw [if_neg c, if_neg (fun y => c (gKy_iff.mp y).1)]
theorem gDs_V (hw : ∀ k, k < I.length → (k : Int) ≠ (gA : Int) → wEx nv (I.getD k [])) (hO : kk ≠ 1 → gO < nv) (hV : isAll Ls nv R qO1 (V.map (vec nv))) : gDs Ls nv R qO1 kk (gO : Int) I gA xs zs ↔ gVs (gKy kk (gO : Int) I (gA : Int) none) (gXv kk (gO : Int)) V xs ≠ [] ∧ gRo kk gA xs (gAg kk (gVs (gKy kk (gO : Int) I (gA : Int) none) (gXv kk (gO : Int)) V xs)) = some zs := by
  constructor
  · intro h
    have := gDs_of hV h
    rw [gVs_vec hw hO] at this
    exact this
  · rintro ⟨h1, h2⟩
    refine ⟨V.map (vec nv), hV, ?_, ?_⟩
    · rw [gVs_vec hw hO]; exact h1
    · rw [gVs_vec hw hO]; exact h2
/-- behind the last group -/
theorem gLa_lt {ys : List Int} : gLa (some ys) xs = some xs ↔ vLt ys xs := by
  show (if fCmp (0, ys) (0, xs) < 0 then some xs else none) = some xs ↔ _
  by_cases c : fCmp (0, ys) (0, xs) < 0
  · rw [if_pos c]; exact ⟨fun _ => c, fun _ => rfl⟩
  · rw [if_neg c]; exact ⟨fun y => (by cases y), fun y => absurd y c⟩
theorem gLa_tr {ys : List Int} (h1 : gLa last ys = some ys) (h2 : vLt ys xs) : gLa last xs = some xs := by
  cases last with
  | none => rfl
  | some zs => exact gLa_lt.mpr (vLt_tr (gLa_lt.mp h1) h2)
/-- where all groups give rows, more than 512 groups are too many rows -/
theorem g_over (hgA : gA < I.length) (hw : ∀ k, k < I.length → (k : Int) ≠ (gA : Int) → wEx nv (I.getD k [])) (hO : kk ≠ 1 → gO < nv) (hV : isAll Ls nv R qO1 (V.map (vec nv))) (hk : kk ≠ 2) {Ks : List (List Int)} (h1 : Ks.Nodup) (h2 : 512 < Ks.length) (h3 : ∀ ks ∈ Ks, ∃ v, v ∈ V ∧ gKy kk (gO : Int) I (gA : Int) last v = some ks) : ∃ W : List (List Int), W.Nodup ∧ 100 < W.length ∧ ∀ z ∈ W, ∃ ks, gDs Ls nv R qO1 kk (gO : Int) I gA ks z ∧ gLa last ks = some ks := by
  have key : ∀ ks ∈ Ks, gLa last ks = some ks ∧ ks.length = I.length ∧ ks.getD gA 0 = 0 ∧ gDs Ls nv R qO1 kk (gO : Int) I gA ks (ks.set gA (gAg kk (gVs (gKy kk (gO : Int) I (gA : Int) none) (gXv kk (gO : Int)) V ks))) := fun ks hks => by
    obtain ⟨v, v1, v2⟩ := h3 ks hks
    obtain ⟨w1, w2⟩ := gKy_iff.mp v2
    have w3 : qMk I (gA : Int) v I.length = some ks := by
      unfold gKy at w1
      by_cases c : kk = 2 ∧ 2000000000000 ≤ gXv kk (gO : Int) v
      · rw [if_pos c] at w1; cases w1
      · rw [if_neg c] at w1
        cases hq : qMk I (gA : Int) v I.length with
        | none => rw [hq] at w1; cases w1
        | some ys =>
          rw [hq, Option.bind_some] at w1
          exact w1
    refine ⟨w2, qMk_len _ _ w3, qMk_g _ _ w3 hgA, (gDs_V hw hO hV).mpr ⟨gVs_in v1 w1, ?_⟩⟩
    rw [gRo_so (fun y => hk y.1)]
  refine ⟨Ks.map (fun ks => ks.set gA (gAg kk (gVs (gKy kk (gO : Int) I (gA : Int) none) (gXv kk (gO : Int)) V ks))), ?_, by rw [List.length_map]; omega, fun z hz => ?_⟩
  · rw [List.nodup_iff_pairwise_ne, List.pairwise_map]
    refine List.Pairwise.imp_of_mem (fun {a b} ha hb hne e => hne ?_) (List.nodup_iff_pairwise_ne.mp h1)
    obtain ⟨_, a1, a2, _⟩ := key a ha
    obtain ⟨_, b1, b2, _⟩ := key b hb
    refine List.ext_getElem (by omega) (fun i i1 i2 => ?_)
    have e' := congrArg (fun l => List.getD l i 0) e
    have e2 : (a.set gA (gAg kk (gVs (gKy kk (gO : Int) I (gA : Int) none) (gXv kk (gO : Int)) V a))).getD i 0 = (b.set gA (gAg kk (gVs (gKy kk (gO : Int) I (gA : Int) none) (gXv kk (gO : Int)) V b))).getD i 0 := e'
    rw [getD_st (by omega), getD_st (by omega)] at e2
    rw [← getD_e (d := (0 : Int)) i1, ← getD_e (d := (0 : Int)) i2]
    by_cases c : i = gA
    · subst c; rw [a2, b2]
    · rw [if_neg c, if_neg c] at e2; exact e2
  · obtain ⟨ks, k1, rfl⟩ := List.mem_map.mp hz
    exact ⟨ks, (key ks k1).2.2.2, (key ks k1).1⟩
end
