/-! merge: what meets -/
/-- facts whose rows named nm are n wide, each with a KEY of its own, k wide -/
def wKf (F : List pFc) (nm : Int) (k n : Nat) : Prop := F.Pairwise fLt ∧ (∀ v, (nm, v) ∈ F → v.length = n) ∧ ∀ v v', (nm, v) ∈ F → (nm, v') ∈ F → v.take k = v'.take k → v = v'
/-- the same row for a KEY, or none in both -/
def eqF (F F' : List pFc) (nm : Int) (k : Nat) (κ : List Int) : Prop := ∀ v, v.take k = κ → ((nm, v) ∈ F ↔ (nm, v) ∈ F')
def mtF (A B Z : List pFc) (nm : Int) (k : Nat) (κ : List Int) : Prop := ¬ eqF A Z nm k κ ∧ ¬ eqF B Z nm k κ ∧ ¬ eqF A B nm k κ
/-- where a KEY stands -/
def isKy (F : List pFc) (nm : Int) (k : Nat) (κ : List Int) (r : Int) : Prop := (r = -1 ∧ ∀ v, (nm, v) ∈ F → v.take k ≠ κ) ∨ ∃ i : Nat, r = (i : Int) ∧ i < F.length ∧ (F.getD i dFc).1 = nm ∧ (F.getD i dFc).2.take k = κ
section
variable {f p k n : Nat} {nm : Int} {G : xG_}
theorem rFa.tk {b i : Nat} {F : List pFc} (hb : isFb b) (h : rFa G b F) (hi : i < F.length) (hk : k ≤ (F.getD i dFc).2.length) : rVe G (b + 2) (4 * i) ((F.getD i dFc).2.take k) := by
  obtain ⟨q1, q2, q3, q4⟩ := h.2.2 i hi
  have hl := h.2.1
  have h13 : ((xl_t (b + 2)).2.2 : Int) = 13600 := by
    unfold isFb at hb
    rcases hb with e | e | e | e | e | e | e <;> (subst e; decide +kernel)
  have hl2 : ((F.getD i dFc).2.take k).length = k := by rw [List.length_take]; omega
  refine ⟨by rw [h13, hl2]; omega, by omega, by omega, fun j hj => ?_⟩
  rw [hl2] at hj
  rw [q4 j (by omega), getD_tk hj]
theorem mem_at {F : List pFc} {i : Nat} (hi : i < F.length) (hn : (F.getD i dFc).1 = nm) : (nm, (F.getD i dFc).2) ∈ F := by
  have : F.getD i dFc ∈ F := by
    rw [getD_e hi]
    exact List.getElem_mem _
  rw [← hn]
  exact this
theorem l_skey {b c i : Nat} {F OF : List pFc} {w : List Int} (hf : 3500 < f) (hb : isFb b) (hc : isFb c) (hF : rFa G b F) (hO : rFa G c OF) (hw : wKf F nm k n) (hkn : k ≤ n) (hi : i < OF.length) (hv : OF.getD i dFc = (nm, w)) (hwl : w.length = n) (hp : p < 16) (h3 : G (2 + 1) p = nm) (h5 : G (2 + 3) p = (k : Int)) : ∀ (d r fu : Nat), r + d = F.length → d < fu → (∀ y, y < r → (F.getD y dFc).1 = nm → (F.getD y dFc).2.take k ≠ w.take k) →
    ∃ x, g323_3 f fu b (p : Int) c (i : Int) (r : Int) G = some (x, G) ∧ isKy F nm k (w.take k) x := by
  have hl := hF.2.1
  have hlO := hO.2.1
  have hO2 : rVe G (c + 2) (4 * i) (w.take k) := by
    have := rFa.tk (k := k) hc hO hi (by rw [hv]; show k ≤ w.length; omega)
    rw [hv] at this
    exact this
  have ei : xwr (4 * (i : Int)) = ((4 * i : Nat) : Int) := by rw [xwr_g _ (by omega) (by omega)]; omega
  intro d
  induction d with
  | zero =>
    intro r fu h1 h2 h6
    obtain ⟨fu, rfl⟩ : ∃ t, fu = t + 1 := ⟨fu - 1, by omega⟩
    refine ⟨-1, ?_, .inl ⟨rfl, fun v hm q => ?_⟩⟩
    · show g323_3b (g323_3 f fu) f _ _ _ _ _ _ = _
      unfold g323_3b
      rw [hF.1, if_pos (by omega)]
    · obtain ⟨y, hy, ey⟩ := List.getElem_of_mem hm
      have e2 : F.getD y dFc = (nm, v) := by rw [getD_e hy]; exact ey
      exact h6 y (by omega) (by rw [e2]) (by rw [e2]; exact q)
  | succ d ih =>
    intro r fu h1 h2 h6
    obtain ⟨fu, rfl⟩ : ∃ t, fu = t + 1 := ⟨fu - 1, by omega⟩
    have hr : r < F.length := by omega
    obtain ⟨q1, q2, q3, q4⟩ := hF.2.2 r hr
    have er : xwr ((r : Int) + 1) = ((r + 1 : Nat) : Int) := by rw [xwr_g _ (by omega) (by omega)]; omega
    have er4 : xwr (4 * (r : Int)) = ((4 * r : Nat) : Int) := by rw [xwr_g _ (by omega) (by omega)]; omega
    have e0 : g323_3 f (fu + 1) b (p : Int) c (i : Int) (r : Int) G = g323_3b (g323_3 f fu) f b (p : Int) c (i : Int) (r : Int) G := rfl
    by_cases cn : (F.getD r dFc).1 = nm
    · have hlen := hw.2.1 _ (mem_at hr cn)
      have hv1 := rFa.tk (k := k) hb hF hr (by omega)
      have hcmp := l_262 (f := f) (n := k) (by omega) hv1 hO2 (by rw [List.length_take]; omega) (by rw [List.length_take]; omega)
      by_cases ck : (F.getD r dFc).2.take k = w.take k
      · refine ⟨(r : Int), ?_, .inr ⟨r, rfl, hr, cn, ck⟩⟩
        rw [e0]
        unfold g323_3b
        rw [hF.1, if_neg (by omega), if_pos (by omega), if_pos (by omega), Int.toNat_natCast, Int.toNat_natCast, q1, h3, if_neg (fun q => q cn), if_pos (by omega), er4, ei, h5, hcmp, Option.bind_some, ck, vCmp_self, if_neg (fun q => q rfl)]
      · obtain ⟨x, u1, u2⟩ := ih (r + 1) fu (by omega) (by omega) (fun y hy => by
          by_cases c : y = r
          · rw [c]; exact fun _ => ck
          · exact h6 y (by omega))
        refine ⟨x, ?_, u2⟩
        have hne : ¬ vCmp ((F.getD r dFc).2.take k) (w.take k) = 0 := fun q => ck (vCmp_eq (by rw [List.length_take, List.length_take]; omega) q)
        rw [e0]
        unfold g323_3b g323_66
        rw [hF.1, if_neg (by omega), if_pos (by omega), if_pos (by omega), Int.toNat_natCast, Int.toNat_natCast, q1, h3, if_neg (fun q => q cn), if_pos (by omega), er4, ei, h5, hcmp, Option.bind_some, if_pos hne, er]
        exact u1
    · obtain ⟨x, u1, u2⟩ := ih (r + 1) fu (by omega) (by omega) (fun y hy hn => by
        by_cases c : y = r
        · rw [c] at hn; exact absurd hn cn
        · exact h6 y (by omega) hn)
      refine ⟨x, ?_, u2⟩
      rw [e0]
      unfold g323_3b g323_66
      rw [hF.1, if_neg (by omega), if_pos (by omega), if_pos (by omega), Int.toNat_natCast, Int.toNat_natCast, q1, h3, if_pos cn, er]
      exact u1
/-- isSame -/
theorem l_same {b c : Nat} {F F' : List pFc} {κ : List Int} {x y : Int} (hf : 20 < f) (hb : isFb b) (hc : isFb c) (hF : rFa G b F) (hF' : rFa G c F') (hw : wKf F nm k n) (hw' : wKf F' nm k n) (hx : isKy F nm k κ x) (hy : isKy F' nm k κ y) : ∃ r : Int, g324 f b x c y G = some (r, G) ∧ (r = 0 ∨ r = 1) ∧ (r = 1 ↔ eqF F F' nm k κ) := by
  have hl := hF.2.1
  have hl' := hF'.2.1
  have e57 : ∀ r : Int, (r = 0 ∨ r = 1) → g324_57 f r G = some (r, G) := fun r hr => by
    unfold g324_57
    rw [if_pos hr]
  rcases hx with ⟨rfl, hx⟩ | ⟨i, rfl, i1, i2, i3⟩
  · rcases hy with ⟨rfl, hy⟩ | ⟨j, rfl, j1, j2, j3⟩
    · refine ⟨1, ?_, .inr rfl, fun _ v hv => ⟨fun q => absurd hv (hx v q), fun q => absurd hv (hy v q)⟩, fun _ => rfl⟩
      unfold g324 g324_11
      rw [if_pos rfl, if_neg (fun q => q rfl), e57 1 (.inr rfl)]
    · refine ⟨0, ?_, .inl rfl, fun q => absurd q (by decide), fun q => ?_⟩
      · unfold g324 g324_11
        rw [if_pos rfl, if_pos (by omega), e57 0 (.inl rfl)]
      · exact absurd j3 (hx _ ((q _ j3).mpr (mem_at j1 j2)))
  · rcases hy with ⟨rfl, hy⟩ | ⟨j, rfl, j1, j2, j3⟩
    · refine ⟨0, ?_, .inl rfl, fun q => absurd q (by decide), fun q => ?_⟩
      · unfold g324 g324_11
        rw [if_neg (by omega), if_neg (fun q => q rfl), if_pos (by omega), e57 0 (.inl rfl)]
      · exact absurd i3 (hy _ ((q _ i3).mp (mem_at i1 i2)))
    · obtain ⟨q1, q2, q3, q4⟩ := hF.2.2 i i1
      have l1 := hw.2.1 _ (mem_at i1 i2)
      have l2 := hw'.2.1 _ (mem_at j1 j2)
      have hn4 : n ≤ 4 := by omega
      have v1 := rFa.tk (k := n) hb hF i1 (by omega)
      have v2 := rFa.tk (k := n) hc hF' j1 (by omega)
      rw [List.take_of_length_le (by omega)] at v1 v2
      have hcmp := l_262 (f := f) (n := n) hf v1 v2 l1 l2
      have ei : xwr (4 * (i : Int)) = ((4 * i : Nat) : Int) := by rw [xwr_g _ (by omega) (by omega)]; omega
      have ej : xwr (4 * (j : Int)) = ((4 * j : Nat) : Int) := by rw [xwr_g _ (by omega) (by omega)]; omega
      have e0 : g324 f b (i : Int) c (j : Int) G = (if ¬ vCmp (F.getD i dFc).2 (F'.getD j dFc).2 = 0 then g324_57 f 0 G else g324_57 f 1 G) := by
        unfold g324
        rw [if_neg (by omega), if_pos (by omega), if_pos (by omega), ei, ej, Int.toNat_natCast, q2, l1, hcmp, Option.bind_some]
      by_cases ce : (F.getD i dFc).2 = (F'.getD j dFc).2
      · refine ⟨1, ?_, .inr rfl, fun _ v hv => ?_, fun _ => rfl⟩
        · rw [e0, ce, vCmp_self, if_neg (fun q => q rfl), e57 1 (.inr rfl)]
        · constructor
          · intro q
            rw [hw.2.2 v _ q (mem_at i1 i2) (by rw [hv, i3]), ce]
            exact mem_at j1 j2
          · intro q
            rw [hw'.2.2 v _ q (mem_at j1 j2) (by rw [hv, j3]), ← ce]
            exact mem_at i1 i2
      · refine ⟨0, ?_, .inl rfl, fun q => absurd q (by decide), fun q => ?_⟩
        · have hne : ¬ vCmp (F.getD i dFc).2 (F'.getD j dFc).2 = 0 := fun q => ce (vCmp_eq (by rw [l1, l2]) q)
          rw [e0, if_pos hne, e57 0 (.inl rfl)]
        · have := (q _ i3).mp (mem_at i1 i2)
          exact absurd (hw'.2.2 _ _ this (mem_at j1 j2) (by rw [i3, j3])) ce
/-- meets -/
theorem l_meets {a b c i : Nat} {A B Z OF : List pFc} {w : List Int} (hf : 3500 < f) (ha : isFb (a + 1)) (hb : isFb (b + 1)) (hc : isFb c) (hA : rFa G (a + 1) A) (hB : rFa G (b + 1) B) (hZ : rFa G 253 Z) (hO : rFa G c OF) (wA : wKf A nm k n) (wB : wKf B nm k n) (wZ : wKf Z nm k n) (hkn : k ≤ n) (hi : i < OF.length) (hv : OF.getD i dFc = (nm, w)) (hwl : w.length = n) (hp : p < 16) (h3 : G (2 + 1) p = nm) (h5 : G (2 + 3) p = (k : Int)) : ∃ r : Int, g325 f a b (p : Int) c (i : Int) G = some (r, G) ∧ (r = 0 ∨ r = 1) ∧ (r = 1 ↔ mtF A B Z nm k (w.take k)) := by
  have h253 : isFb 253 := by unfold isFb; omega
  have hlA := hA.2.1
  have hlB := hB.2.1
  have hlZ := hZ.2.1
  obtain ⟨x, x1, x2⟩ := l_skey (f := f) hf ha hc hA hO wA hkn hi hv hwl hp h3 h5 A.length 0 f (by omega) (by omega) (fun y hy => absurd hy (Nat.not_lt_zero y))
  obtain ⟨y, y1, y2⟩ := l_skey (f := f) hf hb hc hB hO wB hkn hi hv hwl hp h3 h5 B.length 0 f (by omega) (by omega) (fun y hy => absurd hy (Nat.not_lt_zero y))
  obtain ⟨z, z1, z2⟩ := l_skey (f := f) hf h253 hc hZ hO wZ hkn hi hv hwl hp h3 h5 Z.length 0 f (by omega) (by omega) (fun y hy => absurd hy (Nat.not_lt_zero y))
  obtain ⟨r1, a1, a2, a3⟩ := l_same (f := f) (by omega) ha h253 hA hZ wA wZ x2 z2
  obtain ⟨r2, b1, b2, b3⟩ := l_same (f := f) (by omega) hb h253 hB hZ wB wZ y2 z2
  obtain ⟨r3, c1, c2, c3⟩ := l_same (f := f) (by omega) ha hb hA hB wA wB x2 y2
  have x1' : g323 f (a + 1) (p : Int) c (i : Int) G = some (x, G) := x1
  have y1' : g323 f (b + 1) (p : Int) c (i : Int) G = some (y, G) := y1
  have z1' : g323 f 253 (p : Int) c (i : Int) G = some (z, G) := z1
  have e0 : g325 f a b (p : Int) c (i : Int) G = (if ¬ r1 = 0 then g325_106 f G else (if ¬ r2 = 0 then g325_106 f G else (if ¬ r3 = 0 then g325_106 f G else g325_107 f 1 G))) := by
    unfold g325
    rw [x1', Option.bind_some, y1', Option.bind_some, z1', Option.bind_some, a1, Option.bind_some]
    show (if ¬ r1 = 0 then g325_106 f G else Option.bind (g324 f (b + 1) y 253 z G) _) = _
    rw [b1, Option.bind_some]
    show (if ¬ r1 = 0 then g325_106 f G else (if ¬ r2 = 0 then g325_106 f G else Option.bind (g324 f (a + 1) x (b + 1) y G) _)) = _
    rw [c1, Option.bind_some]
  have e106 : g325_106 f G = some (0, G) := by
    unfold g325_106 g325_107
    rw [if_pos (Or.inl rfl)]
  have e107 : g325_107 f 1 G = some (1, G) := by
    unfold g325_107
    rw [if_pos (Or.inr rfl)]
  unfold mtF
  by_cases d1 : r1 = 0
  · have n1 : ¬ eqF A Z nm k (w.take k) := fun q => by rw [a3.mpr q] at d1; exact absurd d1 (by decide)
    by_cases d2 : r2 = 0
    · have n2 : ¬ eqF B Z nm k (w.take k) := fun q => by rw [b3.mpr q] at d2; exact absurd d2 (by decide)
      by_cases d3 : r3 = 0
      · have n3 : ¬ eqF A B nm k (w.take k) := fun q => by rw [c3.mpr q] at d3; exact absurd d3 (by decide)
        exact ⟨1, by rw [e0, if_neg (fun q => q d1), if_neg (fun q => q d2), if_neg (fun q => q d3), e107], .inr rfl, fun _ => ⟨n1, n2, n3⟩, fun _ => rfl⟩
      · refine ⟨0, by rw [e0, if_neg (fun q => q d1), if_neg (fun q => q d2), if_pos d3, e106], .inl rfl, fun q => absurd q (by decide), fun q => absurd (c3.mp (c2.resolve_left d3)) q.2.2⟩
    · refine ⟨0, by rw [e0, if_neg (fun q => q d1), if_pos d2, e106], .inl rfl, fun q => absurd q (by decide), fun q => absurd (b3.mp (b2.resolve_left d2)) q.2.1⟩
  · refine ⟨0, by rw [e0, if_pos d1, e106], .inl rfl, fun q => absurd q (by decide), fun q => absurd (a3.mp (a2.resolve_left d1)) q.1⟩
end
