/-! THE CLASS: all WAYS of a rule, as they are opened without bounds -/
/-- what a rule and its rows are, before WAYS are opened -/
def cWX (S : Nat → Nat × Nat × Nat) (G : xG_) (u : Nat) (K : pCd) (Ls : List pLt) (pl : List Nat) (np nv a : Nat) (qn xp cp : Nat → Nat) (R : Nat → List pRw) : Prop :=
  (cSs S ∧ cPs G ∧ np ≤ 16) ∧ cRq S G u K Ls ∧
  (nv ≤ 8 ∧ (∀ y ∈ Ls, wLt np nv y ∧ (y.1 ≠ 3 → 0 ≤ y.2.1 ∧ y.2.2.2.1.length = qn y.2.1.toNat)) ∧ dLs Ls) ∧
  (pl.length = Ls.length ∧ ∀ k, k < Ls.length → G (u + 9) k = ((pl.getD k 0 : Nat) : Int) ∧ pl.getD k 0 < Ls.length ∧ G (u + 10) k = ((plA Ls a (pl.drop (k + 1)) : Nat) : Int) ∧ plA Ls a (pl.drop (k + 1)) < 2 ^ 8) ∧
  (∀ p, p < np → G 94 p = ((xp p : Nat) : Int) ∧ 105 < xp p ∧ cRw S G (xp p) (qn p) (cp p) (R p) ∧ (R p).Pairwise rwLt ∧ (R p).length ≤ 100 ∧ ∀ r ∈ R p, ∀ x ∈ r.1, vOk x)
section
variable {u np nv a : Nat} {S : Nat → Nat × Nat × Nat} {G G' : xG_} {K : pCd} {Ls : List pLt} {pl : List Nat} {br : Int} {qn xp cp : Nat → Nat} {R : Nat → List pRw} {lo hi : Nat → Int} {Bf k : Nat} {V : List (Nat → Int)}
theorem cWX.we (h : cWX S G u K Ls pl np nv a qn xp cp R) (hf : ∀ a j, ¬ (a = 83 ∧ 3 ≤ j ∧ j ≤ 7) → a ≠ 85 → a ≠ 86 → ¬ (a = 87 ∧ j = 0) → G' a j = G a j) (hp : cPs G') (f3 : G' 83 3 = (u : Int)) (f4 : G' 83 4 = 94) (f5 : G' 83 5 = br) (fl : ∀ l, l < 8 → G' 85 l = lo l ∧ G' 86 l = hi l) : cWE S G' u K Ls pl 94 16 np nv a br qn xp cp R lo hi := by
  obtain ⟨⟨a1, a2, a3⟩, b1, c1, ⟨d1, d2⟩, e1⟩ := h
  have hu := b1.2.2.2.2.1
  refine ⟨⟨a1, hp, f3, f4, f5, s94 a1, by omega, a3⟩, b1.fx (fun b j y => hf b j (by omega) (by omega) (by omega) (by omega)), c1, ⟨d1, fun k hk => ?_⟩, fun q hq => ?_, fl⟩
  · rw [hf _ _ (by omega) (by omega) (by omega) (by omega), hf _ _ (by omega) (by omega) (by omega) (by omega)]; exact d2 k hk
  · obtain ⟨q1, q2, q3, q4⟩ := e1 q hq
    exact ⟨by rw [hf _ _ (by omega) (by omega) (by omega) (by omega)]; exact q1, by omega, q3.ge (fun _ _ _ => rfl) (fun j => hf _ _ (by omega) (by omega) (by omega) (by omega)) (fun j => hf _ _ (by omega) (by omega) (by omega) (by omega)) (fun j => hf _ _ (by omega) (by omega) (by omega) (by omega)), q4⟩
theorem cWX.ge (h : cWX S G u K Ls pl np nv a qn xp cp R) (hp : cPs G') (hx : ∀ p, p < np → ∀ b, xp p ≤ b → b ≤ xp p + 2 → ∀ j, G' b j = G b j) (hfa : ∀ j, G' 94 j = G 94 j) (hu : ∀ a j, 278 < a → G' a j = G a j) : cWX S G' u K Ls pl np nv a qn xp cp R := by
  obtain ⟨⟨a1, a2, a3⟩, b1, c1, ⟨d1, d2⟩, e1⟩ := h
  have hu' := b1.2.2.2.2.1
  refine ⟨⟨a1, hp, a3⟩, b1.fx hu, c1, ⟨d1, fun k hk => ?_⟩, fun q hq => ?_⟩
  · rw [hu _ _ (by omega), hu _ _ (by omega)]; exact d2 k hk
  · obtain ⟨q1, q2, q3, q4⟩ := e1 q hq
    exact ⟨by rw [hfa]; exact q1, q2, q3.ge (fun _ _ _ => rfl) (fun j => hx q hq _ (by omega) (by omega) j) (fun j => hx q hq _ (by omega) (by omega) j) (fun j => hx q hq _ (by omega) (by omega) j), q4⟩
theorem qLv_lt {y : pLt} (hw : wLt np nv y) {j : Nat} (h : (qLv y).testBit j = true) : j < nv := by
  unfold qLv at h
  rcases hw with ⟨w1, _, _, _, _, w2⟩ | ⟨w1, _, w2, w3⟩
  · rw [if_neg (by omega)] at h
    obtain ⟨i, i1, i2, i3⟩ := qT_get.mp h
    have hm : y.2.2.2.1.getD i (0, 0) ∈ y.2.2.2.1 := by rw [getD_e i1]; exact List.getElem_mem i1
    rcases w2 _ hm with ⟨z1, z2, z3⟩ | z1 | ⟨z1, _⟩
    · omega
    · omega
    · omega
  · rw [if_pos w1, Nat.testBit_or, Bool.or_eq_true] at h
    rcases h with h | h
    · exact qVm_in w2.1 j h
    · exact qVm_in w3.1 j h
theorem ways_bits {fa fn : Nat} (h : cWE S G u K Ls pl fa fn np nv a br qn xp cp R lo hi) (h6 : G 83 6 = 0) (h7 : G 83 7 = 1) (h87 : G 87 0 = 0) (hw : wSt8 Ls pl a br R lo hi G Bf V k) : ∀ j, Bf.testBit j = true → j < nv := by
  intro j hj
  rcases hw with ⟨st, b, vl, V1, k1, V2, k2, a1, a2, a3, a4, a5, a6, _⟩ | ⟨n, B, a1, a2, a3, _⟩
  · have e : st = 0 := by omega
    subst e
    have hb : b = 0 := by have := a4.1; omega
    subst hb
    rw [List.drop_zero] at a6
    rw [← a6] at hj
    rcases (mkP_in pl 0).mp hj with q | ⟨p, p1, p2⟩
    · rw [Nat.zero_testBit] at q; cases q
    · obtain ⟨i, i1, i2⟩ := List.getElem_of_mem p1
      have hl := h.2.2.2.1.1
      have := (h.2.2.2.1.2 i (by omega)).2.1
      rw [getD_e i1, i2] at this
      exact qLv_lt (h.2.2.1.2.1 _ (lt_in this)).1 p2
  · omega
theorem vec_id {v : List Int} (h : v.length = nv) : vec nv (vF v) = v := by
  refine List.ext_getElem (by rw [vec_len, h]) (fun i h1 h2 => ?_)
  have e := vec_get (nv := nv) (v := vF v) (k := i) (by omega)
  rw [getD_e h1] at e
  rw [e]
  show v.getD i 0 = _
  rw [getD_e h2]
theorem W_lit {v : List Int} (h : isW Ls nv R qO1 v) (hr : ∀ l, l < Ls.length → (Ls.getD l dLt).1 = 1 → ∀ r ∈ R (Ls.getD l dLt).2.1.toNat, lo l ≤ r.2 ∧ r.2 ≤ hi l) : ∀ l, l < Ls.length → litO Ls R lo hi l (vF v) := by
  obtain ⟨v1, v2, v3⟩ := h
  intro l hl
  refine ⟨fun q1 => ?_, fun q2 ⟨r, r1, _, r3⟩ => (v3 _ (lt_in hl)).1 q2 ⟨r, r1, r3⟩, (v3 _ (lt_in hl)).2⟩
  obtain ⟨r, r1, _, r3⟩ := v2 _ (lt_in hl) q1
  exact ⟨r, r1, hr l hl q1 r r1, r3⟩
/-- all WAYS, each once -/
theorem all_of (hw : ∀ y ∈ Ls, wLt np nv y) (hB1 : ∀ j, j < nv → Bf.testBit j = true) (hB2 : ∀ j, Bf.testBit j = true → j < nv) (hr : ∀ l, l < Ls.length → (Ls.getD l dLt).1 ≠ 3 → ∀ r ∈ R (Ls.getD l dLt).2.1.toNat, lo l ≤ r.2 ∧ r.2 ≤ hi l) (h1 : ∀ v ∈ V, ∀ l, l < Ls.length → litO Ls R lo hi l v) (h2 : V.Pairwise (dfO Bf)) (h3 : ∀ w, (∀ l, l < Ls.length → litO Ls R lo hi l w) → ∃ v ∈ V, ∀ j, Bf.testBit j = true → v j = w j) : isAll Ls nv R qO1 (V.map (vec nv)) := by
  refine ⟨?_, fun v => ⟨fun q => ?_, fun q => ?_⟩⟩
  · rw [List.nodup_iff_pairwise_ne, List.pairwise_map]
    refine h2.imp (fun {v w} hd e => ?_)
    obtain ⟨j, j1, j2⟩ := hd
    have hj := hB2 j j1
    apply j2
    rw [← vec_get (nv := nv) (v := v) hj, e, vec_get hj]
  · obtain ⟨w, w1, rfl⟩ := List.mem_map.mp q
    exact lit_W hw (h1 w w1) (fun l hl q2 => hr l hl (by omega))
  · obtain ⟨w, w1, w2⟩ := h3 (vF v) (W_lit q (fun l hl q1 => hr l hl (by omega)))
    refine List.mem_map.mpr ⟨w, w1, ?_⟩
    rw [vec_ext (fun k hk => w2 k (hB1 k hk)), vec_id q.1]
end
