/-! THE CLASS: WAYS: all that they read -/
def xWf (G G' : xG_) : Prop := ∀ a j, a ≠ 84 → ¬ (87 ≤ a ∧ a ≤ 92) → ¬ (a = 83 ∧ (j = 6 ∨ j = 7)) → G' a j = G a j
def cWE (S : Nat → Nat × Nat × Nat) (G : xG_) (u : Nat) (K : pCd) (Ls : List pLt) (pl : List Nat) (fa fn np nv a : Nat) (br : Int) (qn xp cp : Nat → Nat) (R : Nat → List pRw) (lo hi : Nat → Int) : Prop :=
  (cSs S ∧ cPs G ∧ G 83 3 = (u : Int) ∧ G 83 4 = (fa : Int) ∧ G 83 5 = br ∧ S fa = (2, 10, fn) ∧ 92 < fa ∧ np ≤ fn) ∧ cRq S G u K Ls ∧
  (nv ≤ 8 ∧ (∀ y ∈ Ls, wLt np nv y ∧ (y.1 ≠ 3 → 0 ≤ y.2.1 ∧ y.2.2.2.1.length = qn y.2.1.toNat)) ∧ dLs Ls) ∧
  (pl.length = Ls.length ∧ ∀ k, k < Ls.length → G (u + 9) k = ((pl.getD k 0 : Nat) : Int) ∧ pl.getD k 0 < Ls.length ∧ G (u + 10) k = ((plA Ls a (pl.drop (k + 1)) : Nat) : Int) ∧ plA Ls a (pl.drop (k + 1)) < 2 ^ 8) ∧
  (∀ p, p < np → G fa p = ((xp p : Nat) : Int) ∧ 92 < xp p ∧ cRw S G (xp p) (qn p) (cp p) (R p) ∧ (R p).Pairwise rwLt ∧ (R p).length ≤ 100 ∧ ∀ r ∈ R p, ∀ x ∈ r.1, vOk x) ∧
  ∀ l, l < 8 → G 85 l = lo l ∧ G 86 l = hi l
section
variable {u fa fn np nv a st b : Nat} {S : Nat → Nat × Nat × Nat} {G G' : xG_} {m : Nat × Nat} {K : pCd} {Ls : List pLt} {pl : List Nat} {br : Int} {qn xp cp : Nat → Nat} {R : Nat → List pRw} {lo hi : Nat → Int} {vl : Nat → Int}
theorem xWf.id : xWf G G := fun _ _ _ _ _ => rfl
theorem xWf.tr {G1 : xG_} (h1 : xWf G G1) (h2 : xWf G1 G') : xWf G G' := fun a j y1 y2 y3 => by rw [h2 a j y1 y2 y3, h1 a j y1 y2 y3]
theorem cRq.fx (h : cRq S G u K Ls) (hf : ∀ a j, 278 < a → G' a j = G a j) : cRq S G' u K Ls := by
  obtain ⟨a1, a2, ⟨b1, b2, b3, b4, b5⟩, a4, a5, a6⟩ := h
  refine ⟨a1, ?_, ⟨by rw [hf _ _ (by omega)]; exact b1, by rw [hf _ _ (by omega)]; exact b2, b3, b4, fun k hk => by rw [hf _ _ (by omega), hf _ _ (by omega)]; exact b5 k hk⟩, a4.rule (hf _ _ a5) (fun a k _ _ => hf _ _ (by omega)), a5, a6⟩
  unfold cRuP at a2 ⊢
  simp only [hf u _ a5]
  exact a2
theorem cWE.ge (h : cWE S G u K Ls pl fa fn np nv a br qn xp cp R lo hi) (hf : xWf G G') : cWE S G' u K Ls pl fa fn np nv a br qn xp cp R lo hi := by
  obtain ⟨⟨a1, a2, a3, a4, a5, a6, a7, a8⟩, b1, c1, ⟨d1, d2⟩, e1, f1⟩ := h
  have hu := b1.2.2.2.2.1
  have z : ∀ a j, 92 < a → G' a j = G a j := fun a j y => hf a j (by omega) (by omega) (by omega)
  refine ⟨⟨a1, a2.ge (fun a j hz => hf a j ?_ ?_ ?_), by rw [hf _ _ (by omega) (by omega) (by omega)]; exact a3, by rw [hf _ _ (by omega) (by omega) (by omega)]; exact a4, by rw [hf _ _ (by omega) (by omega) (by omega)]; exact a5, a6, a7, a8⟩, b1.fx (fun a j y => z a j (by omega)), c1, ⟨d1, fun k hk => ?_⟩, fun p hp => ?_, fun l hl => ?_⟩
  · rcases hz with z | z | z | z | z | z | z | ⟨z, z1, z2, k, z3⟩ | z | z | z | ⟨k, z1, z2, z3⟩ <;> omega
  · rcases hz with z | z | z | z | z | z | z | ⟨z, z1, z2, k, z3⟩ | z | z | z | ⟨k, z1, z2, z3⟩ <;> omega
  · rcases hz with z | z | z | z | z | z | z | ⟨z, z1, z2, k, z3⟩ | z | z | z | ⟨k, z1, z2, z3⟩ <;> omega
  · rw [z _ _ (by omega), z _ _ (by omega)]; exact d2 k hk
  · obtain ⟨q1, q2, q3, q4⟩ := e1 p hp
    exact ⟨by rw [z _ _ a7]; exact q1, q2, q3.ge (fun _ _ _ => rfl) (fun j => z _ _ (by omega)) (fun j => z _ _ (by omega)) (fun j => z _ _ (by omega)), q4⟩
  · rw [hf _ _ (by omega) (by omega) (by omega), hf _ _ (by omega) (by omega) (by omega)]; exact f1 l hl
theorem cWE.wy (h : cWE S G u K Ls pl fa fn np nv a br qn xp cp R lo hi) : cWy S G u K := ⟨h.1.1, h.1.2.1, h.1.2.2.1, h.2.1.2.2.2.2.1, h.2.1.1, h.2.1.2.1, h.2.1.2.2.1, h.2.1.2.2.2.2.2⟩
/-- a LITERAL with TERMS -/
theorem cWE.lv (h : cWE S G u K Ls pl fa fn np nv a br qn xp cp R lo hi) {l : Nat} (hl : l < Ls.length) (hy : (Ls.getD l dLt).1 ≠ 3) (h6 : G 83 6 = (st : Int)) (hst : st < 8) (hb : G 87 st = (b : Int)) (hb8 : b < 2 ^ 8) : ∃ p : Nat, p < np ∧ (Ls.getD l dLt).2.1 = (p : Int) ∧ cLv S G u (xp p) l st b nv (qn p) (cp p) K (Ls.getD l dLt).2.2.2.1 (R p) (lo l) (hi l) ∧ cFs S G u l fa fn p (xp p) ∧ (R p).Pairwise rwLt ∧ (R p).length ≤ 100 ∧ ∀ r ∈ R p, ∀ x ∈ r.1, vOk x := by
  have hW := h.wy
  obtain ⟨⟨a1, a2, a3, a4, a5, a6, a7, a8⟩, b1, ⟨c1, c2, c3⟩, ⟨d1, d2⟩, e1, f1⟩ := h
  have hm : Ls.getD l dLt ∈ Ls := by rw [getD_e hl]; exact List.getElem_mem hl
  obtain ⟨w1, w2⟩ := c2 _ hm
  obtain ⟨w3, w4⟩ := w2 hy
  have hls := b1.2.2.2.1
  have hl8 := hls.2.1
  obtain ⟨p, hp⟩ : ∃ p : Nat, (Ls.getD l dLt).2.1 = (p : Int) := ⟨(Ls.getD l dLt).2.1.toNat, by omega⟩
  have hpn : p < np := by
    rcases w1 with ⟨_, _, z, _⟩ | ⟨z, _⟩
    · omega
    · exact absurd z hy
  have hwT : ∀ y ∈ (Ls.getD l dLt).2.2.2.1, wT1 nv y := by
    rcases w1 with ⟨_, _, _, _, _, z⟩ | ⟨z, _⟩
    · exact z
    · exact absurd z hy
  rw [hp, Int.toNat_natCast] at w4
  obtain ⟨q1, q2, q3, q4, q5, q6⟩ := e1 p hpn
  have hlt : cLt G u K l (Ls.getD l dLt) := hls.2.2 l hl
  have ht : G (u + 3) l = (Ls.getD l dLt).2.1 ∧ cTl1 G u l (Ls.getD l dLt).2.2.2.1 := by
    rcases hlt with ⟨_, _, z3, z4, z5, z6⟩ | ⟨z, _⟩
    · exact ⟨z3, by omega, z4, z5, z6⟩
    · exact absurd z hy
  exact ⟨p, hpn, hp, ⟨hW, ht.2, q3, q2, w4, hwT, c1, h6, hst, hb, hb8, (f1 l (by omega)).1, (f1 l (by omega)).2⟩, ⟨a4, a6, by omega, q1, by rw [ht.1]; exact hp, a7⟩, q4, q5, q6⟩
/-- a compare -/
theorem cWE.cm (h : cWE S G u K Ls pl fa fn np nv a br qn xp cp R lo hi) {l : Nat} (hl : l < Ls.length) (hy : (Ls.getD l dLt).1 = 3) (h6 : G 83 6 = (st : Int)) (hst : st < 8) (hb : G 87 st = (b : Int)) (hb1 : G 87 (st + 1) = (b : Int)) (hb8 : b < 2 ^ 8) (hq : qBh (Ls.getD l dLt) b ≠ none) : cCp S G u l st b nv K (Ls.getD l dLt) := by
  have hW := h.wy
  obtain ⟨_, b1, ⟨c1, c2, c3⟩, _, _, _⟩ := h
  have hm : Ls.getD l dLt ∈ Ls := by rw [getD_e hl]; exact List.getElem_mem hl
  have hls := b1.2.2.2.1
  have hl8 := hls.2.1
  have hlt : cLt G u K l (Ls.getD l dLt) := hls.2.2 l hl
  rcases hlt with ⟨z, _⟩ | ⟨z1, z2, z3, z4, z5⟩
  · omega
  · rcases (c2 _ hm).1 with ⟨z, _⟩ | ⟨_, _, w1, w2⟩
    · omega
    · exact ⟨hW, by omega, c1, z2, z3, z4, z5, ⟨w1, (c3 _ hm).1⟩, ⟨w2, (c3 _ hm).2⟩, h6, hst, hb, hb1, hb8, z1, hq⟩
/-- the plan binds ahead what it asks for -/
def okP (Ls : List pLt) : List Nat → Nat → Prop
  | [], _ => True
  | p :: pr, b => qBh (Ls.getD p dLt) b ≠ none ∧ okP Ls pr (b ||| qLv (Ls.getD p dLt))
theorem qBh_mo {x : pLt} {b c : Nat} (h : qBh x b ≠ none) (hs : qSub b c) : qBh x c ≠ none := by
  have tr : ∀ {a : Nat}, qSub a b → qSub a c := fun ha => qSub_t.mpr (fun j hj => qSub_t.mp hs j (qSub_t.mp ha j hj))
  unfold qBh at h ⊢
  by_cases c1 : x.1 = 1 ∨ qSub (qLv x) c
  · rw [if_pos c1]; exact fun q => by cases q
  · rw [if_neg c1]
    have c1' : ¬ (x.1 = 1 ∨ qSub (qLv x) b) := fun q => c1 (q.imp id tr)
    rw [if_neg c1'] at h
    by_cases c2 : x.1 = 3 ∧ x.2.1 = 61 ∧ (qAl2 x.2.2.2.2.1 ∧ qSub (qVm x.2.2.2.2.2) b ∨ qAl2 x.2.2.2.2.2 ∧ qSub (qVm x.2.2.2.2.1) b)
    · rw [if_pos ⟨c2.1, c2.2.1, c2.2.2.imp (fun q => ⟨q.1, tr q.2⟩) (fun q => ⟨q.1, tr q.2⟩)⟩]
      exact fun q => by cases q
    · rw [if_neg c2] at h
      exact absurd rfl h
theorem qBh_v {x : pLt} {b : Nat} (h : qBh x b ≠ none) : qBh x b = some (b ||| qLv x) := by
  unfold qBh at h ⊢
  split
  · rfl
  · rename_i c1
    rw [if_neg c1] at h
    split
    · rfl
    · rename_i c2
      rw [if_neg c2] at h
      exact absurd rfl h
theorem okP_of : ∀ (pr : List Nat) (b c d : Nat), plB Ls pr b = some d → qSub b c → okP Ls pr c
  | [], _, _, _, _, _ => trivial
  | p :: pr, b, c, d, h, hs => by
    have h' : (qBh (Ls.getD p dLt) b).bind (plB Ls pr) = some d := h
    have hn : qBh (Ls.getD p dLt) b ≠ none := fun q => by rw [q] at h'; cases h'
    rw [qBh_v hn] at h'
    refine ⟨qBh_mo hn hs, okP_of pr _ _ d h' (qSub_t.mpr (fun j hj => ?_))⟩
    rw [Nat.testBit_or, Bool.or_eq_true] at hj ⊢
    exact hj.imp (fun q => qSub_t.mp hs j q) id
end
