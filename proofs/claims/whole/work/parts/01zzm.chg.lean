/-! CHANGES as the reference reads them: the VALUES of one -/
def xfc (x : Nat) (G G' : xG_) : Prop := ∀ a j, ¬ (a = 0 ∧ j = 21) → ¬ (a = 272 ∧ j = x) → ¬ (a = 274 ∧ 4 * x ≤ j ∧ j < 4 * x + 4) → G' a j = G a j
theorem xfc.rf (x : Nat) (G : xG_) : xfc x G G := fun _ _ _ _ _ => rfl
theorem xfc.tr {x : Nat} {G G1 G2 : xG_} (h : xfc x G G1) (h1 : xfc x G1 G2) : xfc x G G2 := fun a j x1 x2 x3 => by rw [h1 a j x1 x2 x3, h a j x1 x2 x3]
theorem rEv.fc {G G' : xG_} {q n o x : Nat} {B : Nat → Int} {lm : Bool} (h : rEv G q B n lm o) (hf : xfc x G G') : rEv G' q B n lm o := by
  obtain ⟨⟨⟨a1, a2, a3⟩, a4, a5, a6, a7⟩, b1, b2, b3, b4⟩ := h
  have e0 : G' 0 0 = G 0 0 := hf _ _ (by omega) (by omega) (by omega)
  have e1 : G' 0 1 = G 0 1 := hf _ _ (by omega) (by omega) (by omega)
  have eb : ∀ j, G' (G 0 0).toNat j = G (G 0 0).toNat j := fun j => hf _ _ (by omega) (by omega) (by omega)
  refine ⟨⟨⟨by rw [e0]; exact a1, by rw [e1]; exact a2, by rw [e0, e1]; exact a3⟩, a4, by rw [e1]; exact a5, fun p => ?_, fun p hp => ?_⟩, by rw [hf _ _ (by omega) (by omega) (by omega)]; exact b1, ?_, by rw [hf _ _ (by omega) (by omega) (by omega)]; exact b3, b4⟩
  · have := a6 p
    unfold gB at this ⊢
    rw [e0, e1, eb]
    exact this
  · rw [e0, eb]
    exact a7 p hp
  · obtain ⟨k1, k2, k3, k4, k5, k6, k7, k8, k9⟩ := b2
    unfold rC
    simp (disch := omega) only [hf _ _]
    exact ⟨k1, k2, k3, k4, k5, k6, k7, k8, k9⟩
section
variable {f o q n i x : Nat} {B : Nat → Int} {lm : Bool} {G : xG_} {L : Nat → Int}
/-- the end of a CHANGE: ) and . -/
theorem l_c106 (hf : n + 20 < f) (hE : rEv G q B n lm o) (hA : rAt q B n lm i L) (hx : x < 600) (m : Int) :
    pok (pbind (pNeed (tstr B n lm) 41 i) fun j => pNeed (tstr B n lm) 46 j) (fun w => ∃ L', g366_106 f (x : Int) m (xlx G L) = some (xlx (xup2 G 272 x m) L') ∧ L' 7 = (q : Int) + w)
      (fun j => ∃ L', g366_106 f (x : Int) m (xlx G L) = some (xlx (xup2 G 272 x m) L') ∧ rAt q B n lm j L') := by
  have hE1 : rEv (xup2 G 272 x m) q B n lm o := hE.fc (x := x) (fun a j _ h _ => xup2_n (by omega))
  have e0 : xup2 (xlx G L) 272 x m = xlx (xup2 G 272 x m) L := by
    funext a j
    unfold xlx xup2
    grind
  have h41 : isSg 41 := by unfold isSg; omega
  have h46 : isSg 46 := by unfold isSg; omega
  unfold g366_106
  rw [if_pos (by omega), Option.bind_some, Int.toNat_natCast, e0]
  unfold pNeed
  by_cases c1 : kK (tstr B n lm) i = 41
  · obtain ⟨L1, d1, d2⟩ := l_need hf hE1 hA h41 c1
    have d1' : g222 f 41 (xlx (xup2 G 272 x m) L) = some (xlx (xup2 G 272 x m) L1) := d1
    rw [if_pos c1, d1', Option.bind_some]
    show pok (if kK (tstr B n lm) (i + 1) = 46 then .inr (i + 1 + 1) else .inl (kS (tstr B n lm) (i + 1))) _ _
    by_cases c2 : kK (tstr B n lm) (i + 1) = 46
    · obtain ⟨L2, f1, f2⟩ := l_need hf hE1 d2 h46 c2
      have f1' : g222 f 46 (xlx (xup2 G 272 x m) L1) = some (xlx (xup2 G 272 x m) L2) := f1
      rw [if_pos c2, f1']
      exact ⟨L2, rfl, f2⟩
    · have f1 := l_need_no (f := f) hE1 d2 h46 c2
      have f1' : g222 f 46 (xlx (xup2 G 272 x m) L1) = _ := f1
      rw [if_neg c2, f1']
      exact ⟨_, rfl, rfl⟩
  · have d1 := l_need_no (f := f) hE1 hA h41 c1
    have d1' : g222 f 41 (xlx (xup2 G 272 x m) L) = _ := d1
    rw [if_neg c1, d1', Option.bind_some]
    have hne : xu L 7 ((q : Int) + kS (tstr B n lm) i) 7 ≠ -1 := by
      show (q : Int) + kS (tstr B n lm) i ≠ -1
      omega
    rw [l_need_bad hne, Option.bind_some]
    exact ⟨_, rfl, rfl⟩
end
