/-! Mentions stand in the order of their places -/
def wSo (M : List pMn) (b : Nat) : Prop := M.Pairwise (fun x y => x.2.1 < y.2.1) ∧ ∀ m ∈ M, m.2.1 < b
theorem wSo.add {M : List pMn} {b c : Nat} {m : pMn} (h : wSo M b) (h1 : b ≤ m.2.1) (h2 : m.2.1 < c) : wSo (M ++ [m]) c := by
  refine ⟨List.pairwise_append.mpr ⟨h.1, by simp, fun x hx y hy => ?_⟩, fun x hx => ?_⟩
  · rw [List.mem_singleton.mp hy]
    have := h.2 x hx
    omega
  · rcases List.mem_append.mp hx with q | q
    · have := h.2 x q
      omega
    · rw [List.mem_singleton.mp q]; exact h2
theorem wSo.mo {M : List pMn} {b c : Nat} (h : wSo M b) (hb : b ≤ c) : wSo M c := ⟨h.1, fun m hm => by have := h.2 m hm; omega⟩
section
variable {B : Nat → Int} {n F : Nat} {lm tell : Bool}
theorem pAtom_so (hB : tTx B n) {k : Int} {s s' : pRs} (h : pAtom (tstr B n lm) tell k s = .inr s') (hs : wSo s.2.2.2.1 (kS (tstr B n lm) s.2.2.2.2)) : wSo s'.2.2.2.1 (kS (tstr B n lm) s'.2.2.2.2) := by
  have a := pAtom_pos h
  have q := kS_to (lm := lm) hB (show s.2.2.2.2 < s'.2.2.2.2 by omega) (by rw [a.2.1]; decide)
  unfold pAtom at h
  obtain ⟨p, h1, h2⟩ := pbind_inr h
  obtain ⟨j, h3, h4⟩ := pbind_inr h2
  obtain ⟨y, h5, h6⟩ := pbind_inr h4
  obtain ⟨z, h7, h8⟩ := pbind_inr h6
  obtain ⟨u, h9, h10⟩ := pbind_inr h8
  cases h10
  simp only at q a ⊢
  exact hs.add (Nat.le_refl _) (by show kS (tstr B n lm) s.2.2.2.2 < _; omega)
theorem pCmp_so (hB : tTx B n) {s s' : pRs} (h : pCmp (tstr B n lm) F s = .inr s') (hs : wSo s.2.2.2.1 (kS (tstr B n lm) s.2.2.2.2)) : wSo s'.2.2.2.1 (kS (tstr B n lm) s'.2.2.2.2) := by
  have h2 := pCmp_le h
  have h3 := kS_mo (lm := lm) hB (Nat.le_of_lt h2.2.2.2.2)
  unfold pCmp at h
  obtain ⟨a, g1, g2⟩ := pbind_inr h
  split at g2
  · obtain ⟨b, g3, g4⟩ := pbind_inr g2
    cases g4
    exact hs.mo h3
  · cases g2
theorem pLit_so (hB : tTx B n) {s s' : pRs} (h : pLit (tstr B n lm) tell F s = .inr s') (hs : wSo s.2.2.2.1 (kS (tstr B n lm) s.2.2.2.2)) : wSo s'.2.2.2.1 (kS (tstr B n lm) s'.2.2.2.2) := by
  unfold pLit at h
  split at h
  · cases h
  split at h
  · exact pAtom_so hB h (hs.mo (kS_mo hB (Nat.le_succ _)))
  split at h
  · split at h
    · cases h
    split at h
    · split at h
      · cases h
      · exact pAtom_so hB h hs
    split at h
    · cases h
    · exact pCmp_so hB h hs
  · exact pCmp_so hB h hs
theorem pLits_so (hB : tTx B n) : ∀ {k : Nat} {s s' : pRs}, pLits (tstr B n lm) tell F k s = .inr s' → wSo s.2.2.2.1 (kS (tstr B n lm) s.2.2.2.2) → wSo s'.2.2.2.1 (kS (tstr B n lm) s'.2.2.2.2) := by
  intro k
  induction k with
  | zero => intro s s' h hs; cases h; exact hs
  | succ k ih =>
    intro s s' h hs
    unfold pLits at h
    split at h
    · obtain ⟨u, g1, g2⟩ := pbind_inr h
      exact ih g2 (pLit_so hB g1 (hs.mo (kS_mo hB (Nat.le_succ _))))
    · cases h; exact hs
theorem pRule_so (hB : tTx B n) {s s' : pPg} (h : pRule (tstr B n lm) F s = .inr s') (hs : wSo s.2.2.2.1 (kS (tstr B n lm) s.2.2.2.2.2)) : wSo s'.2.2.2.1 (kS (tstr B n lm) s'.2.2.2.2.2) := by
  have e : s = (s.1, s.2.1, s.2.2.1, s.2.2.2.1, s.2.2.2.2.1, s.2.2.2.2.2) := rfl
  rw [e, pRule_e] at h
  split at h
  · cases h
  · obtain ⟨p, h1, h⟩ := pbind_inr h
    obtain ⟨z, h2, h⟩ := pbind_inr h
    obtain ⟨j, h3, h2⟩ := pbind_inr h2
    obtain ⟨a, h4, h2⟩ := pbind_inr h2
    unfold pRest pBody at h2
    obtain ⟨b, h5, h2⟩ := pbind_inr h2
    obtain ⟨j3, h6, h2⟩ := pbind_inr h2
    obtain ⟨z2, h7, h2⟩ := pbind_inr h2
    obtain ⟨l, h8, h7⟩ := pbind_inr h7
    obtain ⟨j4, h9, h7⟩ := pbind_inr h7
    have a1 := pPred_le h1
    have a3 := pNeed_le h3
    have a4 := pItem_le h4
    have a6 := pNeed_le h6
    have a9 := pNeed_le h9
    have a5 : ∀ (k : Nat) (x y : pIt), pItems (tstr B n lm) F k x = .inr y → x.2.2.2 ≤ y.2.2.2 := by
      intro k
      induction k with
      | zero => intro x y hh; cases hh; exact Nat.le_refl _
      | succ k ih =>
        intro x y hh
        unfold pItems at hh
        split at hh
        · obtain ⟨u, g1, g2⟩ := pbind_inr hh
          have := pItem_le g1
          have := ih _ _ g2
          simp only at *
          omega
        · cases hh; exact Nat.le_refl _
    have a5' := a5 _ _ _ h5
    simp only [List.length_nil] at a4
    have q3 := kS_to (lm := lm) hB (show s.2.2.2.2.2 < j3 by omega) (by rw [a6.1, Nat.add_sub_cancel, a6.2]; decide)
    have s0 : wSo (s.2.2.2.1 ++ [(p.1, kS (tstr B n lm) s.2.2.2.2.2, (b.2.2.1.length : Int), (3 : Int))]) (kS (tstr B n lm) j3) := hs.add (Nat.le_refl _) (by show kS (tstr B n lm) s.2.2.2.2.2 < _; omega)
    have key : wSo l.2.2.2.1 (kS (tstr B n lm) l.2.2.2.2) := by
      split at h8
      · obtain ⟨u, g1, g2⟩ := pbind_inr h8
        exact pLits_so hB g2 (pLit_so hB g1 (s0.mo (kS_mo hB (Nat.le_succ _))))
      · cases h8
        exact s0
    cases h7
    cases h2
    cases h
    simp only
    exact key.mo (by rw [a9.1]; exact kS_mo hB (Nat.le_succ _))
theorem pProg_so (hB : tTx B n) : ∀ {k : Nat} {s s' : pPg}, pProg (tstr B n lm) F k s = .inr s' → wSo s.2.2.2.1 (kS (tstr B n lm) s.2.2.2.2.2) → wSo s'.2.2.2.1 (kS (tstr B n lm) s'.2.2.2.2.2) := by
  intro k
  induction k with
  | zero => intro s s' h; cases h
  | succ k ih =>
    intro s s' h hs
    unfold pProg at h
    split at h
    · cases h; exact hs
    · obtain ⟨u, g1, g2⟩ := pbind_inr h
      refine ih g2 ?_
      split at g1
      · have lt := (pPg_i (F := F)).1 g1
        unfold pInput at g1
        obtain ⟨p, h1, g1⟩ := pbind_inr g1
        obtain ⟨j, h2, g1⟩ := pbind_inr g1
        obtain ⟨m, h3, g1⟩ := pbind_inr g1
        obtain ⟨q, h4, g1⟩ := pbind_inr g1
        obtain ⟨j2, h5, g1⟩ := pbind_inr g1
        have a1 := pPred_le h1
        have a2 := pNeed_le h2
        have a5 := pNeed_le h5
        have a3 : j < m.2 := by
          unfold pNum at h3
          split at h3
          · cases h3; simp only; omega
          · cases h3
        have a4 : m.2 ≤ q.2 := by
          split at h4
          · unfold pNum at h4
            split at h4
            · cases h4; simp only; omega
            · cases h4
          · cases h4; simp only; omega
        have q2 := kS_to (lm := lm) hB (show s.2.2.2.2.2 + 1 < j2 by omega) (by rw [a5.1, Nat.add_sub_cancel, a5.2]; decide)
        cases g1
        exact hs.add (kS_mo hB (Nat.le_succ _)) (by show kS (tstr B n lm) (s.2.2.2.2.2 + 1) < kS (tstr B n lm) j2; omega)
      · split at g1
        · unfold pOutput at g1
          obtain ⟨p, h1, g1⟩ := pbind_inr g1
          obtain ⟨j, h2, g1⟩ := pbind_inr g1
          have a1 := pPred_le h1
          have a2 := pNeed_le h2
          have q2 := kS_to (lm := lm) hB (show s.2.2.2.2.2 + 1 < j by omega) (by rw [a2.1, Nat.add_sub_cancel, a2.2]; decide)
          cases g1
          exact hs.add (kS_mo hB (Nat.le_succ _)) (by show kS (tstr B n lm) (s.2.2.2.2.2 + 1) < kS (tstr B n lm) j; omega)
        · exact pRule_so hB g1 hs
theorem pProg_sorted (hB : tTx B n) {k : Nat} {s : pPg} (h : pProg (tstr B n lm) F k ([], [], [], [], [], 0) = .inr s) : s.2.2.2.1.Pairwise (fun x y => x.2.1 < y.2.1) := (pProg_so hB h ⟨by simp, by simp⟩).1
end
