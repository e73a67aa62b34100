/-! Mentions: how many a text can have -/
theorem pAtom_pos {t : tStr} {tell : Bool} {k : Int} {s s' : pRs} (h : pAtom t tell k s = .inr s') : s.2.2.2.2 + 4 ≤ s'.2.2.2.2 ∧ kK t (s'.2.2.2.2 - 1) = 41 ∧ s'.2.2.2.1.length = s.2.2.2.1.length + 1 ∧ pAtoms s'.2.2.1 = pAtoms s.2.2.1 + (if k = 1 then 1 else 0) ∧ kK t s.2.2.2.2 = 1 := by
  unfold pAtom at h
  obtain ⟨p, h1, h2⟩ := pbind_inr h
  obtain ⟨j, h3, h4⟩ := pbind_inr h2
  obtain ⟨y, h5, h6⟩ := pbind_inr h4
  obtain ⟨z, h7, h8⟩ := pbind_inr h6
  obtain ⟨u, h9, h10⟩ := pbind_inr h8
  have a1 := pNeed_le h3
  have a2 := pTerm_le h5
  have a3 := pTerms_le h7
  have a4 := pNeed_le h9
  have a0 : p.2.2 = s.2.2.2.2 + 1 ∧ kK t s.2.2.2.2 = 1 := by
    split at h1
    · have := pPred_le h1
      exact ⟨this.1, this.2.2.1⟩
    · obtain ⟨x, g1, g2⟩ := pbind_inr h1
      have := pName_le g1
      cases g2
      exact ⟨this.1, this.2.1⟩
  cases h10
  simp only [len1, pAtoms_1, true_and]
  refine ⟨by omega, ?_, a0.2⟩
  rw [a4.1, Nat.add_sub_cancel]
  exact a4.2
section
variable {B : Nat → Int} {n F X : Nat} {lm tell : Bool}
theorem pLit_men (hB : tTx B n) {s s' : pRs} (h : pLit (tstr B n lm) tell F s = .inr s') (hs : 9 * s.2.2.2.1.length ≤ kS (tstr B n lm) s.2.2.2.2 + X + 4 * pAtoms s.2.2.1) : 9 * s'.2.2.2.1.length ≤ kS (tstr B n lm) s'.2.2.2.2 + X + 1 + 4 * pAtoms s'.2.2.1 := by
  have cmp : pCmp (tstr B n lm) F s = .inr s' → 9 * s'.2.2.2.1.length ≤ kS (tstr B n lm) s'.2.2.2.2 + X + 1 + 4 * pAtoms s'.2.2.1 := by
    intro h
    have h2 := pCmp_le h
    have h3 := kS_mo (lm := lm) hB (Nat.le_of_lt h2.2.2.2.2)
    unfold pCmp at h
    obtain ⟨a, g1, g2⟩ := pbind_inr h
    split at g2
    · obtain ⟨b, g3, g4⟩ := pbind_inr g2
      cases g4
      simp only [pAtoms_1] at h3 ⊢
      rw [if_neg (show ¬ (3 : Int) = 1 by decide)]
      omega
    · cases g2
  unfold pLit at h
  split at h
  · cases h
  split at h
  · rename_i c9
    have a := pAtom_pos h
    simp only at a
    have w := (kS_wd (lm := lm) hB (i := s.2.2.2.2) (by omega) a.2.2.2.2).2.2 c9
    have q := kS_to (lm := lm) hB (show s.2.2.2.2 + 1 < s'.2.2.2.2 by omega) (by rw [a.2.1]; decide)
    rw [a.2.2.1, a.2.2.2.1, if_neg (show ¬ (2 : Int) = 1 by decide)]
    omega
  split at h
  · split at h
    · cases h
    split at h
    · split at h
      · cases h
      · have a := pAtom_pos h
        have q := kS_to (lm := lm) hB (show s.2.2.2.2 < s'.2.2.2.2 by omega) (by rw [a.2.1]; decide)
        rw [a.2.2.1, a.2.2.2.1, if_pos rfl]
        omega
    split at h
    · cases h
    · exact cmp h
  · exact cmp h
theorem pLits_men (hB : tTx B n) : ∀ {k : Nat} {s s' : pRs}, pLits (tstr B n lm) tell F k s = .inr s' → 9 * s.2.2.2.1.length ≤ kS (tstr B n lm) s.2.2.2.2 + X + 1 + 4 * pAtoms s.2.2.1 → 9 * s'.2.2.2.1.length ≤ kS (tstr B n lm) s'.2.2.2.2 + X + 1 + 4 * pAtoms s'.2.2.1 := by
  intro k
  induction k with
  | zero => intro s s' h hs; cases h; exact hs
  | succ k ih =>
    intro s s' h hs
    unfold pLits at h
    split at h
    · rename_i c
      obtain ⟨u, g1, g2⟩ := pbind_inr h
      have q := (kS_1 (lm := lm) hB s.2.2.2.2).2.2.2 (by rw [c]; decide)
      exact ih g2 (pLit_men hB g1 (by simp only; omega))
    · cases h; exact hs
theorem pRule_men (hB : tTx B n) {s s' : pPg} (ht : tOk (tstr B n lm)) (hw : wPg s) (h : pRule (tstr B n lm) F s = .inr s') (hs : 9 * s.2.2.2.1.length ≤ kS (tstr B n lm) s.2.2.2.2.2 + 16 * s.2.2.2.2.1.length) : 9 * s'.2.2.2.1.length ≤ kS (tstr B n lm) s'.2.2.2.2.2 + 16 * s'.2.2.2.2.1.length := by
  have hw' := pRule_wf ht h hw
  have e : s = (s.1, s.2.1, s.2.2.1, s.2.2.2.1, s.2.2.2.2.1, s.2.2.2.2.2) := rfl
  rw [e, pRule_e] at h
  split at h
  · cases h
  · obtain ⟨p, h1, h⟩ := pbind_inr h
    obtain ⟨z, h2, h⟩ := pbind_inr h
    obtain ⟨j, h3, h2⟩ := pbind_inr h2
    obtain ⟨a, h4, h2⟩ := pbind_inr h2
    unfold pRest pBody at h2
    obtain ⟨b, h5, h2⟩ := pbind_inr h2
    obtain ⟨j3, h6, h2⟩ := pbind_inr h2
    obtain ⟨z2, h7, h2⟩ := pbind_inr h2
    obtain ⟨l, h8, h7⟩ := pbind_inr h7
    obtain ⟨j4, h9, h7⟩ := pbind_inr h7
    have a1 := pPred_le h1
    have a3 := pNeed_le h3
    have a4 := pItem_le h4
    have a6 := pNeed_le h6
    have a9 := pNeed_le h9
    have a5 : ∀ (k : Nat) (x y : pIt), pItems (tstr B n lm) F k x = .inr y → x.2.2.2 ≤ y.2.2.2 := by
      intro k
      induction k with
      | zero => intro x y hh; cases hh; exact Nat.le_refl _
      | succ k ih =>
        intro x y hh
        unfold pItems at hh
        split at hh
        · obtain ⟨u, g1, g2⟩ := pbind_inr hh
          have := pItem_le g1
          have := ih _ _ g2
          simp only at *
          omega
        · cases hh; exact Nat.le_refl _
    have a5' := a5 _ _ _ h5
    simp only [List.length_nil] at a4
    have q3 := kS_to (lm := lm) hB (show s.2.2.2.2.2 < j3 by omega) (by rw [a6.1, Nat.add_sub_cancel, a6.2]; decide)
    have q9 := (kS_1 (lm := lm) hB l.2.2.2.2).2.2.2 (by rw [a9.2]; decide)
    have hat : pAtoms l.2.2.1 ≤ 3 := by
      have hu : wRu s'.1.length (p.1, kS (tstr B n lm) s.2.2.2.2.2, z.1.1, z.1.2, z.2.1.2.1, z.2.1.2.2.1) := by
        refine hw'.2.2.2.2.2.2 _ ?_
        cases h
        exact List.mem_append.mpr (.inr (List.mem_singleton.mpr rfl))
      have := hu.2.2.2.2.2.2.2.1
      cases h7
      cases h2
      exact this
    have key : 9 * l.2.2.2.1.length ≤ kS (tstr B n lm) l.2.2.2.2 + (16 * s.2.2.2.2.1.length + 4) + 1 + 4 * pAtoms l.2.2.1 := by
      have e0 : pAtoms [] = 0 := rfl
      have m0 : 9 * (s.2.2.2.1 ++ [(p.1, kS (tstr B n lm) s.2.2.2.2.2, (b.2.2.1.length : Int), (3 : Int))]).length ≤ kS (tstr B n lm) j3 + (16 * s.2.2.2.2.1.length + 4) + 1 + 4 * pAtoms [] := by
        rw [len1, e0]
        omega
      split at h8
      · rename_i c
        obtain ⟨u, g1, g2⟩ := pbind_inr h8
        have q := (kS_1 (lm := lm) hB j3).2.2.2 (by rw [c]; decide)
        refine pLits_men hB g2 (pLit_men hB g1 ?_)
        simp only
        omega
      · cases h8
        exact m0
    cases h7
    cases h2
    cases h
    simp only [len1]
    rw [a9.1]
    omega
theorem pInput_men (hB : tTx B n) {s s' : pPg} (hK : kK (tstr B n lm) s.2.2.2.2.2 = 6) (h : pInput (tstr B n lm) s = .inr s') (hs : 9 * s.2.2.2.1.length ≤ kS (tstr B n lm) s.2.2.2.2.2 + 16 * s.2.2.2.2.1.length) : 9 * s'.2.2.2.1.length ≤ kS (tstr B n lm) s'.2.2.2.2.2 + 16 * s'.2.2.2.2.1.length := by
  unfold pInput at h
  obtain ⟨p, h1, h⟩ := pbind_inr h
  obtain ⟨j, h2, h⟩ := pbind_inr h
  obtain ⟨m, h3, h⟩ := pbind_inr h
  obtain ⟨k, h4, h⟩ := pbind_inr h
  obtain ⟨j2, h5, h⟩ := pbind_inr h
  have a1 := pPred_le h1
  have a2 := pNeed_le h2
  have a5 := pNeed_le h5
  have a3 : j < m.2 := by
    unfold pNum at h3
    split at h3
    · cases h3; simp only; omega
    · cases h3
  have a4 : m.2 ≤ k.2 := by
    split at h4
    · unfold pNum at h4
      split at h4
      · cases h4; simp only; omega
      · cases h4
    · cases h4; simp only; omega
  have w := (kS_wd (lm := lm) hB (i := s.2.2.2.2.2) (by omega) a1.2.2.1).1 hK
  have q := kS_to (lm := lm) hB (show s.2.2.2.2.2 + 1 < j2 by omega) (by rw [a5.1, Nat.add_sub_cancel, a5.2]; decide)
  cases h
  simp only [len1]
  omega
theorem pOutput_men (hB : tTx B n) {s s' : pPg} (hK : kK (tstr B n lm) s.2.2.2.2.2 = 7) (h : pOutput (tstr B n lm) s = .inr s') (hs : 9 * s.2.2.2.1.length ≤ kS (tstr B n lm) s.2.2.2.2.2 + 16 * s.2.2.2.2.1.length) : 9 * s'.2.2.2.1.length ≤ kS (tstr B n lm) s'.2.2.2.2.2 + 16 * s'.2.2.2.2.1.length := by
  unfold pOutput at h
  obtain ⟨p, h1, h⟩ := pbind_inr h
  obtain ⟨j, h2, h⟩ := pbind_inr h
  have a1 := pPred_le h1
  have a2 := pNeed_le h2
  have w := (kS_wd (lm := lm) hB (i := s.2.2.2.2.2) (by omega) a1.2.2.1).2.1 hK
  have q := kS_to (lm := lm) hB (show s.2.2.2.2.2 + 1 < j by omega) (by rw [a2.1, Nat.add_sub_cancel, a2.2]; decide)
  cases h
  simp only [len1]
  omega
theorem pProg_men (hB : tTx B n) : ∀ {k : Nat} {s s' : pPg}, pProg (tstr B n lm) F k s = .inr s' → wPg s → 9 * s.2.2.2.1.length ≤ kS (tstr B n lm) s.2.2.2.2.2 + 16 * s.2.2.2.2.1.length → 9 * s'.2.2.2.1.length ≤ kS (tstr B n lm) s'.2.2.2.2.2 + 16 * s'.2.2.2.2.1.length := by
  have ht := tOk_of lm hB
  intro k
  induction k with
  | zero => intro s s' h; cases h
  | succ k ih =>
    intro s s' h hw hs
    unfold pProg at h
    split at h
    · cases h; exact hs
    · obtain ⟨u, g1, g2⟩ := pbind_inr h
      split at g1
      · rename_i c
        exact ih g2 (pInput_wf g1 hw) (pInput_men hB c g1 hs)
      · split at g1
        · rename_i c
          exact ih g2 (pOutput_wf g1 hw) (pOutput_men hB c g1 hs)
        · exact ih g2 (pRule_wf ht g1 hw) (pRule_men hB ht hw g1 hs)
/-- fewer than 420 -/
theorem pProg_420 (hB : tTx B n) (hn : n ≤ 3000) {k : Nat} {s : pPg} (h : pProg (tstr B n lm) F k ([], [], [], [], [], 0) = .inr s) : wPg s ∧ s.2.2.2.1.length ≤ 376 := by
  have hw := pProg_wf (tOk_of lm hB) h wPg_0
  have hm := pProg_men hB h wPg_0 (by show 9 * 0 ≤ _; omega)
  have h1 := (kS_1 (lm := lm) hB s.2.2.2.2.2).2.2.1
  have h2 := hw.2.2.2.2.2.1
  exact ⟨hw, by omega⟩
end
