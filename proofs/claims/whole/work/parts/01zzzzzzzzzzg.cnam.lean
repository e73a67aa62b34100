/-! All NAMES of a program are told of; the mentions of a QUERY -/
def wNd1 (N : List Int) (M : List pMn) : Prop := ∀ p : Nat, p < N.length → ∃ m ∈ M, m.1 = (p : Int)
theorem pPred_n {t : tStr} {N : List Int} {i : Nat} {p : Int × List Int × Nat} (h : pPred t N i = .inr p) : p.2.1 = N ∨ p.1 = (N.length : Int) ∧ p.2.1.length = N.length + 1 := by
  unfold pPred at h
  obtain ⟨a, h1, h2⟩ := pbind_inr h
  split at h2
  · split at h2
    · cases h2
    · cases h2; exact .inr ⟨rfl, by show (N ++ [a.1]).length = _; rw [List.length_append]; rfl⟩
  · cases h2; exact .inl rfl
theorem wNd1.mo {N : List Int} {M M' : List pMn} (h : wNd1 N M) (hM : ∀ m ∈ M, m ∈ M') : wNd1 N M' := fun p hp => by
  obtain ⟨m, a, b⟩ := h p hp
  exact ⟨m, hM m a, b⟩
theorem wNd1.pr {t : tStr} {N : List Int} {M : List pMn} {i : Nat} {p : Int × List Int × Nat} {m : pMn} (h : wNd1 N M) (hp : pPred t N i = .inr p) (hm : m.1 = p.1) : wNd1 p.2.1 (M ++ [m]) := by
  rcases pPred_n hp with e | ⟨e1, e2⟩
  · rw [e]; exact h.mo (fun m hm => List.mem_append.mpr (.inl hm))
  · intro k hk
    by_cases c : k < N.length
    · obtain ⟨m', a, b⟩ := h k c
      exact ⟨m', List.mem_append.mpr (.inl a), b⟩
    · refine ⟨m, List.mem_append.mpr (.inr (List.mem_singleton.mpr rfl)), ?_⟩
      rw [hm, e1]; omega
theorem pAtom_nd {t : tStr} {k : Int} {s s' : pRs} (h : pAtom t true k s = .inr s') (hs : wNd1 s.1 s.2.2.2.1) : wNd1 s'.1 s'.2.2.2.1 := by
  unfold pAtom at h
  obtain ⟨p, h1, h2⟩ := pbind_inr h
  obtain ⟨j, h3, h4⟩ := pbind_inr h2
  obtain ⟨y, h5, h6⟩ := pbind_inr h4
  obtain ⟨z, h7, h8⟩ := pbind_inr h6
  obtain ⟨u, h9, h10⟩ := pbind_inr h8
  cases h10
  rw [if_pos rfl] at h1
  exact hs.pr h1 rfl
theorem pCmp_nd {t : tStr} {F : Nat} {s s' : pRs} (h : pCmp t F s = .inr s') (hs : wNd1 s.1 s.2.2.2.1) : wNd1 s'.1 s'.2.2.2.1 := by
  unfold pCmp at h
  obtain ⟨x, g1, g2⟩ := pbind_inr h
  split at g2
  · obtain ⟨b, g3, g4⟩ := pbind_inr g2
    cases g4
    exact hs
  · cases g2
theorem pLit_nd {t : tStr} {F : Nat} {s s' : pRs} (h : pLit t true F s = .inr s') (hs : wNd1 s.1 s.2.2.2.1) : wNd1 s'.1 s'.2.2.2.1 := by
  unfold pLit at h
  split at h
  · cases h
  split at h
  · have q := pAtom_nd h
    exact q hs
  split at h
  · split at h
    · cases h
    split at h
    · split at h
      · cases h
      · exact pAtom_nd h hs
    split at h
    · cases h
    · exact pCmp_nd h hs
  · exact pCmp_nd h hs
theorem pLits_nd {t : tStr} {F : Nat} : ∀ {k : Nat} {s s' : pRs}, pLits t true F k s = .inr s' → wNd1 s.1 s.2.2.2.1 → wNd1 s'.1 s'.2.2.2.1 := by
  intro k
  induction k with
  | zero => intro s s' h hs; cases h; exact hs
  | succ k ih =>
    intro s s' h hs
    unfold pLits at h
    split at h
    · obtain ⟨u, g1, g2⟩ := pbind_inr h
      have q := pLit_nd g1
      exact ih g2 (q hs)
    · cases h; exact hs
theorem pRule_nd {t : tStr} {F : Nat} {s s' : pPg} (h : pRule t F s = .inr s') (hs : wNd1 s.1 s.2.2.2.1) : wNd1 s'.1 s'.2.2.2.1 := by
  unfold pRule at h
  split at h
  · cases h
  obtain ⟨p, h1, h⟩ := pbind_inr h
  obtain ⟨i, h2, h⟩ := pbind_inr h
  obtain ⟨a, h3, h⟩ := pbind_inr h
  obtain ⟨a', h4, h⟩ := pbind_inr h
  obtain ⟨i', h5, h⟩ := pbind_inr h
  obtain ⟨l, h6, h⟩ := pbind_inr h
  obtain ⟨i'', h7, h⟩ := pbind_inr h
  have h0 : wNd1 p.2.1 (s.2.2.2.1 ++ [(p.1, kS t s.2.2.2.2.2, (a'.2.2.1.length : Int), (3 : Int))]) := hs.pr h1 rfl
  have hl : wNd1 l.1 l.2.2.2.1 := by
    split at h6
    · obtain ⟨u, g1, g2⟩ := pbind_inr h6
      have q := pLit_nd g1
      exact pLits_nd g2 (q h0)
    · cases h6
      exact h0
  cases h
  exact hl
theorem pProg_nd {t : tStr} {F : Nat} : ∀ {k : Nat} {s s' : pPg}, pProg t F k s = .inr s' → wNd1 s.1 s.2.2.2.1 → wNd1 s'.1 s'.2.2.2.1 := by
  intro k
  induction k with
  | zero => intro s s' h; cases h
  | succ k ih =>
    intro s s' h hs
    unfold pProg at h
    split at h
    · cases h; exact hs
    · obtain ⟨u, g1, g2⟩ := pbind_inr h
      refine ih g2 ?_
      split at g1
      · unfold pInput at g1
        obtain ⟨p, h1, g1⟩ := pbind_inr g1
        obtain ⟨i, h2, g1⟩ := pbind_inr g1
        obtain ⟨n, h3, g1⟩ := pbind_inr g1
        obtain ⟨q, h4, g1⟩ := pbind_inr g1
        obtain ⟨i', h5, g1⟩ := pbind_inr g1
        cases g1
        exact hs.pr h1 rfl
      split at g1
      · unfold pOutput at g1
        obtain ⟨p, h1, g1⟩ := pbind_inr g1
        obtain ⟨i, h2, g1⟩ := pbind_inr g1
        cases g1
        exact hs.pr h1 rfl
      · exact pRule_nd g1 hs
/-- each predicate of a program without FAULTS is an INPUT or a HEAD -/
def wIH (s : pPg) : Prop := ∀ p : Nat, p < s.1.length → pIn s.2.1 (p : Int) = true ∨ pHd s.2.2.2.2.1 (p : Int) = true
theorem wIH_of {tx : List Int} {s : pPg} (h : qPr tx = .inr s) (hw : wPg s) (hf : ∀ k a, ¬ pFa s 0 k a) : wIH s := by
  have h1 : wNd1 s.1 s.2.2.2.1 := pProg_nd h (fun p hp => absurd hp (Nat.not_lt_zero p))
  have h2 : wKn s := pProg_kn h (fun m hm => absurd hm (by simp))
  intro p hp
  obtain ⟨m, m1, m2⟩ := h1 p hp
  obtain ⟨i, hi, ei⟩ := List.getElem_of_mem m1
  have en : mN s.2.2.2.1 i = (p : Int) := by unfold mN; rw [getD_e hi, ei]; exact m2
  by_cases c : isK2 s i
  · exfalso
    have := (isK2_iff hw h2 hi).mp c
    exact hf 2 (((0 : Nat) : Int) + mP s.2.2.2.1 i) (.inl (.inl (.inl ⟨i, Nat.zero_le _, hi, .inr ⟨rfl, rfl, this⟩⟩)))
  · unfold isK2 at c
    rw [en, Int.toNat_natCast] at c
    cases hb : pIn s.2.1 (p : Int) with
    | true => exact .inl rfl
    | false =>
      cases hb2 : pHd s.2.2.2.2.1 (p : Int) with
      | true => exact .inr rfl
      | false => exact absurd (.inr ⟨hb, hb2⟩) c
/-- the mentions of a QUERY -/
def wQk (s : pRs) : Prop := ∀ m ∈ s.2.2.2.1, m.2.2.2 = 4 ∧ m.2.2.1 ≠ -1
theorem pAtom_qk {t : tStr} {tell : Bool} {k : Int} {s s' : pRs} (h : pAtom t tell k s = .inr s') (hs : wQk s) : wQk s' := by
  unfold pAtom at h
  obtain ⟨p, h1, h2⟩ := pbind_inr h
  obtain ⟨j, h3, h4⟩ := pbind_inr h2
  obtain ⟨y, h5, h6⟩ := pbind_inr h4
  obtain ⟨z, h7, h8⟩ := pbind_inr h6
  obtain ⟨u, h9, h10⟩ := pbind_inr h8
  cases h10
  intro m hm
  rcases List.mem_append.mp hm with q | q
  · exact hs m q
  · rw [List.mem_singleton.mp q]; exact ⟨rfl, by show ((z.1.length : Nat) : Int) ≠ -1; omega⟩
theorem pCmp_qk {t : tStr} {F : Nat} {s s' : pRs} (h : pCmp t F s = .inr s') (hs : wQk s) : wQk s' := by
  unfold pCmp at h
  obtain ⟨x, g1, g2⟩ := pbind_inr h
  split at g2
  · obtain ⟨b, g3, g4⟩ := pbind_inr g2
    cases g4
    exact hs
  · cases g2
theorem pLit_qk {t : tStr} {tell : Bool} {F : Nat} {s s' : pRs} (h : pLit t tell F s = .inr s') (hs : wQk s) : wQk s' := by
  unfold pLit at h
  split at h
  · cases h
  split at h
  · have q := pAtom_qk h
    exact q hs
  split at h
  · split at h
    · cases h
    split at h
    · split at h
      · cases h
      · exact pAtom_qk h hs
    split at h
    · cases h
    · exact pCmp_qk h hs
  · exact pCmp_qk h hs
theorem pLits_qk {t : tStr} {tell : Bool} {F : Nat} : ∀ {k : Nat} {s s' : pRs}, pLits t tell F k s = .inr s' → wQk s → wQk s' := by
  intro k
  induction k with
  | zero => intro s s' h hs; cases h; exact hs
  | succ k ih =>
    intro s s' h hs
    unfold pLits at h
    split at h
    · obtain ⟨u, g1, g2⟩ := pbind_inr h
      have q := pLit_qk g1
      exact ih g2 (q hs)
    · cases h; exact hs
/-- all that a QUERY keeps to -/
theorem qQu_fa {tx N : List Int} {r : pRs} (hB : tTx (tBt tx) tx.length) (h : qQu tx N = .inr r) : wQk r ∧ (∀ i j, i < j → j < r.2.2.2.1.length → mP r.2.2.2.1 i < mP r.2.2.2.1 j) ∧ ∃ b, vSo r.2.1 0 b := by
  unfold qQu pQuery at h
  obtain ⟨a, h1, h⟩ := pbind_inr h
  obtain ⟨b, h2, h⟩ := pbind_inr h
  obtain ⟨i, h3, h⟩ := pbind_inr h
  have k0 : wQk ((N, [], [], [], 0) : pRs) := fun l hl => by cases hl
  have k2 := pLits_qk h2 (pLit_qk h1 k0)
  have s2 := pLits_so hB h2 (pLit_so hB h1 ⟨by simp, by simp⟩)
  have v2 := (pLits_vs (a := 0) hB h2 (Nat.zero_le _) (pLit_vs (a := 0) hB h1 (Nat.zero_le _) ⟨by simp, by simp⟩)).1
  split at h
  · cases h
    refine ⟨k2, fun i j hij hj => ?_, _, v2⟩
    have := List.pairwise_iff_getElem.mp s2.1 i j (Nat.lt_trans hij hj) hj hij
    unfold mP
    rw [getD_e (Nat.lt_trans hij hj), getD_e hj]
    exact this
  · cases h
