/-! What is read is well made: LITERALS, rules, programs -/
def wT1 (nv : Nat) (x : Int × Int) : Prop := (x.1 = 1 ∧ 0 ≤ x.2 ∧ x.2 < nv) ∨ x.1 = 2 ∨ (x.1 = 3 ∧ vOk x.2)
/-- a LITERAL, of VARIABLES below nv and predicates below np (or, in a QUERY, -1) -/
def wLt (np nv : Nat) (l : pLt) : Prop := ((l.1 = 1 ∨ l.1 = 2) ∧ -1 ≤ l.2.1 ∧ l.2.1 < np ∧ 1 ≤ l.2.2.2.1.length ∧ l.2.2.2.1.length ≤ 4 ∧ ∀ x ∈ l.2.2.2.1, wT1 nv x) ∨ (l.1 = 3 ∧ isCs l.2.1 ∧ wEx nv l.2.2.2.2.1 ∧ wEx nv l.2.2.2.2.2)
theorem wT1.mo {nv m : Nat} {x : Int × Int} (h : wT1 nv x) (hm : nv ≤ m) : wT1 m x := by
  rcases h with a | a | a
  · exact .inl ⟨a.1, a.2.1, by omega⟩
  · exact .inr (.inl a)
  · exact .inr (.inr a)
theorem wLt.mo {np np' nv m : Nat} {l : pLt} (h : wLt np nv l) (hp : np ≤ np') (hm : nv ≤ m) : wLt np' m l := by
  rcases h with a | a
  · exact .inl ⟨a.1, a.2.1, by omega, a.2.2.2.1, a.2.2.2.2.1, fun x hx => (a.2.2.2.2.2 x hx).mo hm⟩
  · exact .inr ⟨a.1, a.2.1, a.2.2.1.mo hm, a.2.2.2.mo hm⟩
theorem pTerm_wf {t : tStr} (ht : tOk t) {V : List (Int × Nat)} {i : Nat} {y : (Int × Int) × List (Int × Nat) × Nat} (h : pTerm t V i = .inr y) : wT1 y.2.1.length y.1 := by
  unfold pTerm at h
  split at h
  · obtain ⟨a, h1, h2⟩ := pbind_inr h
    have := pVar_ok h1
    cases h2
    exact .inl ⟨rfl, this⟩
  · split at h
    · cases h
      exact .inr (.inl rfl)
    · obtain ⟨a, h1, h2⟩ := pbind_inr h
      have := ht _ _ h1
      cases h2
      exact .inr (.inr ⟨rfl, this⟩)
theorem pTerms_wf {t : tStr} (ht : tOk t) : ∀ {k : Nat} {T : pCd} {V : List (Int × Nat)} {i : Nat} {y : pCd × List (Int × Nat) × Nat}, pTerms t k T V i = .inr y → (∀ x ∈ T, wT1 V.length x) → ∀ x ∈ y.1, wT1 y.2.1.length x := by
  intro k
  induction k with
  | zero => intro T V i y h hT; cases h; exact hT
  | succ k ih =>
    intro T V i y h hT
    unfold pTerms at h
    split at h
    · obtain ⟨a, h1, h2⟩ := pbind_inr h
      have h3 := pTerm_le h1
      have h4 := pTerm_wf ht h1
      refine ih h2 (fun x hx => ?_)
      rcases List.mem_append.mp hx with b | b
      · exact (hT x b).mo h3.1
      · rw [List.mem_singleton.mp b]; exact h4
    · cases h; exact hT
/-- NAMES, LITERALS, mentions of a rule (or QUERY) as far as it is read -/
def wRs (tell : Bool) (s : pRs) : Prop := (∀ l ∈ s.2.2.1, wLt s.1.length s.2.1.length l) ∧ (tell = true → ∀ l ∈ s.2.2.1, l.1 ≠ 3 → 0 ≤ l.2.1) ∧ (∀ m ∈ s.2.2.2.1, -1 ≤ m.1 ∧ m.1 < s.1.length) ∧ (tell = true → ∀ m ∈ s.2.2.2.1, 0 ≤ m.1)
theorem wRs.add {tell : Bool} {s : pRs} {N : List Int} {V : List (Int × Nat)} {l : pLt} {i : Nat} {E : List pMn} (h : wRs tell s) (hN : s.1.length ≤ N.length) (hV : s.2.1.length ≤ V.length) (hl : wLt N.length V.length l) (hl0 : tell = true → l.1 ≠ 3 → 0 ≤ l.2.1) (hE : ∀ m ∈ E, (-1 ≤ m.1 ∧ m.1 < N.length) ∧ (tell = true → 0 ≤ m.1)) : wRs tell (N, V, s.2.2.1 ++ [l], s.2.2.2.1 ++ E, i) := by
  obtain ⟨a1, a2, a3, a4⟩ := h
  refine ⟨fun x hx => ?_, fun ht x hx h3 => ?_, fun m hm => ?_, fun ht m hm => ?_⟩
  · rcases List.mem_append.mp hx with b | b
    · exact (a1 x b).mo hN hV
    · rw [List.mem_singleton.mp b]; exact hl
  · rcases List.mem_append.mp hx with b | b
    · exact a2 ht x b h3
    · rw [List.mem_singleton.mp b] at h3 ⊢; exact hl0 ht h3
  · rcases List.mem_append.mp hm with b | b
    · have := a3 m b; exact ⟨this.1, by show m.1 < N.length; omega⟩
    · exact (hE m b).1
  · rcases List.mem_append.mp hm with b | b
    · exact a4 ht m b
    · exact (hE m b).2 ht
theorem pAtom_wf {t : tStr} (ht : tOk t) {tell : Bool} {k : Int} {s s' : pRs} (hk : k = 1 ∨ k = 2) (h : pAtom t tell k s = .inr s') (hs : wRs tell s) : wRs tell s' := by
  unfold pAtom at h
  obtain ⟨p, h1, h2⟩ := pbind_inr h
  obtain ⟨j, h3, h4⟩ := pbind_inr h2
  obtain ⟨y, h5, h6⟩ := pbind_inr h4
  obtain ⟨z, h7, h8⟩ := pbind_inr h6
  obtain ⟨u, h9, h10⟩ := pbind_inr h8
  have a2 := pTerm_le h5
  have a3 := pTerms_le h7
  have w2 := pTerm_wf ht h5
  have w3 := pTerms_wf ht h7 (fun x hx => by rw [List.mem_singleton.mp hx]; exact w2)
  have a0 : s.1.length ≤ p.2.1.length ∧ -1 ≤ p.1 ∧ p.1 < p.2.1.length ∧ (tell = true → 0 ≤ p.1) := by
    split at h1
    · have := pPred_le h1
      exact ⟨this.2.1, by omega, this.2.2.2.2, fun _ => this.2.2.2.1⟩
    · rename_i c
      obtain ⟨x, g1, g2⟩ := pbind_inr h1
      cases g2
      have := pIdx_in s.1 x.1
      exact ⟨Nat.le_refl _, by simp only; omega, by simp only; omega, fun h => absurd h c⟩
  cases h10
  simp only [List.length_singleton] at a3
  refine hs.add a0.1 (by omega) (.inl ⟨hk, a0.2.1, a0.2.2.1, by show 1 ≤ z.1.length; omega, by show z.1.length ≤ 4; omega, w3⟩) (fun ht _ => a0.2.2.2 ht) (fun m hm => ?_)
  rw [List.mem_singleton.mp hm]
  exact ⟨⟨a0.2.1, a0.2.2.1⟩, a0.2.2.2⟩
theorem pCmp_wf {t : tStr} (ht : tOk t) {tell : Bool} {F : Nat} {s s' : pRs} (h : pCmp t F s = .inr s') (hs : wRs tell s) : wRs tell s' := by
  unfold pCmp at h
  obtain ⟨a, h1, h2⟩ := pbind_inr h
  split at h2
  · rename_i c
    obtain ⟨b, h3, h4⟩ := pbind_inr h2
    have g1 := pX_le _ _ _ _ _ (by decide) h1
    have g2 := pX_le _ _ _ _ _ (by decide) h3
    have w1 := pX_ex ht h1
    have w2 := pX_ex ht h3
    simp only at g1 g2
    have := hs.add (N := s.1) (V := b.1) (l := (3, kK t a.2.2, kS t s.2.2.2.2, [], a.2.1, b.2.1)) (i := b.2.2) (E := []) (Nat.le_refl _) (by omega) (.inr ⟨rfl, c, w1.mo (by omega), w2⟩) (fun _ h => absurd rfl h) (fun m hm => absurd hm (by simp))
    rw [List.append_nil] at this
    cases h4
    exact this
  · cases h2
theorem pLit_wf {t : tStr} (ht : tOk t) {tell : Bool} {F : Nat} {s s' : pRs} (h : pLit t tell F s = .inr s') (hs : wRs tell s) : wRs tell s' := by
  unfold pLit at h
  split at h
  · cases h
  split at h
  · exact pAtom_wf ht (.inr rfl) h hs
  split at h
  · split at h
    · cases h
    split at h
    · split at h
      · cases h
      · exact pAtom_wf ht (.inl rfl) h hs
    split at h
    · cases h
    · exact pCmp_wf ht h hs
  · exact pCmp_wf ht h hs
theorem pLits_wf {t : tStr} (ht : tOk t) {tell : Bool} {F : Nat} : ∀ {k : Nat} {s s' : pRs}, pLits t tell F k s = .inr s' → wRs tell s → wRs tell s' := by
  intro k
  induction k with
  | zero => intro s s' h hs; cases h; exact hs
  | succ k ih =>
    intro s s' h hs
    unfold pLits at h
    split at h
    · obtain ⟨u, g1, g2⟩ := pbind_inr h
      exact ih g2 (pLit_wf ht g1 hs)
    · cases h; exact hs
/-- ITEMS -/
def wIt (s : pIt) : Prop := (s.2.1.1 = 0 ∧ s.2.1.2.1 = -1 ∧ s.2.1.2.2 = -1 ∨ (10 ≤ s.2.1.1 ∧ s.2.1.1 ≤ 13) ∧ 0 ≤ s.2.1.2.1 ∧ s.2.1.2.1 < s.2.2.1.length ∧ (s.2.1.1 = 10 ∧ s.2.1.2.2 = -1 ∨ s.2.1.1 ≠ 10 ∧ 0 ≤ s.2.1.2.2 ∧ s.2.1.2.2 < s.1.length)) ∧ ∀ k, k < s.2.2.1.length → ((k : Int) = s.2.1.2.1 ∧ s.2.2.1.getD k [] = [] ∨ (k : Int) ≠ s.2.1.2.1 ∧ wEx s.1.length (s.2.2.1.getD k []))
theorem pItem_wf {t : tStr} (ht : tOk t) {F : Nat} {s s' : pIt} (h : pItem t F s = .inr s') (hs : wIt s) : wIt s' := by
  obtain ⟨a1, a2⟩ := hs
  have hne : s.2.1.2.1 < s.2.2.1.length := by omega
  unfold pItem at h
  split at h
  · rename_i hK
    split at h
    · cases h
    · rename_i c0
      replace c0 : s.2.1.1 = 0 := Classical.not_not.mp c0
      obtain ⟨j, h1, h2⟩ := pbind_inr h
      split at h2
      · obtain ⟨j2, h3, h4⟩ := pbind_inr h2
        cases h4
        refine ⟨.inr ⟨by simp only; omega, by simp only; omega, by simp only [len1]; omega, .inl ⟨rfl, rfl⟩⟩, fun k hk => ?_⟩
        simp only [len1] at hk ⊢
        rw [getD_1]
        by_cases c : k = s.2.2.1.length
        · rw [if_pos c]
          exact .inl ⟨by omega, rfl⟩
        · rw [if_neg c]
          have := a2 k (by omega)
          right
          refine ⟨by omega, ?_⟩
          rcases this with q | q
          · omega
          · exact q.2
      · rename_i c10
        obtain ⟨x, h3, h4⟩ := pbind_inr h2
        obtain ⟨j2, h5, h6⟩ := pbind_inr h4
        have g1 := pVar_le h3
        have g2 := pVar_ok h3
        cases h6
        refine ⟨.inr ⟨hK, by simp only; omega, by simp only [len1]; omega, .inr ⟨c10, g2⟩⟩, fun k hk => ?_⟩
        simp only [len1] at hk ⊢
        rw [getD_1]
        by_cases c : k = s.2.2.1.length
        · rw [if_pos c]
          exact .inl ⟨by omega, rfl⟩
        · rw [if_neg c]
          have := a2 k (by omega)
          right
          refine ⟨by omega, ?_⟩
          rcases this with q | q
          · omega
          · exact q.2.mo g1.2.1
  · obtain ⟨e, h1, h2⟩ := pbind_inr h
    have g1 := pX_le _ _ _ _ _ (by decide) h1
    have w1 := pX_ex ht h1
    simp only at g1
    cases h2
    refine ⟨?_, fun k hk => ?_⟩
    · simp only [len1]
      rcases a1 with q | q
      · exact .inl q
      · refine .inr ⟨q.1, q.2.1, by omega, ?_⟩
        rcases q.2.2.2 with z | z
        · exact .inl z
        · exact .inr ⟨z.1, z.2.1, by omega⟩
    · simp only [len1] at hk ⊢
      rw [getD_1]
      by_cases c : k = s.2.2.1.length
      · rw [if_pos c]
        exact .inr ⟨by omega, w1⟩
      · rw [if_neg c]
        rcases a2 k (by omega) with q | q
        · exact .inl q
        · exact .inr ⟨q.1, q.2.mo (by omega)⟩
