/-! What is read is well made: programs -/
def wRu (np : Nat) (u : pRu) : Prop := 0 ≤ u.1 ∧ u.1 < np ∧ 1 ≤ u.2.2.2.1.length ∧ u.2.2.2.1.length ≤ 4 ∧ wIt (u.2.2.2.2.1, u.2.2.1, u.2.2.2.1, 0) ∧ u.2.2.2.2.1.length ≤ 8 ∧ u.2.2.2.2.2.length ≤ 8 ∧ pAtoms u.2.2.2.2.2 ≤ 3 ∧ ∀ l ∈ u.2.2.2.2.2, wLt np u.2.2.2.2.1.length l ∧ (l.1 ≠ 3 → 0 ≤ l.2.1)
def wMn (np : Nat) (m : pMn) : Prop := 0 ≤ m.1 ∧ m.1 < np ∧ (m.2.2.2 = 2 ∧ m.2.2.1 = -1 ∨ (m.2.2.2 = 1 ∨ m.2.2.2 = 3 ∨ m.2.2.2 = 4) ∧ 1 ≤ m.2.2.1 ∧ m.2.2.1 ≤ 4)
def wPg (s : pPg) : Prop := s.1.length ≤ 16 ∧ s.1.Nodup ∧ (∀ x ∈ s.2.1, 0 ≤ x.1 ∧ x.1 < s.1.length ∧ 1 ≤ x.2.1 ∧ x.2.1 ≤ 4 ∧ 0 ≤ x.2.2 ∧ x.2.2 < x.2.1) ∧ (∀ x ∈ s.2.2.1, 0 ≤ x ∧ x < s.1.length) ∧ (∀ m ∈ s.2.2.2.1, wMn s.1.length m) ∧ s.2.2.2.2.1.length ≤ 24 ∧ (∀ u ∈ s.2.2.2.2.1, wRu s.1.length u)
theorem wRu.mo {np m : Nat} {u : pRu} (h : wRu np u) (hm : np ≤ m) : wRu m u := by
  obtain ⟨a1, a2, a3, a4, a5, a6, a7, a8, a9⟩ := h
  exact ⟨a1, by omega, a3, a4, a5, a6, a7, a8, fun l hl => ⟨(a9 l hl).1.mo hm (Nat.le_refl _), (a9 l hl).2⟩⟩
theorem wMn.mo {np m : Nat} {u : pMn} (h : wMn np u) (hm : np ≤ m) : wMn m u := ⟨h.1, by have := h.2.1; omega, h.2.2⟩
theorem pIdx_mem {N : List Int} {x : Int} (h : pIdx N x = -1) : x ∉ N := by
  intro hx
  unfold pIdx at h
  cases hf : N.findIdx? (fun y => decide (y = x)) with
  | none =>
    have := List.findIdx?_eq_none_iff.mp hf x hx
    simp at this
  | some p =>
    rw [hf] at h
    have h' : (p : Int) = -1 := h
    omega
theorem nodup_1 {N : List Int} {x : Int} (h : N.Nodup) (hx : x ∉ N) : (N ++ [x]).Nodup := by
  rw [List.nodup_append]
  refine ⟨h, by simp, fun a ha b hb => ?_⟩
  rw [List.mem_singleton.mp hb]
  intro e
  exact hx (e ▸ ha)
theorem pPred_wf {t : tStr} {N : List Int} {i : Nat} {p : Int × List Int × Nat} (h : pPred t N i = .inr p) (h1 : N.length ≤ 16) (h2 : N.Nodup) : p.2.1.length ≤ 16 ∧ p.2.1.Nodup := by
  unfold pPred at h
  obtain ⟨a, g1, g2⟩ := pbind_inr h
  split at g2
  · rename_i c
    split at g2
    · cases g2
    · cases g2
      exact ⟨by simp only [len1]; omega, nodup_1 h2 (pIdx_mem c)⟩
  · cases g2
    exact ⟨h1, h2⟩
/-- bounds of a rule that is read -/
def wRb (s : pRs) : Prop := s.1.length ≤ 16 ∧ s.1.Nodup ∧ s.2.1.length ≤ 8 ∧ s.2.2.1.length ≤ 8 ∧ pAtoms s.2.2.1 ≤ 3 ∧ ∀ m ∈ s.2.2.2.1, (m.2.2.2 = 2 ∧ m.2.2.1 = -1 ∨ (m.2.2.2 = 1 ∨ m.2.2.2 = 3 ∨ m.2.2.2 = 4) ∧ 1 ≤ m.2.2.1 ∧ m.2.2.1 ≤ 4)
theorem pAtom_b {t : tStr} {k : Int} {s s' : pRs} (h : pAtom t true k s = .inr s') (hs : wRb s) (h8 : s.2.2.1.length < 8) (h3 : k = 1 → pAtoms s.2.2.1 < 3) : wRb s' := by
  obtain ⟨b1, b2, b3, b4, b5, b6⟩ := hs
  unfold pAtom at h
  obtain ⟨p, h1, h2⟩ := pbind_inr h
  obtain ⟨j, _, h4⟩ := pbind_inr h2
  obtain ⟨y, h5, h6⟩ := pbind_inr h4
  obtain ⟨z, h7, h8'⟩ := pbind_inr h6
  obtain ⟨u, _, h10⟩ := pbind_inr h8'
  have a2 := pTerm_le h5
  have a3 := pTerms_le h7
  rw [if_pos rfl] at h1
  have a0 := pPred_wf h1 b1 b2
  cases h10
  simp only [List.length_singleton] at a3
  refine ⟨a0.1, a0.2, a3.2.1 (a2.2.1 b3), by simp only [len1]; omega, ?_, fun m hm => ?_⟩
  · simp only [pAtoms_1]
    split
    · rename_i c
      have := h3 c
      omega
    · omega
  · rcases List.mem_append.mp hm with b | b
    · exact b6 m b
    · rw [List.mem_singleton.mp b]
      exact .inr ⟨.inr (.inr rfl), by show (1 : Int) ≤ (z.1.length : Int); omega, by show (z.1.length : Int) ≤ 4; omega⟩
theorem pCmp_b {t : tStr} {F : Nat} {s s' : pRs} (h : pCmp t F s = .inr s') (hs : wRb s) (h8 : s.2.2.1.length < 8) : wRb s' := by
  obtain ⟨b1, b2, b3, b4, b5, b6⟩ := hs
  unfold pCmp at h
  obtain ⟨a, h1, h2⟩ := pbind_inr h
  split at h2
  · obtain ⟨b, h3, h4⟩ := pbind_inr h2
    have g1 := pX_le _ _ _ _ _ (by decide) h1
    have g2 := pX_le _ _ _ _ _ (by decide) h3
    simp only at g1 g2
    cases h4
    refine ⟨b1, b2, g2.2.2.2.2.2 (g1.2.2.2.2.2 b3), by simp only [len1]; omega, ?_, b6⟩
    simp only [pAtoms_1]
    rw [if_neg (by decide)]
    exact b5
  · cases h2
theorem pLit_b {t : tStr} {F : Nat} {s s' : pRs} (h : pLit t true F s = .inr s') (hs : wRb s) : wRb s' := by
  have h8 := hs.2.2.2.1
  have h3 := hs.2.2.2.2.1
  unfold pLit at h
  split at h
  · cases h
  split at h
  · exact pAtom_b h hs (by simp only; omega) (fun q => absurd q (by decide))
  split at h
  · split at h
    · cases h
    split at h
    · split at h
      · cases h
      · exact pAtom_b h hs (by omega) (fun _ => by omega)
    split at h
    · cases h
    · exact pCmp_b h hs (by omega)
  · exact pCmp_b h hs (by omega)
theorem pLits_b {t : tStr} {F : Nat} : ∀ {k : Nat} {s s' : pRs}, pLits t true F k s = .inr s' → wRb s → wRb s' := by
  intro k
  induction k with
  | zero => intro s s' h hs; cases h; exact hs
  | succ k ih =>
    intro s s' h hs
    unfold pLits at h
    split at h
    · obtain ⟨u, g1, g2⟩ := pbind_inr h
      exact ih g2 (pLit_b g1 hs)
    · cases h; exact hs
theorem pItem_b {t : tStr} {F : Nat} {s s' : pIt} (h : pItem t F s = .inr s') (hs : s.1.length ≤ 8) : s'.1.length ≤ 8 := by
  unfold pItem at h
  split at h
  · split at h
    · cases h
    · obtain ⟨j, h1, h2⟩ := pbind_inr h
      split at h2
      · obtain ⟨j2, h3, h4⟩ := pbind_inr h2
        cases h4
        exact hs
      · obtain ⟨x, h3, h4⟩ := pbind_inr h2
        obtain ⟨j2, h5, h6⟩ := pbind_inr h4
        have g1 := pVar_le h3
        cases h6
        exact g1.2.2 hs
  · obtain ⟨e, h1, h2⟩ := pbind_inr h
    have g1 := pX_le _ _ _ _ _ (by decide) h1
    cases h2
    exact g1.2.2.2.2.2 hs
theorem pItems_b {t : tStr} (ht : tOk t) {F : Nat} : ∀ {k : Nat} {s s' : pIt}, pItems t F k s = .inr s' → s.1.length ≤ 8 → wIt s → s'.1.length ≤ 8 ∧ wIt s' ∧ s.2.2.1.length ≤ s'.2.2.1.length ∧ s'.2.2.1.length ≤ s.2.2.1.length + k := by
  intro k
  induction k with
  | zero => intro s s' h h1 h2; cases h; exact ⟨h1, h2, Nat.le_refl _, Nat.le_refl _⟩
  | succ k ih =>
    intro s s' h h1 h2
    unfold pItems at h
    split at h
    · obtain ⟨u, g1, g2⟩ := pbind_inr h
      have a1 := pItem_le g1
      have a2 := ih g2 (pItem_b g1 h1) (pItem_wf ht g1 h2)
      simp only at a1
      exact ⟨a2.1, a2.2.1, by omega, by omega⟩
    · cases h; exact ⟨h1, h2, Nat.le_refl _, by omega⟩
theorem pRule_wf {t : tStr} (ht : tOk t) {F : Nat} {s s' : pPg} (h : pRule t F s = .inr s') (hs : wPg s) : wPg s' := by
  obtain ⟨b1, b2, b3, b4, b5, b6, b7⟩ := hs
  have e : s = (s.1, s.2.1, s.2.2.1, s.2.2.2.1, s.2.2.2.2.1, s.2.2.2.2.2) := rfl
  rw [e, pRule_e] at h
  split at h
  · cases h
  · rename_i c24
    obtain ⟨p, h1, h⟩ := pbind_inr h
    obtain ⟨z, h2, h⟩ := pbind_inr h
    obtain ⟨j, h3, h2⟩ := pbind_inr h2
    obtain ⟨a, h4, h2⟩ := pbind_inr h2
    unfold pRest pBody at h2
    obtain ⟨b, h5, h2⟩ := pbind_inr h2
    obtain ⟨j3, h6, h2⟩ := pbind_inr h2
    obtain ⟨z2, h7, h2⟩ := pbind_inr h2
    obtain ⟨l, h8, h7⟩ := pbind_inr h7
    obtain ⟨j4, h9, h7⟩ := pbind_inr h7
    have a1 := pPred_le h1
    have a1' := pPred_wf h1 b1 b2
    have w0 : wIt ([], (0, -1, -1), [], j) := ⟨.inl ⟨rfl, rfl, rfl⟩, fun k hk => absurd hk (by simp)⟩
    have a4 := pItem_le h4
    have w4 := pItem_wf ht h4 w0
    have v4 := pItem_b h4 (by show 0 ≤ 8; omega)
    have a5 := pItems_b ht h5 v4 w4
    simp only [List.length_nil] at a4
    have hMb : ∀ m ∈ s.2.2.2.1 ++ [(p.1, kS t s.2.2.2.2.2, (b.2.2.1.length : Int), (3 : Int))], wMn p.2.1.length m := by
      intro m hm
      rcases List.mem_append.mp hm with q | q
      · exact (b5 m q).mo a1.2.1
      · rw [List.mem_singleton.mp q]
        exact ⟨a1.2.2.2.1, a1.2.2.2.2, .inr ⟨.inr (.inl rfl), by show (1 : Int) ≤ (b.2.2.1.length : Int); omega, by show (b.2.2.1.length : Int) ≤ 4; omega⟩⟩
    have key : wRs true l ∧ wRb l ∧ p.2.1.length ≤ l.1.length ∧ b.1.length ≤ l.2.1.length := by
      have s0 : wRs true (p.2.1, b.1, [], s.2.2.2.1 ++ [(p.1, kS t s.2.2.2.2.2, (b.2.2.1.length : Int), (3 : Int))], j3) := ⟨fun x hx => absurd hx (by simp), fun _ x hx => absurd hx (by simp), fun m hm => ⟨by have := (hMb m hm).1; omega, (hMb m hm).2.1⟩, fun _ m hm => (hMb m hm).1⟩
      have r0 : wRb (p.2.1, b.1, [], s.2.2.2.1 ++ [(p.1, kS t s.2.2.2.2.2, (b.2.2.1.length : Int), (3 : Int))], j3) := ⟨a1'.1, a1'.2, a5.1, by simp, by simp [pAtoms], fun m hm => (hMb m hm).2.2⟩
      split at h8
      · obtain ⟨u, g1, g2⟩ := pbind_inr h8
        have q1 := pLit_wf ht g1 s0
        have q2 := pLit_b g1 r0
        have q3 := pLit_le g1
        have mono : ∀ (k : Nat) (x y : pRs), pLits t true F k x = .inr y → x.1.length ≤ y.1.length ∧ x.2.1.length ≤ y.2.1.length := by
          intro k
          induction k with
          | zero => intro x y hh; cases hh; exact ⟨Nat.le_refl _, Nat.le_refl _⟩
          | succ k ih =>
            intro x y hh
            unfold pLits at hh
            split at hh
            · obtain ⟨u, g1, g2⟩ := pbind_inr hh
              have k1 := pLit_le g1
              have k2 := ih _ _ g2
              simp only at k1
              omega
            · cases hh; exact ⟨Nat.le_refl _, Nat.le_refl _⟩
        have q4 := mono _ _ _ g2
        simp only at q3
        exact ⟨pLits_wf ht g2 q1, pLits_b g2 q2, by omega, by omega⟩
      · cases h8
        exact ⟨s0, r0, Nat.le_refl _, Nat.le_refl _⟩
    obtain ⟨k1, k2, k3, k4⟩ := key
    cases h7
    cases h2
    cases h
    refine ⟨k2.1, k2.2.1, fun x hx => ?_, fun x hx => ?_, fun m hm => ?_, by simp only [len1]; omega, fun u hu => ?_⟩
    · have := b3 x hx
      exact ⟨this.1, by show x.1 < (l.1.length : Int); omega, this.2.2⟩
    · have := b4 x hx
      exact ⟨this.1, by show x < (l.1.length : Int); omega⟩
    · exact ⟨k1.2.2.2 rfl m hm, (k1.2.2.1 m hm).2, k2.2.2.2.2.2 m hm⟩
    · rcases List.mem_append.mp hu with q | q
      · exact (b7 u q).mo (by show s.1.length ≤ l.1.length; omega)
      · rw [List.mem_singleton.mp q]
        refine ⟨a1.2.2.2.1, by show p.1 < (l.1.length : Int); omega, by show 1 ≤ b.2.2.1.length; omega, by show b.2.2.1.length ≤ 4; omega, ?_, k2.2.2.1, k2.2.2.2.1, k2.2.2.2.2.1, fun y hy => ⟨k1.1 y hy, k1.2.1 rfl y hy⟩⟩
        obtain ⟨w1, w2⟩ := a5.2.1
        refine ⟨?_, fun k hk => ?_⟩
        · rcases w1 with q | q
          · exact .inl q
          · refine .inr ⟨q.1, q.2.1, q.2.2.1, ?_⟩
            rcases q.2.2.2 with z | z
            · exact .inl z
            · exact .inr ⟨z.1, z.2.1, by show b.2.1.2.2 < (l.2.1.length : Int); omega⟩
        · rcases w2 k hk with q | q
          · exact .inl q
          · exact .inr ⟨q.1, q.2.mo k4⟩
theorem pInput_wf {t : tStr} {s s' : pPg} (h : pInput t s = .inr s') (hs : wPg s) : wPg s' := by
  obtain ⟨b1, b2, b3, b4, b5, b6, b7⟩ := hs
  unfold pInput at h
  obtain ⟨p, h1, h⟩ := pbind_inr h
  obtain ⟨j, h2, h⟩ := pbind_inr h
  obtain ⟨m, h3, h⟩ := pbind_inr h
  obtain ⟨k, h4, h⟩ := pbind_inr h
  obtain ⟨j2, h5, h⟩ := pbind_inr h
  have a1 := pPred_le h1
  have a1' := pPred_wf h1 b1 b2
  have a3 : 1 ≤ m.1 ∧ m.1 ≤ 4 := by
    unfold pNum at h3
    split at h3
    · rename_i c
      cases h3; exact c.2
    · cases h3
  have a4 : 0 ≤ k.1 ∧ k.1 < m.1 := by
    split at h4
    · unfold pNum at h4
      split at h4
      · rename_i c
        cases h4
        show 0 ≤ kC t (m.2 + 1) ∧ kC t (m.2 + 1) < m.1
        omega
      · cases h4
    · cases h4
      show (0 : Int) ≤ 0 ∧ (0 : Int) < m.1
      omega
  cases h
  refine ⟨a1'.1, a1'.2, fun x hx => ?_, fun x hx => ?_, fun y hy => ?_, b6, fun u hu => (b7 u hu).mo a1.2.1⟩
  · rcases List.mem_append.mp hx with q | q
    · have := b3 x q
      exact ⟨this.1, by show x.1 < (p.2.1.length : Int); omega, this.2.2⟩
    · rw [List.mem_singleton.mp q]
      exact ⟨a1.2.2.2.1, a1.2.2.2.2, a3.1, a3.2, a4⟩
  · have := b4 x hx
    exact ⟨this.1, by show x < (p.2.1.length : Int); omega⟩
  · rcases List.mem_append.mp hy with q | q
    · exact (b5 y q).mo a1.2.1
    · rw [List.mem_singleton.mp q]
      exact ⟨a1.2.2.2.1, a1.2.2.2.2, .inr ⟨.inl rfl, a3⟩⟩
theorem pOutput_wf {t : tStr} {s s' : pPg} (h : pOutput t s = .inr s') (hs : wPg s) : wPg s' := by
  obtain ⟨b1, b2, b3, b4, b5, b6, b7⟩ := hs
  unfold pOutput at h
  obtain ⟨p, h1, h⟩ := pbind_inr h
  obtain ⟨j, h2, h⟩ := pbind_inr h
  have a1 := pPred_le h1
  have a1' := pPred_wf h1 b1 b2
  cases h
  refine ⟨a1'.1, a1'.2, fun x hx => ?_, fun x hx => ?_, fun y hy => ?_, b6, fun u hu => (b7 u hu).mo a1.2.1⟩
  · have := b3 x hx
    exact ⟨this.1, by show x.1 < (p.2.1.length : Int); omega, this.2.2⟩
  · rcases List.mem_append.mp hx with q | q
    · have := b4 x q
      exact ⟨this.1, by show x < (p.2.1.length : Int); omega⟩
    · rw [List.mem_singleton.mp q]
      exact ⟨a1.2.2.2.1, a1.2.2.2.2⟩
  · rcases List.mem_append.mp hy with q | q
    · exact (b5 y q).mo a1.2.1
    · rw [List.mem_singleton.mp q]
      exact ⟨a1.2.2.2.1, a1.2.2.2.2, .inl ⟨rfl, rfl⟩⟩
theorem pProg_wf {t : tStr} (ht : tOk t) {F : Nat} : ∀ {k : Nat} {s s' : pPg}, pProg t F k s = .inr s' → wPg s → wPg s' := by
  intro k
  induction k with
  | zero => intro s s' h; cases h
  | succ k ih =>
    intro s s' h hs
    unfold pProg at h
    split at h
    · cases h; exact hs
    · obtain ⟨u, g1, g2⟩ := pbind_inr h
      refine ih g2 ?_
      split at g1
      · exact pInput_wf g1 hs
      · split at g1
        · exact pOutput_wf g1 hs
        · exact pRule_wf ht g1 hs
theorem wPg_0 : wPg ([], [], [], [], [], 0) := ⟨by decide, by simp, by simp, by simp, by simp, by decide, by simp⟩
