/-! Programs without FAULTS -/
theorem pLit_mm {t : tStr} {tell : Bool} {F : Nat} {s s' : pRs} (h : pLit t tell F s = .inr s') : ∀ m ∈ s.2.2.2.1, m ∈ s'.2.2.2.1 := by
  have atom : ∀ {k : Int} {s s' : pRs}, pAtom t tell k s = .inr s' → ∀ m ∈ s.2.2.2.1, m ∈ s'.2.2.2.1 := by
    intro k s s' h m hm
    unfold pAtom at h
    obtain ⟨p, h1, h2⟩ := pbind_inr h
    obtain ⟨j, _, h4⟩ := pbind_inr h2
    obtain ⟨y, h5, h6⟩ := pbind_inr h4
    obtain ⟨z, h7, h8'⟩ := pbind_inr h6
    obtain ⟨u, _, h10⟩ := pbind_inr h8'
    cases h10
    exact List.mem_append.mpr (.inl hm)
  have cmp : ∀ {s s' : pRs}, pCmp t F s = .inr s' → ∀ m ∈ s.2.2.2.1, m ∈ s'.2.2.2.1 := by
    intro s s' h m hm
    unfold pCmp at h
    obtain ⟨a, h1, h2⟩ := pbind_inr h
    split at h2
    · obtain ⟨b, h3, h4⟩ := pbind_inr h2
      cases h4
      exact hm
    · cases h2
  unfold pLit at h
  split at h
  · cases h
  split at h
  · exact fun m hm => atom (s := (s.1, s.2.1, s.2.2.1, s.2.2.2.1, s.2.2.2.2 + 1)) h m hm
  split at h
  · split at h
    · cases h
    split at h
    · split at h
      · cases h
      · exact atom h
    split at h
    · cases h
    · exact cmp h
  · exact cmp h
theorem pLits_mm {t : tStr} {tell : Bool} {F : Nat} : ∀ {k : Nat} {s s' : pRs}, pLits t tell F k s = .inr s' → ∀ m ∈ s.2.2.2.1, m ∈ s'.2.2.2.1 := by
  intro k
  induction k with
  | zero => intro s s' h; cases h; exact fun _ h => h
  | succ k ih =>
    intro s s' h
    unfold pLits at h
    split at h
    · obtain ⟨u, g1, g2⟩ := pbind_inr h
      exact fun m hm => ih g2 m (pLit_mm g1 m hm)
    · cases h; exact fun _ h => h
/-- each rule's HEAD is told of -/
def wHd (s : pPg) : Prop := ∀ u ∈ s.2.2.2.2.1, (u.1, u.2.1, (u.2.2.2.1.length : Int), 3) ∈ s.2.2.2.1
theorem pRule_hd {t : tStr} {F : Nat} {s s' : pPg} (h : pRule t F s = .inr s') (hs : wHd s) : wHd s' := by
  unfold pRule at h
  split at h
  · cases h
  obtain ⟨p, h1, h⟩ := pbind_inr h
  obtain ⟨i, h2, h⟩ := pbind_inr h
  obtain ⟨a, h3, h⟩ := pbind_inr h
  obtain ⟨a', h4, h⟩ := pbind_inr h
  obtain ⟨i', h5, h⟩ := pbind_inr h
  obtain ⟨l, h6, h⟩ := pbind_inr h
  obtain ⟨i'', h7, h⟩ := pbind_inr h
  have hl : ∀ m ∈ s.2.2.2.1 ++ [(p.1, kS t s.2.2.2.2.2, (a'.2.2.1.length : Int), (3 : Int))], m ∈ l.2.2.2.1 := by
    split at h6
    · obtain ⟨u, g1, g2⟩ := pbind_inr h6
      exact fun m hm => pLits_mm g2 m (pLit_mm g1 m hm)
    · cases h6
      exact fun m hm => hm
  cases h
  intro u hu
  rcases List.mem_append.mp hu with b | b
  · exact hl _ (List.mem_append.mpr (.inl (hs u b)))
  · rw [List.mem_singleton.mp b]
    exact hl _ (List.mem_append.mpr (.inr (List.mem_singleton.mpr rfl)))
theorem pProg_hd {t : tStr} {F : Nat} : ∀ {k : Nat} {s s' : pPg}, pProg t F k s = .inr s' → wHd s → wHd s' := by
  intro k
  induction k with
  | zero => intro s s' h; cases h
  | succ k ih =>
    intro s s' h hs
    unfold pProg at h
    split at h
    · cases h; exact hs
    · obtain ⟨u, g1, g2⟩ := pbind_inr h
      refine ih g2 ?_
      split at g1
      · unfold pInput at g1
        obtain ⟨p, h1, g1⟩ := pbind_inr g1
        obtain ⟨i, h2, g1⟩ := pbind_inr g1
        obtain ⟨n, h3, g1⟩ := pbind_inr g1
        obtain ⟨q, h4, g1⟩ := pbind_inr g1
        obtain ⟨i', h5, g1⟩ := pbind_inr g1
        cases g1
        exact fun u hu => List.mem_append.mpr (.inl (hs u hu))
      split at g1
      · unfold pOutput at g1
        obtain ⟨p, h1, g1⟩ := pbind_inr g1
        obtain ⟨i, h2, g1⟩ := pbind_inr g1
        cases g1
        exact fun u hu => List.mem_append.mpr (.inl (hs u hu))
      · exact pRule_hd g1 hs
/-- a program that may be worked -/
def qOk (s : pPg) : Prop := wPg s ∧ (∀ u ∈ s.2.2.2.2.1, (∀ k, k < u.2.2.2.2.1.length → (qBd u.2.2.2.2.2).testBit k = true) ∧ (u.2.2.2.1.length : Int) = pNn s.2.2.2.1 u.1) ∧ ∀ k a, ¬ pFa s 0 k a
theorem rTe.tx {G : xG_} {b q : Nat} {t : List Int} (h : rTe G b q t) : tTx (tBt t) t.length := by
  rw [← h.by]
  exact rBy_tx G b q t.length
theorem qOk_of {t : List Int} {s : pPg} (hB : tTx (tBt t) t.length) (hn : t.length ≤ 3000) (h : qPr t = .inr s) (hf : ∀ k a, ¬ pFa s 0 k a) : qOk s := by
  have h1 := (pProg_420 hB hn h).1
  have h2 : wHd s := pProg_hd h (fun u hu => absurd hu (by simp))
  refine ⟨h1, fun u hu => ⟨fun k hk => ?_, ?_⟩, hf⟩
  · obtain ⟨y, hy, rfl⟩ := List.getElem_of_mem hu
    cases hb : (qBd (s.2.2.2.2.1[y]).2.2.2.2.2).testBit k with
    | true => rfl
    | false =>
      exfalso
      refine hf 4 _ (.inl (.inr ⟨rfl, y, Nat.zero_le _, hy, k, ?_, rfl⟩))
      rw [getD_e hy]
      exact ⟨hk, hb⟩
  · obtain ⟨y, hy, ey⟩ := List.getElem_of_mem (h2 u hu)
    have hwu := h1.2.2.2.2.2.2 u hu
    obtain ⟨p, hp⟩ : ∃ p : Nat, u.1 = (p : Int) := ⟨u.1.toNat, by have := hwu.1; omega⟩
    have e1 : mN s.2.2.2.1 y = (p : Int) := by unfold mN; rw [getD_e hy, ey]; exact hp
    have e2 : mK s.2.2.2.1 y = (u.2.2.2.1.length : Int) := by unfold mK; rw [getD_e hy, ey]
    have hne : mK s.2.2.2.1 y ≠ -1 := by rw [e2]; omega
    refine Classical.byContradiction (fun q => hf 3 (((0 : Nat) : Int) + mP s.2.2.2.1 y) (.inl (.inl (.inr ⟨rfl, p, y, Nat.zero_le _, ?_, ⟨hy, e1, hne, ?_⟩, rfl⟩))))
    · have := hwu.2.1
      omega
    · rw [e2, ← hp]
      exact q
theorem pFa_q {s : pPg} (h : ∀ k a, ¬ pFa s 0 k a) (q : Nat) : ∀ k a, ¬ pFa s q k a := by
  have sa : ∀ {q' k a}, qSa s.2.1 s.2.2.2.2.1 s.2.2.2.1 q' s.1.length 0 k a → ∃ a', qSa s.2.1 s.2.2.2.2.1 s.2.2.2.1 0 s.1.length 0 k a' := by
    intro q' k a hh
    rcases hh with (⟨y, y1, y2, y3⟩ | ⟨y1, z, y, y2, y3, y4, y5⟩) | ⟨y1, y, y2, y3, v, y4, y5⟩
    · rcases y3 with ⟨z1, z2, z3⟩ | ⟨z1, z2, z3⟩
      · exact ⟨_, .inl (.inl ⟨y, y1, y2, .inl ⟨z1, rfl, z3⟩⟩)⟩
      · exact ⟨_, .inl (.inl ⟨y, y1, y2, .inr ⟨z1, rfl, z3⟩⟩)⟩
    · exact ⟨_, .inl (.inr ⟨y1, z, y, y2, y3, y4, rfl⟩)⟩
    · exact ⟨_, .inr ⟨y1, y, y2, y3, v, y4, rfl⟩⟩
  intro k a hh
  rcases hh with hh | ⟨h1, h2, y, h3, h4, h5, h6⟩
  · obtain ⟨a', ha⟩ := sa hh
    exact h k a' (.inl ha)
  · refine h k _ (.inr ⟨fun k' a' hk => h k' a' (.inl hk), h2, y, h3, h4, h5, rfl⟩)
