/-! QUERIES: what is read -/
def smp {α β : Type} (g : α → β) (x : Nat ⊕ α) : Nat ⊕ β := match x with
  | .inl w => .inl w
  | .inr a => .inr (g a)
theorem smp_b {α β γ : Type} {g : β → γ} {x : Nat ⊕ α} {k : α → Nat ⊕ β} : smp g (pbind x k) = pbind x (fun a => smp g (k a)) := by
  cases x <;> rfl
/-- other mentions ahead -/
def mpM (M0 : List pMn) (s : pRs) : pRs := (s.1, s.2.1, s.2.2.1, M0 ++ s.2.2.2.1, s.2.2.2.2)
section
variable {t : tStr} {tell : Bool} {M0 : List pMn} {F : Nat}
theorem pAtom_M {k : Int} (s : pRs) : pAtom t tell k (mpM M0 s) = smp (mpM M0) (pAtom t tell k s) := by
  unfold pAtom
  rw [smp_b]
  refine congrArg (pbind _) (funext fun p => ?_)
  rw [smp_b]
  refine congrArg (pbind _) (funext fun i => ?_)
  rw [smp_b]
  refine congrArg (pbind _) (funext fun r => ?_)
  rw [smp_b]
  refine congrArg (pbind _) (funext fun q => ?_)
  rw [smp_b]
  refine congrArg (pbind _) (funext fun i => ?_)
  show (Sum.inr _ : Nat ⊕ pRs) = .inr (p.2.1, q.2.1, _, M0 ++ (s.2.2.2.1 ++ _), i)
  rw [← List.append_assoc]
  rfl
theorem pCmp_M (s : pRs) : pCmp t F (mpM M0 s) = smp (mpM M0) (pCmp t F s) := by
  unfold pCmp
  rw [smp_b]
  refine congrArg (pbind _) (funext fun a => ?_)
  split
  · rw [smp_b]
    rfl
  · rfl
theorem pLit_M (s : pRs) : pLit t tell F (mpM M0 s) = smp (mpM M0) (pLit t tell F s) := by
  unfold pLit
  show (if s.2.2.1.length = 8 then Sum.inl (kS t s.2.2.2.2) else if kK t s.2.2.2.2 = 9 then pAtom t tell 2 (mpM M0 (s.1, s.2.1, s.2.2.1, s.2.2.2.1, s.2.2.2.2 + 1)) else if kK t s.2.2.2.2 = 1 then (if 12 < kE t s.2.2.2.2 - kS t s.2.2.2.2 then .inl (kS t s.2.2.2.2 + 12) else if kK t (s.2.2.2.2 + 1) = 40 then (if pAtoms s.2.2.1 = 3 then .inl (kS t s.2.2.2.2) else pAtom t tell 1 (mpM M0 s)) else if kW t s.2.2.2.2 = -1 then .inl (kS t (s.2.2.2.2 + 1)) else pCmp t F (mpM M0 s)) else pCmp t F (mpM M0 s)) = _
  rw [pAtom_M, pAtom_M, pCmp_M]
  split
  · rfl
  split
  · rfl
  split
  · split
    · rfl
    split
    · split
      · rfl
      · rfl
    split
    · rfl
    · rfl
  · rfl
theorem pLits_M : ∀ (k : Nat) (s : pRs), pLits t tell F k (mpM M0 s) = smp (mpM M0) (pLits t tell F k s)
  | 0, _ => rfl
  | k + 1, s => by
    unfold pLits
    show (if kK t s.2.2.2.2 = 44 then pbind (pLit t tell F (mpM M0 (s.1, s.2.1, s.2.2.1, s.2.2.2.1, s.2.2.2.2 + 1))) (fun s' => pLits t tell F k s') else .inr (mpM M0 s)) = _
    split
    · rw [pLit_M, smp_b]
      cases pLit t tell F (s.1, s.2.1, s.2.2.1, s.2.2.2.1, s.2.2.2.2 + 1) with
      | inl w => rfl
      | inr a => exact pLits_M k a
    · rfl
/-- each ATOM is mentioned -/
def wQm (s : pRs) : Prop := (∀ y ∈ s.2.2.1, y.1 ≠ 3 → ∃ pl, (y.2.1, pl, (y.2.2.2.1.length : Int), (4 : Int)) ∈ s.2.2.2.1) ∧ s.2.2.2.1.length ≤ s.2.2.1.length ∧ pAtoms s.2.2.1 ≤ 3 ∧ s.2.2.1.length ≤ 8
theorem pAtoms_2 {l : List pLt} {y : pLt} : pAtoms (l ++ [y]) ≤ pAtoms l + 1 := by
  unfold pAtoms
  rw [List.filter_append, List.length_append]
  have : (List.filter (fun x => decide (x.1 = 1)) [y]).length ≤ 1 := List.length_filter_le _ [y]
  omega
theorem pLit_q {s s' : pRs} (h : pLit t tell F s = .inr s') (hs : wQm s) : wQm s' := by
  have atom : ∀ {k : Int} {s s' : pRs}, (k = 1 → pAtoms s.2.2.1 ≠ 3) → s.2.2.1.length ≤ 7 → pAtom t tell k s = .inr s' → wQm s → wQm s' := by
    intro k s s' hk h8 h hs
    unfold pAtom at h
    obtain ⟨p, h1, h2⟩ := pbind_inr h
    obtain ⟨j, _, h4⟩ := pbind_inr h2
    obtain ⟨y, h5, h6⟩ := pbind_inr h4
    obtain ⟨z, h7, h8'⟩ := pbind_inr h6
    obtain ⟨u, _, h10⟩ := pbind_inr h8'
    cases h10
    refine ⟨fun x hx h3 => ?_, ?_, ?_, ?_⟩
    · rcases List.mem_append.mp hx with q | q
      · obtain ⟨pl, hp⟩ := hs.1 x q h3
        exact ⟨pl, List.mem_append.mpr (.inl hp)⟩
      · rw [List.mem_singleton.mp q]
        exact ⟨_, List.mem_append.mpr (.inr (List.mem_singleton.mpr rfl))⟩
    · show (s.2.2.2.1 ++ _).length ≤ (s.2.2.1 ++ _).length
      rw [List.length_append, List.length_append, List.length_singleton, List.length_singleton]
      have := hs.2.1
      omega
    · show pAtoms (s.2.2.1 ++ _) ≤ 3
      have h3 := hs.2.2.1
      by_cases c : k = 1
      · have := hk c
        have := pAtoms_2 (l := s.2.2.1) (y := (k, p.1, kS t s.2.2.2.2, z.1, [], []))
        omega
      · rw [pAtoms_1, if_neg (by exact c)]
        exact h3
    · show (s.2.2.1 ++ _).length ≤ 8
      rw [List.length_append, List.length_singleton]
      omega
  have cmp : ∀ {s s' : pRs}, s.2.2.1.length ≤ 7 → pCmp t F s = .inr s' → wQm s → wQm s' := by
    intro s s' h8 h hs
    unfold pCmp at h
    obtain ⟨a, h1, h2⟩ := pbind_inr h
    split at h2
    · obtain ⟨b, h3, h4⟩ := pbind_inr h2
      cases h4
      refine ⟨fun x hx q3 => ?_, ?_, ?_, ?_⟩
      · rcases List.mem_append.mp hx with q | q
        · exact hs.1 x q q3
        · rw [List.mem_singleton.mp q] at q3
          exact absurd rfl q3
      · show s.2.2.2.1.length ≤ (s.2.2.1 ++ _).length
        rw [List.length_append]
        have := hs.2.1
        omega
      · show pAtoms (s.2.2.1 ++ _) ≤ 3
        rw [pAtoms_1, if_neg (show ¬ (3 : Int) = 1 by decide)]
        exact hs.2.2.1
      · show (s.2.2.1 ++ _).length ≤ 8
        rw [List.length_append, List.length_singleton]
        omega
    · cases h2
  unfold pLit at h
  split at h
  · cases h
  rename_i c8
  have h7 : s.2.2.1.length ≤ 7 := by have := hs.2.2.2; omega
  split at h
  · exact atom (s := (s.1, s.2.1, s.2.2.1, s.2.2.2.1, s.2.2.2.2 + 1)) (fun q => absurd q (by decide)) h7 h hs
  split at h
  · split at h
    · cases h
    split at h
    · split at h
      · cases h
      · rename_i c3
        exact atom (fun _ => c3) h7 h hs
    split at h
    · cases h
    · exact cmp h7 h hs
  · exact cmp h7 h hs
theorem pLits_q : ∀ {k : Nat} {s s' : pRs}, pLits t tell F k s = .inr s' → wQm s → wQm s' := by
  intro k
  induction k with
  | zero => intro s s' h hs; cases h; exact hs
  | succ k ih =>
    intro s s' h hs
    unfold pLits at h
    split at h
    · obtain ⟨u, g1, g2⟩ := pbind_inr h
      exact ih g2 (pLit_q g1 hs)
    · cases h; exact hs
/-- NAMES stay -/
theorem pLit_N {s s' : pRs} (h : pLit t false F s = .inr s') : s'.1 = s.1 := by
  have atom : ∀ {k : Int} {s s' : pRs}, pAtom t false k s = .inr s' → s'.1 = s.1 := by
    intro k s s' h
    unfold pAtom at h
    rw [if_neg (by decide)] at h
    obtain ⟨p, h1, h2⟩ := pbind_inr h
    obtain ⟨r, h1a, h1b⟩ := pbind_inr h1
    obtain ⟨j, _, h4⟩ := pbind_inr h2
    obtain ⟨y, h5, h6⟩ := pbind_inr h4
    obtain ⟨z, h7, h8'⟩ := pbind_inr h6
    obtain ⟨u, _, h10⟩ := pbind_inr h8'
    cases h1b
    cases h10
    rfl
  have cmp : ∀ {s s' : pRs}, pCmp t F s = .inr s' → s'.1 = s.1 := by
    intro s s' h
    unfold pCmp at h
    obtain ⟨a, h1, h2⟩ := pbind_inr h
    split at h2
    · obtain ⟨b, h3, h4⟩ := pbind_inr h2
      cases h4
      rfl
    · cases h2
  unfold pLit at h
  split at h
  · cases h
  split at h
  · exact atom (s := (s.1, s.2.1, s.2.2.1, s.2.2.2.1, s.2.2.2.2 + 1)) h
  split at h
  · split at h
    · cases h
    split at h
    · split at h
      · cases h
      · exact atom h
    split at h
    · cases h
    · exact cmp h
  · exact cmp h
theorem pLits_N : ∀ {k : Nat} {s s' : pRs}, pLits t false F k s = .inr s' → s'.1 = s.1 := by
  intro k
  induction k with
  | zero => intro s s' h; cases h; rfl
  | succ k ih =>
    intro s s' h
    unfold pLits at h
    split at h
    · obtain ⟨u, g1, g2⟩ := pbind_inr h
      exact (ih g2).trans (pLit_N (s := (s.1, s.2.1, s.2.2.1, s.2.2.2.1, s.2.2.2.2 + 1)) g1)
    · cases h; rfl
end
/-- a QUERY's text over a program -/
def qQu (t : List Int) (N : List Int) : Nat ⊕ pRs := pQuery (tstr (tBt t) t.length false) (4 * (t.length + 1) + 4) N
/-- the FAULTS of a QUERY -/
def qQf (s : pPg) (r : pRs) (k a : Int) : Prop := (k = 2 ∧ ∃ m ∈ r.2.2.2.1, m.1 = -1 ∧ a = (m.2.1 : Int)) ∨ (k = 3 ∧ ∃ m ∈ r.2.2.2.1, m.1 ≠ -1 ∧ pNn s.2.2.2.1 m.1 ≠ m.2.2.1 ∧ a = (m.2.1 : Int)) ∨ (k = 4 ∧ ∃ v, isF4 r.2.1 r.2.2.1 v ∧ a = ((r.2.1.getD v (0, 0)).2 : Int))
theorem qQu_wf {t N : List Int} {r : pRs} (hB : tTx (tBt t) t.length) (h : qQu t N = .inr r) : r.1 = N ∧ wQm r ∧ wRs false r := by
  unfold qQu pQuery at h
  obtain ⟨a, h1, h⟩ := pbind_inr h
  obtain ⟨b, h2, h⟩ := pbind_inr h
  obtain ⟨i, h3, h⟩ := pbind_inr h
  have hok := (tstr_ck (lm := false) hB).2
  have w0 : wRs false (N, [], [], [], 0) := ⟨fun l hl => (by cases hl), fun q => absurd q (by decide), fun l hl => (by cases hl), fun q => absurd q (by decide)⟩
  have w1 := pLit_wf hok h1 w0
  have w2 := pLits_wf hok h2 w1
  have q0 : wQm ((N, [], [], [], 0) : pRs) := ⟨fun l hl => (by cases hl), Nat.le_refl _, Nat.zero_le _, Nat.zero_le _⟩
  have q2 := pLits_q h2 (pLit_q h1 q0)
  have n2 := (pLits_N h2).trans (pLit_N h1)
  split at h
  · cases h
    exact ⟨n2, q2, w2⟩
  · cases h
