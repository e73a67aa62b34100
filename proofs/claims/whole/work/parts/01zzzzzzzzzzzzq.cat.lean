/-! ATOMS are told of with their parts: in a program without FAULTS they have as many as the predicate -/
def wAl (L : List pLt) (M : List pMn) : Prop := ∀ y ∈ L, y.1 ≠ 3 → ∃ a, (y.2.1, a, (y.2.2.2.1.length : Int), (4 : Int)) ∈ M
theorem wAl.mo {L : List pLt} {M M' : List pMn} (h : wAl L M) (hM : ∀ m ∈ M, m ∈ M') : wAl L M' := fun y hy h3 => by
  obtain ⟨a, ha⟩ := h y hy h3
  exact ⟨a, hM _ ha⟩
theorem pAtom_al {t : tStr} {tell : Bool} {k : Int} {s s' : pRs} (h : pAtom t tell k s = .inr s') (hs : wAl s.2.2.1 s.2.2.2.1) : wAl s'.2.2.1 s'.2.2.2.1 := by
  unfold pAtom at h
  obtain ⟨p, h1, h2⟩ := pbind_inr h
  obtain ⟨j, h3, h4⟩ := pbind_inr h2
  obtain ⟨y, h5, h6⟩ := pbind_inr h4
  obtain ⟨z, h7, h8⟩ := pbind_inr h6
  obtain ⟨u, h9, h10⟩ := pbind_inr h8
  cases h10
  intro m hm h3
  rcases List.mem_append.mp hm with q | q
  · obtain ⟨a, ha⟩ := hs m q h3
    exact ⟨a, List.mem_append.mpr (.inl ha)⟩
  · rw [List.mem_singleton.mp q]
    exact ⟨_, List.mem_append.mpr (.inr (List.mem_singleton.mpr rfl))⟩
theorem pCmp_al {t : tStr} {F : Nat} {s s' : pRs} (h : pCmp t F s = .inr s') (hs : wAl s.2.2.1 s.2.2.2.1) : wAl s'.2.2.1 s'.2.2.2.1 := by
  unfold pCmp at h
  obtain ⟨x, g1, g2⟩ := pbind_inr h
  split at g2
  · obtain ⟨b, g3, g4⟩ := pbind_inr g2
    cases g4
    intro m hm h3
    rcases List.mem_append.mp hm with q | q
    · exact hs m q h3
    · rw [List.mem_singleton.mp q] at h3; exact absurd rfl h3
  · cases g2
theorem pLit_al {t : tStr} {tell : Bool} {F : Nat} {s s' : pRs} (h : pLit t tell F s = .inr s') (hs : wAl s.2.2.1 s.2.2.2.1) : wAl s'.2.2.1 s'.2.2.2.1 := by
  unfold pLit at h
  split at h
  · cases h
  split at h
  · have q := pAtom_al h
    exact q hs
  split at h
  · split at h
    · cases h
    split at h
    · split at h
      · cases h
      · exact pAtom_al h hs
    split at h
    · cases h
    · exact pCmp_al h hs
  · exact pCmp_al h hs
theorem pLits_al {t : tStr} {tell : Bool} {F : Nat} : ∀ {k : Nat} {s s' : pRs}, pLits t tell F k s = .inr s' → wAl s.2.2.1 s.2.2.2.1 → wAl s'.2.2.1 s'.2.2.2.1 := by
  intro k
  induction k with
  | zero => intro s s' h hs; cases h; exact hs
  | succ k ih =>
    intro s s' h hs
    unfold pLits at h
    split at h
    · obtain ⟨u, g1, g2⟩ := pbind_inr h
      have q := pLit_al g1
      exact ih g2 (q hs)
    · cases h; exact hs
def wAm (s : pPg) : Prop := ∀ u ∈ s.2.2.2.2.1, wAl u.2.2.2.2.2 s.2.2.2.1
theorem pRule_am {t : tStr} {F : Nat} {s s' : pPg} (h : pRule t F s = .inr s') (hs : wAm s) : wAm s' := by
  unfold pRule at h
  split at h
  · cases h
  obtain ⟨p, h1, h⟩ := pbind_inr h
  obtain ⟨i, h2, h⟩ := pbind_inr h
  obtain ⟨a, h3, h⟩ := pbind_inr h
  obtain ⟨a', h4, h⟩ := pbind_inr h
  obtain ⟨i', h5, h⟩ := pbind_inr h
  obtain ⟨l, h6, h⟩ := pbind_inr h
  obtain ⟨i'', h7, h⟩ := pbind_inr h
  have h0 : wAl [] (s.2.2.2.1 ++ [(p.1, kS t s.2.2.2.2.2, (a'.2.2.1.length : Int), (3 : Int))]) := fun y hy => by cases hy
  have hl : (∀ m ∈ s.2.2.2.1 ++ [(p.1, kS t s.2.2.2.2.2, (a'.2.2.1.length : Int), (3 : Int))], m ∈ l.2.2.2.1) ∧ wAl l.2.2.1 l.2.2.2.1 := by
    split at h6
    · obtain ⟨u, g1, g2⟩ := pbind_inr h6
      exact ⟨fun m hm => pLits_mm g2 m (pLit_mm g1 m hm), pLits_al g2 (pLit_al g1 h0)⟩
    · cases h6
      exact ⟨fun m hm => hm, h0⟩
  cases h
  intro u hu
  rcases List.mem_append.mp hu with b | b
  · exact (hs u b).mo (fun m hm => hl.1 m (List.mem_append.mpr (.inl hm)))
  · rw [List.mem_singleton.mp b]
    exact hl.2
theorem pProg_am {t : tStr} {F : Nat} : ∀ {k : Nat} {s s' : pPg}, pProg t F k s = .inr s' → wAm s → wAm s' := by
  intro k
  induction k with
  | zero => intro s s' h; cases h
  | succ k ih =>
    intro s s' h hs
    unfold pProg at h
    split at h
    · cases h; exact hs
    · obtain ⟨u, g1, g2⟩ := pbind_inr h
      refine ih g2 ?_
      split at g1
      · unfold pInput at g1
        obtain ⟨p, h1, g1⟩ := pbind_inr g1
        obtain ⟨i, h2, g1⟩ := pbind_inr g1
        obtain ⟨n, h3, g1⟩ := pbind_inr g1
        obtain ⟨q, h4, g1⟩ := pbind_inr g1
        obtain ⟨i', h5, g1⟩ := pbind_inr g1
        cases g1
        exact fun u hu => (hs u hu).mo (fun m hm => List.mem_append.mpr (.inl hm))
      split at g1
      · unfold pOutput at g1
        obtain ⟨p, h1, g1⟩ := pbind_inr g1
        obtain ⟨i, h2, g1⟩ := pbind_inr g1
        cases g1
        exact fun u hu => (hs u hu).mo (fun m hm => List.mem_append.mpr (.inl hm))
      · exact pRule_am g1 hs
theorem wAm_n {s : pPg} (hok : qOk s) (hm : wAm s) {u : pRu} (hu : u ∈ s.2.2.2.2.1) {y : pLt} (hy : y ∈ u.2.2.2.2.2) (h3 : y.1 ≠ 3) : 0 ≤ y.2.1 ∧ y.2.2.2.1.length = qN s y.2.1.toNat := by
  obtain ⟨w1, w2, w3, w4, w5, w6, w7, w8, w9⟩ := hok.1.2.2.2.2.2.2 u hu
  obtain ⟨z1, z2⟩ := w9 y hy
  have h0 := z2 h3
  refine ⟨h0, ?_⟩
  have hlt : y.2.1 < s.1.length := by
    rcases z1 with ⟨_, _, z, _⟩ | ⟨z, _⟩
    · exact z
    · exact absurd z h3
  obtain ⟨p, hp⟩ : ∃ p : Nat, y.2.1 = (p : Int) := ⟨y.2.1.toNat, by omega⟩
  obtain ⟨a, ha⟩ := hm u hu y hy h3
  obtain ⟨i, hi, ei⟩ := List.getElem_of_mem ha
  have e1 : mN s.2.2.2.1 i = (p : Int) := by unfold mN; rw [getD_e hi, ei]; exact hp
  have e2 : mK s.2.2.2.1 i = (y.2.2.2.1.length : Int) := by unfold mK; rw [getD_e hi, ei]
  have hne : mK s.2.2.2.1 i ≠ -1 := by rw [e2]; omega
  have e3 := (qN_c hok.1 p).1
  rw [hp, Int.toNat_natCast]
  refine Classical.byContradiction (fun q => hok.2.2 3 (((0 : Nat) : Int) + mP s.2.2.2.1 i) (.inl (.inl (.inr ⟨rfl, p, i, Nat.zero_le _, ?_, ⟨hi, e1, hne, ?_⟩, rfl⟩))))
  · omega
  · rw [e2, ← e3]
    omega
/-! INPUTS are told once -/
def mIn (M : List pMn) : List Int := (M.filter (fun m => decide (m.2.2.2 = 1))).map (·.1)
theorem mIn_o {M : List pMn} {m : pMn} (h : m.2.2.2 ≠ 1) : mIn (M ++ [m]) = mIn M := by
  unfold mIn
  rw [List.filter_append, List.filter_cons_of_neg (by rw [decide_eq_false h]; decide)]
  simp
theorem mIn_i {M : List pMn} {m : pMn} (h : m.2.2.2 = 1) : mIn (M ++ [m]) = mIn M ++ [m.1] := by
  unfold mIn
  rw [List.filter_append, List.filter_cons_of_pos (by rw [decide_eq_true h])]
  simp
theorem pAtom_mi {t : tStr} {tell : Bool} {k : Int} {s s' : pRs} (h : pAtom t tell k s = .inr s') : mIn s'.2.2.2.1 = mIn s.2.2.2.1 := by
  unfold pAtom at h
  obtain ⟨p, h1, h2⟩ := pbind_inr h
  obtain ⟨j, h3, h4⟩ := pbind_inr h2
  obtain ⟨y, h5, h6⟩ := pbind_inr h4
  obtain ⟨z, h7, h8⟩ := pbind_inr h6
  obtain ⟨u, h9, h10⟩ := pbind_inr h8
  cases h10
  exact mIn_o (by show (4 : Int) ≠ 1; decide)
theorem pCmp_mi {t : tStr} {F : Nat} {s s' : pRs} (h : pCmp t F s = .inr s') : mIn s'.2.2.2.1 = mIn s.2.2.2.1 := by
  unfold pCmp at h
  obtain ⟨x, g1, g2⟩ := pbind_inr h
  split at g2
  · obtain ⟨b, g3, g4⟩ := pbind_inr g2
    cases g4
    rfl
  · cases g2
theorem pLit_mi {t : tStr} {tell : Bool} {F : Nat} {s s' : pRs} (h : pLit t tell F s = .inr s') : mIn s'.2.2.2.1 = mIn s.2.2.2.1 := by
  unfold pLit at h
  split at h
  · cases h
  split at h
  · have q := pAtom_mi h
    exact q
  split at h
  · split at h
    · cases h
    split at h
    · split at h
      · cases h
      · exact pAtom_mi h
    split at h
    · cases h
    · exact pCmp_mi h
  · exact pCmp_mi h
theorem pLits_mi {t : tStr} {tell : Bool} {F : Nat} : ∀ {k : Nat} {s s' : pRs}, pLits t tell F k s = .inr s' → mIn s'.2.2.2.1 = mIn s.2.2.2.1 := by
  intro k
  induction k with
  | zero => intro s s' h; cases h; rfl
  | succ k ih =>
    intro s s' h
    unfold pLits at h
    split at h
    · obtain ⟨u, g1, g2⟩ := pbind_inr h
      have q := pLit_mi g1
      exact (ih g2).trans q
    · cases h; rfl
theorem pProg_mi {t : tStr} {F : Nat} : ∀ {k : Nat} {s s' : pPg}, pProg t F k s = .inr s' → mIn s.2.2.2.1 = s.2.1.map (·.1) → mIn s'.2.2.2.1 = s'.2.1.map (·.1) := by
  intro k
  induction k with
  | zero => intro s s' h; cases h
  | succ k ih =>
    intro s s' h hs
    unfold pProg at h
    split at h
    · cases h; exact hs
    · obtain ⟨u, g1, g2⟩ := pbind_inr h
      refine ih g2 ?_
      split at g1
      · unfold pInput at g1
        obtain ⟨p, h1, g1⟩ := pbind_inr g1
        obtain ⟨i, h2, g1⟩ := pbind_inr g1
        obtain ⟨n, h3, g1⟩ := pbind_inr g1
        obtain ⟨q, h4, g1⟩ := pbind_inr g1
        obtain ⟨i', h5, g1⟩ := pbind_inr g1
        cases g1
        show mIn (s.2.2.2.1 ++ [(p.1, kS t (s.2.2.2.2.2 + 1), n.1, 1)]) = (s.2.1 ++ [(p.1, n.1, q.1)]).map (·.1)
        rw [mIn_i rfl, List.map_append, hs]
        rfl
      split at g1
      · unfold pOutput at g1
        obtain ⟨p, h1, g1⟩ := pbind_inr g1
        obtain ⟨i, h2, g1⟩ := pbind_inr g1
        cases g1
        show mIn (s.2.2.2.1 ++ [_]) = s.2.1.map (·.1)
        rw [mIn_o (by show (2 : Int) ≠ 1; decide), hs]
      · unfold pRule at g1
        split at g1
        · cases g1
        obtain ⟨p, h1, g1⟩ := pbind_inr g1
        obtain ⟨i, h2, g1⟩ := pbind_inr g1
        obtain ⟨a, h3, g1⟩ := pbind_inr g1
        obtain ⟨a', h4, g1⟩ := pbind_inr g1
        obtain ⟨i', h5, g1⟩ := pbind_inr g1
        obtain ⟨l, h6, g1⟩ := pbind_inr g1
        obtain ⟨i'', h7, g1⟩ := pbind_inr g1
        have h0 : mIn (s.2.2.2.1 ++ [(p.1, kS t s.2.2.2.2.2, (a'.2.2.1.length : Int), (3 : Int))]) = s.2.1.map (·.1) := by rw [mIn_o (by show (3 : Int) ≠ 1; decide), hs]
        have hl : mIn l.2.2.2.1 = s.2.1.map (·.1) := by
          split at h6
          · obtain ⟨u, x1, x2⟩ := pbind_inr h6
            rw [pLits_mi x2, pLit_mi x1]
            exact h0
          · cases h6
            exact h0
        cases g1
        exact hl
def inNd (s : pPg) : Prop := (s.2.1.map (·.1)).Nodup
theorem inNd_of {s : pPg} (h : mIn s.2.2.2.1 = s.2.1.map (·.1)) (hf : ∀ k a, ¬ pFa s 0 k a) : inNd s := by
  unfold inNd
  rw [← h]
  unfold mIn
  rw [List.nodup_iff_pairwise_ne, List.pairwise_map]
  have hp : s.2.2.2.1.Pairwise (fun a b => a.2.2.2 = 1 → b.2.2.2 = 1 → a.1 ≠ b.1) := by
    rw [List.pairwise_iff_getElem]
    intro i j hi hj hij h1 h2 e
    refine hf 1 (((0 : Nat) : Int) + mP s.2.2.2.1 j) (.inl (.inl (.inl ⟨j, Nat.zero_le _, hj, .inl ⟨rfl, rfl, i, Nat.zero_le _, hij, ?_, ?_⟩⟩)))
    · unfold mN; rw [getD_e hi, getD_e hj]; exact e
    · unfold mW; rw [getD_e hi, getD_e hj, h1, h2]; unfold twc; omega
  refine List.Pairwise.imp_of_mem (fun {a b} ha hb hr => ?_) (hp.filter _)
  exact hr (of_decide_eq_true (List.mem_filter.mp ha).2) (of_decide_eq_true (List.mem_filter.mp hb).2)
theorem pKl_e {s : pPg} (h : inNd s) (p : Int) : pKl s.2.1 p = pKy s.2.1 p := by
  unfold pKl pKy
  have key : ∀ (l : List (Int × Int × Int)), (l.map (·.1)).Nodup → l.reverse.find? (fun x => decide (x.1 = p)) = l.find? (fun x => decide (x.1 = p)) := by
    intro l
    induction l with
    | nil => intro _; rfl
    | cons a l ih =>
      intro hn
      rw [List.map_cons, List.nodup_cons] at hn
      rw [List.reverse_cons, List.find?_append, ih hn.2]
      by_cases c : a.1 = p
      · have hnone : l.find? (fun x => decide (x.1 = p)) = none := List.find?_eq_none.mpr (fun x hx => by
          intro q
          have e := of_decide_eq_true q
          exact hn.1 (List.mem_map.mpr ⟨x, hx, e.trans c.symm⟩))
        rw [hnone, List.find?_cons_of_pos (by rw [decide_eq_true c]), List.find?_cons_of_pos (by rw [decide_eq_true c])]
        rfl
      · rw [List.find?_cons_of_neg (l := l) (by rw [decide_eq_false c]; decide), List.find?_cons_of_neg (by rw [decide_eq_false c]; decide)]
        cases l.find? (fun x => decide (x.1 = p)) <;> rfl
  rw [key _ h]
/-- all that the class asks of a program without FAULTS -/
def qOc (s : pPg) : Prop := qOk s ∧ dRs s.2.2.2.2.1 ∧ wAm s ∧ wIH s ∧ wNh s ∧ inNd s ∧ ∀ p, p < s.1.length → pIn s.2.1 (p : Int) = true → qKy s p < qN s p
theorem qOc_of {tx : List Int} {s : pPg} (hB : tTx (tBt tx) tx.length) (h : qPr tx = .inr s) (hok : qOk s) : qOc s :=
  ⟨hok, qPr_d hB h, pProg_am h (fun u hu => absurd hu (by simp)), wIH_of h hok.1 hok.2.2, wNh_of h hok.2.2, inNd_of (pProg_mi h rfl) hok.2.2, fun p hp hi => key_lt h hok hp hi⟩
