/-! What is told is known; the first of FAULTS is the least -/
def wKn (s : pPg) : Prop := ∀ m ∈ s.2.2.2.1, (m.2.2.2 = 1 → pIn s.2.1 m.1 = true) ∧ (m.2.2.2 = 3 → pHd s.2.2.2.2.1 m.1 = true)
theorem pAtom_m4 {t : tStr} {tell : Bool} {k : Int} {s s' : pRs} (h : pAtom t tell k s = .inr s') : ∀ m ∈ s'.2.2.2.1, m ∈ s.2.2.2.1 ∨ m.2.2.2 = 4 := by
  unfold pAtom at h
  obtain ⟨p, h1, h2⟩ := pbind_inr h
  obtain ⟨j, h3, h4⟩ := pbind_inr h2
  obtain ⟨y, h5, h6⟩ := pbind_inr h4
  obtain ⟨z, h7, h8⟩ := pbind_inr h6
  obtain ⟨u, h9, h10⟩ := pbind_inr h8
  cases h10
  intro m hm
  rcases List.mem_append.mp hm with q | q
  · exact .inl q
  · rw [List.mem_singleton.mp q]; exact .inr rfl
theorem pCmp_m4 {t : tStr} {F : Nat} {s s' : pRs} (h : pCmp t F s = .inr s') : ∀ m ∈ s'.2.2.2.1, m ∈ s.2.2.2.1 ∨ m.2.2.2 = 4 := by
  unfold pCmp at h
  obtain ⟨x, g1, g2⟩ := pbind_inr h
  split at g2
  · obtain ⟨b, g3, g4⟩ := pbind_inr g2
    cases g4
    exact fun m hm => .inl hm
  · cases g2
theorem pLit_m4 {t : tStr} {tell : Bool} {F : Nat} {s s' : pRs} (h : pLit t tell F s = .inr s') : ∀ m ∈ s'.2.2.2.1, m ∈ s.2.2.2.1 ∨ m.2.2.2 = 4 := by
  unfold pLit at h
  split at h
  · cases h
  split at h
  · have q := pAtom_m4 h
    exact q
  split at h
  · split at h
    · cases h
    split at h
    · split at h
      · cases h
      · exact pAtom_m4 h
    split at h
    · cases h
    · exact pCmp_m4 h
  · exact pCmp_m4 h
theorem pLits_m4 {t : tStr} {tell : Bool} {F : Nat} : ∀ {k : Nat} {s s' : pRs}, pLits t tell F k s = .inr s' → ∀ m ∈ s'.2.2.2.1, m ∈ s.2.2.2.1 ∨ m.2.2.2 = 4 := by
  intro k
  induction k with
  | zero => intro s s' h; cases h; exact fun m hm => .inl hm
  | succ k ih =>
    intro s s' h
    unfold pLits at h
    split at h
    · obtain ⟨u, g1, g2⟩ := pbind_inr h
      intro m hm
      rcases ih g2 m hm with q | q
      · exact pLit_m4 g1 m q
      · exact .inr q
    · cases h; exact fun m hm => .inl hm
theorem pRule_kn {t : tStr} {F : Nat} {s s' : pPg} (h : pRule t F s = .inr s') (hs : wKn s) : wKn s' := by
  unfold pRule at h
  split at h
  · cases h
  obtain ⟨p, h1, h⟩ := pbind_inr h
  obtain ⟨i, h2, h⟩ := pbind_inr h
  obtain ⟨a, h3, h⟩ := pbind_inr h
  obtain ⟨a', h4, h⟩ := pbind_inr h
  obtain ⟨i', h5, h⟩ := pbind_inr h
  obtain ⟨l, h6, h⟩ := pbind_inr h
  obtain ⟨i'', h7, h⟩ := pbind_inr h
  have hl : ∀ m ∈ l.2.2.2.1, m ∈ s.2.2.2.1 ++ [(p.1, kS t s.2.2.2.2.2, (a'.2.2.1.length : Int), (3 : Int))] ∨ m.2.2.2 = 4 := by
    split at h6
    · obtain ⟨u, g1, g2⟩ := pbind_inr h6
      intro m hm
      rcases pLits_m4 g2 m hm with q | q
      · exact pLit_m4 g1 m q
      · exact .inr q
    · cases h6
      exact fun m hm => .inl hm
  cases h
  have up : ∀ x, pHd s.2.2.2.2.1 x = true → ∀ u, pHd (s.2.2.2.2.1 ++ [u]) x = true := fun x hx u => by
    unfold pHd at hx ⊢
    rw [List.any_append, hx]; rfl
  intro m hm
  rcases hl m hm with q | q
  · rcases List.mem_append.mp q with q | q
    · exact ⟨(hs m q).1, fun e => up _ ((hs m q).2 e) _⟩
    · rw [List.mem_singleton.mp q]
      refine ⟨fun e => absurd e (by show ¬ (3 : Int) = 1; decide), fun _ => ?_⟩
      show pHd (_ ++ [_]) p.1 = true
      unfold pHd
      rw [List.any_append]
      simp
  · exact ⟨fun e => by omega, fun e => by omega⟩
theorem pProg_kn {t : tStr} {F : Nat} : ∀ {k : Nat} {s s' : pPg}, pProg t F k s = .inr s' → wKn s → wKn s' := by
  intro k
  induction k with
  | zero => intro s s' h; cases h
  | succ k ih =>
    intro s s' h hs
    unfold pProg at h
    split at h
    · cases h; exact hs
    · obtain ⟨u, g1, g2⟩ := pbind_inr h
      refine ih g2 ?_
      split at g1
      · unfold pInput at g1
        obtain ⟨p, h1, g1⟩ := pbind_inr g1
        obtain ⟨i, h2, g1⟩ := pbind_inr g1
        obtain ⟨n, h3, g1⟩ := pbind_inr g1
        obtain ⟨q, h4, g1⟩ := pbind_inr g1
        obtain ⟨i', h5, g1⟩ := pbind_inr g1
        cases g1
        intro m hm
        rcases List.mem_append.mp hm with b | b
        · refine ⟨fun e => ?_, (hs m b).2⟩
          have := (hs m b).1 e
          show pIn (_ ++ [_]) m.1 = true
          unfold pIn at this ⊢
          rw [List.any_append, this]; rfl
        · rw [List.mem_singleton.mp b]
          refine ⟨fun _ => ?_, fun e => absurd e (by show ¬ (1 : Int) = 3; decide)⟩
          show pIn (_ ++ [_]) p.1 = true
          unfold pIn
          rw [List.any_append]
          simp
      split at g1
      · unfold pOutput at g1
        obtain ⟨p, h1, g1⟩ := pbind_inr g1
        obtain ⟨i, h2, g1⟩ := pbind_inr g1
        cases g1
        intro m hm
        rcases List.mem_append.mp hm with b | b
        · exact hs m b
        · rw [List.mem_singleton.mp b]
          exact ⟨fun e => absurd e (by show ¬ (2 : Int) = 1; decide), fun e => absurd e (by show ¬ (2 : Int) = 3; decide)⟩
      · exact pRule_kn g1 hs
/-- k, x: the least of FAULTS -/
def fLs (P : Int → Int → Prop) (k x : Int) : Prop := P k x ∧ ∀ k' a', P k' a' → k < k' ∨ k = k' ∧ x ≤ a'
section
variable {s : pPg} {x : Int}
theorem fMp.none {M : List pMn} {P : Nat → Prop} (h : fMp M P 0 x) (c : x = -1) : ∀ i, i < M.length → ¬ P i := by
  rcases h with ⟨_, a2⟩ | ⟨i, _, _, _, _, a5⟩
  · exact fun i hi => a2 i (Nat.zero_le _) hi
  · rw [c] at a5; omega
theorem fMp.some {M : List pMn} {P : Nat → Prop} (h : fMp M P 0 x) (c : x ≠ -1) (hso : ∀ i j, i < j → j < M.length → mP M i < mP M j) : ∃ i, i < M.length ∧ P i ∧ x = (mP M i : Int) ∧ ∀ j, j < M.length → P j → (mP M i : Int) ≤ (mP M j : Int) := by
  rcases h with ⟨a1, _⟩ | ⟨i, a1, a2, a3, a4, a5⟩
  · exact absurd a1 c
  · refine ⟨i, a2, a3, a5, fun j hj pj => ?_⟩
    by_cases cj : j < i
    · exact absurd pj (a4 j (Nat.zero_le _) cj)
    · by_cases ce : j = i
      · rw [ce]; exact Int.le_refl _
      · have := hso i j (by omega) hj
        omega
theorem fRp.none {R : List pRu} {P : pRu → Prop} (h : fRp R P 0 x) (c : x = -1) : ∀ i, i < R.length → ¬ P (R.getD i dRu) := by
  rcases h with ⟨_, a2⟩ | ⟨i, _, _, _, _, a5⟩
  · exact fun i hi => a2 i (Nat.zero_le _) hi
  · rw [c] at a5; omega
theorem pFa_ge1 {k a : Int} (h : pFa s 0 k a) : 1 ≤ k := by
  rcases h with ((⟨y, _, _, ⟨e, _⟩ | ⟨e, _⟩⟩ | ⟨e, _⟩) | ⟨e, _⟩) | ⟨_, e, _⟩ <;> omega
theorem fa_1 (hso : ∀ i j, i < j → j < s.2.2.2.1.length → mP s.2.2.2.1 i < mP s.2.2.2.1 j) (h : fMp s.2.2.2.1 (fun i => isF1 s.2.2.2.1 i 0) 0 x) (c : x ≠ -1) : fLs (pFa s 0) 1 x := by
  obtain ⟨i, a1, a2, a3, a4⟩ := h.some c hso
  refine ⟨.inl (.inl (.inl ⟨i, Nat.zero_le _, a1, .inl ⟨rfl, by rw [a3]; omega, a2⟩⟩)), fun k' a' hk => ?_⟩
  have g := pFa_ge1 hk
  rcases hk with ((⟨y, y1, y2, ⟨e, ea, eb⟩ | ⟨e, _⟩⟩ | ⟨e, _⟩) | ⟨e, _⟩) | ⟨_, e, _⟩
  · have := a4 y y2 eb
    exact .inr ⟨e.symm, by omega⟩
  all_goals exact .inl (by omega)
/-- no FAULT below k -/
def fNo (s : pPg) (k : Int) : Prop := ∀ k' a', pFa s 0 k' a' → k ≤ k'
theorem fa_n1 (h : fMp s.2.2.2.1 (fun i => isF1 s.2.2.2.1 i 0) 0 x) (c : x = -1) : fNo s 2 := by
  have a := h.none c
  intro k' a' hk
  rcases hk with ((⟨y, y1, y2, ⟨e, ea, eb⟩ | ⟨e, _⟩⟩ | ⟨e, _⟩) | ⟨e, _⟩) | ⟨_, e, _⟩
  · exact absurd eb (a y y2)
  all_goals omega
def isK2 (s : pPg) (i : Nat) : Prop := mN s.2.2.2.1 i = -1 ∨ pIn s.2.1 ((mN s.2.2.2.1 i).toNat : Int) = false ∧ pHd s.2.2.2.2.1 ((mN s.2.2.2.1 i).toNat : Int) = false
theorem mm_at {M : List pMn} {i : Nat} (hi : i < M.length) : (mN M i, mP M i, mK M i, mW M i) ∈ M := by
  have e : (mN M i, mP M i, mK M i, mW M i) = M.getD i (0, 0, 0, 0) := rfl
  rw [e, getD_e hi]
  exact List.getElem_mem hi
theorem isK2_iff (hw : wPg s) (hk : wKn s) {i : Nat} (hi : i < s.2.2.2.1.length) : isK2 s i ↔ isF2 s.2.1 s.2.2.2.2.1 s.2.2.2.1 i := by
  have hm := mm_at hi
  obtain ⟨b1, b2, b3⟩ := hw.2.2.2.2.1 _ hm
  obtain ⟨k1, k3⟩ := hk _ hm
  replace b1 : 0 ≤ mN s.2.2.2.1 i := b1
  replace b3 : mW s.2.2.2.1 i = 2 ∧ mK s.2.2.2.1 i = -1 ∨ (mW s.2.2.2.1 i = 1 ∨ mW s.2.2.2.1 i = 3 ∨ mW s.2.2.2.1 i = 4) ∧ 1 ≤ mK s.2.2.2.1 i ∧ mK s.2.2.2.1 i ≤ 4 := b3
  replace k1 : mW s.2.2.2.1 i = 1 → pIn s.2.1 (mN s.2.2.2.1 i) = true := k1
  replace k3 : mW s.2.2.2.1 i = 3 → pHd s.2.2.2.2.1 (mN s.2.2.2.1 i) = true := k3
  unfold isK2 isF2
  rw [Int.toNat_of_nonneg b1]
  constructor
  · rintro (e | ⟨e1, e2⟩)
    · omega
    · refine ⟨?_, e1, e2⟩
      rcases b3 with ⟨w, _⟩ | ⟨w | w | w, _⟩
      · exact .inr w
      · rw [k1 w] at e1; cases e1
      · rw [k3 w] at e2; cases e2
      · exact .inl w
  · rintro ⟨_, e1, e2⟩
    exact .inr ⟨e1, e2⟩
theorem fa_2 (hw : wPg s) (hk : wKn s) (hso : ∀ i j, i < j → j < s.2.2.2.1.length → mP s.2.2.2.1 i < mP s.2.2.2.1 j) (hn : fNo s 2) (h : fMp s.2.2.2.1 (isK2 s) 0 x) (c : x ≠ -1) : fLs (pFa s 0) 2 x := by
  obtain ⟨i, a1, a2, a3, a4⟩ := h.some c hso
  refine ⟨.inl (.inl (.inl ⟨i, Nat.zero_le _, a1, .inr ⟨rfl, by rw [a3]; omega, (isK2_iff hw hk a1).mp a2⟩⟩)), fun k' a' hk' => ?_⟩
  have g := hn _ _ hk'
  rcases hk' with ((⟨y, y1, y2, ⟨e, ea, eb⟩ | ⟨e, ea, eb⟩⟩ | ⟨e, _⟩) | ⟨e, _⟩) | ⟨_, e, _⟩
  · omega
  · have := a4 y y2 ((isK2_iff hw hk y2).mpr eb)
    exact .inr ⟨e.symm, by omega⟩
  all_goals exact .inl (by omega)
theorem fa_n2 (hw : wPg s) (hk : wKn s) (hn : fNo s 2) (h : fMp s.2.2.2.1 (isK2 s) 0 x) (c : x = -1) : fNo s 3 := by
  have a := h.none c
  intro k' a' hk'
  have g := hn _ _ hk'
  rcases hk' with ((⟨y, y1, y2, ⟨e, ea, eb⟩ | ⟨e, ea, eb⟩⟩ | ⟨e, _⟩) | ⟨e, _⟩) | ⟨_, e, _⟩
  · omega
  · exact absurd ((isK2_iff hw hk y2).mpr eb) (a y y2)
  all_goals omega
def isK3 (s : pPg) (i : Nat) : Prop := mK s.2.2.2.1 i ≠ -1 ∧ mK s.2.2.2.1 i ≠ pNn s.2.2.2.1 ((mN s.2.2.2.1 i).toNat : Int)
theorem isK3_iff (hw : wPg s) {i : Nat} (hi : i < s.2.2.2.1.length) : isK3 s i ↔ ∃ z, 0 ≤ z ∧ z < s.1.length ∧ isF3 s.2.2.2.1 z i := by
  have hm := mm_at hi
  obtain ⟨b1, b2, b3⟩ := hw.2.2.2.2.1 _ hm
  replace b1 : 0 ≤ mN s.2.2.2.1 i := b1
  replace b2 : mN s.2.2.2.1 i < s.1.length := b2
  unfold isK3 isF3
  constructor
  · rintro ⟨e1, e2⟩
    exact ⟨(mN s.2.2.2.1 i).toNat, Nat.zero_le _, by omega, hi, by omega, e1, e2⟩
  · rintro ⟨z, _, z2, _, z4, z5, z6⟩
    refine ⟨z5, ?_⟩
    rw [z4]
    exact z6
theorem fa_3 (hw : wPg s) (hso : ∀ i j, i < j → j < s.2.2.2.1.length → mP s.2.2.2.1 i < mP s.2.2.2.1 j) (hn : fNo s 3) (h : fMp s.2.2.2.1 (isK3 s) 0 x) (c : x ≠ -1) : fLs (pFa s 0) 3 x := by
  obtain ⟨i, a1, a2, a3, a4⟩ := h.some c hso
  obtain ⟨z, z1, z2, z3⟩ := (isK3_iff hw a1).mp a2
  refine ⟨.inl (.inl (.inr ⟨rfl, z, i, z1, z2, z3, by rw [a3]; omega⟩)), fun k' a' hk' => ?_⟩
  have g := hn _ _ hk'
  rcases hk' with ((⟨y, y1, y2, ⟨e, ea, eb⟩ | ⟨e, ea, eb⟩⟩ | ⟨e, z', y, w1, w2, w3, w4⟩) | ⟨e, _⟩) | ⟨_, e, _⟩
  · omega
  · omega
  · have := a4 y w3.1 ((isK3_iff hw w3.1).mpr ⟨z', w1, w2, w3⟩)
    exact .inr ⟨e.symm, by omega⟩
  all_goals exact .inl (by omega)
theorem fa_n3 (hw : wPg s) (hn : fNo s 3) (h : fMp s.2.2.2.1 (isK3 s) 0 x) (c : x = -1) : fNo s 4 := by
  have a := h.none c
  intro k' a' hk'
  have g := hn _ _ hk'
  rcases hk' with ((⟨y, y1, y2, ⟨e, ea, eb⟩ | ⟨e, ea, eb⟩⟩ | ⟨e, z', y, w1, w2, w3, w4⟩) | ⟨e, _⟩) | ⟨_, e, _⟩
  · omega
  · omega
  · exact absurd ((isK3_iff hw w3.1).mpr ⟨z', w1, w2, w3⟩) (a y w3.1)
  all_goals omega
theorem fa_n4 (hn : fNo s 4) (h : fUp s.2.2.2.2.1 0 x) (c : x = -1) : fNo s 5 ∧ ∀ k a, ¬ qSa s.2.1 s.2.2.2.2.1 s.2.2.2.1 0 s.1.length 0 k a := by
  have a : ∀ i, i < s.2.2.2.2.1.length → ∀ v, v < (s.2.2.2.2.1.getD i dRu).2.2.2.2.1.length → (qBd (s.2.2.2.2.1.getD i dRu).2.2.2.2.2).testBit v = true := by
    rcases h with ⟨_, a2⟩ | ⟨i, _, _, _, a4, _⟩
    · exact fun i hi => a2 i (Nat.zero_le _) hi
    · exact absurd c a4
  have no : ∀ k a, ¬ qSa s.2.1 s.2.2.2.2.1 s.2.2.2.1 0 s.1.length 0 k a := by
    intro k' a' hk'
    have g := hn _ _ (.inl hk')
    rcases hk' with (⟨y, y1, y2, ⟨e, ea, eb⟩ | ⟨e, ea, eb⟩⟩ | ⟨e, _⟩) | ⟨e, y, y1, y2, v, v1, v2⟩
    · omega
    · omega
    · omega
    · have := a y y2 v v1.1
      rw [v1.2] at this
      cases this
  refine ⟨fun k' a' hk' => ?_, no⟩
  rcases hk' with q | ⟨_, e, _⟩
  · exact absurd q (no _ _)
  · omega
theorem fa_4 {b : Nat} (hr : rSo s.2.2.2.2.1 b) (hn : fNo s 4) (h : fUp s.2.2.2.2.1 0 x) (c : x ≠ -1) : fLs (pFa s 0) 4 x := by
  rcases h with ⟨a1, _⟩ | ⟨i, i1, i2, i3, i4, i5⟩
  · exact absurd a1 c
  rcases i3 with ⟨a1, _⟩ | ⟨v, v1, v2, v3, v4, v5⟩
  · exact absurd a1 c
  refine ⟨.inl (.inr ⟨rfl, i, Nat.zero_le _, i2, v, ⟨v2, v3⟩, by rw [v5]; omega⟩), fun k' a' hk' => ?_⟩
  have g := hn _ _ hk'
  rcases hk' with ((⟨y, y1, y2, ⟨e, ea, eb⟩ | ⟨e, ea, eb⟩⟩ | ⟨e, _⟩) | ⟨e, y, y1, y2, v', ⟨w1, w2⟩, w3⟩) | ⟨_, e, _⟩
  · omega
  · omega
  · omega
  · refine .inr ⟨e.symm, ?_⟩
    rw [v5, w3]
    by_cases c1 : y < i
    · have := i5 y (Nat.zero_le _) c1 v' w1
      rw [w2] at this; cases this
    · by_cases c2 : y = i
      · subst c2
        by_cases c3 : v' < v
        · have := v4 v' (Nat.zero_le _) c3
          rw [w2] at this; cases this
        · by_cases c4 : v' = v
          · rw [c4]; omega
          · have hm : s.2.2.2.2.1.getD y dRu ∈ s.2.2.2.2.1 := by rw [getD_e i2]; exact List.getElem_mem i2
            have := List.pairwise_iff_getElem.mp (hr.2 _ hm).2.1 v v' v2 w1 (by omega)
            rw [getD_e v2, getD_e w1]
            omega
      · have hp := (List.pairwise_iff_getElem.mp hr.1 i y i2 y2 (by omega)).2
        rw [getD_e i2] at v2 ⊢
        rw [getD_e y2] at w1 ⊢
        have := hp _ (List.getElem_mem v2) _ (List.getElem_mem w1)
        rw [getD_e v2, getD_e w1]
        omega
  · exact .inl (by omega)
theorem fa_5 {b : Nat} (hr : rSo s.2.2.2.2.1 b) (hn : ∀ k a, ¬ qSa s.2.1 s.2.2.2.2.1 s.2.2.2.1 0 s.1.length 0 k a) (h : fRp s.2.2.2.2.1 (isF5 (qRs s.1.length s.2.2.2.2.1)) 0 x) (c : x ≠ -1) : fLs (pFa s 0) 5 x := by
  rcases h with ⟨a1, _⟩ | ⟨i, i1, i2, i3, i4, i5⟩
  · exact absurd a1 c
  refine ⟨.inr ⟨hn, rfl, i, Nat.zero_le _, i2, i3, by rw [i5]; omega⟩, fun k' a' hk' => ?_⟩
  rcases hk' with q | ⟨_, e, y, y1, y2, y3, y4⟩
  · exact absurd q (hn _ _)
  · refine .inr ⟨e.symm, ?_⟩
    rw [i5, y4]
    by_cases c1 : y < i
    · exact absurd y3 (i4 y (Nat.zero_le _) c1)
    · by_cases c2 : y = i
      · rw [c2]; omega
      · have hp := (List.pairwise_iff_getElem.mp hr.1 i y i2 y2 (by omega)).1
        rw [getD_e i2, getD_e y2]
        omega
theorem fa_n5 (hn : ∀ k a, ¬ qSa s.2.1 s.2.2.2.2.1 s.2.2.2.1 0 s.1.length 0 k a) (h : fRp s.2.2.2.2.1 (isF5 (qRs s.1.length s.2.2.2.2.1)) 0 x) (c : x = -1) : ∀ k a, ¬ pFa s 0 k a := by
  have a := h.none c
  intro k' a' hk'
  rcases hk' with q | ⟨_, e, y, y1, y2, y3, y4⟩
  · exact hn _ _ q
  · exact a y y2 y3
end
