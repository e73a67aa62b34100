/-! How high an EXPRESSION's stack grows -/
def dB (M : Nat) (Q : pCd) : Prop := ∀ k h, wSt 0 (Q.take k) = some h → h ≤ M
theorem dB.ap {M k : Nat} {Q : pCd} {y : Int × Int} (h : dB M Q) (hs : wSt 0 (Q ++ [y]) = some k) (hk : k ≤ M) : dB M (Q ++ [y]) := by
  intro j r hr
  by_cases c : j ≤ Q.length
  · rw [List.take_append_of_le_length c] at hr
    exact h j r hr
  · rw [List.take_of_length_le (by rw [List.length_append, List.length_singleton]; omega), hs] at hr
    injection hr with hr
    omega
theorem pX_dp {t : tStr} (ht : tOk t) {M : Nat} : ∀ (F m b : Nat) (e x : pEx) (h : Nat), m ≤ 4 → b ≤ 4 → pX t F m b e = .inr x → wC e.1.length e.2.1 → wSt 0 e.2.1 = some h → (2 ≤ m → 1 ≤ h) → dB M e.2.1 → h + 1 + 2 * (4 - b) + (if m = 1 then 2 else if m = 2 ∨ m = 4 then 1 else 0) ≤ M → dB M x.2.1 := by
  intro F
  induction F with
  | zero => intro m b e x h _ _ hp; cases hp
  | succ F ih =>
    intro m b e x h hm hb hp hw hs h1 hd hM
    have full := pX_wf ht (F + 1) m b e x h hm hp hw hs h1
    match m, hm, hp, h1, hM, full with
    | 0, _, hp, _, hM, full =>
      rw [if_neg (by decide), if_neg (by decide)] at hM
      rw [pX_0] at hp
      split at hp
      · obtain ⟨r, g1, g2⟩ := pbind_inr hp
        cases g2
        exact hd.ap full.2 (by rw [if_pos (by decide)]; omega)
      · split at hp
        · split at hp
          · cases hp
          · rename_i hb4
            obtain ⟨r, g1, g2⟩ := pbind_inr hp
            obtain ⟨j, g3, g4⟩ := pbind_inr g2
            have a1 := ih 1 (b + 1) (e.1, e.2.1, e.2.2 + 1) _ h (by omega) (by omega) g1 hw hs (fun q => by omega) hd (by rw [if_pos rfl]; omega)
            cases g4
            exact a1
        · obtain ⟨r, g1, g2⟩ := pbind_inr hp
          cases g2
          exact hd.ap full.2 (by rw [if_pos (by decide)]; omega)
    | 1, _, hp, _, hM, _ =>
      rw [if_pos rfl] at hM
      rw [pX_1] at hp
      obtain ⟨r, g1, g2⟩ := pbind_inr hp
      have a1 := ih 0 b _ _ h (by omega) hb g1 hw hs (fun q => by omega) hd (by rw [if_neg (by decide), if_neg (by decide)]; omega)
      have w1 := pX_wf ht F 0 b _ _ h (by omega) g1 hw hs (fun q => by omega)
      exact ih 2 b _ _ (h + 1) (by omega) hb g2 w1.1 w1.2 (fun _ => by omega) a1 (by rw [if_neg (by decide), if_pos (.inl rfl)]; omega)
    | 2, _, hp, h1, hM, _ =>
      rw [if_neg (by decide), if_pos (.inl rfl)] at hM
      rw [pX_2] at hp
      obtain ⟨r, g1, g2⟩ := pbind_inr hp
      have a1 := ih 3 b _ _ h (by omega) hb g1 hw hs (fun q => h1 (by omega)) hd (by rw [if_neg (by decide), if_neg (by decide)]; omega)
      have w1 := pX_wf ht F 3 b _ _ h (by omega) g1 hw hs (fun q => h1 (by omega))
      exact ih 4 b _ _ h (by omega) hb g2 w1.1 w1.2 (fun _ => h1 (by omega)) a1 (by rw [if_neg (by decide), if_pos (.inr rfl)]; omega)
    | 3, _, hp, h1, hM, _ =>
      rw [if_neg (by decide), if_neg (by decide)] at hM
      rw [pX_3] at hp
      split at hp
      · rename_i c
        obtain ⟨r, g1, g2⟩ := pbind_inr hp
        have a1 := ih 0 b (e.1, e.2.1, e.2.2 + 1) _ h (by omega) hb g1 hw hs (fun q => by omega) hd (by rw [if_neg (by decide), if_neg (by decide)]; omega)
        have w1 := pX_wf ht F 0 b (e.1, e.2.1, e.2.2 + 1) _ h (by omega) g1 hw hs (fun q => by omega)
        have h0 := h1 (by omega)
        have hs2 : wSt 0 (r.2.1 ++ [(3, kK t e.2.2)]) = some h := by
          rw [wSt_ap, w1.2, if_pos (by decide)]
          show wSt (h + 1) [(3, kK t e.2.2)] = some h
          unfold wSt
          rw [if_pos rfl, if_pos (by omega)]
          rfl
        have hw2 : wC r.1.length (r.2.1 ++ [(3, kK t e.2.2)]) := w1.1.ap (.inr (.inr ⟨rfl, by unfold wSg; show kK t e.2.2 = 42 ∨ _; omega⟩))
        exact ih 3 b (r.1, r.2.1 ++ [(3, kK t e.2.2)], r.2.2) _ h (by omega) hb g2 hw2 hs2 (fun _ => h0) (a1.ap hs2 (by omega)) (by rw [if_neg (by decide), if_neg (by decide)]; omega)
      · cases hp
        exact hd
    | 4, _, hp, h1, hM, _ =>
      rw [if_neg (by decide), if_pos (.inr rfl)] at hM
      rw [pX_4] at hp
      split at hp
      · rename_i c
        obtain ⟨r, g1, g2⟩ := pbind_inr hp
        obtain ⟨s, g3, g4⟩ := pbind_inr g2
        have a1 := ih 0 b (e.1, e.2.1, e.2.2 + 1) _ h (by omega) hb g1 hw hs (fun q => by omega) hd (by rw [if_neg (by decide), if_neg (by decide)]; omega)
        have w1 := pX_wf ht F 0 b (e.1, e.2.1, e.2.2 + 1) _ h (by omega) g1 hw hs (fun q => by omega)
        have a2 := ih 3 b _ _ (h + 1) (by omega) hb g3 w1.1 w1.2 (fun _ => by omega) a1 (by rw [if_neg (by decide), if_neg (by decide)]; omega)
        have w2 := pX_wf ht F 3 b _ _ (h + 1) (by omega) g3 w1.1 w1.2 (fun _ => by omega)
        have h0 := h1 (by omega)
        have hs2 : wSt 0 (s.2.1 ++ [(3, kK t e.2.2)]) = some h := by
          rw [wSt_ap, w2.2, if_neg (by decide)]
          show wSt (h + 1) [(3, kK t e.2.2)] = some h
          unfold wSt
          rw [if_pos rfl, if_pos (by omega)]
          rfl
        have hw2 : wC s.1.length (s.2.1 ++ [(3, kK t e.2.2)]) := w2.1.ap (.inr (.inr ⟨rfl, by unfold wSg; show kK t e.2.2 = 42 ∨ _; omega⟩))
        exact ih 4 b (s.1, s.2.1 ++ [(3, kK t e.2.2)], s.2.2) _ h (by omega) hb g4 hw2 hs2 (fun _ => h0) (a2.ap hs2 (by omega)) (by rw [if_neg (by decide), if_pos (.inr rfl)]; omega)
      · cases hp
        exact hd
theorem dB_0 (M : Nat) : dB M [] := fun k h hh => by
  rw [List.take_nil] at hh
  injection hh with hh
  omega
theorem pX_d12 {t : tStr} (ht : tOk t) {F i : Nat} {V : List (Int × Nat)} {x : pEx} (h : pX t F 1 0 (V, [], i) = .inr x) : dB 12 x.2.1 := pX_dp ht F 1 0 _ x 0 (by decide) (by decide) h (fun y hy => absurd hy (by simp)) rfl (fun q => by omega) (dB_0 12) (by decide)
/-- the EXPRESSIONS of LITERALS -/
def dLs (l : List pLt) : Prop := ∀ y ∈ l, dB 12 y.2.2.2.2.1 ∧ dB 12 y.2.2.2.2.2
theorem pAtom_d {t : tStr} {tell : Bool} {k : Int} {s s' : pRs} (h : pAtom t tell k s = .inr s') (hs : dLs s.2.2.1) : dLs s'.2.2.1 := by
  unfold pAtom at h
  obtain ⟨p, h1, h2⟩ := pbind_inr h
  obtain ⟨j, h3, h4⟩ := pbind_inr h2
  obtain ⟨y, h5, h6⟩ := pbind_inr h4
  obtain ⟨z, h7, h8⟩ := pbind_inr h6
  obtain ⟨u, h9, h10⟩ := pbind_inr h8
  cases h10
  intro m hm
  rcases List.mem_append.mp hm with q | q
  · exact hs m q
  · rw [List.mem_singleton.mp q]; exact ⟨dB_0 12, dB_0 12⟩
theorem pCmp_d {t : tStr} (ht : tOk t) {F : Nat} {s s' : pRs} (h : pCmp t F s = .inr s') (hs : dLs s.2.2.1) : dLs s'.2.2.1 := by
  unfold pCmp at h
  obtain ⟨x, g1, g2⟩ := pbind_inr h
  split at g2
  · obtain ⟨b, g3, g4⟩ := pbind_inr g2
    cases g4
    intro m hm
    rcases List.mem_append.mp hm with q | q
    · exact hs m q
    · rw [List.mem_singleton.mp q]; exact ⟨pX_d12 ht g1, pX_d12 ht g3⟩
  · cases g2
theorem pLit_d {t : tStr} (ht : tOk t) {tell : Bool} {F : Nat} {s s' : pRs} (h : pLit t tell F s = .inr s') (hs : dLs s.2.2.1) : dLs s'.2.2.1 := by
  unfold pLit at h
  split at h
  · cases h
  split at h
  · have q := pAtom_d h
    exact q hs
  split at h
  · split at h
    · cases h
    split at h
    · split at h
      · cases h
      · exact pAtom_d h hs
    split at h
    · cases h
    · exact pCmp_d ht h hs
  · exact pCmp_d ht h hs
theorem pLits_d {t : tStr} (ht : tOk t) {tell : Bool} {F : Nat} : ∀ {k : Nat} {s s' : pRs}, pLits t tell F k s = .inr s' → dLs s.2.2.1 → dLs s'.2.2.1 := by
  intro k
  induction k with
  | zero => intro s s' h hs; cases h; exact hs
  | succ k ih =>
    intro s s' h hs
    unfold pLits at h
    split at h
    · obtain ⟨u, g1, g2⟩ := pbind_inr h
      have q := pLit_d ht g1
      exact ih g2 (q hs)
    · cases h; exact hs
theorem pItem_d {t : tStr} (ht : tOk t) {F : Nat} {s s' : pIt} (h : pItem t F s = .inr s') (hs : ∀ E ∈ s.2.2.1, dB 12 E) : ∀ E ∈ s'.2.2.1, dB 12 E := by
  have add : ∀ {E : pCd}, dB 12 E → ∀ E' ∈ s.2.2.1 ++ [E], dB 12 E' := fun {E} hE E' hE' => by
    rcases List.mem_append.mp hE' with q | q
    · exact hs E' q
    · rw [List.mem_singleton.mp q]; exact hE
  unfold pItem at h
  split at h
  · split at h
    · cases h
    · obtain ⟨i, h1, h2⟩ := pbind_inr h
      split at h2
      · obtain ⟨j, h3, h4⟩ := pbind_inr h2
        cases h4
        exact add (dB_0 12)
      · obtain ⟨r, h3, h4⟩ := pbind_inr h2
        obtain ⟨j, h5, h6⟩ := pbind_inr h4
        cases h6
        exact add (dB_0 12)
  · obtain ⟨e, h1, h2⟩ := pbind_inr h
    cases h2
    exact add (pX_d12 ht h1)
theorem pItems_d {t : tStr} (ht : tOk t) {F : Nat} : ∀ {k : Nat} {s s' : pIt}, pItems t F k s = .inr s' → (∀ E ∈ s.2.2.1, dB 12 E) → ∀ E ∈ s'.2.2.1, dB 12 E := by
  intro k
  induction k with
  | zero => intro s s' h hs; cases h; exact hs
  | succ k ih =>
    intro s s' h hs
    unfold pItems at h
    split at h
    · obtain ⟨u, g1, g2⟩ := pbind_inr h
      have q := pItem_d ht g1
      exact ih g2 (q hs)
    · cases h; exact hs
/-- the EXPRESSIONS of rules -/
def dRs (R : List pRu) : Prop := ∀ u ∈ R, (∀ E ∈ u.2.2.2.1, dB 12 E) ∧ dLs u.2.2.2.2.2
theorem pRule_d {t : tStr} (ht : tOk t) {F : Nat} {s s' : pPg} (h : pRule t F s = .inr s') (hs : dRs s.2.2.2.2.1) : dRs s'.2.2.2.2.1 := by
  unfold pRule at h
  split at h
  · cases h
  obtain ⟨p, h1, h⟩ := pbind_inr h
  obtain ⟨i, h2, h⟩ := pbind_inr h
  obtain ⟨a, h3, h⟩ := pbind_inr h
  obtain ⟨a', h4, h⟩ := pbind_inr h
  obtain ⟨i', h5, h⟩ := pbind_inr h
  obtain ⟨l, h6, h⟩ := pbind_inr h
  obtain ⟨i'', h7, h⟩ := pbind_inr h
  have hi : ∀ E ∈ a'.2.2.1, dB 12 E := pItems_d ht h4 (pItem_d ht h3 (fun E hE => by cases hE))
  have d0 : dLs [] := fun y hy => by cases hy
  have hl : dLs l.2.2.1 := by
    split at h6
    · obtain ⟨u, g1, g2⟩ := pbind_inr h6
      exact pLits_d ht g2 (pLit_d ht g1 d0)
    · cases h6
      exact d0
  cases h
  intro u hu
  rcases List.mem_append.mp hu with q | q
  · exact hs u q
  · rw [List.mem_singleton.mp q]; exact ⟨hi, hl⟩
theorem pProg_d {t : tStr} (ht : tOk t) {F : Nat} : ∀ {k : Nat} {s s' : pPg}, pProg t F k s = .inr s' → dRs s.2.2.2.2.1 → dRs s'.2.2.2.2.1 := by
  intro k
  induction k with
  | zero => intro s s' h; cases h
  | succ k ih =>
    intro s s' h hs
    unfold pProg at h
    split at h
    · cases h; exact hs
    · obtain ⟨u, g1, g2⟩ := pbind_inr h
      refine ih g2 ?_
      split at g1
      · unfold pInput at g1
        obtain ⟨p, h1, g1⟩ := pbind_inr g1
        obtain ⟨i, h2, g1⟩ := pbind_inr g1
        obtain ⟨n, h3, g1⟩ := pbind_inr g1
        obtain ⟨q, h4, g1⟩ := pbind_inr g1
        obtain ⟨i', h5, g1⟩ := pbind_inr g1
        cases g1
        exact hs
      split at g1
      · unfold pOutput at g1
        obtain ⟨p, h1, g1⟩ := pbind_inr g1
        obtain ⟨i, h2, g1⟩ := pbind_inr g1
        cases g1
        exact hs
      · exact pRule_d ht g1 hs
theorem qPr_d {tx : List Int} {s : pPg} (hB : tTx (tBt tx) tx.length) (h : qPr tx = .inr s) : dRs s.2.2.2.2.1 := pProg_d (tOk_of false hB) h (fun u hu => by cases hu)
theorem qQu_d {tx N : List Int} {r : pRs} (hB : tTx (tBt tx) tx.length) (h : qQu tx N = .inr r) : dLs r.2.2.1 := by
  unfold qQu pQuery at h
  obtain ⟨a, h1, h⟩ := pbind_inr h
  obtain ⟨b, h2, h⟩ := pbind_inr h
  obtain ⟨i, h3, h⟩ := pbind_inr h
  have d0 : dLs (([] : List pLt)) := fun y hy => by cases hy
  have k2 := pLits_d (tOk_of false hB) h2 (pLit_d (tOk_of false hB) h1 d0)
  split at h
  · cases h; exact k2
  · cases h
