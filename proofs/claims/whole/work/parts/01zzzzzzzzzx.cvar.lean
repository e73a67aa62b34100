/-! VARIABLES and rules stand in the order of their places -/
def vSo (V : List (Int × Nat)) (a b : Nat) : Prop := V.Pairwise (fun x y => x.2 < y.2) ∧ ∀ v ∈ V, a ≤ v.2 ∧ v.2 < b
theorem vSo.mo {V : List (Int × Nat)} {a b c : Nat} (h : vSo V a b) (hb : b ≤ c) : vSo V a c := ⟨h.1, fun m hm => by have := h.2 m hm; omega⟩
theorem vSo.add {V : List (Int × Nat)} {a b c : Nat} {v : Int × Nat} (h : vSo V a b) (h0 : a ≤ b) (h1 : b ≤ v.2) (h2 : v.2 < c) : vSo (V ++ [v]) a c := by
  refine ⟨List.pairwise_append.mpr ⟨h.1, by simp, fun x hx y hy => ?_⟩, fun x hx => ?_⟩
  · rw [List.mem_singleton.mp hy]
    have := h.2 x hx
    omega
  · rcases List.mem_append.mp hx with q | q
    · have := h.2 x q
      omega
    · rw [List.mem_singleton.mp q]; exact ⟨by omega, h2⟩
section
variable {B : Nat → Int} {n F : Nat} {lm tell : Bool} {a : Nat}
theorem pVar_so (hB : tTx B n) {V : List (Int × Nat)} {i : Nat} {r : Int × List (Int × Nat) × Nat} (h : pVar (tstr B n lm) V i = .inr r) (ha : a ≤ kS (tstr B n lm) i) (hs : vSo V a (kS (tstr B n lm) i)) : vSo r.2.1 a (kS (tstr B n lm) r.2.2) := by
  unfold pVar at h
  split at h
  · cases h
  rename_i k2
  have k2 : kK (tstr B n lm) i = 2 := by omega
  have q := (kS_1 (lm := lm) hB i).2.2.2 (by omega)
  split at h
  · cases h
  split at h
  · split at h
    · cases h
    · cases h; exact hs.add ha (Nat.le_refl _) (by show kS (tstr B n lm) i < kS (tstr B n lm) (i + 1); omega)
  · cases h; exact hs.mo (kS_mo hB (Nat.le_succ _))
theorem pX_so (hB : tTx B n) : ∀ (F m b : Nat) (e x : pEx), m ≤ 4 → pX (tstr B n lm) F m b e = .inr x → a ≤ kS (tstr B n lm) e.2.2 → vSo e.1 a (kS (tstr B n lm) e.2.2) → vSo x.1 a (kS (tstr B n lm) x.2.2) := by
  intro F
  induction F with
  | zero => intro m b e x _ h; cases h
  | succ F ih =>
    intro m b e x hm h ha hs
    have hs1 : vSo e.1 a (kS (tstr B n lm) (e.2.2 + 1)) := hs.mo (kS_mo hB (Nat.le_succ _))
    have ha1 : a ≤ kS (tstr B n lm) (e.2.2 + 1) := Nat.le_trans ha (kS_mo hB (Nat.le_succ _))
    have up : ∀ {m b : Nat} {e x : pEx}, m ≤ 4 → pX (tstr B n lm) F m b e = .inr x → a ≤ kS (tstr B n lm) e.2.2 → a ≤ kS (tstr B n lm) x.2.2 := fun {m b e x} w1 w2 w3 => Nat.le_trans w3 (kS_mo hB (pX_le F m b e x w1 w2).1)
    match m, hm with
    | 0, _ =>
      rw [pX_0] at h
      split at h
      · obtain ⟨r, h1, h2⟩ := pbind_inr h
        cases h2
        exact pVar_so hB h1 ha hs
      split at h
      · split at h
        · cases h
        · obtain ⟨e', h1, h2⟩ := pbind_inr h
          obtain ⟨i, h3, h4⟩ := pbind_inr h2
          cases h4
          have := (pNeed_le h3).1
          exact (ih 1 (b + 1) _ _ (by omega) h1 ha1 hs1).mo (by show kS _ _ ≤ kS _ i; rw [this]; exact kS_mo hB (Nat.le_succ _))
      · obtain ⟨r, h1, h2⟩ := pbind_inr h
        cases h2
        exact hs.mo (kS_mo hB (Nat.le_of_lt (pVal_le h1).1))
    | 1, _ =>
      rw [pX_1] at h
      obtain ⟨e', h1, h2⟩ := pbind_inr h
      exact ih 2 b _ _ (by omega) h2 (up (by omega) h1 ha) (ih 0 b _ _ (by omega) h1 ha hs)
    | 2, _ =>
      rw [pX_2] at h
      obtain ⟨e', h1, h2⟩ := pbind_inr h
      exact ih 4 b _ _ (by omega) h2 (up (by omega) h1 ha) (ih 3 b _ _ (by omega) h1 ha hs)
    | 3, _ =>
      rw [pX_3] at h
      split at h
      · obtain ⟨e', h1, h2⟩ := pbind_inr h
        have z1 := ih 0 b _ _ (by omega) h1 ha1 hs1
        have y1 := up (by omega) h1 ha1
        exact ih 3 b _ _ (by omega) h2 y1 z1
      · cases h; exact hs
    | 4, _ =>
      rw [pX_4] at h
      split at h
      · obtain ⟨e1, h1, h2⟩ := pbind_inr h
        obtain ⟨e', h3, h4⟩ := pbind_inr h2
        have z1 := ih 0 b _ _ (by omega) h1 ha1 hs1
        have y1 := up (by omega) h1 ha1
        have z2 := ih 3 b _ _ (by omega) h3 y1 z1
        have y2 := up (by omega) h3 y1
        exact ih 4 b _ _ (by omega) h4 y2 z2
      · cases h; exact hs
theorem pTerm_so (hB : tTx B n) {V : List (Int × Nat)} {i : Nat} {y : (Int × Int) × List (Int × Nat) × Nat} (h : pTerm (tstr B n lm) V i = .inr y) (ha : a ≤ kS (tstr B n lm) i) (hs : vSo V a (kS (tstr B n lm) i)) : vSo y.2.1 a (kS (tstr B n lm) y.2.2) := by
  unfold pTerm at h
  split at h
  · obtain ⟨r, h1, h2⟩ := pbind_inr h
    cases h2
    exact pVar_so hB h1 ha hs
  split at h
  · cases h; exact hs.mo (kS_mo hB (Nat.le_succ _))
  · obtain ⟨r, h1, h2⟩ := pbind_inr h
    cases h2
    exact hs.mo (kS_mo hB (Nat.le_of_lt (pVal_le h1).1))
theorem pTerms_so (hB : tTx B n) : ∀ {k : Nat} {T : pCd} {V : List (Int × Nat)} {i : Nat} {y : pCd × List (Int × Nat) × Nat}, pTerms (tstr B n lm) k T V i = .inr y → a ≤ kS (tstr B n lm) i → vSo V a (kS (tstr B n lm) i) → vSo y.2.1 a (kS (tstr B n lm) y.2.2) := by
  intro k
  induction k with
  | zero => intro T V i y h _ hs; cases h; exact hs
  | succ k ih =>
    intro T V i y h ha hs
    unfold pTerms at h
    split at h
    · obtain ⟨r, h1, h2⟩ := pbind_inr h
      have ha1 : a ≤ kS (tstr B n lm) (i + 1) := Nat.le_trans ha (kS_mo hB (Nat.le_succ _))
      exact ih h2 (Nat.le_trans ha1 (kS_mo hB (Nat.le_of_lt (pTerm_le h1).2.2))) (pTerm_so hB h1 ha1 (hs.mo (kS_mo hB (Nat.le_succ _))))
    · cases h; exact hs
theorem pAtom_vs (hB : tTx B n) {k : Int} {s s' : pRs} (h : pAtom (tstr B n lm) tell k s = .inr s') (ha : a ≤ kS (tstr B n lm) s.2.2.2.2) (hs : vSo s.2.1 a (kS (tstr B n lm) s.2.2.2.2)) : vSo s'.2.1 a (kS (tstr B n lm) s'.2.2.2.2) := by
  unfold pAtom at h
  obtain ⟨p, h1, h2⟩ := pbind_inr h
  obtain ⟨j, h3, h4⟩ := pbind_inr h2
  obtain ⟨y, h5, h6⟩ := pbind_inr h4
  obtain ⟨z, h7, h8⟩ := pbind_inr h6
  obtain ⟨u, h9, h10⟩ := pbind_inr h8
  cases h10
  have a1 : p.2.2 = s.2.2.2.2 + 1 := by
    split at h1
    · exact (pPred_le h1).1
    · obtain ⟨r, w1, w2⟩ := pbind_inr h1
      cases w2
      exact (pName_le w1).1
  have a3 := (pNeed_le h3).1
  have a9 := (pNeed_le h9).1
  have hj : s.2.2.2.2 ≤ j := by omega
  have hj1 : a ≤ kS (tstr B n lm) j := Nat.le_trans ha (kS_mo hB hj)
  have q1 := pTerm_so hB h5 hj1 (hs.mo (kS_mo hB hj))
  have q2 := pTerms_so hB h7 (Nat.le_trans hj1 (kS_mo hB (Nat.le_of_lt (pTerm_le h5).2.2))) q1
  exact q2.mo (by show kS _ _ ≤ kS _ u; rw [a9]; exact kS_mo hB (Nat.le_succ _))
theorem pCmp_vs (hB : tTx B n) {s s' : pRs} (h : pCmp (tstr B n lm) F s = .inr s') (ha : a ≤ kS (tstr B n lm) s.2.2.2.2) (hs : vSo s.2.1 a (kS (tstr B n lm) s.2.2.2.2)) : vSo s'.2.1 a (kS (tstr B n lm) s'.2.2.2.2) := by
  unfold pCmp at h
  obtain ⟨x, g1, g2⟩ := pbind_inr h
  have q1 := pX_so hB F 1 0 _ _ (by decide) g1 ha hs
  have l1 := (pX_le F 1 0 _ _ (by decide) g1).1
  have y1 : a ≤ kS (tstr B n lm) (x.2.2 + 1) := Nat.le_trans ha (kS_mo hB (Nat.le_trans l1 (Nat.le_succ _)))
  split at g2
  · obtain ⟨b, g3, g4⟩ := pbind_inr g2
    cases g4
    exact pX_so hB F 1 0 _ _ (by decide) g3 y1 (q1.mo (kS_mo hB (Nat.le_succ _)))
  · cases g2
theorem pLit_vs (hB : tTx B n) {s s' : pRs} (h : pLit (tstr B n lm) tell F s = .inr s') (ha : a ≤ kS (tstr B n lm) s.2.2.2.2) (hs : vSo s.2.1 a (kS (tstr B n lm) s.2.2.2.2)) : vSo s'.2.1 a (kS (tstr B n lm) s'.2.2.2.2) := by
  unfold pLit at h
  split at h
  · cases h
  split at h
  · exact pAtom_vs hB h (Nat.le_trans ha (kS_mo hB (Nat.le_succ _))) (hs.mo (kS_mo hB (Nat.le_succ _)))
  split at h
  · split at h
    · cases h
    split at h
    · split at h
      · cases h
      · exact pAtom_vs hB h ha hs
    split at h
    · cases h
    · exact pCmp_vs hB h ha hs
  · exact pCmp_vs hB h ha hs
theorem pLits_vs (hB : tTx B n) : ∀ {k : Nat} {s s' : pRs}, pLits (tstr B n lm) tell F k s = .inr s' → a ≤ kS (tstr B n lm) s.2.2.2.2 → vSo s.2.1 a (kS (tstr B n lm) s.2.2.2.2) → vSo s'.2.1 a (kS (tstr B n lm) s'.2.2.2.2) ∧ s.2.2.2.2 ≤ s'.2.2.2.2 := by
  intro k
  induction k with
  | zero => intro s s' h ha hs; cases h; exact ⟨hs, Nat.le_refl _⟩
  | succ k ih =>
    intro s s' h ha hs
    unfold pLits at h
    split at h
    · obtain ⟨u, g1, g2⟩ := pbind_inr h
      have l1 := (pLit_le g1).2.2.2.2
      replace l1 : s.2.2.2.2 + 1 < u.2.2.2.2 := l1
      have ha1 : a ≤ kS (tstr B n lm) (s.2.2.2.2 + 1) := Nat.le_trans ha (kS_mo hB (Nat.le_succ _))
      have q := ih g2 (Nat.le_trans ha1 (kS_mo hB (Nat.le_of_lt l1))) (pLit_vs hB g1 ha1 (hs.mo (kS_mo hB (Nat.le_succ _))))
      exact ⟨q.1, by omega⟩
    · cases h; exact ⟨hs, Nat.le_refl _⟩
theorem pItem_vs (hB : tTx B n) {s s' : pIt} (h : pItem (tstr B n lm) F s = .inr s') (ha : a ≤ kS (tstr B n lm) s.2.2.2) (hs : vSo s.1 a (kS (tstr B n lm) s.2.2.2)) : vSo s'.1 a (kS (tstr B n lm) s'.2.2.2) := by
  unfold pItem at h
  split at h
  · split at h
    · cases h
    · obtain ⟨i, h1, h2⟩ := pbind_inr h
      have a1 := (pNeed_le h1).1
      have z : s.2.2.2 ≤ i := by omega
      split at h2
      · obtain ⟨j, h3, h4⟩ := pbind_inr h2
        have a3 := (pNeed_le h3).1
        cases h4
        exact hs.mo (kS_mo hB (by show _ ≤ j; omega))
      · obtain ⟨r, h3, h4⟩ := pbind_inr h2
        obtain ⟨j, h5, h6⟩ := pbind_inr h4
        have a3 := (pNeed_le h5).1
        cases h6
        exact (pVar_so hB h3 (Nat.le_trans ha (kS_mo hB z)) (hs.mo (kS_mo hB z))).mo (kS_mo hB (by show _ ≤ j; omega))
  · obtain ⟨e, h1, h2⟩ := pbind_inr h
    cases h2
    exact pX_so hB F 1 0 _ _ (by decide) h1 ha hs
theorem pItems_vs (hB : tTx B n) : ∀ {k : Nat} {s s' : pIt}, pItems (tstr B n lm) F k s = .inr s' → a ≤ kS (tstr B n lm) s.2.2.2 → vSo s.1 a (kS (tstr B n lm) s.2.2.2) → vSo s'.1 a (kS (tstr B n lm) s'.2.2.2) ∧ s.2.2.2 ≤ s'.2.2.2 := by
  intro k
  induction k with
  | zero => intro s s' h ha hs; cases h; exact ⟨hs, Nat.le_refl _⟩
  | succ k ih =>
    intro s s' h ha hs
    unfold pItems at h
    split at h
    · obtain ⟨u, g1, g2⟩ := pbind_inr h
      have l1 := (pItem_le g1).2.2
      replace l1 : s.2.2.2 + 1 < u.2.2.2 := l1
      have ha1 : a ≤ kS (tstr B n lm) (s.2.2.2 + 1) := Nat.le_trans ha (kS_mo hB (Nat.le_succ _))
      have q := ih g2 (Nat.le_trans ha1 (kS_mo hB (Nat.le_of_lt l1))) (pItem_vs hB g1 ha1 (hs.mo (kS_mo hB (Nat.le_succ _))))
      exact ⟨q.1, by omega⟩
    · cases h; exact ⟨hs, Nat.le_refl _⟩
end
/-- rules: their HEADS' places, and their VARIABLES' -/
def rSo (R : List pRu) (b : Nat) : Prop := R.Pairwise (fun x y => x.2.1 < y.2.1 ∧ ∀ v ∈ x.2.2.2.2.1, ∀ w ∈ y.2.2.2.2.1, v.2 < w.2) ∧ ∀ x ∈ R, x.2.1 < b ∧ vSo x.2.2.2.2.1 x.2.1 b
theorem rSo.mo {R : List pRu} {b c : Nat} (h : rSo R b) (hb : b ≤ c) : rSo R c := ⟨h.1, fun m hm => ⟨by have := (h.2 m hm).1; omega, (h.2 m hm).2.mo hb⟩⟩
theorem rSo.add {R : List pRu} {b c : Nat} {u : pRu} (h : rSo R b) (h1 : b ≤ u.2.1) (h2 : u.2.1 < c) (h3 : vSo u.2.2.2.2.1 u.2.1 c) : rSo (R ++ [u]) c := by
  refine ⟨List.pairwise_append.mpr ⟨h.1, by simp, fun x hx y hy => ?_⟩, fun x hx => ?_⟩
  · rw [List.mem_singleton.mp hy]
    refine ⟨by have := (h.2 x hx).1; omega, fun v hv w hw => ?_⟩
    have z1 := ((h.2 x hx).2.2 v hv).2
    have z2 := (h3.2 w hw).1
    omega
  · rcases List.mem_append.mp hx with q | q
    · have := h.2 x q
      exact ⟨by omega, this.2.mo (by omega)⟩
    · rw [List.mem_singleton.mp q]; exact ⟨h2, h3⟩
section
variable {B : Nat → Int} {n F : Nat} {lm : Bool}
theorem pRule_rs (hB : tTx B n) {s s' : pPg} (h : pRule (tstr B n lm) F s = .inr s') (hs : rSo s.2.2.2.2.1 (kS (tstr B n lm) s.2.2.2.2.2)) : rSo s'.2.2.2.2.1 (kS (tstr B n lm) s'.2.2.2.2.2) := by
  unfold pRule at h
  split at h
  · cases h
  obtain ⟨p, h1, h⟩ := pbind_inr h
  obtain ⟨i, h2, h⟩ := pbind_inr h
  obtain ⟨a, h3, h⟩ := pbind_inr h
  obtain ⟨b, h4, h⟩ := pbind_inr h
  obtain ⟨j, h5, h⟩ := pbind_inr h
  obtain ⟨l, h6, h⟩ := pbind_inr h
  obtain ⟨k, h7, h⟩ := pbind_inr h
  cases h
  have a1 := pPred_le h1
  have a2 := (pNeed_le h2).1
  have a5 := (pNeed_le h5).1
  have a7 := pNeed_le h7
  have a3 := (pItem_le h3).2.2
  replace a3 : i < a.2.2.2 := a3
  have y0 : kS (tstr B n lm) s.2.2.2.2.2 ≤ kS (tstr B n lm) i := kS_mo hB (by omega)
  have q1 := pItem_vs (a := kS (tstr B n lm) s.2.2.2.2.2) hB h3 y0 ⟨by simp, by simp⟩
  have y1 : kS (tstr B n lm) s.2.2.2.2.2 ≤ kS (tstr B n lm) a.2.2.2 := Nat.le_trans y0 (kS_mo hB (Nat.le_of_lt a3))
  have q2 := pItems_vs hB h4 y1 q1
  have q2l := q2.2
  have hj : s.2.2.2.2.2 ≤ j := by omega
  have yj : kS (tstr B n lm) s.2.2.2.2.2 ≤ kS (tstr B n lm) j := kS_mo hB hj
  have q3 : vSo b.1 (kS (tstr B n lm) s.2.2.2.2.2) (kS (tstr B n lm) j) := q2.1.mo (kS_mo hB (by omega))
  have key : vSo l.2.1 (kS (tstr B n lm) s.2.2.2.2.2) (kS (tstr B n lm) l.2.2.2.2) ∧ j ≤ l.2.2.2.2 := by
    split at h6
    · obtain ⟨u, g1, g2⟩ := pbind_inr h6
      have l1 := (pLit_le g1).2.2.2.2
      replace l1 : j + 1 < u.2.2.2.2 := l1
      have yj1 : kS (tstr B n lm) s.2.2.2.2.2 ≤ kS (tstr B n lm) (j + 1) := kS_mo hB (by omega)
      have z := pLits_vs hB g2 (Nat.le_trans yj1 (kS_mo hB (Nat.le_of_lt l1))) (pLit_vs hB g1 yj1 (q3.mo (kS_mo hB (Nat.le_succ _))))
      exact ⟨z.1, by omega⟩
    · cases h6
      exact ⟨q3, Nat.le_refl _⟩
  have kl : s.2.2.2.2.2 < k := by omega
  have last := kS_to (lm := lm) hB kl (by rw [a7.1, Nat.add_sub_cancel, a7.2]; decide)
  exact hs.add (Nat.le_refl _) (by show kS (tstr B n lm) s.2.2.2.2.2 < kS (tstr B n lm) k; omega) (key.1.mo (kS_mo hB (by show l.2.2.2.2 ≤ k; omega)))
theorem pProg_rs (hB : tTx B n) : ∀ {k : Nat} {s s' : pPg}, pProg (tstr B n lm) F k s = .inr s' → rSo s.2.2.2.2.1 (kS (tstr B n lm) s.2.2.2.2.2) → rSo s'.2.2.2.2.1 (kS (tstr B n lm) s'.2.2.2.2.2) := by
  intro k
  induction k with
  | zero => intro s s' h; cases h
  | succ k ih =>
    intro s s' h hs
    unfold pProg at h
    split at h
    · cases h; exact hs
    · obtain ⟨u, g1, g2⟩ := pbind_inr h
      refine ih g2 ?_
      split at g1
      · have lt := (pPg_i (F := F)).1 g1
        have lt' : s.2.2.2.2.2 ≤ u.2.2.2.2.2 := by omega
        unfold pInput at g1
        obtain ⟨p, h1, g1⟩ := pbind_inr g1
        obtain ⟨j, h2, g1⟩ := pbind_inr g1
        obtain ⟨m, h3, g1⟩ := pbind_inr g1
        obtain ⟨q, h4, g1⟩ := pbind_inr g1
        obtain ⟨j2, h5, g1⟩ := pbind_inr g1
        cases g1
        exact hs.mo (kS_mo hB lt')
      · split at g1
        · unfold pOutput at g1
          obtain ⟨p, h1, g1⟩ := pbind_inr g1
          obtain ⟨j, h2, g1⟩ := pbind_inr g1
          have a1 := pPred_le h1
          have a2 := pNeed_le h2
          cases g1
          exact hs.mo (kS_mo hB (by show _ ≤ j; omega))
        · exact pRule_rs hB g1 hs
theorem pProg_rsorted (hB : tTx B n) {k : Nat} {s : pPg} (h : pProg (tstr B n lm) F k ([], [], [], [], [], 0) = .inr s) : rSo s.2.2.2.2.1 (kS (tstr B n lm) s.2.2.2.2.2) := pProg_rs hB h ⟨by simp, by simp⟩
end
