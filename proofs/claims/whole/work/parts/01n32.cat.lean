section
/-! ATOMS are told of with their parts: in a program without FAULTS they have as many as the predicate -/
def wAl (L : List pLt) (M : List pMn) : Prop := ∀ y ∈ L, y.1 ≠ 3 → ∃ a, (y.2.1, a, (y.2.2.2.1.length : Int), (4 : Int)) ∈ M
theorem wAl.mo {L : List pLt} {M M' : List pMn} (h : wAl L M) (hM : ∀ m ∈ M, m ∈ M') : wAl L M' := fun y hy h3 => by
  obtain ⟨a, ha⟩ := h y hy h3
  exact ⟨a, hM _ ha⟩
theorem pAtom_al {t : tStr} {tell : Bool} {k : Int} {s s' : pRs} (h : pAtom t tell k s = .inr s') (hs : wAl s.2.2.1 s.2.2.2.1) : wAl s'.2.2.1 s'.2.2.2.1 := by
  unfold pAtom at h
  obtain ⟨p, h1, h2⟩ := pbind_inr h
  obtain ⟨j, h3, h4⟩ := pbind_inr h2
  obtain ⟨y, h5, h6⟩ := pbind_inr h4
  obtain ⟨z, h7, h8⟩ := pbind_inr h6
  obtain ⟨u, h9, h10⟩ := pbind_inr h8
  cases h10
  intro m hm h3
  rcases List.mem_append.mp hm with q | q
  · obtain ⟨a, ha⟩ := hs m q h3
    exact ⟨a, List.mem_append.mpr (.inl ha)⟩
  · rw [List.mem_singleton.mp q]
    exact ⟨_, List.mem_append.mpr (.inr (List.mem_singleton.mpr rfl))⟩
theorem pCmp_al {t : tStr} {F : Nat} {s s' : pRs} (h : pCmp t F s = .inr s') (hs : wAl s.2.2.1 s.2.2.2.1) : wAl s'.2.2.1 s'.2.2.2.1 := by
  unfold pCmp at h
  obtain ⟨x, g1, g2⟩ := pbind_inr h
  split at g2
  · obtain ⟨b, g3, g4⟩ := pbind_inr g2
    cases g4
    intro m hm h3
    rcases List.mem_append.mp hm with q | q
    · exact hs m q h3
    · rw [List.mem_singleton.mp q] at h3; exact absurd rfl h3
  · cases g2
theorem pLit_al {t : tStr} {tell : Bool} {F : Nat} {s s' : pRs} (h : pLit t tell F s = .inr s') (hs : wAl s.2.2.1 s.2.2.2.1) : wAl s'.2.2.1 s'.2.2.2.1 := by
  unfold pLit at h
  split at h
  · cases h
  split at h
  · have q := pAtom_al h
    exact q hs
  split at h
  · split at h
    · cases h
    split at h
    · split at h
      · cases h
      · exact pAtom_al h hs
    split at h
    · cases h
    · exact pCmp_al h hs
  · exact pCmp_al h hs
theorem pLits_al {t : tStr} {tell : Bool} {F : Nat} : ∀ {k : Nat} {s s' : pRs}, pLits t tell F k s = .inr s' → wAl s.2.2.1 s.2.2.2.1 → wAl s'.2.2.1 s'.2.2.2.1 := by
  intro k
  induction k with
  | zero => intro s s' h hs; cases h; exact hs
  | succ k ih =>
    intro s s' h hs
    unfold pLits at h
    split at h
    · obtain ⟨u, g1, g2⟩ := pbind_inr h
      have q := pLit_al g1
      exact ih g2 (q hs)
    · cases h; exact hs
def wAm (s : pPg) : Prop := ∀ u ∈ s.2.2.2.2.1, wAl u.2.2.2.2.2 s.2.2.2.1
theorem pRule_am {t : tStr} {F : Nat} {s s' : pPg} (h : pRule t F s = .inr s') (hs : wAm s) : wAm s' := by
  unfold pRule at h
  split at h
  · cases h
  obtain ⟨p, h1, h⟩ := pbind_inr h
  obtain ⟨i, h2, h⟩ := pbind_inr h
  obtain ⟨a, h3, h⟩ := pbind_inr h
  obtain ⟨a', h4, h⟩ := pbind_inr h
  obtain ⟨i', h5, h⟩ := pbind_inr h
  obtain ⟨l, h6, h⟩ := pbind_inr h
  obtain ⟨i'', h7, h⟩ := pbind_inr h
  have h0 : wAl [] (s.2.2.2.1 ++ [(p.1, kS t s.2.2.2.2.2, (a'.2.2.1.length : Int), (3 : Int))]) := fun y hy => by cases hy
  have hl : (∀ m ∈ s.2.2.2.1 ++ [(p.1, kS t s.2.2.2.2.2, (a'.2.2.1.length : Int), (3 : Int))], m ∈ l.2.2.2.1) ∧ wAl l.2.2.1 l.2.2.2.1 := by
    split at h6
    · obtain ⟨u, g1, g2⟩ := pbind_inr h6
      exact ⟨fun m hm => pLits_mm g2 m (pLit_mm g1 m hm), pLits_al g2 (pLit_al g1 h0)⟩
    · cases h6
      exact ⟨fun m hm => hm, h0⟩
  cases h
  intro u hu
  rcases List.mem_append.mp hu with b | b
  · exact (hs u b).mo (fun m hm => hl.1 m (List.mem_append.mpr (.inl hm)))
  · rw [List.mem_singleton.mp b]
    exact hl.2
theorem pProg_am {t : tStr} {F : Nat} : ∀ {k : Nat} {s s' : pPg}, pProg t F k s = .inr s' → wAm s → wAm s' := by
  intro k
  induction k with
  | zero => intro s s' h; cases h
  | succ k ih =>
    intro s s' h hs
    unfold pProg at h
    split at h
    · cases h; exact hs
    · obtain ⟨u, g1, g2⟩ := pbind_inr h
      refine ih g2 ?_
      split at g1
      · unfold pInput at g1
        obtain ⟨p, h1, g1⟩ := pbind_inr g1
        obtain ⟨i, h2, g1⟩ := pbind_inr g1
        obtain ⟨n, h3, g1⟩ := pbind_inr g1
        obtain ⟨q, h4, g1⟩ := pbind_inr g1
        obtain ⟨i', h5, g1⟩ := pbind_inr g1
        cases g1
        exact fun u hu => (hs u hu).mo (fun m hm => List.mem_append.mpr (.inl hm))
      split at g1
      · unfold pOutput at g1
        obtain ⟨p, h1, g1⟩ := pbind_inr g1
        obtain ⟨i, h2, g1⟩ := pbind_inr g1
        cases g1
        exact fun u hu => (hs u hu).mo (fun m hm => List.mem_append.mpr (.inl hm))
      · exact pRule_am g1 hs
theorem wAm_n {s : pPg} (hok : qOk s) (hm : wAm s) {u : pRu} (hu : u ∈ s.2.2.2.2.1) {y : pLt} (hy : y ∈ u.2.2.2.2.2) (h3 : y.1 ≠ 3) : 0 ≤ y.2.1 ∧ y.2.2.2.1.length = qN s y.2.1.toNat := by
  obtain ⟨w1, w2, w3, w4, w5, w6, w7, w8, w9⟩ := hok.1.2.2.2.2.2.2 u hu
  obtain ⟨z1, z2⟩ := w9 y hy
  have h0 := z2 h3
  refine ⟨h0, ?_⟩
  have hlt : y.2.1 < s.1.length := by
    rcases z1 with ⟨_, _, z, _⟩ | ⟨z, _⟩
    · exact z
    · exact absurd z h3
  obtain ⟨p, hp⟩ : ∃ p : Nat, y.2.1 = (p : Int) := ⟨y.2.1.toNat, by omega⟩
  obtain ⟨a, ha⟩ := hm u hu y hy h3
  obtain ⟨i, hi, ei⟩ := List.getElem_of_mem ha
  have e1 : mN s.2.2.2.1 i = (p : Int) := by unfold mN; rw [getD_e hi, ei]; exact hp
  have e2 : mK s.2.2.2.1 i = (y.2.2.2.1.length : Int) := by unfold mK; rw [getD_e hi, ei]
  have hne : mK s.2.2.2.1 i ≠ -1 := by rw [e2]; omega
  have e3 := (qN_c hok.1 p).1
  rw [hp, Int.toNat_natCast]
  refine Classical.byContradiction (fun q => hok.2.2 3 (((0 : Nat) : Int) + mP s.2.2.2.1 i) (.inl (.inl (.inr ⟨rfl, p, i, Nat.zero_le _, ?_, ⟨hi, e1, hne, ?_⟩, rfl⟩))))
  · omega
  · rw [e2, ← e3]
    omega
/-! INPUTS are told once -/
def mIn (M : List pMn) : List Int := (M.filter (fun m => decide (m.2.2.2 = 1))).map (·.1)
theorem mIn_o {M : List pMn} {m : pMn} (h : m.2.2.2 ≠ 1) : mIn (M ++ [m]) = mIn M := by
  unfold mIn
  rw [List.filter_append, List.filter_cons_of_neg (by rw [decide_eq_false h]; decide)]
  simp
theorem mIn_i {M : List pMn} {m : pMn} (h : m.2.2.2 = 1) : mIn (M ++ [m]) = mIn M ++ [m.1] := by
  unfold mIn
  rw [List.filter_append, List.filter_cons_of_pos (by rw [decide_eq_true h])]
  simp
theorem pAtom_mi {t : tStr} {tell : Bool} {k : Int} {s s' : pRs} (h : pAtom t tell k s = .inr s') : mIn s'.2.2.2.1 = mIn s.2.2.2.1 := by
  unfold pAtom at h
  obtain ⟨p, h1, h2⟩ := pbind_inr h
  obtain ⟨j, h3, h4⟩ := pbind_inr h2
  obtain ⟨y, h5, h6⟩ := pbind_inr h4
  obtain ⟨z, h7, h8⟩ := pbind_inr h6
  obtain ⟨u, h9, h10⟩ := pbind_inr h8
  cases h10
  exact mIn_o (by show (4 : Int) ≠ 1; decide)
theorem pCmp_mi {t : tStr} {F : Nat} {s s' : pRs} (h : pCmp t F s = .inr s') : mIn s'.2.2.2.1 = mIn s.2.2.2.1 := by
  unfold pCmp at h
  obtain ⟨x, g1, g2⟩ := pbind_inr h
  split at g2
  · obtain ⟨b, g3, g4⟩ := pbind_inr g2
    cases g4
    rfl
  · cases g2
theorem pLit_mi {t : tStr} {tell : Bool} {F : Nat} {s s' : pRs} (h : pLit t tell F s = .inr s') : mIn s'.2.2.2.1 = mIn s.2.2.2.1 := by
  unfold pLit at h
  split at h
  · cases h
  split at h
  · have q := pAtom_mi h
    exact q
  split at h
  · split at h
    · cases h
    split at h
    · split at h
      · cases h
      · exact pAtom_mi h
    split at h
    · cases h
    · exact pCmp_mi h
  · exact pCmp_mi h
theorem pLits_mi {t : tStr} {tell : Bool} {F : Nat} : ∀ {k : Nat} {s s' : pRs}, pLits t tell F k s = .inr s' → mIn s'.2.2.2.1 = mIn s.2.2.2.1 := by
  intro k
  induction k with
  | zero => intro s s' h; cases h; rfl
  | succ k ih =>
    intro s s' h
    unfold pLits at h
    split at h
    · obtain ⟨u, g1, g2⟩ := pbind_inr h
      have q := pLit_mi g1
      exact (ih g2).trans q
    · cases h; rfl
theorem pProg_mi {t : tStr} {F : Nat} : ∀ {k : Nat} {s s' : pPg}, pProg t F k s = .inr s' → mIn s.2.2.2.1 = s.2.1.map (·.1) → mIn s'.2.2.2.1 = s'.2.1.map (·.1) := by
  intro k
  induction k with
  | zero => intro s s' h; cases h
  | succ k ih =>
    intro s s' h hs
    unfold pProg at h
    split at h
    · cases h; exact hs
    · obtain ⟨u, g1, g2⟩ := pbind_inr h
      refine ih g2 ?_
      split at g1
      · unfold pInput at g1
        obtain ⟨p, h1, g1⟩ := pbind_inr g1
        obtain ⟨i, h2, g1⟩ := pbind_inr g1
        obtain ⟨n, h3, g1⟩ := pbind_inr g1
        obtain ⟨q, h4, g1⟩ := pbind_inr g1
        obtain ⟨i', h5, g1⟩ := pbind_inr g1
        cases g1
        show mIn (s.2.2.2.1 ++ [(p.1, kS t (s.2.2.2.2.2 + 1), n.1, 1)]) = (s.2.1 ++ [(p.1, n.1, q.1)]).map (·.1)
        rw [mIn_i rfl, List.map_append, hs]
        rfl
      split at g1
      · unfold pOutput at g1
        obtain ⟨p, h1, g1⟩ := pbind_inr g1
        obtain ⟨i, h2, g1⟩ := pbind_inr g1
        cases g1
        show mIn (s.2.2.2.1 ++ [_]) = s.2.1.map (·.1)
        rw [mIn_o (by show (2 : Int) ≠ 1; decide), hs]
      · unfold pRule at g1
        split at g1
        · cases g1
        obtain ⟨p, h1, g1⟩ := pbind_inr g1
        obtain ⟨i, h2, g1⟩ := pbind_inr g1
        obtain ⟨a, h3, g1⟩ := pbind_inr g1
        obtain ⟨a', h4, g1⟩ := pbind_inr g1
        obtain ⟨i', h5, g1⟩ := pbind_inr g1
        obtain ⟨l, h6, g1⟩ := pbind_inr g1
        obtain ⟨i'', h7, g1⟩ := pbind_inr g1
        have h0 : mIn (s.2.2.2.1 ++ [(p.1, kS t s.2.2.2.2.2, (a'.2.2.1.length : Int), (3 : Int))]) = s.2.1.map (·.1) := by rw [mIn_o (by show (3 : Int) ≠ 1; decide), hs]
        have hl : mIn l.2.2.2.1 = s.2.1.map (·.1) := by
          split at h6
          · obtain ⟨u, x1, x2⟩ := pbind_inr h6
            rw [pLits_mi x2, pLit_mi x1]
            exact h0
          · cases h6
            exact h0
        cases g1
        exact hl
def inNd (s : pPg) : Prop := (s.2.1.map (·.1)).Nodup
theorem inNd_of {s : pPg} (h : mIn s.2.2.2.1 = s.2.1.map (·.1)) (hf : ∀ k a, ¬ pFa s 0 k a) : inNd s := by
  unfold inNd
  rw [← h]
  unfold mIn
  rw [List.nodup_iff_pairwise_ne, List.pairwise_map]
  have hp : s.2.2.2.1.Pairwise (fun a b => a.2.2.2 = 1 → b.2.2.2 = 1 → a.1 ≠ b.1) := by
    rw [List.pairwise_iff_getElem]
    intro i j hi hj hij h1 h2 e
    refine hf 1 (((0 : Nat) : Int) + mP s.2.2.2.1 j) (.inl (.inl (.inl ⟨j, Nat.zero_le _, hj, .inl ⟨rfl, rfl, i, Nat.zero_le _, hij, ?_, ?_⟩⟩)))
    · unfold mN; rw [getD_e hi, getD_e hj]; exact e
    · unfold mW; rw [getD_e hi, getD_e hj, h1, h2]; unfold twc; omega
  refine List.Pairwise.imp_of_mem (fun {a b} ha hb hr => ?_) (hp.filter _)
  exact hr (of_decide_eq_true (List.mem_filter.mp ha).2) (of_decide_eq_true (List.mem_filter.mp hb).2)
theorem pKl_e {s : pPg} (h : inNd s) (p : Int) : pKl s.2.1 p = pKy s.2.1 p := by
  unfold pKl pKy
  have key : ∀ (l : List (Int × Int × Int)), (l.map (·.1)).Nodup → l.reverse.find? (fun x => decide (x.1 = p)) = l.find? (fun x => decide (x.1 = p)) := by
    intro l
    induction l with
    | nil => intro _; rfl
    | cons a l ih =>
      intro hn
      rw [List.map_cons, List.nodup_cons] at hn
      rw [List.reverse_cons, List.find?_append, ih hn.2]
      by_cases c : a.1 = p
      · have hnone : l.find? (fun x => decide (x.1 = p)) = none := List.find?_eq_none.mpr (fun x hx => by
          intro q
          have e := of_decide_eq_true q
          exact hn.1 (List.mem_map.mpr ⟨x, hx, e.trans c.symm⟩))
        rw [hnone, List.find?_cons_of_pos (by rw [decide_eq_true c]), List.find?_cons_of_pos (by rw [decide_eq_true c])]
        rfl
      · rw [List.find?_cons_of_neg (l := l) (by rw [decide_eq_false c]; decide), List.find?_cons_of_neg (by rw [decide_eq_false c]; decide)]
        cases l.find? (fun x => decide (x.1 = p)) <;> rfl
  rw [key _ h]
/-- all that the class asks of a program without FAULTS -/
def qOc (s : pPg) : Prop := qOk s ∧ dRs s.2.2.2.2.1 ∧ wAm s ∧ wIH s ∧ wNh s ∧ inNd s ∧ ∀ p, p < s.1.length → pIn s.2.1 (p : Int) = true → qKy s p < qN s p
theorem qOc_of {tx : List Int} {s : pPg} (hB : tTx (tBt tx) tx.length) (h : qPr tx = .inr s) (hok : qOk s) : qOc s :=
  ⟨hok, qPr_d hB h, pProg_am h (fun u hu => absurd hu (by simp)), wIH_of h hok.1 hok.2.2, wNh_of h hok.2.2, inNd_of (pProg_mi h rfl) hok.2.2, fun p hp hi => key_lt h hok hp hi⟩
end
section
/-! THE CLASS: what Works holds: a program, and the rows as they are now; a rule's WAYS of a level -/
def cWk (S : Nat → Nat × Nat × Nat) (G : xG_) (q nx : Nat) (s : pPg) (xp cp : Nat → Nat) (R : Nat → List pRw) : Prop :=
  (cSs S ∧ cPs G ∧ G 93 1 = (q : Int) ∧ 226 < q ∧ cPgm S G q nx s ∧ qOc s) ∧
  ∀ p, p < s.1.length → G 94 p = ((xp p : Nat) : Int) ∧ (xp p = 108 + 6 * p ∨ 203 < xp p ∧ xp p + 2 < nx) ∧ cRw S G (xp p) (qN s p) (cp p) (R p) ∧ (R p).Pairwise rwLt ∧ (R p).length ≤ 100 ∧ (∀ r ∈ R p, ∀ x ∈ r.1, vOk x) ∧ ∀ r ∈ R p, 0 ≤ r.2 ∧ r.2 ≤ 1700
section
variable {f q nx r : Nat} {S : Nat → Nat × Nat × Nat} {G G' : xG_} {m : Nat × Nat} {s : pPg} {xp cp : Nat → Nat} {R : Nat → List pRw}
theorem cWk.ge (h : cWk S G q nx s xp cp R) (hp : cPs G') (h1 : G' 93 1 = G 93 1) (h94 : ∀ j, G' 94 j = G 94 j) (hm : ∀ p, p < 16 → ∀ b, 108 + 6 * p ≤ b → b ≤ 110 + 6 * p → ∀ j, G' b j = G b j) (hg : ∀ a j, 203 < a → G' a j = G a j) : cWk S G' q nx s xp cp R := by
  obtain ⟨⟨a1, a2, a3, a4, a5, a6⟩, b⟩ := h
  have hnp : s.1.length ≤ 16 := a5.2.2.1.2.1
  refine ⟨⟨a1, hp, by rw [h1]; exact a3, a4, a5.ge (Nat.le_refl _) (fun _ _ => rfl) (fun a j y _ => hg a j (by omega)), a6⟩, fun p hpn => ?_⟩
  obtain ⟨b1, b2, b3, b4⟩ := b p hpn
  have hz : ∀ c j, xp p ≤ c → c ≤ xp p + 2 → G' c j = G c j := fun c j y1 y2 => by
    rcases b2 with e | e
    · exact hm p (by omega) c (by omega) (by omega) j
    · exact hg c j (by omega)
  exact ⟨by rw [h94]; exact b1, b2, b3.ge (fun _ _ _ => rfl) (fun j => hz _ _ (by omega) (by omega)) (fun j => hz _ _ (by omega) (by omega)) (fun j => hz _ _ (by omega) (by omega)), b4⟩
/-- ITEMS of a rule -/
theorem ru_it {u : pRu} (hok : qOc s) (hu : u ∈ s.2.2.2.2.1) : wIe u.2.2.2.2.1.length u.2.2.2.1 u.2.2.1.2.1 ∧ (∀ E ∈ u.2.2.2.1, wC u.2.2.2.2.1.length E) ∧ qAs u.2.2.1 u.2.2.2.1 < 2 ^ 8 := by
  obtain ⟨w1, w2, w3, w4, w5, w6, w7, w8, w9⟩ := hok.1.1.2.2.2.2.2.2 u hu
  obtain ⟨d1, d2⟩ := hok.2.1 u hu
  have hI : ∀ E ∈ u.2.2.2.1, wC u.2.2.2.2.1.length E := fun E hE => by
    obtain ⟨k, hk, ek⟩ := List.getElem_of_mem hE
    have := w5.2 k hk
    rcases this with ⟨_, z⟩ | ⟨_, z⟩
    · have z' : u.2.2.2.1.getD k [] = [] := z
      rw [getD_e hk, ek] at z'
      rw [z']
      exact fun x hx => by cases hx
    · have z' : wEx u.2.2.2.2.1.length (u.2.2.2.1.getD k []) := z
      rw [getD_e hk, ek] at z'
      exact z'.1
  refine ⟨fun c hc hn => ⟨?_, ?_⟩, hI, Nat.or_lt_two_pow (by decide) (qIm_8 w6 hI)⟩
  · rcases w5.2 c hc with ⟨z, _⟩ | ⟨_, z⟩
    · exact absurd z hn
    · exact z
  · rw [getD_e hc]; exact d1 _ (List.getElem_mem hc)
theorem cWk.rule (h : cWk S G q nx s xp cp R) (hr : r < s.2.2.2.2.1.length) : ∃ u K pl, G (q + 7) r = ((u : Nat) : Int) ∧ G u 0 = (s.2.2.2.2.1.getD r dRu).1 ∧ cWX S G u K (s.2.2.2.2.1.getD r dRu).2.2.2.2.2 pl s.1.length (s.2.2.2.2.1.getD r dRu).2.2.2.2.1.length (qAs (s.2.2.2.2.1.getD r dRu).2.2.1 (s.2.2.2.2.1.getD r dRu).2.2.2.1) (qN s) xp cp R ∧ cIt G u K (s.2.2.2.2.1.getD r dRu).2.2.1 (s.2.2.2.2.1.getD r dRu).2.2.2.1 ∧ pl.Nodup ∧ ∃ dd, plB (s.2.2.2.2.1.getD r dRu).2.2.2.2.2 pl 0 = some dd := by
  obtain ⟨⟨a1, a2, a3, a4, a5, a6⟩, b⟩ := h
  obtain ⟨u, e7, _, _, ⟨K, c1, c2, ⟨pl, l1, l2, l3⟩, _⟩, e0, _⟩ := a5.2.2.2.2.2.1.2.2 r hr
  have hm : s.2.2.2.2.1.getD r dRu ∈ s.2.2.2.2.1 := by rw [getD_e hr]; exact List.getElem_mem hr
  obtain ⟨w1, w2, w3, w4, w5, w6, w7, w8, w9⟩ := a6.1.1.2.2.2.2.2.2 _ hm
  obtain ⟨i1, i2, i3⟩ := ru_it a6 hm
  obtain ⟨n1, n2⟩ := l3 (a6.1.2.1 _ hm).1
  have hlt : ∀ p ∈ pl, p < (s.2.2.2.2.1.getD r dRu).2.2.2.2.2.length := fun p hp => by
    obtain ⟨k, hk, ek⟩ := List.getElem_of_mem hp
    have := (l2 k (by omega)).2.1
    rw [getD_e hk, ek] at this
    exact this
  refine ⟨u, K, pl, e7, e0, ⟨⟨a1, a2, a5.2.2.1.2.1⟩, c1, ⟨w6, fun y hy => ⟨(w9 y hy).1, fun h3 => wAm_n a6.1 a6.2.2.1 hm hy h3⟩, (a6.2.1 _ hm).2⟩, ⟨l1, fun k hk => ?_⟩, fun p hp => ?_⟩, c2, n1, n2⟩
  · obtain ⟨z1, z2, z3⟩ := l2 k hk
    exact ⟨z1, z2, z3, plA_8 i3 (fun y hy => (w9 y hy).1.lv) w6 _ (fun p hp => hlt p (List.mem_of_mem_drop hp))⟩
  · obtain ⟨z1, z2, z3, z4, z5, z6, _⟩ := b p hp
    exact ⟨z1, by omega, z3, z4, z5, z6⟩
end
theorem qIm_in {j : Nat} : ∀ (I : List pCd) (c : Nat), (qVm (I.getD c [])).testBit j = true → (qIm I).testBit j = true
  | [], c, h => by
    have : (([] : List pCd).getD c []) = [] := by rw [List.getD_eq_getElem?_getD]; rfl
    rw [this] at h
    have h' : (0 : Nat).testBit j = true := h
    rw [Nat.zero_testBit] at h'
    cases h'
  | E :: I, 0, h => by
    show (qVm E ||| qIm I).testBit j = true
    rw [Nat.testBit_or, Bool.or_eq_true]
    exact .inl h
  | E :: I, c + 1, h => by
    show (qVm E ||| qIm I).testBit j = true
    rw [Nat.testBit_or, Bool.or_eq_true]
    exact .inr (qIm_in I c h)
theorem qMk_xa {I : List pCd} {g : Int} {nv : Nat} {v w : Nat → Int} (hw : ∀ k, k < I.length → (k : Int) ≠ g → wC nv (I.getD k [])) (h : ∀ j, (qIm I).testBit j = true → v j = w j) : ∀ k, k ≤ I.length → qMk I g v k = qMk I g w k
  | 0, _ => rfl
  | k + 1, hk => by
    show ((qMk I g v k).bind _) = ((qMk I g w k).bind _)
    rw [qMk_xa hw h k (by omega)]
    congr 1
    funext xs
    by_cases c : (k : Int) = g
    · rw [if_pos c, if_pos c]
    · rw [if_neg c, if_neg c, qEv_xt (hw k (by omega) c) (fun j hj => h j (qIm_in I k hj))]
section
variable {f u np nv a p n ld mb : Nat} {S : Nat → Nat × Nat × Nat} {G : xG_} {m : Nat × Nat} {K : pCd} {Ls : List pLt} {pl : List Nat} {qn xp cp : Nat → Nat} {R : Nat → List pRw} {I : List pCd} {g : Int × Int × Int} {cm lv : Int} {F : List pRw} {dd : Nat}
/-- openLevel(), derive(): one LITERAL leads -/
theorem k_lead (hf : 100003010 < f) (hp16 : p < 16) (hxp : ∀ q, q < np → ∀ b, xp q ≤ b → b ≤ xp q + 2 → ¬ (111 + 6 * p ≤ b ∧ b ≤ 113 + 6 * p)) (hX : cWX S G u K Ls pl np nv (qAs g I) qn xp cp R) (hI : cIt G u K g I) (hnI : I.length = n) (hwI : wIe nv I (-1)) (h3 : G u 3 = -1) (h0 : G u 0 = (p : Int)) (hat : pAtoms Ls ≤ 3) (hsf : sfe Ls nv) (hnd : pl.Nodup) (hpB : plB Ls pl 0 = some dd) (hmb : mb < 2 ^ 16) (hlv : 0 ≤ lv ∧ lv ≤ 2000) (hM : cRw S G (108 + 6 * p) n 100 (R p)) (hMs : (R p).Pairwise rwLt) (hF : cRw S G (111 + 6 * p) n 100 F) (hFs : F.Pairwise rwLt) (hF0 : ∀ r ∈ F, r.2 = 0) (hcm : G 93 15 = cm) (hc0 : 0 ≤ cm) (hc1 : cm ≤ 1000000) :
    ∃ G1 v G2, c153 f 93 u (mb : Int) lv (ld : Int) (S, G, m) = some (S, G1, m) ∧ G1 u 3 = -1 ∧ c155 f 93 u (S, G1, m) = some (v, (S, G2, m)) ∧ (∀ b j, ¬ (83 ≤ b ∧ b ≤ 92) → ¬ (99 ≤ b ∧ b ≤ 105) → ¬ (b = 93 ∧ j = 15) → ¬ (111 + 6 * p ≤ b ∧ b ≤ 113 + 6 * p) → G2 b j = G b j) ∧ cPs G2 ∧ gvO S G2 p n (R p) F cm (fun xs => ∃ w, (∀ l, l < Ls.length → litO Ls R (lvLo Ls mb lv ld) (lvHi Ls mb lv ld) l w) ∧ qMk I (-1) w I.length = some xs) v := by
  have hs := hX.1.1
  have hp := hX.1.2.1
  have hu : 278 < u := hX.2.1.2.2.2.2.1
  have hw16 : ∀ l, l < Ls.length → (Ls.getD l dLt).1 = 1 → 0 ≤ (Ls.getD l dLt).2.1 ∧ (Ls.getD l dLt).2.1 < 16 := fun l hl h1 => by
    obtain ⟨y1, y2⟩ := hX.2.2.1.2.1 _ (lt_in hl)
    have := (y2 (by omega)).1
    have := hX.1.2.2
    rcases y1 with ⟨_, _, z, _⟩ | ⟨z, _⟩ <;> omega
  obtain ⟨G1, e1, e2, e3, e4, e5, e6, e7, e8, e9, e10⟩ := k_153 (f := f) (m := m) (ld := ld) (lv := lv) (by omega) hs hp hX.2.1 hmb hw16 hlv
  have f1 : ∀ b j, ¬ (83 ≤ b ∧ b ≤ 92) → G1 b j = G b j := fun b j y => e2 b j (by omega) (by omega) (by omega) (by omega)
  have hE : cWE S G1 u K Ls pl 94 16 np nv (qAs g I) 1 qn xp cp R (lvLo Ls mb lv ld) (lvHi Ls mb lv ld) := hX.we e2 e3 e4 e5 e6 e10
  obtain ⟨V, k, Bf, w1, w2, w3, w4, w5, _, w6⟩ := ways_start hE e7 e8 (b := 0) (vl := fun _ => 0) ⟨e9, by decide, fun k hk => by rw [Nat.zero_testBit] at hk; cases hk⟩ hat hsf hnd hpB
  have w7 := w6 (by decide)
  obtain ⟨v, G2, i1, i2, i3, i4⟩ := k_155l (f := f) (m := m) (g := g) hf hp16 (fun q hq => ⟨by have := (hX.2.2.2.2 q hq).2.1; omega, hxp q hq⟩) hI.2.1 hwI w4 hMs V k 0 f G1 F cm hE w3 w1 (by omega) (by omega) (hI.fx hu (fun b j y => f1 b j (by omega))) (by rw [f1 _ _ (by omega)]; exact h3) (by rw [f1 _ _ (by omega)]; exact h0) (by rw [hnI]; exact hM.ge (fun _ _ _ => rfl) (fun j => f1 _ _ (by omega)) (fun j => f1 _ _ (by omega)) (fun j => f1 _ _ (by omega))) (by rw [hnI]; exact hF.ge (fun _ _ _ => rfl) (fun j => f1 _ _ (by omega)) (fun j => f1 _ _ (by omega)) (fun j => f1 _ _ (by omega))) hFs hF0 (by rw [f1 _ _ (by omega)]; exact hcm) hc0 (by omega)
  refine ⟨G1, v, G2, e1, by rw [f1 _ _ (by omega)]; exact h3, i1, fun b j y1 y2 y3 y4 => by rw [i2 b j y1 y3 (by omega) y4, f1 b j y1], i3, ?_⟩
  rw [hnI] at i4
  have iff : ∀ xs, (∃ v ∈ V, qMk I (-1) v n = some xs) ↔ ∃ w, (∀ l, l < Ls.length → litO Ls R (lvLo Ls mb lv ld) (lvHi Ls mb lv ld) l w) ∧ qMk I (-1) w I.length = some xs := fun xs => by
    rw [hnI]
    constructor
    · rintro ⟨v, v1, v2⟩
      exact ⟨v, (w5 v v1).2, v2⟩
    · rintro ⟨w, x1, x2⟩
      obtain ⟨v, v1, v2⟩ := w7 w (fun j hj => by rw [Nat.zero_testBit] at hj; cases hj) x1
      refine ⟨v, v1, ?_⟩
      rw [qMk_xa (nv := nv) (w := w) (fun k hk hn => (hwI k hk hn).1.1) (fun j hj => ?_) n (by omega)]
      · exact x2
      · have hja : (qAs g I).testBit j = true := by
          unfold qAs
          rw [Nat.testBit_or, Bool.or_eq_true]
          exact .inr hj
        by_cases cb : Bf.testBit j = true
        · exact v2 j cb hja
        · exfalso
          have : j < nv := by
            have key : ∀ (I : List pCd), (qIm I).testBit j = true → ∃ E ∈ I, (qVm E).testBit j = true := by
              intro I
              induction I with
              | nil => intro h; have h' : (0 : Nat).testBit j = true := h; rw [Nat.zero_testBit] at h'; cases h'
              | cons E I ih =>
                intro h
                have h' : (qVm E ||| qIm I).testBit j = true := h
                rw [Nat.testBit_or, Bool.or_eq_true] at h'
                rcases h' with h' | h'
                · exact ⟨E, List.mem_cons_self, h'⟩
                · obtain ⟨E', a1, a2⟩ := ih h'
                  exact ⟨E', List.mem_cons_of_mem _ a1, a2⟩
            obtain ⟨E, a1, a2⟩ := key I hj
            obtain ⟨c, hc, ec⟩ := List.getElem_of_mem a1
            have hwc := (hwI c hc (by omega)).1.1
            rw [getD_e hc, ec] at hwc
            exact qVm_in hwc j a2
          exact cb (w4 j this)
  rcases i4 with ⟨j1, F', j2, j3, j4, j5, j6, j7⟩ | ⟨j1, W, j2, j3, j4⟩
  · exact .inl ⟨j1, F', j2, j3, j4, j5, j6, fun xs => (j7 xs).trans (or_congr Iff.rfl (and_congr Iff.rfl (iff xs)))⟩
  · exact .inr ⟨j1, W, j2, j3, fun xs hx => (j4 xs hx).imp id (fun q => ⟨q.1, (iff xs).mp q.2⟩)⟩
end
end
section
/-! THE CLASS: workRing(), the LITERALS of one rule that lead at a level -/
section
variable {f u l r np p gA lds : Nat} {S : Nat → Nat × Nat × Nat} {G G1 G2 : xG_} {m : Nat × Nat} {rg mb lv v : Int} {r66 : Nat → Int → Int → Int → xT_ → Option (Int × xT_)} {r89 : Nat → Int → Int → Int → Int → xT_ → Option (Int × xT_)} {r148 : Nat → Int → Int → Int → Int → Nat → Int → Int → xT_ → Option (Int × xT_)} {T : xT_} {x : Int}
theorem st_148z (er : xwr ((r : Int) + 1) = ((r + 1 : Nat) : Int)) : c149_148b r66 r89 r148 f 93 rg mb lv (r : Int) u x 8 T = r89 93 rg mb lv ((r + 1 : Nat) : Int) T := by
  unfold c149_148b
  rw [if_pos (Int.le_refl 8), er]
theorem st_148n (hl : l < 8) (hb : lds.testBit l = false) (hlt : lds < 2 ^ 8) (el : xwr ((l : Int) + 1) = ((l + 1 : Nat) : Int)) : c149_148b r66 r89 r148 f 93 rg mb lv (r : Int) u (lds : Int) (l : Int) T = r148 93 rg mb lv (r : Int) u (lds : Int) ((l + 1 : Nat) : Int) T := by
  have eb : ¬ xand (xshr (lds : Int) (l : Int)) 1 = 1 := fun y => by rw [(xbit (by omega) (by omega)).mp y] at hb; cases hb
  unfold c149_148b c149_209
  rw [if_neg (by omega), if_pos eb, el]
theorem st_148d (hs : cSs S) (us : S u = (1, 6, 20)) (hl : l < 8) (hb : lds.testBit l = true) (hlt : lds < 2 ^ 8) (el : xwr ((l : Int) + 1) = ((l + 1 : Nat) : Int)) (e1 : c153 f 93 u mb lv (l : Int) (S, G, m) = some (S, G1, m)) (h3 : G1 u 3 = -1) (e2 : c155 f 93 u (S, G1, m) = some (v, (S, G2, m))) : c149_148b r66 r89 r148 f 93 rg mb lv (r : Int) u (lds : Int) (l : Int) (S, G, m) = if v = 0 then some (0, (S, G2, m)) else r148 93 rg mb lv (r : Int) u (lds : Int) ((l + 1 : Nat) : Int) (S, G2, m) := by
  have eb : xand (xshr (lds : Int) (l : Int)) 1 = 1 := (xbit (by omega) (by omega)).mpr hb
  by_cases c : v = 0
  · rw [if_pos c]
    unfold c149_148b c149_207
    simp (disch := omega) only [cq_gi, cq_gr, cq_a, cq_s, cq_p, cq_pr, cq_is, cq_ar, cq_ab, cq_ln, xq_nz, Option.bind_some, xup2_n, xup2_s, Int.toNat_natCast, Int.reduceToNat, if_pos, if_neg, true_and, and_true, and_self, eq_self, if_true, reduceIte, not_true_eq_false, not_false_eq_true, or_true, true_or, s93 hs, us, eb, e1, h3, e2, c]
  · rw [if_neg c]
    unfold c149_148b c149_209
    simp (disch := omega) only [cq_gi, cq_gr, cq_a, cq_s, cq_p, cq_pr, cq_is, cq_ar, cq_ab, cq_ln, xq_nz, Option.bind_some, xup2_n, xup2_s, Int.toNat_natCast, Int.reduceToNat, if_pos, if_neg, true_and, and_true, and_self, eq_self, if_true, reduceIte, not_true_eq_false, not_false_eq_true, or_true, true_or, s93 hs, us, eb, e1, h3, e2, c, el]
theorem st_148g (hs : cSs S) (us : S u = (1, 6, 20)) (hl : l < 8) (hb : lds.testBit l = true) (hlt : lds < 2 ^ 8) (el : xwr ((l : Int) + 1) = ((l + 1 : Nat) : Int)) (e1 : c153 f 93 u mb lv (l : Int) (S, G, m) = some (S, G1, m)) (h3 : G1 u 3 = (gA : Int)) (e2 : c157 f 93 u (S, G1, m) = some (v, (S, G2, m))) : c149_148b r66 r89 r148 f 93 rg mb lv (r : Int) u (lds : Int) (l : Int) (S, G, m) = if v = 0 then some (0, (S, G2, m)) else r148 93 rg mb lv (r : Int) u (lds : Int) ((l + 1 : Nat) : Int) (S, G2, m) := by
  have eb : xand (xshr (lds : Int) (l : Int)) 1 = 1 := (xbit (by omega) (by omega)).mpr hb
  have hg : ¬ (gA : Int) = -1 := by omega
  by_cases c : v = 0
  · rw [if_pos c]
    unfold c149_148b c149_207
    simp (disch := omega) only [cq_gi, cq_gr, cq_a, cq_s, cq_p, cq_pr, cq_is, cq_ar, cq_ab, cq_ln, xq_nz, Option.bind_some, xup2_n, xup2_s, Int.toNat_natCast, Int.reduceToNat, if_pos, if_neg, true_and, and_true, and_self, eq_self, if_true, reduceIte, not_true_eq_false, not_false_eq_true, or_true, true_or, s93 hs, us, eb, e1, h3, e2, c, hg]
  · rw [if_neg c]
    unfold c149_148b c149_209
    simp (disch := omega) only [cq_gi, cq_gr, cq_a, cq_s, cq_p, cq_pr, cq_is, cq_ar, cq_ab, cq_ln, xq_nz, Option.bind_some, xup2_n, xup2_s, Int.toNat_natCast, Int.reduceToNat, if_pos, if_neg, true_and, and_true, and_self, eq_self, if_true, reduceIte, not_true_eq_false, not_false_eq_true, or_true, true_or, s93 hs, us, eb, e1, h3, e2, c, el, hg]
/-- no LITERAL leads any more -/
theorem k_148z (hlt : lds < 2 ^ 8) (er : xwr ((r : Int) + 1) = ((r + 1 : Nat) : Int)) : ∀ (d l fu : Nat), l + d = 8 → d < fu → (∀ j, l ≤ j → j < 8 → lds.testBit j = false) → c149_148 r66 r89 f fu 93 rg mb lv (r : Int) u (lds : Int) (l : Int) T = r89 93 rg mb lv ((r + 1 : Nat) : Int) T := by
  intro d
  induction d with
  | zero =>
    intro l fu e1 e2 _
    obtain ⟨fu, rfl⟩ : ∃ t, fu = t + 1 := ⟨fu - 1, by omega⟩
    have e : l = 8 := by omega
    subst e
    exact st_148z (r148 := c149_148 r66 r89 f fu) er
  | succ d ih =>
    intro l fu e1 e2 hb
    obtain ⟨fu, rfl⟩ : ∃ t, fu = t + 1 := ⟨fu - 1, by omega⟩
    exact (st_148n (r148 := c149_148 r66 r89 f fu) (by omega) (hb l (Nat.le_refl _) (by omega)) hlt (by rw [xwr_g _ (by omega) (by omega)]; omega)).trans (ih (l + 1) fu (by omega) (by omega) (fun j y1 y2 => hb j (by omega) y2))
end
section
variable {f u r np nv p n lds mb : Nat} {S : Nat → Nat × Nat × Nat} {m : Nat × Nat} {K : pCd} {Ls : List pLt} {pl : List Nat} {qn xp cp : Nat → Nat} {R : Nat → List pRw} {I : List pCd} {g : Int × Int × Int} {rg lv : Int} {dd : Nat} {r66 : Nat → Int → Int → Int → xT_ → Option (Int × xT_)} {r89 : Nat → Int → Int → Int → Int → xT_ → Option (Int × xT_)}
/-- a rule that doesn't gather, all LITERALS that lead -/
theorem k_148d (hf : 100003010 < f) (hp16 : p < 16) (hxp : ∀ q, q < np → ∀ b, xp q ≤ b → b ≤ xp q + 2 → ¬ (111 + 6 * p ≤ b ∧ b ≤ 113 + 6 * p)) (hnI : I.length = n) (hwI : wIe nv I (-1)) (hat : pAtoms Ls ≤ 3) (hsf : sfe Ls nv) (hnd : pl.Nodup) (hpB : plB Ls pl 0 = some dd) (hmb : mb < 2 ^ 16) (hlv : 0 ≤ lv ∧ lv ≤ 2000) (hMs : (R p).Pairwise rwLt) (hlt : lds < 2 ^ 8) (hr : r < 24) :
    ∀ (d l fu : Nat) (G : xG_) (F : List pRw) (cm : Int), l + d = 8 → d < fu → cWX S G u K Ls pl np nv (qAs g I) qn xp cp R → cIt G u K g I → G u 3 = -1 → G u 0 = (p : Int) → cRw S G (108 + 6 * p) n 100 (R p) → cRw S G (111 + 6 * p) n 100 F → F.Pairwise rwLt → (∀ r ∈ F, r.2 = 0) → G 93 15 = cm → 0 ≤ cm → cm ≤ 900000 + (F.length : Int) →
      ∃ v G', c149_148 r66 r89 f fu 93 rg (mb : Int) lv (r : Int) u (lds : Int) (l : Int) (S, G, m) = (if v = 0 then some (0, (S, G', m)) else r89 93 rg (mb : Int) lv ((r + 1 : Nat) : Int) (S, G', m)) ∧ (∀ b j, ¬ (83 ≤ b ∧ b ≤ 92) → ¬ (99 ≤ b ∧ b ≤ 105) → ¬ (b = 93 ∧ j = 15) → ¬ (111 + 6 * p ≤ b ∧ b ≤ 113 + 6 * p) → G' b j = G b j) ∧ cPs G' ∧ gvO S G' p n (R p) F cm (fun xs => ∃ ld, l ≤ ld ∧ ld < 8 ∧ lds.testBit ld = true ∧ ∃ w, (∀ l, l < Ls.length → litO Ls R (lvLo Ls mb lv ld) (lvHi Ls mb lv ld) l w) ∧ qMk I (-1) w I.length = some xs) v := by
  have er : xwr ((r : Int) + 1) = ((r + 1 : Nat) : Int) := by rw [xwr_g _ (by omega) (by omega)]; omega
  intro d
  induction d with
  | zero =>
    intro l fu G F cm e1 e2 hX hI h3 h0 hM hF hFs hF0 hcm hc0 hc1
    obtain ⟨fu, rfl⟩ : ∃ t, fu = t + 1 := ⟨fu - 1, by omega⟩
    have e : l = 8 := by omega
    subst e
    refine ⟨1, G, ?_, fun _ _ _ _ _ _ => rfl, hX.1.2.1, gvO.no hF hFs hF0 hcm (fun xs ⟨ld, y1, y2, _⟩ => by omega)⟩
    rw [if_neg (by decide)]
    exact st_148z (r148 := c149_148 r66 r89 f fu) er
  | succ d ih =>
    intro l fu G F cm e1 e2 hX hI h3 h0 hM hF hFs hF0 hcm hc0 hc1
    obtain ⟨fu, rfl⟩ : ∃ t, fu = t + 1 := ⟨fu - 1, by omega⟩
    have el : xwr ((l : Int) + 1) = ((l + 1 : Nat) : Int) := by rw [xwr_g _ (by omega) (by omega)]; omega
    have hu : 278 < u := hX.2.1.2.2.2.2.1
    have us : S u = (1, 6, 20) := hX.2.1.1.1
    by_cases hb : lds.testBit l = true
    · have hFl := hF.2.2.2.2.1
      obtain ⟨G1, v, G2, a1, a2, a3, a4, a5, a6⟩ := k_lead (f := f) (m := m) (ld := l) (lv := lv) (cm := cm) hf hp16 hxp hX hI hnI hwI h3 h0 hat hsf hnd hpB hmb hlv hM hMs hF hFs hF0 hcm hc0 (by omega)
      have st : c149_148 r66 r89 f (fu + 1) 93 rg (mb : Int) lv (r : Int) u (lds : Int) (l : Int) (S, G, m) = _ := st_148d (r148 := c149_148 r66 r89 f fu) hX.1.1 us (by omega) hb hlt el a1 a2 a3
      rcases a6 with ⟨b1, F', b2, b3, b4, b5, b6, b7⟩ | ⟨b1, W, b2, b3, b4⟩
      · rw [if_neg (by omega)] at st
        obtain ⟨v', G3, i1, i2, i3, i4⟩ := ih (l + 1) fu G2 F' (cm + ((F'.length - F.length : Nat) : Int)) (by omega) (by omega)
          (hX.ge a5 (fun q hq b y1 y2 j => a4 b j (by have := (hX.2.2.2.2 q hq).2.1; omega) (by have := (hX.2.2.2.2 q hq).2.1; omega) (by have := (hX.2.2.2.2 q hq).2.1; omega) (hxp q hq b y1 y2)) (fun j => a4 _ _ (by omega) (by omega) (by omega) (by omega)) (fun b j y => a4 b j (by omega) (by omega) (by omega) (by omega)))
          (hI.fx hu (fun b j y => a4 b j (by omega) (by omega) (by omega) (by omega))) (by rw [a4 _ _ (by omega) (by omega) (by omega) (by omega)]; exact h3) (by rw [a4 _ _ (by omega) (by omega) (by omega) (by omega)]; exact h0)
          (hM.ge (fun _ _ _ => rfl) (fun j => a4 _ _ (by omega) (by omega) (by omega) (by omega)) (fun j => a4 _ _ (by omega) (by omega) (by omega) (by omega)) (fun j => a4 _ _ (by omega) (by omega) (by omega) (by omega))) b2 b3 b4 b6 (by omega) (by omega)
        refine ⟨v', G3, st.trans i1, fun b j y1 y2 y3 y4 => by rw [i2 b j y1 y2 y3 y4, a4 b j y1 y2 y3 y4], i3, (gvO.add b5 rfl b7 i4).cg (fun xs _ => ?_)⟩
        constructor
        · rintro (q | ⟨ld, q1, q2⟩)
          · exact ⟨l, Nat.le_refl _, by omega, hb, q⟩
          · exact ⟨ld, by omega, q2⟩
        · rintro ⟨ld, q1, q2, q3, q4⟩
          by_cases c : ld = l
          · subst c; exact .inl q4
          · exact .inr ⟨ld, by omega, q2, q3, q4⟩
      · rw [if_pos b1] at st
        refine ⟨0, G2, by rw [if_pos rfl]; exact st, a4, a5, .inr ⟨rfl, W, b2, b3, fun xs hx => (b4 xs hx).imp id (fun q => ⟨q.1, l, Nat.le_refl _, by omega, hb, q.2⟩)⟩⟩
    · have hb' : lds.testBit l = false := by cases h : lds.testBit l with
        | true => exact absurd h hb
        | false => rfl
      have st : c149_148 r66 r89 f (fu + 1) 93 rg (mb : Int) lv (r : Int) u (lds : Int) (l : Int) (S, G, m) = _ := st_148n (r148 := c149_148 r66 r89 f fu) (by omega) hb' hlt el
      obtain ⟨v', G3, i1, i2, i3, i4⟩ := ih (l + 1) fu G F cm (by omega) (by omega) hX hI h3 h0 hM hF hFs hF0 hcm hc0 hc1
      refine ⟨v', G3, st.trans i1, i2, i3, i4.cg (fun xs _ => ⟨fun ⟨ld, q1, q2⟩ => ⟨ld, by omega, q2⟩, fun ⟨ld, q1, q2, q3, q4⟩ => ⟨ld, ?_, q2, q3, q4⟩⟩)⟩
      by_cases c : ld = l
      · subst c; rw [hb'] at q3; cases q3
      · omega
end
section
variable {f u np nv a : Nat} {S : Nat → Nat × Nat × Nat} {G : xG_} {K : pCd} {Ls : List pLt} {pl : List Nat} {qn xp cp : Nat → Nat} {R : Nat → List pRw} {dd : Nat}
/-- how many WAYS there are -/
theorem wx_all (hX : cWX S G u K Ls pl np nv a qn xp cp R) (hat : pAtoms Ls ≤ 3) (hsf : sfe Ls nv) (hnd : pl.Nodup) (hpB : plB Ls pl 0 = some dd) (hr : ∀ l, l < Ls.length → (Ls.getD l dLt).1 ≠ 3 → ∀ r ∈ R (Ls.getD l dLt).2.1.toNat, 0 ≤ r.2 ∧ r.2 ≤ 1700) : ∀ V, isAll Ls nv R qO1 V → V.length ≤ 1000000 := by
  obtain ⟨G1, e1, e2, e3, e4, e5, e6, e7, e8, e9, e10, e11⟩ := k_130 (u := u) (fa := 94) (m := (0, 0)) (G := G) (f := 21) (by omega) hX.1.1 hX.1.2.1 (.inl rfl)
  have hE : cWE S G1 u K Ls pl 94 16 np nv a 0 qn xp cp R (fun _ => 0) (fun _ => 1700) := hX.we e2 e3 e4 e5 e6 (fun l hl => ⟨e10 l hl, e11 l hl⟩)
  obtain ⟨V, k, Bf, w1, w2, w3, w4, w5, w6, _⟩ := ways_start hE e7 e8 (b := 0) (vl := fun _ => 0) ⟨e9, by decide, fun k hk => by rw [Nat.zero_testBit] at hk; cases hk⟩ hat hsf hnd hpB
  obtain ⟨w7, w8⟩ := w6 rfl
  have hall : isAll Ls nv R qO1 (V.map (vec nv)) := all_of (np := np) (lo := fun _ => 0) (hi := fun _ => 1700) (fun y hy => (hX.2.2.1.2.1 y hy).1) w4 (ways_bits hE e7 e8 e9 w3) hr (fun v hv => (w5 v hv).2) w7 (fun w hw => w8 w (fun j hj => by rw [Nat.zero_testBit] at hj; cases hj) hw)
  intro V' hV'
  rw [(hV'.perm hall).length_eq, List.length_map]
  exact w2
end
end
section
/-! THE CLASS: workRing(), one rule at a level -/
theorem gXv_1 (a b : Int) : gXv 1 a = gXv 1 b := by
  funext v
  unfold gXv
  rw [if_pos rfl, if_pos rfl]
theorem gKy_1 (a b : Int) (I : List pCd) (gA : Int) (last : Option (List Int)) : gKy 1 a I gA last = gKy 1 b I gA last := by
  funext v
  unfold gKy
  rw [gXv_1 a b]
theorem gDs_1 {l : List pLt} {nv : Nat} {R : Nat → List pRw} {op : Nat → pRw → Prop} {I : List pCd} {gA : Nat} {xs zs : List Int} (a b : Int) : gDs l nv R op 1 a I gA xs zs ↔ gDs l nv R op 1 b I gA xs zs := by
  unfold gDs
  rw [gKy_1 a b, gXv_1 a b]
section
variable {f q nx r n rg mb ow p : Nat} {S : Nat → Nat × Nat × Nat} {G : xG_} {m : Nat × Nat} {s : pPg} {xp cp : Nat → Nat} {R R0 : Nat → List pRw} {F : List pRw} {cm : Int} {r66 : Nat → Int → Int → Int → xT_ → Option (Int × xT_)} {r89 : Nat → Int → Int → Int → Int → xT_ → Option (Int × xT_)}
/-- a rule of the RING -/
theorem k_148r (hf : 100003010 < f) (h : cWk S G q nx s xp cp R) (hr : r < s.2.2.2.2.1.length) (hn : n ≤ 1700) {u : Nat} (hu7 : G (q + 7) r = ((u : Nat) : Int)) (hhd : (s.2.2.2.2.1.getD r dRu).1 = (p : Int)) (hk : qK s p = rg) (hxr : ∀ p, p < s.1.length → qK s p = rg → xp p = 108 + 6 * p ∧ cp p = 100) (hmb : ∀ j, mb.testBit j = true ↔ j < s.1.length ∧ qK s j = rg) (hmb16 : mb < 2 ^ 16) (h0 : ∀ p, p < s.1.length → qK s p = rg → R0 p = []) (hs0 : ∀ p, p < s.1.length → (R0 p).Pairwise rwLt) (hC : wkC s rg R0 n R) (how8 : ow < 2 ^ 8) (how : ∀ l, ow.testBit l = true ↔ l < (s.2.2.2.2.1.getD r dRu).2.2.2.2.2.length ∧ ownL (s.2.2.2.2.1.getD r dRu).2.2.2.2.2 mb l) (hF : cRw S G (111 + 6 * p) (qN s p) 100 F) (hFs : F.Pairwise rwLt) (hF0 : ∀ r ∈ F, r.2 = 0) (hcm : G 93 15 = cm) (hc0 : 0 ≤ cm) (hc1 : cm ≤ 900000) :
    ∃ v G', c149_148 r66 r89 f f 93 (rg : Int) (mb : Int) ((n + 1 : Nat) : Int) (r : Int) u ((ldM ow n : Nat) : Int) 0 (S, G, m) = (if v = 0 then some (0, (S, G', m)) else r89 93 (rg : Int) (mb : Int) ((n + 1 : Nat) : Int) ((r + 1 : Nat) : Int) (S, G', m)) ∧ (∀ b j, ¬ (83 ≤ b ∧ b ≤ 92) → ¬ (99 ≤ b ∧ b ≤ 105) → ¬ (b = 93 ∧ j = 15) → ¬ (111 + 6 * p ≤ b ∧ b ≤ 113 + 6 * p) → G' b j = G b j) ∧ cPs G' ∧ gvO S G' p (qN s p) (R p) F cm (fun xs => (qG (s.2.2.2.2.1.getD r dRu) ≠ 0 → n = 0) ∧ rlD (s.2.2.2.2.1.getD r dRu) R xs) v := by
  obtain ⟨u', K, pl, e7, e0, hX, hI, hnd, dd, hpB⟩ := h.rule hr
  have eu : u' = u := by omega
  subst eu
  obtain ⟨⟨a1, a2, a3, a4, a5, a6⟩, b⟩ := h
  have hm : s.2.2.2.2.1.getD r dRu ∈ s.2.2.2.2.1 := by rw [getD_e hr]; exact List.getElem_mem hr
  generalize s.2.2.2.2.1.getD r dRu = ru at *
  obtain ⟨w1, w2, w3, w4, w5, w6, w7, w8, w9⟩ := a6.1.1.2.2.2.2.2.2 ru hm
  obtain ⟨i1, i2, i3⟩ := ru_it a6 hm
  have hnp : s.1.length ≤ 16 := a6.1.1.1
  have hpn : p < s.1.length := by omega
  have hr24 : r < 24 := by have := a6.1.1.2.2.2.2.2.1; omega
  obtain ⟨b1, b2, b3, b4, b5, b6, b7⟩ := b p hpn
  obtain ⟨c1, c2⟩ := hxr p hpn hk
  rw [c1, c2] at b3
  have hN : ru.2.2.2.1.length = qN s p := by
    have o2 := (a6.1.2.1 ru hm).2
    have := (qN_c a6.1.1 p).1
    rw [hhd] at o2
    omega
  have hsf : sfe ru.2.2.2.2.2 ru.2.2.2.2.1.length := (a6.1.2.1 ru hm).1
  have hxp : ∀ q, q < s.1.length → ∀ b, xp q ≤ b → b ≤ xp q + 2 → ¬ (111 + 6 * p ≤ b ∧ b ≤ 113 + 6 * p) := fun q hq c y1 y2 => by
    have := (b q hq).2.1
    omega
  have er : xwr ((r : Int) + 1) = ((r + 1 : Nat) : Int) := by rw [xwr_g _ (by omega) (by omega)]; omega
  have hrk : ∀ l, l < ru.2.2.2.2.2.length → (ru.2.2.2.2.2.getD l dLt).1 ≠ 3 → ∀ r ∈ R (ru.2.2.2.2.2.getD l dLt).2.1.toNat, 0 ≤ r.2 ∧ r.2 ≤ 1700 := fun l hl h3 => by
    obtain ⟨y1, y2⟩ := w9 _ (lt_in hl)
    have y3 := y2 h3
    have y4 : (ru.2.2.2.2.2.getD l dLt).2.1 < s.1.length := by
      rcases y1 with ⟨_, _, z, _⟩ | ⟨z, _⟩
      · exact z
      · exact absurd z h3
    exact (b (ru.2.2.2.2.2.getD l dLt).2.1.toNat (by omega)).2.2.2.2.2.2
  have hu' : 278 < u' := hX.2.1.2.2.2.2.1
  have us : S u' = (1, 6, 20) := hX.2.1.1.1
  have hFl := hF.2.2.2.2.1
  have hkr : qK s ru.1.toNat = rg := by rw [hhd, Int.toNat_natCast]; exact hk
  have hld : ldM ow n < 2 ^ 8 := by
    unfold ldM
    by_cases y1 : ow = 0
    · rw [if_pos y1]
      by_cases y2 : n = 0
      · rw [if_pos y2]; decide
      · rw [if_neg y2]; decide
    · rw [if_neg y1]
      by_cases y2 : n = 0
      · rw [if_pos y2]; decide
      · rw [if_neg y2]; exact how8
  by_cases cg : ru.2.2.1.1 = 0
  · have hqg : qG ru = 0 := by unfold qG; rw [if_pos cg]
    have hgA : ru.2.2.1.2.1 = -1 := by
      rcases w5.1 with z | z
      · exact z.2.1
      · have : (10 : Int) ≤ ru.2.2.1.1 := z.1.1
        omega
    rw [hgA] at i1
    have h3 : G u' 3 = -1 := by
      rcases hI.2.2.2.2 with z | z
      · exact z.2
      · have := z.1.1; omega
    obtain ⟨v, G', k1, k2, k3, k4⟩ := k_148d (f := f) (m := m) (r66 := r66) (r89 := r89) (rg := (rg : Int)) (lv := ((n + 1 : Nat) : Int)) (lds := ldM ow n) (r := r) (mb := mb) hf (by omega) hxp hN i1 w8 hsf hnd hpB hmb16 (by omega) b4 hld hr24 8 0 f G F cm (by omega) (by omega) hX hI h3 (by rw [e0]; exact hhd) b3 hF hFs hF0 hcm hc0 (by omega)
    refine ⟨v, G', k1, k2, k3, k4.cg (fun xs hx => ?_)⟩
    have sem := lv_semi (n := n) (R := R) (R0 := R0) a6.1 hm hqg hkr hmb h0 hs0 hC (fun p hp => (b p hp).2.2.2.2.2.2) how (xs := xs) (by rw [hhd, Int.toNat_natCast]; exact hx)
    unfold rlD
    rw [if_pos hqg, sem]
    constructor
    · rintro ⟨ld, y1, y2, y3, y4⟩
      exact ⟨fun y => absurd hqg y, ld, y3, y4⟩
    · rintro ⟨_, ld, y3, y4⟩
      refine ⟨ld, Nat.zero_le _, ?_, y3, y4⟩
      refine Classical.byContradiction (fun q => ?_)
      have := Nat.testBit_lt_two_pow (Nat.lt_of_lt_of_le hld (Nat.pow_le_pow_right (by decide) (by omega : 8 ≤ ld)))
      rw [this] at y3
      cases y3
  · have hg10 : (10 ≤ ru.2.2.1.1 ∧ ru.2.2.1.1 ≤ 13) ∧ 0 ≤ ru.2.2.1.2.1 ∧ ru.2.2.1.2.1 < ru.2.2.2.1.length ∧ (ru.2.2.1.1 = 10 ∧ ru.2.2.1.2.2 = -1 ∨ ru.2.2.1.1 ≠ 10 ∧ 0 ≤ ru.2.2.1.2.2 ∧ ru.2.2.1.2.2 < ru.2.2.2.2.1.length) := by
      rcases w5.1 with z | z
      · exact absurd z.1 cg
      · exact z
    have hqg : qG ru = ru.2.2.1.1 - 9 := by unfold qG; rw [if_neg cg]
    have ow0 : ow = 0 := Nat.eq_of_testBit_eq (fun j => by
      rw [Nat.zero_testBit]
      cases hb : ow.testBit j with
      | false => rfl
      | true =>
        exfalso
        obtain ⟨y1, y2, y3⟩ := (how j).mp hb
        have := ok_5 a6.1 hm (lt_in y1) (by omega) (.inr (by omega))
        rw [hkr] at this
        exact this ((hmb _).mp y3).2)
    by_cases cn : n = 0
    · subst cn
      have eld : ldM ow 0 = 1 := by unfold ldM; rw [if_pos ow0, if_pos rfl]
      rw [eld]
      have hRp : R p = [] := by
        have h' : R p = R0 p := hC p hpn
        rw [h', h0 p hpn hk]
      have hw16 : ∀ l, l < ru.2.2.2.2.2.length → (ru.2.2.2.2.2.getD l dLt).1 = 1 → 0 ≤ (ru.2.2.2.2.2.getD l dLt).2.1 ∧ (ru.2.2.2.2.2.getD l dLt).2.1 < 16 := fun l hl h1 => by
        obtain ⟨y1, y2⟩ := w9 _ (lt_in hl)
        have y3 := y2 (by omega)
        rcases y1 with ⟨_, _, z, _⟩ | ⟨z, _⟩ <;> omega
      obtain ⟨G1, x1, x2, x3, x4⟩ := k_153 (f := f) (m := m) (ld := 0) (lv := ((0 + 1 : Nat) : Int)) (mb := mb) (by omega) a1 a2 hX.2.1 hmb16 hw16 (by omega)
      have f1 : ∀ b j, ¬ (83 ≤ b ∧ b ≤ 92) → G1 b j = G b j := fun b j y => x2 b j (by omega) (by omega) (by omega) (by omega)
      have hX1 : cWX S G1 u' K ru.2.2.2.2.2 pl s.1.length ru.2.2.2.2.1.length (qAs ru.2.2.1 ru.2.2.2.1) (qN s) xp cp R := hX.ge x3 (fun q hq b y1 y2 j => f1 b j (by have := (hX.2.2.2.2 q hq).2.1; omega)) (fun j => f1 _ _ (by omega)) (fun b j y => f1 b j (by omega))
      obtain ⟨gA, hgA⟩ : ∃ gA : Nat, ru.2.2.1.2.1 = (gA : Int) := ⟨ru.2.2.1.2.1.toNat, by omega⟩
      have hGa : G u' 3 = (gA : Int) ∧ G u' 4 = qG ru + 9 ∧ (qG ru ≠ 1 → G u' 5 = ((ru.2.2.1.2.2.toNat : Nat) : Int)) := by
        rcases hI.2.2.2.2 with z | ⟨_, z2, _, z4, z5⟩
        · exact absurd z.1 cg
        · exact ⟨by rw [z2, hgA], by rw [z4, hqg]; omega, fun y => by rw [z5 (by omega)]; omega⟩
      rw [hgA] at i1
      have hall := wx_all hX w8 hsf hnd hpB hrk
      obtain ⟨v, G2, k1, k2, k3, k4⟩ := k_157t (f := f) (m := m) (kk := qG ru) (gO := ru.2.2.1.2.2.toNat) (gA := gA) (g := ru.2.2.1) hf (by omega : p < 16) hxp hN (by have := (qN_c a6.1.1 p).2; omega) (by omega) i1 (by omega) (fun y => by omega) w8 hsf hnd hpB hrk 1000000 f 0 none G1 F cm 1 (fun _ V hV => Nat.le_trans (List.countP_le_length) (hall V hV)) (by omega) (by omega) hX1 (hI.fx hu' (fun b j y => f1 b j (by omega))) (by rw [f1 _ _ (by omega)]; exact hGa.1) (by rw [f1 _ _ (by omega)]; exact hGa.2.1) (fun y => by rw [f1 _ _ (by omega)]; exact hGa.2.2 y) (by rw [f1 _ _ (by omega), e0]; exact hhd) (by rw [← hRp]; exact b3.ge (fun _ _ _ => rfl) (fun j => f1 _ _ (by omega)) (fun j => f1 _ _ (by omega)) (fun j => f1 _ _ (by omega))) (hF.ge (fun _ _ _ => rfl) (fun j => f1 _ _ (by omega)) (fun j => f1 _ _ (by omega)) (fun j => f1 _ _ (by omega))) hFs hF0 (by rw [f1 _ _ (by omega)]; exact hcm) hc0 (by omega) (.inr rfl) (fun _ => .inl ⟨rfl, rfl⟩)
      obtain ⟨fu, rfl⟩ : ∃ t, f = t + 1 := ⟨f - 1, by omega⟩
      have st : c149_148 r66 r89 (fu + 1) (fu + 1) 93 (rg : Int) (mb : Int) ((0 + 1 : Nat) : Int) (r : Int) u' ((1 : Nat) : Int) ((0 : Nat) : Int) (S, G, m) = _ := st_148g (r148 := c149_148 r66 r89 (fu + 1) fu) (gA := gA) (v := v) a1 us (by omega) (by decide) (by decide) (by rw [xwr_g _ (by omega) (by omega)]; omega) x1 (by rw [f1 _ _ (by omega)]; exact hGa.1) k1
      refine ⟨v, G2, ?_, fun b j y1 y2 y3 y4 => by rw [k2 b j y1 y2 y3 y4, f1 b j y1], k3, ?_⟩
      · refine st.trans ?_
        by_cases cv : v = 0
        · rw [if_pos cv, if_pos cv]
        · rw [if_neg cv, if_neg cv]
          exact k_148z (by decide) er 7 1 fu (by omega) (by omega) (fun j y1 y2 => by
            rcases (by omega : j = 1 ∨ j = 2 ∨ j = 3 ∨ j = 4 ∨ j = 5 ∨ j = 6 ∨ j = 7) with e | e | e | e | e | e | e <;> subst e <;> decide)
      · rw [hRp]
        refine k4.cg (fun xs _ => ?_)
        unfold rlD
        rw [if_neg (by omega), hgA, Int.toNat_natCast]
        have ed : ∀ ks, gDs ru.2.2.2.2.2 ru.2.2.2.2.1.length R qO1 (qG ru) ((ru.2.2.1.2.2.toNat : Nat) : Int) ru.2.2.2.1 gA ks xs ↔ gDs ru.2.2.2.2.2 ru.2.2.2.2.1.length R qO1 (qG ru) ru.2.2.1.2.2 ru.2.2.2.1 gA ks xs := fun ks => by
          by_cases c1 : qG ru = 1
          · rw [c1]; exact gDs_1 _ _
          · have : ((ru.2.2.1.2.2.toNat : Nat) : Int) = ru.2.2.1.2.2 := by omega
            rw [this]
        constructor
        · rintro ⟨_, ks, y1, _⟩
          exact ⟨fun _ => rfl, ks, (ed ks).mp y1⟩
        · rintro ⟨_, ks, y1⟩
          exact ⟨rfl, ks, (ed ks).mpr y1, rfl⟩
    · have eld : ldM ow n = 0 := by unfold ldM; rw [if_pos ow0, if_neg cn]
      rw [eld]
      refine ⟨1, G, ?_, fun _ _ _ _ _ _ => rfl, a2, gvO.no hF hFs hF0 hcm (fun xs hD _ => absurd (hD.1 (by omega)) cn)⟩
      rw [if_neg (by decide)]
      exact k_148z (lds := 0) (by decide) er 8 0 f (by omega) (by omega) (fun j _ _ => Nat.zero_testBit j)
end
end
section
/-! THE CLASS: workRing(), all rules at a level -/
/-- the rows of a level that came already -/
def cLw (S : Nat → Nat × Nat × Nat) (G : xG_) (s : pPg) (rg : Nat) (R F : Nat → List pRw) : Prop := (∀ p, p < s.1.length → qK s p = rg → cRw S G (111 + 6 * p) (qN s p) 100 (F p) ∧ (F p).Pairwise rwLt ∧ (∀ r ∈ F p, r.2 = 0) ∧ (R p).length + (F p).length ≤ 100) ∧ (∀ p, p < s.1.length → qK s p ≠ rg → F p = []) ∧ G 93 15 = (qTo F s.1.length : Int)
def xFl (s : pPg) (rg : Nat) (G G' : xG_) : Prop := ∀ b j, ¬ (83 ≤ b ∧ b ≤ 92) → ¬ (99 ≤ b ∧ b ≤ 105) → ¬ (b = 93 ∧ j = 15) → (∀ p, p < s.1.length → qK s p = rg → ¬ (111 + 6 * p ≤ b ∧ b ≤ 113 + 6 * p)) → G' b j = G b j
theorem qTo_up {F : Nat → List pRw} {F1 : List pRw} {p : Nat} (hl : (F p).length ≤ F1.length) : ∀ (np : Nat), p < np → qTo (fun k => if k = p then F1 else F k) np = qTo F np + (F1.length - (F p).length)
  | 0, h => by omega
  | np + 1, h => by
    show qTo _ np + (if np = p then F1 else F np).length = qTo F np + (F np).length + _
    by_cases c : np = p
    · rw [if_pos c]
      subst c
      have e : ∀ k, k ≤ np → qTo (fun k => if k = np then F1 else F k) k = qTo F k := by
        intro k
        induction k with
        | zero => intro _; rfl
        | succ k ih =>
          intro hk
          show qTo _ k + (if k = np then F1 else F k).length = qTo F k + (F k).length
          rw [ih (by omega), if_neg (by omega)]
      rw [e np (Nat.le_refl _)]
      omega
    · rw [if_neg c, qTo_up hl np (by omega)]
      omega
theorem qTo_0 {F : Nat → List pRw} : ∀ (np : Nat), qTo F np = 0 ↔ ∀ p, p < np → F p = []
  | 0 => ⟨fun _ p hp => by omega, fun _ => rfl⟩
  | np + 1 => by
    show qTo F np + (F np).length = 0 ↔ _
    constructor
    · intro h p hp
      by_cases c : p = np
      · rw [c]; exact List.length_eq_zero_iff.mp (by omega)
      · exact (qTo_0 np).mp (by omega) p (by omega)
    · intro h
      rw [(qTo_0 np).mpr (fun p hp => h p (by omega)), h np (by omega)]
      rfl
section
variable {f q nx r n rg mb p u np w : Nat} {S : Nat → Nat × Nat × Nat} {G : xG_} {m : Nat × Nat} {s : pPg} {xp cp : Nat → Nat} {R R0 : Nat → List pRw} {v lv x : Int} {r66 : Nat → Int → Int → Int → xT_ → Option (Int × xT_)} {r89 : Nat → Int → Int → Int → Int → xT_ → Option (Int × xT_)}
theorem st_89e (hs : cSs S) (h1 : G 93 1 = (q : Int)) (qs : S q = (1, 3, 14)) (h8 : G q 8 = (r : Int)) : c149_89b r66 r89 f 93 (rg : Int) x lv (r : Int) (S, G, m) = (c154 f 93 (rg : Int) lv (S, G, m)).bind (fun T => r66 93 (rg : Int) x (xwr (lv + 1)) T) := by
  unfold c149_89b
  simp (disch := omega) only [cq_gi, cq_gr, cq_a, cq_s, cq_p, cq_pr, cq_is, cq_ar, cq_ab, cq_ln, xq_nz, Option.bind_some, xup2_n, xup2_s, Int.toNat_natCast, Int.reduceToNat, if_pos, if_neg, true_and, and_true, and_self, eq_self, if_true, reduceIte, not_true_eq_false, not_false_eq_true, or_true, true_or, s93 hs, h1, qs, h8]
theorem st_89n (hs : cSs S) (h1 : G 93 1 = (q : Int)) (qs : S q = (1, 3, 14)) (q7 : S (q + 7) = (2, 11, 24)) (q8 : S (q + 8) = (2, 3, 16)) (h8 : G q 8 = (np : Int)) (hr : r < np) (hn : np ≤ 24) (h9 : G q 9 = ((q + 7 : Nat) : Int)) (h10 : G q 10 = ((q + 8 : Nat) : Int)) (h7 : G (q + 7) r = (u : Int)) (us : S u = (1, 6, 20)) (hu : G u 0 = (p : Int)) (hp : p < 16) (hk : G (q + 8) p = (w : Int)) (hne : w ≠ rg) : c149_89b r66 r89 f 93 (rg : Int) x lv (r : Int) (S, G, m) = c149_148 r66 r89 f f 93 (rg : Int) x lv (r : Int) u 0 0 (S, G, m) := by
  have hne' : ¬ (w : Int) = (rg : Int) := by omega
  unfold c149_89b c149_143
  simp (disch := omega) only [cq_gi, cq_gr, cq_a, cq_s, cq_p, cq_pr, cq_is, cq_ar, cq_ab, cq_ln, xq_nz, Option.bind_some, xup2_n, xup2_s, Int.toNat_natCast, Int.reduceToNat, if_pos, if_neg, true_and, and_true, and_self, eq_self, if_true, reduceIte, not_true_eq_false, not_false_eq_true, or_true, true_or, s93 hs, h1, qs, h8, q7, q8, h9, h10, h7, us, hu, hk, hne']
theorem st_89y (hs : cSs S) (h1 : G 93 1 = (q : Int)) (qs : S q = (1, 3, 14)) (q7 : S (q + 7) = (2, 11, 24)) (q8 : S (q + 8) = (2, 3, 16)) (h8 : G q 8 = (np : Int)) (hr : r < np) (hn : np ≤ 24) (h9 : G q 9 = ((q + 7 : Nat) : Int)) (h10 : G q 10 = ((q + 8 : Nat) : Int)) (h7 : G (q + 7) r = (u : Int)) (us : S u = (1, 6, 20)) (hu : G u 0 = (p : Int)) (hp : p < 16) (hk : G (q + 8) p = (rg : Int)) (e : c151 f 93 u x lv (S, G, m) = some (v, (S, G, m))) : c149_89b r66 r89 f 93 (rg : Int) x lv (r : Int) (S, G, m) = c149_148 r66 r89 f f 93 (rg : Int) x lv (r : Int) u v 0 (S, G, m) := by
  unfold c149_89b c149_143
  simp (disch := omega) only [cq_gi, cq_gr, cq_a, cq_s, cq_p, cq_pr, cq_is, cq_ar, cq_ab, cq_ln, xq_nz, Option.bind_some, xup2_n, xup2_s, Int.toNat_natCast, Int.reduceToNat, if_pos, if_neg, true_and, and_true, and_self, eq_self, if_true, reduceIte, not_true_eq_false, not_false_eq_true, or_true, true_or, s93 hs, h1, qs, h8, q7, q8, h9, h10, h7, us, hu, hk, e]
theorem stD_s {st : Int} {xs : List Int} (hr : r < s.2.2.2.2.1.length) : stD s rg st R (r + 1) p xs ↔ stD s rg st R r p xs ∨ ((s.2.2.2.2.1.getD r dRu).1 = (p : Int) ∧ qK s p = rg ∧ (qG (s.2.2.2.2.1.getD r dRu) ≠ 0 → st = 1) ∧ rlD (s.2.2.2.2.1.getD r dRu) R xs ∧ rNw R p xs) := by
  constructor
  · rintro ⟨k, k1, k2, k3⟩
    by_cases c : k = r
    · subst c; exact .inr k3
    · exact .inl ⟨k, by omega, k2, k3⟩
  · rintro (⟨k, k1, k2, k3⟩ | k3)
    · exact ⟨k, by omega, k2, k3⟩
    · exact ⟨r, by omega, hr, k3⟩
theorem stD_m {st : Int} {xs : List Int} {r' : Nat} (h : stD s rg st R r p xs) (hr : r ≤ r') : stD s rg st R r' p xs := by
  obtain ⟨k, k1, k2⟩ := h
  exact ⟨k, by omega, k2⟩
theorem fCt_map (W : List (List Int)) : fCt (W.map (fun xs => (p, xs))) p = W.length := by
  unfold fCt
  rw [List.countP_map]
  exact List.countP_eq_length.mpr (fun a _ => decide_eq_true rfl)
theorem cLw.fx {F : Nat → List pRw} {G' : xG_} (h : cLw S G s rg R F) (hf : xFl s rg G G') (hp : p < s.1.length) (hk : qK s p = rg) (hz : ∀ b j, ¬ (111 + 6 * p ≤ b ∧ b ≤ 113 + 6 * p) → 105 < b → G' b j = G b j) {F1 : List pRw} (a2 : cRw S G' (111 + 6 * p) (qN s p) 100 F1) (a3 : F1.Pairwise rwLt) (a4 : ∀ r ∈ F1, r.2 = 0) (a5 : (F p).length ≤ F1.length ∧ ((R p).length + (F p).length ≤ 100 → (R p).length + F1.length ≤ 100)) (a6 : G' 93 15 = (qTo F s.1.length : Int) + ((F1.length - (F p).length : Nat) : Int)) : cLw S G' s rg R (fun k => if k = p then F1 else F k) := by
  obtain ⟨c1, c2, c3⟩ := h
  refine ⟨fun k hk1 hk2 => ?_, fun k hk1 hk2 => ?_, ?_⟩
  · by_cases c : k = p
    · subst c
      show cRw S G' (111 + 6 * k) (qN s k) 100 (if k = k then F1 else F k) ∧ (if k = k then F1 else F k).Pairwise rwLt ∧ (∀ r ∈ (if k = k then F1 else F k), r.2 = 0) ∧ (R k).length + (if k = k then F1 else F k).length ≤ 100
      rw [if_pos rfl]
      exact ⟨a2, a3, a4, a5.2 (c1 k hk1 hk2).2.2.2⟩
    · show cRw S G' (111 + 6 * k) (qN s k) 100 (if k = p then F1 else F k) ∧ (if k = p then F1 else F k).Pairwise rwLt ∧ (∀ r ∈ (if k = p then F1 else F k), r.2 = 0) ∧ (R k).length + (if k = p then F1 else F k).length ≤ 100
      rw [if_neg c]
      obtain ⟨d1, d2⟩ := c1 k hk1 hk2
      exact ⟨d1.ge (fun _ _ _ => rfl) (fun j => hz _ _ (by omega) (by omega)) (fun j => hz _ _ (by omega) (by omega)) (fun j => hz _ _ (by omega) (by omega)), d2⟩
  · show (if k = p then F1 else F k) = []
    rw [if_neg (fun y => by rw [y] at hk2; exact hk2 hk)]
    exact c2 k hk1 hk2
  · rw [a6, qTo_up a5.1 _ hp]
    omega
/-- all rules of a level -/
theorem k_149r (hf : 100003010 < f) (hn : n ≤ 1700) (hxr : ∀ p, p < s.1.length → qK s p = rg → xp p = 108 + 6 * p ∧ cp p = 100) (hmb : ∀ j, mb.testBit j = true ↔ j < s.1.length ∧ qK s j = rg) (hmb16 : mb < 2 ^ 16) (h0 : ∀ p, p < s.1.length → qK s p = rg → R0 p = []) (hs0 : ∀ p, p < s.1.length → (R0 p).Pairwise rwLt) (hC : wkC s rg R0 n R) :
    ∀ (d r fu : Nat) (G : xG_) (F : Nat → List pRw), r + d = s.2.2.2.2.1.length → d < fu → cWk S G q nx s xp cp R → cLw S G s rg R F → (∀ p, p < s.1.length → qK s p = rg → ∀ xs, (∃ y ∈ F p, y.1 = xs) ↔ stD s rg ((n + 1 : Nat) : Int) R r p xs) →
      ∃ G', xFl s rg G G' ∧ cPs G' ∧ ((c149_89 r66 f fu 93 (rg : Int) (mb : Int) ((n + 1 : Nat) : Int) (r : Int) (S, G, m) = some (0, (S, G', m)) ∧ stO s rg ((n + 1 : Nat) : Int) R) ∨
        ∃ F', c149_89 r66 f fu 93 (rg : Int) (mb : Int) ((n + 1 : Nat) : Int) (r : Int) (S, G, m) = (c154 f 93 (rg : Int) ((n + 1 : Nat) : Int) (S, G', m)).bind (fun T => r66 93 (rg : Int) (mb : Int) ((n + 2 : Nat) : Int) T) ∧ cLw S G' s rg R F' ∧ ∀ p, p < s.1.length → qK s p = rg → ∀ xs, (∃ y ∈ F' p, y.1 = xs) ↔ stD s rg ((n + 1 : Nat) : Int) R s.2.2.2.2.1.length p xs) := by
  intro d
  induction d with
  | zero =>
    intro r fu G F e1 e2 h hF hD
    obtain ⟨fu, rfl⟩ : ∃ t, fu = t + 1 := ⟨fu - 1, by omega⟩
    obtain ⟨⟨a1, a2, a3, a4, a5, a6⟩, b⟩ := h
    have e : r = s.2.2.2.2.1.length := by omega
    refine ⟨G, fun _ _ _ _ _ _ => rfl, a2, .inr ⟨F, ?_, hF, by rw [← e]; exact hD⟩⟩
    have st : c149_89 r66 f (fu + 1) 93 (rg : Int) (mb : Int) ((n + 1 : Nat) : Int) (r : Int) (S, G, m) = _ := st_89e (r89 := c149_89 r66 f fu) a1 a3 a5.1.1 (by rw [e]; exact a5.2.2.2.2.2.1.1)
    rw [st]
    have e3 : xwr (((n + 1 : Nat) : Int) + 1) = ((n + 2 : Nat) : Int) := by rw [xwr_g _ (by omega) (by omega)]; omega
    rw [e3]
  | succ d ih =>
    intro r fu G F e1 e2 h hF hD
    obtain ⟨fu, rfl⟩ : ∃ t, fu = t + 1 := ⟨fu - 1, by omega⟩
    have h' := h
    obtain ⟨⟨a1, a2, a3, a4, a5, a6⟩, b⟩ := h'
    have hr : r < s.2.2.2.2.1.length := by omega
    obtain ⟨u, K, pl, x7, x0, hX, hI, _⟩ := h.rule hr
    have us : S u = (1, 6, 20) := hX.2.1.1.1
    have hm : s.2.2.2.2.1.getD r dRu ∈ s.2.2.2.2.1 := by rw [getD_e hr]; exact List.getElem_mem hr
    obtain ⟨w1, w2, w3, w4, w5, w6, w7, w8, w9⟩ := a6.1.1.2.2.2.2.2.2 _ hm
    have hnp : s.1.length ≤ 16 := a6.1.1.1
    obtain ⟨p, hp⟩ : ∃ p : Nat, (s.2.2.2.2.1.getD r dRu).1 = (p : Int) := ⟨(s.2.2.2.2.1.getD r dRu).1.toNat, by omega⟩
    have hpn : p < s.1.length := by omega
    have hr24 := a6.1.1.2.2.2.2.2.1
    have hq8 : G (q + 8) p = ((qK s p : Nat) : Int) := a5.2.2.2.2.2.2.2.1.1 p hpn
    have hst1 : (((n + 1 : Nat) : Int) = 1) ↔ n = 0 := by omega
    by_cases hk : qK s p = rg
    · obtain ⟨ow, o1, o2, o3⟩ := k_151o (f := f) (m := m) (lv := ((n + 1 : Nat) : Int)) (mb := mb) (by omega) hX.2.1 hmb16 (fun l hl h1 => by
        obtain ⟨y1, y2⟩ := w9 _ (lt_in hl)
        have y3 := y2 (by omega)
        rcases y1 with ⟨_, _, z, _⟩ | ⟨z, _⟩ <;> omega)
      have eld : (if ow = 0 then (if ((n + 1 : Nat) : Int) = 1 then (1 : Int) else 0) else (if ((n + 1 : Nat) : Int) = 1 then 0 else (ow : Int))) = ((ldM ow n : Nat) : Int) := by
        unfold ldM
        by_cases c1 : ow = 0
        · rw [if_pos c1, if_pos c1]
          by_cases c2 : n = 0
          · rw [if_pos (hst1.mpr c2), if_pos c2]; rfl
          · rw [if_neg (fun y => c2 (hst1.mp y)), if_neg c2]; rfl
        · rw [if_neg c1, if_neg c1]
          by_cases c2 : n = 0
          · rw [if_pos (hst1.mpr c2), if_pos c2]; rfl
          · rw [if_neg (fun y => c2 (hst1.mp y)), if_neg c2]
      rw [eld] at o3
      have st : c149_89 r66 f (fu + 1) 93 (rg : Int) (mb : Int) ((n + 1 : Nat) : Int) (r : Int) (S, G, m) = _ := st_89y (r89 := c149_89 r66 f fu) (p := p) a1 a3 a5.1.1 a5.1.2.2.2.2.2.2.2.1 a5.1.2.2.2.2.2.2.2.2.1 a5.2.2.2.2.2.1.1 hr hr24 a5.2.1.2.2.2.2.2.2.1 a5.2.1.2.2.2.2.2.2.2.1 x7 us (by rw [x0]; exact hp) (by omega) (by rw [hq8, hk]) o3
      obtain ⟨c1, c2, c3, _⟩ := hF.1 p hpn hk
      have hcb : qTo F s.1.length ≤ 100 * s.1.length := qTo_le _ (fun k hk' => by
        by_cases ck : qK s k = rg
        · exact (hF.1 k hk' ck).1.2.2.2.2.1
        · rw [hF.2.1 k hk' ck]; exact Nat.zero_le _)
      obtain ⟨v, G1, k1, k2, k3, k4⟩ := k_148r (f := f) (m := m) (r66 := r66) (r89 := c149_89 r66 f fu) (cm := (qTo F s.1.length : Int)) hf h hr hn x7 hp hk hxr hmb hmb16 h0 hs0 hC o1 o2 c1 c2 c3 hF.2.2 (by omega) (by omega)
      have st2 := st.trans k1
      have fr : xFl s rg G G1 := fun b j y1 y2 y3 y4 => k2 b j y1 y2 y3 (y4 p hpn hk)
      have inD : ∀ xs, rNw R p xs → ((qG (s.2.2.2.2.1.getD r dRu) ≠ 0 → n = 0) ∧ rlD (s.2.2.2.2.1.getD r dRu) R xs) → stD s rg ((n + 1 : Nat) : Int) R (r + 1) p xs := fun xs y1 y2 => (stD_s hr).mpr (.inr ⟨hp, hk, fun y => hst1.mpr (y2.1 y), y2.2, y1⟩)
      rcases k4 with ⟨b1, F1, b2, b3, b4, b5, b6, b7⟩ | ⟨b1, W, b2, b3, b4⟩
      · rw [if_neg (by omega)] at st2
        have hF1 : cLw S G1 s rg R (fun k => if k = p then F1 else F k) := hF.fx fr hpn hk (fun b j y1 y2 => k2 b j (by omega) (by omega) (by omega) y1) b2 b3 b4 b5 b6
        obtain ⟨G2, i1, i2, i3⟩ := ih (r + 1) fu G1 _ (by omega) (by omega) (h.ge k3 (k2 _ _ (by omega) (by omega) (by omega) (by omega)) (fun j => k2 _ _ (by omega) (by omega) (by omega) (by omega)) (fun k hk' b y1 y2 j => k2 b j (by omega) (by omega) (by omega) (by omega)) (fun b j y => k2 b j (by omega) (by omega) (by omega) (by omega))) hF1 (fun k hk1 hk2 xs => by
          show (∃ y ∈ (if k = p then F1 else F k), y.1 = xs) ↔ _
          by_cases ck : k = p
          · subst ck
            rw [if_pos rfl, b7 xs, stD_s hr, hD k hk1 hk2 xs]
            constructor
            · rintro (y | ⟨y1, y2⟩)
              · exact .inl y
              · exact .inr ⟨hp, hk, fun y => hst1.mpr (y2.1 y), y2.2, y1⟩
            · rintro (y | ⟨y1, y2, y3, y4, y5⟩)
              · exact .inl y
              · exact .inr ⟨y5, fun y => hst1.mp (y3 y), y4⟩
          · rw [if_neg ck, stD_s hr, hD k hk1 hk2 xs]
            constructor
            · exact .inl
            · rintro (y | ⟨y1, _⟩)
              · exact y
              · omega)
        refine ⟨G2, fun b j y1 y2 y3 y4 => (i1 b j y1 y2 y3 y4).trans (fr b j y1 y2 y3 y4), i2, ?_⟩
        rw [st2]
        exact i3
      · rw [if_pos b1] at st2
        refine ⟨G1, fr, k3, .inl ⟨st2, W.map (fun xs => (p, xs)), p, ?_, hpn, fun y hy => ?_, by rw [fCt_map]; exact b3⟩⟩
        · rw [List.nodup_iff_pairwise_ne, List.pairwise_map]
          exact (List.nodup_iff_pairwise_ne.mp b2).imp (fun {x y} hne e => hne (by injection e))
        · obtain ⟨xs, z1, rfl⟩ := List.mem_map.mp hy
          show stD s rg _ R _ p xs
          rcases b4 xs z1 with z | ⟨z2, z3⟩
          · exact stD_m ((hD p hpn hk xs).mp z) (by omega)
          · exact stD_m (inD xs z2 z3) (by omega)
    · have st : c149_89 r66 f (fu + 1) 93 (rg : Int) (mb : Int) ((n + 1 : Nat) : Int) (r : Int) (S, G, m) = _ := st_89n (r89 := c149_89 r66 f fu) (p := p) (w := qK s p) a1 a3 a5.1.1 a5.1.2.2.2.2.2.2.2.1 a5.1.2.2.2.2.2.2.2.2.1 a5.2.2.2.2.2.1.1 hr hr24 a5.2.1.2.2.2.2.2.2.1 a5.2.1.2.2.2.2.2.2.2.1 x7 us (by rw [x0]; exact hp) (by omega) hq8 hk
      have st2 := st.trans (k_148z (lds := 0) (u := u) (r66 := r66) (r89 := c149_89 r66 f fu) (T := (S, G, m)) (by decide) (by rw [xwr_g _ (by omega) (by omega)]; omega : xwr ((r : Int) + 1) = ((r + 1 : Nat) : Int)) 8 0 f (by omega) (by omega) (fun j _ _ => Nat.zero_testBit j))
      rw [st2]
      exact ih (r + 1) fu G F (by omega) (by omega) h hF (fun k hk1 hk2 xs => by
        rw [stD_s hr, hD k hk1 hk2 xs]
        constructor
        · exact .inl
        · rintro (y | ⟨y1, y2, _⟩)
          · exact y
          · have : k = p := by omega
            subst this
            exact absurd y2 hk)
end
end
section
/-! THE CLASS: workRing(), level after level -/
def xRg8 (s : pPg) (rg : Nat) (G G' : xG_) : Prop := ∀ b j, ¬ (83 ≤ b ∧ b ≤ 92) → ¬ (99 ≤ b ∧ b ≤ 105) → ¬ (b = 93 ∧ j = 15) → (∀ p, p < s.1.length → qK s p = rg → ¬ (108 + 6 * p ≤ b ∧ b ≤ 113 + 6 * p)) → G' b j = G b j
section
variable {f q nx r n rg mb p : Nat} {S : Nat → Nat × Nat × Nat} {G G' : xG_} {m : Nat × Nat} {s : pPg} {xp cp : Nat → Nat} {R R0 : Nat → List pRw} {cm lv x : Int} {r66 : Nat → Int → Int → Int → xT_ → Option (Int × xT_)}
theorem cWk.tb (h : cWk S G q nx s xp cp R) : qTb s R := fun p hp => by
  obtain ⟨b1, b2, b3, b4, b5, b6, b7⟩ := h.2 p hp
  refine ⟨b5, b4, fun w hw => ⟨?_, b6 w hw⟩⟩
  obtain ⟨j, hj, ej⟩ := List.getElem_of_mem hw
  have := (b3.2.2.2.2.2.2.2 j hj).1
  rw [getD_e hj, ej] at this
  exact this
theorem cWk.rl (h : cWk S G q nx s xp cp R) (hr : r < s.2.2.2.2.1.length) {xs : List Int} (hD : rlD (s.2.2.2.2.1.getD r dRu) R xs) : xs.length = (s.2.2.2.2.1.getD r dRu).2.2.2.1.length ∧ ∀ x ∈ xs, vOk x := by
  obtain ⟨u, K, pl, x7, x0, hX, hI, hnd, dd, hpB⟩ := h.rule hr
  have a6 := h.1.2.2.2.2.2
  have hm : s.2.2.2.2.1.getD r dRu ∈ s.2.2.2.2.1 := by rw [getD_e hr]; exact List.getElem_mem hr
  obtain ⟨w1, w2, w3, w4, w5, w6, w7, w8, w9⟩ := a6.1.1.2.2.2.2.2.2 _ hm
  refine rlD_ok a6.1 hm h.tb (fun _ => wx_all hX w8 (a6.1.2.1 _ hm).1 hnd hpB (fun l hl h3 => ?_)) hD
  obtain ⟨y1, y2⟩ := w9 _ (lt_in hl)
  have y3 := y2 h3
  have y4 : ((s.2.2.2.2.1.getD r dRu).2.2.2.2.2.getD l dLt).2.1 < s.1.length := by
    rcases y1 with ⟨_, _, z, _⟩ | ⟨z, _⟩
    · exact z
    · exact absurd z h3
  exact (h.2 ((s.2.2.2.2.1.getD r dRu).2.2.2.2.2.getD l dLt).2.1.toNat (by omega)).2.2.2.2.2.2
theorem cWk.wp (h : cWk S G q nx s xp cp R) : cWp S G q s.1.length (qK s) := by
  obtain ⟨⟨a1, a2, a3, a4, a5, a6⟩, b⟩ := h
  exact ⟨a3, a4, a5.1.1, a5.1.2.2.2.2.2.2.2.2.1, a5.2.2.1.1, a5.2.2.1.2.1, a5.2.1.2.2.2.2.2.2.2.1, fun j hj => a5.2.2.2.2.2.2.2.1.1 j hj⟩
theorem st_66y (hs : cSs S) (h15 : G 93 15 = cm) (hc : 0 < cm) (hlv : lv ≤ 1700) : c149_66b r66 f 93 (rg : Int) x lv (S, G, m) = c149_89 r66 f f 93 (rg : Int) x lv 0 (S, xup2 G 93 15 0, m) := by
  unfold c149_66b
  simp (disch := omega) only [cq_gi, cq_gr, cq_a, cq_s, cq_p, cq_pr, cq_is, cq_ar, cq_ab, cq_ln, xq_nz, Option.bind_some, xup2_n, xup2_s, Int.toNat_natCast, Int.reduceToNat, if_pos, if_neg, true_and, and_true, and_self, eq_self, if_true, reduceIte, not_true_eq_false, not_false_eq_true, or_true, true_or, s93 hs, h15]
theorem st_66n (hs : cSs S) (h15 : G 93 15 = 0) : c149_66b r66 f 93 (rg : Int) x lv (S, G, m) = c149_234 f 93 (rg : Int) (S, G, m) := by
  unfold c149_66b
  by_cases c : 1700 < lv
  · rw [if_pos c]
  · rw [if_neg c]
    simp (disch := omega) only [cq_gi, cq_gr, cq_a, cq_s, cq_p, cq_pr, cq_is, cq_ar, cq_ab, cq_ln, xq_nz, Option.bind_some, xup2_n, xup2_s, Int.toNat_natCast, Int.reduceToNat, if_pos, if_neg, true_and, and_true, and_self, eq_self, if_true, reduceIte, not_true_eq_false, not_false_eq_true, or_true, true_or, s93 hs, h15, Int.le_refl]
theorem ps_15 {v : Int} (hp : cPs G) : cPs (xup2 G 93 15 v) := hp.ge (fun b j hz => xup2_n (by
  rcases hz with z | z | z | z | z | z | z | ⟨z, z1, z2, k, z3⟩ | z | z | z | ⟨k, z1, z2, z3⟩ <;> omega))
/-- level after level -/
theorem k_149l (hf : 100003010 < f) (hxr : ∀ p, p < s.1.length → qK s p = rg → xp p = 108 + 6 * p ∧ cp p = 100) (hmb : ∀ j, mb.testBit j = true ↔ j < s.1.length ∧ qK s j = rg) (hmb16 : mb < 2 ^ 16) (h0 : ∀ p, p < s.1.length → qK s p = rg → R0 p = []) (hs0 : ∀ p, p < s.1.length → (R0 p).Pairwise rwLt) :
    ∀ (d n fu : Nat) (G : xG_) (R : Nat → List pRw) (cm : Int), 1601 ≤ qTo R s.1.length + d → d + 1 < fu → n ≤ qTo R s.1.length → cWk S G q nx s xp cp R → (∀ p, p < s.1.length → qK s p = rg → cRw S G (111 + 6 * p) (qN s p) 100 []) → wkC s rg R0 n R → G 93 15 = cm → 0 < cm →
      ∃ G', xRg8 s rg G G' ∧ cPs G' ∧ ((c149_66 f fu 93 (rg : Int) (mb : Int) ((n + 1 : Nat) : Int) (S, G, m) = some (0, (S, G', m)) ∧ wkO s rg R0) ∨
        ∃ R', c149_66 f fu 93 (rg : Int) (mb : Int) ((n + 1 : Nat) : Int) (S, G, m) = c149_234 f 93 (rg : Int) (S, G', m) ∧ cWk S G' q nx s xp cp R' ∧ wkE s rg R0 R') := by
  intro d
  induction d with
  | zero =>
    intro n fu G R cm h1 _ _ h _ _ _ _
    exfalso
    have := qTo_le (R := R) s.1.length (fun p hp => (h.2 p hp).2.2.2.2.1)
    have := h.1.2.2.2.2.2.1.1.1
    omega
  | succ d ih =>
    intro n fu G R cm h1 hfu hnq h hE hC hcm hc
    obtain ⟨fu, rfl⟩ : ∃ t, fu = t + 1 := ⟨fu - 1, by omega⟩
    have hnp : s.1.length ≤ 16 := h.1.2.2.2.2.2.1.1.1
    have hq1 := qTo_le (R := R) s.1.length (fun p hp => (h.2 p hp).2.2.2.2.1)
    have hn : n ≤ 1600 := by omega
    have hs := h.1.1
    have a6 := h.1.2.2.2.2.2
    obtain ⟨G1, hG1⟩ : ∃ G1, G1 = xup2 G 93 15 0 := ⟨_, rfl⟩
    have z1 : ∀ b j, ¬ (b = 93 ∧ j = 15) → G1 b j = G b j := fun b j y => by rw [hG1, xup2_n y]
    have hW1 : cWk S G1 q nx s xp cp R := h.ge (by rw [hG1]; exact ps_15 h.1.2.1) (z1 _ _ (by omega)) (fun j => z1 _ _ (by omega)) (fun k hk b y1 y2 j => z1 b j (by omega)) (fun b j y => z1 b j (by omega))
    have st : c149_66 f (fu + 1) 93 (rg : Int) (mb : Int) ((n + 1 : Nat) : Int) (S, G, m) = _ := st_66y (r66 := c149_66 f fu) (lv := ((n + 1 : Nat) : Int)) hs hcm hc (by omega)
    rw [← hG1] at st
    have hF1 : cLw S G1 s rg R (fun _ => []) := ⟨fun p hp hk => ⟨(hE p hp hk).ge (fun _ _ _ => rfl) (fun j => z1 _ _ (by omega)) (fun j => z1 _ _ (by omega)) (fun j => z1 _ _ (by omega)), List.Pairwise.nil, (fun r hr => by cases hr), (h.2 p hp).2.2.2.2.1⟩, fun _ _ _ => rfl, by rw [hG1, xup2_s, (qTo_0 s.1.length).mpr (fun _ _ => rfl)]; rfl⟩
    obtain ⟨G2, i1, i2, i3⟩ := k_149r (f := f) (m := m) (r66 := c149_66 f fu) hf (by omega : n ≤ 1700) hxr hmb hmb16 h0 hs0 hC s.2.2.2.2.1.length 0 f G1 (fun _ => []) (by omega) (by have := a6.1.1.2.2.2.2.2.1; omega) hW1 hF1 (fun p hp hk xs => ⟨fun ⟨y, y1, _⟩ => (nomatch y1), fun ⟨k, k1, _⟩ => by omega⟩)
    have fr12 : xRg8 s rg G G2 := fun b j y1 y2 y3 y4 => by rw [i1 b j y1 y2 y3 (fun p hp hk => by have := y4 p hp hk; omega), z1 b j y3]
    rcases i3 with ⟨j1, j2⟩ | ⟨F', j1, j2, j3⟩
    · exact ⟨G2, fr12, i2, .inl ⟨st.trans j1, n, R, hC, j2⟩⟩
    · have hW2 : cWk S G2 q nx s xp cp R := hW1.ge i2 (i1 _ _ (by omega) (by omega) (by omega) (fun p hp _ => by omega)) (fun j => i1 _ _ (by omega) (by omega) (by omega) (fun p hp _ => by omega)) (fun k hk b y1 y2 j => i1 b j (by omega) (by omega) (by omega) (fun p hp _ => by omega)) (fun b j y => i1 b j (by omega) (by omega) (by omega) (fun p hp _ => by omega))
      obtain ⟨G3, t1, t2, t3, t4⟩ := k_154 (f := f) (m := m) (rg := rg) (lv := ((n + 1 : Nat) : Int)) (W := qN s) (M := R) (F := F') (by omega) hs s.1.length 0 f G2 (by omega) (by omega) i2 hW2.wp (fun k _ hk1 hk2 => by
        obtain ⟨b1, b2, b3, b4, b5, b6, b7⟩ := hW2.2 k hk1
        obtain ⟨c1, c2⟩ := hxr k hk1 hk2
        rw [c1, c2] at b3
        obtain ⟨d1, d2, d3, d4⟩ := j2.1 k hk1 hk2
        refine ⟨(qN_c a6.1.1 k).2, b3, d1, b4, d2, d4, fun r hr z hz e => ?_⟩
        obtain ⟨_, _, _, _, _, _, _, y⟩ := (j3 k hk1 hk2 r.1).mp ⟨r, hr, rfl⟩
        exact y z hz e)
      have st2 := st.trans j1
      have e154 : c154 f 93 (rg : Int) ((n + 1 : Nat) : Int) (S, G2, m) = some (S, G3, m) := t1
      rw [e154, Option.bind_some] at st2
      -- the rows behind the level
      have hex : ∀ k, ∃ M' : List pRw, ((k < s.1.length ∧ qK s k = rg) → cRw S G3 (108 + 6 * k) (qN s k) 100 M' ∧ cRw S G3 (111 + 6 * k) (qN s k) 100 [] ∧ M'.Pairwise rwLt ∧ M'.length = (R k).length + (F' k).length ∧ ∀ z, z ∈ M' ↔ z ∈ R k ∨ ∃ r ∈ F' k, z = (r.1, ((n + 1 : Nat) : Int))) ∧ (¬ (k < s.1.length ∧ qK s k = rg) → M' = R k) := fun k => by
        by_cases c : k < s.1.length ∧ qK s k = rg
        · obtain ⟨M', y⟩ := t4 k (Nat.zero_le _) c.1 c.2
          exact ⟨M', fun _ => y, fun y => absurd c y⟩
        · exact ⟨R k, fun y => absurd y c, fun _ => rfl⟩
      obtain ⟨R', hR'⟩ := Classical.axiomOfChoice hex
      have z3 : ∀ b j, b ≠ 103 → (∀ p, p < s.1.length → qK s p = rg → ¬ (108 + 6 * p ≤ b ∧ b ≤ 113 + 6 * p)) → G3 b j = G2 b j := fun b j y1 y2 => t2 b j y1 (fun k _ hk1 hk2 => y2 k hk1 hk2)
      have fr3 : xRg8 s rg G G3 := fun b j y1 y2 y3 y4 => by rw [z3 b j (by omega) y4, fr12 b j y1 y2 y3 y4]
      have mem : ∀ k, k < s.1.length → qK s k = rg → ∀ z, z ∈ R' k ↔ z ∈ R k ∨ (z.2 = ((n + 1 : Nat) : Int) ∧ stD s rg ((n + 1 : Nat) : Int) R s.2.2.2.2.1.length k z.1) := fun k hk1 hk2 z => by
        rw [((hR' k).1 ⟨hk1, hk2⟩).2.2.2.2 z]
        constructor
        · rintro (y | ⟨r, r1, r2⟩)
          · exact .inl y
          · exact .inr ⟨by rw [r2], (j3 k hk1 hk2 z.1).mp ⟨r, r1, by rw [r2]⟩⟩
        · rintro (y | ⟨y1, y2⟩)
          · exact .inl y
          · obtain ⟨r, r1, r2⟩ := (j3 k hk1 hk2 z.1).mpr y2
            exact .inr ⟨r, r1, Prod.ext r2.symm y1⟩
      have hW3 : cWk S G3 q nx s xp cp R' := by
        obtain ⟨⟨a1, a2, a3, a4, a5, a6⟩, b⟩ := hW2
        refine ⟨⟨a1, t3, by rw [z3 _ _ (by omega) (fun p hp _ => by omega)]; exact a3, a4, a5.ge (Nat.le_refl _) (fun _ _ => rfl) (fun a j y _ => z3 a j (by omega) (fun p hp _ => by omega)), a6⟩, fun k hk => ?_⟩
        obtain ⟨b1, b2, b3, b4, b5, b6, b7⟩ := b k hk
        have e94 : G3 94 k = G2 94 k := z3 _ _ (by omega) (fun p hp _ => by omega)
        by_cases ck : qK s k = rg
        · obtain ⟨y1, y2, y3, y4, y5⟩ := (hR' k).1 ⟨hk, ck⟩
          obtain ⟨c1, c2⟩ := hxr k hk ck
          obtain ⟨d1, d2, d3, d4⟩ := j2.1 k hk ck
          refine ⟨by rw [e94]; exact b1, b2, by rw [c1, c2]; exact y1, y3, by omega, fun r hr => ?_, fun r hr => ?_⟩
          · rcases (mem k hk ck r).mp hr with w | ⟨_, k', k1, k2, k3, k4, k5, k6, k7⟩
            · exact b6 r w
            · exact (hW1.rl k2 k6).2
          · rcases (mem k hk ck r).mp hr with w | ⟨w, _⟩
            · exact b7 r w
            · omega
        · have hz : ∀ c j, xp k ≤ c → c ≤ xp k + 2 → G3 c j = G2 c j := fun c j y1 y2 => z3 c j (by omega) (fun p hp hk' => by
            have : k ≠ p := fun e => by rw [e] at ck; exact ck hk'
            omega)
          rw [(hR' k).2 (fun y => ck y.2)]
          exact ⟨by rw [e94]; exact b1, b2, b3.ge (fun _ _ _ => rfl) (fun j => hz _ _ (by omega) (by omega)) (fun j => hz _ _ (by omega) (by omega)) (fun j => hz _ _ (by omega) (by omega)), b4, b5, b6, b7⟩
      have hcm3 : G3 93 15 = (qTo F' s.1.length : Int) := by rw [z3 _ _ (by omega) (fun p hp _ => by omega)]; exact j2.2.2
      have isl : isLv s rg ((n + 1 : Nat) : Int) R R' := fun k hk => by
        by_cases ck : qK s k = rg
        · exact ⟨((hR' k).1 ⟨hk, ck⟩).2.2.1, mem k hk ck⟩
        · rw [(hR' k).2 (fun y => ck y.2)]
          refine ⟨(h.2 k hk).2.2.2.1, fun y => ⟨.inl, fun w => w.elim id (fun w => ?_)⟩⟩
          obtain ⟨_, _, _, _, _, w5, _⟩ := w
          exact absurd w5 ck
      by_cases cz : qTo F' s.1.length = 0
      · -- nothing came
        have hno := (qTo_0 s.1.length).mp cz
        obtain ⟨fu, rfl⟩ : ∃ t, fu = t + 1 := ⟨fu - 1, by omega⟩
        have st3 := st2.trans (st_66n (r66 := c149_66 f fu) (rg := rg) (x := (mb : Int)) (lv := ((n + 2 : Nat) : Int)) (m := m) hs (by rw [hcm3, cz]; rfl))
        have eR : ∀ k, R' k = R k := fun k => by
          by_cases c : k < s.1.length ∧ qK s k = rg
          · refine srt_ext (lt := rwLt) (fun a => vLt_irr a.1) (fun a b c => vLt_tr) _ _ ((hR' k).1 c).2.2.1 (h.2 k c.1).2.2.2.1 (fun z => ?_)
            rw [((hR' k).1 c).2.2.2.2 z, hno k c.1]
            exact ⟨fun y => y.elim id (fun ⟨r, r1, _⟩ => (nomatch r1)), .inl⟩
          · exact (hR' k).2 c
        refine ⟨G3, fr3, t3, .inr ⟨R', st3, hW3, n, ?_, fun p xs hp hst => ?_⟩⟩
        · rw [funext eR]; exact hC
        · rw [funext eR] at hst
          have hk : qK s p = rg := by obtain ⟨_, _, _, _, w5, _⟩ := hst; exact w5
          obtain ⟨y, y1, _⟩ := (j3 p hp hk xs).mpr hst
          rw [hno p hp] at y1
          cases y1
      · have hne : ∃ p, p < s.1.length ∧ F' p ≠ [] := Classical.byContradiction (fun q => cz ((qTo_0 s.1.length).mpr (fun p hp => Classical.byContradiction (fun w => q ⟨p, hp, w⟩))))
        obtain ⟨p0, hp0, hne0⟩ := hne
        have hk0 : qK s p0 = rg := Classical.byContradiction (fun q => hne0 (j2.2.1 p0 hp0 q))
        have hlen : ∀ k, k < s.1.length → (R k).length ≤ (R' k).length := fun k hk => by
          by_cases ck : qK s k = rg
          · rw [((hR' k).1 ⟨hk, ck⟩).2.2.2.1]; omega
          · rw [(hR' k).2 (fun y => ck y.2)]; exact Nat.le_refl _
        have hq2 : qTo R s.1.length < qTo R' s.1.length := (qTo_lt s.1.length hlen).2 ⟨p0, hp0, by
          rw [((hR' p0).1 ⟨hp0, hk0⟩).2.2.2.1]
          have := List.length_pos_iff.mpr hne0
          omega⟩
        obtain ⟨y0, hy0⟩ := List.exists_mem_of_ne_nil _ hne0
        obtain ⟨G4, u1, u2, u3⟩ := ih (n + 1) fu G3 R' (qTo F' s.1.length : Int) (by omega) (by omega) (by omega) hW3 (fun p hp hk => ((hR' p).1 ⟨hp, hk⟩).2.1) ⟨R, hC, ⟨p0, y0.1, hp0, (j3 p0 hp0 hk0 y0.1).mp ⟨y0, hy0, rfl⟩⟩, isl⟩ hcm3 (by omega)
        refine ⟨G4, fun b j y1 y2 y3 y4 => (u1 b j y1 y2 y3 y4).trans (fr3 b j y1 y2 y3 y4), u2, ?_⟩
        rw [st2]
        exact u3
end
end
section
/-! RINGS hang on values alone: RANKS of what is read don't matter -/
def vEq (l l' : List pRw) : Prop := l.map (·.1) = l'.map (·.1)
theorem vEq.mem {l l' : List pRw} (h : vEq l l') {r : pRw} (hr : r ∈ l) : ∃ r' ∈ l', r'.1 = r.1 := by
  have : r.1 ∈ l.map (·.1) := List.mem_map_of_mem hr
  rw [h] at this
  obtain ⟨r', a, b⟩ := List.mem_map.mp this
  exact ⟨r', a, b⟩
theorem isW_cv {l : List pLt} {nv : Nat} {R R' : Nat → List pRw} {v : List Int} (h : ∀ y ∈ l, y.1 ≠ 3 → vEq (R y.2.1.toNat) (R' y.2.1.toNat)) : isW l nv R qO1 v → isW l nv R' qO1 v := by
  rintro ⟨h1, h2, h3⟩
  refine ⟨h1, fun y hy c => ?_, fun y hy => ⟨fun c => ?_, (h3 y hy).2⟩⟩
  · obtain ⟨w, w1, _, w2⟩ := h2 y hy c
    obtain ⟨w', a1, a2⟩ := (h y hy (by omega)).mem w1
    exact ⟨w', a1, trivial, by rw [a2]; exact w2⟩
  · rintro ⟨w, w1, w2⟩
    obtain ⟨w', a1, a2⟩ := vEq.mem (h y hy (by omega)).symm w1
    exact (h3 y hy).1 c ⟨w', a1, by rw [a2]; exact w2⟩
theorem isW_cw {l : List pLt} {nv : Nat} {R R' : Nat → List pRw} {v : List Int} (h : ∀ y ∈ l, y.1 ≠ 3 → vEq (R y.2.1.toNat) (R' y.2.1.toNat)) : isW l nv R qO1 v ↔ isW l nv R' qO1 v := ⟨isW_cv h, isW_cv (fun y hy c => (h y hy c).symm)⟩
theorem rlD_cv {u : pRu} {R R' : Nat → List pRw} {xs : List Int} (h : ∀ y ∈ u.2.2.2.2.2, y.1 ≠ 3 → vEq (R y.2.1.toNat) (R' y.2.1.toNat)) : rlD u R xs ↔ rlD u R' xs := by
  unfold rlD
  by_cases c : qG u = 0
  · rw [if_pos c, if_pos c]
    constructor
    · rintro ⟨v, v1, v2⟩
      exact ⟨v, (isW_cw h).mp v1, v2⟩
    · rintro ⟨v, v1, v2⟩
      exact ⟨v, (isW_cw h).mpr v1, v2⟩
  · rw [if_neg c, if_neg c]
    have ha : ∀ V, isAll u.2.2.2.2.2 u.2.2.2.2.1.length R qO1 V ↔ isAll u.2.2.2.2.2 u.2.2.2.2.1.length R' qO1 V := fun V => by
      unfold isAll
      constructor
      · exact fun ⟨a, b⟩ => ⟨a, fun v => (b v).trans (isW_cw h)⟩
      · exact fun ⟨a, b⟩ => ⟨a, fun v => (b v).trans (isW_cw h).symm⟩
    unfold gDs
    constructor
    · rintro ⟨ks, V, v1, v2⟩
      exact ⟨ks, V, (ha V).mp v1, v2⟩
    · rintro ⟨ks, V, v1, v2⟩
      exact ⟨ks, V, (ha V).mpr v1, v2⟩
section
variable {s : pPg} {rg : Nat} {st : Int} {R R' R0 R0' : Nat → List pRw}
theorem stD_cv {rm p : Nat} {xs : List Int} (h1 : ∀ y, rgR s rg y → vEq (R y) (R' y)) (h2 : p < s.1.length → qK s p = rg → vEq (R p) (R' p)) (hp : p < s.1.length) : stD s rg st R rm p xs ↔ stD s rg st R' rm p xs := by
  have key : ∀ {R R' : Nat → List pRw}, (∀ y, rgR s rg y → vEq (R y) (R' y)) → (qK s p = rg → vEq (R p) (R' p)) → stD s rg st R rm p xs → stD s rg st R' rm p xs := by
    rintro R R' h1 h2 ⟨r, a1, a2, a3, a4, a5, a6, a7⟩
    have hm : s.2.2.2.2.1.getD r dRu ∈ s.2.2.2.2.1 := by rw [getD_e a2]; exact List.getElem_mem a2
    refine ⟨r, a1, a2, a3, a4, a5, (rlD_cv (fun y hy c => h1 _ ⟨_, hm, by rw [a3]; exact a4, y, hy, c, rfl⟩)).mp a6, fun w hw => ?_⟩
    obtain ⟨w', b1, b2⟩ := vEq.mem (h2 a4).symm hw
    rw [← b2]
    exact a7 w' b1
  exact ⟨key h1 (h2 hp), key (fun y hy => (h1 y hy).symm) (fun h => (h2 hp h).symm)⟩
theorem wkC_cv (hrd : ∀ y, rgR s rg y → y < s.1.length) (hs : ∀ p, p < s.1.length → (R0 p).Pairwise rwLt) (hs' : ∀ p, p < s.1.length → (R0' p).Pairwise rwLt) (hm : ∀ p, p < s.1.length → qK s p = rg → R0 p = R0' p) (h0 : ∀ p, p < s.1.length → rgR s rg p → vEq (R0 p) (R0' p)) : ∀ (n : Nat) (R : Nat → List pRw), wkC s rg R0 n R → ∃ R', wkC s rg R0' n R' ∧ (∀ p, p < s.1.length → qK s p = rg → R' p = R p) ∧ ∀ p, p < s.1.length → rgR s rg p → vEq (R' p) (R p)
  | 0, R, h => ⟨R0', fun _ _ => rfl, fun p hp hk => by rw [h p hp]; exact (hm p hp hk).symm, fun p hp hk => by rw [h p hp]; exact (h0 p hp hk).symm⟩
  | n + 1, R, h => by
    obtain ⟨R1, h1, ⟨p0, xs0, q1, q2⟩, h3⟩ := h
    obtain ⟨R1', k1, k2, k3⟩ := wkC_cv hrd hs hs' hm h0 n R1 h1
    obtain ⟨a1, a2⟩ := wkC_out hs n R1 h1
    obtain ⟨b1, b2⟩ := wkC_out hs' n R1' k1
    have hst : ∀ rm p xs, p < s.1.length → (stD s rg ((n + 1 : Nat) : Int) R1 rm p xs ↔ stD s rg ((n + 1 : Nat) : Int) R1' rm p xs) := fun rm p xs hp => stD_cv (fun y hy => (k3 y (hrd y hy) hy).symm) (fun hp hk => by rw [k2 p hp hk]; rfl) hp
    let R' : Nat → List pRw := fun p => if qK s p = rg then R p else R1' p
    have eo : ∀ p, qK s p = rg → R' p = R p := fun p hk => if_pos hk
    have en : ∀ p, qK s p ≠ rg → R' p = R1' p := fun p hk => if_neg hk
    refine ⟨R', ⟨R1', k1, ⟨p0, xs0, q1, (hst _ _ _ q1).mp q2⟩, fun p hp => ?_⟩, fun p hp hk => eo p hk, fun p hp hk => ?_⟩
    · by_cases c : qK s p = rg
      · rw [eo p c]
        obtain ⟨w1, w2⟩ := h3 p hp
        refine ⟨w1, fun y => ?_⟩
        rw [w2, k2 p hp c, hst _ _ _ hp]
      · rw [en p c]
        refine ⟨b1 p hp, fun y => ⟨.inl, ?_⟩⟩
        rintro (q | ⟨_, r, _, _, _, q, _⟩)
        · exact q
        · exact absurd q c
    · by_cases c : qK s p = rg
      · rw [eo p c]; rfl
      · rw [en p c, lv_out h3 hp c (a1 p hp)]; exact k3 p hp hk
theorem wkC_xt : ∀ (n : Nat), (∀ p, p < s.1.length → R p = R' p) → wkC s rg R0 n R → wkC s rg R0 n R'
  | 0, he, h => fun p hp => by rw [← he p hp]; exact h p hp
  | n + 1, he, h => by
    obtain ⟨R1, h1, h2, h3⟩ := h
    exact ⟨R1, h1, h2, fun p hp => by rw [← he p hp]; exact h3 p hp⟩
theorem wkE_xt (hw : wPg s) (he : ∀ p, p < s.1.length → R p = R' p) (h : wkE s rg R0 R) : wkE s rg R0 R' := by
  obtain ⟨n, h1, h2⟩ := h
  exact ⟨n, wkC_xt n he h1, fun p xs hp hst => h2 p xs hp ((stD_cg (fun y hy => he y (rgR_lt hw hy)) (fun hp _ => he p hp) hp).mpr hst)⟩
/-- the rows of a RING stay right where what it reads has the same values -/
theorem dnR_cv (hw : wPg s) (hT : qTb s R) (hT' : qTb s R') (hm : ∀ p, p < s.1.length → qK s p = rg → R p = R' p) (hr : ∀ p, p < s.1.length → rgR s rg p → qK s p ≠ rg → vEq (R p) (R' p)) (h : dnR s R rg) : dnR s R' rg := by
  obtain ⟨R0, c1, c2, n, c3, c4⟩ := h
  let R0' : Nat → List pRw := fun p => if qK s p = rg then [] else R' p
  have e1 : ∀ p, p < s.1.length → qK s p ≠ rg → R0' p = R' p := fun p _ hk => if_neg hk
  have e2 : ∀ p, p < s.1.length → qK s p = rg → R0' p = [] := fun p _ hk => if_pos hk
  have hs' := dnR.srt hT' e1 e2
  obtain ⟨R2, k1, k2, k3⟩ := wkC_cv (fun y hy => rgR_lt hw hy) (dnR.srt hT c1 c2) hs' (fun p hp hk => by rw [c2 p hp hk, e2 p hp hk]) (fun p hp hy => by
    by_cases c : qK s p = rg
    · rw [c2 p hp c, e2 p hp c]; rfl
    · rw [c1 p hp c, e1 p hp c]; exact hr p hp hy c) n R c3
  have ho := (wkC_out hs' n R2 k1).2
  have he : ∀ p, p < s.1.length → R2 p = R' p := fun p hp => by
    by_cases c : qK s p = rg
    · rw [k2 p hp c, hm p hp c]
    · rw [ho p hp c, e1 p hp c]
  refine ⟨R0', e1, e2, n, wkC_xt n he k1, fun p xs hp hst => c4 p xs hp ((stD_cv (fun y hy => ?_) (fun hp hk => ?_) hp).mpr hst)⟩
  · by_cases c : qK s y = rg
    · rw [hm y (rgR_lt hw hy) c]; rfl
    · exact hr y (rgR_lt hw hy) hy c
  · rw [hm p hp hk]; rfl
end
/-! THE CLASS: noteChanged() -/
/-- the rows of the same NAME and n ahead of the round -/
def cAh (S : Nat → Nat × Nat × Nat) (G : xG_) (nx : Nat) (s : pPg) (yp ap : Nat → Nat) (A : Nat → List pRw) : Prop := ∀ p, p < s.1.length → G 95 p = ((yp p : Nat) : Int) ∧ (203 < yp p ∧ yp p + 2 < nx) ∧ cRw S G (yp p) (qN s p) (ap p) (A p)
section
variable {f q nx r n rg p x y : Nat} {S : Nat → Nat × Nat × Nat} {G G' : xG_} {m : Nat × Nat} {s : pPg} {xp cp yp ap : Nat → Nat} {R A : Nat → List pRw} {ch : Nat} {b : Bool} {w : Nat} {r237 : Nat → Int → Int → xT_ → Option (Int × xT_)} {T : xT_} {np : Nat}
theorem cAh.ge (h : cAh S G nx s yp ap A) (h95 : ∀ j, G' 95 j = G 95 j) (hg : ∀ a j, 203 < a → G' a j = G a j) : cAh S G' nx s yp ap A := fun p hp => by
  obtain ⟨a1, a2, a3⟩ := h p hp
  exact ⟨by rw [h95]; exact a1, a2, a3.ge (fun _ _ _ => rfl) (fun j => hg _ _ (by omega)) (fun j => hg _ _ (by omega)) (fun j => hg _ _ (by omega))⟩
theorem st_nc (hs : cSs S) (hp : cPs G) (hp16 : p < 16) (h13 : G 93 13 = (ch : Int)) (hch : ch < 2 ^ 16) (h94 : G 94 p = (x : Int)) (h95 : G 95 p = (y : Int)) (xs : S x = (1, 5, 4)) (e : c81 f x y (S, G, m) = some (b01 b, (S, G, m))) : c148 f 93 (p : Int) (S, G, m) = some (S, xup2 G 93 13 ((if b = true then ch else ch ||| 2 ^ p : Nat) : Int), m) := by
  cases b with
  | true =>
    have e0 : b01 true = 1 := rfl
    rw [e0] at e
    have e1 : xor_ (ch : Int) 0 = (ch : Int) := xor_0 (by omega)
    rw [if_pos rfl]
    unfold c148 c148_30
    simp (disch := omega) only [cq_gi, cq_gr, cq_a, cq_s, cq_p, cq_pr, cq_is, cq_ar, cq_ab, cq_ln, xq_nz, Option.bind_some, xup2_n, xup2_s, Int.toNat_natCast, Int.reduceToNat, if_pos, if_neg, true_and, and_true, and_self, eq_self, if_true, reduceIte, not_true_eq_false, not_false_eq_true, or_true, true_or, s93 hs, s94 hs, s95 hs, p93_2 hp, p93_3 hp, h13, h94, h95, xs, e, e1, Int.reduceEq]
  | false =>
    have e0 : b01 false = 0 := rfl
    rw [e0] at e
    have e1 : xor_ (ch : Int) (xshl 1 (p : Int)) = ((ch ||| 2 ^ p : Nat) : Int) := xorb (by omega) (by omega)
    rw [if_neg (by decide)]
    unfold c148 c148_30
    simp (disch := omega) only [cq_gi, cq_gr, cq_a, cq_s, cq_p, cq_pr, cq_is, cq_ar, cq_ab, cq_ln, xq_nz, Option.bind_some, xup2_n, xup2_s, Int.toNat_natCast, Int.reduceToNat, if_pos, if_neg, true_and, and_true, and_self, eq_self, if_true, reduceIte, not_true_eq_false, not_false_eq_true, or_true, true_or, s93 hs, s94 hs, s95 hs, p93_2 hp, p93_3 hp, h13, h94, h95, xs, e, e1]
theorem ps_13 {v : Int} {k : Nat} (hk : k = 13 ∨ k = 14) (hp : cPs G) : cPs (xup2 G 93 k v) := hp.ge (fun b j hz => xup2_n (by
  rcases hz with z | z | z | z | z | z | z | ⟨z, z1, z2, k, z3⟩ | z | z | z | ⟨k, z1, z2, z3⟩ <;> omega))
/-- noteChanged() -/
theorem k_nc (hf : 600 < f) (h : cWk S G q nx s xp cp R) (hA : cAh S G nx s yp ap A) (hp : p < s.1.length) (h13 : G 93 13 = (ch : Int)) (hch : ch < 2 ^ 16) : ∃ ch' : Nat, ch' < 2 ^ 16 ∧ c148 f 93 (p : Int) (S, G, m) = some (S, xup2 G 93 13 (ch' : Int), m) ∧ ∀ j, ch'.testBit j = true ↔ ch.testBit j = true ∨ (j = p ∧ ¬ vEq (R p) (A p)) := by
  obtain ⟨b1, b2, b3, _⟩ := h.2 p hp
  obtain ⟨a1, a2, a3⟩ := hA p hp
  obtain ⟨b, k1, k2⟩ := k_81 (f := f) (m := m) hf b3 a3
  have hnp : s.1.length ≤ 16 := h.1.2.2.2.2.2.1.1.1
  refine ⟨if b = true then ch else ch ||| 2 ^ p, ?_, st_nc h.1.1 h.1.2.1 (by omega) h13 hch b1 a1 b3.1 k1, fun j => ?_⟩
  · split
    · exact hch
    · exact or_lt hch (by omega)
  · by_cases c : b = true
    · rw [if_pos c]
      exact ⟨.inl, fun y => y.elim id (fun y => absurd (k2.mp c) y.2)⟩
    · rw [if_neg c, Nat.testBit_or, Bool.or_eq_true, Nat.testBit_two_pow, decide_eq_true_iff]
      exact or_congr Iff.rfl ⟨fun y => ⟨y.symm, fun e => c (k2.mpr e)⟩, fun y => y.1.symm⟩
theorem st_237z (hs : cSs S) (h1 : G 93 1 = (q : Int)) (qs : S q = (1, 3, 14)) (hn : G q 1 = (np : Int)) : c149_237b r237 f 93 (rg : Int) (np : Int) (S, G, m) = some (1, (S, G, m)) := by
  unfold c149_237b
  simp (disch := omega) only [cq_gi, cq_gr, cq_a, cq_s, cq_p, cq_pr, cq_is, cq_ar, cq_ab, cq_ln, xq_nz, Option.bind_some, xup2_n, xup2_s, Int.toNat_natCast, Int.reduceToNat, if_pos, if_neg, true_and, and_true, and_self, eq_self, if_true, reduceIte, not_true_eq_false, not_false_eq_true, or_true, true_or, s93 hs, h1, qs, hn]
theorem st_237n (hs : cSs S) (h1 : G 93 1 = (q : Int)) (qs : S q = (1, 3, 14)) (q8 : S (q + 8) = (2, 3, 16)) (h10 : G q 10 = ((q + 8 : Nat) : Int)) (hn : G q 1 = (np : Int)) (hn16 : np ≤ 16) (hp : p < np) (hk : G (q + 8) p = (w : Int)) (hne : w ≠ rg) (ep : xwr ((p : Int) + 1) = ((p + 1 : Nat) : Int)) : c149_237b r237 f 93 (rg : Int) (p : Int) (S, G, m) = r237 93 (rg : Int) ((p + 1 : Nat) : Int) (S, G, m) := by
  have hne' : ¬ (w : Int) = (rg : Int) := by omega
  unfold c149_237b c149_269
  simp (disch := omega) only [cq_gi, cq_gr, cq_a, cq_s, cq_p, cq_pr, cq_is, cq_ar, cq_ab, cq_ln, xq_nz, Option.bind_some, xup2_n, xup2_s, Int.toNat_natCast, Int.reduceToNat, if_pos, if_neg, true_and, and_true, and_self, eq_self, if_true, reduceIte, not_true_eq_false, not_false_eq_true, or_true, true_or, s93 hs, h1, qs, q8, h10, hn, hk, hne', ep]
theorem st_237y (hs : cSs S) (h1 : G 93 1 = (q : Int)) (qs : S q = (1, 3, 14)) (q8 : S (q + 8) = (2, 3, 16)) (h10 : G q 10 = ((q + 8 : Nat) : Int)) (hn : G q 1 = (np : Int)) (hn16 : np ≤ 16) (hp : p < np) (hk : G (q + 8) p = (rg : Int)) (ep : xwr ((p : Int) + 1) = ((p + 1 : Nat) : Int)) (e : c148 f 93 (p : Int) (S, G, m) = some T) : c149_237b r237 f 93 (rg : Int) (p : Int) (S, G, m) = r237 93 (rg : Int) ((p + 1 : Nat) : Int) T := by
  unfold c149_237b c149_269
  simp (disch := omega) only [cq_gi, cq_gr, cq_a, cq_s, cq_p, cq_pr, cq_is, cq_ar, cq_ab, cq_ln, xq_nz, Option.bind_some, xup2_n, xup2_s, Int.toNat_natCast, Int.reduceToNat, if_pos, if_neg, true_and, and_true, and_self, eq_self, if_true, reduceIte, not_true_eq_false, not_false_eq_true, or_true, true_or, s93 hs, h1, qs, q8, h10, hn, hk, ep, e]
theorem cWk.u93 {k : Nat} {v : Int} (h : cWk S G q nx s xp cp R) (hk : k = 13 ∨ k = 14) : cWk S (xup2 G 93 k v) q nx s xp cp R := h.ge (ps_13 hk h.1.2.1) (xup2_n (by omega)) (fun j => xup2_n (by omega)) (fun k hk b y1 y2 j => xup2_n (by omega)) (fun b j y => xup2_n (by omega))
/-- what a RING's rows have become -/
theorem k_237 (hf : 600 < f) : ∀ (d p fu : Nat) (G : xG_) (ch : Nat), p + d = s.1.length → d < fu → cWk S G q nx s xp cp R → cAh S G nx s yp ap A → G 93 13 = (ch : Int) → ch < 2 ^ 16 → ∃ ch' : Nat, ch' < 2 ^ 16 ∧ c149_237 f fu 93 (rg : Int) (p : Int) (S, G, m) = some (1, (S, xup2 G 93 13 (ch' : Int), m)) ∧ ∀ j, ch'.testBit j = true ↔ ch.testBit j = true ∨ (p ≤ j ∧ j < s.1.length ∧ qK s j = rg ∧ ¬ vEq (R j) (A j)) := by
  intro d
  induction d with
  | zero =>
    intro p fu G ch e1 e2 h hA h13 hch
    obtain ⟨fu, rfl⟩ : ∃ t, fu = t + 1 := ⟨fu - 1, by omega⟩
    have e : p = s.1.length := by omega
    subst e
    refine ⟨ch, hch, ?_, fun j => ⟨.inl, fun y => y.elim id (fun y => by omega)⟩⟩
    rw [xup2_id h13]
    exact st_237z (r237 := c149_237 f fu) h.1.1 h.1.2.2.1 h.1.2.2.2.2.1.1.1 h.1.2.2.2.2.1.2.2.1.1
  | succ d ih =>
    intro p fu G ch e1 e2 h hA h13 hch
    obtain ⟨fu, rfl⟩ : ∃ t, fu = t + 1 := ⟨fu - 1, by omega⟩
    have hnp : s.1.length ≤ 16 := h.1.2.2.2.2.2.1.1.1
    have ep : xwr ((p : Int) + 1) = ((p + 1 : Nat) : Int) := by rw [xwr_g _ (by omega) (by omega)]; omega
    have a5 := h.1.2.2.2.2.1
    have hq8 : G (q + 8) p = ((qK s p : Nat) : Int) := a5.2.2.2.2.2.2.2.1.1 p (by omega)
    by_cases c : qK s p = rg
    · obtain ⟨c1, k1, k2, k3⟩ := k_nc (f := f) (m := m) hf h hA (by omega : p < s.1.length) h13 hch
      have st : c149_237 f (fu + 1) 93 (rg : Int) (p : Int) (S, G, m) = _ := st_237y (r237 := c149_237 f fu) h.1.1 h.1.2.2.1 a5.1.1 a5.1.2.2.2.2.2.2.2.2.1 a5.2.1.2.2.2.2.2.2.2.1 a5.2.2.1.1 hnp (by omega) (by rw [hq8, c]) ep k2
      obtain ⟨c2, i1, i2, i3⟩ := ih (p + 1) fu (xup2 G 93 13 (c1 : Int)) c1 (by omega) (by omega) (h.u93 (.inl rfl)) (hA.ge (fun j => xup2_n (by omega)) (fun a j y => xup2_n (by omega))) (xup2_s _ _ _ _) k1
      refine ⟨c2, i1, by rw [st, i2, xup2_w], fun j => ?_⟩
      rw [i3 j, k3 j]
      constructor
      · rintro ((y | ⟨y1, y2⟩) | ⟨y1, y2⟩)
        · exact .inl y
        · exact .inr ⟨by omega, by omega, by rw [y1]; exact c, by rw [y1]; exact y2⟩
        · exact .inr ⟨by omega, y2⟩
      · rintro (y | ⟨y1, y2, y3, y4⟩)
        · exact .inl (.inl y)
        · by_cases cj : j = p
          · exact .inl (.inr ⟨cj, by rw [← cj]; exact y4⟩)
          · exact .inr ⟨by omega, y2, y3, y4⟩
    · have st : c149_237 f (fu + 1) 93 (rg : Int) (p : Int) (S, G, m) = _ := st_237n (r237 := c149_237 f fu) h.1.1 h.1.2.2.1 a5.1.1 a5.1.2.2.2.2.2.2.2.2.1 a5.2.1.2.2.2.2.2.2.2.1 a5.2.2.1.1 hnp (by omega) hq8 c ep
      obtain ⟨c2, i1, i2, i3⟩ := ih (p + 1) fu G ch (by omega) (by omega) h hA h13 hch
      refine ⟨c2, i1, st.trans i2, fun j => ?_⟩
      rw [i3 j]
      refine or_congr Iff.rfl ⟨fun ⟨y1, y2⟩ => ⟨by omega, y2⟩, fun ⟨y1, y2, y3, y4⟩ => ⟨?_, y2, y3, y4⟩⟩
      by_cases cj : j = p
      · rw [cj] at y3; exact absurd y3 c
      · omega
end
end
section
/-! THE CLASS: workRing() -/
def xRw8 (s : pPg) (rg : Nat) (G G' : xG_) : Prop := ∀ b j, ¬ (83 ≤ b ∧ b ≤ 92) → ¬ (99 ≤ b ∧ b ≤ 105) → ¬ (b = 93 ∧ 13 ≤ j ∧ j ≤ 15) → (∀ p, p < s.1.length → qK s p = rg → ¬ (108 + 6 * p ≤ b ∧ b ≤ 113 + 6 * p) ∧ ¬ (b = 94 ∧ j = p)) → G' b j = G b j
section
variable {f q nx rg p w mb wk : Nat} {S : Nat → Nat × Nat × Nat} {G G' G1 : xG_} {m : Nat × Nat} {s : pPg} {xp cp yp ap : Nat → Nat} {R A : Nat → List pRw} {ch : Nat} {tk : Int}
theorem st_149i (hs : cSs S) (h1 : G 93 1 = (q : Int)) (qs : S q = (1, 3, 14)) (q4 : S (q + 4) = (2, 0, 16)) (h5 : G q 5 = ((q + 4 : Nat) : Int)) (hr : rg < 16) (hi : G (q + 4) rg = 1) : c149 f 93 (rg : Int) tk (S, G, m) = some (1, (S, G, m)) := by
  unfold c149 c149_32
  simp (disch := omega) only [cq_gi, cq_gr, cq_a, cq_s, cq_p, cq_pr, cq_is, cq_ar, cq_ab, cq_ln, xq_nz, Option.bind_some, xup2_n, xup2_s, Int.toNat_natCast, Int.reduceToNat, if_pos, if_neg, true_and, and_true, and_self, eq_self, if_true, reduceIte, not_true_eq_false, not_false_eq_true, or_true, true_or, s93 hs, h1, qs, q4, h5, hi, Int.reduceEq, Nat.reduceLT]
theorem st_149t (hs : cSs S) (h1 : G 93 1 = (q : Int)) (qs : S q = (1, 3, 14)) (q4 : S (q + 4) = (2, 0, 16)) (h5 : G q 5 = ((q + 4 : Nat) : Int)) (hr : rg < 16) (hi : G (q + 4) rg = 0) : c149 f 93 (rg : Int) 1 (S, G, m) = c149_34 f 93 (rg : Int) (S, G, m) := by
  unfold c149
  simp (disch := omega) only [cq_gi, cq_gr, cq_a, cq_s, cq_p, cq_pr, cq_is, cq_ar, cq_ab, cq_ln, xq_nz, Option.bind_some, xup2_n, xup2_s, Int.toNat_natCast, Int.reduceToNat, if_pos, if_neg, true_and, and_true, and_self, eq_self, if_true, reduceIte, not_true_eq_false, not_false_eq_true, or_true, true_or, s93 hs, h1, qs, q4, h5, hi, Int.reduceEq, Nat.reduceLT]
theorem st_149r (hs : cSs S) (h1 : G 93 1 = (q : Int)) (qs : S q = (1, 3, 14)) (q4 : S (q + 4) = (2, 0, 16)) (h5 : G q 5 = ((q + 4 : Nat) : Int)) (hr : rg < 16) (hi : G (q + 4) rg = 0) (e : c27 f q (rg : Int) (S, G, m) = some ((w : Int), (S, G, m))) (h13 : G 93 13 = (ch : Int)) (ex : xand (w : Int) (ch : Int) = ((w &&& ch : Nat) : Int)) : c149 f 93 (rg : Int) 0 (S, G, m) = if w &&& ch = 0 then some (1, (S, G, m)) else c149_34 f 93 (rg : Int) (S, G, m) := by
  by_cases c : w &&& ch = 0
  · rw [if_pos c]
    have c' : ((w &&& ch : Nat) : Int) = 0 := by omega
    unfold c149 c149_32
    simp (disch := omega) only [cq_gi, cq_gr, cq_a, cq_s, cq_p, cq_pr, cq_is, cq_ar, cq_ab, cq_ln, xq_nz, Option.bind_some, xup2_n, xup2_s, Int.toNat_natCast, Int.reduceToNat, if_pos, if_neg, true_and, and_true, and_self, eq_self, if_true, reduceIte, not_true_eq_false, not_false_eq_true, or_true, true_or, s93 hs, h1, qs, q4, h5, hi, e, h13, ex, c', Int.reduceEq, Nat.reduceLT]
  · rw [if_neg c]
    have c' : ¬ ((w &&& ch : Nat) : Int) = 0 := by omega
    unfold c149
    simp (disch := omega) only [cq_gi, cq_gr, cq_a, cq_s, cq_p, cq_pr, cq_is, cq_ar, cq_ab, cq_ln, xq_nz, Option.bind_some, xup2_n, xup2_s, Int.toNat_natCast, Int.reduceToNat, if_pos, if_neg, true_and, and_true, and_self, eq_self, if_true, reduceIte, not_true_eq_false, not_false_eq_true, or_true, true_or, s93 hs, h1, qs, q4, h5, hi, e, h13, ex, c', Int.reduceEq, Nat.reduceLT]
theorem st_149s (hs : cSs S) (h1 : G 93 1 = (q : Int)) (qs : S q = (1, 3, 14)) (e : c26 f q (rg : Int) (S, G, m) = some ((mb : Int), (S, G, m))) (h14 : G 93 14 = (wk : Int)) (ex : xor_ (wk : Int) (mb : Int) = ((wk ||| mb : Nat) : Int)) (e2 : c150 f 93 (rg : Int) (S, xup2 G 93 14 ((wk ||| mb : Nat) : Int), m) = some (S, G1, m)) : c149_34 f 93 (rg : Int) (S, G, m) = c149_66 f f 93 (rg : Int) (mb : Int) 1 (S, xup2 G1 93 15 1, m) := by
  unfold c149_34
  simp (disch := omega) only [cq_gi, cq_gr, cq_a, cq_s, cq_p, cq_pr, cq_is, cq_ar, cq_ab, cq_ln, xq_nz, Option.bind_some, xup2_n, xup2_s, Int.toNat_natCast, Int.reduceToNat, if_pos, if_neg, true_and, and_true, and_self, eq_self, if_true, reduceIte, not_true_eq_false, not_false_eq_true, or_true, true_or, s93 hs, h1, qs, e, h14, ex, e2]
theorem and_0 {a b : Nat} : a &&& b = 0 ↔ ∀ j, a.testBit j = true → b.testBit j = false := by
  constructor
  · intro h j hj
    have := congrArg (fun z => z.testBit j) h
    simp only [Nat.testBit_and, hj, Bool.true_and, Nat.zero_testBit] at this
    exact this
  · intro h
    refine Nat.eq_of_testBit_eq (fun j => ?_)
    rw [Nat.testBit_and, Nat.zero_testBit]
    cases ha : a.testBit j with
    | false => rfl
    | true => rw [h j ha]; rfl
/-- rows of a RING are emptied -/
def rZ (s : pPg) (rg : Nat) (R : Nat → List pRw) : Nat → List pRw := fun p => if qK s p = rg then [] else R p
/-- workRing(), where the RING is worked -/
theorem k_149w (hf : 100003010 < f) (h : cWk S G q nx s xp cp R) (hA : cAh S G nx s yp ap A) (h13 : G 93 13 = (ch : Int)) (hch : ch < 2 ^ 16) (h14 : G 93 14 = (wk : Int)) (hwk : wk < 2 ^ 16) :
    ∃ v G', c149_34 f 93 (rg : Int) (S, G, m) = some (v, (S, G', m)) ∧ xRw8 s rg G G' ∧ cPs G' ∧ ((v = 0 ∧ wkO s rg (rZ s rg R)) ∨ (v = 1 ∧ ∃ R' ch' wk', cWk S G' q nx s (fun p => if qK s p = rg then 108 + 6 * p else xp p) (fun p => if qK s p = rg then 100 else cp p) R' ∧ wkE s rg (rZ s rg R) R' ∧ G' 93 13 = ((ch' : Nat) : Int) ∧ ch' < 2 ^ 16 ∧ (∀ j, ch'.testBit j = true ↔ ch.testBit j = true ∨ (j < s.1.length ∧ qK s j = rg ∧ ¬ vEq (R' j) (A j))) ∧ G' 93 14 = ((wk' : Nat) : Int) ∧ wk' < 2 ^ 16 ∧ ∀ j, wk'.testBit j = true ↔ wk.testBit j = true ∨ (j < s.1.length ∧ qK s j = rg))) := by
  have h' := h
  obtain ⟨⟨a1, a2, a3, a4, a5, a6⟩, b⟩ := h'
  have hnp : s.1.length ≤ 16 := a6.1.1.1
  have hmbt : ∀ j, (qMb (qAc s) rg s.1.length).testBit j = true ↔ j < s.1.length ∧ qK s j = rg := fun j => qMb_t (qAc s) rg j s.1.length
  have hmb16 := qMb_16 (qAc s) rg s.1.length hnp
  have e26 := k_26 (f := f) (m := m) (g := rg) (T := qAc s) (by omega) (by omega : 82 < q) hnp a5.1 a5.2.1 a5.2.2.1.1 a5.2.2.2.2.2.2.2.1.1
  obtain ⟨mb, hmb⟩ : ∃ mb, mb = qMb (qAc s) rg s.1.length := ⟨_, rfl⟩
  rw [← hmb] at hmbt hmb16 e26
  have hwm : wk ||| mb < 2 ^ 16 := Nat.or_lt_two_pow hwk hmb16
  have h1 : cWk S (xup2 G 93 14 ((wk ||| mb : Nat) : Int)) q nx s xp cp R := h.u93 (.inr rfl)
  obtain ⟨G1, g1, g2, g3, g4⟩ := k_150 (f := f) (m := m) (rg := rg) (W := qN s) a1 a5.1.2.2.1 s.1.length 0 f (xup2 G 93 14 ((wk ||| mb : Nat) : Int)) (by omega) (by omega) h1.1.2.1 h1.wp (by rw [xup2_n (by omega)]; exact a5.2.1.2.1) (fun j hj => by
    rw [xup2_n (by omega)]
    exact ⟨by rw [(qN_c a6.1.1 j).1]; exact a5.2.2.2.1 j (by omega), (qN_c a6.1.1 j).2⟩)
  have st := st_149s (f := f) (rg := rg) (m := m) a1 a3 a5.1.1 e26 h14 (xor_nat (by omega) (by omega)) g1
  obtain ⟨G2, hG2⟩ : ∃ G2, G2 = xup2 G1 93 15 1 := ⟨_, rfl⟩
  rw [← hG2] at st
  have z2 : ∀ b j, ¬ (b = 93 ∧ 14 ≤ j ∧ j ≤ 15) → (∀ k, k < s.1.length → qK s k = rg → ¬ (b = 94 ∧ j = k) ∧ ¬ (b = 108 + 6 * k ∧ j ≤ 1) ∧ ¬ (b = 111 + 6 * k ∧ j ≤ 1)) → G2 b j = G b j := fun b j y1 y2 => by
    rw [hG2, xup2_n (by omega), g2 b j (fun k _ hk1 hk2 => y2 k hk1 hk2), xup2_n (by omega)]
  have z15 : ∀ b j, ¬ (b = 93 ∧ j = 15) → G2 b j = G1 b j := fun b j y => by rw [hG2, xup2_n y]
  have p2 : cPs G2 := by rw [hG2]; exact ps_15 g3
  have hW2 : cWk S G2 q nx s (fun p => if qK s p = rg then 108 + 6 * p else xp p) (fun p => if qK s p = rg then 100 else cp p) (rZ s rg R) := by
    refine ⟨⟨a1, p2, by rw [z2 _ _ (by omega) (fun k _ _ => by omega)]; exact a3, a4, a5.ge (Nat.le_refl _) (fun _ _ => rfl) (fun a j y _ => z2 a j (by omega) (fun k hk _ => by omega)), a6⟩, fun k hk => ?_⟩
    obtain ⟨b1, b2, b3, b4, b5, b6, b7⟩ := b k hk
    unfold rZ
    by_cases c : qK s k = rg
    · obtain ⟨y1, y2, y3⟩ := g4 k (Nat.zero_le _) hk c
      simp only [if_pos c]
      exact ⟨by rw [z15 _ _ (by omega)]; exact y1, .inl trivial, y2.ge (fun _ _ _ => rfl) (fun j => z15 _ _ (by omega)) (fun j => z15 _ _ (by omega)) (fun j => z15 _ _ (by omega)), List.Pairwise.nil, Nat.zero_le _, (fun r hr => by cases hr), (fun r hr => by cases hr)⟩
    · have hz : ∀ c j, xp k ≤ c → c ≤ xp k + 2 → G2 c j = G c j := fun c' j y1 y2 => z2 c' j (by omega) (fun p hp hk' => by
        have : k ≠ p := fun e => by rw [e] at c; exact c hk'
        omega)
      simp only [if_neg c]
      exact ⟨by rw [z2 _ _ (by omega) (fun p hp hk' => by
        have : k ≠ p := fun e => by rw [e] at c; exact c hk'
        omega)]; exact b1, b2, b3.ge (fun _ _ _ => rfl) (fun j => hz _ _ (by omega) (by omega)) (fun j => hz _ _ (by omega) (by omega)) (fun j => hz _ _ (by omega) (by omega)), b4, b5, b6, b7⟩
  have h0 : ∀ p, p < s.1.length → qK s p = rg → rZ s rg R p = [] := fun p _ hk => if_pos hk
  have hs0 : ∀ p, p < s.1.length → (rZ s rg R p).Pairwise rwLt := fun p hp => (hW2.2 p hp).2.2.2.1
  obtain ⟨G3, i1, i2, i3⟩ := k_149l (f := f) (m := m) (mb := mb) hf (fun p hp hk => ⟨if_pos hk, if_pos hk⟩) hmbt hmb16 h0 hs0 1601 0 f G2 (rZ s rg R) 1 (by omega) (by omega) (Nat.zero_le _) hW2 (fun p hp hk => (g4 p (Nat.zero_le _) hp hk).2.2.ge (fun _ _ _ => rfl) (fun j => z15 _ _ (by omega)) (fun j => z15 _ _ (by omega)) (fun j => z15 _ _ (by omega))) (fun p _ => rfl) (by rw [hG2, xup2_s]) (by decide)
  have fr3 : ∀ b j, ¬ (83 ≤ b ∧ b ≤ 92) → ¬ (99 ≤ b ∧ b ≤ 105) → ¬ (b = 93 ∧ 14 ≤ j ∧ j ≤ 15) → (∀ p, p < s.1.length → qK s p = rg → ¬ (108 + 6 * p ≤ b ∧ b ≤ 113 + 6 * p) ∧ ¬ (b = 94 ∧ j = p)) → G3 b j = G b j := fun b j y1 y2 y3 y4 => by
    rw [i1 b j y1 y2 (by omega) (fun p hp hk => (y4 p hp hk).1), z2 b j y3 (fun k hk1 hk2 => by have := y4 k hk1 hk2; omega)]
  have h143 : G3 93 14 = ((wk ||| mb : Nat) : Int) := by
    rw [i1 _ _ (by omega) (by omega) (by omega) (fun p hp _ => by omega), z15 _ _ (by omega), g2 _ _ (fun k _ hk1 hk2 => by omega), xup2_s]
  rcases i3 with ⟨j1, j2⟩ | ⟨R', j1, j2, j3⟩
  · exact ⟨0, G3, st.trans j1, fun b j y1 y2 y3 y4 => fr3 b j y1 y2 (by omega) y4, i2, .inl ⟨rfl, j2⟩⟩
  · have hA3 : cAh S G3 nx s yp ap A := hA.ge (fun j => fr3 _ _ (by omega) (by omega) (by omega) (fun p hp _ => by omega)) (fun a j y => fr3 a j (by omega) (by omega) (by omega) (fun p hp _ => by omega))
    obtain ⟨ch', k1, k2, k3⟩ := k_237 (f := f) (m := m) (rg := rg) (by omega) s.1.length 0 f G3 ch (by omega) (by omega) j2 hA3 (by rw [fr3 _ _ (by omega) (by omega) (by omega) (fun p hp _ => by omega)]; exact h13) hch
    have fr4 : ∀ b j, ¬ (b = 93 ∧ j = 13) → xup2 G3 93 13 (ch' : Int) b j = G3 b j := fun b j y => xup2_n y
    refine ⟨1, _, (st.trans j1).trans k2, fun b j y1 y2 y3 y4 => by rw [fr4 b j (by omega)]; exact fr3 b j y1 y2 (by omega) y4, ps_13 (.inl rfl) i2, .inr ⟨rfl, R', ch', wk ||| mb, j2.u93 (.inl rfl), j3, xup2_s _ _ _ _, k1, fun j => ?_, by rw [fr4 _ _ (by omega)]; exact h143, hwm, fun j => ?_⟩⟩
    · rw [k3 j]
      exact or_congr Iff.rfl ⟨fun y => y.2, fun y => ⟨Nat.zero_le _, y⟩⟩
    · rw [Nat.testBit_or, Bool.or_eq_true, hmbt j]
/-- workRing() -/
theorem k_149 (hf : 100003010 < f) (h : cWk S G q nx s xp cp R) (hA : cAh S G nx s yp ap A) (h13 : G 93 13 = (ch : Int)) (hch : ch < 2 ^ 16) (h14 : G 93 14 = (wk : Int)) (hwk : wk < 2 ^ 16) (hrg : rg < s.1.length) (htk : tk = 0 ∨ tk = 1) :
    ∃ v G', c149 f 93 (rg : Int) tk (S, G, m) = some (v, (S, G', m)) ∧ xRw8 s rg G G' ∧ cPs G' ∧ ((v = 1 ∧ G' = G ∧ (pIn s.2.1 (rg : Int) = true ∨ (tk = 0 ∧ ∀ y, rgR s rg y → qK s y ≠ rg → ch.testBit y = false))) ∨
      (pIn s.2.1 (rg : Int) = false ∧ (tk = 1 ∨ ∃ y, rgR s rg y ∧ qK s y ≠ rg ∧ ch.testBit y = true) ∧ ((v = 0 ∧ wkO s rg (rZ s rg R)) ∨ (v = 1 ∧ ∃ R' ch' wk', cWk S G' q nx s (fun p => if qK s p = rg then 108 + 6 * p else xp p) (fun p => if qK s p = rg then 100 else cp p) R' ∧ wkE s rg (rZ s rg R) R' ∧ G' 93 13 = ((ch' : Nat) : Int) ∧ ch' < 2 ^ 16 ∧ (∀ j, ch'.testBit j = true ↔ ch.testBit j = true ∨ (j < s.1.length ∧ qK s j = rg ∧ ¬ vEq (R' j) (A j))) ∧ G' 93 14 = ((wk' : Nat) : Int) ∧ wk' < 2 ^ 16 ∧ ∀ j, wk'.testBit j = true ↔ wk.testBit j = true ∨ (j < s.1.length ∧ qK s j = rg))))) := by
  obtain ⟨⟨a1, a2, a3, a4, a5, a6⟩, b⟩ := id h
  have hnp : s.1.length ≤ 16 := a6.1.1.1
  have hin : G (q + 4) rg = b01 (pIn s.2.1 (rg : Int)) := (a5.2.2.2.2.1 rg (by omega)).2.1
  cases hb : pIn s.2.1 (rg : Int) with
  | true =>
    rw [hb] at hin
    exact ⟨1, G, st_149i a1 a3 a5.1.1 a5.1.2.2.2.2.1 a5.2.1.2.2.2.1 (by omega) hin, fun _ _ _ _ _ _ => rfl, a2, .inl ⟨rfl, rfl, .inl rfl⟩⟩
  | false =>
    rw [hb] at hin
    have go : c149 f 93 (rg : Int) tk (S, G, m) = c149_34 f 93 (rg : Int) (S, G, m) → (tk = 1 ∨ ∃ y, rgR s rg y ∧ qK s y ≠ rg ∧ ch.testBit y = true) → ∃ v G', c149 f 93 (rg : Int) tk (S, G, m) = some (v, (S, G', m)) ∧ xRw8 s rg G G' ∧ cPs G' ∧ ((v = 1 ∧ G' = G ∧ (false = true ∨ (tk = 0 ∧ ∀ y, rgR s rg y → qK s y ≠ rg → ch.testBit y = false))) ∨ (false = false ∧ (tk = 1 ∨ ∃ y, rgR s rg y ∧ qK s y ≠ rg ∧ ch.testBit y = true) ∧ ((v = 0 ∧ wkO s rg (rZ s rg R)) ∨ (v = 1 ∧ ∃ R' ch' wk', cWk S G' q nx s (fun p => if qK s p = rg then 108 + 6 * p else xp p) (fun p => if qK s p = rg then 100 else cp p) R' ∧ wkE s rg (rZ s rg R) R' ∧ G' 93 13 = ((ch' : Nat) : Int) ∧ ch' < 2 ^ 16 ∧ (∀ j, ch'.testBit j = true ↔ ch.testBit j = true ∨ (j < s.1.length ∧ qK s j = rg ∧ ¬ vEq (R' j) (A j))) ∧ G' 93 14 = ((wk' : Nat) : Int) ∧ wk' < 2 ^ 16 ∧ ∀ j, wk'.testBit j = true ↔ wk.testBit j = true ∨ (j < s.1.length ∧ qK s j = rg))))) := fun e hy => by
      obtain ⟨v, G', k1, k2, k3, k4⟩ := k_149w (f := f) (m := m) (rg := rg) hf h hA h13 hch h14 hwk
      exact ⟨v, G', e.trans k1, k2, k3, .inr ⟨rfl, hy, k4⟩⟩
    rcases htk with rfl | rfl
    · obtain ⟨w, w1, w2, w3⟩ := k_27 (f := f) (m := m) (g := rg) (T := qAc s) (D := qRd s.2.2.2.2.1) (by omega) (by omega : 82 < q) hnp a5.1 a5.2.1 a5.2.2.1.1 a5.2.2.2.2.2.2.2.1.1 (fun p => by
        refine Nat.lt_pow_two_of_testBit _ (fun i hi => ?_)
        cases hbi : (qRd s.2.2.2.2.1 p).testBit i with
        | false => rfl
        | true => have := rdB a6.1.1 hbi; omega) a5.2.2.2.2.2.2.2.1.2.1
      have hwb : ∀ j, w.testBit j = true ↔ rgR s rg j ∧ qK s j ≠ rg := fun j => by
        rw [w3 j, qMr_t, rgR_rd a6.1.1]
        constructor
        · rintro ⟨⟨p, p1, p2, p3⟩, q2⟩
          refine ⟨⟨p, p1, p2, p3⟩, fun e => ?_⟩
          have : (qMb (qAc s) rg s.1.length).testBit j = true := (qMb_t (qAc s) rg j s.1.length).mpr ⟨rdB a6.1.1 p3, e⟩
          rw [this] at q2
          cases q2
        · rintro ⟨⟨p, p1, p2, p3⟩, q2⟩
          refine ⟨⟨p, p1, p2, p3⟩, ?_⟩
          cases hc : (qMb (qAc s) rg s.1.length).testBit j with
          | false => rfl
          | true => exact absurd ((qMb_t (qAc s) rg j s.1.length).mp hc).2 q2
      have st := st_149r (f := f) (rg := rg) (m := m) a1 a3 a5.1.1 a5.1.2.2.2.2.1 a5.2.1.2.2.2.1 (by omega) hin w2 h13 (xand_nat (by omega) (by omega))
      by_cases c : w &&& ch = 0
      · rw [if_pos c] at st
        exact ⟨1, G, st, fun _ _ _ _ _ _ => rfl, a2, .inl ⟨rfl, rfl, .inr ⟨rfl, fun y y1 y2 => and_0.mp c y ((hwb y).mpr ⟨y1, y2⟩)⟩⟩⟩
      · rw [if_neg c] at st
        refine go st (.inr (Classical.byContradiction (fun q => c (and_0.mpr (fun j hj => ?_)))))
        cases hc : ch.testBit j with
        | false => rfl
        | true => exact absurd ⟨j, ((hwb j).mp hj).1, ((hwb j).mp hj).2, hc⟩ q
    · exact go (st_149t a1 a3 a5.1.1 a5.1.2.2.2.2.1 a5.2.1.2.2.2.1 (by omega) hin) (.inl rfl)
end
end
section
/-! RINGS one behind another, those alone that must be worked -/
def oRd (s : pPg) (O : List Nat) : Prop := O.Nodup ∧ (∀ g, g ∈ O → g < s.1.length ∧ qK s g = g) ∧ (∀ k, k < O.length → ∀ p, p < s.1.length → qK s p = O.getD k 0 → ∀ y, (qRd s.2.2.2.2.1 p).testBit y = true → y < s.1.length → qK s y = O.getD k 0 ∨ qK s y ∈ O.take k) ∧ ∀ x, x < s.1.length → qK s x = x → x ∈ O
/-- behind k RINGS: In rows of INPUTS, A rows ahead, B rows of RINGS not yet looked at, R rows now -/
def rgI (s : pPg) (fr : Prop) (In A B R : Nat → List pRw) (O : List Nat) (k ch wk : Nat) : Prop :=
  (∀ p, p < s.1.length → pIn s.2.1 (p : Int) = true → R p = In p) ∧ (∀ p, p < s.1.length → pIn s.2.1 (p : Int) = false → qK s p ∈ O.take k → dnR s R (qK s p)) ∧ (∀ p, p < s.1.length → pIn s.2.1 (p : Int) = false → qK s p ∉ O.take k → R p = B p) ∧
  (∀ j, ch.testBit j = true ↔ j < s.1.length ∧ (pIn s.2.1 (j : Int) = true ∨ qK s j ∈ O.take k) ∧ ¬ vEq (R j) (A j)) ∧
  ∀ j, wk.testBit j = true ↔ j < s.1.length ∧ pIn s.2.1 (j : Int) = false ∧ qK s j ∈ O.take k ∧ (fr ∨ ∃ x, rgR s (qK s j) x ∧ qK s x ≠ qK s j ∧ ¬ vEq (R x) (A x))
theorem tk_s8 {O : List Nat} {k x : Nat} (hk : k < O.length) : x ∈ O.take (k + 1) ↔ x ∈ O.take k ∨ x = O.getD k 0 := by
  rw [List.take_succ_eq_append_getElem hk, List.mem_append, List.mem_singleton, getD_e hk]
theorem tk_n8 {O : List Nat} {k : Nat} (h : O.Nodup) (hk : k < O.length) : O.getD k 0 ∉ O.take k := fun hm => by
  obtain ⟨i, hi, ei⟩ := List.getElem_of_mem hm
  rw [List.length_take] at hi
  rw [List.getElem_take] at ei
  have := (List.nodup_iff_pairwise_ne.mp h)
  have h2 := List.pairwise_iff_getElem.mp this i k (by omega) hk (by omega)
  rw [getD_e hk] at ei
  exact h2 ei
theorem tk_i8 {O : List Nat} {k x : Nat} (h : x ∈ O.take k) : ∃ i, i < k ∧ i < O.length ∧ O.getD i 0 = x := by
  obtain ⟨i, hi, ei⟩ := List.getElem_of_mem h
  rw [List.length_take] at hi
  rw [List.getElem_take] at ei
  exact ⟨i, by omega, by omega, by rw [getD_e (by omega)]; exact ei⟩
theorem tk_m8 {O : List Nat} {i k x : Nat} (h : x ∈ O.take i) (hk : i ≤ k) : x ∈ O.take k := (List.take_prefix_take_left hk).mem h
section
variable {s : pPg} {O : List Nat} {fr : Prop} {In A B R R' : Nat → List pRw} {k ch wk ch' wk' : Nat}
/-- what a RING reads elsewhere was looked at before it -/
theorem oRd.rd (hw : wPg s) (hO : oRd s O) (hk : k < O.length) {y : Nat} (hy : rgR s (O.getD k 0) y) (hne : qK s y ≠ O.getD k 0) : y < s.1.length ∧ qK s y ∈ O.take k := by
  have hl := rgR_lt hw hy
  obtain ⟨p, p1, p2, p3⟩ := (rgR_rd hw).mp hy
  exact ⟨hl, (hO.2.2.1 k hk p p1 p2 y p3 hl).resolve_left hne⟩
theorem oRd.mm (hO : oRd s O) (hN : wNh s) (hk : k < O.length) (hi : pIn s.2.1 ((O.getD k 0 : Nat) : Int) = false) {p : Nat} (hp : p < s.1.length) (h : qK s p = O.getD k 0) : pIn s.2.1 (p : Int) = false := by
  cases hb : pIn s.2.1 (p : Int) with
  | false => rfl
  | true =>
    have hm : O.getD k 0 ∈ O := by rw [getD_e hk]; exact List.getElem_mem hk
    obtain ⟨g1, g2⟩ := hO.2.1 _ hm
    have e : O.getD k 0 = p := inp_k hN hp g1 hb (by rw [g2, h])
    rw [e, hb] at hi
    cases hi
theorem oRd.mi (hO : oRd s O) (hN : wNh s) (hk : k < O.length) (hi : pIn s.2.1 ((O.getD k 0 : Nat) : Int) = true) {p : Nat} (hp : p < s.1.length) (h : qK s p = O.getD k 0) : p = O.getD k 0 := by
  have hm : O.getD k 0 ∈ O := by rw [getD_e hk]; exact List.getElem_mem hk
  obtain ⟨g1, g2⟩ := hO.2.1 _ hm
  exact inp_k hN g1 hp hi (by rw [g2, h])
/-- a RING of an INPUT -/
theorem rgI.inp (hO : oRd s O) (hk : k < O.length) (hN : wNh s) (h : rgI s fr In A B R O k ch wk) (hi : pIn s.2.1 ((O.getD k 0 : Nat) : Int) = true) : rgI s fr In A B R O (k + 1) ch wk := by
  obtain ⟨i1, i2, i3, i4, i5⟩ := h
  have hin : ∀ p, p < s.1.length → qK s p = O.getD k 0 → pIn s.2.1 (p : Int) = true := fun p hp e => by rw [hO.mi hN hk hi hp e]; exact hi
  refine ⟨i1, fun p hp hn hm => ?_, fun p hp hn hm => i3 p hp hn (fun q => hm ((tk_s8 hk).mpr (.inl q))), fun j => ?_, fun j => ?_⟩
  · rcases (tk_s8 hk).mp hm with q | q
    · exact i2 p hp hn q
    · rw [hin p hp q] at hn; cases hn
  · rw [i4 j]
    refine and_congr_right (fun hj => and_congr_left (fun _ => ⟨fun q => q.imp id (fun q => (tk_s8 hk).mpr (.inl q)), fun q => ?_⟩))
    rcases q with q | q
    · exact .inl q
    · rcases (tk_s8 hk).mp q with q | q
      · exact .inr q
      · exact .inl (hin j hj q)
  · rw [i5 j]
    refine and_congr_right (fun hj => and_congr_right (fun hn => and_congr_left (fun _ => ⟨fun q => (tk_s8 hk).mpr (.inl q), fun q => ?_⟩)))
    rcases (tk_s8 hk).mp q with q | q
    · exact q
    · rw [hin j hj q] at hn; cases hn
/-- a RING that needn't be worked -/
theorem rgI.skip (hw : wPg s) (hO : oRd s O) (hk : k < O.length) (hN : wNh s) (h : rgI s fr In A B R O k ch wk) (hT : qTb s R) (hi : pIn s.2.1 ((O.getD k 0 : Nat) : Int) = false) (hnf : ¬ fr) (hTA : qTb s A) (hBA : ∀ p, p < s.1.length → pIn s.2.1 (p : Int) = false → dnR s A (qK s p) ∧ B p = A p) (hc : ∀ y, rgR s (O.getD k 0) y → qK s y ≠ O.getD k 0 → ch.testBit y = false) : rgI s fr In A B R O (k + 1) ch wk := by
  obtain ⟨i1, i2, i3, i4, i5⟩ := h
  have hnk := tk_n8 hO.1 hk
  have hmm : ∀ p, p < s.1.length → qK s p = O.getD k 0 → R p = A p := fun p hp e => by
    have hn := hO.mm hN hk hi hp e
    rw [i3 p hp hn (by rw [e]; exact hnk), (hBA p hp hn).2]
  have hvr : ∀ y, rgR s (O.getD k 0) y → qK s y ≠ O.getD k 0 → vEq (A y) (R y) := fun y hy hne => by
    obtain ⟨y1, y2⟩ := hO.rd hw hk hy hne
    refine Classical.byContradiction (fun q => ?_)
    have := (i4 y).mpr ⟨y1, .inr y2, fun e => q e.symm⟩
    rw [hc y hy hne] at this
    cases this
  refine ⟨i1, fun p hp hn hm => ?_, fun p hp hn hm => i3 p hp hn (fun q => hm ((tk_s8 hk).mpr (.inl q))), fun j => ?_, fun j => ?_⟩
  · rcases (tk_s8 hk).mp hm with q | q
    · exact i2 p hp hn q
    · have hd := (hBA p hp hn).1
      rw [q] at hd ⊢
      exact dnR_cv hw hTA hT (fun p hp e => (hmm p hp e).symm) (fun y _ hy hne => hvr y hy hne) hd
  · rw [i4 j]
    refine and_congr_right (fun hj => ⟨fun ⟨q1, q2⟩ => ⟨q1.imp id (fun q => (tk_s8 hk).mpr (.inl q)), q2⟩, fun ⟨q1, q2⟩ => ⟨?_, q2⟩⟩)
    rcases q1 with q | q
    · exact .inl q
    · rcases (tk_s8 hk).mp q with q | q
      · exact .inr q
      · exact absurd (by rw [hmm j hj q]; rfl) q2
  · rw [i5 j]
    refine and_congr_right (fun hj => and_congr_right (fun hn => ⟨fun ⟨q1, q2⟩ => ⟨(tk_s8 hk).mpr (.inl q1), q2⟩, fun ⟨q1, q2⟩ => ⟨?_, q2⟩⟩))
    rcases (tk_s8 hk).mp q1 with q | q
    · exact q
    · exfalso
      rcases q2 with q2 | ⟨x, x1, x2, x3⟩
      · exact hnf q2
      · rw [q] at x1 x2
        exact x3 (hvr x x1 x2).symm
/-- what is read by RINGS that were looked at was looked at -/
theorem oRd.rd2 (hw : wPg s) (hO : oRd s O) {p y : Nat} (hm : qK s p ∈ O.take k) (hy : rgR s (qK s p) y) (hne : qK s y ≠ qK s p) : qK s y ∈ O.take k := by
  obtain ⟨i, i1, i2, i3⟩ := tk_i8 hm
  rw [← i3] at hy hne
  exact tk_m8 (hO.rd hw i2 hy hne).2 (by omega)
/-- a RING that was worked -/
theorem rgI.work (hw : wPg s) (hO : oRd s O) (hk : k < O.length) (hN : wNh s) (h : rgI s fr In A B R O k ch wk) (hT : qTb s R) (hT' : qTb s R') (hi : pIn s.2.1 ((O.getD k 0 : Nat) : Int) = false) (hE : wkE s (O.getD k 0) (rZ s (O.getD k 0) R) R') (hc : fr ∨ ∃ y, rgR s (O.getD k 0) y ∧ qK s y ≠ O.getD k 0 ∧ ch.testBit y = true) (hch : ∀ j, ch'.testBit j = true ↔ ch.testBit j = true ∨ (j < s.1.length ∧ qK s j = O.getD k 0 ∧ ¬ vEq (R' j) (A j))) (hwk : ∀ j, wk'.testBit j = true ↔ wk.testBit j = true ∨ (j < s.1.length ∧ qK s j = O.getD k 0)) : rgI s fr In A B R' O (k + 1) ch' wk' := by
  obtain ⟨i1, i2, i3, i4, i5⟩ := h
  have hnk := tk_n8 hO.1 hk
  have e1 : ∀ p, p < s.1.length → qK s p ≠ O.getD k 0 → rZ s (O.getD k 0) R p = R p := fun p _ hne => if_neg hne
  have e2 : ∀ p, p < s.1.length → qK s p = O.getD k 0 → rZ s (O.getD k 0) R p = [] := fun p _ he => if_pos he
  have out : ∀ p, p < s.1.length → qK s p ≠ O.getD k 0 → R' p = R p := fun p hp hne => by
    obtain ⟨n, a1, _⟩ := hE
    rw [(wkC_out (dnR.srt hT e1 e2) n R' a1).2 p hp hne, e1 p hp hne]
  have nr : ∀ {x : Nat}, x ∈ O.take k → x ≠ O.getD k 0 := fun {x} hx e => by rw [e] at hx; exact hnk hx
  refine ⟨fun p hp hq => ?_, fun p hp hn hm => ?_, fun p hp hn hm => ?_, fun j => ?_, fun j => ?_⟩
  · have hne : qK s p ≠ O.getD k 0 := fun e => by rw [hO.mm hN hk hi hp e] at hq; cases hq
    rw [out p hp hne]; exact i1 p hp hq
  · rcases (tk_s8 hk).mp hm with q | q
    · refine dnR_cv hw hT hT' (fun x hx e => (out x hx (by rw [e]; exact nr q)).symm) (fun y hy1 hy hne => ?_) (i2 p hp hn q)
      rw [out y hy1 (nr (hO.rd2 hw q hy hne))]; rfl
    · rw [q]
      exact ⟨rZ s (O.getD k 0) R, fun x hx hne => by rw [e1 x hx hne, out x hx hne], e2, hE⟩
  · have hm' : qK s p ∉ O.take k := fun q => hm ((tk_s8 hk).mpr (.inl q))
    have hne : qK s p ≠ O.getD k 0 := fun q => hm ((tk_s8 hk).mpr (.inr q))
    rw [out p hp hne]; exact i3 p hp hn hm'
  · rw [hch j, i4 j]
    constructor
    · rintro (⟨q1, q2, q3⟩ | ⟨q1, q2, q3⟩)
      · have hne : qK s j ≠ O.getD k 0 := fun e => by
          rcases q2 with q2 | q2
          · rw [hO.mm hN hk hi q1 e] at q2; cases q2
          · exact nr q2 e
        exact ⟨q1, q2.imp id (fun q => (tk_s8 hk).mpr (.inl q)), by rw [out j q1 hne]; exact q3⟩
      · exact ⟨q1, .inr ((tk_s8 hk).mpr (.inr q2)), q3⟩
    · rintro ⟨q1, q2, q3⟩
      by_cases c : qK s j = O.getD k 0
      · exact .inr ⟨q1, c, q3⟩
      · refine .inl ⟨q1, q2.imp id (fun q => ((tk_s8 hk).mp q).resolve_right c), ?_⟩
        rw [out j q1 c] at q3; exact q3
  · rw [hwk j, i5 j]
    have same : qK s j ∈ O.take k → ((fr ∨ ∃ x, rgR s (qK s j) x ∧ qK s x ≠ qK s j ∧ ¬ vEq (R x) (A x)) ↔ (fr ∨ ∃ x, rgR s (qK s j) x ∧ qK s x ≠ qK s j ∧ ¬ vEq (R' x) (A x))) := fun q => by
      refine or_congr Iff.rfl (exists_congr (fun x => and_congr_right (fun x1 => and_congr_right (fun x2 => ?_))))
      rw [out x (rgR_lt hw x1) (nr (hO.rd2 hw q x1 x2))]
    constructor
    · rintro (⟨q1, q2, q3, q4⟩ | ⟨q1, q2⟩)
      · exact ⟨q1, q2, (tk_s8 hk).mpr (.inl q3), (same q3).mp q4⟩
      · refine ⟨q1, hO.mm hN hk hi q1 q2, (tk_s8 hk).mpr (.inr q2), hc.imp id (fun ⟨y, y1, y2, y3⟩ => ⟨y, by rw [q2]; exact y1, by rw [q2]; exact y2, ?_⟩)⟩
        rw [out y (rgR_lt hw y1) y2]
        exact ((i4 y).mp y3).2.2
    · rintro ⟨q1, q2, q3, q4⟩
      rcases (tk_s8 hk).mp q3 with q | q
      · exact .inl ⟨q1, q2, q, (same q).mpr q4⟩
      · exact .inr ⟨q1, q⟩
/-- where rows are, they are the right ones -/
theorem rgI.det (hw : wPg s) (hO : oRd s O) (h : rgI s fr In A B R O k ch wk) (hT : qTb s R) {M : Nat → List pRw} (hM : qMod s In M) : ∀ p, p < s.1.length → (pIn s.2.1 (p : Int) = true ∨ qK s p ∈ O.take k) → R p = M p := by
  obtain ⟨i1, i2, i3, i4, i5⟩ := h
  obtain ⟨b1, b2, b3⟩ := hM
  have key : ∀ (n p : Nat), qCn s (qK s p) < n → p < s.1.length → (pIn s.2.1 (p : Int) = true ∨ qK s p ∈ O.take k) → R p = M p := by
    intro n
    induction n with
    | zero => intro p h; omega
    | succ n ih =>
      intro p hc hp hd
      cases hi : pIn s.2.1 (p : Int) with
      | true => rw [i1 p hp hi, b2 p hp hi]
      | false =>
        have hm : qK s p ∈ O.take k := hd.resolve_left (fun q => by rw [q] at hi; cases hi)
        obtain ⟨R0, c1, c2, c3⟩ := i2 p hp hi hm
        obtain ⟨R0', d1, d2, d3⟩ := b3 p hp hi
        have hag : ∀ q, q < s.1.length → (qK s q = qK s p ∨ rgR s (qK s p) q) → R0 q = R0' q := fun q hq hk => by
          by_cases cq : qK s q = qK s p
          · rw [c2 q hq cq, d2 q hq cq]
          · have hr : rgR s (qK s p) q := hk.resolve_left cq
            rw [c1 q hq cq, d1 q hq cq]
            exact ih q (by have := qCn_lt hw hr cq; omega) hq (.inr (hO.rd2 hw hm hr cq))
        obtain ⟨R'', e1, e2⟩ := wkE_cg hw (dnR.srt hT c1 c2) (dnR.srt b1 d1 d2) hag c3
        rw [← e2 p hp rfl]
        exact wkE_det (fun y hy => rgR_lt hw hy) e1 d3 p hp
  exact fun p hp hd => key _ p (Nat.lt_succ_self _) hp hd
/-- a RING that passes the LIMIT: there is no outcome -/
theorem rgI.fail (hw : wPg s) (hO : oRd s O) (hk : k < O.length) (hN : wNh s) (h : rgI s fr In A B R O k ch wk) (hT : qTb s R) (hi : pIn s.2.1 ((O.getD k 0 : Nat) : Int) = false) (hW : wkO s (O.getD k 0) (rZ s (O.getD k 0) R)) : ¬ ∃ M, qMod s In M := by
  rintro ⟨M, hM⟩
  have hd := h.det hw hO hT hM
  have hm : O.getD k 0 ∈ O := by rw [getD_e hk]; exact List.getElem_mem hk
  obtain ⟨g1, g2⟩ := hO.2.1 _ hm
  have e1 : ∀ p, p < s.1.length → qK s p ≠ O.getD k 0 → rZ s (O.getD k 0) R p = R p := fun p _ hne => if_neg hne
  have e2 : ∀ p, p < s.1.length → qK s p = O.getD k 0 → rZ s (O.getD k 0) R p = [] := fun p _ he => if_pos he
  obtain ⟨R0, c1, c2, c3⟩ := hM.2.2 _ g1 hi
  rw [g2] at c1 c2 c3
  have hs := dnR.srt hT e1 e2
  obtain ⟨R'', k1, k2⟩ := wkE_cg hw (dnR.srt hM.1 c1 c2) hs (fun q hq hk' => by
    by_cases cq : qK s q = O.getD k 0
    · rw [c2 q hq cq, e2 q hq cq]
    · rw [c1 q hq cq, e1 q hq cq]
      exact (hd q hq (.inr (hO.rd hw hk (hk'.resolve_left cq) cq).2)).symm) c3
  refine wkO_no (fun y hy => rgR_lt hw hy) hs (fun u hu => ?_) hW k1 (fun p hp => ?_)
  · have := hw.2.2.2.2.2.2 u hu
    exact ⟨this.1, this.2.1⟩
  · by_cases c : qK s p = O.getD k 0
    · rw [k2 p hp c]; exact (hM.1 p hp).1
    · obtain ⟨n, a1, _⟩ := k1
      rw [(wkC_out hs n R'' a1).2 p hp c, e1 p hp c]
      exact (hT p hp).1
/-- all RINGS -/
theorem rgI.done (hw : wPg s) (hO : oRd s O) (h : rgI s fr In A B R O O.length ch wk) (hT : qTb s R) : qMod s In R := by
  obtain ⟨i1, i2, _⟩ := h
  refine ⟨hT, i1, fun p hp hi => i2 p hp hi ?_⟩
  rw [List.take_length]
  exact hO.2.2.2 _ (qK_lt hp) (qK_id hw hp)
theorem oRd_of {S : Nat → Nat × Nat × Nat} {G : xG_} {q nx : Nat} (h : cPgm S G q nx s) : ∃ O, oRd s O ∧ cOr G q O := by
  obtain ⟨_, _, O, ⟨dn, o1, o2, o3, o4, o5⟩, o6, o7⟩ := h.2.2.2.2.2.2.2.1
  exact ⟨O, ⟨o3, o4, o5, o7⟩, o6⟩
end
end
