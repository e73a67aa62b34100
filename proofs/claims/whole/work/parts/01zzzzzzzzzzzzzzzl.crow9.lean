/-! THE CLASS: round(): its rows -/
section
variable {s so : pPg} {In A B R Mo : Nat → List pRw} {O : List Nat} {ch wk rg : Nat} {fr : Prop}
theorem dn_same (hw : wPg s) (hT : qTb s R) (hA : qTb s A) (h : dnR s R rg) (h' : dnR s A rg) (hr : ∀ p, p < s.1.length → rgR s rg p → qK s p ≠ rg → vEq (R p) (A p)) : ∀ p, p < s.1.length → qK s p = rg → R p = A p := by
  obtain ⟨M', eM⟩ : ∃ M' : Nat → List pRw, M' = fun p => if qK s p = rg then A p else R p := ⟨_, rfl⟩
  have m1 : ∀ p, qK s p = rg → M' p = A p := fun p q => by rw [eM]; exact if_pos q
  have m2 : ∀ p, qK s p ≠ rg → M' p = R p := fun p q => by rw [eM]; exact if_neg q
  have hM : qTb s M' := fun p hp => by
    by_cases q : qK s p = rg
    · rw [m1 p q]; exact hA p hp
    · rw [m2 p q]; exact hT p hp
  have hd : dnR s M' rg := dnR_cv hw hA hM (fun p _ q => (m1 p q).symm) (fun p hp r q => by rw [m2 p q]; exact (hr p hp r q).symm) h'
  obtain ⟨R0, c1, c2, c3⟩ := h
  obtain ⟨R0', d1, d2, d3⟩ := hd
  have hag : ∀ q, q < s.1.length → (qK s q = rg ∨ rgR s rg q) → R0 q = R0' q := fun q hq _ => by
    by_cases cq : qK s q = rg
    · rw [c2 q hq cq, d2 q hq cq]
    · rw [c1 q hq cq, d1 q hq cq, m2 q cq]
  obtain ⟨R'', e1, e2⟩ := wkE_cg hw (dnR.srt hT c1 c2) (dnR.srt hM d1 d2) hag c3
  intro p hp hk
  rw [← e2 p hp hk, ← m1 p hk]
  exact wkE_det (fun y hy => rgR_lt hw hy) e1 d3 p hp
/-- which predicates a round works -/
theorem wk_iff (hw : wPg s) (hO : oRd s O) (h : rgI s fr In A B R O O.length ch wk) (hT : qTb s R) (hB : ¬ fr → qTb s A ∧ ∀ p, p < s.1.length → pIn s.2.1 (p : Int) = false → dnR s A (qK s p)) (j : Nat) : wk.testBit j = true ↔ j < s.1.length ∧ qWc s fr (fun p => p < s.1.length ∧ ¬ vEq (R p) (A p)) j := by
  obtain ⟨h1, h2, h3, h4, h5⟩ := h
  have all : ∀ p, p < s.1.length → qK s p ∈ O.take O.length := fun p hp => by
    rw [List.take_length]
    exact hO.2.2.2 _ (qK_lt hp) (qK_id hw hp)
  rw [h5 j]
  constructor
  · rintro ⟨a1, a2, a3, a4⟩
    refine ⟨a1, a2, ?_⟩
    rcases a4 with z | ⟨x, x1, x2, x3⟩
    · exact .inl z
    · obtain ⟨p, p1, p2, p3⟩ := (rgR_rd hw).mp x1
      exact .inr ⟨p, p1, p2, x, rgR_lt hw x1, p3, rgR_lt hw x1, x3⟩
  · rintro ⟨a1, a2, a3⟩
    refine ⟨a1, a2, all j a1, ?_⟩
    rcases a3 with z | ⟨z, z1, z2, x, x1, x2, x3, x4⟩
    · exact .inl z
    · by_cases hf : fr
      · exact .inl hf
      · right
        have hx : rgR s (qK s j) x := (rgR_rd hw).mpr ⟨z, z1, z2, x2⟩
        by_cases q : qK s x = qK s j
        · refine Classical.byContradiction fun hn => x4 ?_
          have := dn_same hw hT (hB hf).1 (h2 j a1 a2 (all j a1)) ((hB hf).2 j a1 a2) (fun p hp r k => Classical.byContradiction fun hv => hn ⟨p, r, k, hv⟩) x x3 q
          rw [this]
          rfl
        · exact ⟨x, hx, q, x4⟩
theorem ch_iff (hw : wPg s) (hO : oRd s O) (h : rgI s fr In A B R O O.length ch wk) : ∀ j, j < s.1.length → (ch.testBit j = true ↔ ¬ vEq (R j) (A j)) := fun j hj => by
  rw [h.2.2.2.1 j]
  have : qK s j ∈ O.take O.length := by
    rw [List.take_length]
    exact hO.2.2.2 _ (qK_lt hj) (qK_id hw hj)
  exact ⟨fun z => z.2.2, fun z => ⟨hj, .inr this, z⟩⟩
theorem bg_ah {tk : Int} {Ri : Nat → List pRw} (hs : tk = 0 → s = so) (h : ∀ p, p < s.1.length → bgR so s Mo tk p (A p) (Ri p)) : isAh so s Mo A := fun p hp => by
  rcases h p hp with ⟨a, b, _⟩ | ⟨_, r, r1, r2, r3, r4, _⟩ | ⟨_, r1, r2, _⟩
  · have e := hs a
    subst e
    exact .inl ⟨p, hp, rfl, rfl, b⟩
  · exact .inl ⟨r, r1, r2, r3, r4⟩
  · exact .inr ⟨r1, r2⟩
theorem ky_no {p : Nat} (h : pIn s.2.1 (p : Int) = false) : qKy s p = 0 := by
  unfold qKy pKy
  unfold pIn at h
  cases hq : s.2.1.find? (fun x => decide (x.1 = (p : Int))) with
  | none => rfl
  | some y =>
    exfalso
    have h1 := List.find?_some hq
    have h2 := List.mem_of_find?_eq_some hq
    have : s.2.1.any (fun x => decide (x.1 = (p : Int))) = true := List.any_eq_true.mpr ⟨y, h2, h1⟩
    rw [this] at h
    cases h
end
