/-! Tables of the reference: one row more, one less -/
section
variable {f np p c i : Nat} {N : Nat → Nat} {R : Nat → List pRw} {G : xG_} {xs : List Int}
theorem rTb.set {G' : xG_} {L : List pRw} (h : rTb G np N R) (hp : p < np) (hL : rRw G' p (N p) L) (hx : xfw p G G') : rTb G' np N (fun q => if q = p then L else R q) := fun q hq => by
  by_cases cq : q = p
  · show rRw G' q (N q) (if q = p then L else R q) ∧ _
    rw [if_pos cq, cq]
    exact ⟨hL, (h p hp).2⟩
  · show rRw G' q (N q) (if q = p then L else R q) ∧ _
    rw [if_neg cq]
    obtain ⟨⟨w1, w2, w3⟩, w4⟩ := h q hq
    have hfar : ∀ o j, (o = 107 ∧ q * 520 * 4 ≤ j ∧ j < (q * 520 + 520) * 4) ∨ (o = 108 ∧ j = q) ∨ (o = 109 ∧ q * 520 ≤ j ∧ j < q * 520 + 520) → G' o j = G o j := fun o j h => by
      refine hx o j (fun z => ?_) (fun z => ?_) (fun z => ?_)
      · rcases h with h | h | h
        · have h1 := h.2.1; have h2 := h.2.2; have h3 := z.2.1; have h4 := z.2.2
          omega
        · omega
        · omega
      · omega
      · rcases h with h | h | h
        · omega
        · omega
        · have h1 := h.2.1; have h2 := h.2.2; have h3 := z.2.1; have h4 := z.2.2
          omega
    refine ⟨⟨by rw [hfar _ _ (.inr (.inl ⟨rfl, rfl⟩))]; exact w1, w2, fun k hk => ?_⟩, w4⟩
    obtain ⟨v1, v2, v3⟩ := w3 k hk
    exact ⟨v1, fun j hj => by rw [hfar _ _ (.inl ⟨rfl, by omega, by omega⟩)]; exact v2 j hj, by rw [hfar _ _ (.inr (.inr ⟨rfl, by omega, by omega⟩))]; exact v3⟩
/-- add, for all tables -/
theorem l_add {u : Int} (hf : 600 < f) (hnp : np ≤ 16) (hp : p < np) (hT : rTb G np N R) (hs : ∀ q, q < np → (R q).Pairwise rwLt) (hl : (R p).length < 520) (h4 : G 4 p = (N p : Int)) (hc : c ≠ 107 ∧ c ≠ 108 ∧ c ≠ 109) (hx : rVe G c i xs) (hxn : xs.length = N p) :
    ∃ G' R', g264 f (p : Int) c (i : Int) u G = some G' ∧ (∀ o j, ¬ (107 ≤ o ∧ o ≤ 109) → G' o j = G o j) ∧ rTb G' np N R' ∧ (∀ q, q < np → (R' q).Pairwise rwLt) ∧ (∀ q, q ≠ p → R' q = R q) ∧ (((∃ y, y ∈ R p ∧ y.1 = xs) ∧ R' p = R p) ∨ ((∀ y, y ∈ R p → y.1 ≠ xs) ∧ (R' p).length = (R p).length + 1 ∧ ∀ y, y ∈ R' p ↔ y ∈ R p ∨ y = (xs, u))) := by
  obtain ⟨t1, t2⟩ := hT p hp
  obtain ⟨G', L, k1, k2, k3, k4, k5⟩ := l_264 (f := f) (u := u) hf (by omega : p < 16) t2 hc t1 (hs p hp) hl h4 hx hxn
  refine ⟨G', fun q => if q = p then L else R q, k1, fun o j y => k4 o j (by omega) (by omega) (by omega), hT.set hp k2 k4, fun q hq => ?_, fun q hq => if_neg hq, ?_⟩
  · show (if q = p then L else R q).Pairwise rwLt
    by_cases cq : q = p
    · rw [if_pos cq]; exact k3
    · rw [if_neg cq]; exact hs q hq
  · show _ ∧ (if p = p then L else R p) = R p ∨ _ ∧ (if p = p then L else R p).length = _ ∧ ∀ y, y ∈ (if p = p then L else R p) ↔ _
    rw [if_pos rfl]
    exact k5
/-- remove, for all tables -/
theorem l_rem {k : Nat} (hf : 600 < f) (hnp : np ≤ 16) (hp : p < np) (hT : rTb G np N R) (hs : ∀ q, q < np → (R q).Pairwise rwLt) (hk : k < (R p).length) :
    ∃ G' R', g265 f (p : Int) (k : Int) G = some G' ∧ (∀ o j, ¬ (107 ≤ o ∧ o ≤ 109) → G' o j = G o j) ∧ rTb G' np N R' ∧ (∀ q, q < np → (R' q).Pairwise rwLt) ∧ (∀ q, q ≠ p → R' q = R q) ∧ R' p = (R p).take k ++ (R p).drop (k + 1) := by
  obtain ⟨t1, t2⟩ := hT p hp
  obtain ⟨G', k1, k2, k3⟩ := l_265 (f := f) hf (by omega : p < 16) t1 hk
  refine ⟨G', fun q => if q = p then (R p).take k ++ (R p).drop (k + 1) else R q, k1, fun o j y => k3 o j (by omega) (by omega) (by omega), hT.set hp k2 k3, fun q hq => ?_, fun q hq => if_neg hq, if_pos rfl⟩
  show (if q = p then (R p).take k ++ (R p).drop (k + 1) else R q).Pairwise rwLt
  by_cases cq : q = p
  · rw [if_pos cq]; exact srt_del (hs p hp) k
  · rw [if_neg cq]; exact hs q hq
end
/-- NAMES and their numbers -/
theorem pIdx_get {L : List Int} {x : Int} (hn : L.Nodup) : (pIdx L x = -1 ∧ x ∉ L) ∨ ∃ p : Nat, p < L.length ∧ pIdx L x = (p : Int) ∧ L.getD p 0 = x ∧ ∀ q, q < L.length → L.getD q 0 = x → q = p := by
  unfold pIdx
  cases h : L.findIdx? (fun y => decide (y = x)) with
  | none =>
    refine .inl ⟨rfl, fun hm => ?_⟩
    rw [List.findIdx?_eq_none_iff] at h
    have := h x hm
    simp at this
  | some p =>
    rw [List.findIdx?_eq_some_iff_getElem] at h
    obtain ⟨h1, h2, h3⟩ := h
    have e : L[p] = x := of_decide_eq_true h2
    refine .inr ⟨p, h1, rfl, by rw [getD_e h1]; exact e, fun q hq hx => ?_⟩
    rw [getD_e hq] at hx
    have := (List.nodup_iff_pairwise_ne.mp hn)
    by_cases c : q < p
    · exact absurd (hx.trans e.symm) ((List.pairwise_iff_getElem.mp this) q p hq h1 c)
    · by_cases c2 : p < q
      · exact absurd (e.trans hx.symm) ((List.pairwise_iff_getElem.mp this) p q h1 hq c2)
      · omega
