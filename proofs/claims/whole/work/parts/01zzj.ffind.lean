/-! FAULTS of the reference: findFaults -/
theorem rRu.ge {G G' : xG_} {o q r c : Nat} {u : pRu} (h : rRu G o q r c u) (hf : ∀ a j, 13 ≤ a → a ≤ 34 → G' (o + a) j = G (o + a) j) : rRu G' o q r c u := by
  unfold rRu rGa rIc rVs rLs rLt rTs rCo at *
  simp (disch := decide) only [hf]
  exact h
theorem wRq_of {np : Nat} {R : List pRu} (h : ∀ u ∈ R, wRu np u) : wRq np R := by
  intro u hu
  obtain ⟨a1, a2, a3, a4, a5, a6, a7, a8, a9⟩ := h u hu
  refine ⟨a1, a2, fun y hy c => ?_⟩
  obtain ⟨b1, b2⟩ := a9 y hy
  rcases b1 with b | b
  · exact ⟨b2 c, b.2.2.1⟩
  · exact absurd b.1 c
def rRR (G : xG_) (o q c : Nat) (R : List pRu) : Prop := G o 9 = (R.length : Int) ∧ R.length ≤ 24 ∧ ∀ r, r < R.length → rRu G o q r c (R.getD r dRu)
theorem rRR.b {G : xG_} {o q c : Nat} {R : List pRu} (h : rRR G o q c R) : rRb G o R ∧ rRc G o q R := by
  obtain ⟨a1, a2, a3⟩ := h
  constructor
  · refine ⟨a1, a2, fun r hr => ?_⟩
    obtain ⟨b1, b2, b3, b4, b5, b6, b7, b8⟩ := a3 r hr
    exact ⟨b1, b8.1, b8.2.1, fun k hk => ⟨(b8.2.2 k hk).1, fun c => ((b8.2.2 k hk).2.2.1 c).1⟩⟩
  · intro r hr
    obtain ⟨b1, b2, b3, b4, b5, b6, b7, b8⟩ := a3 r hr
    exact ⟨b3.1, b2⟩
theorem rRR.ge {G G' : xG_} {o q c : Nat} {R : List pRu} (h : rRR G o q c R) (h9 : G' o 9 = G o 9) (hf : ∀ a j, 13 ≤ a → a ≤ 34 → G' (o + a) j = G (o + a) j) : rRR G' o q c R := ⟨by rw [h9]; exact h.1, h.2.1, fun r hr => (h.2.2 r hr).ge hf⟩
/-- the FAULTS of each kind: (kind, place) -/
def q12 (ins : List (Int × Int × Int)) (R : List pRu) (M : List pMn) (q i : Nat) (k a : Int) : Prop := ∃ y, i ≤ y ∧ y < M.length ∧ (k = 1 ∧ a = (q : Int) + mP M y ∧ isF1 M y 0 ∨ k = 2 ∧ a = (q : Int) + mP M y ∧ isF2 ins R M y)
def q3 (M : List pMn) (q np : Nat) (k a : Int) : Prop := k = 3 ∧ ∃ z y, 0 ≤ z ∧ z < np ∧ isF3 M z y ∧ a = (q : Int) + mP M y
def q4 (R : List pRu) (q x : Nat) (k a : Int) : Prop := k = 4 ∧ ∃ y, x ≤ y ∧ y < R.length ∧ ∃ v, isF4 (R.getD y dRu).2.2.2.2.1 (R.getD y dRu).2.2.2.2.2 v ∧ a = (q : Int) + ((R.getD y dRu).2.2.2.2.1.getD v (0, 0)).2
def qRs (np : Nat) (R : List pRu) : Nat → Nat := qRing (qWm np (qRd R) np)
def q5 (R : List pRu) (q np : Nat) (k a : Int) : Prop := k = 5 ∧ ∃ y, 0 ≤ y ∧ y < R.length ∧ isF5 (qRs np R) (R.getD y dRu) ∧ a = (q : Int) + (R.getD y dRu).2.1
def qS5 (S : Int → Int → Prop) (R : List pRu) (q np : Nat) (k a : Int) : Prop := S k a ∨ (∀ k a, ¬ S k a) ∧ q5 R q np k a
def xfF (o : Nat) (G G' : xG_) : Prop := ∀ a j, ¬ (a = 0 ∧ (j = 26 ∨ j = 27)) → a ≠ 1 → a ≠ o + 2 → a ≠ o + 4 → a ≠ o + 5 → G' a j = G a j
section
variable {f o q c np : Nat} {R : List pRu} {M : List pMn} {ins : List (Int × Int × Int)}
theorem l_141 (hf : 6300 < f) (ho : 1 < o) (hnp : np ≤ 16) (hc : c ≤ 6200) (hw : ∀ u ∈ R, wRu np u) : ∀ (k x fu : Nat) (G : xG_) (S : Int → Int → Prop), x + k = R.length → k < fu → G o 8 = (np : Int) → rRR G o q c R → rF G S →
    ∃ G', g252_141 f fu o (x : Int) G = some G' ∧ (∀ a j, ¬ (a = 0 ∧ (j = 26 ∨ j = 27)) → a ≠ 1 → a ≠ o + 4 → a ≠ o + 5 → G' a j = G a j) ∧ rF G' (qS5 (fun k a => S k a ∨ q4 R q x k a) R q np) ∧ ((∀ k a, ¬ (S k a ∨ q4 R q x k a)) → rMk G' (o + 4) np (qRd R) ∧ rMk G' (o + 5) np (qRs np R)) := by
  intro k
  induction k with
  | zero =>
    intro x fu G S h1 h2 h8 hR hF
    obtain ⟨fu, rfl⟩ : ∃ t, fu = t + 1 := ⟨fu - 1, by omega⟩
    have h24 := hR.2.1
    have e0 : (fun k a => S k a ∨ q4 R q x k a) = S := by
      funext k a
      apply propext
      constructor
      · rintro (h | ⟨_, y, a1, a2, _⟩)
        · exact h
        · omega
      · exact Or.inl
    have e0' : ∀ k a, (S k a ∨ q4 R q x k a) ↔ S k a := fun k a => by
      have := congrFun (congrFun e0 k) a
      exact iff_of_eq this
    rw [e0]
    show ∃ G', g252_141b (g252_141 f fu) f o (x : Int) G = _ ∧ _
    unfold g252_141b
    rw [hR.1, if_pos (by omega)]
    by_cases c0 : G 0 26 = 0
    · rw [if_pos c0]
      have hn : ∀ k a, ¬ S k a := by
        rcases hF with a | a
        · exact a.2
        · exact absurd c0 a.1
      obtain ⟨G1, d1, d2, d3, d4⟩ := l_rings (f := f) (by omega) ho hnp (wRq_of hw) np 0 f G (by omega) (by omega) h8 (fun p hp => absurd hp (Nat.not_lt_zero _)) hR.b.1
      have hF1 : rF G1 S := by
        unfold rF
        rw [d4 0 26 (by omega) (by omega) (by omega), d4 0 27 (by omega) (by omega) (by omega)]
        exact hF
      have hR1 : rRR G1 o q c R := hR.ge (d4 _ _ (by omega) (by omega) (by omega)) (fun a j _ _ => d4 _ _ (by omega) (by omega) (by omega))
      obtain ⟨G', e1, e2, e3⟩ := l_176 (f := f) (q := q) (K := qRs np R) (by omega) ho hnp (wRq_of hw) R.length 0 f G1 S (by omega) (by omega) d3 hR1.b.1 hR1.b.2 hF1
      refine ⟨G', ?_, fun a j x1 x2 x3 x4 => by rw [e2 a j x1, d4 a j x2 x3 x4], e3.iff (fun k a => ⟨?_, ?_⟩), fun _ => ⟨rMk.f26 d2 (by omega) e2, rMk.f26 d3 (by omega) e2⟩⟩
      · show Option.bind (g259_2 f f o ((0 : Nat) : Int) G) _ = _
        rw [d1, Option.bind_some]
        exact e1
      · rintro (h | h)
        · exact Or.inl h
        · exact Or.inr ⟨hn, h⟩
      · rintro (h | h)
        · exact Or.inl h
        · exact Or.inr h.2
    · rw [if_neg c0]
      have hs : S (G 0 26) (G 0 27) := by
        rcases hF with a | a
        · exact absurd a.1 c0
        · exact a.2.1
      refine ⟨G, rfl, fun _ _ _ _ _ _ => rfl, hF.iff (fun k a => ⟨Or.inl, ?_⟩), fun h => absurd hs (fun hs => h _ _ (Or.inl hs))⟩
      rintro (h | h)
      · exact h
      · exact absurd hs (h.1 _ _)
  | succ k ih =>
    intro x fu G S h1 h2 h8 hR hF
    obtain ⟨fu, rfl⟩ : ∃ t, fu = t + 1 := ⟨fu - 1, by omega⟩
    have h24 := hR.2.1
    have hx : x < R.length := by omega
    have hx3 : xwr ((x : Int) + 1) = ((x + 1 : Nat) : Int) := by rw [xwr_g _ (by omega) (by omega)]; omega
    have hm : R.getD x dRu ∈ R := by rw [getD_e hx]; exact List.getElem_mem hx
    have hu := hw _ hm
    obtain ⟨b1, b2, b3, b4, b5, b6, b7, b8⟩ := hR.2.2 x hx
    obtain ⟨G1, d1, d2, d3⟩ := l_unsafe (f := f) (np := np) hf (by omega) (by omega) hc b8 b7 (fun y hy => (hu.2.2.2.2.2.2.2.2 y hy).1) hF
    obtain ⟨G', e1, e2, e3, e4⟩ := ih (x + 1) fu G1 _ (by omega) (by omega) (by rw [d2 _ _ (by omega)]; exact h8) (hR.ge (d2 _ _ (by omega)) (fun a j _ _ => d2 _ _ (by omega))) d3
    have es : (fun k a => (S k a ∨ k = 4 ∧ ∃ v, isF4 (R.getD x dRu).2.2.2.2.1 (R.getD x dRu).2.2.2.2.2 v ∧ a = (q : Int) + ((R.getD x dRu).2.2.2.2.1.getD v (0, 0)).2) ∨ q4 R q (x + 1) k a) = (fun k a => S k a ∨ q4 R q x k a) := by
      funext k a
      apply propext
      constructor
      · rintro ((h | ⟨h, v, h', h''⟩) | ⟨h, y, a1, a2, a3⟩)
        · exact Or.inl h
        · exact Or.inr ⟨h, x, Nat.le_refl _, hx, v, h', h''⟩
        · exact Or.inr ⟨h, y, by omega, a2, a3⟩
      · rintro (h | ⟨h, y, a1, a2, a3⟩)
        · exact Or.inl (Or.inl h)
        · by_cases cy : y = x
          · rw [cy] at a3
            exact Or.inl (Or.inr ⟨h, a3⟩)
          · exact Or.inr ⟨h, y, by omega, a2, a3⟩
    have e4' : (∀ k a, ¬ (fun k a => (S k a ∨ k = 4 ∧ ∃ v, isF4 (R.getD x dRu).2.2.2.2.1 (R.getD x dRu).2.2.2.2.2 v ∧ a = (q : Int) + ((R.getD x dRu).2.2.2.2.1.getD v (0, 0)).2) ∨ q4 R q (x + 1) k a) k a) → rMk G' (o + 4) np (qRd R) ∧ rMk G' (o + 5) np (qRs np R) := e4
    rw [es] at e3 e4'
    refine ⟨G', ?_, fun a j x1 x2 x3 x4 => by rw [e2 a j x1 x2 x3 x4, d2 a j x1], e3, e4'⟩
    show g252_141b (g252_141 f fu) f _ _ _ = _
    unfold g252_141b
    rw [hR.1, if_neg (by omega), d1, Option.bind_some, hx3]
    exact e1
end
