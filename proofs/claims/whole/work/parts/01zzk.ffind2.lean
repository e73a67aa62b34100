/-! FAULTS of the reference: findFaults, all -/
section
variable {f o q c np : Nat} {R : List pRu} {M : List pMn} {ins : List (Int × Int × Int)}
def qSa (ins : List (Int × Int × Int)) (R : List pRu) (M : List pMn) (q np i : Nat) (k a : Int) : Prop := (q12 ins R M q i k a ∨ q3 M q np k a) ∨ q4 R q 0 k a
theorem l_7 (hf : 6300 < f) (ho : 1 < o) (hnp : np ≤ 16) (hc : c ≤ 6200) (hw : ∀ u ∈ R, wRu np u) (hm : ∀ m ∈ M, wMn np m) (hso : ∀ i j, i < j → j < M.length → mP M i < mP M j) : ∀ (k i fu : Nat) (G : xG_) (S : Int → Int → Prop), i + k = M.length → k < fu → G o 8 = (np : Int) → rMM G o q M → rFg G o ins R → rRR G o q c R → (∀ y, y < np → G (o + 2) y = 0) → rF G S →
    ∃ G', g252_7 f fu o (i : Int) G = some G' ∧ xfF o G G' ∧ rMk G' (o + 2) 0 (fun _ => 0) ∧ (∀ y : Nat, y < np → G' (o + 2) y = pNn M y) ∧ (∀ y, np ≤ y → G' (o + 2) y = G (o + 2) y) ∧ rF G' (qS5 (fun k a => S k a ∨ qSa ins R M q np i k a) R q np) ∧ ((∀ k a, ¬ (S k a ∨ qSa ins R M q np i k a)) → rMk G' (o + 4) np (qRd R) ∧ rMk G' (o + 5) np (qRs np R)) := by
  intro k
  induction k with
  | zero =>
    intro i fu G S h1 h2 h8 hM hFg hR hz hF
    obtain ⟨fu, rfl⟩ : ∃ t, fu = t + 1 := ⟨fu - 1, by omega⟩
    have hM3 := hM.1
    obtain ⟨G1, d1, d2, d3, d4, d5⟩ := l_parts (f := f) (o := o) (q := q) (M := M) (np := np) (by omega) (by omega) hnp hso np 0 f G S (by omega) (by omega) h8 hM (fun y _ hy => hz y hy) hF
    have h24 := hR.2.1
    obtain ⟨G', e1, e2, e3, e4⟩ := l_141 (f := f) hf ho hnp hc hw R.length 0 f G1 _ (by omega) (by omega) (by rw [d2 _ _ (by omega) (by omega)]; exact h8) (hR.ge (d2 _ _ (by omega) (by omega)) (fun a j _ _ => d2 _ _ (by omega) (by omega))) d5
    have es : (fun k a => (S k a ∨ k = 3 ∧ ∃ z y, 0 ≤ z ∧ z < np ∧ isF3 M z y ∧ a = (q : Int) + mP M y) ∨ q4 R q 0 k a) = (fun k a => S k a ∨ qSa ins R M q np i k a) := by
      funext k a
      apply propext
      constructor
      · rintro ((h | h) | h)
        · exact Or.inl h
        · exact Or.inr (Or.inl (Or.inr h))
        · exact Or.inr (Or.inr h)
      · rintro (h | (⟨y, a1, a2, _⟩ | h) | h)
        · exact Or.inl (Or.inl h)
        · omega
        · exact Or.inl (Or.inr h)
        · exact Or.inr h
    have e4' : (∀ k a, ¬ (fun k a => (S k a ∨ k = 3 ∧ ∃ z y, 0 ≤ z ∧ z < np ∧ isF3 M z y ∧ a = (q : Int) + mP M y) ∨ q4 R q 0 k a) k a) → rMk G' (o + 4) np (qRd R) ∧ rMk G' (o + 5) np (qRs np R) := e4
    rw [es] at e3 e4'
    refine ⟨G', ?_, fun a j x1 x2 x3 x4 x5 => by rw [e2 a j x1 x2 x4 x5, d2 a j x1 x3], fun p hp => absurd hp (Nat.not_lt_zero _), fun y hy => by rw [e2 _ _ (by omega) (by omega) (by omega) (by omega)]; exact d4 y (Nat.zero_le _) hy, fun y hy => by rw [e2 _ _ (by omega) (by omega) (by omega) (by omega)]; exact d3 y (Or.inr hy), e3, e4'⟩
    show g252_7b (g252_7 f fu) f _ _ _ = _
    unfold g252_7b
    rw [hM.2.1, if_pos (by omega)]
    show Option.bind (g254_2 f f o ((0 : Nat) : Int) G) _ = _
    rw [d1, Option.bind_some]
    exact e1
  | succ k ih =>
    intro i fu G S h1 h2 h8 hM hFg hR hz hF
    obtain ⟨fu, rfl⟩ : ∃ t, fu = t + 1 := ⟨fu - 1, by omega⟩
    have hM3 := hM.1
    have hi : i < M.length := by omega
    have hmm : M.getD i (0, 0, 0, 0) ∈ M := by rw [getD_e hi]; exact List.getElem_mem hi
    have hu := hm _ hmm
    obtain ⟨G1, d1, d2, d3⟩ := l_f17 (f := f) (q := q) (ins := ins) (R := R) (r := g252_7 f fu) (i := i) (by omega) hi ⟨hu.1, by have := hu.2.1; show (M.getD i (0, 0, 0, 0)).1 < 16; omega⟩ i 0 f G S (by omega) (by omega) hM hFg hF
    obtain ⟨G', e1, e2, e3, e4, e5, e6, e7⟩ := ih (i + 1) fu G1 _ (by omega) (by omega) (by rw [d3 _ _ (by omega)]; exact h8) (hM.fr (by omega) d3) (fun p hp => by rw [d3 _ _ (by omega), d3 _ _ (by omega)]; exact hFg p hp) (hR.ge (d3 _ _ (by omega)) (fun a j _ _ => d3 _ _ (by omega))) (fun y hy => by rw [d3 _ _ (by omega)]; exact hz y hy) d2
    have es : (fun k a => (S k a ∨ k = 1 ∧ a = (q : Int) + mP M i ∧ isF1 M i 0 ∨ k = 2 ∧ a = (q : Int) + mP M i ∧ isF2 ins R M i) ∨ qSa ins R M q np (i + 1) k a) = (fun k a => S k a ∨ qSa ins R M q np i k a) := by
      funext k a
      apply propext
      constructor
      · rintro ((h | h) | (⟨y, a1, a2, a3⟩ | h) | h)
        · exact Or.inl h
        · exact Or.inr (Or.inl (Or.inl ⟨i, Nat.le_refl _, hi, h⟩))
        · exact Or.inr (Or.inl (Or.inl ⟨y, by omega, a2, a3⟩))
        · exact Or.inr (Or.inl (Or.inr h))
        · exact Or.inr (Or.inr h)
      · rintro (h | (⟨y, a1, a2, a3⟩ | h) | h)
        · exact Or.inl (Or.inl h)
        · by_cases cy : y = i
          · rw [cy] at a3
            exact Or.inl (Or.inr a3)
          · exact Or.inr (Or.inl (Or.inl ⟨y, by omega, a2, a3⟩))
        · exact Or.inr (Or.inl (Or.inr h))
        · exact Or.inr (Or.inr h)
    have e7' : (∀ k a, ¬ (fun k a => (S k a ∨ k = 1 ∧ a = (q : Int) + mP M i ∧ isF1 M i 0 ∨ k = 2 ∧ a = (q : Int) + mP M i ∧ isF2 ins R M i) ∨ qSa ins R M q np (i + 1) k a) k a) → rMk G' (o + 4) np (qRd R) ∧ rMk G' (o + 5) np (qRs np R) := e7
    rw [es] at e6 e7'
    refine ⟨G', ?_, fun a j x1 x2 x3 x4 x5 => by rw [e2 a j x1 x2 x3 x4 x5, d3 a j x1], e3, e4, fun y hy => by rw [e5 y hy, d3 _ _ (by omega)], e6, e7'⟩
    show g252_7b (g252_7 f fu) f _ _ _ = _
    unfold g252_7b
    rw [hM.2.1, if_neg (by omega)]
    exact Eq.trans d1 e1
/-- findFaults: the FAULTS of a program that was read -/
theorem l_ff {G : xG_} (hf : 6300 < f) (ho : 1 < o) (hnp : np ≤ 16) (hc : c ≤ 6200) (hw : ∀ u ∈ R, wRu np u) (hm : ∀ m ∈ M, wMn np m) (hso : ∀ i j, i < j → j < M.length → mP M i < mP M j) (h8 : G o 8 = (np : Int)) (hM : rMM G o q M) (hFg : rFg G o ins R) (hR : rRR G o q c R) (hz : ∀ y, y < np → G (o + 2) y = 0) :
    ∃ G', g252 f o G = some G' ∧ xfF o G G' ∧ (∀ y : Nat, y < np → G' (o + 2) y = pNn M y) ∧ (∀ y, np ≤ y → G' (o + 2) y = G (o + 2) y) ∧ rF G' (qS5 (qSa ins R M q np 0) R q np) ∧ ((∀ k a, ¬ qSa ins R M q np 0 k a) → rMk G' (o + 4) np (qRd R) ∧ rMk G' (o + 5) np (qRs np R)) := by
  have hM3 := hM.1
  have fr : ∀ a j, ¬ (a = 0 ∧ j = 26) → xup2 G 0 26 0 a j = G a j := fun a j h => xup2_n (by omega)
  obtain ⟨G', e1, e2, e3, e4, e5, e6, e7⟩ := l_7 (f := f) (ins := ins) hf ho hnp hc hw hm hso M.length 0 f (xup2 G 0 26 0) (fun _ _ => False) (by omega) (by omega) (by rw [fr _ _ (by omega)]; exact h8) (hM.fr (by omega) (fun a j _ => fr a j (by omega))) (fun p hp => by rw [fr _ _ (by omega), fr _ _ (by omega)]; exact hFg p hp) (hR.ge (fr _ _ (by omega)) (fun a j _ _ => fr _ _ (by omega))) (fun y hy => by rw [fr _ _ (by omega)]; exact hz y hy) (Or.inl ⟨xup2_s _ _ _ _, fun _ _ h => h⟩)
  have es : (fun k a => (fun _ _ => False) k a ∨ qSa ins R M q np 0 k a) = qSa ins R M q np 0 := by
    funext k a
    apply propext
    exact ⟨fun h => h.elim False.elim id, Or.inr⟩
  rw [es] at e6
  refine ⟨G', ?_, fun a j x1 x2 x3 x4 x5 => by rw [e2 a j x1 x2 x3 x4 x5, fr _ _ (by omega)], e4, fun y hy => by rw [e5 y hy, fr _ _ (by omega)], e6, fun h => e7 (fun k a q => h k a (q.elim False.elim id))⟩
  unfold g252
  rw [Option.bind_some]
  exact e1
end
