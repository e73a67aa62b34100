/-! What a line keeps: rounds counted one by one, or by what the logs hold -/
/-- entries of one round -/
def lgC {α : Type} (l : List (Int × α)) (r : Nat) : Nat := (l.filter (fun a => decide (a.1 = (r : Int)))).length
theorem lgK_p1 {α : Type} {x : Int} : ∀ l : List (Int × α), (lgK (x - 1) l).length = (lgK x l).length + (l.filter (fun a => decide (a.1 = x))).length
  | [] => rfl
  | a :: l => by
    have ih := lgK_p1 (x := x) l
    unfold lgK at ih ⊢
    by_cases c1 : a.1 = x
    · rw [List.filter_cons_of_pos (by rw [decide_eq_true_iff]; omega), List.filter_cons_of_neg (by rw [decide_eq_true_iff]; omega), List.filter_cons_of_pos (by rw [decide_eq_true_iff]; exact c1), List.length_cons, List.length_cons]
      omega
    · by_cases c2 : x < a.1
      · rw [List.filter_cons_of_pos (by rw [decide_eq_true_iff]; omega), List.filter_cons_of_pos (by rw [decide_eq_true_iff]; exact c2), List.filter_cons_of_neg (by rw [decide_eq_true_iff]; exact c1), List.length_cons, List.length_cons]
        omega
      · rw [List.filter_cons_of_neg (by rw [decide_eq_true_iff]; omega), List.filter_cons_of_neg (by rw [decide_eq_true_iff]; exact c2), List.filter_cons_of_neg (by rw [decide_eq_true_iff]; exact c1)]
        exact ih
theorem lgK_sum {α : Type} {l : List (Int × α)} {g : Nat → Nat} {R old : Nat} (hR : ∀ a ∈ l, a.1 ≤ (R : Int)) (hg : ∀ r, old < r → r ≤ R → g r = lgC l r) : ∀ k, k ≤ R - old → (lgK ((R - k : Nat) : Int) l).length = sR9 g R k
  | 0, _ => by
    rw [Nat.sub_zero, lgK_nil hR]
    rfl
  | k + 1, h => by
    have ih := lgK_sum hR hg k (by omega)
    have e : ((R - (k + 1) : Nat) : Int) = ((R - k : Nat) : Int) - 1 := by omega
    rw [e, lgK_p1, ih]
    show _ = sR9 g R k + g (R - k)
    rw [hg (R - k) (by omega) (by omega)]
    rfl
/-- append() forgets as trim says -/
theorem tm_of {L : List pLg} {C : List pCg} {E : List pEg} {mv tl tk : Nat → Nat} {R old k : Nat} (ho : old ≤ R) (hL : ∀ a ∈ L, a.1 ≤ (R : Int)) (hC : ∀ a ∈ C, a.1 ≤ (R : Int)) (hE : ∀ a ∈ E, a.1 ≤ (R : Int)) (g1 : ∀ r, old < r → r ≤ R → mv r = lgC L r) (g2 : ∀ r, old < r → r ≤ R → tl r = lgC C r) (g3 : ∀ r, old < r → r ≤ R → tk r = lgC E r) (hk : k ≤ R - old) (h1 : okK9 mv tl tk R k) (h2 : ∀ k', k < k' → k' ≤ R - old → ¬ okK9 mv tl tk R k') : tmIs L C E (old : Int) ((R - k : Nat) : Int) := by
  have eq : ∀ k, k ≤ R - old → (tmOk L C E ((R - k : Nat) : Int) ↔ okK9 mv tl tk R k) := fun k hk => by
    unfold tmOk okK9
    rw [lgK_sum hL g1 k hk, lgK_sum hC g2 k hk, lgK_sum hE g3 k hk]
  refine ⟨by omega, (eq k hk).mpr h1, fun y y1 y2 hy => ?_⟩
  have e : y = ((R - (R - y.toNat) : Nat) : Int) := by omega
  rw [e] at hy
  exact h2 (R - y.toNat) (by omega) (by omega) ((eq _ (by omega)).mp hy)
