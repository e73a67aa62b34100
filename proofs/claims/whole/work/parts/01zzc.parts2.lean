/-! FAULTS of the reference: all numbers of parts; VARIABLES of EXPRESSIONS -/
def isF3 (M : List pMn) (x : Nat) (y : Nat) : Prop := y < M.length ∧ mN M y = (x : Int) ∧ mK M y ≠ -1 ∧ mK M y ≠ pNn M x
theorem pFst_some {M : List pMn} {x : Int} : ∀ (k i j : Nat), pFst M x k i = some j → i ≤ j ∧ j < i + k ∧ mN M j = x ∧ mK M j ≠ -1 ∧ ∀ y, i ≤ y → y < j → ¬ (mN M y = x ∧ mK M y ≠ -1) := by
  intro k
  induction k with
  | zero => intro i j h; cases h
  | succ k ih =>
    intro i j h
    have e : pFst M x (k + 1) i = if mN M i = x ∧ mK M i ≠ -1 then some i else pFst M x k (i + 1) := rfl
    rw [e] at h
    split at h
    · rename_i c
      cases h
      exact ⟨Nat.le_refl _, by omega, c.1, c.2, fun y h1 h2 => by omega⟩
    · rename_i c
      have := ih _ _ h
      refine ⟨by omega, by omega, this.2.2.1, this.2.2.2.1, fun y h1 h2 => ?_⟩
      by_cases e2 : y = i
      · rw [e2]; exact c
      · exact this.2.2.2.2 y (by omega) h2
theorem pFst_none {M : List pMn} {x : Int} : ∀ (k i : Nat), pFst M x k i = none → ∀ y, i ≤ y → y < i + k → ¬ (mN M y = x ∧ mK M y ≠ -1) := by
  intro k
  induction k with
  | zero => intro i h y h1 h2; omega
  | succ k ih =>
    intro i h y h1 h2
    have e : pFst M x (k + 1) i = if mN M i = x ∧ mK M i ≠ -1 then some i else pFst M x k (i + 1) := rfl
    rw [e] at h
    split at h
    · cases h
    · rename_i c
      by_cases e2 : y = i
      · rw [e2]; exact c
      · exact ih _ h y (by omega) (by omega)
section
variable {f o q np : Nat} {M : List pMn}
theorem l_parts (hf : M.length + 20 < f) (ho : 0 < o) (hnp : np ≤ 16) (hso : ∀ i j, i < j → j < M.length → mP M i < mP M j) : ∀ (k x fu : Nat) (G : xG_) (S : Int → Int → Prop), x + k = np → k < fu → G o 8 = (np : Int) → rMM G o q M → (∀ y, x ≤ y → y < np → G (o + 2) y = 0) → rF G S →
    ∃ G', g254_2 f fu o (x : Int) G = some G' ∧ xfn o G G' ∧ (∀ y, y < x ∨ np ≤ y → G' (o + 2) y = G (o + 2) y) ∧ (∀ y, x ≤ y → y < np → G' (o + 2) y = pNn M y) ∧ rF G' (fun k' a => S k' a ∨ k' = 3 ∧ ∃ z y, x ≤ z ∧ z < np ∧ isF3 M z y ∧ a = (q : Int) + mP M y) := by
  intro k
  induction k with
  | zero =>
    intro x fu G S hk hfu h8 hM h0 hS
    obtain ⟨fu, rfl⟩ : ∃ t, fu = t + 1 := ⟨fu - 1, by omega⟩
    refine ⟨G, ?_, .rf _ _, fun _ _ => rfl, fun y h1 h2 => by omega, hS.iff (fun k a => ⟨.inl, ?_⟩)⟩
    · show g254_2b (g254_2 f fu) f _ _ _ = _
      unfold g254_2b
      rw [h8, if_pos (by omega)]
    · rintro (h | ⟨_, z, y, h1, h2, _⟩)
      · exact h
      · omega
  | succ k ih =>
    intro x fu G S hk hfu h8 hM h0 hS
    have hM1 := hM.1
    obtain ⟨fu, rfl⟩ : ∃ t, fu = t + 1 := ⟨fu - 1, by omega⟩
    have es : g254_2 f (fu + 1) o (x : Int) G = g254_15 (g254_2 f fu) f f o (x : Int) (oI none) ((0 : Nat) : Int) G := by
      show g254_2b (g254_2 f fu) f _ _ _ = _
      unfold g254_2b
      rw [h8, if_neg (by omega)]
      rfl
    obtain ⟨G1, a1, a2, a3, a4⟩ := l_p15 (r := g254_2 f fu) (f := f) (q := q) (by omega) ho (show x < 16 by omega) hso M.length 0 f none G S (by omega) (by omega) (fun j h => by cases h) hM hS
    have key : G1 (o + 2) x = pNn M x ∧ rF G1 (fun k' a => S k' a ∨ k' = 3 ∧ ∃ y, isF3 M x y ∧ a = (q : Int) + mP M y) := by
      have e0 : (none : Option Nat).or (pFst M x M.length 0) = pFst M x M.length 0 := rfl
      rw [e0] at a4
      cases hp : pFst M x M.length 0 with
      | none =>
        rw [hp] at a4
        have en : pNn M x = 0 := by unfold pNn; rw [hp]
        have hno := pFst_none _ _ hp
        refine ⟨by rw [a4.1, en]; exact h0 x (Nat.le_refl _) (by omega), a4.2.iff (fun k a => ⟨.inl, ?_⟩)⟩
        rintro (h | ⟨_, y, h1, _⟩)
        · exact h
        · exact absurd ⟨h1.2.1, h1.2.2.1⟩ (hno y (Nat.zero_le _) (by have := h1.1; omega))
      | some j =>
        rw [hp] at a4
        have en : pNn M x = mK M j := by unfold pNn; rw [hp]
        refine ⟨by rw [a4.1, en], a4.2.iff (fun k a => ?_)⟩
        constructor
        · rintro (h | ⟨h, y, h1, h2, h3⟩)
          · exact .inl h
          · exact .inr ⟨h, y, ⟨h1, h3.1, h3.2.1, by rw [en]; exact h3.2.2⟩, h2⟩
        · rintro (h | ⟨h, y, h1, h2⟩)
          · exact .inl h
          · exact .inr ⟨h, y, h1.1, h2, h1.2.1, h1.2.2.1, by have := h1.2.2.2; rw [en] at this; exact this⟩
    obtain ⟨G', b1, b2, b3, b4, b5⟩ := ih (x + 1) fu G1 _ (by omega) (by omega) (by rw [a2 _ _ (by omega) (by omega)]; exact h8) (hM.fn ho a2) (fun y h1 h2 => by rw [a3 y (by omega)]; exact h0 y (by omega) h2) key.2
    refine ⟨G', by rw [es, a1]; exact b1, a2.tr b2, fun y hy => by rw [b3 y (by omega), a3 y (by omega)], fun y h1 h2 => ?_, b5.iff (fun k a => ?_)⟩
    · by_cases e : y = x
      · rw [e, b3 x (by omega)]; exact key.1
      · exact b4 y (by omega) h2
    · constructor
      · rintro ((h | ⟨h, y, h1, h2⟩) | ⟨h, z, y, h1, h2, h3⟩)
        · exact .inl h
        · exact .inr ⟨h, x, y, Nat.le_refl _, by omega, h1, h2⟩
        · exact .inr ⟨h, z, y, by omega, h2, h3⟩
      · rintro (h | ⟨h, z, y, h1, h2, h3, h4⟩)
        · exact .inl (.inl h)
        · by_cases e : z = x
          · exact .inl (.inr ⟨h, y, e ▸ h3, h4⟩)
          · exact .inr ⟨h, z, y, by omega, h2, h3, h4⟩
end
/-- VARIABLES in codes, as a mask -/
def qVm : pCd → Nat
  | [] => 0
  | x :: q => (if x.1 = 2 then 2 ^ x.2.toNat else 0) ||| qVm q
theorem qVm_ap (Q R : pCd) : qVm (Q ++ R) = qVm Q ||| qVm R := by
  induction Q with
  | nil => simp [qVm]
  | cons x q ih =>
    show (if x.1 = 2 then 2 ^ x.2.toNat else 0) ||| qVm (q ++ R) = ((if x.1 = 2 then 2 ^ x.2.toNat else 0) ||| qVm q) ||| qVm R
    rw [ih, Nat.or_assoc]
theorem qVm_lt {nv : Nat} {Q : pCd} (h : wC nv Q) (hv : nv ≤ 8) : qVm Q < 2 ^ 8 := by
  induction Q with
  | nil => decide
  | cons x q ih =>
    have h1 := ih (fun y hy => h y (List.mem_cons_of_mem _ hy))
    have h2 : (if x.1 = 2 then 2 ^ x.2.toNat else 0) < 2 ^ 8 := by
      split
      · rename_i c
        rcases h x (List.mem_cons_self ..) with a | a | a
        · omega
        · exact Nat.pow_lt_pow_right (by decide) (by omega)
        · omega
      · decide
    exact Nat.or_lt_two_pow h2 h1
/-- whether an EXPRESSION is a VARIABLE alone -/
def qAl (Q : pCd) : Prop := Q.length = 1 ∧ (Q.getD 0 (0, 0)).1 = 2
section
variable {f o nv : Nat} {Q : pCd} {G : xG_}
theorem l_vof {a : Nat} (hf : 6300 < f) (hQ : wC nv Q) (hv : nv ≤ 8) (hC : rCo G o a Q) (ha : a + Q.length ≤ 6200) : g255 f o (a : Int) ((a + Q.length : Nat) : Int) G = some ((qVm Q : Int), G) := by
  have loop : ∀ (k i fu : Nat), i + k = Q.length → k < fu → g255_5 f fu o ((a + Q.length : Nat) : Int) ((qVm (Q.take i) : Nat) : Int) ((a + i : Nat) : Int) G = some ((qVm Q : Int), G) := by
    intro k
    induction k with
    | zero =>
      intro i fu hk hfu
      obtain ⟨fu, rfl⟩ : ∃ t, fu = t + 1 := ⟨fu - 1, by omega⟩
      show g255_5b (g255_5 f fu) f _ _ _ _ _ = _
      unfold g255_5b
      rw [if_pos (by omega), show i = Q.length by omega, List.take_length]
    | succ k ih =>
      intro i fu hk hfu
      obtain ⟨fu, rfl⟩ : ∃ t, fu = t + 1 := ⟨fu - 1, by omega⟩
      have hi : i < Q.length := by omega
      obtain ⟨c1, c2⟩ := hC i hi
      have hx1 : xwr (((a + i : Nat) : Int) + 1) = ((a + (i + 1) : Nat) : Int) := by rw [xwr_g _ (by omega) (by omega)]; omega
      have hm : Q.getD i (0, 0) ∈ Q := by rw [getD_e hi]; exact List.getElem_mem hi
      have hlt : qVm (Q.take i) < 2 ^ 8 := qVm_lt (fun y hy => hQ y (List.mem_of_mem_take hy)) hv
      have ht : Q.take (i + 1) = Q.take i ++ [Q.getD i (0, 0)] := by rw [getD_e hi, List.take_succ_eq_append_getElem hi]
      have hstep : qVm (Q.take (i + 1)) = qVm (Q.take i) ||| (if (Q.getD i (0, 0)).1 = 2 then 2 ^ (Q.getD i (0, 0)).2.toNat else 0) := by
        rw [ht, qVm_ap]
        show _ ||| ((if (Q.getD i (0, 0)).1 = 2 then 2 ^ (Q.getD i (0, 0)).2.toNat else 0) ||| 0) = _
        rw [Nat.or_zero]
      show g255_5b (g255_5 f fu) f _ _ _ _ _ = _
      unfold g255_5b g255_35
      rw [if_neg (by omega), if_pos (by omega), Int.toNat_natCast, c1, c2, hx1]
      by_cases c : (Q.getD i (0, 0)).1 = 2
      · rw [if_neg (fun h => h c), if_pos (by omega)]
        have hb : 0 ≤ (Q.getD i (0, 0)).2 ∧ (Q.getD i (0, 0)).2 < nv := by
          rcases hQ _ hm with q | q | q
          · omega
          · exact q.2
          · omega
        rw [xwr_g _ (by omega) (by omega), show (Q.getD i (0, 0)).2 = (((Q.getD i (0, 0)).2.toNat : Nat) : Int) by omega, xorb (by omega) (by omega)]
        have := ih (i + 1) fu (by omega) (by omega)
        rw [hstep, if_pos c] at this
        exact this
      · rw [if_pos c]
        have := ih (i + 1) fu (by omega) (by omega)
        rw [hstep, if_neg c, Nat.or_zero] at this
        exact this
  have := loop Q.length 0 f (by omega) (by omega)
  exact this
theorem l_alone {a : Nat} (hC : rCo G o a Q) (ha : a + Q.length ≤ 6200) (hl : 1 ≤ Q.length) : g256 f o (a : Int) ((a + Q.length : Nat) : Int) G = some (if Q.length = 1 ∧ (Q.getD 0 (0, 0)).1 = 2 then 1 else 0, G) := by
  unfold g256 g256_21 g256_22
  rw [xwr_g _ (by omega) (by omega)]
  by_cases c1 : Q.length = 1
  · have this : G (o + 33) a = (Q.getD 0 (0, 0)).1 := (hC 0 (by omega)).1
    rw [if_neg (by omega), if_pos (by omega), Int.toNat_natCast, this]
    by_cases c2 : (Q.getD 0 (0, 0)).1 = 2
    · rw [if_neg (fun h => h c2), if_pos (.inr rfl)]
      rw [if_pos (⟨c1, c2⟩ : Q.length = 1 ∧ (Q.getD 0 (0, 0)).1 = 2)]
    · rw [if_pos c2, if_pos (.inl rfl)]
      rw [if_neg (fun h : Q.length = 1 ∧ (Q.getD 0 (0, 0)).1 = 2 => c2 h.2)]
  · rw [if_pos (by omega), if_pos (.inl rfl)]
    rw [if_neg (fun h : Q.length = 1 ∧ (Q.getD 0 (0, 0)).1 = 2 => c1 h.1)]
end
