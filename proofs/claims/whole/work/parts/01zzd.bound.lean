/-! FAULTS of the reference: what is BOUND -/
def qT : pCd → Nat
  | [] => 0
  | x :: q => (if x.1 = 1 then 2 ^ x.2.toNat else 0) ||| qT q
def qA : List pLt → Nat
  | [] => 0
  | l :: r => (if l.1 = 1 then qT l.2.2.2.1 else 0) ||| qA r
abbrev qSub (a b : Nat) : Prop := a ||| b = b
abbrev qAl2 (Q : pCd) : Prop := Q.length = 1 ∧ (Q.getD 0 (0, 0)).1 = 2
/-- one = more: its left side, its right side -/
def qL1 (y : pLt) (s : Nat) : Nat := if qAl2 y.2.2.2.2.1 ∧ qSub (qVm y.2.2.2.2.2) s then s ||| qVm y.2.2.2.2.1 else s
def qR1 (y : pLt) (s : Nat) : Nat := if qAl2 y.2.2.2.2.2 ∧ qSub (qVm y.2.2.2.2.1) s then s ||| qVm y.2.2.2.2.2 else s
def qS1 (y : pLt) (s : Nat) : Nat := if y.1 = 3 ∧ y.2.1 = 61 then qR1 y (qL1 y s) else s
def qSt : List pLt → Nat → Nat
  | [], s => s
  | y :: r, s => qSt r (qS1 y s)
def qIt (l : List pLt) : Nat → Nat → Nat
  | 0, s => s
  | k + 1, s => if qSt l s = s then s else qIt l k (qSt l s)
def qBd (l : List pLt) : Nat := qIt l 256 (qA l)
theorem qSub_t {a b : Nat} : qSub a b ↔ ∀ j, a.testBit j = true → b.testBit j = true := by
  constructor
  · intro h j hj
    have := congrArg (fun x => x.testBit j) h
    simp only [Nat.testBit_or, hj, Bool.true_or] at this
    exact this.symm
  · intro h
    apply Nat.eq_of_testBit_eq
    intro j
    rw [Nat.testBit_or]
    cases hb : a.testBit j with
    | false => simp
    | true => simp [h j hb]
theorem or_ge (a b : Nat) : a ≤ a ||| b := Nat.left_le_or
theorem qT_lt {nv : Nat} {T : pCd} (h : ∀ x ∈ T, wT1 nv x) (hv : nv ≤ 8) : qT T < 2 ^ 8 := by
  induction T with
  | nil => decide
  | cons x q ih =>
    have h1 := ih (fun y hy => h y (List.mem_cons_of_mem _ hy))
    have h2 : (if x.1 = 1 then 2 ^ x.2.toNat else 0) < 2 ^ 8 := by
      split
      · rename_i c
        rcases h x (List.mem_cons_self ..) with a | a | a
        · exact Nat.pow_lt_pow_right (by decide) (by omega)
        · omega
        · omega
      · decide
    exact Nat.or_lt_two_pow h2 h1
theorem qA_lt {np nv : Nat} {l : List pLt} (h : ∀ y ∈ l, wLt np nv y) (hv : nv ≤ 8) : qA l < 2 ^ 8 := by
  induction l with
  | nil => decide
  | cons y r ih =>
    have h1 := ih (fun z hz => h z (List.mem_cons_of_mem _ hz))
    have h2 : (if y.1 = 1 then qT y.2.2.2.1 else 0) < 2 ^ 8 := by
      split
      · rename_i c
        rcases h y (List.mem_cons_self ..) with a | a
        · exact qT_lt a.2.2.2.2.2 hv
        · omega
      · decide
    exact Nat.or_lt_two_pow h2 h1
theorem qS1_lt {np nv s : Nat} {y : pLt} (h : wLt np nv y) (hv : nv ≤ 8) (hs : s < 2 ^ 8) : qS1 y s < 2 ^ 8 ∧ s ≤ qS1 y s := by
  unfold qS1
  split
  · rename_i c
    rcases h with a | a
    · have := a.1; omega
    · have l1 := qVm_lt a.2.2.1.1 hv
      have l2 := qVm_lt a.2.2.2.1 hv
      have g1 : qL1 y s < 2 ^ 8 ∧ s ≤ qL1 y s := by
        unfold qL1
        split
        · exact ⟨Nat.or_lt_two_pow hs l1, or_ge _ _⟩
        · exact ⟨hs, Nat.le_refl _⟩
      unfold qR1
      split
      · exact ⟨Nat.or_lt_two_pow g1.1 l2, Nat.le_trans g1.2 (or_ge _ _)⟩
      · exact g1
  · exact ⟨hs, Nat.le_refl _⟩
theorem qSt_lt {np nv : Nat} {l : List pLt} (h : ∀ y ∈ l, wLt np nv y) (hv : nv ≤ 8) : ∀ s, s < 2 ^ 8 → qSt l s < 2 ^ 8 ∧ s ≤ qSt l s := by
  induction l with
  | nil => intro s hs; exact ⟨hs, Nat.le_refl _⟩
  | cons y r ih =>
    intro s hs
    have h1 := qS1_lt (h y (List.mem_cons_self ..)) hv hs
    have h2 := ih (fun z hz => h z (List.mem_cons_of_mem _ hz)) _ h1.1
    exact ⟨h2.1, Nat.le_trans h1.2 h2.2⟩
section
variable {f o r c nv np : Nat} {G : xG_} {l : List pLt}
/-- VARIABLES of an ATOM's TERMS -/
theorem l_t25 {r4 : Nat → Int → Int → Int → xG_ → Option (Int × xG_)} {y : pLt} {i x : Nat} (hx : x < 200) (hi : i < 8) (hy : rLt G o x c y) (hw : wLt np nv y) (hv : nv ≤ 8) : ∀ (k j fu a : Nat), j + k = y.2.2.2.1.length → k < fu → a < 2 ^ 8 → g257_25 r4 f fu o (r : Int) ((a : Nat) : Int) (i : Int) (x : Int) (j : Int) G = r4 o (r : Int) ((a ||| (if y.1 = 1 then qT (y.2.2.2.1.drop j) else 0) : Nat) : Int) ((i + 1 : Nat) : Int) G := by
  obtain ⟨h1, h2, h3, h4⟩ := hy
  intro k
  have hx1 : xwr ((i : Int) + 1) = ((i + 1 : Nat) : Int) := by rw [xwr_g _ (by omega) (by omega)]; omega
  induction k with
  | zero =>
    intro j fu a hk hfu ha
    obtain ⟨fu, rfl⟩ : ∃ t, fu = t + 1 := ⟨fu - 1, by omega⟩
    show g257_25b r4 (g257_25 r4 f fu) f _ _ _ _ _ _ _ = _
    unfold g257_25b g257_88
    rw [if_pos (by omega), Int.toNat_natCast, h1, hx1]
    by_cases c1 : y.1 = 1
    · obtain ⟨_, p2, _⟩ := h3 (by omega)
      rw [if_neg (fun h => h c1), if_pos (by omega), p2, if_pos (by omega), if_pos c1, List.drop_eq_nil_of_le (by omega)]
      rw [show qT [] = 0 from rfl, Nat.or_zero]
    · rw [if_pos c1, if_neg c1, Nat.or_zero]
  | succ k ih =>
    intro j fu a hk hfu ha
    obtain ⟨fu, rfl⟩ : ∃ t, fu = t + 1 := ⟨fu - 1, by omega⟩
    have hj : j < y.2.2.2.1.length := by omega
    have hx2 : xwr (xwr ((x : Int) * 4) + (j : Int)) = ((4 * x + j : Nat) : Int) := by rw [xwr_g ((x : Int) * 4) (by omega) (by omega), xwr_g _ (by omega) (by omega)]; omega
    have hx3 : xwr ((j : Int) + 1) = ((j + 1 : Nat) : Int) := by rw [xwr_g _ (by omega) (by omega)]; omega
    show g257_25b r4 (g257_25 r4 f fu) f _ _ _ _ _ _ _ = _
    unfold g257_25b g257_88 g257_82
    rw [if_pos (by omega), Int.toNat_natCast, h1, hx1]
    by_cases c1 : y.1 = 1
    · obtain ⟨_, p2, p3⟩ := h3 (by omega)
      obtain ⟨q1, q2⟩ := p3 j hj
      have hd : y.2.2.2.1.drop j = y.2.2.2.1.getD j (0, 0) :: y.2.2.2.1.drop (j + 1) := by rw [getD_e hj]; exact List.drop_eq_getElem_cons hj
      have hm : y.2.2.2.1.getD j (0, 0) ∈ y.2.2.2.1 := by rw [getD_e hj]; exact List.getElem_mem hj
      have hwt : wT1 nv (y.2.2.2.1.getD j (0, 0)) := by
        rcases hw with q | q
        · exact q.2.2.2.2.2 _ hm
        · omega
      rw [if_neg (fun h => h c1), if_pos (by omega), p2, if_neg (by omega), hx2, if_pos (by omega), Int.toNat_natCast, q1, hx3, if_pos c1, hd]
      show _ = r4 o (r : Int) ((a ||| ((if (y.2.2.2.1.getD j (0, 0)).1 = 1 then 2 ^ (y.2.2.2.1.getD j (0, 0)).2.toNat else 0) ||| qT (y.2.2.2.1.drop (j + 1))) : Nat) : Int) _ G
      by_cases c2 : (y.2.2.2.1.getD j (0, 0)).1 = 1
      · have hb : 0 ≤ (y.2.2.2.1.getD j (0, 0)).2 ∧ (y.2.2.2.1.getD j (0, 0)).2 < nv := by
          rcases hwt with q | q | q
          · exact q.2
          · omega
          · omega
        rw [if_neg (fun h => h c2), if_pos (by omega), q2 (by omega), xwr_g _ (by omega) (by omega), if_pos c2]
        have e2 : (y.2.2.2.1.getD j (0, 0)).2 = (((y.2.2.2.1.getD j (0, 0)).2.toNat : Nat) : Int) := by omega
        rw [show xshl 1 (y.2.2.2.1.getD j (0, 0)).2 = xshl 1 (((y.2.2.2.1.getD j (0, 0)).2.toNat : Nat) : Int) by rw [← e2], xorb (by omega) (by omega)]
        have := ih (j + 1) fu (a ||| 2 ^ (y.2.2.2.1.getD j (0, 0)).2.toNat) (by omega) (by omega) (or_lt ha (by omega))
        rw [this, if_pos c1, Nat.or_assoc]
      · rw [if_pos c2, if_neg c2, Nat.zero_or]
        have := ih (j + 1) fu a (by omega) (by omega) ha
        rw [this, if_pos c1]
    · rw [if_pos c1, if_neg c1, Nat.or_zero]
end
