/-! THE CLASS: the WAYS of a level, by the LITERAL that leads -/
theorem l_least {P : Nat → Prop} : ∀ (n : Nat), P n → ∃ k, k ≤ n ∧ P k ∧ ∀ j, j < k → ¬ P j := by
  intro n
  induction n using Nat.strongRecOn with
  | ind n ih =>
    intro h
    by_cases c : ∃ j, j < n ∧ P j
    · obtain ⟨j, h1, h2⟩ := c
      obtain ⟨k, a1, a2, a3⟩ := ih j h1 h2
      exact ⟨k, by omega, a2, a3⟩
    · exact ⟨n, Nat.le_refl n, h, fun j hj hp => c ⟨j, hj, hp⟩⟩
theorem lt_ix {Ls : List pLt} {y : pLt} (h : y ∈ Ls) : ∃ l, l < Ls.length ∧ Ls.getD l dLt = y := by
  obtain ⟨j, hj, rfl⟩ := List.getElem_of_mem h
  exact ⟨j, hj, getD_e hj⟩
theorem lt_in {Ls : List pLt} {l : Nat} (h : l < Ls.length) : Ls.getD l dLt ∈ Ls := by rw [getD_e h]; exact List.getElem_mem h
/-- which LITERALS lead at level n + 1 -/
def ldM (ow n : Nat) : Nat := if ow = 0 then (if n = 0 then 1 else 0) else (if n = 0 then 0 else ow)
section
variable {s : pPg} {u : pRu} {rg np nv n mb ld ow : Nat} {Ls : List pLt} {R R0 : Nat → List pRw} {lo hi : Nat → Int}
theorem lit_W (hw : ∀ y ∈ Ls, wLt np nv y) {v : Nat → Int} (h : ∀ l, l < Ls.length → litO Ls R lo hi l v) (hn : ∀ l, l < Ls.length → (Ls.getD l dLt).1 = 2 → ∀ r ∈ R (Ls.getD l dLt).2.1.toNat, lo l ≤ r.2 ∧ r.2 ≤ hi l) : isW Ls nv R qO1 (vec nv v) := by
  have ev : ∀ k, k < nv → v k = vF (vec nv v) k := fun k hk => (vec_vF hk).symm
  refine ⟨vec_len, fun y hy h1 => ?_, sNC_xt hw ev (fun y hy => ?_)⟩
  · obtain ⟨l, hl, rfl⟩ := lt_ix hy
    obtain ⟨r, a1, a2, a3⟩ := (h l hl).1 h1
    rcases hw _ hy with ⟨_, _, _, _, _, b⟩ | ⟨b, _⟩
    · exact ⟨r, a1, trivial, sTs_xt b ev a3⟩
    · omega
  · obtain ⟨l, hl, rfl⟩ := lt_ix hy
    exact ⟨fun h2 ⟨r, r1, r2⟩ => (h l hl).2.1 h2 ⟨r, r1, hn l hl h2 r r1, r2⟩, (h l hl).2.2⟩
/-- RANKS within a RING -/
theorem wkC_rk (h0 : ∀ p, p < s.1.length → qK s p = rg → R0 p = []) : ∀ (n : Nat) (R : Nat → List pRw), wkC s rg R0 n R → ∀ p, p < s.1.length → qK s p = rg → ∀ r ∈ R p, 1 ≤ r.2 ∧ r.2 ≤ (n : Int)
  | 0, R, h, p, hp, hk, r, hr => by
    have h' : R p = R0 p := h p hp
    rw [h', h0 p hp hk] at hr
    cases hr
  | n + 1, R, h, p, hp, hk, r, hr => by
    obtain ⟨R1, a1, a2, a3⟩ := h
    rcases ((a3 p hp).2 r).mp hr with q | ⟨q, _⟩
    · have := wkC_rk h0 n R1 a1 p hp hk r q
      omega
    · omega
theorem ok_5 (hok : qOk s) (hu : u ∈ s.2.2.2.2.1) {y : pLt} (hy : y ∈ u.2.2.2.2.2) (h3 : y.1 ≠ 3) (h2 : y.1 = 2 ∨ qG u ≠ 0) : qK s y.2.1.toNat ≠ qK s u.1.toNat := by
  intro e
  obtain ⟨j, hj, hj'⟩ := List.getElem_of_mem hu
  refine hok.2.2 5 (((0 : Nat) : Int) + (s.2.2.2.2.1.getD j dRu).2.1) (Classical.byContradiction fun hn => ?_)
  have hna : ∀ k a, ¬ qSa s.2.1 s.2.2.2.2.1 s.2.2.2.1 0 s.1.length 0 k a := fun k a q => hok.2.2 k a (.inl q)
  apply hn
  refine .inr ⟨hna, rfl, j, Nat.zero_le _, hj, ?_, rfl⟩
  rw [getD_e hj, hj']
  unfold isF5
  rw [List.any_eq_true]
  exact ⟨y, hy, decide_eq_true ⟨h3, e, h2⟩⟩
/-- a new row that a rule without GATHERING gives is given by a WAY of which a LITERAL leads -/
theorem lv_semi (hok : qOk s) (hu : u ∈ s.2.2.2.2.1) (hg : qG u = 0) (hk : qK s u.1.toNat = rg) (hmb : ∀ j, mb.testBit j = true ↔ j < s.1.length ∧ qK s j = rg) (h0 : ∀ p, p < s.1.length → qK s p = rg → R0 p = []) (hs : ∀ p, p < s.1.length → (R0 p).Pairwise rwLt) (hC : wkC s rg R0 n R) (hr : ∀ p, p < s.1.length → ∀ r ∈ R p, 0 ≤ r.2 ∧ r.2 ≤ 1700) (how : ∀ l, ow.testBit l = true ↔ l < u.2.2.2.2.2.length ∧ ownL u.2.2.2.2.2 mb l) {xs : List Int} (hN : rNw R u.1.toNat xs) :
    (∃ v, isW u.2.2.2.2.2 u.2.2.2.2.1.length R qO1 v ∧ qMk u.2.2.2.1 (-1) (vF v) u.2.2.2.1.length = some xs) ↔ ∃ ld, (ldM ow n).testBit ld = true ∧ ∃ w, (∀ l, l < u.2.2.2.2.2.length → litO u.2.2.2.2.2 R (lvLo u.2.2.2.2.2 mb ((n + 1 : Nat) : Int) ld) (lvHi u.2.2.2.2.2 mb ((n + 1 : Nat) : Int) ld) l w) ∧ qMk u.2.2.2.1 (-1) w u.2.2.2.1.length = some xs := by
  obtain ⟨w1, w2, w3, w4, w5, w6, w7, w8, w9⟩ := hok.1.2.2.2.2.2.2 u hu
  have hwI : ∀ k, k < u.2.2.2.1.length → (k : Int) ≠ -1 → wEx u.2.2.2.2.1.length (u.2.2.2.1.getD k []) := fun k hk hn => by
    have hg' : u.2.2.1.1 = 0 := by
      by_cases c : u.2.2.1.1 = 0
      · exact c
      · have hg2 := hg
        unfold qG at hg2
        rw [if_neg c] at hg2
        rcases w5.1 with ⟨y, _⟩ | ⟨y, _⟩
        · exact y
        · have y' : 10 ≤ u.2.2.1.1 := y.1
          omega
    rcases w5.2 k hk with ⟨y, _⟩ | ⟨_, y⟩
    · rcases w5.1 with ⟨_, z, _⟩ | ⟨z, _⟩
      · have y' : (k : Int) = u.2.2.1.2.1 := y
        have z' : u.2.2.1.2.1 = -1 := z
        omega
      · have z' : 10 ≤ u.2.2.1.1 := z.1
        omega
    · exact y
  -- what an ATOM or a NOT reads
  have hpr : ∀ l, l < u.2.2.2.2.2.length → (u.2.2.2.2.2.getD l dLt).1 ≠ 3 → (u.2.2.2.2.2.getD l dLt).2.1.toNat < s.1.length := fun l hl h3 => by
    obtain ⟨z1, z2⟩ := w9 _ (lt_in hl)
    have z2' := z2 h3
    rcases z1 with ⟨_, _, z, _⟩ | ⟨z, _⟩
    · omega
    · exact absurd z h3
  have hn2 : ∀ l, l < u.2.2.2.2.2.length → (u.2.2.2.2.2.getD l dLt).1 = 2 → qK s (u.2.2.2.2.2.getD l dLt).2.1.toNat ≠ rg := fun l hl h2 => by
    rw [← hk]; exact ok_5 hok hu (lt_in hl) (by omega) (.inl h2)
  have hno : ∀ l, l < u.2.2.2.2.2.length → (u.2.2.2.2.2.getD l dLt).1 = 1 → ¬ ownL u.2.2.2.2.2 mb l → qK s (u.2.2.2.2.2.getD l dLt).2.1.toNat ≠ rg := fun l hl h1 hn e => hn ⟨h1, (hmb _).mpr ⟨hpr l hl (by omega), e⟩⟩
  have hso := wkC_out hs n R hC
  constructor
  · rintro ⟨v, ⟨v1, v2, v3⟩, v4⟩
    -- the LITERALS whose rows are all of the level before
    have main : ∀ ld, (ldM ow n).testBit ld = true → (∀ l, l < u.2.2.2.2.2.length → ownL u.2.2.2.2.2 mb l → ∃ r, r ∈ R (u.2.2.2.2.2.getD l dLt).2.1.toNat ∧ ((if l = ld then (n : Int) else 0) ≤ r.2 ∧ r.2 ≤ (if l < ld then (n : Int) - 1 else n)) ∧ sTs (vF v) (u.2.2.2.2.2.getD l dLt).2.2.2.1 r.1) → ∃ ld, (ldM ow n).testBit ld = true ∧ ∃ w, (∀ l, l < u.2.2.2.2.2.length → litO u.2.2.2.2.2 R (lvLo u.2.2.2.2.2 mb ((n + 1 : Nat) : Int) ld) (lvHi u.2.2.2.2.2 mb ((n + 1 : Nat) : Int) ld) l w) ∧ qMk u.2.2.2.1 (-1) w u.2.2.2.1.length = some xs := by
      intro ld h1 h2
      refine ⟨ld, h1, vF v, fun l hl => ?_, v4⟩
      refine ⟨fun q1 => ?_, fun q2 ⟨r, r1, _, r3⟩ => (v3 _ (lt_in hl)).1 q2 ⟨r, r1, r3⟩, (v3 _ (lt_in hl)).2⟩
      by_cases c : ownL u.2.2.2.2.2 mb l
      · obtain ⟨r, r1, r2, r3⟩ := h2 l hl c
        refine ⟨r, r1, ?_, r3⟩
        unfold lvLo lvHi
        rw [if_pos (show (u.2.2.2.2.2.getD l dLt).1 = 1 ∧ mb.testBit (u.2.2.2.2.2.getD l dLt).2.1.toNat = true from c)]
        have e1 : ((n + 1 : Nat) : Int) - 1 = n := by omega
        have e2 : ((n + 1 : Nat) : Int) - 2 = (n : Int) - 1 := by omega
        rw [e1, e2]
        refine ⟨?_, r2.2⟩
        by_cases c1 : l = ld
        · rw [if_pos ⟨c.1, c.2, c1⟩]; have := r2.1; rw [if_pos c1] at this; exact this
        · rw [if_neg (fun y => c1 y.2.2)]; have := r2.1; rw [if_neg c1] at this; exact this
      · obtain ⟨r, r1, _, r3⟩ := v2 _ (lt_in hl) q1
        refine ⟨r, r1, ?_, r3⟩
        unfold lvLo lvHi
        rw [if_neg (fun y => c ⟨y.1, y.2.1⟩), if_neg (fun y => c ⟨y.1, y.2⟩)]
        exact hr _ (hpr l hl (by omega)) r r1
    cases n with
    | zero =>
      by_cases c : ∃ l, l < u.2.2.2.2.2.length ∧ ownL u.2.2.2.2.2 mb l
      · obtain ⟨l, hl, ho⟩ := c
        obtain ⟨r, r1, _⟩ := v2 _ (lt_in hl) ho.1
        obtain ⟨k1, k2⟩ := (hmb _).mp ho.2
        have h' : R (u.2.2.2.2.2.getD l dLt).2.1.toNat = R0 (u.2.2.2.2.2.getD l dLt).2.1.toNat := hC _ k1
        rw [h', h0 _ k1 k2] at r1
        cases r1
      · have e : ow = 0 := Nat.eq_of_testBit_eq (fun j => by
          rw [Nat.zero_testBit]
          cases hb : ow.testBit j with
          | false => rfl
          | true => exact absurd ⟨j, (how j).mp hb⟩ c)
        refine main 0 (by unfold ldM; rw [if_pos e]; decide) (fun l hl ho => absurd ⟨l, hl, ho⟩ c)
    | succ k =>
      obtain ⟨R1, a1, a2, a3⟩ := hC
      have hso1 := wkC_out hs k R1 a1
      have sub : ∀ p, p < s.1.length → ∀ r ∈ R1 p, r ∈ R p := fun p hp r q => ((a3 p hp).2 r).mpr (.inl q)
      by_cases c : ∃ l, l < u.2.2.2.2.2.length ∧ ownL u.2.2.2.2.2 mb l ∧ ¬ ∃ r, r ∈ R (u.2.2.2.2.2.getD l dLt).2.1.toNat ∧ r.2 ≤ (k : Int) ∧ sTs (vF v) (u.2.2.2.2.2.getD l dLt).2.2.2.1 r.1
      · obtain ⟨l', hl'⟩ := c
        obtain ⟨ld, d1, ⟨d2, d3, d4⟩, d5⟩ := l_least (P := fun l => l < u.2.2.2.2.2.length ∧ ownL u.2.2.2.2.2 mb l ∧ ¬ ∃ r, r ∈ R (u.2.2.2.2.2.getD l dLt).2.1.toNat ∧ r.2 ≤ (k : Int) ∧ sTs (vF v) (u.2.2.2.2.2.getD l dLt).2.2.2.1 r.1) l' hl'
        have ht := (how ld).mpr ⟨d2, d3⟩
        have hne : ow ≠ 0 := fun e => by rw [e, Nat.zero_testBit] at ht; cases ht
        refine main ld (by unfold ldM; rw [if_neg hne, if_neg (by omega)]; exact ht) (fun l hl ho => ?_)
        obtain ⟨k1, k2⟩ := (hmb _).mp ho.2
        have rk := wkC_rk h0 (k + 1) R ⟨R1, a1, a2, a3⟩ _ k1 k2
        by_cases c1 : l < ld
        · rw [if_neg (by omega), if_pos c1]
          by_cases c2 : ∃ r, r ∈ R (u.2.2.2.2.2.getD l dLt).2.1.toNat ∧ r.2 ≤ (k : Int) ∧ sTs (vF v) (u.2.2.2.2.2.getD l dLt).2.2.2.1 r.1
          · obtain ⟨r, r1, r2, r3⟩ := c2
            have := rk r r1
            exact ⟨r, r1, ⟨by omega, by omega⟩, r3⟩
          · exact absurd ⟨hl, ho, c2⟩ (d5 l c1)
        · rw [if_neg c1]
          obtain ⟨r, r1, _, r3⟩ := v2 _ (lt_in hl) ho.1
          have b := rk r r1
          refine ⟨r, r1, ⟨?_, b.2⟩, r3⟩
          by_cases c2 : l = ld
          · subst c2
            rw [if_pos rfl]
            by_cases c3 : r.2 ≤ (k : Int)
            · exact absurd ⟨r, r1, c3, r3⟩ d4
            · omega
          · rw [if_neg c2]; omega
      · exfalso
        have hv : isW u.2.2.2.2.2 u.2.2.2.2.1.length R1 qO1 v := by
          refine ⟨v1, fun y hy h1 => ?_, fun y hy => ⟨fun h2 ⟨r, r1, r2⟩ => ?_, (v3 y hy).2⟩⟩
          · obtain ⟨l, hl, rfl⟩ := lt_ix hy
            by_cases co : ownL u.2.2.2.2.2 mb l
            · by_cases c2 : ∃ r, r ∈ R (u.2.2.2.2.2.getD l dLt).2.1.toNat ∧ r.2 ≤ (k : Int) ∧ sTs (vF v) (u.2.2.2.2.2.getD l dLt).2.2.2.1 r.1
              · obtain ⟨r, r1, r2, r3⟩ := c2
                refine ⟨r, ?_, trivial, r3⟩
                rcases ((a3 _ (hpr l hl (by omega))).2 r).mp r1 with q | ⟨q, _⟩
                · exact q
                · omega
              · exact absurd ⟨l, hl, co, c2⟩ c
            · have e := lv_out a3 (hpr l hl (by omega)) (hno l hl h1 co) (hso1.1 _ (hpr l hl (by omega)))
              obtain ⟨r, r1, r2, r3⟩ := v2 _ hy h1
              rw [e] at r1
              exact ⟨r, r1, r2, r3⟩
          · obtain ⟨l, hl, rfl⟩ := lt_ix hy
            exact (v3 _ hy).1 h2 ⟨r, sub _ (hpr l hl (by omega)) r r1, r2⟩
        obtain ⟨j, hj, hj'⟩ := List.getElem_of_mem hu
        have hp : u.1.toNat < s.1.length := by omega
        have hD : stD s rg ((k + 1 : Nat) : Int) R1 s.2.2.2.2.1.length u.1.toNat xs := by
          refine ⟨j, hj, hj, ?_, hk, ?_, ?_, fun w hw => hN w (sub _ hp w hw)⟩
          · rw [getD_e hj, hj']; omega
          · rw [getD_e hj, hj']; exact fun q => absurd hg q
          · rw [getD_e hj, hj']
            unfold rlD
            rw [if_pos hg]
            exact ⟨v, hv, v4⟩
        exact hN (xs, ((k + 1 : Nat) : Int)) (((a3 _ hp).2 _).mpr (.inr ⟨rfl, hD⟩)) rfl
  · rintro ⟨ld, _, w, b1, b2⟩
    refine ⟨vec u.2.2.2.2.1.length w, lit_W (fun y hy => (w9 y hy).1) b1 (fun l hl h2 r hr' => ?_), ?_⟩
    · unfold lvLo lvHi
      rw [if_neg (fun y => by omega), if_neg (fun y => by omega)]
      exact hr _ (hpr l hl (by omega)) r hr'
    · rw [← qMk_xt hwI (fun k hk => (vec_vF hk).symm) _ (Nat.le_refl _)]; exact b2
end
