/-! The rows of a program over its INPUTS: there is but one way -/
theorem qLm_in : ∀ (l : List pLt) (k : Nat), (qLm l).testBit k = true ↔ ∃ z ∈ l, z.1 ≠ 3 ∧ z.2.1.toNat = k
  | [], k => by
    have : (qLm []).testBit k = (0 : Nat).testBit k := rfl
    rw [this, Nat.zero_testBit]
    simp
  | y :: l, k => by
    have e : (qLm (y :: l)).testBit k = ((if y.1 = 3 then 0 else 2 ^ y.2.1.toNat) ||| qLm l).testBit k := rfl
    rw [e, Nat.testBit_or, Bool.or_eq_true, qLm_in l k]
    constructor
    · rintro (h | ⟨z, h1, h2⟩)
      · by_cases c : y.1 = 3
        · rw [if_pos c, Nat.zero_testBit] at h; cases h
        · rw [if_neg c, Nat.testBit_two_pow] at h
          exact ⟨y, List.mem_cons_self, c, of_decide_eq_true h⟩
      · exact ⟨z, List.mem_cons_of_mem _ h1, h2⟩
    · rintro ⟨z, h1, h2, h3⟩
      rcases List.mem_cons.mp h1 with h1 | h1
      · refine .inl ?_
        rw [← h1, if_neg h2, Nat.testBit_two_pow]
        exact decide_eq_true h3
      · exact .inr ⟨z, h1, h2, h3⟩
theorem qRd_in : ∀ (R : List pRu) (p k : Nat), (qRd R p).testBit k = true ↔ ∃ u ∈ R, (p : Int) = u.1 ∧ ∃ z ∈ u.2.2.2.2.2, z.1 ≠ 3 ∧ z.2.1.toNat = k
  | [], p, k => by
    have : (qRd [] p).testBit k = (0 : Nat).testBit k := rfl
    rw [this, Nat.zero_testBit]
    simp
  | u :: R, p, k => by
    have e : (qRd (u :: R) p).testBit k = ((if (p : Int) = u.1 then qLm u.2.2.2.2.2 else 0) ||| qRd R p).testBit k := rfl
    rw [e, Nat.testBit_or, Bool.or_eq_true, qRd_in R p k]
    constructor
    · rintro (h | ⟨z, h1, h2⟩)
      · by_cases c : (p : Int) = u.1
        · rw [if_pos c] at h
          exact ⟨u, List.mem_cons_self, c, (qLm_in _ _).mp h⟩
        · rw [if_neg c, Nat.zero_testBit] at h; cases h
      · exact ⟨z, List.mem_cons_of_mem _ h1, h2⟩
    · rintro ⟨z, h1, h2, h3⟩
      rcases List.mem_cons.mp h1 with h1 | h1
      · refine .inl ?_
        rw [← h1, if_pos h2]
        exact (qLm_in _ _).mpr h3
      · exact .inr ⟨z, h1, h2, h3⟩
/-- the closure of who reads whom -/
def qAc (s : pPg) : Nat → Nat := qWm s.1.length (qRd s.2.2.2.2.1) s.1.length
theorem qK_is (s : pPg) (p : Nat) : qK s p = qRing (qAc s) p := rfl
theorem qAc_tr (s : pPg) : ∀ x j y, x < s.1.length → j < s.1.length → (qAc s x).testBit j = true → (qAc s j).testBit y = true → (qAc s x).testBit y = true := qWm_tr.2
def qCn (s : pPg) (r : Nat) : Nat := (List.range s.1.length).countP (fun z => decide (z = r) || (qAc s r).testBit z)
section
variable {s : pPg}
theorem rdB (hw : wPg s) {p y : Nat} (h : (qRd s.2.2.2.2.1 p).testBit y = true) : y < s.1.length := by
  obtain ⟨u, u1, _, z, z1, z2, z3⟩ := (qRd_in _ _ _).mp h
  obtain ⟨_, _, _, _, _, _, _, _, w9⟩ := hw.2.2.2.2.2.2 u u1
  obtain ⟨w1, w2⟩ := w9 z z1
  have := w2 z2
  rcases w1 with q | q
  · omega
  · omega
theorem rgR_rd (hw : wPg s) {rg y : Nat} : rgR s rg y ↔ ∃ p, p < s.1.length ∧ qK s p = rg ∧ (qRd s.2.2.2.2.1 p).testBit y = true := by
  constructor
  · rintro ⟨u, u1, u2, u3⟩
    obtain ⟨w1, w2, _⟩ := hw.2.2.2.2.2.2 u u1
    exact ⟨u.1.toNat, by omega, u2, (qRd_in _ _ _).mpr ⟨u, u1, by omega, u3⟩⟩
  · rintro ⟨p, p1, p2, p3⟩
    obtain ⟨u, u1, u2, u3⟩ := (qRd_in _ _ _).mp p3
    refine ⟨u, u1, ?_, u3⟩
    rw [← u2, Int.toNat_natCast]
    exact p2
theorem rgR_lt (hw : wPg s) {rg y : Nat} (h : rgR s rg y) : y < s.1.length := by
  obtain ⟨p, _, _, p3⟩ := (rgR_rd hw).mp h
  exact rdB hw p3
/-- another ring that is read is less -/
theorem qCn_lt (hw : wPg s) {rg y : Nat} (h : rgR s rg y) (hne : qK s y ≠ rg) : qCn s (qK s y) < qCn s rg := by
  obtain ⟨p, q1, q2, q3⟩ := (rgR_rd hw).mp h
  have y2 := rdB hw q3
  have hA := qAc_tr s
  obtain ⟨a1, a2, a3⟩ := qRing_is (qAc s) p
  obtain ⟨b1, b2, b3⟩ := qRing_is (qAc s) y
  have hr : rg < s.1.length := by rw [← q2, qK_is]; omega
  have e2 : qRing (qAc s) p = rg := q2
  rw [e2] at a2
  have hy' : qK s y < s.1.length := by rw [qK_is]; omega
  have y1 : (qAc s p).testBit y = true := qWm_tr.1 p q1 y q3
  have ry : (qAc s rg).testBit y = true := by
    rcases a2 with e | e
    · rw [← e]; exact y1
    · exact hA rg p y hr q1 e.2 y1
  have rr' : (qAc s rg).testBit (qK s y) = true := by
    rcases b2 with e | e
    · rw [qK_is, ← e]; exact ry
    · exact hA rg y _ hr y2 ry e.1
  have hrr : qRing (qAc s) rg = rg := by rw [← e2]; exact qRing_id hA q1
  have nr : ¬ (qAc s (qK s y)).testBit rg = true := fun e => by
    have := qRing_eq hA hr hy' (.inr ⟨rr', e⟩)
    rw [hrr, qK_is, qRing_id hA y2] at this
    exact hne this.symm
  refine countP_lt (List.range s.1.length) (fun z hz hp => ?_) ⟨rg, List.mem_range.mpr hr, by simp, ?_⟩
  · simp only [Bool.or_eq_true, decide_eq_true_eq] at hp ⊢
    rcases hp with e | e
    · rw [e]; exact .inr rr'
    · exact .inr (hA rg _ z hr hy' rr' e)
  · simp only [Bool.or_eq_false_iff, decide_eq_false_iff_not]
    refine ⟨fun e => hne e.symm, ?_⟩
    cases h : (qAc s (qK s y)).testBit rg with
    | true => exact absurd h nr
    | false => rfl
/-- the rows of a ring come from the others -/
def dnR (s : pPg) (R : Nat → List pRw) (rg : Nat) : Prop := ∃ R0, (∀ p, p < s.1.length → qK s p ≠ rg → R0 p = R p) ∧ (∀ p, p < s.1.length → qK s p = rg → R0 p = []) ∧ wkE s rg R0 R
/-- the rows R of the program over the rows In of its INPUTS -/
def qMod (s : pPg) (In R : Nat → List pRw) : Prop := qTb s R ∧ (∀ p, p < s.1.length → pIn s.2.1 (p : Int) = true → R p = In p) ∧ ∀ p, p < s.1.length → pIn s.2.1 (p : Int) = false → dnR s R (qK s p)
theorem wkE_cg {rg : Nat} {R R0 R0' : Nat → List pRw} (hw : wPg s) (hs : ∀ p, p < s.1.length → (R0 p).Pairwise rwLt) (hs' : ∀ p, p < s.1.length → (R0' p).Pairwise rwLt) (h0 : ∀ p, p < s.1.length → (qK s p = rg ∨ rgR s rg p) → R0 p = R0' p) (h : wkE s rg R0 R) : ∃ R', wkE s rg R0' R' ∧ ∀ p, p < s.1.length → qK s p = rg → R' p = R p := by
  obtain ⟨n, a1, a2⟩ := h
  obtain ⟨R', k1, k2, k3⟩ := wkC_cg (fun y hy => rgR_lt hw hy) hs hs' h0 n R a1
  refine ⟨R', ⟨n, k1, fun p xs hp hst => a2 p xs hp ((stD_cg (fun y hy => k3 y (rgR_lt hw hy) (.inr hy)) (fun hp hk => k2 p hp hk) hp).mp hst)⟩, k2⟩
theorem dnR.srt {R R0 : Nat → List pRw} {rg : Nat} (hT : qTb s R) (h1 : ∀ p, p < s.1.length → qK s p ≠ rg → R0 p = R p) (h2 : ∀ p, p < s.1.length → qK s p = rg → R0 p = []) : ∀ p, p < s.1.length → (R0 p).Pairwise rwLt := fun p hp => by
  by_cases c : qK s p = rg
  · rw [h2 p hp c]; exact List.Pairwise.nil
  · rw [h1 p hp c]; exact (hT p hp).2.1
theorem qMod_det {In R R' : Nat → List pRw} (hw : wPg s) (h : qMod s In R) (h' : qMod s In R') : ∀ p, p < s.1.length → R p = R' p := by
  obtain ⟨a1, a2, a3⟩ := h
  obtain ⟨b1, b2, b3⟩ := h'
  have key : ∀ (n p : Nat), qCn s (qK s p) < n → p < s.1.length → R p = R' p := by
    intro n
    induction n with
    | zero => intro p h; omega
    | succ n ih =>
      intro p hc hp
      cases hi : pIn s.2.1 (p : Int) with
      | true => rw [a2 p hp hi, b2 p hp hi]
      | false =>
        obtain ⟨R0, c1, c2, c3⟩ := a3 p hp hi
        obtain ⟨R0', d1, d2, d3⟩ := b3 p hp hi
        have hag : ∀ q, q < s.1.length → (qK s q = qK s p ∨ rgR s (qK s p) q) → R0 q = R0' q := fun q hq hk => by
          by_cases cq : qK s q = qK s p
          · rw [c2 q hq cq, d2 q hq cq]
          · have hr : rgR s (qK s p) q := hk.resolve_left cq
            rw [c1 q hq cq, d1 q hq cq]
            exact ih q (by have := qCn_lt hw hr cq; omega) hq
        obtain ⟨R'', e1, e2⟩ := wkE_cg hw (dnR.srt a1 c1 c2) (dnR.srt b1 d1 d2) hag c3
        rw [← e2 p hp rfl]
        exact wkE_det (fun y hy => rgR_lt hw hy) e1 d3 p hp
  exact fun p hp => key _ p (Nat.lt_succ_self _) hp
end
