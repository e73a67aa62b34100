/-! INPUTS are no HEADS; masks of predicates -/
def wIn (s : pPg) : Prop := ∀ x ∈ s.2.1, ∃ a, (x.1, a, x.2.1, (1 : Int)) ∈ s.2.2.2.1
theorem pRule_in {t : tStr} {F : Nat} {s s' : pPg} (h : pRule t F s = .inr s') (hs : wIn s) : wIn s' := by
  unfold pRule at h
  split at h
  · cases h
  obtain ⟨p, h1, h⟩ := pbind_inr h
  obtain ⟨i, h2, h⟩ := pbind_inr h
  obtain ⟨a, h3, h⟩ := pbind_inr h
  obtain ⟨a', h4, h⟩ := pbind_inr h
  obtain ⟨i', h5, h⟩ := pbind_inr h
  obtain ⟨l, h6, h⟩ := pbind_inr h
  obtain ⟨i'', h7, h⟩ := pbind_inr h
  have hl : ∀ m ∈ s.2.2.2.1 ++ [(p.1, kS t s.2.2.2.2.2, (a'.2.2.1.length : Int), (3 : Int))], m ∈ l.2.2.2.1 := by
    split at h6
    · obtain ⟨u, g1, g2⟩ := pbind_inr h6
      exact fun m hm => pLits_mm g2 m (pLit_mm g1 m hm)
    · cases h6
      exact fun m hm => hm
  cases h
  intro x hx
  obtain ⟨b, hb⟩ := hs x hx
  exact ⟨b, hl _ (List.mem_append.mpr (.inl hb))⟩
theorem pProg_in {t : tStr} {F : Nat} : ∀ {k : Nat} {s s' : pPg}, pProg t F k s = .inr s' → wIn s → wIn s' := by
  intro k
  induction k with
  | zero => intro s s' h; cases h
  | succ k ih =>
    intro s s' h hs
    unfold pProg at h
    split at h
    · cases h; exact hs
    · obtain ⟨u, g1, g2⟩ := pbind_inr h
      refine ih g2 ?_
      split at g1
      · unfold pInput at g1
        obtain ⟨p, h1, g1⟩ := pbind_inr g1
        obtain ⟨i, h2, g1⟩ := pbind_inr g1
        obtain ⟨n, h3, g1⟩ := pbind_inr g1
        obtain ⟨q, h4, g1⟩ := pbind_inr g1
        obtain ⟨i', h5, g1⟩ := pbind_inr g1
        cases g1
        intro x hx
        rcases List.mem_append.mp hx with b | b
        · obtain ⟨a, ha⟩ := hs x b
          exact ⟨a, List.mem_append.mpr (.inl ha)⟩
        · rw [List.mem_singleton.mp b]
          exact ⟨_, List.mem_append.mpr (.inr (List.mem_singleton.mpr rfl))⟩
      split at g1
      · unfold pOutput at g1
        obtain ⟨p, h1, g1⟩ := pbind_inr g1
        obtain ⟨i, h2, g1⟩ := pbind_inr g1
        cases g1
        intro x hx
        obtain ⟨a, ha⟩ := hs x hx
        exact ⟨a, List.mem_append.mpr (.inl ha)⟩
      · exact pRule_in g1 hs
/-- an INPUT is no HEAD -/
def wNh (s : pPg) : Prop := ∀ x ∈ s.2.1, ∀ u ∈ s.2.2.2.2.1, x.1 ≠ u.1
theorem wNh_of {t : List Int} {s : pPg} (h : qPr t = .inr s) (hf : ∀ k a, ¬ pFa s 0 k a) : wNh s := by
  have h1 : wHd s := pProg_hd h (fun u hu => absurd hu (by simp))
  have h2 : wIn s := pProg_in h (fun u hu => absurd hu (by simp))
  intro x hx u hu e
  obtain ⟨a, ha⟩ := h2 x hx
  obtain ⟨i, hi, ei⟩ := List.getElem_of_mem ha
  obtain ⟨j, hj, ej⟩ := List.getElem_of_mem (h1 u hu)
  have mi : mN s.2.2.2.1 i = x.1 ∧ mW s.2.2.2.1 i = 1 := by unfold mN mW; rw [getD_e hi, ei]; exact ⟨rfl, rfl⟩
  have mj : mN s.2.2.2.1 j = u.1 ∧ mW s.2.2.2.1 j = 3 := by unfold mN mW; rw [getD_e hj, ej]; exact ⟨rfl, rfl⟩
  have hne : i ≠ j := fun q => by
    have a1 := mi.2
    have a2 := mj.2
    rw [q] at a1
    omega
  have flt : ∀ a b, a < b → b < s.2.2.2.1.length → mN s.2.2.2.1 a = mN s.2.2.2.1 b → twc (mW s.2.2.2.1 a) (mW s.2.2.2.1 b) → False := fun a b hab hb hn ht =>
    hf 1 (((0 : Nat) : Int) + mP s.2.2.2.1 b) (.inl (.inl (.inl ⟨b, Nat.zero_le _, hb, .inl ⟨rfl, rfl, a, Nat.zero_le _, hab, hn, ht⟩⟩)))
  by_cases c : i < j
  · exact flt i j c hj (by rw [mi.1, mj.1, e]) (by rw [mi.2, mj.2]; unfold twc; omega)
  · exact flt j i (by omega) hi (by rw [mi.1, mj.1, e]) (by rw [mi.2, mj.2]; unfold twc; omega)
section
variable {s : pPg}
theorem inp_rd (h : wNh s) {p : Nat} (hp : pIn s.2.1 (p : Int) = true) : qRd s.2.2.2.2.1 p = 0 := by
  refine Nat.eq_of_testBit_eq (fun k => ?_)
  rw [Nat.zero_testBit]
  cases hb : (qRd s.2.2.2.2.1 p).testBit k with
  | false => rfl
  | true =>
    obtain ⟨u, u1, u2, _⟩ := (qRd_in _ _ _).mp hb
    unfold pIn at hp
    obtain ⟨x, x1, x2⟩ := List.any_eq_true.mp hp
    exact absurd ((of_decide_eq_true x2).trans u2) (h x x1 u u1)
theorem qWm_0 {np : Nat} {T : Nat → Nat} {p : Nat} (h : T p = 0) : ∀ k, qWm np T k p = 0
  | 0 => h
  | k + 1 => by
    show qW1 (qWm np T k) k np p = 0
    unfold qW1
    rw [qWm_0 h k, Nat.zero_testBit, if_neg (fun q => by cases q.2)]
/-- an INPUT is a ring of its own -/
theorem inp_k (hn : wNh s) {p q : Nat} (hp : p < s.1.length) (hq : q < s.1.length) (hi : pIn s.2.1 (p : Int) = true) (h : qK s q = qK s p) : q = p := by
  have h0 : qAc s p = 0 := qWm_0 (inp_rd hn hi) _
  have hA := qAc_tr s
  obtain ⟨a1, a2, a3⟩ := qRing_is (qAc s) p
  obtain ⟨b1, b2, b3⟩ := qRing_is (qAc s) q
  have ep : qRing (qAc s) p = p := by
    rcases a2 with e | e
    · exact e.symm
    · rw [h0, Nat.zero_testBit] at e; cases e.1
  have eq : qRing (qAc s) q = p := by rw [← ep]; exact h
  rw [eq] at b2
  rcases b2 with e | e
  · exact e
  · rw [h0, Nat.zero_testBit] at e; cases e.2
end
/-- a mask less another -/
theorem xandn {a b : Nat} (ha : a < 65536) (hb : b < 65536) : ∃ w : Nat, w < 65536 ∧ xand (a : Int) (xxor (b : Int) (-1)) = (w : Int) ∧ ∀ j, w.testBit j = true ↔ a.testBit j = true ∧ b.testBit j = false := by
  refine ⟨a &&& (65535 ^^^ b), ?_, ?_, fun j => ?_⟩
  · exact Nat.lt_of_le_of_lt Nat.and_le_left ha
  · have e1 : xand (a : Int) (xxor (b : Int) (-1)) = (BitVec.ofNat 32 a &&& (BitVec.ofNat 32 b ^^^ (Int32.ofInt (-1)).toBitVec)).toInt := by
      unfold xand xxor
      have : Int32.ofInt ((Int32.ofInt (b : Int) ^^^ Int32.ofInt (-1)).toInt) = Int32.ofInt (b : Int) ^^^ Int32.ofInt (-1) := Int32.ofInt_toInt _
      rw [this]
      show ((Int32.ofInt (a : Int)).toBitVec &&& ((Int32.ofInt (b : Int)).toBitVec ^^^ (Int32.ofInt (-1)).toBitVec)).toInt = _
      rw [i32_nat, i32_nat]
    have e2 : (Int32.ofInt (-1)).toBitVec = BitVec.allOnes 32 := by decide
    have e3 : (BitVec.ofNat 32 a &&& (BitVec.ofNat 32 b ^^^ BitVec.allOnes 32)).toNat = a &&& (65535 ^^^ b) := by
      refine Nat.eq_of_testBit_eq (fun j => ?_)
      rw [BitVec.testBit_toNat, BitVec.getLsbD_and, BitVec.getLsbD_xor, BitVec.getLsbD_ofNat, BitVec.getLsbD_ofNat, BitVec.getLsbD_allOnes, Nat.testBit_and, Nat.testBit_xor]
      by_cases c : j < 16
      · have h16 : (65535 : Nat).testBit j = true := by
          have : (65535 : Nat) = 2 ^ 16 - 1 := by decide
          rw [this, Nat.testBit_two_pow_sub_one]
          exact decide_eq_true c
        rw [h16, decide_eq_true (by omega : j < 32)]
        simp [Bool.xor_comm]
      · have ha0 : a.testBit j = false := Nat.testBit_lt_two_pow (Nat.lt_of_lt_of_le ha (Nat.le_trans (by decide : 65536 ≤ 2 ^ 16) (Nat.pow_le_pow_right (by decide) (by omega))))
        rw [ha0]
        simp
    rw [e1, e2, BitVec.toInt_eq_toNat_of_lt (by rw [e3]; have := Nat.and_le_left (n := a) (m := 65535 ^^^ b); omega), e3]
  · rw [Nat.testBit_and, Nat.testBit_xor, Bool.and_eq_true]
    by_cases c : j < 16
    · have h16 : (65535 : Nat).testBit j = true := by
        have : (65535 : Nat) = 2 ^ 16 - 1 := by decide
        rw [this, Nat.testBit_two_pow_sub_one]
        exact decide_eq_true c
      rw [h16]
      simp
    · have ha0 : a.testBit j = false := Nat.testBit_lt_two_pow (Nat.lt_of_lt_of_le ha (Nat.le_trans (by decide : 65536 ≤ 2 ^ 16) (Nat.pow_le_pow_right (by decide) (by omega))))
      rw [ha0]
      simp
