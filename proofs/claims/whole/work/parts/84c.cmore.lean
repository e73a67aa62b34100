/-! Stores of narrow elements and of references, arraycopy, clone, in the class's cells as functions -/
section
variable {m c k n x kk ci : Nat} {M0 M : xj_M} {T : xT_} {z v : Int}
theorem xnar_c (v : Int) : 0 ≤ xnar .char v ∧ xnar .char v ≤ 65535 := by
  have h : xnar .char v = ((Int32.ofInt v).toUInt32.toUInt16.toUInt32.toInt32).toInt := rfl
  rw [h]
  have h1 : (Int32.ofInt v).toUInt32.toUInt16.toNat < 65536 := UInt16.toNat_lt _
  have h2 : ((Int32.ofInt v).toUInt32.toUInt16.toUInt32.toInt32).toInt = ((Int32.ofInt v).toUInt32.toUInt16.toNat : Int) := by
    show ((Int32.ofInt v).toUInt32.toUInt16.toUInt32.toInt32.toBitVec).toInt = _
    have h3 : (Int32.ofInt v).toUInt32.toUInt16.toUInt32.toInt32.toBitVec.toNat = (Int32.ofInt v).toUInt32.toUInt16.toNat := by
      show (Int32.ofInt v).toUInt32.toUInt16.toUInt32.toNat = _
      simp
    rw [BitVec.toInt_eq_toNat_of_lt (by omega), h3]
  rw [h2]
  omega
theorem xnar_z (v : Int) : xnar .boolean v = 0 ∨ xnar .boolean v = 1 := by
  have h : xnar .boolean v = (Int32.ofInt v &&& 1).toInt := rfl
  rw [h]
  have h1 : (Int32.ofInt v &&& 1).toInt = ((Int32.ofInt v).toBitVec &&& 1#32).toInt := rfl
  rw [h1]
  have h2 : ((Int32.ofInt v).toBitVec &&& 1#32).toNat ≤ 1 := by
    rw [BitVec.toNat_and]
    exact Nat.and_le_right
  rw [BitVec.toInt_eq_toNat_of_lt (by omega)]
  omega
theorem xCX.sc {T' : xT_} (h : xCX m M0 M T) (e : cq_s 2 x z (xnar .char v) T = some T') : ∃ M', xq_sc x z v M = some M' ∧ xCX m M0 M' T' := h.ss (kk := 2) (fun t ht => by cases ht; exact xnar_c v) e
theorem xCX.sb {T' : xT_} (h : xCX m M0 M T) (e : cq_sb x z v T = some T') : ∃ M', xq_sb x z v M = some M' ∧ xCX m M0 M' T' := by
  unfold cq_sb at e
  split at e
  · rename_i h1
    obtain ⟨M', g1, g2⟩ := h.ss (kk := 1) (fun t ht => by cases ht; exact yxnar_b v) e
    refine ⟨M', ?_, g2⟩
    unfold cq_s at e
    split at e
    · rename_i hc
      obtain ⟨g, q1, q2, q3⟩ := h.arr hc.1
      unfold xq_sb
      simp only [q1]
      rw [if_pos h1]
      exact g1
    · cases e
  · rename_i h1
    split at e
    · rename_i h0
      obtain ⟨M', g1, g2⟩ := h.ss (kk := 0) (fun t ht => by cases ht; have := xnar_z v; show 0 ≤ xnar .boolean v ∧ xnar .boolean v ≤ 1; omega) e
      refine ⟨M', ?_, g2⟩
      unfold cq_s at e
      split at e
      · rename_i hc
        obtain ⟨g, q1, q2, q3⟩ := h.arr hc.1
        unfold xq_sb
        simp only [q1]
        rw [if_neg h1, if_pos h0]
        exact g1
      · cases e
    · cases e
theorem xCX.sr {y : Nat} {T' : xT_} (h : xCX m M0 M T) (e : cq_sr x z y T = some T') : ∃ M', xq_sr x z y M = some M' ∧ xCX m M0 M' T' := by
  unfold cq_sr at e
  split at e
  · rename_i hc
    obtain ⟨h1, h2, h3, h4, h5⟩ := hc
    cases e
    obtain ⟨g, g1, g2, g3⟩ := h.arr h1
    have ht : xh_t (T.1 x) z.toNat = 2 := by
      rw [xh_ta h1]
      obtain ⟨q, hq⟩ : ∃ q, (T.1 x).2.1 = q + 5 := ⟨(T.1 x).2.1 - 5, by omega⟩
      rw [hq]
      rfl
    have h6 := h.up (x := x) (i := z.toNat) (v := (y : Int)) (by omega) (by omega) (by rw [ht]; show 0 ≤ (y : Int); omega)
    rw [ht] at h6
    have e2 : xCv 2 (y : Int) = xR_ y := by show xR_ (y : Int).toNat = _; rw [Int.toNat_natCast]
    rw [e2] at h6
    refine ⟨_, ?_, h6⟩
    have eu : xh_up M x z.toNat (xR_ y) = xj_put M x (.inr (.inl ((T.1 x).2.1, (T.1 x).2.2, updV g z.toNat (xR_ y)))) := by
      obtain ⟨g', hg'⟩ := xh_arr g2
      have : xj_arr M x = some ((T.1 x).2.1, (T.1 x).2.2, g') := by unfold xj_arr; rw [hg']
      rw [this] at g1
      cases g1
      unfold xh_up
      rw [hg']
    rw [eu]
    unfold xq_sr
    simp only [g1]
    rw [if_pos ⟨h2, h3, h4⟩]
    by_cases hy : y = 0
    · rw [if_pos hy, hy]
      rfl
    · rw [if_neg hy]
      rcases h5 with q | ⟨q1, q2⟩
      · exact absurd q hy
      · have hs : T.1 y = (1, (T.1 y).2.1, (T.1 y).2.2) := Prod.ext q1 rfl
        obtain ⟨fs, f1, f2, f3⟩ := h.obj hs
        rw [f1]
        simp only
        rw [if_pos q2]
        have e3 : xR_ y = Value.ref y := by unfold xR_; rw [if_neg hy]
        rw [e3]
  · cases e
end
