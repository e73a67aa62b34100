section
variable {lv' st' : List xa} {A : xme} {lv : xj_L} {st : List Value} {M : xj_M} {N : xNa} {s a b nx : Nat}
theorem xG11_0 (h : xG11 0 a b st' A = some N) (hs : xvs st' st) (hA : xmr A M) : st = [] ∧ xNr N (.inr (.inl none, M)) := by
  simp only [xG11] at h
  split at h
  · cases h
    exact ⟨xvs_n hs, _, _, rfl, rfl, hA⟩
  · cases h
theorem xG11_1 (h : xG11 1 a b st' A = some N) (hs : xvs st' st) (hA : xmr A M) : ∃ x, st = [.int x] ∧ a ≤ xa_e x ∧ xa_e x ≤ b ∧ xNr N (.inr (.inl (some (.int x)), M)) := by
  simp only [xG11] at h
  split at h
  · rename_i v
    obtain ⟨c, h⟩ := xif_some h
    obtain ⟨c1, c2⟩ := xif_and c
    obtain ⟨c2, c3⟩ := xif_and c2
    obtain ⟨w, ws, rfl, hw, hws⟩ := xvs_c hs
    obtain ⟨x, rfl, h3, h4⟩ := xv_i hw (xbeq c1)
    cases xvs_n hws
    cases h
    have c2 := xble c2
    have c3 := xble c3
    exact ⟨x, rfl, by omega, by omega, _, _, rfl, ⟨_, rfl, hw⟩, hA⟩
  · cases h
theorem xG11_2 (h : xG11 2 a b st' A = some N) (hs : xvs st' st) (hA : xmr A M) : ∃ x, st = [.long x] ∧ xNr N (.inr (.inl (some (.long x)), M)) := by
  simp only [xG11] at h
  split at h
  · rename_i v
    obtain ⟨c, h⟩ := xif_some h
    obtain ⟨w, ws, rfl, hw, hws⟩ := xvs_c hs
    obtain ⟨x, rfl, h3, h4⟩ := xv_l hw (xbeq c)
    cases xvs_n hws
    cases h
    exact ⟨x, rfl, _, _, rfl, ⟨_, rfl, hw⟩, hA⟩
  · cases h
theorem xG11_3 (h : xG11 3 a b st' A = some N) (hs : xvs st' st) (hA : xmr A M) : ∃ x, st = [x] ∧ (x = .null ∨ ∃ q, x = .ref q) ∧ xNr N (.inr (.inl (some x), M)) := by
  simp only [xG11] at h
  split at h
  · rename_i v
    obtain ⟨c, h⟩ := xif_some h
    obtain ⟨w, ws, rfl, hw, hws⟩ := xvs_c hs
    cases xvs_n hws
    cases h
    rcases xfit2 c with c | c
    · exact ⟨w, rfl, Or.inr ⟨_, xv_r hw c⟩, _, _, rfl, ⟨_, rfl, hw⟩, hA⟩
    · exact ⟨w, rfl, Or.inl (xv_n hw c), _, _, rfl, ⟨_, rfl, hw⟩, hA⟩
  · cases h
theorem xchar {x : Int32} (h1 : 2147483648 ≤ xa_e x) (h2 : xa_e x ≤ 2147549183) : x.toUInt32.toUInt16.toUInt32.toInt32 = x := by
  have h3 := xa_e_int x
  have h4 : x.toUInt32.toNat = x.toNatClampNeg := Int32.toNat_toUInt32_of_le (Int32.le_iff_toInt_le.mpr (by show (0 : Int32).toInt ≤ _; have : (0 : Int32).toInt = 0 := rfl; omega))
  have h5 : x.toNatClampNeg = x.toInt.toNat := rfl
  have : x.toUInt32.toUInt16.toUInt32 = x.toUInt32 := by
    apply UInt32.toNat_inj.mp
    simp only [UInt16.toNat_toUInt32, UInt32.toNat_toUInt16]
    omega
  rw [this]
  simp
end
