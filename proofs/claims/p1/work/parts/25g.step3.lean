section
variable {lv' st' : List xa} {A : xme} {lv : xj_L} {st : List Value} {M : xj_M} {N : xNa} {s a b nx : Nat}
theorem xG15_0 {h : xha} {d : Nat} (hN : xG15 h d 0 a nx lv' st' A = some N) (hl : xlr lv' lv) (hs : xvs st' st) (hA : xmr A M) : ∃ q r, st = .ref q :: r ∧ xj_small r = true ∧ xNr N (.inl (nx, lv, r, M)) := by
  simp only [xG15] at hN
  split at hN
  · rename_i x r
    obtain ⟨c, hN⟩ := xif_some hN
    obtain ⟨c1, c2⟩ := xif_and c
    obtain ⟨w, ws, rfl, hw, hws⟩ := xvs_c hs
    have e := xv_r hw (xbeq c1)
    subst e
    exact ⟨_, ws, rfl, decide_eq_true (by rw [xsum_ok _ _ hws]; exact xble c2), xNr_go hN hl hws hA⟩
  · cases hN
theorem xG15_1 {h : xha} {d : Nat} (hN : xG15 h d 1 a nx lv' st' A = some N) (hl : xlr lv' lv) (hs : xvs st' st) (hA : xmr A M) : ∃ n x r, st = .int n :: .int x :: r ∧ 0 ≤ x ∧ x < n ∧ 1 ≤ d ∧ xj_small r = true ∧ xNr N (.inl (nx, lv, r, M)) := by
  simp only [xG15] at hN
  split at hN
  · rename_i n x r
    obtain ⟨c, hN⟩ := xif_some hN
    obtain ⟨c1, c2⟩ := xif_and c
    obtain ⟨c1, c3⟩ := xif_and c1
    obtain ⟨c2, c4⟩ := xif_and c2
    obtain ⟨c4, c5⟩ := xif_and c4
    obtain ⟨c5, c6⟩ := xif_and c5
    obtain ⟨w, ws, rfl, hw, hws⟩ := xvs_c hs
    obtain ⟨z, zs, rfl, hz, hzs⟩ := xvs_c hws
    obtain ⟨y', rfl, h3, h4⟩ := xv_i hw (xbeq c1)
    obtain ⟨x', rfl, h5, h6⟩ := xv_i hz (xbeq c3)
    have c2 : 2147483648 ≤ x.2.1 := xble c2
    have c4 : x.2.2 < n.2.1 := xblt c4
    exact ⟨y', x', zs, rfl, xa_le.mp (by rw [xa_0]; omega), xa_lt2.mp (by omega), xble c5, decide_eq_true (by rw [xsum_ok _ _ hzs]; exact xble c6), xNr_go hN hl hzs hA⟩
  · cases hN
theorem xG15_2 {h : xha} {d : Nat} (hN : xG15 h d 2 a nx lv' st' A = some N) (hs : xvs st' st) (hA : xmr A M) : h = none ∧ st = [] ∧ 5 ≤ d ∧ xNr N (.inr (.inr a, xj_new M (.inl ()) 6)) := by
  simp only [xG15] at hN
  split at hN
  · split at hN
    · obtain ⟨c, hN⟩ := xif_some hN
      obtain ⟨c1, c2⟩ := xif_and c
      cases hN
      exact ⟨rfl, xvs_n hs, xble c1, _, _, rfl, rfl, xmr_exc hA (xblt c2)⟩
    · cases hN
  · cases hN
theorem xG15_3 {h : xha} {d : Nat} (hN : xG15 h d 3 a nx lv' st' A = some N) (hl : xlr lv' lv) (hs : xvs st' st) (hA : xmr A M) : ∃ q r, st = .ref q :: r ∧ 1 ≤ q ∧ q ≤ 10 ∧ xNr N (.inl (nx, lv, .ref (q + 10) :: r, M)) := by
  simp only [xG15, xw_eq] at hN
  split at hN
  · rename_i x r
    obtain ⟨c, hN⟩ := xif_some hN
    obtain ⟨c1, c2⟩ := xif_and c
    obtain ⟨c2, c3⟩ := xif_and c2
    obtain ⟨w, ws, rfl, hw, hws⟩ := xvs_c hs
    have e := xv_r hw (xbeq c1)
    subst e
    exact ⟨_, ws, rfl, xble c2, xble c3, xNr_go hN hl ⟨⟨rfl, rfl⟩, hws⟩ hA⟩
  · cases hN
theorem xG15_4 {h : xha} {d : Nat} (hN : xG15 h d 4 a nx lv' st' A = some N) (hl : xlr lv' lv) (hs : xvs st' st) (hA : xmr A M) : ∃ q r, st = .ref q :: r ∧ 1 ≤ q ∧ q ≤ 10 ∧ xNr N (.inl (nx, lv, .int 0 :: r, M)) := by
  simp only [xG15] at hN
  split at hN
  · rename_i x r
    obtain ⟨c, hN⟩ := xif_some hN
    obtain ⟨c1, c2⟩ := xif_and c
    obtain ⟨c2, c3⟩ := xif_and c2
    obtain ⟨w, ws, rfl, hw, hws⟩ := xvs_c hs
    have e := xv_r hw (xbeq c1)
    subst e
    exact ⟨_, ws, rfl, xble c2, xble c3, xNr_go hN hl ⟨⟨rfl, by rw [xa_0]; exact Nat.le_refl _, by rw [xa_0]; exact Nat.le_refl _⟩, hws⟩ hA⟩
  · cases hN
end
