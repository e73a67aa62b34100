section
variable {lv' st' : List xa} {A : xme} {lv : xj_L} {st : List Value} {M : xj_M} {N : xNa} {s a b nx : Nat}
theorem xm_arr_inv {x : xa} {c : xcl} {k : Nat} (h : xm_arr A x.2.1 k = some c) : xm_cell A x.2.1 = some c ∧ c.1 = 1 ∧ c.2.1 = k := by
  unfold xm_arr at h
  split at h
  · rename_i c' hc
    obtain ⟨c1, h⟩ := xif_some h
    obtain ⟨c2, h⟩ := xif_some h
    cases h
    exact ⟨hc, xbeq c1, xbeq c2⟩
  · cases h
theorem xalt_ok {c : xcl} : ∀ n, xalt c n = true → ∀ i, i < n → (xel c i).1 = 0 := by
  intro n
  induction n with
  | zero => intro h i hi; omega
  | succ n ih =>
    intro h i hi
    have h : xif (Nat.beq (xel c n).1 0) (xalt c n) false = true := h
    obtain ⟨h1, h2⟩ := xif_and h
    by_cases e : i = n
    · rw [e]; exact xbeq h1
    · exact ih h2 i (by omega)
theorem xG13_2 {S : Option (List xa)} {l : List Nat} (h : xG13 S 2 a b nx l lv' st' A = some N) (hl : xlr lv' lv) (hs : xvs st' st) (hA : xmr A M) : ∃ q r x, st = .ref q :: r ∧ xj_arr M q = some x ∧ x.1 = a ∧ ((List.range x.2.1).all (fun i => fits (xj_kty a) (x.2.2 i))) = true ∧ xj_sm r = true ∧ xNr N (.inl (nx, lv, .ref (xj_nx M) :: r, xj_new M (.inr (.inl x)) x.2.1)) := by
  simp only [xG13, xw_eq] at h
  split at h
  · rename_i x r
    obtain ⟨c, h⟩ := xif_some h
    obtain ⟨c1, c2⟩ := xif_and c
    obtain ⟨c2, c3⟩ := xif_and c2
    obtain ⟨w, ws, rfl, hw, hws⟩ := xvs_c hs
    have e := xv_r hw (xbeq c1)
    subst e
    split at h
    · rename_i cc hcc
      obtain ⟨k1, k2, k3⟩ := xm_arr_inv hcc
      obtain ⟨c4, h⟩ := xif_some h
      obtain ⟨c4, c5⟩ := xif_and c4
      have c4 := xbeq c4
      obtain ⟨g1, g2, q, g3, g4, g5, g6, g7, g8⟩ := xm_arr_ok hA k1 k2
      refine ⟨_, ws, q, rfl, g3, by rw [← g5]; exact k3, ?_, ?_, ?_⟩
      · rw [List.all_eq_true]
        intro i hi
        have hi := List.mem_range.mp hi
        have := xalt_ok _ c5 i (by rw [g6]; exact hi)
        obtain ⟨y, ey, -⟩ := xv_i (g8 i hi) this
        rw [ey, c4]; rfl
      · exact decide_eq_true (by rw [xsum_ok _ _ hws]; exact xble c2)
      · rw [g6] at h
        exact xNr_go h hl ⟨xnx_ok hA, hws⟩ (xmr_new hA (xblt c3) ⟨k2, g5, g6, g7, g8⟩)
    · cases h
  · cases h
theorem xG13_3 {S : Option (List xa)} {l : List Nat} (h : xG13 S 3 a b nx l lv' st' A = some N) (hl : xlr lv' lv) (hs : xvs st' st) (hA : xmr A M) : ∃ q r x, st = .ref q :: r ∧ xj_arr M q = some x ∧ x.1 = a ∧ xNr N (.inl (nx, lv, .ref q :: r, M)) := by
  simp only [xG13] at h
  split at h
  · rename_i x r
    obtain ⟨c, h⟩ := xif_some h
    obtain ⟨w, ws, rfl, hw, hws⟩ := xvs_c hs
    have e := xv_r hw (xbeq c)
    subst e
    split at h
    · rename_i cc hcc
      obtain ⟨k1, k2, k3⟩ := xm_arr_inv hcc
      obtain ⟨g1, g2, q, g3, g4, g5, g6, g7, g8⟩ := xm_arr_ok hA k1 k2
      exact ⟨_, ws, q, rfl, g3, by rw [← g5]; exact k3, xNr_go h hl ⟨hw, hws⟩ hA⟩
    · cases h
  · cases h
theorem xa_nat {n : Nat} (h : n < 2147483648) : xa_e (Int32.ofNat n) = n + 2147483648 := by
  have h1 := xa_e_int (Int32.ofNat n)
  rw [Int32.toInt_ofNat_of_lt (by omega)] at h1
  omega
theorem xG13_4 {S : Option (List xa)} {S' : Option (List Int32)} (hS : xsr S S') {l : List Nat} (hs4 : 4 ≤ s) (h : xG13 S s a b nx l lv' st' A = some N) (hl : xlr lv' lv) (hs : xvs st' st) (hA : xmr A M) : ∃ q r n, st = .ref q :: r ∧ xNr N (.inl (nx, lv, .int (Int32.ofNat n) :: r, M)) ∧
    ((64 ≤ q ∧ ∃ x, xj_arr M q = some x ∧ n = x.2.1) ∨ (q = 0 ∧ ∃ ys : List Int32, S' = some ys ∧ n = ys.length) ∨ (11 ≤ q ∧ q ≤ 20 ∧ n = (xj_sB (q - 11)).length)) := by
  obtain ⟨s, rfl⟩ : ∃ k, s = k + 4 := ⟨s - 4, by omega⟩
  simp only [xG13, xg_eq] at h
  split at h
  · rename_i x r
    obtain ⟨c, h⟩ := xif_some h
    obtain ⟨w, ws, rfl, hw, hws⟩ := xvs_c hs
    have e := xv_r hw (xbeq c)
    subst e
    have put : ∀ n : Nat, n < 2147483648 → xv (0, Nat.add n 2147483648, Nat.add n 2147483648) (.int (Int32.ofNat n)) := fun n hn => ⟨rfl, by rw [xa_nat hn]; exact Nat.le_refl _, by rw [xa_nat hn]; exact Nat.le_refl _⟩
    cases c2 : Nat.ble 64 x.2.1 with
    | true =>
      rw [c2, xif_t] at h
      split at h
      · rename_i cc hcc
        obtain ⟨c3, h⟩ := xif_some h
        obtain ⟨g1, g2, q, g3, g4, g5, g6, g7, g8⟩ := xm_arr_ok hA hcc (xbeq c3)
        rw [g6] at h
        exact ⟨_, ws, q.2.1, rfl, xNr_go h hl ⟨put _ (by omega), hws⟩ hA, Or.inl ⟨g1, q, g3, rfl⟩⟩
      · cases h
    | false =>
      rw [c2, xif_f] at h
      cases c3 : Nat.beq x.2.1 0 with
      | true =>
        rw [c3, xif_t] at h
        cases S with
        | none => cases h
        | some bx =>
          obtain ⟨ys, y1, y2, y3⟩ := hS bx rfl
          simp only at h
          have e := xvs_len _ _ y3
          rw [List.length_map] at e
          rw [e] at h
          exact ⟨_, ws, ys.length, rfl, xNr_go h hl ⟨put _ (by omega), hws⟩ hA, Or.inr (Or.inl ⟨xbeq c3, ys, y1, rfl⟩)⟩
      | false =>
        rw [c3, xif_f] at h
        obtain ⟨c4, h⟩ := xif_some h
        obtain ⟨c4, c5⟩ := xif_and c4
        have hn : (xj_sB (x.2.1 - 11)).length < 2147483648 := by
          have : ∀ k, (xj_sB k).length ≤ 100 := by
            intro k
            unfold xj_sB
            split <;> decide
          have := this (x.2.1 - 11)
          omega
        exact ⟨_, ws, _, rfl, xNr_go h hl ⟨put _ hn, hws⟩ hA, Or.inr (Or.inr ⟨xble c4, xble c5, rfl⟩)⟩
  · cases h
theorem xo_tgs_ok (pc : Nat) : ∀ (offs : List Int) (l : List Nat), xo_tgs pc offs = some l → l.length = offs.length ∧ ∀ (i t : Nat), l[i]? = some t → ∃ off, offs[i]? = some off ∧ xj_tg pc off = some t := by
  intro offs
  induction offs with
  | nil => intro l h; cases h; exact ⟨rfl, fun i t q => by simp at q⟩
  | cons o offs ih =>
    intro l h
    simp only [xo_tgs, List.foldr_cons] at h
    split at h
    · rename_i t l' h1 h2
      cases h
      obtain ⟨i1, i2⟩ := ih l' h2
      refine ⟨by simp [i1], fun i u q => ?_⟩
      cases i with
      | zero => simp at q; subst q; exact ⟨o, rfl, h1⟩
      | succ i => simp at q; obtain ⟨off, o1, o2⟩ := i2 i u q; exact ⟨off, by simpa using o1, o2⟩
    · cases h
end
