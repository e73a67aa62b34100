section
variable {lv' st' : List xa} {A : xme} {lv : xj_L} {st : List Value} {M : xj_M} {N : xNa} {s a b nx : Nat}
theorem xdf_ok {ty : FieldType} {t : Nat} (h : xo_tc ty = some t) : xv (xdf t) (defaultValue ty) := by
  have p0 : xa_e (0 : Int32) = 2147483648 := by decide
  have q0 : xa_E (0 : Int64) = 9223372036854775808 := by decide
  unfold xo_tc at h
  split at h
  · cases h; exact ⟨rfl, by rw [p0]; exact Nat.le_refl _, by rw [p0]; exact Nat.le_refl _⟩
  · cases h; exact ⟨rfl, by rw [q0]; exact Nat.le_refl _, by rw [q0]; exact Nat.le_refl _⟩
  · cases h; rfl
  · cases h; rfl
  · cases h; exact ⟨rfl, by rw [p0]; exact Nat.le_refl _, by rw [p0]; exact Nat.le_refl _⟩
  · cases h
theorem xo_tcs_ok (ci : Nat) : ∀ (ks : List Nat) (l : List Nat), ks.foldr (fun k r => match xo_tc (xj_ty ci k), r with | some t, some l => some (t :: l) | _, _ => none) (some []) = some l → xvs (xdfs l) (ks.map (fun k => defaultValue (xj_ty ci k))) := by
  intro ks
  induction ks with
  | nil => intro l h; cases h; trivial
  | cons k ks ih =>
    intro l h
    simp only [List.foldr_cons] at h
    split at h
    · rename_i t l' h1 h2
      cases h
      exact ⟨xdf_ok h1, ih l' h2⟩
    · cases h
theorem xnx_ok (hA : xmr A M) : xv (2, Nat.add 64 A.2.1, Nat.add 64 A.2.1) (.ref (xj_nx M)) := ⟨rfl, by show 64 + A.2.1 = 64 + M.1.length; rw [hA.1]⟩
theorem xG13_0 {S : Option (List xa)} {l : List Nat} {vs : List Value} (hv : xvs (xdfs l) vs) (h : xG13 S 0 a b nx l lv' st' A = some N) (hl : xlr lv' lv) (hs : xvs st' st) (hA : xmr A M) : xNr N (.inl (nx, lv, .ref (xj_nx M) :: st, xj_new M (.inr (.inr (a, vs))) b)) := by
  simp only [xG13, xw_eq] at h
  obtain ⟨c, h⟩ := xif_some h
  exact xNr_go h hl ⟨xnx_ok hA, hs⟩ (xmr_new hA (xblt c) ⟨rfl, rfl, hv⟩)
theorem xG13_1 {S : Option (List xa)} {l : List Nat} {dv : Value} (hv : xv (xdf b) dv) (h : xG13 S 1 a b nx l lv' st' A = some N) (hl : xlr lv' lv) (hs : xvs st' st) (hA : xmr A M) : ∃ n r, st = .int n :: r ∧ ¬ n < 0 ∧ n.toNatClampNeg ≤ 131072 ∧ xNr N (.inl (nx, lv, .ref (xj_nx M) :: r, xj_new M (.inr (.inl (a, n.toNatClampNeg, fun _ => dv))) n.toNatClampNeg)) := by
  simp only [xG13, xw_eq, xg_eq] at h
  split at h
  · rename_i n r
    obtain ⟨c, h⟩ := xif_some h
    obtain ⟨c1, c2⟩ := xif_and c
    obtain ⟨c1, c3⟩ := xif_and c1
    obtain ⟨c2, c4⟩ := xif_and c2
    obtain ⟨c4, c5⟩ := xif_and c4
    obtain ⟨w, ws, rfl, hw, hws⟩ := xvs_c hs
    obtain ⟨x, rfl, h3, h4⟩ := xv_i hw (xbeq c1)
    have c3 := xcon_eq c3
    have c2 : 2147483648 ≤ n.2.1 := xble c2
    have c4 : n.2.1 ≤ 2147614720 := xble c4
    have g := xa_e_int x
    have e : x.toNatClampNeg = Nat.sub n.2.1 2147483648 := by
      show x.toInt.toNat = n.2.1 - 2147483648
      omega
    refine ⟨x, ws, rfl, fun q => ?_, ?_, ?_⟩
    · have : x.toInt < 0 := Int32.lt_iff_toInt_lt.mp q
      omega
    · rw [e]; show n.2.1 - 2147483648 ≤ 131072; omega
    · rw [e]
      exact xNr_go h hl ⟨xnx_ok hA, hws⟩ (xmr_new hA (xblt c5) ⟨rfl, rfl, rfl, by show n.2.1 - 2147483648 ≤ 131072; omega, fun i hi => by
        have : xel (1, a, Nat.sub n.2.1 2147483648, xdf b, [], xs_no xa 17) i = xdf b := by
          unfold xel; simp only; rw [xs_no_get]
        rw [this]; exact hv⟩)
  · cases h
end
