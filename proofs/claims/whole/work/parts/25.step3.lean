/-! Returns, calls, what is made, switches, the rest -/
section
variable {lv' st' : List xa} {A : xme} {lv : xj_L} {st : List Value} {M : xj_M} {N : xNa} {s a b nx : Nat}
theorem xG11_0 (h : xG11 0 a b st' A = some N) (hs : xvs st' st) (hA : xmr A M) : st = [] ∧ xNr N (.inr (.inl none, M)) := by
  simp only [xG11] at h
  split at h
  · cases h
    exact ⟨xvs_n hs, _, _, rfl, rfl, hA⟩
  · cases h
theorem xG11_1 (h : xG11 1 a b st' A = some N) (hs : xvs st' st) (hA : xmr A M) : ∃ x, st = [.int x] ∧ a ≤ xa_e x ∧ xa_e x ≤ b ∧ xNr N (.inr (.inl (some (.int x)), M)) := by
  simp only [xG11] at h
  split at h
  · rename_i v
    obtain ⟨c, h⟩ := xif_some h
    obtain ⟨c1, c2⟩ := xif_and c
    obtain ⟨c2, c3⟩ := xif_and c2
    obtain ⟨w, ws, rfl, hw, hws⟩ := xvs_c hs
    obtain ⟨x, rfl, h3, h4⟩ := xv_i hw (xbeq c1)
    cases xvs_n hws
    cases h
    have c2 := xble c2
    have c3 := xble c3
    exact ⟨x, rfl, by omega, by omega, _, _, rfl, ⟨_, rfl, hw⟩, hA⟩
  · cases h
theorem xG11_2 (h : xG11 2 a b st' A = some N) (hs : xvs st' st) (hA : xmr A M) : ∃ x, st = [.long x] ∧ xNr N (.inr (.inl (some (.long x)), M)) := by
  simp only [xG11] at h
  split at h
  · rename_i v
    obtain ⟨c, h⟩ := xif_some h
    obtain ⟨w, ws, rfl, hw, hws⟩ := xvs_c hs
    obtain ⟨x, rfl, h3, h4⟩ := xv_l hw (xbeq c)
    cases xvs_n hws
    cases h
    exact ⟨x, rfl, _, _, rfl, ⟨_, rfl, hw⟩, hA⟩
  · cases h
theorem xG11_3 (h : xG11 3 a b st' A = some N) (hs : xvs st' st) (hA : xmr A M) : ∃ x, st = [x] ∧ (x = .null ∨ ∃ q, x = .ref q) ∧ xNr N (.inr (.inl (some x), M)) := by
  simp only [xG11] at h
  split at h
  · rename_i v
    obtain ⟨c, h⟩ := xif_some h
    obtain ⟨w, ws, rfl, hw, hws⟩ := xvs_c hs
    cases xvs_n hws
    cases h
    rcases xfit2 c with c | c
    · exact ⟨w, rfl, Or.inr ⟨_, xv_r hw c⟩, _, _, rfl, ⟨_, rfl, hw⟩, hA⟩
    · exact ⟨w, rfl, Or.inl (xv_n hw c), _, _, rfl, ⟨_, rfl, hw⟩, hA⟩
  · cases h
theorem xchar {x : Int32} (h1 : 2147483648 ≤ xa_e x) (h2 : xa_e x ≤ 2147549183) : x.toUInt32.toUInt16.toUInt32.toInt32 = x := by
  have h3 := xa_e_int x
  have h4 : x.toUInt32.toNat = x.toNatClampNeg := Int32.toNat_toUInt32_of_le (Int32.le_iff_toInt_le.mpr (by show (0 : Int32).toInt ≤ _; have : (0 : Int32).toInt = 0 := rfl; omega))
  have h5 : x.toNatClampNeg = x.toInt.toNat := rfl
  have : x.toUInt32.toUInt16.toUInt32 = x.toUInt32 := by
    apply UInt32.toNat_inj.mp
    simp only [UInt16.toNat_toUInt32, UInt32.toNat_toUInt16]
    omega
  rw [this]
  simp
theorem xout_ok {h : xha} {X : xj_X} {row : xj_mR} (hh : xhr row X.1 h) {nt : Bool} {pc : Nat} {rest' : List xa} {rest : List Value} {ra : xRa} {B : xme} {r' : xj_R} {M' : xj_M} (hN : xout h nt pc (pc + 3) lv' rest' (some (ra, B)) = some N) (hl : xlr lv' lv) (hs : xvs rest' rest) (hr : xrr ra r') (hB : xmr B M') : ∃ N', xj_out X row nt pc lv rest (some (r', M')) = some N' ∧ xNr N N' := by
  unfold xout at hN
  split at hN
  · rename_i v A' e
    cases e
    obtain ⟨v', rfl, hv⟩ := hr
    exact ⟨_, rfl, xNr_go hN hl ⟨hv, hs⟩ hB⟩
  · rename_i A' e
    cases e
    cases hr
    exact ⟨_, rfl, xNr_go hN hl hs hB⟩
  · rename_i k A' e
    cases e
    cases hr
    cases nt with
    | true => cases hN
    | false =>
      rw [xif_f] at hN
      split at hN
      · cases hN
        have hh : X.1 = none := hh
        refine ⟨.inr (.inr k, M'), ?_, _, _, rfl, rfl, hB⟩
        simp only [xj_out, xj_hand, hh]
        rfl
      · rename_i t
        obtain ⟨u, hu, e1, e2, e3, e4, e5⟩ := hh
        obtain ⟨c, hN⟩ := xif_some hN
        obtain ⟨c1, c2⟩ := xif_and c
        obtain ⟨c2, c3⟩ := xif_and c2
        have c1 : t.1 ≤ pc := xble c1
        have c2 : pc < t.2.1 := xblt c2
        have c3 := xbeq c3
        have hcond : u.1 ≤ pc ∧ pc < u.2.1 ∧ k = u.2.2.2.2 := by
          rw [← e1, ← e2, ← e3]; exact ⟨c1, c2, c3⟩
        rcases e5 with ⟨i, f1, f2, f3⟩ | ⟨f2, f3⟩
        · refine ⟨.inl (u.2.2.1 + 1, (xj_s1 lv t.2.2.2.1 .null).tail, [], M'), ?_, ?_⟩
          · simp only [xj_out, xj_hand, hu]
            rw [if_neg (by decide), if_pos hcond, f2]
            simp only [f1]
            rw [if_pos e4]
          · rw [f3] at hN
            exact xNr_go hN (xlr_h hl) trivial hB
        · refine ⟨.inl (u.2.2.1 + 2, (xj_s1 lv t.2.2.2.1 .null).tail, [], M'), ?_, ?_⟩
          · simp only [xj_out, xj_hand, hu]
            rw [if_neg (by decide), if_pos hcond, f2]
            simp only
            rw [if_pos e4]
          · rw [f3] at hN
            exact xNr_go hN (xlr_h hl) trivial hB
  · cases hN
theorem xout_some {h : xha} {nt : Bool} {pc : Nat} {rest' : List xa} {r : Option (xRa × xme)} (hN : xout h nt pc nx lv' rest' r = some N) : ∃ ra B, r = some (ra, B) := by
  cases r with
  | none => cases hN
  | some q => exact ⟨q.1, q.2, rfl⟩
theorem xG12_2 {call : xj_F} {ac : xFa} (hcall : xcok call ac) {h : xha} {X : xj_X} {row : xj_mR} (hh : xhr row X.1 h) {l : List Nat} {pc : Nat} (hN : xG12 ac h 2 a b l pc (pc + 3) lv' st' A = some N) (hl : xlr lv' lv) (hs : xvs st' st) (hA : xmr A M) :
    b ≤ st.length ∧ ((st.drop b).map fun v => v.category).sum ≤ 8 ∧ ∃ N', xj_out X row false pc lv (st.drop b) (call a (st.take b).reverse M) = some N' ∧ xNr N N' := by
  unfold xG12 at hN
  split at hN
  · cases hN
  · rename_i q hq
    simp only at hN
    obtain ⟨c, hN⟩ := xif_some hN
    obtain ⟨h1, h2, h3⟩ := xsp_ok b [] st' q.1 q.2 [] st hq trivial hs
    rw [List.append_nil] at h3
    obtain ⟨ra, B, hr⟩ := xout_some hN
    rw [hr] at hN
    obtain ⟨r', M', g1, g2, g3⟩ := hcall _ _ _ _ _ _ _ hr h3 hA
    obtain ⟨N', n1, n2⟩ := xout_ok hh hN hl h2 g2 g3
    exact ⟨h1, by rw [xsum_ok _ _ h2]; exact xble c, N', by rw [g1]; exact n1, n2⟩
theorem xG12_x {call : xj_F} {ac : xFa} (hcall : xcok call ac) {h : xha} {X : xj_X} {row : xj_mR} (hh : xhr row X.1 h) {l : List Nat} {pc : Nat} (hs2 : s = 0 ∨ s = 1 ∨ s = 3) (hN : xG12 ac h s a b l pc (pc + 3) lv' st' A = some N) (hl : xlr lv' lv) (hs : xvs st' st) (hA : xmr A M) :
    ∃ q rest, st.drop b = .ref q :: rest ∧ b ≤ st.length ∧ (rest.map fun v => v.category).sum ≤ 8 ∧ (s = 0 → ∃ o ci l', l = ci :: l' ∧ xj_obj M q = some o ∧ o.1 = ci) ∧ (s = 3 → 1 ≤ q ∧ q ≤ 10) ∧ ∃ N', xj_out X row (decide (s = 1)) pc lv rest (call a (.ref q :: (st.take b).reverse) M) = some N' ∧ xNr N N' := by
  unfold xG12 at hN
  split at hN
  · cases hN
  · rename_i q hq
    obtain ⟨h1, h2, h3⟩ := xsp_ok b [] st' q.1 q.2 [] st hq trivial hs
    rw [List.append_nil] at h3
    have fin : ∀ (x : xa) (rest' : List xa) (nt : Bool) (w : Value) (ws : List Value), st.drop b = w :: ws → xv x w → xvs rest' ws → x.1 = 2 → xout h nt pc (pc + 3) lv' rest' (ac a (x :: q.1) A) = some N → ∃ N', xj_out X row nt pc lv ws (call a (w :: (st.take b).reverse) M) = some N' ∧ xNr N N' := by
      intro x rest' nt w ws e hw hws hx hN
      obtain ⟨ra, B, hr⟩ := xout_some hN
      rw [hr] at hN
      obtain ⟨r', M', g1, g2, g3⟩ := hcall _ _ _ _ _ (w :: (st.take b).reverse) M hr ⟨hw, h3⟩ hA
      obtain ⟨N', n1, n2⟩ := xout_ok hh hN hl hws g2 g3
      exact ⟨N', by rw [g1]; exact n1, n2⟩
    rcases hs2 with rfl | rfl | rfl
    · simp only at hN
      split at hN
      · cases hN
      · rename_i x rest' hx
        rw [hx] at h2
        obtain ⟨w, ws, e, hw, hws⟩ := xvs_c h2
        obtain ⟨c, hN⟩ := xif_some hN
        obtain ⟨c1, c2⟩ := xif_and c
        have er := xv_r hw (xbeq c1)
        subst er
        split at hN
        · rename_i cc hcc
          split at hN
          · rename_i ci l'
            obtain ⟨c3, hN⟩ := xif_some hN
            obtain ⟨c3, c4⟩ := xif_and c3
            obtain ⟨-, -, o, o1, -, o2, -⟩ := xm_obj_ok hA hcc (xbeq c3)
            refine ⟨_, ws, e, h1, by rw [xsum_ok _ _ hws]; exact xble c2, fun _ => ⟨o, ci, l', rfl, o1, by rw [← o2]; exact xbeq c4⟩, fun q => absurd q (by decide), ?_⟩
            exact fin x rest' false _ ws e hw hws (xbeq c1) hN
          · cases hN
        · cases hN
    · simp only at hN
      split at hN
      · cases hN
      · rename_i x rest' hx
        rw [hx] at h2
        obtain ⟨w, ws, e, hw, hws⟩ := xvs_c h2
        obtain ⟨c, hN⟩ := xif_some hN
        obtain ⟨c1, c2⟩ := xif_and c
        have er := xv_r hw (xbeq c1)
        subst er
        refine ⟨_, ws, e, h1, by rw [xsum_ok _ _ hws]; exact xble c2, fun q => absurd q (by decide), fun q => absurd q (by decide), ?_⟩
        exact fin x rest' true _ ws e hw hws (xbeq c1) hN
    · simp only at hN
      split at hN
      · cases hN
      · rename_i x rest' hx
        rw [hx] at h2
        obtain ⟨w, ws, e, hw, hws⟩ := xvs_c h2
        obtain ⟨c, hN⟩ := xif_some hN
        obtain ⟨c1, c2⟩ := xif_and c
        have er := xv_r hw (xbeq c1)
        subst er
        obtain ⟨c3, hN⟩ := xif_some hN
        obtain ⟨c3, c4⟩ := xif_and c3
        refine ⟨_, ws, e, h1, by rw [xsum_ok _ _ hws]; exact xble c2, fun q => absurd q (by decide), fun _ => ⟨xble c3, xble c4⟩, ?_⟩
        exact fin x rest' false _ ws e hw hws (xbeq c1) hN
theorem xdf_ok {ty : FieldType} {t : Nat} (h : xo_tc ty = some t) : xv (xdf t) (defaultValue ty) := by
  have p0 : xa_e (0 : Int32) = 2147483648 := by decide
  have q0 : xa_E (0 : Int64) = 9223372036854775808 := by decide
  unfold xo_tc at h
  split at h
  · cases h; exact ⟨rfl, by rw [p0]; exact Nat.le_refl _, by rw [p0]; exact Nat.le_refl _⟩
  · cases h; exact ⟨rfl, by rw [q0]; exact Nat.le_refl _, by rw [q0]; exact Nat.le_refl _⟩
  · cases h; rfl
  · cases h; rfl
  · cases h; exact ⟨rfl, by rw [p0]; exact Nat.le_refl _, by rw [p0]; exact Nat.le_refl _⟩
  · cases h
theorem xo_tcs_ok (ci : Nat) : ∀ (ks : List Nat) (l : List Nat), ks.foldr (fun k r => match xo_tc (xj_ty ci k), r with | some t, some l => some (t :: l) | _, _ => none) (some []) = some l → xvs (xdfs l) (ks.map (fun k => defaultValue (xj_ty ci k))) := by
  intro ks
  induction ks with
  | nil => intro l h; cases h; trivial
  | cons k ks ih =>
    intro l h
    simp only [List.foldr_cons] at h
    split at h
    · rename_i t l' h1 h2
      cases h
      exact ⟨xdf_ok h1, ih l' h2⟩
    · cases h
theorem xnx_ok (hA : xmr A M) : xv (2, Nat.add 64 A.2.1, Nat.add 64 A.2.1) (.ref (xj_nx M)) := ⟨rfl, by show 64 + A.2.1 = 64 + M.1.length; rw [hA.1]⟩
theorem xG13_0 {S : Option (List xa)} {l : List Nat} {vs : List Value} (hv : xvs (xdfs l) vs) (h : xG13 S 0 a b nx l lv' st' A = some N) (hl : xlr lv' lv) (hs : xvs st' st) (hA : xmr A M) : xNr N (.inl (nx, lv, .ref (xj_nx M) :: st, xj_new M (.inr (.inr (a, vs))) b)) := by
  simp only [xG13, xw_eq] at h
  obtain ⟨c, h⟩ := xif_some h
  exact xNr_go h hl ⟨xnx_ok hA, hs⟩ (xmr_new hA (xblt c) ⟨rfl, rfl, hv⟩)
theorem xG13_1 {S : Option (List xa)} {l : List Nat} {dv : Value} (hv : xv (xdf b) dv) (h : xG13 S 1 a b nx l lv' st' A = some N) (hl : xlr lv' lv) (hs : xvs st' st) (hA : xmr A M) : ∃ n r, st = .int n :: r ∧ ¬ n < 0 ∧ n.toNatClampNeg ≤ 131072 ∧ xNr N (.inl (nx, lv, .ref (xj_nx M) :: r, xj_new M (.inr (.inl (a, n.toNatClampNeg, fun _ => dv))) n.toNatClampNeg)) := by
  simp only [xG13, xw_eq, xg_eq] at h
  split at h
  · rename_i n r
    obtain ⟨c, h⟩ := xif_some h
    obtain ⟨c1, c2⟩ := xif_and c
    obtain ⟨c1, c3⟩ := xif_and c1
    obtain ⟨c2, c4⟩ := xif_and c2
    obtain ⟨c4, c5⟩ := xif_and c4
    obtain ⟨w, ws, rfl, hw, hws⟩ := xvs_c hs
    obtain ⟨x, rfl, h3, h4⟩ := xv_i hw (xbeq c1)
    have c3 := xcon_eq c3
    have c2 : 2147483648 ≤ n.2.1 := xble c2
    have c4 : n.2.1 ≤ 2147614720 := xble c4
    have g := xa_e_int x
    have e : x.toNatClampNeg = Nat.sub n.2.1 2147483648 := by
      show x.toInt.toNat = n.2.1 - 2147483648
      omega
    refine ⟨x, ws, rfl, fun q => ?_, ?_, ?_⟩
    · have : x.toInt < 0 := Int32.lt_iff_toInt_lt.mp q
      omega
    · rw [e]; show n.2.1 - 2147483648 ≤ 131072; omega
    · rw [e]
      exact xNr_go h hl ⟨xnx_ok hA, hws⟩ (xmr_new hA (xblt c5) ⟨rfl, rfl, rfl, by show n.2.1 - 2147483648 ≤ 131072; omega, fun i hi => by
        have : xel (1, a, Nat.sub n.2.1 2147483648, xdf b, [], xs_no xa 17) i = xdf b := by
          unfold xel; simp only; rw [xs_no_get]
        rw [this]; exact hv⟩)
  · cases h
theorem xm_arr_inv {x : xa} {c : xcl} {k : Nat} (h : xm_arr A x.2.1 k = some c) : xm_cell A x.2.1 = some c ∧ c.1 = 1 ∧ c.2.1 = k := by
  unfold xm_arr at h
  split at h
  · rename_i c' hc
    obtain ⟨c1, h⟩ := xif_some h
    obtain ⟨c2, h⟩ := xif_some h
    cases h
    exact ⟨hc, xbeq c1, xbeq c2⟩
  · cases h
theorem xalt_ok {c : xcl} : ∀ n, xalt c n = true → ∀ i, i < n → (xel c i).1 = 0 := by
  intro n
  induction n with
  | zero => intro h i hi; omega
  | succ n ih =>
    intro h i hi
    have h : xif (Nat.beq (xel c n).1 0) (xalt c n) false = true := h
    obtain ⟨h1, h2⟩ := xif_and h
    by_cases e : i = n
    · rw [e]; exact xbeq h1
    · exact ih h2 i (by omega)
theorem xG13_2 {S : Option (List xa)} {l : List Nat} (h : xG13 S 2 a b nx l lv' st' A = some N) (hl : xlr lv' lv) (hs : xvs st' st) (hA : xmr A M) : ∃ q r x, st = .ref q :: r ∧ xj_arr M q = some x ∧ x.1 = a ∧ ((List.range x.2.1).all (fun i => fits (xj_kty a) (x.2.2 i))) = true ∧ xj_sm r = true ∧ xNr N (.inl (nx, lv, .ref (xj_nx M) :: r, xj_new M (.inr (.inl x)) x.2.1)) := by
  simp only [xG13, xw_eq] at h
  split at h
  · rename_i x r
    obtain ⟨c, h⟩ := xif_some h
    obtain ⟨c1, c2⟩ := xif_and c
    obtain ⟨c2, c3⟩ := xif_and c2
    obtain ⟨w, ws, rfl, hw, hws⟩ := xvs_c hs
    have e := xv_r hw (xbeq c1)
    subst e
    split at h
    · rename_i cc hcc
      obtain ⟨k1, k2, k3⟩ := xm_arr_inv hcc
      obtain ⟨c4, h⟩ := xif_some h
      obtain ⟨c4, c5⟩ := xif_and c4
      have c4 := xbeq c4
      obtain ⟨g1, g2, q, g3, g4, g5, g6, g7, g8⟩ := xm_arr_ok hA k1 k2
      refine ⟨_, ws, q, rfl, g3, by rw [← g5]; exact k3, ?_, ?_, ?_⟩
      · rw [List.all_eq_true]
        intro i hi
        have hi := List.mem_range.mp hi
        have := xalt_ok _ c5 i (by rw [g6]; exact hi)
        obtain ⟨y, ey, -⟩ := xv_i (g8 i hi) this
        rw [ey, c4]; rfl
      · exact decide_eq_true (by rw [xsum_ok _ _ hws]; exact xble c2)
      · rw [g6] at h
        exact xNr_go h hl ⟨xnx_ok hA, hws⟩ (xmr_new hA (xblt c3) ⟨k2, g5, g6, g7, g8⟩)
    · cases h
  · cases h
theorem xG13_3 {S : Option (List xa)} {l : List Nat} (h : xG13 S 3 a b nx l lv' st' A = some N) (hl : xlr lv' lv) (hs : xvs st' st) (hA : xmr A M) : ∃ q r x, st = .ref q :: r ∧ xj_arr M q = some x ∧ x.1 = a ∧ xNr N (.inl (nx, lv, .ref q :: r, M)) := by
  simp only [xG13] at h
  split at h
  · rename_i x r
    obtain ⟨c, h⟩ := xif_some h
    obtain ⟨w, ws, rfl, hw, hws⟩ := xvs_c hs
    have e := xv_r hw (xbeq c)
    subst e
    split at h
    · rename_i cc hcc
      obtain ⟨k1, k2, k3⟩ := xm_arr_inv hcc
      obtain ⟨g1, g2, q, g3, g4, g5, g6, g7, g8⟩ := xm_arr_ok hA k1 k2
      exact ⟨_, ws, q, rfl, g3, by rw [← g5]; exact k3, xNr_go h hl ⟨hw, hws⟩ hA⟩
    · cases h
  · cases h
theorem xa_nat {n : Nat} (h : n < 2147483648) : xa_e (Int32.ofNat n) = n + 2147483648 := by
  have h1 := xa_e_int (Int32.ofNat n)
  rw [Int32.toInt_ofNat_of_lt (by omega)] at h1
  omega
theorem xG13_4 {S : Option (List xa)} {S' : Option (List Int32)} (hS : xsr S S') {l : List Nat} (hs4 : 4 ≤ s) (h : xG13 S s a b nx l lv' st' A = some N) (hl : xlr lv' lv) (hs : xvs st' st) (hA : xmr A M) : ∃ q r n, st = .ref q :: r ∧ xNr N (.inl (nx, lv, .int (Int32.ofNat n) :: r, M)) ∧
    ((64 ≤ q ∧ ∃ x, xj_arr M q = some x ∧ n = x.2.1) ∨ (q = 0 ∧ ∃ ys : List Int32, S' = some ys ∧ n = ys.length) ∨ (11 ≤ q ∧ q ≤ 20 ∧ n = (xj_sB (q - 11)).length)) := by
  obtain ⟨s, rfl⟩ : ∃ k, s = k + 4 := ⟨s - 4, by omega⟩
  simp only [xG13, xg_eq] at h
  split at h
  · rename_i x r
    obtain ⟨c, h⟩ := xif_some h
    obtain ⟨w, ws, rfl, hw, hws⟩ := xvs_c hs
    have e := xv_r hw (xbeq c)
    subst e
    have put : ∀ n : Nat, n < 2147483648 → xv (0, Nat.add n 2147483648, Nat.add n 2147483648) (.int (Int32.ofNat n)) := fun n hn => ⟨rfl, by rw [xa_nat hn]; exact Nat.le_refl _, by rw [xa_nat hn]; exact Nat.le_refl _⟩
    cases c2 : Nat.ble 64 x.2.1 with
    | true =>
      rw [c2, xif_t] at h
      split at h
      · rename_i cc hcc
        obtain ⟨c3, h⟩ := xif_some h
        obtain ⟨g1, g2, q, g3, g4, g5, g6, g7, g8⟩ := xm_arr_ok hA hcc (xbeq c3)
        rw [g6] at h
        exact ⟨_, ws, q.2.1, rfl, xNr_go h hl ⟨put _ (by omega), hws⟩ hA, Or.inl ⟨g1, q, g3, rfl⟩⟩
      · cases h
    | false =>
      rw [c2, xif_f] at h
      cases c3 : Nat.beq x.2.1 0 with
      | true =>
        rw [c3, xif_t] at h
        cases S with
        | none => cases h
        | some bx =>
          obtain ⟨ys, y1, y2, y3⟩ := hS bx rfl
          simp only at h
          have e := xvs_len _ _ y3
          rw [List.length_map] at e
          rw [e] at h
          exact ⟨_, ws, ys.length, rfl, xNr_go h hl ⟨put _ (by omega), hws⟩ hA, Or.inr (Or.inl ⟨xbeq c3, ys, y1, rfl⟩)⟩
      | false =>
        rw [c3, xif_f] at h
        obtain ⟨c4, h⟩ := xif_some h
        obtain ⟨c4, c5⟩ := xif_and c4
        have hn : (xj_sB (x.2.1 - 11)).length < 2147483648 := by
          have : ∀ k, (xj_sB k).length ≤ 100 := by
            intro k
            unfold xj_sB
            split <;> decide
          have := this (x.2.1 - 11)
          omega
        exact ⟨_, ws, _, rfl, xNr_go h hl ⟨put _ hn, hws⟩ hA, Or.inr (Or.inr ⟨xble c4, xble c5, rfl⟩)⟩
  · cases h
theorem xo_tgs_ok (pc : Nat) : ∀ (offs : List Int) (l : List Nat), xo_tgs pc offs = some l → l.length = offs.length ∧ ∀ (i t : Nat), l[i]? = some t → ∃ off, offs[i]? = some off ∧ xj_tg pc off = some t := by
  intro offs
  induction offs with
  | nil => intro l h; cases h; exact ⟨rfl, fun i t q => by simp at q⟩
  | cons o offs ih =>
    intro l h
    simp only [xo_tgs, List.foldr_cons] at h
    split at h
    · rename_i t l' h1 h2
      cases h
      obtain ⟨i1, i2⟩ := ih l' h2
      refine ⟨by simp [i1], fun i u q => ?_⟩
      cases i with
      | zero => simp at q; subst q; exact ⟨o, rfl, h1⟩
      | succ i => simp at q; obtain ⟨off, o1, o2⟩ := i2 i u q; exact ⟨off, by simpa using o1, o2⟩
    · cases h
theorem xG14_ok {pc : Nat} {d lo hi : Int} {offs : Array Int} {l : List Nat} (hd : xj_tg pc d = some b) (hl2 : xo_tgs pc offs.toList = some l) (h0 : 0 ≤ lo + 2147483648) (h1 : hi + 1 = lo + offs.size) (ha : a = (lo + 2147483648).toNat) (h : xG14 a b l lv' st' A = some N) (hl : xlr lv' lv) (hs : xvs st' st) (hA : xmr A M) :
    ∃ q t r, xj_ts d lo hi offs st = some ((q, true), r) ∧ xj_tg pc q = some t ∧ xNr N (.inl (t, lv, r, M)) := by
  obtain ⟨i1, i2⟩ := xo_tgs_ok pc _ _ hl2
  have i1 : l.length = offs.size := by rw [i1]; rfl
  simp only [xG14] at h
  split at h
  · rename_i x r
    obtain ⟨c, h⟩ := xif_some h
    obtain ⟨w, ws, rfl, hw, hws⟩ := xvs_c hs
    obtain ⟨y, rfl, h3, h4⟩ := xv_i hw (xbeq c)
    have g := xa_e_int y
    cases c1 : Nat.blt x.2.2 a with
    | true =>
      rw [c1, xif_t] at h
      have c1 : x.2.2 < a := xblt c1
      refine ⟨d, b, ws, ?_, hd, xNr_go h hl hws hA⟩
      simp only [xj_ts]
      rw [if_pos (Or.inl (by omega))]
    | false =>
      rw [c1, xif_f] at h
      cases c2 : Nat.ble (Nat.add a l.length) x.2.1 with
      | true =>
        rw [c2, xif_t] at h
        have c2 : a + l.length ≤ x.2.1 := xble c2
        refine ⟨d, b, ws, ?_, hd, xNr_go h hl hws hA⟩
        simp only [xj_ts]
        rw [if_pos (Or.inr (by omega))]
      | false =>
        rw [c2, xif_f] at h
        obtain ⟨c3, h⟩ := xif_some h
        obtain ⟨c3, c4⟩ := xif_and c3
        have c3 := xcon_eq c3
        have c4 : a ≤ x.2.1 := xble c4
        split at h
        · rename_i t ht
          obtain ⟨off, o1, o2⟩ := i2 _ _ ht
          have hlt := (List.getElem?_eq_some_iff.mp ht).1
          have hlt : x.2.1 - a < l.length := hlt
          refine ⟨off, t, ws, ?_, o2, xNr_go h hl hws hA⟩
          simp only [xj_ts]
          rw [if_neg (by rintro (q | q) <;> omega)]
          have e : (y.toInt - lo).toNat = Nat.sub x.2.1 a := by
            show _ = x.2.1 - a
            omega
          rw [e]
          have o1 : offs[Nat.sub x.2.1 a]? = some off := by
            rw [← Array.getElem?_toList]; exact o1
          rw [o1]
        · cases h
  · cases h
theorem xG15_0 {h : xha} {d : Nat} (hN : xG15 h d 0 a nx lv' st' A = some N) (hl : xlr lv' lv) (hs : xvs st' st) (hA : xmr A M) : ∃ q r, st = .ref q :: r ∧ xj_small r = true ∧ xNr N (.inl (nx, lv, r, M)) := by
  simp only [xG15] at hN
  split at hN
  · rename_i x r
    obtain ⟨c, hN⟩ := xif_some hN
    obtain ⟨c1, c2⟩ := xif_and c
    obtain ⟨w, ws, rfl, hw, hws⟩ := xvs_c hs
    have e := xv_r hw (xbeq c1)
    subst e
    exact ⟨_, ws, rfl, decide_eq_true (by rw [xsum_ok _ _ hws]; exact xble c2), xNr_go hN hl hws hA⟩
  · cases hN
theorem xG15_1 {h : xha} {d : Nat} (hN : xG15 h d 1 a nx lv' st' A = some N) (hl : xlr lv' lv) (hs : xvs st' st) (hA : xmr A M) : ∃ n x r, st = .int n :: .int x :: r ∧ 0 ≤ x ∧ x < n ∧ 1 ≤ d ∧ xj_small r = true ∧ xNr N (.inl (nx, lv, r, M)) := by
  simp only [xG15] at hN
  split at hN
  · rename_i n x r
    obtain ⟨c, hN⟩ := xif_some hN
    obtain ⟨c1, c2⟩ := xif_and c
    obtain ⟨c1, c3⟩ := xif_and c1
    obtain ⟨c2, c4⟩ := xif_and c2
    obtain ⟨c4, c5⟩ := xif_and c4
    obtain ⟨c5, c6⟩ := xif_and c5
    obtain ⟨w, ws, rfl, hw, hws⟩ := xvs_c hs
    obtain ⟨z, zs, rfl, hz, hzs⟩ := xvs_c hws
    obtain ⟨y', rfl, h3, h4⟩ := xv_i hw (xbeq c1)
    obtain ⟨x', rfl, h5, h6⟩ := xv_i hz (xbeq c3)
    have c2 : 2147483648 ≤ x.2.1 := xble c2
    have c4 : x.2.2 < n.2.1 := xblt c4
    exact ⟨y', x', zs, rfl, xa_le.mp (by rw [xa_0]; omega), xa_lt2.mp (by omega), xble c5, decide_eq_true (by rw [xsum_ok _ _ hzs]; exact xble c6), xNr_go hN hl hzs hA⟩
  · cases hN
theorem xG15_2 {h : xha} {d : Nat} (hN : xG15 h d 2 a nx lv' st' A = some N) (hs : xvs st' st) (hA : xmr A M) : h = none ∧ st = [] ∧ 5 ≤ d ∧ xNr N (.inr (.inr a, xj_new M (.inl ()) 6)) := by
  simp only [xG15] at hN
  split at hN
  · split at hN
    · obtain ⟨c, hN⟩ := xif_some hN
      obtain ⟨c1, c2⟩ := xif_and c
      cases hN
      exact ⟨rfl, xvs_n hs, xble c1, _, _, rfl, rfl, xmr_exc hA (xblt c2)⟩
    · cases hN
  · cases hN
theorem xG15_3 {h : xha} {d : Nat} (hN : xG15 h d 3 a nx lv' st' A = some N) (hl : xlr lv' lv) (hs : xvs st' st) (hA : xmr A M) : ∃ q r, st = .ref q :: r ∧ 1 ≤ q ∧ q ≤ 10 ∧ xNr N (.inl (nx, lv, .ref (q + 10) :: r, M)) := by
  simp only [xG15, xw_eq] at hN
  split at hN
  · rename_i x r
    obtain ⟨c, hN⟩ := xif_some hN
    obtain ⟨c1, c2⟩ := xif_and c
    obtain ⟨c2, c3⟩ := xif_and c2
    obtain ⟨w, ws, rfl, hw, hws⟩ := xvs_c hs
    have e := xv_r hw (xbeq c1)
    subst e
    exact ⟨_, ws, rfl, xble c2, xble c3, xNr_go hN hl ⟨⟨rfl, rfl⟩, hws⟩ hA⟩
  · cases hN
theorem xG15_4 {h : xha} {d : Nat} (hN : xG15 h d 4 a nx lv' st' A = some N) (hl : xlr lv' lv) (hs : xvs st' st) (hA : xmr A M) : ∃ q r, st = .ref q :: r ∧ 1 ≤ q ∧ q ≤ 10 ∧ xNr N (.inl (nx, lv, .int 0 :: r, M)) := by
  simp only [xG15] at hN
  split at hN
  · rename_i x r
    obtain ⟨c, hN⟩ := xif_some hN
    obtain ⟨c1, c2⟩ := xif_and c
    obtain ⟨c2, c3⟩ := xif_and c2
    obtain ⟨w, ws, rfl, hw, hws⟩ := xvs_c hs
    have e := xv_r hw (xbeq c1)
    subst e
    exact ⟨_, ws, rfl, xble c2, xble c3, xNr_go hN hl ⟨⟨rfl, by rw [xa_0]; exact Nat.le_refl _, by rw [xa_0]; exact Nat.le_refl _⟩, hws⟩ hA⟩
  · cases hN
end
