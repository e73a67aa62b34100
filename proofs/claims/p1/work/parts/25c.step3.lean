section
variable {lv' st' : List xa} {A : xme} {lv : xj_L} {st : List Value} {M : xj_M} {N : xNa} {s a b nx : Nat}
theorem xG12_2 {call : xj_F} {ac : xFa} (hcall : xcok call ac) {h : xha} {X : xj_X} {row : xj_mR} (hh : xhr row X.1 h) {l : List Nat} {pc : Nat} (hN : xG12 ac h 2 a b l pc (pc + 3) lv' st' A = some N) (hl : xlr lv' lv) (hs : xvs st' st) (hA : xmr A M) :
    b ≤ st.length ∧ ((st.drop b).map fun v => v.category).sum ≤ 8 ∧ ∃ N', xj_out X row false pc lv (st.drop b) (call a (st.take b).reverse M) = some N' ∧ xNr N N' := by
  simp only [xG12, xfk_eq] at hN
  split at hN
  · cases hN
  · rename_i q hq
    (try simp only at hN)
    obtain ⟨c, hN⟩ := xif_some hN
    obtain ⟨h1, h2, h3⟩ := xsp_ok b [] st' q.1 q.2 [] st hq trivial hs
    rw [List.append_nil] at h3
    obtain ⟨ra, B, hr⟩ := xout_some hN
    rw [hr] at hN
    obtain ⟨r', M', g1, g2, g3⟩ := hcall _ _ _ _ _ _ _ hr h3 hA
    obtain ⟨N', n1, n2⟩ := xout_ok hh hN hl h2 g2 g3
    exact ⟨h1, by rw [xsum_ok _ _ h2]; exact xble c, N', by rw [g1]; exact n1, n2⟩
theorem xG12_x {call : xj_F} {ac : xFa} (hcall : xcok call ac) {h : xha} {X : xj_X} {row : xj_mR} (hh : xhr row X.1 h) {l : List Nat} {pc : Nat} (hs2 : s = 0 ∨ s = 1 ∨ s = 3) (hN : xG12 ac h s a b l pc (pc + 3) lv' st' A = some N) (hl : xlr lv' lv) (hs : xvs st' st) (hA : xmr A M) :
    ∃ q rest, st.drop b = .ref q :: rest ∧ b ≤ st.length ∧ (rest.map fun v => v.category).sum ≤ 8 ∧ (s = 0 → ∃ o ci l', l = ci :: l' ∧ xj_obj M q = some o ∧ o.1 = ci) ∧ (s = 3 → 1 ≤ q ∧ q ≤ 10) ∧ ∃ N', xj_out X row (decide (s = 1)) pc lv rest (call a (.ref q :: (st.take b).reverse) M) = some N' ∧ xNr N N' := by
  simp only [xG12, xfk_eq] at hN
  split at hN
  · cases hN
  · rename_i q hq
    obtain ⟨h1, h2, h3⟩ := xsp_ok b [] st' q.1 q.2 [] st hq trivial hs
    rw [List.append_nil] at h3
    have fin : ∀ (x : xa) (rest' : List xa) (nt : Bool) (w : Value) (ws : List Value), st.drop b = w :: ws → xv x w → xvs rest' ws → x.1 = 2 → xout h nt pc (pc + 3) lv' rest' (ac a (x :: q.1) A) = some N → ∃ N', xj_out X row nt pc lv ws (call a (w :: (st.take b).reverse) M) = some N' ∧ xNr N N' := by
      intro x rest' nt w ws e hw hws hx hN
      obtain ⟨ra, B, hr⟩ := xout_some hN
      rw [hr] at hN
      obtain ⟨r', M', g1, g2, g3⟩ := hcall _ _ _ _ _ (w :: (st.take b).reverse) M hr ⟨hw, h3⟩ hA
      obtain ⟨N', n1, n2⟩ := xout_ok hh hN hl hws g2 g3
      exact ⟨N', by rw [g1]; exact n1, n2⟩
    rcases hs2 with rfl | rfl | rfl
    · (try simp only at hN)
      split at hN
      · cases hN
      · rename_i x rest' hx
        rw [hx] at h2
        obtain ⟨w, ws, e, hw, hws⟩ := xvs_c h2
        obtain ⟨c, hN⟩ := xif_some hN
        obtain ⟨c1, c2⟩ := xif_and c
        have er := xv_r hw (xbeq c1)
        subst er
        split at hN
        · rename_i cc hcc
          cases l with
          | nil => cases hN
          | cons ci l' =>
            (try simp only at hN)
            obtain ⟨c3, hN⟩ := xif_some hN
            obtain ⟨c3, c4⟩ := xif_and c3
            obtain ⟨-, -, o, o1, -, o2, -⟩ := xm_obj_ok hA hcc (xbeq c3)
            refine ⟨_, ws, e, h1, by rw [xsum_ok _ _ hws]; exact xble c2, fun _ => ⟨o, ci, l', rfl, o1, by rw [← o2]; exact xbeq c4⟩, fun q => absurd q (by decide), ?_⟩
            exact fin x rest' false _ ws e hw hws (xbeq c1) hN
        · cases hN
    · (try simp only at hN)
      split at hN
      · cases hN
      · rename_i x rest' hx
        rw [hx] at h2
        obtain ⟨w, ws, e, hw, hws⟩ := xvs_c h2
        obtain ⟨c, hN⟩ := xif_some hN
        obtain ⟨c1, c2⟩ := xif_and c
        have er := xv_r hw (xbeq c1)
        subst er
        refine ⟨_, ws, e, h1, by rw [xsum_ok _ _ hws]; exact xble c2, fun q => absurd q (by decide), fun q => absurd q (by decide), ?_⟩
        exact fin x rest' true _ ws e hw hws (xbeq c1) hN
    · (try simp only at hN)
      split at hN
      · cases hN
      · rename_i x rest' hx
        rw [hx] at h2
        obtain ⟨w, ws, e, hw, hws⟩ := xvs_c h2
        obtain ⟨c, hN⟩ := xif_some hN
        obtain ⟨c1, c2⟩ := xif_and c
        have er := xv_r hw (xbeq c1)
        subst er
        obtain ⟨c3, hN⟩ := xif_some hN
        obtain ⟨c3, c4⟩ := xif_and c3
        refine ⟨_, ws, e, h1, by rw [xsum_ok _ _ hws]; exact xble c2, fun q => absurd q (by decide), fun _ => ⟨xble c3, xble c4⟩, ?_⟩
        exact fin x rest' false _ ws e hw hws (xbeq c1) hN
end
