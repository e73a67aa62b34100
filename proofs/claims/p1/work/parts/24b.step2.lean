section
variable {lv' st' : List xa} {A : xme} {lv : xj_L} {st : List Value} {M : xj_M} {N : xNa} {s a b nx : Nat}
theorem xG5_ok {S : Option (List xa)} {S' : Option (List Int32)} (hS : xsr S S') (h : xG5 S s nx lv' st' A = some N) (hl : xlr lv' lv) (hs : xvs st' st) (hA : xmr A M) : ∃ x r st1 v, st = .int x :: .ref r :: st1 ∧ xNr N (.inl (nx, lv, v :: st1, M)) ∧
    ((64 ≤ r ∧ ∃ q j, xj_arr M r = some q ∧ xj_ix q.2.1 x = some j ∧ v = q.2.2 j ∧ (if s = 5 then 5 ≤ q.1 else if s = 1 then q.1 ≤ 1 else q.1 = s)) ∨
     (r = 0 ∧ s = 3 ∧ ∃ ys : List Int32, S' = some ys ∧ ¬ (x < 0 ∨ ys.length ≤ x.toNatClampNeg) ∧ v = .int (ys.getD x.toNatClampNeg 0)) ∨
     (11 ≤ r ∧ r ≤ 20 ∧ s = 1 ∧ ¬ (x < 0 ∨ (xj_sB (r - 11)).length ≤ x.toNatClampNeg) ∧ v = .int ((xj_sB (r - 11)).getD x.toNatClampNeg 0))) := by
  simp only [xG5, xw_eq, xg_eq] at h
  split at h
  · rename_i i x r
    obtain ⟨c, h⟩ := xif_some h
    obtain ⟨c1, c2⟩ := xif_and c
    obtain ⟨w, ws, rfl, hw, hws⟩ := xvs_c hs
    obtain ⟨z, zs, rfl, hz, hzs⟩ := xvs_c hws
    obtain ⟨y, rfl, b1, b2⟩ := xv_i hw (xbeq c1)
    have e := xv_r hz (xbeq c2)
    subst e
    have nat : ∀ (n : Nat), 2147483648 ≤ i.2.1 → i.2.1 - 2147483648 = n → xcon i = true → y.toNatClampNeg = n ∧ ¬ y < 0 := by
      intro n g1 g2 g3
      have g3 := xcon_eq g3
      have g4 := xa_e_int y
      refine ⟨?_, fun q => ?_⟩
      · show y.toInt.toNat = n
        omega
      · have : y.toInt < 0 := Int32.lt_iff_toInt_lt.mp q
        omega
    cases c3 : Nat.ble 64 x.2.1 with
    | true =>
      rw [c3, xif_t] at h
      split at h
      · rename_i cc hcc
        obtain ⟨c4, h⟩ := xif_some h
        obtain ⟨c4, c5⟩ := xif_and c4
        obtain ⟨g1, g2, q, g3, g4, g5, g6, g7, g8⟩ := xm_arr_ok hA hcc (xbeq c4)
        split at h
        · rename_i v hv
          obtain ⟨j, j1, j2⟩ := xload_ok g6 g8 b1 b2 hv
          refine ⟨y, _, zs, _, rfl, xNr_go h hl ⟨j2, hzs⟩ hA, Or.inl ⟨g1, q, j, g3, j1, rfl, ?_⟩⟩
          rw [← g5]
          cases d1 : Nat.beq s 5 with
          | true => rw [d1, xif_t] at c5; rw [if_pos (xbeq d1)]; exact xble c5
          | false =>
            rw [d1, xif_f] at c5
            rw [if_neg (xnbeq d1)]
            cases d2 : Nat.beq s 1 with
            | true => rw [d2, xif_t] at c5; rw [if_pos (xbeq d2)]; exact xble c5
            | false => rw [d2, xif_f] at c5; rw [if_neg (xnbeq d2)]; exact xbeq c5
        · cases h
      · cases h
    | false =>
      rw [c3, xif_f] at h
      cases c4 : Nat.beq x.2.1 0 with
      | true =>
        rw [c4, xif_t] at h
        obtain ⟨c5, h⟩ := xif_some h
        cases S with
        | none => cases h
        | some bx =>
          obtain ⟨ys, y1, y2, y3⟩ := hS bx rfl
          simp only at h
          obtain ⟨c6, h⟩ := xif_some h
          obtain ⟨c6, c7⟩ := xif_and c6
          split at h
          · rename_i v hv
            obtain ⟨u, u1, u2⟩ := xvs_get _ _ y3 _ _ hv
            obtain ⟨n1, n2⟩ := nat _ (xble c7) rfl c6
            have u1 : (ys.map Value.int)[i.2.1 - 2147483648]? = some u := u1
            rw [← n1, List.getElem?_map] at u1
            obtain ⟨t, t1, rfl⟩ := Option.map_eq_some_iff.mp u1
            have t2 := (List.getElem?_eq_some_iff.mp t1).1
            refine ⟨y, _, zs, _, rfl, xNr_go h hl ⟨u2, hzs⟩ hA, Or.inr (Or.inl ⟨xbeq c4, xbeq c5, ys, y1, fun q => ?_, ?_⟩)⟩
            · rcases q with q | q
              · exact n2 q
              · omega
            · rw [List.getD_eq_getElem?_getD, t1]; rfl
          · cases h
      | false =>
        rw [c4, xif_f] at h
        obtain ⟨c5, h⟩ := xif_some h
        obtain ⟨c5, c6⟩ := xif_and c5
        obtain ⟨c6, c7⟩ := xif_and c6
        obtain ⟨c6, c8⟩ := xif_and c6
        obtain ⟨c7, c9⟩ := xif_and c7
        split at h
        · rename_i v hv
          obtain ⟨n1, n2⟩ := nat _ (xble c9) rfl c7
          have hv : (xj_sB (x.2.1 - 11))[i.2.1 - 2147483648]? = some v := hv
          rw [← n1] at hv
          have t2 := (List.getElem?_eq_some_iff.mp hv).1
          refine ⟨y, _, zs, .int v, rfl, xNr_go h hl ⟨xv_ci v, hzs⟩ hA, Or.inr (Or.inr ⟨xble c6, xble c8, xbeq c5, fun q => ?_, ?_⟩)⟩
          · rcases q with q | q
            · exact n2 q
            · omega
          · rw [List.getD_eq_getElem?_getD, hv]; rfl
        · cases h
  · cases h
end
