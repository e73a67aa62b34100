section
variable {lv' st' : List xa} {A : xme} {lv : xj_L} {st : List Value} {M : xj_M} {N : xNa} {s a b nx : Nat}
theorem xG6_ok (h : xG6 s nx lv' st' A = some N) (hl : xlr lv' lv) (hs : xvs st' st) (hA : xmr A M) (hs5 : s = 1 ∨ s = 2 ∨ s = 3 ∨ s = 4 ∨ s = 5) : ∃ w x r st1 q j w', st = w :: .int x :: .ref r :: st1 ∧ xj_arr M r = some q ∧ xj_ix q.2.1 x = some j ∧ xNr N (.inl (nx, lv, st1, xj_put M r (.inr (.inl (q.1, q.2.1, updV q.2.2 j w'))))) ∧
    (if s = 5 then w' = w ∧ 5 ≤ q.1 ∧ (w = .null ∨ ∃ v o, w = .ref v ∧ xj_obj M v = some o ∧ q.1 = o.1 + 5) else if s = 4 then w' = w ∧ q.1 = 4 ∧ ∃ y, w = .long y else ∃ y, w = .int y ∧ (if s = 3 then q.1 = 3 ∧ w' = w else w' = narrow (xj_kty q.1) w ∧ (if s = 1 then q.1 ≤ 1 else q.1 = s))) := by
  simp only [xG6, xw_eq] at h
  split at h
  · rename_i v i x r
    obtain ⟨c, h⟩ := xif_some h
    obtain ⟨c1, c2⟩ := xif_and c
    obtain ⟨w, ws, rfl, hw, hws⟩ := xvs_c hs
    obtain ⟨z, zs, rfl, hz, hzs⟩ := xvs_c hws
    obtain ⟨u, us, rfl, hu, hus⟩ := xvs_c hzs
    obtain ⟨y, rfl, b1, b2⟩ := xv_i hz (xbeq c1)
    have e := xv_r hu (xbeq c2)
    subst e
    split at h
    · rename_i cc hcc
      obtain ⟨c4, h⟩ := xif_some h
      obtain ⟨g1, g2, q, g3, g4, g5, g6, g7, g8⟩ := xm_arr_ok hA hcc (xbeq c4)
      have fin : ∀ (v2 : xa) (w2 : Value), xv v2 w2 → xfin nx lv' r (xstore A x.2.1 cc i v2) = some N → ∃ j, xj_ix q.2.1 y = some j ∧ xNr N (.inl (nx, lv, us, xj_put M x.2.1 (.inr (.inl (q.1, q.2.1, updV q.2.2 j w2))))) := by
        intro v2 w2 hv2 hh
        cases hB : xstore A x.2.1 cc i v2 with
        | none => rw [hB] at hh; cases hh
        | some B =>
          rw [hB] at hh
          obtain ⟨j, j1, j2⟩ := xstore_ok hA hcc (xbeq c4) g3 b1 b2 hv2 hB
          exact ⟨j, j1, xNr_go hh hl hus j2⟩
      cases d5 : Nat.beq s 5 with
      | true =>
        rw [d5, xif_t] at h
        cases d3 : Nat.beq v.1 3 with
        | true =>
          rw [d3, xif_t] at h
          obtain ⟨c5, h⟩ := xif_some h
          obtain ⟨j, j1, j2⟩ := fin v w hw h
          exact ⟨w, y, _, us, q, j, w, rfl, g3, j1, j2, by rw [if_pos (xbeq d5)]; exact ⟨rfl, by rw [← g5]; exact xble c5, Or.inl (xv_n hw (xbeq d3))⟩⟩
        | false =>
          rw [d3, xif_f] at h
          obtain ⟨c5, h⟩ := xif_some h
          split at h
          · rename_i ob hob
            obtain ⟨c6, h⟩ := xif_some h
            obtain ⟨c6, c7⟩ := xif_and c6
            obtain ⟨-, -, o, o1, -, o2, -⟩ := xm_obj_ok hA hob (xbeq c6)
            obtain ⟨j, j1, j2⟩ := fin v w hw h
            have e7 : cc.2.1 = ob.2.1 + 5 := xbeq c7
            exact ⟨w, y, _, us, q, j, w, rfl, g3, j1, j2, by rw [if_pos (xbeq d5)]; exact ⟨rfl, by omega, Or.inr ⟨_, o, xv_r hw (xbeq c5), o1, by omega⟩⟩⟩
          · cases h
      | false =>
        rw [d5, xif_f] at h
        cases d4 : Nat.beq s 4 with
        | true =>
          rw [d4, xif_t] at h
          obtain ⟨c5, h⟩ := xif_some h
          obtain ⟨c5, c6⟩ := xif_and c5
          obtain ⟨j, j1, j2⟩ := fin v w hw h
          obtain ⟨y2, e2, -⟩ := xv_l hw (xbeq c6)
          exact ⟨w, y, _, us, q, j, w, rfl, g3, j1, j2, by rw [if_neg (xnbeq d5), if_pos (xbeq d4)]; exact ⟨rfl, by rw [← g5]; exact xbeq c5, y2, e2⟩⟩
        | false =>
          rw [d4, xif_f] at h
          obtain ⟨c5, h⟩ := xif_some h
          obtain ⟨y2, rfl, e2, e3⟩ := xv_i hw (xbeq c5)
          cases d3 : Nat.beq s 3 with
          | true =>
            rw [d3, xif_t] at h
            obtain ⟨c6, h⟩ := xif_some h
            obtain ⟨j, j1, j2⟩ := fin v _ hw h
            exact ⟨_, y, _, us, q, j, _, rfl, g3, j1, j2, by rw [if_neg (xnbeq d5), if_neg (xnbeq d4)]; exact ⟨y2, rfl, by rw [if_pos (xbeq d3)]; exact ⟨by rw [← g5]; exact xbeq c6, rfl⟩⟩⟩
          | false =>
            rw [d3, xif_f] at h
            obtain ⟨c6, h⟩ := xif_some h
            have hk : q.1 ≤ 2 := by
              rw [← g5]
              cases d1 : Nat.beq s 1 with
              | true => rw [d1, xif_t] at c6; have := xble c6; omega
              | false =>
                rw [d1, xif_f] at c6
                have e6 := xbeq c6
                have n1 := xnbeq d1; have n3 := xnbeq d3; have n4 := xnbeq d4; have n5 := xnbeq d5
                rcases hs5 with q | q | q | q | q <;> first | (exact absurd q (by assumption)) | omega
            obtain ⟨j, j1, j2⟩ := fin (xnw cc.2.1 v) (narrow (xj_kty q.1) (.int y2)) (by rw [g5, xnr_ok _ _ hk]; exact xnw_ok e2 e3) h
            refine ⟨_, y, _, us, q, j, _, rfl, g3, j1, j2, ?_⟩
            rw [if_neg (xnbeq d5), if_neg (xnbeq d4)]
            refine ⟨y2, rfl, ?_⟩
            rw [if_neg (xnbeq d3)]
            refine ⟨rfl, ?_⟩
            rw [← g5]
            cases d1 : Nat.beq s 1 with
            | true => rw [d1, xif_t] at c6; rw [if_pos (xbeq d1)]; exact xble c6
            | false => rw [d1, xif_f] at c6; rw [if_neg (xnbeq d1)]; exact xbeq c6
    · cases h
  · cases h
end
