/-! Arrays, arithmetic, returns, calls -/
theorem xix_ok {n : Nat} {x : Int32} (h1 : 2147483648 ≤ xa_e x) (h2 : xa_e x < n + 2147483648) : xj_ix n x = some (xa_e x - 2147483648) := by
  have h3 := xa_e_int x
  have e : x.toNatClampNeg = xa_e x - 2147483648 := by
    show x.toInt.toNat = _
    omega
  unfold xj_ix
  rw [if_neg, e]
  rintro (q | q)
  · have : x.toInt < 0 := Int32.lt_iff_toInt_lt.mp q
    omega
  · omega
theorem xall_ok {c : xcl} {v : xa} : ∀ n i, xall c v n i = true → ∀ k, k < n → xel c (i + k) = v := by
  intro n
  induction n with
  | zero => intro i h k hk; omega
  | succ n ih =>
    intro i h k hk
    have h : xif (xaeq (xel c i) v) (xall c v n (Nat.succ i)) false = true := h
    obtain ⟨h1, h2⟩ := xif_and h
    cases k with
    | zero => exact xaeq_eq h1
    | succ k =>
      have := ih (i + 1) h2 k (by omega)
      rw [show i + (k + 1) = i + 1 + k by omega]
      exact this
theorem xload_ok {c : xcl} {i v : xa} {x : Int32} {n : Nat} {f : Nat → Value} (hc : c.2.2.1 = n) (hf : ∀ j, j < n → xv (xel c j) (f j)) (h1 : i.2.1 ≤ xa_e x) (h2 : xa_e x ≤ i.2.2) (h : xload c i = some v) : ∃ j, xj_ix n x = some j ∧ xv v (f j) := by
  unfold xload at h
  obtain ⟨c1, h⟩ := xif_some h
  obtain ⟨c2, h⟩ := xif_some h
  have c1 : 2147483648 ≤ i.2.1 := xble c1
  have c2 : i.2.2 < c.2.2.1 + 2147483648 := xblt c2
  refine ⟨_, xix_ok (by omega) (by omega), ?_⟩
  cases c3 : xcon i with
  | true =>
    rw [c3, xif_t] at h
    cases h
    have c3 := xcon_eq c3
    have : xa_e x = i.2.1 := by omega
    rw [this]
    exact hf _ (by omega)
  | false =>
    rw [c3, xif_f] at h
    obtain ⟨c4, h⟩ := xif_some h
    cases h
    have := xall_ok _ _ c4 (xa_e x - i.2.1) (by show _ < i.2.2 - i.2.1 + 1; omega)
    rw [← this]
    have e : Nat.sub i.2.1 2147483648 + (xa_e x - i.2.1) = xa_e x - 2147483648 := by
      show i.2.1 - 2147483648 + (xa_e x - i.2.1) = _
      omega
    rw [e]
    exact hf _ (by omega)
theorem xel_set {c : xcl} {j : Nat} {w : xa} (hj : j < 131072) (i : Nat) (hi : i < 131072) : xel (c.1, c.2.1, c.2.2.1, c.2.2.2.1, c.2.2.2.2.1, xs_set 17 c.2.2.2.2.2 j w) i = if i = j then w else xel c i := by
  unfold xel
  simp only
  rw [xs_get_set 17 c.2.2.2.2.2 j i w (by omega) (by omega)]
  split <;> rfl
theorem xstore_ok {A B : xme} {M : xj_M} {a : Nat} {c : xcl} {i w : xa} {x : Int32} {w' : Value} {q : Nat × Nat × (Nat → Value)} (hA : xmr A M) (hcc : xm_cell A a = some c) (h0 : c.1 = 1) (hq : xj_arr M a = some q) (h1 : i.2.1 ≤ xa_e x) (h2 : xa_e x ≤ i.2.2) (hw : xv w w') (h : xstore A a c i w = some B) : ∃ j, xj_ix q.2.1 x = some j ∧ xmr B (xj_put M a (.inr (.inl (q.1, q.2.1, updV q.2.2 j w')))) := by
  obtain ⟨g1, g2, q', g3, g4, g5, g6, g7, g8⟩ := xm_arr_ok hA hcc h0
  rw [hq] at g3
  cases g3
  unfold xstore at h
  obtain ⟨c1, h⟩ := xif_some h
  obtain ⟨c2, h⟩ := xif_some h
  obtain ⟨c3, h⟩ := xif_some h
  have c1 := xcon_eq c1
  have c2 : 2147483648 ≤ i.2.1 := xble c2
  have c3 : i.2.1 < c.2.2.1 + 2147483648 := xblt c3
  have e : xa_e x = i.2.1 := by omega
  refine ⟨_, xix_ok (by omega) (by omega), ?_⟩
  rw [e]
  have hj : i.2.1 - 2147483648 < q.2.1 := by omega
  cases c4 : xaeq (xel c (Nat.sub i.2.1 2147483648)) w with
  | true =>
    rw [c4, xif_t] at h
    cases h
    have c4 : xel c (i.2.1 - 2147483648) = w := xaeq_eq c4
    refine xmr_same hA g4 (fun c' h3 h4 => ?_)
    have : c' = c := by
      unfold xm_cell at hcc
      obtain ⟨-, hcc⟩ := xif_some hcc
      obtain ⟨-, hcc⟩ := xif_some hcc
      have hcc : xs_get 11 A.1 (a - 64) = some c := hcc
      rw [h4] at hcc
      cases hcc; rfl
    subst this
    refine ⟨h0, g5, g6, g7, fun k hk => ?_⟩
    show xv (xel c' k) (if k = i.2.1 - 2147483648 then w' else q.2.2 k)
    split
    · rename_i ek
      rw [ek, c4]; exact hw
    · exact g8 k hk
  | false =>
    rw [c4, xif_f] at h
    cases h
    refine xmr_put hA g2 g4 ⟨h0, g5, g6, g7, fun k hk => ?_⟩
    have hk : k < q.2.1 := hk
    have ee := xel_set (c := c) (j := i.2.1 - 2147483648) (w := w) (by omega) k (by omega)
    show xv (xel (c.1, c.2.1, c.2.2.1, c.2.2.2.1, c.2.2.2.2.1, xs_set 17 c.2.2.2.2.2 (i.2.1 - 2147483648) w) k) (if k = i.2.1 - 2147483648 then w' else q.2.2 k)
    rw [ee]
    split
    · exact hw
    · exact g8 k hk
theorem xnr_ok (k : Nat) (x : Int32) (hk : k ≤ 2) : narrow (xj_kty k) (.int x) = .int (xnr k x) := by
  match k, hk with
  | 0, _ => rfl
  | 1, _ => rfl
  | 2, _ => rfl
  | k + 3, h => omega
theorem xnw_ok {k : Nat} {v : xa} {x : Int32} (h1 : v.2.1 ≤ xa_e x) (h2 : xa_e x ≤ v.2.2) : xv (xnw k v) (.int (xnr k x)) := by
  unfold xnw
  cases c : xcon v with
  | false => exact xv_top
  | true =>
    have c := xcon_eq c
    have e : xa_e x = v.2.1 := by omega
    rw [xif_t, xg_eq, ← e, xa_d_e]
    exact xv_ci _
section
variable {lv' st' : List xa} {A : xme} {lv : xj_L} {st : List Value} {M : xj_M} {N : xNa} {s a b nx : Nat}
theorem xG5_ok {S : Option (List xa)} {S' : Option (List Int32)} (hS : xsr S S') (h : xG5 S s nx lv' st' A = some N) (hl : xlr lv' lv) (hs : xvs st' st) (hA : xmr A M) : ∃ x r st1 v, st = .int x :: .ref r :: st1 ∧ xNr N (.inl (nx, lv, v :: st1, M)) ∧
    ((64 ≤ r ∧ ∃ q j, xj_arr M r = some q ∧ xj_ix q.2.1 x = some j ∧ v = q.2.2 j ∧ (if s = 5 then 5 ≤ q.1 else if s = 1 then q.1 ≤ 1 else q.1 = s)) ∨
     (r = 0 ∧ s = 3 ∧ ∃ ys : List Int32, S' = some ys ∧ ¬ (x < 0 ∨ ys.length ≤ x.toNatClampNeg) ∧ v = .int (ys.getD x.toNatClampNeg 0)) ∨
     (11 ≤ r ∧ r ≤ 20 ∧ s = 1 ∧ ¬ (x < 0 ∨ (xj_sB (r - 11)).length ≤ x.toNatClampNeg) ∧ v = .int ((xj_sB (r - 11)).getD x.toNatClampNeg 0))) := by
  simp only [xG5, xw_eq, xg_eq] at h
  split at h
  · rename_i i x r
    obtain ⟨c, h⟩ := xif_some h
    obtain ⟨c1, c2⟩ := xif_and c
    obtain ⟨w, ws, rfl, hw, hws⟩ := xvs_c hs
    obtain ⟨z, zs, rfl, hz, hzs⟩ := xvs_c hws
    obtain ⟨y, rfl, b1, b2⟩ := xv_i hw (xbeq c1)
    have e := xv_r hz (xbeq c2)
    subst e
    have nat : ∀ (n : Nat), 2147483648 ≤ i.2.1 → i.2.1 - 2147483648 = n → xcon i = true → y.toNatClampNeg = n ∧ ¬ y < 0 := by
      intro n g1 g2 g3
      have g3 := xcon_eq g3
      have g4 := xa_e_int y
      refine ⟨?_, fun q => ?_⟩
      · show y.toInt.toNat = n
        omega
      · have : y.toInt < 0 := Int32.lt_iff_toInt_lt.mp q
        omega
    cases c3 : Nat.ble 64 x.2.1 with
    | true =>
      rw [c3, xif_t] at h
      split at h
      · rename_i cc hcc
        obtain ⟨c4, h⟩ := xif_some h
        obtain ⟨c4, c5⟩ := xif_and c4
        obtain ⟨g1, g2, q, g3, g4, g5, g6, g7, g8⟩ := xm_arr_ok hA hcc (xbeq c4)
        split at h
        · rename_i v hv
          obtain ⟨j, j1, j2⟩ := xload_ok g6 g8 b1 b2 hv
          refine ⟨y, _, zs, _, rfl, xNr_go h hl ⟨j2, hzs⟩ hA, Or.inl ⟨g1, q, j, g3, j1, rfl, ?_⟩⟩
          rw [← g5]
          cases d1 : Nat.beq s 5 with
          | true => rw [d1, xif_t] at c5; rw [if_pos (xbeq d1)]; exact xble c5
          | false =>
            rw [d1, xif_f] at c5
            rw [if_neg (xnbeq d1)]
            cases d2 : Nat.beq s 1 with
            | true => rw [d2, xif_t] at c5; rw [if_pos (xbeq d2)]; exact xble c5
            | false => rw [d2, xif_f] at c5; rw [if_neg (xnbeq d2)]; exact xbeq c5
        · cases h
      · cases h
    | false =>
      rw [c3, xif_f] at h
      cases c4 : Nat.beq x.2.1 0 with
      | true =>
        rw [c4, xif_t] at h
        obtain ⟨c5, h⟩ := xif_some h
        split at h
        · rename_i bx hbx
          obtain ⟨ys, y1, y2, y3⟩ := hS bx hbx
          obtain ⟨c6, h⟩ := xif_some h
          obtain ⟨c6, c7⟩ := xif_and c6
          split at h
          · rename_i v hv
            obtain ⟨u, u1, u2⟩ := xvs_get _ _ y3 _ _ hv
            obtain ⟨n1, n2⟩ := nat _ (xble c7) rfl c6
            have u1 : (ys.map Value.int)[i.2.1 - 2147483648]? = some u := u1
            rw [← n1, List.getElem?_map] at u1
            obtain ⟨t, t1, rfl⟩ := Option.map_eq_some_iff.mp u1
            have t2 := (List.getElem?_eq_some_iff.mp t1).1
            refine ⟨y, _, zs, _, rfl, xNr_go h hl ⟨u2, hzs⟩ hA, Or.inr (Or.inl ⟨xbeq c4, xbeq c5, ys, y1, fun q => ?_, ?_⟩)⟩
            · rcases q with q | q
              · exact n2 q
              · omega
            · rw [List.getD_eq_getElem?_getD, t1]; rfl
          · cases h
        · cases h
      | false =>
        rw [c4, xif_f] at h
        obtain ⟨c5, h⟩ := xif_some h
        obtain ⟨c5, c6⟩ := xif_and c5
        obtain ⟨c6, c7⟩ := xif_and c6
        obtain ⟨c6, c8⟩ := xif_and c6
        obtain ⟨c7, c9⟩ := xif_and c7
        split at h
        · rename_i v hv
          obtain ⟨n1, n2⟩ := nat _ (xble c9) rfl c7
          have hv : (xj_sB (x.2.1 - 11))[i.2.1 - 2147483648]? = some v := hv
          rw [← n1] at hv
          have t2 := (List.getElem?_eq_some_iff.mp hv).1
          refine ⟨y, _, zs, .int v, rfl, xNr_go h hl ⟨xv_ci v, hzs⟩ hA, Or.inr (Or.inr ⟨xble c6, xble c8, xbeq c5, fun q => ?_, ?_⟩)⟩
          · rcases q with q | q
            · exact n2 q
            · omega
          · rw [List.getD_eq_getElem?_getD, hv]; rfl
        · cases h
  · cases h
theorem xG6_ok (h : xG6 s nx lv' st' A = some N) (hl : xlr lv' lv) (hs : xvs st' st) (hA : xmr A M) (hs5 : s = 1 ∨ s = 2 ∨ s = 3 ∨ s = 4 ∨ s = 5) : ∃ w x r st1 q j w', st = w :: .int x :: .ref r :: st1 ∧ xj_arr M r = some q ∧ xj_ix q.2.1 x = some j ∧ xNr N (.inl (nx, lv, st1, xj_put M r (.inr (.inl (q.1, q.2.1, updV q.2.2 j w'))))) ∧
    (if s = 5 then w' = w ∧ 5 ≤ q.1 ∧ (w = .null ∨ ∃ v o, w = .ref v ∧ xj_obj M v = some o ∧ q.1 = o.1 + 5) else if s = 4 then w' = w ∧ q.1 = 4 ∧ ∃ y, w = .long y else ∃ y, w = .int y ∧ (if s = 3 then q.1 = 3 ∧ w' = w else w' = narrow (xj_kty q.1) w ∧ (if s = 1 then q.1 ≤ 1 else q.1 = s))) := by
  simp only [xG6, xw_eq] at h
  split at h
  · rename_i v i x r
    obtain ⟨c, h⟩ := xif_some h
    obtain ⟨c1, c2⟩ := xif_and c
    obtain ⟨w, ws, rfl, hw, hws⟩ := xvs_c hs
    obtain ⟨z, zs, rfl, hz, hzs⟩ := xvs_c hws
    obtain ⟨u, us, rfl, hu, hus⟩ := xvs_c hzs
    obtain ⟨y, rfl, b1, b2⟩ := xv_i hz (xbeq c1)
    have e := xv_r hu (xbeq c2)
    subst e
    split at h
    · rename_i cc hcc
      obtain ⟨c4, h⟩ := xif_some h
      obtain ⟨g1, g2, q, g3, g4, g5, g6, g7, g8⟩ := xm_arr_ok hA hcc (xbeq c4)
      have fin : ∀ (v2 : xa) (w2 : Value), xv v2 w2 → (match xstore A x.2.1 cc i v2 with | some B => xgo nx lv' r B | none => none) = some N → ∃ j, xj_ix q.2.1 y = some j ∧ xNr N (.inl (nx, lv, us, xj_put M x.2.1 (.inr (.inl (q.1, q.2.1, updV q.2.2 j w2))))) := by
        intro v2 w2 hv2 hh
        split at hh
        · rename_i B hB
          obtain ⟨j, j1, j2⟩ := xstore_ok hA hcc (xbeq c4) g3 b1 b2 hv2 hB
          exact ⟨j, j1, xNr_go hh hl hus j2⟩
        · cases hh
      cases d5 : Nat.beq s 5 with
      | true =>
        rw [d5, xif_t] at h
        rw [if_pos (xbeq d5)]
        cases d3 : Nat.beq v.1 3 with
        | true =>
          rw [d3, xif_t] at h
          obtain ⟨c5, h⟩ := xif_some h
          obtain ⟨j, j1, j2⟩ := fin v w hw h
          exact ⟨w, y, _, us, q, j, w, rfl, g3, j1, j2, rfl, by rw [← g5]; exact xble c5, Or.inl (xv_n hw (xbeq d3))⟩
        | false =>
          rw [d3, xif_f] at h
          obtain ⟨c5, h⟩ := xif_some h
          split at h
          · rename_i ob hob
            obtain ⟨c6, h⟩ := xif_some h
            obtain ⟨c6, c7⟩ := xif_and c6
            obtain ⟨-, -, o, o1, -, o2, -⟩ := xm_obj_ok hA hob (xbeq c6)
            obtain ⟨j, j1, j2⟩ := fin v w hw h
            have e7 : cc.2.1 = ob.2.1 + 5 := xbeq c7
            exact ⟨w, y, _, us, q, j, w, rfl, g3, j1, j2, rfl, by omega, Or.inr ⟨_, o, xv_r hw (xbeq c5), o1, by omega⟩⟩
          · cases h
      | false =>
        rw [d5, xif_f] at h
        rw [if_neg (xnbeq d5)]
        cases d4 : Nat.beq s 4 with
        | true =>
          rw [d4, xif_t] at h
          rw [if_pos (xbeq d4)]
          obtain ⟨c5, h⟩ := xif_some h
          obtain ⟨c5, c6⟩ := xif_and c5
          obtain ⟨j, j1, j2⟩ := fin v w hw h
          obtain ⟨y2, e2, -⟩ := xv_l hw (xbeq c6)
          exact ⟨w, y, _, us, q, j, w, rfl, g3, j1, j2, rfl, by rw [← g5]; exact xbeq c5, y2, e2⟩
        | false =>
          rw [d4, xif_f] at h
          rw [if_neg (xnbeq d4)]
          obtain ⟨c5, h⟩ := xif_some h
          obtain ⟨y2, rfl, e2, e3⟩ := xv_i hw (xbeq c5)
          cases d3 : Nat.beq s 3 with
          | true =>
            rw [d3, xif_t] at h
            obtain ⟨c6, h⟩ := xif_some h
            obtain ⟨j, j1, j2⟩ := fin v _ hw h
            exact ⟨_, y, _, us, q, j, _, rfl, g3, j1, j2, y2, rfl, by rw [if_pos (xbeq d3)]; exact ⟨by rw [← g5]; exact xbeq c6, rfl⟩⟩
          | false =>
            rw [d3, xif_f] at h
            obtain ⟨c6, h⟩ := xif_some h
            have hk : q.1 ≤ 2 := by
              rw [← g5]
              cases d1 : Nat.beq s 1 with
              | true => rw [d1, xif_t] at c6; have := xble c6; omega
              | false =>
                rw [d1, xif_f] at c6
                have e6 := xbeq c6
                have n1 := xnbeq d1; have n3 := xnbeq d3; have n4 := xnbeq d4; have n5 := xnbeq d5
                rcases hs5 with q | q | q | q | q <;> first | (exact absurd q (by assumption)) | omega
            obtain ⟨j, j1, j2⟩ := fin (xnw cc.2.1 v) (narrow (xj_kty q.1) (.int y2)) (by rw [g5, xnr_ok _ _ hk]; exact xnw_ok e2 e3) h
            refine ⟨_, y, _, us, q, j, _, rfl, g3, j1, j2, y2, rfl, ?_⟩
            rw [if_neg (xnbeq d3)]
            refine ⟨rfl, ?_⟩
            rw [← g5]
            cases d1 : Nat.beq s 1 with
            | true => rw [d1, xif_t] at c6; rw [if_pos (xbeq d1)]; exact xble c6
            | false => rw [d1, xif_f] at c6; rw [if_neg (xnbeq d1)]; exact xbeq c6
    · cases h
  · cases h
theorem xG8_ok (hs8 : Nat.beq s 8 = false) (h : xG8 s nx lv' st' A = some N) (hl : xlr lv' lv) (hs : xvs st' st) (hA : xmr A M) : ∃ x y r, st = .int y :: .int x :: r ∧ xNr N (.inl (nx, lv, .int (xi2 s x y) :: r, M)) := by
  simp only [xG8, xw_eq, hs8, xif_f] at h
  split at h
  · rename_i y x r
    obtain ⟨c, h⟩ := xif_some h
    obtain ⟨c1, c2⟩ := xif_and c
    obtain ⟨w, ws, rfl, hw, hws⟩ := xvs_c hs
    obtain ⟨z, zs, rfl, hz, hzs⟩ := xvs_c hws
    obtain ⟨y', rfl, h3, h4⟩ := xv_i hw (xbeq c2)
    obtain ⟨x', rfl, h5, h6⟩ := xv_i hz (xbeq c1)
    exact ⟨x', y', zs, rfl, xNr_go h hl ⟨xr2_ok s h5 h6 h3 h4, hzs⟩ hA⟩
  · cases h
theorem xG8_8 (h : xG8 8 nx lv' st' A = some N) (hl : xlr lv' lv) (hs : xvs st' st) (hA : xmr A M) : ∃ x y r, st = .int y :: .int x :: r ∧ y ≠ 0 ∧ xNr N (.inl (nx, lv, .int (x - x / y * y) :: r, M)) := by
  simp only [xG8, xw_eq, xg_eq, show Nat.beq 8 8 = true from rfl, xif_t] at h
  split at h
  · rename_i y x r
    obtain ⟨c, h⟩ := xif_some h
    obtain ⟨c1, c2⟩ := xif_and c
    obtain ⟨c3, h⟩ := xif_some h
    obtain ⟨c3, c4⟩ := xif_and c3
    obtain ⟨c5, c6⟩ := xif_and c3
    obtain ⟨w, ws, rfl, hw, hws⟩ := xvs_c hs
    obtain ⟨z, zs, rfl, hz, hzs⟩ := xvs_c hws
    obtain ⟨y', rfl, h3, h4⟩ := xv_i hw (xbeq c2)
    obtain ⟨x', rfl, h5, h6⟩ := xv_i hz (xbeq c1)
    have c5 := xcon_eq c5
    have c6 := xcon_eq c6
    have e1 : xa_e x' = x.2.1 := by omega
    have e2 : xa_e y' = y.2.1 := by omega
    rw [← e1, ← e2, xa_d_e, xa_d_e] at h
    refine ⟨x', y', zs, rfl, fun q => ?_, xNr_go h hl ⟨xv_ci _, hzs⟩ hA⟩
    subst q
    rw [xa_0] at e2
    rw [← e2] at c4
    cases c4
  · cases h
theorem xi2l (x : Int32) : xa_E x.toInt64 = xa_e x + 9223372034707292160 := by
  have h1 := xa_e_int x; have h2 := xa_E_int x.toInt64
  rw [Int32.toInt_toInt64] at h2
  omega
theorem xG9_0 (h : xG9 0 nx lv' st' A = some N) (hl : xlr lv' lv) (hs : xvs st' st) (hA : xmr A M) : ∃ x r, st = .int x :: r ∧ xNr N (.inl (nx, lv, .int x.toInt8.toInt32 :: r, M)) := by
  simp only [xG9, xw_eq, show Nat.ble 0 2 = true from rfl, xif_t] at h
  split at h
  · rename_i x r
    obtain ⟨c, h⟩ := xif_some h
    obtain ⟨w, ws, rfl, hw, hws⟩ := xvs_c hs
    obtain ⟨y, rfl, h3, h4⟩ := xv_i hw (xbeq c)
    exact ⟨y, ws, rfl, xNr_go h hl ⟨xnw_ok (k := 1) h3 h4, hws⟩ hA⟩
  · cases h
theorem xi2c (x : Int32) : (x.toUInt32 % 65536).toInt32 = x.toUInt32.toUInt16.toUInt32.toInt32 := by
  have : x.toUInt32 % 65536 = x.toUInt32.toUInt16.toUInt32 := by
    apply UInt32.toNat_inj.mp
    rw [UInt32.toNat_mod]
    simp
  rw [this]
theorem xG9_1 (h : xG9 1 nx lv' st' A = some N) (hl : xlr lv' lv) (hs : xvs st' st) (hA : xmr A M) : ∃ x r, st = .int x :: r ∧ xNr N (.inl (nx, lv, .int (x.toUInt32 % 65536).toInt32 :: r, M)) := by
  simp only [xG9, xw_eq, show Nat.ble 1 2 = true from rfl, xif_t] at h
  split at h
  · rename_i x r
    obtain ⟨c, h⟩ := xif_some h
    obtain ⟨w, ws, rfl, hw, hws⟩ := xvs_c hs
    obtain ⟨y, rfl, h3, h4⟩ := xv_i hw (xbeq c)
    exact ⟨y, ws, rfl, xNr_go h hl ⟨by rw [xi2c]; exact xnw_ok (k := 2) h3 h4, hws⟩ hA⟩
  · cases h
theorem xG9_2 (h : xG9 2 nx lv' st' A = some N) (hl : xlr lv' lv) (hs : xvs st' st) (hA : xmr A M) : ∃ x r, st = .int x :: r ∧ xNr N (.inl (nx, lv, .long x.toInt64 :: r, M)) := by
  simp only [xG9, xw_eq, show Nat.ble 2 2 = true from rfl, xif_t] at h
  split at h
  · rename_i x r
    obtain ⟨c, h⟩ := xif_some h
    obtain ⟨w, ws, rfl, hw, hws⟩ := xvs_c hs
    obtain ⟨y, rfl, h3, h4⟩ := xv_i hw (xbeq c)
    have e := xi2l y
    refine ⟨y, ws, rfl, xNr_go h hl ⟨xv_ml rfl ?_ ?_, hws⟩ hA⟩
    · show x.2.1 + 9223372034707292160 ≤ _; omega
    · show _ ≤ x.2.2 + 9223372034707292160; omega
  · cases h
theorem xG9_l (hs2 : Nat.ble s 2 = false) (hs7 : Nat.beq s 7 = false) (hs6 : Nat.beq s 6 = false) (h : xG9 s nx lv' st' A = some N) (hl : xlr lv' lv) (hs : xvs st' st) (hA : xmr A M) : ∃ x y r, st = .long y :: .long x :: r ∧ xNr N (.inl (nx, lv, .long (xj2 (s - 3) x y) :: r, M)) := by
  simp only [xG9, xw_eq, hs2, hs7, hs6, xif_f] at h
  split at h
  · rename_i y x r
    obtain ⟨c, h⟩ := xif_some h
    obtain ⟨c1, c2⟩ := xif_and c
    obtain ⟨w, ws, rfl, hw, hws⟩ := xvs_c hs
    obtain ⟨z, zs, rfl, hz, hzs⟩ := xvs_c hws
    obtain ⟨y', rfl, h3, h4⟩ := xv_l hw (xbeq c2)
    obtain ⟨x', rfl, h5, h6⟩ := xv_l hz (xbeq c1)
    exact ⟨x', y', zs, rfl, xNr_go h hl ⟨xR2_ok _ h5 h6 h3 h4, hzs⟩ hA⟩
  · cases h
theorem xlc_ok {x y v : xa} {u w : Int64} (hx1 : x.2.1 ≤ xa_E u) (hx2 : xa_E u ≤ x.2.2) (hy1 : y.2.1 ≤ xa_E w) (hy2 : xa_E w ≤ y.2.2) (h : xlc x y = some v) : xv v (.int (lg_cmp u w)) := by
  have e1 := xa_E_int u
  have e2 := xa_E_int w
  have p1 : xa_e (1 : Int32) = 2147483649 := by decide
  have p0 : xa_e (0 : Int32) = 2147483648 := by decide
  have pm : xa_e (-1 : Int32) = 2147483647 := by decide
  unfold xlc at h
  cases c1 : Nat.blt x.2.2 y.2.1 with
  | true =>
    rw [c1, xif_t] at h; cases h
    have c1 : x.2.2 < y.2.1 := xblt c1
    have : lg_cmp u w = -1 := by
      unfold lg_cmp
      rw [if_neg (fun q => by have : w.toInt < u.toInt := Int64.lt_iff_toInt_lt.mp q; omega), if_neg (fun q => by rw [q] at e1; omega)]
    rw [this]
    exact ⟨rfl, by rw [pm]; exact Nat.le_refl _, by rw [pm]; exact Nat.le_refl _⟩
  | false =>
    rw [c1, xif_f] at h
    cases c2 : Nat.blt y.2.2 x.2.1 with
    | true =>
      rw [c2, xif_t] at h; cases h
      have c2 : y.2.2 < x.2.1 := xblt c2
      have : lg_cmp u w = 1 := by
        unfold lg_cmp
        rw [if_pos (Int64.lt_iff_toInt_lt.mpr (by omega))]
      rw [this]
      exact ⟨rfl, by rw [p1]; exact Nat.le_refl _, by rw [p1]; exact Nat.le_refl _⟩
    | false =>
      rw [c2, xif_f] at h
      obtain ⟨c, h⟩ := xif_some h
      cases h
      obtain ⟨d1, d2⟩ := xif_and c
      have d1 := xcon_eq d1
      have d2 := xcon_eq d2
      have n1 : ¬ x.2.2 < y.2.1 := fun q => by have : Nat.blt x.2.2 y.2.1 = true := Nat.ble_eq_true_of_le q; rw [c1] at this; cases this
      have n2 : ¬ y.2.2 < x.2.1 := fun q => by have : Nat.blt y.2.2 x.2.1 = true := Nat.ble_eq_true_of_le q; rw [c2] at this; cases this
      have e : u = w := by
        have : xa_E u = xa_E w := by omega
        rw [← xa_D_E u, this, xa_D_E]
      have : lg_cmp u w = 0 := by
        unfold lg_cmp
        rw [if_neg (fun q => by have : w.toInt < u.toInt := Int64.lt_iff_toInt_lt.mp q; rw [e] at this; omega), if_pos e]
      rw [this]
      exact ⟨rfl, by rw [p0]; exact Nat.le_refl _, by rw [p0]; exact Nat.le_refl _⟩
theorem xG9_6 (h : xG9 6 nx lv' st' A = some N) (hl : xlr lv' lv) (hs : xvs st' st) (hA : xmr A M) : ∃ x y r, st = .long y :: .long x :: r ∧ xNr N (.inl (nx, lv, .int (lg_cmp x y) :: r, M)) := by
  simp only [xG9, xw_eq, show Nat.ble 6 2 = false from rfl, show Nat.beq 6 7 = false from rfl, show Nat.beq 6 6 = true from rfl, xif_f, xif_t] at h
  split at h
  · rename_i y x r
    obtain ⟨c, h⟩ := xif_some h
    obtain ⟨c1, c2⟩ := xif_and c
    obtain ⟨w, ws, rfl, hw, hws⟩ := xvs_c hs
    obtain ⟨z, zs, rfl, hz, hzs⟩ := xvs_c hws
    obtain ⟨y', rfl, h3, h4⟩ := xv_l hw (xbeq c2)
    obtain ⟨x', rfl, h5, h6⟩ := xv_l hz (xbeq c1)
    split at h
    · rename_i v hv
      exact ⟨x', y', zs, rfl, xNr_go h hl ⟨xlc_ok h5 h6 h3 h4 hv, hzs⟩ hA⟩
    · cases h
  · cases h
theorem xG9_7 (h : xG9 7 nx lv' st' A = some N) (hl : xlr lv' lv) (hs : xvs st' st) (hA : xmr A M) : ∃ x y r, st = .int y :: .long x :: r ∧ xNr N (.inl (nx, lv, .long (x >>> (y.toInt64 &&& 63)) :: r, M)) := by
  simp only [xG9, xw_eq, xg_eq, show Nat.ble 7 2 = false from rfl, show Nat.beq 7 7 = true from rfl, xif_f, xif_t] at h
  split at h
  · rename_i y x r
    obtain ⟨c, h⟩ := xif_some h
    obtain ⟨c1, c2⟩ := xif_and c
    obtain ⟨w, ws, rfl, hw, hws⟩ := xvs_c hs
    obtain ⟨z, zs, rfl, hz, hzs⟩ := xvs_c hws
    obtain ⟨y', rfl, h3, h4⟩ := xv_i hw (xbeq c2)
    obtain ⟨x', rfl, h5, h6⟩ := xv_l hz (xbeq c1)
    cases d : xif (xcon x) (xcon y) false with
    | true =>
      rw [d, xif_t] at h
      obtain ⟨d1, d2⟩ := xif_and d
      have d1 := xcon_eq d1
      have d2 := xcon_eq d2
      have e1 : xa_E x' = x.2.1 := by omega
      have e2 : xa_e y' = y.2.1 := by omega
      rw [← e1, ← e2, xa_D_E, xa_d_e] at h
      exact ⟨x', y', zs, rfl, xNr_go h hl ⟨xv_cl _, hzs⟩ hA⟩
    | false =>
      rw [d, xif_f] at h
      exact ⟨x', y', zs, rfl, xNr_go h hl ⟨xv_Top, hzs⟩ hA⟩
  · cases h
theorem xG10_0 (h : xG10 0 nx lv' st' A = some N) (hl : xlr lv' lv) (hs : xvs st' st) (hA : xmr A M) : ∃ x r, st = x :: r ∧ x.category = 1 ∧ xNr N (.inl (nx, lv, x :: x :: r, M)) := by
  simp only [xG10] at h
  split at h
  · rename_i x r
    obtain ⟨w, ws, rfl, hw, hws⟩ := xvs_c hs
    cases d : Nat.beq x.1 1 with
    | true => rw [d] at h; cases h
    | false =>
      rw [d, xif_f] at h
      exact ⟨w, ws, rfl, by rw [xv_cat hw, if_neg (xnbeq d)], xNr_go h hl ⟨hw, hw, hws⟩ hA⟩
  · cases h
theorem xG10_1 (h : xG10 1 nx lv' st' A = some N) (hl : xlr lv' lv) (hs : xvs st' st) (hA : xmr A M) : ∃ x y r, st = x :: y :: r ∧ x.category = 1 ∧ y.category = 1 ∧ xNr N (.inl (nx, lv, x :: y :: x :: y :: r, M)) := by
  simp only [xG10] at h
  split at h
  · rename_i x y r
    obtain ⟨w, ws, rfl, hw, hws⟩ := xvs_c hs
    obtain ⟨z, zs, rfl, hz, hzs⟩ := xvs_c hws
    cases d : Nat.beq x.1 1 with
    | true => rw [d] at h; cases h
    | false =>
      rw [d, xif_f] at h
      cases d2 : Nat.beq y.1 1 with
      | true => rw [d2] at h; cases h
      | false =>
        rw [d2, xif_f] at h
        exact ⟨w, z, zs, rfl, by rw [xv_cat hw, if_neg (xnbeq d)], by rw [xv_cat hz, if_neg (xnbeq d2)], xNr_go h hl ⟨hw, hz, hw, hz, hzs⟩ hA⟩
  · cases h
end
