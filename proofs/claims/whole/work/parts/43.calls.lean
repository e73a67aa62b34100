/-! Calls, and what is made -/
def xq_is (c x : Nat) (M : xj_M) : Option Unit := match xj_obj M x with
  | some o => if o.1 = c then some () else none
  | none => none
def xQi (R : Int × xj_M) (r : xj_R) (M1 : xj_M) : Prop := r = .inl (some (xI R.1)) ∧ M1 = R.2 ∧ xin R.1
def xQl (R : Int × xj_M) (r : xj_R) (M1 : xj_M) : Prop := r = .inl (some (xZ R.1)) ∧ M1 = R.2 ∧ xiN R.1
def yxQr (R : Nat × xj_M) (r : xj_R) (M1 : xj_M) : Prop := r = .inl (some (xR_ R.1)) ∧ M1 = R.2
def xQv (R : xj_M) (r : xj_R) (M1 : xj_M) : Prop := r = .inl none ∧ M1 = R
section
variable {d : Nat} {X : xj_X} {row : xj_mR} {pc nx i j b : Nat} {lv : xj_L} {st ar rest : List Value} {M : xj_M} {Q : xj_R → xj_M → Prop} {r2 : xj_mR}
/-- a virtual call -/
theorem xs_cv (hd : decode row.2.2.1 pc = .ok (.invokevirtual i, 3)) (hy : xj_y row.1 i = none) (hc : xj_cal row.1 i = some (0, j)) (hr : xj_row j = some r2) (hnp : ar.length = r2.2.2.2.2.2.1) (h16 : r2.1 < 16) (hcat : (rest.map fun v => v.category).sum ≤ 8) (his : xq_is r2.1 b M = some ())
    (kt : xT d j (xR_ b :: ar.reverse) M (fun r M1 => ∃ v, r = .inl v ∧ xW d X row (pc + 3, lv, v.toList ++ rest, M1) Q)) : xW d X row (pc, lv, ar ++ xR_ b :: rest, M) Q := by
  unfold xq_is at his
  split at his
  · rename_i o h3
    split at his
    · rename_i h4
      rw [xR_ref (xj_obj_inv h3).1] at kt ⊢
      have hm : xj_mk row.1 (.invokevirtual i) (ar ++ Value.ref b :: rest) M = none := by
        show (match xj_y row.1 i with | some (8, k) => xj_cl k (ar ++ Value.ref b :: rest) M | _ => none) = none
        rw [hy]
      refine xW_call (nt := false) (fun n => xk_tgt hd rfl rfl rfl rfl rfl rfl (by cases X.2.2 <;> rfl) rfl hm rfl rfl (q := (j, Value.ref b :: ar.reverse, rest)) ?_) kt
      show (match xj_cal row.1 i with | some (0, j) => xj_tV j (ar ++ Value.ref b :: rest) M | some (10, j) => xj_tV (1000 + j) (ar ++ Value.ref b :: rest) M | some (12, j) => xj_tW j (ar ++ Value.ref b :: rest) | _ => none) = _
      rw [hc]
      simp only [xj_tV, hr]
      rw [← hnp, List.drop_left, List.take_left]
      simp only [h3]
      rw [if_pos ⟨h4, h16, by simp, hcat⟩]
    · cases his
  · cases his
/-- a static one -/
theorem xs_cs {kd : Nat} (hkd : kd = 2 ∨ kd = 5) (hd : decode row.2.2.1 pc = .ok (.invokestatic i, 3)) (hy : xj_y row.1 i = none) (hc : xj_cal row.1 i = some (kd, j)) (hr : xj_row j = some r2) (hnp : ar.length = r2.2.2.2.2.2.1) (hcat : (rest.map fun v => v.category).sum ≤ 8)
    (kt : xT d j ar.reverse M (fun r M1 => ∃ v, r = .inl v ∧ xW d X row (pc + 3, lv, v.toList ++ rest, M1) Q)) : xW d X row (pc, lv, ar ++ rest, M) Q := by
  have hm : xj_mem row.1 row.2.2.2.2.2.2.1 (.invokestatic i) (ar ++ rest) M = none := by
    show (match xj_y row.1 i with | some (7, _) => xj_cp (ar ++ rest) M | _ => none) = none
    rw [hy]
  have hma : xj_mac row.1 (.invokestatic i) (ar ++ rest) = none := by
    show (match xj_cal row.1 i with | some (6, k) => (if xj_small ((ar ++ rest).drop 1) = true then xj_ma k (ar ++ rest) else none) | _ => none) = none
    rw [hc]
    rcases hkd with rfl | rfl <;> rfl
  refine xW_call (nt := xj_nt row.1 (.invokestatic i)) (fun n => xk_tgt hd rfl rfl rfl rfl rfl rfl (by cases X.2.2 <;> rfl) hm rfl rfl hma (q := (j, ar.reverse, rest)) ?_) kt
  show (match xj_cal row.1 i with | some (2, j) => xj_tS j (ar ++ rest) | some (5, j) => xj_tS j (ar ++ rest) | some (11, j) => xj_tS (1000 + j) (ar ++ rest) | _ => none) = _
  rw [hc]
  have h0 : xj_tS j (ar ++ rest) = some (j, ar.reverse, rest) := by
    simp only [xj_tS, hr]
    rw [← hnp, List.drop_left, List.take_left, if_pos ⟨by simp, hcat⟩]
  rcases hkd with rfl | rfl <;> exact h0
/-- a constructor -/
theorem xs_ci {kd : Nat} (hkd : kd = 1 ∨ kd = 4) (hd : decode row.2.2.1 pc = .ok (.invokespecial i, 3)) (hc : xj_cal row.1 i = some (kd, j)) (hr : xj_row j = some r2) (hnp : ar.length = r2.2.2.2.2.2.1) (hrt : r2.2.2.2.2.1 = none) (hcat : (rest.map fun v => v.category).sum ≤ 8) (hb : b ≠ 0)
    (kt : xT d j (xR_ b :: ar.reverse) M (fun r M1 => ∃ v, r = .inl v ∧ xW d X row (pc + 3, lv, v.toList ++ rest, M1) Q)) : xW d X row (pc, lv, ar ++ xR_ b :: rest, M) Q := by
  have e : xR_ b = Value.ref b := by unfold xR_; rw [if_neg hb]
  rw [e] at kt ⊢
  have hma : xj_mac row.1 (.invokespecial i) (ar ++ Value.ref b :: rest) = none := by
    show (match xj_cal row.1 i with | some (3, _) => (if xj_small ((ar ++ Value.ref b :: rest).drop 1) = true then xj_oi (ar ++ Value.ref b :: rest) else none) | _ => none) = none
    rw [hc]
    rcases hkd with rfl | rfl <;> rfl
  refine xW_call (nt := true) (fun n => xk_tgt hd rfl rfl rfl rfl rfl rfl (by cases X.2.2 <;> rfl) rfl rfl rfl hma (q := (j, Value.ref b :: ar.reverse, rest)) ?_) kt
  show (match xj_cal row.1 i with | some (1, j) => xj_tI j (ar ++ Value.ref b :: rest) | some (4, j) => xj_tI j (ar ++ Value.ref b :: rest) | _ => none) = _
  rw [hc]
  have h0 : xj_tI j (ar ++ Value.ref b :: rest) = some (j, Value.ref b :: ar.reverse, rest) := by
    simp only [xj_tI, hr]
    rw [← hnp, List.drop_left, List.take_left]
    simp only
    rw [if_pos ⟨by simp, hrt, hcat⟩]
  rcases hkd with rfl | rfl <;> exact h0
theorem xc_i {a : Nat} {as : List Value} {R : Int × xj_M} {rst : List Value} (h : xT d a as M (xQi R)) (hn : pc + 3 = nx) (k : xin R.1 → xW d X row (nx, lv, xI R.1 :: rst, R.2) Q) : xT d a as M (fun r M1 => ∃ v, r = .inl v ∧ xW d X row (pc + 3, lv, v.toList ++ rst, M1) Q) := by
  subst hn
  refine h.mono (fun r M1 hq => ?_)
  obtain ⟨rfl, rfl, h3⟩ := hq
  exact ⟨_, rfl, k h3⟩
theorem xc_l {a : Nat} {as : List Value} {R : Int × xj_M} {rst : List Value} (h : xT d a as M (xQl R)) (hn : pc + 3 = nx) (k : xiN R.1 → xW d X row (nx, lv, xZ R.1 :: rst, R.2) Q) : xT d a as M (fun r M1 => ∃ v, r = .inl v ∧ xW d X row (pc + 3, lv, v.toList ++ rst, M1) Q) := by
  subst hn
  refine h.mono (fun r M1 hq => ?_)
  obtain ⟨rfl, rfl, h3⟩ := hq
  exact ⟨_, rfl, k h3⟩
theorem xc_r {a : Nat} {as : List Value} {R : Nat × xj_M} {rst : List Value} (h : xT d a as M (yxQr R)) (hn : pc + 3 = nx) (k : xW d X row (nx, lv, xR_ R.1 :: rst, R.2) Q) : xT d a as M (fun r M1 => ∃ v, r = .inl v ∧ xW d X row (pc + 3, lv, v.toList ++ rst, M1) Q) := by
  subst hn
  refine h.mono (fun r M1 hq => ?_)
  obtain ⟨rfl, rfl⟩ := hq
  exact ⟨_, rfl, k⟩
theorem xc_v {a : Nat} {as : List Value} {R : xj_M} {rst : List Value} (h : xT d a as M (xQv R)) (hn : pc + 3 = nx) (k : xW d X row (nx, lv, rst, R) Q) : xT d a as M (fun r M1 => ∃ v, r = .inl v ∧ xW d X row (pc + 3, lv, v.toList ++ rst, M1) Q) := by
  subst hn
  refine h.mono (fun r M1 hq => ?_)
  obtain ⟨rfl, rfl⟩ := hq
  exact ⟨_, rfl, k⟩
/-- null or not -/
theorem xe_null {ins : Instr} {off : Int} {t a : Nat} {w : Bool} (hd : decode row.2.2.1 pc = .ok (ins, 3)) (hl : xj_lenok ins 3 = true) (h0 : ∀ st, xj_pure ins st = none) (h1 : ∀ st, xj_loc row.2.2.2.1 ins lv st = none) (hj : xj_jmp ins (xR_ a :: st) = some ((off, w), st)) (ht : xj_tg pc off = some t) (hn : pc + 3 = nx)
    (k : xW d X row (if w then t else nx, lv, st, M) Q) : xW d X row (pc, lv, xR_ a :: st, M) Q := by
  subst hn
  refine xW_go (fun _ => xk_jmp hd hl (h0 _) (h1 _) hj ?_) k
  unfold xj_J
  simp only [ht]
theorem xe_ifnull {off : Int} {t a : Nat} (hd : decode row.2.2.1 pc = .ok (.ifnull off, 3)) (ht : xj_tg pc off = some t) (hn : pc + 3 = nx) (k1 : a = 0 → xW d X row (t, lv, st, M) Q) (k2 : ¬ (a = 0) → xW d X row (nx, lv, st, M) Q) : xW d X row (pc, lv, xR_ a :: st, M) Q := by
  by_cases h : a = 0
  · exact xe_null (w := true) hd rfl (fun _ => rfl) (fun _ => rfl) (by unfold xR_; rw [if_pos h]; rfl) ht hn (k1 h)
  · exact xe_null (w := false) hd rfl (fun _ => rfl) (fun _ => rfl) (by unfold xR_; rw [if_neg h]; rfl) ht hn (k2 h)
theorem xe_ifnonnull {off : Int} {t a : Nat} (hd : decode row.2.2.1 pc = .ok (.ifnonnull off, 3)) (ht : xj_tg pc off = some t) (hn : pc + 3 = nx) (k1 : ¬ (a = 0) → xW d X row (t, lv, st, M) Q) (k2 : a = 0 → xW d X row (nx, lv, st, M) Q) : xW d X row (pc, lv, xR_ a :: st, M) Q := by
  by_cases h : a = 0
  · exact xe_null (w := false) hd rfl (fun _ => rfl) (fun _ => rfl) (by unfold xR_; rw [if_pos h]; rfl) ht hn (k2 h)
  · exact xe_null (w := true) hd rfl (fun _ => rfl) (fun _ => rfl) (by unfold xR_; rw [if_neg h]; rfl) ht hn (k1 h)
/-- tableswitch: which row it takes -/
theorem xe_ts {dd lo hi : Int} {offs : Array Int} {len t : Nat} {a off : Int} (hd : decode row.2.2.1 pc = .ok (.tableswitch dd lo hi offs, len)) (ha : xin a) (ho : (if a < lo ∨ hi < a then some dd else offs[(a - lo).toNat]?) = some off) (ht : xj_tg pc off = some t) (k : xW d X row (t, lv, st, M) Q) : xW d X row (pc, lv, xI a :: st, M) Q := by
  refine xW_go (fun _ => xk_jmp hd rfl rfl rfl (q := ((off, true), st)) ?_ (by unfold xj_J; simp only [ht]; rfl)) k
  show (if (Int32.ofInt a).toInt < lo ∨ hi < (Int32.ofInt a).toInt then some ((dd, true), st) else (match offs[((Int32.ofInt a).toInt - lo).toNat]? with | some off => some ((off, true), st) | none => none)) = _
  rw [xin_to ha]
  by_cases h : a < lo ∨ hi < a
  · rw [if_pos h] at ho ⊢
    cases ho
    rfl
  · rw [if_neg h] at ho ⊢
    rw [ho]
/-- what is made -/
theorem xs_nw {ci x : Nat} {M1 : xj_M} (hd : decode row.2.2.1 pc = .ok (.new i, 3)) (hc : xj_cls row.1 i = some ci) (hm : xq_nw ci M = some (x, M1)) (hn : pc + 3 = nx) (k : xW d X row (nx, lv, xR_ x :: st, M1) Q) : xW d X row (pc, lv, st, M) Q := by
  subst hn
  unfold xq_nw at hm
  split at hm
  · rename_i r hr
    cases hm
    have e : xR_ (xj_nx M) = Value.ref (xj_nx M) := by unfold xR_; rw [if_neg (by unfold xj_nx; omega)]
    rw [e] at k
    refine xW_go (fun _ => xk_mk hd rfl rfl rfl rfl rfl rfl (by cases X.2.2 <;> rfl) rfl (q := (Value.ref (xj_nx M) :: st, _)) ?_) k
    show xj_nw row.1 i st M = _
    unfold xj_nw
    simp only [hc, hr]
    rfl
  · cases hm
theorem xs_clamp {z : Int} (hz : xin z) (h0 : 0 ≤ z) : (Int32.ofInt z).toNatClampNeg = z.toNat := by
  show (Int32.ofInt z).toInt.toNat = _
  rw [xin_to hz]
theorem xs_na {kk x : Nat} {z : Int} {ty : ArrayType} {M1 : xj_M} (hd : decode row.2.2.1 pc = .ok (.newarray ty, 2)) (hk : xj_tk ty = some kk) (hz : xin z) (hm : xq_na kk z M = some (x, M1)) (hn : pc + 2 = nx) (k : xW d X row (nx, lv, xR_ x :: st, M1) Q) : xW d X row (pc, lv, xI z :: st, M) Q := by
  subst hn
  unfold xq_na at hm
  split at hm
  · rename_i h
    cases hm
    have e : xR_ (xj_nx M) = Value.ref (xj_nx M) := by unfold xR_; rw [if_neg (by unfold xj_nx; omega)]
    rw [e] at k
    refine xW_go (fun _ => xk_mk hd rfl rfl rfl rfl rfl rfl (by cases X.2.2 <;> rfl) rfl (q := (Value.ref (xj_nx M) :: st, _)) ?_) k
    show xj_na ty (xI z :: st) M = _
    unfold xj_na
    simp only [hk, xs_clamp hz h.1]
    rw [if_neg]
    · rfl
    · rintro (g | g)
      · rw [show (0 : Int32) = Int32.ofInt 0 from rfl, xin_lt hz xin_0] at g
        omega
      · omega
  · cases hm
theorem xs_an {ci x : Nat} {z : Int} {M1 : xj_M} (hd : decode row.2.2.1 pc = .ok (.anewarray i, 3)) (hk : xj_acl row.1 i = some ci) (hz : xin z) (hm : xq_an ci z M = some (x, M1)) (hn : pc + 3 = nx) (k : xW d X row (nx, lv, xR_ x :: st, M1) Q) : xW d X row (pc, lv, xI z :: st, M) Q := by
  subst hn
  unfold xq_an at hm
  split at hm
  · rename_i h
    cases hm
    have e : xR_ (xj_nx M) = Value.ref (xj_nx M) := by unfold xR_; rw [if_neg (by unfold xj_nx; omega)]
    rw [e] at k
    refine xW_go (fun _ => xk_mk hd rfl rfl rfl rfl rfl rfl (by cases X.2.2 <;> rfl) rfl (q := (Value.ref (xj_nx M) :: st, _)) ?_) k
    show xj_an row.1 i (xI z :: st) M = _
    unfold xj_an
    simp only [hk, xs_clamp hz h.1]
    rw [if_neg]
    · rfl
    · rintro (g | g)
      · rw [show (0 : Int32) = Int32.ofInt 0 from rfl, xin_lt hz xin_0] at g
        omega
      · omega
  · cases hm
theorem xs_aast {x a : Nat} {z : Int} {M1 : xj_M} (hd : decode row.2.2.1 pc = .ok (.aastore, 1)) (hz : xin z) (hm : xq_sr x z a M = some M1) (hn : pc + 1 = nx) (kt : xW d X row (nx, lv, st, M1) Q) : xW d X row (pc, lv, xR_ a :: xI z :: xR_ x :: st, M) Q := by
  subst hn
  unfold xq_sr at hm
  split at hm
  · rename_i q h1
    split at hm
    · rename_i h2
      rw [xR_ref (xj_arr_inv h1).1]
      refine xW_go (fun _ => xk_mem hd rfl rfl rfl rfl rfl rfl (by cases X.2.2 <;> rfl) (q := (st, M1)) ?_) kt
      show xj_aa (xR_ a :: xI z :: Value.ref x :: st) M = _
      split at hm
      · rename_i ha
        subst ha
        cases hm
        show (match xj_arr M x with | some x_1 => if 5 ≤ x_1.1 then (match xj_ix x_1.2.1 (Int32.ofInt z) with | some j => some (st, xj_put M x (.inr (.inl (x_1.1, x_1.2.1, updV x_1.2.2 j .null)))) | none => none) else none | none => none) = _
        simp only [h1]
        rw [if_pos h2.1, xh_ix hz h2.2.1 h2.2.2]
      · rename_i ha
        split at hm
        · rename_i o h3
          split at hm
          · rename_i h4
            cases hm
            have e : xR_ a = Value.ref a := by unfold xR_; rw [if_neg ha]
            rw [e]
            show (match xj_obj M a with | some ob => (match xj_arr M x with | some x_1 => if x_1.1 = ob.1 + 5 then (match xj_ix x_1.2.1 (Int32.ofInt z) with | some j => some (st, xj_put M x (.inr (.inl (x_1.1, x_1.2.1, updV x_1.2.2 j (Value.ref a))))) | none => none) else none | none => none) | none => none) = _
            simp only [h3, h1]
            rw [if_pos h4, xh_ix hz h2.2.1 h2.2.2]
          · cases hm
        · cases hm
    · cases hm
  · cases hm
end
