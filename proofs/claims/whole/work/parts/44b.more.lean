/-! More rules: lookupswitch, Math, what is made, Strings -/
theorem xmax_in {a b : Int} (ha : xin a) (hb : xin b) : xin (xmax a b) := by unfold xmax; split <;> assumption
theorem xmin_in {a b : Int} (ha : xin a) (hb : xin b) : xin (xmin a b) := by unfold xmin; split <;> assumption
theorem xmax_iN {a b : Int} (ha : xiN a) (hb : xiN b) : xiN (xmax a b) := by unfold xmax; split <;> assumption
theorem xmin_iN {a b : Int} (ha : xiN a) (hb : xiN b) : xiN (xmin a b) := by unfold xmin; split <;> assumption
theorem xabs8_iN {a : Int} (ha : xiN a) : xiN (xabs8 a) := by unfold xabs8; split; assumption; exact xiN_of _
theorem xq_nw_ne {ci : Nat} {M : xj_M} {p : Nat × xj_M} (h : xq_nw ci M = some p) : p.1 ≠ 0 := by
  unfold xq_nw at h
  split at h
  · cases h; simp only [xj_nx]; omega
  · cases h
theorem xq_nz_ne {x : Nat} {u : Unit} (h : xq_nz x = some u) : x ≠ 0 := by
  unfold xq_nz at h
  split at h
  · cases h
  · assumption
section
variable {d : Nat} {X : xj_X} {row : xj_mR} {pc nx len i : Nat} {lv : xj_L} {st : List Value} {M : xj_M} {Q : xj_R → xj_M → Prop} {a b : Int}
theorem xe_lks {dd off : Int} {ps : Array (Int × Int)} {t : Nat} (hd : decode row.2.2.1 pc = .ok (.lookupswitch dd ps, len)) (hs : (ps.toList.zip (ps.toList.drop 1)).all (fun (a, next) => a.1 < next.1) = true) (ha : xin a) (ho : Op.lookupswitch.offset ps.toList dd a = off) (ht : xj_tg pc off = some t) (k : xW d X row (t, lv, st, M) Q) : xW d X row (pc, lv, xI a :: st, M) Q := by
  refine xW_go (fun _ => xk_jmp hd rfl rfl rfl (q := ((off, true), st)) ?_ (by unfold xj_J; simp only [ht]; rfl)) k
  show (if (ps.toList.zip (ps.toList.drop 1)).all (fun (a, next) => a.1 < next.1) = true then some ((Op.lookupswitch.offset ps.toList dd (Int32.ofInt a).toInt, true), st) else none) = _
  rw [if_pos hs, xin_to ha, ho]
theorem xe_math {kk : Nat} {st2 st3 : List Value} (hd : decode row.2.2.1 pc = .ok (.invokestatic i, 3)) (hy : xj_y row.1 i = none) (hc : xj_cal row.1 i = some (6, kk)) (hsm : xj_small (st2.drop 1) = true) (hm : xj_ma kk st2 = some st3) (hn : pc + 3 = nx) (k : xW d X row (nx, lv, st3, M) Q) : xW d X row (pc, lv, st2, M) Q := by
  subst hn
  have h1 : xj_mem row.1 row.2.2.2.2.2.2.1 (.invokestatic i) st2 M = none := by
    show (match xj_y row.1 i with | some (7, _) => xj_cp st2 M | _ => none) = none
    rw [hy]
  refine xW_go (fun _ => xk_mac hd rfl rfl rfl rfl rfl rfl (by cases X.2.2 <;> rfl) h1 rfl rfl (st' := st3) ?_) k
  show (match xj_cal row.1 i with | some (6, k) => (if xj_small (st2.drop 1) = true then xj_ma k st2 else none) | _ => none) = _
  rw [hc]
  simp only
  rw [if_pos hsm, hm]
theorem xe_xmxi (hd : decode row.2.2.1 pc = .ok (.invokestatic i, 3)) (hy : xj_y row.1 i = none) (hc : xj_cal row.1 i = some (6, 0)) (hsm : xj_small (xI a :: st) = true) (hn : pc + 3 = nx) (ha : xin a) (hb : xin b) (k : xW d X row (nx, lv, xI (xmax a b) :: st, M) Q) : xW d X row (pc, lv, xI b :: xI a :: st, M) Q := by
  refine xe_math hd hy hc hsm ?_ hn k
  show some (Value.int (if Int32.ofInt a < Int32.ofInt b then Int32.ofInt b else Int32.ofInt a) :: st) = _
  unfold xmax
  by_cases h : a < b
  · rw [if_pos h, if_pos ((xin_lt ha hb).mpr h)]
  · rw [if_neg h, if_neg (fun q => h ((xin_lt ha hb).mp q))]
theorem xe_xmni (hd : decode row.2.2.1 pc = .ok (.invokestatic i, 3)) (hy : xj_y row.1 i = none) (hc : xj_cal row.1 i = some (6, 1)) (hsm : xj_small (xI a :: st) = true) (hn : pc + 3 = nx) (ha : xin a) (hb : xin b) (k : xW d X row (nx, lv, xI (xmin a b) :: st, M) Q) : xW d X row (pc, lv, xI b :: xI a :: st, M) Q := by
  refine xe_math hd hy hc hsm ?_ hn k
  show some (Value.int (if Int32.ofInt b < Int32.ofInt a then Int32.ofInt b else Int32.ofInt a) :: st) = _
  unfold xmin
  by_cases h : b < a
  · rw [if_pos h, if_pos ((xin_lt hb ha).mpr h)]
  · rw [if_neg h, if_neg (fun q => h ((xin_lt hb ha).mp q))]
theorem xe_xmxl (hd : decode row.2.2.1 pc = .ok (.invokestatic i, 3)) (hy : xj_y row.1 i = none) (hc : xj_cal row.1 i = some (6, 2)) (hsm : xj_small (xZ a :: st) = true) (hn : pc + 3 = nx) (ha : xiN a) (hb : xiN b) (k : xW d X row (nx, lv, xZ (xmax a b) :: st, M) Q) : xW d X row (pc, lv, xZ b :: xZ a :: st, M) Q := by
  refine xe_math hd hy hc hsm ?_ hn k
  show some (Value.long (if Int64.ofInt b < Int64.ofInt a then Int64.ofInt a else Int64.ofInt b) :: st) = _
  unfold xmax
  by_cases h : b < a
  · rw [if_pos ((xiN_lt hb ha).mpr h), if_neg (show ¬ a < b by omega)]
  · rw [if_neg (fun q => h ((xiN_lt hb ha).mp q))]
    by_cases e : a < b
    · rw [if_pos e]
    · rw [if_neg e, show a = b by omega]
theorem xe_xmnl (hd : decode row.2.2.1 pc = .ok (.invokestatic i, 3)) (hy : xj_y row.1 i = none) (hc : xj_cal row.1 i = some (6, 3)) (hsm : xj_small (xZ a :: st) = true) (hn : pc + 3 = nx) (ha : xiN a) (hb : xiN b) (k : xW d X row (nx, lv, xZ (xmin a b) :: st, M) Q) : xW d X row (pc, lv, xZ b :: xZ a :: st, M) Q := by
  refine xe_math hd hy hc hsm ?_ hn k
  show some (Value.long (if Int64.ofInt b < Int64.ofInt a then Int64.ofInt b else Int64.ofInt a) :: st) = _
  unfold xmin
  by_cases h : b < a
  · rw [if_pos h, if_pos ((xiN_lt hb ha).mpr h)]
  · rw [if_neg h, if_neg (fun q => h ((xiN_lt hb ha).mp q))]
theorem xe_xabl (hd : decode row.2.2.1 pc = .ok (.invokestatic i, 3)) (hy : xj_y row.1 i = none) (hc : xj_cal row.1 i = some (6, 4)) (hsm : xj_small st = true) (hn : pc + 3 = nx) (ha : xiN a) (k : xW d X row (nx, lv, xZ (xabs8 a) :: st, M) Q) : xW d X row (pc, lv, xZ a :: st, M) Q := by
  refine xe_math hd hy hc hsm ?_ hn k
  show some (Value.long (if 0 < Int64.ofInt a then Int64.ofInt a else -(Int64.ofInt a)) :: st) = _
  unfold xabs8
  have h0 : (0 : Int64) = Int64.ofInt 0 := rfl
  by_cases h : 0 < a
  · rw [if_pos h, if_pos (by rw [h0, xiN_lt (by decide) ha]; exact h)]
  · rw [if_neg h, if_neg (by rw [h0, xiN_lt (by decide) ha]; exact h)]
    simp only [xneg8, xZ, Int64.ofInt_toInt]
/-- Object's constructor -/
theorem xe_oi {x j : Nat} (hd : decode row.2.2.1 pc = .ok (.invokespecial i, 3)) (hc : xj_cal row.1 i = some (3, j)) (hsm : xj_small st = true) (hx : x ≠ 0) (hn : pc + 3 = nx) (k : xW d X row (nx, lv, st, M) Q) : xW d X row (pc, lv, xR_ x :: st, M) Q := by
  subst hn
  have e : xR_ x = Value.ref x := by unfold xR_; rw [if_neg hx]
  rw [e]
  refine xW_go (fun _ => xk_mac hd rfl rfl rfl rfl rfl rfl (by cases X.2.2 <;> rfl) rfl rfl rfl (st' := st) ?_) k
  show (match xj_cal row.1 i with | some (3, _) => (if xj_small ((Value.ref x :: st).drop 1) = true then xj_oi (Value.ref x :: st) else none) | _ => none) = _
  rw [hc]
  simp only [List.drop_succ_cons, List.drop_zero]
  rw [if_pos hsm]
  rfl
end
/-- String constants: 1 to 10, their bytes 11 to 20 -/
def xq_sv (x : Nat) : Option Nat := if 1 ≤ x ∧ x ≤ 10 then some (x + 10) else none
def xq_bl (x : Nat) (M : xj_M) : Option Int := if 11 ≤ x ∧ x ≤ 20 then (if (xj_sB (x - 11)).length < 2147483648 then some ((xj_sB (x - 11)).length : Int) else none) else xq_ln x M
def xq_bb (x : Nat) (z : Int) (M : xj_M) : Option Int := if 11 ≤ x ∧ x ≤ 20 then (if 0 ≤ z ∧ z < (xj_sB (x - 11)).length then some ((xj_sB (x - 11)).getD z.toNat 0).toInt else none) else xq_ab x z M
theorem xq_bl_in {x : Nat} {M : xj_M} {v : Int} (h : xq_bl x M = some v) : xin v := by
  unfold xq_bl at h
  split at h
  · split at h
    · cases h; exact ⟨by omega, by omega⟩
    · cases h
  · exact xq_ln_in h
theorem xq_bb_in {x : Nat} {z : Int} {M : xj_M} {v : Int} (h : xq_bb x z M = some v) : xin v := by
  unfold xq_bb at h
  split at h
  · split at h
    · cases h; exact xin_of _
    · cases h
  · exact xq_ab_in h
theorem xR_nz {x : Nat} (h : x ≠ 0) : xR_ x = Value.ref x := by unfold xR_; rw [if_neg h]
theorem xnar_ret {ty : FieldType} (h : ty = .byte ∨ ty = .boolean ∨ ty = .char) {v : Int} (hv : xnar ty v = v) : narrow ty (xI v) = xI v := by rw [xnar_eq h, hv]
section
variable {d : Nat} {X : xj_X} {row : xj_mR} {pc nx len i : Nat} {lv : xj_L} {st : List Value} {M : xj_M} {Q : xj_R → xj_M → Prop} {z : Int} {ins : Instr}
theorem xe_ldcs {x : Nat} (hx : x ≠ 0) (hd : decode row.2.2.1 pc = .ok (ins, len)) (hl : xj_lenok ins len = true) (h0 : xj_pure ins st = none) (h1 : xj_loc row.2.2.2.1 ins lv st = none) (h2 : xj_jmp ins st = none) (h3 : xj_ct row.1 ins st = none) (h : xj_fx row.1 ins st = some (.ref x :: st)) (hn : pc + len = nx) (k : xW d X row (nx, lv, xR_ x :: st, M) Q) : xW d X row (pc, lv, st, M) Q := by
  subst hn
  rw [xR_nz hx] at k
  exact xW_go (fun _ => xk_fx hd hl h0 h1 h2 h3 h) k
theorem xe_gst (ho : row.1 = 18) (hd : decode row.2.2.1 pc = .ok (.getstatic 38, 3)) (hn : pc + 3 = nx) (k : xW d X row (nx, lv, xI 1 :: st, M) Q) : xW d X row (pc, lv, st, M) Q := by
  subst hn
  refine xW_go (fun _ => xk_fx hd rfl rfl rfl rfl rfl (st' := xI 1 :: st) ?_) k
  show (if row.1 = 18 ∧ 38 = 38 then some (Value.int 1 :: st) else none) = _
  rw [if_pos ⟨ho, rfl⟩]
  rfl
theorem xe_sval {x y : Nat} (ho : row.1 = 18) (hd : decode row.2.2.1 pc = .ok (.getfield 9, 3)) (hm : xq_sv x = some y) (hn : pc + 3 = nx) (k : xW d X row (nx, lv, xR_ y :: st, M) Q) : xW d X row (pc, lv, xR_ x :: st, M) Q := by
  subst hn
  unfold xq_sv at hm
  split at hm
  · rename_i h
    cases hm
    rw [xR_nz (by omega)] at k
    rw [xR_nz (by omega)]
    refine xW_go (fun _ => xk_fx hd rfl rfl rfl rfl rfl (st' := Value.ref (x + 10) :: st) ?_) k
    show (if row.1 = 18 ∧ 9 = 9 ∧ 1 ≤ x ∧ x ≤ 10 then some (Value.ref (x + 10) :: st) else _) = _
    rw [if_pos ⟨ho, rfl, h⟩]
  · cases hm
theorem xe_scod {x : Nat} {u : Unit} (ho : row.1 = 18) (hd : decode row.2.2.1 pc = .ok (.getfield 15, 3)) (hm : xq_st x = some u) (hn : pc + 3 = nx) (k : xW d X row (nx, lv, xI 0 :: st, M) Q) : xW d X row (pc, lv, xR_ x :: st, M) Q := by
  subst hn
  unfold xq_st at hm
  split at hm
  · rename_i h
    rw [xR_nz (by omega)]
    refine xW_go (fun _ => xk_fx hd rfl rfl rfl rfl rfl (st' := xI 0 :: st) ?_) k
    show (if row.1 = 18 ∧ 15 = 9 ∧ 1 ≤ x ∧ x ≤ 10 then some (Value.ref (x + 10) :: st) else if row.1 = 18 ∧ 15 = 15 ∧ 1 ≤ x ∧ x ≤ 10 then some (Value.int 0 :: st) else none) = _
    rw [if_neg (by rintro ⟨-, q, -⟩; omega), if_pos ⟨ho, rfl, h⟩]
    rfl
  · cases hm
theorem xs_blen {x : Nat} {v : Int} (hX : X.2.2 = none) (hd : decode row.2.2.1 pc = .ok (.arraylength, 1)) (hm : xq_bl x M = some v) (hn : pc + 1 = nx) (k : xW d X row (nx, lv, xI v :: st, M) Q) : xW d X row (pc, lv, xR_ x :: st, M) Q := by
  unfold xq_bl at hm
  split at hm
  · rename_i h
    split at hm
    · cases hm
      subst hn
      rw [xR_nz (by omega)]
      refine xW_go (fun _ => xk_fx hd rfl rfl rfl rfl rfl (st' := xI ((xj_sB (x - 11)).length : Int) :: st) ?_) k
      show (if 11 ≤ x ∧ x ≤ 20 then some (Value.int (Int32.ofNat (xj_sB (x - 11)).length) :: st) else none) = _
      rw [if_pos h, ← Int32.ofInt_eq_ofNat]
    · cases hm
  · exact xs_alen hX hd hm hn k
theorem xs_bbald {x : Nat} {v : Int} (hd : decode row.2.2.1 pc = .ok (.baload, 1)) (hz : xin z) (hm : xq_bb x z M = some v) (hn : pc + 1 = nx) (k : xW d X row (nx, lv, xI v :: st, M) Q) : xW d X row (pc, lv, xI z :: xR_ x :: st, M) Q := by
  unfold xq_bb at hm
  split at hm
  · rename_i h
    split at hm
    · rename_i h2
      cases hm
      subst hn
      rw [xI_toInt] at k
      rw [xR_nz (by omega)]
      have hc : (Int32.ofInt z).toNatClampNeg = z.toNat := xs_clamp hz h2.1
      refine xW_go (fun _ => xk_fx hd rfl rfl rfl rfl rfl (st' := Value.int ((xj_sB (x - 11)).getD z.toNat 0) :: st) ?_) k
      show (if 11 ≤ x ∧ x ≤ 20 ∧ ¬ (Int32.ofInt z < 0 ∨ (xj_sB (x - 11)).length ≤ (Int32.ofInt z).toNatClampNeg) then some (Value.int ((xj_sB (x - 11)).getD (Int32.ofInt z).toNatClampNeg 0) :: st) else none) = _
      rw [hc, if_pos]
      refine ⟨h.1, h.2, ?_⟩
      rintro (g | g)
      · rw [show (0 : Int32) = Int32.ofInt 0 from rfl, xin_lt hz xin_0] at g
        omega
      · omega
    · cases hm
  · exact xs_bald hd hz hm hn k
def xq_ck (z n : Int) : Option Unit := if 0 ≤ z ∧ z < n then some () else none
theorem xe_ck {n : Int} {u : Unit} (h18 : row.1 = 18) (hd1 : 1 ≤ X.2.1) (hd : decode row.2.2.1 pc = .ok (.getstatic 1053, 3)) (hd2 : decode row.2.2.1 (pc + 3) = .ok (.invokestatic 1059, 3)) (hd3 : decode row.2.2.1 (pc + 6) = .ok (.pop, 1)) (hsm : xj_small st = true) (hz : xin z) (hn' : xin n) (hm : xq_ck z n = some u) (hn : pc + 7 = nx) (k : xW d X row (nx, lv, st, M) Q) : xW d X row (pc, lv, xI n :: xI z :: st, M) Q := by
  subst hn
  unfold xq_ck at hm
  split at hm
  · rename_i h
    have hfx : xj_fx row.1 (.getstatic 1053) (xI n :: xI z :: st) = none := by
      show (if row.1 = 18 ∧ 1053 = 38 then _ else none) = none
      rw [if_neg (by rintro ⟨-, q⟩; omega)]
    refine xW_go (fun _ => xk_chk hd rfl rfl rfl rfl rfl hfx (by cases X.2.2 <;> rfl) rfl rfl rfl rfl rfl (st' := st) ?_) k
    unfold xj_chk
    simp only
    rw [if_pos ⟨h18, trivial, hd1⟩, hd2, hd3]
    simp only
    rw [if_pos trivial, if_pos]
    refine ⟨?_, ?_, hsm⟩
    · rw [show (0 : Int32) = Int32.ofInt 0 from rfl, xin_le xin_0 hz]; exact h.1
    · rw [xin_lt hz hn']; exact h.2
  · cases hm
theorem xs_cw {j b : Nat} {u : Unit} {ar rest : List Value} {r2 : xj_mR} (hd : decode row.2.2.1 pc = .ok (.invokevirtual i, 3)) (hy : xj_y row.1 i = none) (hc : xj_cal row.1 i = some (12, j)) (hr : xj_row j = some r2) (hnp : ar.length = r2.2.2.2.2.2.1) (hcat : (rest.map fun v => v.category).sum ≤ 8) (his : xq_st b = some u)
    (kt : xT d j (xR_ b :: ar.reverse) M (fun r M1 => ∃ v, r = .inl v ∧ xW d X row (pc + 3, lv, v.toList ++ rest, M1) Q)) : xW d X row (pc, lv, ar ++ xR_ b :: rest, M) Q := by
  unfold xq_st at his
  split at his
  · rename_i h4
    rw [xR_nz (by omega)] at kt ⊢
    have hm : xj_mk row.1 (.invokevirtual i) (ar ++ Value.ref b :: rest) M = none := by
      show (match xj_y row.1 i with | some (8, k) => xj_cl k (ar ++ Value.ref b :: rest) M | _ => none) = none
      rw [hy]
    refine xW_call (nt := false) (fun n => xk_tgt hd rfl rfl rfl rfl rfl rfl (by cases X.2.2 <;> rfl) rfl hm rfl rfl (q := (j, Value.ref b :: ar.reverse, rest)) ?_) kt
    show (match xj_cal row.1 i with | some (0, j) => xj_tV j (ar ++ Value.ref b :: rest) M | some (10, j) => xj_tV (1000 + j) (ar ++ Value.ref b :: rest) M | some (12, j) => xj_tW j (ar ++ Value.ref b :: rest) | _ => none) = _
    rw [hc]
    simp only [xj_tW, hr]
    rw [← hnp, List.drop_left, List.take_left]
    simp only
    rw [if_pos ⟨h4.1, h4.2, by simp, hcat⟩]
  · cases his
end
