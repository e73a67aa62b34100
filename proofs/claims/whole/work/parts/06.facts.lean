/-! The tables are right: each link's word stands in lw_tbl, and is one that stays -/
def xj_w (p : Nat × Nat) (w : Cond) : Bool := decide ((xj_seg p.1)[p.2]? = some w)
def xj_tb : List Cond := lw_tbl.filter goodWord
theorem xj_seg_in {j : Nat} {w : Cond} (h : w ∈ xj_seg j) : w ∈ lw_tbl := by
  unfold xj_seg at h
  unfold lw_tbl tables_1
  simp only [List.mem_append]
  split at h
  · exact Or.inl h
  · exact Or.inr (Or.inl h)
  · exact Or.inr (Or.inr (Or.inl h))
  · exact Or.inr (Or.inr (Or.inr (Or.inl h)))
  · exact Or.inr (Or.inr (Or.inr (Or.inr (Or.inl h))))
  · exact Or.inr (Or.inr (Or.inr (Or.inr (Or.inr (Or.inl h)))))
  · exact Or.inr (Or.inr (Or.inr (Or.inr (Or.inr (Or.inr (Or.inl h))))))
  · exact Or.inr (Or.inr (Or.inr (Or.inr (Or.inr (Or.inr (Or.inr (Or.inl h)))))))
  · exact Or.inr (Or.inr (Or.inr (Or.inr (Or.inr (Or.inr (Or.inr (Or.inr (Or.inl h))))))))
  · exact Or.inr (Or.inr (Or.inr (Or.inr (Or.inr (Or.inr (Or.inr (Or.inr (Or.inr (Or.inl h)))))))))
  · exact Or.inr (Or.inr (Or.inr (Or.inr (Or.inr (Or.inr (Or.inr (Or.inr (Or.inr (Or.inr (Or.inl h))))))))))
  · exact Or.inr (Or.inr (Or.inr (Or.inr (Or.inr (Or.inr (Or.inr (Or.inr (Or.inr (Or.inr (Or.inr (Or.inl h)))))))))))
  · exact Or.inr (Or.inr (Or.inr (Or.inr (Or.inr (Or.inr (Or.inr (Or.inr (Or.inr (Or.inr (Or.inr (Or.inr (Or.inl h))))))))))))
  · exact Or.inr (Or.inr (Or.inr (Or.inr (Or.inr (Or.inr (Or.inr (Or.inr (Or.inr (Or.inr (Or.inr (Or.inr (Or.inr (Or.inl h)))))))))))))
  · exact Or.inr (Or.inr (Or.inr (Or.inr (Or.inr (Or.inr (Or.inr (Or.inr (Or.inr (Or.inr (Or.inr (Or.inr (Or.inr (Or.inr (h))))))))))))))
theorem xj_w_in0 {p : Nat × Nat} {w : Cond} (h : xj_w p w = true) : w ∈ lw_tbl := xj_seg_in (List.mem_of_getElem? (of_decide_eq_true h))
theorem xj_w_in {p : Nat × Nat} {w : Cond} (h : xj_w p w = true) (g : goodWord w = true) : w ∈ xj_tb := List.mem_filter.mpr ⟨xj_w_in0 h, g⟩
theorem xj_tb_good {w : Cond} (h : w ∈ xj_tb) : goodWord w = true := (List.mem_filter.mp h).2
theorem xj_tb_in {w : Cond} (h : w ∈ xj_tb) : w ∈ lw_tbl := (List.mem_filter.mp h).1
def xj_fC (o : Nat) (q : Nat × Nat × Nat × (Nat × Nat)) : Bool := match vwCl[q.2.1]? with
  | some r => decide (q.2.2.1 < r.2.2) && xj_w q.2.2.2 (.fieldLink (xj_nm o) q.1 r.1 (r.2.1 q.2.2.1).2.1 (r.2.1 q.2.2.1).2.2.1) && decide ((r.2.1 q.2.2.1).1 = r.1)
  | none => false
def xj_hs (o : Nat) : String := if o < 12 then "ChangeHouse" else "ChangeHouseModel"
/-- the methods of Math -/
def xj_mth (k : Nat) : Option (MethodName × ByteArray × Nat × Option FieldType) := match k with
  | 0 => some (Lib.Math.max.name, Lib.Math.max.code, 2, some .int)
  | 1 => some (Lib.Math.min.name, Lib.Math.min.code, 2, some .int)
  | 2 => some (Lib.MathLoose.max_long.x, Lib.MathLoose.max_long.code, 4, some .long)
  | 3 => some (Lib.MathLoose.min_long.x, Lib.MathLoose.min_long.code, 4, some .long)
  | 4 => some (Lib.MathLoose.abs_long.x, Lib.MathLoose.abs_long.code, 2, some .long)
  | _ => none
def xj_cC (o : Nat) (q : Nat × Nat × Nat × (Nat × Nat) × (Nat × Nat) × (Nat × Nat)) : Bool :=
  if q.2.1 = 3 then xj_w q.2.2.2.1 (.methodLink (xj_nm o) q.1 objectInit) && xj_w q.2.2.2.2.1 (.instanceMethod objectInit)
  else if q.2.1 = 6 then match xj_mth q.2.2.1 with
    | none => false
    | some z => xj_w q.2.2.2.1 (.methodLink (xj_nm o) q.1 z.1) && xj_w q.2.2.2.2.1 (.static z.1)
  else if q.2.1 = 10 then match xj_wT[q.2.2.1]? with
    | none => false
    | some r => xj_w q.2.2.2.1 (.methodLink (xj_nm o) q.1 r.1.2.1) && xj_w q.2.2.2.2.1 (.instanceMethod r.1.2.1) && xj_w q.2.2.2.2.2 (.selects r.1.2.1.cls r.1.2.1 r.1.2.1)
  else if q.2.1 = 11 then match xj_wT[q.2.2.1]? with
    | none => false
    | some r => xj_w q.2.2.2.1 (.methodLink (xj_nm o) q.1 r.1.2.1) && xj_w q.2.2.2.2.1 (.static r.1.2.1)
  else match xj_mT[q.2.2.1]? with
    | none => false
    | some r =>
      if q.2.1 = 0 ∨ q.2.1 = 12 then decide (q.2.1 = 0 → r.1 < 16) && decide (q.2.1 = 12 → r.1 = 18) && xj_w q.2.2.2.1 (.methodLink (xj_nm o) q.1 r.2.1) && xj_w q.2.2.2.2.1 (.instanceMethod r.2.1) && xj_w q.2.2.2.2.2 (.selects r.2.1.cls r.2.1 r.2.1)
      else if q.2.1 = 1 then xj_w q.2.2.2.1 (.methodLink (xj_nm o) q.1 r.2.1) && xj_w q.2.2.2.2.1 (.instanceMethod r.2.1) && r.2.2.2.2.2.2.1
      else if q.2.1 = 2 then xj_w q.2.2.2.1 (.methodLink (xj_nm o) q.1 r.2.1) && xj_w q.2.2.2.2.1 (.static r.2.1)
      else if q.2.1 = 4 then xj_w q.2.2.2.1 (.methodLinkNest (xj_nm o) q.1 r.2.1 (xj_hs o)) && xj_w q.2.2.2.2.1 (.instanceMethod r.2.1) && r.2.2.2.2.2.2.1
      else if q.2.1 = 5 then xj_w q.2.2.2.1 (.methodLinkNest (xj_nm o) q.1 r.2.1 (xj_hs o)) && xj_w q.2.2.2.2.1 (.static r.2.1)
      else false
def xj_nC (o : Nat) (q : Nat × Nat × (Nat × Nat) × (Nat × Nat) × (Nat × Nat)) : Bool := match vwCl[q.2.1]? with
  | some r => xj_w q.2.2.1 (.classLink (xj_nm o) q.1 r.1) && xj_w q.2.2.2.1 (.instantiable r.1 r.2.2) && xj_w q.2.2.2.2 (.initialized r.1)
  | none => false
def xj_aC (o : Nat) (q : Nat × Nat × (Nat × Nat) × (Nat × Nat)) : Bool := match vwCl[q.2.1]? with
  | some r => xj_w q.2.2.1 (.classLink (xj_nm o) q.1 r.1) && xj_w q.2.2.2 (.arrayOver (.object r.1))
  | none => false
def xj_lC (o : Nat) (q : Nat × Int64 × (Nat × Nat)) : Bool := xj_w q.2.2 (.constantLong (xj_nm o) q.1 q.2.1)
def xj_iC (o : Nat) (q : Nat × Int32 × (Nat × Nat)) : Bool := xj_w q.2.2 (.constant (xj_nm o) q.1 q.2.1)
def xj_uC (o : Nat) (q : Nat × Nat × Nat) : Bool := match vwCl[o]? with
  | some r => xj_w q.2 (u_lay r.1 r.2.1 q.1)
  | none => false
def xj_mC (r : xj_mR) : Bool := decide (r.2.1.cls = xj_nm r.1) && plainName r.2.1.cls && decide ((parseMethodDescriptor r.2.1.desc).map (fun d => d.parameters.length) = some r.2.2.2.2.2.1) && decide (r.2.1.cls ≠ "java/lang/invoke/MethodHandle") && decide (r.2.1.cls ≠ "java/lang/invoke/VarHandle")
  && decide (r.2.2.2.1 ≤ 70) && (r.2.2.2.2.2.2.1 == decide (r.2.1.name = "<init>")) && xj_w r.2.2.2.2.2.2.2.2 (.initialized r.2.1.cls) && decide (r.1 < 20)
def xj_kC (ci : Nat) : Bool := match vwCl[ci]? with
  | some r => (List.range r.2.2).all (fun k => decide (parseFieldDescriptor (r.2.1 k).2.2.1 = some (xj_ty ci k)) && (List.range k).all (fun j => decide ((r.2.1 k).2.1 ≠ (r.2.1 j).2.1)))
  | none => true
theorem xj_fT_0_0_ok : xj_fT_0_0.all (xj_fC 0) = true := by decide +kernel
theorem xj_fT_1_0_ok : xj_fT_1_0.all (xj_fC 1) = true := by decide +kernel
theorem xj_fT_2_0_ok : xj_fT_2_0.all (xj_fC 2) = true := by decide +kernel
theorem xj_fT_3_0_ok : xj_fT_3_0.all (xj_fC 3) = true := by decide +kernel
theorem xj_fT_4_0_ok : xj_fT_4_0.all (xj_fC 4) = true := by decide +kernel
theorem xj_fT_4_1_ok : xj_fT_4_1.all (xj_fC 4) = true := by decide +kernel
theorem xj_fT_5_0_ok : xj_fT_5_0.all (xj_fC 5) = true := by decide +kernel
theorem xj_fT_6_0_ok : xj_fT_6_0.all (xj_fC 6) = true := by decide +kernel
theorem xj_fT_7_0_ok : xj_fT_7_0.all (xj_fC 7) = true := by decide +kernel
theorem xj_fT_8_0_ok : xj_fT_8_0.all (xj_fC 8) = true := by decide +kernel
theorem xj_fT_9_0_ok : xj_fT_9_0.all (xj_fC 9) = true := by decide +kernel
theorem xj_fT_10_0_ok : xj_fT_10_0.all (xj_fC 10) = true := by decide +kernel
theorem xj_fT_10_1_ok : xj_fT_10_1.all (xj_fC 10) = true := by decide +kernel
theorem xj_fT_11_0_ok : xj_fT_11_0.all (xj_fC 11) = true := by decide +kernel
theorem xj_fT_11_1_ok : xj_fT_11_1.all (xj_fC 11) = true := by decide +kernel
theorem xj_fT_11_2_ok : xj_fT_11_2.all (xj_fC 11) = true := by decide +kernel
theorem xj_fT_12_0_ok : xj_fT_12_0.all (xj_fC 12) = true := by decide +kernel
theorem xj_fT_13_0_ok : xj_fT_13_0.all (xj_fC 13) = true := by decide +kernel
theorem xj_fT_14_0_ok : xj_fT_14_0.all (xj_fC 14) = true := by decide +kernel
theorem xj_fT_14_1_ok : xj_fT_14_1.all (xj_fC 14) = true := by decide +kernel
theorem xj_fT_15_0_ok : xj_fT_15_0.all (xj_fC 15) = true := by decide +kernel
theorem xj_fT_15_1_ok : xj_fT_15_1.all (xj_fC 15) = true := by decide +kernel
theorem xj_fT_15_2_ok : xj_fT_15_2.all (xj_fC 15) = true := by decide +kernel
theorem xj_fT_15_3_ok : xj_fT_15_3.all (xj_fC 15) = true := by decide +kernel
theorem xj_fT_15_4_ok : xj_fT_15_4.all (xj_fC 15) = true := by decide +kernel
theorem xj_fT_15_5_ok : xj_fT_15_5.all (xj_fC 15) = true := by decide +kernel
theorem xj_fT_15_6_ok : xj_fT_15_6.all (xj_fC 15) = true := by decide +kernel
theorem xj_cT_0_0_ok : xj_cT_0_0.all (xj_cC 0) = true := by decide +kernel
theorem xj_cT_1_0_ok : xj_cT_1_0.all (xj_cC 1) = true := by decide +kernel
theorem xj_cT_2_0_ok : xj_cT_2_0.all (xj_cC 2) = true := by decide +kernel
theorem xj_cT_3_0_ok : xj_cT_3_0.all (xj_cC 3) = true := by decide +kernel
theorem xj_cT_4_0_ok : xj_cT_4_0.all (xj_cC 4) = true := by decide +kernel
theorem xj_cT_4_1_ok : xj_cT_4_1.all (xj_cC 4) = true := by decide +kernel
theorem xj_cT_5_0_ok : xj_cT_5_0.all (xj_cC 5) = true := by decide +kernel
theorem xj_cT_6_0_ok : xj_cT_6_0.all (xj_cC 6) = true := by decide +kernel
theorem xj_cT_7_0_ok : xj_cT_7_0.all (xj_cC 7) = true := by decide +kernel
theorem xj_cT_8_0_ok : xj_cT_8_0.all (xj_cC 8) = true := by decide +kernel
theorem xj_cT_9_0_ok : xj_cT_9_0.all (xj_cC 9) = true := by decide +kernel
theorem xj_cT_10_0_ok : xj_cT_10_0.all (xj_cC 10) = true := by decide +kernel
theorem xj_cT_10_1_ok : xj_cT_10_1.all (xj_cC 10) = true := by decide +kernel
theorem xj_cT_11_0_ok : xj_cT_11_0.all (xj_cC 11) = true := by decide +kernel
theorem xj_cT_11_1_ok : xj_cT_11_1.all (xj_cC 11) = true := by decide +kernel
theorem xj_cT_12_0_ok : xj_cT_12_0.all (xj_cC 12) = true := by decide +kernel
theorem xj_cT_13_0_ok : xj_cT_13_0.all (xj_cC 13) = true := by decide +kernel
theorem xj_cT_14_0_ok : xj_cT_14_0.all (xj_cC 14) = true := by decide +kernel
theorem xj_cT_15_0_ok : xj_cT_15_0.all (xj_cC 15) = true := by decide +kernel
theorem xj_cT_15_1_ok : xj_cT_15_1.all (xj_cC 15) = true := by decide +kernel
theorem xj_cT_15_2_ok : xj_cT_15_2.all (xj_cC 15) = true := by decide +kernel
theorem xj_cT_15_3_ok : xj_cT_15_3.all (xj_cC 15) = true := by decide +kernel
theorem xj_cT_15_4_ok : xj_cT_15_4.all (xj_cC 15) = true := by decide +kernel
theorem xj_cT_15_5_ok : xj_cT_15_5.all (xj_cC 15) = true := by decide +kernel
theorem xj_cT_16_0_ok : xj_cT_16_0.all (xj_cC 16) = true := by decide +kernel
theorem xj_cT_16_1_ok : xj_cT_16_1.all (xj_cC 16) = true := by decide +kernel
theorem xj_cT_16_2_ok : xj_cT_16_2.all (xj_cC 16) = true := by decide +kernel
theorem xj_cT_17_0_ok : xj_cT_17_0.all (xj_cC 17) = true := by decide +kernel
theorem xj_cT_18_0_ok : xj_cT_18_0.all (xj_cC 18) = true := by decide +kernel
theorem xj_cT_19_0_ok : xj_cT_19_0.all (xj_cC 19) = true := by decide +kernel
theorem xj_nT_1_0_ok : xj_nT_1_0.all (xj_nC 1) = true := by decide +kernel
theorem xj_nT_2_0_ok : xj_nT_2_0.all (xj_nC 2) = true := by decide +kernel
theorem xj_nT_3_0_ok : xj_nT_3_0.all (xj_nC 3) = true := by decide +kernel
theorem xj_nT_4_0_ok : xj_nT_4_0.all (xj_nC 4) = true := by decide +kernel
theorem xj_nT_5_0_ok : xj_nT_5_0.all (xj_nC 5) = true := by decide +kernel
theorem xj_nT_10_0_ok : xj_nT_10_0.all (xj_nC 10) = true := by decide +kernel
theorem xj_nT_11_0_ok : xj_nT_11_0.all (xj_nC 11) = true := by decide +kernel
theorem xj_nT_13_0_ok : xj_nT_13_0.all (xj_nC 13) = true := by decide +kernel
theorem xj_nT_15_0_ok : xj_nT_15_0.all (xj_nC 15) = true := by decide +kernel
theorem xj_nT_16_0_ok : xj_nT_16_0.all (xj_nC 16) = true := by decide +kernel
theorem xj_aT_1_0_ok : xj_aT_1_0.all (xj_aC 1) = true := by decide +kernel
theorem xj_aT_2_0_ok : xj_aT_2_0.all (xj_aC 2) = true := by decide +kernel
theorem xj_aT_3_0_ok : xj_aT_3_0.all (xj_aC 3) = true := by decide +kernel
theorem xj_aT_4_0_ok : xj_aT_4_0.all (xj_aC 4) = true := by decide +kernel
theorem xj_aT_5_0_ok : xj_aT_5_0.all (xj_aC 5) = true := by decide +kernel
theorem xj_aT_10_0_ok : xj_aT_10_0.all (xj_aC 10) = true := by decide +kernel
theorem xj_aT_11_0_ok : xj_aT_11_0.all (xj_aC 11) = true := by decide +kernel
theorem xj_aT_15_0_ok : xj_aT_15_0.all (xj_aC 15) = true := by decide +kernel
theorem xj_lT_4_0_ok : xj_lT_4_0.all (xj_lC 4) = true := by decide +kernel
theorem xj_lT_7_0_ok : xj_lT_7_0.all (xj_lC 7) = true := by decide +kernel
theorem xj_lT_8_0_ok : xj_lT_8_0.all (xj_lC 8) = true := by decide +kernel
theorem xj_lT_9_0_ok : xj_lT_9_0.all (xj_lC 9) = true := by decide +kernel
theorem xj_lT_10_0_ok : xj_lT_10_0.all (xj_lC 10) = true := by decide +kernel
theorem xj_lT_11_0_ok : xj_lT_11_0.all (xj_lC 11) = true := by decide +kernel
theorem xj_lT_15_0_ok : xj_lT_15_0.all (xj_lC 15) = true := by decide +kernel
theorem xj_iT_9_0_ok : xj_iT_9_0.all (xj_iC 9) = true := by decide +kernel
theorem xj_iT_10_0_ok : xj_iT_10_0.all (xj_iC 10) = true := by decide +kernel
theorem xj_iT_11_0_ok : xj_iT_11_0.all (xj_iC 11) = true := by decide +kernel
theorem xj_iT_13_0_ok : xj_iT_13_0.all (xj_iC 13) = true := by decide +kernel
theorem xj_iT_15_0_ok : xj_iT_15_0.all (xj_iC 15) = true := by decide +kernel
theorem xj_uT_0_0_ok : xj_uT_0_0.all (xj_uC 0) = true := by decide +kernel
theorem xj_uT_1_0_ok : xj_uT_1_0.all (xj_uC 1) = true := by decide +kernel
theorem xj_uT_2_0_ok : xj_uT_2_0.all (xj_uC 2) = true := by decide +kernel
theorem xj_uT_3_0_ok : xj_uT_3_0.all (xj_uC 3) = true := by decide +kernel
theorem xj_uT_4_0_ok : xj_uT_4_0.all (xj_uC 4) = true := by decide +kernel
theorem xj_uT_5_0_ok : xj_uT_5_0.all (xj_uC 5) = true := by decide +kernel
theorem xj_uT_6_0_ok : xj_uT_6_0.all (xj_uC 6) = true := by decide +kernel
theorem xj_uT_7_0_ok : xj_uT_7_0.all (xj_uC 7) = true := by decide +kernel
theorem xj_uT_8_0_ok : xj_uT_8_0.all (xj_uC 8) = true := by decide +kernel
theorem xj_uT_9_0_ok : xj_uT_9_0.all (xj_uC 9) = true := by decide +kernel
theorem xj_uT_10_0_ok : xj_uT_10_0.all (xj_uC 10) = true := by decide +kernel
theorem xj_uT_11_0_ok : xj_uT_11_0.all (xj_uC 11) = true := by decide +kernel
theorem xj_uT_12_0_ok : xj_uT_12_0.all (xj_uC 12) = true := by decide +kernel
theorem xj_uT_13_0_ok : xj_uT_13_0.all (xj_uC 13) = true := by decide +kernel
theorem xj_uT_13_1_ok : xj_uT_13_1.all (xj_uC 13) = true := by decide +kernel
theorem xj_uT_14_0_ok : xj_uT_14_0.all (xj_uC 14) = true := by decide +kernel
theorem xj_uT_14_1_ok : xj_uT_14_1.all (xj_uC 14) = true := by decide +kernel
theorem xj_uT_15_0_ok : xj_uT_15_0.all (xj_uC 15) = true := by decide +kernel
theorem xj_uT_15_1_ok : xj_uT_15_1.all (xj_uC 15) = true := by decide +kernel
theorem xj_uT_15_2_ok : xj_uT_15_2.all (xj_uC 15) = true := by decide +kernel
theorem xj_uT_15_3_ok : xj_uT_15_3.all (xj_uC 15) = true := by decide +kernel
theorem xj_mT0_ok : xj_mT0.all xj_mC = true := by decide +kernel
theorem xj_mT1_ok : xj_mT1.all xj_mC = true := by decide +kernel
theorem xj_mT2_ok : xj_mT2.all xj_mC = true := by decide +kernel
theorem xj_mT3_ok : xj_mT3.all xj_mC = true := by decide +kernel
theorem xj_mT4_ok : xj_mT4.all xj_mC = true := by decide +kernel
theorem xj_mT5_ok : xj_mT5.all xj_mC = true := by decide +kernel
theorem xj_mT6_ok : xj_mT6.all xj_mC = true := by decide +kernel
theorem xj_mT7_ok : xj_mT7.all xj_mC = true := by decide +kernel
theorem xj_mT8_ok : xj_mT8.all xj_mC = true := by decide +kernel
theorem xj_mT9_ok : xj_mT9.all xj_mC = true := by decide +kernel
def xj_wC (r : xj_wR) : Bool := xj_mC r.1 && xj_w r.2.2.2 (.classLink (xj_nm r.1.1) r.2.1.2.2.2 (xj_en r.2.2.1)) && decide (r.2.1.2.2.2 ≠ 0)
theorem xj_wT_ok : xj_wT.all xj_wC = true := by decide +kernel
theorem xj_kC_0 : xj_kC 0 = true := by decide +kernel
theorem xj_kC_1 : xj_kC 1 = true := by decide +kernel
theorem xj_kC_2 : xj_kC 2 = true := by decide +kernel
theorem xj_kC_3 : xj_kC 3 = true := by decide +kernel
theorem xj_kC_4 : xj_kC 4 = true := by decide +kernel
theorem xj_kC_5 : xj_kC 5 = true := by decide +kernel
theorem xj_kC_6 : xj_kC 6 = true := by decide +kernel
theorem xj_kC_7 : xj_kC 7 = true := by decide +kernel
theorem xj_kC_8 : xj_kC 8 = true := by decide +kernel
theorem xj_kC_9 : xj_kC 9 = true := by decide +kernel
theorem xj_kC_10 : xj_kC 10 = true := by decide +kernel
theorem xj_kC_11 : xj_kC 11 = true := by decide +kernel
theorem xj_kC_12 : xj_kC 12 = true := by decide +kernel
theorem xj_kC_13 : xj_kC 13 = true := by decide +kernel
theorem xj_kC_14 : xj_kC 14 = true := by decide +kernel
theorem xj_kC_15 : xj_kC 15 = true := by decide +kernel
