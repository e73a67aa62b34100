/-! Lookups in the tables of links, and what they say -/
theorem xj_fT_all : ∀ o, (xj_fT o).all (xj_fC o) = true
  | 0 => xj_fT_0_0_ok
  | 1 => xj_fT_1_0_ok
  | 2 => xj_fT_2_0_ok
  | 3 => xj_fT_3_0_ok
  | 4 => by show (xj_fT_4_0 ++ xj_fT_4_1).all _ = true; simp only [List.all_append, xj_fT_4_0_ok, xj_fT_4_1_ok, Bool.and_self]
  | 5 => xj_fT_5_0_ok
  | 6 => xj_fT_6_0_ok
  | 7 => xj_fT_7_0_ok
  | 8 => xj_fT_8_0_ok
  | 9 => xj_fT_9_0_ok
  | 10 => by show (xj_fT_10_0 ++ xj_fT_10_1).all _ = true; simp only [List.all_append, xj_fT_10_0_ok, xj_fT_10_1_ok, Bool.and_self]
  | 11 => by show (xj_fT_11_0 ++ xj_fT_11_1 ++ xj_fT_11_2).all _ = true; simp only [List.all_append, xj_fT_11_0_ok, xj_fT_11_1_ok, xj_fT_11_2_ok, Bool.and_self]
  | 12 => xj_fT_12_0_ok
  | 13 => xj_fT_13_0_ok
  | 14 => by show (xj_fT_14_0 ++ xj_fT_14_1).all _ = true; simp only [List.all_append, xj_fT_14_0_ok, xj_fT_14_1_ok, Bool.and_self]
  | 15 => by show (xj_fT_15_0 ++ xj_fT_15_1 ++ xj_fT_15_2 ++ xj_fT_15_3 ++ xj_fT_15_4 ++ xj_fT_15_5 ++ xj_fT_15_6).all _ = true; simp only [List.all_append, xj_fT_15_0_ok, xj_fT_15_1_ok, xj_fT_15_2_ok, xj_fT_15_3_ok, xj_fT_15_4_ok, xj_fT_15_5_ok, xj_fT_15_6_ok, Bool.and_self]
  | 16 => rfl
  | 17 => rfl
  | 18 => rfl
  | 19 => rfl
  | _ + 20 => rfl
theorem xj_cT_all : ∀ o, (xj_cT o).all (xj_cC o) = true
  | 0 => xj_cT_0_0_ok
  | 1 => xj_cT_1_0_ok
  | 2 => xj_cT_2_0_ok
  | 3 => xj_cT_3_0_ok
  | 4 => by show (xj_cT_4_0 ++ xj_cT_4_1).all _ = true; simp only [List.all_append, xj_cT_4_0_ok, xj_cT_4_1_ok, Bool.and_self]
  | 5 => xj_cT_5_0_ok
  | 6 => xj_cT_6_0_ok
  | 7 => xj_cT_7_0_ok
  | 8 => xj_cT_8_0_ok
  | 9 => xj_cT_9_0_ok
  | 10 => by show (xj_cT_10_0 ++ xj_cT_10_1).all _ = true; simp only [List.all_append, xj_cT_10_0_ok, xj_cT_10_1_ok, Bool.and_self]
  | 11 => by show (xj_cT_11_0 ++ xj_cT_11_1).all _ = true; simp only [List.all_append, xj_cT_11_0_ok, xj_cT_11_1_ok, Bool.and_self]
  | 12 => xj_cT_12_0_ok
  | 13 => xj_cT_13_0_ok
  | 14 => xj_cT_14_0_ok
  | 15 => by show (xj_cT_15_0 ++ xj_cT_15_1 ++ xj_cT_15_2 ++ xj_cT_15_3 ++ xj_cT_15_4 ++ xj_cT_15_5).all _ = true; simp only [List.all_append, xj_cT_15_0_ok, xj_cT_15_1_ok, xj_cT_15_2_ok, xj_cT_15_3_ok, xj_cT_15_4_ok, xj_cT_15_5_ok, Bool.and_self]
  | 16 => by show (xj_cT_16_0 ++ xj_cT_16_1 ++ xj_cT_16_2).all _ = true; simp only [List.all_append, xj_cT_16_0_ok, xj_cT_16_1_ok, xj_cT_16_2_ok, Bool.and_self]
  | 17 => xj_cT_17_0_ok
  | 18 => xj_cT_18_0_ok
  | 19 => xj_cT_19_0_ok
  | _ + 20 => rfl
theorem xj_nT_all : ∀ o, (xj_nT o).all (xj_nC o) = true
  | 0 => rfl
  | 1 => xj_nT_1_0_ok
  | 2 => xj_nT_2_0_ok
  | 3 => xj_nT_3_0_ok
  | 4 => xj_nT_4_0_ok
  | 5 => xj_nT_5_0_ok
  | 6 => rfl
  | 7 => rfl
  | 8 => rfl
  | 9 => rfl
  | 10 => xj_nT_10_0_ok
  | 11 => xj_nT_11_0_ok
  | 12 => rfl
  | 13 => xj_nT_13_0_ok
  | 14 => rfl
  | 15 => xj_nT_15_0_ok
  | 16 => xj_nT_16_0_ok
  | 17 => rfl
  | 18 => rfl
  | 19 => rfl
  | _ + 20 => rfl
theorem xj_aT_all : ∀ o, (xj_aT o).all (xj_aC o) = true
  | 0 => rfl
  | 1 => xj_aT_1_0_ok
  | 2 => xj_aT_2_0_ok
  | 3 => xj_aT_3_0_ok
  | 4 => xj_aT_4_0_ok
  | 5 => xj_aT_5_0_ok
  | 6 => rfl
  | 7 => rfl
  | 8 => rfl
  | 9 => rfl
  | 10 => xj_aT_10_0_ok
  | 11 => xj_aT_11_0_ok
  | 12 => rfl
  | 13 => rfl
  | 14 => rfl
  | 15 => xj_aT_15_0_ok
  | 16 => rfl
  | 17 => rfl
  | 18 => rfl
  | 19 => rfl
  | _ + 20 => rfl
theorem xj_lT_all : ∀ o, (xj_lT o).all (xj_lC o) = true
  | 0 => rfl
  | 1 => rfl
  | 2 => rfl
  | 3 => rfl
  | 4 => xj_lT_4_0_ok
  | 5 => rfl
  | 6 => rfl
  | 7 => xj_lT_7_0_ok
  | 8 => xj_lT_8_0_ok
  | 9 => xj_lT_9_0_ok
  | 10 => xj_lT_10_0_ok
  | 11 => xj_lT_11_0_ok
  | 12 => rfl
  | 13 => rfl
  | 14 => rfl
  | 15 => xj_lT_15_0_ok
  | 16 => rfl
  | 17 => rfl
  | 18 => rfl
  | 19 => rfl
  | _ + 20 => rfl
theorem xj_iT_all : ∀ o, (xj_iT o).all (xj_iC o) = true
  | 0 => rfl
  | 1 => rfl
  | 2 => rfl
  | 3 => rfl
  | 4 => rfl
  | 5 => rfl
  | 6 => rfl
  | 7 => rfl
  | 8 => rfl
  | 9 => xj_iT_9_0_ok
  | 10 => xj_iT_10_0_ok
  | 11 => xj_iT_11_0_ok
  | 12 => rfl
  | 13 => xj_iT_13_0_ok
  | 14 => rfl
  | 15 => xj_iT_15_0_ok
  | 16 => rfl
  | 17 => rfl
  | 18 => rfl
  | 19 => rfl
  | _ + 20 => rfl
theorem xj_mT_all : xj_mT.all xj_mC = true := by unfold xj_mT; simp only [List.all_append, xj_mT0_ok, xj_mT1_ok, xj_mT2_ok, xj_mT3_ok, xj_mT4_ok, xj_mT5_ok, xj_mT6_ok, xj_mT7_ok, xj_mT8_ok, xj_mT9_ok, Bool.and_self]
theorem xj_mT_code {r : xj_mR} (h : r ∈ xj_mT) : Cond.code r.2.1 r.2.2.1 r.2.2.2.1 r.2.2.2.2.1 ∈ lw_tbl := by
  have key : ∀ {l : List xj_mR}, l.map (fun r => (xj_seg r.2.2.2.2.2.2.2.1.1)[r.2.2.2.2.2.2.2.1.2]?) = l.map (fun r => some (Cond.code r.2.1 r.2.2.1 r.2.2.2.1 r.2.2.2.2.1)) → r ∈ l → Cond.code r.2.1 r.2.2.1 r.2.2.2.1 r.2.2.2.2.1 ∈ lw_tbl := by
    intro l hl hr
    exact xj_seg_in (List.mem_of_getElem? (List.map_inj_left.mp hl r hr))
  unfold xj_mT at h
  simp only [List.mem_append] at h
  rcases h with h | h | h | h | h | h | h | h | h | h
  · exact key xj_mQ0 h
  · exact key xj_mQ1 h
  · exact key xj_mQ2 h
  · exact key xj_mQ3 h
  · exact key xj_mQ4 h
  · exact key xj_mQ5 h
  · exact key xj_mQ6 h
  · exact key xj_mQ7 h
  · exact key xj_mQ8 h
  · exact key xj_mQ9 h
theorem xj_uT_all : ∀ o, o < 16 → (xj_uT o).all (xj_uC o) = true
  | 0, _ => xj_uT_0_0_ok
  | 1, _ => xj_uT_1_0_ok
  | 2, _ => xj_uT_2_0_ok
  | 3, _ => xj_uT_3_0_ok
  | 4, _ => xj_uT_4_0_ok
  | 5, _ => xj_uT_5_0_ok
  | 6, _ => xj_uT_6_0_ok
  | 7, _ => xj_uT_7_0_ok
  | 8, _ => xj_uT_8_0_ok
  | 9, _ => xj_uT_9_0_ok
  | 10, _ => xj_uT_10_0_ok
  | 11, _ => xj_uT_11_0_ok
  | 12, _ => xj_uT_12_0_ok
  | 13, _ => by show (xj_uT_13_0 ++ xj_uT_13_1).all _ = true; simp only [List.all_append, xj_uT_13_0_ok, xj_uT_13_1_ok, Bool.and_self]
  | 14, _ => by show (xj_uT_14_0 ++ xj_uT_14_1).all _ = true; simp only [List.all_append, xj_uT_14_0_ok, xj_uT_14_1_ok, Bool.and_self]
  | 15, _ => by show (xj_uT_15_0 ++ xj_uT_15_1 ++ xj_uT_15_2 ++ xj_uT_15_3).all _ = true; simp only [List.all_append, xj_uT_15_0_ok, xj_uT_15_1_ok, xj_uT_15_2_ok, xj_uT_15_3_ok, Bool.and_self]
  | n + 16, h => absurd h (by omega)
def xj_fn (ci : Nat) : Nat := match vwCl[ci]? with | some r => r.2.2 | none => 0
theorem xj_uT_rng : ∀ o, o < 16 → (xj_uT o).map (fun q => q.1) = List.range (xj_fn o)
  | 0, _ => by decide +kernel
  | 1, _ => by decide +kernel
  | 2, _ => by decide +kernel
  | 3, _ => by decide +kernel
  | 4, _ => by decide +kernel
  | 5, _ => by decide +kernel
  | 6, _ => by decide +kernel
  | 7, _ => by decide +kernel
  | 8, _ => by decide +kernel
  | 9, _ => by decide +kernel
  | 10, _ => by decide +kernel
  | 11, _ => by decide +kernel
  | 12, _ => by decide +kernel
  | 13, _ => by decide +kernel
  | 14, _ => by decide +kernel
  | 15, _ => by decide +kernel
  | n + 16, h => absurd h (by omega)
theorem xj_kC_all : ∀ o, o < 16 → xj_kC o = true
  | 0, _ => xj_kC_0
  | 1, _ => xj_kC_1
  | 2, _ => xj_kC_2
  | 3, _ => xj_kC_3
  | 4, _ => xj_kC_4
  | 5, _ => xj_kC_5
  | 6, _ => xj_kC_6
  | 7, _ => xj_kC_7
  | 8, _ => xj_kC_8
  | 9, _ => xj_kC_9
  | 10, _ => xj_kC_10
  | 11, _ => xj_kC_11
  | 12, _ => xj_kC_12
  | 13, _ => xj_kC_13
  | 14, _ => xj_kC_14
  | 15, _ => xj_kC_15
  | n + 16, h => absurd h (by omega)
theorem xj_cl_lt {ci : Nat} {r : vw_C} (h : vwCl[ci]? = some r) : ci < 16 := (List.getElem?_eq_some_iff.mp h).1
theorem xj_cl_ws {ci : Nat} {r : vw_C} (h : vwCl[ci]? = some r) : ∀ w ∈ u_ws r.1 r.2.1 r.2.2, w ∈ xj_tb := by
  intro w hw
  obtain ⟨k, hk, rfl⟩ := List.mem_map.mp hw
  have hN : xj_fn ci = r.2.2 := by unfold xj_fn; rw [h]
  have h1 := xj_uT_rng ci (xj_cl_lt h)
  rw [hN] at h1
  have h2 : k ∈ (xj_uT ci).map (fun q => q.1) := by rw [h1]; exact hk
  obtain ⟨q, hq, rfl⟩ := List.mem_map.mp h2
  have h3 := List.all_eq_true.mp (xj_uT_all ci (xj_cl_lt h)) q hq
  unfold xj_uC at h3
  rw [h] at h3
  refine xj_w_in h3 ?_
  unfold u_lay
  split <;> rfl
theorem xj_cl_ty {ci : Nat} {r : vw_C} (h : vwCl[ci]? = some r) : ∀ k, k < r.2.2 → parseFieldDescriptor (r.2.1 k).2.2.1 = some (xj_ty ci k) := by
  intro k hk
  have h1 := xj_kC_all ci (xj_cl_lt h)
  unfold xj_kC at h1
  rw [h] at h1
  have h2 := List.all_eq_true.mp h1 k (List.mem_range.mpr hk)
  rw [Bool.and_eq_true] at h2
  exact of_decide_eq_true h2.1
theorem xj_cl_nm {ci : Nat} {r : vw_C} (h : vwCl[ci]? = some r) : ∀ a, a < r.2.2 → ∀ b, b < r.2.2 → a ≠ b → (r.2.1 a).2.1 ≠ (r.2.1 b).2.1 := by
  have h1 := xj_kC_all ci (xj_cl_lt h)
  unfold xj_kC at h1
  rw [h] at h1
  have key : ∀ a, a < r.2.2 → ∀ b, b < a → (r.2.1 a).2.1 ≠ (r.2.1 b).2.1 := by
    intro a ha b hb
    have h2 := List.all_eq_true.mp h1 a (List.mem_range.mpr ha)
    rw [Bool.and_eq_true] at h2
    exact of_decide_eq_true (List.all_eq_true.mp h2.2 b (List.mem_range.mpr hb))
  intro a ha b hb hab
  rcases Nat.lt_or_gt_of_ne hab with q | q
  · exact (key b hb a q).symm
  · exact key a ha b q
def xj_fld (o i : Nat) : Option (Nat × Nat) := ((xj_fT o).find? (fun q => q.1 == i)).map (fun q => (q.2.1, q.2.2.1))
theorem xj_fld_ok {o i ci k : Nat} (h : xj_fld o i = some (ci, k)) : ∃ r : vw_C, vwCl[ci]? = some r ∧ k < r.2.2 ∧ Cond.fieldLink (xj_nm o) i r.1 (r.2.1 k).2.1 (r.2.1 k).2.2.1 ∈ xj_tb ∧ (r.2.1 k).1 = r.1 := by
  unfold xj_fld at h
  obtain ⟨q, h1, h2⟩ := Option.map_eq_some_iff.mp h
  cases h2
  have h3 := List.all_eq_true.mp (xj_fT_all o) q (List.mem_of_find?_eq_some h1)
  have h4 := List.find?_some h1
  simp only [beq_iff_eq] at h4
  subst h4
  unfold xj_fC at h3
  split at h3
  · rename_i r hr
    simp only [Bool.and_eq_true] at h3
    exact ⟨r, hr, of_decide_eq_true h3.1.1, xj_w_in h3.1.2 rfl, of_decide_eq_true h3.2⟩
  · cases h3
/-- a class that is made -/
def xj_cls (o i : Nat) : Option Nat := ((xj_nT o).find? (fun q => q.1 == i)).map (fun q => q.2.1)
theorem xj_cls_ok {o i ci : Nat} (h : xj_cls o i = some ci) : ∃ r : vw_C, vwCl[ci]? = some r ∧ Cond.classLink (xj_nm o) i r.1 ∈ xj_tb ∧ Cond.instantiable r.1 r.2.2 ∈ xj_tb ∧ Cond.initialized r.1 ∈ xj_tb := by
  unfold xj_cls at h
  obtain ⟨q, h1, h2⟩ := Option.map_eq_some_iff.mp h
  cases h2
  have h3 := List.all_eq_true.mp (xj_nT_all o) q (List.mem_of_find?_eq_some h1)
  have h4 := List.find?_some h1
  simp only [beq_iff_eq] at h4
  subst h4
  unfold xj_nC at h3
  split at h3
  · rename_i r hr
    simp only [Bool.and_eq_true] at h3
    exact ⟨r, hr, xj_w_in h3.1.1 rfl, xj_w_in h3.1.2 rfl, xj_w_in h3.2 rfl⟩
  · cases h3
/-- the class of an array's elements -/
def xj_acl (o i : Nat) : Option Nat := ((xj_aT o).find? (fun q => q.1 == i)).map (fun q => q.2.1)
theorem xj_acl_ok {o i ci : Nat} (h : xj_acl o i = some ci) : ∃ r : vw_C, vwCl[ci]? = some r ∧ Cond.classLink (xj_nm o) i r.1 ∈ xj_tb ∧ Cond.arrayOver (.object r.1) ∈ lw_tbl := by
  unfold xj_acl at h
  obtain ⟨q, h1, h2⟩ := Option.map_eq_some_iff.mp h
  cases h2
  have h3 := List.all_eq_true.mp (xj_aT_all o) q (List.mem_of_find?_eq_some h1)
  have h4 := List.find?_some h1
  simp only [beq_iff_eq] at h4
  subst h4
  unfold xj_aC at h3
  split at h3
  · rename_i r hr
    simp only [Bool.and_eq_true] at h3
    exact ⟨r, hr, xj_w_in h3.1 rfl, xj_w_in0 h3.2⟩
  · cases h3
def xj_lng (o i : Nat) : Option Int64 := ((xj_lT o).find? (fun q => q.1 == i)).map (fun q => q.2.1)
theorem xj_lng_ok {o i : Nat} {v : Int64} (h : xj_lng o i = some v) : Cond.constantLong (xj_nm o) i v ∈ xj_tb := by
  unfold xj_lng at h
  obtain ⟨q, h1, h2⟩ := Option.map_eq_some_iff.mp h
  cases h2
  have h3 := List.all_eq_true.mp (xj_lT_all o) q (List.mem_of_find?_eq_some h1)
  have h4 := List.find?_some h1
  simp only [beq_iff_eq] at h4
  subst h4
  exact xj_w_in h3 rfl
def xj_int (o i : Nat) : Option Int32 := ((xj_iT o).find? (fun q => q.1 == i)).map (fun q => q.2.1)
theorem xj_int_ok {o i : Nat} {v : Int32} (h : xj_int o i = some v) : Cond.constant (xj_nm o) i v ∈ xj_tb := by
  unfold xj_int at h
  obtain ⟨q, h1, h2⟩ := Option.map_eq_some_iff.mp h
  cases h2
  have h3 := List.all_eq_true.mp (xj_iT_all o) q (List.mem_of_find?_eq_some h1)
  have h4 := List.find?_some h1
  simp only [beq_iff_eq] at h4
  subst h4
  exact xj_w_in h3 rfl
