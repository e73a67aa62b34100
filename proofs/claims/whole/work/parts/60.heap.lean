/-! The memory by places: what stands at a place, its shape; what a store changes -/
def xh_sh (M : xj_M) (a : Nat) : Nat × Nat × Nat := match xj_get M a with
  | some (.inr (.inl q)) => (2, q.1, q.2.1)
  | some (.inr (.inr o)) => (1, o.1, o.2.length)
  | _ => (0, 0, 0)
def xh_v (M : xj_M) (a i : Nat) : Value := match xj_get M a with
  | some (.inr (.inl q)) => q.2.2 i
  | some (.inr (.inr o)) => o.2.getD i .null
  | _ => .null
def xh_up (M : xj_M) (a i : Nat) (v : Value) : xj_M := match xj_get M a with
  | some (.inr (.inl q)) => xj_put M a (.inr (.inl (q.1, q.2.1, updV q.2.2 i v)))
  | some (.inr (.inr o)) => xj_put M a (.inr (.inr (o.1, o.2.set i v)))
  | _ => M
theorem xh_obj {M : xj_M} {a c n : Nat} (h : xh_sh M a = (1, c, n)) : ∃ fs : List Value, xj_get M a = some (.inr (.inr (c, fs))) ∧ fs.length = n := by
  unfold xh_sh at h
  split at h
  · cases h
  · rename_i o ho
    obtain ⟨c', fs⟩ := o
    simp only [Prod.mk.injEq, true_and] at h
    obtain ⟨rfl, rfl⟩ := h
    exact ⟨fs, ho, rfl⟩
  · cases h
theorem xh_arr {M : xj_M} {a k n : Nat} (h : xh_sh M a = (2, k, n)) : ∃ f : Nat → Value, xj_get M a = some (.inr (.inl (k, n, f))) := by
  unfold xh_sh at h
  split at h
  · rename_i q hq
    obtain ⟨k', n', f⟩ := q
    simp only [Prod.mk.injEq, true_and] at h
    obtain ⟨rfl, rfl⟩ := h
    exact ⟨f, hq⟩
  · cases h
  · cases h
theorem xh_get_put {M : xj_M} {a b : Nat} {c c0 : xj_C} (h : xj_get M a = some c0) : xj_get (xj_put M a c) b = if b = a then some c else xj_get M b := by
  obtain ⟨h1, h2⟩ := xj_get_inv h
  have hlt := (List.getElem?_eq_some_iff.mp h2).1
  unfold xj_get xj_put
  by_cases e : b = a
  · subst e
    rw [if_pos rfl, if_neg (by omega)]
    exact List.getElem?_set_self hlt
  · rw [if_neg e]
    by_cases e2 : b < 64
    · rw [if_pos e2, if_pos e2]
    · rw [if_neg e2, if_neg e2]
      exact List.getElem?_set_ne (by omega)
theorem xh_sh_up (M : xj_M) (a i : Nat) (v : Value) (b : Nat) : xh_sh (xh_up M a i v) b = xh_sh M b := by
  unfold xh_up
  split
  · rename_i q hq
    unfold xh_sh
    rw [xh_get_put hq]
    by_cases e : b = a
    · subst e
      rw [if_pos rfl, hq]
    · rw [if_neg e]
  · rename_i o ho
    unfold xh_sh
    rw [xh_get_put ho]
    by_cases e : b = a
    · subst e
      rw [if_pos rfl, ho]
      simp only [List.length_set]
    · rw [if_neg e]
  · rfl
theorem xh_v_up {M : xj_M} {a i : Nat} (hi : i < (xh_sh M a).2.2) (v : Value) (b j : Nat) : xh_v (xh_up M a i v) b j = if b = a ∧ j = i then v else xh_v M b j := by
  unfold xh_sh at hi
  split at hi
  · rename_i q hq
    have eu : xh_up M a i v = xj_put M a (.inr (.inl (q.1, q.2.1, updV q.2.2 i v))) := by unfold xh_up; rw [hq]
    rw [eu]
    unfold xh_v
    rw [xh_get_put hq]
    by_cases e : b = a
    · subst e
      rw [if_pos rfl, hq]
      simp only [updV, true_and]
    · rw [if_neg e, if_neg (fun q => e q.1)]
  · rename_i o ho
    have eu : xh_up M a i v = xj_put M a (.inr (.inr (o.1, o.2.set i v))) := by unfold xh_up; rw [ho]
    rw [eu]
    unfold xh_v
    rw [xh_get_put ho]
    by_cases e : b = a
    · subst e
      rw [if_pos rfl, ho]
      simp only [true_and]
      simp only at hi
      rw [List.getD_eq_getElem?_getD, List.getD_eq_getElem?_getD]
      by_cases e2 : j = i
      · subst e2
        rw [if_pos rfl, List.getElem?_set_self hi]
        rfl
      · rw [if_neg e2, List.getElem?_set_ne (Ne.symm e2)]
    · rw [if_neg e, if_neg (fun q => e q.1)]
  · exact absurd hi (Nat.not_lt_zero _)
theorem xh_len_up (M : xj_M) (a i : Nat) (v : Value) : (xh_up M a i v).1.length = M.1.length := by
  unfold xh_up
  split
  · simp [xj_put]
  · simp [xj_put]
  · rfl
theorem xh_slots_up (M : xj_M) (a i : Nat) (v : Value) : (xh_up M a i v).2 = M.2 := by
  unfold xh_up
  split <;> rfl
/-- ints and longs at a place -/
def xh_i (M : xj_M) (a i : Nat) : Int := match xh_v M a i with
  | .int x => x.toInt
  | _ => 0
def xh_l (M : xj_M) (a i : Nat) : Int := match xh_v M a i with
  | .long x => x.toInt
  | _ => 0
def xh_ok (t : Nat) (v : Value) : Prop := match t with
  | 0 => ∃ x : Int32, v = .int x
  | 1 => ∃ x : Int64, v = .long x
  | 2 => v = .null ∨ ∃ a : Nat, v = .ref a
  | 3 => ∃ x : Int32, v = .int x ∧ 0 ≤ x.toInt ∧ x.toInt ≤ 1
  | 4 => ∃ x : Int32, v = .int x ∧ -128 ≤ x.toInt ∧ x.toInt ≤ 127
  | 5 => ∃ x : Int32, v = .int x ∧ 0 ≤ x.toInt ∧ x.toInt ≤ 65535
  | _ => True
/-- the type's code at a place of a shape: of arrays by their kinds -/
def xh_t (s : Nat × Nat × Nat) (i : Nat) : Nat := match s.1 with
  | 1 => (match xo_tc (xj_ty s.2.1 i) with | some t => t | none => 9)
  | 2 => (match s.2.1 with | 0 => 3 | 1 => 4 | 2 => 5 | 3 => 0 | 4 => 1 | _ => 2)
  | _ => 9
def xh_wt (M : xj_M) : Prop := ∀ a i, i < (xh_sh M a).2.2 → xh_ok (xh_t (xh_sh M a) i) (xh_v M a i)
theorem xh_int {M : xj_M} {a i : Nat} (hw : xh_wt M) (hi : i < (xh_sh M a).2.2) (ht : xh_t (xh_sh M a) i = 0 ∨ xh_t (xh_sh M a) i = 3 ∨ xh_t (xh_sh M a) i = 4 ∨ xh_t (xh_sh M a) i = 5) : xh_v M a i = xI (xh_i M a i) ∧ xin (xh_i M a i) := by
  have h := hw a i hi
  have hx : ∃ x : Int32, xh_v M a i = .int x := by
    rcases ht with e | e | e | e <;> rw [e] at h
    · exact h
    · obtain ⟨x, h1, -⟩ := h; exact ⟨x, h1⟩
    · obtain ⟨x, h1, -⟩ := h; exact ⟨x, h1⟩
    · obtain ⟨x, h1, -⟩ := h; exact ⟨x, h1⟩
  obtain ⟨x, hx⟩ := hx
  unfold xh_i
  rw [hx]
  simp only [xI, Int32.ofInt_toInt, true_and]
  exact ⟨Int32.le_toInt x, Int32.toInt_lt x⟩
theorem xh_long {M : xj_M} {a i : Nat} (hw : xh_wt M) (hi : i < (xh_sh M a).2.2) (ht : xh_t (xh_sh M a) i = 1) : xh_v M a i = xZ (xh_l M a i) ∧ xiN (xh_l M a i) := by
  have h := hw a i hi
  rw [ht] at h
  obtain ⟨x, hx⟩ := h
  unfold xh_l
  rw [hx]
  simp only [xZ, Int64.ofInt_toInt, true_and]
  exact ⟨Int64.le_toInt x, Int64.toInt_lt x⟩
theorem xh_wt_up {M : xj_M} {a i : Nat} {v : Value} (hw : xh_wt M) (hi : i < (xh_sh M a).2.2) (hv : xh_ok (xh_t (xh_sh M a) i) v) : xh_wt (xh_up M a i v) := by
  intro b j hj
  rw [xh_sh_up] at hj ⊢
  rw [xh_v_up hi]
  by_cases e : b = a ∧ j = i
  · rw [if_pos e]
    obtain ⟨rfl, rfl⟩ := e
    exact hv
  · rw [if_neg e]
    exact hw b j hj
/-! what the instructions' functions are on a memory whose shapes are known -/
section
variable {M : xj_M} {x c k n kk : Nat} {z v : Int}
theorem xq_is_eq (hs : xh_sh M x = (1, c, n)) : xq_is c x M = some () := by
  obtain ⟨fs, h1, h2⟩ := xh_obj hs
  have h3 : xj_obj M x = some (c, fs) := by unfold xj_obj; rw [h1]
  unfold xq_is
  simp only [h3, if_pos]
theorem xq_p_eq {w : Value} (hs : xh_sh M x = (1, c, n)) (hv : xj_okv (xj_ty c k) w = true) : xq_p c k x w M = some (xh_up M x k w) := by
  obtain ⟨fs, h1, h2⟩ := xh_obj hs
  have h3 : xj_obj M x = some (c, fs) := by unfold xj_obj; rw [h1]
  unfold xq_p
  simp only [h3]
  rw [if_pos ⟨trivial, hv⟩]
  unfold xh_up
  rw [h1]
theorem xq_s_eq {w : Value} (hs : xh_sh M x = (2, kk, n)) (h0 : 0 ≤ z) (h1 : z < n) : xq_s kk x z w M = some (xh_up M x z.toNat w) := by
  obtain ⟨f, hf⟩ := xh_arr hs
  have h3 : xj_arr M x = some (kk, n, f) := by unfold xj_arr; rw [hf]
  unfold xq_s
  simp only [h3]
  rw [if_pos ⟨trivial, h0, h1⟩]
  unfold xh_up
  rw [hf]
theorem xq_sb_eq1 (hs : xh_sh M x = (2, 1, n)) (h0 : 0 ≤ z) (h1 : z < n) : xq_sb x z v M = some (xh_up M x z.toNat (xI (xnar .byte v))) := by
  obtain ⟨f, hf⟩ := xh_arr hs
  have h3 : xj_arr M x = some (1, n, f) := by unfold xj_arr; rw [hf]
  unfold xq_sb
  simp only [h3, if_pos]
  exact xq_s_eq hs h0 h1
theorem xq_sb_eq0 (hs : xh_sh M x = (2, 0, n)) (h0 : 0 ≤ z) (h1 : z < n) : xq_sb x z v M = some (xh_up M x z.toNat (xI (xnar .boolean v))) := by
  obtain ⟨f, hf⟩ := xh_arr hs
  have h3 : xj_arr M x = some (0, n, f) := by unfold xj_arr; rw [hf]
  unfold xq_sb
  simp only [h3]
  rw [if_neg (by decide), if_pos trivial]
  exact xq_s_eq hs h0 h1
end
