/-! What is made, in the class's cells as functions -/
theorem xh_get_new (M : xj_M) (c : xj_C) (n a : Nat) : xj_get (xj_new M c n) a = if a = 64 + M.1.length then some c else xj_get M a := by
  unfold xj_get xj_new
  by_cases h : a < 64
  · rw [if_pos h, if_pos h, if_neg (by omega)]
  · rw [if_neg h, if_neg h]
    by_cases e : a = 64 + M.1.length
    · rw [if_pos e, List.getElem?_append_right (by omega)]
      rw [show a - 64 - M.1.length = 0 by omega]
      rfl
    · rw [if_neg e]
      by_cases g : a - 64 < M.1.length
      · exact List.getElem?_append_left g
      · rw [List.getElem?_append_right (by omega), List.getElem?_eq_none (by simp; omega), List.getElem?_eq_none (by omega)]
section
variable {m c k n x kk ci : Nat} {M0 M : xj_M} {T : xT_} {z v : Int}
theorem xCX.new {cell : xj_C} {s : Nat × Nat × Nat} {g : Nat → Int} (h : xCX m M0 M T) (hs : (match (some cell : Option xj_C) with | some (.inr (.inl q)) => (2, q.1, q.2.1) | some (.inr (.inr o)) => (1, o.1, o.2.length) | _ => (0, 0, 0)) = s)
    (hv : ∀ i, i < s.2.2 → (match (some cell : Option xj_C) with | some (.inr (.inl q)) => q.2.2 i | some (.inr (.inr o)) => o.2.getD i .null | _ => Value.null) = xCv (xh_t s i) (g i) ∧ xCin (xh_t s i) (g i)) : xCX m M0 (xj_new M cell n) (cq_mk s g n T) := by
  have hn : 64 + M.1.length = T.2.2.1 := h.2.2.1
  have hm := h.2.2.2.2
  refine ⟨fun a ha => ?_, fun a ha => ?_, ?_, ?_, ?_⟩
  · show xh_sh _ a = xup1 T.1 T.2.2.1 s a ∧ ∀ i, i < (xup1 T.1 T.2.2.1 s a).2.2 → xh_v _ a i = xCv (xh_t (xup1 T.1 T.2.2.1 s a) i) (xz1 T.2.1 T.2.2.1 g a i) ∧ xCin (xh_t (xup1 T.1 T.2.2.1 s a) i) (xz1 T.2.1 T.2.2.1 g a i)
    unfold xup1 xz1 xh_sh xh_v
    rw [xh_get_new, hn]
    by_cases e : a = T.2.2.1
    · simp only [if_pos e]
      exact ⟨hs, hv⟩
    · simp only [if_neg e]
      exact h.1 a ha
  · refine ⟨?_, ?_⟩
    · show xup1 T.1 T.2.2.1 s a = _
      unfold xup1
      rw [if_neg (by omega)]
      exact (h.2.1 a ha).1
    · rw [xh_get_new, hn, if_neg (by omega)]
      exact (h.2.1 a ha).2
  · show 64 + (M.1 ++ [cell]).length = T.2.2.1 + 1
    rw [List.length_append]
    simp only [List.length_cons, List.length_nil]
    omega
  · show M.2 + n = T.2.2.2 + n
    rw [h.2.2.2.1]
  · show m + xHl m ≤ T.2.2.1 + 1
    omega
theorem xdef_t {ty : FieldType} {t : Nat} (h : xo_tc ty = some t) : defaultValue ty = xCv t 0 ∧ xCin t 0 := by
  cases ty <;> cases h
  · exact ⟨rfl, by show xin 0; decide⟩
  · exact ⟨rfl, by show xiN 0; decide⟩
  · exact ⟨rfl, by show (0 : Int) ≤ 0 ∧ (0 : Int) ≤ 1; decide⟩
  · exact ⟨rfl, by show (0 : Int) ≤ 0; decide⟩
  · exact ⟨rfl, by show (0 : Int) ≤ 0; decide⟩
theorem xCX.nw {p : Nat × xT_} (h : xCX m M0 M T) (hr : (vwCl[ci]?).map (fun r => r.2.2) = some n) (ht : ∀ i, i < n → (xo_tc (xj_ty ci i)).isSome = true) (e : cq_nw ci n T = some p) : ∃ M', xq_nw ci M = some (p.1, M') ∧ xCX m M0 M' p.2 := by
  cases e
  obtain ⟨r, h1, h2⟩ := Option.map_eq_some_iff.mp hr
  refine ⟨_, ?_, h.new (cell := .inr (.inr (ci, (List.range r.2.2).map (fun k => defaultValue (xj_ty ci k))))) (s := (1, ci, n)) (g := fun _ => 0) (n := n) ?_ ?_⟩
  · unfold xq_nw
    rw [h1]
    simp only
    rw [← h.2.2.1, h2]
    rfl
  · simp only [List.length_map, List.length_range, h2]
  · intro i hi
    simp only at hi
    obtain ⟨t, hx⟩ := Option.isSome_iff_exists.mp (ht i hi)
    have h3 := xdef_t hx
    have h4 : xh_t (1, ci, n) i = t := by unfold xh_t; simp only [hx]
    rw [h4]
    refine ⟨?_, h3.2⟩
    simp only
    rw [List.getD_eq_getElem?_getD, List.getElem?_map, List.getElem?_range (by omega)]
    exact h3.1
theorem xCX.na {p : Nat × xT_} (h : xCX m M0 M T) (hk : kk < 5) (e : cq_na kk z T = some p) : ∃ M', xq_na kk z M = some (p.1, M') ∧ xCX m M0 M' p.2 := by
  unfold cq_na at e
  split at e
  · rename_i hc
    cases e
    refine ⟨_, ?_, h.new (cell := .inr (.inl (kk, z.toNat, fun _ => defaultValue (xj_kty kk)))) (s := (2, kk, z.toNat)) (g := fun _ => 0) (n := z.toNat) rfl ?_⟩
    · unfold xq_na
      rw [if_pos hc, ← h.2.2.1]
      rfl
    · intro i _
      have : kk = 0 ∨ kk = 1 ∨ kk = 2 ∨ kk = 3 ∨ kk = 4 := by omega
      rcases this with rfl | rfl | rfl | rfl | rfl
      · exact ⟨rfl, by show (0 : Int) ≤ 0 ∧ (0 : Int) ≤ 1; decide⟩
      · exact ⟨rfl, by show (-128 : Int) ≤ 0 ∧ (0 : Int) ≤ 127; decide⟩
      · exact ⟨rfl, by show (0 : Int) ≤ 0 ∧ (0 : Int) ≤ 65535; decide⟩
      · exact ⟨rfl, by show xin 0; decide⟩
      · exact ⟨rfl, by show xiN 0; decide⟩
  · cases e
theorem xCX.an {p : Nat × xT_} (h : xCX m M0 M T) (e : cq_an ci z T = some p) : ∃ M', xq_an ci z M = some (p.1, M') ∧ xCX m M0 M' p.2 := by
  unfold cq_an at e
  split at e
  · rename_i hc
    cases e
    refine ⟨_, ?_, h.new (cell := .inr (.inl (ci + 5, z.toNat, fun _ => .null))) (s := (2, ci + 5, z.toNat)) (g := fun _ => 0) (n := z.toNat) rfl ?_⟩
    · unfold xq_an
      rw [if_pos hc, ← h.2.2.1]
      rfl
    · intro i _
      exact ⟨rfl, by show (0 : Int) ≤ 0; decide⟩
  · cases e
/-- what is thrown takes a cell -/
theorem xCX.ex (h : xCX m M0 M T) : xCX m M0 (xj_new M (.inl ()) 6) (cq_ex T) := h.new (cell := .inl ()) (s := (0, 0, 0)) (g := fun _ => 0) (n := 6) rfl (fun i hi => absurd hi (Nat.not_lt_zero _))
end
