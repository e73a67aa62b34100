/-! arraycopy, clone, throws, Strings, in the class's cells as functions -/
section
variable {m c k n x kk ci : Nat} {M0 M : xj_M} {T : xT_} {z v : Int}
theorem xCX.putA (h : xCX m M0 M T) (h1 : (T.1 x).1 = 2) {g' : Nat → Value} {G' : Nat → Int} (hv : ∀ i, i < (T.1 x).2.2 → g' i = xCv (xh_t (T.1 x) i) (G' i) ∧ xCin (xh_t (T.1 x) i) (G' i)) : xCX m M0 (xj_put M x (.inr (.inl ((T.1 x).2.1, (T.1 x).2.2, g')))) (T.1, xz1 T.2.1 x G', T.2.2) := by
  obtain ⟨g, q1, q2, q3⟩ := h.arr h1
  obtain ⟨g0, hg⟩ := xh_arr q2
  have ho := h.out (x := x) (by omega)
  refine ⟨fun a ha => ?_, fun a ha => ⟨(h.2.1 a ha).1, ?_⟩, ?_, h.2.2.2.1, h.2.2.2.2⟩
  · show xh_sh _ a = T.1 a ∧ ∀ i, i < (T.1 a).2.2 → xh_v _ a i = xCv (xh_t (T.1 a) i) (xz1 T.2.1 x G' a i) ∧ xCin (xh_t (T.1 a) i) (xz1 T.2.1 x G' a i)
    unfold xh_sh xh_v xz1
    rw [xh_get_put hg]
    by_cases e : a = x
    · subst e
      simp only [if_pos]
      exact ⟨(Prod.ext h1 rfl : T.1 a = (2, (T.1 a).2.1, (T.1 a).2.2)).symm, hv⟩
    · simp only [if_neg e]
      exact h.1 a ha
  · rw [xh_get_put hg, if_neg (fun e : a = x => ho (e ▸ ha))]
    exact (h.2.1 a ha).2
  · show 64 + (M.1.set _ _).length = _
    rw [List.length_set]
    exact h.2.2.1
theorem xCX.cp {a0 a : Nat} {sp dp n : Int} {T' : xT_} (h : xCX m M0 M T) (e : cq_cp a0 sp a dp n T = some T') : ∃ M', xq_cp a0 sp a dp n M = some M' ∧ xCX m M0 M' T' := by
  unfold cq_cp at e
  split at e
  · rename_i hc
    obtain ⟨h0, h1, h2, h3, h4, h5, h6, h7, h8⟩ := hc
    cases e
    obtain ⟨g0, p1, p2, p3⟩ := h.arr h0
    obtain ⟨g1, q1, q2, q3⟩ := h.arr h1
    have ht : ∀ i j, xh_t (T.1 a0) i = xh_t (T.1 a) j := by intro i j; rw [xh_ta h0, xh_ta h1, h2]
    refine ⟨_, ?_, h.putA h1 (g' := va_cpy g0 g1 sp.toNat dp.toNat n.toNat) ?_⟩
    · unfold xq_cp
      simp only [p1, q1]
      rw [if_pos]
      refine ⟨h2, by omega, h4, h5, h6, h7, h8, ?_⟩
      rw [List.all_eq_true]
      intro i hi
      rw [List.mem_range] at hi
      have hv := (h.vv (x := a0) (i := sp.toNat + i) (by omega) (by omega)).1
      rw [p3, hv, xh_ta h0, h2]
      rcases h3 with e3 | e3 <;> rw [e3] <;> rfl
    · intro i hi
      unfold va_cpy
      by_cases hq : dp.toNat ≤ i ∧ i < dp.toNat + n.toNat
      · rw [if_pos hq, if_pos hq, p3]
        have hv := h.vv (x := a0) (i := sp.toNat + (i - dp.toNat)) (by omega) (by omega)
        rw [ht _ i] at hv
        exact hv
      · rw [if_neg hq, if_neg hq, q3]
        exact h.vv (x := a) (i := i) (by omega) hi
  · cases e
theorem xCX.cl {p : Nat × xT_} (h : xCX m M0 M T) (e : cq_cl kk x T = some p) : ∃ M', xq_cl kk x M = some (p.1, M') ∧ xCX m M0 M' p.2 := by
  unfold cq_cl at e
  split at e
  · rename_i hc
    obtain ⟨h1, h2, h3⟩ := hc
    cases e
    obtain ⟨g, q1, q2, q3⟩ := h.arr h1
    refine ⟨_, ?_, h.new (cell := .inr (.inl ((T.1 x).2.1, (T.1 x).2.2, g))) (s := T.1 x) (g := T.2.1 x) (n := (T.1 x).2.2) (Prod.ext h1 rfl : T.1 x = (2, (T.1 x).2.1, (T.1 x).2.2)).symm ?_⟩
    · unfold xq_cl
      simp only [q1]
      rw [if_pos, ← h.2.2.1]
      · rfl
      · refine ⟨h2, ?_⟩
        rw [List.all_eq_true]
        intro i hi
        rw [List.mem_range] at hi
        have hv := (h.vv (x := x) (i := i) (by omega) hi).1
        rw [q3, hv, xh_ta h1, h2]
        rcases h3 with rfl | h5
        · rfl
        · obtain ⟨q, rfl⟩ : ∃ q, kk = q + 5 := ⟨kk - 5, by omega⟩
          show fits (.object _) (xR_ _) = true
          unfold xR_
          by_cases e0 : (T.2.1 x i).toNat = 0
          · rw [if_pos e0]; rfl
          · rw [if_neg e0]; rfl
    · intro i hi
      simp only
      rw [q3]
      exact h.vv (x := x) (i := i) (by omega) hi
  · cases e
theorem xCX.ca {u : Unit} (h : xCX m M0 M T) (e : cq_ca kk x T = some u) : xq_ca kk x M = some () := by
  unfold cq_ca at e
  split at e
  · rename_i hc
    obtain ⟨g, q1, q2, q3⟩ := h.arr hc.1
    unfold xq_ca
    simp only [q1]
    rw [if_pos hc.2]
  · cases e
end
theorem cth_l {α β : Type} {R : (Nat ⊕ α) × xT_} {k : α → Option ((Nat ⊕ β) × xT_)} {e : Nat} (h : R.1 = .inl e) : cth R k = some (.inl e, R.2) := by unfold cth; rw [h]
theorem cth_r {α β : Type} {R : (Nat ⊕ α) × xT_} {k : α → Option ((Nat ⊕ β) × xT_)} {v : α} (h : R.1 = .inr v) : cth R k = k v := by unfold cth; rw [h]
theorem chd_l {α β : Type} {R : (Nat ⊕ α) × xT_} {e0 : Nat} {c : Option β} {k : α → Option β} {e : Nat} {r : β} (h : R.1 = .inl e) (hr : chd R e0 c k = some r) : e = e0 ∧ c = some r := by
  unfold chd at hr
  rw [h] at hr
  simp only at hr
  split at hr
  · rename_i g; exact ⟨g, hr⟩
  · cases hr
theorem chd_r {α β : Type} {R : (Nat ⊕ α) × xT_} {e0 : Nat} {c : Option β} {k : α → Option β} {v : α} (h : R.1 = .inr v) : chd R e0 c k = k v := by unfold chd; rw [h]
theorem xhd_e {α β : Type} {R : (Nat ⊕ α) × xj_M} {e0 : Nat} {c : Option β} {k : α → Option β} {e : Nat} (h : R.1 = .inl e) (g : e = e0) : xhd R e0 c k = c := by
  unfold xhd
  rw [h]
  simp only
  rw [if_pos g]
/-- Strings: length, charAt, indexOf of a constant -/
def xHS (f : Nat) : Prop := (∀ {x : Nat} {v : Int} (M : xj_M), xcsl x = some v → f385 f x M = some (v, M) ∧ xin v) ∧ (∀ {x : Nat} {z v : Int}, xin z → ∀ (M : xj_M), xcsa x z = some v → f386 f x z M = some (v, M) ∧ xin v) ∧ (∀ {x : Nat} {c v : Int}, xin c → ∀ (M : xj_M), xcsx x c = some v → f387 f x c M = some (v, M) ∧ xin v)
theorem xHS.xcsl {f : Nat} (h : xHS f) {x : Nat} {v : Int} (M : xj_M) (e : xcsl x = some v) : f385 f x M = some (v, M) ∧ xin v := h.1 M e
theorem xHS.xcsa {f : Nat} (h : xHS f) {x : Nat} {z v : Int} (hz : xin z) (M : xj_M) (e : xcsa x z = some v) : f386 f x z M = some (v, M) ∧ xin v := h.2.1 hz M e
theorem xHS.xcsx {f : Nat} (h : xHS f) {x : Nat} {c v : Int} (hc : xin c) (M : xj_M) (e : xcsx x c = some v) : f387 f x c M = some (v, M) ∧ xin v := h.2.2 hc M e
