/-! The class's cells as functions: shapes, what stands at each place (references as their places, 0 null), the next place, all slots -/
def xCv (t : Nat) (z : Int) : Value := match t with
  | 1 => xZ z
  | 2 => xR_ z.toNat
  | _ => xI z
def xCin (t : Nat) (z : Int) : Prop := match t with
  | 1 => xiN z
  | 2 => 0 ≤ z
  | 3 => 0 ≤ z ∧ z ≤ 1
  | 4 => -128 ≤ z ∧ z ≤ 127
  | 5 => 0 ≤ z ∧ z ≤ 65535
  | _ => xin z
-- M has T at all cells but the reference's (from m on), and those as M0 has them
/-- how many cells of the reference stand among the class's: none before it is made (m = 0) -/
def xHl (m : Nat) : Nat := if m = 0 then 0 else 276
def xCX (m : Nat) (M0 M : xj_M) (T : xT_) : Prop := (∀ a, ¬ (m ≤ a ∧ a < m + xHl m) → xh_sh M a = T.1 a ∧ ∀ i, i < (T.1 a).2.2 → xh_v M a i = xCv (xh_t (T.1 a) i) (T.2.1 a i) ∧ xCin (xh_t (T.1 a) i) (T.2.1 a i)) ∧ (∀ a, m ≤ a ∧ a < m + xHl m → T.1 a = (0, 0, 0) ∧ xj_get M a = xj_get M0 a) ∧ 64 + M.1.length = T.2.2.1 ∧ M.2 = T.2.2.2 ∧ m + xHl m ≤ T.2.2.1
section
variable {m c k n x kk : Nat} {M0 M : xj_M} {T : xT_} {z v : Int}
theorem xCX.out (h : xCX m M0 M T) (hx : (T.1 x).1 ≠ 0) : ¬ (m ≤ x ∧ x < m + xHl m) := by
  intro q
  rw [(h.2.1 x q).1] at hx
  exact hx rfl
theorem xCX.sh (h : xCX m M0 M T) (hx : (T.1 x).1 ≠ 0) : xh_sh M x = T.1 x := (h.1 x (h.out hx)).1
theorem xCX.vv (h : xCX m M0 M T) (hx : (T.1 x).1 ≠ 0) {i : Nat} (hi : i < (T.1 x).2.2) : xh_v M x i = xCv (xh_t (T.1 x) i) (T.2.1 x i) ∧ xCin (xh_t (T.1 x) i) (T.2.1 x i) := (h.1 x (h.out hx)).2 i hi
theorem xCX.ge (h : xCX m M0 M T) (hx : (T.1 x).1 ≠ 0) : 64 ≤ x := by
  have h1 := h.sh hx
  rw [← h1] at hx
  unfold xh_sh at hx
  split at hx
  · rename_i q hq; exact (xj_get_inv hq).1
  · rename_i q hq; exact (xj_get_inv hq).1
  · exact absurd rfl hx
theorem xCX.up (h : xCX m M0 M T) (hx : (T.1 x).1 ≠ 0) {i : Nat} (hi : i < (T.1 x).2.2) (hv : xCin (xh_t (T.1 x) i) v) : xCX m M0 (xh_up M x i (xCv (xh_t (T.1 x) i) v)) (T.1, xup2 T.2.1 x i v, T.2.2) := by
  have hi2 : i < (xh_sh M x).2.2 := by rw [h.sh hx]; exact hi
  refine ⟨fun a ha => ⟨by rw [xh_sh_up]; exact (h.1 a ha).1, fun j hj => ?_⟩, fun a ha => ⟨(h.2.1 a ha).1, ?_⟩, by rw [xh_len_up]; exact h.2.2.1, by rw [xh_slots_up]; exact h.2.2.2.1, h.2.2.2.2⟩
  · rw [xh_v_up hi2]
    show (if a = x ∧ j = i then _ else _) = xCv _ (xup2 T.2.1 x i v a j) ∧ xCin _ (xup2 T.2.1 x i v a j)
    unfold xup2
    by_cases e : a = x ∧ j = i
    · obtain ⟨rfl, rfl⟩ := e
      rw [if_pos ⟨rfl, rfl⟩, if_pos ⟨rfl, rfl⟩]
      exact ⟨rfl, hv⟩
    · rw [if_neg e, if_neg e]
      exact (h.1 a ha).2 j hj
  · rw [← (h.2.1 a ha).2]
    have ho := h.out hx
    unfold xh_up
    split
    · rename_i q hq
      rw [xh_get_put hq, if_neg (fun e : a = x => ho (e ▸ ha))]
    · rename_i q hq
      rw [xh_get_put hq, if_neg (fun e : a = x => ho (e ▸ ha))]
    · rfl
theorem xCX.obj (h : xCX m M0 M T) (hs : T.1 x = (1, c, n)) : ∃ fs : List Value, xj_obj M x = some (c, fs) ∧ fs.length = n ∧ ∀ i, i < n → fs[i]? = some (xh_v M x i) := by
  obtain ⟨fs, h1, h2⟩ := xh_obj ((h.sh (by rw [hs]; exact Nat.one_ne_zero)).trans hs)
  refine ⟨fs, by unfold xj_obj; rw [h1], h2, fun i hi => ?_⟩
  unfold xh_v
  rw [h1]
  simp only
  rw [List.getD_eq_getElem?_getD, List.getElem?_eq_getElem (by omega)]
  rfl
theorem xCv_i {t : Nat} (ht : t = 0 ∨ t = 3 ∨ t = 4 ∨ t = 5) : xCv t z = xI z := by rcases ht with rfl | rfl | rfl | rfl <;> rfl
theorem xCin_i {t : Nat} (ht : t = 0 ∨ t = 3 ∨ t = 4 ∨ t = 5) (h : xCin t z) : xin z := by
  rcases ht with rfl | rfl | rfl | rfl
  · exact h
  · exact ⟨by have := h.1; omega, by have := h.2; omega⟩
  · exact ⟨by have := h.1; omega, by have := h.2; omega⟩
  · exact ⟨by have := h.1; omega, by have := h.2; omega⟩
theorem xCX.gi (h : xCX m M0 M T) (hk : k < n) (ht : xh_t (1, c, n) k = 0 ∨ xh_t (1, c, n) k = 3 ∨ xh_t (1, c, n) k = 4 ∨ xh_t (1, c, n) k = 5) (e : cq_gi c k n x T = some v) : xq_gi c k x M = some v ∧ xin v := by
  unfold cq_gi at e
  split at e
  · rename_i hs
    cases e
    obtain ⟨fs, h1, h2, h3⟩ := h.obj hs
    have h4 := h.vv (x := x) (i := k) (by rw [hs]; exact Nat.one_ne_zero) (by rw [hs]; exact hk)
    rw [hs, xCv_i ht] at h4
    have h5 := xCin_i ht h4.2
    refine ⟨?_, h5⟩
    unfold xq_gi
    simp only [h1, if_pos, h3 k hk, h4.1]
    simp only [xI, xin_to h5]
  · cases e
theorem xCX.gl (h : xCX m M0 M T) (hk : k < n) (ht : xh_t (1, c, n) k = 1) (e : cq_gi c k n x T = some v) : xq_gl c k x M = some v ∧ xiN v := by
  unfold cq_gi at e
  split at e
  · rename_i hs
    cases e
    obtain ⟨fs, h1, h2, h3⟩ := h.obj hs
    have h4 := h.vv (x := x) (i := k) (by rw [hs]; exact Nat.one_ne_zero) (by rw [hs]; exact hk)
    rw [hs, ht] at h4
    have h5 : xiN (T.2.1 x k) := h4.2
    refine ⟨?_, h5⟩
    unfold xq_gl
    simp only [h1, if_pos, h3 k hk, h4.1]
    simp only [xCv, xZ, xiN_to h5]
  · cases e
theorem xq_rn_R (a : Nat) : xq_rn (xR_ a) = some a := by
  unfold xR_
  by_cases e : a = 0
  · rw [if_pos e, e]; rfl
  · rw [if_neg e]
    unfold xq_rn
    simp only
    rw [if_neg e]
theorem xCX.gr {y : Nat} (h : xCX m M0 M T) (hk : k < n) (ht : xh_t (1, c, n) k = 2) (e : cq_gr c k n x T = some y) : xq_gr c k x M = some y := by
  unfold cq_gr at e
  split at e
  · rename_i hs
    cases e
    obtain ⟨fs, h1, h2, h3⟩ := h.obj hs
    have h4 := (h.vv (x := x) (i := k) (by rw [hs]; exact Nat.one_ne_zero) (by rw [hs]; exact hk)).1
    rw [hs, ht] at h4
    unfold xq_gr
    simp only [h1, if_pos, h3 k hk, h4]
    exact xq_rn_R _
  · cases e
theorem xCX.is {u : Unit} (h : xCX m M0 M T) (e : cq_is c n x T = some u) : xq_is c x M = some () := by
  unfold cq_is at e
  split at e
  · rename_i hs
    obtain ⟨fs, h1, h2, h3⟩ := h.obj hs
    unfold xq_is
    simp only [h1, if_pos]
  · cases e
theorem xCX.pi {T' : xT_} (h : xCX m M0 M T) (hk : k < n) (ht : xj_ty c k = .int) (hv : xin v) (e : cq_p c k n x v T = some T') : ∃ M', xq_pi c k x v M = some M' ∧ xCX m M0 M' T' := by
  unfold cq_p at e
  split at e
  · rename_i hs
    cases e
    have ht0 : xh_t (T.1 x) k = 0 := by rw [hs]; unfold xh_t; simp only [ht]; rfl
    have h1 := h.up (x := x) (i := k) (v := v) (by rw [hs]; exact Nat.one_ne_zero) (by rw [hs]; exact hk) (by rw [ht0]; exact hv)
    rw [ht0] at h1
    exact ⟨_, xq_p_eq ((h.sh (by rw [hs]; exact Nat.one_ne_zero)).trans hs) (by rw [ht]; exact xokv_i v), h1⟩
  · cases e
theorem xCX.pb {T' : xT_} (h : xCX m M0 M T) (hk : k < n) (ht : xj_ty c k = .boolean) (e : cq_pb c k n x v T = some T') : ∃ M', xq_pi c k x v M = some M' ∧ xCX m M0 M' T' := by
  unfold cq_pb at e
  split at e
  · rename_i hs
    obtain ⟨hs, hv⟩ := hs
    cases e
    have ht0 : xh_t (T.1 x) k = 3 := by rw [hs]; unfold xh_t; simp only [ht]; rfl
    have h1 := h.up (x := x) (i := k) (v := v) (by rw [hs]; exact Nat.one_ne_zero) (by rw [hs]; exact hk) (by rw [ht0]; rcases hv with rfl | rfl; exact ⟨by decide, by decide⟩; exact ⟨by decide, by decide⟩)
    rw [ht0] at h1
    exact ⟨_, xq_p_eq ((h.sh (by rw [hs]; exact Nat.one_ne_zero)).trans hs) (by rw [ht]; rcases hv with rfl | rfl <;> decide), h1⟩
  · cases e
theorem xCX.pl {T' : xT_} (h : xCX m M0 M T) (hk : k < n) (ht : xj_ty c k = .long) (hv : xiN v) (e : cq_p c k n x v T = some T') : ∃ M', xq_pl c k x v M = some M' ∧ xCX m M0 M' T' := by
  unfold cq_p at e
  split at e
  · rename_i hs
    cases e
    have ht0 : xh_t (T.1 x) k = 1 := by rw [hs]; unfold xh_t; simp only [ht]; rfl
    have h1 := h.up (x := x) (i := k) (v := v) (by rw [hs]; exact Nat.one_ne_zero) (by rw [hs]; exact hk) (by rw [ht0]; exact hv)
    rw [ht0] at h1
    exact ⟨_, xq_p_eq ((h.sh (by rw [hs]; exact Nat.one_ne_zero)).trans hs) (by rw [ht]; exact xokv_l v), h1⟩
  · cases e
theorem xokv_r {ty : FieldType} (h : xo_tc ty = some 2) (y : Nat) : xj_okv ty (xR_ y) = true := by
  unfold xR_
  cases ty <;> first | (cases h; done) | (split <;> (show (decide (_ = _) && _) = true; rw [Bool.and_eq_true]; exact ⟨decide_eq_true rfl, rfl⟩))
theorem xh_t2 {c n k : Nat} (h : xh_t (1, c, n) k = 2) : xo_tc (xj_ty c k) = some 2 := by
  have h1 : (match xo_tc (xj_ty c k) with | some t => t | none => 9) = 2 := h
  cases e : xo_tc (xj_ty c k) with
  | none => rw [e] at h1; cases h1
  | some t => rw [e] at h1; simp only at h1; rw [h1]
theorem xCX.pr {y : Nat} {T' : xT_} (h : xCX m M0 M T) (hk : k < n) (ht : xh_t (1, c, n) k = 2) (e : cq_pr c k n x y T = some T') : ∃ M', xq_pr c k x y M = some M' ∧ xCX m M0 M' T' := by
  unfold cq_pr at e
  split at e
  · rename_i hs
    cases e
    have ht0 : xh_t (T.1 x) k = 2 := by rw [hs]; exact ht
    have h1 := h.up (x := x) (i := k) (v := (y : Int)) (by rw [hs]; exact Nat.one_ne_zero) (by rw [hs]; exact hk) (by rw [ht0]; show 0 ≤ (y : Int); omega)
    rw [ht0] at h1
    have e2 : xCv 2 (y : Int) = xR_ y := by show xR_ (y : Int).toNat = _; rw [Int.toNat_natCast]
    rw [e2] at h1
    exact ⟨_, xq_p_eq ((h.sh (by rw [hs]; exact Nat.one_ne_zero)).trans hs) (xokv_r (xh_t2 ht) y), h1⟩
  · cases e
/-- arrays -/
theorem xCX.arr (h : xCX m M0 M T) (h1 : (T.1 x).1 = 2) : ∃ g : Nat → Value, xj_arr M x = some ((T.1 x).2.1, (T.1 x).2.2, g) ∧ xh_sh M x = (2, (T.1 x).2.1, (T.1 x).2.2) ∧ ∀ i, g i = xh_v M x i := by
  have hs : xh_sh M x = (2, (T.1 x).2.1, (T.1 x).2.2) := by
    rw [h.sh (by omega)]
    exact Prod.ext h1 rfl
  obtain ⟨g, hg⟩ := xh_arr hs
  refine ⟨g, by unfold xj_arr; rw [hg], hs, fun i => ?_⟩
  unfold xh_v
  rw [hg]
theorem xh_ta {s : Nat × Nat × Nat} (h1 : s.1 = 2) (i : Nat) : xh_t s i = (match s.2.1 with | 0 => 3 | 1 => 4 | 2 => 5 | 3 => 0 | 4 => 1 | _ => 2) := by
  obtain ⟨a, b, c⟩ := s
  cases h1
  rfl
theorem xCX.ai (h : xCX m M0 M T) (hk : kk = 3 ∨ kk = 2) (e : cq_a kk x z T = some v) : xq_ai kk x z M = some v ∧ xin v := by
  unfold cq_a at e
  split at e
  · rename_i hc
    obtain ⟨h1, h2, h3, h4⟩ := hc
    cases e
    obtain ⟨g, g1, g2, g3⟩ := h.arr h1
    have hv := h.vv (x := x) (i := z.toNat) (by omega) (by omega)
    have ht : xh_t (T.1 x) z.toNat = 0 ∨ xh_t (T.1 x) z.toNat = 3 ∨ xh_t (T.1 x) z.toNat = 4 ∨ xh_t (T.1 x) z.toNat = 5 := by
      rw [xh_ta h1, h2]
      rcases hk with rfl | rfl
      · exact Or.inl rfl
      · exact Or.inr (Or.inr (Or.inr rfl))
    rw [xCv_i ht] at hv
    have h5 := xCin_i ht hv.2
    refine ⟨?_, h5⟩
    unfold xq_ai
    simp only [g1]
    rw [if_pos ⟨h2, h3, h4⟩, g3, hv.1]
    simp only [xI, xin_to h5]
  · cases e
theorem xCX.ab (h : xCX m M0 M T) (e : cq_ab x z T = some v) : xq_ab x z M = some v ∧ xin v := by
  unfold cq_ab at e
  split at e
  · rename_i hc
    obtain ⟨h1, h2, h3, h4⟩ := hc
    cases e
    obtain ⟨g, g1, g2, g3⟩ := h.arr h1
    have hv := h.vv (x := x) (i := z.toNat) (by omega) (by omega)
    have ht : xh_t (T.1 x) z.toNat = 0 ∨ xh_t (T.1 x) z.toNat = 3 ∨ xh_t (T.1 x) z.toNat = 4 ∨ xh_t (T.1 x) z.toNat = 5 := by
      rw [xh_ta h1]
      have : (T.1 x).2.1 = 0 ∨ (T.1 x).2.1 = 1 := by omega
      rcases this with e0 | e0 <;> rw [e0]
      · exact Or.inr (Or.inl rfl)
      · exact Or.inr (Or.inr (Or.inl rfl))
    rw [xCv_i ht] at hv
    have h5 := xCin_i ht hv.2
    refine ⟨?_, h5⟩
    unfold xq_ab
    simp only [g1]
    rw [if_pos ⟨h2, h3, h4⟩, g3, hv.1]
    simp only [xI, xin_to h5]
  · cases e
theorem xCX.al (h : xCX m M0 M T) (e : cq_a 4 x z T = some v) : xq_al x z M = some v ∧ xiN v := by
  unfold cq_a at e
  split at e
  · rename_i hc
    obtain ⟨h1, h2, h3, h4⟩ := hc
    cases e
    obtain ⟨g, g1, g2, g3⟩ := h.arr h1
    have hv := h.vv (x := x) (i := z.toNat) (by omega) (by omega)
    rw [xh_ta h1, h2] at hv
    have h5 : xiN (T.2.1 x z.toNat) := hv.2
    refine ⟨?_, h5⟩
    unfold xq_al
    simp only [g1]
    rw [if_pos ⟨h2, h3, h4⟩, g3, hv.1]
    simp only [xCv, xZ, xiN_to h5]
  · cases e
theorem xCX.ar {y : Nat} (h : xCX m M0 M T) (e : cq_ar x z T = some y) : xq_ar x z M = some y := by
  unfold cq_ar at e
  split at e
  · rename_i hc
    obtain ⟨h1, h2, h3, h4⟩ := hc
    cases e
    obtain ⟨g, g1, g2, g3⟩ := h.arr h1
    have hv := h.vv (x := x) (i := z.toNat) (by omega) (by omega)
    have ht : xh_t (T.1 x) z.toNat = 2 := by
      rw [xh_ta h1]
      obtain ⟨q, hq⟩ : ∃ q, (T.1 x).2.1 = q + 5 := ⟨(T.1 x).2.1 - 5, by omega⟩
      rw [hq]
      rfl
    rw [ht] at hv
    unfold xq_ar
    simp only [g1]
    rw [if_pos ⟨h2, h3, h4⟩, g3, hv.1]
    exact xq_rn_R _
  · cases e
theorem xCX.ss {T' : xT_} (h : xCX m M0 M T) (hv : ∀ t, (match kk with | 0 => 3 | 1 => 4 | 2 => 5 | 3 => 0 | 4 => 1 | _ => 2) = t → xCin t v) (e : cq_s kk x z v T = some T') : ∃ M', xq_s kk x z (xCv (match kk with | 0 => 3 | 1 => 4 | 2 => 5 | 3 => 0 | 4 => 1 | _ => 2) v) M = some M' ∧ xCX m M0 M' T' := by
  unfold cq_s at e
  split at e
  · rename_i hc
    obtain ⟨h1, h2, h3, h4⟩ := hc
    cases e
    obtain ⟨g, g1, g2, g3⟩ := h.arr h1
    have ht := xh_ta h1 z.toNat
    rw [h2] at ht g2
    have h5 := h.up (x := x) (i := z.toNat) (v := v) (by omega) (by omega) (by rw [ht]; exact hv _ rfl)
    rw [ht] at h5
    exact ⟨_, xq_s_eq g2 h3 h4, h5⟩
  · cases e
theorem xCX.si {T' : xT_} (h : xCX m M0 M T) (hv : xin v) (e : cq_s 3 x z v T = some T') : ∃ M', xq_si x z v M = some M' ∧ xCX m M0 M' T' := h.ss (kk := 3) (fun t ht => by cases ht; exact hv) e
theorem xCX.sl {T' : xT_} (h : xCX m M0 M T) (hv : xiN v) (e : cq_s 4 x z v T = some T') : ∃ M', xq_sl x z v M = some M' ∧ xCX m M0 M' T' := h.ss (kk := 4) (fun t ht => by cases ht; exact hv) e
theorem xCX.ln (h : xCX m M0 M T) (e : cq_ln x T = some v) : xq_ln x M = some v ∧ xin v := by
  unfold cq_ln at e
  split at e
  · rename_i hc
    cases e
    obtain ⟨g, g1, g2, g3⟩ := h.arr hc.1
    refine ⟨?_, ⟨by omega, by omega⟩⟩
    unfold xq_ln
    simp only [g1]
    rw [if_pos hc.2]
  · cases e
end
