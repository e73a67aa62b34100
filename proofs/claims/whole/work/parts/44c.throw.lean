/-! Calls that may throw, handlers; arraycopy, clone -/
theorem xsb.tl {l l' : xj_L} (h : xsb l l') (i : Nat) (v : Value) : xsb (xj_s1 l i v).tail (xj_s1 l' i v).tail := by
  have h1 := h.s1 i v
  refine ⟨fun q hq => ?_, ?_⟩
  · have h2 : q ∈ l.filter (fun q => !(q.1 == i) && !(q.1 + 1 == i && q.2.category == 2)) := hq
    rw [List.mem_filter] at h2
    show q ∈ l'.filter (fun q => !(q.1 == i) && !(q.1 + 1 == i && q.2.category == 2))
    exact List.mem_filter.mpr ⟨h.1 _ h2.1, h2.2⟩
  · have h3 := h1.2
    show ((l'.filter (fun q => !(q.1 == i) && !(q.1 + 1 == i && q.2.category == 2))).map (fun q => q.1)).Nodup
    exact (List.Sublist.map _ List.filter_sublist).nodup h.2
theorem xsb.hand {l l' : xj_L} (h : xsb l l') {X : xj_X} {row : xj_mR} {pc E : Nat} {M : xj_M} {N : xj_N} (hN : xj_hand X row pc l E M = some N) : ∃ N', xj_hand X row pc l' E M = some N' ∧ xNsb N N' := by
  unfold xj_hand at hN ⊢
  cases hX : X.1 with
  | none => rw [hX] at hN; cases hN; exact ⟨_, rfl, rfl⟩
  | some t =>
    rw [hX] at hN
    simp only at hN ⊢
    split at hN
    · rename_i hc
      rw [if_pos hc]
      split at hN
      · rename_i i hd
        split at hN
        · rename_i hi; cases hN; rw [if_pos hi]; exact ⟨_, rfl, rfl, h.tl _ .null, rfl⟩
        · cases hN
      · rename_i i hd
        split at hN
        · rename_i hi; cases hN; rw [if_pos hi]; exact ⟨_, rfl, rfl, h.tl _ .null, rfl⟩
        · cases hN
      · cases hN
    · cases hN
/-- with a handler too: all but a throw is as without one -/
theorem xsb.step2 {l l' : xj_L} (h : xsb l l') {call : xj_F} {X : xj_X} {row : xj_mR} {pc : Nat} {st : List Value} {M : xj_M} {N : xj_N} (hN : xj_step call X row (pc, l, st, M) = some N) : ∃ N', xj_step call X row (pc, l', st, M) = some N' ∧ xNsb N N' := by
  unfold xj_step at hN ⊢
  split at hN
  · cases hN
  · rename_i ins len hd
    simp only [hd] at hN ⊢
    split at hN
    · cases hN
    · rename_i hl
      rw [if_neg hl]
      cases hp : xj_pure ins st with
      | some s2 => rw [hp] at hN; cases hN; exact ⟨_, rfl, rfl, h, rfl⟩
      | none =>
        rw [hp] at hN
        simp only at hN ⊢
        cases hq : xj_loc row.2.2.2.1 ins l st with
        | some q =>
          rw [hq] at hN
          cases hN
          obtain ⟨l2, h1, h2⟩ := h.loc hq
          rw [h1]
          exact ⟨_, rfl, rfl, h2, rfl⟩
        | none =>
          rw [hq] at hN
          simp only at hN
          cases hi : xisl ins with
          | true =>
            exfalso
            have hsc : xj_sc X.2.2 ins st = none := by
              cases X.2.2 with
              | none => rfl
              | some xs => cases ins <;> first | rfl | (cases hi)
            cases ins <;> first | (cases hi; done) | (simp [xj_jmp, xj_ct, xj_fx, hsc, xj_mem, xj_mk, xj_ret, xj_mac, xj_tgt, xj_chk, xj_thr] at hN; done)
          | false =>
            rw [xisl_no hi]
            simp only
            cases hj : xj_jmp ins st with
            | some q =>
              rw [hj] at hN
              simp only at hN ⊢
              split at hN
              · rename_i t ht
                cases hN
                exact ⟨.inl (t, l', q.2, M), rfl, rfl, h, rfl⟩
              · cases hN
            | none =>
              rw [hj] at hN
              simp only at hN ⊢
              cases hc : xj_ct row.1 ins st with
              | some s2 => rw [hc] at hN; cases hN; exact ⟨_, rfl, rfl, h, rfl⟩
              | none =>
                rw [hc] at hN
                simp only at hN ⊢
                cases hf : xj_fx row.1 ins st with
                | some s2 => rw [hf] at hN; cases hN; exact ⟨_, rfl, rfl, h, rfl⟩
                | none =>
                  rw [hf] at hN
                  simp only at hN ⊢
                  cases hs : xj_sc X.2.2 ins st with
                  | some s2 => rw [hs] at hN; cases hN; exact ⟨_, rfl, rfl, h, rfl⟩
                  | none =>
                    rw [hs] at hN
                    simp only at hN ⊢
                    cases hm : xj_mem row.1 row.2.2.2.2.2.2.1 ins st M with
                    | some q => rw [hm] at hN; cases hN; exact ⟨_, rfl, rfl, h, rfl⟩
                    | none =>
                      rw [hm] at hN
                      simp only at hN ⊢
                      cases hk : xj_mk row.1 ins st M with
                      | some q => rw [hk] at hN; cases hN; exact ⟨_, rfl, rfl, h, rfl⟩
                      | none =>
                        rw [hk] at hN
                        simp only at hN ⊢
                        cases hr : xj_ret row.2.2.2.2.1 ins st with
                        | some v => rw [hr] at hN; cases hN; exact ⟨_, rfl, rfl⟩
                        | none =>
                          rw [hr] at hN
                          simp only at hN ⊢
                          cases ha : xj_mac row.1 ins st with
                          | some s2 => rw [ha] at hN; cases hN; exact ⟨_, rfl, rfl, h, rfl⟩
                          | none =>
                            rw [ha] at hN
                            simp only at hN ⊢
                            cases ht : xj_tgt row.1 ins st M with
                            | some q =>
                              rw [ht] at hN
                              simp only at hN ⊢
                              cases hcl : call q.1 q.2.1 M with
                              | none => rw [hcl] at hN; cases hN
                              | some w =>
                                rw [hcl] at hN
                                obtain ⟨r, M2⟩ := w
                                cases r with
                                | inl v => cases hN; exact ⟨_, rfl, rfl, h, rfl⟩
                                | inr E =>
                                  simp only [xj_out] at hN ⊢
                                  split at hN
                                  · cases hN
                                  · rename_i hnt
                                    rw [if_neg hnt]
                                    exact h.hand hN
                            | none =>
                              rw [ht] at hN
                              simp only at hN ⊢
                              cases hch : xj_chk X row ins pc st with
                              | some s2 => rw [hch] at hN; cases hN; exact ⟨_, rfl, rfl, h, rfl⟩
                              | none =>
                                rw [hch] at hN
                                simp only at hN ⊢
                                rw [hN]
                                refine ⟨_, rfl, ?_⟩
                                obtain ⟨i, k, -, -, -, -, -, rfl⟩ := xj_thr_inv hN
                                exact rfl
theorem xsb.loop2 {call : xj_F} {X : xj_X} {row : xj_mR} : ∀ (n : Nat) {l l' : xj_L} (_ : xsb l l') {pc : Nat} {st : List Value} {M : xj_M} {r : xj_R × xj_M}, xj_loop call X row n (pc, l, st, M) = some r → xj_loop call X row n (pc, l', st, M) = some r := by
  intro n
  induction n with
  | zero => intro l l' h pc st M r hr; cases hr
  | succ n ih =>
    intro l l' h pc st M r hr
    unfold xj_loop at hr ⊢
    cases hs : xj_step call X row (pc, l, st, M) with
    | none => rw [hs] at hr; cases hr
    | some N =>
      rw [hs] at hr
      obtain ⟨N', h1, h2⟩ := h.step2 hs
      rw [h1]
      cases N with
      | inl K =>
        cases N' with
        | inl K' =>
          obtain ⟨p, lk, sk, mk⟩ := K
          obtain ⟨p', lk', sk', mk'⟩ := K'
          obtain ⟨e1, e2, e3⟩ := h2
          simp only at e1 e2 e3
          cases e3
          subst e1
          exact ih e2 hr
        | inr r' => exact absurd h2 (by simp [xNsb])
      | inr q =>
        cases N' with
        | inl K' => exact absurd h2 (by simp [xNsb])
        | inr r' =>
          have e : q = r' := h2
          subst e
          exact hr
theorem xW_lv2 {d : Nat} {X : xj_X} {row : xj_mR} {pc : Nat} {l l' : xj_L} {st : List Value} {M : xj_M} {Q : xj_R → xj_M → Prop} (h : xsb l l') (k : xW d X row (pc, l, st, M) Q) : xW d X row (pc, l', st, M) Q := by
  obtain ⟨r, M', hq, n0, hn⟩ := k
  exact ⟨r, M', hq, n0, fun n k h1 h2 => xsb.loop2 k h (hn n k h1 h2)⟩
/-- what comes of a call: it goes on, or is thrown on, or caught -/
def yxK (d : Nat) (X : xj_X) (row : xj_mR) (nt : Bool) (pc : Nat) (lv : xj_L) (rest : List Value) (Q : xj_R → xj_M → Prop) (r : xj_R) (M1 : xj_M) : Prop := match r with
  | .inl v => xW d X row (pc + 3, lv, v.toList ++ rest, M1) Q
  | .inr k => nt = false ∧ (match xj_hand X row pc lv k M1 with
    | some (.inl K2) => xW d X row K2 Q
    | some (.inr q) => Q q.1 q.2
    | none => False)
theorem xW_call2 {d : Nat} {X : xj_X} {row : xj_mR} {K : xj_K} {Q : xj_R → xj_M → Prop} {j : Nat} {as : List Value} {M : xj_M} {nt : Bool} {pc : Nat} {lv : xj_L} {rest : List Value}
    (hs : ∀ n, xj_step (xj_call n d) X row K = xj_out X row nt pc lv rest (xj_call n d j as M))
    (h : xT d j as M (yxK d X row nt pc lv rest Q)) : xW d X row K Q := by
  obtain ⟨r1, M1, hk, n1, h1⟩ := h
  cases r1 with
  | inl v =>
    obtain ⟨r, M', hq, n0, hn⟩ := hk
    refine ⟨r, M', hq, n0 + n1 + 1, fun n k h2 h3 => ?_⟩
    obtain ⟨k', rfl⟩ : ∃ k', k = k' + 1 := ⟨k - 1, by omega⟩
    show (match xj_step (xj_call n d) X row K with
      | some (.inl K2) => xj_loop (xj_call n d) X row k' K2
      | some (.inr r) => some r
      | none => none) = _
    rw [hs n, h1 n (by omega)]
    exact hn n k' (by omega) (by omega)
  | inr e =>
    obtain ⟨hnt, hk⟩ := hk
    cases hh : xj_hand X row pc lv e M1 with
    | none => rw [hh] at hk; exact hk.elim
    | some N =>
      rw [hh] at hk
      have ho : ∀ n, n1 ≤ n → xj_step (xj_call n d) X row K = some N := by
        intro n hn
        rw [hs n, h1 n hn]
        simp only [xj_out]
        rw [if_neg (by rw [hnt]; decide), hh]
      cases N with
      | inl K2 =>
        obtain ⟨r, M', hq, n0, hn⟩ := hk
        refine ⟨r, M', hq, n0 + n1 + 1, fun n k h2 h3 => ?_⟩
        obtain ⟨k', rfl⟩ : ∃ k', k = k' + 1 := ⟨k - 1, by omega⟩
        show (match xj_step (xj_call n d) X row K with
          | some (.inl K2) => xj_loop (xj_call n d) X row k' K2
          | some (.inr r) => some r
          | none => none) = _
        rw [ho n (by omega)]
        exact hn n k' (by omega) (by omega)
      | inr q =>
        refine ⟨q.1, q.2, hk, n1 + 1, fun n k h2 h3 => ?_⟩
        obtain ⟨k', rfl⟩ : ∃ k', k = k' + 1 := ⟨k - 1, by omega⟩
        show (match xj_step (xj_call n d) X row K with
          | some (.inl K2) => xj_loop (xj_call n d) X row k' K2
          | some (.inr r) => some r
          | none => none) = _
        rw [ho n (by omega)]
def xOv (s : Nat ⊕ Unit) : xj_R := match s with | .inl k => .inr k | .inr _ => .inl none
def xOi (s : Nat ⊕ Int) : xj_R := match s with | .inl k => .inr k | .inr v => .inl (some (xI v))
def xOl (s : Nat ⊕ Int) : xj_R := match s with | .inl k => .inr k | .inr v => .inl (some (xZ v))
def xOr (s : Nat ⊕ Nat) : xj_R := match s with | .inl k => .inr k | .inr v => .inl (some (xR_ v))
def xQtv (R : (Nat ⊕ Unit) × xj_M) (r : xj_R) (M1 : xj_M) : Prop := r = xOv R.1 ∧ M1 = R.2
def xQti (R : (Nat ⊕ Int) × xj_M) (r : xj_R) (M1 : xj_M) : Prop := r = xOi R.1 ∧ M1 = R.2 ∧ ∀ v, R.1 = .inr v → xin v
def xQtl (R : (Nat ⊕ Int) × xj_M) (r : xj_R) (M1 : xj_M) : Prop := r = xOl R.1 ∧ M1 = R.2 ∧ ∀ v, R.1 = .inr v → xiN v
def xQtr (R : (Nat ⊕ Nat) × xj_M) (r : xj_R) (M1 : xj_M) : Prop := r = xOr R.1 ∧ M1 = R.2
/-- a call that may throw, in a method that throws it on -/
def xth {α β : Type} (R : (Nat ⊕ α) × xj_M) (k : α → Option ((Nat ⊕ β) × xj_M)) : Option ((Nat ⊕ β) × xj_M) := match R.1 with
  | .inl e => some (.inl e, R.2)
  | .inr v => k v
theorem xth_l {α β : Type} {R : (Nat ⊕ α) × xj_M} {k : α → Option ((Nat ⊕ β) × xj_M)} {e : Nat} (h : R.1 = .inl e) : xth R k = some (.inl e, R.2) := by unfold xth; rw [h]
theorem xth_r {α β : Type} {R : (Nat ⊕ α) × xj_M} {k : α → Option ((Nat ⊕ β) × xj_M)} {v : α} (h : R.1 = .inr v) : xth R k = k v := by unfold xth; rw [h]
/-- in a method that catches what is thrown -/
def xhd {α β : Type} (R : (Nat ⊕ α) × xj_M) (e0 : Nat) (c : Option β) (k : α → Option β) : Option β := match R.1 with
  | .inl e => if e = e0 then c else none
  | .inr v => k v
theorem xhd_l {α β : Type} {R : (Nat ⊕ α) × xj_M} {e0 : Nat} {c : Option β} {k : α → Option β} {e : Nat} {r : β} (h : R.1 = .inl e) (hr : xhd R e0 c k = some r) : e = e0 ∧ c = some r := by
  unfold xhd at hr
  rw [h] at hr
  simp only at hr
  split at hr
  · rename_i g; exact ⟨g, hr⟩
  · cases hr
theorem xhd_r {α β : Type} {R : (Nat ⊕ α) × xj_M} {e0 : Nat} {c : Option β} {k : α → Option β} {v : α} (h : R.1 = .inr v) : xhd R e0 c k = k v := by unfold xhd; rw [h]
section
variable {d : Nat} {X : xj_X} {row : xj_mR} {pc nx i j b k : Nat} {lv l2 : xj_L} {st ar rest : List Value} {M M1 : xj_M} {Q : xj_R → xj_M → Prop} {r2 : xj_mR}
theorem xK_thr (hX : X.1 = none) (hq : Q (.inr k) M1) : yxK d X row false pc lv rest Q (.inr k) M1 := by
  refine ⟨rfl, ?_⟩
  unfold xj_hand
  rw [hX]
  exact hq
theorem xK_han {t : Nat × Nat × Nat × Nat × Nat} {i4 : Fin 4} (hX : X.1 = some t) (hc : t.1 ≤ pc ∧ pc < t.2.1 ∧ k = t.2.2.2.2) (hd : decode row.2.2.1 t.2.2.1 = .ok (.astore_n i4, 1)) (hi : (i4 : Nat) < row.2.2.2.1) (hk : xkp (i4 : Nat) lv l2) (kt : xW d X row (t.2.2.1 + 1, l2, [], M1) Q) : yxK d X row false pc lv rest Q (.inr k) M1 := by
  refine ⟨rfl, ?_⟩
  unfold xj_hand
  rw [hX]
  simp only
  rw [if_pos hc, hd]
  simp only
  rw [if_pos hi]
  simp only
  have e : (xj_s1 lv (i4 : Nat) Value.null).tail = l2 := hk
  rw [e]
  exact kt
/-- results of calls -/
theorem xc2_i {a : Nat} {as : List Value} {R : Int × xj_M} {nt : Bool} (h : xT d a as M (xQi R)) (hn : pc + 3 = nx) (kt : xin R.1 → xW d X row (nx, lv, xI R.1 :: rest, R.2) Q) : xT d a as M (yxK d X row nt pc lv rest Q) := by
  subst hn
  refine h.mono (fun r M1 hq => ?_)
  obtain ⟨rfl, rfl, h3⟩ := hq
  exact kt h3
theorem xc2_l {a : Nat} {as : List Value} {R : Int × xj_M} {nt : Bool} (h : xT d a as M (xQl R)) (hn : pc + 3 = nx) (kt : xiN R.1 → xW d X row (nx, lv, xZ R.1 :: rest, R.2) Q) : xT d a as M (yxK d X row nt pc lv rest Q) := by
  subst hn
  refine h.mono (fun r M1 hq => ?_)
  obtain ⟨rfl, rfl, h3⟩ := hq
  exact kt h3
theorem xc2_r {a : Nat} {as : List Value} {R : Nat × xj_M} {nt : Bool} (h : xT d a as M (yxQr R)) (hn : pc + 3 = nx) (kt : xW d X row (nx, lv, xR_ R.1 :: rest, R.2) Q) : xT d a as M (yxK d X row nt pc lv rest Q) := by
  subst hn
  refine h.mono (fun r M1 hq => ?_)
  obtain ⟨rfl, rfl⟩ := hq
  exact kt
theorem xc2_v {a : Nat} {as : List Value} {R : xj_M} {nt : Bool} (h : xT d a as M (xQv R)) (hn : pc + 3 = nx) (kt : xW d X row (nx, lv, rest, R) Q) : xT d a as M (yxK d X row nt pc lv rest Q) := by
  subst hn
  refine h.mono (fun r M1 hq => ?_)
  obtain ⟨rfl, rfl⟩ := hq
  exact kt
theorem xct_v {a : Nat} {as : List Value} {R : (Nat ⊕ Unit) × xj_M} (h : xT d a as M (xQtv R)) (hn : pc + 3 = nx) (k1 : ∀ e, R.1 = .inl e → yxK d X row false pc lv rest Q (.inr e) R.2) (k2 : R.1 = .inr () → xW d X row (nx, lv, rest, R.2) Q) : xT d a as M (yxK d X row false pc lv rest Q) := by
  subst hn
  refine h.mono (fun r M1 hq => ?_)
  obtain ⟨rfl, rfl⟩ := hq
  cases hR : R.1 with
  | inl e => exact k1 e hR
  | inr u => exact k2 hR
theorem xct_i {a : Nat} {as : List Value} {R : (Nat ⊕ Int) × xj_M} (h : xT d a as M (xQti R)) (hn : pc + 3 = nx) (k1 : ∀ e, R.1 = .inl e → yxK d X row false pc lv rest Q (.inr e) R.2) (k2 : ∀ v, R.1 = .inr v → xin v → xW d X row (nx, lv, xI v :: rest, R.2) Q) : xT d a as M (yxK d X row false pc lv rest Q) := by
  subst hn
  refine h.mono (fun r M1 hq => ?_)
  obtain ⟨rfl, rfl, h3⟩ := hq
  cases hR : R.1 with
  | inl e => exact k1 e hR
  | inr u => exact k2 u hR (h3 u hR)
theorem xct_l {a : Nat} {as : List Value} {R : (Nat ⊕ Int) × xj_M} (h : xT d a as M (xQtl R)) (hn : pc + 3 = nx) (k1 : ∀ e, R.1 = .inl e → yxK d X row false pc lv rest Q (.inr e) R.2) (k2 : ∀ v, R.1 = .inr v → xiN v → xW d X row (nx, lv, xZ v :: rest, R.2) Q) : xT d a as M (yxK d X row false pc lv rest Q) := by
  subst hn
  refine h.mono (fun r M1 hq => ?_)
  obtain ⟨rfl, rfl, h3⟩ := hq
  cases hR : R.1 with
  | inl e => exact k1 e hR
  | inr u => exact k2 u hR (h3 u hR)
theorem xct_r {a : Nat} {as : List Value} {R : (Nat ⊕ Nat) × xj_M} (h : xT d a as M (xQtr R)) (hn : pc + 3 = nx) (k1 : ∀ e, R.1 = .inl e → yxK d X row false pc lv rest Q (.inr e) R.2) (k2 : ∀ v, R.1 = .inr v → xW d X row (nx, lv, xR_ v :: rest, R.2) Q) : xT d a as M (yxK d X row false pc lv rest Q) := by
  subst hn
  refine h.mono (fun r M1 hq => ?_)
  obtain ⟨rfl, rfl⟩ := hq
  cases hR : R.1 with
  | inl e => exact k1 e hR
  | inr u => exact k2 u hR
/-- virtual (kind 0; 10: with a handler) and static ones (2, 5; 11) -/
theorem xs2_cv {kd jj : Nat} (hkd : kd = 0 ∧ jj = j ∨ kd = 10 ∧ jj = 1000 + j) (hd : decode row.2.2.1 pc = .ok (.invokevirtual i, 3)) (hy : xj_y row.1 i = none) (hc : xj_cal row.1 i = some (kd, j)) (hr : xj_row jj = some r2) (hnp : ar.length = r2.2.2.2.2.2.1) (h16 : r2.1 < 16) (hcat : (rest.map fun v => v.category).sum ≤ 8) (his : xq_is r2.1 b M = some ())
    (kt : xT d jj (xR_ b :: ar.reverse) M (yxK d X row false pc lv rest Q)) : xW d X row (pc, lv, ar ++ xR_ b :: rest, M) Q := by
  unfold xq_is at his
  split at his
  · rename_i o h3
    split at his
    · rename_i h4
      rw [xR_ref (xj_obj_inv h3).1] at kt ⊢
      have hm : xj_mk row.1 (.invokevirtual i) (ar ++ Value.ref b :: rest) M = none := by
        show (match xj_y row.1 i with | some (8, k) => xj_cl k (ar ++ Value.ref b :: rest) M | _ => none) = none
        rw [hy]
      refine xW_call2 (nt := false) (fun n => xk_tgt hd rfl rfl rfl rfl rfl rfl (by cases X.2.2 <;> rfl) rfl hm rfl rfl (q := (jj, Value.ref b :: ar.reverse, rest)) ?_) kt
      show (match xj_cal row.1 i with | some (0, j) => xj_tV j (ar ++ Value.ref b :: rest) M | some (10, j) => xj_tV (1000 + j) (ar ++ Value.ref b :: rest) M | some (12, j) => xj_tW j (ar ++ Value.ref b :: rest) | _ => none) = _
      rw [hc]
      have h0 : xj_tV jj (ar ++ Value.ref b :: rest) M = some (jj, Value.ref b :: ar.reverse, rest) := by
        simp only [xj_tV, hr]
        rw [← hnp, List.drop_left, List.take_left]
        simp only [h3]
        rw [if_pos ⟨h4, h16, by simp, hcat⟩]
      rcases hkd with ⟨rfl, rfl⟩ | ⟨rfl, rfl⟩ <;> exact h0
    · cases his
  · cases his
theorem xs2_cs {kd jj : Nat} (hkd : kd = 2 ∧ jj = j ∨ kd = 11 ∧ jj = 1000 + j) (hd : decode row.2.2.1 pc = .ok (.invokestatic i, 3)) (hy : xj_y row.1 i = none) (hc : xj_cal row.1 i = some (kd, j)) (hr : xj_row jj = some r2) (hnp : ar.length = r2.2.2.2.2.2.1) (hcat : (rest.map fun v => v.category).sum ≤ 8)
    (kt : xT d jj ar.reverse M (yxK d X row false pc lv rest Q)) : xW d X row (pc, lv, ar ++ rest, M) Q := by
  have hm : xj_mem row.1 row.2.2.2.2.2.2.1 (.invokestatic i) (ar ++ rest) M = none := by
    show (match xj_y row.1 i with | some (7, _) => xj_cp (ar ++ rest) M | _ => none) = none
    rw [hy]
  have hma : xj_mac row.1 (.invokestatic i) (ar ++ rest) = none := by
    show (match xj_cal row.1 i with | some (6, k) => (if xj_small ((ar ++ rest).drop 1) = true then xj_ma k (ar ++ rest) else none) | _ => none) = none
    rw [hc]
    rcases hkd with ⟨rfl, rfl⟩ | ⟨rfl, rfl⟩ <;> rfl
  have hnt : xj_nt row.1 (.invokestatic i) = false := by
    show (match xj_cal row.1 i with | some (5, _) => true | _ => false) = false
    rw [hc]
    rcases hkd with ⟨rfl, rfl⟩ | ⟨rfl, rfl⟩ <;> rfl
  refine xW_call2 (nt := false) (fun n => ?_) kt
  rw [xk_tgt hd rfl rfl rfl rfl rfl rfl (by cases X.2.2 <;> rfl) hm rfl rfl hma (q := (jj, ar.reverse, rest)) ?_, hnt]
  show (match xj_cal row.1 i with | some (2, j) => xj_tS j (ar ++ rest) | some (5, j) => xj_tS j (ar ++ rest) | some (11, j) => xj_tS (1000 + j) (ar ++ rest) | _ => none) = _
  rw [hc]
  have h0 : xj_tS jj (ar ++ rest) = some (jj, ar.reverse, rest) := by
    simp only [xj_tS, hr]
    rw [← hnp, List.drop_left, List.take_left, if_pos ⟨by simp, hcat⟩]
  rcases hkd with ⟨rfl, rfl⟩ | ⟨rfl, rfl⟩ <;> exact h0
/-- a throw -/
theorem xe_throw (hX : X.1 = none) (h5 : 5 ≤ X.2.1) (hd : decode row.2.2.1 pc = .ok (.new i, 3)) (hcl : xj_cls row.1 i = none) (hth : xj_th row.1 row.2.2.1 pc i = some k) (hq : Q (.inr k) (xj_new M (.inl ()) 6)) : xW d X row (pc, lv, [], M) Q := by
  refine xW_end (r := .inr k) (M' := xj_new M (.inl ()) 6) (fun _ => ?_) hq
  have h7 : xj_mk row.1 (.new i) [] M = none := by
    show xj_nw row.1 i [] M = none
    unfold xj_nw
    rw [hcl]
  rw [xk_thr hd rfl rfl rfl rfl rfl rfl (by cases X.2.2 <;> rfl) rfl h7 rfl rfl rfl rfl]
  show (if X.1.isNone = true ∧ 5 ≤ X.2.1 ∧ ([] : List Value).isEmpty = true then (match xj_th row.1 row.2.2.1 pc i with | some k => some (Sum.inr (Sum.inr k, xj_new M (.inl ()) 6)) | none => none) else none) = _
  rw [if_pos ⟨by rw [hX]; rfl, h5, rfl⟩, hth]
/-- arraycopy, clone, checkcast -/
def xq_cp (a0 : Nat) (sp : Int) (a : Nat) (dp n : Int) (M : xj_M) : Option xj_M := match xj_arr M a0 with
  | some x0 => (match xj_arr M a with
    | some x1 => if x0.1 = x1.1 ∧ x1.1 < 5 ∧ 0 ≤ sp ∧ 0 ≤ dp ∧ 0 ≤ n ∧ sp.toNat + n.toNat ≤ x0.2.1 ∧ dp.toNat + n.toNat ≤ x1.2.1 ∧ ((List.range n.toNat).all (fun i => fits (xj_kty x1.1) (x0.2.2 (sp.toNat + i)))) = true then some (xj_put M a (.inr (.inl (x1.1, x1.2.1, va_cpy x0.2.2 x1.2.2 sp.toNat dp.toNat n.toNat)))) else none
    | none => none)
  | none => none
theorem xs_nneg {z : Int} (hz : xin z) (h : 0 ≤ z) : ¬ Int32.ofInt z < 0 := by
  rw [show (0 : Int32) = Int32.ofInt 0 from rfl, xin_lt hz xin_0]
  omega
theorem xs_cp {a0 a : Nat} {sp dp n : Int} (hd : decode row.2.2.1 pc = .ok (.invokestatic i, 3)) (hy : xj_y row.1 i = some (7, j)) (h1 : xin sp) (h2 : xin dp) (h3 : xin n) (hsm : xj_sm rest = true) (hm : xq_cp a0 sp a dp n M = some M1) (hn : pc + 3 = nx) (kt : xW d X row (nx, lv, rest, M1) Q) : xW d X row (pc, lv, xI n :: xI dp :: xR_ a :: xI sp :: xR_ a0 :: rest, M) Q := by
  subst hn
  unfold xq_cp at hm
  split at hm
  · rename_i x0 hx0
    split at hm
    · rename_i x1 hx1
      split at hm
      · rename_i hc
        cases hm
        rw [xR_ref (xj_arr_inv hx0).1, xR_ref (xj_arr_inv hx1).1]
        refine xW_go (fun _ => xk_mem hd rfl rfl rfl rfl rfl rfl (by cases X.2.2 <;> rfl) (q := (rest, _)) ?_) kt
        show (match xj_y row.1 i with | some (7, _) => xj_cp (xI n :: xI dp :: Value.ref a :: xI sp :: Value.ref a0 :: rest) M | _ => none) = _
        rw [hy]
        simp only [xj_cp, hx0, hx1, xs_clamp h1 hc.2.2.1, xs_clamp h2 hc.2.2.2.1, xs_clamp h3 hc.2.2.2.2.1]
        rw [if_pos ⟨hc.1, hc.2.1, xs_nneg h1 hc.2.2.1, xs_nneg h2 hc.2.2.2.1, xs_nneg h3 hc.2.2.2.2.1, hc.2.2.2.2.2.1, hc.2.2.2.2.2.2.1, hc.2.2.2.2.2.2.2, hsm⟩]
        rfl
      · cases hm
    · cases hm
  · cases hm
def xq_cl (kk x : Nat) (M : xj_M) : Option (Nat × xj_M) := match xj_arr M x with
  | some q => if q.1 = kk ∧ ((List.range q.2.1).all (fun i => fits (xj_kty kk) (q.2.2 i))) = true then some (xj_nx M, xj_new M (.inr (.inl q)) q.2.1) else none
  | none => none
theorem xs_cl {kk x : Nat} {p : Nat × xj_M} (hd : decode row.2.2.1 pc = .ok (.invokevirtual i, 3)) (hy : xj_y row.1 i = some (8, kk)) (hsm : xj_sm rest = true) (hm : xq_cl kk x M = some p) (hn : pc + 3 = nx) (kt : xW d X row (nx, lv, xR_ p.1 :: rest, p.2) Q) : xW d X row (pc, lv, xR_ x :: rest, M) Q := by
  subst hn
  unfold xq_cl at hm
  split at hm
  · rename_i q hq
    split at hm
    · rename_i hc
      cases hm
      have e : xR_ (xj_nx M) = .ref (xj_nx M) := by unfold xR_; rw [if_neg (by unfold xj_nx; omega)]
      simp only [e] at kt
      rw [xR_ref (xj_arr_inv hq).1]
      refine xW_go (fun _ => xk_mk hd rfl rfl rfl rfl rfl rfl (by cases X.2.2 <;> rfl) rfl (q := (.ref (xj_nx M) :: rest, _)) ?_) kt
      show (match xj_y row.1 i with | some (8, k) => xj_cl k (Value.ref x :: rest) M | _ => none) = _
      rw [hy]
      simp only [xj_cl, hq]
      rw [if_pos ⟨hc.1, hc.2, hsm⟩]
      rfl
    · cases hm
  · cases hm
def xq_ca (kk x : Nat) (M : xj_M) : Option Unit := match xj_arr M x with
  | some q => if q.1 = kk then some () else none
  | none => none
theorem xs_ca {kk x : Nat} {u : Unit} (hd : decode row.2.2.1 pc = .ok (.checkcast i, 3)) (hy : xj_y row.1 i = some (9, kk)) (hm : xq_ca kk x M = some u) (hn : pc + 3 = nx) (kt : xW d X row (nx, lv, xR_ x :: rest, M) Q) : xW d X row (pc, lv, xR_ x :: rest, M) Q := by
  subst hn
  unfold xq_ca at hm
  split at hm
  · rename_i q hq
    split at hm
    · rename_i hc
      rw [xR_ref (xj_arr_inv hq).1] at kt ⊢
      refine xW_go (fun _ => xk_mem hd rfl rfl rfl rfl rfl rfl (by cases X.2.2 <;> rfl) (q := (.ref x :: rest, M)) ?_) kt
      show (match xj_y row.1 i with | some (9, k) => xj_cc k (Value.ref x :: rest) M | _ => none) = _
      rw [hy]
      simp only [xj_cc, hq]
      rw [if_pos hc]
    · cases hm
  · cases hm
/-- two references that are not the same -/
theorem xe_acmpne {off : Int} {t x y : Nat} (hd : decode row.2.2.1 pc = .ok (.if_acmp .ne off, 3)) (ht : xj_tg pc off = some t) (hn : pc + 3 = nx) (hx : 64 ≤ x) (hy : 64 ≤ y) (k1 : ¬ x = y → xW d X row (t, lv, st, M) Q) (k2 : x = y → xW d X row (nx, lv, st, M) Q) : xW d X row (pc, lv, xR_ y :: xR_ x :: st, M) Q := by
  subst hn
  rw [xR_ref hx, xR_ref hy]
  by_cases h : x = y
  · refine xW_go (fun _ => xk_jmp hd rfl rfl rfl (q := ((off, false), st)) ?_ (by unfold xj_J; simp only [ht]; rfl)) (k2 h)
    show (if 64 ≤ x ∧ 64 ≤ y then some ((off, decide (¬ x = y)), st) else none) = _
    rw [if_pos ⟨hx, hy⟩]
    simp [h]
  · refine xW_go (fun _ => xk_jmp hd rfl rfl rfl (q := ((off, true), st)) ?_ (by unfold xj_J; simp only [ht]; rfl)) (k1 h)
    show (if 64 ≤ x ∧ 64 ≤ y then some ((off, decide (¬ x = y)), st) else none) = _
    rw [if_pos ⟨hx, hy⟩]
    simp [h]
end
