/-! THE STEP: whatever the abstract machine does, the interpreter does -/
theorem xo_if_inv {c : Bool} {p q : xo} (h : xo_if c p = some q) : c = true ∧ q = p := by
  unfold xo_if at h
  split at h
  · rename_i hc; cases h; exact ⟨hc, rfl⟩
  · cases h
theorem xo_tg_inv {pc : Nat} {off : Int} {k : Nat → Option xo} {q : xo} (h : xo_tg pc off k = some q) : ∃ t, xj_tg pc off = some t ∧ k t = some q := by
  unfold xo_tg at h
  split at h
  · rename_i t ht; exact ⟨t, ht, h⟩
  · cases h
theorem xo_call_inv {s j n3 : Nat} {q : xo} (h : xo_call s j n3 = some q) : ∃ r, xj_row j = some r ∧ (s = 1 → r.2.2.2.2.1 = none) ∧ (s = 0 → r.1 < 16) ∧ q = (12, s, j, r.2.2.2.2.2.1, n3, [r.1]) := by
  unfold xo_call at h
  split at h
  · rename_i r hr
    split at h
    · rename_i hc; cases h; exact ⟨r, hr, hc.1, hc.2, rfl⟩
    · cases h
  · cases h
theorem xJ {pc len t : Nat} {off : Int} {c : Bool} (h : xj_tg pc off = some t) : xj_J pc len (off, c) = some (if c = true then t else pc + len) := by
  unfold xj_J; simp only [h]
theorem xsc_ia {ys : List Int32} {x : Int32} {r : Nat} {t : List Value} (h : 64 ≤ r) : xj_sc (some ys) .iaload (.int x :: .ref r :: t) = none := by
  obtain ⟨k, rfl⟩ : ∃ k, r = k + 1 := ⟨r - 1, by omega⟩
  rfl
theorem xsc_al {ys : List Int32} {r : Nat} {t : List Value} (h : 64 ≤ r) : xj_sc (some ys) .arraylength (.ref r :: t) = none := by
  obtain ⟨k, rfl⟩ : ∃ k, r = k + 1 := ⟨r - 1, by omega⟩
  rfl
theorem xfx_ba {o : Nat} {x : Int32} {r : Nat} {t : List Value} (h : 64 ≤ r) : xj_fx o .baload (.int x :: .ref r :: t) = none := by
  simp only [xj_fx]
  rw [if_neg (fun z => by have : r ≤ 20 := z.2.1; omega)]
theorem xfx_al {o : Nat} {r : Nat} {t : List Value} (h : 64 ≤ r) : xj_fx o .arraylength (.ref r :: t) = none := by
  simp only [xj_fx]
  rw [if_neg (fun z => by have : r ≤ 20 := z.2; omega)]
theorem xst_g0 (call : xFa) (d : Nat) (S : Option (List xa)) (h : xha) (s a b nx : Nat) (l : List Nat) (pc : Nat) (lv st : List xa) (A : xme) : xst call d S h (0, s, a, b, nx, l) pc lv st A = xgo nx lv ((s, a, a) :: st) A := rfl
theorem xst_g1 (call : xFa) (d : Nat) (S : Option (List xa)) (h : xha) (s a b nx : Nat) (l : List Nat) (pc : Nat) (lv st : List xa) (A : xme) : xst call d S h (1, s, a, b, nx, l) pc lv st A = xG1 s a b nx lv st A := rfl
theorem xst_g2 (call : xFa) (d : Nat) (S : Option (List xa)) (h : xha) (s a b nx : Nat) (l : List Nat) (pc : Nat) (lv st : List xa) (A : xme) : xst call d S h (2, s, a, b, nx, l) pc lv st A = xG2 s a nx lv st A := rfl
theorem xst_g3 (call : xFa) (d : Nat) (S : Option (List xa)) (h : xha) (s a b nx : Nat) (l : List Nat) (pc : Nat) (lv st : List xa) (A : xme) : xst call d S h (3, s, a, b, nx, l) pc lv st A = xG3 a b nx lv st A := rfl
theorem xst_g4 (call : xFa) (d : Nat) (S : Option (List xa)) (h : xha) (s a b nx : Nat) (l : List Nat) (pc : Nat) (lv st : List xa) (A : xme) : xst call d S h (4, s, a, b, nx, l) pc lv st A = xG4 s a b nx lv st A := rfl
theorem xst_g5 (call : xFa) (d : Nat) (S : Option (List xa)) (h : xha) (s a b nx : Nat) (l : List Nat) (pc : Nat) (lv st : List xa) (A : xme) : xst call d S h (5, s, a, b, nx, l) pc lv st A = xG5 S s nx lv st A := rfl
theorem xst_g6 (call : xFa) (d : Nat) (S : Option (List xa)) (h : xha) (s a b nx : Nat) (l : List Nat) (pc : Nat) (lv st : List xa) (A : xme) : xst call d S h (6, s, a, b, nx, l) pc lv st A = xG6 s nx lv st A := rfl
theorem xst_g7 (call : xFa) (d : Nat) (S : Option (List xa)) (h : xha) (s a b nx : Nat) (l : List Nat) (pc : Nat) (lv st : List xa) (A : xme) : xst call d S h (7, s, a, b, nx, l) pc lv st A = xG7 s a nx lv st A := rfl
theorem xst_g8 (call : xFa) (d : Nat) (S : Option (List xa)) (h : xha) (s a b nx : Nat) (l : List Nat) (pc : Nat) (lv st : List xa) (A : xme) : xst call d S h (8, s, a, b, nx, l) pc lv st A = xG8 s nx lv st A := rfl
theorem xst_g9 (call : xFa) (d : Nat) (S : Option (List xa)) (h : xha) (s a b nx : Nat) (l : List Nat) (pc : Nat) (lv st : List xa) (A : xme) : xst call d S h (9, s, a, b, nx, l) pc lv st A = xG9 s nx lv st A := rfl
theorem xst_g10 (call : xFa) (d : Nat) (S : Option (List xa)) (h : xha) (s a b nx : Nat) (l : List Nat) (pc : Nat) (lv st : List xa) (A : xme) : xst call d S h (10, s, a, b, nx, l) pc lv st A = xG10 s nx lv st A := rfl
theorem xst_g11 (call : xFa) (d : Nat) (S : Option (List xa)) (h : xha) (s a b nx : Nat) (l : List Nat) (pc : Nat) (lv st : List xa) (A : xme) : xst call d S h (11, s, a, b, nx, l) pc lv st A = xG11 s a b st A := rfl
theorem xst_g12 (call : xFa) (d : Nat) (S : Option (List xa)) (h : xha) (s a b nx : Nat) (l : List Nat) (pc : Nat) (lv st : List xa) (A : xme) : xst call d S h (12, s, a, b, nx, l) pc lv st A = xG12 call h s a b l pc nx lv st A := rfl
theorem xst_g13 (call : xFa) (d : Nat) (S : Option (List xa)) (h : xha) (s a b nx : Nat) (l : List Nat) (pc : Nat) (lv st : List xa) (A : xme) : xst call d S h (13, s, a, b, nx, l) pc lv st A = xG13 S s a b nx l lv st A := rfl
theorem xst_g14 (call : xFa) (d : Nat) (S : Option (List xa)) (h : xha) (s a b nx : Nat) (l : List Nat) (pc : Nat) (lv st : List xa) (A : xme) : xst call d S h (14, s, a, b, nx, l) pc lv st A = xG14 a b l lv st A := rfl
theorem xst_g15 (call : xFa) (d : Nat) (S : Option (List xa)) (h : xha) (s a b nx : Nat) (l : List Nat) (pc : Nat) (lv st : List xa) (A : xme) : xst call d S h (15, s, a, b, nx, l) pc lv st A = xG15 h d s a nx lv st A := rfl
section
variable {call : xj_F} {ac : xFa} {X : xj_X} {row : xj_mR} {S : Option (List xa)} {h : xha} {pc len : Nat} {q : xo} {lv' st' : List xa} {A : xme} {lv : xj_L} {st : List Value} {M : xj_M} {N : xNa}
theorem xs_jz {ins : Instr} {k t : Nat} {off : Int} (hd : decode row.2.2.1 pc = .ok (ins, len)) (hl : xj_lenok ins len = true) (ht : xj_tg pc off = some t) (h0 : ∀ st, xj_pure ins st = none) (h1 : ∀ st, xj_loc row.2.2.2.1 ins lv st = none) (hj : ∀ st, xj_jmp ins st = xj_z1 (fun x => xcf k x 0) off st) (hk : Nat.ble k 6 = true)
    (hN : xG2 k t (pc + len) lv' st' A = some N) (hlv : xlr lv' lv) (hs : xvs st' st) (hA : xmr A M) : ∃ N', xj_step call X row (pc, lv, st, M) = some N' ∧ xNr N N' := by
  obtain ⟨x, r, rfl, n⟩ := xG2_1 hk hN hlv hs hA
  exact ⟨_, xk_jmp hd hl (h0 _) (h1 _) (q := ((off, xcf k x 0), r)) (by rw [hj]; rfl) (xJ ht), n⟩
theorem xs_jc {ins : Instr} {k t : Nat} {off : Int} (hd : decode row.2.2.1 pc = .ok (ins, len)) (hl : xj_lenok ins len = true) (ht : xj_tg pc off = some t) (h0 : ∀ st, xj_pure ins st = none) (h1 : ∀ st, xj_loc row.2.2.2.1 ins lv st = none) (hj : ∀ st, xj_jmp ins st = xj_z2 (fun x y => xcf (k - 6) x y) off st) (hk : Nat.ble k 6 = false)
    (hN : xG2 k t (pc + len) lv' st' A = some N) (hlv : xlr lv' lv) (hs : xvs st' st) (hA : xmr A M) : ∃ N', xj_step call X row (pc, lv, st, M) = some N' ∧ xNr N N' := by
  obtain ⟨x, y, r, rfl, n⟩ := xG2_2 hk hN hlv hs hA
  exact ⟨_, xk_jmp hd hl (h0 _) (h1 _) (q := ((off, xcf (k - 6) x y), r)) (by rw [hj]; rfl) (xJ ht), n⟩
theorem xs_i2 {ins : Instr} {k : Nat} (hd : decode row.2.2.1 pc = .ok (ins, len)) (hl : xj_lenok ins len = true) (hj : ∀ st, xj_pure ins st = xj_i2 (fun x y => xi2 k x y) st) (hk : Nat.beq k 8 = false)
    (hN : xG8 k (pc + len) lv' st' A = some N) (hlv : xlr lv' lv) (hs : xvs st' st) (hA : xmr A M) : ∃ N', xj_step call X row (pc, lv, st, M) = some N' ∧ xNr N N' := by
  obtain ⟨x, y, r, rfl, n⟩ := xG8_ok hk hN hlv hs hA
  exact ⟨_, xk_pure hd hl (by rw [hj]; rfl), n⟩
theorem xs_l2 {ins : Instr} {k : Nat} (hd : decode row.2.2.1 pc = .ok (ins, len)) (hl : xj_lenok ins len = true) (hj : ∀ st, xj_pure ins st = xj_l2 (fun x y => .long (xj2 (k - 3) x y)) st) (h2 : Nat.ble k 2 = false) (h7 : Nat.beq k 7 = false) (h6 : Nat.beq k 6 = false)
    (hN : xG9 k (pc + len) lv' st' A = some N) (hlv : xlr lv' lv) (hs : xvs st' st) (hA : xmr A M) : ∃ N', xj_step call X row (pc, lv, st, M) = some N' ∧ xNr N N' := by
  obtain ⟨x, y, r, rfl, n⟩ := xG9_l h2 h7 h6 hN hlv hs hA
  exact ⟨_, xk_pure hd hl (by rw [hj]; rfl), n⟩
/-- a constant -/
theorem xs_c {ins : Instr} {v : Value} {a b : Nat} (hd : decode row.2.2.1 pc = .ok (ins, len)) (hl : xj_lenok ins len = true) (hj : xj_pure ins st = some (v :: st)) (hv : xv (a, b, b) v)
    (hN : xgo (pc + len) lv' ((a, b, b) :: st') A = some N) (hlv : xlr lv' lv) (hs : xvs st' st) (hA : xmr A M) : ∃ N', xj_step call X row (pc, lv, st, M) = some N' ∧ xNr N N' :=
  ⟨_, xk_pure hd hl hj, xNr_go hN hlv ⟨hv, hs⟩ hA⟩
theorem xs_ld {ins : Instr} {i : Nat} {v : Value} (hd : decode row.2.2.1 pc = .ok (ins, len)) (hl : xj_lenok ins len = true) (h0 : xj_pure ins st = none) (hj : xj_loc row.2.2.2.1 ins lv st = some (lv, v :: st)) (hn : xNr N (.inl (pc + len, lv, v :: st, M))) : ∃ N', xj_step call X row (pc, lv, st, M) = some N' ∧ xNr N N' :=
  ⟨_, xk_loc hd hl h0 hj, hn⟩
theorem xs_lda {i : Nat} {x : Value} (h1 : xj_ld lv i = some x) (h2 : x = .null ∨ ∃ r, x = .ref r) : xj_lda lv i st = some (lv, x :: st) := by
  unfold xj_lda
  rw [h1]
  rcases h2 with rfl | ⟨r, rfl⟩ <;> rfl
theorem xs_sta {nL i : Nat} {x : Value} {r : List Value} (hi : i < nL) (h2 : x = .null ∨ ∃ q, x = .ref q) : xj_sta nL lv i (x :: r) = some (xj_s1 lv i x, r) := by
  unfold xj_sta
  rcases h2 with rfl | ⟨q, rfl⟩
  · simp only [if_pos hi]
  · simp only [if_pos hi]
theorem xsc_n {ins : Instr} (h : ∀ ys : List Int32, xj_sc (some ys) ins st = none) : xj_sc X.2.2 ins st = none := by
  cases hX : X.2.2 with
  | none => rfl
  | some ys => exact h ys
end
