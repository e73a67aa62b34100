/-! THE STEP: whatever the abstract machine does, the interpreter does -/
theorem xo_if_inv {c : Bool} {p q : xo} (h : xo_if c p = some q) : c = true ∧ q = p := by
  unfold xo_if at h
  split at h
  · rename_i hc; cases h; exact ⟨hc, rfl⟩
  · cases h
theorem xo_tg_inv {pc : Nat} {off : Int} {k : Nat → Option xo} {q : xo} (h : xo_tg pc off k = some q) : ∃ t, xj_tg pc off = some t ∧ k t = some q := by
  unfold xo_tg at h
  split at h
  · rename_i t ht; exact ⟨t, ht, h⟩
  · cases h
theorem xo_call_inv {s j n3 : Nat} {q : xo} (h : xo_call s j n3 = some q) : ∃ r, xj_row j = some r ∧ (s = 1 → r.2.2.2.2.1 = none) ∧ (s = 0 → r.1 < 16) ∧ q = (12, s, j, r.2.2.2.2.2.1, n3, [r.1]) := by
  unfold xo_call at h
  split at h
  · rename_i r hr
    split at h
    · rename_i hc; cases h; exact ⟨r, hr, hc.1, hc.2, rfl⟩
    · cases h
  · cases h
theorem xJ {pc len t : Nat} {off : Int} {c : Bool} (h : xj_tg pc off = some t) : xj_J pc len (off, c) = some (if c = true then t else pc + len) := by
  unfold xj_J; simp only [h]
section
variable {call : xj_F} {ac : xFa} {X : xj_X} {row : xj_mR} {S : Option (List xa)} {h : xha} {pc len : Nat} {q : xo} {lv' st' : List xa} {A : xme} {lv : xj_L} {st : List Value} {M : xj_M} {N : xNa}
theorem xs_jz {ins : Instr} {k t : Nat} {off : Int} (hd : decode row.2.2.1 pc = .ok (ins, len)) (hl : xj_lenok ins len = true) (ht : xj_tg pc off = some t) (h0 : ∀ st, xj_pure ins st = none) (h1 : ∀ st, xj_loc row.2.2.2.1 ins lv st = none) (hj : ∀ st, xj_jmp ins st = xj_z1 (fun x => xcf k x 0) off st) (hk : Nat.ble k 6 = true)
    (hN : xG2 k t (pc + len) lv' st' A = some N) (hlv : xlr lv' lv) (hs : xvs st' st) (hA : xmr A M) : ∃ N', xj_step call X row (pc, lv, st, M) = some N' ∧ xNr N N' := by
  obtain ⟨x, r, rfl, n⟩ := xG2_1 hk hN hlv hs hA
  exact ⟨_, xk_jmp hd hl (h0 _) (h1 _) (q := ((off, xcf k x 0), r)) (by rw [hj]; rfl) (xJ ht), n⟩
theorem xs_jc {ins : Instr} {k t : Nat} {off : Int} (hd : decode row.2.2.1 pc = .ok (ins, len)) (hl : xj_lenok ins len = true) (ht : xj_tg pc off = some t) (h0 : ∀ st, xj_pure ins st = none) (h1 : ∀ st, xj_loc row.2.2.2.1 ins lv st = none) (hj : ∀ st, xj_jmp ins st = xj_z2 (fun x y => xcf (k - 6) x y) off st) (hk : Nat.ble k 6 = false)
    (hN : xG2 k t (pc + len) lv' st' A = some N) (hlv : xlr lv' lv) (hs : xvs st' st) (hA : xmr A M) : ∃ N', xj_step call X row (pc, lv, st, M) = some N' ∧ xNr N N' := by
  obtain ⟨x, y, r, rfl, n⟩ := xG2_2 hk hN hlv hs hA
  exact ⟨_, xk_jmp hd hl (h0 _) (h1 _) (q := ((off, xcf (k - 6) x y), r)) (by rw [hj]; rfl) (xJ ht), n⟩
theorem xs_i2 {ins : Instr} {k : Nat} (hd : decode row.2.2.1 pc = .ok (ins, len)) (hl : xj_lenok ins len = true) (hj : ∀ st, xj_pure ins st = xj_i2 (fun x y => xi2 k x y) st) (hk : Nat.beq k 8 = false)
    (hN : xG8 k (pc + len) lv' st' A = some N) (hlv : xlr lv' lv) (hs : xvs st' st) (hA : xmr A M) : ∃ N', xj_step call X row (pc, lv, st, M) = some N' ∧ xNr N N' := by
  obtain ⟨x, y, r, rfl, n⟩ := xG8_ok hk hN hlv hs hA
  exact ⟨_, xk_pure hd hl (by rw [hj]; rfl), n⟩
theorem xs_l2 {ins : Instr} {k : Nat} (hd : decode row.2.2.1 pc = .ok (ins, len)) (hl : xj_lenok ins len = true) (hj : ∀ st, xj_pure ins st = xj_l2 (fun x y => .long (xj2 (k - 3) x y)) st) (h2 : Nat.ble k 2 = false) (h7 : Nat.beq k 7 = false) (h6 : Nat.beq k 6 = false)
    (hN : xG9 k (pc + len) lv' st' A = some N) (hlv : xlr lv' lv) (hs : xvs st' st) (hA : xmr A M) : ∃ N', xj_step call X row (pc, lv, st, M) = some N' ∧ xNr N N' := by
  obtain ⟨x, y, r, rfl, n⟩ := xG9_l h2 h7 h6 hN hlv hs hA
  exact ⟨_, xk_pure hd hl (by rw [hj]; rfl), n⟩
/-- a constant -/
theorem xs_c {ins : Instr} {v : Value} {a b : Nat} (hd : decode row.2.2.1 pc = .ok (ins, len)) (hl : xj_lenok ins len = true) (hj : xj_pure ins st = some (v :: st)) (hv : xv (a, b, b) v)
    (hN : xgo (pc + len) lv' ((a, b, b) :: st') A = some N) (hlv : xlr lv' lv) (hs : xvs st' st) (hA : xmr A M) : ∃ N', xj_step call X row (pc, lv, st, M) = some N' ∧ xNr N N' :=
  ⟨_, xk_pure hd hl hj, xNr_go hN hlv ⟨hv, hs⟩ hA⟩
theorem xs_ld {ins : Instr} {i : Nat} {v : Value} (hd : decode row.2.2.1 pc = .ok (ins, len)) (hl : xj_lenok ins len = true) (h0 : xj_pure ins st = none) (hj : xj_loc row.2.2.2.1 ins lv st = some (lv, v :: st)) (hn : xNr N (.inl (pc + len, lv, v :: st, M))) : ∃ N', xj_step call X row (pc, lv, st, M) = some N' ∧ xNr N N' :=
  ⟨_, xk_loc hd hl h0 hj, hn⟩
theorem xs_lda {i : Nat} {x : Value} (h1 : xj_ld lv i = some x) (h2 : x = .null ∨ ∃ r, x = .ref r) : xj_lda lv i st = some (lv, x :: st) := by
  unfold xj_lda
  rw [h1]
  rcases h2 with rfl | ⟨r, rfl⟩ <;> rfl
theorem xs_sta {nL i : Nat} {x : Value} {r : List Value} (hi : i < nL) (h2 : x = .null ∨ ∃ q, x = .ref q) : xj_sta nL lv i (x :: r) = some (xj_s1 lv i x, r) := by
  unfold xj_sta
  rcases h2 with rfl | ⟨q, rfl⟩
  · simp only [if_pos hi]
  · simp only [if_pos hi]
theorem xsc_n {ins : Instr} (h : ∀ ys : List Int32, xj_sc (some ys) ins st = none) : xj_sc X.2.2 ins st = none := by
  cases hX : X.2.2 with
  | none => rfl
  | some ys => exact h ys
set_option maxHeartbeats 4000000 in
theorem xst_ok (hcall : xcok call ac) (hS : xsr S X.2.2) (hh : xhr row X.1 h) {ins : Instr} (hd : decode row.2.2.1 pc = .ok (ins, len)) (hl : xj_lenok ins len = true) (hq : xo_ins row pc len ins = some q) (hlv : xlr lv' lv) (hs : xvs st' st) (hA : xmr A M)
    (hN : xst ac X.2.1 S h q pc lv' st' A = some N) : ∃ N', xj_step call X row (pc, lv, st, M) = some N' ∧ xNr N N' := by
  cases ins
  case aconst_null => cases hq; exact xs_c hd hl rfl rfl hN hlv hs hA
  case iconst n => cases hq; exact xs_c hd hl rfl (xv_ci _) hN hlv hs hA
  case bipush n => cases hq; exact xs_c hd hl rfl (xv_ci _) hN hlv hs hA
  case sipush n => cases hq; exact xs_c hd hl rfl (xv_ci _) hN hlv hs hA
  case lconst n => cases hq; exact xs_c hd hl rfl (xv_cl _) hN hlv hs hA
  case ldc i =>
    simp only [xo_ins] at hq
    split at hq
    · rename_i v hv
      cases hq
      exact ⟨_, xk_ct hd hl rfl rfl rfl (by simp only [xj_ct, hv]), xNr_go hN hlv ⟨xv_ci _, hs⟩ hA⟩
    · rename_i hv
      split at hq
      · rename_i k hk
        cases hq
        exact ⟨_, xk_fx hd hl rfl rfl rfl (by simp only [xj_ct, hv]) (by simp only [xj_fx, hk]), xNr_go hN hlv ⟨⟨rfl, rfl⟩, hs⟩ hA⟩
      · cases hq
  case ldc_w i =>
    simp only [xo_ins] at hq
    split at hq
    · rename_i v hv
      cases hq
      exact ⟨_, xk_ct hd hl rfl rfl rfl (by simp only [xj_ct, hv]), xNr_go hN hlv ⟨xv_ci _, hs⟩ hA⟩
    · rename_i hv
      split at hq
      · rename_i k hk
        cases hq
        exact ⟨_, xk_fx hd hl rfl rfl rfl (by simp only [xj_ct, hv]) (by simp only [xj_fx, hk]), xNr_go hN hlv ⟨⟨rfl, rfl⟩, hs⟩ hA⟩
      · cases hq
  case ldc2_w i =>
    simp only [xo_ins] at hq
    split at hq
    · rename_i v hv
      cases hq
      exact ⟨_, xk_ct hd hl rfl rfl rfl (by simp only [xj_ct, hv]), xNr_go hN hlv ⟨xv_cl _, hs⟩ hA⟩
    · cases hq
  case getstatic i =>
    simp only [xo_ins] at hq
    split at hq
    · rename_i hc
      cases hq
      exact ⟨_, xk_fx hd hl rfl rfl rfl rfl (by simp only [xj_fx]; rw [if_pos hc]), xNr_go hN hlv ⟨xv_ci _, hs⟩ hA⟩
    · rename_i hc0
      split at hq
      · rename_i hc
        split at hq
        · rename_i j d3 d6
          obtain ⟨hj, rfl⟩ := xo_if_inv hq
          have hj := of_decide_eq_true hj
          obtain ⟨n, x, r, rfl, g1, g2, g3, g4, hn⟩ := xG15_1 (nx := pc + 7) hN hlv hs hA
          refine ⟨_, xk_chk hd hl rfl rfl rfl rfl (by simp only [xj_fx]; rw [if_neg hc0]) (xsc_n (fun _ => rfl)) rfl rfl rfl rfl rfl ?_, hn⟩
          simp only [xj_chk]
          rw [if_pos ⟨hc.1, hc.2, g3⟩, d3, d6]
          simp only [hj, if_true]
          rw [if_pos ⟨g1, g2, g4⟩]
        · cases hq
      · cases hq
  case iload i =>
    cases hq
    obtain ⟨x, h1, hn⟩ := xG1_0 (nx := pc + len) hN hlv hs hA
    exact ⟨_, xk_loc hd hl rfl (by simp only [xj_loc, xj_ldi, h1]), hn⟩
  case iload_n i =>
    cases hq
    obtain ⟨x, h1, hn⟩ := xG1_0 (nx := pc + len) hN hlv hs hA
    exact ⟨_, xk_loc hd hl rfl (by simp only [xj_loc, xj_ldi, h1]), hn⟩
  case lload i =>
    cases hq
    obtain ⟨x, h1, hn⟩ := xG1_1 (nx := pc + len) hN hlv hs hA
    exact ⟨_, xk_loc hd hl rfl (by simp only [xj_loc, xj_ldl, h1]), hn⟩
  case lload_n i =>
    cases hq
    obtain ⟨x, h1, hn⟩ := xG1_1 (nx := pc + len) hN hlv hs hA
    exact ⟨_, xk_loc hd hl rfl (by simp only [xj_loc, xj_ldl, h1]), hn⟩
  case aload i =>
    cases hq
    obtain ⟨x, h1, h2, hn⟩ := xG1_2 (nx := pc + len) hN hlv hs hA
    exact ⟨_, xk_loc hd hl rfl (by simp only [xj_loc]; exact xs_lda h1 h2), hn⟩
  case aload_n i =>
    cases hq
    obtain ⟨x, h1, h2, hn⟩ := xG1_2 (nx := pc + len) hN hlv hs hA
    exact ⟨_, xk_loc hd hl rfl (by simp only [xj_loc]; exact xs_lda h1 h2), hn⟩
  case istore i =>
    obtain ⟨hi, rfl⟩ := xo_if_inv hq
    obtain ⟨x, r, rfl, hn⟩ := xG1_3 (nx := pc + len) hN hlv hs hA
    exact ⟨_, xk_loc hd hl rfl (by simp only [xj_loc, xj_sti]; rw [if_pos (of_decide_eq_true hi)]), hn⟩
  case istore_n i =>
    obtain ⟨hi, rfl⟩ := xo_if_inv hq
    obtain ⟨x, r, rfl, hn⟩ := xG1_3 (nx := pc + len) hN hlv hs hA
    exact ⟨_, xk_loc hd hl rfl (by simp only [xj_loc, xj_sti]; rw [if_pos (of_decide_eq_true hi)]), hn⟩
  case lstore i =>
    obtain ⟨hi, rfl⟩ := xo_if_inv hq
    obtain ⟨x, r, rfl, hn⟩ := xG1_4 (nx := pc + len) hN hlv hs hA
    exact ⟨_, xk_loc hd hl rfl (by simp only [xj_loc, xj_stl]; rw [if_pos (of_decide_eq_true hi)]), hn⟩
  case lstore_n i =>
    obtain ⟨hi, rfl⟩ := xo_if_inv hq
    obtain ⟨x, r, rfl, hn⟩ := xG1_4 (nx := pc + len) hN hlv hs hA
    exact ⟨_, xk_loc hd hl rfl (by simp only [xj_loc, xj_stl]; rw [if_pos (of_decide_eq_true hi)]), hn⟩
  case astore i =>
    obtain ⟨hi, rfl⟩ := xo_if_inv hq
    obtain ⟨x, r, rfl, h2, hn⟩ := xG1_5 (nx := pc + len) hN hlv hs hA
    exact ⟨_, xk_loc hd hl rfl (by simp only [xj_loc]; exact xs_sta (of_decide_eq_true hi) h2), hn⟩
  case astore_n i =>
    obtain ⟨hi, rfl⟩ := xo_if_inv hq
    obtain ⟨x, r, rfl, h2, hn⟩ := xG1_5 (nx := pc + len) hN hlv hs hA
    exact ⟨_, xk_loc hd hl rfl (by simp only [xj_loc]; exact xs_sta (of_decide_eq_true hi) h2), hn⟩
  case iinc i n =>
    obtain ⟨hi, rfl⟩ := xo_if_inv hq
    obtain ⟨x, h1, hn⟩ := xG1_6 (nx := pc + len) hN hlv hs hA
    exact ⟨_, xk_loc hd hl rfl (by simp only [xj_loc, xj_inc, h1]; rw [if_pos (of_decide_eq_true hi)]), hn⟩
  case ifCond c off =>
    cases c <;> (obtain ⟨t, ht, hq⟩ := xo_tg_inv hq; cases hq)
    · exact xs_jz hd hl ht (fun _ => rfl) (fun _ => rfl) (fun _ => rfl) rfl hN hlv hs hA
    · exact xs_jz hd hl ht (fun _ => rfl) (fun _ => rfl) (fun _ => rfl) rfl hN hlv hs hA
    · exact xs_jz hd hl ht (fun _ => rfl) (fun _ => rfl) (fun _ => rfl) rfl hN hlv hs hA
    · exact xs_jz hd hl ht (fun _ => rfl) (fun _ => rfl) (fun _ => rfl) rfl hN hlv hs hA
    · exact xs_jz hd hl ht (fun _ => rfl) (fun _ => rfl) (fun _ => rfl) rfl hN hlv hs hA
    · exact xs_jz hd hl ht (fun _ => rfl) (fun _ => rfl) (fun _ => rfl) rfl hN hlv hs hA
  case if_icmp c off =>
    cases c <;> (obtain ⟨t, ht, hq⟩ := xo_tg_inv hq; cases hq)
    · exact xs_jc hd hl ht (fun _ => rfl) (fun _ => rfl) (fun _ => rfl) rfl hN hlv hs hA
    · exact xs_jc hd hl ht (fun _ => rfl) (fun _ => rfl) (fun _ => rfl) rfl hN hlv hs hA
    · exact xs_jc hd hl ht (fun _ => rfl) (fun _ => rfl) (fun _ => rfl) rfl hN hlv hs hA
    · exact xs_jc hd hl ht (fun _ => rfl) (fun _ => rfl) (fun _ => rfl) rfl hN hlv hs hA
    · exact xs_jc hd hl ht (fun _ => rfl) (fun _ => rfl) (fun _ => rfl) rfl hN hlv hs hA
    · exact xs_jc hd hl ht (fun _ => rfl) (fun _ => rfl) (fun _ => rfl) rfl hN hlv hs hA
  case getfield i =>
    simp only [xo_ins] at hq
    split at hq
    · rename_i h18
      split at hq
      · rename_i h9
        cases hq
        obtain ⟨p, r, rfl, g1, g2, hn⟩ := xG15_3 (nx := pc + len) hN hlv hs hA
        exact ⟨_, xk_fx hd hl rfl rfl rfl rfl (by simp only [xj_fx]; rw [if_pos ⟨h18, h9, g1, g2⟩]), hn⟩
      · rename_i h9
        split at hq
        · rename_i h15
          cases hq
          obtain ⟨p, r, rfl, g1, g2, hn⟩ := xG15_4 (nx := pc + len) hN hlv hs hA
          exact ⟨_, xk_fx hd hl rfl rfl rfl rfl (by simp only [xj_fx]; rw [if_neg (fun z => h9 z.2.1), if_pos ⟨h18, h15, g1, g2⟩]), hn⟩
        · cases hq
    · rename_i h18
      split at hq
      · rename_i p hp
        cases hq
        obtain ⟨r, o, v, st1, rfl, g1, g2, g3, hn⟩ := xG3_ok (nx := pc + len) hN hlv hs hA
        refine ⟨_, xk_mem hd hl rfl rfl rfl rfl (by simp only [xj_fx]; rw [if_neg (fun z => h18 z.1), if_neg (fun z => h18 z.1)]) (xsc_n (fun _ => rfl)) (q := (v :: st1, M)) ?_, hn⟩
        simp only [xj_mem, xj_gf, hp, g1, g3]
        rw [if_pos g2]
      · cases hq
  case putfield i =>
    simp only [xo_ins] at hq
    split at hq
    · rename_i p hp
      split at hq
      · rename_i t ht
        split at hq
        · rename_i hc
          cases hq
          obtain ⟨w, v, r, o, st1, rfl, g1, g2, g3, g4, hn⟩ := xG4_ok (nx := pc + len) hN hlv hs hA
          refine ⟨_, xk_mem hd hl rfl rfl rfl rfl rfl (xsc_n (fun _ => rfl)) (q := (st1, xj_put M r (.inr (.inr (o.1, o.2.set p.2 w))))) ?_, hn⟩
          simp only [xj_mem, xj_pf, hp, g3]
          rw [if_pos ⟨g4, xfit_ok ht g2 g1, hc⟩]
        · cases hq
      · cases hq
    · cases hq
  case iaload =>
    cases hq
    obtain ⟨x, r, st1, v, rfl, hn, ⟨g1, p, j, g2, g3, rfl, g4⟩ | ⟨rfl, -, ys, g2, g3, rfl⟩ | ⟨-, -, g3, -⟩⟩ := xG5_ok hS (nx := pc + len) hN hlv hs hA
    · rw [if_neg (by decide), if_neg (by decide)] at g4
      refine ⟨_, xk_mem hd hl rfl rfl rfl rfl rfl (xsc_n (fun ys => ?_)) (q := (p.2.2 j :: st1, M)) (by simp only [xj_mem, xj_al, g2, g3]; rw [if_pos g4]), hn⟩
      obtain ⟨r, rfl⟩ : ∃ k, r = k + 1 := ⟨r - 1, by omega⟩
      rfl
    · exact ⟨_, xk_sc hd hl rfl rfl rfl rfl rfl (by rw [g2]; simp only [xj_sc]; rw [if_pos g3]), hn⟩
    · exact absurd g3 (by decide)
  case laload =>
    cases hq
    obtain ⟨x, r, st1, v, rfl, hn, ⟨g1, p, j, g2, g3, rfl, g4⟩ | ⟨-, g3, -⟩ | ⟨-, -, g3, -⟩⟩ := xG5_ok hS (nx := pc + len) hN hlv hs hA
    · rw [if_neg (by decide), if_neg (by decide)] at g4
      exact ⟨_, xk_mem hd hl rfl rfl rfl rfl rfl (xsc_n (fun ys => rfl)) (q := (p.2.2 j :: st1, M)) (by simp only [xj_mem, xj_al, g2, g3]; rw [if_pos g4]), hn⟩
    · exact absurd g3 (by decide)
    · exact absurd g3 (by decide)
  case baload =>
    cases hq
    obtain ⟨x, r, st1, v, rfl, hn, ⟨g1, p, j, g2, g3, rfl, g4⟩ | ⟨-, g3, -⟩ | ⟨g1, g2, -, g3, rfl⟩⟩ := xG5_ok hS (nx := pc + len) hN hlv hs hA
    · rw [if_neg (by decide), if_pos rfl] at g4
      refine ⟨_, xk_mem hd hl rfl rfl rfl rfl (by simp only [xj_fx]; rw [if_neg (fun z => by omega)]) (xsc_n (fun ys => rfl)) (q := (p.2.2 j :: st1, M)) ?_, hn⟩
      simp only [xj_mem, xj_al, g2, g3]
      by_cases e : p.1 = 1
      · rw [if_pos e]; rfl
      · rw [if_neg e, if_pos (by omega)]; rfl
    · exact absurd g3 (by decide)
    · exact ⟨_, xk_fx hd hl rfl rfl rfl rfl (by simp only [xj_fx]; rw [if_pos ⟨g1, g2, g3⟩]), hn⟩
  case aaload =>
    cases hq
    obtain ⟨x, r, st1, v, rfl, hn, ⟨g1, p, j, g2, g3, rfl, g4⟩ | ⟨-, g3, -⟩ | ⟨-, -, g3, -⟩⟩ := xG5_ok hS (nx := pc + len) hN hlv hs hA
    · rw [if_pos rfl] at g4
      exact ⟨_, xk_mem hd hl rfl rfl rfl rfl rfl (xsc_n (fun ys => rfl)) (q := (p.2.2 j :: st1, M)) (by simp only [xj_mem, xj_aq, g2, g3]; rw [if_pos g4]), hn⟩
    · exact absurd g3 (by decide)
    · exact absurd g3 (by decide)
  case iastore =>
    cases hq
    obtain ⟨w, x, r, st1, p, j, w', rfl, g2, g3, hn, g4⟩ := xG6_ok (nx := pc + len) hN hlv hs hA (by omega)
    rw [if_neg (by decide), if_neg (by decide)] at g4
    obtain ⟨y, rfl, g4⟩ := g4
    rw [if_pos rfl] at g4
    obtain ⟨g4, rfl⟩ := g4
    refine ⟨_, xk_mem hd hl rfl rfl rfl rfl rfl (xsc_n (fun ys => rfl)) (q := (st1, xj_put M r (.inr (.inl (p.1, p.2.1, updV p.2.2 j (.int y)))))) ?_, hn⟩
    simp only [xj_mem, xj_as, xj_oki, g2, g3]
    rw [if_pos g4, g4]
  case lastore =>
    cases hq
    obtain ⟨w, x, r, st1, p, j, w', rfl, g2, g3, hn, g4⟩ := xG6_ok (nx := pc + len) hN hlv hs hA (by omega)
    rw [if_neg (by decide), if_pos rfl] at g4
    obtain ⟨rfl, g4, y, rfl⟩ := g4
    refine ⟨_, xk_mem hd hl rfl rfl rfl rfl rfl (xsc_n (fun ys => rfl)) (q := (st1, xj_put M r (.inr (.inl (p.1, p.2.1, updV p.2.2 j (.long y)))))) ?_, hn⟩
    simp only [xj_mem, xj_as, xj_okl, g2, g3]
    rw [if_pos g4, g4]
  case castore =>
    cases hq
    obtain ⟨w, x, r, st1, p, j, w', rfl, g2, g3, hn, g4⟩ := xG6_ok (nx := pc + len) hN hlv hs hA (by omega)
    rw [if_neg (by decide), if_neg (by decide)] at g4
    obtain ⟨y, rfl, g4⟩ := g4
    rw [if_neg (by decide)] at g4
    obtain ⟨rfl, g4⟩ := g4
    rw [if_neg (by decide)] at g4
    refine ⟨_, xk_mem hd hl rfl rfl rfl rfl rfl (xsc_n (fun ys => rfl)) (q := (st1, xj_put M r (.inr (.inl (p.1, p.2.1, updV p.2.2 j (narrow (xj_kty p.1) (.int y))))))) ?_, hn⟩
    simp only [xj_mem, xj_as, xj_okn, g2, g3]
    rw [if_pos g4, g4]; rfl
  case bastore =>
    cases hq
    obtain ⟨w, x, r, st1, p, j, w', rfl, g2, g3, hn, g4⟩ := xG6_ok (nx := pc + len) hN hlv hs hA (by omega)
    rw [if_neg (by decide), if_neg (by decide)] at g4
    obtain ⟨y, rfl, g4⟩ := g4
    rw [if_neg (by decide)] at g4
    obtain ⟨rfl, g4⟩ := g4
    rw [if_pos rfl] at g4
    refine ⟨_, xk_mem hd hl rfl rfl rfl rfl rfl (xsc_n (fun ys => rfl)) (q := (st1, xj_put M r (.inr (.inl (p.1, p.2.1, updV p.2.2 j (narrow (xj_kty p.1) (.int y))))))) ?_, hn⟩
    simp only [xj_mem, xj_as, xj_okn, g2, g3]
    by_cases e : p.1 = 1
    · rw [if_pos e, e]; rfl
    · have e0 : p.1 = 0 := by omega
      rw [if_neg e, if_pos e0, e0]; rfl
  case aastore =>
    cases hq
    obtain ⟨w, x, r, st1, p, j, w', rfl, g2, g3, hn, g4⟩ := xG6_ok (nx := pc + len) hN hlv hs hA (by omega)
    rw [if_pos rfl] at g4
    obtain ⟨rfl, g4, rfl | ⟨v, o, rfl, g5, g6⟩⟩ := g4
    · refine ⟨_, xk_mem hd hl rfl rfl rfl rfl rfl (xsc_n (fun ys => rfl)) (q := (st1, xj_put M r (.inr (.inl (p.1, p.2.1, updV p.2.2 j .null))))) ?_, hn⟩
      simp only [xj_mem, xj_aa, g2, g3]
      rw [if_pos g4]
    · refine ⟨_, xk_mem hd hl rfl rfl rfl rfl rfl (xsc_n (fun ys => rfl)) (q := (st1, xj_put M r (.inr (.inl (p.1, p.2.1, updV p.2.2 j (.ref v)))))) ?_, hn⟩
      simp only [xj_mem, xj_aa, g2, g3, g5]
      rw [if_pos g6]
  case goto off =>
    obtain ⟨t, ht, hq⟩ := xo_tg_inv hq
    cases hq
    exact ⟨_, xk_jmp hd hl rfl rfl (q := ((off, true), st)) rfl (xJ ht), xNr_go hN hlv hs hA⟩
  case ifnull off =>
    obtain ⟨t, ht, hq⟩ := xo_tg_inv hq
    cases hq
    replace hN : xG7 1 t (pc + len) lv' st' A = some N := hN
    simp only [xG7] at hN
    split at hN
    · rename_i x r
      obtain ⟨w, ws, rfl, hw, hws⟩ := xvs_c hs
      cases c1 : Nat.beq x.1 3 with
      | true =>
        rw [c1, xif_t] at hN
        cases xv_n hw (xbeq c1)
        exact ⟨_, xk_jmp hd hl rfl rfl (q := ((off, true), ws)) rfl (xJ ht), xNr_go hN hlv hws hA⟩
      | false =>
        rw [c1, xif_f] at hN
        obtain ⟨c2, hN⟩ := xif_some hN
        cases xv_r hw (xbeq c2)
        exact ⟨_, xk_jmp hd hl rfl rfl (q := ((off, false), ws)) rfl (xJ ht), xNr_go hN hlv hws hA⟩
    · cases hN
  case ifnonnull off =>
    obtain ⟨t, ht, hq⟩ := xo_tg_inv hq
    cases hq
    replace hN : xG7 2 t (pc + len) lv' st' A = some N := hN
    simp only [xG7] at hN
    split at hN
    · rename_i x r
      obtain ⟨w, ws, rfl, hw, hws⟩ := xvs_c hs
      cases c1 : Nat.beq x.1 3 with
      | true =>
        rw [c1, xif_t] at hN
        cases xv_n hw (xbeq c1)
        exact ⟨_, xk_jmp hd hl rfl rfl (q := ((off, false), ws)) rfl (xJ ht), xNr_go hN hlv hws hA⟩
      | false =>
        rw [c1, xif_f] at hN
        obtain ⟨c2, hN⟩ := xif_some hN
        cases xv_r hw (xbeq c2)
        exact ⟨_, xk_jmp hd hl rfl rfl (q := ((off, true), ws)) rfl (xJ ht), xNr_go hN hlv hws hA⟩
    · cases hN
  case iadd => cases hq; exact xs_i2 hd hl (fun _ => rfl) rfl hN hlv hs hA
  case isub => cases hq; exact xs_i2 hd hl (fun _ => rfl) rfl hN hlv hs hA
  case imul => cases hq; exact xs_i2 hd hl (fun _ => rfl) rfl hN hlv hs hA
  case iand => cases hq; exact xs_i2 hd hl (fun _ => rfl) rfl hN hlv hs hA
  case ior => cases hq; exact xs_i2 hd hl (fun _ => rfl) rfl hN hlv hs hA
  case ishl => cases hq; exact xs_i2 hd hl (fun _ => rfl) rfl hN hlv hs hA
  case ishr => cases hq; exact xs_i2 hd hl (fun _ => rfl) rfl hN hlv hs hA
  case iushr => cases hq; exact xs_i2 hd hl (fun _ => rfl) rfl hN hlv hs hA
  case irem =>
    cases hq
    obtain ⟨x, y, r, rfl, g1, hn⟩ := xG8_8 (nx := pc + len) hN hlv hs hA
    exact ⟨_, xk_pure hd hl (by simp only [xj_pure, xj_d2]; rw [if_neg g1]), hn⟩
  case i2b =>
    cases hq
    obtain ⟨x, r, rfl, hn⟩ := xG9_0 (nx := pc + len) hN hlv hs hA
    exact ⟨_, xk_pure hd hl rfl, hn⟩
  case i2c =>
    cases hq
    obtain ⟨x, r, rfl, hn⟩ := xG9_1 (nx := pc + len) hN hlv hs hA
    exact ⟨_, xk_pure hd hl rfl, hn⟩
  case i2l =>
    cases hq
    obtain ⟨x, r, rfl, hn⟩ := xG9_2 (nx := pc + len) hN hlv hs hA
    exact ⟨_, xk_pure hd hl rfl, hn⟩
  case ladd => cases hq; exact xs_l2 hd hl (fun _ => rfl) rfl rfl rfl hN hlv hs hA
  case lmul => cases hq; exact xs_l2 hd hl (fun _ => rfl) rfl rfl rfl hN hlv hs hA
  case land => cases hq; exact xs_l2 hd hl (fun _ => rfl) rfl rfl rfl hN hlv hs hA
  case lcmp =>
    cases hq
    obtain ⟨x, y, r, rfl, hn⟩ := xG9_6 (nx := pc + len) hN hlv hs hA
    exact ⟨_, xk_pure hd hl rfl, hn⟩
  case lshr =>
    cases hq
    obtain ⟨x, y, r, rfl, hn⟩ := xG9_7 (nx := pc + len) hN hlv hs hA
    exact ⟨_, xk_pure hd hl rfl, hn⟩
  case dup =>
    cases hq
    obtain ⟨x, r, rfl, g1, hn⟩ := xG10_0 (nx := pc + len) hN hlv hs hA
    exact ⟨_, xk_pure hd hl (by simp only [xj_pure, xj_du]; rw [if_pos g1]), hn⟩
  case dup2 =>
    cases hq
    obtain ⟨x, y, r, rfl, g1, g2, hn⟩ := xG10_1 (nx := pc + len) hN hlv hs hA
    exact ⟨_, xk_pure hd hl (by simp only [xj_pure, xj_dd]; rw [if_pos ⟨g1, g2⟩]), hn⟩
  case return_ =>
    simp only [xo_ins] at hq
    split at hq
    · rename_i hr
      cases hq
      obtain ⟨rfl, hn⟩ := xG11_0 (a := 0) (b := 0) hN hs hA
      exact ⟨_, xk_ret hd hl rfl rfl rfl rfl rfl (xsc_n (fun _ => rfl)) rfl rfl (by simp only [xj_ret, hr]), hn⟩
    · cases hq
  case ireturn =>
    simp only [xo_ins] at hq
    split at hq
    · rename_i hr
      cases hq
      obtain ⟨x, rfl, g1, g2, hn⟩ := xG11_1 hN hs hA
      exact ⟨_, xk_ret hd hl rfl rfl rfl rfl rfl (xsc_n (fun _ => rfl)) rfl rfl (by simp only [xj_ret, hr, xj_ireturn, narrow, if_true]), hn⟩
    · rename_i hr
      cases hq
      obtain ⟨x, rfl, g1, g2, hn⟩ := xG11_1 hN hs hA
      refine ⟨_, xk_ret hd hl rfl rfl rfl rfl rfl (xsc_n (fun _ => rfl)) rfl rfl (v := some (.int x)) ?_, hn⟩
      simp only [xj_ret, hr, xj_ireturn]
      rcases xnar1 g1 g2 with rfl | rfl <;> rfl
    · rename_i hr
      cases hq
      obtain ⟨x, rfl, g1, g2, hn⟩ := xG11_1 hN hs hA
      refine ⟨_, xk_ret hd hl rfl rfl rfl rfl rfl (xsc_n (fun _ => rfl)) rfl rfl (v := some (.int x)) ?_, hn⟩
      simp only [xj_ret, hr, xj_ireturn, narrow]
      rw [xchar g1 g2, if_pos rfl]
    · cases hq
  case lreturn =>
    simp only [xo_ins] at hq
    split at hq
    · rename_i hr
      cases hq
      obtain ⟨x, rfl, hn⟩ := xG11_2 (a := 0) (b := 0) hN hs hA
      exact ⟨_, xk_ret hd hl rfl rfl rfl rfl rfl (xsc_n (fun _ => rfl)) rfl rfl (by simp only [xj_ret, hr, xj_lreturn, if_true]), hn⟩
    · cases hq
  case areturn =>
    simp only [xo_ins] at hq
    split at hq
    · rename_i t hr
      obtain ⟨ht, rfl⟩ := xo_if_inv hq
      obtain ⟨x, rfl, g1, hn⟩ := xG11_3 (a := 0) (b := 0) hN hs hA
      refine ⟨_, xk_ret hd hl rfl rfl rfl rfl rfl (xsc_n (fun _ => rfl)) rfl rfl (v := some x) ?_, hn⟩
      simp only [xj_ret, hr, xj_areturn]
      rcases g1 with rfl | ⟨p, rfl⟩
      · simp only [ht, if_true]
      · simp only [ht, if_true]
    · cases hq
  case invokevirtual i =>
    simp only [xo_ins] at hq
    split at hq
    · rename_i k hy
      cases hq
      obtain ⟨p, r, x, rfl, g1, g2, g3, g4, hn⟩ := xG13_2 (nx := pc + len) hN hlv hs hA
      refine ⟨_, xk_mk hd hl rfl rfl rfl rfl rfl (xsc_n (fun _ => rfl)) rfl (q := (.ref (xj_nx M) :: r, xj_new M (.inr (.inl x)) x.2.1)) ?_, hn⟩
      simp only [xj_mk, hy, xj_cl, g1]
      rw [if_pos ⟨g2, g3, g4⟩]
    · cases hq
    · rename_i hy
      have hmk : xj_mk row.1 (.invokevirtual i) st M = none := by simp only [xj_mk, hy]
      split at hq
      · rename_i j hc
        obtain ⟨r, r1, r2, r3, rfl⟩ := xo_call_inv hq
        obtain ⟨p, rest, g1, g2, g3, g4, g5, N', n1, n2⟩ := xG12_x hcall hh (Or.inl rfl) hN hlv hs hA
        obtain ⟨o, ci, l', e, g6, g7⟩ := g4 rfl
        cases e
        refine ⟨N', ?_, n2⟩
        rw [xk_tgt hd hl rfl rfl rfl rfl rfl (xsc_n (fun _ => rfl)) rfl hmk rfl rfl (q := (j, .ref p :: (st.take r.2.2.2.2.2.1).reverse, rest)) (by
          simp only [xj_tgt, hc, xj_tV, r1, g1, g6]
          rw [if_pos ⟨g7, r3 rfl, g2, g3⟩])]
        exact n1
      · rename_i j hc
        obtain ⟨r, r1, r2, r3, rfl⟩ := xo_call_inv hq
        obtain ⟨p, rest, g1, g2, g3, g4, g5, N', n1, n2⟩ := xG12_x hcall hh (Or.inl rfl) hN hlv hs hA
        obtain ⟨o, ci, l', e, g6, g7⟩ := g4 rfl
        cases e
        refine ⟨N', ?_, n2⟩
        rw [xk_tgt hd hl rfl rfl rfl rfl rfl (xsc_n (fun _ => rfl)) rfl hmk rfl rfl (q := (1000 + j, .ref p :: (st.take r.2.2.2.2.2.1).reverse, rest)) (by
          simp only [xj_tgt, hc, xj_tV, r1, g1, g6]
          rw [if_pos ⟨g7, r3 rfl, g2, g3⟩])]
        exact n1
      · rename_i j hc
        obtain ⟨r, r1, r2, r3, rfl⟩ := xo_call_inv hq
        obtain ⟨p, rest, g1, g2, g3, g4, g5, N', n1, n2⟩ := xG12_x hcall hh (Or.inr (Or.inr rfl)) hN hlv hs hA
        refine ⟨N', ?_, n2⟩
        rw [xk_tgt hd hl rfl rfl rfl rfl rfl (xsc_n (fun _ => rfl)) rfl hmk rfl rfl (q := (j, .ref p :: (st.take r.2.2.2.2.2.1).reverse, rest)) (by
          simp only [xj_tgt, hc, xj_tW, r1, g1]
          rw [if_pos ⟨(g5 rfl).1, (g5 rfl).2, g2, g3⟩])]
        exact n1
      · cases hq
  case invokespecial i =>
    simp only [xo_ins] at hq
    split at hq
    · rename_i k hc
      cases hq
      obtain ⟨p, r, rfl, g1, hn⟩ := xG15_0 (nx := pc + len) hN hlv hs hA
      refine ⟨_, xk_mac hd hl rfl rfl rfl rfl rfl (xsc_n (fun _ => rfl)) rfl rfl rfl (st' := r) ?_, hn⟩
      simp only [xj_mac, hc, List.drop_succ_cons, List.drop_zero]
      rw [if_pos g1]; rfl
    · rename_i j hc
      obtain ⟨r, r1, r2, r3, rfl⟩ := xo_call_inv hq
      obtain ⟨p, rest, g1, g2, g3, g4, g5, N', n1, n2⟩ := xG12_x hcall hh (Or.inr (Or.inl rfl)) hN hlv hs hA
      refine ⟨N', ?_, n2⟩
      rw [xk_tgt hd hl rfl rfl rfl rfl rfl (xsc_n (fun _ => rfl)) rfl rfl rfl (by simp only [xj_mac, hc]) (q := (j, .ref p :: (st.take r.2.2.2.2.2.1).reverse, rest)) (by
        simp only [xj_tgt, hc, xj_tI, r1, g1]
        rw [if_pos ⟨g2, r2 rfl, g3⟩])]
      exact n1
    · rename_i j hc
      obtain ⟨r, r1, r2, r3, rfl⟩ := xo_call_inv hq
      obtain ⟨p, rest, g1, g2, g3, g4, g5, N', n1, n2⟩ := xG12_x hcall hh (Or.inr (Or.inl rfl)) hN hlv hs hA
      refine ⟨N', ?_, n2⟩
      rw [xk_tgt hd hl rfl rfl rfl rfl rfl (xsc_n (fun _ => rfl)) rfl rfl rfl (by simp only [xj_mac, hc]) (q := (j, .ref p :: (st.take r.2.2.2.2.2.1).reverse, rest)) (by
        simp only [xj_tgt, hc, xj_tI, r1, g1]
        rw [if_pos ⟨g2, r2 rfl, g3⟩])]
      exact n1
    · cases hq
  case invokestatic i =>
    simp only [xo_ins] at hq
    split at hq
    · cases hq
    · rename_i hy
      have hm : xj_mem row.1 row.2.2.2.2.2.2.1 (.invokestatic i) st M = none := by simp only [xj_mem, hy]
      split at hq
      · rename_i j hc
        obtain ⟨r, r1, r2, r3, rfl⟩ := xo_call_inv hq
        obtain ⟨g1, g2, N', n1, n2⟩ := xG12_2 hcall hh hN hlv hs hA
        refine ⟨N', ?_, n2⟩
        rw [xk_tgt hd hl rfl rfl rfl rfl rfl (xsc_n (fun _ => rfl)) hm rfl rfl (by simp only [xj_mac, hc]) (q := (j, (st.take r.2.2.2.2.2.1).reverse, st.drop r.2.2.2.2.2.1)) (by
          simp only [xj_tgt, hc, xj_tS, r1]
          rw [if_pos ⟨g1, g2⟩])]
        simp only [xj_nt, hc]
        exact n1
      · rename_i j hc
        obtain ⟨r, r1, r2, r3, rfl⟩ := xo_call_inv hq
        obtain ⟨g1, g2, N', n1, n2⟩ := xG12_2 hcall hh hN hlv hs hA
        refine ⟨N', ?_, n2⟩
        rw [xk_tgt hd hl rfl rfl rfl rfl rfl (xsc_n (fun _ => rfl)) hm rfl rfl (by simp only [xj_mac, hc]) (q := (1000 + j, (st.take r.2.2.2.2.2.1).reverse, st.drop r.2.2.2.2.2.1)) (by
          simp only [xj_tgt, hc, xj_tS, r1]
          rw [if_pos ⟨g1, g2⟩])]
        simp only [xj_nt, hc]
        exact n1
      · cases hq
  case new i =>
    simp only [xo_ins] at hq
    split at hq
    · rename_i ci hc
      split at hq
      · rename_i r hr
        split at hq
        · rename_i l hl2
          cases hq
          have hn := xG13_0 (nx := pc + len) (xo_tcs_ok ci _ _ hl2) hN hlv hs hA
          exact ⟨_, xk_mk hd hl rfl rfl rfl rfl rfl (xsc_n (fun _ => rfl)) rfl (by simp only [xj_mk, xj_nw, hc, hr]), hn⟩
        · cases hq
      · cases hq
    · rename_i hc
      split at hq
      · rename_i k hk
        cases hq
        obtain ⟨rfl, rfl, g2, hn⟩ := xG15_2 (lv' := lv') (nx := pc + len) hN hs hA
        refine ⟨_, ?_, hn⟩
        rw [xk_thr hd hl rfl rfl rfl rfl rfl (xsc_n (fun _ => rfl)) rfl (by simp only [xj_mk, xj_nw, hc]) rfl rfl rfl rfl]
        have hX : X.1 = none := hh
        simp only [xj_thr]
        rw [if_pos ⟨by rw [hX]; rfl, g2, rfl⟩, hk]
      · cases hq
  case newarray t =>
    simp only [xo_ins] at hq
    split at hq
    · rename_i k hk
      cases hq
      have hv : xv (xdf (if k = 4 then 1 else 0)) (defaultValue (xj_kty k)) := by
        cases t <;> cases hk
        · exact xdf_ok (ty := .boolean) (t := 3) rfl
        · exact xdf_ok (ty := .boolean) (t := 3) rfl
        · exact xdf_ok (ty := .boolean) (t := 3) rfl
        · exact xdf_ok (ty := .int) (t := 0) rfl
        · exact xdf_ok (ty := .long) (t := 1) rfl
      obtain ⟨n, r, rfl, g1, g2, hn⟩ := xG13_1 (nx := pc + len) hv hN hlv hs hA
      have hb : componentBytes (xj_kty k) ≤ 8 := by
        cases t <;> cases hk <;> decide
      refine ⟨_, xk_mk hd hl rfl rfl rfl rfl rfl (xsc_n (fun _ => rfl)) rfl (q := (.ref (xj_nx M) :: r, xj_new M (.inr (.inl (k, n.toNatClampNeg, fun _ => defaultValue (xj_kty k)))) n.toNatClampNeg)) ?_, hn⟩
      have hmul : n.toNatClampNeg * componentBytes (xj_kty k) ≤ 131072 * 8 := Nat.mul_le_mul g2 hb
      simp only [xj_mk, xj_na, hk]
      rw [if_neg (by rintro (z | z); exact g1 z; omega)]
    · cases hq
  case anewarray i =>
    simp only [xo_ins] at hq
    split at hq
    · rename_i ci hc
      cases hq
      obtain ⟨n, r, rfl, g1, g2, hn⟩ := xG13_1 (nx := pc + len) (dv := .null) rfl hN hlv hs hA
      refine ⟨_, xk_mk hd hl rfl rfl rfl rfl rfl (xsc_n (fun _ => rfl)) rfl (q := (.ref (xj_nx M) :: r, xj_new M (.inr (.inl (ci + 5, n.toNatClampNeg, fun _ => .null))) n.toNatClampNeg)) ?_, hn⟩
      simp only [xj_mk, xj_an, hc]
      rw [if_neg (by rintro (z | z); exact g1 z; omega)]
    · cases hq
  case checkcast i =>
    simp only [xo_ins] at hq
    split at hq
    · rename_i k hy
      cases hq
      obtain ⟨p, r, x, rfl, g1, g2, hn⟩ := xG13_3 (nx := pc + len) hN hlv hs hA
      refine ⟨_, xk_mem hd hl rfl rfl rfl rfl rfl (xsc_n (fun _ => rfl)) (q := (.ref p :: r, M)) ?_, hn⟩
      simp only [xj_mem, hy, xj_cc, g1]
      rw [if_pos g2]
    · cases hq
  case arraylength =>
    cases hq
    obtain ⟨p, r, n, rfl, hn, ⟨g1, x, g2, rfl⟩ | ⟨rfl, ys, g2, rfl⟩ | ⟨g1, g2, rfl⟩⟩ := xG13_4 hS (nx := pc + len) (Nat.le_refl _) hN hlv hs hA
    · refine ⟨_, xk_mem hd hl rfl rfl rfl rfl (by simp only [xj_fx]; rw [if_neg (fun z => by omega)]) (xsc_n (fun ys => ?_)) (q := (.int (Int32.ofNat x.2.1) :: r, M)) (by simp only [xj_mem, xj_ln, g2]), hn⟩
      obtain ⟨p, rfl⟩ : ∃ k, p = k + 1 := ⟨p - 1, by omega⟩
      rfl
    · exact ⟨_, xk_sc hd hl rfl rfl rfl rfl rfl (by rw [g2]; simp only [xj_sc]), hn⟩
    · exact ⟨_, xk_fx hd hl rfl rfl rfl rfl (by simp only [xj_fx]; rw [if_pos ⟨g1, g2⟩]), hn⟩
  case tableswitch d lo hi offs =>
    obtain ⟨b, hb, hq⟩ := xo_tg_inv hq
    split at hq
    · rename_i l hl2
      split at hq
      · rename_i hc
        cases hq
        obtain ⟨p, t, r, g1, g2, hn⟩ := xG14_ok hb hl2 hc.1 hc.2 rfl hN hlv hs hA
        exact ⟨_, xk_jmp hd hl rfl rfl (q := ((p, true), r)) g1 (xJ g2), hn⟩
      · cases hq
    · cases hq
  all_goals cases hq
theorem xo_of_inv (hq : xo_of row pc = some q) : ∃ ins len, decode row.2.2.1 pc = .ok (ins, len) ∧ xj_lenok ins len = true ∧ xo_ins row pc len ins = some q := by
  unfold xo_of at hq
  split at hq
  · rename_i ins len hd
    split at hq
    · rename_i hl
      exact ⟨ins, len, hd, hl, hq⟩
    · cases hq
  · cases hq
end
/-- a method's record is that of its row -/
def xrok (row : xj_mR) (T : xj_H) (m : xmt) : Prop := m.2.1 = row.2.2.2.1 ∧ m.1 ≤ 18 ∧ xhr row T m.2.2.1 ∧ ∀ r ∈ m.2.2.2, xo_of row r.1 = some r.2
theorem xat_ok : ∀ (l : List (Nat × xo)) (pc : Nat) (q : xo), xat l pc = some q → (pc, q) ∈ l := by
  intro l
  induction l with
  | nil => intro pc q h; cases h
  | cons r l ih =>
    intro pc q h
    have h : xif (Nat.beq r.1 pc) (some r.2) (xat l pc) = some q := h
    cases c : Nat.beq r.1 pc with
    | true =>
      rw [c, xif_t] at h
      cases h
      have := xbeq c
      obtain ⟨r1, r2⟩ := r
      simp only at this
      subst this
      exact List.mem_cons_self
    | false =>
      rw [c, xif_f] at h
      exact List.mem_cons_of_mem _ (ih pc q h)
def xKr (K : xKa) (K' : xj_K) : Prop := K.1 = K'.1 ∧ xlr K.2.1 K'.2.1 ∧ xvs K.2.2.1 K'.2.2.1 ∧ xmr K.2.2.2 K'.2.2.2
section
variable {call : xj_F} {ac : xFa} {X : xj_X} {row : xj_mR} {S : Option (List xa)} {m : xmt}
theorem xone_ok (hcall : xcok call ac) (hS : xsr S X.2.2) (hm : xrok row X.1 m) {K : xKa} {K' : xj_K} {N : xNa} (hK : xKr K K') (hN : xone ac X.2.1 S m K = some N) : ∃ N', xj_step call X row K' = some N' ∧ xNr N N' := by
  obtain ⟨pc, lv', st', A⟩ := K
  obtain ⟨pc', lv, st, M⟩ := K'
  obtain ⟨e, h1, h2, h3⟩ := hK
  simp only at e h1 h2 h3
  subst e
  simp only [xone] at hN
  split at hN
  · rename_i q hq
    obtain ⟨ins, len, d1, d2, d3⟩ := xo_of_inv (hm.2.2.2 _ (xat_ok _ _ _ hq))
    exact xst_ok hcall hS hm.2.2.1 d1 d2 d3 h1 h2 h3 hN
  · cases hN
theorem xrun_s (d k : Nat) (K : xKa) : xrun ac d S m (k + 1) K = match xrun ac d S m k K with | some (.inl K2) => xrun ac d S m k K2 | r => r := rfl
theorem xrun_ok (hcall : xcok call ac) (hS : xsr S X.2.2) (hm : xrok row X.1 m) : ∀ (k : Nat) (K : xKa) (K' : xj_K) (N : xNa), xKr K K' → xrun ac X.2.1 S m k K = some N →
    ∃ z, z ≤ 2 ^ k ∧ match N with
      | .inl K2 => ∃ K2', xKr K2 K2' ∧ ∀ n, xj_loop call X row (n + z) K' = xj_loop call X row n K2'
      | .inr r => ∃ r' M', xrr r.1 r' ∧ xmr r.2 M' ∧ ∀ n, xj_loop call X row (n + z) K' = some (r', M') := by
  intro k
  induction k with
  | zero =>
    intro K K' N hK hN
    obtain ⟨N', h1, h2⟩ := xone_ok hcall hS hm hK hN
    refine ⟨1, Nat.le_refl _, ?_⟩
    cases N with
    | inl K2 =>
      obtain ⟨lv, st, M, rfl, g1, g2, g3⟩ := h2
      refine ⟨(K2.1, lv, st, M), ⟨rfl, g1, g2, g3⟩, fun n => ?_⟩
      show (match xj_step call X row K' with | some (.inl K2) => xj_loop call X row n K2 | some (.inr r) => some r | none => none) = _
      rw [h1]
    | inr r =>
      obtain ⟨r', M', rfl, g1, g2⟩ := h2
      refine ⟨r', M', g1, g2, fun n => ?_⟩
      show (match xj_step call X row K' with | some (.inl K2) => xj_loop call X row n K2 | some (.inr r) => some r | none => none) = _
      rw [h1]
  | succ k ih =>
    intro K K' N hK hN
    rw [xrun_s] at hN
    have e2 : (2 : Nat) ^ (k + 1) = 2 ^ k + 2 ^ k := by rw [Nat.pow_succ]; omega
    cases hr : xrun ac X.2.1 S m k K with
    | none => rw [hr] at hN; cases hN
    | some N1 =>
      rw [hr] at hN
      obtain ⟨z, hz, h1⟩ := ih K K' N1 hK hr
      cases N1 with
      | inl K2 =>
        simp only at hN h1
        obtain ⟨K2', h2, h3⟩ := h1
        obtain ⟨z2, hz2, h4⟩ := ih K2 K2' N h2 hN
        refine ⟨z2 + z, by omega, ?_⟩
        cases N with
        | inl K3 =>
          obtain ⟨K3', g1, g2⟩ := h4
          exact ⟨K3', g1, fun n => by rw [← Nat.add_assoc, h3, g2]⟩
        | inr r =>
          obtain ⟨r', M', g1, g2, g3⟩ := h4
          exact ⟨r', M', g1, g2, fun n => by rw [← Nat.add_assoc, h3, g3]⟩
      | inr r =>
        simp only at hN
        cases hN
        exact ⟨z, by omega, h1⟩
end
/-- the records are right -/
def xpok (P : Nat → Option xmt) : Prop := ∀ j m, P j = some m → ∃ row, xj_row j = some row ∧ xrok row (xj_tab j) m
theorem lg_sl_sum : ∀ vs : List Value, (∀ v ∈ vs, v.category = 1 ∨ v.category = 2) → (lg_sl vs).length = (vs.map fun v => v.category).sum := by
  intro vs
  induction vs with
  | nil => intro _; rfl
  | cons v vs ih =>
    intro h
    have := ih (fun w hw => h w (List.mem_cons_of_mem _ hw))
    simp only [lg_sl, List.flatMap_cons, List.length_append, List.map_cons, List.sum_cons] at this ⊢
    rw [this]
    rcases h v List.mem_cons_self with e | e <;> rw [e] <;> simp
theorem xvs_cat : ∀ (as : List xa) (vs : List Value), xvs as vs → ∀ v ∈ vs, v.category = 1 ∨ v.category = 2 := by
  intro as
  induction as with
  | nil => intro vs h v hv; rw [xvs_n h] at hv; cases hv
  | cons a as ih =>
    intro vs h v hv
    obtain ⟨w, ws, rfl, hw, hws⟩ := xvs_c h
    rcases List.mem_cons.mp hv with rfl | hv
    · rw [xv_cat hw]; split
      · exact Or.inr rfl
      · exact Or.inl rfl
    · exact ih ws hws v hv
theorem xcall_s (P : Nat → Option xmt) (d j : Nat) (as : List xa) (A : xme) : xcall P (d + 1) j as A = match P j with
    | some m => xif (Nat.ble (xsum as) m.2.1) (match xrun (xcall P d) d none m m.1 (0, xl_args as, [], A) with | some (.inr r) => some r | _ => none) none
    | none => none := rfl
/-- WHATEVER THE ABSTRACT MACHINE ANSWERS, THE INTERPRETER ANSWERS -/
theorem xcall_ok {P : Nat → Option xmt} (hP : xpok P) {n : Nat} (hn : 262144 ≤ n) : ∀ d, xcok (xj_call n d) (xcall P d) := by
  intro d
  induction d with
  | zero => intro j as A r B vs M h; cases h
  | succ d ih =>
    intro j as A r B vs M h hv hA
    rw [xcall_s] at h
    split at h
    · rename_i m hm
      obtain ⟨row, r1, r2⟩ := hP j m hm
      obtain ⟨c, h⟩ := xif_some h
      have c := xble c
      split at h
      · rename_i q hq
        cases h
        have hS : xsr none ((xj_tab j, d, (none : Option (List Int32))) : xj_X).2.2 := fun bx e => by cases e
        obtain ⟨z, hz, h1⟩ := xrun_ok (X := (xj_tab j, d, none)) ih hS r2 m.1 _ (0, lv_args 0 vs, [], M) _ ⟨rfl, xlr_args hv, trivial, hA⟩ hq
        obtain ⟨r', M', g1, g2, g3⟩ := h1
        refine ⟨r', M', ?_, g1, g2⟩
        have hz2 : z ≤ 262144 := Nat.le_trans hz (Nat.pow_le_pow_right (by decide) r2.2.1)
        have hlen : (lg_sl vs).length ≤ row.2.2.2.1 := by
          rw [lg_sl_sum vs (xvs_cat _ _ hv), xsum_ok _ _ hv, ← r2.1]; exact c
        unfold xj_call
        rw [r1]
        simp only
        rw [if_pos hlen]
        have := g3 (n - z)
        rw [show n - z + z = n by omega] at this
        exact this
      · cases h
    · cases h
