section
variable {call : xj_F} {ac : xFa} {X : xj_X} {row : xj_mR} {S : Option (List xa)} {h : xha} {pc len : Nat} {q : xo} {lv' st' : List xa} {A : xme} {lv : xj_L} {st : List Value} {M : xj_M} {N : xNa}
set_option maxHeartbeats 4000000 in
theorem xst_ok (hcall : xcok call ac) (hS : xsr S X.2.2) (hh : xhr row X.1 h) {ins : Instr} (hd : decode row.2.2.1 pc = .ok (ins, len)) (hl : xj_lenok ins len = true) (hq : xo_ins row pc len ins = some q) (hlv : xlr lv' lv) (hs : xvs st' st) (hA : xmr A M)
    (hN : xst ac X.2.1 S h q pc lv' st' A = some N) : ∃ N', xj_step call X row (pc, lv, st, M) = some N' ∧ xNr N N' := by
  cases ins
  case aconst_null => cases hq; rw [xst_g0] at hN; exact xs_c hd hl rfl rfl hN hlv hs hA
  case iconst n => cases hq; rw [xst_g0] at hN; exact xs_c hd hl rfl (xv_ci _) hN hlv hs hA
  case bipush n => cases hq; rw [xst_g0] at hN; exact xs_c hd hl rfl (xv_ci _) hN hlv hs hA
  case sipush n => cases hq; rw [xst_g0] at hN; exact xs_c hd hl rfl (xv_ci _) hN hlv hs hA
  case lconst n => cases hq; rw [xst_g0] at hN; exact xs_c hd hl rfl (xv_cl _) hN hlv hs hA
  case ldc i =>
    simp only [xo_ins] at hq
    split at hq
    · rename_i v hv
      cases hq
      rw [xst_g0] at hN
      exact ⟨_, xk_ct hd hl rfl rfl rfl (st' := .int v :: st) (by simp only [xj_ct, hv]), xNr_go hN hlv (st := .int v :: st) ⟨xv_ci _, hs⟩ hA⟩
    · rename_i hv
      split at hq
      · rename_i k hk
        cases hq
        rw [xst_g0] at hN
        exact ⟨_, xk_fx hd hl rfl rfl rfl (by simp only [xj_ct, hv]) (st' := .ref (k + 1) :: st) (by simp only [xj_fx, hk]), xNr_go hN hlv (st := .ref (k + 1) :: st) ⟨⟨rfl, rfl⟩, hs⟩ hA⟩
      · cases hq
  case ldc_w i =>
    simp only [xo_ins] at hq
    split at hq
    · rename_i v hv
      cases hq
      rw [xst_g0] at hN
      exact ⟨_, xk_ct hd hl rfl rfl rfl (st' := .int v :: st) (by simp only [xj_ct, hv]), xNr_go hN hlv (st := .int v :: st) ⟨xv_ci _, hs⟩ hA⟩
    · rename_i hv
      split at hq
      · rename_i k hk
        cases hq
        rw [xst_g0] at hN
        exact ⟨_, xk_fx hd hl rfl rfl rfl (by simp only [xj_ct, hv]) (st' := .ref (k + 1) :: st) (by simp only [xj_fx, hk]), xNr_go hN hlv (st := .ref (k + 1) :: st) ⟨⟨rfl, rfl⟩, hs⟩ hA⟩
      · cases hq
  case ldc2_w i =>
    simp only [xo_ins] at hq
    split at hq
    · rename_i v hv
      cases hq
      rw [xst_g0] at hN
      exact ⟨_, xk_ct hd hl rfl rfl rfl (st' := .long v :: st) (by simp only [xj_ct, hv]), xNr_go hN hlv (st := .long v :: st) ⟨xv_cl _, hs⟩ hA⟩
    · cases hq
  case getstatic i =>
    simp only [xo_ins] at hq
    split at hq
    · rename_i hc
      cases hq
      rw [xst_g0] at hN
      exact ⟨_, xk_fx hd hl rfl rfl rfl rfl (st' := .int 1 :: st) (by simp only [xj_fx]; rw [if_pos hc]), xNr_go hN hlv (st := .int 1 :: st) ⟨xv_ci _, hs⟩ hA⟩
    · rename_i hc0
      split at hq
      · rename_i hc
        split at hq
        · rename_i j d3 d6
          obtain ⟨hj, rfl⟩ := xo_if_inv hq
          rw [xst_g15] at hN
          have hj := of_decide_eq_true hj
          obtain ⟨n, x, r, rfl, g1, g2, g3, g4, hn⟩ := xG15_1 (nx := pc + 7) hN hlv hs hA
          refine ⟨_, xk_chk hd hl rfl rfl rfl rfl (by simp only [xj_fx]; rw [if_neg hc0]) (xsc_n (fun _ => rfl)) rfl rfl rfl rfl rfl ?_, hn⟩
          simp only [xj_chk]
          rw [if_pos ⟨hc.1, hc.2, g3⟩, d3, d6]
          simp only [hj, if_true]
          rw [if_pos ⟨g1, g2, g4⟩]
        · cases hq
      · cases hq
  case iload i =>
    cases hq
    rw [xst_g1] at hN
    obtain ⟨x, h1, hn⟩ := xG1_0 (nx := pc + len) hN hlv hs hA
    exact ⟨_, xk_loc hd hl rfl (q := (lv, .int x :: st)) (by simp only [xj_loc, xj_ldi, h1]), hn⟩
  case iload_n i =>
    cases hq
    rw [xst_g1] at hN
    obtain ⟨x, h1, hn⟩ := xG1_0 (nx := pc + len) hN hlv hs hA
    exact ⟨_, xk_loc hd hl rfl (q := (lv, .int x :: st)) (by simp only [xj_loc, xj_ldi, h1]), hn⟩
  case lload i =>
    cases hq
    rw [xst_g1] at hN
    obtain ⟨x, h1, hn⟩ := xG1_1 (nx := pc + len) hN hlv hs hA
    exact ⟨_, xk_loc hd hl rfl (q := (lv, .long x :: st)) (by simp only [xj_loc, xj_ldl, h1]), hn⟩
  case lload_n i =>
    cases hq
    rw [xst_g1] at hN
    obtain ⟨x, h1, hn⟩ := xG1_1 (nx := pc + len) hN hlv hs hA
    exact ⟨_, xk_loc hd hl rfl (q := (lv, .long x :: st)) (by simp only [xj_loc, xj_ldl, h1]), hn⟩
  case aload i =>
    cases hq
    rw [xst_g1] at hN
    obtain ⟨x, h1, h2, hn⟩ := xG1_2 (nx := pc + len) hN hlv hs hA
    exact ⟨_, xk_loc hd hl rfl (by simp only [xj_loc]; exact xs_lda h1 h2), hn⟩
  case aload_n i =>
    cases hq
    rw [xst_g1] at hN
    obtain ⟨x, h1, h2, hn⟩ := xG1_2 (nx := pc + len) hN hlv hs hA
    exact ⟨_, xk_loc hd hl rfl (by simp only [xj_loc]; exact xs_lda h1 h2), hn⟩
  case istore i =>
    obtain ⟨hi, rfl⟩ := xo_if_inv hq
    rw [xst_g1] at hN
    obtain ⟨x, r, rfl, hn⟩ := xG1_3 (nx := pc + len) hN hlv hs hA
    exact ⟨_, xk_loc hd hl rfl (by simp only [xj_loc, xj_sti]; rw [if_pos (of_decide_eq_true hi)]), hn⟩
  case istore_n i =>
    obtain ⟨hi, rfl⟩ := xo_if_inv hq
    rw [xst_g1] at hN
    obtain ⟨x, r, rfl, hn⟩ := xG1_3 (nx := pc + len) hN hlv hs hA
    exact ⟨_, xk_loc hd hl rfl (by simp only [xj_loc, xj_sti]; rw [if_pos (of_decide_eq_true hi)]), hn⟩
  case lstore i =>
    obtain ⟨hi, rfl⟩ := xo_if_inv hq
    rw [xst_g1] at hN
    obtain ⟨x, r, rfl, hn⟩ := xG1_4 (nx := pc + len) hN hlv hs hA
    exact ⟨_, xk_loc hd hl rfl (by simp only [xj_loc, xj_stl]; rw [if_pos (of_decide_eq_true hi)]), hn⟩
  case lstore_n i =>
    obtain ⟨hi, rfl⟩ := xo_if_inv hq
    rw [xst_g1] at hN
    obtain ⟨x, r, rfl, hn⟩ := xG1_4 (nx := pc + len) hN hlv hs hA
    exact ⟨_, xk_loc hd hl rfl (by simp only [xj_loc, xj_stl]; rw [if_pos (of_decide_eq_true hi)]), hn⟩
  case astore i =>
    obtain ⟨hi, rfl⟩ := xo_if_inv hq
    rw [xst_g1] at hN
    obtain ⟨x, r, rfl, h2, hn⟩ := xG1_5 (nx := pc + len) hN hlv hs hA
    exact ⟨_, xk_loc hd hl rfl (by simp only [xj_loc]; exact xs_sta (of_decide_eq_true hi) h2), hn⟩
  case astore_n i =>
    obtain ⟨hi, rfl⟩ := xo_if_inv hq
    rw [xst_g1] at hN
    obtain ⟨x, r, rfl, h2, hn⟩ := xG1_5 (nx := pc + len) hN hlv hs hA
    exact ⟨_, xk_loc hd hl rfl (by simp only [xj_loc]; exact xs_sta (of_decide_eq_true hi) h2), hn⟩
  case iinc i n =>
    obtain ⟨hi, rfl⟩ := xo_if_inv hq
    rw [xst_g1] at hN
    obtain ⟨x, h1, hn⟩ := xG1_6 (nx := pc + len) hN hlv hs hA
    exact ⟨_, xk_loc hd hl rfl (by simp only [xj_loc, xj_inc, h1]; rw [if_pos (of_decide_eq_true hi)]), hn⟩
  case ifCond c off =>
    cases c <;> (obtain ⟨t, ht, hq⟩ := xo_tg_inv hq; cases hq; rw [xst_g2] at hN)
    · exact xs_jz hd hl ht (fun _ => rfl) (fun _ => rfl) (fun _ => rfl) rfl hN hlv hs hA
    · exact xs_jz hd hl ht (fun _ => rfl) (fun _ => rfl) (fun _ => rfl) rfl hN hlv hs hA
    · exact xs_jz hd hl ht (fun _ => rfl) (fun _ => rfl) (fun _ => rfl) rfl hN hlv hs hA
    · exact xs_jz hd hl ht (fun _ => rfl) (fun _ => rfl) (fun _ => rfl) rfl hN hlv hs hA
    · exact xs_jz hd hl ht (fun _ => rfl) (fun _ => rfl) (fun _ => rfl) rfl hN hlv hs hA
    · exact xs_jz hd hl ht (fun _ => rfl) (fun _ => rfl) (fun _ => rfl) rfl hN hlv hs hA
  case if_icmp c off =>
    cases c <;> (obtain ⟨t, ht, hq⟩ := xo_tg_inv hq; cases hq; rw [xst_g2] at hN)
    · exact xs_jc hd hl ht (fun _ => rfl) (fun _ => rfl) (fun _ => rfl) rfl hN hlv hs hA
    · exact xs_jc hd hl ht (fun _ => rfl) (fun _ => rfl) (fun _ => rfl) rfl hN hlv hs hA
    · exact xs_jc hd hl ht (fun _ => rfl) (fun _ => rfl) (fun _ => rfl) rfl hN hlv hs hA
    · exact xs_jc hd hl ht (fun _ => rfl) (fun _ => rfl) (fun _ => rfl) rfl hN hlv hs hA
    · exact xs_jc hd hl ht (fun _ => rfl) (fun _ => rfl) (fun _ => rfl) rfl hN hlv hs hA
    · exact xs_jc hd hl ht (fun _ => rfl) (fun _ => rfl) (fun _ => rfl) rfl hN hlv hs hA
  case getfield i =>
    simp only [xo_ins] at hq
    split at hq
    · rename_i h18
      split at hq
      · rename_i h9
        cases hq
        rw [xst_g15] at hN
        obtain ⟨p, r, rfl, g1, g2, hn⟩ := xG15_3 (nx := pc + len) hN hlv hs hA
        exact ⟨_, xk_fx hd hl rfl rfl rfl rfl (by simp only [xj_fx]; rw [if_pos ⟨h18, h9, g1, g2⟩]), hn⟩
      · rename_i h9
        split at hq
        · rename_i h15
          cases hq
          rw [xst_g15] at hN
          obtain ⟨p, r, rfl, g1, g2, hn⟩ := xG15_4 (nx := pc + len) hN hlv hs hA
          exact ⟨_, xk_fx hd hl rfl rfl rfl rfl (by simp only [xj_fx]; rw [if_neg (fun z => h9 z.2.1), if_pos ⟨h18, h15, g1, g2⟩]), hn⟩
        · cases hq
    · rename_i h18
      split at hq
      · rename_i p hp
        cases hq
        rw [xst_g3] at hN
        obtain ⟨r, o, v, st1, rfl, g1, g2, g3, hn⟩ := xG3_ok (nx := pc + len) hN hlv hs hA
        refine ⟨_, xk_mem hd hl rfl rfl rfl rfl (by simp only [xj_fx]; rw [if_neg (fun z => h18 z.1), if_neg (fun z => h18 z.1)]) (xsc_n (fun _ => rfl)) (q := (v :: st1, M)) ?_, hn⟩
        simp only [xj_mem, xj_gf, hp, g1, g3]
        rw [if_pos g2]
      · cases hq
  case putfield i =>
    simp only [xo_ins] at hq
    split at hq
    · rename_i p hp
      split at hq
      · rename_i t ht
        split at hq
        · rename_i hc
          cases hq
          rw [xst_g4] at hN
          obtain ⟨w, v, r, o, st1, rfl, g1, g2, g3, g4, hn⟩ := xG4_ok (nx := pc + len) hN hlv hs hA
          refine ⟨_, xk_mem hd hl rfl rfl rfl rfl rfl (xsc_n (fun _ => rfl)) (q := (st1, xj_put M r (.inr (.inr (o.1, o.2.set p.2 w))))) ?_, hn⟩
          simp only [xj_mem, xj_pf, hp, g3]
          rw [if_pos ⟨g4, xfit_ok ht g2 g1, hc⟩]
        · cases hq
      · cases hq
    · cases hq
  case iaload =>
    cases hq
    rw [xst_g5] at hN
    obtain ⟨x, r, st1, v, rfl, hn, ⟨g1, p, j, g2, g3, rfl, g4⟩ | ⟨rfl, -, ys, g2, g3, rfl⟩ | ⟨-, -, g3, -⟩⟩ := xG5_ok hS (nx := pc + len) hN hlv hs hA
    · rw [if_neg (by decide), if_neg (by decide)] at g4
      refine ⟨_, xk_mem hd hl rfl rfl rfl rfl rfl (xsc_n (fun ys => xsc_ia g1)) (q := (p.2.2 j :: st1, M)) (by simp only [xj_mem, xj_al, g2, g3]; rw [if_pos g4]), hn⟩
    · exact ⟨_, xk_sc hd hl rfl rfl rfl rfl rfl (by rw [g2]; simp only [xj_sc]; rw [if_pos g3]), hn⟩
    · exact absurd g3 (by decide)
  case laload =>
    cases hq
    rw [xst_g5] at hN
    obtain ⟨x, r, st1, v, rfl, hn, ⟨g1, p, j, g2, g3, rfl, g4⟩ | ⟨-, g3, -⟩ | ⟨-, -, g3, -⟩⟩ := xG5_ok hS (nx := pc + len) hN hlv hs hA
    · rw [if_neg (by decide), if_neg (by decide)] at g4
      exact ⟨_, xk_mem hd hl rfl rfl rfl rfl rfl (xsc_n (fun ys => rfl)) (q := (p.2.2 j :: st1, M)) (by simp only [xj_mem, xj_al, g2, g3]; rw [if_pos g4]), hn⟩
    · exact absurd g3 (by decide)
    · exact absurd g3 (by decide)
  case baload =>
    cases hq
    rw [xst_g5] at hN
    obtain ⟨x, r, st1, v, rfl, hn, ⟨g1, p, j, g2, g3, rfl, g4⟩ | ⟨-, g3, -⟩ | ⟨g1, g2, -, g3, rfl⟩⟩ := xG5_ok hS (nx := pc + len) hN hlv hs hA
    · rw [if_neg (by decide), if_pos rfl] at g4
      refine ⟨_, xk_mem hd hl rfl rfl rfl rfl (xfx_ba g1) (xsc_n (fun ys => rfl)) (q := (p.2.2 j :: st1, M)) ?_, hn⟩
      simp only [xj_mem, xj_al, g2, g3]
      by_cases e : p.1 = 1
      · rw [if_pos e]; rfl
      · rw [if_neg e, if_pos (by omega)]; rfl
    · exact absurd g3 (by decide)
    · exact ⟨_, xk_fx hd hl rfl rfl rfl rfl (by simp only [xj_fx]; rw [if_pos ⟨g1, g2, g3⟩]), hn⟩
  case aaload =>
    cases hq
    rw [xst_g5] at hN
    obtain ⟨x, r, st1, v, rfl, hn, ⟨g1, p, j, g2, g3, rfl, g4⟩ | ⟨-, g3, -⟩ | ⟨-, -, g3, -⟩⟩ := xG5_ok hS (nx := pc + len) hN hlv hs hA
    · rw [if_pos rfl] at g4
      exact ⟨_, xk_mem hd hl rfl rfl rfl rfl rfl (xsc_n (fun ys => rfl)) (q := (p.2.2 j :: st1, M)) (by simp only [xj_mem, xj_aq, g2, g3]; rw [if_pos g4]), hn⟩
    · exact absurd g3 (by decide)
    · exact absurd g3 (by decide)
  case iastore =>
    cases hq
    rw [xst_g6] at hN
    obtain ⟨w, x, r, st1, p, j, w', rfl, g2, g3, hn, g4⟩ := xG6_ok (nx := pc + len) hN hlv hs hA (by omega)
    rw [if_neg (by decide), if_neg (by decide)] at g4
    obtain ⟨y, rfl, g4⟩ := g4
    rw [if_pos rfl] at g4
    obtain ⟨g4, rfl⟩ := g4
    refine ⟨_, xk_mem hd hl rfl rfl rfl rfl rfl (xsc_n (fun ys => rfl)) (q := (st1, xj_put M r (.inr (.inl (p.1, p.2.1, updV p.2.2 j (.int y)))))) ?_, hn⟩
    simp only [xj_mem, xj_as, xj_oki, g2, g3]
    rw [if_pos g4, g4]
  case lastore =>
    cases hq
    rw [xst_g6] at hN
    obtain ⟨w, x, r, st1, p, j, w', rfl, g2, g3, hn, g4⟩ := xG6_ok (nx := pc + len) hN hlv hs hA (by omega)
    rw [if_neg (by decide), if_pos rfl] at g4
    obtain ⟨rfl, g4, y, rfl⟩ := g4
    refine ⟨_, xk_mem hd hl rfl rfl rfl rfl rfl (xsc_n (fun ys => rfl)) (q := (st1, xj_put M r (.inr (.inl (p.1, p.2.1, updV p.2.2 j (.long y)))))) ?_, hn⟩
    simp only [xj_mem, xj_as, xj_okl, g2, g3]
    rw [if_pos g4, g4]
  case castore =>
    cases hq
    rw [xst_g6] at hN
    obtain ⟨w, x, r, st1, p, j, w', rfl, g2, g3, hn, g4⟩ := xG6_ok (nx := pc + len) hN hlv hs hA (by omega)
    rw [if_neg (by decide), if_neg (by decide)] at g4
    obtain ⟨y, rfl, g4⟩ := g4
    rw [if_neg (by decide)] at g4
    obtain ⟨rfl, g4⟩ := g4
    rw [if_neg (by decide)] at g4
    refine ⟨_, xk_mem hd hl rfl rfl rfl rfl rfl (xsc_n (fun ys => rfl)) (q := (st1, xj_put M r (.inr (.inl (p.1, p.2.1, updV p.2.2 j (narrow (xj_kty p.1) (.int y))))))) ?_, hn⟩
    simp only [xj_mem, xj_as, xj_okn, g2, g3]
    rw [if_pos g4, g4]; rfl
  case bastore =>
    cases hq
    rw [xst_g6] at hN
    obtain ⟨w, x, r, st1, p, j, w', rfl, g2, g3, hn, g4⟩ := xG6_ok (nx := pc + len) hN hlv hs hA (by omega)
    rw [if_neg (by decide), if_neg (by decide)] at g4
    obtain ⟨y, rfl, g4⟩ := g4
    rw [if_neg (by decide)] at g4
    obtain ⟨rfl, g4⟩ := g4
    rw [if_pos rfl] at g4
    refine ⟨_, xk_mem hd hl rfl rfl rfl rfl rfl (xsc_n (fun ys => rfl)) (q := (st1, xj_put M r (.inr (.inl (p.1, p.2.1, updV p.2.2 j (narrow (xj_kty p.1) (.int y))))))) ?_, hn⟩
    simp only [xj_mem, xj_as, xj_okn, g2, g3]
    by_cases e : p.1 = 1
    · rw [if_pos e, e]; rfl
    · have e0 : p.1 = 0 := by omega
      rw [if_neg e, if_pos e0, e0]; rfl
  case aastore =>
    cases hq
    rw [xst_g6] at hN
    obtain ⟨w, x, r, st1, p, j, w', rfl, g2, g3, hn, g4⟩ := xG6_ok (nx := pc + len) hN hlv hs hA (by omega)
    rw [if_pos rfl] at g4
    obtain ⟨rfl, g4, rfl | ⟨v, o, rfl, g5, g6⟩⟩ := g4
    · refine ⟨_, xk_mem hd hl rfl rfl rfl rfl rfl (xsc_n (fun ys => rfl)) (q := (st1, xj_put M r (.inr (.inl (p.1, p.2.1, updV p.2.2 j .null))))) ?_, hn⟩
      simp only [xj_mem, xj_aa, g2, g3]
      rw [if_pos g4]
    · refine ⟨_, xk_mem hd hl rfl rfl rfl rfl rfl (xsc_n (fun ys => rfl)) (q := (st1, xj_put M r (.inr (.inl (p.1, p.2.1, updV p.2.2 j (.ref v)))))) ?_, hn⟩
      simp only [xj_mem, xj_aa, g2, g3, g5]
      rw [if_pos g6]
  case goto off =>
    obtain ⟨t, ht, hq⟩ := xo_tg_inv hq
    cases hq
    rw [xst_g7] at hN
    exact ⟨_, xk_jmp hd hl rfl rfl (q := ((off, true), st)) rfl (xJ ht), xNr_go hN hlv hs hA⟩
  case ifnull off =>
    obtain ⟨t, ht, hq⟩ := xo_tg_inv hq
    cases hq
    rw [xst_g7] at hN
    simp only [xG7] at hN
    split at hN
    · rename_i x r
      obtain ⟨w, ws, rfl, hw, hws⟩ := xvs_c hs
      cases c1 : Nat.beq x.1 3 with
      | true =>
        rw [c1, xif_t] at hN
        cases xv_n hw (xbeq c1)
        exact ⟨_, xk_jmp hd hl rfl rfl (q := ((off, true), ws)) rfl (xJ ht), xNr_go hN hlv hws hA⟩
      | false =>
        rw [c1, xif_f] at hN
        obtain ⟨c2, hN⟩ := xif_some hN
        cases xv_r hw (xbeq c2)
        exact ⟨_, xk_jmp hd hl rfl rfl (q := ((off, false), ws)) rfl (xJ ht), xNr_go hN hlv hws hA⟩
    · cases hN
  case ifnonnull off =>
    obtain ⟨t, ht, hq⟩ := xo_tg_inv hq
    cases hq
    rw [xst_g7] at hN
    simp only [xG7] at hN
    split at hN
    · rename_i x r
      obtain ⟨w, ws, rfl, hw, hws⟩ := xvs_c hs
      cases c1 : Nat.beq x.1 3 with
      | true =>
        rw [c1, xif_t] at hN
        cases xv_n hw (xbeq c1)
        exact ⟨_, xk_jmp hd hl rfl rfl (q := ((off, false), ws)) rfl (xJ ht), xNr_go hN hlv hws hA⟩
      | false =>
        rw [c1, xif_f] at hN
        obtain ⟨c2, hN⟩ := xif_some hN
        cases xv_r hw (xbeq c2)
        exact ⟨_, xk_jmp hd hl rfl rfl (q := ((off, true), ws)) rfl (xJ ht), xNr_go hN hlv hws hA⟩
    · cases hN
  case iadd => cases hq; rw [xst_g8] at hN; exact xs_i2 hd hl (fun _ => rfl) rfl hN hlv hs hA
  case isub => cases hq; rw [xst_g8] at hN; exact xs_i2 hd hl (fun _ => rfl) rfl hN hlv hs hA
  case imul => cases hq; rw [xst_g8] at hN; exact xs_i2 hd hl (fun _ => rfl) rfl hN hlv hs hA
  case iand => cases hq; rw [xst_g8] at hN; exact xs_i2 hd hl (fun _ => rfl) rfl hN hlv hs hA
  case ior => cases hq; rw [xst_g8] at hN; exact xs_i2 hd hl (fun _ => rfl) rfl hN hlv hs hA
  case ishl => cases hq; rw [xst_g8] at hN; exact xs_i2 hd hl (fun _ => rfl) rfl hN hlv hs hA
  case ishr => cases hq; rw [xst_g8] at hN; exact xs_i2 hd hl (fun _ => rfl) rfl hN hlv hs hA
  case iushr => cases hq; rw [xst_g8] at hN; exact xs_i2 hd hl (fun _ => rfl) rfl hN hlv hs hA
  case irem =>
    cases hq
    rw [xst_g8] at hN
    obtain ⟨x, y, r, rfl, g1, hn⟩ := xG8_8 (nx := pc + len) hN hlv hs hA
    exact ⟨_, xk_pure hd hl (by simp only [xj_pure, xj_d2]; rw [if_neg g1]), hn⟩
  case i2b =>
    cases hq
    rw [xst_g9] at hN
    obtain ⟨x, r, rfl, hn⟩ := xG9_0 (nx := pc + len) hN hlv hs hA
    exact ⟨_, xk_pure hd hl rfl, hn⟩
  case i2c =>
    cases hq
    rw [xst_g9] at hN
    obtain ⟨x, r, rfl, hn⟩ := xG9_1 (nx := pc + len) hN hlv hs hA
    exact ⟨_, xk_pure hd hl rfl, hn⟩
  case i2l =>
    cases hq
    rw [xst_g9] at hN
    obtain ⟨x, r, rfl, hn⟩ := xG9_2 (nx := pc + len) hN hlv hs hA
    exact ⟨_, xk_pure hd hl rfl, hn⟩
  case ladd => cases hq; rw [xst_g9] at hN; exact xs_l2 hd hl (fun _ => rfl) rfl rfl rfl hN hlv hs hA
  case lmul => cases hq; rw [xst_g9] at hN; exact xs_l2 hd hl (fun _ => rfl) rfl rfl rfl hN hlv hs hA
  case land => cases hq; rw [xst_g9] at hN; exact xs_l2 hd hl (fun _ => rfl) rfl rfl rfl hN hlv hs hA
  case lcmp =>
    cases hq
    rw [xst_g9] at hN
    obtain ⟨x, y, r, rfl, hn⟩ := xG9_6 (nx := pc + len) hN hlv hs hA
    exact ⟨_, xk_pure hd hl rfl, hn⟩
  case lshr =>
    cases hq
    rw [xst_g9] at hN
    obtain ⟨x, y, r, rfl, hn⟩ := xG9_7 (nx := pc + len) hN hlv hs hA
    exact ⟨_, xk_pure hd hl rfl, hn⟩
  case dup =>
    cases hq
    rw [xst_g10] at hN
    obtain ⟨x, r, rfl, g1, hn⟩ := xG10_0 (nx := pc + len) hN hlv hs hA
    exact ⟨_, xk_pure hd hl (by simp only [xj_pure, xj_du]; rw [if_pos g1]), hn⟩
  case dup2 =>
    cases hq
    rw [xst_g10] at hN
    obtain ⟨x, y, r, rfl, g1, g2, hn⟩ := xG10_1 (nx := pc + len) hN hlv hs hA
    exact ⟨_, xk_pure hd hl (by simp only [xj_pure, xj_dd]; rw [if_pos ⟨g1, g2⟩]), hn⟩
  case return_ =>
    simp only [xo_ins] at hq
    split at hq
    · rename_i hr
      cases hq
      rw [xst_g11] at hN
      obtain ⟨rfl, hn⟩ := xG11_0 (a := 0) (b := 0) hN hs hA
      exact ⟨_, xk_ret hd hl rfl rfl rfl rfl rfl (xsc_n (fun _ => rfl)) rfl rfl (by simp only [xj_ret, hr]), hn⟩
    · cases hq
  case ireturn =>
    simp only [xo_ins] at hq
    split at hq
    · rename_i hr
      cases hq
      rw [xst_g11] at hN
      obtain ⟨x, rfl, g1, g2, hn⟩ := xG11_1 hN hs hA
      exact ⟨_, xk_ret hd hl rfl rfl rfl rfl rfl (xsc_n (fun _ => rfl)) rfl rfl (by simp only [xj_ret, hr, xj_ireturn, narrow, if_true]), hn⟩
    · rename_i hr
      cases hq
      rw [xst_g11] at hN
      obtain ⟨x, rfl, g1, g2, hn⟩ := xG11_1 hN hs hA
      refine ⟨_, xk_ret hd hl rfl rfl rfl rfl rfl (xsc_n (fun _ => rfl)) rfl rfl (v := some (.int x)) ?_, hn⟩
      simp only [xj_ret, hr, xj_ireturn]
      rcases xnar1 g1 g2 with rfl | rfl <;> rfl
    · rename_i hr
      cases hq
      rw [xst_g11] at hN
      obtain ⟨x, rfl, g1, g2, hn⟩ := xG11_1 hN hs hA
      refine ⟨_, xk_ret hd hl rfl rfl rfl rfl rfl (xsc_n (fun _ => rfl)) rfl rfl (v := some (.int x)) ?_, hn⟩
      simp only [xj_ret, hr, xj_ireturn]
      exact if_pos (by show Value.int x.toUInt32.toUInt16.toUInt32.toInt32 = _; rw [xchar g1 g2])
    · rename_i hr
      cases hq
      rw [xst_g11] at hN
      obtain ⟨x, rfl, g1, g2, hn⟩ := xG11_1 hN hs hA
      refine ⟨_, xk_ret hd hl rfl rfl rfl rfl rfl (xsc_n (fun _ => rfl)) rfl rfl (v := some (.int x)) ?_, hn⟩
      have : x = 0 := xa_inj.mp (by rw [xa_0]; omega)
      subst this
      simp only [xj_ret, hr, xj_ireturn]
      rfl
    · cases hq
  case lreturn =>
    simp only [xo_ins] at hq
    split at hq
    · rename_i hr
      cases hq
      rw [xst_g11] at hN
      obtain ⟨x, rfl, hn⟩ := xG11_2 (a := 0) (b := 0) hN hs hA
      exact ⟨_, xk_ret hd hl rfl rfl rfl rfl rfl (xsc_n (fun _ => rfl)) rfl rfl (by simp only [xj_ret, hr, xj_lreturn, if_true]), hn⟩
    · cases hq
  case areturn =>
    simp only [xo_ins] at hq
    split at hq
    · rename_i t hr
      obtain ⟨ht, rfl⟩ := xo_if_inv hq
      rw [xst_g11] at hN
      obtain ⟨x, rfl, g1, hn⟩ := xG11_3 (a := 0) (b := 0) hN hs hA
      refine ⟨_, xk_ret hd hl rfl rfl rfl rfl rfl (xsc_n (fun _ => rfl)) rfl rfl (v := some x) ?_, hn⟩
      simp only [xj_ret, hr, xj_areturn]
      rcases g1 with rfl | ⟨p, rfl⟩
      · simp only [ht, if_true]
      · simp only [ht, if_true]
    · cases hq
  case invokevirtual i =>
    simp only [xo_ins] at hq
    split at hq
    · rename_i k hy
      cases hq
      rw [xst_g13] at hN
      obtain ⟨p, r, x, rfl, g1, g2, g3, g4, hn⟩ := xG13_2 (nx := pc + len) hN hlv hs hA
      refine ⟨_, xk_mk hd hl rfl rfl rfl rfl rfl (xsc_n (fun _ => rfl)) rfl (q := (.ref (xj_nx M) :: r, xj_new M (.inr (.inl x)) x.2.1)) ?_, hn⟩
      simp only [xj_mk, hy, xj_cl, g1]
      rw [if_pos ⟨g2, g3, g4⟩]
    · cases hq
    · rename_i hy
      have hmk : xj_mk row.1 (.invokevirtual i) st M = none := by simp only [xj_mk, hy]
      split at hq
      · rename_i j hc
        obtain ⟨r, r1, r2, r3, rfl⟩ := xo_call_inv hq
        rw [xst_g12] at hN
        obtain ⟨p, rest, g1, g2, g3, g4, g5, N', n1, n2⟩ := xG12_x hcall hh (Or.inl rfl) hN hlv hs hA
        obtain ⟨o, ci, l', e, g6, g7⟩ := g4 rfl
        cases e
        refine ⟨N', ?_, n2⟩
        rw [xk_tgt hd hl rfl rfl rfl rfl rfl (xsc_n (fun _ => rfl)) rfl hmk rfl rfl (q := (j, .ref p :: (st.take r.2.2.2.2.2.1).reverse, rest)) (by
          simp only [xj_tgt, hc, xj_tV, r1, g1, g6]
          rw [if_pos ⟨g7, r3 rfl, g2, g3⟩])]
        exact n1
      · rename_i j hc
        obtain ⟨r, r1, r2, r3, rfl⟩ := xo_call_inv hq
        rw [xst_g12] at hN
        obtain ⟨p, rest, g1, g2, g3, g4, g5, N', n1, n2⟩ := xG12_x hcall hh (Or.inl rfl) hN hlv hs hA
        obtain ⟨o, ci, l', e, g6, g7⟩ := g4 rfl
        cases e
        refine ⟨N', ?_, n2⟩
        rw [xk_tgt hd hl rfl rfl rfl rfl rfl (xsc_n (fun _ => rfl)) rfl hmk rfl rfl (q := (1000 + j, .ref p :: (st.take r.2.2.2.2.2.1).reverse, rest)) (by
          simp only [xj_tgt, hc, xj_tV, r1, g1, g6]
          rw [if_pos ⟨g7, r3 rfl, g2, g3⟩])]
        exact n1
      · rename_i j hc
        obtain ⟨r, r1, r2, r3, rfl⟩ := xo_call_inv hq
        rw [xst_g12] at hN
        obtain ⟨p, rest, g1, g2, g3, g4, g5, N', n1, n2⟩ := xG12_x hcall hh (Or.inr (Or.inr rfl)) hN hlv hs hA
        refine ⟨N', ?_, n2⟩
        rw [xk_tgt hd hl rfl rfl rfl rfl rfl (xsc_n (fun _ => rfl)) rfl hmk rfl rfl (q := (j, .ref p :: (st.take r.2.2.2.2.2.1).reverse, rest)) (by
          simp only [xj_tgt, hc, xj_tW, r1, g1]
          rw [if_pos ⟨(g5 rfl).1, (g5 rfl).2, g2, g3⟩])]
        exact n1
      · cases hq
  case invokespecial i =>
    simp only [xo_ins] at hq
    split at hq
    · rename_i k hc
      cases hq
      rw [xst_g15] at hN
      obtain ⟨p, r, rfl, g1, hn⟩ := xG15_0 (nx := pc + len) hN hlv hs hA
      refine ⟨_, xk_mac hd hl rfl rfl rfl rfl rfl (xsc_n (fun _ => rfl)) rfl rfl rfl (st' := r) ?_, hn⟩
      simp only [xj_mac, hc, List.drop_succ_cons, List.drop_zero]
      rw [if_pos g1]; rfl
    · rename_i j hc
      obtain ⟨r, r1, r2, r3, rfl⟩ := xo_call_inv hq
      rw [xst_g12] at hN
      obtain ⟨p, rest, g1, g2, g3, g4, g5, N', n1, n2⟩ := xG12_x hcall hh (Or.inr (Or.inl rfl)) hN hlv hs hA
      refine ⟨N', ?_, n2⟩
      rw [xk_tgt hd hl rfl rfl rfl rfl rfl (xsc_n (fun _ => rfl)) rfl rfl rfl (by simp only [xj_mac, hc]) (q := (j, .ref p :: (st.take r.2.2.2.2.2.1).reverse, rest)) (by
        simp only [xj_tgt, hc, xj_tI, r1, g1]
        rw [if_pos ⟨g2, r2 rfl, g3⟩])]
      exact n1
    · rename_i j hc
      obtain ⟨r, r1, r2, r3, rfl⟩ := xo_call_inv hq
      rw [xst_g12] at hN
      obtain ⟨p, rest, g1, g2, g3, g4, g5, N', n1, n2⟩ := xG12_x hcall hh (Or.inr (Or.inl rfl)) hN hlv hs hA
      refine ⟨N', ?_, n2⟩
      rw [xk_tgt hd hl rfl rfl rfl rfl rfl (xsc_n (fun _ => rfl)) rfl rfl rfl (by simp only [xj_mac, hc]) (q := (j, .ref p :: (st.take r.2.2.2.2.2.1).reverse, rest)) (by
        simp only [xj_tgt, hc, xj_tI, r1, g1]
        rw [if_pos ⟨g2, r2 rfl, g3⟩])]
      exact n1
    · cases hq
  case invokestatic i =>
    simp only [xo_ins] at hq
    split at hq
    · cases hq
    · rename_i hy
      have hm : xj_mem row.1 row.2.2.2.2.2.2.1 (.invokestatic i) st M = none := by simp only [xj_mem, hy]
      split at hq
      · rename_i j hc
        obtain ⟨r, r1, r2, r3, rfl⟩ := xo_call_inv hq
        rw [xst_g12] at hN
        obtain ⟨g1, g2, N', n1, n2⟩ := xG12_2 hcall hh hN hlv hs hA
        refine ⟨N', ?_, n2⟩
        rw [xk_tgt hd hl rfl rfl rfl rfl rfl (xsc_n (fun _ => rfl)) hm rfl rfl (by simp only [xj_mac, hc]) (q := (j, (st.take r.2.2.2.2.2.1).reverse, st.drop r.2.2.2.2.2.1)) (by
          simp only [xj_tgt, hc, xj_tS, r1]
          rw [if_pos ⟨g1, g2⟩])]
        simp only [xj_nt, hc]
        exact n1
      · rename_i j hc
        obtain ⟨r, r1, r2, r3, rfl⟩ := xo_call_inv hq
        rw [xst_g12] at hN
        obtain ⟨g1, g2, N', n1, n2⟩ := xG12_2 hcall hh hN hlv hs hA
        refine ⟨N', ?_, n2⟩
        rw [xk_tgt hd hl rfl rfl rfl rfl rfl (xsc_n (fun _ => rfl)) hm rfl rfl (by simp only [xj_mac, hc]) (q := (1000 + j, (st.take r.2.2.2.2.2.1).reverse, st.drop r.2.2.2.2.2.1)) (by
          simp only [xj_tgt, hc, xj_tS, r1]
          rw [if_pos ⟨g1, g2⟩])]
        simp only [xj_nt, hc]
        exact n1
      · cases hq
  case new i =>
    simp only [xo_ins] at hq
    split at hq
    · rename_i ci hc
      split at hq
      · rename_i r hr
        split at hq
        · rename_i l hl2
          cases hq
          rw [xst_g13] at hN
          have hn := xG13_0 (nx := pc + len) (xo_tcs_ok ci _ _ hl2) hN hlv hs hA
          exact ⟨_, xk_mk hd hl rfl rfl rfl rfl rfl (xsc_n (fun _ => rfl)) rfl (q := (.ref (xj_nx M) :: st, xj_new M (.inr (.inr (ci, (List.range r.2.2).map (fun k => defaultValue (xj_ty ci k))))) r.2.2)) (by simp only [xj_mk, xj_nw, hc, hr]), hn⟩
        · cases hq
      · cases hq
    · rename_i hc
      split at hq
      · rename_i k hk
        cases hq
        rw [xst_g15] at hN
        obtain ⟨rfl, rfl, g2, hn⟩ := xG15_2 (lv' := lv') (nx := pc + len) hN hs hA
        refine ⟨_, ?_, hn⟩
        rw [xk_thr hd hl rfl rfl rfl rfl rfl (xsc_n (fun _ => rfl)) rfl (by simp only [xj_mk, xj_nw, hc]) rfl rfl rfl rfl]
        have hX : X.1 = none := hh
        simp only [xj_thr]
        rw [if_pos ⟨by rw [hX]; rfl, g2, rfl⟩, hk]
      · cases hq
  case newarray t =>
    simp only [xo_ins] at hq
    split at hq
    · rename_i k hk
      cases hq
      rw [xst_g13] at hN
      have hv : xv (xdf (if k = 4 then 1 else 0)) (defaultValue (xj_kty k)) := by
        cases t <;> cases hk
        · exact xdf_ok (ty := .boolean) (t := 3) rfl
        · exact xdf_ok (ty := .boolean) (t := 3) rfl
        · exact xdf_ok (ty := .boolean) (t := 3) rfl
        · exact xdf_ok (ty := .int) (t := 0) rfl
        · exact xdf_ok (ty := .long) (t := 1) rfl
      obtain ⟨n, r, rfl, g1, g2, hn⟩ := xG13_1 (nx := pc + len) hv hN hlv hs hA
      have hb : componentBytes (xj_kty k) ≤ 8 := by
        cases t <;> cases hk <;> decide
      refine ⟨_, xk_mk hd hl rfl rfl rfl rfl rfl (xsc_n (fun _ => rfl)) rfl (q := (.ref (xj_nx M) :: r, xj_new M (.inr (.inl (k, n.toNatClampNeg, fun _ => defaultValue (xj_kty k)))) n.toNatClampNeg)) ?_, hn⟩
      have hmul : n.toNatClampNeg * componentBytes (xj_kty k) ≤ 131072 * 8 := Nat.mul_le_mul g2 hb
      simp only [xj_mk, xj_na, hk]
      rw [if_neg (by rintro (z | z); exact g1 z; omega)]
    · cases hq
  case anewarray i =>
    simp only [xo_ins] at hq
    split at hq
    · rename_i ci hc
      cases hq
      rw [xst_g13] at hN
      obtain ⟨n, r, rfl, g1, g2, hn⟩ := xG13_1 (b := 2) (nx := pc + len) (dv := .null) (show (xdf 2).1 = 3 from rfl) hN hlv hs hA
      refine ⟨_, xk_mk hd hl rfl rfl rfl rfl rfl (xsc_n (fun _ => rfl)) rfl (q := (.ref (xj_nx M) :: r, xj_new M (.inr (.inl (ci + 5, n.toNatClampNeg, fun _ => .null))) n.toNatClampNeg)) ?_, hn⟩
      simp only [xj_mk, xj_an, hc]
      rw [if_neg (by rintro (z | z); exact g1 z; omega)]
    · cases hq
  case checkcast i =>
    simp only [xo_ins] at hq
    split at hq
    · rename_i k hy
      cases hq
      rw [xst_g13] at hN
      obtain ⟨p, r, x, rfl, g1, g2, hn⟩ := xG13_3 (nx := pc + len) hN hlv hs hA
      refine ⟨_, xk_mem hd hl rfl rfl rfl rfl rfl (xsc_n (fun _ => rfl)) (q := (.ref p :: r, M)) ?_, hn⟩
      simp only [xj_mem, hy, xj_cc, g1]
      rw [if_pos g2]
    · cases hq
  case arraylength =>
    cases hq
    rw [xst_g13] at hN
    obtain ⟨p, r, n, rfl, hn, ⟨g1, x, g2, rfl⟩ | ⟨rfl, ys, g2, rfl⟩ | ⟨g1, g2, rfl⟩⟩ := xG13_4 hS (nx := pc + len) (Nat.le_refl _) hN hlv hs hA
    · exact ⟨_, xk_mem hd hl rfl rfl rfl rfl (xfx_al g1) (xsc_n (fun ys => xsc_al g1)) (q := (.int (Int32.ofNat x.2.1) :: r, M)) (by simp only [xj_mem, xj_ln, g2]), hn⟩
    · exact ⟨_, xk_sc hd hl rfl rfl rfl rfl rfl (by rw [g2]; simp only [xj_sc]), hn⟩
    · exact ⟨_, xk_fx hd hl rfl rfl rfl rfl (by simp only [xj_fx]; rw [if_pos ⟨g1, g2⟩]), hn⟩
  case tableswitch d lo hi offs =>
    obtain ⟨b, hb, hq⟩ := xo_tg_inv hq
    split at hq
    · rename_i l hl2
      split at hq
      · rename_i hc
        cases hq
        rw [xst_g14] at hN
        obtain ⟨p, t, r, g1, g2, hn⟩ := xG14_ok hb hl2 hc.1 hc.2 rfl hN hlv hs hA
        exact ⟨_, xk_jmp hd hl rfl rfl (q := ((p, true), r)) g1 (xJ g2), hn⟩
      · cases hq
    · cases hq
  all_goals cases hq
end
