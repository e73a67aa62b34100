section
/-! THE CLASS: feed(), end() -/
theorem fd_bv (x : BitVec 32) {s : Nat} (hs : s ≤ 24) : (x >>> s) &&& 255#32 = (x.sshiftRight s) &&& 255#32 := by
  apply BitVec.eq_of_getLsbD_eq
  intro i hi
  have h255 : ∀ i, i < 32 → (255#32).getLsbD i = decide (i < 8) := by decide
  rw [BitVec.getLsbD_and, BitVec.getLsbD_and, h255 i hi]
  by_cases c : i < 8
  · rw [decide_eq_true c, Bool.and_true, Bool.and_true, BitVec.getLsbD_ushiftRight, BitVec.getLsbD_sshiftRight]
    rw [if_pos (show s + i < 32 by omega)]
    have : decide (32 ≤ i) = false := decide_eq_false (by omega)
    rw [this]
    rfl
  · rw [decide_eq_false c, Bool.and_false, Bool.and_false]
theorem fd_in (x : Int) : Int32.ofInt (Int32.toInt (Int32.ofInt x)) = Int32.ofInt x := Int32.ofInt_toInt _
theorem fd_us (w : Int) : xand (xush w 24) 255 = fdB w 24 ∧ xand (xush w 16) 255 = fdB w 16 ∧ xand (xush w 8) 255 = fdB w 8 ∧ xand (xush w 0) 255 = fdB w 0 := by
  have e : ∀ (s : Nat) (x y : Int32), s ≤ 24 → x.toBitVec = (Int32.ofInt w).toBitVec >>> s → y.toBitVec = (Int32.ofInt w).toBitVec.sshiftRight s → xand x.toInt 255 = xand y.toInt 255 := fun s x y hs hx hy => by
    unfold xand
    rw [Int32.ofInt_toInt, Int32.ofInt_toInt]
    show (x.toBitVec &&& 255#32).toInt = (y.toBitVec &&& 255#32).toInt
    rw [hx, hy, fd_bv _ hs]
  exact ⟨e 24 _ _ (by decide) rfl rfl, e 16 _ _ (by decide) rfl rfl, e 8 _ _ (by decide) rfl rfl, e 0 _ _ (by decide) rfl rfl⟩
theorem fd_ch_t : ∀ b : Fin 256, xnar .char (xi2ch ((b.val : Nat) : Int)) = ((b.val : Nat) : Int) := by decide +kernel
theorem fd_ch {b : Int} (h : 0 ≤ b ∧ b ≤ 255) : xnar .char (xi2ch b) = b := by
  have := fd_ch_t ⟨b.toNat, by omega⟩
  have e : ((b.toNat : Nat) : Int) = b := by omega
  rw [show ((⟨b.toNat, by omega⟩ : Fin 256).val) = b.toNat from rfl, e] at this
  exact this
theorem fd_tx {G : xG_} {t : List Int} {b : Int} {G' : xG_} (h : cTx G (tBt t) t.length) (hl : t.length < 3000) (hb : 0 ≤ b ∧ b ≤ 255) (h1 : G' 65 1 = ((t.length + 1 : Nat) : Int)) (h2 : G' 66 t.length = b) (h3 : ∀ p, p ≠ t.length → G' 66 p = G 66 p) : cTx G' (tBt (t ++ [b])) (t ++ [b]).length := by
  have e : (t ++ [b]).length = t.length + 1 := by rw [List.length_append]; rfl
  have e2 : ∀ p, p < t.length → tBt (t ++ [b]) p = tBt t p := fun p hp => by
    unfold tBt
    rw [if_pos (by omega), if_pos hp, getD_app _ hp]
  have e3 : tBt (t ++ [b]) t.length = b := by
    unfold tBt
    rw [if_pos (by omega), getD_e (by omega), List.getElem_append_right (Nat.le_refl _)]
    simp
  obtain ⟨a1, a2, a3, a4⟩ := h
  refine ⟨by rw [e]; exact h1, by omega, fun p => ⟨fun hp => ?_, fun hp => ?_⟩, fun p hp => ?_⟩
  · rcases (by omega : p < t.length ∨ p = t.length) with z | rfl
    · rw [e2 p z]; exact (a3 p).1 z
    · rw [e3]; exact hb
  · unfold tBt
    rw [if_neg (by omega)]
  · rcases (by omega : p < t.length ∨ p = t.length) with z | rfl
    · rw [e2 p z, h3 p (by omega)]; exact a4 p z
    · rw [e3]; exact h2
section
variable {f A hr n sl : Nat} {S : Nat → Nat × Nat × Nat} {G : xG_} {m : Nat × Nat} {T : List (List Int)} {lns : Nat → sLn} {tx : List Int} {kp : Nat × List (List Int)} {mt : Int × List Int} {pl rf : Int}
theorem st_fd {r3 : Nat → Int → Int → xT_ → Option xT_} {w sh : Int} {l : Nat} (hs : cSs S) (hp : cPs G) (h0 : 0 ≤ sh) (hl : G 65 1 = (l : Int)) (hl3 : l < 3000) : c111_3b r3 f 65 w sh (S, G, m) = r3 65 w (xwr (sh + -8)) (S, xup2 (xup2 G 66 l (xnar .char (xi2ch (xand (xush w sh) 255)))) 65 1 ((l + 1 : Nat) : Int), m) := by
  have e1 : cq_s 2 66 (l : Int) (xnar .char (xi2ch (xand (xush w sh) 255))) (S, G, m) = some (S, xup2 G 66 l (xnar .char (xi2ch (xand (xush w sh) 255))), m) := by
    unfold cq_s
    simp only [s66 hs]
    rw [if_pos ⟨trivial, trivial, by omega, by omega⟩, Int.toNat_natCast]
  have e2 : xup2 G 66 l (xnar .char (xi2ch (xand (xush w sh) 255))) 65 1 = (l : Int) := by rw [xup2_n (by omega)]; exact hl
  unfold c111_3b c111_44
  rw [if_neg (by omega), o_gi (s65 hs), Option.bind_some, hl, if_neg (by omega), o_gr (y := 66) (s65 hs) (p65_0 hp), Option.bind_some, Option.bind_some, e1, Option.bind_some, o_gi (s65 hs), Option.bind_some, e2, xwr_g _ (by omega) (by omega), o_p (s65 hs), Option.bind_some]
  rfl
theorem st_fd' {r3 : Nat → Int → Int → xT_ → Option xT_} {w sh : Int} {t : List Int} (hs : cSs S) (hp : cPs G) (h0 : 0 ≤ sh) (h : cTx G (tBt t) t.length) (hl : t.length < 3000) (hb : xand (xush w sh) 255 = fdB w sh) : ∃ G', c111_3b r3 f 65 w sh (S, G, m) = r3 65 w (xwr (sh + -8)) (S, G', m) ∧ cTx G' (tBt (t ++ [fdB w sh])) (t ++ [fdB w sh]).length ∧ cPs G' ∧ ∀ a j, ¬ (a = 65 ∧ j = 1) → a ≠ 66 → G' a j = G a j := by
  have b := xand_255 (xush w sh)
  have z : ∀ a j, ¬ (a = 65 ∧ j = 1) → a ≠ 66 → xup2 (xup2 G 66 t.length (xnar .char (xi2ch (xand (xush w sh) 255)))) 65 1 ((t.length + 1 : Nat) : Int) a j = G a j := fun a j y1 y2 => by rw [xup2_n y1, xup2_n (by omega)]
  refine ⟨_, st_fd hs hp h0 h.1 hl, ?_, hp.ge (fun a j hz => z a j (by
    rcases hz with z | z | z | z | z | z | z | ⟨z, z1, z2, k, z3⟩ | z | z | z | ⟨k, z1, z2, z3⟩ <;> omega) (by
    rcases hz with z | z | z | z | z | z | z | ⟨z, z1, z2, k, z3⟩ | z | z | z | ⟨k, z1, z2, z3⟩ <;> omega)), z⟩
  refine fd_tx h hl (by rw [← hb]; exact b) (xup2_s _ _ _ _) ?_ (fun p hq => by rw [xup2_n (by omega), xup2_n (by omega)])
  rw [xup2_n (by omega), xup2_s, fd_ch b, hb]
theorem k_111 {w : Int} {t : List Int} (hf : 10 < f) (hs : cSs S) (hp : cPs G) (h : cTx G (tBt t) t.length) (hl : t.length + 4 ≤ 3000) : ∃ G', c111 f 65 w (S, G, m) = some (S, G', m) ∧ cTx G' (tBt (t ++ [fdB w 24, fdB w 16, fdB w 8, fdB w 0])) (t ++ [fdB w 24, fdB w 16, fdB w 8, fdB w 0]).length ∧ cPs G' ∧ ∀ a j, ¬ (a = 65 ∧ j = 1) → a ≠ 66 → G' a j = G a j := by
  obtain ⟨f, rfl⟩ : ∃ t, f = t + 5 := ⟨f - 5, by omega⟩
  obtain ⟨u1, u2, u3, u4⟩ := fd_us w
  obtain ⟨G1, a1, a2, a3, a4⟩ := st_fd' (f := f + 5) (r3 := c111_3 (f + 5) (f + 4)) (m := m) hs hp (by decide) h (by omega) u1
  obtain ⟨G2, b1, b2, b3, b4⟩ := st_fd' (f := f + 5) (r3 := c111_3 (f + 5) (f + 3)) (m := m) hs a3 (by decide) a2 (by rw [List.length_append, List.length_singleton]; omega) u2
  obtain ⟨G3, d1, d2, d3, d4⟩ := st_fd' (f := f + 5) (r3 := c111_3 (f + 5) (f + 2)) (m := m) hs b3 (by decide) b2 (by rw [List.length_append, List.length_append, List.length_singleton, List.length_singleton]; omega) u3
  obtain ⟨G4, e1, e2, e3, e4⟩ := st_fd' (f := f + 5) (r3 := c111_3 (f + 5) (f + 1)) (m := m) hs d3 (by decide) d2 (by rw [List.length_append, List.length_append, List.length_append, List.length_singleton, List.length_singleton, List.length_singleton]; omega) u4
  have w1 : xwr (24 + -8) = 16 := by decide +kernel
  have w2 : xwr (16 + -8) = 8 := by decide +kernel
  have w3 : xwr (8 + -8) = 0 := by decide +kernel
  have w4 : xwr (0 + -8) = -8 := by decide +kernel
  rw [w1] at a1
  rw [w2] at b1
  rw [w3] at d1
  rw [w4] at e1
  refine ⟨G4, ?_, ?_, e3, fun a j y1 y2 => by rw [e4 a j y1 y2, d4 a j y1 y2, b4 a j y1 y2, a4 a j y1 y2]⟩
  · show c111_3b (c111_3 (f + 5) (f + 4)) (f + 5) 65 w 24 (S, G, m) = _
    rw [a1]
    show c111_3b (c111_3 (f + 5) (f + 3)) (f + 5) 65 w 16 (S, G1, m) = _
    rw [b1]
    show c111_3b (c111_3 (f + 5) (f + 2)) (f + 5) 65 w 8 (S, G2, m) = _
    rw [d1]
    show c111_3b (c111_3 (f + 5) (f + 1)) (f + 5) 65 w 0 (S, G3, m) = _
    rw [e1]
    show c111_3b (c111_3 (f + 5) f) (f + 5) 65 w (-8) (S, G4, m) = _
    unfold c111_3b
    rw [if_pos (by decide)]
  · rw [List.append_assoc, List.append_assoc, List.append_assoc] at e2
    exact e2
/-- the tape alone has changed -/
theorem cHs.tp {tx' : List Int} {G' : xG_} {n' : Nat} (h : cHs S G A (T, lns, hr, tx, kp, mt, pl, rf) n) (hn : n ≤ n') (hp : cPs G') (ht : cTx G' (tBt tx') tx'.length) (hG : ∀ a j, ¬ (a = 65 ∧ j = 1) → a ≠ 66 → G' a j = G a j) : cHs S G' A (T, lns, hr, tx', kp, mt, pl, rf) n' := by
  obtain ⟨⟨a1, a2, a3, a4⟩, ⟨P, b1, b2, b3⟩, ⟨c1, c2⟩, ⟨c3, c4⟩, c5, c6, c7, c8, c9⟩ := h
  have g : ∀ a j, a = 64 ∨ 66 < a → G' a j = G a j := fun a j y => hG a j (by omega) (by omega)
  have sf : xSf A G G' := fun a j y1 y2 => g a j (by omega)
  refine ⟨⟨a1, hp, a3.ge (fun a j y1 y2 => g a j (by omega)), a4⟩, ⟨P, b1.ge (Nat.le_refl _) (fun _ _ => rfl) sf (by rw [g _ _ (by omega)]; exact Int.le_refl _), fun y hy => (b2 y hy).ge (Nat.le_refl _) (fun _ _ => rfl) sf (fun a j y1 y2 => g a j (by omega)), b3.ge (Nat.le_refl _) (fun _ _ => rfl) sf ⟨g _ _ (by omega), g _ _ (by omega)⟩⟩, ⟨c1, by rw [g _ _ (by omega)]; exact c2⟩, ⟨by rw [g _ _ (by omega)]; exact c3, by rw [g _ _ (by omega)]; omega⟩, by rw [g _ _ (by omega)]; exact c5, by rw [g _ _ (by omega)]; exact c6, ht, c8.ge (fun _ _ => rfl) (fun a j y1 y2 => g a j (by omega)) ⟨g _ _ (by omega), g _ _ (by omega)⟩, c9.ge ⟨g _ _ (by omega), g _ _ (by omega)⟩ (fun j => g _ _ (by omega))⟩
/-- feed() -/
theorem k_169f {a b c d e v : Int} {tx' : List Int} (hf : 10 < f) (h : cHs S G A (T, lns, hr, tx, kp, mt, pl, rf) n) (hst : stFe tx a b c d e v tx') : ∃ G', c169 f 64 a b c d e (S, G, m) = some (v, (S, G', m)) ∧ cHs S G' A (T, lns, hr, tx', kp, mt, pl, rf) (n + 1) := by
  have hh := h
  obtain ⟨⟨hs, hp, _, _⟩, _, _, _, _, _, ht, _⟩ := h
  have g0 : ∀ {G' : xG_}, cPs G' → cq_gr 11 0 17 64 (S, G', m) = some 65 := fun {G'} hp' => o_gr (y := 65) (s64 hs) (p64_0 hp')
  have i1 : ∀ G' : xG_, cq_is 8 8 65 (S, G', m) = some () := fun G' => if_pos (s65 hs)
  have hl := ht.2.1
  have w : xwr ((tx.length : Int) + 20) = ((tx.length + 20 : Nat) : Int) := by rw [xwr_g _ (by omega) (by omega)]; omega
  have g1 : cq_gi 8 1 8 65 (S, G, m) = some (tx.length : Int) := by rw [o_gi (s65 hs), ht.1]
  rcases hst with ⟨h1, rfl, rfl⟩ | ⟨h1, rfl, rfl⟩
  · have len4 : ∀ (t : List Int) (x1 x2 x3 x4 : Int), (t ++ [x1, x2, x3, x4]).length = t.length + 4 := fun t x1 x2 x3 x4 => by rw [List.length_append]; rfl
    obtain ⟨G1, p1, p2, p3, p4⟩ := k_111 (w := a) (m := m) hf hs hp ht (by omega)
    obtain ⟨G2, q1, q2, q3, q4⟩ := k_111 (w := b) (m := m) hf hs p3 p2 (by rw [len4]; omega)
    obtain ⟨G3, r1, r2, r3, r4⟩ := k_111 (w := c) (m := m) hf hs q3 q2 (by rw [len4, len4]; omega)
    obtain ⟨G4, s1, s2, s3, s4⟩ := k_111 (w := d) (m := m) hf hs r3 r2 (by rw [len4, len4, len4]; omega)
    obtain ⟨G5, t1, t2, t3, t4⟩ := k_111 (w := e) (m := m) hf hs s3 s2 (by rw [len4, len4, len4, len4]; omega)
    refine ⟨G5, ?_, hh.tp (Nat.le_succ n) t3 ?_ (fun a j y1 y2 => by rw [t4 a j y1 y2, s4 a j y1 y2, r4 a j y1 y2, q4 a j y1 y2, p4 a j y1 y2])⟩
    · unfold c169
      rw [g0 hp, Option.bind_some, g1, Option.bind_some, w, if_pos (by omega), Option.bind_some, i1, Option.bind_some, p1, Option.bind_some, g0 p3, Option.bind_some, i1, Option.bind_some, q1, Option.bind_some, g0 q3, Option.bind_some, i1, Option.bind_some, r1, Option.bind_some, g0 r3, Option.bind_some, i1, Option.bind_some, s1, Option.bind_some, g0 s3, Option.bind_some, i1, Option.bind_some, t1, Option.bind_some]
    · rw [List.append_assoc, List.append_assoc, List.append_assoc, List.append_assoc] at t2
      exact t2
  · refine ⟨G, ?_, hh.tp (Nat.le_succ n) hp ht (fun _ _ _ _ => rfl)⟩
    unfold c169
    rw [g0 hp, Option.bind_some, g1, Option.bind_some, w, if_neg (by omega)]
/-- end() -/
theorem k_170 {k v : Int} {tx' : List Int} (h : cHs S G A (T, lns, hr, tx, kp, mt, pl, rf) n) (hst : stEn tx k v tx') : ∃ G', c170 f 64 k (S, G, m) = some (v, (S, G', m)) ∧ cHs S G' A (T, lns, hr, tx', kp, mt, pl, rf) (n + 1) := by
  have hh := h
  obtain ⟨⟨hs, hp, _, _⟩, _, _, _, _, _, ht, _⟩ := h
  have g0 : ∀ {G' : xG_}, cPs G' → cq_gr 11 0 17 64 (S, G', m) = some 65 := fun {G'} hp' => o_gr (y := 65) (s64 hs) (p64_0 hp')
  have g1 : cq_gi 8 1 8 65 (S, G, m) = some (tx.length : Int) := by rw [o_gi (s65 hs), ht.1]
  rcases hst with ⟨h1, rfl, rfl⟩ | ⟨h1, rfl, rfl⟩
  · have z : ∀ a j, ¬ (a = 65 ∧ j = 1) → a ≠ 66 → xup2 G 65 1 k a j = G a j := fun a j y1 y2 => xup2_n y1
    have hp1 : cPs (xup2 G 65 1 k) := hp.ge (fun a j hz => z a j (by
      rcases hz with z | z | z | z | z | z | z | ⟨z, z1, z2, k, z3⟩ | z | z | z | ⟨k, z1, z2, z3⟩ <;> omega) (by
      rcases hz with z | z | z | z | z | z | z | ⟨z, z1, z2, k, z3⟩ | z | z | z | ⟨k, z1, z2, z3⟩ <;> omega))
    refine ⟨xup2 G 65 1 k, ?_, hh.tp (Nat.le_succ n) hp1 ?_ z⟩
    · unfold c170
      rw [if_neg (by omega), g0 hp, Option.bind_some, g1, Option.bind_some, if_pos (by omega), Option.bind_some, o_p (s65 hs), Option.bind_some]
    · obtain ⟨a1, a2, a3, a4⟩ := ht
      have e : (tx.take k.toNat).length = k.toNat := by rw [List.length_take]; omega
      have e2 : ∀ p, p < k.toNat → tBt (tx.take k.toNat) p = tBt tx p := fun p hp => by
        unfold tBt
        rw [if_pos (by omega), if_pos (by omega), getD_e (by omega), getD_e (by omega), List.getElem_take]
      refine ⟨by rw [e, xup2_s]; omega, by omega, fun p => ⟨fun hp => ?_, fun hp => ?_⟩, fun p hp => ?_⟩
      · rw [e2 p (by omega)]; exact (a3 p).1 (by omega)
      · unfold tBt
        rw [if_neg (by omega)]
      · rw [e2 p (by omega), xup2_n (by omega)]; exact a4 p (by omega)
  · refine ⟨G, ?_, hh.tp (Nat.le_succ n) hp ht (fun _ _ _ _ => rfl)⟩
    unfold c170 c170_15
    by_cases c : k < 0
    · rw [if_pos c]
    · rw [if_neg c, g0 hp, Option.bind_some, g1, Option.bind_some, if_neg (by omega)]
end
end
section
/-! THE CLASS: line(), forget(), Arrays.fill -/
section
variable {f A hr n sl ln : Nat} {S : Nat → Nat × Nat × Nat} {G G' : xG_} {m : Nat × Nat} {T : List (List Int)} {P : Nat → Nat} {l : sLn} {lns : Nat → sLn} {tx : List Int} {kp : Nat × List (List Int)} {mt : Int × List Int} {pl rf : Int}
theorem cMo.is {mp : Nat} {mo : sMo} (h : cMo T S G A P mp mo) : ∃ s M, isMo T mo s M := by
  obtain ⟨s, M, _, _, _, _, _, _, h, _⟩ := h
  exact ⟨s, M, h⟩
theorem cLn.mo (h : cLn T S G A P ln l) : ∃ s M, isMo T (lMo l) s M := by
  obtain ⟨⟨_, mp, h, _⟩, _⟩ := h
  exact (h _ (Nat.le_add_right _ _) (Nat.le_refl _)).2.1.is
theorem cPn.nil {s : pPg} (h : G ln 8 = 0) : cPn G ln s [] := ⟨h, Nat.zero_le _, fun i hi => absurd hi (Nat.not_lt_zero i)⟩
theorem cCt.nil (h : ∀ y, y < 72 → G (ln + 7) y = 0 ∧ G (ln + 8) y = 0) : cCt T S G A ln (fun _ => -1) := ⟨fun _ => 0, fun c hc => ⟨⟨fun _ => rfl, fun _ => (h c hc).1⟩, (h c hc).2, .inl ⟨rfl, rfl⟩⟩⟩
/-- line() -/
theorem k_188 {k : Int} (h : cHs S G A (T, lns, hr, tx, kp, mt, pl, rf) n) : ∃ G', c188 f 64 k (S, G, m) = some (if 0 ≤ k ∧ k < 4 then (hr : Int) else -1, (S, G', m)) ∧ cHs S G' A (if 0 ≤ k ∧ k < 4 then (T, lUp lns k.toNat (lnT (lns k.toNat)), k.toNat, tx, kp, mt, pl, rf) else (T, lns, hr, tx, kp, mt, pl, rf)) (n + 1) := by
  by_cases c : 0 ≤ k ∧ k < 4
  · obtain ⟨x, rfl⟩ : ∃ x : Nat, k = (x : Int) := ⟨k.toNat, by omega⟩
    rw [if_pos c, if_pos c, Int.toNat_natCast]
    obtain ⟨⟨a1, a2, a3, a4⟩, ⟨P, b1, b2, b3⟩, ⟨c1, c2⟩, ⟨c3, c4⟩, c5, c6, c7, c8, c9⟩ := h
    have z : ∀ a j, ¬ (a = 64 ∧ (j = 6 ∨ j = 13)) → xup2 (xup2 G 64 6 (x : Int)) 64 13 ((0 : Nat) : Int) a j = G a j := fun a j y => by rw [xup2_n (by omega), xup2_n (by omega)]
    have z6 : xup2 (xup2 G 64 6 (x : Int)) 64 13 ((0 : Nat) : Int) 64 6 = (x : Int) := by rw [xup2_n (by omega), xup2_s]
    have z13 : xup2 (xup2 G 64 6 (x : Int)) 64 13 ((0 : Nat) : Int) 64 13 = 0 := xup2_s _ _ _ _
    refine ⟨xup2 (xup2 G 64 6 (x : Int)) 64 13 ((0 : Nat) : Int), ?_, ?_⟩
    · unfold c188
      rw [if_neg (by omega), if_pos (by omega), o_gi (s64 a1), Option.bind_some, c2, o_p (s64 a1), Option.bind_some, o_pr (s64 a1), Option.bind_some]
    · generalize xup2 (xup2 G 64 6 (x : Int)) 64 13 ((0 : Nat) : Int) = G' at z z6 z13
      have sf : xSf A G G' := fun a j y1 y2 => z a j (by omega)
      refine ⟨⟨a1, a2.ge (fun a j hz => z a j (by
        rcases hz with z | z | z | z | z | z | z | ⟨z, z1, z2, k, z3⟩ | z | z | z | ⟨k, z1, z2, z3⟩ <;> omega)), a3.ge (fun a j y1 y2 => z a j (by omega)), a4⟩, ⟨P, b1.ge (Nat.le_refl _) (fun _ _ => rfl) sf (by rw [z _ _ (by omega)]; exact Int.le_refl _), fun y hy => ?_, ?_⟩, ⟨by omega, z6⟩, ⟨by rw [z _ _ (by omega)]; exact c3, by rw [z _ _ (by omega)]; omega⟩, by rw [z _ _ (by omega)]; exact c5, by rw [z _ _ (by omega)]; exact c6, c7.ge (z _ _ (by omega)) (fun p => z _ _ (by omega)), c8.ge (fun _ _ => rfl) (fun a j y1 y2 => z a j (by omega)) ⟨z _ _ (by omega), z _ _ (by omega)⟩, c9.ge ⟨z _ _ (by omega), z _ _ (by omega)⟩ (fun j => z _ _ (by omega))⟩
      · have := (b2 y hy).ge (Nat.le_refl _) (fun _ _ => rfl) sf (fun a j y1 y2 => z a j (by omega)) (S' := S)
        unfold lUp
        by_cases d : y = x
        · rw [if_pos d, d]
          rw [d] at this
          exact this
        · rw [if_neg d]; exact this
      · unfold lUp
        rw [if_pos rfl]
        exact ⟨fun _ => z13, fun z => absurd z (by show ¬ (false = true); decide)⟩
  · rw [if_neg c, if_neg c]
    refine ⟨G, ?_, h.ge (Nat.le_succ n) (Nat.le_refl _) (fun _ _ => rfl) h.1.2.1 (fun _ _ _ _ => rfl)⟩
    unfold c188 c188_9
    by_cases d : k < 0
    · rw [if_pos d]
    · rw [if_neg d, if_neg (by omega)]
/-- a line's own CHANGES and texts are emptied -/
theorem cLn.fo (h : cLn T S G A P ln l) (hl : ln < 279) (h7 : 242 < ln ∧ ln + 8 < 279) (hG : ∀ a j, ¬ (a = ln ∧ (j = 7 ∨ j = 8)) → a ≠ ln + 7 → a ≠ ln + 8 → G' a j = G a j) (e7 : G' ln 7 = 0) (e8 : G' ln 8 = 0) (ec : ∀ y, y < 72 → G' (ln + 7) y = 0 ∧ G' (ln + 8) y = 0) : cLn T S G' A P ln (lnF l) := by
  obtain ⟨s, M, hm⟩ := h.mo
  obtain ⟨h1, ⟨h2, h3⟩, h4, _, _, h8, h9⟩ := h
  have sf : xSf A G G' := fun a j y1 y2 => hG a j (by omega) (by omega) (by omega)
  exact ⟨h1.ge (Nat.le_refl _) (fun _ _ => rfl) sf ⟨hG _ _ (by omega) (by omega) (by omega), hG _ _ (by omega) (by omega) (by omega), fun j _ _ => hG _ _ (by omega) (by omega) (by omega)⟩, ⟨fun p hp => by rw [hG _ _ (by omega) (by omega) (by omega)]; exact h2 p hp, fun c hc => by rw [hG _ _ (by omega) (by omega) (by omega)]; exact h3 c hc⟩, .inl ⟨rfl, e7⟩, ⟨s, hm.2.1, cPn.nil e8⟩, cCt.nil ec, by rw [hG _ _ (by omega) (by omega) (by omega)]; exact h8, by rw [hG _ _ (by omega) (by omega) (by omega)]; exact h9⟩
/-- forget() -/
theorem k_172 (hf : 100 < f) (h : cHs S G A (T, lns, hr, tx, kp, mt, pl, rf) n) : ∃ G', c172 f 64 (S, G, m) = some (((lns hr).2.2.2.1.1.length : Int), (S, G', m)) ∧ cHs S G' A (T, lUp lns hr (lnF (lns hr)), hr, tx, kp, mt, pl, rf) (n + 1) := by
  obtain ⟨⟨a1, a2, a3, a4⟩, ⟨P, b1, b2, b3⟩, ⟨c1, c2⟩, ⟨c3, c4⟩, c5, c6, c7, c8, c9⟩ := h
  have ls := lnSt_of a1 c1
  have lp := lnPt_of a2 c1
  have pl' := p_ln a2 c1
  obtain ⟨G', k1, k2, k3, k4, k5⟩ := k_7 (f := f) (m := m) hf ls lp
  obtain ⟨_, _, _, ⟨s, l5, l6⟩, _⟩ := b2 hr c1
  have g6 : cq_gi 11 6 17 64 (S, G, m) = some (hr : Int) := by rw [o_gi (s64 a1), c2]
  have i3 : cq_is 1 14 (243 + 9 * hr) (S, G, m) = some () := if_pos ls.1
  have z : ∀ a j, ¬ (243 + 9 * hr ≤ a ∧ a ≤ 243 + 9 * hr + 8) → G' a j = G a j := fun a j y => k2 a j (by omega) (by omega) (by omega)
  have sf : xSf A G G' := fun a j y1 y2 => z a j (by omega)
  refine ⟨G', ?_, ⟨⟨a1, a2.ge (fun a j hz => k2 a j (by
        rcases hz with z | z | z | z | z | z | z | ⟨z, z1, z2, k, z3⟩ | z | z | z | ⟨k, z1, z2, z3⟩ <;> omega) (by
        rcases hz with z | z | z | z | z | z | z | ⟨z, z1, z2, k, z3⟩ | z | z | z | ⟨k, z1, z2, z3⟩ <;> omega) (by
        rcases hz with z | z | z | z | z | z | z | ⟨z, z1, z2, k, z3⟩ | z | z | z | ⟨k, z1, z2, z3⟩ <;> omega)), a3.ge (fun a j y1 y2 => z a j (by omega)), a4⟩, ⟨P, b1.ge (Nat.le_refl _) (fun _ _ => rfl) sf (by rw [z _ _ (by omega)]; exact Int.le_refl _), fun y hy => ?_, ?_⟩, ⟨c1, by rw [z _ _ (by omega)]; exact c2⟩, ⟨by rw [z _ _ (by omega)]; exact c3, by rw [z _ _ (by omega)]; omega⟩, by rw [z _ _ (by omega)]; exact c5, by rw [z _ _ (by omega)]; exact c6, c7.ge (z _ _ (by omega)) (fun p => z _ _ (by omega)), c8.ge (fun _ _ => rfl) (fun a j y1 y2 => z a j (by omega)) ⟨z _ _ (by omega), z _ _ (by omega)⟩, c9.ge ⟨z _ _ (by omega), z _ _ (by omega)⟩ (fun j => z _ _ (by omega))⟩⟩
  · unfold c172
    rw [o_gr (y := 220) (s64 a1) (p64_5 a2), Option.bind_some, g6, Option.bind_some, o_ar (s220 a1) (by decide) c1 pl', Option.bind_some, o_gi ls.1, Option.bind_some, l6.1, Option.bind_some, Option.bind_some, o_ar (s220 a1) (by decide) c1 pl', Option.bind_some, i3, Option.bind_some, k1, Option.bind_some]
  · unfold lUp
    by_cases d : y = hr
    · rw [if_pos d, d]
      exact (b2 hr c1).fo (by omega) (by omega) k2 k3 k4 k5
    · rw [if_neg d]
      exact (b2 y hy).ge (Nat.le_refl _) (fun _ _ => rfl) sf (fun a j y1 y2 => z a j (by omega))
  · unfold lUp
    rw [if_pos rfl]
    exact b3.ge (Nat.le_refl _) (fun _ _ => rfl) sf ⟨z _ _ (by omega), z _ _ (by omega)⟩
/-- Arrays.fill of ints -/
theorem k_382l {x L : Nat} {v : Int} (hL : L < 2000000000) (hS : S x = (2, 3, L)) : ∀ (d i fu : Nat) (G : xG_), i + d = L → d < fu → ∃ G', c382_5 f fu x v (i : Int) (L : Int) (S, G, m) = some (S, G', m) ∧ (∀ j, i ≤ j → j < L → G' x j = v) ∧ (∀ a j, ¬ (a = x ∧ i ≤ j ∧ j < L) → G' a j = G a j) := by
  intro d
  induction d with
  | zero =>
    intro i fu G e1 e2
    obtain ⟨fu, rfl⟩ : ∃ t, fu = t + 1 := ⟨fu - 1, by omega⟩
    refine ⟨G, ?_, fun j y1 y2 => by omega, fun _ _ _ => rfl⟩
    show c382_5b (c382_5 f fu) f _ _ _ _ _ = _
    unfold c382_5b
    rw [if_pos (by omega)]
  | succ d ih =>
    intro i fu G e1 e2
    obtain ⟨fu, rfl⟩ : ∃ t, fu = t + 1 := ⟨fu - 1, by omega⟩
    obtain ⟨G', k1, k2, k3⟩ := ih (i + 1) fu (xup2 G x i v) (by omega) (by omega)
    have e : cq_s 3 x (i : Int) v (S, G, m) = some (S, xup2 G x i v, m) := by
      unfold cq_s
      simp only [hS]
      rw [if_pos ⟨trivial, trivial, by omega, by omega⟩, Int.toNat_natCast]
    refine ⟨G', ?_, fun j y1 y2 => ?_, fun a j y => by rw [k3 a j (by omega), xup2_n (by omega)]⟩
    · show c382_5b (c382_5 f fu) f _ _ _ _ _ = _
      unfold c382_5b
      rw [if_neg (by omega), e, Option.bind_some, xwr_g _ (by omega) (by omega)]
      exact k1
    · by_cases c : j = i
      · rw [c, k3 x i (by omega), xup2_s]
      · exact k2 j (by omega) y2
theorem k_382f {x L : Nat} {v : Int} (hL : L < f) (hL2 : L < 2000000000) (hS : S x = (2, 3, L)) : ∃ G', c382 f x v (S, G, m) = some (S, G', m) ∧ (∀ j, j < L → G' x j = v) ∧ (∀ a j, a ≠ x → G' a j = G a j) := by
  obtain ⟨G', k1, k2, k3⟩ := k_382l (f := f) (m := m) (v := v) hL2 hS L 0 f G (by omega) hL
  refine ⟨G', ?_, fun j hj => k2 j (Nat.zero_le _) hj, fun a j y => k3 a j (by omega)⟩
  have e : cq_ln x (S, G, m) = some (L : Int) := by
    unfold cq_ln
    simp only [hS]
    rw [if_pos ⟨trivial, by omega⟩]
  unfold c382
  rw [e, Option.bind_some]
  exact k1
end
end
