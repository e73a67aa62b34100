/-! The reference reads FORMULAS: operands; signs between them; all of it -/
theorem bind_pr {r : Option (Int × xG_)} : (r.bind fun R => some (R.1, R.2)) = r := by
  cases r with
  | none => rfl
  | some x => rfl
section
variable {f q n b : Nat} {B : Nat → Int} {e : xG_ → Option (Int × xG_)}
theorem l_oper_bad : rYB (g338 e f) := by
  intro G L h
  unfold g338
  rw [l_bad, if_neg h, Option.bind_some]
  have n1 : ¬ ((1 : Int), xlx G L).1 = 0 := fun q => absurd q (by decide : ¬ (1 : Int) = 0)
  rw [if_neg n1]
theorem l_oper_e {i : Nat} {G : xG_} {L : Nat → Int} (hE : rEw G q B n true) (hA : rAt q B n true i L) : g338 e f (xlx G L) =
    if kK (tstr B n true) i = 2 then ((g332 f (xlx G L)).bind fun R185 => g331 f 2 R185.1 0 0 0 R185.2)
    else if kK (tstr B n true) i = 40 then ((g336 f (xlx G L)).bind fun R170 => ((e R170).bind fun R175 => ((g337 f R175.2).bind fun R180 => some (R175.1, R180))))
    else if kK (tstr B n true) i = 1 ∧ kC (tstr B n true) i = 348 then g339 e f (xlx G L)
    else if 10 ≤ kK (tstr B n true) i ∧ kK (tstr B n true) i ≤ 13 then g340 f (L 9) (xlx G L)
    else ((g227 f (xlx G L)).bind fun R154 => (if R154.1 = 0 then some (0, R154.2) else (g331 f 1 0 0 0 (R154.2 0 21) R154.2).bind fun R160 => some (R160.1, R160.2))) := by
  obtain ⟨t4, tsg, tn, tv, tu, tnum, tend, tn9, tv9, tnum9, t6, t5, tlt, t3⟩ := hA.tk hE.1.2.1
  have h7 := hA.1
  have s40 := hA.issign' (f := f) hE (c := 40) (by unfold isSg; omega)
  have s40' : g220 f 40 (xlx G L) = _ := s40
  have wif := hA.isif' (f := f) hE
  obtain ⟨r12, r13, r14, r15, r16, r17, r18, r19, r20⟩ := hE.2.2
  have w17 := hA.isword' (f := f) (c := 28247) (k := 11) hE (by decide) (fun x h => (tres_inv (x := x)).2.2.2.2.2.1 h) (by decide)
  have w16 := hA.isword' (f := f) (c := 7109364) (k := 10) hE (by decide) (fun x h => (tres_inv (x := x)).2.2.2.2.1 h) (by decide)
  have w18 := hA.isword' (f := f) (c := 25298178) (k := 12) hE (by decide) (fun x h => (tres_inv (x := x)).2.2.2.2.2.2.1 h) (by decide)
  have w19 := hA.isword' (f := f) (c := 735738) (k := 13) hE (by decide) (fun x h => (tres_inv (x := x)).2.2.2.2.2.2.2 h) (by decide)
  have x20 : xlx G L 0 20 = G 0 20 := xlx_o _ _ (by omega)
  have x17 : xlx G L 0 17 = 28247 := by rw [xlx_o _ _ (by omega)]; exact r17
  have x16 : xlx G L 0 16 = 7109364 := by rw [xlx_o _ _ (by omega)]; exact r16
  have x18 : xlx G L 0 18 = 25298178 := by rw [xlx_o _ _ (by omega)]; exact r18
  have x19 : xlx G L 0 19 = 735738 := by rw [xlx_o _ _ (by omega)]; exact r19
  have k3 : (L 7 = -1 ∧ L 2 = 3) ↔ kK (tstr B n true) i = 2 := ⟨fun q => tv.mp q.2, fun q => ⟨h7, tv.mpr q⟩⟩
  have i1 : ¬ (1 : Int) = 0 := by decide
  have j1 : ¬ ¬ (1 : Int) = 0 ↔ False := by decide
  unfold g338
  rw [l_bad, if_pos h7, Option.bind_some]
  show (if (0 : Int) = 0 then Option.bind (g221 f 3 (xlx G L)) _ else _) = _
  rw [if_pos rfl, l_kind, Option.bind_some]
  by_cases c2 : kK (tstr B n true) i = 2
  · simp only [if_pos (k3.mpr c2), if_pos c2, if_neg i1, bind_pr]
  · simp only [if_neg (fun q => c2 (k3.mp q)), if_neg c2, if_true]
    rw [s40', Option.bind_some]
    by_cases c40 : kK (tstr B n true) i = 40
    · simp only [if_pos c40, if_neg i1]
    · simp only [if_neg c40, if_true, x20]
      rw [wif, Option.bind_some]
      by_cases cif : kK (tstr B n true) i = 1 ∧ kC (tstr B n true) i = 348
      · simp only [if_pos cif, if_neg i1, bind_pr]
      · simp only [if_neg cif, if_true, x17]
        rw [w17, Option.bind_some]
        unfold g338_116 g338_148
        by_cases c11 : kK (tstr B n true) i = 11
        · have c : 10 ≤ kK (tstr B n true) i ∧ kK (tstr B n true) i ≤ 13 := by omega
          simp only [if_pos c11, if_pos c, if_pos i1, xlx_9, bind_pr]
        · simp only [if_neg c11, x16]
          rw [if_neg (fun q => q trivial), w16, Option.bind_some]
          by_cases c10 : kK (tstr B n true) i = 10
          · have c : 10 ≤ kK (tstr B n true) i ∧ kK (tstr B n true) i ≤ 13 := by omega
            simp only [if_pos c10, if_pos c, if_pos i1, xlx_9, bind_pr]
          · simp only [if_neg c10, x18]
            rw [if_neg (fun q => q trivial), w18, Option.bind_some]
            by_cases c12 : kK (tstr B n true) i = 12
            · have c : 10 ≤ kK (tstr B n true) i ∧ kK (tstr B n true) i ≤ 13 := by omega
              simp only [if_pos c12, if_pos c, if_pos i1, xlx_9, bind_pr]
            · simp only [if_neg c12, x19]
              rw [if_neg (fun q => q trivial), w19, Option.bind_some]
              by_cases c13 : kK (tstr B n true) i = 13
              · have c : 10 ≤ kK (tstr B n true) i ∧ kK (tstr B n true) i ≤ 13 := by omega
                simp only [if_pos c13, if_pos c, if_neg i1, xlx_9, bind_pr]
              · have c : ¬ (10 ≤ kK (tstr B n true) i ∧ kK (tstr B n true) i ≤ 13) := by omega
                simp only [if_neg c13, if_neg c, if_true]
theorem pVal_62 {i : Nat} {r : Int × Nat} (h : pVal (tstr B n true) i = .inr r) {L : Nat → Int} (hl : ∀ j, kK (tstr B n true) j ≠ 0 → kK (tstr B n true) j ≠ 5 → j ≤ 61) : r.2 ≤ 62 := by
  unfold pVal at h
  split at h
  · rename_i c
    cases h
    have := hl i (by omega) (by omega)
    show i + 1 ≤ 62
    omega
  · split at h
    · split at h
      · rename_i c
        cases h
        have := hl (i + 1) (by omega) (by omega)
        show i + 2 ≤ 62
        omega
      · cases h
    · split at h
      · rename_i c
        cases h
        have := hl i (by omega) (by omega)
        show i + 1 ≤ 62
        omega
      · cases h
theorem k62 (j : Nat) (h0 : kK (tstr B n true) j ≠ 0) (h5 : kK (tstr B n true) j ≠ 5) : j ≤ 61 := by
  have e : kK (tstr B n true) j = if 0 ≤ B (tS B n j) ∧ true = true ∧ 62 ≤ j then 5 else tkd B n (tS B n j) := rfl
  rw [e] at h0 h5
  by_cases c : 0 ≤ B (tS B n j) ∧ true = true ∧ 62 ≤ j
  · rw [if_pos c] at h5
    exact absurd rfl h5
  · rw [if_neg c] at h0
    by_cases c2 : B (tS B n j) < 0
    · have : tkd B n (tS B n j) = 0 := if_pos c2
      exact absurd this h0
    · refine Decidable.byContradiction fun q => c ⟨by omega, rfl, by omega⟩
theorem l_oper (hf : n + 20 < f) (hq : rYB e) (hQ : b < 4 → rYP q B n 1 (b + 1) e) : rYP q B n 0 b (g338 e f) := by
  intro F G L N i hF hX hA hi hNi hw
  rw [if_neg (by decide), if_neg (by decide)] at hF
  obtain ⟨F, rfl⟩ : ∃ t, F = t + 1 := ⟨F - 1, by omega⟩
  have hE := hX.1
  have hB := hE.1.2.1
  have e0 := l_oper_e (f := f) (e := e) hE hA
  rw [pF_0]
  simp only
  by_cases c2 : kK (tstr B n true) i = 2
  · rw [if_pos c2] at e0 ⊢
    have h1 := l_cell (f := f) hf hE hA
    have hi61 := hA.lim c2 (by decide) (by decide)
    rw [e0]
    cases hp : pCell (tstr B n true) i with
    | inl w =>
      rw [hp] at h1
      refine ⟨(N.length : Int), nPut G N.length 2 0 0 0 0, xu L 7 ((q : Int) + w), ?_, rfl, nPut_ff, i, N.length + 1, Nat.le_refl _, hi, xup2_s _ _ _ _, by omega⟩
      rw [h1.1, Option.bind_some]
      exact l_node hX.2.1.1 (by omega)
    | inr r =>
      rw [hp] at h1
      obtain ⟨L1, u1, u2, u3, u4, u5⟩ := h1
      refine ⟨nPut G N.length 2 r.1 0 0 0, L1, ?_, u2, nPut_ff, hX.put, by show r.2 ≤ 62; omega⟩
      rw [u1, Option.bind_some]
      exact l_node hX.2.1.1 (by omega)
  rw [if_neg c2] at e0 ⊢
  by_cases c40 : kK (tstr B n true) i = 40
  · rw [if_pos c40] at e0 ⊢
    have h1 := l_open (f := f) hf hX hA
    have hi61 := hA.lim c40 (by decide) (by decide)
    rw [e0]
    cases hp : pOpen (tstr B n true) b i with
    | inl w =>
      rw [hp] at h1
      obtain ⟨v, L1, u1, u2⟩ := h1
      have hbad : L1 7 ≠ -1 := by omega
      obtain ⟨v2, k1⟩ := l_close_bad (f := f) (G := xup2 G 0 25 v) hbad
      refine ⟨0, xup2 (xup2 G 0 25 v) 0 25 v2, L1, ?_, u2, xff.u25.tr xff.u25, i, N.length, Nat.le_refl _, hi, ?_, by omega⟩
      · rw [u1, Option.bind_some, hq _ _ hbad, Option.bind_some, k1]
        rfl
      · rw [xup2_n (by omega), xup2_n (by omega)]
        exact hX.2.1.1
    | inr j =>
      rw [hp] at h1
      obtain ⟨L1, u1, u2, u3, u4, u5⟩ := h1
      have hX1 : rYX (xup2 G 0 25 ((b + 1 : Nat) : Int)) q B n N (b + 1) := hX.b (by omega)
      have h2 := hQ u4 F _ L1 N j (by rw [if_pos rfl]; omega) hX1 u2 (by omega) (by omega) hw
      rw [u1, Option.bind_some]
      show pok (pbind (pF (tstr B n true) F 1 (b + 1) (N, 0, j)) _) _ _
      cases hp1 : pF (tstr B n true) F 1 (b + 1) (N, 0, j) with
      | inl w =>
        rw [hp1] at h2
        obtain ⟨v, G', L', a1, a2, a3, k, c, a4, a5, a6, a7⟩ := h2
        have hbad : L' 7 ≠ -1 := by omega
        obtain ⟨v2, k1⟩ := l_close_bad (f := f) (G := G') hbad
        refine ⟨v, xup2 G' 0 25 v2, L', ?_, a2, (xff.u25.tr a3).tr xff.u25, k, c, by omega, a5, by rw [xup2_n (by omega)]; exact a6, by omega⟩
        rw [a1, Option.bind_some, k1]
        rfl
      | inr x =>
        rw [hp1] at h2
        obtain ⟨G2, L2, y1, y2, y3, y4, y5⟩ := h2
        obtain ⟨p1, p2, p3, p4, p5, p6⟩ := pF_le (tstr_ck hB) F 1 (b + 1) _ x (by decide) hp1 hw (fun q => absurd q (by decide))
        simp only at p1 p2 p3 p4
        have h3 := l_close (f := f) hf y4.1 y4.2.2.1 (by omega) y2
        rw [y1, Option.bind_some]
        show pok (pbind (pNeed (tstr B n true) 41 x.2.2) _) _ _
        cases hp2 : pNeed (tstr B n true) 41 x.2.2 with
        | inl w =>
          rw [hp2] at h3
          obtain ⟨v, L3, z1, z2⟩ := h3
          refine ⟨x.2.1, xup2 G2 0 25 v, L3, ?_, z2, (xff.u25.tr y3).tr xff.u25, x.2.2, x.1.length, by omega, y5, by rw [xup2_n (by omega)]; exact y4.2.1.1, by omega⟩
          rw [z1]
          rfl
        | inr m =>
          rw [hp2] at h3
          obtain ⟨L3, z1, z2, z3, z4⟩ := h3
          have := y2.lim z4 (by decide) (by decide)
          refine ⟨xup2 G2 0 25 (b : Int), L3, ?_, z2, (xff.u25.tr y3).tr xff.u25, y4.b (by omega), by show m ≤ 62; omega⟩
          rw [z1]
          rfl
  rw [if_neg c40] at e0 ⊢
  by_cases cif : kK (tstr B n true) i = 1 ∧ kC (tstr B n true) i = 348
  · rw [if_pos cif] at e0 ⊢
    rw [e0]
    exact l_if hf hq hQ hX hA hi hNi hw (by omega) cif.1 cif.2
  rw [if_neg cif] at e0 ⊢
  by_cases cof : 10 ≤ kK (tstr B n true) i ∧ kK (tstr B n true) i ≤ 13
  · rw [if_pos cof] at e0 ⊢
    rw [e0]
    exact l_of hf hX hA hi hNi cof
  rw [if_neg cof] at e0 ⊢
  rw [e0]
  have h1 := l_value' (f := f) hf hE hA
  cases hp : pVal (tstr B n true) i with
  | inl w =>
    rw [hp] at h1
    obtain ⟨L1, u1, u2⟩ := h1
    refine ⟨0, G, L1, ?_, u2, .rf G, i, N.length, Nat.le_refl _, hi, hX.2.1.1, by omega⟩
    rw [u1, Option.bind_some]
    rfl
  | inr r =>
    rw [hp] at h1
    obtain ⟨L1, u1, u2, u3, u4⟩ := h1
    have f1 : xff G (xup2 G 0 21 r.1) := xff.up (.inl ⟨rfl, .inl rfl⟩)
    have hX1 : rYX (xup2 G 0 21 r.1) q B n N b := ⟨hE.fr f1, hX.2.1.ge (xup2_n (by omega)) (fun a j _ _ => xup2_n (by omega)), by rw [xup2_n (by omega)]; exact hX.2.2.1, hX.2.2.2⟩
    refine ⟨nPut (xup2 G 0 21 r.1) N.length 1 0 0 0 r.1, L1, ?_, u2, f1.tr nPut_ff, hX1.put, (by have := pVal_62 (L := L) hp k62; exact this)⟩
    have i1 : ¬ (1 : Int) = 0 := by decide
    rw [u1, Option.bind_some]
    simp only [if_neg i1]
    rw [xlx_o _ _ (by omega), xup2_s, l_node hX1.2.1.1 (by omega)]
    rfl
end
