/-! The reference reads programs: inputs, outputs -/
section
variable {f q n o i c cb F : Nat} {B : Nat → Int} {lm : Bool} {G : xG_} {L : Nat → Int} {N : List Int} {ins : List (Int × Int × Int)} {outs : List Int} {M : List pMn} {R : List pRu}
theorem rPS.nm {G1 : xG_} {N1 : List Int} (hS : rPS G q B n lm o c N ins outs M R) (hN : rNs G1 o N1) (h : ∀ a j, ¬ (a = o + 1 ∧ N.length ≤ j) → ¬ (a = o ∧ j = 8) → G1 a j = G a j) : rPS G1 q B n lm o c N1 ins outs M R := by
  obtain ⟨hE, _, hM, h37, h9, hR24, hR, hfl⟩ := hS
  have ho := hE.2.2.2.2
  have f1 : xfg o 24 c (min M.length 420) N.length G G1 := fun a j hj => h a j (by omega) (by omega)
  exact ⟨hE.fg f1, hN, hM.fr (h _ _ (by omega) (by omega)) (fun a j _ _ => h _ _ (by omega) (by omega)), by rw [h _ _ (by omega) (by omega)]; exact h37, by rw [h _ _ (by omega) (by omega)]; exact h9, hR24, fun r hr => (hR r hr).fg f1 (by omega) (Nat.le_refl _), fun p hp => by rw [h _ _ (by omega) (by omega), h _ _ (by omega) (by omega), h _ _ (by omega) (by omega), h _ _ (by omega) (by omega)]; exact hfl p hp⟩
/-- the end of an input -/
theorem l_i59 {G1 : xG_} {L1 : Nat → Int} {N1 : List Int} {j pl : Nat} {p m k : Int} {e : xG_ → Option xG_} (hf : n + 20 < f) (hS : rPS G1 q B n lm o c N1 ins outs M R) (hG : xfg o 0 0 0 0 G G1) (hp : 0 ≤ p ∧ p < N1.length) (hA : rAt q B n lm j L1) (hc : c ≤ cb + j) (he : e (xlx G L) = g234_59 f ((q : Int) + pl) p m k (xlx G1 L1)) :
    rGP f q B n lm o cb G L c e (pbind (pNeed (tstr B n lm) 46 j) fun j => .inr (N1, ins ++ [(p, m, k)], outs, M ++ [(p, pl, m, 1)], R, j)) := by
  obtain ⟨hE, hN, hM, h37, h9, hR24, hR, hfl⟩ := hS
  have h22 := hE.2.2.2.1
  have ho := hE.2.2.2.2
  have hN16 := hN.2.1
  unfold rGP pNeed
  rw [he]
  unfold g234_59
  by_cases c1 : kK (tstr B n lm) j = 46
  · rw [if_pos c1]
    obtain ⟨L2, n1, n2⟩ := l_need hf hE hA (c := 46) (by unfold isSg; omega) c1
    rw [show rsc 46 = 46 from rfl] at n1
    rw [n1]
    simp only [Option.bind_some]
    rw [l_bad, if_pos n2.1]
    simp only [Option.bind_some]
    obtain ⟨k1, k2, k3, k4⟩ := hfl p.toNat (by omega)
    have ep : ((p.toNat : Nat) : Int) = p := by omega
    rw [ep] at k1 k2 k3 k4
    let G2 := if pIn ins p = true then xup2 G1 (o + 6) p.toNat 1 else xup2 (xup2 G1 (o + 6) p.toNat 1) (o + 3) p.toNat k
    have go : ∀ a b, ¬ ((a = o + 6 ∨ a = o + 3) ∧ b = p.toNat) → G2 a b = G1 a b := by
      intro a b hab
      show (if pIn ins p = true then xup2 G1 (o + 6) p.toNat 1 else xup2 (xup2 G1 (o + 6) p.toNat 1) (o + 3) p.toNat k) a b = _
      split
      · rw [xup2_n (by omega)]
      · rw [xup2_n (by omega), xup2_n (by omega)]
    have f2 : xfg o 24 c (min M.length 420) N1.length G1 G2 := fun a b hab => go a b (by omega)
    have hE2 := hE.fg f2
    have hM2 : rMs G2 o q M := hM.fr (go _ _ (by omega)) (fun a b _ _ => go _ _ (by omega))
    have f3 : xfg o 24 c (min M.length 420) N1.length G1 (rMen G2 o (min M.length 420) p ((q : Int) + pl) m 1) := f2.tr ((rMen_fl (r := 24) (x := 8 * 24) (v0 := 0) (c0 := c) (n0 := N1.length) G2).fg (Nat.le_refl _)) (Nat.le_refl _) (Nat.le_refl _) (Nat.le_refl _) (Nat.le_refl _)
    refine ⟨rMen G2 o (min M.length 420) p ((q : Int) + pl) m 1, L2, c, ?_, n2, hG.tr f3.w (Nat.le_refl _) (Nat.le_refl _) (Nat.le_refl _) (Nat.le_refl _), ⟨hE.fg f3, ⟨?_, hN16, fun y hy => ?_⟩, hM2.add (p, pl, m, 1), ?_, ?_, hR24, fun r hr => (hR r hr).fg f3 (by have : r < R.length := hr; omega) (Nat.le_refl _), fun x hx => ?_⟩, Nat.le_refl _, by show c ≤ cb + (j + 1); omega⟩
    · rw [if_pos trivial, xlx_o _ _ (by omega), h22, if_neg (by omega), if_pos (by omega), Int.toNat_natCast, xlx_o _ _ (by omega), k1]
      have fin : ∀ G4 : xG_, G4 = G2 → g234_118 f ((q : Int) + pl) p m (xlx G4 L2) = some (xlx (rMen G2 o (min M.length 420) p ((q : Int) + pl) m 1) L2) := by
        intro G4 e4
        rw [e4]
        unfold g234_118
        rw [l_men hE2 hM2.1 (by omega)]
        rfl
      by_cases ci : pIn ins p = true
      · rw [if_pos (by unfold b01; rw [if_pos ci]; decide)]
        unfold g234_90
        rw [xlx_o _ _ (by omega), h22, if_neg (by omega), if_pos (by omega), Int.toNat_natCast, xlx_upo _ _ _ (by omega)]
        simp only [Option.bind_some]
        rw [if_pos trivial]
        exact fin _ (by show _ = if pIn ins p = true then _ else _; rw [if_pos ci])
      · rw [if_neg (by unfold b01; rw [if_neg ci]; decide)]
        unfold g234_90
        rw [xlx_o _ _ (by omega), h22, if_neg (by omega), if_pos (by omega), Int.toNat_natCast, xlx_upo _ _ _ (by omega)]
        simp only [Option.bind_some]
        rw [if_neg (by decide), xlx_o _ _ (by omega), xup2_n (by omega), h22, if_neg (by omega), if_pos (by omega), Int.toNat_natCast, xlx_upo _ _ _ (by omega)]
        exact fin _ (by show _ = if pIn ins p = true then _ else _; rw [if_neg ci])
    · rw [rMen_o (by omega), go _ _ (by omega)]; exact hN.1
    · rw [rMen_o (by omega), go _ _ (by omega)]; exact hN.2.2 y hy
    · rw [rMen_o (by omega), go _ _ (by omega)]; exact h37
    · rw [rMen_o (by omega), go _ _ (by omega)]; exact h9
    · obtain ⟨y1, y2, y3, y4⟩ := hfl x hx
      rw [rMen_o (by omega), rMen_o (by omega), rMen_o (by omega), rMen_o (by omega), pIn_1, pKy_1]
      refine ⟨?_, ?_, by rw [go _ _ (by omega)]; exact y3, by rw [go _ _ (by omega)]; exact y4⟩
      · show _ = if (x : Int) = p then 1 else _
        by_cases cx : (x : Int) = p
        · rw [if_pos cx]
          have ex : x = p.toNat := by omega
          rw [ex]
          show (if pIn ins p = true then xup2 G1 (o + 6) p.toNat 1 else xup2 (xup2 G1 (o + 6) p.toNat 1) (o + 3) p.toNat k) (o + 6) p.toNat = 1
          split
          · rw [xup2_s]
          · rw [xup2_n (by omega), xup2_s]
        · rw [if_neg cx, go _ _ (by omega)]; exact y1
      · show _ = if (x : Int) = p ∧ pIn ins x = false then k else _
        by_cases cx : (x : Int) = p
        · have ex : x = p.toNat := by omega
          by_cases ci : pIn ins p = true
          · rw [if_neg (by rw [cx, ci]; simp)]
            rw [ex]
            show (if pIn ins p = true then xup2 G1 (o + 6) p.toNat 1 else xup2 (xup2 G1 (o + 6) p.toNat 1) (o + 3) p.toNat k) (o + 3) p.toNat = _
            rw [if_pos ci, xup2_n (by omega), ep]; exact k2
          · rw [if_pos ⟨cx, by rw [cx]; simpa using ci⟩]
            rw [ex]
            show (if pIn ins p = true then xup2 G1 (o + 6) p.toNat 1 else xup2 (xup2 G1 (o + 6) p.toNat 1) (o + 3) p.toNat k) (o + 3) p.toNat = _
            rw [if_neg ci, xup2_s]
        · rw [if_neg (fun h => cx h.1), go _ _ (by omega)]; exact y2
  · rw [if_neg c1]
    have n1 := l_need_no (f := f) hE hA (c := 46) (by unfold isSg; omega) c1
    rw [show rsc 46 = 46 from rfl] at n1
    refine ⟨G1, xu L1 7 ((q : Int) + kS (tstr B n lm) j), ?_, rfl, hG⟩
    rw [n1]
    simp only [Option.bind_some]
    rw [l_bad, if_neg (by show ¬ (q : Int) + _ = -1; omega)]
    simp only [Option.bind_some]
    rw [if_neg (by decide)]
theorem l_i59_bad {x p m k : Int} (h : L 7 ≠ -1) : g234_59 f x p m k (xlx G L) = some (xlx G L) := by
  unfold g234_59
  rw [l_need_bad h]
  simp only [Option.bind_some]
  rw [l_bad, if_neg h]
  simp only [Option.bind_some]
  rw [if_neg (by decide)]
theorem l_word_bad (h : L 7 ≠ -1) (x : Int) : g225 f x (xlx G L) = some (0, xlx G L) := by
  rw [l_word, if_neg (fun q => h q.1)]
theorem l_input (hf : n + 20 < f) (hS : rPS G q B n lm o c N ins outs M R) (hA : rAt q B n lm i L) (hc : c ≤ cb + i) (hK : kK (tstr B n lm) i = 6) : rGP f q B n lm o cb G L c (g234 f) (pInput (tstr B n lm) (N, ins, outs, M, R, i)) := by
  have hE := hS.1
  have h22 := hE.2.2.2.1
  have ho := hE.2.2.2.2
  have hN := hS.2.1
  unfold pInput rGP
  show pok (pbind (pPred (tstr B n lm) N (i + 1)) _) _ _
  unfold g234
  obtain ⟨L1, p1, p2⟩ := hA.wd (f := f) hf hE (by omega)
  rw [p1]
  simp only [Option.bind_some]
  have h1 := l_nname (f := f) (by omega) hE hN p2
  rw [xlx_4, p2.at4 hE]
  cases hp : pPred (tstr B n lm) N (i + 1) with
  | inl w =>
    rw [hp] at h1
    obtain ⟨L2, a1, a2⟩ := h1
    have hbad : L2 7 ≠ -1 := by omega
    refine ⟨G, L2, ?_, a2, .rf _ _ _ _ _ _⟩
    rw [a1]
    simp only [Option.bind_some]
    rw [l_pass_bad hbad]
    simp only [Option.bind_some]
    rw [l_need_bad hbad]
    simp only [Option.bind_some]
    rw [l_num_bad hbad]
    simp only [Option.bind_some]
    rw [l_word_bad hbad]
    simp only [Option.bind_some]
    rw [if_pos trivial, l_i59_bad hbad]
  | inr p =>
    rw [hp] at h1
    obtain ⟨G1, a1, a2, a3, a4⟩ := h1
    have hple := pPred_le hp
    have hS1 := hS.nm a2 a3
    have hE1 := hS1.1
    have f1 : xfg o 0 0 0 0 G G1 := fun a j hj => a3 a j (by omega) (by omega)
    obtain ⟨L2, q1, q2⟩ := l_pass hf hE1 p2 a4 (by omega) (by omega)
    rw [a1]
    simp only [Option.bind_some]
    rw [q1]
    simp only [Option.bind_some]
    show pok (pbind (pNeed (tstr B n lm) 47 p.2.2) _) _ _
    rw [hple.1]
    unfold pNeed
    by_cases c47 : kK (tstr B n lm) (i + 1 + 1) = 47
    · rw [if_pos c47]
      obtain ⟨L3, n1, n2⟩ := l_need hf hE1 q2 (c := 47) (by unfold isSg; omega) c47
      rw [show rsc 47 = 47 from rfl] at n1
      rw [n1]
      simp only [Option.bind_some]
      have h2 := l_num (f := f) (hi := 4) hf hE1 n2 (by decide)
      show pok (pbind (pNum (tstr B n lm) 4 (i + 1 + 1 + 1)) _) _ _
      cases hp2 : pNum (tstr B n lm) 4 (i + 1 + 1 + 1) with
      | inl w =>
        rw [hp2] at h2
        obtain ⟨L4, b1, b2⟩ := h2
        have hbad : L4 7 ≠ -1 := by omega
        refine ⟨G1, L4, ?_, b2, f1⟩
        rw [b1]
        simp only [Option.bind_some]
        rw [l_word_bad hbad]
        simp only [Option.bind_some]
        rw [if_pos trivial, l_i59_bad hbad]
      | inr m =>
        rw [hp2] at h2
        obtain ⟨L4, b1, b2, b3, b4⟩ := h2
        have hm : i + 1 + 1 + 1 ≤ m.2 := by
          unfold pNum at hp2
          split at hp2
          · cases hp2; simp only; omega
          · cases hp2
        rw [b1]
        simp only [Option.bind_some]
        rw [xlx_o _ _ (by omega), hE1.2.2.1.2.2.1, b2.isword hE1 (c := 16099) (k := 8) rfl (fun x h => tres_inv.2.2.1 h) (by decide)]
        simp only [Option.bind_some, i10]
        show pok (pbind (if kK (tstr B n lm) m.2 = 8 then pNum (tstr B n lm) (m.1 - 1) (m.2 + 1) else .inr (0, m.2)) _) _ _
        by_cases c8 : kK (tstr B n lm) m.2 = 8
        · rw [if_pos c8]
          simp only [if_neg (fun h : ¬ _ => h c8)]
          obtain ⟨L5, w1, w2⟩ := b2.wd (f := f) hf hE1 (by omega)
          rw [w1]
          simp only [Option.bind_some]
          rw [xwr_g _ (by omega) (by omega)]
          have h3 := l_num (f := f) (hi := m.1 - 1) hf hE1 w2 (by omega)
          cases hp3 : pNum (tstr B n lm) (m.1 - 1) (m.2 + 1) with
          | inl w =>
            rw [hp3] at h3
            obtain ⟨L6, d1, d2⟩ := h3
            refine ⟨G1, L6, ?_, d2, f1⟩
            rw [d1]
            exact l_i59_bad (by omega)
          | inr k =>
            rw [hp3] at h3
            obtain ⟨L6, d1, d2, d3, d4⟩ := h3
            have hk : m.2 + 1 ≤ k.2 := by
              unfold pNum at hp3
              split at hp3
              · cases hp3; simp only; omega
              · cases hp3
            have h4 := l_i59 (e := fun _ => g234_59 f ((q : Int) + kS (tstr B n lm) (i + 1)) p.1 m.1 k.1 (xlx G1 L6)) (G := G) (L := L) (cb := cb) (pl := kS (tstr B n lm) (i + 1)) hf hS1 f1 ⟨hple.2.2.2.1, hple.2.2.2.2⟩ d2 (by omega) rfl
            rw [d1]
            exact h4
        · rw [if_neg c8]
          simp only [if_pos c8]
          exact l_i59 (e := fun _ => g234_59 f ((q : Int) + kS (tstr B n lm) (i + 1)) p.1 m.1 0 (xlx G1 L4)) (G := G) (L := L) (cb := cb) (pl := kS (tstr B n lm) (i + 1)) hf hS1 f1 ⟨hple.2.2.2.1, hple.2.2.2.2⟩ b2 (by omega) rfl
    · rw [if_neg c47]
      have n1 := l_need_no (f := f) hE1 q2 (c := 47) (by unfold isSg; omega) c47
      rw [show rsc 47 = 47 from rfl] at n1
      have hbad : xu L2 7 ((q : Int) + kS (tstr B n lm) (i + 1 + 1)) 7 ≠ -1 := by show (q : Int) + _ ≠ -1; omega
      refine ⟨G1, xu L2 7 ((q : Int) + kS (tstr B n lm) (i + 1 + 1)), ?_, rfl, f1⟩
      rw [n1]
      simp only [Option.bind_some]
      rw [l_num_bad hbad]
      simp only [Option.bind_some]
      rw [l_word_bad hbad]
      simp only [Option.bind_some]
      rw [if_pos trivial, l_i59_bad hbad]
theorem l_output (hf : n + 20 < f) (hS : rPS G q B n lm o c N ins outs M R) (hA : rAt q B n lm i L) (hc : c ≤ cb + i) (hK : kK (tstr B n lm) i = 7) : rGP f q B n lm o cb G L c (g235 f) (pOutput (tstr B n lm) (N, ins, outs, M, R, i)) := by
  have hE := hS.1
  have ho := hE.2.2.2.2
  have hN := hS.2.1
  unfold pOutput rGP
  show pok (pbind (pPred (tstr B n lm) N (i + 1)) _) _ _
  unfold g235
  obtain ⟨L1, p1, p2⟩ := hA.wd (f := f) hf hE (by omega)
  rw [p1]
  simp only [Option.bind_some]
  have h1 := l_nname (f := f) (by omega) hE hN p2
  rw [xlx_4, p2.at4 hE]
  cases hp : pPred (tstr B n lm) N (i + 1) with
  | inl w =>
    rw [hp] at h1
    obtain ⟨L2, a1, a2⟩ := h1
    have hbad : L2 7 ≠ -1 := by omega
    refine ⟨G, L2, ?_, a2, .rf _ _ _ _ _ _⟩
    rw [a1]
    simp only [Option.bind_some]
    rw [l_pass_bad hbad]
    simp only [Option.bind_some]
    rw [l_need_bad hbad]
    simp only [Option.bind_some]
    rw [l_bad, if_neg hbad]
    simp only [Option.bind_some]
    rw [if_neg (by decide)]
  | inr p =>
    rw [hp] at h1
    obtain ⟨G1, a1, a2, a3, a4⟩ := h1
    have hple := pPred_le hp
    have hS1 := hS.nm a2 a3
    have hS1' := hS1
    obtain ⟨hE1, hN1, hM, h37, h9, hR24, hR, hfl⟩ := hS1'
    have h22 := hE1.2.2.2.1
    have hN16 := hN1.2.1
    have f1 : xfg o 0 0 0 0 G G1 := fun a j hj => a3 a j (by omega) (by omega)
    obtain ⟨L2, q1, q2⟩ := l_pass hf hE1 p2 a4 (by omega) (by omega)
    rw [a1]
    simp only [Option.bind_some]
    rw [q1]
    simp only [Option.bind_some]
    show pok (pbind (pNeed (tstr B n lm) 46 p.2.2) _) _ _
    rw [hple.1]
    unfold pNeed
    by_cases c46 : kK (tstr B n lm) (i + 1 + 1) = 46
    · rw [if_pos c46]
      obtain ⟨L3, n1, n2⟩ := l_need hf hE1 q2 (c := 46) (by unfold isSg; omega) c46
      rw [show rsc 46 = 46 from rfl] at n1
      rw [n1]
      simp only [Option.bind_some]
      rw [l_bad, if_pos n2.1]
      simp only [Option.bind_some]
      have f2 : xfg o 24 c (min M.length 420) p.2.1.length G1 (xup2 G1 (o + 7) p.1.toNat 1) := xfg.up _ (by omega)
      have hE2 := hE1.fg f2
      have hM2 : rMs (xup2 G1 (o + 7) p.1.toNat 1) o q M := hM.fr (xup2_n (by omega)) (fun a b _ _ => xup2_n (by omega))
      have f3 : xfg o 24 c (min M.length 420) p.2.1.length G1 (rMen (xup2 G1 (o + 7) p.1.toNat 1) o (min M.length 420) p.1 ((q : Int) + kS (tstr B n lm) (i + 1)) (-1) 2) := f2.tr ((rMen_fl (r := 24) (x := 8 * 24) (v0 := 0) (c0 := c) (n0 := p.2.1.length) _).fg (Nat.le_refl _)) (Nat.le_refl _) (Nat.le_refl _) (Nat.le_refl _) (Nat.le_refl _)
      refine ⟨rMen (xup2 G1 (o + 7) p.1.toNat 1) o (min M.length 420) p.1 ((q : Int) + kS (tstr B n lm) (i + 1)) (-1) 2, L3, c, ?_, n2, f1.tr f3.w (Nat.le_refl _) (Nat.le_refl _) (Nat.le_refl _) (Nat.le_refl _), ⟨hE1.fg f3, ⟨?_, hN16, fun y hy => ?_⟩, hM2.add (p.1, kS (tstr B n lm) (i + 1), -1, 2), ?_, ?_, hR24, fun r hr => (hR r hr).fg f3 (by have : r < R.length := hr; omega) (Nat.le_refl _), fun x hx => ?_⟩, Nat.le_refl _, by show c ≤ cb + (i + 1 + 1 + 1); omega⟩
      · rw [if_pos trivial, xlx_o _ _ (by omega), h22, if_neg (by omega), if_pos (by omega), Int.toNat_natCast, xlx_upo _ _ _ (by omega)]
        rw [l_men hE2 hM2.1 (by omega)]
        rfl
      · rw [rMen_o (by omega), xup2_n (by omega)]; exact hN1.1
      · rw [rMen_o (by omega), xup2_n (by omega)]; exact hN1.2.2 y hy
      · rw [rMen_o (by omega), xup2_n (by omega)]; exact h37
      · rw [rMen_o (by omega), xup2_n (by omega)]; exact h9
      · obtain ⟨y1, y2, y3, y4⟩ := hfl x hx
        rw [rMen_o (by omega), rMen_o (by omega), rMen_o (by omega), rMen_o (by omega), pOu_1]
        refine ⟨by rw [xup2_n (by omega)]; exact y1, by rw [xup2_n (by omega)]; exact y2, ?_, by rw [xup2_n (by omega)]; exact y4⟩
        by_cases cx : (x : Int) = p.1
        · rw [if_pos cx, show p.1.toNat = x by omega, xup2_s]
        · rw [if_neg cx, xup2_n (by omega)]; exact y3
    · rw [if_neg c46]
      have n1 := l_need_no (f := f) hE1 q2 (c := 46) (by unfold isSg; omega) c46
      rw [show rsc 46 = 46 from rfl] at n1
      have hbad : xu L2 7 ((q : Int) + kS (tstr B n lm) (i + 1 + 1)) 7 ≠ -1 := by show (q : Int) + _ ≠ -1; omega
      refine ⟨G1, xu L2 7 ((q : Int) + kS (tstr B n lm) (i + 1 + 1)), ?_, rfl, f1⟩
      rw [n1]
      simp only [Option.bind_some]
      rw [l_bad, if_neg hbad]
      simp only [Option.bind_some]
      rw [if_neg (by decide)]
/-- statement by statement -/
theorem pPg_i {t : tStr} {F : Nat} {s s' : pPg} : (pInput t s = .inr s' → s.2.2.2.2.2 < s'.2.2.2.2.2) ∧ (pOutput t s = .inr s' → s.2.2.2.2.2 < s'.2.2.2.2.2) ∧ (pRule t F s = .inr s' → s.2.2.2.2.2 < s'.2.2.2.2.2) := by
  refine ⟨fun h => ?_, fun h => ?_, fun h => ?_⟩
  · unfold pInput at h
    obtain ⟨p, h1, h⟩ := pbind_inr h
    obtain ⟨j, h2, h⟩ := pbind_inr h
    obtain ⟨m, h3, h⟩ := pbind_inr h
    obtain ⟨k, h4, h⟩ := pbind_inr h
    obtain ⟨j2, h5, h⟩ := pbind_inr h
    have a1 := pPred_le h1
    have a2 := pNeed_le h2
    have a5 := pNeed_le h5
    have a3 : j < m.2 := by
      unfold pNum at h3
      split at h3
      · cases h3; simp only; omega
      · cases h3
    have a4 : m.2 ≤ k.2 := by
      split at h4
      · unfold pNum at h4
        split at h4
        · cases h4; simp only; omega
        · cases h4
      · cases h4; simp only; omega
    cases h
    simp only
    omega
  · unfold pOutput at h
    obtain ⟨p, h1, h⟩ := pbind_inr h
    obtain ⟨j, h2, h⟩ := pbind_inr h
    have a1 := pPred_le h1
    have a2 := pNeed_le h2
    cases h
    simp only
    omega
  · have e : s = (s.1, s.2.1, s.2.2.1, s.2.2.2.1, s.2.2.2.2.1, s.2.2.2.2.2) := rfl
    rw [e, pRule_e] at h
    split at h
    · cases h
    · obtain ⟨p, h1, h⟩ := pbind_inr h
      obtain ⟨z, h2, h⟩ := pbind_inr h
      obtain ⟨j, h3, h2⟩ := pbind_inr h2
      obtain ⟨a, h4, h2⟩ := pbind_inr h2
      unfold pRest pBody at h2
      obtain ⟨b, h5, h2⟩ := pbind_inr h2
      obtain ⟨j3, h6, h2⟩ := pbind_inr h2
      obtain ⟨z2, h7, h2⟩ := pbind_inr h2
      obtain ⟨l, h8, h7⟩ := pbind_inr h7
      obtain ⟨j4, h9, h7⟩ := pbind_inr h7
      have a1 := pPred_le h1
      have a3 := pNeed_le h3
      have a4 := pItem_le h4
      have a6 := pNeed_le h6
      have a9 := pNeed_le h9
      have a5 : ∀ (k : Nat) (x y : pIt), pItems t F k x = .inr y → x.2.2.2 ≤ y.2.2.2 := by
        intro k
        induction k with
        | zero => intro x y hh; cases hh; exact Nat.le_refl _
        | succ k ih =>
          intro x y hh
          unfold pItems at hh
          split at hh
          · obtain ⟨u, g1, g2⟩ := pbind_inr hh
            have := pItem_le g1
            have := ih _ _ g2
            simp only at *
            omega
          · cases hh; exact Nat.le_refl _
      have a5' := a5 _ _ _ h5
      have a8 : j3 ≤ l.2.2.2.2 := by
        have ls : ∀ (k : Nat) (x y : pRs), pLits t true F k x = .inr y → x.2.2.2.2 ≤ y.2.2.2.2 := by
          intro k
          induction k with
          | zero => intro x y hh; cases hh; exact Nat.le_refl _
          | succ k ih =>
            intro x y hh
            unfold pLits at hh
            split at hh
            · obtain ⟨u, g1, g2⟩ := pbind_inr hh
              have := pLit_le g1
              have := ih _ _ g2
              simp only at *
              omega
            · cases hh; exact Nat.le_refl _
        split at h8
        · obtain ⟨u, g1, g2⟩ := pbind_inr h8
          have := pLit_le g1
          have := ls _ _ _ g2
          simp only at *
          omega
        · cases h8
          simp only
          omega
      cases h7
      cases h2
      cases h
      simp only at *
      omega
theorem l_prog (hf : n + 20 < f) (hcb : cb + n + 3 ≤ 6200) : ∀ (k fu : Nat), k < fu → ∀ (K i c : Nat) (G : xG_) (L : Nat → Int) (N : List Int) (ins : List (Int × Int × Int)) (outs : List Int) (M : List pMn) (R : List pRu), n + 1 - i ≤ k → n + 1 - i < K → 4 * (n + 1 - i) + 4 ≤ F → rPS G q B n lm o c N ins outs M R → rAt q B n lm i L → c ≤ cb + i → rGP f q B n lm o cb G L c (g231_13 f fu) (pProg (tstr B n lm) F K (N, ins, outs, M, R, i)) := by
  intro k
  induction k with
  | zero =>
    intro fu _ K i c G L N ins outs M R hk hK hF hS hA
    have := hA.le hS.1.1.2.1
    omega
  | succ k ih =>
    intro fu hfu K i c G L N ins outs M R hk hK hF hS hA hc
    obtain ⟨fu, rfl⟩ : ∃ t, fu = t + 1 := ⟨fu - 1, by omega⟩
    obtain ⟨K, rfl⟩ : ∃ t, K = t + 1 := ⟨K - 1, by omega⟩
    have hE := hS.1
    have hin := hA.le hE.1.2.1
    have htk := hA.tk hE.1.2.1
    have t0 : L 2 = 0 ↔ kK (tstr B n lm) i = 0 := htk.2.2.2.2.2.2.1
    have bad : ∀ {G1 L1}, L1 7 ≠ -1 → g231_13 f fu (xlx G1 L1) = some (xlx G1 L1) := by
      intro G1 L1 hbad
      obtain ⟨fu, rfl⟩ : ∃ t, fu = t + 1 := ⟨fu - 1, by omega⟩
      show g231_13b (g231_13 f fu) f _ = _
      unfold g231_13b g231_88
      rw [l_bad, if_neg hbad]
      simp only [Option.bind_some]
      rw [if_pos (by decide)]
    have es : g231_13 f (fu + 1) (xlx G L) = if kK (tstr B n lm) i = 0 then some (xlx G L) else if kK (tstr B n lm) i = 6 then (g234 f (xlx G L)).bind (g231_13 f fu) else if kK (tstr B n lm) i = 7 then (g235 f (xlx G L)).bind (g231_13 f fu) else if kK (tstr B n lm) i = 1 then (g237 f (xlx G L)).bind (g231_13 f fu) else g231_13 f fu (xlx G (xu L 7 (L 4))) := by
      show g231_13b (g231_13 f fu) f _ = _
      unfold g231_13b g231_88
      rw [l_bad, if_pos hA.1]
      simp only [Option.bind_some]
      rw [if_neg (fun h => h trivial), xlx_2]
      by_cases d0 : kK (tstr B n lm) i = 0
      · rw [if_pos (t0.mpr d0), if_pos d0]
      · rw [if_neg (fun h => d0 (t0.mp h)), if_neg d0, xlx_o _ _ (by omega), hE.2.2.1.1, hA.isword hE (c := 19558354) (k := 6) rfl (fun x h => tres_inv.1 h) (by decide)]
        simp only [Option.bind_some, i10]
        by_cases d6 : kK (tstr B n lm) i = 6
        · rw [if_neg (fun h => h d6), if_pos d6]
        · rw [if_pos d6, if_neg d6, xlx_o _ _ (by omega), hE.2.2.1.2.1, hA.isword hE (c := 1233436738) (k := 7) rfl (fun x h => tres_inv.2.1 h) (by decide)]
          simp only [Option.bind_some, i10]
          by_cases d7 : kK (tstr B n lm) i = 7
          · rw [if_neg (fun h => h d7), if_pos d7]
          · rw [if_pos d7, if_neg d7, hA.isname hE]
            simp only [Option.bind_some, i10]
            by_cases d1 : kK (tstr B n lm) i = 1
            · rw [if_neg (fun h => h d1), if_pos d1]
            · rw [if_pos d1, if_neg d1, xlx_4, l_fail, if_pos hA.1]
              rfl
    have go : ∀ (e : xG_ → Option xG_) (P : Nat ⊕ pPg), rGP f q B n lm o cb G L c e P → (∀ s, P = .inr s → i < s.2.2.2.2.2) → g231_13 f (fu + 1) (xlx G L) = (e (xlx G L)).bind (g231_13 f fu) → rGP f q B n lm o cb G L c (g231_13 f (fu + 1)) (pbind P fun s' => pProg (tstr B n lm) F K s') := by
      intro e P h1 h2 h3
      unfold rGP at h1 ⊢
      cases P with
      | inl w =>
        obtain ⟨G1, L1, a1, a2, a3⟩ := h1
        refine ⟨G1, L1, ?_, a2, a3⟩
        rw [h3, a1]
        exact bad (by omega)
      | inr s =>
        obtain ⟨G1, L1, c1, a1, a2, a3, a4, a5, a6⟩ := h1
        have hlt := h2 s rfl
        have h4 := ih fu (by omega) K s.2.2.2.2.2 c1 G1 L1 s.1 s.2.1 s.2.2.1 s.2.2.2.1 s.2.2.2.2.1 (by omega) (by omega) (by omega) a4 a2 a6
        have e4 : g231_13 f (fu + 1) (xlx G L) = g231_13 f fu (xlx G1 L1) := by rw [h3, a1]; rfl
        unfold rGP at h4
        rw [e4]
        show pok (pProg (tstr B n lm) F K s) _ _
        cases hp : pProg (tstr B n lm) F K s with
        | inl w =>
          have hp' : pProg (tstr B n lm) F K (s.1, s.2.1, s.2.2.1, s.2.2.2.1, s.2.2.2.2.1, s.2.2.2.2.2) = .inl w := hp
          rw [hp'] at h4
          obtain ⟨G2, L2, b1, b2, b3⟩ := h4
          exact ⟨G2, L2, b1, b2, a3.tr b3 (Nat.le_refl _) (Nat.le_refl _) (Nat.le_refl _) (Nat.le_refl _)⟩
        | inr u =>
          have hp' : pProg (tstr B n lm) F K (s.1, s.2.1, s.2.2.1, s.2.2.2.1, s.2.2.2.2.1, s.2.2.2.2.2) = .inr u := hp
          rw [hp'] at h4
          obtain ⟨G2, L2, c2, b1, b2, b3, b4, b5, b6⟩ := h4
          exact ⟨G2, L2, c2, b1, b2, a3.tr b3 (Nat.le_refl _) (Nat.le_refl _) (Nat.le_refl _) (Nat.le_refl _), b4, by omega, b6⟩
    unfold pProg
    show rGP f q B n lm o cb G L c (g231_13 f (fu + 1)) (if kK (tstr B n lm) i = 0 then _ else _)
    by_cases d0 : kK (tstr B n lm) i = 0
    · rw [if_pos d0]
      rw [if_pos d0] at es
      exact ⟨G, L, c, es, hA, .rf _ _ _ _ _ _, hS, Nat.le_refl _, hc⟩
    rw [if_neg d0]
    rw [if_neg d0] at es
    show rGP f q B n lm o cb G L c (g231_13 f (fu + 1)) (pbind (if kK (tstr B n lm) i = 6 then _ else if kK (tstr B n lm) i = 7 then _ else _) _)
    by_cases d6 : kK (tstr B n lm) i = 6
    · rw [if_pos d6]
      rw [if_pos d6] at es
      exact go _ _ (l_input hf hS hA hc d6) (fun s h => pPg_i (F := F).1 h) es
    rw [if_neg d6]
    rw [if_neg d6] at es
    by_cases d7 : kK (tstr B n lm) i = 7
    · rw [if_pos d7]
      rw [if_pos d7] at es
      exact go _ _ (l_output hf hS hA hc d7) (fun s h => pPg_i (F := F).2.1 h) es
    rw [if_neg d7]
    rw [if_neg d7] at es
    by_cases d1 : kK (tstr B n lm) i = 1
    · rw [if_pos d1] at es
      exact go _ _ (l_rule hf hcb hF hS hA hc) (fun s h => pPg_i.2.2 h) es
    · rw [if_neg d1] at es
      have hp : pRule (tstr B n lm) F (N, ins, outs, M, R, i) = .inl (kS (tstr B n lm) i) := by
        rw [pRule_e]
        split
        · rfl
        · have : pPred (tstr B n lm) N i = .inl (kS (tstr B n lm) i) := by
            unfold pPred pName
            rw [if_pos d1]
            rfl
          rw [this]
          rfl
      rw [hp]
      exact ⟨G, xu L 7 (L 4), by rw [es]; exact bad (by show L 4 ≠ -1; rw [hA.at4 hE]; omega), hA.at4 hE, .rf _ _ _ _ _ _⟩
end
