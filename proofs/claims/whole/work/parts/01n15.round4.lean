section
/-! round() of the reference -/
section
variable {f o h m n : Nat} {T : List (List Int)} {ln : sLn} {so : pPg} {Mo : Nat → List pRw}
theorem rHi.sp {G : xG_} {H : Nat → sMo} {b k : Nat} (h : rPa G o H b k) : (hCat (hLg H) b k).length ≤ 12000 ∧ (hCat (hCg H) b k).length ≤ 200 ∧ (hCat (hEg H) b k).length ≤ 20 := ⟨h.1.2.1, h.2.1.2.1, h.2.2.1.2.1⟩
theorem lgK_self {α : Type} {g : Nat → List (Int × α)} (hg : ∀ r, ∀ a ∈ g r, a.1 = (r : Int)) {b k : Nat} : lgK (b : Int) (hCat g b k) = hCat g b k := by
  have := hCat_K hg (b := b) (i := 0) (k := k)
  rw [Nat.add_zero, Nat.zero_add] at this
  exact this
theorem kOk.nx {K : Nat → Nat} {W : Nat → Int} (hk : kOk T K) (hW : ∀ c, W c = -1 ∨ 0 ≤ W c ∧ (W c).toNat < T.length ∧ (c < 72 → (W c).toNat ≠ 0 → ∃ r, qCt (T.getD (W c).toNat []) = .inr r ∧ r.1 = (c : Int) ∧ r.2.2 ≠ -1)) : kOk T (kNx K W 72) := by
  refine ⟨fun c => ?_, fun c hc h0 => ?_⟩
  · unfold kNx
    split
    · rename_i q
      rcases hW c with z | z
      · exact absurd z q.2
      · exact z.2.1
    · exact hk.1 c
  · unfold kNx at h0 ⊢
    split at h0
    · rename_i q
      rw [if_pos q]
      rcases hW c with z | z
      · exact absurd z q.2
      · exact z.2.2 hc h0
    · rename_i q
      rw [if_neg q]
      exact hk.2 c hc h0
/-- round() -/
theorem l_298 {G : xG_} (hf : 1000100 < f) (hn : n < 1000) (hh : h < 4) (ho : o = 123 + 29 * h) (h62 : G 0 62 = (h : Int)) (hC : rC G) (hT : rTxs G T m) (hR : rLn G o T ln so Mo) (hMo : isMo T (lMo ln) so Mo) (hS : sOk T ln n) (h63 : 0 ≤ G 0 63 ∧ G 0 63 < 1000000) (h64 : 0 ≤ G 0 64 ∧ G 0 64 < 1000000) :
    ∃ v G' ln' good s' M', g298 f G = some (v, G') ∧ stRd T ln v ln' good ∧ rLn G' o T ln' s' M' ∧ isMo T (lMo ln') s' M' ∧ sOk T ln' (n + 1) ∧ (good = true ∧ G' 0 63 = G 0 63 ∧ G' 0 64 = G 0 64 + 1 ∨ good = false ∧ G' 0 63 = G 0 63 + 1 ∧ G' 0 64 = G 0 64) ∧ G' 0 65 = -1 ∧ G' 0 74 = 0 ∧ xfRd o G G' := by
  have hob : 122 < o ∧ o < 211 := by omega
  obtain ⟨H, ⟨b, k, ed⟩, ⟨wk, cw, tb⟩, ⟨ps, nx, W⟩, fk⟩ := ln
  obtain ⟨r1, ⟨r2, r3, r4, r5⟩, r6, r7, r8, r9, r10, ⟨E0, r11, r12, r12'⟩, r18, ⟨r13, r14, r15⟩, r16, r17⟩ := hR
  simp only [] at r1 r2 r3 r4 r5 r6 r7 r8 r9 r10 r11 r12 r12' r13 r14 r15 r16 r17
  have hS' := hS
  obtain ⟨s1, s2, ⟨s3, s3'⟩, s4, s5, s6, s7, s8, s9, s10⟩ := hS
  simp only [] at s1 s2 s3 s3' s4 s5 s6 s7 s8 s9 s10
  have hMo' := hMo
  obtain ⟨m1, m2, m3, m4, m5, m6, m7⟩ := hMo
  replace m1 : (H (b + k)).1 < T.length := m1
  replace m2 : qPr (T.getD (H (b + k)).1 []) = .inr so := m2
  replace m6 : qFa so Mo (H (b + k)).2.1 := m6
  replace m7 : kOk T (H (b + k)).2.2.1 := m7
  have hl4 : (hCat (hLg H) b k).length ≤ 8000 ∧ (hCat (hCg H) b k).length ≤ 100 ∧ (hCat (hEg H) b k).length ≤ 7 := by
    unfold tmOk at s4
    rw [lgK_self (hLg_r H), lgK_self (hCg_r H), lgK_self (hEg_r H)] at s4
    exact s4
  -- the edition
  let e' := lnE (H, (b, k, ed), (wk, cw, tb), (ps, nx, W), fk)
  have he' : e' = if nx = -1 then (H (b + k)).1 else nx.toNat := rfl
  obtain ⟨s, p1, p2, p3, p4⟩ : ∃ s, e' < T.length ∧ qPr (T.getD e' []) = .inr s ∧ qOk s ∧ wNh s := by
    by_cases c : nx = -1
    · rw [he', if_pos c]
      exact ⟨so, m1, m2, m3, m4⟩
    · rw [he', if_neg c]
      rcases s9 with q | ⟨_, q2, s, q3, q4, q5⟩
      · exact absurd q c
      · exact ⟨s, q2, q3, q4, q5⟩
  have hnx : nx = -1 ∨ 0 ≤ nx := by
    rcases s9 with q | q
    · exact .inl q
    · exact .inr q.1
  let fr : Int := if nx = -1 then 0 else 1
  have hfr : fr ≠ 0 ↔ nx ≠ -1 := by
    show (if nx = -1 then (0 : Int) else 1) ≠ 0 ↔ _
    by_cases c : nx = -1
    · rw [if_pos c]; exact ⟨fun q => absurd rfl q, fun q => absurd c q⟩
    · rw [if_neg c]; exact ⟨fun _ => c, fun _ => by decide⟩
  have hfrP : (fr ≠ 0) = (nx ≠ -1) := propext hfr
  let G1 := xup2 (xup2 G 0 74 0) 0 65 (-1)
  have z1 : ∀ a j, ¬ (a = 0 ∧ (j = 74 ∨ j = 65)) → G1 a j = G a j := fun a j q => by
    show xup2 _ _ _ _ _ _ = _
    rw [xup2_n (by omega), xup2_n (by omega)]
  have y74 : G1 0 74 = 0 := by
    show xup2 _ _ _ _ _ _ = _
    rw [xup2_n (by omega), xup2_s]
  have y65 : G1 0 65 = -1 := xup2_s _ _ _ _
  have e0 : g298 f G = g298_54 f o fr (e' : Int) 2 G1 := by
    unfold g298
    rw [Option.bind_some, xup2_n (by omega), h62, if_pos (by omega), Int.toNat_natCast, ← ho, xup2_n (by omega), r14]
    by_cases c : nx = -1
    · have e1 : fr = 0 := if_pos c
      rw [if_pos c, e1]
      unfold g298_28
      rw [Option.bind_some, if_pos rfl]
      show g298_54 f o 0 (G1 o 1) 2 G1 = _
      rw [z1 _ _ (by omega), r2, he', if_pos c]
    · have e1 : fr = 1 := if_neg c
      rw [if_neg c, e1]
      unfold g298_28
      rw [Option.bind_some, if_neg (by decide)]
      show g298_54 f o 1 (G1 o 34) 2 G1 = _
      rw [z1 _ _ (by omega), r14, he', if_neg c]
      congr 1
      rcases hnx with q | q
      · exact absurd q c
      · omega
  have hC1 : rC G1 := by
    obtain ⟨k1, k2, k3, k4, k5, k6, k7, k8, k9⟩ := hC
    exact ⟨by rw [z1 _ _ (by omega)]; exact k1, by rw [z1 _ _ (by omega)]; exact k2, by rw [z1 _ _ (by omega)]; exact k3, by rw [z1 _ _ (by omega)]; exact k4, by rw [z1 _ _ (by omega)]; exact k5, by rw [z1 _ _ (by omega)]; exact k6, by rw [z1 _ _ (by omega)]; exact k7, by rw [z1 _ _ (by omega)]; exact k8, by rw [z1 _ _ (by omega)]; exact k9⟩
  have hT1 : rTxs G1 T m := hT.ge (z1 _ _ (by omega)) (z1 _ _ (by omega)) (fun a j _ => z1 _ _ (by omega))
  -- INPUTS
  obtain ⟨G2, R0, q, c, a1, a2, a3, a4, a5, a6, a7⟩ := l_298_54 (f := f) (o := o) (fr := fr) (G := G1) (T := T) (m := m) (e := (H (b + k)).1) (e' := e') (F := (H (b + k)).2.1) (M := Mo) hf hh ho hC1 hT1 m1 (by rw [z1 _ _ (by omega)]; exact r2) m2 m3 p1 p2 p3 (fun q => by
    have c : nx = -1 := Classical.byContradiction (fun w => (hfr.mpr w) q)
    have e1 : e' = (H (b + k)).1 := by rw [he', if_pos c]
    rw [e1, m2] at p2
    exact (Sum.inr.inj p2).symm) (r6.ge (z1 _ _ (by omega)) (fun a j _ _ => z1 _ _ (by omega))) m5 m6
  have z2 : ∀ a j, ¬ (a = 0 ∧ (j ≤ 11 ∨ 21 ≤ j ∧ j ≤ 27 ∨ j = 74 ∨ j = 65)) → ¬ (1 ≤ a ∧ a ≤ 71) → ¬ (107 ≤ a ∧ a ≤ 109) → ¬ (243 ≤ a ∧ a ≤ 246) → G2 a j = G a j := fun a j q1 q2 q3 q4 => by rw [a7 a j (by omega) q2 q3 q4, z1 a j (by omega)]
  have hps : rPe G2 o ps := r13.ge' (fun a j _ _ => z2 _ _ (by omega) (by omega) (by omega) (by omega))
  have hlp := r13.2.1
  -- CHANGES
  obtain ⟨G3, R, fu', b1, b2, b3, b4, b5⟩ := l_298_90 (f := f) (fr := fr) (by omega) p3 (fun p hp hi => Nat.le_of_lt (key_lt p2 p3 hp hi)) hh ho s8 ps.length 0 f G2 R0 (by omega) (by omega) hps a2 a3 (fun p hp => by have := a4 p hp; omega)
  rw [List.drop_zero] at b2
  have z3 : ∀ a j, ¬ (a = 0 ∧ (j ≤ 11 ∨ 21 ≤ j ∧ j ≤ 27 ∨ j = 74 ∨ j = 65)) → ¬ (1 ≤ a ∧ a ≤ 71) → ¬ (107 ≤ a ∧ a ≤ 109) → ¬ (243 ≤ a ∧ a ≤ 246) → G3 a j = G a j := fun a j q1 q2 q3 q4 => by rw [b5 a j q3, z2 a j q1 q2 q3 q4]
  have hps3 : G3 o 33 = (ps.length : Int) := by rw [z3 _ _ (by omega) (by omega) (by omega) (by omega)]; exact r13.1
  -- all is worked
  obtain ⟨G4, gd, c1, c2, c3⟩ := l_290 (f := f) (In := R) hf p3 p4 b3 (fun _ _ _ => rfl) (rIn_of b3 b4)
  have z4 : ∀ a j, ¬ (a = 0 ∧ (j ≤ 11 ∨ 21 ≤ j ∧ j ≤ 27 ∨ 37 ≤ j ∧ j ≤ 61 ∨ j = 74 ∨ j = 65)) → ¬ (1 ≤ a ∧ a ≤ 71) → ¬ (107 ≤ a ∧ a ≤ 121) → ¬ (243 ≤ a ∧ a ≤ 246) → G4 a j = G a j := fun a j q1 q2 q3 q4 => by rw [c2 a j (by omega) (by omega), z3 a j (by omega) q2 (by omega) q4]
  have v74 : G4 0 74 = 0 := by rw [c2 _ _ (by omega) (by omega), b5 _ _ (by omega), a7 _ _ (by omega) (by omega) (by omega) (by omega)]; exact y74
  have v65 : G4 0 65 = -1 := by rw [c2 _ _ (by omega) (by omega), b5 _ _ (by omega), a7 _ _ (by omega) (by omega) (by omega) (by omega)]; exact y65
  have e1 : g298 f G = ((g290 f G3).bind fun R156 => (if ¬ (R156.1) = 0 then ((g302 f (247) R156.2).bind fun R162 => (if (fr) = 0 then g298_222 f (o) (fr) R162 else (if 0 ≤ (R162 (o) 17) ∧ (R162 (o) 17) < 20 then ((some (xup2 R162 (o + 13) (R162 (o) 17).toNat (xwr ((R162 (o) 2) + (1))))).bind fun G172 => (if 0 ≤ (G172 (o) 17) ∧ (G172 (o) 17) < 20 then ((some (xup2 G172 (o + 14) (G172 (o) 17).toNat (G172 (o) 1))).bind fun G177 => ((some (xup2 G177 (o) 17 (xwr ((G177 (o) 17) + (1))))).bind fun G181 => ((some (xup2 G181 (o) 1 (G181 (o) 34))).bind fun G185 => ((some (xup2 G185 (o) 4 (xwr ((G185 (o) 4) + (1))))).bind fun G189 => g298_203 f f (o) (fr) (0) G189)))) else none)) else none))) else ((some (xup2 R156.2 (0) 63 (xwr ((R156.2 (0) 63) + (1))))).bind fun G193 => ((g202 f (o) G193).bind fun R194 => (some (-1, R194)))))) := by
    rw [e0, a1]
    refine b1.trans ?_
    show g298_90b (g298_90 f fu') f o fr (ps.length : Int) G3 = _
    unfold g298_90b
    rw [hps3, if_pos (Int.le_refl _)]
  rw [e1, c1, Option.bind_some]
  rcases c3 with ⟨g1, M, g2, g3⟩ | ⟨g1, g2⟩
  · -- taken
    have n1 : ¬ ((gd, G4) : Int × xG_).1 = 0 := by rw [g1]; show ¬ (1 : Int) = 0; decide
    rw [if_pos n1]
    obtain ⟨G5, F', d1, d2, d3, d4, d5⟩ := l_302 (f := f) (b := 247) (by omega) p3 (by unfold isFb; omega) g2 g3.1
    have z5 : ∀ a j, ¬ (a = 0 ∧ (j ≤ 11 ∨ 21 ≤ j ∧ j ≤ 27 ∨ 37 ≤ j ∧ j ≤ 61 ∨ j = 74 ∨ j = 65)) → ¬ (1 ≤ a ∧ a ≤ 71) → ¬ (107 ≤ a ∧ a ≤ 121) → ¬ (243 ≤ a ∧ a ≤ 250) → G5 a j = G a j := fun a j q1 q2 q3 q4 => by rw [d2 a j (by omega) (by omega) (by omega) (by omega), z4 a j q1 q2 q3 (by omega)]
    have w5 : ∀ a j, a < 247 ∨ 250 < a → G5 a j = G4 a j := fun a j q => d2 a j (by omega) (by omega) (by omega) (by omega)
    show ∃ v G' ln' good s' M', (g302 f 247 G4).bind _ = some (v, G') ∧ _
    rw [d1, Option.bind_some]
    let ln0 : sLn := (H, (b, k, ed), (wk, cw, tb), (ps, nx, W), fk)
    let H' := lnH ln0 F'
    have hH' : H' = hAd H (b + k + 1) (lnM ln0 F') := rfl
    -- the state ahead of the tail
    obtain ⟨G6, i1, i2, i3, i4, i5, i6⟩ : ∃ G6, (if (fr) = 0 then g298_222 f (o) (fr) G5 else (if 0 ≤ (G5 (o) 17) ∧ (G5 (o) 17) < 20 then ((some (xup2 G5 (o + 13) (G5 (o) 17).toNat (xwr ((G5 (o) 2) + (1))))).bind fun G172 => (if 0 ≤ (G172 (o) 17) ∧ (G172 (o) 17) < 20 then ((some (xup2 G172 (o + 14) (G172 (o) 17).toNat (G172 (o) 1))).bind fun G177 => ((some (xup2 G177 (o) 17 (xwr ((G177 (o) 17) + (1))))).bind fun G181 => ((some (xup2 G181 (o) 1 (G181 (o) 34))).bind fun G185 => ((some (xup2 G185 (o) 4 (xwr ((G185 (o) 4) + (1))))).bind fun G189 => g298_203 f f (o) (fr) (0) G189)))) else none)) else none)) = g298_222 f o fr G6 ∧ rEg G6 o (hCat (hEg H') b (k + 1)) ∧ G6 o 1 = (e' : Int) ∧ G6 o 4 = ((ed + (if nx = -1 then 0 else 1) : Nat) : Int) ∧ (∀ p, p < 16 → G6 (o + 18) p = if nx = -1 then wk p else 0) ∧ ∀ a j, ¬ (a = o ∧ (j = 17 ∨ j = 1 ∨ j = 4)) → a ≠ o + 13 → a ≠ o + 14 → a ≠ o + 18 → G6 a j = G5 a j := by
      have hE5 : rEg G5 o (hCat (hEg H) b k) := r1.2.2.1.ge (z5 _ _ (by omega) (by omega) (by omega) (by omega)) (fun a j _ _ => z5 _ _ (by omega) (by omega) (by omega) (by omega))
      have hEe : hCat (hEg H') b (k + 1) = hCat (hEg H) b k ++ (if decide (nx ≠ -1) = true then [(((b + k + 1 : Nat) : Int), ((H (b + k)).1 : Int))] else []) := hAd_eg
      by_cases cn : nx = -1
      · have f0 : fr = 0 := if_pos cn
        have hE0 : hCat (hEg H') b (k + 1) = hCat (hEg H) b k := by rw [hEe, decide_eq_false (fun q => q cn), if_neg (by decide), List.append_nil]
        refine ⟨G5, by rw [if_pos f0], by rw [hE0]; exact hE5, ?_, ?_, fun p hp => ?_, fun _ _ _ _ _ _ => rfl⟩
        · rw [z5 _ _ (by omega) (by omega) (by omega) (by omega), r2, he', if_pos cn]
        · rw [if_pos cn, z5 _ _ (by omega) (by omega) (by omega) (by omega)]; exact r5
        · rw [if_pos cn, z5 _ _ (by omega) (by omega) (by omega) (by omega)]; exact r9 p hp
      · have f1 : ¬ fr = 0 := hfr.mpr cn
        have hE0 : hCat (hEg H') b (k + 1) = hCat (hEg H) b k ++ [(((b + k + 1 : Nat) : Int), ((H (b + k)).1 : Int))] := by rw [hEe, decide_eq_true cn, if_pos rfl]
        obtain ⟨G6, j1, j2, j3, j4, j5, j6, j7, j8⟩ := l_298_ed (f := f) (o := o) (G := G5) (fr := fr) (nx := nx) (n := (hCat (hEg H) b k).length) (rd := b + k) (e := (H (b + k)).1) (ed := ed) (by omega) hob (by omega) hE5.1 (by rw [z5 _ _ (by omega) (by omega) (by omega) (by omega)]; exact r3) (by rw [z5 _ _ (by omega) (by omega) (by omega) (by omega)]; exact r2) (by rw [z5 _ _ (by omega) (by omega) (by omega) (by omega)]; exact r14) (by rw [z5 _ _ (by omega) (by omega) (by omega) (by omega)]; exact r5) (by omega) (by omega)
        have hE6' : rEg G6 o (hCat (hEg H') b (k + 1)) := by
          rw [hE0]
          refine ⟨by rw [j4, List.length_append]; rfl, by rw [List.length_append, List.length_singleton]; omega, fun i hi => ?_⟩
          rw [List.length_append, List.length_singleton] at hi
          rw [getD_1]
          by_cases ci : i = (hCat (hEg H) b k).length
          · rw [if_pos ci, ci]
            exact ⟨j2, j3⟩
          · rw [if_neg ci, j8 _ _ (by omega) (by omega) (by omega) (by omega), j8 _ _ (by omega) (by omega) (by omega) (by omega)]
            exact hE5.2.2 i (by omega)
        refine ⟨G6, by rw [if_neg f1]; exact j1, hE6', ?_, by rw [if_neg cn]; exact j6, fun p hp => by rw [if_neg cn]; exact j7 p hp, fun a j q1 q2 q3 q4 => j8 a j q1 (by omega) (by omega) q4⟩
        · rw [j5, he', if_neg cn]
          rcases hnx with q | q
          · exact absurd q cn
          · omega
    have z6 : ∀ a j, ¬ (a = 0 ∧ (j ≤ 11 ∨ 21 ≤ j ∧ j ≤ 27 ∨ 37 ≤ j ∧ j ≤ 61 ∨ j = 74 ∨ j = 65)) → ¬ (1 ≤ a ∧ a ≤ 71) → ¬ (107 ≤ a ∧ a ≤ 121) → ¬ (243 ≤ a ∧ a ≤ 250) → ¬ (a = o ∧ (j = 17 ∨ j = 1 ∨ j = 4)) → a ≠ o + 13 → a ≠ o + 14 → a ≠ o + 18 → G6 a j = G a j := fun a j q1 q2 q3 q4 q5 q6 q7 q8 => by rw [i6 a j q5 q6 q7 q8, z5 a j q1 q2 q3 q4]
    have w6 : ∀ a j, a < o ∨ o + 28 < a → a < 247 ∨ 250 < a → G6 a j = G4 a j := fun a j q1 q2 => by rw [i6 a j (by omega) (by omega) (by omega) (by omega), w5 a j q2]
    have hE6 : rEn G6 q c s M := by
      obtain ⟨x1, x2, x3, x4⟩ := g2
      exact ⟨x1.ge (fun j => w6 _ _ (by omega) (by omega)) (fun a j _ _ _ _ _ => w6 _ _ (by omega) (by omega)), fun y hy => by rw [w6 _ _ (by omega) (by omega)]; exact x2 y hy, ⟨fun p hp => by rw [w6 _ _ (by omega) (by omega)]; exact x3.1 p hp, fun p hp => by rw [w6 _ _ (by omega) (by omega)]; exact x3.2 p hp⟩, x4.ge (fun a j _ _ => w6 _ _ (by omega) (by omega))⟩
    have hA6 : rFa G6 247 F' := d3.ge (i6 _ _ (by omega) (by omega) (by omega) (by omega)) (fun a j _ _ => i6 _ _ (by omega) (by omega) (by omega) (by omega))
    have hB6 : rFa G6 243 (H (b + k)).2.1 := a6.ge (by rw [w6 _ _ (by omega) (by omega), c2 _ _ (by omega) (by omega), b5 _ _ (by omega)]) (fun a j _ _ => by rw [w6 _ _ (by omega) (by omega), c2 _ _ (by omega) (by omega), b5 _ _ (by omega)])
    have hF6 : rFa G6 (o + 1) (H (b + k)).2.1 := r6.ge (z6 _ _ (by omega) (by omega) (by omega) (by omega) (by omega) (by omega) (by omega) (by omega)) (fun a j _ _ => z6 _ _ (by omega) (by omega) (by omega) (by omega) (by omega) (by omega) (by omega) (by omega))
    have hlB : (H (b + k)).2.1.length ≤ 1600 := m6.len m3.1.1 m5.1.1
    have hH6 : rHi G6 o (hCat (hLg H) b k) (hCat (hCg H) b k) (hCat (hEg H') b (k + 1)) := ⟨r1.1.ge (z6 _ _ (by omega) (by omega) (by omega) (by omega) (by omega) (by omega) (by omega) (by omega)) (fun a j _ _ => z6 _ _ (by omega) (by omega) (by omega) (by omega) (by omega) (by omega) (by omega) (by omega)), r1.2.1.ge (z6 _ _ (by omega) (by omega) (by omega) (by omega) (by omega) (by omega) (by omega) (by omega)) (fun a j _ _ => z6 _ _ (by omega) (by omega) (by omega) (by omega) (by omega) (by omega) (by omega) (by omega)), i2, hCat_S (hLg_r H) k, hCat_S (hCg_r H) k, hCat_S (hEg_r H') (k + 1)⟩
    have hC6 : rC G6 := by
      have zc : ∀ j, 12 ≤ j → j ≤ 20 → G6 0 j = G 0 j := fun j _ _ => z6 _ _ (by omega) (by omega) (by omega) (by omega) (by omega) (by omega) (by omega) (by omega)
      obtain ⟨k1, k2, k3, k4, k5, k6, k7, k8, k9⟩ := hC
      exact ⟨by rw [zc _ (by decide) (by decide)]; exact k1, by rw [zc _ (by decide) (by decide)]; exact k2, by rw [zc _ (by decide) (by decide)]; exact k3, by rw [zc _ (by decide) (by decide)]; exact k4, by rw [zc _ (by decide) (by decide)]; exact k5, by rw [zc _ (by decide) (by decide)]; exact k6, by rw [zc _ (by decide) (by decide)]; exact k7, by rw [zc _ (by decide) (by decide)]; exact k8, by rw [zc _ (by decide) (by decide)]; exact k9⟩
    have hT6 : rTxs G6 T m := hT.ge (z6 _ _ (by omega) (by omega) (by omega) (by omega) (by omega) (by omega) (by omega) (by omega)) (z6 _ _ (by omega) (by omega) (by omega) (by omega) (by omega) (by omega) (by omega) (by omega)) (fun a j _ => z6 _ _ (by omega) (by omega) (by omega) (by omega) (by omega) (by omega) (by omega) (by omega))
    have hK6 : rKt G6 o T (H (b + k)).2.2.1 := m7.rKt (fun x hx => by rw [z6 _ _ (by omega) (by omega) (by omega) (by omega) (by omega) (by omega) (by omega) (by omega)]; exact r7 x hx)
    have hXo : okX (xOf T (H (b + k)).2.2.1) := okX_of hC6 hT6 hK6
    have hokC : okC (fSh (xOf T (H (b + k)).2.2.1) so Mo) := fSh_ok hXo (fun p hp r hr' => ((m5.1.1 p hp).2.2 r hr').2) (fun p hp => by have := (m5.1.1 p hp).1; omega)
    obtain ⟨G7, E', y, t1, t2, t3, t4, t5, t6, t7, t8, t9, t10, t11, t12, t13, t13', t14, t15, t16, ⟨t17, t18, t19, t20⟩, t21, t22, t23⟩ := l_298_222 (f := f) (o := o) (fr := fr) (rd := b + k) (b := b) (K := (H (b + k)).2.2.1) (W := W) (C := fSh (xOf T (H (b + k)).2.2.1) so Mo) hf hh ho p3 hE6 g3.1 hA6 hB6 hF6 d4.1 m6.1 d5 hlB hH6 hl4.1 hl4.2.1 (by rw [z6 _ _ (by omega) (by omega) (by omega) (by omega) (by omega) (by omega) (by omega) (by omega)]; exact r3) (by omega) (by rw [z6 _ _ (by omega) (by omega) (by omega) (by omega) (by omega) (by omega) (by omega) (by omega)]; exact r4) (by omega) ⟨fun a ha => by have := hCat_mem (hLg_r H) k ha; omega, fun a ha => by have := hCat_mem (hCg_r H) k ha; omega, fun a ha => by have := hCat_mem (hEg_r H') (k + 1) ha; omega⟩ hC6 hT6 hK6 (fun x hx => ⟨by rw [z6 _ _ (by omega) (by omega) (by omega) (by omega) (by omega) (by omega) (by omega) (by omega)]; exact r15 x hx, by
        rcases s10 x with w | w
        · exact .inl w
        · exact .inr ⟨w.1, w.2.1, w.2.2 hx⟩⟩) (fun x hx => by rw [z6 _ _ (by omega) (by omega) (by omega) (by omega) (by omega) (by omega) (by omega) (by omega), z6 _ _ (by omega) (by omega) (by omega) (by omega) (by omega) (by omega) (by omega) (by omega)]; exact r8 x hx) hokC (fun p hp => by
        rw [i5 p hp]
        have := s6 p hp
        split
        · omega
        · omega) (fun x hx => by rw [z6 _ _ (by omega) (by omega) (by omega) (by omega) (by omega) (by omega) (by omega) (by omega), r10 x hx]; have := s7 x hx; omega) (by rw [z6 _ _ (by omega) (by omega) (by omega) (by omega) (by omega) (by omega) (by omega) (by omega)]; exact h64)
    rw [hfrP] at t10 t11
    -- the logs are the history's
    have hLe : hCat (hLg H') b (k + 1) = hCat (hLg H) b k ++ lgR ((b + k + 1 : Nat) : Int) F' (H (b + k)).2.1 := hAd_lg
    have hCe : hCat (hCg H') b (k + 1) = hCat (hCg H) b k ++ cgN ((b + k + 1 : Nat) : Int) (H (b + k)).2.2.1 W 72 := hAd_cg
    rw [← hLe, ← hCe] at t3 t5
    obtain ⟨i, hi⟩ : ∃ i : Nat, y = ((b + i : Nat) : Int) := ⟨(y - b).toNat, by have := t3.1; omega⟩
    obtain ⟨k', hk'⟩ : ∃ k', k + 1 = i + k' := ⟨k + 1 - i, by omega⟩
    rw [hi] at t3 t4 t5 t6
    have hPa : rPa G7 o H' (b + i) k' := by
      rw [hk', hCat_K (hLg_r H'), hCat_K (hCg_r H'), hCat_K (hEg_r H')] at t5
      exact t5
    have hsum : b + i + k' = b + k + 1 := by omega
    have hE1 : H' (b + k + 1) = lnM ln0 F' := hAd_s
    have hEn : ∀ r, r ≠ b + k + 1 → H' r = H r := fun r hr => hAd_n hr
    have hqS : qSt1 s M := ⟨⟨g3.1, fun _ _ _ => rfl, g3.2.2⟩, fun p hp hi w hw => by
      rw [g3.2.1 p hp hi] at hw
      exact ((b4 p hp).2 w hw).1⟩
    let ln' : sLn := (H', (b + i, k', ed + (if nx = -1 then 0 else 1)), (fun p => G7 (o + 18) p, fun x => G7 (o + 16) x, true), ([], -1, fun _ => -1), fk)
    have hmo' : lMo ln' = lnM ln0 F' := by
      show H' (b + i + k') = _
      rw [hsum]; exact hE1
    have hkn : kOk T (kNx (H (b + k)).2.2.1 W 72) := m7.nx s10
    have hisM : isMo T (lnM ln0 F') s M := ⟨p1, p2, p3, p4, hqS, d4, hkn⟩
    have hinc1 : inc1 16 (fun y => y < s.1.length ∧ qWc s (nx ≠ -1) (fun p => ∃ x, x ∈ lgR ((b + k + 1 : Nat) : Int) F' (H (b + k)).2.1 ∧ ofP s x.2.2 p) y) (fun y => if nx = -1 then wk y else 0) (fun p => G7 (o + 18) p) := fun y hy => by
      have := t10 y hy
      rw [i5 y hy] at this
      by_cases cc : y < s.1.length ∧ qWc s (nx ≠ -1) (fun p => ∃ x, x ∈ lgR ((b + k + 1 : Nat) : Int) F' (H (b + k)).2.1 ∧ ofP s x.2.2 p) y
      · exact .inl ⟨cc, this.1 cc⟩
      · exact .inr ⟨cc, this.2 cc⟩
    have hcw6 : ∀ x, x < 72 → G6 (o + 16) x = cw x := fun x hx => by rw [z6 _ _ (by omega) (by omega) (by omega) (by omega) (by omega) (by omega) (by omega) (by omega)]; exact r10 x hx
    refine ⟨_, G7, ln', true, s, M, i1.trans t1, ⟨so, Mo, s, R0, R, hMo', p2, by rw [hfrP] at a5; exact a5, b2, .inr ⟨rfl, M, F', b + i, k', _, _, g3, d4, rfl, rfl, hsum, t3, hinc1, fun x hx => ?_⟩⟩, ?_, by rw [hmo']; exact hisM, ?_, .inl ⟨rfl, ?_, ?_⟩, ?_, ?_, fun a j q1 q2 q3 q4 q5 q6 => ?_⟩
    · have := t11 x hx
      rw [hcw6 x hx] at this
      exact this
    · show rPa G7 o H' (b + i) k' ∧ (G7 o 1 = ((H' (b + i + k')).1 : Int) ∧ G7 o 2 = ((b + i + k' : Nat) : Int) ∧ G7 o 3 = ((b + i : Nat) : Int) ∧ G7 o 4 = ((ed + (if nx = -1 then 0 else 1) : Nat) : Int)) ∧ rFa G7 (o + 1) (H' (b + i + k')).2.1 ∧ (∀ c, c < 72 → G7 (o + 15) c = ((H' (b + i + k')).2.2.1 c : Int)) ∧ rCs G7 o (fSh (xOf T (H' (b + i + k')).2.2.1) s M) ∧ (∀ p, p < 16 → G7 (o + 18) p = G7 (o + 18) p) ∧ (∀ c, c < 72 → G7 (o + 16) c = G7 (o + 16) c) ∧ (∃ E, rEd G7 o E ∧ (true = true → qEd s (H' (b + i + k')).2.1 (H' (b + i + k' - 1)).2.1 E) ∧ (true = false → E = [])) ∧ rCx G7 o ln' s ∧ (rPe G7 o [] ∧ G7 o 34 = -1 ∧ ∀ c, c < 72 → G7 (o + 26) c = -1) ∧ G7 o 35 = fk.1 ∧ G7 o 36 = fk.2
      have hcx : rCx G7 o ln' s := ⟨fun _ => by
        show rCh G7 o s (lgR ((b + i + k' : Nat) : Int) (H' (b + i + k')).2.1 (H' (b + i + k' - 1)).2.1)
        rw [hsum, hE1, show b + k + 1 - 1 = b + k by omega, hEn (b + k) (by omega)]
        exact t13', fun q => absurd (show true = false from q) (by decide)⟩
      rw [hsum, hE1, show b + k + 1 - 1 = b + k by omega, hEn (b + k) (by omega)]
      refine ⟨hPa, ⟨by rw [t17]; exact i3, t2, t6, by rw [t18]; exact i4⟩, t7, t8, t9, fun _ _ => rfl, fun _ _ => rfl, ⟨E', t12, fun _ => t13, fun q => absurd q (by decide)⟩, hcx, ⟨⟨t14, Nat.zero_le _, fun x hx => absurd hx (Nat.not_lt_zero x)⟩, t15, t16⟩, ?_, ?_⟩
      · rw [t19, z6 _ _ (by omega) (by omega) (by omega) (by omega) (by omega) (by omega) (by omega) (by omega)]; exact r16
      · rw [t20, z6 _ _ (by omega) (by omega) (by omega) (by omega) (by omega) (by omega) (by omega) (by omega)]; exact r17
    · refine ⟨fun r q1 q2 => ?_, fun r q1 q2 => ?_, ⟨by show b + i + k' ≤ n + 1; omega, ?_⟩, ?_, ?_, fun p hp => ?_, fun x hx => ?_, fun e he => (by cases he), .inl rfl, fun _ => .inl rfl⟩
      · have q1' : b + i ≤ r := q1
        have q2' : r ≤ b + i + k' := q2
        show ∃ s M, isMo T (H' r) s M
        by_cases cr : r = b + k + 1
        · rw [cr, hE1]; exact ⟨s, M, hisM⟩
        · rw [hEn r cr]; exact s1 r (by omega) (by omega)
      · have q1' : b + i < r := q1
        have q2' : r ≤ b + i + k' := q2
        show ((H' r).2.2.2.2 ≠ true → (H' r).1 = (H' (r - 1)).1) ∧ (H' r).2.2.1 = kNx (H' (r - 1)).2.2.1 (H' r).2.2.2.1 72
        by_cases cr : r = b + k + 1
        · rw [cr, hE1, show b + k + 1 - 1 = b + k by omega, hEn (b + k) (by omega)]
          refine ⟨fun w => ?_, rfl⟩
          have cn : nx = -1 := Classical.byContradiction (fun u => w (decide_eq_true u))
          show e' = _
          rw [he', if_pos cn]
        · rw [hEn r cr, hEn (r - 1) (by omega)]
          exact s2 r (by omega) (by omega)
      · show ed + (if nx = -1 then 0 else 1) ≤ n + 1
        split <;> omega
      · have := t3.2.1
        unfold tmOk at this ⊢
        show (lgK ((b + i : Nat) : Int) (hCat (hLg H') (b + i) k')).length ≤ 8000 ∧ (lgK ((b + i : Nat) : Int) (hCat (hCg H') (b + i) k')).length ≤ 100 ∧ (lgK ((b + i : Nat) : Int) (hCat (hEg H') (b + i) k')).length ≤ 7
        rw [lgK_self (hLg_r H'), lgK_self (hCg_r H'), lgK_self (hEg_r H')]
        rw [hk', hCat_K (hLg_r H'), hCat_K (hCg_r H'), hCat_K (hEg_r H')] at this
        exact this
      · show (hCat (hEg H') (b + i) k').length ≤ ed + (if nx = -1 then 0 else 1)
        have hsp : hCat (hEg H') b (k + 1) = hCat (hEg H') b i ++ hCat (hEg H') (b + i) k' := by rw [hk', hCat_split]
        have hEe : hCat (hEg H') b (k + 1) = hCat (hEg H) b k ++ (if decide (nx ≠ -1) = true then [(((b + k + 1 : Nat) : Int), ((H (b + k)).1 : Int))] else []) := hAd_eg
        have l1 := congrArg List.length hsp
        have l2 := congrArg List.length hEe
        rw [List.length_append] at l1 l2
        have l3 : (if decide (nx ≠ -1) = true then [(((b + k + 1 : Nat) : Int), ((H (b + k)).1 : Int))] else []).length = if nx = -1 then 0 else 1 := by
          by_cases cn : nx = -1
          · rw [if_pos cn, decide_eq_false (fun q => q cn), if_neg (by decide)]; rfl
          · rw [if_neg cn, decide_eq_true cn, if_pos rfl]; rfl
        omega
      · show 0 ≤ G7 (o + 18) p ∧ G7 (o + 18) p ≤ ((n + 1 : Nat) : Int)
        have w1 := s6 p hp
        have w2 : 0 ≤ (if nx = -1 then wk p else 0) ∧ (if nx = -1 then wk p else 0) ≤ (n : Int) := by
          split <;> omega
        rcases hinc1 p hp with w | w
        · have := w.2
          simp only [] at this
          omega
        · have := w.2
          simp only [] at this
          omega
      · show 0 ≤ G7 (o + 16) x ∧ G7 (o + 16) x ≤ ((n + 1 : Nat) : Int)
        have w1 := s7 x hx
        have w2 := t11 x hx
        rw [hcw6 x hx] at w2
        rcases w2 with w | w
        · have := w.2; omega
        · have := w.2; omega
    · rw [t22 63 (by omega), z6 _ _ (by omega) (by omega) (by omega) (by omega) (by omega) (by omega) (by omega) (by omega)]
    · rw [t21, z6 _ _ (by omega) (by omega) (by omega) (by omega) (by omega) (by omega) (by omega) (by omega)]
    · rw [t22 65 (by omega), w6 _ _ (by omega) (by omega)]; exact v65
    · rw [t22 74 (by omega), w6 _ _ (by omega) (by omega)]; exact v74
    · rw [t23 a j q1 q2 q3 q4 q5 q6, z6 a j (by omega) q2 q3 (by omega) (by omega) (by omega) (by omega) (by omega)]
  · -- refused
    have n1 : ¬ ¬ ((gd, G4) : Int × xG_).1 = 0 := by rw [g1]; exact fun q => q rfl
    rw [if_neg n1]
    have e63 : G4 0 63 = G 0 63 := z4 _ _ (by omega) (by omega) (by omega) (by omega)
    have w63 : xwr (G4 0 63 + 1) = G 0 63 + 1 := by rw [e63]; exact xwr_g _ (by omega) (by omega)
    obtain ⟨G5, d1, d2, d3, d4, d5⟩ := l_202 (f := f) (o := o) (G := xup2 G4 0 63 (G 0 63 + 1)) (by omega)
    have z5 : ∀ a j, ¬ (a = o ∧ (j = 33 ∨ j = 34)) → a ≠ o + 26 → ¬ (a = 0 ∧ (j ≤ 11 ∨ 21 ≤ j ∧ j ≤ 27 ∨ 37 ≤ j ∧ j ≤ 61 ∨ j = 74 ∨ j = 65 ∨ j = 63)) → ¬ (1 ≤ a ∧ a ≤ 71) → ¬ (107 ≤ a ∧ a ≤ 121) → ¬ (243 ≤ a ∧ a ≤ 246) → G5 a j = G a j := fun a j q1 q2 q3 q4 q5 q6 => by rw [d5 a j q1 (by omega), xup2_n (by omega), z4 a j (by omega) q4 q5 q6]
    refine ⟨-1, G5, lnF (H, (b, k, ed), (wk, cw, tb), (ps, nx, W), fk), false, so, Mo, ?_, ⟨so, Mo, s, R0, R, hMo', p2, by rw [hfrP] at a5; exact a5, b2, .inl ⟨rfl, g2, rfl, rfl⟩⟩, ?_, hMo', ?_, .inr ⟨rfl, ?_, ?_⟩, ?_, ?_, fun a j q1 q2 q3 q4 q5 q6 => z5 a j (by omega) (by omega) (by omega) q2 q3 (by omega)⟩
    · show Option.bind (some (xup2 G4 0 63 (xwr (G4 0 63 + 1)))) _ = _
      rw [w63, Option.bind_some, d1]
      rfl
    · have zl : ∀ a j, o ≤ a → a ≤ o + 28 → ¬ (a = o ∧ (j = 33 ∨ j = 34)) → a ≠ o + 26 → G5 a j = G a j := fun a j q1 q2 q3 q4 => z5 a j q3 q4 (by omega) (by omega) (by omega) (by omega)
      refine ⟨⟨r1.1.ge (zl _ _ (by omega) (by omega) (by omega) (by omega)) (fun a j _ _ => zl _ _ (by omega) (by omega) (by omega) (by omega)), r1.2.1.ge (zl _ _ (by omega) (by omega) (by omega) (by omega)) (fun a j _ _ => zl _ _ (by omega) (by omega) (by omega) (by omega)), r1.2.2.1.ge (zl _ _ (by omega) (by omega) (by omega) (by omega)) (fun a j _ _ => zl _ _ (by omega) (by omega) (by omega) (by omega)), r1.2.2.2⟩, ⟨by rw [zl _ _ (by omega) (by omega) (by omega) (by omega)]; exact r2, by rw [zl _ _ (by omega) (by omega) (by omega) (by omega)]; exact r3, by rw [zl _ _ (by omega) (by omega) (by omega) (by omega)]; exact r4, by rw [zl _ _ (by omega) (by omega) (by omega) (by omega)]; exact r5⟩, r6.ge (zl _ _ (by omega) (by omega) (by omega) (by omega)) (fun a j _ _ => zl _ _ (by omega) (by omega) (by omega) (by omega)), fun x hx => by rw [zl _ _ (by omega) (by omega) (by omega) (by omega)]; exact r7 x hx, fun x hx => by rw [zl _ _ (by omega) (by omega) (by omega) (by omega), zl _ _ (by omega) (by omega) (by omega) (by omega)]; exact r8 x hx, fun p hp => by rw [zl _ _ (by omega) (by omega) (by omega) (by omega)]; exact r9 p hp, fun x hx => by rw [zl _ _ (by omega) (by omega) (by omega) (by omega)]; exact r10 x hx, ⟨E0, r11.ge (zl _ _ (by omega) (by omega) (by omega) (by omega)) (fun a j _ _ => zl _ _ (by omega) (by omega) (by omega) (by omega)), r12, r12'⟩, r18.ge (fun j => zl _ _ (by omega) (by omega) (by omega) (by omega)), ⟨⟨d2, Nat.zero_le _, fun x hx => absurd hx (Nat.not_lt_zero x)⟩, d3, fun x hx => d4 x hx⟩, by rw [zl _ _ (by omega) (by omega) (by omega) (by omega)]; exact r16, by rw [zl _ _ (by omega) (by omega) (by omega) (by omega)]; exact r17⟩
    · have := hS'.mo (Nat.le_succ n)
      obtain ⟨q1, q2, q3, q4, q5, q6, q7, q8⟩ := this
      exact ⟨q1, q2, q3, q4, q5, q6, q7, fun e he => (by cases he), .inl rfl, fun _ => .inl rfl⟩
    · rw [d5 _ _ (by omega) (by omega), xup2_s]
    · rw [z5 _ _ (by omega) (by omega) (by omega) (by omega) (by omega) (by omega)]
    · rw [d5 _ _ (by omega) (by omega), xup2_n (by omega)]; exact v65
    · rw [d5 _ _ (by omega) (by omega), xup2_n (by omega)]; exact v74
end
end
section
/-! The house: lines, loading, going back -/
/-- what a line's moment holds is loaded -/
def rLd (G : xG_) (T : List (List Int)) (lns : Nat → sLn) : Prop := G 0 65 = G 0 64 → ∀ k : Nat, k < 4 → G 0 66 = (k : Int) → ∀ s M, isMo T (lMo (lns k)) s M → ∃ q c, rEn G q c s M
/-- the house; n bounds its numbers -/
def rHb (G : xG_) (T : List (List Int)) (m : Nat) (lns : Nat → sLn) (hr n : Nat) : Prop := rC G ∧ rTxs G T m ∧ G 0 62 = (hr : Int) ∧ hr < 4 ∧ (∀ k, k < 4 → ∃ s M, isMo T (lMo (lns k)) s M ∧ rLn G (123 + 29 * k) T (lns k) s M ∧ sOk T (lns k) n) ∧ (0 ≤ G 0 63 ∧ G 0 63 ≤ n) ∧ (0 ≤ G 0 64 ∧ G 0 64 ≤ n) ∧ G 0 65 ≤ G 0 64 ∧ rLd G T lns
theorem isMo_u {T : List (List Int)} {mo : sMo} {s s' : pPg} {M M' : Nat → List pRw} (h : isMo T mo s M) (h' : isMo T mo s' M') : s = s' ∧ ∀ p, p < s.1.length → M p = M' p := by
  obtain ⟨a1, a2, a3, a4, a5, a6, a7⟩ := h
  obtain ⟨b1, b2, b3, b4, b5, b6, b7⟩ := h'
  have e : s = s' := by
    rw [a2] at b2
    exact Sum.inr.inj b2
  subst e
  exact ⟨rfl, mo_det a3 a5 a6 b5 b6⟩
theorem rEn.ext {G : xG_} {q c : Nat} {s : pPg} {M M' : Nat → List pRw} (h : rEn G q c s M) (he : ∀ p, p < s.1.length → M p = M' p) : rEn G q c s M' := ⟨h.1, h.2.1, h.2.2.1, h.2.2.2.ext he⟩
section
variable {f o h : Nat}
theorem l_310 {G : xG_} {b k : Nat} {r : Int} (h3 : G o 3 = (b : Int)) (h2 : G o 2 = ((b + k : Nat) : Int)) : g310 f o r G = some (if (b : Int) ≤ r ∧ r ≤ ((b + k : Nat) : Int) then 1 else 0, G) := by
  unfold g310 g310_20 g310_21
  rw [h3, h2, if_pos (Or.inl rfl), if_pos (Or.inr rfl)]
  by_cases c1 : r < (b : Int)
  · rw [if_pos c1, if_neg (by omega)]
  · rw [if_neg c1]
    by_cases c2 : ((b + k : Nat) : Int) < r
    · rw [if_pos c2, if_neg (by omega)]
    · rw [if_neg c2, if_pos (by omega)]
/-- the forks of k behind r are lost -/
def fkL (k r : Int) (fk : Int × Int) : Int × Int := if fk.1 = k ∧ r < fk.2 then (-1, fk.2) else fk
theorem l_313 {k r : Int} (hf : 20 < f) : ∀ (d i fu : Nat) (G : xG_), i + d = 4 → d < fu →
    ∃ G', g313_2 f fu k r (i : Int) G = some G' ∧ (∀ x, i ≤ x → x < 4 → G' (123 + 29 * x) 35 = (fkL k r (G (123 + 29 * x) 35, G (123 + 29 * x) 36)).1) ∧ ∀ a j, ¬ (j = 35 ∧ ∃ x, i ≤ x ∧ x < 4 ∧ a = 123 + 29 * x) → G' a j = G a j := by
  intro d
  induction d with
  | zero =>
    intro i fu G h1 h2
    obtain ⟨fu, rfl⟩ : ∃ t, fu = t + 1 := ⟨fu - 1, by omega⟩
    refine ⟨G, ?_, fun x x1 x2 => by omega, fun _ _ _ => rfl⟩
    show g313_2b (g313_2 f fu) f _ _ _ _ = _
    unfold g313_2b
    rw [if_pos (by omega)]
  | succ d ih =>
    intro i fu G h1 h2
    obtain ⟨fu, rfl⟩ : ∃ t, fu = t + 1 := ⟨fu - 1, by omega⟩
    have e : xwr ((i : Int) + 1) = ((i + 1 : Nat) : Int) := by rw [xwr_g _ (by omega) (by omega)]; omega
    have hi : 0 ≤ (i : Int) ∧ (i : Int) < 4 := by omega
    have e0 : g313_2 f (fu + 1) k r (i : Int) G = g313_2b (g313_2 f fu) f k r (i : Int) G := rfl
    by_cases c : G (123 + 29 * i) 35 = k ∧ r < G (123 + 29 * i) 36
    · obtain ⟨G', u1, u2, u3⟩ := ih (i + 1) fu (xup2 G (123 + 29 * i) 35 (-1)) (by omega) (by omega)
      refine ⟨G', ?_, fun x x1 x2 => ?_, fun a j q => ?_⟩
      · rw [e0]
        unfold g313_2b g313_43
        rw [if_neg (by omega), if_pos hi, Int.toNat_natCast, if_neg (fun q => q c.1), if_pos hi, if_neg (by omega), if_pos hi, Option.bind_some, e]
        exact u1
      · by_cases d : x = i
        · rw [d, u3 _ _ (fun q => by obtain ⟨_, y, y1, y2, y3⟩ := q; omega), xup2_s]
          unfold fkL
          rw [if_pos c]
        · rw [u2 x (by omega) x2, xup2_n (by omega), xup2_n (by omega)]
      · rw [u3 a j (fun ⟨q1, y, y1, y2, y3⟩ => q ⟨q1, y, by omega, y2, y3⟩), xup2_n (fun ⟨q1, q2⟩ => q ⟨q2, i, Nat.le_refl i, by omega, q1⟩)]
    · obtain ⟨G', u1, u2, u3⟩ := ih (i + 1) fu G (by omega) (by omega)
      refine ⟨G', ?_, fun x x1 x2 => ?_, fun a j q => u3 a j (fun ⟨q1, y, y1, y2, y3⟩ => q ⟨q1, y, by omega, y2, y3⟩)⟩
      · rw [e0]
        unfold g313_2b g313_43
        rw [if_neg (by omega), if_pos hi, Int.toNat_natCast]
        by_cases c1 : G (123 + 29 * i) 35 = k
        · rw [if_neg (fun q => q c1), if_pos hi, if_pos (by omega), e]
          exact u1
        · rw [if_pos c1, e]
          exact u1
      · by_cases d : x = i
        · rw [d, u3 _ _ (fun q => by obtain ⟨_, y, y1, y2, y3⟩ := q; omega)]
          unfold fkL
          rw [if_neg c]
        · exact u2 x (by omega) x2
end
/-- a line back at round b + i -/
def lnB (ln : sLn) (i : Nat) : sLn := (ln.1, (ln.2.1.1, i, ln.2.1.2.2 - (hCat (hEg ln.1) (ln.2.1.1 + i) (ln.2.1.2.1 - i)).length), ((fun p => if (ln.1 (ln.2.1.1 + i)).1 = (lMo ln).1 then ln.2.2.1.1 p else 0), ln.2.2.1.2.1, false), ([], -1, fun _ => -1), ln.2.2.2.2)
def lnK (ln : sLn) (fk : Int × Int) : sLn := (ln.1, ln.2.1, ln.2.2.1, ln.2.2.2.1, fk)
theorem sOk.fc {T : List (List Int)} {ln : sLn} {n : Nat} (h : sOk T ln n) : hFc ln.1 ln.2.1.1 ln.2.1.2.1 := fun r r1 r2 => by
  obtain ⟨s, M, a1, a2, a3, a4, a5, a6, a7⟩ := h.1 r r1 r2
  exact ⟨a6.1, a6.len a3.1.1 a5.1.1⟩
theorem sOk.bk {T : List (List Int)} {ln : sLn} {n i : Nat} (h : sOk T ln n) (hi : i ≤ ln.2.1.2.1) : sOk T (lnB ln i) n := by
  obtain ⟨H, ⟨b, k, ed⟩, ⟨wk, cw, tb⟩, ⟨ps, nx, W⟩, fk⟩ := ln
  obtain ⟨a1, a2, ⟨a3, a3'⟩, a4, a5, a6, a7, a8, a9, a10⟩ := h
  simp only [] at a1 a2 a3 a3' a4 a5 a6 a7 a8 a9 a10 hi
  obtain ⟨k', rfl⟩ : ∃ k', k = i + k' := ⟨k - i, by omega⟩
  have hl : (hCat (hLg H) b (i + k')).length ≤ 8000 ∧ (hCat (hCg H) b (i + k')).length ≤ 100 ∧ (hCat (hEg H) b (i + k')).length ≤ 7 := by
    unfold tmOk at a4
    rw [lgK_self (hLg_r H), lgK_self (hCg_r H), lgK_self (hEg_r H)] at a4
    exact a4
  rw [hCat_split, hCat_split, hCat_split, List.length_append, List.length_append, List.length_append] at hl
  rw [hCat_split, List.length_append] at a5
  refine ⟨fun r r1 r2 => ?_, fun r r1 r2 => ?_, ⟨?_, ?_⟩, ?_, ?_, fun p hp => ?_, a7, fun e he => (by cases he), .inl rfl, fun _ => .inl rfl⟩
  · have r1' : b ≤ r := r1
    have r2' : r ≤ b + i := r2
    exact a1 r r1' (by omega)
  · have r1' : b < r := r1
    have r2' : r ≤ b + i := r2
    exact a2 r r1' (by omega)
  · show b + i ≤ n
    omega
  · show ed - (hCat (hEg H) (b + i) (i + k' - i)).length ≤ n
    omega
  · unfold tmOk
    show (lgK (b : Int) (hCat (hLg H) b i)).length ≤ 8000 ∧ (lgK (b : Int) (hCat (hCg H) b i)).length ≤ 100 ∧ (lgK (b : Int) (hCat (hEg H) b i)).length ≤ 7
    rw [lgK_self (hLg_r H), lgK_self (hCg_r H), lgK_self (hEg_r H)]
    omega
  · show (hCat (hEg H) b i).length ≤ ed - (hCat (hEg H) (b + i) (i + k' - i)).length
    rw [show i + k' - i = k' by omega]
    omega
  · show 0 ≤ (if (H (b + i)).1 = (H (b + (i + k'))).1 then wk p else 0) ∧ (if (H (b + i)).1 = (H (b + (i + k'))).1 then wk p else 0) ≤ (n : Int)
    have := a6 p hp
    split <;> omega
section
variable {f o h m n : Nat} {T : List (List Int)} {ln : sLn} {so : pPg} {Mo : Nat → List pRw}
/-- a line but for its CELLS' worth -/
def rLx (G : xG_) (o : Nat) (ln : sLn) : Prop :=
  rPa G o ln.1 ln.2.1.1 ln.2.1.2.1 ∧ (G o 1 = ((lMo ln).1 : Int) ∧ G o 2 = ((ln.2.1.1 + ln.2.1.2.1 : Nat) : Int) ∧ G o 3 = (ln.2.1.1 : Int) ∧ G o 4 = (ln.2.1.2.2 : Int)) ∧
  rFa G (o + 1) (lMo ln).2.1 ∧ (∀ c, c < 72 → G (o + 15) c = ((lMo ln).2.2.1 c : Int)) ∧
  (∀ p, p < 16 → G (o + 18) p = ln.2.2.1.1 p) ∧ (∀ c, c < 72 → G (o + 16) c = ln.2.2.1.2.1 c) ∧ (G o 27 = 0 ∧ ∀ p, p < 16 → G (o + 19) p = 0) ∧ ln.2.2.1.2.2 = false ∧
  (rPe G o ln.2.2.2.1.1 ∧ G o 34 = ln.2.2.2.1.2.1 ∧ ∀ c, c < 72 → G (o + 26) c = ln.2.2.2.1.2.2 c) ∧ G o 35 = ln.2.2.2.2.1 ∧ G o 36 = ln.2.2.2.2.2
theorem rLx.li {G : xG_} {s : pPg} {M : Nat → List pRw} (h : rLx G o ln) (hC : rCs G o (fSh (xOf T (lMo ln).2.2.1) s M)) : rLn G o T ln s M := by
  obtain ⟨a1, a2, a3, a4, a5, a6, a7, a8, a9, a10, a11⟩ := h
  exact ⟨a1, a2, a3, a4, hC, a5, a6, ⟨[], ⟨a7.1, Nat.zero_le _, fun i hi => absurd hi (Nat.not_lt_zero i)⟩, fun q => absurd (a8.symm.trans q) (by decide), fun _ => rfl⟩, ⟨fun q => absurd (a8.symm.trans q) (by decide), fun _ => a7.2⟩, a9, a10, a11⟩
theorem rLx.ge {G G' : xG_} (h : rLx G o ln) (hf : ∀ a j, o ≤ a → a ≤ o + 28 → a ≠ o + 17 → a ≠ o + 20 → G' a j = G a j) : rLx G' o ln := by
  obtain ⟨a1, ⟨a2, a2', a2'', a2'''⟩, a3, a4, a5, a6, a7, a8, ⟨a9, a9', a9''⟩, a10, a11⟩ := h
  refine ⟨⟨a1.1.ge (hf _ _ (by omega) (by omega) (by omega) (by omega)) (fun a j _ _ => hf _ _ (by omega) (by omega) (by omega) (by omega)), a1.2.1.ge (hf _ _ (by omega) (by omega) (by omega) (by omega)) (fun a j _ _ => hf _ _ (by omega) (by omega) (by omega) (by omega)), a1.2.2.1.ge (hf _ _ (by omega) (by omega) (by omega) (by omega)) (fun a j _ _ => hf _ _ (by omega) (by omega) (by omega) (by omega)), a1.2.2.2⟩, ⟨by rw [hf _ _ (by omega) (by omega) (by omega) (by omega)]; exact a2, by rw [hf _ _ (by omega) (by omega) (by omega) (by omega)]; exact a2', by rw [hf _ _ (by omega) (by omega) (by omega) (by omega)]; exact a2'', by rw [hf _ _ (by omega) (by omega) (by omega) (by omega)]; exact a2'''⟩, a3.ge (hf _ _ (by omega) (by omega) (by omega) (by omega)) (fun a j _ _ => hf _ _ (by omega) (by omega) (by omega) (by omega)), fun c hc => by rw [hf _ _ (by omega) (by omega) (by omega) (by omega)]; exact a4 c hc, fun c hc => by rw [hf _ _ (by omega) (by omega) (by omega) (by omega)]; exact a5 c hc, fun c hc => by rw [hf _ _ (by omega) (by omega) (by omega) (by omega)]; exact a6 c hc, ⟨by rw [hf _ _ (by omega) (by omega) (by omega) (by omega)]; exact a7.1, fun p hp => by rw [hf _ _ (by omega) (by omega) (by omega) (by omega)]; exact a7.2 p hp⟩, a8, ⟨a9.ge (hf _ _ (by omega) (by omega) (by omega) (by omega)) (fun a j _ _ => hf _ _ (by omega) (by omega) (by omega) (by omega)), by rw [hf _ _ (by omega) (by omega) (by omega) (by omega)]; exact a9', fun c hc => by rw [hf _ _ (by omega) (by omega) (by omega) (by omega)]; exact a9'' c hc⟩, by rw [hf _ _ (by omega) (by omega) (by omega) (by omega)]; exact a10, by rw [hf _ _ (by omega) (by omega) (by omega) (by omega)]; exact a11⟩
/-- become, over a line -/
theorem l_bc {G : xG_} {i : Nat} (hf : 12100 < f) (hn : n < 1000) (hh : h < 4) (ho : o = 123 + 29 * h) (hP : rPa G o ln.1 ln.2.1.1 ln.2.1.2.1) (hg : G o 1 = ((lMo ln).1 : Int) ∧ G o 3 = (ln.2.1.1 : Int) ∧ G o 4 = (ln.2.1.2.2 : Int)) (hFa : rFa G (o + 1) (lMo ln).2.1) (hK : ∀ c, c < 72 → G (o + 15) c = ((lMo ln).2.2.1 c : Int)) (hS : sOk T ln n) (hi : i ≤ ln.2.1.2.1) :
    ∃ G', g312 f o ((ln.2.1.1 + i : Nat) : Int) G = some G' ∧ xfB o G G' ∧ ((∀ p, p < 16 → G (o + 18) p = ln.2.2.1.1 p) → (∀ c, c < 72 → G (o + 16) c = ln.2.2.1.2.1 c) → G o 35 = ln.2.2.2.2.1 → G o 36 = ln.2.2.2.2.2 → rLx G' o (lnB ln i)) := by
  have hS' := hS
  obtain ⟨H, ⟨b, k, ed⟩, ⟨wk, cw, tb⟩, ⟨ps, nx, W⟩, fk⟩ := ln
  obtain ⟨a1, a2, ⟨a3, a3'⟩, a4, a5, a6, a7, a8, a9, a10⟩ := hS
  simp only [] at a1 a2 a3 a3' a4 a5 a6 a7 hi
  obtain ⟨k', rfl⟩ : ∃ k', k = i + k' := ⟨k - i, by omega⟩
  have hle : (hCat (hEg H) (b + i) k').length ≤ ed := by
    rw [hCat_split, List.length_append] at a5
    omega
  obtain ⟨G', u1, u2, u3, u4, u5, u6, u7, u8, u9, u10, u11, u12, u13, u14, u15⟩ := l_312 (f := f) (o := o) (H := H) (b := b) (i := i) (k := k') (ed := ed - (hCat (hEg H) (b + i) k').length) hf hh ho hP a2 hS'.fc hg.1 hFa hK (by rw [hg.2.2]; show (ed : Int) = _; omega) (by omega)
  refine ⟨G', u1, u15, fun w1 w2 w3 w4 => ?_⟩
  refine ⟨u2, ⟨u3, u4, by rw [u5]; exact hg.2.1, ?_⟩, u7, u8, fun p hp => ?_, fun c hc => ?_, ⟨u12, u13⟩, rfl, ⟨⟨u9, Nat.zero_le _, fun x hx => absurd hx (Nat.not_lt_zero x)⟩, u10, u11⟩, ?_, ?_⟩
  · rw [u6]
    show ((ed - (hCat (hEg H) (b + i) k').length : Nat) : Int) = ((ed - (hCat (hEg H) (b + i) (i + k' - i)).length : Nat) : Int)
    rw [show i + k' - i = k' by omega]
  · rw [u14 p hp]
    show (if (H (b + i)).1 = (H (b + (i + k'))).1 then G (o + 18) p else 0) = (if (H (b + i)).1 = (H (b + (i + k'))).1 then wk p else 0)
    rw [w1 p hp]
  · rw [u15 _ _ (by omega) (by omega) (by omega) (by omega) (by omega) (by omega) (by omega)]; exact w2 c hc
  · rw [u15 _ _ (by omega) (by omega) (by omega) (by omega) (by omega) (by omega) (by omega)]; exact w3
  · rw [u15 _ _ (by omega) (by omega) (by omega) (by omega) (by omega) (by omega) (by omega)]; exact w4
end
end
section
/-! load() of the house; line() -/
/-- what the house's methods change at most -/
def xfHo (G G' : xG_) : Prop := ∀ a j, ¬ (a = 0 ∧ (j ≤ 11 ∨ 21 ≤ j ∧ j ≤ 27 ∨ 37 ≤ j ∧ j ≤ 66 ∨ j = 74 ∨ 89 ≤ j ∧ j ≤ 91)) → ¬ (1 ≤ a ∧ a ≤ 71) → ¬ (107 ≤ a ∧ a ≤ 238) → ¬ (243 ≤ a ∧ a ≤ 256) → ¬ (258 ≤ a ∧ a ≤ 270) → G' a j = G a j
theorem xfHo.tr {G G1 G2 : xG_} (h1 : xfHo G G1) (h2 : xfHo G1 G2) : xfHo G G2 := fun a j q1 q2 q3 q4 q5 => (h2 a j q1 q2 q3 q4 q5).trans (h1 a j q1 q2 q3 q4 q5)
theorem rC.ge {G G' : xG_} (h : rC G) (hz : ∀ j, 12 ≤ j → j ≤ 20 → G' 0 j = G 0 j) : rC G' := by
  obtain ⟨k1, k2, k3, k4, k5, k6, k7, k8, k9⟩ := h
  exact ⟨by rw [hz _ (by decide) (by decide)]; exact k1, by rw [hz _ (by decide) (by decide)]; exact k2, by rw [hz _ (by decide) (by decide)]; exact k3, by rw [hz _ (by decide) (by decide)]; exact k4, by rw [hz _ (by decide) (by decide)]; exact k5, by rw [hz _ (by decide) (by decide)]; exact k6, by rw [hz _ (by decide) (by decide)]; exact k7, by rw [hz _ (by decide) (by decide)]; exact k8, by rw [hz _ (by decide) (by decide)]; exact k9⟩
/-- the house but for what is loaded -/
def rHc (G : xG_) (T : List (List Int)) (m : Nat) (lns : Nat → sLn) (n : Nat) : Prop := rC G ∧ rTxs G T m ∧ (∀ k, k < 4 → ∃ s M, isMo T (lMo (lns k)) s M ∧ rLn G (123 + 29 * k) T (lns k) s M ∧ sOk T (lns k) n)
theorem rHc.ge {G G' : xG_} {T : List (List Int)} {m n : Nat} {lns : Nat → sLn} (h : rHc G T m lns n) (h0 : ∀ j, 12 ≤ j ∧ j ≤ 20 ∨ 71 ≤ j ∧ j ≤ 72 → G' 0 j = G 0 j) (h1 : ∀ a j, 123 ≤ a → a ≤ 242 → a ≠ 240 → G' a j = G a j) : rHc G' T m lns n := by
  obtain ⟨a1, a2, a3⟩ := h
  refine ⟨a1.ge (fun j _ _ => h0 j (by omega)), a2.ge (h0 _ (by omega)) (h0 _ (by omega)) (fun a j _ => h1 _ _ (by omega) (by omega) (by omega)), fun k hk => ?_⟩
  obtain ⟨s, M, b1, b2, b3⟩ := a3 k hk
  exact ⟨s, M, b1, b2.ge (fun a j _ _ => h1 _ _ (by omega) (by omega) (by omega)), b3⟩
theorem rHc.mo {G : xG_} {T : List (List Int)} {m n n' : Nat} {lns : Nat → sLn} (h : rHc G T m lns n) (hn : n ≤ n') : rHc G T m lns n' := ⟨h.1, h.2.1, fun k hk => by
  obtain ⟨s, M, b1, b2, b3⟩ := h.2.2 k hk
  exact ⟨s, M, b1, b2, b3.mo hn⟩⟩
theorem rHb.c {G : xG_} {T : List (List Int)} {m hr n : Nat} {lns : Nat → sLn} (h : rHb G T m lns hr n) : rHc G T m lns n := ⟨h.1, h.2.1, h.2.2.2.2.1⟩
theorem rHb.of {G : xG_} {T : List (List Int)} {m hr n : Nat} {lns : Nat → sLn} (h : rHc G T m lns n) (h1 : G 0 62 = (hr : Int)) (h2 : hr < 4) (h3 : 0 ≤ G 0 63 ∧ G 0 63 ≤ n) (h4 : 0 ≤ G 0 64 ∧ G 0 64 ≤ n) (h5 : G 0 65 ≤ G 0 64) (h6 : rLd G T lns) : rHb G T m lns hr n := ⟨h.1, h.2.1, h1, h2, h.2.2, h3, h4, h5, h6⟩
theorem rLd.ge {G G' : xG_} {T : List (List Int)} {lns : Nat → sLn} (h : rLd G T lns) (h0 : ∀ j, 64 ≤ j → j ≤ 66 → G' 0 j = G 0 j) (h1 : ∀ a j, 2 ≤ a → a ≤ 36 → G' a j = G a j) (h2 : ∀ a j, 107 ≤ a → a ≤ 109 → G' a j = G a j) : rLd G' T lns := fun e k hk e2 s M hM => by
  rw [h0 _ (by decide) (by decide), h0 _ (by decide) (by decide)] at e
  rw [h0 _ (by decide) (by decide)] at e2
  obtain ⟨q, c, r⟩ := h e k hk e2 s M hM
  exact ⟨q, c, r.ge h1 h2⟩
section
variable {f m n hr : Nat} {T : List (List Int)} {lns : Nat → sLn}
/-- load() -/
theorem l_ld {G : xG_} (hf : 1000100 < f) (h : rHb G T m lns hr n) :
    ∃ G' q c s M, g296 f G = some G' ∧ xLd G G' ∧ isMo T (lMo (lns hr)) s M ∧ rEn G' q c s M ∧ rHb G' T m lns hr n := by
  have hc := h.c
  obtain ⟨a1, a2, a3, a4, a5, a6, a7, a8, a9⟩ := h
  obtain ⟨s, M, b1, b2, b3⟩ := a5 hr a4
  obtain ⟨c1, c2, c3, c4, c5, c6, c7⟩ := b1
  obtain ⟨G', q, c, k1, k2, k3, k4, k5⟩ := l_296 (f := f) (h := hr) (o := 123 + 29 * hr) hf a4 rfl a3 a1 a2 c1 b2.2.1.1 c2 c3 c4 c5 b2.2.2.1 c6 (fun e1 e2 => a9 e1 hr a4 e2 s M ⟨c1, c2, c3, c4, c5, c6, c7⟩)
  have z : ∀ a j, ¬ (a = 0 ∧ (j ≤ 11 ∨ 21 ≤ j ∧ j ≤ 27 ∨ 37 ≤ j ∧ j ≤ 61 ∨ 65 ≤ j ∧ j ≤ 66)) → ¬ (1 ≤ a ∧ a ≤ 36) → ¬ (107 ≤ a ∧ a ≤ 121) → G' a j = G a j := fun a j q1 q2 q3 => k2 a j (by omega) q2 (by omega)
  refine ⟨G', q, c, s, M, k1, k2, ⟨c1, c2, c3, c4, c5, c6, c7⟩, k3, ?_⟩
  refine rHb.of (hc.ge (fun j _ => z _ _ (by omega) (by omega) (by omega)) (fun a j _ _ _ => z _ _ (by omega) (by omega) (by omega))) (by rw [z _ _ (by omega) (by omega) (by omega)]; exact a3) a4 (by rw [z _ _ (by omega) (by omega) (by omega)]; exact a6) (by rw [z _ _ (by omega) (by omega) (by omega)]; exact a7) (by rw [k4, z 0 64 (by omega) (by omega) (by omega)]; exact Int.le_refl _) ?_
  intro _ k hk e2 s' M' hM'
  rw [k5] at e2
  have : hr = k := by omega
  subst this
  obtain ⟨e3, e4⟩ := isMo_u (⟨c1, c2, c3, c4, c5, c6, c7⟩ : isMo T (lMo (lns hr)) s M) hM'
  subst e3
  exact ⟨q, c, k3.ext e4⟩
/-- only (0, 74) has changed -/
theorem rHb.u74 {G : xG_} {v : Int} (h : rHb G T m lns hr n) : rHb (xup2 G 0 74 v) T m lns hr n := by
  have hc := h.c
  obtain ⟨a1, a2, a3, a4, a5, a6, a7, a8, a9⟩ := h
  have z : ∀ a j, ¬ (a = 0 ∧ j = 74) → xup2 G 0 74 v a j = G a j := fun a j q => xup2_n (by omega)
  exact rHb.of (hc.ge (fun j _ => z _ _ (by omega)) (fun a j _ _ _ => z _ _ (by omega))) (by rw [z _ _ (by omega)]; exact a3) a4 (by rw [z _ _ (by omega)]; exact a6) (by rw [z _ _ (by omega)]; exact a7) (by rw [z _ _ (by omega), z _ _ (by omega)]; exact a8) (a9.ge (fun j _ _ => z _ _ (by omega)) (fun a j _ _ => z _ _ (by omega)) (fun a j _ _ => z _ _ (by omega)))
theorem rHb.mo {G : xG_} {n' : Nat} (h : rHb G T m lns hr n) (hn : n ≤ n') : rHb G T m lns hr n' := by
  have hc := h.c
  obtain ⟨a1, a2, a3, a4, a5, a6, a7, a8, a9⟩ := h
  exact rHb.of (hc.mo hn) a3 a4 ⟨a6.1, by omega⟩ ⟨a7.1, by omega⟩ a8 a9
/-- the latest round isn't told any more -/
def lnT (ln : sLn) : sLn := (ln.1, ln.2.1, (ln.2.2.1.1, ln.2.2.1.2.1, false), ln.2.2.2.1, ln.2.2.2.2)
/-- line() -/
theorem l_317 {G : xG_} {k : Int} (hf : 100 < f) (h : rHb G T m lns hr n) :
    ∃ G', g317 f k G = some (if 0 ≤ k ∧ k < 4 then (hr : Int) else -1, G') ∧ rHb G' T m (if 0 ≤ k ∧ k < 4 then (fun x => if x = k.toNat then lnT (lns x) else lns x) else lns) (if 0 ≤ k ∧ k < 4 then k.toNat else hr) n ∧ G' 0 74 = 0 ∧ G' 0 63 = G 0 63 ∧ xfHo G G' := by
  have h0 := h.u74 (v := 0)
  by_cases c : 0 ≤ k ∧ k < 4
  · obtain ⟨x, rfl⟩ : ∃ x : Nat, k = (x : Int) := ⟨k.toNat, by omega⟩
    have hx : x < 4 := by omega
    have hc := h.c
    obtain ⟨a1, a2, a3, a4, a5, a6, a7, a8, a9⟩ := h
    obtain ⟨G1, u1, u2, u3, u4⟩ := l_203 (f := f) (o := 123 + 29 * x) (G := xup2 (xup2 G 0 74 0) 0 62 (x : Int)) (by omega)
    have z : ∀ a j, ¬ (a = 0 ∧ (j = 74 ∨ j = 62)) → ¬ (a = 123 + 29 * x ∧ j = 27) → ¬ (a = 123 + 29 * x + 19 ∧ j < 16) → G1 a j = G a j := fun a j q1 q2 q3 => by rw [u4 a j q2 q3, xup2_n (by omega), xup2_n (by omega)]
    rw [if_pos c, if_pos c, if_pos c, Int.toNat_natCast]
    refine ⟨G1, ?_, ?_, ?_, ?_, fun a j q1 q2 q3 q4 q5 => z a j (by omega) (by omega) (by omega)⟩
    · unfold g317
      rw [Option.bind_some, if_neg (by omega), if_pos (by omega), Option.bind_some, if_pos c, Int.toNat_natCast, u1, Option.bind_some, xup2_n (by omega), a3]
    · refine rHb.of ⟨a1.ge (fun j _ _ => z _ _ (by omega) (by omega) (by omega)), a2.ge (z _ _ (by omega) (by omega) (by omega)) (z _ _ (by omega) (by omega) (by omega)) (fun a j _ => z _ _ (by omega) (by omega) (by omega)), fun y hy => ?_⟩ (by rw [u4 _ _ (by omega) (by omega), xup2_s]) hx (by rw [z _ _ (by omega) (by omega) (by omega)]; exact a6) (by rw [z _ _ (by omega) (by omega) (by omega)]; exact a7) (by rw [z _ _ (by omega) (by omega) (by omega), z _ _ (by omega) (by omega) (by omega)]; exact a8) ?_
      · obtain ⟨s, M, b1, b2, b3⟩ := a5 y hy
        by_cases d : y = x
        · simp only [if_pos d]
          rw [d] at b1 b2 b3 ⊢
          refine ⟨s, M, b1, ?_, b3⟩
          obtain ⟨r1, ⟨r2, r3, r4, r5⟩, r6, r7, r8, r9, r10, r11, r18, ⟨r13, r14, r15⟩, r16, r17⟩ := b2
          have zz : ∀ a j, 123 + 29 * x ≤ a → ¬ (a = 123 + 29 * x ∧ j = 27) → a ≠ 123 + 29 * x + 19 → G1 a j = G a j := fun a j q1 q2 q3 => z _ _ (by omega) q2 (by omega)
          refine ⟨⟨r1.1.ge (zz _ _ (by omega) (by omega) (by omega)) (fun a j _ _ => zz _ _ (by omega) (by omega) (by omega)), r1.2.1.ge (zz _ _ (by omega) (by omega) (by omega)) (fun a j _ _ => zz _ _ (by omega) (by omega) (by omega)), r1.2.2.1.ge (zz _ _ (by omega) (by omega) (by omega)) (fun a j _ _ => zz _ _ (by omega) (by omega) (by omega)), r1.2.2.2⟩, ⟨by rw [zz _ _ (by omega) (by omega) (by omega)]; exact r2, by rw [zz _ _ (by omega) (by omega) (by omega)]; exact r3, by rw [zz _ _ (by omega) (by omega) (by omega)]; exact r4, by rw [zz _ _ (by omega) (by omega) (by omega)]; exact r5⟩, r6.ge (zz _ _ (by omega) (by omega) (by omega)) (fun a j _ _ => zz _ _ (by omega) (by omega) (by omega)), fun c hc => by rw [zz _ _ (by omega) (by omega) (by omega)]; exact r7 c hc, fun c hc => by rw [zz _ _ (by omega) (by omega) (by omega), zz _ _ (by omega) (by omega) (by omega)]; exact r8 c hc, fun p hp => by rw [zz _ _ (by omega) (by omega) (by omega)]; exact r9 p hp, fun c hc => by rw [zz _ _ (by omega) (by omega) (by omega)]; exact r10 c hc, ⟨[], ⟨u2, Nat.zero_le _, fun i hi => absurd hi (Nat.not_lt_zero i)⟩, fun q => absurd (show false = true from q) (by decide), fun _ => rfl⟩, ⟨fun q => absurd (show false = true from q) (by decide), fun _ p hp => u3 p hp⟩, ⟨r13.ge (zz _ _ (by omega) (by omega) (by omega)) (fun a j _ _ => zz _ _ (by omega) (by omega) (by omega)), by rw [zz _ _ (by omega) (by omega) (by omega)]; exact r14, fun c hc => by rw [zz _ _ (by omega) (by omega) (by omega)]; exact r15 c hc⟩, by rw [zz _ _ (by omega) (by omega) (by omega)]; exact r16, by rw [zz _ _ (by omega) (by omega) (by omega)]; exact r17⟩
        · simp only [if_neg d]
          exact ⟨s, M, b1, b2.ge (fun a j _ _ => z _ _ (by omega) (by omega) (by omega)), b3⟩
      · have hl := a9.ge (G' := G1) (fun j _ _ => z _ _ (by omega) (by omega) (by omega)) (fun a j _ _ => z _ _ (by omega) (by omega) (by omega)) (fun a j _ _ => z _ _ (by omega) (by omega) (by omega))
        intro e1 y hy e2 s M hM
        refine hl e1 y hy e2 s M ?_
        by_cases d : y = x
        · simp only [if_pos d] at hM
          exact hM
        · simp only [if_neg d] at hM
          exact hM
    · rw [u4 _ _ (by omega) (by omega), xup2_n (by omega), xup2_s]
    · exact z _ _ (by omega) (by omega) (by omega)
  · rw [if_neg c, if_neg c, if_neg c]
    refine ⟨xup2 G 0 74 0, ?_, h0, xup2_s _ _ _ _, xup2_n (by omega), fun a j q1 q2 q3 q4 q5 => xup2_n (by omega)⟩
    unfold g317 g317_14
    rw [Option.bind_some]
    by_cases c1 : k < 0
    · rw [if_pos c1]
    · rw [if_neg c1, if_neg (by omega)]
end
end
section
/-! back() -/
theorem rLn.ck {G : xG_} {o m : Nat} {T : List (List Int)} {ln : sLn} {s : pPg} {M : Nat → List pRw} (h : rLn G o T ln s M) (hC : rC G) (hT : rTxs G T m) (hM : isMo T (lMo ln) s M) : okC (cOf G o) := by
  obtain ⟨r1, r2, r6, r7, r8, r9⟩ := h
  obtain ⟨c1, c2, c3, c4, c5, c6, c7⟩ := hM
  have hX : okX (xOf T (lMo ln).2.2.1) := okX_of hC hT (c7.rKt r7)
  intro c hc
  have := fSh_ok (s := s) (M := M) hX (fun p hp r hr' => ((c5.1.1 p hp).2.2 r hr').2) (fun p hp => by have := (c5.1.1 p hp).1; omega) c hc
  unfold cOf
  rw [(r8 c hc).1, (r8 c hc).2]
  exact this
section
variable {f m n hr : Nat} {T : List (List Int)} {lns : Nat → sLn} {s : pPg} {M : Nat → List pRw}
theorem l_lv {G : xG_} (hf : 1000100 < f) (hh : hr < 4) (hC : rC G) (hT : rTxs G T m) (h62 : G 0 62 = (hr : Int)) (hx : rLx G (123 + 29 * hr) (lns hr)) (hok : okC (cOf G (123 + 29 * hr))) (hM : isMo T (lMo (lns hr)) s M) (hS : sOk T (lns hr) n) (ho : ∀ k, k < 4 → k ≠ hr → ∃ s M, isMo T (lMo (lns k)) s M ∧ rLn G (123 + 29 * k) T (lns k) s M ∧ sOk T (lns k) n) (h63 : 0 ≤ G 0 63 ∧ G 0 63 ≤ n) (h64 : 0 ≤ G 0 64 ∧ G 0 64 ≤ n) (h65 : G 0 65 < G 0 64) :
    ∃ G1 G2, g296 f G = some G1 ∧ g346 f (123 + 29 * hr) G1 = some G2 ∧ rHb G2 T m lns hr n ∧ ∀ a j, ¬ (a = 0 ∧ (j ≤ 11 ∨ 21 ≤ j ∧ j ≤ 27 ∨ 37 ≤ j ∧ j ≤ 61 ∨ 65 ≤ j ∧ j ≤ 66 ∨ 89 ≤ j ∧ j ≤ 91)) → ¬ (1 ≤ a ∧ a ≤ 36) → ¬ (107 ≤ a ∧ a ≤ 121) → ¬ (258 ≤ a ∧ a ≤ 270) → a ≠ 123 + 29 * hr + 17 → a ≠ 123 + 29 * hr + 20 → G2 a j = G a j := by
  have hob : 122 < 123 + 29 * hr ∧ 123 + 29 * hr < 211 := by omega
  obtain ⟨c1, c2, c3, c4, c5, c6, c7⟩ := hM
  obtain ⟨G1, q, c, k1, k2, k3, k4, k5⟩ := l_296 (f := f) (h := hr) (o := 123 + 29 * hr) hf hh rfl h62 hC hT c1 hx.2.1.1 c2 c3 c4 c5 hx.2.2.1 c6 (fun e1 _ => absurd e1 (by omega))
  have z1 : ∀ a j, ¬ (a = 0 ∧ (j ≤ 11 ∨ 21 ≤ j ∧ j ≤ 27 ∨ 37 ≤ j ∧ j ≤ 61 ∨ 65 ≤ j ∧ j ≤ 66)) → ¬ (1 ≤ a ∧ a ≤ 36) → ¬ (107 ≤ a ∧ a ≤ 121) → G1 a j = G a j := fun a j q1 q2 q3 => k2 a j (by omega) q2 (by omega)
  have hC1 : rC G1 := hC.ge (fun j _ _ => z1 _ _ (by omega) (by omega) (by omega))
  have hT1 : rTxs G1 T m := hT.ge (z1 _ _ (by omega) (by omega) (by omega)) (z1 _ _ (by omega) (by omega) (by omega)) (fun a j _ => z1 _ _ (by omega) (by omega) (by omega))
  have hK1 : rKt G1 (123 + 29 * hr) T (lMo (lns hr)).2.2.1 := c7.rKt (fun x hx' => by rw [z1 _ _ (by omega) (by omega) (by omega)]; exact hx.2.2.2.1 x hx')
  have hn2 : ∀ p, p < s.1.length → 0 ≤ pNn s.2.2.2.1 (p : Int) := fun p _ => (pNn_in c3.1 (p : Int)).1
  obtain ⟨G2, u1, u2, u3, u4, u5⟩ := l_346 (f := f) (G := G1) (by omega) hob (fun p hp r hr' => ((c5.1.1 p hp).2.2 r hr').2) hn2 ⟨hC1, hT1, hK1, k3.1.1, k3.2.1, k3.2.2.2⟩ (fun x hx' => by
    have := hok x hx'
    unfold cOf at this ⊢
    rw [z1 _ _ (by omega) (by omega) (by omega), z1 _ _ (by omega) (by omega) (by omega)]
    exact this)
  have z2 : ∀ a j, ¬ (a = 0 ∧ (j ≤ 11 ∨ 21 ≤ j ∧ j ≤ 27 ∨ 37 ≤ j ∧ j ≤ 61 ∨ 65 ≤ j ∧ j ≤ 66 ∨ 89 ≤ j ∧ j ≤ 91)) → ¬ (1 ≤ a ∧ a ≤ 36) → ¬ (107 ≤ a ∧ a ≤ 121) → ¬ (258 ≤ a ∧ a ≤ 270) → a ≠ 123 + 29 * hr + 17 → a ≠ 123 + 29 * hr + 20 → G2 a j = G a j := fun a j q1 q2 q3 q4 q5 q6 => by rw [u5 a j (by omega) (by omega) (by omega) q5 q6, z1 a j (by omega) q2 q3]
  have w2 : ∀ a j, ¬ (a = 0 ∧ (j ≤ 11 ∨ j = 21 ∨ j = 25 ∨ j = 42 ∨ 89 ≤ j ∧ j ≤ 91)) → a < 122 → G2 a j = G1 a j := fun a j q1 q2 => u5 a j q1 (by omega) (by omega) (by omega) (by omega)
  refine ⟨G1, G2, k1, u1, ?_, z2⟩
  refine rHb.of ⟨hC.ge (fun j _ _ => z2 _ _ (by omega) (by omega) (by omega) (by omega) (by omega) (by omega)), hT.ge (z2 _ _ (by omega) (by omega) (by omega) (by omega) (by omega) (by omega)) (z2 _ _ (by omega) (by omega) (by omega) (by omega) (by omega) (by omega)) (fun a j _ => z2 _ _ (by omega) (by omega) (by omega) (by omega) (by omega) (by omega)), fun k hk => ?_⟩ (by rw [z2 _ _ (by omega) (by omega) (by omega) (by omega) (by omega) (by omega)]; exact h62) hh (by rw [z2 _ _ (by omega) (by omega) (by omega) (by omega) (by omega) (by omega)]; exact h63) (by rw [z2 _ _ (by omega) (by omega) (by omega) (by omega) (by omega) (by omega)]; exact h64) (by rw [w2 _ _ (by omega) (by omega), w2 _ _ (by omega) (by omega), k4, z1 0 64 (by omega) (by omega) (by omega)]; exact Int.le_refl _) ?_
  · by_cases d : k = hr
    · rw [d]
      refine ⟨s, M, ⟨c1, c2, c3, c4, c5, c6, c7⟩, (hx.ge (fun a j _ _ q1 q2 => z2 _ _ (by omega) (by omega) (by omega) (by omega) q1 q2)).li u4, hS⟩
    · obtain ⟨s', M', b1, b2, b3⟩ := ho k hk d
      exact ⟨s', M', b1, b2.ge (fun a j _ _ => z2 _ _ (by omega) (by omega) (by omega) (by omega) (by omega) (by omega)), b3⟩
  · intro _ k hk e2 s' M' hM'
    rw [w2 _ _ (by omega) (by omega), k5] at e2
    have : hr = k := by omega
    subst this
    obtain ⟨e3, e4⟩ := isMo_u (⟨c1, c2, c3, c4, c5, c6, c7⟩ : isMo T (lMo (lns hr)) s M) hM'
    subst e3
    exact ⟨q, c, (k3.ge (fun a j _ _ => w2 _ _ (by omega) (by omega)) (fun a j _ _ => w2 _ _ (by omega) (by omega))).ext e4⟩
/-- the fork of a line that goes back -/
def fkB (r : Int) (fk : Int × Int) : Int × Int := if fk.1 ≠ -1 ∧ r < fk.2 then (-1, fk.2) else fk
/-- back() -/
def stBk (lns : Nat → sLn) (hr : Nat) (r v : Int) (lns' : Nat → sLn) : Prop :=
  (∃ i : Nat, i ≤ (lns hr).2.1.2.1 ∧ r = (((lns hr).2.1.1 + i : Nat) : Int) ∧ v = (((lns hr).2.1.2.1 - i : Nat) : Int) ∧ lns' = fun k => if k = hr then lnK (lnB (lns hr) i) (fkB r (fkL (hr : Int) r (lns hr).2.2.2.2)) else lnK (lns k) (fkL (hr : Int) r (lns k).2.2.2.2)) ∨
  (¬ (((lns hr).2.1.1 : Int) ≤ r ∧ r ≤ (((lns hr).2.1.1 + (lns hr).2.1.2.1 : Nat) : Int)) ∧ v = -1 ∧ lns' = lns)
theorem rLn.fk {G G' : xG_} {o : Nat} {ln : sLn} {fk : Int × Int} (h : rLn G o T ln s M) (hf : ∀ a j, o ≤ a → a ≤ o + 28 → ¬ (a = o ∧ j = 35) → G' a j = G a j) (h1 : G' o 35 = fk.1) (h2 : fk.2 = ln.2.2.2.2.2) : rLn G' o T (lnK ln fk) s M := by
  obtain ⟨r1, ⟨r2, r3, r4, r5⟩, r6, r7, r8, r9, r10, ⟨E, r11, r12⟩, r18, ⟨r13, r14, r15⟩, r16, r17⟩ := h
  have zz : ∀ a j, o ≤ a → a ≤ o + 28 → ¬ (a = o ∧ j = 35) → G' a j = G a j := hf
  refine ⟨⟨r1.1.ge (zz _ _ (by omega) (by omega) (by omega)) (fun a j _ _ => zz _ _ (by omega) (by omega) (by omega)), r1.2.1.ge (zz _ _ (by omega) (by omega) (by omega)) (fun a j _ _ => zz _ _ (by omega) (by omega) (by omega)), r1.2.2.1.ge (zz _ _ (by omega) (by omega) (by omega)) (fun a j _ _ => zz _ _ (by omega) (by omega) (by omega)), r1.2.2.2⟩, ⟨by rw [zz _ _ (by omega) (by omega) (by omega)]; exact r2, by rw [zz _ _ (by omega) (by omega) (by omega)]; exact r3, by rw [zz _ _ (by omega) (by omega) (by omega)]; exact r4, by rw [zz _ _ (by omega) (by omega) (by omega)]; exact r5⟩, r6.ge (zz _ _ (by omega) (by omega) (by omega)) (fun a j _ _ => zz _ _ (by omega) (by omega) (by omega)), fun c hc => by rw [zz _ _ (by omega) (by omega) (by omega)]; exact r7 c hc, fun c hc => by rw [zz _ _ (by omega) (by omega) (by omega), zz _ _ (by omega) (by omega) (by omega)]; exact r8 c hc, fun p hp => by rw [zz _ _ (by omega) (by omega) (by omega)]; exact r9 p hp, fun c hc => by rw [zz _ _ (by omega) (by omega) (by omega)]; exact r10 c hc, ⟨E, r11.ge (zz _ _ (by omega) (by omega) (by omega)) (fun a j _ _ => zz _ _ (by omega) (by omega) (by omega)), r12⟩, r18.ge (fun j => zz _ _ (by omega) (by omega) (by omega)), ⟨r13.ge (zz _ _ (by omega) (by omega) (by omega)) (fun a j _ _ => zz _ _ (by omega) (by omega) (by omega)), by rw [zz _ _ (by omega) (by omega) (by omega)]; exact r14, fun c hc => by rw [zz _ _ (by omega) (by omega) (by omega)]; exact r15 c hc⟩, h1, ?_⟩
  rw [zz _ _ (by omega) (by omega) (by omega)]
  exact r17.trans h2.symm
theorem rLx.fk {G G' : xG_} {o : Nat} {ln : sLn} {fk : Int × Int} (h : rLx G o ln) (hf : ∀ a j, o ≤ a → a ≤ o + 28 → ¬ (a = o ∧ j = 35) → G' a j = G a j) (h1 : G' o 35 = fk.1) (h2 : fk.2 = ln.2.2.2.2.2) : rLx G' o (lnK ln fk) := by
  obtain ⟨a1, ⟨a2, a2', a2'', a2'''⟩, a3, a4, a5, a6, a7, a8, ⟨a9, a9', a9''⟩, a10, a11⟩ := h
  refine ⟨⟨a1.1.ge (hf _ _ (by omega) (by omega) (by omega)) (fun a j _ _ => hf _ _ (by omega) (by omega) (by omega)), a1.2.1.ge (hf _ _ (by omega) (by omega) (by omega)) (fun a j _ _ => hf _ _ (by omega) (by omega) (by omega)), a1.2.2.1.ge (hf _ _ (by omega) (by omega) (by omega)) (fun a j _ _ => hf _ _ (by omega) (by omega) (by omega)), a1.2.2.2⟩, ⟨by rw [hf _ _ (by omega) (by omega) (by omega)]; exact a2, by rw [hf _ _ (by omega) (by omega) (by omega)]; exact a2', by rw [hf _ _ (by omega) (by omega) (by omega)]; exact a2'', by rw [hf _ _ (by omega) (by omega) (by omega)]; exact a2'''⟩, a3.ge (hf _ _ (by omega) (by omega) (by omega)) (fun a j _ _ => hf _ _ (by omega) (by omega) (by omega)), fun c hc => by rw [hf _ _ (by omega) (by omega) (by omega)]; exact a4 c hc, fun c hc => by rw [hf _ _ (by omega) (by omega) (by omega)]; exact a5 c hc, fun c hc => by rw [hf _ _ (by omega) (by omega) (by omega)]; exact a6 c hc, ⟨by rw [hf _ _ (by omega) (by omega) (by omega)]; exact a7.1, fun p hp => by rw [hf _ _ (by omega) (by omega) (by omega)]; exact a7.2 p hp⟩, a8, ⟨a9.ge (hf _ _ (by omega) (by omega) (by omega)) (fun a j _ _ => hf _ _ (by omega) (by omega) (by omega)), by rw [hf _ _ (by omega) (by omega) (by omega)]; exact a9', fun c hc => by rw [hf _ _ (by omega) (by omega) (by omega)]; exact a9'' c hc⟩, h1, ?_⟩
  rw [hf _ _ (by omega) (by omega) (by omega)]
  exact a11.trans h2.symm
theorem fkL_2 (k r : Int) (fk : Int × Int) : (fkL k r fk).2 = fk.2 := by
  unfold fkL
  split <;> rfl
theorem fkB_2 (r : Int) (fk : Int × Int) : (fkB r fk).2 = fk.2 := by
  unfold fkB
  split <;> rfl
theorem l_314 {G : xG_} {r : Int} (hf : 1000100 < f) (hn : n < 900) (h : rHb G T m lns hr n) :
    ∃ v G' lns', g314 f r G = some (v, G') ∧ stBk lns hr r v lns' ∧ rHb G' T m lns' hr (n + 1) ∧ G' 0 74 = 0 ∧ G' 0 63 = G 0 63 ∧ xfHo G G' := by
  have h0 := h.u74 (v := 0)
  obtain ⟨a1, a2, a3, a4, a5, a6, a7, a8, a9⟩ := h
  obtain ⟨s0, M0, b1, b2, b3⟩ := a5 hr a4
  let o := 123 + 29 * hr
  have hoo : o = 123 + 29 * hr := rfl
  have hob : 122 < o ∧ o < 211 := by show 122 < 123 + 29 * hr ∧ 123 + 29 * hr < 211; omega
  let G1 := xup2 G 0 74 0
  have z1 : ∀ a j, ¬ (a = 0 ∧ j = 74) → G1 a j = G a j := fun a j q => xup2_n (by omega)
  have hpast := l_310 (f := f) (o := o) (G := G1) (b := (lns hr).2.1.1) (k := (lns hr).2.1.2.1) (r := r) (by rw [z1 _ _ (by omega)]; exact b2.2.1.2.2.1) (by rw [z1 _ _ (by omega)]; exact b2.2.1.2.1)
  have e0 : g314 f r G = ((g310 f o r G1).bind fun R120 => (if ¬ (R120.1) = 0 then ((g312 f o r R120.2).bind fun R126 => ((g313 f (R126 (0) 62) r R126).bind fun R131 => (if (R131 o 35) = (-1) then g314_69 f o (xwr ((R120.2 o 2) - r)) R131 else (if (R131 o 36) ≤ r then g314_69 f o (xwr ((R120.2 o 2) - r)) R131 else ((some (xup2 R131 o 35 (-1))).bind fun G141 => g314_69 f o (xwr ((R120.2 o 2) - r)) G141))))) else (some (-1, R120.2)))) := by
    unfold g314
    rw [Option.bind_some, xup2_n (by omega), a3, if_pos (by omega), Int.toNat_natCast]
  rw [e0, hpast, Option.bind_some]
  by_cases c : ((lns hr).2.1.1 : Int) ≤ r ∧ r ≤ (((lns hr).2.1.1 + (lns hr).2.1.2.1 : Nat) : Int)
  · obtain ⟨i, hi⟩ : ∃ i : Nat, r = (((lns hr).2.1.1 + i : Nat) : Int) := ⟨(r - (lns hr).2.1.1).toNat, by omega⟩
    have hik : i ≤ (lns hr).2.1.2.1 := by omega
    have n1 : ¬ ((if ((lns hr).2.1.1 : Int) ≤ r ∧ r ≤ (((lns hr).2.1.1 + (lns hr).2.1.2.1 : Nat) : Int) then (1 : Int) else 0, G1) : Int × xG_).1 = 0 := by
      rw [if_pos c]; show ¬ (1 : Int) = 0; decide
    rw [if_pos n1]
    simp only []
    obtain ⟨G2, u1, u2, u3⟩ := l_bc (f := f) (o := o) (h := hr) (G := G1) (ln := lns hr) (T := T) (n := n) (i := i) (by omega) (by omega) a4 rfl (b2.1.ge' (fun a j _ _ => z1 _ _ (by omega))) ⟨by rw [z1 _ _ (by omega)]; exact b2.2.1.1, by rw [z1 _ _ (by omega)]; exact b2.2.1.2.2.1, by rw [z1 _ _ (by omega)]; exact b2.2.1.2.2.2⟩ (b2.2.2.1.ge (z1 _ _ (by omega)) (fun a j _ _ => z1 _ _ (by omega))) (fun x hx => by rw [z1 _ _ (by omega)]; exact b2.2.2.2.1 x hx) b3 hik
    have u4 := u3 (fun p hp => by rw [z1 _ _ (by omega)]; exact b2.2.2.2.2.2.1 p hp) (fun x hx => by rw [z1 _ _ (by omega)]; exact b2.2.2.2.2.2.2.1 x hx) (by rw [z1 _ _ (by omega)]; exact b2.2.2.2.2.2.2.2.2.2.2.1) (by rw [z1 _ _ (by omega)]; exact b2.2.2.2.2.2.2.2.2.2.2.2)
    have z2 : ∀ a j, ¬ (a = 0 ∧ j = 74) → ¬ (253 ≤ a ∧ a ≤ 256) → ¬ (o ≤ a ∧ a ≤ o + 28) → G2 a j = G a j := fun a j q1 q2 q3 => by rw [u2 a j q2 (by omega) (by omega) (by omega) (by omega) (by omega) (by omega), z1 a j q1]
    obtain ⟨G3, v1, v2, v3⟩ := l_313 (f := f) (k := (hr : Int)) (r := r) (by omega) 4 0 f G2 rfl (by omega)
    have v1' : g313 f (G2 0 62) r G2 = some G3 := by
      rw [z2 _ _ (by omega) (by omega) (by omega), a3]
      exact v1
    rw [hi, u1, Option.bind_some, ← hi, v1', Option.bind_some]
    -- the line's own fork
    have f35 : G3 o 35 = (fkL (hr : Int) r (lns hr).2.2.2.2).1 := by
      have := v2 hr (Nat.zero_le _) a4
      rw [this, u4.2.2.2.2.2.2.2.2.2.1, u4.2.2.2.2.2.2.2.2.2.2]
      rfl
    have v3' : ∀ a j, ¬ (j = 35 ∧ 123 ≤ a ∧ a ≤ 210) → G3 a j = G2 a j := fun a j q => v3 a j (fun ⟨q1, x, x1, x2, x3⟩ => q ⟨q1, by omega, by omega⟩)
    have f36 : G3 o 36 = (lns hr).2.2.2.2.2 := by
      rw [v3' _ _ (by omega)]
      exact u4.2.2.2.2.2.2.2.2.2.2
    obtain ⟨G4, w1, w2, w3⟩ : ∃ G4, (if (G3 o 35) = (-1) then g314_69 f o (xwr ((G1 o 2) - r)) G3 else (if (G3 o 36) ≤ r then g314_69 f o (xwr ((G1 o 2) - r)) G3 else ((some (xup2 G3 o 35 (-1))).bind fun G141 => g314_69 f o (xwr ((G1 o 2) - r)) G141))) = g314_69 f o (xwr ((G1 o 2) - r)) G4 ∧ G4 o 35 = (fkB r (fkL (hr : Int) r (lns hr).2.2.2.2)).1 ∧ ∀ a j, ¬ (a = o ∧ j = 35) → G4 a j = G3 a j := by
      rw [f35, f36]
      unfold fkB
      by_cases d1 : (fkL (hr : Int) r (lns hr).2.2.2.2).1 = -1
      · rw [if_pos d1, if_neg (fun q => q.1 d1)]
        exact ⟨G3, rfl, f35, fun _ _ _ => rfl⟩
      · rw [if_neg d1, fkL_2]
        by_cases d2 : (lns hr).2.2.2.2.2 ≤ r
        · rw [if_pos d2, if_neg (fun q => absurd q.2 (by omega))]
          exact ⟨G3, rfl, f35, fun _ _ _ => rfl⟩
        · rw [if_neg d2, if_pos ⟨d1, by omega⟩, Option.bind_some]
          exact ⟨_, rfl, xup2_s _ _ _ _, fun a j q => xup2_n (by omega)⟩
    rw [w1]
    have z4 : ∀ a j, ¬ (j = 35 ∧ 123 ≤ a ∧ a ≤ 210) → G4 a j = G2 a j := fun a j q => by rw [w3 a j (by omega), v3' a j q]
    have e64 : xwr (G4 0 64 + 1) = G 0 64 + 1 := by
      rw [z4 _ _ (by omega), z2 _ _ (by omega) (by omega) (by omega)]
      exact xwr_g _ (by omega) (by omega)
    let G5 := xup2 G4 0 64 (G 0 64 + 1)
    have z5 : ∀ a j, ¬ (a = 0 ∧ j = 64) → G5 a j = G4 a j := fun a j q => xup2_n (by omega)
    have zz : ∀ a j, ¬ (a = 0 ∧ (j = 64 ∨ j = 74)) → ¬ (253 ≤ a ∧ a ≤ 256) → ¬ (o ≤ a ∧ a ≤ o + 28) → ¬ (j = 35 ∧ 123 ≤ a ∧ a ≤ 210) → G5 a j = G a j := fun a j q1 q2 q3 q4 => by rw [z5 a j (by omega), z4 a j q4, z2 a j (by omega) q2 q3]
    let lns' : Nat → sLn := fun k => if k = hr then lnK (lnB (lns hr) i) (fkB r (fkL (hr : Int) r (lns hr).2.2.2.2)) else lnK (lns k) (fkL (hr : Int) r (lns k).2.2.2.2)
    have el : lns' hr = lnK (lnB (lns hr) i) (fkB r (fkL (hr : Int) r (lns hr).2.2.2.2)) := if_pos rfl
    obtain ⟨s, M, hsM⟩ := b3.1 ((lns hr).2.1.1 + i) (by omega) (by omega)
    have hsb := (b3.bk hik).mo (Nat.le_succ n)
    obtain ⟨G6, G7, t1, t2, t3, t4⟩ := l_lv (f := f) (hr := hr) (G := G5) (lns := lns') (T := T) (m := m) (n := n + 1) (s := s) (M := M) hf a4 (a1.ge (fun j _ _ => zz _ _ (by omega) (by omega) (by omega) (by omega))) (a2.ge (zz _ _ (by omega) (by omega) (by omega) (by omega)) (zz _ _ (by omega) (by omega) (by omega) (by omega)) (fun a j _ => zz _ _ (by omega) (by omega) (by omega) (by omega))) (by rw [zz _ _ (by omega) (by omega) (by omega) (by omega)]; exact a3) (by
      rw [el]
      refine rLx.fk u4 (fun a j q1 q2 q3 => ?_) ?_ ?_
      · rw [z5 _ _ (by omega), w3 _ _ (by omega)]
        exact v3 _ _ (fun ⟨y1, x, x1, x2, x3⟩ => q3 ⟨by have : o = 123 + 29 * hr := rfl; omega, y1⟩)
      · rw [z5 _ _ (by omega)]; exact w2
      · rw [fkB_2, fkL_2]; rfl) (fun x hx => by
      have := b2.ck a1 a2 b1 x hx
      unfold cOf at this ⊢
      have y : ∀ a, a = o + 17 ∨ a = o + 20 → G5 a x = G a x := fun a q => by
        rw [z5 _ _ (by omega), w3 _ _ (by omega), v3 _ _ (fun ⟨y1, x', x1, x2, x3⟩ => by omega), u2 _ _ (by omega) (by omega) (by omega) (by omega) (by omega) (by omega) (by omega), z1 _ _ (by omega)]
      rw [show 123 + 29 * hr = o from rfl, y _ (.inl rfl), y _ (.inr rfl)]
      exact this) (by rw [el]; exact hsM) (by
      rw [el]
      exact hsb) (fun k hk hne => by
      obtain ⟨s', M', x1, x2, x3⟩ := a5 k hk
      have ek : lns' k = lnK (lns k) (fkL (hr : Int) r (lns k).2.2.2.2) := if_neg hne
      rw [ek]
      refine ⟨s', M', x1, ?_, x3.mo (Nat.le_succ n)⟩
      refine rLn.fk x2 (fun a j q1 q2 q3 => ?_) ?_ (fkL_2 _ _ _)
      · have hk2 : ¬ (o ≤ a ∧ a ≤ o + 28) := by
          show ¬ (123 + 29 * hr ≤ a ∧ a ≤ 123 + 29 * hr + 28)
          omega
        rw [z5 _ _ (by omega), w3 _ _ (by omega), v3 _ _ (fun ⟨y1, x, y2, y3, y4⟩ => q3 ⟨by omega, y1⟩), z2 _ _ (by omega) (by omega) hk2]
      · have hne2 : 123 + 29 * k ≠ o := by show 123 + 29 * k ≠ 123 + 29 * hr; omega
        have hk2 : ¬ (o ≤ 123 + 29 * k ∧ 123 + 29 * k ≤ o + 28) := by
          show ¬ (123 + 29 * hr ≤ 123 + 29 * k ∧ 123 + 29 * k ≤ 123 + 29 * hr + 28)
          omega
        rw [z5 _ _ (by omega), w3 _ _ (by omega), v2 k (Nat.zero_le k) hk, z2 _ _ (by omega) (by omega) hk2, z2 _ _ (by omega) (by omega) hk2, x2.2.2.2.2.2.2.2.2.2.2.1, x2.2.2.2.2.2.2.2.2.2.2.2]
        ) (by rw [zz _ _ (by omega) (by omega) (by omega) (by omega)]; omega) (by rw [show G5 0 64 = G 0 64 + 1 from xup2_s _ _ _ _]; omega) (by rw [show G5 0 64 = G 0 64 + 1 from xup2_s _ _ _ _, zz _ _ (by omega) (by omega) (by omega) (by omega)]; omega)
    have e2 : xwr (G1 o 2 - r) = (((lns hr).2.1.2.1 - i : Nat) : Int) := by
      have hb3 := b3.2.2.1.1
      rw [z1 _ _ (by omega), b2.2.1.2.1, hi, xwr_g _ (by omega) (by omega)]
      omega
    refine ⟨_, G7, lns', ?_, .inl ⟨i, hik, hi, rfl, rfl⟩, t3, ?_, ?_, fun a j q1 q2 q3 q4 q5 => ?_⟩
    · unfold g314_69
      rw [e64, Option.bind_some]
      show Option.bind (g296 f G5) _ = _
      rw [t1, Option.bind_some, t2, Option.bind_some, e2]
    · rw [t4 _ _ (by omega) (by omega) (by omega) (by omega) (by omega) (by omega), z5 _ _ (by omega), z4 _ _ (by omega), u2 _ _ (by omega) (by omega) (by omega) (by omega) (by omega) (by omega) (by omega)]
      exact xup2_s _ _ _ _
    · rw [t4 _ _ (by omega) (by omega) (by omega) (by omega) (by omega) (by omega), zz _ _ (by omega) (by omega) (by omega) (by omega)]
    · rw [t4 _ _ (by omega) (by omega) (by omega) (by omega) (by omega) (by omega), zz _ _ (by omega) (by omega) (by omega) (by omega)]
  · have n1 : ¬ ¬ ((if ((lns hr).2.1.1 : Int) ≤ r ∧ r ≤ (((lns hr).2.1.1 + (lns hr).2.1.2.1 : Nat) : Int) then (1 : Int) else 0, G1) : Int × xG_).1 = 0 := by
      rw [if_neg c]; exact fun q => q rfl
    rw [if_neg n1]
    exact ⟨-1, G1, lns, rfl, .inr ⟨c, rfl, rfl⟩, h0.mo (Nat.le_succ n), xup2_s _ _ _ _, z1 _ _ (by omega), fun a j q1 q2 q3 q4 q5 => z1 _ _ (by omega)⟩
end
end
section
/-! copyLine -/
section
variable {f o p : Nat}
/-- what stands at o + x stands at p + x too, below n -/
def cpA (G0 G : xG_) (o p x n : Nat) : Prop := ∀ t, t < n → G (p + x) t = G0 (o + x) t
theorem l_316_127 {r69 : Nat → Nat → Int → xG_ → Option xG_} {i : Nat} (hi : i < 12000) (hop : o + 28 < p ∨ p + 28 < o) : ∀ (d k fu : Nat) (G : xG_), k + d = 4 → d < fu →
    ∃ G', g316_127 r69 f fu o p (i : Int) (k : Int) G = r69 o p ((i + 1 : Nat) : Int) G' ∧ (∀ z, k ≤ z → z < 4 → G' (p + 9) (4 * i + z) = G (o + 9) (4 * i + z)) ∧ ∀ a j, ¬ (a = p + 9 ∧ 4 * i + k ≤ j ∧ j < 4 * i + 4) → G' a j = G a j := by
  intro d
  induction d with
  | zero =>
    intro k fu G h1 h2
    obtain ⟨fu, rfl⟩ : ∃ t, fu = t + 1 := ⟨fu - 1, by omega⟩
    have e : xwr ((i : Int) + 1) = ((i + 1 : Nat) : Int) := by rw [xwr_g _ (by omega) (by omega)]; omega
    refine ⟨G, ?_, fun z z1 z2 => by omega, fun _ _ _ => rfl⟩
    show g316_127b r69 (g316_127 r69 f fu) f _ _ _ _ _ = _
    unfold g316_127b
    rw [if_pos (by omega), e]
  | succ d ih =>
    intro k fu G h1 h2
    obtain ⟨fu, rfl⟩ : ∃ t, fu = t + 1 := ⟨fu - 1, by omega⟩
    have e : xwr ((k : Int) + 1) = ((k + 1 : Nat) : Int) := by rw [xwr_g _ (by omega) (by omega)]; omega
    have e4 : xwr (xwr (4 * (i : Int)) + (k : Int)) = ((4 * i + k : Nat) : Int) := by
      rw [xwr_g (4 * (i : Int)) (by omega) (by omega), xwr_g _ (by omega) (by omega)]; omega
    obtain ⟨G', u1, u2, u3⟩ := ih (k + 1) fu (xup2 G (p + 9) (4 * i + k) (G (o + 9) (4 * i + k))) (by omega) (by omega)
    refine ⟨G', ?_, fun z z1 z2 => ?_, fun a j q => by rw [u3 a j (by omega), xup2_n (by omega)]⟩
    · show g316_127b r69 (g316_127 r69 f fu) f _ _ _ _ _ = _
      unfold g316_127b
      rw [if_neg (by omega), e4, if_pos (by omega), if_pos (by omega), Int.toNat_natCast, Option.bind_some, e]
      exact u1
    · by_cases c : z = k
      · rw [c, u3 _ _ (by omega), xup2_s]
      · rw [u2 z (by omega) z2, xup2_n (by omega)]
theorem l_316_69 (hf : 12100 < f) (hop : o + 28 < p ∨ p + 28 < o) {G0 : xG_} {n : Nat} (hn : n ≤ 12000) : ∀ (d i fu : Nat) (G : xG_), i + d = n → d < fu → G o 10 = (n : Int) → (∀ a j, ¬ (p + 5 ≤ a ∧ a ≤ p + 9) → G a j = G0 a j) → cpA G0 G o p 5 i → cpA G0 G o p 6 i → cpA G0 G o p 7 i → cpA G0 G o p 8 i → cpA G0 G o p 9 (4 * i) →
    ∃ G', g316_69 f fu o p (i : Int) G = g316_166 f f o p 0 G' ∧ (∀ a j, ¬ (p + 5 ≤ a ∧ a ≤ p + 9) → G' a j = G0 a j) ∧ cpA G0 G' o p 5 n ∧ cpA G0 G' o p 6 n ∧ cpA G0 G' o p 7 n ∧ cpA G0 G' o p 8 n ∧ cpA G0 G' o p 9 (4 * n) := by
  intro d
  induction d with
  | zero =>
    intro i fu G h1 h2 h3 h4 c5 c6 c7 c8 c9
    obtain ⟨fu, rfl⟩ : ∃ t, fu = t + 1 := ⟨fu - 1, by omega⟩
    have hi : i = n := by omega
    subst hi
    refine ⟨G, ?_, h4, c5, c6, c7, c8, c9⟩
    show g316_69b (g316_69 f fu) f _ _ _ _ = _
    unfold g316_69b
    rw [h3, if_pos (by omega)]
  | succ d ih =>
    intro i fu G h1 h2 h3 h4 c5 c6 c7 c8 c9
    obtain ⟨fu, rfl⟩ : ∃ t, fu = t + 1 := ⟨fu - 1, by omega⟩
    have hi2 : 0 ≤ (i : Int) ∧ (i : Int) < 12000 := by omega
    let G1 := xup2 (xup2 (xup2 (xup2 G (p + 5) i (G0 (o + 5) i)) (p + 6) i (G0 (o + 6) i)) (p + 8) i (G0 (o + 8) i)) (p + 7) i (G0 (o + 7) i)
    have z1 : ∀ a j, ¬ (p + 5 ≤ a ∧ a ≤ p + 8 ∧ j = i) → G1 a j = G a j := fun a j q => by
      show xup2 _ _ _ _ _ _ = _
      rw [xup2_n (by omega), xup2_n (by omega), xup2_n (by omega), xup2_n (by omega)]
    have s5 : G1 (p + 5) i = G0 (o + 5) i := by
      show xup2 _ _ _ _ _ _ = _
      rw [xup2_n (by omega), xup2_n (by omega), xup2_n (by omega), xup2_s]
    have s6 : G1 (p + 6) i = G0 (o + 6) i := by
      show xup2 _ _ _ _ _ _ = _
      rw [xup2_n (by omega), xup2_n (by omega), xup2_s]
    have s8 : G1 (p + 8) i = G0 (o + 8) i := by
      show xup2 _ _ _ _ _ _ = _
      rw [xup2_n (by omega), xup2_s]
    have s7 : G1 (p + 7) i = G0 (o + 7) i := xup2_s _ _ _ _
    obtain ⟨G2, u1, u2, u3⟩ := l_316_127 (f := f) (o := o) (p := p) (r69 := g316_69 f fu) (i := i) (by omega) hop 4 0 f G1 rfl (by omega)
    have z2 : ∀ a j, ¬ (p + 5 ≤ a ∧ a ≤ p + 9) → G2 a j = G0 a j := fun a j q => by rw [u3 a j (by omega), z1 a j (by omega), h4 a j q]
    have cc : ∀ x, (x = 5 ∨ x = 6 ∨ x = 7 ∨ x = 8) → cpA G0 G o p x i → G1 (p + x) i = G0 (o + x) i → cpA G0 G2 o p x (i + 1) := fun x hx hc hs t ht => by
      rw [u3 _ _ (by omega)]
      by_cases d : t = i
      · rw [d]; exact hs
      · rw [z1 _ _ (by omega)]; exact hc t (by omega)
    obtain ⟨G', k1, k2⟩ := ih (i + 1) fu G2 (by omega) (by omega) (by rw [z2 _ _ (by omega), ← h4 _ _ (by omega)]; exact h3) z2 (cc 5 (by omega) c5 s5) (cc 6 (by omega) c6 s6) (cc 7 (by omega) c7 s7) (cc 8 (by omega) c8 s8) (fun t ht => by
      by_cases d : t < 4 * i
      · rw [u3 _ _ (by omega), z1 _ _ (by omega)]; exact c9 t d
      · have := u2 (t - 4 * i) (Nat.zero_le _) (by omega)
        rw [show 4 * i + (t - 4 * i) = t by omega] at this
        rw [this, z1 _ _ (by omega), h4 _ _ (by omega)])
    refine ⟨G', ?_, k2⟩
    show g316_69b (g316_69 f fu) f _ _ _ _ = _
    unfold g316_69b
    rw [h3, if_neg (by omega), if_pos hi2, if_pos hi2, Int.toNat_natCast, h4 (o + 5) i (by omega), Option.bind_some, if_pos hi2, if_pos hi2, xup2_n (by omega), h4 (o + 6) i (by omega), Option.bind_some, if_pos hi2, if_pos hi2, xup2_n (by omega), xup2_n (by omega), h4 (o + 8) i (by omega), Option.bind_some, if_pos hi2, if_pos hi2, xup2_n (by omega), xup2_n (by omega), xup2_n (by omega), h4 (o + 7) i (by omega), Option.bind_some]
    exact u1.trans k1
theorem l_316_166 (hf : 12100 < f) (hop : o + 28 < p ∨ p + 28 < o) {G0 : xG_} {n : Nat} (hn : n ≤ 200) : ∀ (d i fu : Nat) (G : xG_), i + d = n → d < fu → G o 16 = (n : Int) → (∀ a j, ¬ (p + 10 ≤ a ∧ a ≤ p + 12) → G a j = G0 a j) → cpA G0 G o p 10 i → cpA G0 G o p 11 i → cpA G0 G o p 12 i →
    ∃ G', g316_166 f fu o p (i : Int) G = g316_218 f f o p 0 G' ∧ (∀ a j, ¬ (p + 10 ≤ a ∧ a ≤ p + 12) → G' a j = G0 a j) ∧ cpA G0 G' o p 10 n ∧ cpA G0 G' o p 11 n ∧ cpA G0 G' o p 12 n := by
  intro d
  induction d with
  | zero =>
    intro i fu G h1 h2 h3 h4 c5 c6 c7
    obtain ⟨fu, rfl⟩ : ∃ t, fu = t + 1 := ⟨fu - 1, by omega⟩
    have hi : i = n := by omega
    subst hi
    refine ⟨G, ?_, h4, c5, c6, c7⟩
    show g316_166b (g316_166 f fu) f _ _ _ _ = _
    unfold g316_166b
    rw [h3, if_pos (by omega)]
  | succ d ih =>
    intro i fu G h1 h2 h3 h4 c5 c6 c7
    obtain ⟨fu, rfl⟩ : ∃ t, fu = t + 1 := ⟨fu - 1, by omega⟩
    have hi2 : 0 ≤ (i : Int) ∧ (i : Int) < 200 := by omega
    have e : xwr ((i : Int) + 1) = ((i + 1 : Nat) : Int) := by rw [xwr_g _ (by omega) (by omega)]; omega
    let G1 := xup2 (xup2 (xup2 G (p + 10) i (G0 (o + 10) i)) (p + 11) i (G0 (o + 11) i)) (p + 12) i (G0 (o + 12) i)
    have z1 : ∀ a j, ¬ (p + 10 ≤ a ∧ a ≤ p + 12 ∧ j = i) → G1 a j = G a j := fun a j q => by
      show xup2 _ _ _ _ _ _ = _
      rw [xup2_n (by omega), xup2_n (by omega), xup2_n (by omega)]
    have s5 : G1 (p + 10) i = G0 (o + 10) i := by
      show xup2 _ _ _ _ _ _ = _
      rw [xup2_n (by omega), xup2_n (by omega), xup2_s]
    have s6 : G1 (p + 11) i = G0 (o + 11) i := by
      show xup2 _ _ _ _ _ _ = _
      rw [xup2_n (by omega), xup2_s]
    have s7 : G1 (p + 12) i = G0 (o + 12) i := xup2_s _ _ _ _
    have z2 : ∀ a j, ¬ (p + 10 ≤ a ∧ a ≤ p + 12) → G1 a j = G0 a j := fun a j q => by rw [z1 a j (by omega), h4 a j q]
    have cc : ∀ x, cpA G0 G o p x i → G1 (p + x) i = G0 (o + x) i → cpA G0 G1 o p x (i + 1) := fun x hc hs t ht => by
      by_cases d : t = i
      · rw [d]; exact hs
      · rw [z1 _ _ (by omega)]; exact hc t (by omega)
    obtain ⟨G', k1, k2⟩ := ih (i + 1) fu G1 (by omega) (by omega) (by rw [z2 _ _ (by omega), ← h4 _ _ (by omega)]; exact h3) z2 (cc 10 c5 s5) (cc 11 c6 s6) (cc 12 c7 s7)
    refine ⟨G', ?_, k2⟩
    show g316_166b (g316_166 f fu) f _ _ _ _ = _
    unfold g316_166b
    rw [h3, if_neg (by omega), if_pos hi2, if_pos hi2, Int.toNat_natCast, h4 (o + 10) i (by omega), Option.bind_some, if_pos hi2, if_pos hi2, xup2_n (by omega), h4 (o + 11) i (by omega), Option.bind_some, if_pos hi2, if_pos hi2, xup2_n (by omega), xup2_n (by omega), h4 (o + 12) i (by omega), Option.bind_some, e]
    exact k1
theorem l_316_218 (hf : 12100 < f) (hop : o + 28 < p ∨ p + 28 < o) {G0 : xG_} {n : Nat} (hn : n ≤ 20) : ∀ (d i fu : Nat) (G : xG_), i + d = n → d < fu → G o 17 = (n : Int) → (∀ a j, ¬ (p + 13 ≤ a ∧ a ≤ p + 14) → G a j = G0 a j) → cpA G0 G o p 13 i → cpA G0 G o p 14 i →
    ∃ G', g316_218 f fu o p (i : Int) G = g316_258 f f o p 0 G' ∧ (∀ a j, ¬ (p + 13 ≤ a ∧ a ≤ p + 14) → G' a j = G0 a j) ∧ cpA G0 G' o p 13 n ∧ cpA G0 G' o p 14 n := by
  intro d
  induction d with
  | zero =>
    intro i fu G h1 h2 h3 h4 c5 c6
    obtain ⟨fu, rfl⟩ : ∃ t, fu = t + 1 := ⟨fu - 1, by omega⟩
    have hi : i = n := by omega
    subst hi
    refine ⟨G, ?_, h4, c5, c6⟩
    show g316_218b (g316_218 f fu) f _ _ _ _ = _
    unfold g316_218b
    rw [h3, if_pos (by omega)]
  | succ d ih =>
    intro i fu G h1 h2 h3 h4 c5 c6
    obtain ⟨fu, rfl⟩ : ∃ t, fu = t + 1 := ⟨fu - 1, by omega⟩
    have hi2 : 0 ≤ (i : Int) ∧ (i : Int) < 20 := by omega
    have e : xwr ((i : Int) + 1) = ((i + 1 : Nat) : Int) := by rw [xwr_g _ (by omega) (by omega)]; omega
    let G1 := xup2 (xup2 G (p + 13) i (G0 (o + 13) i)) (p + 14) i (G0 (o + 14) i)
    have z1 : ∀ a j, ¬ (p + 13 ≤ a ∧ a ≤ p + 14 ∧ j = i) → G1 a j = G a j := fun a j q => by
      show xup2 _ _ _ _ _ _ = _
      rw [xup2_n (by omega), xup2_n (by omega)]
    have s5 : G1 (p + 13) i = G0 (o + 13) i := by
      show xup2 _ _ _ _ _ _ = _
      rw [xup2_n (by omega), xup2_s]
    have s6 : G1 (p + 14) i = G0 (o + 14) i := xup2_s _ _ _ _
    have z2 : ∀ a j, ¬ (p + 13 ≤ a ∧ a ≤ p + 14) → G1 a j = G0 a j := fun a j q => by rw [z1 a j (by omega), h4 a j q]
    have cc : ∀ x, cpA G0 G o p x i → G1 (p + x) i = G0 (o + x) i → cpA G0 G1 o p x (i + 1) := fun x hc hs t ht => by
      by_cases d : t = i
      · rw [d]; exact hs
      · rw [z1 _ _ (by omega)]; exact hc t (by omega)
    obtain ⟨G', k1, k2⟩ := ih (i + 1) fu G1 (by omega) (by omega) (by rw [z2 _ _ (by omega), ← h4 _ _ (by omega)]; exact h3) z2 (cc 13 c5 s5) (cc 14 c6 s6)
    refine ⟨G', ?_, k2⟩
    show g316_218b (g316_218 f fu) f _ _ _ _ = _
    unfold g316_218b
    rw [h3, if_neg (by omega), if_pos hi2, if_pos hi2, Int.toNat_natCast, h4 (o + 13) i (by omega), Option.bind_some, if_pos hi2, if_pos hi2, xup2_n (by omega), h4 (o + 14) i (by omega), Option.bind_some, e]
    exact k1
theorem l_316_258 (hop : o + 28 < p ∨ p + 28 < o) {G0 : xG_} : ∀ (d i fu : Nat) (G : xG_), i + d = 72 → d < fu → (∀ a j, a ≠ p + 15 → G a j = G0 a j) → cpA G0 G o p 15 i →
    ∃ G', g316_258 f fu o p (i : Int) G = some G' ∧ (∀ a j, a ≠ p + 15 → G' a j = G0 a j) ∧ cpA G0 G' o p 15 72 := by
  intro d
  induction d with
  | zero =>
    intro i fu G h1 h2 h4 c5
    obtain ⟨fu, rfl⟩ : ∃ t, fu = t + 1 := ⟨fu - 1, by omega⟩
    have hi : i = 72 := by omega
    subst hi
    refine ⟨G, ?_, h4, c5⟩
    show g316_258b (g316_258 f fu) f _ _ _ _ = _
    unfold g316_258b
    rw [if_pos (by omega)]
  | succ d ih =>
    intro i fu G h1 h2 h4 c5
    obtain ⟨fu, rfl⟩ : ∃ t, fu = t + 1 := ⟨fu - 1, by omega⟩
    have hi2 : 0 ≤ (i : Int) ∧ (i : Int) < 72 := by omega
    have e : xwr ((i : Int) + 1) = ((i + 1 : Nat) : Int) := by rw [xwr_g _ (by omega) (by omega)]; omega
    obtain ⟨G', k1, k2⟩ := ih (i + 1) fu (xup2 G (p + 15) i (G0 (o + 15) i)) (by omega) (by omega) (fun a j q => by rw [xup2_n (by omega)]; exact h4 a j q) (fun t ht => by
      by_cases d : t = i
      · rw [d, xup2_s]
      · rw [xup2_n (by omega)]; exact c5 t (by omega))
    refine ⟨G', ?_, k2⟩
    show g316_258b (g316_258 f fu) f _ _ _ _ = _
    unfold g316_258b
    rw [if_neg (by omega), if_pos hi2, if_pos hi2, Int.toNat_natCast, h4 (o + 15) i (by omega), Option.bind_some, e]
    exact k1
theorem l_316 {G : xG_} {h h' b k : Nat} {H : Nat → sMo} (hf : 12100 < f) (hh : h < 4) (ho : o = 123 + 29 * h) (hh' : h' < 4) (hp : p = 123 + 29 * h') (hne : h ≠ h') (hP : rPa G o H b k) {F : List pFc} (hF : rFa G (o + 1) F) :
    ∃ G', g316 f o p G = some G' ∧ rPa G' p H b k ∧ rFa G' (p + 1) F ∧ (∀ j, j = 1 ∨ j = 2 ∨ j = 3 ∨ j = 4 → G' p j = G o j) ∧ (∀ c, c < 72 → G' (p + 15) c = G (o + 15) c) ∧ ∀ a j, ¬ (a = p ∧ (1 ≤ j ∧ j ≤ 4 ∨ j = 10 ∨ j = 16 ∨ j = 17)) → ¬ (p + 1 ≤ a ∧ a ≤ p + 15) → G' a j = G a j := by
  have hop : o + 28 < p ∨ p + 28 < o := by omega
  obtain ⟨hL, hC, hE, hs⟩ := hP
  obtain ⟨G1, a1, a2, a3⟩ := l_194 (f := f) (b := p + 1) (b1 := o + 1) (by omega) (by unfold isFb; omega) (by unfold isFb; omega) (by omega) hF
  have z1 : ∀ a j, ¬ (p + 1 ≤ a ∧ a ≤ p + 4) → G1 a j = G a j := fun a j q => a3 a j (by omega) (by omega) (by omega) (by omega)
  let G2 := xup2 (xup2 (xup2 (xup2 (xup2 (xup2 (xup2 G1 p 1 (G o 1)) p 2 (G o 2)) p 3 (G o 3)) p 4 (G o 4)) p 10 (G o 10)) p 16 (G o 16)) p 17 (G o 17)
  have z2 : ∀ a j, ¬ (a = p ∧ (1 ≤ j ∧ j ≤ 4 ∨ j = 10 ∨ j = 16 ∨ j = 17)) → G2 a j = G1 a j := fun a j q => by
    show xup2 _ _ _ _ _ _ = _
    rw [xup2_n (by omega), xup2_n (by omega), xup2_n (by omega), xup2_n (by omega), xup2_n (by omega), xup2_n (by omega), xup2_n (by omega)]
  have s17 : G2 p 17 = G o 17 := xup2_s _ _ _ _
  have s16 : G2 p 16 = G o 16 := by
    show xup2 _ _ _ _ _ _ = _
    rw [xup2_n (by omega), xup2_s]
  have s10 : G2 p 10 = G o 10 := by
    show xup2 _ _ _ _ _ _ = _
    rw [xup2_n (by omega), xup2_n (by omega), xup2_s]
  have s4 : G2 p 4 = G o 4 := by
    show xup2 _ _ _ _ _ _ = _
    rw [xup2_n (by omega), xup2_n (by omega), xup2_n (by omega), xup2_s]
  have s3 : G2 p 3 = G o 3 := by
    show xup2 _ _ _ _ _ _ = _
    rw [xup2_n (by omega), xup2_n (by omega), xup2_n (by omega), xup2_n (by omega), xup2_s]
  have s2 : G2 p 2 = G o 2 := by
    show xup2 _ _ _ _ _ _ = _
    rw [xup2_n (by omega), xup2_n (by omega), xup2_n (by omega), xup2_n (by omega), xup2_n (by omega), xup2_s]
  have s1 : G2 p 1 = G o 1 := by
    show xup2 _ _ _ _ _ _ = _
    rw [xup2_n (by omega), xup2_n (by omega), xup2_n (by omega), xup2_n (by omega), xup2_n (by omega), xup2_n (by omega), xup2_s]
  have g2 : ∀ a j, o ≤ a → a ≤ o + 28 → G2 a j = G a j := fun a j _ _ => by rw [z2 _ _ (by omega), z1 _ _ (by omega)]
  have e0 : g316 f o p G = g316_69 f f o p 0 G2 := by
    unfold g316
    rw [a1, Option.bind_some, z1 o 1 (by omega), Option.bind_some, xup2_n (by omega), z1 o 2 (by omega), Option.bind_some, xup2_n (by omega), xup2_n (by omega), z1 o 3 (by omega), Option.bind_some, xup2_n (by omega), xup2_n (by omega), xup2_n (by omega), z1 o 4 (by omega), Option.bind_some, xup2_n (by omega), xup2_n (by omega), xup2_n (by omega), xup2_n (by omega), z1 o 10 (by omega), Option.bind_some, xup2_n (by omega), xup2_n (by omega), xup2_n (by omega), xup2_n (by omega), xup2_n (by omega), z1 o 16 (by omega), Option.bind_some, xup2_n (by omega), xup2_n (by omega), xup2_n (by omega), xup2_n (by omega), xup2_n (by omega), xup2_n (by omega), z1 o 17 (by omega), Option.bind_some]
  obtain ⟨G3, b1, b2, b5, b6, b7, b8, b9⟩ := l_316_69 (f := f) (o := o) (p := p) (G0 := G2) hf hop (n := (hCat (hLg H) b k).length) hL.2.1 (hCat (hLg H) b k).length 0 f G2 (by omega) (by have := hL.2.1; omega) (by rw [g2 _ _ (by omega) (by omega)]; exact hL.1) (fun _ _ _ => rfl) (fun t ht => absurd ht (Nat.not_lt_zero t)) (fun t ht => absurd ht (Nat.not_lt_zero t)) (fun t ht => absurd ht (Nat.not_lt_zero t)) (fun t ht => absurd ht (Nat.not_lt_zero t)) (fun t ht => absurd ht (Nat.not_lt_zero t))
  obtain ⟨G4, c1, c2, c10, c11, c12⟩ := l_316_166 (f := f) (o := o) (p := p) (G0 := G3) hf hop (n := (hCat (hCg H) b k).length) hC.2.1 (hCat (hCg H) b k).length 0 f G3 (by omega) (by have := hC.2.1; omega) (by rw [b2 _ _ (by omega), g2 _ _ (by omega) (by omega)]; exact hC.1) (fun _ _ _ => rfl) (fun t ht => absurd ht (Nat.not_lt_zero t)) (fun t ht => absurd ht (Nat.not_lt_zero t)) (fun t ht => absurd ht (Nat.not_lt_zero t))
  obtain ⟨G5, d1, d2, d13, d14⟩ := l_316_218 (f := f) (o := o) (p := p) (G0 := G4) hf hop (n := (hCat (hEg H) b k).length) hE.2.1 (hCat (hEg H) b k).length 0 f G4 (by omega) (by have := hE.2.1; omega) (by rw [c2 _ _ (by omega), b2 _ _ (by omega), g2 _ _ (by omega) (by omega)]; exact hE.1) (fun _ _ _ => rfl) (fun t ht => absurd ht (Nat.not_lt_zero t)) (fun t ht => absurd ht (Nat.not_lt_zero t))
  obtain ⟨G6, e1, e2, e15⟩ := l_316_258 (f := f) (o := o) (p := p) (G0 := G5) hop 72 0 f G5 rfl (by omega) (fun _ _ _ => rfl) (fun t ht => absurd ht (Nat.not_lt_zero t))
  have zo : ∀ a j, o ≤ a → a ≤ o + 28 → G3 a j = G a j ∧ G4 a j = G a j ∧ G5 a j = G a j := fun a j q1 q2 => by
    have w3 : G3 a j = G a j := by rw [b2 _ _ (by omega), g2 _ _ q1 q2]
    have w4 : G4 a j = G a j := by rw [c2 _ _ (by omega), w3]
    exact ⟨w3, w4, by rw [d2 _ _ (by omega), w4]⟩
  have zf : ∀ a j, ¬ (p + 5 ≤ a ∧ a ≤ p + 15) → G6 a j = G2 a j := fun a j q => by rw [e2 _ _ (by omega), d2 _ _ (by omega), c2 _ _ (by omega), b2 _ _ (by omega)]
  have y5 : ∀ a j, p + 5 ≤ a → a ≤ p + 9 → G6 a j = G3 a j := fun a j _ _ => by rw [e2 _ _ (by omega), d2 _ _ (by omega), c2 _ _ (by omega)]
  have y10 : ∀ a j, p + 10 ≤ a → a ≤ p + 12 → G6 a j = G4 a j := fun a j _ _ => by rw [e2 _ _ (by omega), d2 _ _ (by omega)]
  have y13 : ∀ a j, p + 13 ≤ a → a ≤ p + 14 → G6 a j = G5 a j := fun a j _ _ => by rw [e2 _ _ (by omega)]
  refine ⟨G6, ?_, ⟨⟨?_, hL.2.1, fun i hi => ?_⟩, ⟨?_, hC.2.1, fun i hi => ?_⟩, ⟨?_, hE.2.1, fun i hi => ?_⟩, hs⟩, ?_, fun j hj => ?_, fun c hc => ?_, fun a j q1 q2 => ?_⟩
  · rw [e0]
    exact b1.trans (c1.trans (d1.trans e1))
  · rw [zf _ _ (by omega), s10]; exact hL.1
  · obtain ⟨t1, t2, t3, t4, t5, t6⟩ := hL.2.2 i hi
    refine ⟨?_, ?_, ?_, ?_, t5, fun j hj => ?_⟩
    · rw [y5 _ _ (by omega) (by omega), b5 i hi, g2 _ _ (by omega) (by omega)]; exact t1
    · rw [y5 _ _ (by omega) (by omega), b6 i hi, g2 _ _ (by omega) (by omega)]; exact t2
    · rw [y5 _ _ (by omega) (by omega), b8 i hi, g2 _ _ (by omega) (by omega)]; exact t3
    · rw [y5 _ _ (by omega) (by omega), b7 i hi, g2 _ _ (by omega) (by omega)]; exact t4
    · rw [y5 _ _ (by omega) (by omega), b9 (4 * i + j) (by omega), g2 _ _ (by omega) (by omega)]; exact t6 j hj
  · rw [zf _ _ (by omega), s16]; exact hC.1
  · obtain ⟨t1, t2, t3⟩ := hC.2.2 i hi
    refine ⟨?_, ?_, ?_⟩
    · rw [y10 _ _ (by omega) (by omega), c10 i hi, (zo _ _ (by omega) (by omega)).1]; exact t1
    · rw [y10 _ _ (by omega) (by omega), c11 i hi, (zo _ _ (by omega) (by omega)).1]; exact t2
    · rw [y10 _ _ (by omega) (by omega), c12 i hi, (zo _ _ (by omega) (by omega)).1]; exact t3
  · rw [zf _ _ (by omega), s17]; exact hE.1
  · obtain ⟨t1, t2⟩ := hE.2.2 i hi
    refine ⟨?_, ?_⟩
    · rw [y13 _ _ (by omega) (by omega), d13 i hi, (zo _ _ (by omega) (by omega)).2.1]; exact t1
    · rw [y13 _ _ (by omega) (by omega), d14 i hi, (zo _ _ (by omega) (by omega)).2.1]; exact t2
  · exact a2.ge (by rw [zf _ _ (by omega), z2 _ _ (by omega)]) (fun a j _ _ => by rw [zf _ _ (by omega), z2 _ _ (by omega)])
  · rw [zf _ _ (by omega)]
    rcases hj with q | q | q | q <;> rw [q]
    · exact s1
    · exact s2
    · exact s3
    · exact s4
  · rw [e15 c hc, (zo _ _ (by omega) (by omega)).2.2]
  · rw [zf _ _ (by omega), z2 _ _ (by omega), z1 _ _ (by omega)]
end
end
section
/-! branch() -/
/-- a line that branches off ln at round b + i -/
def lnC (ln : sLn) (i : Nat) (fk : Int × Int) : sLn := (ln.1, (ln.2.1.1, i, ln.2.1.2.2 - (hCat (hEg ln.1) (ln.2.1.1 + i) (ln.2.1.2.1 - i)).length), (fun _ => 0, fun _ => 0, false), ([], -1, fun _ => -1), fk)
section
variable {f m n hr : Nat} {T : List (List Int)} {lns : Nat → sLn}
theorem l_315_92 {x : Nat} {r : Int} {p : Nat} (hp : 122 < p) (hr72 : 100 < f) : ∀ (d c fu : Nat) (Z : xG_), c + d = 72 → d < fu → (∀ j, j < c → Z (p + 16) j = 0) → ∃ Z' fu', g315_92 f fu (x : Int) r p (c : Int) Z = g315_92 f (fu' + 1) (x : Int) r p 72 Z' ∧ (∀ j, j < 72 → Z' (p + 16) j = 0) ∧ ∀ a j, a ≠ p + 16 → Z' a j = Z a j := by
  intro d
  induction d with
  | zero =>
    intro c fu Z h1 h2 h3
    obtain ⟨fu, rfl⟩ : ∃ t, fu = t + 1 := ⟨fu - 1, by omega⟩
    have hc : c = 72 := by omega
    subst hc
    exact ⟨Z, fu, rfl, h3, fun _ _ _ => rfl⟩
  | succ d ih =>
    intro c fu Z h1 h2 h3
    obtain ⟨fu, rfl⟩ : ∃ t, fu = t + 1 := ⟨fu - 1, by omega⟩
    have e : xwr ((c : Int) + 1) = ((c + 1 : Nat) : Int) := by rw [xwr_g _ (by omega) (by omega)]; omega
    obtain ⟨Z', fu', q1, q2, q3⟩ := ih (c + 1) fu (xup2 Z (p + 16) c 0) (by omega) (by omega) (fun j hj => by
      by_cases d : j = c
      · rw [d, xup2_s]
      · rw [xup2_n (by omega)]; exact h3 j (by omega))
    refine ⟨Z', fu', ?_, q2, fun a j q => by rw [q3 a j q, xup2_n (by omega)]⟩
    rw [← q1]
    show g315_92b (g315_92 f fu) f _ _ _ _ _ = _
    unfold g315_92b
    rw [if_neg (by omega), if_pos (by omega), Int.toNat_natCast, Option.bind_some, e]
theorem l_315_67 {x : Nat} {r : Int} {p : Nat} (hp : 122 < p) (hr72 : 100 < f) : ∀ (d c fu : Nat) (Z : xG_), c + d = 16 → d < fu → (∀ j, j < c → Z (p + 18) j = 0) → ∃ Z', g315_67 f fu (x : Int) r p (c : Int) Z = g315_92 f f (x : Int) r p 0 Z' ∧ (∀ j, j < 16 → Z' (p + 18) j = 0) ∧ ∀ a j, a ≠ p + 18 → Z' a j = Z a j := by
  intro d
  induction d with
  | zero =>
    intro c fu Z h1 h2 h3
    obtain ⟨fu, rfl⟩ : ∃ t, fu = t + 1 := ⟨fu - 1, by omega⟩
    refine ⟨Z, ?_, fun j hj => h3 j (by omega), fun _ _ _ => rfl⟩
    show g315_67b (g315_67 f fu) f _ _ _ _ _ = _
    unfold g315_67b
    rw [if_pos (by omega)]
  | succ d ih =>
    intro c fu Z h1 h2 h3
    obtain ⟨fu, rfl⟩ : ∃ t, fu = t + 1 := ⟨fu - 1, by omega⟩
    have e : xwr ((c : Int) + 1) = ((c + 1 : Nat) : Int) := by rw [xwr_g _ (by omega) (by omega)]; omega
    obtain ⟨Z', q1, q2, q3⟩ := ih (c + 1) fu (xup2 Z (p + 18) c 0) (by omega) (by omega) (fun j hj => by
      by_cases d : j = c
      · rw [d, xup2_s]
      · rw [xup2_n (by omega)]; exact h3 j (by omega))
    refine ⟨Z', ?_, q2, fun a j q => by rw [q3 a j q, xup2_n (by omega)]⟩
    show g315_67b (g315_67 f fu) f _ _ _ _ _ = _
    unfold g315_67b
    rw [if_neg (by omega), if_pos (by omega), Int.toNat_natCast, Option.bind_some, e]
    exact q1
/-- branch() -/
def stBr (lns : Nat → sLn) (hr : Nat) (x r v : Int) (lns' : Nat → sLn) : Prop :=
  (0 ≤ x ∧ x < 4 ∧ x ≠ (hr : Int) ∧ ∃ i : Nat, i ≤ (lns hr).2.1.2.1 ∧ r = (((lns hr).2.1.1 + i : Nat) : Int) ∧ v = r ∧ lns' = fun k => if k = x.toNat then lnC (lns hr) i ((hr : Int), r) else lnK (lns k) (fkL x (-1) (lns k).2.2.2.2)) ∨
  (¬ (0 ≤ x ∧ x < 4 ∧ x ≠ (hr : Int) ∧ ((lns hr).2.1.1 : Int) ≤ r ∧ r ≤ (((lns hr).2.1.1 + (lns hr).2.1.2.1 : Nat) : Int)) ∧ v = -1 ∧ lns' = lns)
theorem sOk.br {ln : sLn} {i : Nat} {fk : Int × Int} (h : sOk T ln n) (hi : i ≤ ln.2.1.2.1) : sOk T (lnC ln i fk) n := by
  obtain ⟨a1, a2, a3, a4, a5, a6, a7, a8, a9, a10⟩ := h.bk hi
  exact ⟨a1, a2, a3, a4, a5, fun p hp => ⟨Int.le_refl 0, Int.natCast_nonneg n⟩, fun p hp => ⟨Int.le_refl 0, Int.natCast_nonneg n⟩, a8, a9, a10⟩
theorem l_315 {G : xG_} {k r : Int} (hf : 1000100 < f) (hn : n < 900) (h : rHb G T m lns hr n) :
    ∃ v G' lns', g315 f k r G = some (v, G') ∧ stBr lns hr k r v lns' ∧ rHb G' T m lns' hr (n + 1) ∧ G' 0 74 = 0 ∧ G' 0 63 = G 0 63 ∧ xfHo G G' := by
  have h0 := h.u74 (v := 0)
  obtain ⟨a1, a2, a3, a4, a5, a6, a7, a8, a9⟩ := h
  obtain ⟨s0, M0, b1, b2, b3⟩ := a5 hr a4
  let o := 123 + 29 * hr
  have hoo : o = 123 + 29 * hr := rfl
  let G1 := xup2 G 0 74 0
  have z1 : ∀ a j, ¬ (a = 0 ∧ j = 74) → G1 a j = G a j := fun a j q => xup2_n (by omega)
  have hpast := l_310 (f := f) (o := o) (G := G1) (b := (lns hr).2.1.1) (k := (lns hr).2.1.2.1) (r := r) (by rw [z1 _ _ (by omega)]; exact b2.2.1.2.2.1) (by rw [z1 _ _ (by omega)]; exact b2.2.1.2.1)
  have e0 : g315 f k r G = (if k < 0 then g315_41 f G1 else (if 4 ≤ k then g315_41 f G1 else (if k = (hr : Int) then g315_41 f G1 else ((g310 f o r G1).bind fun R156 => (if ¬ (R156.1) = 0 then (if 0 ≤ k ∧ k < 4 then ((g316 f o (123 + 29 * k.toNat) R156.2).bind fun R163 => ((g312 f (123 + 29 * k.toNat) r R163).bind fun R168 => g315_67 f f k r (123 + 29 * k.toNat) 0 R168)) else none) else g315_41 f R156.2))))) := by
    unfold g315
    rw [Option.bind_some, xup2_n (by omega), a3, if_pos (by omega), Int.toNat_natCast]
  have no : (¬ (0 ≤ k ∧ k < 4 ∧ k ≠ (hr : Int) ∧ ((lns hr).2.1.1 : Int) ≤ r ∧ r ≤ (((lns hr).2.1.1 + (lns hr).2.1.2.1 : Nat) : Int))) → g315 f k r G = some (-1, G1) → ∃ v G' lns', g315 f k r G = some (v, G') ∧ stBr lns hr k r v lns' ∧ rHb G' T m lns' hr (n + 1) ∧ G' 0 74 = 0 ∧ G' 0 63 = G 0 63 ∧ xfHo G G' := fun c e => ⟨-1, G1, lns, e, .inr ⟨c, rfl, rfl⟩, h0.mo (Nat.le_succ n), xup2_s _ _ _ _, z1 _ _ (by omega), fun a j q1 q2 q3 q4 q5 => z1 _ _ (by omega)⟩
  by_cases c1 : k < 0
  · exact no (by omega) (by rw [e0, if_pos c1]; rfl)
  by_cases c2 : 4 ≤ k
  · exact no (by omega) (by rw [e0, if_neg c1, if_pos c2]; rfl)
  by_cases c3 : k = (hr : Int)
  · exact no (fun q => q.2.2.1 c3) (by rw [e0, if_neg c1, if_neg c2, if_pos c3]; rfl)
  rw [if_neg c1, if_neg c2, if_neg c3, hpast, Option.bind_some] at e0
  by_cases c : ((lns hr).2.1.1 : Int) ≤ r ∧ r ≤ (((lns hr).2.1.1 + (lns hr).2.1.2.1 : Nat) : Int)
  · obtain ⟨i, hi⟩ : ∃ i : Nat, r = (((lns hr).2.1.1 + i : Nat) : Int) := ⟨(r - (lns hr).2.1.1).toNat, by omega⟩
    obtain ⟨x, rfl⟩ : ∃ x : Nat, k = (x : Int) := ⟨k.toNat, by omega⟩
    have hx : x < 4 := by omega
    have hxr : x ≠ hr := fun q => c3 (by rw [q])
    have hik : i ≤ (lns hr).2.1.2.1 := by omega
    have n1 : ¬ ((if ((lns hr).2.1.1 : Int) ≤ r ∧ r ≤ (((lns hr).2.1.1 + (lns hr).2.1.2.1 : Nat) : Int) then (1 : Int) else 0, G1) : Int × xG_).1 = 0 := by
      rw [if_pos c]; show ¬ (1 : Int) = 0; decide
    rw [if_pos n1, if_pos (by omega : 0 ≤ (x : Int) ∧ (x : Int) < 4), Int.toNat_natCast] at e0
    simp only [] at e0
    let p := 123 + 29 * x
    have hpp : p = 123 + 29 * x := rfl
    obtain ⟨sx, Mx, x1, x2, x3⟩ := a5 x hx
    -- copyLine
    obtain ⟨G2, u1, u2, u3, u4, u5, u6⟩ := l_316 (f := f) (o := o) (p := p) (G := G1) (h := hr) (h' := x) (by omega) a4 rfl hx rfl (fun q => hxr q.symm) (b2.1.ge' (fun a j _ _ => z1 _ _ (by omega))) (b2.2.2.1.ge (z1 _ _ (by omega)) (fun a j _ _ => z1 _ _ (by omega)))
    have z2 : ∀ a j, ¬ (a = 0 ∧ j = 74) → ¬ (a = p ∧ (1 ≤ j ∧ j ≤ 4 ∨ j = 10 ∨ j = 16 ∨ j = 17)) → ¬ (p + 1 ≤ a ∧ a ≤ p + 15) → G2 a j = G a j := fun a j q1 q2 q3 => by rw [u6 a j q2 q3, z1 a j q1]
    -- become
    let ln0 : sLn := ((lns hr).1, (lns hr).2.1, ((lns x).2.2.1.1, (lns x).2.2.1.2.1, false), (lns hr).2.2.2.1, (lns x).2.2.2.2)
    have hS0 : sOk T ln0 n := ⟨b3.1, b3.2.1, b3.2.2.1, b3.2.2.2.1, b3.2.2.2.2.1, x3.2.2.2.2.2.1, x3.2.2.2.2.2.2.1, b3.2.2.2.2.2.2.2⟩
    obtain ⟨G3, v1, v2, v3⟩ := l_bc (f := f) (o := p) (h := x) (G := G2) (ln := ln0) (T := T) (n := n) (i := i) (by omega) (by omega) hx rfl u2 ⟨by rw [u4 1 (by omega), z1 _ _ (by omega)]; exact b2.2.1.1, by rw [u4 3 (by omega), z1 _ _ (by omega)]; exact b2.2.1.2.2.1, by rw [u4 4 (by omega), z1 _ _ (by omega)]; exact b2.2.1.2.2.2⟩ u3 (fun c hc => by rw [u5 c hc, z1 _ _ (by omega)]; exact b2.2.2.2.1 c hc) hS0 hik
    have v4 := v3 (fun q hq => by rw [z2 _ _ (by omega) (by omega) (by omega)]; exact x2.2.2.2.2.2.1 q hq) (fun c hc => by rw [z2 _ _ (by omega) (by omega) (by omega)]; exact x2.2.2.2.2.2.2.1 c hc) (by rw [z2 _ _ (by omega) (by omega) (by omega)]; exact x2.2.2.2.2.2.2.2.2.2.2.1) (by rw [z2 _ _ (by omega) (by omega) (by omega)]; exact x2.2.2.2.2.2.2.2.2.2.2.2)
    have z3 : ∀ a j, ¬ (a = 0 ∧ j = 74) → ¬ (253 ≤ a ∧ a ≤ 256) → ¬ (p ≤ a ∧ a ≤ p + 28) → G3 a j = G a j := fun a j q1 q2 q3 => by rw [v2 a j q2 (by omega) (by omega) (by omega) (by omega) (by omega) (by omega), z2 a j q1 (by omega) (by omega)]
    -- worked, cellWorked
    obtain ⟨G4, w1, w2, w3⟩ := l_315_67 (f := f) (x := x) (r := r) (p := p) (by omega) (by omega) 16 0 f G3 rfl (by omega) (fun j hj => absurd hj (Nat.not_lt_zero j))
    obtain ⟨G5, fu', w4, w5, w6⟩ := l_315_92 (f := f) (x := x) (r := r) (p := p) (by omega) (by omega) 72 0 f G4 rfl (by omega) (fun j hj => absurd hj (Nat.not_lt_zero j))
    have z5 : ∀ a j, a ≠ p + 16 → a ≠ p + 18 → G5 a j = G3 a j := fun a j q1 q2 => by rw [w6 a j q1, w3 a j q2]
    -- loseForks
    obtain ⟨G6, t1, t2, t3⟩ := l_313 (f := f) (k := (x : Int)) (r := -1) (by omega) 4 0 f G5 rfl (by omega)
    have t1' : g313 f (x : Int) (-1) G5 = some G6 := t1
    have z6 : ∀ a j, j ≠ 35 → G6 a j = G5 a j := fun a j q => t3 a j (fun y => q y.1)
    have e62 : G6 0 62 = (hr : Int) := by rw [z6 _ _ (by omega), z5 _ _ (by omega) (by omega), z3 _ _ (by omega) (by omega) (by omega)]; exact a3
    have e64 : G6 0 64 = G 0 64 := by rw [z6 _ _ (by omega), z5 _ _ (by omega) (by omega), z3 _ _ (by omega) (by omega) (by omega)]
    have w64 : xwr (G 0 64 + 1) = G 0 64 + 1 := xwr_g _ (by omega) (by omega)
    let G7 := xup2 (xup2 (xup2 (xup2 G6 p 35 (hr : Int)) p 36 r) 0 64 (G 0 64 + 1)) 0 62 (x : Int)
    have z7 : ∀ a j, ¬ (a = p ∧ (j = 35 ∨ j = 36)) → ¬ (a = 0 ∧ (j = 64 ∨ j = 62)) → G7 a j = G6 a j := fun a j q1 q2 => by
      show xup2 _ _ _ _ _ _ = _
      rw [xup2_n (by omega), xup2_n (by omega), xup2_n (by omega), xup2_n (by omega)]
    have s62 : G7 0 62 = (x : Int) := xup2_s _ _ _ _
    have s64 : G7 0 64 = G 0 64 + 1 := by
      show xup2 _ _ _ _ _ _ = _
      rw [xup2_n (by omega), xup2_s]
    have s36 : G7 p 36 = r := by
      show xup2 _ _ _ _ _ _ = _
      rw [xup2_n (by omega), xup2_n (by omega), xup2_s]
    have s35 : G7 p 35 = (hr : Int) := by
      show xup2 _ _ _ _ _ _ = _
      rw [xup2_n (by omega), xup2_n (by omega), xup2_n (by omega), xup2_s]
    have zp : ∀ a j, p ≤ a → a ≤ p + 28 → ¬ (a = p ∧ (j = 35 ∨ j = 36)) → a ≠ p + 16 → a ≠ p + 18 → G7 a j = G3 a j := fun a j q1 q2 q3 q4 q5 => by
      rw [z7 _ _ q3 (by omega), t3 _ _ (fun ⟨y1, y, y2, y3, y4⟩ => q3 ⟨by omega, .inl y1⟩), z5 _ _ q4 q5]
    have zg : ∀ a j, ¬ (a = 0 ∧ (j = 74 ∨ j = 64 ∨ j = 62)) → ¬ (253 ≤ a ∧ a ≤ 256) → ¬ (p ≤ a ∧ a ≤ p + 28) → ¬ (j = 35 ∧ ∃ y, y < 4 ∧ a = 123 + 29 * y) → G7 a j = G a j := fun a j q1 q2 q3 q4 => by
      rw [z7 _ _ (by omega) (by omega), t3 _ _ (fun ⟨y1, y, y2, y3, y4⟩ => q4 ⟨y1, y, y3, y4⟩), z5 _ _ (by omega) (by omega), z3 _ _ (by omega) q2 q3]
    let lns' : Nat → sLn := fun k => if k = x then lnC (lns hr) i ((hr : Int), r) else lnK (lns k) (fkL (x : Int) (-1) (lns k).2.2.2.2)
    have el : lns' x = lnC (lns hr) i ((hr : Int), r) := if_pos rfl
    obtain ⟨s, M, hsM⟩ := b3.1 ((lns hr).2.1.1 + i) (by omega) (by omega)
    have hxl : rLx G7 p (lnC (lns hr) i ((hr : Int), r)) := by
      obtain ⟨y1, ⟨y2, y3, y4, y5⟩, y6, y7, y8, y9, y10, y11, ⟨y12, y13, y14⟩, y15, y16⟩ := v4
      refine ⟨⟨y1.1.ge (zp _ _ (by omega) (by omega) (by omega) (by omega) (by omega)) (fun a j _ _ => zp _ _ (by omega) (by omega) (by omega) (by omega) (by omega)), y1.2.1.ge (zp _ _ (by omega) (by omega) (by omega) (by omega) (by omega)) (fun a j _ _ => zp _ _ (by omega) (by omega) (by omega) (by omega) (by omega)), y1.2.2.1.ge (zp _ _ (by omega) (by omega) (by omega) (by omega) (by omega)) (fun a j _ _ => zp _ _ (by omega) (by omega) (by omega) (by omega) (by omega)), y1.2.2.2⟩, ⟨by rw [zp _ _ (by omega) (by omega) (by omega) (by omega) (by omega)]; exact y2, by rw [zp _ _ (by omega) (by omega) (by omega) (by omega) (by omega)]; exact y3, by rw [zp _ _ (by omega) (by omega) (by omega) (by omega) (by omega)]; exact y4, by rw [zp _ _ (by omega) (by omega) (by omega) (by omega) (by omega)]; exact y5⟩, y6.ge (zp _ _ (by omega) (by omega) (by omega) (by omega) (by omega)) (fun a j _ _ => zp _ _ (by omega) (by omega) (by omega) (by omega) (by omega)), fun c hc => by rw [zp _ _ (by omega) (by omega) (by omega) (by omega) (by omega)]; exact y7 c hc, fun q hq => ?_, fun c hc => ?_, ⟨by rw [zp _ _ (by omega) (by omega) (by omega) (by omega) (by omega)]; exact y10.1, fun p hp => by rw [zp _ _ (by omega) (by omega) (by omega) (by omega) (by omega)]; exact y10.2 p hp⟩, rfl, ⟨y12.ge (zp _ _ (by omega) (by omega) (by omega) (by omega) (by omega)) (fun a j _ _ => zp _ _ (by omega) (by omega) (by omega) (by omega) (by omega)), by rw [zp _ _ (by omega) (by omega) (by omega) (by omega) (by omega)]; exact y13, fun c hc => by rw [zp _ _ (by omega) (by omega) (by omega) (by omega) (by omega)]; exact y14 c hc⟩, s35, s36⟩
      · show G7 (p + 18) q = 0
        rw [z7 _ _ (by omega) (by omega), t3 _ _ (fun ⟨y1, y, y2, y3, y4⟩ => by omega), w6 _ _ (by omega)]
        exact w2 q hq
      · show G7 (p + 16) c = 0
        rw [z7 _ _ (by omega) (by omega), t3 _ _ (fun ⟨y1, y, y2, y3, y4⟩ => by omega)]
        exact w5 c hc
    obtain ⟨G8, G9, k1, k2, k3, k4⟩ := l_lv (f := f) (hr := x) (G := G7) (lns := lns') (T := T) (m := m) (n := n + 1) (s := s) (M := M) hf hx (a1.ge (fun j _ _ => zg _ _ (by omega) (by omega) (by omega) (by omega))) (a2.ge (zg _ _ (by omega) (by omega) (by omega) (by omega)) (zg _ _ (by omega) (by omega) (by omega) (by omega)) (fun a j q => zg _ _ (by omega) (by omega) (by omega) (fun ⟨y1, y, y2, y3⟩ => by omega))) s62 (by rw [el]; exact hxl) (fun c hc => by
      have := x2.ck a1 a2 x1 c hc
      unfold cOf at this ⊢
      have y : ∀ a, a = p + 17 ∨ a = p + 20 → G7 a c = G a c := fun a q => by
        rw [zp _ _ (by omega) (by omega) (by omega) (by omega) (by omega), v2 _ _ (by omega) (by omega) (by omega) (by omega) (by omega) (by omega) (by omega), z2 _ _ (by omega) (by omega) (by omega)]
      rw [show 123 + 29 * x = p from rfl, y _ (.inl rfl), y _ (.inr rfl)]
      exact this) (by rw [el]; exact hsM) (by rw [el]; exact (b3.br hik).mo (Nat.le_succ n)) (fun k hk hne => by
      obtain ⟨s', M', j1, j2, j3⟩ := a5 k hk
      have ek : lns' k = lnK (lns k) (fkL (x : Int) (-1) (lns k).2.2.2.2) := if_neg hne
      rw [ek]
      refine ⟨s', M', j1, ?_, j3.mo (Nat.le_succ n)⟩
      refine rLn.fk j2 (fun a j q1 q2 q3 => zg _ _ (by omega) (by omega) (by omega) (fun ⟨y1, y, y2, y3⟩ => q3 ⟨by omega, y1⟩)) ?_ (fkL_2 _ _ _)
      have hk2 : ∀ j, G5 (123 + 29 * k) j = G (123 + 29 * k) j := fun j => by rw [z5 _ _ (by omega) (by omega), z3 _ _ (by omega) (by omega) (by omega)]
      rw [z7 _ _ (by omega) (by omega), t2 k (Nat.zero_le k) hk, hk2, hk2, j2.2.2.2.2.2.2.2.2.2.2.1, j2.2.2.2.2.2.2.2.2.2.2.2]) (by rw [zg _ _ (by omega) (by omega) (by omega) (by omega)]; omega) (by rw [s64]; omega) (by rw [s64, zg _ _ (by omega) (by omega) (by omega) (by omega)]; omega)
    let G10 := xup2 G9 0 62 (hr : Int)
    have z10 : ∀ a j, ¬ (a = 0 ∧ j = 62) → G10 a j = G9 a j := fun a j q => xup2_n (by omega)
    refine ⟨r, G10, lns', ?_, .inl ⟨by omega, by omega, c3, i, hik, hi, rfl, ?_⟩, ?_, ?_, ?_, fun a j q1 q2 q3 q4 q5 => ?_⟩
    · rw [e0]
      show Option.bind (g316 f o p G1) _ = _
      rw [u1, Option.bind_some]
      show Option.bind (g312 f p r G2) _ = _
      rw [hi]
      show Option.bind (g312 f p (((lns hr).2.1.1 + i : Nat) : Int) G2) _ = _
      have v1' : g312 f p (((lns hr).2.1.1 + i : Nat) : Int) G2 = some G3 := v1
      rw [v1', Option.bind_some, ← hi]
      show g315_67 f f (x : Int) r p ((0 : Nat) : Int) G3 = _
      rw [w1]
      show g315_92 f f (x : Int) r p ((0 : Nat) : Int) G4 = _
      rw [w4]
      show g315_92b (g315_92 f fu') f (x : Int) r p 72 G5 = _
      unfold g315_92b
      rw [if_pos (by decide), t1', Option.bind_some, e62, Option.bind_some, Option.bind_some, xup2_n (by omega), xup2_n (by omega), e64, w64, Option.bind_some, Option.bind_some]
      show Option.bind (g296 f G7) _ = _
      rw [k1, Option.bind_some]
      show Option.bind (g346 f (123 + 29 * x) G8) _ = _
      rw [k2, Option.bind_some, xup2_n (by omega), xup2_n (by omega), xup2_n (by omega), e62, Option.bind_some]
    · rfl
    · have hc := k3.c
      obtain ⟨j1, j2, j3, j4, j5, j6, j7, j8, j9⟩ := k3
      exact rHb.of (hc.ge (fun j _ => z10 _ _ (by omega)) (fun a j _ _ _ => z10 _ _ (by omega))) (xup2_s _ _ _ _) a4 (by rw [z10 _ _ (by omega)]; exact j6) (by rw [z10 _ _ (by omega)]; exact j7) (by rw [z10 _ _ (by omega), z10 _ _ (by omega)]; exact j8) (j9.ge (fun j _ _ => z10 _ _ (by omega)) (fun a j _ _ => z10 _ _ (by omega)) (fun a j _ _ => z10 _ _ (by omega)))
    · rw [z10 _ _ (by omega), k4 _ _ (by omega) (by omega) (by omega) (by omega) (by omega) (by omega), z7 _ _ (by omega) (by omega), z6 _ _ (by omega), z5 _ _ (by omega) (by omega), v2 _ _ (by omega) (by omega) (by omega) (by omega) (by omega) (by omega) (by omega), u6 _ _ (by omega) (by omega)]
      exact xup2_s _ _ _ _
    · rw [z10 _ _ (by omega), k4 _ _ (by omega) (by omega) (by omega) (by omega) (by omega) (by omega), zg _ _ (by omega) (by omega) (by omega) (by omega)]
    · rw [z10 _ _ (by omega), k4 _ _ (by omega) (by omega) (by omega) (by omega) (by omega) (by omega), zg _ _ (by omega) (by omega) (by omega) (fun ⟨y1, y, y2, y3⟩ => by omega)]
  · refine no (fun q => c q.2.2.2) ?_
    have n1 : ¬ ¬ ((if ((lns hr).2.1.1 : Int) ≤ r ∧ r ≤ (((lns hr).2.1.1 + (lns hr).2.1.2.1 : Nat) : Int) then (1 : Int) else 0, G1) : Int × xG_).1 = 0 := by
      rw [if_neg c]; exact fun q => q rfl
    rw [e0, if_neg n1]
    rfl
end
end
