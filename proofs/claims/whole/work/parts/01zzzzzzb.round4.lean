/-! round() of the reference -/
section
variable {f o h m n : Nat} {T : List (List Int)} {ln : sLn} {so : pPg} {Mo : Nat → List pRw}
theorem rHi.sp {G : xG_} {H : Nat → sMo} {b k : Nat} (h : rPa G o H b k) : (hCat (hLg H) b k).length ≤ 12000 ∧ (hCat (hCg H) b k).length ≤ 200 ∧ (hCat (hEg H) b k).length ≤ 20 := ⟨h.1.2.1, h.2.1.2.1, h.2.2.1.2.1⟩
theorem lgK_self {α : Type} {g : Nat → List (Int × α)} (hg : ∀ r, ∀ a ∈ g r, a.1 = (r : Int)) {b k : Nat} : lgK (b : Int) (hCat g b k) = hCat g b k := by
  have := hCat_K hg (b := b) (i := 0) (k := k)
  rw [Nat.add_zero, Nat.zero_add] at this
  exact this
theorem kOk.nx {K : Nat → Nat} {W : Nat → Int} (hk : kOk T K) (hW : ∀ c, W c = -1 ∨ 0 ≤ W c ∧ (W c).toNat < T.length ∧ (c < 72 → (W c).toNat ≠ 0 → ∃ r, qCt (T.getD (W c).toNat []) = .inr r ∧ r.1 = (c : Int) ∧ r.2.2 ≠ -1)) : kOk T (kNx K W 72) := by
  refine ⟨fun c => ?_, fun c hc h0 => ?_⟩
  · unfold kNx
    split
    · rename_i q
      rcases hW c with z | z
      · exact absurd z q.2
      · exact z.2.1
    · exact hk.1 c
  · unfold kNx at h0 ⊢
    split at h0
    · rename_i q
      rw [if_pos q]
      rcases hW c with z | z
      · exact absurd z q.2
      · exact z.2.2 hc h0
    · rename_i q
      rw [if_neg q]
      exact hk.2 c hc h0
/-- round() -/
theorem l_298 {G : xG_} (hf : 1000100 < f) (hn : n < 1000) (hh : h < 4) (ho : o = 123 + 29 * h) (h62 : G 0 62 = (h : Int)) (hC : rC G) (hT : rTxs G T m) (hR : rLn G o T ln so Mo) (hMo : isMo T (lMo ln) so Mo) (hS : sOk T ln n) (h63 : 0 ≤ G 0 63 ∧ G 0 63 < 1000000) (h64 : 0 ≤ G 0 64 ∧ G 0 64 < 1000000) :
    ∃ v G' ln' good s' M', g298 f G = some (v, G') ∧ stRd T ln v ln' good ∧ rLn G' o T ln' s' M' ∧ isMo T (lMo ln') s' M' ∧ sOk T ln' (n + 1) ∧ (good = true ∧ G' 0 63 = G 0 63 ∧ G' 0 64 = G 0 64 + 1 ∨ good = false ∧ G' 0 63 = G 0 63 + 1 ∧ G' 0 64 = G 0 64) ∧ G' 0 65 = -1 ∧ G' 0 74 = 0 ∧ xfRd o G G' := by
  have hob : 122 < o ∧ o < 211 := by omega
  obtain ⟨H, ⟨b, k, ed⟩, ⟨wk, cw, tb⟩, ⟨ps, nx, W⟩, fk⟩ := ln
  obtain ⟨r1, ⟨r2, r3, r4, r5⟩, r6, r7, r8, r9, r10, ⟨E0, r11, r12, r12'⟩, r18, ⟨r13, r14, r15⟩, r16, r17⟩ := hR
  simp only [] at r1 r2 r3 r4 r5 r6 r7 r8 r9 r10 r11 r12 r12' r13 r14 r15 r16 r17
  have hS' := hS
  obtain ⟨s1, s2, ⟨s3, s3'⟩, s4, s5, s6, s7, s8, s9, s10⟩ := hS
  simp only [] at s1 s2 s3 s3' s4 s5 s6 s7 s8 s9 s10
  have hMo' := hMo
  obtain ⟨m1, m2, m3, m4, m5, m6, m7⟩ := hMo
  replace m1 : (H (b + k)).1 < T.length := m1
  replace m2 : qPr (T.getD (H (b + k)).1 []) = .inr so := m2
  replace m6 : qFa so Mo (H (b + k)).2.1 := m6
  replace m7 : kOk T (H (b + k)).2.2.1 := m7
  have hl4 : (hCat (hLg H) b k).length ≤ 8000 ∧ (hCat (hCg H) b k).length ≤ 100 ∧ (hCat (hEg H) b k).length ≤ 7 := by
    unfold tmOk at s4
    rw [lgK_self (hLg_r H), lgK_self (hCg_r H), lgK_self (hEg_r H)] at s4
    exact s4
  -- the edition
  let e' := lnE (H, (b, k, ed), (wk, cw, tb), (ps, nx, W), fk)
  have he' : e' = if nx = -1 then (H (b + k)).1 else nx.toNat := rfl
  obtain ⟨s, p1, p2, p3, p4⟩ : ∃ s, e' < T.length ∧ qPr (T.getD e' []) = .inr s ∧ qOk s ∧ wNh s := by
    by_cases c : nx = -1
    · rw [he', if_pos c]
      exact ⟨so, m1, m2, m3, m4⟩
    · rw [he', if_neg c]
      rcases s9 with q | ⟨_, q2, s, q3, q4, q5⟩
      · exact absurd q c
      · exact ⟨s, q2, q3, q4, q5⟩
  have hnx : nx = -1 ∨ 0 ≤ nx := by
    rcases s9 with q | q
    · exact .inl q
    · exact .inr q.1
  let fr : Int := if nx = -1 then 0 else 1
  have hfr : fr ≠ 0 ↔ nx ≠ -1 := by
    show (if nx = -1 then (0 : Int) else 1) ≠ 0 ↔ _
    by_cases c : nx = -1
    · rw [if_pos c]; exact ⟨fun q => absurd rfl q, fun q => absurd c q⟩
    · rw [if_neg c]; exact ⟨fun _ => c, fun _ => by decide⟩
  have hfrP : (fr ≠ 0) = (nx ≠ -1) := propext hfr
  let G1 := xup2 (xup2 G 0 74 0) 0 65 (-1)
  have z1 : ∀ a j, ¬ (a = 0 ∧ (j = 74 ∨ j = 65)) → G1 a j = G a j := fun a j q => by
    show xup2 _ _ _ _ _ _ = _
    rw [xup2_n (by omega), xup2_n (by omega)]
  have y74 : G1 0 74 = 0 := by
    show xup2 _ _ _ _ _ _ = _
    rw [xup2_n (by omega), xup2_s]
  have y65 : G1 0 65 = -1 := xup2_s _ _ _ _
  have e0 : g298 f G = g298_54 f o fr (e' : Int) 2 G1 := by
    unfold g298
    rw [Option.bind_some, xup2_n (by omega), h62, if_pos (by omega), Int.toNat_natCast, ← ho, xup2_n (by omega), r14]
    by_cases c : nx = -1
    · have e1 : fr = 0 := if_pos c
      rw [if_pos c, e1]
      unfold g298_28
      rw [Option.bind_some, if_pos rfl]
      show g298_54 f o 0 (G1 o 1) 2 G1 = _
      rw [z1 _ _ (by omega), r2, he', if_pos c]
    · have e1 : fr = 1 := if_neg c
      rw [if_neg c, e1]
      unfold g298_28
      rw [Option.bind_some, if_neg (by decide)]
      show g298_54 f o 1 (G1 o 34) 2 G1 = _
      rw [z1 _ _ (by omega), r14, he', if_neg c]
      congr 1
      rcases hnx with q | q
      · exact absurd q c
      · omega
  have hC1 : rC G1 := by
    obtain ⟨k1, k2, k3, k4, k5, k6, k7, k8, k9⟩ := hC
    exact ⟨by rw [z1 _ _ (by omega)]; exact k1, by rw [z1 _ _ (by omega)]; exact k2, by rw [z1 _ _ (by omega)]; exact k3, by rw [z1 _ _ (by omega)]; exact k4, by rw [z1 _ _ (by omega)]; exact k5, by rw [z1 _ _ (by omega)]; exact k6, by rw [z1 _ _ (by omega)]; exact k7, by rw [z1 _ _ (by omega)]; exact k8, by rw [z1 _ _ (by omega)]; exact k9⟩
  have hT1 : rTxs G1 T m := hT.ge (z1 _ _ (by omega)) (z1 _ _ (by omega)) (fun a j _ => z1 _ _ (by omega))
  -- INPUTS
  obtain ⟨G2, R0, q, c, a1, a2, a3, a4, a5, a6, a7⟩ := l_298_54 (f := f) (o := o) (fr := fr) (G := G1) (T := T) (m := m) (e := (H (b + k)).1) (e' := e') (F := (H (b + k)).2.1) (M := Mo) hf hh ho hC1 hT1 m1 (by rw [z1 _ _ (by omega)]; exact r2) m2 m3 p1 p2 p3 (fun q => by
    have c : nx = -1 := Classical.byContradiction (fun w => (hfr.mpr w) q)
    have e1 : e' = (H (b + k)).1 := by rw [he', if_pos c]
    rw [e1, m2] at p2
    exact (Sum.inr.inj p2).symm) (r6.ge (z1 _ _ (by omega)) (fun a j _ _ => z1 _ _ (by omega))) m5 m6
  have z2 : ∀ a j, ¬ (a = 0 ∧ (j ≤ 11 ∨ 21 ≤ j ∧ j ≤ 27 ∨ j = 74 ∨ j = 65)) → ¬ (1 ≤ a ∧ a ≤ 71) → ¬ (107 ≤ a ∧ a ≤ 109) → ¬ (243 ≤ a ∧ a ≤ 246) → G2 a j = G a j := fun a j q1 q2 q3 q4 => by rw [a7 a j (by omega) q2 q3 q4, z1 a j (by omega)]
  have hps : rPe G2 o ps := r13.ge' (fun a j _ _ => z2 _ _ (by omega) (by omega) (by omega) (by omega))
  have hlp := r13.2.1
  -- CHANGES
  obtain ⟨G3, R, fu', b1, b2, b3, b4, b5⟩ := l_298_90 (f := f) (fr := fr) (by omega) p3 (fun p hp hi => Nat.le_of_lt (key_lt p2 p3 hp hi)) hh ho s8 ps.length 0 f G2 R0 (by omega) (by omega) hps a2 a3 (fun p hp => by have := a4 p hp; omega)
  rw [List.drop_zero] at b2
  have z3 : ∀ a j, ¬ (a = 0 ∧ (j ≤ 11 ∨ 21 ≤ j ∧ j ≤ 27 ∨ j = 74 ∨ j = 65)) → ¬ (1 ≤ a ∧ a ≤ 71) → ¬ (107 ≤ a ∧ a ≤ 109) → ¬ (243 ≤ a ∧ a ≤ 246) → G3 a j = G a j := fun a j q1 q2 q3 q4 => by rw [b5 a j q3, z2 a j q1 q2 q3 q4]
  have hps3 : G3 o 33 = (ps.length : Int) := by rw [z3 _ _ (by omega) (by omega) (by omega) (by omega)]; exact r13.1
  -- all is worked
  obtain ⟨G4, gd, c1, c2, c3⟩ := l_290 (f := f) (In := R) hf p3 p4 b3 (fun _ _ _ => rfl) (rIn_of b3 b4)
  have z4 : ∀ a j, ¬ (a = 0 ∧ (j ≤ 11 ∨ 21 ≤ j ∧ j ≤ 27 ∨ 37 ≤ j ∧ j ≤ 61 ∨ j = 74 ∨ j = 65)) → ¬ (1 ≤ a ∧ a ≤ 71) → ¬ (107 ≤ a ∧ a ≤ 121) → ¬ (243 ≤ a ∧ a ≤ 246) → G4 a j = G a j := fun a j q1 q2 q3 q4 => by rw [c2 a j (by omega) (by omega), z3 a j (by omega) q2 (by omega) q4]
  have v74 : G4 0 74 = 0 := by rw [c2 _ _ (by omega) (by omega), b5 _ _ (by omega), a7 _ _ (by omega) (by omega) (by omega) (by omega)]; exact y74
  have v65 : G4 0 65 = -1 := by rw [c2 _ _ (by omega) (by omega), b5 _ _ (by omega), a7 _ _ (by omega) (by omega) (by omega) (by omega)]; exact y65
  have e1 : g298 f G = ((g290 f G3).bind fun R156 => (if ¬ (R156.1) = 0 then ((g302 f (247) R156.2).bind fun R162 => (if (fr) = 0 then g298_222 f (o) (fr) R162 else (if 0 ≤ (R162 (o) 17) ∧ (R162 (o) 17) < 20 then ((some (xup2 R162 (o + 13) (R162 (o) 17).toNat (xwr ((R162 (o) 2) + (1))))).bind fun G172 => (if 0 ≤ (G172 (o) 17) ∧ (G172 (o) 17) < 20 then ((some (xup2 G172 (o + 14) (G172 (o) 17).toNat (G172 (o) 1))).bind fun G177 => ((some (xup2 G177 (o) 17 (xwr ((G177 (o) 17) + (1))))).bind fun G181 => ((some (xup2 G181 (o) 1 (G181 (o) 34))).bind fun G185 => ((some (xup2 G185 (o) 4 (xwr ((G185 (o) 4) + (1))))).bind fun G189 => g298_203 f f (o) (fr) (0) G189)))) else none)) else none))) else ((some (xup2 R156.2 (0) 63 (xwr ((R156.2 (0) 63) + (1))))).bind fun G193 => ((g202 f (o) G193).bind fun R194 => (some (-1, R194)))))) := by
    rw [e0, a1]
    refine b1.trans ?_
    show g298_90b (g298_90 f fu') f o fr (ps.length : Int) G3 = _
    unfold g298_90b
    rw [hps3, if_pos (Int.le_refl _)]
  rw [e1, c1, Option.bind_some]
  rcases c3 with ⟨g1, M, g2, g3⟩ | ⟨g1, g2⟩
  · -- taken
    have n1 : ¬ ((gd, G4) : Int × xG_).1 = 0 := by rw [g1]; show ¬ (1 : Int) = 0; decide
    rw [if_pos n1]
    obtain ⟨G5, F', d1, d2, d3, d4, d5⟩ := l_302 (f := f) (b := 247) (by omega) p3 (by unfold isFb; omega) g2 g3.1
    have z5 : ∀ a j, ¬ (a = 0 ∧ (j ≤ 11 ∨ 21 ≤ j ∧ j ≤ 27 ∨ 37 ≤ j ∧ j ≤ 61 ∨ j = 74 ∨ j = 65)) → ¬ (1 ≤ a ∧ a ≤ 71) → ¬ (107 ≤ a ∧ a ≤ 121) → ¬ (243 ≤ a ∧ a ≤ 250) → G5 a j = G a j := fun a j q1 q2 q3 q4 => by rw [d2 a j (by omega) (by omega) (by omega) (by omega), z4 a j q1 q2 q3 (by omega)]
    have w5 : ∀ a j, a < 247 ∨ 250 < a → G5 a j = G4 a j := fun a j q => d2 a j (by omega) (by omega) (by omega) (by omega)
    show ∃ v G' ln' good s' M', (g302 f 247 G4).bind _ = some (v, G') ∧ _
    rw [d1, Option.bind_some]
    let ln0 : sLn := (H, (b, k, ed), (wk, cw, tb), (ps, nx, W), fk)
    let H' := lnH ln0 F'
    have hH' : H' = hAd H (b + k + 1) (lnM ln0 F') := rfl
    -- the state ahead of the tail
    obtain ⟨G6, i1, i2, i3, i4, i5, i6⟩ : ∃ G6, (if (fr) = 0 then g298_222 f (o) (fr) G5 else (if 0 ≤ (G5 (o) 17) ∧ (G5 (o) 17) < 20 then ((some (xup2 G5 (o + 13) (G5 (o) 17).toNat (xwr ((G5 (o) 2) + (1))))).bind fun G172 => (if 0 ≤ (G172 (o) 17) ∧ (G172 (o) 17) < 20 then ((some (xup2 G172 (o + 14) (G172 (o) 17).toNat (G172 (o) 1))).bind fun G177 => ((some (xup2 G177 (o) 17 (xwr ((G177 (o) 17) + (1))))).bind fun G181 => ((some (xup2 G181 (o) 1 (G181 (o) 34))).bind fun G185 => ((some (xup2 G185 (o) 4 (xwr ((G185 (o) 4) + (1))))).bind fun G189 => g298_203 f f (o) (fr) (0) G189)))) else none)) else none)) = g298_222 f o fr G6 ∧ rEg G6 o (hCat (hEg H') b (k + 1)) ∧ G6 o 1 = (e' : Int) ∧ G6 o 4 = ((ed + (if nx = -1 then 0 else 1) : Nat) : Int) ∧ (∀ p, p < 16 → G6 (o + 18) p = if nx = -1 then wk p else 0) ∧ ∀ a j, ¬ (a = o ∧ (j = 17 ∨ j = 1 ∨ j = 4)) → a ≠ o + 13 → a ≠ o + 14 → a ≠ o + 18 → G6 a j = G5 a j := by
      have hE5 : rEg G5 o (hCat (hEg H) b k) := r1.2.2.1.ge (z5 _ _ (by omega) (by omega) (by omega) (by omega)) (fun a j _ _ => z5 _ _ (by omega) (by omega) (by omega) (by omega))
      have hEe : hCat (hEg H') b (k + 1) = hCat (hEg H) b k ++ (if decide (nx ≠ -1) = true then [(((b + k + 1 : Nat) : Int), ((H (b + k)).1 : Int))] else []) := hAd_eg
      by_cases cn : nx = -1
      · have f0 : fr = 0 := if_pos cn
        have hE0 : hCat (hEg H') b (k + 1) = hCat (hEg H) b k := by rw [hEe, decide_eq_false (fun q => q cn), if_neg (by decide), List.append_nil]
        refine ⟨G5, by rw [if_pos f0], by rw [hE0]; exact hE5, ?_, ?_, fun p hp => ?_, fun _ _ _ _ _ _ => rfl⟩
        · rw [z5 _ _ (by omega) (by omega) (by omega) (by omega), r2, he', if_pos cn]
        · rw [if_pos cn, z5 _ _ (by omega) (by omega) (by omega) (by omega)]; exact r5
        · rw [if_pos cn, z5 _ _ (by omega) (by omega) (by omega) (by omega)]; exact r9 p hp
      · have f1 : ¬ fr = 0 := hfr.mpr cn
        have hE0 : hCat (hEg H') b (k + 1) = hCat (hEg H) b k ++ [(((b + k + 1 : Nat) : Int), ((H (b + k)).1 : Int))] := by rw [hEe, decide_eq_true cn, if_pos rfl]
        obtain ⟨G6, j1, j2, j3, j4, j5, j6, j7, j8⟩ := l_298_ed (f := f) (o := o) (G := G5) (fr := fr) (nx := nx) (n := (hCat (hEg H) b k).length) (rd := b + k) (e := (H (b + k)).1) (ed := ed) (by omega) hob (by omega) hE5.1 (by rw [z5 _ _ (by omega) (by omega) (by omega) (by omega)]; exact r3) (by rw [z5 _ _ (by omega) (by omega) (by omega) (by omega)]; exact r2) (by rw [z5 _ _ (by omega) (by omega) (by omega) (by omega)]; exact r14) (by rw [z5 _ _ (by omega) (by omega) (by omega) (by omega)]; exact r5) (by omega) (by omega)
        have hE6' : rEg G6 o (hCat (hEg H') b (k + 1)) := by
          rw [hE0]
          refine ⟨by rw [j4, List.length_append]; rfl, by rw [List.length_append, List.length_singleton]; omega, fun i hi => ?_⟩
          rw [List.length_append, List.length_singleton] at hi
          rw [getD_1]
          by_cases ci : i = (hCat (hEg H) b k).length
          · rw [if_pos ci, ci]
            exact ⟨j2, j3⟩
          · rw [if_neg ci, j8 _ _ (by omega) (by omega) (by omega) (by omega), j8 _ _ (by omega) (by omega) (by omega) (by omega)]
            exact hE5.2.2 i (by omega)
        refine ⟨G6, by rw [if_neg f1]; exact j1, hE6', ?_, by rw [if_neg cn]; exact j6, fun p hp => by rw [if_neg cn]; exact j7 p hp, fun a j q1 q2 q3 q4 => j8 a j q1 (by omega) (by omega) q4⟩
        · rw [j5, he', if_neg cn]
          rcases hnx with q | q
          · exact absurd q cn
          · omega
    have z6 : ∀ a j, ¬ (a = 0 ∧ (j ≤ 11 ∨ 21 ≤ j ∧ j ≤ 27 ∨ 37 ≤ j ∧ j ≤ 61 ∨ j = 74 ∨ j = 65)) → ¬ (1 ≤ a ∧ a ≤ 71) → ¬ (107 ≤ a ∧ a ≤ 121) → ¬ (243 ≤ a ∧ a ≤ 250) → ¬ (a = o ∧ (j = 17 ∨ j = 1 ∨ j = 4)) → a ≠ o + 13 → a ≠ o + 14 → a ≠ o + 18 → G6 a j = G a j := fun a j q1 q2 q3 q4 q5 q6 q7 q8 => by rw [i6 a j q5 q6 q7 q8, z5 a j q1 q2 q3 q4]
    have w6 : ∀ a j, a < o ∨ o + 28 < a → a < 247 ∨ 250 < a → G6 a j = G4 a j := fun a j q1 q2 => by rw [i6 a j (by omega) (by omega) (by omega) (by omega), w5 a j q2]
    have hE6 : rEn G6 q c s M := by
      obtain ⟨x1, x2, x3, x4⟩ := g2
      exact ⟨x1.ge (fun j => w6 _ _ (by omega) (by omega)) (fun a j _ _ _ _ _ => w6 _ _ (by omega) (by omega)), fun y hy => by rw [w6 _ _ (by omega) (by omega)]; exact x2 y hy, ⟨fun p hp => by rw [w6 _ _ (by omega) (by omega)]; exact x3.1 p hp, fun p hp => by rw [w6 _ _ (by omega) (by omega)]; exact x3.2 p hp⟩, x4.ge (fun a j _ _ => w6 _ _ (by omega) (by omega))⟩
    have hA6 : rFa G6 247 F' := d3.ge (i6 _ _ (by omega) (by omega) (by omega) (by omega)) (fun a j _ _ => i6 _ _ (by omega) (by omega) (by omega) (by omega))
    have hB6 : rFa G6 243 (H (b + k)).2.1 := a6.ge (by rw [w6 _ _ (by omega) (by omega), c2 _ _ (by omega) (by omega), b5 _ _ (by omega)]) (fun a j _ _ => by rw [w6 _ _ (by omega) (by omega), c2 _ _ (by omega) (by omega), b5 _ _ (by omega)])
    have hF6 : rFa G6 (o + 1) (H (b + k)).2.1 := r6.ge (z6 _ _ (by omega) (by omega) (by omega) (by omega) (by omega) (by omega) (by omega) (by omega)) (fun a j _ _ => z6 _ _ (by omega) (by omega) (by omega) (by omega) (by omega) (by omega) (by omega) (by omega))
    have hlB : (H (b + k)).2.1.length ≤ 1600 := m6.len m3.1.1 m5.1.1
    have hH6 : rHi G6 o (hCat (hLg H) b k) (hCat (hCg H) b k) (hCat (hEg H') b (k + 1)) := ⟨r1.1.ge (z6 _ _ (by omega) (by omega) (by omega) (by omega) (by omega) (by omega) (by omega) (by omega)) (fun a j _ _ => z6 _ _ (by omega) (by omega) (by omega) (by omega) (by omega) (by omega) (by omega) (by omega)), r1.2.1.ge (z6 _ _ (by omega) (by omega) (by omega) (by omega) (by omega) (by omega) (by omega) (by omega)) (fun a j _ _ => z6 _ _ (by omega) (by omega) (by omega) (by omega) (by omega) (by omega) (by omega) (by omega)), i2, hCat_S (hLg_r H) k, hCat_S (hCg_r H) k, hCat_S (hEg_r H') (k + 1)⟩
    have hC6 : rC G6 := by
      have zc : ∀ j, 12 ≤ j → j ≤ 20 → G6 0 j = G 0 j := fun j _ _ => z6 _ _ (by omega) (by omega) (by omega) (by omega) (by omega) (by omega) (by omega) (by omega)
      obtain ⟨k1, k2, k3, k4, k5, k6, k7, k8, k9⟩ := hC
      exact ⟨by rw [zc _ (by decide) (by decide)]; exact k1, by rw [zc _ (by decide) (by decide)]; exact k2, by rw [zc _ (by decide) (by decide)]; exact k3, by rw [zc _ (by decide) (by decide)]; exact k4, by rw [zc _ (by decide) (by decide)]; exact k5, by rw [zc _ (by decide) (by decide)]; exact k6, by rw [zc _ (by decide) (by decide)]; exact k7, by rw [zc _ (by decide) (by decide)]; exact k8, by rw [zc _ (by decide) (by decide)]; exact k9⟩
    have hT6 : rTxs G6 T m := hT.ge (z6 _ _ (by omega) (by omega) (by omega) (by omega) (by omega) (by omega) (by omega) (by omega)) (z6 _ _ (by omega) (by omega) (by omega) (by omega) (by omega) (by omega) (by omega) (by omega)) (fun a j _ => z6 _ _ (by omega) (by omega) (by omega) (by omega) (by omega) (by omega) (by omega) (by omega))
    have hK6 : rKt G6 o T (H (b + k)).2.2.1 := m7.rKt (fun x hx => by rw [z6 _ _ (by omega) (by omega) (by omega) (by omega) (by omega) (by omega) (by omega) (by omega)]; exact r7 x hx)
    have hXo : okX (xOf T (H (b + k)).2.2.1) := okX_of hC6 hT6 hK6
    have hokC : okC (fSh (xOf T (H (b + k)).2.2.1) so Mo) := fSh_ok hXo (fun p hp r hr' => ((m5.1.1 p hp).2.2 r hr').2) (fun p hp => by have := (m5.1.1 p hp).1; omega)
    obtain ⟨G7, E', y, t1, t2, t3, t4, t5, t6, t7, t8, t9, t10, t11, t12, t13, t13', t14, t15, t16, ⟨t17, t18, t19, t20⟩, t21, t22, t23⟩ := l_298_222 (f := f) (o := o) (fr := fr) (rd := b + k) (b := b) (K := (H (b + k)).2.2.1) (W := W) (C := fSh (xOf T (H (b + k)).2.2.1) so Mo) hf hh ho p3 hE6 g3.1 hA6 hB6 hF6 d4.1 m6.1 d5 hlB hH6 hl4.1 hl4.2.1 (by rw [z6 _ _ (by omega) (by omega) (by omega) (by omega) (by omega) (by omega) (by omega) (by omega)]; exact r3) (by omega) (by rw [z6 _ _ (by omega) (by omega) (by omega) (by omega) (by omega) (by omega) (by omega) (by omega)]; exact r4) (by omega) ⟨fun a ha => by have := hCat_mem (hLg_r H) k ha; omega, fun a ha => by have := hCat_mem (hCg_r H) k ha; omega, fun a ha => by have := hCat_mem (hEg_r H') (k + 1) ha; omega⟩ hC6 hT6 hK6 (fun x hx => ⟨by rw [z6 _ _ (by omega) (by omega) (by omega) (by omega) (by omega) (by omega) (by omega) (by omega)]; exact r15 x hx, by
        rcases s10 x with w | w
        · exact .inl w
        · exact .inr ⟨w.1, w.2.1, w.2.2 hx⟩⟩) (fun x hx => by rw [z6 _ _ (by omega) (by omega) (by omega) (by omega) (by omega) (by omega) (by omega) (by omega), z6 _ _ (by omega) (by omega) (by omega) (by omega) (by omega) (by omega) (by omega) (by omega)]; exact r8 x hx) hokC (fun p hp => by
        rw [i5 p hp]
        have := s6 p hp
        split
        · omega
        · omega) (fun x hx => by rw [z6 _ _ (by omega) (by omega) (by omega) (by omega) (by omega) (by omega) (by omega) (by omega), r10 x hx]; have := s7 x hx; omega) (by rw [z6 _ _ (by omega) (by omega) (by omega) (by omega) (by omega) (by omega) (by omega) (by omega)]; exact h64)
    rw [hfrP] at t10 t11
    -- the logs are the history's
    have hLe : hCat (hLg H') b (k + 1) = hCat (hLg H) b k ++ lgR ((b + k + 1 : Nat) : Int) F' (H (b + k)).2.1 := hAd_lg
    have hCe : hCat (hCg H') b (k + 1) = hCat (hCg H) b k ++ cgN ((b + k + 1 : Nat) : Int) (H (b + k)).2.2.1 W 72 := hAd_cg
    rw [← hLe, ← hCe] at t3 t5
    obtain ⟨i, hi⟩ : ∃ i : Nat, y = ((b + i : Nat) : Int) := ⟨(y - b).toNat, by have := t3.1; omega⟩
    obtain ⟨k', hk'⟩ : ∃ k', k + 1 = i + k' := ⟨k + 1 - i, by omega⟩
    rw [hi] at t3 t4 t5 t6
    have hPa : rPa G7 o H' (b + i) k' := by
      rw [hk', hCat_K (hLg_r H'), hCat_K (hCg_r H'), hCat_K (hEg_r H')] at t5
      exact t5
    have hsum : b + i + k' = b + k + 1 := by omega
    have hE1 : H' (b + k + 1) = lnM ln0 F' := hAd_s
    have hEn : ∀ r, r ≠ b + k + 1 → H' r = H r := fun r hr => hAd_n hr
    have hqS : qSt1 s M := ⟨⟨g3.1, fun _ _ _ => rfl, g3.2.2⟩, fun p hp hi w hw => by
      rw [g3.2.1 p hp hi] at hw
      exact ((b4 p hp).2 w hw).1⟩
    let ln' : sLn := (H', (b + i, k', ed + (if nx = -1 then 0 else 1)), (fun p => G7 (o + 18) p, fun x => G7 (o + 16) x, true), ([], -1, fun _ => -1), fk)
    have hmo' : lMo ln' = lnM ln0 F' := by
      show H' (b + i + k') = _
      rw [hsum]; exact hE1
    have hkn : kOk T (kNx (H (b + k)).2.2.1 W 72) := m7.nx s10
    have hisM : isMo T (lnM ln0 F') s M := ⟨p1, p2, p3, p4, hqS, d4, hkn⟩
    have hinc1 : inc1 16 (fun y => y < s.1.length ∧ qWc s (nx ≠ -1) (fun p => ∃ x, x ∈ lgR ((b + k + 1 : Nat) : Int) F' (H (b + k)).2.1 ∧ ofP s x.2.2 p) y) (fun y => if nx = -1 then wk y else 0) (fun p => G7 (o + 18) p) := fun y hy => by
      have := t10 y hy
      rw [i5 y hy] at this
      by_cases cc : y < s.1.length ∧ qWc s (nx ≠ -1) (fun p => ∃ x, x ∈ lgR ((b + k + 1 : Nat) : Int) F' (H (b + k)).2.1 ∧ ofP s x.2.2 p) y
      · exact .inl ⟨cc, this.1 cc⟩
      · exact .inr ⟨cc, this.2 cc⟩
    have hcw6 : ∀ x, x < 72 → G6 (o + 16) x = cw x := fun x hx => by rw [z6 _ _ (by omega) (by omega) (by omega) (by omega) (by omega) (by omega) (by omega) (by omega)]; exact r10 x hx
    refine ⟨_, G7, ln', true, s, M, i1.trans t1, ⟨so, Mo, s, R0, R, hMo', p2, by rw [hfrP] at a5; exact a5, b2, .inr ⟨rfl, M, F', b + i, k', _, _, g3, d4, rfl, rfl, hsum, t3, hinc1, fun x hx => ?_⟩⟩, ?_, by rw [hmo']; exact hisM, ?_, .inl ⟨rfl, ?_, ?_⟩, ?_, ?_, fun a j q1 q2 q3 q4 q5 q6 => ?_⟩
    · have := t11 x hx
      rw [hcw6 x hx] at this
      exact this
    · show rPa G7 o H' (b + i) k' ∧ (G7 o 1 = ((H' (b + i + k')).1 : Int) ∧ G7 o 2 = ((b + i + k' : Nat) : Int) ∧ G7 o 3 = ((b + i : Nat) : Int) ∧ G7 o 4 = ((ed + (if nx = -1 then 0 else 1) : Nat) : Int)) ∧ rFa G7 (o + 1) (H' (b + i + k')).2.1 ∧ (∀ c, c < 72 → G7 (o + 15) c = ((H' (b + i + k')).2.2.1 c : Int)) ∧ rCs G7 o (fSh (xOf T (H' (b + i + k')).2.2.1) s M) ∧ (∀ p, p < 16 → G7 (o + 18) p = G7 (o + 18) p) ∧ (∀ c, c < 72 → G7 (o + 16) c = G7 (o + 16) c) ∧ (∃ E, rEd G7 o E ∧ (true = true → qEd s (H' (b + i + k')).2.1 (H' (b + i + k' - 1)).2.1 E) ∧ (true = false → E = [])) ∧ rCx G7 o ln' s ∧ (rPe G7 o [] ∧ G7 o 34 = -1 ∧ ∀ c, c < 72 → G7 (o + 26) c = -1) ∧ G7 o 35 = fk.1 ∧ G7 o 36 = fk.2
      have hcx : rCx G7 o ln' s := ⟨fun _ => by
        show rCh G7 o s (lgR ((b + i + k' : Nat) : Int) (H' (b + i + k')).2.1 (H' (b + i + k' - 1)).2.1)
        rw [hsum, hE1, show b + k + 1 - 1 = b + k by omega, hEn (b + k) (by omega)]
        exact t13', fun q => absurd (show true = false from q) (by decide)⟩
      rw [hsum, hE1, show b + k + 1 - 1 = b + k by omega, hEn (b + k) (by omega)]
      refine ⟨hPa, ⟨by rw [t17]; exact i3, t2, t6, by rw [t18]; exact i4⟩, t7, t8, t9, fun _ _ => rfl, fun _ _ => rfl, ⟨E', t12, fun _ => t13, fun q => absurd q (by decide)⟩, hcx, ⟨⟨t14, Nat.zero_le _, fun x hx => absurd hx (Nat.not_lt_zero x)⟩, t15, t16⟩, ?_, ?_⟩
      · rw [t19, z6 _ _ (by omega) (by omega) (by omega) (by omega) (by omega) (by omega) (by omega) (by omega)]; exact r16
      · rw [t20, z6 _ _ (by omega) (by omega) (by omega) (by omega) (by omega) (by omega) (by omega) (by omega)]; exact r17
    · refine ⟨fun r q1 q2 => ?_, fun r q1 q2 => ?_, ⟨by show b + i + k' ≤ n + 1; omega, ?_⟩, ?_, ?_, fun p hp => ?_, fun x hx => ?_, fun e he => (by cases he), .inl rfl, fun _ => .inl rfl⟩
      · have q1' : b + i ≤ r := q1
        have q2' : r ≤ b + i + k' := q2
        show ∃ s M, isMo T (H' r) s M
        by_cases cr : r = b + k + 1
        · rw [cr, hE1]; exact ⟨s, M, hisM⟩
        · rw [hEn r cr]; exact s1 r (by omega) (by omega)
      · have q1' : b + i < r := q1
        have q2' : r ≤ b + i + k' := q2
        show ((H' r).2.2.2.2 ≠ true → (H' r).1 = (H' (r - 1)).1) ∧ (H' r).2.2.1 = kNx (H' (r - 1)).2.2.1 (H' r).2.2.2.1 72
        by_cases cr : r = b + k + 1
        · rw [cr, hE1, show b + k + 1 - 1 = b + k by omega, hEn (b + k) (by omega)]
          refine ⟨fun w => ?_, rfl⟩
          have cn : nx = -1 := Classical.byContradiction (fun u => w (decide_eq_true u))
          show e' = _
          rw [he', if_pos cn]
        · rw [hEn r cr, hEn (r - 1) (by omega)]
          exact s2 r (by omega) (by omega)
      · show ed + (if nx = -1 then 0 else 1) ≤ n + 1
        split <;> omega
      · have := t3.2.1
        unfold tmOk at this ⊢
        show (lgK ((b + i : Nat) : Int) (hCat (hLg H') (b + i) k')).length ≤ 8000 ∧ (lgK ((b + i : Nat) : Int) (hCat (hCg H') (b + i) k')).length ≤ 100 ∧ (lgK ((b + i : Nat) : Int) (hCat (hEg H') (b + i) k')).length ≤ 7
        rw [lgK_self (hLg_r H'), lgK_self (hCg_r H'), lgK_self (hEg_r H')]
        rw [hk', hCat_K (hLg_r H'), hCat_K (hCg_r H'), hCat_K (hEg_r H')] at this
        exact this
      · show (hCat (hEg H') (b + i) k').length ≤ ed + (if nx = -1 then 0 else 1)
        have hsp : hCat (hEg H') b (k + 1) = hCat (hEg H') b i ++ hCat (hEg H') (b + i) k' := by rw [hk', hCat_split]
        have hEe : hCat (hEg H') b (k + 1) = hCat (hEg H) b k ++ (if decide (nx ≠ -1) = true then [(((b + k + 1 : Nat) : Int), ((H (b + k)).1 : Int))] else []) := hAd_eg
        have l1 := congrArg List.length hsp
        have l2 := congrArg List.length hEe
        rw [List.length_append] at l1 l2
        have l3 : (if decide (nx ≠ -1) = true then [(((b + k + 1 : Nat) : Int), ((H (b + k)).1 : Int))] else []).length = if nx = -1 then 0 else 1 := by
          by_cases cn : nx = -1
          · rw [if_pos cn, decide_eq_false (fun q => q cn), if_neg (by decide)]; rfl
          · rw [if_neg cn, decide_eq_true cn, if_pos rfl]; rfl
        omega
      · show 0 ≤ G7 (o + 18) p ∧ G7 (o + 18) p ≤ ((n + 1 : Nat) : Int)
        have w1 := s6 p hp
        have w2 : 0 ≤ (if nx = -1 then wk p else 0) ∧ (if nx = -1 then wk p else 0) ≤ (n : Int) := by
          split <;> omega
        rcases hinc1 p hp with w | w
        · have := w.2
          simp only [] at this
          omega
        · have := w.2
          simp only [] at this
          omega
      · show 0 ≤ G7 (o + 16) x ∧ G7 (o + 16) x ≤ ((n + 1 : Nat) : Int)
        have w1 := s7 x hx
        have w2 := t11 x hx
        rw [hcw6 x hx] at w2
        rcases w2 with w | w
        · have := w.2; omega
        · have := w.2; omega
    · rw [t22 63 (by omega), z6 _ _ (by omega) (by omega) (by omega) (by omega) (by omega) (by omega) (by omega) (by omega)]
    · rw [t21, z6 _ _ (by omega) (by omega) (by omega) (by omega) (by omega) (by omega) (by omega) (by omega)]
    · rw [t22 65 (by omega), w6 _ _ (by omega) (by omega)]; exact v65
    · rw [t22 74 (by omega), w6 _ _ (by omega) (by omega)]; exact v74
    · rw [t23 a j q1 q2 q3 q4 q5 q6, z6 a j (by omega) q2 q3 (by omega) (by omega) (by omega) (by omega) (by omega)]
  · -- refused
    have n1 : ¬ ¬ ((gd, G4) : Int × xG_).1 = 0 := by rw [g1]; exact fun q => q rfl
    rw [if_neg n1]
    have e63 : G4 0 63 = G 0 63 := z4 _ _ (by omega) (by omega) (by omega) (by omega)
    have w63 : xwr (G4 0 63 + 1) = G 0 63 + 1 := by rw [e63]; exact xwr_g _ (by omega) (by omega)
    obtain ⟨G5, d1, d2, d3, d4, d5⟩ := l_202 (f := f) (o := o) (G := xup2 G4 0 63 (G 0 63 + 1)) (by omega)
    have z5 : ∀ a j, ¬ (a = o ∧ (j = 33 ∨ j = 34)) → a ≠ o + 26 → ¬ (a = 0 ∧ (j ≤ 11 ∨ 21 ≤ j ∧ j ≤ 27 ∨ 37 ≤ j ∧ j ≤ 61 ∨ j = 74 ∨ j = 65 ∨ j = 63)) → ¬ (1 ≤ a ∧ a ≤ 71) → ¬ (107 ≤ a ∧ a ≤ 121) → ¬ (243 ≤ a ∧ a ≤ 246) → G5 a j = G a j := fun a j q1 q2 q3 q4 q5 q6 => by rw [d5 a j q1 (by omega), xup2_n (by omega), z4 a j (by omega) q4 q5 q6]
    refine ⟨-1, G5, lnF (H, (b, k, ed), (wk, cw, tb), (ps, nx, W), fk), false, so, Mo, ?_, ⟨so, Mo, s, R0, R, hMo', p2, by rw [hfrP] at a5; exact a5, b2, .inl ⟨rfl, g2, rfl, rfl⟩⟩, ?_, hMo', ?_, .inr ⟨rfl, ?_, ?_⟩, ?_, ?_, fun a j q1 q2 q3 q4 q5 q6 => z5 a j (by omega) (by omega) (by omega) q2 q3 (by omega)⟩
    · show Option.bind (some (xup2 G4 0 63 (xwr (G4 0 63 + 1)))) _ = _
      rw [w63, Option.bind_some, d1]
      rfl
    · have zl : ∀ a j, o ≤ a → a ≤ o + 28 → ¬ (a = o ∧ (j = 33 ∨ j = 34)) → a ≠ o + 26 → G5 a j = G a j := fun a j q1 q2 q3 q4 => z5 a j q3 q4 (by omega) (by omega) (by omega) (by omega)
      refine ⟨⟨r1.1.ge (zl _ _ (by omega) (by omega) (by omega) (by omega)) (fun a j _ _ => zl _ _ (by omega) (by omega) (by omega) (by omega)), r1.2.1.ge (zl _ _ (by omega) (by omega) (by omega) (by omega)) (fun a j _ _ => zl _ _ (by omega) (by omega) (by omega) (by omega)), r1.2.2.1.ge (zl _ _ (by omega) (by omega) (by omega) (by omega)) (fun a j _ _ => zl _ _ (by omega) (by omega) (by omega) (by omega)), r1.2.2.2⟩, ⟨by rw [zl _ _ (by omega) (by omega) (by omega) (by omega)]; exact r2, by rw [zl _ _ (by omega) (by omega) (by omega) (by omega)]; exact r3, by rw [zl _ _ (by omega) (by omega) (by omega) (by omega)]; exact r4, by rw [zl _ _ (by omega) (by omega) (by omega) (by omega)]; exact r5⟩, r6.ge (zl _ _ (by omega) (by omega) (by omega) (by omega)) (fun a j _ _ => zl _ _ (by omega) (by omega) (by omega) (by omega)), fun x hx => by rw [zl _ _ (by omega) (by omega) (by omega) (by omega)]; exact r7 x hx, fun x hx => by rw [zl _ _ (by omega) (by omega) (by omega) (by omega), zl _ _ (by omega) (by omega) (by omega) (by omega)]; exact r8 x hx, fun p hp => by rw [zl _ _ (by omega) (by omega) (by omega) (by omega)]; exact r9 p hp, fun x hx => by rw [zl _ _ (by omega) (by omega) (by omega) (by omega)]; exact r10 x hx, ⟨E0, r11.ge (zl _ _ (by omega) (by omega) (by omega) (by omega)) (fun a j _ _ => zl _ _ (by omega) (by omega) (by omega) (by omega)), r12, r12'⟩, r18.ge (fun j => zl _ _ (by omega) (by omega) (by omega) (by omega)), ⟨⟨d2, Nat.zero_le _, fun x hx => absurd hx (Nat.not_lt_zero x)⟩, d3, fun x hx => d4 x hx⟩, by rw [zl _ _ (by omega) (by omega) (by omega) (by omega)]; exact r16, by rw [zl _ _ (by omega) (by omega) (by omega) (by omega)]; exact r17⟩
    · have := hS'.mo (Nat.le_succ n)
      obtain ⟨q1, q2, q3, q4, q5, q6, q7, q8⟩ := this
      exact ⟨q1, q2, q3, q4, q5, q6, q7, fun e he => (by cases he), .inl rfl, fun _ => .inl rfl⟩
    · rw [d5 _ _ (by omega) (by omega), xup2_s]
    · rw [z5 _ _ (by omega) (by omega) (by omega) (by omega) (by omega) (by omega)]
    · rw [d5 _ _ (by omega) (by omega), xup2_n (by omega)]; exact v65
    · rw [d5 _ _ (by omega) (by omega), xup2_n (by omega)]; exact v74
end
