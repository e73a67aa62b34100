/-! The reference reads LITERALS: one by one -/
section
variable {f q n o r cb F : Nat} {B : Nat → Int} {lm tell : Bool}
theorem l_lit {i c : Nat} {G : xG_} {L : Nat → Int} {N : List Int} {V : List (Int × Nat)} {l : List pLt} {M : List pMn} (hf : n + 20 < f) (hcb : cb + n + 3 ≤ 6200) (htell : tell = true ↔ r ≠ 24) (hF : 4 * (n + 1 - i) + 4 ≤ F) (hS : rRS G q B n lm o r c N V l M) (hA : rAt q B n lm i L) (hc : c ≤ cb + i) :
    rLP f q B n lm o r cb G L c N V l M (g247 f) (pLit (tstr B n lm) tell F (N, V, l, M, i)) := by
  have hE := hS.1
  have ho := hE.2.2.2.2
  have hl8 := hS.2.2.2.2.2.2.1.2.1
  have hin := hA.le hE.1.2.1
  have h4 := hA.at4 hE
  unfold pLit
  by_cases c8 : l.length = 8
  · rw [if_pos c8]
    have e0 := l_lit_e (f := f) hS hA
    rw [if_pos c8] at e0
    exact ⟨G, xu L 7 (L 4), e0, h4, .rf _ _ _ _ _ _ _ _, rSb.st hS⟩
  rw [if_neg c8]
  have h8 : l.length < 8 := by omega
  show rLP f q B n lm o r cb G L c N V l M (g247 f) (if kK (tstr B n lm) i = 9 then _ else if kK (tstr B n lm) i = 1 then _ else _)
  by_cases c9 : kK (tstr B n lm) i = 9
  · rw [if_pos c9]
    exact l_lit_not hf htell hS hA hc h8 c9
  rw [if_neg c9]
  have f0 : xfC o r (8 * r + l.length) V.length c G (xup2 G (o + 28) (8 * r + l.length) (c : Int)) := xfC.up _ (by omega)
  have hX0 : rX (xup2 G (o + 28) (8 * r + l.length) (c : Int)) q B n lm o r V c [] 0 := by
    obtain ⟨hE', h23, hr, hN, hV, h37, hL, hM, h24, ha3, h25⟩ := hS
    exact ⟨hE.fC f0, by rw [xup2_n (by omega)]; exact h23, hr, hV.ot (fun j => xup2_n (by omega)) (fun j => xup2_n (by omega)) (fun j => xup2_n (by omega)), by rw [xup2_n (by omega)]; exact h37, fun j hj => absurd hj (by simp), by rw [xup2_n (by omega)]; exact h25⟩
  by_cases c1 : kK (tstr B n lm) i = 1
  · rw [if_pos c1]
    show rLP f q B n lm o r cb G L c N V l M (g247 f) (if 12 < kE (tstr B n lm) i - kS (tstr B n lm) i then .inl (kS (tstr B n lm) i + 12)
      else if kK (tstr B n lm) (i + 1) = 40 then (if pAtoms l = 3 then .inl (kS (tstr B n lm) i) else pAtom (tstr B n lm) tell 1 (N, V, l, M, i)) else if kW (tstr B n lm) i = -1 then .inl (kS (tstr B n lm) (i + 1)) else pCmp (tstr B n lm) F (N, V, l, M, i))
    by_cases cn : 12 < kE (tstr B n lm) i - kS (tstr B n lm) i ∨ kK (tstr B n lm) (i + 1) = 40 ∨ kW (tstr B n lm) i = -1
    · have h1 := l_lit_nm hf htell hS hA hc h8 c1 cn
      by_cases d1 : 12 < kE (tstr B n lm) i - kS (tstr B n lm) i
      · rw [if_pos d1] at h1 ⊢
        exact h1
      · rw [if_neg d1] at h1 ⊢
        by_cases d2 : kK (tstr B n lm) (i + 1) = 40
        · rw [if_pos d2] at h1 ⊢
          exact h1
        · rw [if_neg d2] at h1 ⊢
          rw [if_pos (by rcases cn with h | h | h; exact absurd h d1; exact absurd h d2; exact h)]
          exact h1
    · have d1 : ¬ 12 < kE (tstr B n lm) i - kS (tstr B n lm) i := fun h => cn (.inl h)
      have d2 : ¬ kK (tstr B n lm) (i + 1) = 40 := fun h => cn (.inr (.inl h))
      have d3 : ¬ kW (tstr B n lm) i = -1 := fun h => cn (.inr (.inr h))
      rw [if_neg d1, if_neg d2, if_neg d3]
      have hnm := hA.nm hE c1
      rw [if_neg d1] at hnm
      obtain ⟨L1, p1, p2⟩ := l_pass hf hE hA hnm.2.2 (by omega) (by omega)
      have e0 := l_lit_e (f := f) hS hA
      rw [if_neg c8, if_neg c9, if_pos c1, p1] at e0
      simp only [Option.bind_some] at e0
      rw [show (40 : Int) = rsc 40 from rfl, p2.issign hE (c := 40) (by unfold isSg; omega)] at e0
      simp only [Option.bind_some, i10] at e0
      have hr := hS.2.2.1
      rw [if_pos d2, hnm.2.1, if_pos d3, xlx_o _ _ (by omega), hE.2.2.2.1, if_neg (by omega), if_neg (by omega), if_pos (by omega), Int.toNat_natCast, xlx_o _ _ (by omega), hS.2.2.2.2.2.1, xlx_upo _ _ _ (by omega), l_put hX0.1 p2.1 (c := c) hX0.2.2.2.2.1 (by omega)] at e0
      simp only [Option.bind_some] at e0
      have hX1 := hX0.put 1 (kW (tstr B n lm) i)
      have hX1' : rX (rPut (xup2 G (o + 28) (8 * r + l.length) (c : Int)) o c 1 (kW (tstr B n lm) i)) q B n lm o r V c [(1, kW (tstr B n lm) i)] 0 := hX1
      obtain ⟨F', rfl⟩ : ∃ t, F = t + 2 := ⟨F - 2, by omega⟩
      have hbd : ∀ d, rXB (g243r f (d + 1)) := by
        intro d
        induction d with
        | zero =>
          intro G L hC h
          show g243b (g243r f 0) f _ = _
          unfold g243b g241 g241_101
          simp only [xlx_2, xlx_3, xlx_4, xlx_5, xlx_6, xlx_7, xlx_8, xlx_9, xlx_10, xlx_u2, xlx_u3, xlx_u4, xlx_u5, xlx_u6, xlx_u7, xlx_u8, xlx_u9, xlx_u10, xu_e, eq_self, reduceIte, Nat.reduceEqDiff, if_true, if_false, not_true_eq_false, not_false_eq_true, Option.bind_some, i10, i01, true_and, false_and, and_false, ne_eq, Int.reduceEq, Int.reduceNeg, l_kind, l_sign, h, l_value_bad hC h]
          rw [l_more_bad (by omega) G L hC h]
          rfl
        | succ d ih => exact l_expb_bad (by omega) ih
      have hP := l_prim (f := f) (q := q) (B := B) (lm := lm) (o := o) (r := r) (cb := cb) (b := 0) hf hcb (by omega) (hbd 7) (fun _ => l_expr hf hcb 7 1 (by omega) (by omega))
      have hM2 := l_more hf hcb hP (l_prim_bad (hbd 7)) (F' + 1) _ L1 V [(1, kW (tstr B n lm) i)] (i + 1) c (by show 4 * (n + 1 - (i + 1)) + 2 ≤ F' + 1; omega) hX1' p2 (by show c + 1 ≤ cb + (i + 1); omega)
      refine l_lit_c (fn := g244 (g243r f 8) f) hf hcb (show 4 * (n + 1 - i) + 2 ≤ F' + 2 by omega) hS h8 (show i ≤ i + 1 by omega) (f0.tr (rPut_fe _ o r V.length (Nat.le_refl c) _ _).fC (Nat.le_refl _) (Nat.le_refl _)) (by rw [rPut_o (by omega), xup2_s]) (Nat.le_refl _) (by decide) hM2 (by show c + 1 ≤ cb + (i + 1); omega) e0 ?_
      rw [pX_1, pX_0, if_neg (show ¬ kK (tstr B n lm) i = 2 by omega), if_neg (show ¬ kK (tstr B n lm) i = 40 by omega)]
      show pbind (pbind (pVal (tstr B n lm) i) _) _ = _
      unfold pVal
      rw [if_neg (by omega), if_neg (by omega), if_pos ⟨c1, d3⟩]
      rfl
  · rw [if_neg c1]
    have e0 := l_lit_e (f := f) hS hA
    rw [if_neg c8, if_neg c9, if_neg c1] at e0
    have h1 := l_ex (f := f) hf hcb (show 4 * (n + 1 - i) + 2 ≤ F by omega) hX0 hA (by show c + 0 ≤ cb + i; omega)
    exact l_lit_c (fn := g243 f) hf hcb (show 4 * (n + 1 - i) + 2 ≤ F by omega) hS h8 (Nat.le_refl _) f0 (xup2_s _ _ _ _) (Nat.le_refl _) (by decide) h1 (by show c + 0 ≤ cb + i; omega) e0 rfl
end
