/-! CELL TEXTS -/
/-- a CELL, its FORMULA's nodes and root; -1 if the cell becomes empty -/
def qCt (t : List Int) : Nat ⊕ (Int × List pNd × Int) :=
  pbind (pCell (tstr (tBt t) t.length true) 0) fun c => pbind (pNeed (tstr (tBt t) t.length true) 61 c.2) fun i =>
  if kK (tstr (tBt t) t.length true) i = 0 then .inr (c.1, [], -1) else
  pbind (pF (tstr (tBt t) t.length true) 255 1 0 ([], 0, i)) fun e => if kK (tstr (tBt t) t.length true) e.2.2 = 0 then .inr (c.1, e.1, e.2.1) else .inl (kS (tstr (tBt t) t.length true) e.2.2)
def xfK (G G' : xG_) : Prop := ∀ a j, ¬ (a = 0 ∧ (j ≤ 11 ∨ j = 21 ∨ j = 25 ∨ j = 89 ∨ j = 90)) → ¬ (258 ≤ a ∧ a ≤ 262) → G' a j = G a j
theorem xlx_up8 (G : xG_) (L : Nat → Int) (v : Int) : xup2 (xlx G L) 0 8 v = xlx G (xu L 8 v) := by
  funext a j
  unfold xlx xu xup2
  grind
theorem kK_lm {B : Nat → Int} {n i : Nat} (hi : i < 62) : kK (tstr B n true) i = kK (tstr B n false) i := by
  have e1 : kK (tstr B n true) i = if 0 ≤ B (tS B n i) ∧ true = true ∧ 62 ≤ i then 5 else tkd B n (tS B n i) := rfl
  have e2 : kK (tstr B n false) i = if 0 ≤ B (tS B n i) ∧ false = true ∧ 62 ≤ i then 5 else tkd B n (tS B n i) := rfl
  rw [e1, e2, if_neg (by omega), if_neg (by omega)]
theorem rAt.lm {q n i : Nat} {B : Nat → Int} {L : Nat → Int} (h : rAt q B n false i L) (hi : i = 1) : rAt q B n true i (xu L 8 0) := by
  obtain ⟨a1, a2, a3, a4, a5, a6⟩ := h
  refine ⟨a1, ?_, a3, ?_, ?_, fun _ => ?_⟩
  · have nb1 : ¬ (0 ≤ B (tS B n i) ∧ false = true ∧ 62 ≤ i) := fun h => (by cases h.2.1)
    have nb2 : ¬ (0 ≤ B (tS B n i) ∧ true = true ∧ 62 ≤ i) := fun h => (by omega)
    unfold rTk at a2 ⊢
    simp only [if_neg nb1] at a2
    obtain ⟨x1, x2, x3, x4, x5, x6, x7⟩ := a2
    exact ⟨x1, by rw [if_neg nb2]; exact x2, by rw [if_neg nb2]; exact x3, by rw [if_neg nb2]; exact x4, fun _ => x5 nb1, fun _ => x6 nb1, fun _ => x7 nb1⟩
  · show (0 : Int) ≤ 0; decide
  · show (0 : Int) ≤ (i : Int) + 1; omega
  · show (0 : Int) = (i : Int) - 1; omega
section
variable {f b q : Nat} {G : xG_} {t : List Int}
theorem l_333 (hf : 3100 < f) (hn : t.length ≤ 3000) (hC : rC G) (h : rTe G b q t) :
    pok (qCt t) (fun w => ∃ v G', g333 f b q ((q : Int) + t.length) G = some (v, G') ∧ G' 0 7 = (q : Int) + w ∧ xfK G G')
      (fun r => ∃ G', g333 f b q ((q : Int) + t.length) G = some (r.2.2, G') ∧ G' 0 7 = -1 ∧ G' 0 90 = r.1 ∧ 0 ≤ r.1 ∧ r.1 < 72 ∧ rNd G' r.2.1 ∧ wFm r.2.1 ∧ (r.2.2 = -1 ∧ r.2.1 = [] ∨ 0 ≤ r.2.2 ∧ r.2.2 < r.2.1.length) ∧ r.2.1.length ≤ 62 ∧ xfK G G') := by
  obtain ⟨L1, b1, b2⟩ := l_begin (f := f) (by omega) h.1
  rw [h.by] at b2
  have hb := h.1.1
  have mkT : ∀ G' : xG_, G' 0 0 = (b : Int) → G' 0 1 = (q : Int) + t.length → (∀ j, G' b j = G b j) → rTx G' q (tBt t) t.length := fun G' h0 h1 h2 => by
    have := rTx_of h.1 h0 h1 h2
    rw [h.by] at this
    exact this
  let G2 := xup2 (xup2 (xup2 (xup2 (xup2 G 0 0 (b : Int)) 0 1 ((q : Int) + t.length)) 0 11 0) 0 89 0) 0 25 0
  have z2 : ∀ a j, ¬ (a = 0 ∧ (j = 0 ∨ j = 1 ∨ j = 11 ∨ j = 89 ∨ j = 25)) → G2 a j = G a j := fun a j y => by
    show xup2 _ _ _ _ _ _ = _
    rw [xup2_n (by omega), xup2_n (by omega), xup2_n (by omega), xup2_n (by omega), xup2_n (by omega)]
  have z20 : G2 0 0 = (b : Int) := by
    show xup2 _ _ _ _ _ _ = _
    rw [xup2_n (by omega), xup2_n (by omega), xup2_n (by omega), xup2_n (by omega), xup2_s]
  have z21 : G2 0 1 = (q : Int) + t.length := by
    show xup2 _ _ _ _ _ _ = _
    rw [xup2_n (by omega), xup2_n (by omega), xup2_n (by omega), xup2_s]
  have z2b : G2 0 11 = 0 := by
    show xup2 _ _ _ _ _ _ = _
    rw [xup2_n (by omega), xup2_n (by omega), xup2_s]
  have z89 : G2 0 89 = 0 := by
    show xup2 _ _ _ _ _ _ = _
    rw [xup2_n (by omega), xup2_s]
  have z25 : G2 0 25 = 0 := xup2_s _ _ _ _
  have rCz : ∀ G' : xG_, (∀ j, 12 ≤ j → j ≤ 20 → G' 0 j = G 0 j) → rC G' := fun G' hz => by
    obtain ⟨k1, k2, k3, k4, k5, k6, k7, k8, k9⟩ := hC
    exact ⟨by rw [hz _ (by decide) (by decide)]; exact k1, by rw [hz _ (by decide) (by decide)]; exact k2, by rw [hz _ (by decide) (by decide)]; exact k3, by rw [hz _ (by decide) (by decide)]; exact k4, by rw [hz _ (by decide) (by decide)]; exact k5, by rw [hz _ (by decide) (by decide)]; exact k6, by rw [hz _ (by decide) (by decide)]; exact k7, by rw [hz _ (by decide) (by decide)]; exact k8, by rw [hz _ (by decide) (by decide)]; exact k9⟩
  have hE2 : rEw G2 q (tBt t) t.length false := ⟨mkT G2 z20 z21 (fun j => z2 _ _ (by omega)), z2b, rCz G2 (fun j _ _ => z2 _ _ (by omega))⟩
  have hB := hE2.1.2.1
  -- what is read, over all
  have e0 : g333 f b q ((q : Int) + t.length) G = (g332 f (xlx G2 L1)).bind fun R131 => ((some (xup2 R131.2 0 90 R131.1)).bind fun G139 => ((some (xup2 G139 0 11 1)).bind fun G143 => ((some (xup2 G143 0 8 0)).bind fun G147 => ((g222 f 61 G147).bind fun R148 => ((g211 f R148).bind fun R153 => (if ¬ (R153.1) = 0 then g333_57 f R153.2 else (if ¬ (R153.2 0 2) = 0 then g333_57 f R153.2 else (some (-1, R153.2))))))))) := by
    unfold g333
    rw [b1, Option.bind_some, xlx_upo _ _ _ (by omega), Option.bind_some, xlx_upo _ _ _ (by omega), Option.bind_some]
  have st : ∀ (c : Int) (L : Nat → Int), ((some (xup2 (xlx G2 L) 0 90 c)).bind fun G139 => ((some (xup2 G139 0 11 1)).bind fun G143 => ((some (xup2 G143 0 8 0)).bind fun G147 => ((g222 f 61 G147).bind fun R148 => ((g211 f R148).bind fun R153 => (if ¬ (R153.1) = 0 then g333_57 f R153.2 else (if ¬ (R153.2 0 2) = 0 then g333_57 f R153.2 else (some (-1, R153.2))))))))) = ((g222 f 61 (xlx (xup2 (xup2 G2 0 90 c) 0 11 1) (xu L 8 0))).bind fun R148 => ((g211 f R148).bind fun R153 => (if ¬ (R153.1) = 0 then g333_57 f R153.2 else (if ¬ (R153.2 0 2) = 0 then g333_57 f R153.2 else (some (-1, R153.2)))))) := fun c L => by
    rw [xlx_upo _ _ _ (by omega), Option.bind_some, xlx_upo _ _ _ (by omega), Option.bind_some, xlx_up8, Option.bind_some]
  -- while WRONG
  have i1 : ¬ (1 : Int) = 0 := by decide
  have bad : ∀ (G' : xG_) (L : Nat → Int), L 7 ≠ -1 → ((g211 f (xlx G' L)).bind fun R153 => (if ¬ (R153.1) = 0 then g333_57 f R153.2 else (if ¬ (R153.2 0 2) = 0 then g333_57 f R153.2 else (some (-1, R153.2))))) = some (0, xlx G' L) := fun G' L hbad => by
    rw [l_bad, if_neg hbad, Option.bind_some]
    simp only [if_pos i1]
    unfold g333_57 g333_85
    have hb8 : g334 f (xlx G' L) = some (0, xlx G' L) := l_form_bad (f := f) (e := g334r f 7) (by omega) G' L hbad
    rw [hb8, Option.bind_some]
    show Option.bind (g211 f (xlx G' L)) _ = _
    rw [l_bad, if_neg hbad, Option.bind_some]
    simp only [if_pos i1]
  have fK : ∀ (G' : xG_) (L : Nat → Int) (c : Int), xff (xup2 (xup2 G2 0 90 c) 0 11 1) G' → xfK G (xlx G' L) := fun G' L c hx a j y1 y2 => by
    rw [xlx_o _ _ (by omega), hx _ _ (by omega) y2, xup2_n (by omega), xup2_n (by omega), z2 _ _ (by omega)]
  have h1 := l_cell (f := f) (by omega) hE2 b2
  have hpc : pCell (tstr (tBt t) t.length true) 0 = pCell (tstr (tBt t) t.length false) 0 := by
    unfold pCell
    rw [kK_lm (by decide)]
    rfl
  unfold qCt
  rw [hpc]
  cases hp : pCell (tstr (tBt t) t.length false) 0 with
  | inl w =>
    rw [hp] at h1
    have hbad : xu (xu L1 7 ((q : Int) + w)) 8 0 7 ≠ -1 := by show (q : Int) + w ≠ -1; omega
    refine ⟨0, xlx (xup2 (xup2 G2 0 90 0) 0 11 1) (xu (xu L1 7 ((q : Int) + w)) 8 0), ?_, rfl, fK _ _ 0 (.rf _)⟩
    rw [e0, h1.1, Option.bind_some]
    refine (st 0 _).trans ?_
    rw [l_need_bad hbad, Option.bind_some]
    exact bad _ _ hbad
  | inr c =>
    rw [hp] at h1
    obtain ⟨L2, u1, u2, u3, u4, u5⟩ := h1
    let G3 := xup2 (xup2 G2 0 90 c.1) 0 11 1
    have z3 : ∀ a j, ¬ (a = 0 ∧ (j = 90 ∨ j = 11)) → G3 a j = G2 a j := fun a j y => by
      show xup2 _ _ _ _ _ _ = _
      rw [xup2_n (by omega), xup2_n (by omega)]
    have hE3 : rEw G3 q (tBt t) t.length true := ⟨mkT G3 (by rw [z3 _ _ (by omega)]; exact z20) (by rw [z3 _ _ (by omega)]; exact z21) (fun j => by rw [z3 _ _ (by omega)]; exact z2 _ _ (by omega)), by rw [if_pos rfl]; exact xup2_s _ _ _ _, rCz G3 (fun j _ _ => by rw [z3 _ _ (by omega)]; exact z2 _ _ (by omega))⟩
    have hX3 : rYX G3 q (tBt t) t.length [] 0 := ⟨hE3, ⟨by rw [z3 _ _ (by omega)]; exact z89, fun j hj => absurd hj (Nat.not_lt_zero j)⟩, by rw [z3 _ _ (by omega)]; exact z25, Nat.zero_le _⟩
    have hA3 : rAt q (tBt t) t.length true c.2 (xu L2 8 0) := u2.lm (by omega)
    have z90 : G3 0 90 = c.1 := by
      show xup2 _ _ _ _ _ _ = _
      rw [xup2_n (by omega), xup2_s]
    have e1 : g333 f b q ((q : Int) + t.length) G = ((g222 f 61 (xlx G3 (xu L2 8 0))).bind fun R148 => ((g211 f R148).bind fun R153 => (if ¬ (R153.1) = 0 then g333_57 f R153.2 else (if ¬ (R153.2 0 2) = 0 then g333_57 f R153.2 else (some (-1, R153.2)))))) := by
      rw [e0, u1, Option.bind_some]
      exact st c.1 L2
    have h61 : isSg 61 := by unfold isSg; omega
    show pok (pbind (pNeed (tstr (tBt t) t.length true) 61 c.2) _) _ _
    unfold pNeed
    by_cases c1 : kK (tstr (tBt t) t.length true) c.2 = 61
    · obtain ⟨L4, s1, s2⟩ := l_need' (f := f) (by omega) hE3 hA3 h61 c1
      have s1' : g222 f 61 (xlx G3 (xu L2 8 0)) = _ := s1
      have tk4 := s2.tk hB
      have k0 : L4 2 = 0 ↔ kK (tstr (tBt t) t.length true) (c.2 + 1) = 0 := tk4.2.2.2.2.2.2.1
      have i0 : ¬ ¬ ((0 : Int) = 0) := fun q => q rfl
      rw [if_pos c1]
      show pok (if kK (tstr (tBt t) t.length true) (c.2 + 1) = 0 then _ else _) _ _
      have e2 : g333 f b q ((q : Int) + t.length) G = (if ¬ (L4 2) = 0 then g333_57 f (xlx G3 L4) else (some (-1, xlx G3 L4))) := by
        rw [e1, s1', Option.bind_some, l_bad, if_pos s2.1, Option.bind_some]
        simp only [xlx_2]
        rw [if_neg (fun q => q trivial)]
        rfl
      by_cases c2 : kK (tstr (tBt t) t.length true) (c.2 + 1) = 0
      · rw [if_pos c2]
        refine ⟨xlx G3 L4, ?_, s2.1, by rw [xlx_o _ _ (by omega)]; exact z90, u3, u4, ⟨by rw [xlx_o _ _ (by omega)]; exact hX3.2.1.1, fun j hj => absurd hj (Nat.not_lt_zero j)⟩, fun j hj => absurd hj (Nat.not_lt_zero j), .inl ⟨rfl, rfl⟩, Nat.zero_le _, fK _ _ c.1 (.rf _)⟩
        rw [e2, if_neg (fun q => q (k0.mpr c2))]
      · rw [if_neg c2]
        rw [if_pos (fun q => c2 (k0.mp q))] at e2
        have wnil : wFm [] := fun j hj => absurd hj (Nat.not_lt_zero j)
        have h2 := l_form (f := f) (q := q) (B := tBt t) (n := t.length) (by omega) 7 0 (Nat.zero_le _) (by decide) 255 G3 L4 [] (c.2 + 1) (by rw [if_pos rfl]; omega) hX3 s2 (by omega) (Nat.zero_le _) wnil
        have h2' : pok (pF (tstr (tBt t) t.length true) 255 1 0 ([], 0, c.2 + 1)) (rYW q (c.2 + 1) [] G3 (g334 f (xlx G3 L4))) (rYS q (tBt t) t.length 0 G3 (g334 f (xlx G3 L4))) := h2
        show pok (pbind (pF (tstr (tBt t) t.length true) 255 1 0 ([], 0, c.2 + 1)) _) _ _
        cases hp2 : pF (tstr (tBt t) t.length true) 255 1 0 ([], 0, c.2 + 1) with
        | inl w =>
          rw [hp2] at h2'
          obtain ⟨v, G5, L5, a1, a2, a3, a4⟩ := h2'
          have hbad : L5 7 ≠ -1 := by omega
          refine ⟨v, xlx G5 L5, ?_, a2, fK _ _ c.1 a3⟩
          rw [e2]
          unfold g333_57 g333_85
          rw [a1, Option.bind_some]
          show Option.bind (g211 f (xlx G5 L5)) _ = _
          rw [l_bad, if_neg hbad, Option.bind_some]
          simp only [if_pos i1]
        | inr y =>
          rw [hp2] at h2'
          obtain ⟨G5, L5, a1, a2, a3, a4, a5⟩ := h2'
          obtain ⟨p1, p2, p3, p4, p5, p6, p7⟩ := pF_le (tstr_ck hB) 255 1 0 _ y (by decide) hp2 wnil (fun q => absurd q (by decide))
          simp only [List.length_nil] at p1 p2 p3 p4
          have tk5 := a2.tk hB
          have k5 : L5 2 = 0 ↔ kK (tstr (tBt t) t.length true) y.2.2 = 0 := tk5.2.2.2.2.2.2.1
          have e3 : g333 f b q ((q : Int) + t.length) G = (if L5 2 = 0 then some (y.2.1, xlx G5 L5) else ((g210 f (L5 4) (xlx G5 L5)).bind fun R113 => some (y.2.1, R113))) := by
            rw [e2]
            unfold g333_57 g333_85
            rw [a1, Option.bind_some]
            show Option.bind (g211 f (xlx G5 L5)) _ = _
            rw [l_bad, if_pos a2.1, Option.bind_some]
            simp only [xlx_2, xlx_4]
            rw [if_neg (fun q => q trivial)]
            rfl
          show pok (if kK (tstr (tBt t) t.length true) y.2.2 = 0 then _ else _) _ _
          by_cases c3 : kK (tstr (tBt t) t.length true) y.2.2 = 0
          · rw [if_pos c3]
            refine ⟨xlx G5 L5, ?_, a2.1, ?_, u3, u4, ?_, p5, .inr ⟨p6, p7⟩, by show y.1.length ≤ 62; omega, fK _ _ c.1 a3⟩
            · rw [e3, if_pos (k5.mpr c3)]
            · rw [xlx_o _ _ (by omega), a3 _ _ (by omega) (by omega)]
              exact z90
            · exact a4.2.1.ge (xlx_o _ _ (by omega)) (fun a j _ _ => xlx_o _ _ (by omega))
          · rw [if_neg c3]
            refine ⟨y.2.1, xlx G5 (xu L5 7 (L5 4)), ?_, ?_, fK _ _ c.1 a3⟩
            · rw [e3, if_neg (fun q => c3 (k5.mp q)), l_fail, if_pos a2.1]
              rfl
            · show L5 4 = _
              exact tk5.1
    · rw [if_neg c1]
      have s1 := l_need_no' (f := f) hE3 hA3 h61 c1
      have s1' : g222 f 61 (xlx G3 (xu L2 8 0)) = _ := s1
      have hbad : xu (xu L2 8 0) 7 ((q : Int) + kS (tstr (tBt t) t.length true) c.2) 7 ≠ -1 := by show (q : Int) + kS (tstr (tBt t) t.length true) c.2 ≠ -1; omega
      refine ⟨0, xlx G3 (xu (xu L2 8 0) 7 ((q : Int) + kS (tstr (tBt t) t.length true) c.2)), ?_, rfl, fK _ _ c.1 (.rf _)⟩
      rw [e1, s1', Option.bind_some]
      exact bad _ _ hbad
end
