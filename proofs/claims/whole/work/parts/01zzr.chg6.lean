/-! CHANGES as the reference reads them: all of a text -/
def pCs (t : tStr) : Nat → List pCh → Nat → Nat ⊕ List pCh
  | 0, _, _ => .inl 0
  | k + 1, cs, i => if kK t i = 0 then .inr cs else if kK t i ≠ 43 ∧ kK t i ≠ 45 then .inl (kS t i) else
    pbind (pC1 t (i + 1)) fun r => pCs t k (cs ++ [(kK t i, r.1, kS t (i + 1), r.2.1)]) r.2.2
def qCq (s : pPg) (c : pCh) : Int := qCf s (pIdx s.1 c.2.1) (c.2.2.2.length : Int)
def qCk1 (s : pPg) (q : Nat) (a : Int × Int) (c : pCh) : Int × Int := (if a.1 = 0 then qCq s c else a.1, if a.1 = 0 ∧ qCq s c ≠ 0 then (q : Int) + c.2.2.1 else a.2)
/-- the first CHANGE with a FAULT: kind and place -/
def qCk (s : pPg) (q : Nat) (cs : List pCh) : Int × Int := cs.foldl (qCk1 s q) (0, -1)
theorem qCk_s (s : pPg) (q : Nat) (cs : List pCh) (c : pCh) : qCk s q (cs ++ [c]) = qCk1 s q (qCk s q cs) c := by
  unfold qCk
  rw [List.foldl_append]
  rfl
theorem getD_app {α : Type} {l : List α} {d : α} {k : Nat} (l' : List α) (h : k < l.length) : (l ++ l').getD k d = l.getD k d := by
  rw [List.getD_eq_getElem?_getD, List.getElem?_append_left h, ← List.getD_eq_getElem?_getD]
abbrev dCh : pCh := (0, 0, 0, [])
def rCl (G : xG_) (cs : List pCh) : Prop := ∀ k, k < cs.length → G 271 k = (if (cs.getD k dCh).1 = 43 then 1 else -1) ∧ G 273 k = (cs.getD k dCh).2.1 ∧ G 272 k = ((cs.getD k dCh).2.2.2.length : Int) ∧ (cs.getD k dCh).2.2.2.length ≤ 4 ∧ ∀ j, j < (cs.getD k dCh).2.2.2.length → G 274 (4 * k + j) = (cs.getD k dCh).2.2.2.getD j 0
def xfj (G G' : xG_) : Prop := ∀ a j, ¬ (a = 0 ∧ j = 21) → ¬ (271 ≤ a ∧ a ≤ 274) → G' a j = G a j
theorem pVals_le {t : tStr} : ∀ (m : Nat) (vs : List Int) (i : Nat) (r : List Int × Nat), pVals t m vs i = .inr r → i ≤ r.2
  | 0, vs, i, r, h => by
    unfold pVals at h
    injection h with h
    rw [← h]
    exact Nat.le_refl _
  | m + 1, vs, i, r, h => by
    unfold pVals at h
    by_cases c : kK t i = 44
    · rw [if_pos c] at h
      obtain ⟨v, h1, h2⟩ := pbind_inr h
      have := (pVal_le h1).1
      have := pVals_le m _ _ _ h2
      omega
    · rw [if_neg c] at h
      injection h with h
      rw [← h]
      exact Nat.le_refl _
theorem pC1_le {t : tStr} {i : Nat} {r : Int × List Int × Nat} (h : pC1 t i = .inr r) : i + 5 ≤ r.2.2 := by
  unfold pC1 at h
  obtain ⟨y, h1, h⟩ := pbind_inr h
  obtain ⟨j, h2, h⟩ := pbind_inr h
  obtain ⟨z, h3, h⟩ := pbind_inr h
  injection h with h
  have k1 := (pName_le h1).1
  have k2 := (pNeed_le h2).1
  unfold pCv at h3
  obtain ⟨v, h4, h3⟩ := pbind_inr h3
  obtain ⟨w, h5, h3⟩ := pbind_inr h3
  obtain ⟨u, h6, h3⟩ := pbind_inr h3
  obtain ⟨u1, h7, h6⟩ := pbind_inr h6
  injection h3 with h3
  have k3 := (pVal_le h4).1
  have k4 := pVals_le _ _ _ _ h5
  have k5 := (pNeed_le h7).1
  have k6 := (pNeed_le h6).1
  rw [← h]
  show i + 5 ≤ z.2
  rw [← h3]
  show i + 5 ≤ u
  omega
section
variable {f q n x i : Nat} {B : Nat → Int} {lm : Bool} {s : pPg}
theorem l_366_bad {G : xG_} {L : Nat → Int} {y : Int} (hC : rC G) (h : L 7 ≠ -1) : g366 f y (xlx G L) = some (xlx G L) := by
  have hn : ¬ (L 7 = -1 ∧ L 2 = 2 ∧ tres (L 9) = 1) := fun k => h k.1
  have h0 : ¬ ¬ ((0 : Int), xlx G L).1 = 0 := fun k => k rfl
  unfold g366
  rw [l_name hC, Option.bind_some, if_neg hn, if_neg h0, l_fail, if_neg h, Option.bind_some]
theorem l_c158_bad {G : xG_} {L : Nat → Int} {r98 : Nat → Int → Int → Int → xG_ → Option (Int × xG_)} {x2 : Nat} {x5 x6 y : Int} (hx : x < 600) (hC : rC G) (h : L 7 ≠ -1) :
    ∃ a b, g365_158 r98 f x2 (x : Int) x5 x6 y (x : Int) 271 (xlx G L) = r98 x2 ((x + 1 : Nat) : Int) a b (xlx (xup2 G 271 x y) L) := by
  have e0 : xup2 (xlx G L) 271 x y = xlx (xup2 G 271 x y) L := by
    funext a j
    unfold xlx xup2
    grind
  have hC1 : rC (xup2 G 271 x y) := by
    obtain ⟨k1, k2, k3, k4, k5, k6, k7, k8, k9⟩ := hC
    unfold rC
    simp (disch := omega) only [xup2_n]
    exact ⟨k1, k2, k3, k4, k5, k6, k7, k8, k9⟩
  have hn1 : ¬ ((1 : Int), xlx (xup2 G 271 x y) L).1 = 0 := fun h => absurd (show (1 : Int) = 0 from h) (by decide)
  unfold g365_158
  rw [xl271, if_pos (by omega), Option.bind_some, Int.toNat_natCast, e0, l_pass_bad h, Option.bind_some, l_366_bad hC1 h, Option.bind_some, l_bad, if_neg h, Option.bind_some, if_neg hn1]
  unfold g365_200 g365_221
  rw [if_pos rfl, l_c250 hx]
  exact ⟨_, _, rfl⟩
theorem l_98_bad {G : xG_} {L : Nat → Int} {fu x2 : Nat} {x4 x5 x6 : Int} (h : L 7 ≠ -1) : g365_98 f (fu + 1) x2 x4 x5 x6 (xlx G L) = g365_276 f x2 x4 x5 x6 (xlx G L) := by
  have hn1 : ¬ ((1 : Int), xlx G L).1 = 0 := fun h => absurd (show (1 : Int) = 0 from h) (by decide)
  show g365_98b (g365_98 f fu) f x2 x4 x5 x6 (xlx G L) = _
  unfold g365_98b
  rw [l_bad, if_neg h, Option.bind_some, if_pos hn1]
theorem xfj.rEv {G G' : xG_} {o : Nat} (hf : xfj G G') (h : rEv G q B n lm o) : rEv G' q B n lm o := by
  obtain ⟨⟨⟨a1, a2, a3⟩, a4, a5, a6, a7⟩, b1, b2, b3, b4⟩ := h
  have e0 : G' 0 0 = G 0 0 := hf _ _ (by omega) (by omega)
  have e1 : G' 0 1 = G 0 1 := hf _ _ (by omega) (by omega)
  have eb : ∀ j, G' (G 0 0).toNat j = G (G 0 0).toNat j := fun j => hf _ _ (by omega) (by omega)
  refine ⟨⟨⟨by rw [e0]; exact a1, by rw [e1]; exact a2, by rw [e0, e1]; exact a3⟩, a4, by rw [e1]; exact a5, fun p => ?_, fun p hp => ?_⟩, by rw [hf _ _ (by omega) (by omega)]; exact b1, ?_, by rw [hf _ _ (by omega) (by omega)]; exact b3, b4⟩
  · have := a6 p
    unfold gB at this ⊢
    rw [e0, e1, eb]
    exact this
  · rw [e0, eb]
    exact a7 p hp
  · obtain ⟨k1, k2, k3, k4, k5, k6, k7, k8, k9⟩ := b2
    unfold rC
    simp (disch := omega) only [hf _ _]
    exact ⟨k1, k2, k3, k4, k5, k6, k7, k8, k9⟩
theorem l_98 {x2 : Nat} (hf : n + 20 < f) (hn : n ≤ 3000) : ∀ (k fu i : Nat) (cs : List pCh) (G : xG_) (L : Nat → Int), n < k + i → n + 3 < fu + i → 6 * cs.length ≤ i → rEv G q B n lm 72 → rAt q B n lm i L → rNs G 72 s.1 → rFlg G 72 s → rPn G 72 s → rCl G cs →
    pok (pCs (tstr B n lm) k cs i) (fun w => ∃ G' L' x4 x5 x6, g365_98 f fu x2 (cs.length : Int) (qCk s q cs).1 (qCk s q cs).2 (xlx G L) = g365_276 f x2 x4 x5 x6 (xlx G' L') ∧ L' 7 = (q : Int) + w ∧ xfj G G')
      (fun cs' => ∃ G' L', g365_98 f fu x2 (cs.length : Int) (qCk s q cs).1 (qCk s q cs).2 (xlx G L) = g365_276 f x2 (cs'.length : Int) (qCk s q cs').1 (qCk s q cs').2 (xlx G' L') ∧ L' 7 = -1 ∧ rCl G' cs' ∧ 6 * cs'.length ≤ n ∧ xfj G G') := by
  intro k
  induction k with
  | zero =>
    intro fu i cs G L h1 h2 h3 hE hA
    have := (tS_le hE.1.2.1 i).1
    have := hA.2.2.1
    omega
  | succ k ih =>
    intro fu i cs G L h1 h2 h3 hE hA hN hfl hp hcl
    have htk := hA.tk hE.1.2.1
    have h7 : L 7 = -1 := hA.1
    have hin : i ≤ n := by
      have := (tS_le hE.1.2.1 i).1
      have := hA.2.2.1
      omega
    obtain ⟨fu, rfl⟩ : ∃ t, fu = t + 2 := ⟨fu - 2, by omega⟩
    have h0 : ¬ ¬ ((0 : Int), xlx G L).1 = 0 := fun k => k rfl
    have e2 : xlx G L 0 2 = L 2 := xlx_2 G L
    have es : g365_98 f (fu + 2) x2 (cs.length : Int) (qCk s q cs).1 (qCk s q cs).2 (xlx G L) = if L 2 = 0 then g365_276 f x2 (cs.length : Int) (qCk s q cs).1 (qCk s q cs).2 (xlx G L) else ((g220 f 43 (xlx G L)).bind fun R171 => (if ¬ (R171.1) = 0 then g365_138 (g365_98 f (fu + 1)) f x2 (cs.length : Int) (qCk s q cs).1 (qCk s q cs).2 R171.2 else ((g220 f 45 R171.2).bind fun R177 => (if ¬ (R177.1) = 0 then g365_138 (g365_98 f (fu + 1)) f x2 (cs.length : Int) (qCk s q cs).1 (qCk s q cs).2 R177.2 else ((g210 f (R177.2 0 4) R177.2).bind fun R183 => g365_138 (g365_98 f (fu + 1)) f x2 (cs.length : Int) (qCk s q cs).1 (qCk s q cs).2 R183))))) := by
      show g365_98b (g365_98 f (fu + 1)) f x2 (cs.length : Int) (qCk s q cs).1 (qCk s q cs).2 (xlx G L) = _
      unfold g365_98b
      rw [l_bad, if_pos h7, Option.bind_some, if_neg h0]
      show (if xlx G L 0 2 = 0 then _ else _) = _
      rw [e2]
    unfold pCs
    by_cases c0 : kK (tstr B n lm) i = 0
    · have l2 : L 2 = 0 := htk.2.2.2.2.2.2.1.mpr c0
      rw [if_pos c0]
      exact ⟨G, L, by rw [es, if_pos l2], h7, hcl, by omega, fun _ _ _ _ => rfl⟩
    have l2 : L 2 ≠ 0 := fun h => c0 (htk.2.2.2.2.2.2.1.mp h)
    rw [if_neg c0]
    rw [if_neg l2] at es
    have t43 := htk.2.1 43 (by unfold isSg; omega)
    have t45 := htk.2.1 45 (by unfold isSg; omega)
    have r43 : rsc 43 = 43 := rfl
    have r45 : rsc 45 = 45 := rfl
    rw [r43] at t43
    rw [r45] at t45
    have w43 : ∀ {Z : xG_} {M : Nat → Int}, ¬ ¬ ((0 : Int), xlx Z M).1 = 0 := fun k => k rfl
    have w1 : ∀ {Z : xG_} {M : Nat → Int}, ¬ ((1 : Int), xlx Z M).1 = 0 := fun h => absurd (show (1 : Int) = 0 from h) (by decide)
    by_cases c1 : kK (tstr B n lm) i = 43 ∨ kK (tstr B n lm) i = 45
    · rw [if_neg (fun h => c1.elim h.1 h.2)]
      have e138 : g365_98 f (fu + 2) x2 (cs.length : Int) (qCk s q cs).1 (qCk s q cs).2 (xlx G L) = g365_158 (g365_98 f (fu + 1)) f x2 (cs.length : Int) (qCk s q cs).1 (qCk s q cs).2 (if kK (tstr B n lm) i = 43 then 1 else -1) (cs.length : Int) 271 (xlx G L) := by
        rw [es]
        by_cases c2 : kK (tstr B n lm) i = 43
        · have cc : L 7 = -1 ∧ L 2 = 6 ∧ L 3 = 43 := And.intro h7 (t43.mpr c2)
          rw [l_sign, if_pos cc, Option.bind_some, if_pos w1]
          unfold g365_138
          rw [l_sign, if_pos cc, Option.bind_some, if_neg w1, if_pos c2]
        · have c3 : kK (tstr B n lm) i = 45 := c1.resolve_left c2
          have cc : L 7 = -1 ∧ L 2 = 6 ∧ L 3 = 45 := And.intro h7 (t45.mpr c3)
          have cn : ¬ (L 7 = -1 ∧ L 2 = 6 ∧ L 3 = 43) := fun h => c2 (t43.mp h.2)
          rw [l_sign, if_neg cn, Option.bind_some, if_neg w43, l_sign, if_pos cc, Option.bind_some, if_pos w1]
          unfold g365_138
          rw [l_sign, if_neg cn, Option.bind_some, if_pos rfl, if_neg c2]
      have hh := l_c158 (r98 := g365_98 f (fu + 1)) (x2 := x2) (x5 := (qCk s q cs).1) (x6 := (qCk s q cs).2) (y := if kK (tstr B n lm) i = 43 then 1 else -1) hf (by omega : cs.length < 600) hE hA c1 hN hfl hp
      rw [← e138] at hh
      have fj : ∀ {G' : xG_}, xfh cs.length G G' → xfj G G' := fun hg a j y1 y2 => hg a j y1 (by omega) (by omega)
      cases hq : pC1 (tstr B n lm) (i + 1) with
      | inl w =>
        rw [hq] at hh
        obtain ⟨G', L', a, b, k1, k2, k3⟩ := hh
        show pok (.inl w) _ _
        exact ⟨G', L', _, _, _, by rw [k1, l_98_bad (by omega)], k2, fj k3⟩
      | inr r =>
        rw [hq] at hh
        obtain ⟨G', L', k1, k2, k3, k4, k5, k6, k7, k8⟩ := hh
        show pok (pCs (tstr B n lm) k (cs ++ [(kK (tstr B n lm) i, r.1, kS (tstr B n lm) (i + 1), r.2.1)]) r.2.2) _ _
        have hle := pC1_le hq
        have hl : (cs ++ [(kK (tstr B n lm) i, r.1, kS (tstr B n lm) (i + 1), r.2.1)]).length = cs.length + 1 := by simp
        have fa : ∀ a j, 72 ≤ a → a ≤ 100 → G' a j = G a j := fun a j _ _ => k3 a j (by omega) (by omega) (by omega)
        have hN' : rNs G' 72 s.1 := ⟨by rw [fa _ _ (by omega) (by omega)]; exact hN.1, hN.2.1, fun k hk => by rw [fa _ _ (by omega) (by omega)]; exact hN.2.2 k hk⟩
        have hfl' : rFlg G' 72 s := fun p hp => by
          rw [fa _ _ (by omega) (by omega), fa _ _ (by omega) (by omega), fa _ _ (by omega) (by omega), fa _ _ (by omega) (by omega)]; exact hfl p hp
        have hp' : rPn G' 72 s := fun p hp1 => by rw [fa _ _ (by omega) (by omega)]; exact hp p hp1
        have hcl' : rCl G' (cs ++ [(kK (tstr B n lm) i, r.1, kS (tstr B n lm) (i + 1), r.2.1)]) := by
          intro m hm
          by_cases cm : m < cs.length
          · have e : (cs ++ [(kK (tstr B n lm) i, r.1, kS (tstr B n lm) (i + 1), r.2.1)]).getD m dCh = cs.getD m dCh := getD_app _ cm
            rw [e]
            obtain ⟨b1, b2, b3, b4, b5⟩ := hcl m cm
            refine ⟨by rw [k3 _ _ (by omega) (by omega) (by omega)]; exact b1, by rw [k3 _ _ (by omega) (by omega) (by omega)]; exact b2, by rw [k3 _ _ (by omega) (by omega) (by omega)]; exact b3, b4, fun j hj => ?_⟩
            rw [k3 _ _ (by omega) (by omega) (by omega)]
            exact b5 j hj
          · have em : m = cs.length := by omega
            have e : (cs ++ [(kK (tstr B n lm) i, r.1, kS (tstr B n lm) (i + 1), r.2.1)]).getD m dCh = (kK (tstr B n lm) i, r.1, kS (tstr B n lm) (i + 1), r.2.1) := by rw [em]; simp
            rw [e, em]
            exact ⟨k4, k5, k6, k7, k8⟩
        have h3 := ih (fu + 1) r.2.2 (cs ++ [(kK (tstr B n lm) i, r.1, kS (tstr B n lm) (i + 1), r.2.1)]) G' L' (by omega) (by omega) (by omega) ((fj k3).rEv hE) k2 hN' hfl' hp' hcl'
        rw [qCk_s, hl] at h3
        have e98 : g365_98 f (fu + 2) x2 (cs.length : Int) (qCk s q cs).1 (qCk s q cs).2 (xlx G L) = g365_98 f (fu + 1) x2 ((cs.length + 1 : Nat) : Int) (qCk1 s q (qCk s q cs) (kK (tstr B n lm) i, r.1, kS (tstr B n lm) (i + 1), r.2.1)).1 (qCk1 s q (qCk s q cs) (kK (tstr B n lm) i, r.1, kS (tstr B n lm) (i + 1), r.2.1)).2 (xlx G' L') := k1
        rw [e98]
        cases hc : pCs (tstr B n lm) k (cs ++ [(kK (tstr B n lm) i, r.1, kS (tstr B n lm) (i + 1), r.2.1)]) r.2.2 with
        | inl w =>
          rw [hc] at h3
          obtain ⟨G2, L2, u1, u2, u3, u4, u5, u6⟩ := h3
          exact ⟨G2, L2, u1, u2, u3, u4, u5, fun a j y1 y2 => (u6 a j y1 y2).trans (fj k3 a j y1 y2)⟩
        | inr cs' =>
          rw [hc] at h3
          obtain ⟨G2, L2, u1, u2, u3, u4, u6⟩ := h3
          exact ⟨G2, L2, u1, u2, u3, u4, fun a j y1 y2 => (u6 a j y1 y2).trans (fj k3 a j y1 y2)⟩
    · have cn : kK (tstr B n lm) i ≠ 43 ∧ kK (tstr B n lm) i ≠ 45 := And.intro (fun h => c1 (Or.inl h)) (fun h => c1 (Or.inr h))
      have n43 : ¬ (L 7 = -1 ∧ L 2 = 6 ∧ L 3 = 43) := fun h => cn.1 (t43.mp h.2)
      have n45 : ¬ (L 7 = -1 ∧ L 2 = 6 ∧ L 3 = 45) := fun h => cn.2 (t45.mp h.2)
      have e4 : xlx G L 0 4 = (q : Int) + kS (tstr B n lm) i := by rw [xlx_4]; exact htk.1
      rw [if_pos cn]
      show ∃ G' L' x4 x5 x6, _
      have hb : xu L 7 ((q : Int) + kS (tstr B n lm) i) 7 ≠ -1 := by
        show (q : Int) + kS (tstr B n lm) i ≠ -1
        omega
      have nb : ¬ (xu L 7 ((q : Int) + kS (tstr B n lm) i) 7 = -1 ∧ xu L 7 ((q : Int) + kS (tstr B n lm) i) 2 = 6 ∧ xu L 7 ((q : Int) + kS (tstr B n lm) i) 3 = 43) := fun h => hb h.1
      obtain ⟨a, b, e158⟩ := l_c158_bad (f := f) (r98 := g365_98 f (fu + 1)) (x2 := x2) (x5 := (qCk s q cs).1) (x6 := (qCk s q cs).2) (y := -1) (L := xu L 7 ((q : Int) + kS (tstr B n lm) i)) (by omega : cs.length < 600) hE.2.2.1 hb
      refine ⟨xup2 G 271 cs.length (-1), xu L 7 ((q : Int) + kS (tstr B n lm) i), ((cs.length + 1 : Nat) : Int), a, b, ?_, rfl, fun a j y1 y2 => xup2_n (by omega)⟩
      rw [es, l_sign, if_neg n43, Option.bind_some, if_neg w43, l_sign, if_neg n45, Option.bind_some, if_neg w43]
      show Option.bind (g210 f (xlx G L 0 4) (xlx G L)) _ = _
      rw [e4, l_fail, if_pos h7, Option.bind_some]
      unfold g365_138
      rw [l_sign, if_neg nb, Option.bind_some, if_pos rfl, e158, l_98_bad hb]
end
