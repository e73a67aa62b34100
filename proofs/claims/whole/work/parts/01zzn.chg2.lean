/-! CHANGES as the reference reads them: the VALUES of one, all -/
def pCv (t : tStr) (m : Nat) (vs : List Int) (i : Nat) : Nat ⊕ (List Int × Nat) := pbind (pVal t i) fun v => pbind (pVals t m (vs ++ [v.1]) v.2) fun r => pbind (pbind (pNeed t 41 r.2) fun j => pNeed t 46 j) fun j => .inr (r.1, j)
theorem pCv_0 {t : tStr} {m : Nat} {vs : List Int} {i : Nat} {v : Int × Nat} (h : pVal t i = .inr v) (h1 : m = 0 ∨ kK t v.2 ≠ 44) : pCv t m vs i = pbind (pbind (pNeed t 41 v.2) fun j => pNeed t 46 j) fun j => .inr (vs ++ [v.1], j) := by
  unfold pCv
  rw [h]
  show pbind (pVals t m (vs ++ [v.1]) v.2) _ = _
  cases m with
  | zero => rfl
  | succ m =>
    unfold pVals
    rw [if_neg (h1.elim (fun h => absurd h (by omega)) id)]
    rfl
theorem pCv_1 {t : tStr} {m : Nat} {vs : List Int} {i : Nat} {v : Int × Nat} (h : pVal t i = .inr v) (h1 : kK t v.2 = 44) : pCv t (m + 1) vs i = pCv t m (vs ++ [v.1]) (v.2 + 1) := by
  unfold pCv
  rw [h]
  show pbind (pVals t (m + 1) (vs ++ [v.1]) v.2) _ = _
  rw [pVals, if_pos h1]
  cases pVal t (v.2 + 1) <;> rfl
section
variable {f o q n x : Nat} {B : Nat → Int} {lm : Bool}
def rCv (q : Nat) (B : Nat → Int) (n : Nat) (lm : Bool) (x : Nat) (G : xG_) (e : Option xG_) (P : Nat ⊕ (List Int × Nat)) : Prop :=
  pok P (fun w => ∃ G' L', e = some (xlx G' L') ∧ L' 7 = (q : Int) + w ∧ xfc x G G') (fun r => ∃ G' L', e = some (xlx G' L') ∧ rAt q B n lm r.2 L' ∧ xfc x G G' ∧ G' 272 x = (r.1.length : Int) ∧ r.1.length ≤ 4 ∧ ∀ k, k < r.1.length → G' 274 (4 * x + k) = r.1.getD k 0)
theorem l_c40 (hf : n + 20 < f) (hx : x < 600) : ∀ (m fu i : Nat) (vs : List Int) (G : xG_) (L : Nat → Int), m + vs.length = 3 → m + 1 < fu → rEv G q B n lm o → rAt q B n lm i L → (∀ k, k < vs.length → G 274 (4 * x + k) = vs.getD k 0) → rCv q B n lm x G (g366_40 f fu (x : Int) (vs.length : Int) 1 (xlx G L)) (pCv (tstr B n lm) m vs i) := by
  intro m
  have step : ∀ (m fu i : Nat) (vs : List Int) (G : xG_) (L : Nat → Int), m + vs.length = 3 → 1 < fu → rEv G q B n lm o → rAt q B n lm i L → (∀ k, k < vs.length → G 274 (4 * x + k) = vs.getD k 0) →
      (∀ v L1, pVal (tstr B n lm) i = .inr v → kK (tstr B n lm) v.2 = 44 → m ≠ 0 → rAt q B n lm (v.2 + 1) L1 → rCv q B n lm x (xup2 (xup2 G 0 21 v.1) 274 (4 * x + vs.length) v.1) (g366_40 f (fu - 1) (x : Int) ((vs.length + 1 : Nat) : Int) 1 (xlx (xup2 (xup2 G 0 21 v.1) 274 (4 * x + vs.length) v.1) L1)) (pCv (tstr B n lm) m vs i)) →
      rCv q B n lm x G (g366_40 f fu (x : Int) (vs.length : Int) 1 (xlx G L)) (pCv (tstr B n lm) m vs i) := by
    intro m fu i vs G L hm hfu hE hA hv hrec
    obtain ⟨fu, rfl⟩ : ∃ t, fu = t + 2 := ⟨fu - 2, by omega⟩
    have hval := l_value hf hE hA
    have h7 : L 7 = -1 := hA.1
    have e106 : ∀ (G : xG_) (L : Nat → Int) (m : Int), g366_40 f (fu + 1) (x : Int) m 0 (xlx G L) = g366_106 f (x : Int) m (xlx G L) := fun G L m => by
      show g366_40b (g366_40 f fu) f (x : Int) m 0 (xlx G L) = _
      unfold g366_40b
      rw [if_pos rfl]
    show rCv q B n lm x G (g366_40b (g366_40 f (fu + 1)) f (x : Int) (vs.length : Int) 1 (xlx G L)) _
    unfold g366_40b g366_93 g366_94
    rw [if_neg (by decide), l_bad, if_pos h7, Option.bind_some]
    have hn0 : ¬ ¬ ((0 : Int), xlx G L).1 = 0 := fun h => h rfl
    rw [if_neg hn0]
    show rCv q B n lm x G (Option.bind (g227 f (xlx G L)) _) _
    cases hp : pVal (tstr B n lm) i with
    | inl w =>
      rw [hp] at hval
      obtain ⟨L', a1, a2⟩ := hval
      have hne : L' 7 ≠ -1 := by omega
      have e0 : xup2 (xlx G L') 272 x (vs.length : Int) = xlx (xup2 G 272 x (vs.length : Int)) L' := by
        funext a j
        unfold xlx xup2
        grind
      have e1 : pCv (tstr B n lm) m vs i = .inl w := by unfold pCv; rw [hp]; rfl
      rw [e1, a1, Option.bind_some, if_pos rfl]
      refine ⟨xup2 G 272 x (vs.length : Int), L', ?_, a2, fun a j _ h _ => xup2_n (by omega)⟩
      unfold g366_106
      rw [if_pos (by omega), Option.bind_some, Int.toNat_natCast, e0, l_need_bad hne, Option.bind_some, l_need_bad hne, Option.bind_some]
    | inr v =>
      rw [hp] at hval
      obtain ⟨L', a1, a2, a3, a4⟩ := hval
      have hx2 : xwr (xwr (4 * (x : Int)) + (vs.length : Int)) = ((4 * x + vs.length : Nat) : Int) := by rw [xwr_g (4 * (x : Int)) (by omega) (by omega), xwr_g _ (by omega) (by omega)]; omega
      have hx3 : xwr ((vs.length : Int) + 1) = ((vs.length + 1 : Nat) : Int) := by rw [xwr_g _ (by omega) (by omega)]; omega
      have e21 : xlx (xup2 G 0 21 v.1) L' 0 21 = v.1 := by
        rw [xlx_e, if_neg (by omega), xup2_s]
      have e0 : xup2 (xlx (xup2 G 0 21 v.1) L') 274 (4 * x + vs.length) v.1 = xlx (xup2 (xup2 G 0 21 v.1) 274 (4 * x + vs.length) v.1) L' := by
        funext a j
        unfold xlx xup2
        grind
      have hfc : xfc x G (xup2 (xup2 G 0 21 v.1) 274 (4 * x + vs.length) v.1) := fun a j y1 y2 y3 => by rw [xup2_n (by omega), xup2_n (by omega)]
      have hE1 := hE.fc hfc
      have hv1 : ∀ k, k < (vs ++ [v.1]).length → xup2 (xup2 G 0 21 v.1) 274 (4 * x + vs.length) v.1 274 (4 * x + k) = (vs ++ [v.1]).getD k 0 := by
        intro k hk
        rw [len1] at hk
        rw [getD_1]
        by_cases ck : k = vs.length
        · rw [if_pos ck, ck, xup2_s]
        · rw [if_neg ck, xup2_n (by omega), xup2_n (by omega)]
          exact hv k (by omega)
      rw [a1, Option.bind_some]
      have hn1 : ¬ ((1 : Int), xlx (xup2 G 0 21 v.1) L').1 = 0 := fun h => absurd (show (1 : Int) = 0 from h) (by decide)
      rw [if_neg hn1, hx2, if_pos (by omega), Option.bind_some, Int.toNat_natCast]
      show rCv q B n lm x G (Option.bind (g220 f 44 (xup2 (xlx (xup2 G 0 21 v.1) L') 274 (4 * x + vs.length) (xlx (xup2 G 0 21 v.1) L' 0 21))) _) _
      rw [e21, e0, l_sign, Option.bind_some, hx3]
      have htk := a2.tk hE.1.2.1
      have h44 := htk.2.1 44 (by unfold isSg; omega)
      have r44 : rsc 44 = 44 := by decide
      rw [r44] at h44
      have hend : (m = 0 ∨ kK (tstr B n lm) v.2 ≠ 44) → rCv q B n lm x G (g366_40 f (fu + 1) (x : Int) ((vs.length + 1 : Nat) : Int) 0 (xlx (xup2 (xup2 G 0 21 v.1) 274 (4 * x + vs.length) v.1) L')) (pCv (tstr B n lm) m vs i) := by
        intro hc
        rw [e106, pCv_0 hp hc]
        have hh := l_c106 hf hE1 a2 hx ((vs.length + 1 : Nat) : Int)
        cases hq : (pbind (pNeed (tstr B n lm) 41 v.2) fun j => pNeed (tstr B n lm) 46 j) with
        | inl w =>
          rw [hq] at hh
          obtain ⟨L2, b1, b2⟩ := hh
          exact ⟨_, L2, b1, b2, fun a j y1 y2 y3 => by rw [xup2_n (by omega)]; exact hfc a j y1 y2 y3⟩
        | inr j =>
          rw [hq] at hh
          obtain ⟨L2, b1, b2⟩ := hh
          refine ⟨_, L2, b1, b2, fun a j y1 y2 y3 => by rw [xup2_n (by omega)]; exact hfc a j y1 y2 y3, ?_, ?_, fun k hk => ?_⟩
          · show _ = (((vs ++ [v.1]).length : Nat) : Int)
            rw [xup2_s, len1]
          · show (vs ++ [v.1]).length ≤ 4
            rw [len1]; omega
          · rw [xup2_n (by omega)]; exact hv1 k hk
      by_cases c1 : kK (tstr B n lm) v.2 = 44
      · have h1 := h44.mpr c1
        have h3 : L' 7 = -1 ∧ L' 2 = 6 ∧ L' 3 = 44 := And.intro a2.1 h1
        rw [if_pos h3]
        show rCv q B n lm x G (if (1 : Int) = 0 then _ else _) _
        rw [if_neg (by decide)]
        by_cases c2 : m = 0
        · rw [if_pos (by omega), if_pos rfl]
          exact hend (Or.inl c2)
        · rw [if_neg (by omega), if_neg (by decide)]
          have h6 : L' 6 = -1 := by rw [htk.2.2.2.2.2.2.2.2.2.2.1, h1.1]; rfl
          obtain ⟨L2, b1, b2⟩ := l_pass hf hE1 a2 h6 (by omega) (by omega)
          show rCv q B n lm x G (Option.bind (g213 f (xlx (xup2 (xup2 G 0 21 v.1) 274 (4 * x + vs.length) v.1) L')) _) _
          rw [b1, Option.bind_some]
          have hr := hrec v L2 hp c1 c2 b2
          unfold rCv at hr ⊢
          cases hq : pCv (tstr B n lm) m vs i with
          | inl w =>
            rw [hq] at hr
            obtain ⟨G', L3, d1, d2, d3⟩ := hr
            exact ⟨G', L3, d1, d2, hfc.tr d3⟩
          | inr r =>
            rw [hq] at hr
            obtain ⟨G', L3, d1, d2, d3, d4⟩ := hr
            exact ⟨G', L3, d1, d2, hfc.tr d3, d4⟩
      · have h3 : ¬ (L' 7 = -1 ∧ L' 2 = 6 ∧ L' 3 = 44) := fun h => c1 (h44.mp h.2)
        rw [if_neg h3]
        show rCv q B n lm x G (if (0 : Int) = 0 then _ else _) _
        rw [if_pos rfl, if_pos rfl]
        exact hend (Or.inr c1)
  induction m with
  | zero =>
    intro fu i vs G L h1 h2 hE hA hv
    exact step 0 fu i vs G L h1 (by omega) hE hA hv (fun _ _ _ _ h => absurd rfl h)
  | succ m ih =>
    intro fu i vs G L h1 h2 hE hA hv
    refine step (m + 1) fu i vs G L h1 (by omega) hE hA hv (fun v L1 hp hk _ hA1 => ?_)
    rw [pCv_1 hp hk]
    have hfc : xfc x G (xup2 (xup2 G 0 21 v.1) 274 (4 * x + vs.length) v.1) := fun a j y1 y2 y3 => by rw [xup2_n (by omega), xup2_n (by omega)]
    have := ih (fu - 1) (v.2 + 1) (vs ++ [v.1]) (xup2 (xup2 G 0 21 v.1) 274 (4 * x + vs.length) v.1) L1 (by rw [len1]; omega) (by omega) (hE.fc hfc) hA1 (fun k hk => by
      rw [len1] at hk
      rw [getD_1]
      by_cases ck : k = vs.length
      · rw [if_pos ck, ck, xup2_s]
      · rw [if_neg ck, xup2_n (by omega), xup2_n (by omega)]
        exact hv k (by omega))
    rw [len1] at this
    exact this
end
