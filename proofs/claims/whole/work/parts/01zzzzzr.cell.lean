/-! cell() and sheet() -/
theorem len26 {o h : Nat} (hh : h < 4) (ho : o = 123 + 29 * h) : ((xl_t (o + 26)).2.2 : Int) = 72 := by
  obtain rfl | rfl | rfl | rfl : h = 0 ∨ h = 1 ∨ h = 2 ∨ h = 3 := by omega
  all_goals (subst ho; decide +kernel)
section
variable {f h o m : Nat} {G : xG_} {t : List Int} {T : List (List Int)}
/-- what cell() changes -/
def xfCe (o : Nat) (G G' : xG_) : Prop := ∀ a j, ¬ (a = 0 ∧ (j ≤ 11 ∨ j = 21 ∨ j = 25 ∨ 71 ≤ j ∧ j ≤ 74 ∨ j = 89 ∨ j = 90)) → ¬ (258 ≤ a ∧ a ≤ 262) → a ≠ 239 → a ≠ 241 → a ≠ 242 → a ≠ o + 26 → G' a j = G a j
theorem l_356 (hf : 6400 < f) (hh : h < 4) (ho : o = 123 + 29 * h) (h62 : G 0 62 = (h : Int)) (hC : rC G) (hT : rTxs G T m) (hp : rTp G t) (hc : T.length < 4200) (hm : m + t.length ≤ 90000) :
    ∃ G' v, g356 f G = some (v, G') ∧ G' 0 73 = 0 ∧ G' 0 74 = 0 ∧ xfCe o G G' ∧
      pok (qCt t) (fun w => v = xwr (-1 - (w : Int)) ∧ rTxs G' T m ∧ ∀ j, G' (o + 26) j = G (o + 26) j) (fun r => v = r.1 ∧ 0 ≤ r.1 ∧ r.1 < 72 ∧ (∀ j, j ≠ r.1.toNat → G' (o + 26) j = G (o + 26) j) ∧ (r.2.2 = -1 ∧ G' (o + 26) r.1.toNat = 0 ∧ rTxs G' T m ∨ r.2.2 ≠ -1 ∧ G' (o + 26) r.1.toNat = (T.length : Int) ∧ rTxs G' (T ++ [t]) (m + t.length))) := by
  obtain ⟨p1, p2, p3⟩ := hp
  let G1 := xup2 (xup2 G 0 74 0) 0 73 0
  have g1 : ∀ a j, ¬ (a = 0 ∧ 73 ≤ j ∧ j ≤ 74) → G1 a j = G a j := fun a j _ => by
    show xup2 _ _ _ _ _ _ = _
    rw [xup2_n (by omega), xup2_n (by omega)]
  have g173 : G1 0 73 = 0 := xup2_s _ _ _ _
  have g174 : G1 0 74 = 0 := by
    show xup2 _ _ _ _ _ _ = _
    rw [xup2_n (by omega), xup2_s]
  have hC1 : rC G1 := by
    obtain ⟨k1, k2, k3, k4, k5, k6, k7, k8, k9⟩ := hC
    unfold rC
    simp (disch := omega) only [g1]
    exact ⟨k1, k2, k3, k4, k5, k6, k7, k8, k9⟩
  have hp1 : rTe G1 240 0 t := p3.ge (fun j => g1 _ _ (by omega))
  have hT1 : rTxs G1 T m := hT.ge (g1 _ _ (by omega)) (g1 _ _ (by omega)) (fun a j _ => g1 _ _ (by omega))
  have e0 : g356 f G = Option.bind (g333 f 240 0 (t.length : Int) G1) (fun R111 => ((g211 f R111.2).bind fun R116 => (if (R116.1) = 0 then (if 0 ≤ (R116.2 (0) 62) ∧ (R116.2 (0) 62) < 4 then (if ¬ (R111.1) = (-1) then ((g294 f (t.length : Int) R116.2).bind fun R124 => g356_60 f (R124.1) (R116.2 (0) 90) (123 + 29 * (R116.2 (0) 62).toNat + 26) R124.2) else g356_60 f (0) (R116.2 (0) 90) (123 + 29 * (R116.2 (0) 62).toNat + 26) R116.2) else none) else (some (xwr ((-1) - (R116.2 (0) 7)), R116.2))))) := by
    have e1 : g361 f G = some ((t.length : Int), G1) := by
      unfold g361
      simp only [Option.bind_some]
      rw [xup2_n (by omega), p1]
    unfold g356
    rw [e1, Option.bind_some]
  have bd : ∀ {Z : xG_}, g211 f Z = some (if Z 0 7 = -1 then 0 else 1, Z) := fun {Z} => by
    have := l_bad (f := f) (G := Z) (L := Z 0)
    rw [xlx_id] at this
    exact this
  have hr := l_333 (f := f) (b := 240) (q := 0) (by omega) p2 hC1 hp1
  have ez : (((0 : Nat) : Int) + (t.length : Int)) = (t.length : Int) := by omega
  rw [ez] at hr
  rw [e0]
  cases hq : qCt t with
  | inl w =>
    rw [hq] at hr
    obtain ⟨v, G2, r1, r2, r3⟩ := hr
    have r1' : g333 f 240 0 (t.length : Int) G1 = some (v, G2) := r1
    have h7 : G2 0 7 ≠ -1 := by rw [r2]; omega
    have hn : ¬ ((1 : Int), G2).1 = 0 := fun h => absurd (show (1 : Int) = 0 from h) (by decide)
    refine ⟨G2, xwr (-1 - (w : Int)), ?_, by rw [r3 _ _ (by omega) (by omega)]; exact g173, by rw [r3 _ _ (by omega) (by omega)]; exact g174, fun a j q1 q2 q3 q4 q5 q6 => by rw [r3 _ _ (by omega) (by omega), g1 _ _ (by omega)], ?_⟩
    · rw [r1', Option.bind_some]
      show Option.bind (g211 f G2) _ = _
      rw [bd, if_neg h7, Option.bind_some, if_neg hn]
      show some (xwr (-1 - G2 0 7), G2) = _
      rw [r2, show (-1 - (((0 : Nat) : Int) + (w : Int))) = -1 - (w : Int) by omega]
    · refine ⟨?_, hT1.ge (r3 _ _ (by omega) (by omega)) (r3 _ _ (by omega) (by omega)) (fun a j _ => r3 _ _ (by omega) (by omega)), fun j => by rw [r3 _ _ (by omega) (by omega), g1 _ _ (by omega)]⟩
      rfl
  | inr r =>
    rw [hq] at hr
    obtain ⟨G2, r1, r2, r3, r4, r5, r6, r7, r8, r9, r10⟩ := hr
    have r1' : g333 f 240 0 (t.length : Int) G1 = some (r.2.2, G2) := r1
    have g2 : ∀ a j, ¬ (a = 0 ∧ (j ≤ 11 ∨ j = 21 ∨ j = 25 ∨ j = 73 ∨ j = 74 ∨ j = 89 ∨ j = 90)) → ¬ (258 ≤ a ∧ a ≤ 262) → G2 a j = G a j := fun a j q1 q2 => by rw [r10 _ _ (by omega) q2, g1 _ _ (by omega)]
    have h62' : G2 0 62 = (h : Int) := by rw [g2 _ _ (by omega) (by omega)]; exact h62
    have hT2 : rTxs G2 T m := hT.ge (g2 _ _ (by omega) (by omega)) (g2 _ _ (by omega) (by omega)) (fun a j _ => g2 _ _ (by omega) (by omega))
    have hp2 : rTe G2 240 0 t := p3.ge (fun j => g2 _ _ (by omega) (by omega))
    have h0 : (((0 : Int), G2) : Int × xG_).1 = 0 := rfl
    obtain ⟨c, hc'⟩ : ∃ c : Nat, r.1 = (c : Int) := ⟨r.1.toNat, by omega⟩
    have hcc : c < 72 := by omega
    have e2 : Option.bind (g333 f 240 0 (t.length : Int) G1) (fun R111 => ((g211 f R111.2).bind fun R116 => (if (R116.1) = 0 then (if 0 ≤ (R116.2 (0) 62) ∧ (R116.2 (0) 62) < 4 then (if ¬ (R111.1) = (-1) then ((g294 f (t.length : Int) R116.2).bind fun R124 => g356_60 f (R124.1) (R116.2 (0) 90) (123 + 29 * (R116.2 (0) 62).toNat + 26) R124.2) else g356_60 f (0) (R116.2 (0) 90) (123 + 29 * (R116.2 (0) 62).toNat + 26) R116.2) else none) else (some (xwr ((-1) - (R116.2 (0) 7)), R116.2))))) = (if ¬ r.2.2 = -1 then ((g294 f (t.length : Int) G2).bind fun R124 => g356_60 f (R124.1) (c : Int) (o + 26) R124.2) else g356_60 f 0 (c : Int) (o + 26) G2) := by
      rw [r1', Option.bind_some]
      show Option.bind (g211 f G2) _ = _
      rw [bd, if_pos r2, Option.bind_some, if_pos h0]
      simp only []
      rw [h62', if_pos (by omega), Int.toNat_natCast, r3, hc', ← ho]
    have e60 : ∀ (v : Int) (Z : xG_), g356_60 f v (c : Int) (o + 26) Z = some (xup2 Z (o + 26) c v 0 90, xup2 Z (o + 26) c v) := fun v Z => by
      unfold g356_60
      rw [len26 hh ho, if_pos (by omega), Int.toNat_natCast]
      rfl
    rw [e2]
    by_cases cn : r.2.2 = -1
    · refine ⟨xup2 G2 (o + 26) c 0, r.1, ?_, by rw [xup2_n (by omega), r10 _ _ (by omega) (by omega)]; exact g173, by rw [xup2_n (by omega), r10 _ _ (by omega) (by omega)]; exact g174, fun a j q1 q2 q3 q4 q5 q6 => by rw [xup2_n (by omega), g2 _ _ (by omega) (by omega)], rfl, r4, r5, fun j hj => ?_, .inl ⟨cn, ?_, ?_⟩⟩
      · rw [if_neg (fun q => q cn), e60, xup2_n (by omega), r3]
      · rw [hc', Int.toNat_natCast] at hj
        rw [xup2_n (by omega), g2 _ _ (by omega) (by omega)]
      · rw [hc', Int.toNat_natCast, xup2_s]
      · exact hT2.ge (xup2_n (by omega)) (xup2_n (by omega)) (fun a j _ => xup2_n (by omega))
    · obtain ⟨G3, k1, k2, k3⟩ := l_keep (f := f) (by omega) hT2 hc p2 hm hp2
      refine ⟨xup2 G3 (o + 26) c (T.length : Int), r.1, ?_, by rw [xup2_n (by omega), k3 _ _ (by omega) (by omega) (by omega) (by omega), r10 _ _ (by omega) (by omega)]; exact g173, by rw [xup2_n (by omega), k3 _ _ (by omega) (by omega) (by omega) (by omega), r10 _ _ (by omega) (by omega)]; exact g174, fun a j q1 q2 q3 q4 q5 q6 => by rw [xup2_n (by omega), k3 _ _ (by omega) q3 q4 q5, g2 _ _ (by omega) (by omega)], rfl, r4, r5, fun j hj => ?_, .inr ⟨cn, ?_, ?_⟩⟩
      · rw [if_pos cn, k1, Option.bind_some]
        show g356_60 f (T.length : Int) (c : Int) (o + 26) G3 = _
        rw [e60, xup2_n (by omega), k3 _ _ (by omega) (by omega) (by omega) (by omega), r3]
      · rw [hc', Int.toNat_natCast] at hj
        rw [xup2_n (by omega), k3 _ _ (by omega) (by omega) (by omega) (by omega), g2 _ _ (by omega) (by omega)]
      · rw [hc', Int.toNat_natCast, xup2_s]
      · exact k2.ge (xup2_n (by omega)) (xup2_n (by omega)) (fun a j _ => xup2_n (by omega))
theorem l_321 : g321 f G = some (0, xup2 G 0 74 1) := by
  unfold g321
  rfl
/-- sheet() -/
theorem l_355 (hh : h < 4) (ho : o = 123 + 29 * h) (h62 : G 0 62 = (h : Int)) (a b w : Int) :
    g355 f a b w G = some (if 0 ≤ a ∧ a < 6 ∧ 0 ≤ b ∧ b ≤ 11 then ((if w = 0 then G (o + 17) (a + 6 * b).toNat else if w = 1 then G (o + 20) (a + 6 * b).toNat else if w = 2 then G (o + 16) (a + 6 * b).toNat else -1), xup2 G 0 74 0) else (0, xup2 (xup2 G 0 74 0) 0 74 1)) := by
  unfold g355 g355_25 g355_102
  rw [Option.bind_some, l_321]
  by_cases c : 0 ≤ a ∧ a < 6 ∧ 0 ≤ b ∧ b ≤ 11
  · have hx : 0 ≤ a + 6 * b ∧ a + 6 * b < 72 := by omega
    rw [if_pos c, if_neg (by omega), if_neg (by omega), if_neg (by omega), if_pos (by omega), xup2_n (by omega), h62, if_pos (by omega), Int.toNat_natCast, ← ho, xwr_g (6 * b) (by omega) (by omega), xwr_g (a + 6 * b) (by omega) (by omega)]
    by_cases c0 : w = 0
    · rw [if_neg (fun q => q c0), if_pos c0, if_pos hx, xup2_n (by omega)]
    · rw [if_pos c0, if_neg c0]
      by_cases c1 : w = 1
      · rw [if_neg (fun q => q c1), if_pos c1, if_pos hx, xup2_n (by omega)]
      · rw [if_pos c1, if_neg c1]
        by_cases c2 : w = 2
        · rw [if_neg (fun q => q c2), if_pos c2, if_pos hx, xup2_n (by omega)]
        · rw [if_pos c2, if_neg c2]
  · rw [if_neg c]
    by_cases c1 : a < 0
    · rw [if_pos c1]; rfl
    · rw [if_neg c1]
      by_cases c2 : 6 ≤ a
      · rw [if_pos c2]; rfl
      · rw [if_neg c2]
        by_cases c3 : b < 0
        · rw [if_pos c3]; rfl
        · rw [if_neg c3, if_neg (by omega)]; rfl
end
