section
/-! The reference reads VARIABLES, puts codes -/
theorem nlt0 (o : Nat) : ((o : Int) < 0) = False := by simp
theorem getD_e {α : Type} {l : List α} {j : Nat} {d : α} (h : j < l.length) : l.getD j d = l[j] := by rw [List.getD_eq_getElem?_getD, List.getElem?_eq_getElem h]; rfl
theorem getD_1 {α : Type} (l : List α) (a d : α) (j : Nat) : (l ++ [a]).getD j d = if j = l.length then a else l.getD j d := by
  by_cases c : j = l.length
  · rw [if_pos c, getD_e (by rw [len1]; omega)]
    simp [c]
  · rw [if_neg c]
    by_cases c2 : j < l.length
    · rw [getD_e (by rw [len1]; omega), getD_e c2, List.getElem_append_left c2]
    · rw [List.getD_eq_getElem?_getD, List.getD_eq_getElem?_getD, List.getElem?_eq_none (by rw [len1]; omega), List.getElem?_eq_none (by omega)]
theorem pVix_no {V : List (Int × Nat)} {x : Int} (h : ∀ j, j < V.length → (V.getD j (0, 0)).1 ≠ x) : pVix V x = -1 := by
  have : V.findIdx? (fun y => decide (y.1 = x)) = none := by
    rw [List.findIdx?_eq_none_iff]
    intro y hy
    obtain ⟨j, hj, e⟩ := List.mem_iff_getElem.mp hy
    have := h j hj
    rw [getD_e hj, e] at this
    exact decide_eq_false this
  unfold pVix
  rw [this]
theorem pVix_yes {V : List (Int × Nat)} {x : Int} {v : Nat} (hv : v < V.length) (h : ∀ j, j < v → (V.getD j (0, 0)).1 ≠ x) (h1 : (V.getD v (0, 0)).1 = x) : pVix V x = v := by
  have : V.findIdx? (fun y => decide (y.1 = x)) = some v := by
    rw [List.findIdx?_eq_some_iff_getElem]
    refine ⟨hv, ?_, fun j hj => ?_⟩
    · rw [getD_e hv] at h1
      exact decide_eq_true h1
    · have := h j hj
      rw [getD_e (by omega)] at this
      simp [this]
  unfold pVix
  rw [this]
def rVs (G : xG_) (o q r : Nat) (V : List (Int × Nat)) : Prop := G (o + 20) r = (V.length : Int) ∧ V.length ≤ 8 ∧ ∀ v, v < V.length → G (o + 23) (8 * r + v) = (V.getD v (0, 0)).1 ∧ G (o + 24) (8 * r + v) = (q : Int) + (V.getD v (0, 0)).2
/-- what reading of EXPRESSIONS changes -/
def xfe (o r v0 c0 : Nat) (G G' : xG_) : Prop := ∀ a j, ¬ ((a = 0 ∧ (j = 21 ∨ j = 25)) ∨ (a = o ∧ j = 37) ∨ (a = o + 20 ∧ j = r) ∨ ((a = o + 23 ∨ a = o + 24) ∧ 8 * r + v0 ≤ j) ∨ ((a = o + 33 ∨ a = o + 34) ∧ c0 ≤ j)) → G' a j = G a j
theorem xfe.rf (o r v0 c0 : Nat) (G : xG_) : xfe o r v0 c0 G G := fun _ _ _ => rfl
theorem xfe.tr {o r v0 c0 v1 c1 : Nat} {G G1 G2 : xG_} (h : xfe o r v0 c0 G G1) (h1 : xfe o r v1 c1 G1 G2) (hv : v0 ≤ v1) (hc : c0 ≤ c1) : xfe o r v0 c0 G G2 := by
  intro a j hj
  rw [h1 a j (by omega), h a j hj]
theorem xfe.mo {o r v0 c0 v1 c1 : Nat} {G G1 : xG_} (h : xfe o r v1 c1 G G1) (hv : v0 ≤ v1) (hc : c0 ≤ c1) : xfe o r v0 c0 G G1 := fun a j hj => h a j (by omega)
theorem xfe.up {o r v0 c0 a j : Nat} {v : Int} (G : xG_) (h : (a = 0 ∧ (j = 21 ∨ j = 25)) ∨ (a = o ∧ j = 37) ∨ (a = o + 20 ∧ j = r) ∨ ((a = o + 23 ∨ a = o + 24) ∧ 8 * r + v0 ≤ j) ∨ ((a = o + 33 ∨ a = o + 34) ∧ c0 ≤ j)) : xfe o r v0 c0 G (xup2 G a j v) := by
  intro a' j' hj
  exact xup2_n (fun e => hj (by rw [e.1, e.2]; exact h))
theorem rEv.fe {G G' : xG_} {q n o r v0 c0 : Nat} {B : Nat → Int} {lm : Bool} (h : rEv G q B n lm o) (hf : xfe o r v0 c0 G G') : rEv G' q B n lm o := by
  obtain ⟨⟨a1, a2, a3, a4, a5⟩, b, c, d, e⟩ := h
  have g0 : ∀ j, j ≤ 20 ∨ j = 22 → G' 0 j = G 0 j := fun j hj => hf 0 j (by omega)
  have gb : ∀ j, G' (G 0 0).toNat j = G (G 0 0).toNat j := fun j => hf _ j (by have := a1.1; omega)
  refine ⟨⟨?_, a2, ?_, ?_, ?_⟩, ?_, ?_, ?_, e⟩
  · unfold gT
    rw [g0 0 (by omega), g0 1 (by omega)]
    exact a1
  · rw [g0 1 (by omega)]; exact a3
  · intro p
    rw [← a4 p]
    unfold gB
    rw [g0 0 (by omega), g0 1 (by omega), gb]
  · intro p hp
    rw [g0 0 (by omega), gb]
    exact a5 p hp
  · rw [g0 11 (by omega)]; exact b
  · unfold rC
    rw [g0 12 (by omega), g0 13 (by omega), g0 14 (by omega), g0 15 (by omega), g0 16 (by omega), g0 17 (by omega), g0 18 (by omega), g0 19 (by omega), g0 20 (by omega)]
    exact c
  · rw [g0 22 (by omega)]; exact d
section
variable {f q n o r i : Nat} {B : Nat → Int} {lm : Bool} {G : xG_} {L : Nat → Int} {V : List (Int × Nat)}
theorem l_vloop (hE : rEv G q B n lm o) (h23 : G 0 23 = (r : Int)) (hr : r ≤ 24) (hV : rVs G o q r V) : ∀ k v fu, v + k = V.length → k < fu → (∀ j, j < v → (V.getD j (0, 0)).1 ≠ L 9) →
    ∃ v', v ≤ v' ∧ v' ≤ V.length ∧ g239_28 f fu ((8 * r : Nat) : Int) v (xlx G L) = g239_69 f ((8 * r : Nat) : Int) v' (xlx G L) ∧ (∀ j, j < v' → (V.getD j (0, 0)).1 ≠ L 9) ∧ (v' < V.length → (V.getD v' (0, 0)).1 = L 9) := by
  obtain ⟨_, _, _, h22, ho⟩ := hE
  obtain ⟨hV1, hV2, hV3⟩ := hV
  intro k
  induction k with
  | zero =>
    intro v fu hk hfu hj
    obtain ⟨fu, rfl⟩ : ∃ t, fu = t + 1 := ⟨fu - 1, by omega⟩
    refine ⟨v, Nat.le_refl _, by omega, ?_, hj, fun c => by omega⟩
    show g239_28b (g239_28 f fu) f _ _ _ = _
    unfold g239_28b
    simp (disch := omega) only [xlx_o, xlx_2, xlx_3, xlx_4, xlx_5, xlx_6, xlx_7, xlx_8, xlx_9, xlx_10, xlx_upo, Int.toNat_natCast, nlt0, if_false, if_true, Option.bind_some, i10, i01, true_and, false_and, and_false, and_true, not_true_eq_false, not_false_eq_true, h22, h23]
    rw [if_pos (by omega), hV1, if_pos (by omega)]
  | succ k ih =>
    intro v fu hk hfu hj
    obtain ⟨fu, rfl⟩ : ∃ t, fu = t + 1 := ⟨fu - 1, by omega⟩
    have hx : xwr (((8 * r : Nat) : Int) + v) = ((8 * r + v : Nat) : Int) := by rw [xwr_g _ (by omega) (by omega)]; omega
    have hx1 : xwr ((v : Int) + 1) = ((v + 1 : Nat) : Int) := by rw [xwr_g _ (by omega) (by omega)]; omega
    have es : g239_28 f (fu + 1) ((8 * r : Nat) : Int) v (xlx G L) = if (V.getD v (0, 0)).1 = L 9 then g239_69 f ((8 * r : Nat) : Int) v (xlx G L) else g239_28 f fu ((8 * r : Nat) : Int) (v + 1 : Nat) (xlx G L) := by
      show g239_28b (g239_28 f fu) f _ _ _ = _
      unfold g239_28b
      simp (disch := omega) only [xlx_o, xlx_2, xlx_3, xlx_4, xlx_5, xlx_6, xlx_7, xlx_8, xlx_9, xlx_10, xlx_upo, Int.toNat_natCast, nlt0, if_false, if_true, Option.bind_some, i10, i01, true_and, false_and, and_false, and_true, not_true_eq_false, not_false_eq_true, h22, h23, hx, hx1]
      rw [if_pos (by omega), hV1, if_neg (by omega), if_pos (by omega), (hV3 v (by omega)).1]
    rw [es]
    by_cases c : (V.getD v (0, 0)).1 = L 9
    · rw [if_pos c]
      exact ⟨v, Nat.le_refl _, by omega, rfl, hj, fun _ => c⟩
    · rw [if_neg c]
      obtain ⟨v', a1, a2, a3⟩ := ih (v + 1) fu (by omega) (by omega) (fun j hj2 => by
        by_cases e : j = v
        · rw [e]; exact c
        · exact hj j (by omega))
      exact ⟨v', by omega, a2, a3⟩
theorem l_var (hf : n + 20 < f) (hE : rEv G q B n lm o) (h23 : G 0 23 = (r : Int)) (hr : r ≤ 24) (hV : rVs G o q r V) (hA : rAt q B n lm i L) (hK : kK (tstr B n lm) i = 2) (c0 : Nat) :
    pok (pVar (tstr B n lm) V i) (fun w => ∃ L', g239 f (xlx G L) = some (0, xlx G L') ∧ L' 7 = (q : Int) + w)
      (fun x => ∃ G' L', g239 f (xlx G L) = some (x.1, xlx G' L') ∧ rAt q B n lm x.2.2 L' ∧ xfe o r V.length c0 G G' ∧ rVs G' o q r x.2.1 ∧ G' o 37 = G o 37 ∧ G' 0 25 = G 0 25 ∧ 0 ≤ x.1 ∧ x.1 < x.2.1.length) := by
  have htk := hA.tk hE.1.2.1
  obtain ⟨t4, tsg, tn, tv, tu, tnum, tend, tn9, tv9, tnum9, t6, t5, tlt, t3⟩ := htk
  have h7 := hA.1
  have h2 := tv.mpr hK
  have h9 := tv9 h2
  have h22 := hE.2.2.2.1
  have ho := hE.2.2.2.2
  have hlen := hE.1.len
  unfold pVar
  rw [if_neg (by omega)]
  rw [h2, if_neg (by omega)] at t6
  by_cases c8 : 8 < kE (tstr B n lm) i - kS (tstr B n lm) i
  · rw [if_pos c8]
    rw [if_pos ⟨rfl, c8⟩] at t6
    refine ⟨xu L 7 (L 6), ?_, by rw [t6]; show (q : Int) + _ + 8 = (q : Int) + ((_ + 8 : Nat) : Int); omega⟩
    unfold g239
    simp (disch := omega) only [xlx_o, xlx_2, xlx_3, xlx_4, xlx_5, xlx_6, xlx_7, xlx_8, xlx_9, xlx_10, xlx_upo, Int.toNat_natCast, nlt0, if_false, if_true, Option.bind_some, i10, i01, true_and, false_and, and_false, and_true, not_true_eq_false, not_false_eq_true, l_fail, h7, t6]
    rw [if_neg (by omega)]
  · rw [if_neg c8]
    rw [if_neg (fun q => c8 q.2)] at t6
    obtain ⟨v, a1, a2, a3, a4, a5⟩ := l_vloop (f := f) (L := L) hE h23 hr hV V.length 0 f (by omega) (by have := hV.2.1; omega) (fun j hj => by omega)
    have hx8 : xwr ((r : Int) * 8) = ((8 * r : Nat) : Int) := by rw [xwr_g _ (by omega) (by omega)]; omega
    have e0 : g239 f (xlx G L) = g239_69 f ((8 * r : Nat) : Int) v (xlx G L) := by
      unfold g239
      simp (disch := omega) only [xlx_o, xlx_2, xlx_3, xlx_4, xlx_5, xlx_6, xlx_7, xlx_8, xlx_9, xlx_10, xlx_upo, Int.toNat_natCast, nlt0, if_false, if_true, Option.bind_some, i10, i01, true_and, false_and, and_false, and_true, not_true_eq_false, not_false_eq_true, h23, t6, hx8]
      exact a3
    rw [e0]
    obtain ⟨hV1, hV2, hV3⟩ := hV
    have hx : xwr (((8 * r : Nat) : Int) + v) = ((8 * r + v : Nat) : Int) := by rw [xwr_g _ (by omega) (by omega)]; omega
    by_cases cv : v < V.length
    · have e1 := pVix_yes cv (x := kC (tstr B n lm) i) (fun j hj => by rw [← h9]; exact a4 j hj) (by rw [← h9]; exact a5 cv)
      rw [e1, if_neg (by omega)]
      obtain ⟨L', e, a⟩ := l_pass hf hE hA t6 (by omega) (by omega)
      refine ⟨G, L', ?_, a, .rf _ _ _ _ _, ⟨hV1, hV2, hV3⟩, rfl, rfl, by omega, by show (v : Int) < V.length; omega⟩
      refine xok_is ?_
      unfold g239_69 g239_147
      repeat' (first | with_reducible refine xok_sb ?_ | with_reducible refine xok_it (by first | omega | (simp (disch := omega) only [eq_self, not_true_eq_false, not_false_eq_true, true_and, and_true, and_self, xlx_o, xup2_n, xup2_s, xlx_2, xlx_3, xlx_4, xlx_5, xlx_6, xlx_7, xlx_8, xlx_9, xlx_10, Int.toNat_natCast, h22, h23, hV1]; done) | (simp (disch := omega) only [eq_self, not_true_eq_false, not_false_eq_true, true_and, and_true, and_self, xlx_o, xup2_n, xup2_s, xlx_2, xlx_3, xlx_4, xlx_5, xlx_6, xlx_7, xlx_8, xlx_9, xlx_10, Int.toNat_natCast, h22, h23, hV1]; omega)) ?_ | with_reducible refine xok_if (by first | omega | (simp (disch := omega) only [eq_self, not_true_eq_false, not_false_eq_true, true_and, and_true, and_self, xlx_o, xup2_n, xup2_s, xlx_2, xlx_3, xlx_4, xlx_5, xlx_6, xlx_7, xlx_8, xlx_9, xlx_10, Int.toNat_natCast, h22, h23, hV1]; done) | (simp (disch := omega) only [eq_self, not_true_eq_false, not_false_eq_true, true_and, and_true, and_self, xlx_o, xup2_n, xup2_s, xlx_2, xlx_3, xlx_4, xlx_5, xlx_6, xlx_7, xlx_8, xlx_9, xlx_10, Int.toNat_natCast, h22, h23, hV1]; omega)) ?_ | fail)
      rw [e]
      exact xok_some.mpr rfl
    · have e1 := pVix_no (V := V) (x := kC (tstr B n lm) i) (fun j hj => by rw [← h9]; exact a4 j (by omega))
      obtain rfl : v = V.length := by omega
      rw [e1, if_pos rfl]
      by_cases c9 : V.length = 8
      · rw [if_pos c9]
        refine ⟨xu L 7 (L 4), ?_, by rw [t4]; rfl⟩
        refine xok_is ?_
        unfold g239_69
        repeat' (first | with_reducible refine xok_sb ?_ | with_reducible refine xok_it (by first | omega | (simp (disch := omega) only [eq_self, not_true_eq_false, not_false_eq_true, true_and, and_true, and_self, xlx_o, xup2_n, xup2_s, xlx_2, xlx_3, xlx_4, xlx_5, xlx_6, xlx_7, xlx_8, xlx_9, xlx_10, Int.toNat_natCast, h22, h23, hV1]; done) | (simp (disch := omega) only [eq_self, not_true_eq_false, not_false_eq_true, true_and, and_true, and_self, xlx_o, xup2_n, xup2_s, xlx_2, xlx_3, xlx_4, xlx_5, xlx_6, xlx_7, xlx_8, xlx_9, xlx_10, Int.toNat_natCast, h22, h23, hV1]; omega)) ?_ | with_reducible refine xok_if (by first | omega | (simp (disch := omega) only [eq_self, not_true_eq_false, not_false_eq_true, true_and, and_true, and_self, xlx_o, xup2_n, xup2_s, xlx_2, xlx_3, xlx_4, xlx_5, xlx_6, xlx_7, xlx_8, xlx_9, xlx_10, Int.toNat_natCast, h22, h23, hV1]; done) | (simp (disch := omega) only [eq_self, not_true_eq_false, not_false_eq_true, true_and, and_true, and_self, xlx_o, xup2_n, xup2_s, xlx_2, xlx_3, xlx_4, xlx_5, xlx_6, xlx_7, xlx_8, xlx_9, xlx_10, Int.toNat_natCast, h22, h23, hV1]; omega)) ?_ | fail)
        rw [xlx_4, l_fail, if_pos h7]
        exact xok_some.mpr rfl
      · rw [if_neg c9]
        let G1 := xup2 (xup2 (xup2 G (o + 23) (8 * r + V.length) (L 9)) (o + 24) (8 * r + V.length) (L 4)) (o + 20) r ((V.length + 1 : Nat) : Int)
        have hfe : xfe o r V.length c0 G G1 := ((xfe.up G (by omega)).tr (xfe.up _ (by omega)) (Nat.le_refl _) (Nat.le_refl _)).tr (xfe.up _ (by omega)) (Nat.le_refl _) (Nat.le_refl _)
        have hfe' : ∀ {a j : Nat}, ¬ (a = o + 20 ∨ a = o + 23 ∨ a = o + 24) → G1 a j = G a j := fun {a j} hh => by
          show xup2 (xup2 (xup2 G (o + 23) (8 * r + V.length) (L 9)) (o + 24) (8 * r + V.length) (L 4)) (o + 20) r _ a j = _
          rw [xup2_n (by omega), xup2_n (by omega), xup2_n (by omega)]
        obtain ⟨L', e, a⟩ := l_pass hf (hE.fe hfe) hA t6 (by omega) (by omega)
        refine ⟨G1, L', ?_, a, hfe, ⟨?_, ?_, ?_⟩, ?_, ?_, by omega, ?_⟩
        · refine xok_is ?_
          unfold g239_69 g239_147
          repeat' (first | with_reducible refine xok_sb ?_ | with_reducible refine xok_it (by first | omega | (simp (disch := omega) only [eq_self, not_true_eq_false, not_false_eq_true, true_and, and_true, and_self, xlx_o, xup2_n, xup2_s, xlx_2, xlx_3, xlx_4, xlx_5, xlx_6, xlx_7, xlx_8, xlx_9, xlx_10, Int.toNat_natCast, h22, h23, hV1, hx]; done) | (simp (disch := omega) only [eq_self, not_true_eq_false, not_false_eq_true, true_and, and_true, and_self, xlx_o, xup2_n, xup2_s, xlx_2, xlx_3, xlx_4, xlx_5, xlx_6, xlx_7, xlx_8, xlx_9, xlx_10, Int.toNat_natCast, h22, h23, hV1, hx]; omega)) ?_ | with_reducible refine xok_if (by first | omega | (simp (disch := omega) only [eq_self, not_true_eq_false, not_false_eq_true, true_and, and_true, and_self, xlx_o, xup2_n, xup2_s, xlx_2, xlx_3, xlx_4, xlx_5, xlx_6, xlx_7, xlx_8, xlx_9, xlx_10, Int.toNat_natCast, h22, h23, hV1, hx]; done) | (simp (disch := omega) only [eq_self, not_true_eq_false, not_false_eq_true, true_and, and_true, and_self, xlx_o, xup2_n, xup2_s, xlx_2, xlx_3, xlx_4, xlx_5, xlx_6, xlx_7, xlx_8, xlx_9, xlx_10, Int.toNat_natCast, h22, h23, hV1, hx]; omega)) ?_ | fail)
          simp (disch := omega) only [xlx_upo, eq_self, not_true_eq_false, not_false_eq_true, true_and, and_true, and_self, xlx_o, xup2_n, xup2_s, xlx_2, xlx_3, xlx_4, xlx_5, xlx_6, xlx_7, xlx_8, xlx_9, xlx_10, Int.toNat_natCast, h22, h23, hV1, hx]
          rw [xwr_g _ (by omega) (by omega)]
          show xok ((g213 f (xlx G1 L)).bind _) _
          rw [e]
          exact xok_some.mpr rfl
        · show G1 (o + 20) r = (((V ++ [_]).length : Nat) : Int)
          rw [len1]
          exact xup2_s _ _ _ _
        · show (V ++ [_]).length ≤ 8
          rw [len1]; omega
        · intro w hw
          have hw2 : w < V.length + 1 := by
            have : w < (V ++ [(kC (tstr B n lm) i, kS (tstr B n lm) i)]).length := hw
            rw [len1] at this; exact this
          show G1 (o + 23) (8 * r + w) = ((V ++ [(kC (tstr B n lm) i, kS (tstr B n lm) i)]).getD w (0, 0)).1 ∧ G1 (o + 24) (8 * r + w) = (q : Int) + ((V ++ [(kC (tstr B n lm) i, kS (tstr B n lm) i)]).getD w (0, 0)).2
          have e1 : G1 (o + 23) (8 * r + w) = if w = V.length then L 9 else G (o + 23) (8 * r + w) := by
            show xup2 (xup2 (xup2 G (o + 23) (8 * r + V.length) (L 9)) (o + 24) (8 * r + V.length) (L 4)) (o + 20) r _ (o + 23) (8 * r + w) = _
            rw [xup2_n (by omega), xup2_n (by omega), xup2_e]
            by_cases c : w = V.length
            · rw [if_pos ⟨rfl, by omega⟩, if_pos c]
            · rw [if_neg (by omega), if_neg c]
          have e2 : G1 (o + 24) (8 * r + w) = if w = V.length then L 4 else G (o + 24) (8 * r + w) := by
            show xup2 (xup2 (xup2 G (o + 23) (8 * r + V.length) (L 9)) (o + 24) (8 * r + V.length) (L 4)) (o + 20) r _ (o + 24) (8 * r + w) = _
            rw [xup2_n (by omega), xup2_e]
            by_cases c : w = V.length
            · rw [if_pos ⟨rfl, by omega⟩, if_pos c]
            · rw [if_neg (by omega), if_neg c, xup2_n (by omega)]
          rw [e1, e2, getD_1, h9, t4]
          by_cases c : w = V.length
          · rw [if_pos c, if_pos c, if_pos c]
            exact ⟨rfl, rfl⟩
          · rw [if_neg c, if_neg c, if_neg c]
            exact hV3 w (by omega)
        · exact hfe' (by omega)
        · exact hfe' (by omega)
        · show (V.length : Int) < (((V ++ [_]).length : Nat) : Int)
          rw [len1]; omega
end
end
section
/-! The reference reads EXPRESSIONS -/
def rCo (G : xG_) (o c0 : Nat) (Q : pCd) : Prop := ∀ j, j < Q.length → G (o + 33) (c0 + j) = (Q.getD j (0, 0)).1 ∧ G (o + 34) (c0 + j) = (Q.getD j (0, 0)).2
def rPut (G : xG_) (o c : Nat) (a b : Int) : xG_ := xup2 (xup2 (xup2 G (o + 33) c a) (o + 34) c b) o 37 ((c + 1 : Nat) : Int)
def rX (G : xG_) (q : Nat) (B : Nat → Int) (n : Nat) (lm : Bool) (o r : Nat) (V : List (Int × Nat)) (c0 : Nat) (Q : pCd) (b : Nat) : Prop :=
  rEv G q B n lm o ∧ G 0 23 = (r : Int) ∧ r ≤ 24 ∧ rVs G o q r V ∧ G o 37 = ((c0 + Q.length : Nat) : Int) ∧ rCo G o c0 Q ∧ G 0 25 = (b : Int)
section
variable {f q n o r i c0 b : Nat} {B : Nat → Int} {lm : Bool} {G G' : xG_} {L : Nat → Int} {V : List (Int × Nat)} {Q : pCd}
theorem l_put_bad (h : L 7 ≠ -1) (a b : Int) : g240 f a b (xlx G L) = some (xlx G L) := by
  unfold g240
  simp only [xlx_2, xlx_3, xlx_4, xlx_5, xlx_6, xlx_7, xlx_8, xlx_9, xlx_10, xlx_u2, xlx_u3, xlx_u4, xlx_u5, xlx_u6, xlx_u7, xlx_u8, xlx_u9, xlx_u10, xu_e, eq_self, reduceIte, Nat.reduceEqDiff, if_true, if_false, not_true_eq_false, not_false_eq_true, Option.bind_some, i10, i01, true_and, false_and, and_false, ne_eq, Int.reduceEq, Int.reduceNeg, l_bad, h]
theorem l_put (hE : rEv G q B n lm o) (h7 : L 7 = -1) {c : Nat} (hc : G o 37 = (c : Int)) (hc2 : c < 6200) (a b : Int) : g240 f a b (xlx G L) = some (xlx (rPut G o c a b) L) := by
  have h22 := hE.2.2.2.1
  have ho := hE.2.2.2.2
  refine xok_is ?_
  unfold g240
  rw [l_bad, if_pos h7]
  repeat' (first | with_reducible refine xok_sb ?_ | with_reducible refine xok_it (by first | omega | (simp (disch := omega) only [eq_self, not_true_eq_false, not_false_eq_true, true_and, and_true, and_self, xlx_o, xup2_n, xup2_s, xlx_2, xlx_3, xlx_4, xlx_5, xlx_6, xlx_7, xlx_8, xlx_9, xlx_10, Int.toNat_natCast, h22, hc]; done) | (simp (disch := omega) only [eq_self, not_true_eq_false, not_false_eq_true, true_and, and_true, and_self, xlx_o, xup2_n, xup2_s, xlx_2, xlx_3, xlx_4, xlx_5, xlx_6, xlx_7, xlx_8, xlx_9, xlx_10, Int.toNat_natCast, h22, hc]; omega)) ?_ | with_reducible refine xok_if (by first | omega | (simp (disch := omega) only [eq_self, not_true_eq_false, not_false_eq_true, true_and, and_true, and_self, xlx_o, xup2_n, xup2_s, xlx_2, xlx_3, xlx_4, xlx_5, xlx_6, xlx_7, xlx_8, xlx_9, xlx_10, Int.toNat_natCast, h22, hc]; done) | (simp (disch := omega) only [eq_self, not_true_eq_false, not_false_eq_true, true_and, and_true, and_self, xlx_o, xup2_n, xup2_s, xlx_2, xlx_3, xlx_4, xlx_5, xlx_6, xlx_7, xlx_8, xlx_9, xlx_10, Int.toNat_natCast, h22, hc]; omega)) ?_ | fail)
  simp (disch := omega) only [xlx_upo, eq_self, not_true_eq_false, not_false_eq_true, true_and, and_true, and_self, xlx_o, xup2_n, xup2_s, xlx_2, xlx_3, xlx_4, xlx_5, xlx_6, xlx_7, xlx_8, xlx_9, xlx_10, Int.toNat_natCast, h22, hc]
  rw [xwr_g _ (by omega) (by omega)]
  exact xok_some.mpr rfl
theorem rPut_fe (G : xG_) (o r v0 : Nat) {c0 c : Nat} (h : c0 ≤ c) (a b : Int) : xfe o r v0 c0 G (rPut G o c a b) := ((xfe.up G (by omega)).tr (xfe.up _ (by omega)) (Nat.le_refl _) (Nat.le_refl _)).tr (xfe.up _ (by omega)) (Nat.le_refl _) (Nat.le_refl _)
theorem rPut_o {c a j : Nat} {x y : Int} (h : ¬ (a = o + 33 ∨ a = o + 34 ∨ a = o ∧ j = 37)) : rPut G o c x y a j = G a j := by
  unfold rPut
  rw [xup2_n (by omega), xup2_n (by omega), xup2_n (by omega)]
theorem rVs.ot (h : rVs G o q r V) (h1 : ∀ j, G' (o + 20) j = G (o + 20) j) (h2 : ∀ j, G' (o + 23) j = G (o + 23) j) (h3 : ∀ j, G' (o + 24) j = G (o + 24) j) : rVs G' o q r V := ⟨by rw [h1]; exact h.1, h.2.1, fun v hv => by rw [h2, h3]; exact h.2.2 v hv⟩
theorem rCo.put (h : rCo G o c0 Q) (x y : Int) : rCo (rPut G o (c0 + Q.length) x y) o c0 (Q ++ [(x, y)]) := by
  intro j hj
  rw [len1] at hj
  rw [getD_1]
  unfold rPut
  by_cases c : j = Q.length
  · rw [if_pos c, c]
    rw [xup2_n (by omega), xup2_n (by omega), xup2_s, xup2_n (by omega), xup2_s]
    exact ⟨rfl, rfl⟩
  · rw [if_neg c, xup2_n (by omega), xup2_n (by omega), xup2_n (by omega), xup2_n (by omega), xup2_n (by omega), xup2_n (by omega)]
    exact h j (by omega)
theorem rCo.fe {v0 c : Nat} (h : rCo G o c0 Q) (hf : xfe o r v0 c G G') (hc : c0 + Q.length ≤ c) : rCo G' o c0 Q := by
  intro j hj
  rw [hf _ _ (by omega), hf _ _ (by omega)]
  exact h j hj
theorem rX.put (h : rX G q B n lm o r V c0 Q b) (x y : Int) : rX (rPut G o (c0 + Q.length) x y) q B n lm o r V c0 (Q ++ [(x, y)]) b := by
  obtain ⟨a1, a2, a3, a4, a5, a6, a7⟩ := h
  have ho := a1.2.2.2.2
  refine ⟨a1.fe (rPut_fe G o r 0 (Nat.le_refl _) x y), ?_, a3, a4.ot (fun j => rPut_o (by omega)) (fun j => rPut_o (by omega)) (fun j => rPut_o (by omega)), ?_, a6.put x y, ?_⟩
  · rw [rPut_o (by omega)]; exact a2
  · rw [len1]; exact xup2_s _ _ _ _
  · rw [rPut_o (by omega)]; exact a7
/-- what reading an EXPRESSION (or a part of one) does -/
def rXP (f q : Nat) (B : Nat → Int) (n : Nat) (lm : Bool) (o r cb m b : Nat) (e : xG_ → Option xG_) : Prop :=
  ∀ (F : Nat) (G : xG_) (L : Nat → Int) (V : List (Int × Nat)) (Q : pCd) (i c0 : Nat), 4 * (n + 1 - i) + (if m = 1 ∨ m = 2 then 2 else 1) ≤ F → rX G q B n lm o r V c0 Q b → rAt q B n lm i L → c0 + Q.length ≤ cb + i →
    pok (pX (tstr B n lm) F m b (V, Q, i)) (fun w => ∃ G' L', e (xlx G L) = some (xlx G' L') ∧ L' 7 = (q : Int) + w ∧ xfe o r V.length (c0 + Q.length) G G' ∧ 0 ≤ G' (o + 20) r ∧ G' (o + 20) r ≤ 8)
      (fun x => ∃ G' L', e (xlx G L) = some (xlx G' L') ∧ rAt q B n lm x.2.2 L' ∧ xfe o r V.length (c0 + Q.length) G G' ∧ rX G' q B n lm o r x.1 c0 x.2.1 b)
def rXB (e : xG_ → Option xG_) : Prop := ∀ (G : xG_) (L : Nat → Int), rC G → L 7 ≠ -1 → e (xlx G L) = some (xlx G L)
theorem rAt.le (hB : tTx B n) (h : rAt q B n lm i L) : i ≤ n := Nat.le_trans h.2.2.1 (tS_le hB i).1
theorem l_prim_bad {e : xG_ → Option xG_} (hq : rXB e) : rXB (g241 e f) := by
  intro G L hC h
  unfold g241 g241_101
  simp only [xlx_2, xlx_3, xlx_4, xlx_5, xlx_6, xlx_7, xlx_8, xlx_9, xlx_10, xlx_u2, xlx_u3, xlx_u4, xlx_u5, xlx_u6, xlx_u7, xlx_u8, xlx_u9, xlx_u10, xu_e, eq_self, reduceIte, Nat.reduceEqDiff, if_true, if_false, not_true_eq_false, not_false_eq_true, Option.bind_some, i10, i01, true_and, false_and, and_false, ne_eq, Int.reduceEq, Int.reduceNeg, l_kind, l_sign, h, l_value_bad hC h]
theorem rC.u {k : Nat} {v : Int} (h : rC G) (hk : k = 25) : rC (xup2 G 0 k v) := by
  subst hk
  unfold rC
  rw [xup2_n (by omega), xup2_n (by omega), xup2_n (by omega), xup2_n (by omega), xup2_n (by omega), xup2_n (by omega), xup2_n (by omega), xup2_n (by omega), xup2_n (by omega)]
  exact h
theorem l_prim_e {e : xG_ → Option xG_} {G : xG_} {L : Nat → Int} {i : Nat} (hE : rEv G q B n lm o) (hA : rAt q B n lm i L) : g241 e f (xlx G L) = if kK (tstr B n lm) i = 2 then ((g239 f (xlx G L)).bind fun R153 => ((g240 f (2) (R153.1) R153.2).bind fun R158 => some R158))
      else if kK (tstr B n lm) i = 40 then (if ¬ G 0 25 = (4) then g241_48 e f (xlx G L) else g241_48 e f (xlx G (xu L 7 (L 4))))
      else ((g227 f (xlx G L)).bind fun R136 => (if (R136.1) = 0 then some R136.2 else ((g240 f (1) (R136.2 (0) 21) R136.2).bind fun R142 => some R142))) := by
  obtain ⟨t4, tsg, tn, tv, tu, tnum, tend, tn9, tv9, tnum9, t6, t5, tlt, t3⟩ := hA.tk hE.1.2.1
  have h7 := hA.1
  have s40 := tsg 40 (by unfold isSg; omega)
  rw [show rsc 40 = 40 from rfl] at s40
  unfold g241 g241_101
  simp only [xlx_2, xlx_3, xlx_4, xlx_5, xlx_6, xlx_7, xlx_8, xlx_9, xlx_10, xlx_u2, xlx_u3, xlx_u4, xlx_u5, xlx_u6, xlx_u7, xlx_u8, xlx_u9, xlx_u10, xu_e, eq_self, reduceIte, Nat.reduceEqDiff, if_true, if_false, not_true_eq_false, not_false_eq_true, Option.bind_some, i10, i01, true_and, false_and, and_false, ne_eq, Int.reduceEq, Int.reduceNeg, l_kind, l_sign, h7, tv, s40, l_fail]
  rw [xlx_o G L (by omega)]
  by_cases c1 : kK (tstr B n lm) i = 2
  · simp [c1]
  · by_cases c2 : kK (tstr B n lm) i = 40
    · simp [c2]
    · simp [c1, c2]
theorem l_prim_var {cb : Nat} {e : xG_ → Option xG_} (hf : n + 20 < f) (hcb : cb + n + 3 ≤ 6200) {G : xG_} {L : Nat → Int} {V : List (Int × Nat)} {Q : pCd} {i c0 : Nat} (hX : rX G q B n lm o r V c0 Q b) (hA : rAt q B n lm i L) (hc : c0 + Q.length ≤ cb + i) (c1 : kK (tstr B n lm) i = 2) :
    pok (pbind (pVar (tstr B n lm) V i) fun r => .inr (r.2.1, Q ++ [(2, r.1)], r.2.2)) (fun w => ∃ G' L', g241 e f (xlx G L) = some (xlx G' L') ∧ L' 7 = (q : Int) + w ∧ xfe o r V.length (c0 + Q.length) G G' ∧ 0 ≤ G' (o + 20) r ∧ G' (o + 20) r ≤ 8)
      (fun x => ∃ G' L', g241 e f (xlx G L) = some (xlx G' L') ∧ rAt q B n lm x.2.2 L' ∧ xfe o r V.length (c0 + Q.length) G G' ∧ rX G' q B n lm o r x.1 c0 x.2.1 b) := by
  have hX' := hX
  obtain ⟨hE, h23, hr, hV, h37, hCo, h25⟩ := hX'
  have hin := hA.le hE.1.2.1
  have ho := hE.2.2.2.2
  have htk := hA.tk hE.1.2.1
  obtain ⟨t4, tsg, tn, tv, tu, tnum, tend, tn9, tv9, tnum9, t6, t5, tlt, t3⟩ := htk
  have h7 := hA.1
  have h1 := l_var hf hE h23 hr hV hA c1 (c0 + Q.length)
  have e0 := l_prim_e (e := e) (f := f) hE hA
  rw [if_pos c1] at e0
  cases hp : pVar (tstr B n lm) V i with
  | inl w =>
    rw [hp] at h1
    obtain ⟨L', e1, e2⟩ := h1
    refine ⟨G, L', ?_, e2, .rf _ _ _ _ _, ?_⟩
    · rw [e0, e1, Option.bind_some, l_put_bad (by omega)]
      rfl
    · have := hV.1; have := hV.2.1; omega
  | inr x =>
    rw [hp] at h1
    obtain ⟨G1, L', e1, e2, e3, e4, e5, e6, e7, e8⟩ := h1
    have hX1 : rX G1 q B n lm o r x.2.1 c0 Q b := ⟨hE.fe e3, by rw [e3 _ _ (by omega)]; exact h23, hr, e4, by rw [e5]; exact h37, hCo.fe e3 (Nat.le_refl _), by rw [e6]; exact h25⟩
    refine ⟨rPut G1 o (c0 + Q.length) 2 x.1, L', ?_, e2, e3.tr (rPut_fe G1 o r x.2.1.length (Nat.le_refl _) _ _) (pVar_le hp).2.1 (Nat.le_refl _), hX1.put 2 x.1⟩
    rw [e0, e1, Option.bind_some, l_put hX1.1 e2.1 hX1.2.2.2.2.1 (by omega)]
    rfl
theorem l_prim_val {cb : Nat} {e : xG_ → Option xG_} (hf : n + 20 < f) (hcb : cb + n + 3 ≤ 6200) {G : xG_} {L : Nat → Int} {V : List (Int × Nat)} {Q : pCd} {i c0 : Nat} (hX : rX G q B n lm o r V c0 Q b) (hA : rAt q B n lm i L) (hc : c0 + Q.length ≤ cb + i) (c1 : ¬ kK (tstr B n lm) i = 2) (c2 : ¬ kK (tstr B n lm) i = 40) :
    pok (pbind (pVal (tstr B n lm) i) fun r => .inr (V, Q ++ [(1, r.1)], r.2)) (fun w => ∃ G' L', g241 e f (xlx G L) = some (xlx G' L') ∧ L' 7 = (q : Int) + w ∧ xfe o r V.length (c0 + Q.length) G G' ∧ 0 ≤ G' (o + 20) r ∧ G' (o + 20) r ≤ 8)
      (fun x => ∃ G' L', g241 e f (xlx G L) = some (xlx G' L') ∧ rAt q B n lm x.2.2 L' ∧ xfe o r V.length (c0 + Q.length) G G' ∧ rX G' q B n lm o r x.1 c0 x.2.1 b) := by
  have hX' := hX
  obtain ⟨hE, h23, hr, hV, h37, hCo, h25⟩ := hX'
  have hin := hA.le hE.1.2.1
  have ho := hE.2.2.2.2
  have htk := hA.tk hE.1.2.1
  obtain ⟨t4, tsg, tn, tv, tu, tnum, tend, tn9, tv9, tnum9, t6, t5, tlt, t3⟩ := htk
  have h7 := hA.1
  have h1 := l_value (f := f) hf hE hA
  have e0 := l_prim_e (e := e) (f := f) hE hA
  rw [if_neg c1, if_neg c2] at e0
  cases hp : pVal (tstr B n lm) i with
  | inl w =>
    rw [hp] at h1
    obtain ⟨L', e1, e2⟩ := h1
    refine ⟨G, L', ?_, e2, .rf _ _ _ _ _, ?_⟩
    · rw [e0, e1, Option.bind_some, if_pos rfl]
    · have := hV.1; have := hV.2.1; omega
  | inr x =>
    rw [hp] at h1
    obtain ⟨L', e1, e2, _, _⟩ := h1
    have f1 : xfe o r V.length (c0 + Q.length) G (xup2 G 0 21 x.1) := xfe.up G (by omega)
    have hX1 : rX (xup2 G 0 21 x.1) q B n lm o r V c0 Q b := ⟨hE.fe f1, by rw [xup2_n (by omega)]; exact h23, hr, hV.ot (fun j => xup2_n (by omega)) (fun j => xup2_n (by omega)) (fun j => xup2_n (by omega)), by rw [xup2_n (by omega)]; exact h37, hCo.fe f1 (Nat.le_refl _), by rw [xup2_n (by omega)]; exact h25⟩
    refine ⟨rPut (xup2 G 0 21 x.1) o (c0 + Q.length) 1 x.1, L', ?_, e2, f1.tr (rPut_fe _ o r V.length (Nat.le_refl _) _ _) (Nat.le_refl _) (Nat.le_refl _), hX1.put 1 x.1⟩
    rw [e0, e1]
    simp only [Option.bind_some]
    rw [if_neg (by decide), xlx_o _ _ (by omega), xup2_s, l_put hX1.1 e2.1 hX1.2.2.2.2.1 (by omega)]
    rfl
theorem l_par4 {e : xG_ → Option xG_} {G : xG_} {L : Nat → Int} (hq : rXB e) (hC : rC G) (hbad : L 7 ≠ -1) (h25 : G 0 25 = 4) : g241_48 e f (xlx G L) = some (xlx (xup2 (xup2 G 0 25 5) 0 25 4) L) := by
  have g25 : xlx (xup2 G 0 25 5) L 0 25 = 5 := rfl
  unfold g241_48 g241_101
  rw [xlx_o G _ (by omega), h25, xwr_g _ (by decide) (by decide), xlx_upo _ _ _ (by omega)]
  simp only [Option.bind_some]
  rw [show (4 : Int) + 1 = 5 from rfl, l_pass_bad hbad]
  simp only [Option.bind_some]
  rw [hq _ _ (hC.u rfl) hbad]
  simp only [Option.bind_some]
  rw [g25, xwr_g _ (by decide) (by decide), xlx_upo _ _ _ (by omega), show (5 : Int) - 1 = 4 from rfl, l_need_bad hbad]
  rfl
theorem l_prim_par {cb F : Nat} {e : xG_ → Option xG_} (hf : n + 20 < f) (hcb : cb + n + 3 ≤ 6200) (hb : b ≤ 4) (hq : rXB e) (hQ : b < 4 → rXP f q B n lm o r cb 1 (b + 1) e) {G : xG_} {L : Nat → Int} {V : List (Int × Nat)} {Q : pCd} {i c0 : Nat} (hX : rX G q B n lm o r V c0 Q b) (hA : rAt q B n lm i L) (hc : c0 + Q.length ≤ cb + i) (hF : 4 * (n + 1 - i) + 1 ≤ F + 1) (c2 : kK (tstr B n lm) i = 40) :
    pok (if b = 4 then .inl (kS (tstr B n lm) i) else pbind (pX (tstr B n lm) F 1 (b + 1) (V, Q, i + 1)) fun e' => pbind (pNeed (tstr B n lm) 41 e'.2.2) fun i => .inr (e'.1, e'.2.1, i)) (fun w => ∃ G' L', g241 e f (xlx G L) = some (xlx G' L') ∧ L' 7 = (q : Int) + w ∧ xfe o r V.length (c0 + Q.length) G G' ∧ 0 ≤ G' (o + 20) r ∧ G' (o + 20) r ≤ 8)
      (fun x => ∃ G' L', g241 e f (xlx G L) = some (xlx G' L') ∧ rAt q B n lm x.2.2 L' ∧ xfe o r V.length (c0 + Q.length) G G' ∧ rX G' q B n lm o r x.1 c0 x.2.1 b) := by
  have hX' := hX
  obtain ⟨hE, h23, hr, hV, h37, hCo, h25⟩ := hX'
  have hin := hA.le hE.1.2.1
  have ho := hE.2.2.2.2
  have htk := hA.tk hE.1.2.1
  obtain ⟨t4, tsg, tn, tv, tu, tnum, tend, tn9, tv9, tnum9, t6, t5, tlt, t3⟩ := htk
  have h7 := hA.1
  have s40 := tsg 40 (by unfold isSg; omega)
  rw [show rsc 40 = 40 from rfl] at s40
  have e0 := l_prim_e (e := e) (f := f) hE hA
  rw [if_neg (by omega), if_pos c2, h25] at e0
  have k2 := s40.mpr c2
  have h6 : L 6 = -1 := by rw [t6, k2.1]; rfl
  by_cases c4 : b = 4
  · rw [if_pos c4]
    rw [if_neg (by omega)] at e0
    have hbad : xu L 7 (L 4) 7 ≠ -1 := by show L 4 ≠ -1; omega
    refine ⟨xup2 (xup2 G 0 25 5) 0 25 4, xu L 7 (L 4), ?_, t4, ((xfe.up G (by omega)).tr (xfe.up _ (by omega)) (Nat.le_refl _) (Nat.le_refl _)), ?_⟩
    · rw [e0, l_par4 hq hE.2.2.1 hbad (by rw [h25, c4]; rfl)]
    · rw [xup2_n (by omega), xup2_n (by omega)]
      have := hV.1; have := hV.2.1; omega
  · rw [if_neg c4]
    rw [if_pos (by omega)] at e0
    have hE1 : rEv (xup2 G 0 25 ((b + 1 : Nat) : Int)) q B n lm o := hE.u (by omega)
    obtain ⟨L1, p1, p2⟩ := l_pass hf hE1 hA h6 (by omega) (by omega)
    have f0 : xfe o r V.length (c0 + Q.length) G (xup2 G 0 25 ((b + 1 : Nat) : Int)) := xfe.up G (by omega)
    have hX1 : rX (xup2 G 0 25 ((b + 1 : Nat) : Int)) q B n lm o r V c0 Q (b + 1) := ⟨hE1, by rw [xup2_n (by omega)]; exact h23, hr, hV.ot (fun j => xup2_n (by omega)) (fun j => xup2_n (by omega)) (fun j => xup2_n (by omega)), by rw [xup2_n (by omega)]; exact h37, hCo.fe f0 (Nat.le_refl _), xup2_s _ _ _ _⟩
    have h1 := hQ (by omega) F _ L1 V Q (i + 1) c0 (by rw [if_pos (.inl rfl)]; omega) hX1 p2 (by omega)
    have e1 : g241_48 e f (xlx G L) = (e (xlx (xup2 G 0 25 ((b + 1 : Nat) : Int)) L1)).bind fun R110 => ((some (xup2 R110 (0) 25 (xwr ((R110 (0) 25) - (1))))).bind fun G118 => ((g222 f (41) G118).bind fun R119 => some R119)) := by
      unfold g241_48 g241_101
      rw [xlx_o G _ (by omega), h25, xwr_g _ (by omega) (by omega), xlx_upo _ _ _ (by omega)]
      simp only [Option.bind_some]
      rw [show (b : Int) + 1 = ((b + 1 : Nat) : Int) by omega, p1]
      simp only [Option.bind_some]
    rw [e1] at e0
    cases hp : pX (tstr B n lm) F 1 (b + 1) (V, Q, i + 1) with
    | inl w =>
      rw [hp] at h1
      obtain ⟨G1, L', e2, e3, e4, e5, e6⟩ := h1
      have hbad : L' 7 ≠ -1 := by omega
      refine ⟨xup2 G1 0 25 (xwr (G1 0 25 - 1)), L', ?_, e3, (f0.tr e4 (Nat.le_refl _) (Nat.le_refl _)).tr (xfe.up _ (by omega)) (Nat.le_refl _) (Nat.le_refl _), by rw [xup2_n (by omega)]; omega⟩
      rw [e0, e2]
      simp only [Option.bind_some]
      rw [xlx_o G1 L' (by omega), xlx_upo _ _ _ (by omega), l_need_bad hbad]
      rfl
    | inr x =>
      rw [hp] at h1
      obtain ⟨G1, L2, e2, e3, e4, e5⟩ := h1
      have e5' := e5
      obtain ⟨b1, b2, b3, b4, b5, b6, b7⟩ := e5'
      have hE2 : rEv (xup2 G1 0 25 (b : Int)) q B n lm o := b1.u (by omega)
      have hx25 : xwr (((b + 1 : Nat) : Int) - 1) = (b : Int) := by rw [xwr_g _ (by omega) (by omega)]; omega
      have f2 : xfe o r V.length (c0 + Q.length) G (xup2 G1 0 25 (b : Int)) := (f0.tr e4 (Nat.le_refl _) (Nat.le_refl _)).tr (xfe.up _ (by omega)) (Nat.le_refl _) (Nat.le_refl _)
      have f3 : xfe o r x.1.length (c0 + x.2.1.length) G1 (xup2 G1 0 25 (b : Int)) := xfe.up _ (by omega)
      show pok (pbind (pNeed (tstr B n lm) 41 x.2.2) fun i => .inr (x.1, x.2.1, i)) _ _
      unfold pNeed
      rw [e2] at e0
      simp only [Option.bind_some] at e0
      rw [xlx_o G1 L2 (by omega), b7, hx25, xlx_upo _ _ _ (by omega), show (41 : Int) = rsc 41 from rfl] at e0
      by_cases c5 : kK (tstr B n lm) x.2.2 = 41
      · rw [if_pos c5]
        obtain ⟨L3, n1, n2⟩ := l_need hf hE2 e3 (c := 41) (by unfold isSg; omega) c5
        refine ⟨_, L3, ?_, n2, f2, ⟨hE2, by rw [xup2_n (by omega)]; exact b2, b3, b4.ot (fun j => xup2_n (by omega)) (fun j => xup2_n (by omega)) (fun j => xup2_n (by omega)), by rw [xup2_n (by omega)]; exact b5, b6.fe f3 (Nat.le_refl _), xup2_s _ _ _ _⟩⟩
        rw [e0, n1]
        rfl
      · rw [if_neg c5]
        have n1 := l_need_no (f := f) hE2 e3 (c := 41) (by unfold isSg; omega) c5
        refine ⟨_, xu L2 7 ((q : Int) + kS (tstr B n lm) x.2.2), ?_, rfl, f2, by rw [xup2_n (by omega)]; have := b4.1; have := b4.2.1; omega⟩
        rw [e0, n1]
        rfl
theorem l_prim {cb : Nat} {e : xG_ → Option xG_} (hf : n + 20 < f) (hcb : cb + n + 3 ≤ 6200) (hb : b ≤ 4) (hq : rXB e) (hQ : b < 4 → rXP f q B n lm o r cb 1 (b + 1) e) : rXP f q B n lm o r cb 0 b (g241 e f) := by
  intro F G L V Q i c0 hF hX hA hc
  rw [if_neg (by decide)] at hF
  obtain ⟨F, rfl⟩ : ∃ t, F = t + 1 := ⟨F - 1, by omega⟩
  rw [pX_0]
  by_cases c1 : kK (tstr B n lm) i = 2
  · rw [if_pos c1]
    exact l_prim_var hf hcb hX hA hc c1
  · rw [if_neg c1]
    by_cases c2 : kK (tstr B n lm) i = 40
    · rw [if_pos c2]
      exact l_prim_par hf hcb hb hq hQ hX hA hc hF c2
    · rw [if_neg c2]
      exact l_prim_val hf hcb hX hA hc c1 c2
end
end
section
/-! The reference reads EXPRESSIONS: signs between operands; all of it -/
section
variable {f q n o r b cb : Nat} {B : Nat → Int} {lm : Bool} {e : xG_ → Option xG_}
theorem l_isOf0 {G : xG_} {L : Nat → Int} : g242 f 0 (xlx G L) = some (if L 7 = -1 ∧ L 2 = 6 ∧ (L 3 = 43 ∨ L 3 = 45) then 1 else 0, xlx G L) := by
  unfold g242 g242_31 g242_57 g242_62
  simp only [xlx_2, xlx_3, xlx_4, xlx_5, xlx_6, xlx_7, xlx_8, xlx_9, xlx_10, xlx_u2, xlx_u3, xlx_u4, xlx_u5, xlx_u6, xlx_u7, xlx_u8, xlx_u9, xlx_u10, xu_e, eq_self, reduceIte, Nat.reduceEqDiff, if_true, if_false, not_true_eq_false, not_false_eq_true, Option.bind_some, i10, i01, true_and, false_and, and_false, ne_eq, Int.reduceEq, Int.reduceNeg, l_sign]
  grind
theorem l_isOf1 {G : xG_} {L : Nat → Int} : g242 f 1 (xlx G L) = some (if L 7 = -1 ∧ L 2 = 6 ∧ (L 3 = 42 ∨ L 3 = 47 ∨ L 3 = 37) then 1 else 0, xlx G L) := by
  unfold g242 g242_31 g242_57 g242_62
  simp only [xlx_2, xlx_3, xlx_4, xlx_5, xlx_6, xlx_7, xlx_8, xlx_9, xlx_10, xlx_u2, xlx_u3, xlx_u4, xlx_u5, xlx_u6, xlx_u7, xlx_u8, xlx_u9, xlx_u10, xu_e, eq_self, reduceIte, Nat.reduceEqDiff, if_true, if_false, not_true_eq_false, not_false_eq_true, Option.bind_some, i10, i01, true_and, false_and, and_false, ne_eq, Int.reduceEq, Int.reduceNeg, l_sign]
  grind
theorem l_strong {G : xG_} {L : Nat → Int} {i : Nat} (hB : tTx B n) (hA : rAt q B n lm i L) : g242 f 1 (xlx G L) = some (if kK (tstr B n lm) i = 42 ∨ kK (tstr B n lm) i = 47 ∨ kK (tstr B n lm) i = 37 then 1 else 0, xlx G L) := by
  obtain ⟨t4, tsg, tn, tv, tu, tnum, tend, tn9, tv9, tnum9, t6, t5, tlt, t3⟩ := hA.tk hB
  have a1 := tsg 42 (by unfold isSg; omega)
  have a2 := tsg 47 (by unfold isSg; omega)
  have a3 := tsg 37 (by unfold isSg; omega)
  rw [show rsc 42 = 42 from rfl] at a1
  rw [show rsc 47 = 47 from rfl] at a2
  rw [show rsc 37 = 37 from rfl] at a3
  have h7 := hA.1
  rw [l_isOf1]
  have : (L 7 = -1 ∧ L 2 = 6 ∧ (L 3 = 42 ∨ L 3 = 47 ∨ L 3 = 37)) ↔ (kK (tstr B n lm) i = 42 ∨ kK (tstr B n lm) i = 47 ∨ kK (tstr B n lm) i = 37) := by omega
  simp only [this]
theorem l_weak {G : xG_} {L : Nat → Int} {i : Nat} (hB : tTx B n) (hA : rAt q B n lm i L) : g242 f 0 (xlx G L) = some (if kK (tstr B n lm) i = 43 ∨ kK (tstr B n lm) i = 45 then 1 else 0, xlx G L) := by
  obtain ⟨t4, tsg, tn, tv, tu, tnum, tend, tn9, tv9, tnum9, t6, t5, tlt, t3⟩ := hA.tk hB
  have a1 := tsg 43 (by unfold isSg; omega)
  have a2 := tsg 45 (by unfold isSg; omega)
  rw [show rsc 43 = 43 from rfl] at a1
  rw [show rsc 45 = 45 from rfl] at a2
  have h7 := hA.1
  rw [l_isOf0]
  have : (L 7 = -1 ∧ L 2 = 6 ∧ (L 3 = 43 ∨ L 3 = 45)) ↔ (kK (tstr B n lm) i = 43 ∨ kK (tstr B n lm) i = 45) := by omega
  simp only [this]
theorem l_isOf_bad {G : xG_} {L : Nat → Int} (h : L 7 ≠ -1) {a : Int} (ha : a = 0 ∨ a = 1) : g242 f a (xlx G L) = some (0, xlx G L) := by
  rcases ha with rfl | rfl
  · rw [l_isOf0]
    simp [h]
  · rw [l_isOf1]
    simp [h]
theorem l_prod_bad (hf : 0 < f) : rXB (g245 e f) := by
  intro G L hC h
  obtain ⟨g, rfl⟩ : ∃ g, f = g + 1 := ⟨f - 1, by omega⟩
  unfold g245
  show g245_0b e (g245_0 e (g + 1) g) (g + 1) _ = _
  unfold g245_0b
  rw [l_isOf_bad h (by omega)]
  rfl
/-- a sign at which the reference is -/
theorem rAt.sg {G : xG_} {L : Nat → Int} {i : Nat} {k : Int} (hf : n + 20 < f) (hE : rEv G q B n lm o) (hA : rAt q B n lm i L) (hK : kK (tstr B n lm) i = k) (hk : isSg k) : L 3 = rsc k ∧ ∃ L', g213 f (xlx G L) = some (xlx G L') ∧ rAt q B n lm (i + 1) L' := by
  obtain ⟨t4, tsg, tn, tv, tu, tnum, tend, tn9, tv9, tnum9, t6, t5, tlt, t3⟩ := hA.tk hE.1.2.1
  have a1 := (tsg k hk).mpr hK
  have h6 : L 6 = -1 := by rw [t6, a1.1]; rfl
  unfold isSg at hk
  exact ⟨a1.2, l_pass hf hE hA h6 (by omega) (by omega)⟩
theorem l_prod (hf : n + 20 < f) (hcb : cb + n + 3 ≤ 6200) (hP : rXP f q B n lm o r cb 0 b (g241 e f)) (hPB : rXB (g241 e f)) : ∀ (k fu : Nat), k < fu → ∀ (F : Nat) (G : xG_) (L : Nat → Int) (V : List (Int × Nat)) (Q : pCd) (i c0 : Nat), n + 1 - i ≤ k → 4 * (n + 1 - i) + 1 ≤ F → rX G q B n lm o r V c0 Q b → rAt q B n lm i L → c0 + Q.length ≤ cb + i →
    pok (pX (tstr B n lm) F 3 b (V, Q, i)) (fun w => ∃ G' L', g245_0 e f fu (xlx G L) = some (xlx G' L') ∧ L' 7 = (q : Int) + w ∧ xfe o r V.length (c0 + Q.length) G G' ∧ 0 ≤ G' (o + 20) r ∧ G' (o + 20) r ≤ 8)
      (fun x => ∃ G' L', g245_0 e f fu (xlx G L) = some (xlx G' L') ∧ rAt q B n lm x.2.2 L' ∧ xfe o r V.length (c0 + Q.length) G G' ∧ rX G' q B n lm o r x.1 c0 x.2.1 b) := by
  intro k
  induction k with
  | zero =>
    intro fu _ F G L V Q i c0 hk hF hX hA hc
    have := hA.le hX.1.1.2.1
    omega
  | succ k ih =>
    intro fu hfu F G L V Q i c0 hk hF hX hA hc
    obtain ⟨fu, rfl⟩ : ∃ t, fu = t + 1 := ⟨fu - 1, by omega⟩
    obtain ⟨F, rfl⟩ : ∃ t, F = t + 1 := ⟨F - 1, by omega⟩
    have hB := hX.1.1.2.1
    have hi := hA.le hB
    rw [pX_3]
    have es : g245_0 e f (fu + 1) (xlx G L) = g245_0b e (g245_0 e f fu) f (xlx G L) := rfl
    rw [es]
    unfold g245_0b
    rw [l_strong hB hA]
    simp only [Option.bind_some, i10]
    by_cases c : kK (tstr B n lm) i = 42 ∨ kK (tstr B n lm) i = 47 ∨ kK (tstr B n lm) i = 37
    · simp only [if_pos c, if_neg (fun q : ¬ _ => q c)]
      obtain ⟨h3, L1, e1, a1⟩ := hA.sg (f := f) hf hX.1 rfl (by unfold isSg; omega)
      have h3' : L 3 = kK (tstr B n lm) i := by rw [h3]; unfold rsc; rw [if_neg (by omega)]
      rw [e1]
      simp only [Option.bind_some]
      have h1 := hP F G L1 V Q (i + 1) c0 (by rw [if_neg (by decide)]; omega) hX a1 (by omega)
      cases hp : pX (tstr B n lm) F 0 b (V, Q, i + 1) with
      | inl w =>
        rw [hp] at h1
        obtain ⟨G1, L2, e2, e3, e4, e5⟩ := h1
        have hbad : L2 7 ≠ -1 := by omega
        refine ⟨G1, L2, ?_, e3, e4, e5⟩
        rw [e2]
        simp only [Option.bind_some]
        rw [l_put_bad hbad]
        simp only [Option.bind_some]
        have hC1 : rC G1 := (hX.1.fe e4).2.2.1
        have := l_prod_bad (f := f) (e := e) (by omega) G1 L2 hC1 hbad
        obtain ⟨fu, rfl⟩ : ∃ t, fu = t + 1 := ⟨fu - 1, by omega⟩
        show g245_0b e (g245_0 e f fu) f _ = _
        unfold g245_0b
        rw [l_isOf_bad hbad (by omega)]
        rfl
      | inr x =>
        rw [hp] at h1
        obtain ⟨G1, L2, e2, e3, e4, e5⟩ := h1
        have hle := pX_le F 0 b (V, Q, i + 1) x (by decide) hp
        simp only at hle
        have hi2 := e3.le hB
        have h2 := ih fu (by omega) F (rPut G1 o (c0 + x.2.1.length) 3 (kK (tstr B n lm) i)) L2 x.1 (x.2.1 ++ [(3, kK (tstr B n lm) i)]) x.2.2 c0 (by omega) (by omega) (e5.put 3 _) e3 (by rw [len1]; omega)
        have e6 : (g241 e f (xlx G L1)).bind (fun R112 => (g240 f 3 (xlx G L 0 3) R112).bind fun R117 => g245_0 e f fu R117) = g245_0 e f fu (xlx (rPut G1 o (c0 + x.2.1.length) 3 (kK (tstr B n lm) i)) L2) := by
          rw [e2]
          simp only [Option.bind_some]
          rw [xlx_3, h3', l_put e5.1 e3.1 e5.2.2.2.2.1 (by omega)]
          rfl
        rw [e6]
        have hfe := e4.tr (rPut_fe G1 o r x.1.length (Nat.le_refl (c0 + x.2.1.length)) 3 (kK (tstr B n lm) i)) hle.2.2.2.2.1 (by omega)
        show pok (pX (tstr B n lm) F 3 b (x.1, x.2.1 ++ [(3, kK (tstr B n lm) i)], x.2.2)) _ _
        cases hp2 : pX (tstr B n lm) F 3 b (x.1, x.2.1 ++ [(3, kK (tstr B n lm) i)], x.2.2) with
        | inl w =>
          rw [hp2] at h2
          obtain ⟨G2, L3, d1, d2, d3, d4⟩ := h2
          exact ⟨G2, L3, d1, d2, hfe.tr d3 hle.2.2.2.2.1 (by rw [len1]; omega), d4⟩
        | inr y =>
          rw [hp2] at h2
          obtain ⟨G2, L3, d1, d2, d3, d4⟩ := h2
          exact ⟨G2, L3, d1, d2, hfe.tr d3 hle.2.2.2.2.1 (by rw [len1]; omega), d4⟩
    · simp only [if_pos c, if_neg c]
      exact ⟨G, L, rfl, hA, .rf _ _ _ _ _, hX⟩
theorem l_more_bad (hf : 0 < f) : rXB (g244 e f) := by
  intro G L hC h
  unfold g244
  rw [l_prod_bad hf G L hC h]
  simp only [Option.bind_some]
  obtain ⟨g, hg⟩ : ∃ g, f = g + 1 := ⟨f - 1, by omega⟩
  have : g244_4 e f f (xlx G L) = g244_4b e (g244_4 e f g) f (xlx G L) := by rw [hg]; rfl
  rw [this]
  unfold g244_4b
  rw [l_isOf_bad h (by omega)]
  rfl
theorem l_sums (hf : n + 20 < f) (hcb : cb + n + 3 ≤ 6200) (hP : rXP f q B n lm o r cb 0 b (g241 e f)) (hPB : rXB (g241 e f)) : ∀ (k fu : Nat), k < fu → ∀ (F : Nat) (G : xG_) (L : Nat → Int) (V : List (Int × Nat)) (Q : pCd) (i c0 : Nat), n + 1 - i ≤ k → 4 * (n + 1 - i) + 1 ≤ F → rX G q B n lm o r V c0 Q b → rAt q B n lm i L → c0 + Q.length ≤ cb + i →
    pok (pX (tstr B n lm) F 4 b (V, Q, i)) (fun w => ∃ G' L', g244_4 e f fu (xlx G L) = some (xlx G' L') ∧ L' 7 = (q : Int) + w ∧ xfe o r V.length (c0 + Q.length) G G' ∧ 0 ≤ G' (o + 20) r ∧ G' (o + 20) r ≤ 8)
      (fun x => ∃ G' L', g244_4 e f fu (xlx G L) = some (xlx G' L') ∧ rAt q B n lm x.2.2 L' ∧ xfe o r V.length (c0 + Q.length) G G' ∧ rX G' q B n lm o r x.1 c0 x.2.1 b) := by
  intro k
  induction k with
  | zero =>
    intro fu _ F G L V Q i c0 hk hF hX hA hc
    have := hA.le hX.1.1.2.1
    omega
  | succ k ih =>
    intro fu hfu F G L V Q i c0 hk hF hX hA hc
    obtain ⟨fu, rfl⟩ : ∃ t, fu = t + 1 := ⟨fu - 1, by omega⟩
    obtain ⟨F, rfl⟩ : ∃ t, F = t + 1 := ⟨F - 1, by omega⟩
    have hB := hX.1.1.2.1
    have hi := hA.le hB
    rw [pX_4]
    have es : g244_4 e f (fu + 1) (xlx G L) = g244_4b e (g244_4 e f fu) f (xlx G L) := rfl
    rw [es]
    unfold g244_4b
    rw [l_weak hB hA]
    simp only [Option.bind_some, i10]
    by_cases c : kK (tstr B n lm) i = 43 ∨ kK (tstr B n lm) i = 45
    · simp only [if_pos c, if_neg (fun q : ¬ _ => q c)]
      obtain ⟨h3, L1, e1, a1⟩ := hA.sg (f := f) hf hX.1 rfl (by unfold isSg; omega)
      have h3' : L 3 = kK (tstr B n lm) i := by rw [h3]; unfold rsc; rw [if_neg (by omega)]
      have bad : ∀ {G1 L2}, rC G1 → L2 7 ≠ -1 → g244_4 e f fu (xlx G1 L2) = some (xlx G1 L2) := by
        intro G1 L2 hC1 hbad
        obtain ⟨fu, rfl⟩ : ∃ t, fu = t + 1 := ⟨fu - 1, by omega⟩
        show g244_4b e (g244_4 e f fu) f _ = _
        unfold g244_4b
        rw [l_isOf_bad hbad (by omega)]
        rfl
      rw [e1]
      simp only [Option.bind_some]
      have h1 := hP F G L1 V Q (i + 1) c0 (by rw [if_neg (by decide)]; omega) hX a1 (by omega)
      cases hp : pX (tstr B n lm) F 0 b (V, Q, i + 1) with
      | inl w =>
        rw [hp] at h1
        obtain ⟨G1, L2, e2, e3, e4, e5⟩ := h1
        have hbad : L2 7 ≠ -1 := by omega
        have hC1 : rC G1 := (hX.1.fe e4).2.2.1
        refine ⟨G1, L2, ?_, e3, e4, e5⟩
        rw [e2]
        simp only [Option.bind_some]
        rw [l_prod_bad (by omega) G1 L2 hC1 hbad]
        simp only [Option.bind_some]
        rw [l_put_bad hbad]
        simp only [Option.bind_some]
        exact bad hC1 hbad
      | inr x =>
        rw [hp] at h1
        obtain ⟨G1, L2, e2, e3, e4, e5⟩ := h1
        have hle := pX_le F 0 b (V, Q, i + 1) x (by decide) hp
        simp only at hle
        have hi2 := e3.le hB
        have h2 := l_prod hf hcb hP hPB (n + 1) f (by omega) F G1 L2 x.1 x.2.1 x.2.2 c0 (by omega) (by omega) e5 e3 (by omega)
        show pok (pbind (pX (tstr B n lm) F 3 b x) _) _ _
        rw [e2]
        simp only [Option.bind_some]
        have eg : g245 e f (xlx G1 L2) = g245_0 e f f (xlx G1 L2) := rfl
        rw [eg]
        cases hp2 : pX (tstr B n lm) F 3 b x with
        | inl w =>
          have hp2' : pX (tstr B n lm) F 3 b (x.1, x.2.1, x.2.2) = .inl w := hp2
          rw [hp2'] at h2
          obtain ⟨G2, L3, d1, d2, d3, d4⟩ := h2
          have hbad : L3 7 ≠ -1 := by omega
          have hf2 := e4.tr d3 hle.2.2.2.2.1 (by omega)
          refine ⟨G2, L3, ?_, d2, hf2, d4⟩
          rw [d1]
          simp only [Option.bind_some]
          rw [l_put_bad hbad]
          simp only [Option.bind_some]
          exact bad (hX.1.fe hf2).2.2.1 hbad
        | inr y =>
          have hp2' : pX (tstr B n lm) F 3 b (x.1, x.2.1, x.2.2) = .inr y := hp2
          rw [hp2'] at h2
          obtain ⟨G2, L3, d1, d2, d3, d4⟩ := h2
          have hle2 := pX_le F 3 b x y (by decide) hp2
          have hi3 := d2.le hB
          have hf2 := e4.tr d3 hle.2.2.2.2.1 (by omega)
          have h4 := ih fu (by omega) F (rPut G2 o (c0 + y.2.1.length) 3 (kK (tstr B n lm) i)) L3 y.1 (y.2.1 ++ [(3, kK (tstr B n lm) i)]) y.2.2 c0 (by omega) (by omega) (d4.put 3 _) d2 (by rw [len1]; omega)
          have e6 : (g245_0 e f f (xlx G1 L2)).bind (fun R117 => (g240 f 3 (xlx G L 0 3) R117).bind fun R122 => g244_4 e f fu R122) = g244_4 e f fu (xlx (rPut G2 o (c0 + y.2.1.length) 3 (kK (tstr B n lm) i)) L3) := by
            rw [d1]
            simp only [Option.bind_some]
            rw [xlx_3, h3', l_put d4.1 d2.1 d4.2.2.2.2.1 (by omega)]
            rfl
          rw [e6]
          have hfe := hf2.tr (rPut_fe G2 o r y.1.length (Nat.le_refl (c0 + y.2.1.length)) 3 (kK (tstr B n lm) i)) (by omega) (by omega)
          show pok (pX (tstr B n lm) F 4 b (y.1, y.2.1 ++ [(3, kK (tstr B n lm) i)], y.2.2)) _ _
          cases hp3 : pX (tstr B n lm) F 4 b (y.1, y.2.1 ++ [(3, kK (tstr B n lm) i)], y.2.2) with
          | inl w =>
            rw [hp3] at h4
            obtain ⟨G3, L4, k1, k2, k3, k4⟩ := h4
            exact ⟨G3, L4, k1, k2, hfe.tr k3 (by omega) (by rw [len1]; omega), k4⟩
          | inr z =>
            rw [hp3] at h4
            obtain ⟨G3, L4, k1, k2, k3, k4⟩ := h4
            exact ⟨G3, L4, k1, k2, hfe.tr k3 (by omega) (by rw [len1]; omega), k4⟩
    · simp only [if_pos c, if_neg c]
      exact ⟨G, L, rfl, hA, .rf _ _ _ _ _, hX⟩
theorem l_more (hf : n + 20 < f) (hcb : cb + n + 3 ≤ 6200) (hP : rXP f q B n lm o r cb 0 b (g241 e f)) (hPB : rXB (g241 e f)) : rXP f q B n lm o r cb 2 b (g244 e f) := by
  intro F G L V Q i c0 hF hX hA hc
  rw [if_pos (.inr rfl)] at hF
  obtain ⟨F, rfl⟩ : ∃ t, F = t + 1 := ⟨F - 1, by omega⟩
  have hB := hX.1.1.2.1
  rw [pX_2]
  unfold g244
  have eg : g245 e f (xlx G L) = g245_0 e f f (xlx G L) := rfl
  rw [eg]
  have h1 := l_prod hf hcb hP hPB (n + 1) f (by omega) F G L V Q i c0 (by omega) (by omega) hX hA hc
  cases hp : pX (tstr B n lm) F 3 b (V, Q, i) with
  | inl w =>
    rw [hp] at h1
    obtain ⟨G1, L2, e2, e3, e4, e5⟩ := h1
    have hbad : L2 7 ≠ -1 := by omega
    refine ⟨G1, L2, ?_, e3, e4, e5⟩
    have := l_more_bad (f := f) (e := e) (by omega) G1 L2 (hX.1.fe e4).2.2.1 hbad
    unfold g244 at this
    rw [l_prod_bad (by omega) G1 L2 (hX.1.fe e4).2.2.1 hbad] at this
    rw [e2]
    exact this
  | inr x =>
    rw [hp] at h1
    obtain ⟨G1, L2, e2, e3, e4, e5⟩ := h1
    have hle := pX_le F 3 b (V, Q, i) x (by decide) hp
    simp only at hle
    have h2 := l_sums hf hcb hP hPB (n + 1) f (by omega) F G1 L2 x.1 x.2.1 x.2.2 c0 (by omega) (by omega) e5 e3 (by omega)
    rw [e2]
    simp only [Option.bind_some]
    show pok (pX (tstr B n lm) F 4 b (x.1, x.2.1, x.2.2)) _ _
    cases hp2 : pX (tstr B n lm) F 4 b (x.1, x.2.1, x.2.2) with
    | inl w =>
      rw [hp2] at h2
      obtain ⟨G3, L4, k1, k2, k3, k4⟩ := h2
      exact ⟨G3, L4, k1, k2, e4.tr k3 (by omega) (by omega), k4⟩
    | inr z =>
      rw [hp2] at h2
      obtain ⟨G3, L4, k1, k2, k3, k4⟩ := h2
      exact ⟨G3, L4, k1, k2, e4.tr k3 (by omega) (by omega), k4⟩
theorem l_expb_bad (hf : 0 < f) (hq : rXB e) : rXB (g243b e f) := by
  intro G L hC h
  unfold g243b
  rw [l_prim_bad hq G L hC h]
  simp only [Option.bind_some]
  rw [l_more_bad hf G L hC h]
  rfl
theorem l_expb (hf : n + 20 < f) (hcb : cb + n + 3 ≤ 6200) (hb : b ≤ 4) (hq : rXB e) (hQ : b < 4 → rXP f q B n lm o r cb 1 (b + 1) e) : rXP f q B n lm o r cb 1 b (g243b e f) := by
  intro F G L V Q i c0 hF hX hA hc
  rw [if_pos (.inl rfl)] at hF
  obtain ⟨F, rfl⟩ : ∃ t, F = t + 1 := ⟨F - 1, by omega⟩
  have hP := l_prim hf hcb hb hq hQ
  have hPB := l_prim_bad (f := f) hq
  rw [pX_1]
  unfold g243b
  have h1 := hP F G L V Q i c0 (by rw [if_neg (by decide)]; omega) hX hA hc
  have hin := hA.le hX.1.1.2.1
  cases hp : pX (tstr B n lm) F 0 b (V, Q, i) with
  | inl w =>
    rw [hp] at h1
    obtain ⟨G1, L2, e2, e3, e4, e5⟩ := h1
    have hbad : L2 7 ≠ -1 := by omega
    refine ⟨G1, L2, ?_, e3, e4, e5⟩
    rw [e2]
    simp only [Option.bind_some]
    rw [l_more_bad (by omega) G1 L2 (hX.1.fe e4).2.2.1 hbad]
    rfl
  | inr x =>
    rw [hp] at h1
    obtain ⟨G1, L2, e2, e3, e4, e5⟩ := h1
    have hle := pX_le F 0 b (V, Q, i) x (by decide) hp
    simp only at hle
    have h2 := l_more hf hcb hP hPB F G1 L2 x.1 x.2.1 x.2.2 c0 (by rw [if_pos (.inr rfl)]; omega) e5 e3 (by omega)
    rw [e2]
    simp only [Option.bind_some]
    show pok (pX (tstr B n lm) F 2 b (x.1, x.2.1, x.2.2)) _ _
    cases hp2 : pX (tstr B n lm) F 2 b (x.1, x.2.1, x.2.2) with
    | inl w =>
      rw [hp2] at h2
      obtain ⟨G3, L4, k1, k2, k3, k4⟩ := h2
      exact ⟨G3, L4, by rw [k1]; rfl, k2, e4.tr k3 (by omega) (by omega), k4⟩
    | inr z =>
      rw [hp2] at h2
      obtain ⟨G3, L4, k1, k2, k3, k4⟩ := h2
      exact ⟨G3, L4, by rw [k1]; rfl, k2, e4.tr k3 (by omega) (by omega), k4⟩
theorem l_expr (hf : n + 20 < f) (hcb : cb + n + 3 ≤ 6200) : ∀ (d b : Nat), b ≤ 4 → 5 ≤ b + d → rXP f q B n lm o r cb 1 b (g243r f (d + 1)) := by
  have hbd : ∀ d, rXB (g243r f (d + 1)) := by
    intro d
    induction d with
    | zero =>
      intro G L hC h
      show g243b (g243r f 0) f _ = _
      unfold g243b g241 g241_101
      simp only [xlx_2, xlx_3, xlx_4, xlx_5, xlx_6, xlx_7, xlx_8, xlx_9, xlx_10, xlx_u2, xlx_u3, xlx_u4, xlx_u5, xlx_u6, xlx_u7, xlx_u8, xlx_u9, xlx_u10, xu_e, eq_self, reduceIte, Nat.reduceEqDiff, if_true, if_false, not_true_eq_false, not_false_eq_true, Option.bind_some, i10, i01, true_and, false_and, and_false, ne_eq, Int.reduceEq, Int.reduceNeg, l_kind, l_sign, h, l_value_bad hC h]
      rw [l_more_bad (by omega) G L hC h]
      rfl
    | succ d ih => exact l_expb_bad (by omega) ih
  intro d
  induction d with
  | zero =>
    intro b hb hd
    omega
  | succ d ih =>
    intro b hb hd
    exact l_expb hf hcb hb (hbd d) (fun h => ih (b + 1) (by omega) (by omega))
end
end
section
/-! The reference's NAMES, mentions, numbers -/
/-- what reading of LITERALS changes: x the next LITERAL's place, v0, c0, m0, n0 how many VARIABLES, codes, mentions, NAMES there were -/
def xfl (o r x v0 c0 m0 n0 : Nat) (G G' : xG_) : Prop := ∀ a j, ¬ ((a = 0 ∧ (j = 21 ∨ j = 24 ∨ j = 25)) ∨ (a = o ∧ (j = 8 ∧ r ≠ 24 ∨ j = 14 ∨ j = 37)) ∨ (a = o + 1 ∧ n0 ≤ j ∧ r ≠ 24) ∨ (o + 9 ≤ a ∧ a ≤ o + 12 ∧ m0 ≤ j) ∨ ((a = o + 19 ∨ a = o + 20) ∧ j = r) ∨ ((a = o + 23 ∨ a = o + 24) ∧ 8 * r + v0 ≤ j) ∨ (o + 25 ≤ a ∧ a ≤ o + 30 ∧ x ≤ j) ∨ ((a = o + 31 ∨ a = o + 32) ∧ 4 * x ≤ j) ∨ ((a = o + 33 ∨ a = o + 34) ∧ c0 ≤ j)) → G' a j = G a j
section
variable {o r x v0 c0 m0 n0 x1 v1 c1 m1 n1 : Nat} {G G1 G2 : xG_}
theorem xfl.rf (o r x v0 c0 m0 n0 : Nat) (G : xG_) : xfl o r x v0 c0 m0 n0 G G := fun _ _ _ => rfl
theorem xfl.tr (h : xfl o r x v0 c0 m0 n0 G G1) (h1 : xfl o r x1 v1 c1 m1 n1 G1 G2) (hx : x ≤ x1) (hv : v0 ≤ v1) (hc : c0 ≤ c1) (hm : m0 ≤ m1) (hn : n0 ≤ n1) : xfl o r x v0 c0 m0 n0 G G2 := by
  intro a j hj
  rw [h1 a j (by omega), h a j hj]
theorem xfl.up {a j : Nat} {v : Int} (G : xG_) (h : (a = 0 ∧ (j = 21 ∨ j = 24 ∨ j = 25)) ∨ (a = o ∧ (j = 8 ∧ r ≠ 24 ∨ j = 14 ∨ j = 37)) ∨ (a = o + 1 ∧ n0 ≤ j ∧ r ≠ 24) ∨ (o + 9 ≤ a ∧ a ≤ o + 12 ∧ m0 ≤ j) ∨ ((a = o + 19 ∨ a = o + 20) ∧ j = r) ∨ ((a = o + 23 ∨ a = o + 24) ∧ 8 * r + v0 ≤ j) ∨ (o + 25 ≤ a ∧ a ≤ o + 30 ∧ x ≤ j) ∨ ((a = o + 31 ∨ a = o + 32) ∧ 4 * x ≤ j) ∨ ((a = o + 33 ∨ a = o + 34) ∧ c0 ≤ j)) : xfl o r x v0 c0 m0 n0 G (xup2 G a j v) := by
  intro a' j' hj
  exact xup2_n (fun e => hj (by rw [e.1, e.2]; exact h))
theorem xfe.fl (h : xfe o r v0 c0 G G1) (x m0 n0 : Nat) : xfl o r x v0 c0 m0 n0 G G1 := fun a j hj => h a j (by omega)
end
theorem rEv.fl {G G' : xG_} {q n o r x v0 c0 m0 n0 : Nat} {B : Nat → Int} {lm : Bool} (h : rEv G q B n lm o) (hf : xfl o r x v0 c0 m0 n0 G G') : rEv G' q B n lm o := by
  obtain ⟨⟨a1, a2, a3, a4, a5⟩, b, c, d, e⟩ := h
  have g0 : ∀ j, j ≤ 20 ∨ j = 22 → G' 0 j = G 0 j := fun j hj => hf 0 j (by omega)
  have gb : ∀ j, G' (G 0 0).toNat j = G (G 0 0).toNat j := fun j => hf _ j (by have := a1.1; omega)
  refine ⟨⟨?_, a2, ?_, ?_, ?_⟩, ?_, ?_, ?_, e⟩
  · unfold gT
    rw [g0 0 (by omega), g0 1 (by omega)]
    exact a1
  · rw [g0 1 (by omega)]; exact a3
  · intro p
    rw [← a4 p]
    unfold gB
    rw [g0 0 (by omega), g0 1 (by omega), gb]
  · intro p hp
    rw [g0 0 (by omega), gb]
    exact a5 p hp
  · rw [g0 11 (by omega)]; exact b
  · unfold rC
    rw [g0 12 (by omega), g0 13 (by omega), g0 14 (by omega), g0 15 (by omega), g0 16 (by omega), g0 17 (by omega), g0 18 (by omega), g0 19 (by omega), g0 20 (by omega)]
    exact c
  · rw [g0 22 (by omega)]; exact d
/-- NAMES, mentions as they stand -/
def rNs (G : xG_) (o : Nat) (N : List Int) : Prop := G o 8 = (N.length : Int) ∧ N.length ≤ 16 ∧ ∀ k, k < N.length → G (o + 1) k = N.getD k 0
def rMs (G : xG_) (o q : Nat) (M : List pMn) : Prop := G o 14 = ((min M.length 420 : Nat) : Int) ∧ ∀ k, k < min M.length 420 → G (o + 9) k = (M.getD k (0, 0, 0, 0)).1 ∧ G (o + 10) k = (q : Int) + (M.getD k (0, 0, 0, 0)).2.1 ∧ G (o + 11) k = (M.getD k (0, 0, 0, 0)).2.2.1 ∧ G (o + 12) k = (M.getD k (0, 0, 0, 0)).2.2.2
theorem pIdx_no {V : List Int} {x : Int} (h : ∀ j, j < V.length → V.getD j 0 ≠ x) : pIdx V x = -1 := by
  have : V.findIdx? (fun y => decide (y = x)) = none := by
    rw [List.findIdx?_eq_none_iff]
    intro y hy
    obtain ⟨j, hj, e⟩ := List.mem_iff_getElem.mp hy
    have := h j hj
    rw [getD_e hj, e] at this
    exact decide_eq_false this
  unfold pIdx
  rw [this]
theorem pIdx_yes {V : List Int} {x : Int} {v : Nat} (hv : v < V.length) (h : ∀ j, j < v → V.getD j 0 ≠ x) (h1 : V.getD v 0 = x) : pIdx V x = v := by
  have : V.findIdx? (fun y => decide (y = x)) = some v := by
    rw [List.findIdx?_eq_some_iff_getElem]
    refine ⟨hv, ?_, fun j hj => ?_⟩
    · rw [getD_e hv] at h1
      exact decide_eq_true h1
    · have := h j hj
      rw [getD_e (by omega)] at this
      simp [this]
  unfold pIdx
  rw [this]
theorem pIdx_in (N : List Int) (x : Int) : pIdx N x = -1 ∨ (0 ≤ pIdx N x ∧ pIdx N x < N.length) := by
  unfold pIdx
  cases h : N.findIdx? (fun y => decide (y = x)) with
  | none => exact .inl rfl
  | some p =>
    obtain ⟨hp, _⟩ := List.findIdx?_eq_some_iff_getElem.mp h
    exact .inr ⟨by show (0 : Int) ≤ (p : Int); omega, by show (p : Int) < _; omega⟩
section
variable {f q n o r i : Nat} {B : Nat → Int} {lm : Bool} {G G' : xG_} {L : Nat → Int} {N : List Int} {M : List pMn}
theorem rNs.idx {x : Int} (ho : 0 < o) (hf : 20 < f) (hN : rNs G o N) : g205 f o x G = some (pIdx N x, G) := by
  obtain ⟨h1, h2, h3⟩ := hN
  have loop : ∀ k v fu, v + k = N.length → k < fu → (∀ j, j < v → N.getD j 0 ≠ x) → g205_2 f fu o x (v : Int) G = some (pIdx N x, G) := by
    intro k
    induction k with
    | zero =>
      intro v fu hk hfu hj
      obtain ⟨fu, rfl⟩ : ∃ t, fu = t + 1 := ⟨fu - 1, by omega⟩
      show g205_2b (g205_2 f fu) f _ _ _ _ = _
      unfold g205_2b
      rw [h1, if_pos (by omega), pIdx_no (fun j hj2 => hj j (by omega))]
    | succ k ih =>
      intro v fu hk hfu hj
      obtain ⟨fu, rfl⟩ : ∃ t, fu = t + 1 := ⟨fu - 1, by omega⟩
      show g205_2b (g205_2 f fu) f _ _ _ _ = _
      unfold g205_2b
      rw [h1, if_neg (by omega), if_pos (by omega), Int.toNat_natCast, h3 v (by omega)]
      by_cases c : N.getD v 0 = x
      · rw [if_neg (fun q => q c), pIdx_yes (by omega) hj c]
      · rw [if_pos c, xwr_g _ (by omega) (by omega), show (v : Int) + 1 = ((v + 1 : Nat) : Int) by omega]
        exact ih (v + 1) fu (by omega) (by omega) (fun j hj2 => by
          by_cases e : j = v
          · rw [e]; exact c
          · exact hj j (by omega))
  exact loop N.length 0 f (by omega) (by omega) (fun j hj => by omega)
theorem rNs.x (hN : rNs G o N) (ho : 0 < o) : rNs (xlx G L) o N := ⟨by rw [xlx_o _ _ (by omega)]; exact hN.1, hN.2.1, fun k hk => by rw [xlx_o _ _ (by omega)]; exact hN.2.2 k hk⟩
/-- the predicate of a NAME -/
theorem l_pred {x a : Int} (hf : 20 < f) (hE : rEv G q B n lm o) (hN : rNs G o N) (h7 : L 7 = -1) :
    g230 f x a (xlx G L) = if pIdx N x = -1 then (if N.length = 16 then some (-1, xlx G (xu L 7 a)) else some ((N.length : Int), xlx (xup2 (xup2 G (o + 1) N.length x) o 8 ((N.length + 1 : Nat) : Int)) L)) else some (pIdx N x, xlx G L) := by
  have h22 := hE.2.2.2.1
  have ho := hE.2.2.2.2
  obtain ⟨h1, h2, h3⟩ := hN
  have hi := rNs.idx (x := x) (by omega) hf (rNs.x (L := L) ⟨h1, h2, h3⟩ (by omega))
  by_cases c1 : pIdx N x = -1
  · rw [if_pos c1]
    rw [c1] at hi
    by_cases c2 : N.length = 16
    · rw [if_pos c2]
      refine xok_is ?_
      unfold g230
      repeat' (first | with_reducible refine xok_sb ?_ | with_reducible refine xok_it (by first | omega | (simp (disch := omega) only [eq_self, not_true_eq_false, not_false_eq_true, true_and, and_true, and_self, xlx_o, xup2_n, xup2_s, xlx_2, xlx_3, xlx_4, xlx_5, xlx_6, xlx_7, xlx_8, xlx_9, xlx_10, Int.toNat_natCast, h22]; done) | (simp (disch := omega) only [eq_self, not_true_eq_false, not_false_eq_true, true_and, and_true, and_self, xlx_o, xup2_n, xup2_s, xlx_2, xlx_3, xlx_4, xlx_5, xlx_6, xlx_7, xlx_8, xlx_9, xlx_10, Int.toNat_natCast, h22]; omega)) ?_ | with_reducible refine xok_if (by first | omega | (simp (disch := omega) only [eq_self, not_true_eq_false, not_false_eq_true, true_and, and_true, and_self, xlx_o, xup2_n, xup2_s, xlx_2, xlx_3, xlx_4, xlx_5, xlx_6, xlx_7, xlx_8, xlx_9, xlx_10, Int.toNat_natCast, h22]; done) | (simp (disch := omega) only [eq_self, not_true_eq_false, not_false_eq_true, true_and, and_true, and_self, xlx_o, xup2_n, xup2_s, xlx_2, xlx_3, xlx_4, xlx_5, xlx_6, xlx_7, xlx_8, xlx_9, xlx_10, Int.toNat_natCast, h22]; omega)) ?_ | fail)
      rw [xlx_o _ _ (by omega), h22, Int.toNat_natCast, hi]
      repeat' (first | with_reducible refine xok_sb ?_ | with_reducible refine xok_it (by first | omega | (simp (disch := omega) only [eq_self, not_true_eq_false, not_false_eq_true, true_and, and_true, and_self, xlx_o, xup2_n, xup2_s, xlx_2, xlx_3, xlx_4, xlx_5, xlx_6, xlx_7, xlx_8, xlx_9, xlx_10, Int.toNat_natCast, h22, h1]; done) | (simp (disch := omega) only [eq_self, not_true_eq_false, not_false_eq_true, true_and, and_true, and_self, xlx_o, xup2_n, xup2_s, xlx_2, xlx_3, xlx_4, xlx_5, xlx_6, xlx_7, xlx_8, xlx_9, xlx_10, Int.toNat_natCast, h22, h1]; omega)) ?_ | with_reducible refine xok_if (by first | omega | (simp (disch := omega) only [eq_self, not_true_eq_false, not_false_eq_true, true_and, and_true, and_self, xlx_o, xup2_n, xup2_s, xlx_2, xlx_3, xlx_4, xlx_5, xlx_6, xlx_7, xlx_8, xlx_9, xlx_10, Int.toNat_natCast, h22, h1]; done) | (simp (disch := omega) only [eq_self, not_true_eq_false, not_false_eq_true, true_and, and_true, and_self, xlx_o, xup2_n, xup2_s, xlx_2, xlx_3, xlx_4, xlx_5, xlx_6, xlx_7, xlx_8, xlx_9, xlx_10, Int.toNat_natCast, h22, h1]; omega)) ?_ | fail)
      rw [l_fail, if_pos h7]
      exact xok_some.mpr rfl
    · rw [if_neg c2]
      refine xok_is ?_
      unfold g230
      repeat' (first | with_reducible refine xok_sb ?_ | with_reducible refine xok_it (by first | omega | (simp (disch := omega) only [eq_self, not_true_eq_false, not_false_eq_true, true_and, and_true, and_self, xlx_o, xup2_n, xup2_s, xlx_2, xlx_3, xlx_4, xlx_5, xlx_6, xlx_7, xlx_8, xlx_9, xlx_10, Int.toNat_natCast, h22]; done) | (simp (disch := omega) only [eq_self, not_true_eq_false, not_false_eq_true, true_and, and_true, and_self, xlx_o, xup2_n, xup2_s, xlx_2, xlx_3, xlx_4, xlx_5, xlx_6, xlx_7, xlx_8, xlx_9, xlx_10, Int.toNat_natCast, h22]; omega)) ?_ | with_reducible refine xok_if (by first | omega | (simp (disch := omega) only [eq_self, not_true_eq_false, not_false_eq_true, true_and, and_true, and_self, xlx_o, xup2_n, xup2_s, xlx_2, xlx_3, xlx_4, xlx_5, xlx_6, xlx_7, xlx_8, xlx_9, xlx_10, Int.toNat_natCast, h22]; done) | (simp (disch := omega) only [eq_self, not_true_eq_false, not_false_eq_true, true_and, and_true, and_self, xlx_o, xup2_n, xup2_s, xlx_2, xlx_3, xlx_4, xlx_5, xlx_6, xlx_7, xlx_8, xlx_9, xlx_10, Int.toNat_natCast, h22]; omega)) ?_ | fail)
      rw [xlx_o _ _ (by omega), h22, Int.toNat_natCast, hi]
      repeat' (first | with_reducible refine xok_sb ?_ | with_reducible refine xok_it (by first | omega | (simp (disch := omega) only [eq_self, not_true_eq_false, not_false_eq_true, true_and, and_true, and_self, xlx_o, xup2_n, xup2_s, xlx_2, xlx_3, xlx_4, xlx_5, xlx_6, xlx_7, xlx_8, xlx_9, xlx_10, Int.toNat_natCast, h22, h1]; done) | (simp (disch := omega) only [eq_self, not_true_eq_false, not_false_eq_true, true_and, and_true, and_self, xlx_o, xup2_n, xup2_s, xlx_2, xlx_3, xlx_4, xlx_5, xlx_6, xlx_7, xlx_8, xlx_9, xlx_10, Int.toNat_natCast, h22, h1]; omega)) ?_ | with_reducible refine xok_if (by first | omega | (simp (disch := omega) only [eq_self, not_true_eq_false, not_false_eq_true, true_and, and_true, and_self, xlx_o, xup2_n, xup2_s, xlx_2, xlx_3, xlx_4, xlx_5, xlx_6, xlx_7, xlx_8, xlx_9, xlx_10, Int.toNat_natCast, h22, h1]; done) | (simp (disch := omega) only [eq_self, not_true_eq_false, not_false_eq_true, true_and, and_true, and_self, xlx_o, xup2_n, xup2_s, xlx_2, xlx_3, xlx_4, xlx_5, xlx_6, xlx_7, xlx_8, xlx_9, xlx_10, Int.toNat_natCast, h22, h1]; omega)) ?_ | fail)
      simp (disch := omega) only [xlx_upo, eq_self, not_true_eq_false, not_false_eq_true, true_and, and_true, and_self, xlx_o, xup2_n, xup2_s, xlx_2, xlx_3, xlx_4, xlx_5, xlx_6, xlx_7, xlx_8, xlx_9, xlx_10, Int.toNat_natCast, h22, h1]
      simp (disch := omega) only [xwr_g, xwl_g]
      refine xok_some.mpr ?_
      rw [show (N.length : Int) + 1 = ((N.length + 1 : Nat) : Int) by omega]
      exact Prod.ext (by show ((N.length + 1 : Nat) : Int) - 1 = (N.length : Int); omega) rfl
  · rw [if_neg c1]
    refine xok_is ?_
    unfold g230
    repeat' (first | with_reducible refine xok_sb ?_ | with_reducible refine xok_it (by first | omega | (simp (disch := omega) only [eq_self, not_true_eq_false, not_false_eq_true, true_and, and_true, and_self, xlx_o, xup2_n, xup2_s, xlx_2, xlx_3, xlx_4, xlx_5, xlx_6, xlx_7, xlx_8, xlx_9, xlx_10, Int.toNat_natCast, h22]; done) | (simp (disch := omega) only [eq_self, not_true_eq_false, not_false_eq_true, true_and, and_true, and_self, xlx_o, xup2_n, xup2_s, xlx_2, xlx_3, xlx_4, xlx_5, xlx_6, xlx_7, xlx_8, xlx_9, xlx_10, Int.toNat_natCast, h22]; omega)) ?_ | with_reducible refine xok_if (by first | omega | (simp (disch := omega) only [eq_self, not_true_eq_false, not_false_eq_true, true_and, and_true, and_self, xlx_o, xup2_n, xup2_s, xlx_2, xlx_3, xlx_4, xlx_5, xlx_6, xlx_7, xlx_8, xlx_9, xlx_10, Int.toNat_natCast, h22]; done) | (simp (disch := omega) only [eq_self, not_true_eq_false, not_false_eq_true, true_and, and_true, and_self, xlx_o, xup2_n, xup2_s, xlx_2, xlx_3, xlx_4, xlx_5, xlx_6, xlx_7, xlx_8, xlx_9, xlx_10, Int.toNat_natCast, h22]; omega)) ?_ | fail)
    rw [xlx_o _ _ (by omega), h22, Int.toNat_natCast, hi]
    repeat' (first | with_reducible refine xok_sb ?_ | with_reducible refine xok_it (by first | omega | (simp (disch := omega) only [eq_self, not_true_eq_false, not_false_eq_true, true_and, and_true, and_self, xlx_o, xup2_n, xup2_s, xlx_2, xlx_3, xlx_4, xlx_5, xlx_6, xlx_7, xlx_8, xlx_9, xlx_10, Int.toNat_natCast, h22, h1]; done) | (simp (disch := omega) only [eq_self, not_true_eq_false, not_false_eq_true, true_and, and_true, and_self, xlx_o, xup2_n, xup2_s, xlx_2, xlx_3, xlx_4, xlx_5, xlx_6, xlx_7, xlx_8, xlx_9, xlx_10, Int.toNat_natCast, h22, h1]; omega)) ?_ | with_reducible refine xok_if (by first | omega | (simp (disch := omega) only [eq_self, not_true_eq_false, not_false_eq_true, true_and, and_true, and_self, xlx_o, xup2_n, xup2_s, xlx_2, xlx_3, xlx_4, xlx_5, xlx_6, xlx_7, xlx_8, xlx_9, xlx_10, Int.toNat_natCast, h22, h1]; done) | (simp (disch := omega) only [eq_self, not_true_eq_false, not_false_eq_true, true_and, and_true, and_self, xlx_o, xup2_n, xup2_s, xlx_2, xlx_3, xlx_4, xlx_5, xlx_6, xlx_7, xlx_8, xlx_9, xlx_10, Int.toNat_natCast, h22, h1]; omega)) ?_ | fail)
    exact xok_some.mpr rfl
theorem rNs.add (hN : rNs G o N) (x : Int) (h : N.length ≠ 16) : rNs (xup2 (xup2 G (o + 1) N.length x) o 8 ((N.length + 1 : Nat) : Int)) o (N ++ [x]) := by
  obtain ⟨h1, h2, h3⟩ := hN
  refine ⟨by rw [len1]; exact xup2_s _ _ _ _, by rw [len1]; omega, fun k hk => ?_⟩
  rw [len1] at hk
  rw [getD_1, xup2_n (by omega), xup2_e]
  by_cases c : k = N.length
  · rw [if_pos ⟨rfl, c⟩, if_pos c]
  · rw [if_neg (by omega), if_neg c]
    exact h3 k (by omega)
/-- a mention -/
def rMen (G : xG_) (o k : Nat) (a b c d : Int) : xG_ := if k = 420 then G else xup2 (xup2 (xup2 (xup2 (xup2 G (o + 9) k a) (o + 10) k b) (o + 11) k c) (o + 12) k d) o 14 ((k + 1 : Nat) : Int)
theorem l_men {a b c d : Int} {k : Nat} (hE : rEv G q B n lm o) (hk : G o 14 = (k : Int)) (hk2 : k ≤ 420) : g229 f a b c d (xlx G L) = some (xlx (rMen G o k a b c d) L) := by
  have h22 := hE.2.2.2.1
  have ho := hE.2.2.2.2
  unfold rMen
  by_cases c1 : k = 420
  · rw [if_pos c1]
    refine xok_is ?_
    unfold g229
    repeat' (first | with_reducible refine xok_sb ?_ | with_reducible refine xok_it (by first | omega | (simp (disch := omega) only [eq_self, not_true_eq_false, not_false_eq_true, true_and, and_true, and_self, xlx_o, xup2_n, xup2_s, xlx_2, xlx_3, xlx_4, xlx_5, xlx_6, xlx_7, xlx_8, xlx_9, xlx_10, Int.toNat_natCast, h22, hk]; done) | (simp (disch := omega) only [eq_self, not_true_eq_false, not_false_eq_true, true_and, and_true, and_self, xlx_o, xup2_n, xup2_s, xlx_2, xlx_3, xlx_4, xlx_5, xlx_6, xlx_7, xlx_8, xlx_9, xlx_10, Int.toNat_natCast, h22, hk]; omega)) ?_ | with_reducible refine xok_if (by first | omega | (simp (disch := omega) only [eq_self, not_true_eq_false, not_false_eq_true, true_and, and_true, and_self, xlx_o, xup2_n, xup2_s, xlx_2, xlx_3, xlx_4, xlx_5, xlx_6, xlx_7, xlx_8, xlx_9, xlx_10, Int.toNat_natCast, h22, hk]; done) | (simp (disch := omega) only [eq_self, not_true_eq_false, not_false_eq_true, true_and, and_true, and_self, xlx_o, xup2_n, xup2_s, xlx_2, xlx_3, xlx_4, xlx_5, xlx_6, xlx_7, xlx_8, xlx_9, xlx_10, Int.toNat_natCast, h22, hk]; omega)) ?_ | fail)
    exact xok_some.mpr rfl
  · rw [if_neg c1]
    refine xok_is ?_
    unfold g229
    repeat' (first | with_reducible refine xok_sb ?_ | with_reducible refine xok_it (by first | omega | (simp (disch := omega) only [eq_self, not_true_eq_false, not_false_eq_true, true_and, and_true, and_self, xlx_o, xup2_n, xup2_s, xlx_2, xlx_3, xlx_4, xlx_5, xlx_6, xlx_7, xlx_8, xlx_9, xlx_10, Int.toNat_natCast, h22, hk]; done) | (simp (disch := omega) only [eq_self, not_true_eq_false, not_false_eq_true, true_and, and_true, and_self, xlx_o, xup2_n, xup2_s, xlx_2, xlx_3, xlx_4, xlx_5, xlx_6, xlx_7, xlx_8, xlx_9, xlx_10, Int.toNat_natCast, h22, hk]; omega)) ?_ | with_reducible refine xok_if (by first | omega | (simp (disch := omega) only [eq_self, not_true_eq_false, not_false_eq_true, true_and, and_true, and_self, xlx_o, xup2_n, xup2_s, xlx_2, xlx_3, xlx_4, xlx_5, xlx_6, xlx_7, xlx_8, xlx_9, xlx_10, Int.toNat_natCast, h22, hk]; done) | (simp (disch := omega) only [eq_self, not_true_eq_false, not_false_eq_true, true_and, and_true, and_self, xlx_o, xup2_n, xup2_s, xlx_2, xlx_3, xlx_4, xlx_5, xlx_6, xlx_7, xlx_8, xlx_9, xlx_10, Int.toNat_natCast, h22, hk]; omega)) ?_ | fail)
    simp (disch := omega) only [xlx_upo, eq_self, not_true_eq_false, not_false_eq_true, true_and, and_true, and_self, xlx_o, xup2_n, xup2_s, xlx_2, xlx_3, xlx_4, xlx_5, xlx_6, xlx_7, xlx_8, xlx_9, xlx_10, Int.toNat_natCast, h22, hk]
    rw [xwr_g _ (by omega) (by omega)]
    exact xok_some.mpr rfl
theorem rMen_o {k a j : Nat} {w x y z : Int} (h : ¬ (o + 9 ≤ a ∧ a ≤ o + 12 ∨ a = o ∧ j = 14)) : rMen G o k w x y z a j = G a j := by
  unfold rMen
  split
  · rfl
  · rw [xup2_n (by omega), xup2_n (by omega), xup2_n (by omega), xup2_n (by omega), xup2_n (by omega)]
theorem rMen_fl {k r x v0 c0 n0 : Nat} {w y z u : Int} (G : xG_) : xfl o r x v0 c0 k n0 G (rMen G o k w y z u) := by
  intro a j hj
  unfold rMen
  split
  · rfl
  · rw [xup2_n (by omega), xup2_n (by omega), xup2_n (by omega), xup2_n (by omega), xup2_n (by omega)]
theorem rMs.add (h : rMs G o q M) (m : pMn) : rMs (rMen G o (min M.length 420) m.1 ((q : Int) + m.2.1) m.2.2.1 m.2.2.2) o q (M ++ [m]) := by
  obtain ⟨h1, h2⟩ := h
  unfold rMen
  by_cases c : min M.length 420 = 420
  · rw [if_pos c]
    refine ⟨by rw [len1, h1]; congr 1; omega, fun k hk => ?_⟩
    rw [len1] at hk
    rw [getD_1, if_neg (by omega)]
    exact h2 k (by omega)
  · rw [if_neg c]
    have e : min M.length 420 = M.length := by omega
    rw [e]
    refine ⟨by rw [len1, xup2_s]; congr 1; omega, fun k hk => ?_⟩
    rw [len1] at hk
    rw [getD_1]
    by_cases c2 : k = M.length
    · rw [if_pos c2, c2]
      simp (disch := omega) only [xup2_n, xup2_s]
      exact ⟨trivial, trivial, trivial, trivial⟩
    · rw [if_neg c2]
      simp (disch := omega) only [xup2_n]
      exact h2 k (by omega)
theorem l_num_bad (h : L 7 ≠ -1) (a b : Int) : g233 f a b (xlx G L) = some (a, xlx G L) := by
  unfold g233 g233_28
  simp only [xlx_2, xlx_3, xlx_4, xlx_5, xlx_6, xlx_7, xlx_8, xlx_9, xlx_10, xlx_u2, xlx_u3, xlx_u4, xlx_u5, xlx_u6, xlx_u7, xlx_u8, xlx_u9, xlx_u10, xu_e, eq_self, reduceIte, Nat.reduceEqDiff, if_true, if_false, not_true_eq_false, not_false_eq_true, Option.bind_some, i10, i01, true_and, false_and, and_false, ne_eq, Int.reduceEq, Int.reduceNeg, l_kind, h, l_fail]
theorem l_num {hi : Int} (hf : n + 20 < f) (hE : rEv G q B n lm o) (hA : rAt q B n lm i L) (hh : hi ≤ 4) :
    pok (pNum (tstr B n lm) hi i) (fun w => ∃ L', g233 f 1 hi (xlx G L) = some (1, xlx G L') ∧ L' 7 = (q : Int) + w)
      (fun x => ∃ L', g233 f 1 hi (xlx G L) = some (x.1, xlx G L') ∧ rAt q B n lm x.2 L' ∧ 1 ≤ x.1 ∧ x.1 ≤ hi) := by
  obtain ⟨t4, tsg, tn, tv, tu, tnum, tend, tn9, tv9, tnum9, t6, t5, tlt, t3⟩ := hA.tk hE.1.2.1
  have h7 := hA.1
  unfold pNum
  by_cases c : kK (tstr B n lm) i = 4 ∧ 1 ≤ kC (tstr B n lm) i ∧ kC (tstr B n lm) i ≤ hi
  · rw [if_pos c]
    have k2 := tnum.mpr ⟨c.1, by omega⟩
    have k9 := tnum9 k2
    have h6 : L 6 = -1 := by rw [t6, k2]; rfl
    obtain ⟨L', e, a⟩ := l_pass hf hE hA h6 (by omega) (by omega)
    refine ⟨L', ?_, a, c.2⟩
    unfold g233
    simp only [xlx_2, xlx_3, xlx_4, xlx_5, xlx_6, xlx_7, xlx_8, xlx_9, xlx_10, xlx_u2, xlx_u3, xlx_u4, xlx_u5, xlx_u6, xlx_u7, xlx_u8, xlx_u9, xlx_u10, xu_e, eq_self, reduceIte, Nat.reduceEqDiff, if_true, if_false, not_true_eq_false, not_false_eq_true, Option.bind_some, i10, i01, true_and, false_and, and_false, ne_eq, Int.reduceEq, Int.reduceNeg, l_kind, h7, k2, k9, e]
    rw [if_neg (by omega), if_pos (by omega), xwr_g _ (by omega) (by omega)]
  · rw [if_neg c]
    refine ⟨xu L 7 (L 4), ?_, t4⟩
    unfold g233 g233_28
    simp only [xlx_2, xlx_3, xlx_4, xlx_5, xlx_6, xlx_7, xlx_8, xlx_9, xlx_10, xlx_u2, xlx_u3, xlx_u4, xlx_u5, xlx_u6, xlx_u7, xlx_u8, xlx_u9, xlx_u10, xu_e, eq_self, reduceIte, Nat.reduceEqDiff, if_true, if_false, not_true_eq_false, not_false_eq_true, Option.bind_some, i10, i01, true_and, false_and, and_false, ne_eq, Int.reduceEq, Int.reduceNeg, l_kind, h7, l_fail]
    by_cases k2 : L 2 = 5
    · have k9 := tnum9 k2
      have k3 := tnum.mp k2
      rw [if_neg (by simp [k2]), k9]
      by_cases c1 : kC (tstr B n lm) i < 1
      · rw [if_pos c1]
      · rw [if_neg c1, if_neg (by omega)]
    · rw [if_pos (by simp [k2])]
end
end
section
/-! The reference reads TERMS, ATOMS -/
def xft (o r v0 t0 : Nat) (G G' : xG_) : Prop := ∀ a j, ¬ ((a = 0 ∧ j = 21) ∨ (a = o + 20 ∧ j = r) ∨ ((a = o + 23 ∨ a = o + 24) ∧ 8 * r + v0 ≤ j) ∨ ((a = o + 31 ∨ a = o + 32) ∧ t0 ≤ j)) → G' a j = G a j
theorem xft.fl {o r v0 t0 x c0 m0 n0 : Nat} {G G1 : xG_} (h : xft o r v0 t0 G G1) (hx : 4 * x ≤ t0) : xfl o r x v0 c0 m0 n0 G G1 := fun a j hj => h a j (by omega)
theorem xft.tr {o r v0 t0 v1 t1 : Nat} {G G1 G2 : xG_} (h : xft o r v0 t0 G G1) (h1 : xft o r v1 t1 G1 G2) (hv : v0 ≤ v1) (ht : t0 ≤ t1) : xft o r v0 t0 G G2 := by
  intro a j hj
  rw [h1 a j (by omega), h a j hj]
theorem xft.rf (o r v0 t0 : Nat) (G : xG_) : xft o r v0 t0 G G := fun _ _ _ => rfl
theorem xft.up {o r v0 t0 a j : Nat} {v : Int} (G : xG_) (h : (a = 0 ∧ j = 21) ∨ (a = o + 20 ∧ j = r) ∨ ((a = o + 23 ∨ a = o + 24) ∧ 8 * r + v0 ≤ j) ∨ ((a = o + 31 ∨ a = o + 32) ∧ t0 ≤ j)) : xft o r v0 t0 G (xup2 G a j v) := by
  intro a' j' hj
  exact xup2_n (fun e => hj (by rw [e.1, e.2]; exact h))
def rTs (G : xG_) (o x : Nat) (T : pCd) : Prop := ∀ k, k < T.length → G (o + 31) (4 * x + k) = (T.getD k (0, 0)).1 ∧ ((T.getD k (0, 0)).1 ≠ 2 → G (o + 32) (4 * x + k) = (T.getD k (0, 0)).2)
theorem rEv.ft {G G' : xG_} {q n o r v0 t0 : Nat} {B : Nat → Int} {lm : Bool} (h : rEv G q B n lm o) (hf : xft o r v0 t0 G G') : rEv G' q B n lm o := h.fl (hf.fl (x := t0 / 4) (c0 := 0) (m0 := 0) (n0 := 0) (by omega))
section
variable {f q n o r i x k : Nat} {B : Nat → Int} {lm : Bool} {G G' : xG_} {L : Nat → Int} {V : List (Int × Nat)} {T : pCd}
theorem l_term_bad (h : L 7 ≠ -1) (a b : Int) : g250 f a b (xlx G L) = some (xlx G L) := by
  unfold g250
  simp only [xlx_2, xlx_3, xlx_4, xlx_5, xlx_6, xlx_7, xlx_8, xlx_9, xlx_10, xlx_u2, xlx_u3, xlx_u4, xlx_u5, xlx_u6, xlx_u7, xlx_u8, xlx_u9, xlx_u10, xu_e, eq_self, reduceIte, Nat.reduceEqDiff, if_true, if_false, not_true_eq_false, not_false_eq_true, Option.bind_some, i10, i01, true_and, false_and, and_false, ne_eq, Int.reduceEq, Int.reduceNeg, l_bad, h]
theorem l_term (hf : n + 20 < f) (hE : rEv G q B n lm o) (h23 : G 0 23 = (r : Int)) (hr : r ≤ 24) (hV : rVs G o q r V) (hA : rAt q B n lm i L) (hx : x < 200) (hk : k < 4) :
    pok (pTerm (tstr B n lm) V i) (fun w => ∃ G' L', g250 f x k (xlx G L) = some (xlx G' L') ∧ L' 7 = (q : Int) + w ∧ xft o r V.length (4 * x + k) G G' ∧ 0 ≤ G' (o + 20) r ∧ G' (o + 20) r ≤ 8)
      (fun y => ∃ G' L', g250 f x k (xlx G L) = some (xlx G' L') ∧ rAt q B n lm y.2.2 L' ∧ xft o r V.length (4 * x + k) G G' ∧ rVs G' o q r y.2.1 ∧ G' (o + 31) (4 * x + k) = y.1.1 ∧ (y.1.1 ≠ 2 → G' (o + 32) (4 * x + k) = y.1.2)) := by
  obtain ⟨t4, tsg, tn, tv, tu, tnum, tend, tn9, tv9, tnum9, t6, t5, tlt, t3⟩ := hA.tk hE.1.2.1
  have h7 := hA.1
  have h22 := hE.2.2.2.1
  have ho := hE.2.2.2.2
  have ex : xwr (xwr ((x : Int) * 4) + k) = ((4 * x + k : Nat) : Int) := by rw [xwr_g ((x : Int) * 4) (by omega) (by omega), xwr_g _ (by omega) (by omega)]; omega
  have hV8 := hV.1
  have hV9 := hV.2.1
  unfold pTerm
  have hb0 : ∀ c : Prop, [Decidable c] → (if c then (1 : Int) else 0) = 0 ↔ ¬ c := fun c _ => by rw [i10]
  by_cases c1 : kK (tstr B n lm) i = 2
  · rw [if_pos c1]
    have k2 := tv.mpr c1
    have f1 : xft o r V.length (4 * x + k) G (xup2 G (o + 31) (4 * x + k) 1) := xft.up G (by omega)
    have hE1 := hE.ft f1
    have hV1 : rVs (xup2 G (o + 31) (4 * x + k) 1) o q r V := hV.ot (fun j => xup2_n (by omega)) (fun j => xup2_n (by omega)) (fun j => xup2_n (by omega))
    have h1 := l_var hf hE1 (by rw [xup2_n (by omega)]; exact h23) hr hV1 hA c1 0
    have e0 : g250 f x k (xlx G L) = (g239 f (xlx (xup2 G (o + 31) (4 * x + k) 1) L)).bind fun R155 => some (xup2 R155.2 (o + 32) (4 * x + k) R155.1) := by
      unfold g250 g250_104
      rw [l_bad, if_pos h7]
      simp only [Option.bind_some]
      rw [if_pos trivial, l_kind, if_pos ⟨h7, k2⟩]
      simp only [Option.bind_some]
      rw [if_neg (by decide), xlx_o _ _ (by omega), h22, if_neg (by omega), Int.toNat_natCast, ex, if_pos (by omega), Int.toNat_natCast, xlx_upo _ _ _ (by omega)]
      try simp only [Option.bind_some]
      rw [xlx_o _ _ (by omega), xup2_n (by omega), h22, if_neg (by omega), Int.toNat_natCast]
      refine congrArg (Option.bind _) (funext fun R => ?_)
      rw [if_pos (by omega)]
    rw [e0]
    cases hp : pVar (tstr B n lm) V i with
    | inl w =>
      rw [hp] at h1
      obtain ⟨L', e1, e2⟩ := h1
      refine ⟨xup2 (xup2 G (o + 31) (4 * x + k) 1) (o + 32) (4 * x + k) 0, L', ?_, e2, f1.tr (xft.up _ (by omega)) (Nat.le_refl _) (Nat.le_refl _), ?_⟩
      · rw [e1]
        simp only [Option.bind_some]
        rw [xlx_upo _ _ _ (by omega)]
      · rw [xup2_n (by omega), xup2_n (by omega)]
        omega
    | inr y =>
      rw [hp] at h1
      obtain ⟨G1, L', e1, e2, e3, e4, e5, e6, e7, e8⟩ := h1
      have f2 : xft o r V.length (4 * x + k) (xup2 G (o + 31) (4 * x + k) 1) G1 := by
        intro a j hj
        by_cases c : a = o ∧ j = 37
        · rw [c.1, c.2, e5]
        by_cases c' : a = 0 ∧ j = 25
        · rw [c'.1, c'.2, e6]
        by_cases c2 : (a = o + 33 ∨ a = o + 34)
        · have h2 := l_var hf hE1 (by rw [xup2_n (by omega)]; exact h23) hr hV1 hA c1 (j + 1)
          rw [hp] at h2
          obtain ⟨G2, L2, d1, d2, d3, _⟩ := h2
          rw [e1] at d1
          have eG : xlx G1 L' = xlx G2 L2 := by injection d1 with d1; injection d1
          have := congrFun (congrFun eG a) j
          rw [xlx_o _ _ (by omega), xlx_o _ _ (by omega)] at this
          rw [this]
          exact d3 a j (by omega)
        · exact e3 a j (by omega)
      refine ⟨xup2 G1 (o + 32) (4 * x + k) y.1, L', ?_, e2, (f1.tr f2 (Nat.le_refl _) (Nat.le_refl _)).tr (xft.up _ (by omega)) (Nat.le_refl _) (Nat.le_refl _), e4.ot (fun j => xup2_n (by omega)) (fun j => xup2_n (by omega)) (fun j => xup2_n (by omega)), ?_, fun _ => xup2_s _ _ _ _⟩
      · rw [e1]
        simp only [Option.bind_some]
        rw [xlx_upo _ _ _ (by omega)]
      · rw [xup2_n (by omega), e3 _ _ (by omega), xup2_s]
  · rw [if_neg c1]
    have k2 : ¬ L 2 = 3 := fun q => c1 (tv.mp q)
    by_cases c2 : kK (tstr B n lm) i = 3
    · rw [if_pos c2]
      have k3 := tu.mpr c2
      have h6 : L 6 = -1 := by rw [t6, k3]; rfl
      have f1 : xft o r V.length (4 * x + k) G (xup2 G (o + 31) (4 * x + k) 2) := xft.up G (by omega)
      obtain ⟨L', p1, p2⟩ := l_pass hf (hE.ft f1) hA h6 (by omega) (by omega)
      refine ⟨_, L', ?_, p2, f1, hV.ot (fun j => xup2_n (by omega)) (fun j => xup2_n (by omega)) (fun j => xup2_n (by omega)), xup2_s _ _ _ _, fun h => absurd rfl h⟩
      unfold g250 g250_104
      rw [l_bad, if_pos h7]
      simp only [Option.bind_some]
      rw [if_pos trivial, l_kind, if_neg (fun q => k2 q.2)]
      simp only [Option.bind_some]
      rw [if_pos trivial, l_kind, if_pos ⟨h7, k3⟩]
      simp only [Option.bind_some]
      rw [if_neg (by decide), xlx_o _ _ (by omega), h22, if_neg (by omega), Int.toNat_natCast, ex, if_pos (by omega), Int.toNat_natCast, xlx_upo _ _ _ (by omega)]
      try simp only [Option.bind_some]
      rw [p1]
      rfl
    · rw [if_neg c2]
      have k3 : ¬ L 2 = 4 := fun q => c2 (tu.mp q)
      have h1 := l_value (f := f) hf hE hA
      have e0 : g250 f x k (xlx G L) = (g227 f (xlx G L)).bind fun R119 => (if (R119.1) = 0 then g250_104 f R119.2 else (if R119.2 0 22 < 0 then none else (if 0 ≤ ((4 * x + k : Nat) : Int) ∧ ((4 * x + k : Nat) : Int) < 800 then ((some (xup2 R119.2 ((R119.2 0 22).toNat + 31) (((4 * x + k : Nat) : Int)).toNat (3))).bind fun G130 => (if G130 0 22 < 0 then none else (if 0 ≤ ((4 * x + k : Nat) : Int) ∧ ((4 * x + k : Nat) : Int) < 800 then ((some (xup2 G130 ((G130 0 22).toNat + 32) (((4 * x + k : Nat) : Int)).toNat (G130 (0) 21))).bind fun G136 => g250_104 f G136) else none))) else none))) := by
        unfold g250
        rw [l_bad, if_pos h7]
        simp only [Option.bind_some]
        rw [if_pos trivial, l_kind, if_neg (fun q => k2 q.2)]
        simp only [Option.bind_some]
        rw [if_pos trivial, l_kind, if_neg (fun q => k3 q.2)]
        simp only [Option.bind_some]
        rw [if_pos trivial, ex]
      rw [e0]
      cases hp : pVal (tstr B n lm) i with
      | inl w =>
        rw [hp] at h1
        obtain ⟨L', e1, e2⟩ := h1
        refine ⟨G, L', ?_, e2, .rf _ _ _ _ _, by omega⟩
        rw [e1]
        rfl
      | inr y =>
        rw [hp] at h1
        obtain ⟨L', e1, e2, _, _⟩ := h1
        refine ⟨xup2 (xup2 (xup2 G 0 21 y.1) (o + 31) (4 * x + k) 3) (o + 32) (4 * x + k) y.1, L', ?_, e2, ((xft.up G (by omega)).tr (xft.up _ (by omega)) (Nat.le_refl _) (Nat.le_refl _)).tr (xft.up _ (by omega)) (Nat.le_refl _) (Nat.le_refl _), hV.ot (fun j => ?_) (fun j => ?_) (fun j => ?_), ?_, fun _ => xup2_s _ _ _ _⟩
        · rw [e1]
          simp only [Option.bind_some]
          rw [if_neg (by decide), xlx_o _ _ (by omega), xup2_n (by omega), h22, if_neg (by omega), Int.toNat_natCast, if_pos (by omega), Int.toNat_natCast, xlx_upo _ _ _ (by omega)]
          rw [xlx_o _ _ (by omega), xup2_n (by omega), xup2_n (by omega), h22, if_neg (by omega), Int.toNat_natCast, if_pos (by omega), xlx_o _ _ (by omega), xup2_n (by omega), xup2_s, xlx_upo _ _ _ (by omega)]
          rfl
        · rw [xup2_n (by omega), xup2_n (by omega), xup2_n (by omega)]
        · rw [xup2_n (by omega), xup2_n (by omega), xup2_n (by omega)]
        · rw [xup2_n (by omega), xup2_n (by omega), xup2_n (by omega)]
        · show xup2 _ _ _ _ _ _ = 3
          rw [xup2_n (by omega), xup2_s]
end
end
section
/-! The reference reads ATOMS -/
def xfa (o r v0 x m0 : Nat) (G G' : xG_) : Prop := ∀ a j, ¬ ((a = 0 ∧ j = 21) ∨ (a = o ∧ j = 14) ∨ (o + 9 ≤ a ∧ a ≤ o + 12 ∧ m0 ≤ j) ∨ (a = o + 20 ∧ j = r) ∨ ((a = o + 23 ∨ a = o + 24) ∧ 8 * r + v0 ≤ j) ∨ (a = o + 27 ∧ j = x) ∨ ((a = o + 31 ∨ a = o + 32) ∧ 4 * x ≤ j)) → G' a j = G a j
theorem xfa.fl {o r v0 x m0 c0 n0 : Nat} {G G1 : xG_} (h : xfa o r v0 x m0 G G1) : xfl o r x v0 c0 m0 n0 G G1 := fun a j hj => h a j (by omega)
theorem xfa.tr {o r v0 x m0 v1 m1 : Nat} {G G1 G2 : xG_} (h : xfa o r v0 x m0 G G1) (h1 : xfa o r v1 x m1 G1 G2) (hv : v0 ≤ v1) (hm : m0 ≤ m1) : xfa o r v0 x m0 G G2 := by
  intro a j hj
  rw [h1 a j (by omega), h a j hj]
theorem xfa.up {o r v0 x m0 a j : Nat} {v : Int} (G : xG_) (h : (a = 0 ∧ j = 21) ∨ (a = o ∧ j = 14) ∨ (o + 9 ≤ a ∧ a ≤ o + 12 ∧ m0 ≤ j) ∨ (a = o + 20 ∧ j = r) ∨ ((a = o + 23 ∨ a = o + 24) ∧ 8 * r + v0 ≤ j) ∨ (a = o + 27 ∧ j = x) ∨ ((a = o + 31 ∨ a = o + 32) ∧ 4 * x ≤ j)) : xfa o r v0 x m0 G (xup2 G a j v) := by
  intro a' j' hj
  exact xup2_n (fun e => hj (by rw [e.1, e.2]; exact h))
theorem xft.fa {o r v0 t0 x m0 : Nat} {G G1 : xG_} (h : xft o r v0 t0 G G1) (hx : 4 * x ≤ t0) : xfa o r v0 x m0 G G1 := fun a j hj => h a j (by omega)
theorem rMen_fa {o k r x v0 : Nat} {w y z u : Int} (G : xG_) : xfa o r v0 x k G (rMen G o k w y z u) := by
  intro a j hj
  unfold rMen
  split
  · rfl
  · rw [xup2_n (by omega), xup2_n (by omega), xup2_n (by omega), xup2_n (by omega), xup2_n (by omega)]
theorem pTerm_le {t : tStr} {V : List (Int × Nat)} {i : Nat} {y : (Int × Int) × List (Int × Nat) × Nat} (h : pTerm t V i = .inr y) : V.length ≤ y.2.1.length ∧ (V.length ≤ 8 → y.2.1.length ≤ 8) ∧ i < y.2.2 := by
  unfold pTerm at h
  split at h
  · obtain ⟨a, h1, h2⟩ := pbind_inr h
    have := pVar_le h1
    cases h2
    simp only
    omega
  · split at h
    · cases h
      simp only
      omega
    · obtain ⟨a, h1, h2⟩ := pbind_inr h
      have := pVal_le h1
      cases h2
      simp only
      omega
theorem pTerms_le {t : tStr} : ∀ {k : Nat} {T : pCd} {V : List (Int × Nat)} {i : Nat} {y : pCd × List (Int × Nat) × Nat}, pTerms t k T V i = .inr y → V.length ≤ y.2.1.length ∧ (V.length ≤ 8 → y.2.1.length ≤ 8) ∧ i ≤ y.2.2 ∧ T.length ≤ y.1.length ∧ y.1.length ≤ T.length + k := by
  intro k
  induction k with
  | zero => intro T V i y h; cases h; simp only; omega
  | succ k ih =>
    intro T V i y h
    unfold pTerms at h
    split at h
    · obtain ⟨a, h1, h2⟩ := pbind_inr h
      have h3 := pTerm_le h1
      have h4 := ih h2
      rw [len1] at h4
      omega
    · cases h; simp only; omega
section
variable {f q n o r x : Nat} {B : Nat → Int} {lm : Bool} {G G' : xG_} {L : Nat → Int}
theorem rMs.fr {M : List pMn} (h : rMs G o q M) (h0 : G' o 14 = G o 14) (h1 : ∀ a j, o + 9 ≤ a → a ≤ o + 12 → G' a j = G a j) : rMs G' o q M := ⟨by rw [h0]; exact h.1, fun k hk => by rw [h1 _ _ (by omega) (by omega), h1 _ _ (by omega) (by omega), h1 _ _ (by omega) (by omega), h1 _ _ (by omega) (by omega)]; exact h.2 k hk⟩
theorem rTs.add {T : pCd} {y : Int × Int} (h : rTs G o x T) (hf : ∀ a j, (a = o + 31 ∨ a = o + 32) → j < 4 * x + T.length → G' a j = G a j) (h1 : G' (o + 31) (4 * x + T.length) = y.1) (h2 : y.1 ≠ 2 → G' (o + 32) (4 * x + T.length) = y.2) : rTs G' o x (T ++ [y]) := by
  intro k hk
  rw [len1] at hk
  rw [getD_1]
  by_cases c : k = T.length
  · rw [if_pos c, c]
    exact ⟨h1, h2⟩
  · rw [if_neg c, hf _ _ (by omega) (by omega), hf _ _ (by omega) (by omega)]
    exact h k (by omega)
/-- behind the last TERM -/
theorem l_aend {M : List pMn} {V : List (Int × Nat)} {T : pCd} {i pl : Nat} {p : Int} (hf : n + 20 < f) (hE : rEv G q B n lm o) (hV : rVs G o q r V) (hM : rMs G o q M) (hT : rTs G o x T) (hA : rAt q B n lm i L) (hx : x < 200) :
    pok (pNeed (tstr B n lm) 41 i) (fun w => ∃ G' L', g249_111 f x ((q : Int) + pl) p (T.length : Int) (xlx G L) = some (xlx G' L') ∧ L' 7 = (q : Int) + w ∧ xfa o r V.length x (min M.length 420) G G' ∧ G' (o + 20) r = G (o + 20) r ∧ G' o 14 = G o 14)
      (fun j => ∃ G' L', g249_111 f x ((q : Int) + pl) p (T.length : Int) (xlx G L) = some (xlx G' L') ∧ rAt q B n lm j L' ∧ xfa o r V.length x (min M.length 420) G G' ∧ rVs G' o q r V ∧ rTs G' o x T ∧ G' (o + 27) x = (T.length : Int) ∧ rMs G' o q (M ++ [(p, pl, (T.length : Int), 4)])) := by
  have h22 := hE.2.2.2.1
  have ho := hE.2.2.2.2
  unfold pNeed
  have f1 : xfa o r V.length x (min M.length 420) G (xup2 G (o + 27) x (T.length : Int)) := xfa.up G (by omega)
  by_cases c : kK (tstr B n lm) i = 41
  · rw [if_pos c]
    obtain ⟨L', n1, n2⟩ := l_need hf hE hA (c := 41) (by unfold isSg; omega) c
    rw [show rsc 41 = 41 from rfl] at n1
    have hE1 : rEv (xup2 G (o + 27) x (T.length : Int)) q B n lm o := hE.fl (f1.fl (c0 := 0) (n0 := 0))
    have hM1 : rMs (xup2 G (o + 27) x (T.length : Int)) o q M := hM.fr (xup2_n (by omega)) (fun a j _ _ => xup2_n (by omega))
    refine ⟨rMen (xup2 G (o + 27) x (T.length : Int)) o (min M.length 420) p ((q : Int) + pl) (T.length : Int) 4, L', ?_, n2, f1.tr (rMen_fa _) (Nat.le_refl _) (Nat.le_refl _), hV.ot (fun j => ?_) (fun j => ?_) (fun j => ?_), ?_, ?_, hM1.add (p, pl, (T.length : Int), 4)⟩
    · unfold g249_111 g249_146
      rw [n1]
      simp only [Option.bind_some]
      rw [xlx_o _ _ (by omega), h22, if_neg (by omega), if_pos (by omega), Int.toNat_natCast, Int.toNat_natCast, xlx_upo _ _ _ (by omega)]
      rw [l_bad, if_pos n2.1]
      simp only [Option.bind_some]
      rw [if_neg (by simp), l_men hE1 hM1.1 (by omega)]
      rfl
    · rw [rMen_o (by omega), xup2_n (by omega)]
    · rw [rMen_o (by omega), xup2_n (by omega)]
    · rw [rMen_o (by omega), xup2_n (by omega)]
    · intro k hk
      rw [rMen_o (by omega), rMen_o (by omega), xup2_n (by omega), xup2_n (by omega)]
      exact hT k hk
    · rw [rMen_o (by omega), xup2_s]
  · rw [if_neg c]
    have n1 := l_need_no (f := f) hE hA (c := 41) (by unfold isSg; omega) c
    rw [show rsc 41 = 41 from rfl] at n1
    refine ⟨xup2 G (o + 27) x (T.length : Int), xu L 7 ((q : Int) + kS (tstr B n lm) i), ?_, rfl, f1, xup2_n (by omega), xup2_n (by omega)⟩
    unfold g249_111 g249_146
    rw [n1]
    simp only [Option.bind_some]
    rw [xlx_o _ _ (by omega), h22, if_neg (by omega), if_pos (by omega), Int.toNat_natCast, Int.toNat_natCast, xlx_upo _ _ _ (by omega)]
    rw [l_bad, if_neg (by show ¬ (q : Int) + _ = -1; omega)]
    simp only [Option.bind_some]
    rw [if_pos (by decide)]
theorem l_aend_bad {y p : Int} {m : Nat} (hE : rEv G q B n lm o) (h : L 7 ≠ -1) (hx : x < 200) : g249_111 f x y p m (xlx G L) = some (xlx (xup2 G (o + 27) x m) L) := by
  have h22 := hE.2.2.2.1
  have ho := hE.2.2.2.2
  unfold g249_111 g249_146
  rw [l_need_bad h]
  simp only [Option.bind_some]
  rw [xlx_o _ _ (by omega), h22, if_neg (by omega), if_pos (by omega), Int.toNat_natCast, Int.toNat_natCast, xlx_upo _ _ _ (by omega)]
  rw [l_bad, if_neg h]
  simp only [Option.bind_some]
  rw [if_pos (by decide)]
theorem l_aloop_bad {y p : Int} {fu m : Nat} (hE : rEv G q B n lm o) (h : L 7 ≠ -1) (hx : x < 200) (hfu : 0 < fu) : g249_79 f fu x y p m (xlx G L) = some (xlx (xup2 G (o + 27) x m) L) := by
  obtain ⟨fu, rfl⟩ : ∃ t, fu = t + 1 := ⟨fu - 1, by omega⟩
  show g249_79b (g249_79 f fu) f _ _ _ _ _ = _
  unfold g249_79b
  rw [l_sign, if_neg (fun q => h q.1)]
  simp only [Option.bind_some]
  rw [if_pos trivial, l_aend_bad hE h hx]
/-- further TERMS and what is behind them -/
theorem l_aloop {M : List pMn} {pl : Nat} {p : Int} (hf : n + 20 < f) (hr : r ≤ 24) (hx : x < 200) : ∀ (k fu : Nat), k < fu → ∀ (G : xG_) (L : Nat → Int) (V : List (Int × Nat)) (T : pCd) (i : Nat), T.length + k = 4 → rEv G q B n lm o → G 0 23 = (r : Int) → rVs G o q r V → rMs G o q M → rTs G o x T → rAt q B n lm i L →
    pok (pbind (pTerms (tstr B n lm) k T V i) fun y => pbind (pNeed (tstr B n lm) 41 y.2.2) fun j => .inr (y.1, y.2.1, j)) (fun w => ∃ G' L', g249_79 f fu x ((q : Int) + pl) p (T.length : Int) (xlx G L) = some (xlx G' L') ∧ L' 7 = (q : Int) + w ∧ xfa o r V.length x (min M.length 420) G G' ∧ 0 ≤ G' (o + 20) r ∧ G' (o + 20) r ≤ 8 ∧ 0 ≤ G' o 14 ∧ G' o 14 ≤ 420)
      (fun y => ∃ G' L', g249_79 f fu x ((q : Int) + pl) p (T.length : Int) (xlx G L) = some (xlx G' L') ∧ rAt q B n lm y.2.2 L' ∧ xfa o r V.length x (min M.length 420) G G' ∧ rVs G' o q r y.2.1 ∧ rTs G' o x y.1 ∧ G' (o + 27) x = (y.1.length : Int) ∧ rMs G' o q (M ++ [(p, pl, (y.1.length : Int), 4)])) := by
  have fin : ∀ (G : xG_) (L : Nat → Int) (V : List (Int × Nat)) (T : pCd) (i fu : Nat), rEv G q B n lm o → G 0 23 = (r : Int) → rVs G o q r V → rMs G o q M → rTs G o x T → rAt q B n lm i L → g249_79 f fu x ((q : Int) + pl) p (T.length : Int) (xlx G L) = g249_111 f x ((q : Int) + pl) p (T.length : Int) (xlx G L) →
      pok (pbind (pNeed (tstr B n lm) 41 i) fun j => .inr (T, V, j)) (fun w => ∃ G' L', g249_79 f fu x ((q : Int) + pl) p (T.length : Int) (xlx G L) = some (xlx G' L') ∧ L' 7 = (q : Int) + w ∧ xfa o r V.length x (min M.length 420) G G' ∧ 0 ≤ G' (o + 20) r ∧ G' (o + 20) r ≤ 8 ∧ 0 ≤ G' o 14 ∧ G' o 14 ≤ 420)
      (fun y => ∃ G' L', g249_79 f fu x ((q : Int) + pl) p (T.length : Int) (xlx G L) = some (xlx G' L') ∧ rAt q B n lm y.2.2 L' ∧ xfa o r V.length x (min M.length 420) G G' ∧ rVs G' o q r y.2.1 ∧ rTs G' o x y.1 ∧ G' (o + 27) x = (y.1.length : Int) ∧ rMs G' o q (M ++ [(p, pl, (y.1.length : Int), 4)])) := by
    intro G L V T i fu hE h23 hV hM hT hA e
    have h1 := l_aend (pl := pl) (p := p) (r := r) hf hE hV hM hT hA hx
    rw [e]
    cases hp : pNeed (tstr B n lm) 41 i with
    | inl w =>
      rw [hp] at h1
      obtain ⟨G', L', a1, a2, a3, a4, a5⟩ := h1
      exact ⟨G', L', a1, a2, a3, by rw [a4, hV.1]; omega, by rw [a4, hV.1]; have := hV.2.1; omega, by rw [a5, hM.1]; omega, by rw [a5, hM.1]; omega⟩
    | inr j =>
      rw [hp] at h1
      exact h1
  intro k
  induction k with
  | zero =>
    intro fu hfu G L V T i hk hE h23 hV hM hT hA
    obtain ⟨fu, rfl⟩ : ∃ t, fu = t + 1 := ⟨fu - 1, by omega⟩
    refine fin G L V T i (fu + 1) hE h23 hV hM hT hA ?_
    show g249_79b (g249_79 f fu) f _ _ _ _ _ = _
    unfold g249_79b
    rw [l_sign]
    simp only [Option.bind_some, i10]
    split
    · rfl
    · rw [if_pos (by omega)]
  | succ k ih =>
    intro fu hfu G L V T i hk hE h23 hV hM hT hA
    obtain ⟨fu, rfl⟩ : ∃ t, fu = t + 1 := ⟨fu - 1, by omega⟩
    obtain ⟨t4, tsg, tn, tv, tu, tnum, tend, tn9, tv9, tnum9, t6, t5, tlt, t3⟩ := hA.tk hE.1.2.1
    have s44 := tsg 44 (by unfold isSg; omega)
    rw [show rsc 44 = 44 from rfl] at s44
    have h7 := hA.1
    have es : g249_79 f (fu + 1) x ((q : Int) + pl) p (T.length : Int) (xlx G L) = if kK (tstr B n lm) i = 44 then ((g213 f (xlx G L)).bind fun R130 => ((g250 f x (T.length : Int) R130).bind fun R135 => g249_79 f fu x ((q : Int) + pl) p (T.length + 1 : Nat) R135)) else g249_111 f x ((q : Int) + pl) p (T.length : Int) (xlx G L) := by
      show g249_79b (g249_79 f fu) f _ _ _ _ _ = _
      unfold g249_79b
      rw [l_sign]
      simp only [Option.bind_some, i10, h7, true_and, s44]
      by_cases c : kK (tstr B n lm) i = 44
      · rw [if_neg (fun q => q c), if_neg (by omega), if_pos c, xwr_g _ (by omega) (by omega)]
        rfl
      · rw [if_pos c, if_neg c]
    unfold pTerms
    by_cases c : kK (tstr B n lm) i = 44
    · rw [if_pos c]
      rw [if_pos c] at es
      obtain ⟨_, L1, e1, a1⟩ := hA.sg (f := f) hf hE c (by unfold isSg; omega)
      have h1 := l_term (f := f) (x := x) (k := T.length) hf hE h23 hr hV a1 hx (by omega)
      rw [e1] at es
      simp only [Option.bind_some] at es
      cases hp : pTerm (tstr B n lm) V (i + 1) with
      | inl w =>
        rw [hp] at h1
        obtain ⟨G1, L2, e2, e3, e4, e5, e6⟩ := h1
        have hE1 := hE.ft e4
        refine ⟨xup2 G1 (o + 27) x (T.length + 1 : Nat), L2, ?_, e3, (e4.fa (by omega)).tr (xfa.up _ (by omega)) (Nat.le_refl _) (Nat.le_refl _), ?_⟩
        · rw [es, e2]
          simp only [Option.bind_some]
          rw [l_aloop_bad hE1 (by omega) hx (by omega)]
        · have ho := hE.2.2.2.2
          rw [xup2_n (by omega), xup2_n (by omega), e4 o 14 (by omega), hM.1]
          omega
      | inr y =>
        rw [hp] at h1
        obtain ⟨G1, L2, e2, e3, e4, e5, e6, e7⟩ := h1
        have ho := hE.2.2.2.2
        have hle := pTerm_le hp
        have hM1 : rMs G1 o q M := hM.fr (e4 _ _ (by omega)) (fun a j _ _ => e4 _ _ (by omega))
        have hT1 : rTs G1 o x (T ++ [y.1]) := hT.add (fun a j ha hj => e4 _ _ (by omega)) e6 e7
        have h2 := ih fu (by omega) G1 L2 y.2.1 (T ++ [y.1]) y.2.2 (by rw [len1]; omega) (hE.ft e4) (by rw [e4 _ _ (by omega)]; exact h23) e5 hM1 hT1 e3
        rw [len1] at h2
        have es2 : g249_79 f (fu + 1) x ((q : Int) + pl) p (T.length : Int) (xlx G L) = g249_79 f fu x ((q : Int) + pl) p (T.length + 1 : Nat) (xlx G1 L2) := by
          rw [es, e2]
          rfl
        rw [es2]
        show pok (pbind (pTerms (tstr B n lm) k (T ++ [y.1]) y.2.1 y.2.2) _) _ _
        cases hp2 : pbind (pTerms (tstr B n lm) k (T ++ [y.1]) y.2.1 y.2.2) (fun y => pbind (pNeed (tstr B n lm) 41 y.2.2) fun j => (.inr (y.1, y.2.1, j) : Nat ⊕ (pCd × List (Int × Nat) × Nat))) with
        | inl w =>
          rw [hp2] at h2
          obtain ⟨G2, L3, d1, d2, d3, d4⟩ := h2
          exact ⟨G2, L3, d1, d2, (e4.fa (by omega)).tr d3 hle.1 (Nat.le_refl _), d4⟩
        | inr z =>
          rw [hp2] at h2
          obtain ⟨G2, L3, d1, d2, d3, d4⟩ := h2
          exact ⟨G2, L3, d1, d2, (e4.fa (by omega)).tr d3 hle.1 (Nat.le_refl _), d4⟩
    · rw [if_neg c]
      rw [if_neg c] at es
      exact fin G L V T i (fu + 1) hE h23 hV hM hT hA es
end
end
section
/-! The reference reads ATOMS: all of one -/
def xfA (o r x v0 m0 n0 : Nat) (G G' : xG_) : Prop := ∀ a j, ¬ ((a = 0 ∧ j = 21) ∨ (a = o ∧ (j = 8 ∧ r ≠ 24 ∨ j = 14)) ∨ (a = o + 1 ∧ n0 ≤ j ∧ r ≠ 24) ∨ (o + 9 ≤ a ∧ a ≤ o + 12 ∧ m0 ≤ j) ∨ (a = o + 20 ∧ j = r) ∨ ((a = o + 23 ∨ a = o + 24) ∧ 8 * r + v0 ≤ j) ∨ (o + 25 ≤ a ∧ a ≤ o + 27 ∧ j = x) ∨ ((a = o + 31 ∨ a = o + 32) ∧ 4 * x ≤ j)) → G' a j = G a j
theorem xfA.fl {o r x v0 m0 n0 c0 : Nat} {G G1 : xG_} (h : xfA o r x v0 m0 n0 G G1) : xfl o r x v0 c0 m0 n0 G G1 := fun a j hj => h a j (by omega)
theorem xfa.fA {o r x v0 m0 n0 : Nat} {G G1 : xG_} (h : xfa o r v0 x m0 G G1) : xfA o r x v0 m0 n0 G G1 := fun a j hj => h a j (by omega)
theorem xfA.tr {o r x v0 m0 n0 v1 m1 n1 : Nat} {G G1 G2 : xG_} (h : xfA o r x v0 m0 n0 G G1) (h1 : xfA o r x v1 m1 n1 G1 G2) (hv : v0 ≤ v1) (hm : m0 ≤ m1) (hn : n0 ≤ n1) : xfA o r x v0 m0 n0 G G2 := by
  intro a j hj
  rw [h1 a j (by omega), h a j hj]
theorem xfA.up {o r x v0 m0 n0 a j : Nat} {v : Int} (G : xG_) (h : (a = 0 ∧ j = 21) ∨ (a = o ∧ (j = 8 ∧ r ≠ 24 ∨ j = 14)) ∨ (a = o + 1 ∧ n0 ≤ j ∧ r ≠ 24) ∨ (o + 9 ≤ a ∧ a ≤ o + 12 ∧ m0 ≤ j) ∨ (a = o + 20 ∧ j = r) ∨ ((a = o + 23 ∨ a = o + 24) ∧ 8 * r + v0 ≤ j) ∨ (o + 25 ≤ a ∧ a ≤ o + 27 ∧ j = x) ∨ ((a = o + 31 ∨ a = o + 32) ∧ 4 * x ≤ j)) : xfA o r x v0 m0 n0 G (xup2 G a j v) := by
  intro a' j' hj
  exact xup2_n (fun e => hj (by rw [e.1, e.2]; exact h))
theorem rEv.fA {G G' : xG_} {q n o r x v0 m0 n0 : Nat} {B : Nat → Int} {lm : Bool} (h : rEv G q B n lm o) (hf : xfA o r x v0 m0 n0 G G') : rEv G' q B n lm o := h.fl (hf.fl (c0 := 0))
section
variable {f q n o r x : Nat} {B : Nat → Int} {lm : Bool} {G G' : xG_} {L : Nat → Int}
theorem l_a48_bad {y p : Int} (hE : rEv G q B n lm o) (h : L 7 ≠ -1) (hx : x < 200) (hf : 0 < f) : g249_48 f x y p (xlx G L) = some (xlx (xup2 (xup2 G (o + 26) x p) (o + 27) x 1) L) := by
  have h22 := hE.2.2.2.1
  have ho := hE.2.2.2.2
  unfold g249_48
  rw [xlx_o _ _ (by omega), h22, if_neg (by omega), if_pos (by omega), Int.toNat_natCast, Int.toNat_natCast, xlx_upo _ _ _ (by omega)]
  simp only [Option.bind_some]
  rw [l_need_bad h]
  simp only [Option.bind_some]
  rw [l_term_bad h]
  simp only [Option.bind_some]
  rw [xwr_g _ (by decide) (by decide)]
  have := l_aloop_bad (f := f) (G := xup2 G (o + 26) x p) (y := y) (p := p) (fu := f) (m := 1) (L := L) (hE.fA (xfA.up (r := 0) (v0 := 0) (m0 := 0) (n0 := 0) (x := x) G (by omega))) h hx hf
  exact this
def pA48 (t : tStr) (V : List (Int × Nat)) (i : Nat) : Nat ⊕ (pCd × List (Int × Nat) × Nat) := pbind (pNeed t 40 i) fun i => pbind (pTerm t V i) fun y => pbind (pTerms t 3 [y.1] y.2.1 y.2.2) fun z => pbind (pNeed t 41 z.2.2) fun j => .inr (z.1, z.2.1, j)
theorem l_a48 {M : List pMn} {V : List (Int × Nat)} {i pl : Nat} {p : Int} (hf : n + 20 < f) (hr : r ≤ 24) (hx : x < 200) (hE : rEv G q B n lm o) (h23 : G 0 23 = (r : Int)) (hV : rVs G o q r V) (hM : rMs G o q M) (hA : rAt q B n lm i L) :
    pok (pA48 (tstr B n lm) V i) (fun w => ∃ G' L', g249_48 f x ((q : Int) + pl) p (xlx G L) = some (xlx G' L') ∧ L' 7 = (q : Int) + w ∧ xfa o r V.length x (min M.length 420) (xup2 G (o + 26) x p) G' ∧ 0 ≤ G' (o + 20) r ∧ G' (o + 20) r ≤ 8 ∧ 0 ≤ G' o 14 ∧ G' o 14 ≤ 420)
      (fun y => ∃ G' L', g249_48 f x ((q : Int) + pl) p (xlx G L) = some (xlx G' L') ∧ rAt q B n lm y.2.2 L' ∧ xfa o r V.length x (min M.length 420) (xup2 G (o + 26) x p) G' ∧ rVs G' o q r y.2.1 ∧ rTs G' o x y.1 ∧ G' (o + 27) x = (y.1.length : Int) ∧ rMs G' o q (M ++ [(p, pl, (y.1.length : Int), 4)])) := by
  have h22 := hE.2.2.2.1
  have ho := hE.2.2.2.2
  have hE0 : rEv (xup2 G (o + 26) x p) q B n lm o := hE.fA (xfA.up (r := 0) (v0 := 0) (m0 := 0) (n0 := 0) (x := x) G (by omega))
  have hM0 : rMs (xup2 G (o + 26) x p) o q M := hM.fr (xup2_n (by omega)) (fun a j _ _ => xup2_n (by omega))
  have hV0 : rVs (xup2 G (o + 26) x p) o q r V := hV.ot (fun j => xup2_n (by omega)) (fun j => xup2_n (by omega)) (fun j => xup2_n (by omega))
  have h23' : xup2 G (o + 26) x p 0 23 = (r : Int) := by rw [xup2_n (by omega)]; exact h23
  have e0 : g249_48 f x ((q : Int) + pl) p (xlx G L) = (g222 f 40 (xlx (xup2 G (o + 26) x p) L)).bind fun R146 => ((g250 f x ((0 : Nat) : Int) R146).bind fun R151 => g249_79 f f x ((q : Int) + pl) p ((1 : Nat) : Int) R151) := by
    unfold g249_48
    rw [xlx_o _ _ (by omega), h22, if_neg (by omega), if_pos (by omega), Int.toNat_natCast, Int.toNat_natCast, xlx_upo _ _ _ (by omega)]
    simp only [Option.bind_some]
    rw [xwr_g _ (by decide) (by decide)]
    rfl
  rw [e0]
  generalize xup2 G (o + 26) x p = G0 at *
  unfold pA48 pNeed
  by_cases c : kK (tstr B n lm) i = 40
  · rw [if_pos c]
    obtain ⟨L1, n1, n2⟩ := l_need hf hE0 hA (c := 40) (by unfold isSg; omega) c
    rw [show rsc 40 = 40 from rfl] at n1
    rw [n1]
    simp only [Option.bind_some]
    have h1 := l_term (f := f) (x := x) (k := 0) hf hE0 h23' hr hV0 n2 hx (by omega)
    show pok (pbind (pTerm (tstr B n lm) V (i + 1)) _) _ _
    cases hp : pTerm (tstr B n lm) V (i + 1) with
    | inl w =>
      rw [hp] at h1
      obtain ⟨G1, L2, e2, e3, e4, e5, e6⟩ := h1
      have hE1 := hE0.ft e4
      refine ⟨xup2 G1 (o + 27) x (1 : Nat), L2, ?_, e3, (e4.fa (by omega)).tr (xfa.up _ (by omega)) (Nat.le_refl _) (Nat.le_refl _), ?_⟩
      · rw [e2]
        simp only [Option.bind_some]
        rw [l_aloop_bad hE1 (by omega) hx (by omega)]
      · rw [xup2_n (by omega), xup2_n (by omega), e4 o 14 (by omega), hM0.1]
        omega
    | inr y =>
      rw [hp] at h1
      obtain ⟨G1, L2, e2, e3, e4, e5, e6, e7⟩ := h1
      have hle := pTerm_le hp
      have hM1 : rMs G1 o q M := hM0.fr (e4 _ _ (by omega)) (fun a j _ _ => e4 _ _ (by omega))
      have hT1 : rTs G1 o x [y.1] := rTs.add (T := []) (G := G1) (fun k hk => absurd hk (by simp)) (fun a j ha hj => rfl) e6 e7
      have h2 := l_aloop (M := M) (pl := pl) (p := p) hf hr hx 3 f (by omega) G1 L2 y.2.1 [y.1] y.2.2 rfl (hE0.ft e4) (by rw [e4 _ _ (by omega)]; exact h23') e5 hM1 hT1 e3
      rw [e2]
      simp only [Option.bind_some]
      show pok (pbind (pTerms (tstr B n lm) 3 [y.1] y.2.1 y.2.2) _) _ _
      cases hp2 : pbind (pTerms (tstr B n lm) 3 [y.1] y.2.1 y.2.2) (fun y => pbind (pNeed (tstr B n lm) 41 y.2.2) fun j => (.inr (y.1, y.2.1, j) : Nat ⊕ (pCd × List (Int × Nat) × Nat))) with
      | inl w =>
        rw [hp2] at h2
        obtain ⟨G2, L3, d1, d2, d3, d4⟩ := h2
        have hp3 := hp2
        unfold pNeed at hp3
        rw [hp3]
        exact ⟨G2, L3, d1, d2, (e4.fa (by omega)).tr d3 hle.1 (Nat.le_refl _), d4⟩
      | inr z =>
        rw [hp2] at h2
        obtain ⟨G2, L3, d1, d2, d3, d4⟩ := h2
        have hp3 := hp2
        unfold pNeed at hp3
        rw [hp3]
        exact ⟨G2, L3, d1, d2, (e4.fa (by omega)).tr d3 hle.1 (Nat.le_refl _), d4⟩
  · rw [if_neg c]
    have n1 := l_need_no (f := f) hE0 hA (c := 40) (by unfold isSg; omega) c
    rw [show rsc 40 = 40 from rfl] at n1
    have hbad : xu L 7 ((q : Int) + kS (tstr B n lm) i) 7 ≠ -1 := by show (q : Int) + _ ≠ -1; omega
    refine ⟨xup2 G0 (o + 27) x (1 : Nat), xu L 7 ((q : Int) + kS (tstr B n lm) i), ?_, rfl, xfa.up _ (by omega), ?_⟩
    · rw [n1]
      simp only [Option.bind_some]
      rw [l_term_bad hbad]
      simp only [Option.bind_some]
      rw [l_aloop_bad hE0 hbad hx (by omega)]
    · rw [xup2_n (by omega), xup2_n (by omega), hM0.1, hV0.1]
      have := hV0.2.1
      omega
/-- the predicate's number, as the program itself is read or not -/
def pP (tell : Bool) (N : List Int) (y : Int) (w : Nat) : Nat ⊕ (Int × List Int) :=
  if tell = true then (if pIdx N y = -1 then (if N.length = 16 then .inl w else .inr ((N.length : Int), N ++ [y])) else .inr (pIdx N y, N)) else .inr (pIdx N y, N)
theorem pP_le {tell : Bool} {N : List Int} {y : Int} {w : Nat} {p : Int × List Int} (h : pP tell N y w = .inr p) : N.length ≤ p.2.length ∧ (N.length ≤ 16 → p.2.length ≤ 16) := by
  unfold pP at h
  split at h
  · split at h
    · split at h
      · cases h
      · cases h
        simp only [len1]
        omega
    · cases h
      exact ⟨Nat.le_refl _, id⟩
  · cases h
    exact ⟨Nat.le_refl _, id⟩
theorem l_atom_bad {k y a : Int} {N : List Int} (hf : 20 < f) (hE : rEv G q B n lm o) (h23 : G 0 23 = (r : Int)) (hr : r ≤ 24) (hN : rNs G o N) (h : L 7 ≠ -1) (hx : x < 200) : ∃ p, g249 f x k y a (xlx G L) = some (xlx (xup2 (xup2 (xup2 G (o + 25) x k) (o + 26) x p) (o + 27) x 1) L) := by
  have h22 := hE.2.2.2.1
  have ho := hE.2.2.2.2
  have hE0 : rEv (xup2 G (o + 25) x k) q B n lm o := hE.fA (xfA.up (r := 0) (v0 := 0) (m0 := 0) (n0 := 0) (x := x) G (by omega))
  have hN0 : rNs (xup2 G (o + 25) x k) o N := ⟨by rw [xup2_n (by omega)]; exact hN.1, hN.2.1, fun j hj => by rw [xup2_n (by omega)]; exact hN.2.2 j hj⟩
  unfold g249
  rw [xlx_o _ _ (by omega), h22, if_neg (by omega), if_pos (by omega), Int.toNat_natCast, Int.toNat_natCast, xlx_upo _ _ _ (by omega)]
  simp only [Option.bind_some]
  rw [xlx_o _ _ (by omega), xup2_n (by omega), h23]
  by_cases c : (r : Int) = 24
  · rw [if_neg (fun q => q c), xlx_o _ _ (by omega), xup2_n (by omega), h22, if_neg (by omega), Int.toNat_natCast, rNs.idx (by omega) hf (hN0.x (by omega))]
    simp only [Option.bind_some]
    exact ⟨_, l_a48_bad hE0 h hx (by omega)⟩
  · rw [if_pos c, l_bad, if_neg h]
    simp only [Option.bind_some]
    rw [if_neg (by decide)]
    exact ⟨_, l_a48_bad hE0 h hx (by omega)⟩
theorem l_atom {k : Int} {N : List Int} {M : List pMn} {V : List (Int × Nat)} {i pl : Nat} {y : Int} {tell : Bool} (hf : n + 20 < f) (hr : r ≤ 24) (htell : tell = true ↔ r ≠ 24) (hx : x < 200) (hE : rEv G q B n lm o) (h23 : G 0 23 = (r : Int)) (hN : rNs G o N) (hV : rVs G o q r V) (hM : rMs G o q M) (hA : rAt q B n lm i L) :
    pok (pbind (pP tell N y pl) fun p => pbind (pA48 (tstr B n lm) V i) fun z => .inr (p, z)) (fun w => ∃ G' L', g249 f x k y ((q : Int) + pl) (xlx G L) = some (xlx G' L') ∧ L' 7 = (q : Int) + w ∧ xfA o r x V.length (min M.length 420) N.length G G' ∧ 0 ≤ G' (o + 20) r ∧ G' (o + 20) r ≤ 8 ∧ 0 ≤ G' o 14 ∧ G' o 14 ≤ 420 ∧ 0 ≤ G' o 8 ∧ G' o 8 ≤ 16)
      (fun z => ∃ G' L', g249 f x k y ((q : Int) + pl) (xlx G L) = some (xlx G' L') ∧ rAt q B n lm z.2.2.2 L' ∧ xfA o r x V.length (min M.length 420) N.length G G' ∧ rNs G' o z.1.2 ∧ rVs G' o q r z.2.2.1 ∧ G' (o + 25) x = k ∧ G' (o + 26) x = z.1.1 ∧ rTs G' o x z.2.1 ∧ G' (o + 27) x = (z.2.1.length : Int) ∧ rMs G' o q (M ++ [(z.1.1, pl, (z.2.1.length : Int), 4)])) := by
  have h22 := hE.2.2.2.1
  have ho := hE.2.2.2.2
  have f0 : xfA o r x V.length (min M.length 420) N.length G (xup2 G (o + 25) x k) := xfA.up G (by omega)
  have hE0 : rEv (xup2 G (o + 25) x k) q B n lm o := hE.fA f0
  have hN0 : rNs (xup2 G (o + 25) x k) o N := ⟨by rw [xup2_n (by omega)]; exact hN.1, hN.2.1, fun j hj => by rw [xup2_n (by omega)]; exact hN.2.2 j hj⟩
  have hM0 : rMs (xup2 G (o + 25) x k) o q M := hM.fr (xup2_n (by omega)) (fun a j _ _ => xup2_n (by omega))
  have hV0 : rVs (xup2 G (o + 25) x k) o q r V := hV.ot (fun j => xup2_n (by omega)) (fun j => xup2_n (by omega)) (fun j => xup2_n (by omega))
  have hk0 : xup2 G (o + 25) x k (o + 25) x = k := xup2_s _ _ _ _
  have h23' : xup2 G (o + 25) x k 0 23 = (r : Int) := by rw [xup2_n (by omega)]; exact h23
  have h22' : xup2 G (o + 25) x k 0 22 = (o : Int) := by rw [xup2_n (by omega)]; exact h22
  have e0 : g249 f x k y ((q : Int) + pl) (xlx G L) = if r = 24 then g249_48 f x ((q : Int) + pl) (pIdx N y) (xlx (xup2 G (o + 25) x k) L) else (g230 f y ((q : Int) + pl) (xlx (xup2 G (o + 25) x k) L)).bind fun R169 => g249_48 f x ((q : Int) + pl) (R169.1) R169.2 := by
    unfold g249
    rw [xlx_o _ _ (by omega), h22, if_neg (by omega), if_pos (by omega), Int.toNat_natCast, Int.toNat_natCast, xlx_upo _ _ _ (by omega)]
    simp only [Option.bind_some]
    rw [xlx_o _ _ (by omega), h23']
    by_cases c : r = 24
    · rw [if_neg (by omega), xlx_o _ _ (by omega), h22', if_neg (by omega), Int.toNat_natCast, rNs.idx (by omega) (by omega) (hN0.x (by omega)), if_pos c]
      rfl
    · rw [if_pos (by omega), l_bad, if_pos hA.1, if_neg c]
      simp only [Option.bind_some]
      rw [if_pos trivial]
  rw [e0]
  clear e0
  generalize xup2 G (o + 25) x k = G0 at *
  have rest : ∀ (p : Int) (N1 : List Int) (G1 : xG_), xfA o r x V.length (min M.length 420) N.length G0 G1 → rNs G1 o N1 → G1 (o + 25) x = k → (∀ a j, a ≠ o + 1 → ¬ (a = o ∧ j = 8) → G1 a j = G0 a j) → pok (pbind (pA48 (tstr B n lm) V i) fun z => (.inr ((p, N1), z) : Nat ⊕ ((Int × List Int) × pCd × List (Int × Nat) × Nat))) (fun w => ∃ G' L', g249_48 f x ((q : Int) + pl) p (xlx G1 L) = some (xlx G' L') ∧ L' 7 = (q : Int) + w ∧ xfA o r x V.length (min M.length 420) N.length G G' ∧ 0 ≤ G' (o + 20) r ∧ G' (o + 20) r ≤ 8 ∧ 0 ≤ G' o 14 ∧ G' o 14 ≤ 420 ∧ 0 ≤ G' o 8 ∧ G' o 8 ≤ 16)
      (fun z => ∃ G' L', g249_48 f x ((q : Int) + pl) p (xlx G1 L) = some (xlx G' L') ∧ rAt q B n lm z.2.2.2 L' ∧ xfA o r x V.length (min M.length 420) N.length G G' ∧ rNs G' o z.1.2 ∧ rVs G' o q r z.2.2.1 ∧ G' (o + 25) x = k ∧ G' (o + 26) x = z.1.1 ∧ rTs G' o x z.2.1 ∧ G' (o + 27) x = (z.2.1.length : Int) ∧ rMs G' o q (M ++ [(z.1.1, pl, (z.2.1.length : Int), 4)])) := by
    intro p N1 G1 g1 g2 g3 g4
    have h1 := l_a48 (M := M) (V := V) (pl := pl) (p := p) (x := x) hf hr hx (hE0.fA g1) (by rw [g4 _ _ (by omega) (by omega)]; exact h23') (hV0.ot (fun j => g4 _ _ (by omega) (by omega)) (fun j => g4 _ _ (by omega) (by omega)) (fun j => g4 _ _ (by omega) (by omega))) (hM0.fr (g4 _ _ (by omega) (by omega)) (fun a j _ _ => g4 _ _ (by omega) (by omega))) hA
    have fr : ∀ {G'}, xfa o r V.length x (min M.length 420) (xup2 G1 (o + 26) x p) G' → xfA o r x V.length (min M.length 420) N.length G G' := fun h => ((f0.tr g1 (Nat.le_refl _) (Nat.le_refl _) (Nat.le_refl _)).tr (xfA.up G1 (by omega)) (Nat.le_refl _) (Nat.le_refl _) (Nat.le_refl _)).tr h.fA (Nat.le_refl _) (Nat.le_refl _) (Nat.le_refl _)
    have hn : ∀ {G'}, xfa o r V.length x (min M.length 420) (xup2 G1 (o + 26) x p) G' → rNs G' o N1 := fun h => ⟨by rw [h _ _ (by omega), xup2_n (by omega)]; exact g2.1, g2.2.1, fun j hj => by rw [h _ _ (by omega), xup2_n (by omega)]; exact g2.2.2 j hj⟩
    cases hp : pA48 (tstr B n lm) V i with
    | inl w =>
      rw [hp] at h1
      obtain ⟨G2, L2, a1, a2, a3, a4, a5, a6, a7⟩ := h1
      exact ⟨G2, L2, a1, a2, fr a3, a4, a5, a6, a7, by rw [(hn a3).1]; omega, by rw [(hn a3).1]; have := (hn a3).2.1; omega⟩
    | inr z =>
      rw [hp] at h1
      obtain ⟨G2, L2, a1, a2, a3, a4, a5, a6, a7⟩ := h1
      exact ⟨G2, L2, a1, a2, fr a3, hn a3, a4, by rw [a3 _ _ (by omega), xup2_n (by omega)]; exact g3, by rw [a3 _ _ (by omega), xup2_s], a5, a6, a7⟩
  by_cases c : r = 24
  · rw [if_pos c]
    have ht : ¬ tell = true := fun h => htell.mp h c
    have e1 : pP tell N y pl = .inr (pIdx N y, N) := if_neg ht
    rw [e1]
    exact rest (pIdx N y) N G0 (fun a j _ => rfl) hN0 hk0 (fun a j _ _ => rfl)
  · rw [if_neg c]
    have ht : tell = true := htell.mpr c
    have e2 := l_pred (f := f) (x := y) (a := (q : Int) + pl) (L := L) (by omega) hE0 hN0 hA.1
    unfold pP
    rw [if_pos ht, e2]
    by_cases c1 : pIdx N y = -1
    · rw [if_pos c1, if_pos c1]
      by_cases c2 : N.length = 16
      · rw [if_pos c2, if_pos c2]
        simp only [Option.bind_some]
        have hbad : xu L 7 ((q : Int) + pl) 7 ≠ -1 := by show (q : Int) + _ ≠ -1; omega
        refine ⟨_, _, l_a48_bad hE0 hbad hx (by omega), rfl, (f0.tr (xfA.up _ (by omega)) (Nat.le_refl _) (Nat.le_refl _) (Nat.le_refl _)).tr (xfA.up _ (by omega)) (Nat.le_refl _) (Nat.le_refl _) (Nat.le_refl _), ?_⟩
        rw [xup2_n (by omega), xup2_n (by omega), xup2_n (by omega), xup2_n (by omega), xup2_n (by omega), xup2_n (by omega), hV0.1, hM0.1, hN0.1]
        have := hV0.2.1
        omega
      · rw [if_neg c2, if_neg c2]
        simp only [Option.bind_some]
        exact rest _ _ _ ((xfA.up _ (by omega)).tr (xfA.up _ (by omega)) (Nat.le_refl _) (Nat.le_refl _) (Nat.le_refl _)) (hN0.add y c2) (by rw [xup2_n (by omega), xup2_n (by omega)]; exact hk0) (fun a j h1 h2 => by rw [xup2_n (by omega), xup2_n (by omega)])
    · rw [if_neg c1, if_neg c1]
      simp only [Option.bind_some]
      exact rest (pIdx N y) N G0 (fun a j _ => rfl) hN0 hk0 (fun a j _ _ => rfl)
end
end
