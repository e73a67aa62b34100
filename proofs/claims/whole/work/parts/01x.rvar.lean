/-! The reference reads VARIABLES, puts codes -/
theorem nlt0 (o : Nat) : ((o : Int) < 0) = False := by simp
theorem getD_e {α : Type} {l : List α} {j : Nat} {d : α} (h : j < l.length) : l.getD j d = l[j] := by rw [List.getD_eq_getElem?_getD, List.getElem?_eq_getElem h]; rfl
theorem getD_1 {α : Type} (l : List α) (a d : α) (j : Nat) : (l ++ [a]).getD j d = if j = l.length then a else l.getD j d := by
  by_cases c : j = l.length
  · rw [if_pos c, getD_e (by rw [len1]; omega)]
    simp [c]
  · rw [if_neg c]
    by_cases c2 : j < l.length
    · rw [getD_e (by rw [len1]; omega), getD_e c2, List.getElem_append_left c2]
    · rw [List.getD_eq_getElem?_getD, List.getD_eq_getElem?_getD, List.getElem?_eq_none (by rw [len1]; omega), List.getElem?_eq_none (by omega)]
theorem pVix_no {V : List (Int × Nat)} {x : Int} (h : ∀ j, j < V.length → (V.getD j (0, 0)).1 ≠ x) : pVix V x = -1 := by
  have : V.findIdx? (fun y => decide (y.1 = x)) = none := by
    rw [List.findIdx?_eq_none_iff]
    intro y hy
    obtain ⟨j, hj, e⟩ := List.mem_iff_getElem.mp hy
    have := h j hj
    rw [getD_e hj, e] at this
    exact decide_eq_false this
  unfold pVix
  rw [this]
theorem pVix_yes {V : List (Int × Nat)} {x : Int} {v : Nat} (hv : v < V.length) (h : ∀ j, j < v → (V.getD j (0, 0)).1 ≠ x) (h1 : (V.getD v (0, 0)).1 = x) : pVix V x = v := by
  have : V.findIdx? (fun y => decide (y.1 = x)) = some v := by
    rw [List.findIdx?_eq_some_iff_getElem]
    refine ⟨hv, ?_, fun j hj => ?_⟩
    · rw [getD_e hv] at h1
      exact decide_eq_true h1
    · have := h j hj
      rw [getD_e (by omega)] at this
      simp [this]
  unfold pVix
  rw [this]
def rVs (G : xG_) (o q r : Nat) (V : List (Int × Nat)) : Prop := G (o + 20) r = (V.length : Int) ∧ V.length ≤ 8 ∧ ∀ v, v < V.length → G (o + 23) (8 * r + v) = (V.getD v (0, 0)).1 ∧ G (o + 24) (8 * r + v) = (q : Int) + (V.getD v (0, 0)).2
/-- what reading of EXPRESSIONS changes -/
def xfe (o r v0 c0 : Nat) (G G' : xG_) : Prop := ∀ a j, ¬ ((a = 0 ∧ (j = 21 ∨ j = 25)) ∨ (a = o ∧ j = 37) ∨ (a = o + 20 ∧ j = r) ∨ ((a = o + 23 ∨ a = o + 24) ∧ 8 * r + v0 ≤ j) ∨ ((a = o + 33 ∨ a = o + 34) ∧ c0 ≤ j)) → G' a j = G a j
theorem xfe.rf (o r v0 c0 : Nat) (G : xG_) : xfe o r v0 c0 G G := fun _ _ _ => rfl
theorem xfe.tr {o r v0 c0 v1 c1 : Nat} {G G1 G2 : xG_} (h : xfe o r v0 c0 G G1) (h1 : xfe o r v1 c1 G1 G2) (hv : v0 ≤ v1) (hc : c0 ≤ c1) : xfe o r v0 c0 G G2 := by
  intro a j hj
  rw [h1 a j (by omega), h a j hj]
theorem xfe.mo {o r v0 c0 v1 c1 : Nat} {G G1 : xG_} (h : xfe o r v1 c1 G G1) (hv : v0 ≤ v1) (hc : c0 ≤ c1) : xfe o r v0 c0 G G1 := fun a j hj => h a j (by omega)
theorem xfe.up {o r v0 c0 a j : Nat} {v : Int} (G : xG_) (h : (a = 0 ∧ (j = 21 ∨ j = 25)) ∨ (a = o ∧ j = 37) ∨ (a = o + 20 ∧ j = r) ∨ ((a = o + 23 ∨ a = o + 24) ∧ 8 * r + v0 ≤ j) ∨ ((a = o + 33 ∨ a = o + 34) ∧ c0 ≤ j)) : xfe o r v0 c0 G (xup2 G a j v) := by
  intro a' j' hj
  exact xup2_n (fun e => hj (by rw [e.1, e.2]; exact h))
theorem rEv.fe {G G' : xG_} {q n o r v0 c0 : Nat} {B : Nat → Int} {lm : Bool} (h : rEv G q B n lm o) (hf : xfe o r v0 c0 G G') : rEv G' q B n lm o := by
  obtain ⟨⟨a1, a2, a3, a4, a5⟩, b, c, d, e⟩ := h
  have g0 : ∀ j, j ≤ 20 ∨ j = 22 → G' 0 j = G 0 j := fun j hj => hf 0 j (by omega)
  have gb : ∀ j, G' (G 0 0).toNat j = G (G 0 0).toNat j := fun j => hf _ j (by have := a1.1; omega)
  refine ⟨⟨?_, a2, ?_, ?_, ?_⟩, ?_, ?_, ?_, e⟩
  · unfold gT
    rw [g0 0 (by omega), g0 1 (by omega)]
    exact a1
  · rw [g0 1 (by omega)]; exact a3
  · intro p
    rw [← a4 p]
    unfold gB
    rw [g0 0 (by omega), g0 1 (by omega), gb]
  · intro p hp
    rw [g0 0 (by omega), gb]
    exact a5 p hp
  · rw [g0 11 (by omega)]; exact b
  · unfold rC
    rw [g0 12 (by omega), g0 13 (by omega), g0 14 (by omega), g0 15 (by omega), g0 16 (by omega), g0 17 (by omega), g0 18 (by omega), g0 19 (by omega), g0 20 (by omega)]
    exact c
  · rw [g0 22 (by omega)]; exact d
section
variable {f q n o r i : Nat} {B : Nat → Int} {lm : Bool} {G : xG_} {L : Nat → Int} {V : List (Int × Nat)}
theorem l_vloop (hE : rEv G q B n lm o) (h23 : G 0 23 = (r : Int)) (hr : r ≤ 24) (hV : rVs G o q r V) : ∀ k v fu, v + k = V.length → k < fu → (∀ j, j < v → (V.getD j (0, 0)).1 ≠ L 9) →
    ∃ v', v ≤ v' ∧ v' ≤ V.length ∧ g239_28 f fu ((8 * r : Nat) : Int) v (xlx G L) = g239_69 f ((8 * r : Nat) : Int) v' (xlx G L) ∧ (∀ j, j < v' → (V.getD j (0, 0)).1 ≠ L 9) ∧ (v' < V.length → (V.getD v' (0, 0)).1 = L 9) := by
  obtain ⟨_, _, _, h22, ho⟩ := hE
  obtain ⟨hV1, hV2, hV3⟩ := hV
  intro k
  induction k with
  | zero =>
    intro v fu hk hfu hj
    obtain ⟨fu, rfl⟩ : ∃ t, fu = t + 1 := ⟨fu - 1, by omega⟩
    refine ⟨v, Nat.le_refl _, by omega, ?_, hj, fun c => by omega⟩
    show g239_28b (g239_28 f fu) f _ _ _ = _
    unfold g239_28b
    simp (disch := omega) only [xlx_o, xlx_2, xlx_3, xlx_4, xlx_5, xlx_6, xlx_7, xlx_8, xlx_9, xlx_10, xlx_upo, Int.toNat_natCast, nlt0, if_false, if_true, Option.bind_some, i10, i01, true_and, false_and, and_false, and_true, not_true_eq_false, not_false_eq_true, h22, h23]
    rw [if_pos (by omega), hV1, if_pos (by omega)]
  | succ k ih =>
    intro v fu hk hfu hj
    obtain ⟨fu, rfl⟩ : ∃ t, fu = t + 1 := ⟨fu - 1, by omega⟩
    have hx : xwr (((8 * r : Nat) : Int) + v) = ((8 * r + v : Nat) : Int) := by rw [xwr_g _ (by omega) (by omega)]; omega
    have hx1 : xwr ((v : Int) + 1) = ((v + 1 : Nat) : Int) := by rw [xwr_g _ (by omega) (by omega)]; omega
    have es : g239_28 f (fu + 1) ((8 * r : Nat) : Int) v (xlx G L) = if (V.getD v (0, 0)).1 = L 9 then g239_69 f ((8 * r : Nat) : Int) v (xlx G L) else g239_28 f fu ((8 * r : Nat) : Int) (v + 1 : Nat) (xlx G L) := by
      show g239_28b (g239_28 f fu) f _ _ _ = _
      unfold g239_28b
      simp (disch := omega) only [xlx_o, xlx_2, xlx_3, xlx_4, xlx_5, xlx_6, xlx_7, xlx_8, xlx_9, xlx_10, xlx_upo, Int.toNat_natCast, nlt0, if_false, if_true, Option.bind_some, i10, i01, true_and, false_and, and_false, and_true, not_true_eq_false, not_false_eq_true, h22, h23, hx, hx1]
      rw [if_pos (by omega), hV1, if_neg (by omega), if_pos (by omega), (hV3 v (by omega)).1]
    rw [es]
    by_cases c : (V.getD v (0, 0)).1 = L 9
    · rw [if_pos c]
      exact ⟨v, Nat.le_refl _, by omega, rfl, hj, fun _ => c⟩
    · rw [if_neg c]
      obtain ⟨v', a1, a2, a3⟩ := ih (v + 1) fu (by omega) (by omega) (fun j hj2 => by
        by_cases e : j = v
        · rw [e]; exact c
        · exact hj j (by omega))
      exact ⟨v', by omega, a2, a3⟩
theorem l_var (hf : n + 20 < f) (hE : rEv G q B n lm o) (h23 : G 0 23 = (r : Int)) (hr : r ≤ 24) (hV : rVs G o q r V) (hA : rAt q B n lm i L) (hK : kK (tstr B n lm) i = 2) (c0 : Nat) :
    pok (pVar (tstr B n lm) V i) (fun w => ∃ L', g239 f (xlx G L) = some (0, xlx G L') ∧ L' 7 = (q : Int) + w)
      (fun x => ∃ G' L', g239 f (xlx G L) = some (x.1, xlx G' L') ∧ rAt q B n lm x.2.2 L' ∧ xfe o r V.length c0 G G' ∧ rVs G' o q r x.2.1 ∧ G' o 37 = G o 37 ∧ G' 0 25 = G 0 25 ∧ 0 ≤ x.1 ∧ x.1 < x.2.1.length) := by
  have htk := hA.tk hE.1.2.1
  obtain ⟨t4, tsg, tn, tv, tu, tnum, tend, tn9, tv9, tnum9, t6, t5, tlt, t3⟩ := htk
  have h7 := hA.1
  have h2 := tv.mpr hK
  have h9 := tv9 h2
  have h22 := hE.2.2.2.1
  have ho := hE.2.2.2.2
  have hlen := hE.1.len
  unfold pVar
  rw [if_neg (by omega)]
  rw [h2, if_neg (by omega)] at t6
  by_cases c8 : 8 < kE (tstr B n lm) i - kS (tstr B n lm) i
  · rw [if_pos c8]
    rw [if_pos ⟨rfl, c8⟩] at t6
    refine ⟨xu L 7 (L 6), ?_, by rw [t6]; show (q : Int) + _ + 8 = (q : Int) + ((_ + 8 : Nat) : Int); omega⟩
    unfold g239
    simp (disch := omega) only [xlx_o, xlx_2, xlx_3, xlx_4, xlx_5, xlx_6, xlx_7, xlx_8, xlx_9, xlx_10, xlx_upo, Int.toNat_natCast, nlt0, if_false, if_true, Option.bind_some, i10, i01, true_and, false_and, and_false, and_true, not_true_eq_false, not_false_eq_true, l_fail, h7, t6]
    rw [if_neg (by omega)]
  · rw [if_neg c8]
    rw [if_neg (fun q => c8 q.2)] at t6
    obtain ⟨v, a1, a2, a3, a4, a5⟩ := l_vloop (f := f) (L := L) hE h23 hr hV V.length 0 f (by omega) (by have := hV.2.1; omega) (fun j hj => by omega)
    have hx8 : xwr ((r : Int) * 8) = ((8 * r : Nat) : Int) := by rw [xwr_g _ (by omega) (by omega)]; omega
    have e0 : g239 f (xlx G L) = g239_69 f ((8 * r : Nat) : Int) v (xlx G L) := by
      unfold g239
      simp (disch := omega) only [xlx_o, xlx_2, xlx_3, xlx_4, xlx_5, xlx_6, xlx_7, xlx_8, xlx_9, xlx_10, xlx_upo, Int.toNat_natCast, nlt0, if_false, if_true, Option.bind_some, i10, i01, true_and, false_and, and_false, and_true, not_true_eq_false, not_false_eq_true, h23, t6, hx8]
      exact a3
    rw [e0]
    obtain ⟨hV1, hV2, hV3⟩ := hV
    have hx : xwr (((8 * r : Nat) : Int) + v) = ((8 * r + v : Nat) : Int) := by rw [xwr_g _ (by omega) (by omega)]; omega
    by_cases cv : v < V.length
    · have e1 := pVix_yes cv (x := kC (tstr B n lm) i) (fun j hj => by rw [← h9]; exact a4 j hj) (by rw [← h9]; exact a5 cv)
      rw [e1, if_neg (by omega)]
      obtain ⟨L', e, a⟩ := l_pass hf hE hA t6 (by omega) (by omega)
      refine ⟨G, L', ?_, a, .rf _ _ _ _ _, ⟨hV1, hV2, hV3⟩, rfl, rfl, by omega, by show (v : Int) < V.length; omega⟩
      refine xok_is ?_
      unfold g239_69 g239_147
      repeat' (first | with_reducible refine xok_sb ?_ | with_reducible refine xok_it (by first | omega | (simp (disch := omega) only [eq_self, not_true_eq_false, not_false_eq_true, true_and, and_true, and_self, xlx_o, xup2_n, xup2_s, xlx_2, xlx_3, xlx_4, xlx_5, xlx_6, xlx_7, xlx_8, xlx_9, xlx_10, Int.toNat_natCast, h22, h23, hV1]; done) | (simp (disch := omega) only [eq_self, not_true_eq_false, not_false_eq_true, true_and, and_true, and_self, xlx_o, xup2_n, xup2_s, xlx_2, xlx_3, xlx_4, xlx_5, xlx_6, xlx_7, xlx_8, xlx_9, xlx_10, Int.toNat_natCast, h22, h23, hV1]; omega)) ?_ | with_reducible refine xok_if (by first | omega | (simp (disch := omega) only [eq_self, not_true_eq_false, not_false_eq_true, true_and, and_true, and_self, xlx_o, xup2_n, xup2_s, xlx_2, xlx_3, xlx_4, xlx_5, xlx_6, xlx_7, xlx_8, xlx_9, xlx_10, Int.toNat_natCast, h22, h23, hV1]; done) | (simp (disch := omega) only [eq_self, not_true_eq_false, not_false_eq_true, true_and, and_true, and_self, xlx_o, xup2_n, xup2_s, xlx_2, xlx_3, xlx_4, xlx_5, xlx_6, xlx_7, xlx_8, xlx_9, xlx_10, Int.toNat_natCast, h22, h23, hV1]; omega)) ?_ | fail)
      rw [e]
      exact xok_some.mpr rfl
    · have e1 := pVix_no (V := V) (x := kC (tstr B n lm) i) (fun j hj => by rw [← h9]; exact a4 j (by omega))
      obtain rfl : v = V.length := by omega
      rw [e1, if_pos rfl]
      by_cases c9 : V.length = 8
      · rw [if_pos c9]
        refine ⟨xu L 7 (L 4), ?_, by rw [t4]; rfl⟩
        refine xok_is ?_
        unfold g239_69
        repeat' (first | with_reducible refine xok_sb ?_ | with_reducible refine xok_it (by first | omega | (simp (disch := omega) only [eq_self, not_true_eq_false, not_false_eq_true, true_and, and_true, and_self, xlx_o, xup2_n, xup2_s, xlx_2, xlx_3, xlx_4, xlx_5, xlx_6, xlx_7, xlx_8, xlx_9, xlx_10, Int.toNat_natCast, h22, h23, hV1]; done) | (simp (disch := omega) only [eq_self, not_true_eq_false, not_false_eq_true, true_and, and_true, and_self, xlx_o, xup2_n, xup2_s, xlx_2, xlx_3, xlx_4, xlx_5, xlx_6, xlx_7, xlx_8, xlx_9, xlx_10, Int.toNat_natCast, h22, h23, hV1]; omega)) ?_ | with_reducible refine xok_if (by first | omega | (simp (disch := omega) only [eq_self, not_true_eq_false, not_false_eq_true, true_and, and_true, and_self, xlx_o, xup2_n, xup2_s, xlx_2, xlx_3, xlx_4, xlx_5, xlx_6, xlx_7, xlx_8, xlx_9, xlx_10, Int.toNat_natCast, h22, h23, hV1]; done) | (simp (disch := omega) only [eq_self, not_true_eq_false, not_false_eq_true, true_and, and_true, and_self, xlx_o, xup2_n, xup2_s, xlx_2, xlx_3, xlx_4, xlx_5, xlx_6, xlx_7, xlx_8, xlx_9, xlx_10, Int.toNat_natCast, h22, h23, hV1]; omega)) ?_ | fail)
        rw [xlx_4, l_fail, if_pos h7]
        exact xok_some.mpr rfl
      · rw [if_neg c9]
        let G1 := xup2 (xup2 (xup2 G (o + 23) (8 * r + V.length) (L 9)) (o + 24) (8 * r + V.length) (L 4)) (o + 20) r ((V.length + 1 : Nat) : Int)
        have hfe : xfe o r V.length c0 G G1 := ((xfe.up G (by omega)).tr (xfe.up _ (by omega)) (Nat.le_refl _) (Nat.le_refl _)).tr (xfe.up _ (by omega)) (Nat.le_refl _) (Nat.le_refl _)
        have hfe' : ∀ {a j : Nat}, ¬ (a = o + 20 ∨ a = o + 23 ∨ a = o + 24) → G1 a j = G a j := fun {a j} hh => by
          show xup2 (xup2 (xup2 G (o + 23) (8 * r + V.length) (L 9)) (o + 24) (8 * r + V.length) (L 4)) (o + 20) r _ a j = _
          rw [xup2_n (by omega), xup2_n (by omega), xup2_n (by omega)]
        obtain ⟨L', e, a⟩ := l_pass hf (hE.fe hfe) hA t6 (by omega) (by omega)
        refine ⟨G1, L', ?_, a, hfe, ⟨?_, ?_, ?_⟩, ?_, ?_, by omega, ?_⟩
        · refine xok_is ?_
          unfold g239_69 g239_147
          repeat' (first | with_reducible refine xok_sb ?_ | with_reducible refine xok_it (by first | omega | (simp (disch := omega) only [eq_self, not_true_eq_false, not_false_eq_true, true_and, and_true, and_self, xlx_o, xup2_n, xup2_s, xlx_2, xlx_3, xlx_4, xlx_5, xlx_6, xlx_7, xlx_8, xlx_9, xlx_10, Int.toNat_natCast, h22, h23, hV1, hx]; done) | (simp (disch := omega) only [eq_self, not_true_eq_false, not_false_eq_true, true_and, and_true, and_self, xlx_o, xup2_n, xup2_s, xlx_2, xlx_3, xlx_4, xlx_5, xlx_6, xlx_7, xlx_8, xlx_9, xlx_10, Int.toNat_natCast, h22, h23, hV1, hx]; omega)) ?_ | with_reducible refine xok_if (by first | omega | (simp (disch := omega) only [eq_self, not_true_eq_false, not_false_eq_true, true_and, and_true, and_self, xlx_o, xup2_n, xup2_s, xlx_2, xlx_3, xlx_4, xlx_5, xlx_6, xlx_7, xlx_8, xlx_9, xlx_10, Int.toNat_natCast, h22, h23, hV1, hx]; done) | (simp (disch := omega) only [eq_self, not_true_eq_false, not_false_eq_true, true_and, and_true, and_self, xlx_o, xup2_n, xup2_s, xlx_2, xlx_3, xlx_4, xlx_5, xlx_6, xlx_7, xlx_8, xlx_9, xlx_10, Int.toNat_natCast, h22, h23, hV1, hx]; omega)) ?_ | fail)
          simp (disch := omega) only [xlx_upo, eq_self, not_true_eq_false, not_false_eq_true, true_and, and_true, and_self, xlx_o, xup2_n, xup2_s, xlx_2, xlx_3, xlx_4, xlx_5, xlx_6, xlx_7, xlx_8, xlx_9, xlx_10, Int.toNat_natCast, h22, h23, hV1, hx]
          rw [xwr_g _ (by omega) (by omega)]
          show xok ((g213 f (xlx G1 L)).bind _) _
          rw [e]
          exact xok_some.mpr rfl
        · show G1 (o + 20) r = (((V ++ [_]).length : Nat) : Int)
          rw [len1]
          exact xup2_s _ _ _ _
        · show (V ++ [_]).length ≤ 8
          rw [len1]; omega
        · intro w hw
          have hw2 : w < V.length + 1 := by
            have : w < (V ++ [(kC (tstr B n lm) i, kS (tstr B n lm) i)]).length := hw
            rw [len1] at this; exact this
          show G1 (o + 23) (8 * r + w) = ((V ++ [(kC (tstr B n lm) i, kS (tstr B n lm) i)]).getD w (0, 0)).1 ∧ G1 (o + 24) (8 * r + w) = (q : Int) + ((V ++ [(kC (tstr B n lm) i, kS (tstr B n lm) i)]).getD w (0, 0)).2
          have e1 : G1 (o + 23) (8 * r + w) = if w = V.length then L 9 else G (o + 23) (8 * r + w) := by
            show xup2 (xup2 (xup2 G (o + 23) (8 * r + V.length) (L 9)) (o + 24) (8 * r + V.length) (L 4)) (o + 20) r _ (o + 23) (8 * r + w) = _
            rw [xup2_n (by omega), xup2_n (by omega), xup2_e]
            by_cases c : w = V.length
            · rw [if_pos ⟨rfl, by omega⟩, if_pos c]
            · rw [if_neg (by omega), if_neg c]
          have e2 : G1 (o + 24) (8 * r + w) = if w = V.length then L 4 else G (o + 24) (8 * r + w) := by
            show xup2 (xup2 (xup2 G (o + 23) (8 * r + V.length) (L 9)) (o + 24) (8 * r + V.length) (L 4)) (o + 20) r _ (o + 24) (8 * r + w) = _
            rw [xup2_n (by omega), xup2_e]
            by_cases c : w = V.length
            · rw [if_pos ⟨rfl, by omega⟩, if_pos c]
            · rw [if_neg (by omega), if_neg c, xup2_n (by omega)]
          rw [e1, e2, getD_1, h9, t4]
          by_cases c : w = V.length
          · rw [if_pos c, if_pos c, if_pos c]
            exact ⟨rfl, rfl⟩
          · rw [if_neg c, if_neg c, if_neg c]
            exact hV3 w (by omega)
        · exact hfe' (by omega)
        · exact hfe' (by omega)
        · show (V.length : Int) < (((V ++ [_]).length : Nat) : Int)
          rw [len1]; omega
end
