/-! WAYS of the reference: all that = binds -/
theorem rLs.v {G G' : xG_} {r c : Nat} {l : List pLt} (h : rLs G 2 r c l) (hf : ∀ a j, 2 ≤ a → a ≤ 36 → G' a j = G a j) : rLs G' 2 r c l := by
  obtain ⟨a1, a2, a3⟩ := h
  refine ⟨by rw [hf _ _ (by omega) (by omega)]; exact a1, a2, fun k hk => (a3 k hk).fr (Nat.le_refl _) (fun a _ _ => hf _ _ (by omega) (by omega)) (fun k hk => ⟨hf _ _ (by omega) (by omega), hf _ _ (by omega) (by omega)⟩) (fun j hj => ⟨hf _ _ (by omega) (by omega), hf _ _ (by omega) (by omega)⟩)⟩
/-- all = of LITERALS hold -/
def sEq (v : Nat → Int) (l : List pLt) : Prop := ∀ y ∈ l, y.1 = 3 → y.2.1 = 61 → sCm v y
theorem sCm_eq {v : Nat → Int} {y : pLt} (h : sCm v y) (h1 : y.2.1 = 61) : ∃ z, qEv v y.2.2.2.2.1 = some z ∧ qEv v y.2.2.2.2.2 = some z := by
  obtain ⟨a, b, k1, k2, k3⟩ := h
  have := k3.1 h1
  exact ⟨a, k1, by rw [this]; exact k2⟩
section
variable {f nv np r c m : Nat} {l : List pLt}
/-- the mask behind one = -/
theorem l_277_s {G : xG_} {y : pLt} {x : Nat} (hf : 6300 < f) (hnv : nv ≤ 8) (hc : c ≤ 6200) (hL : rLt G 2 x c y) (h3 : y.1 = 3) (hw : wLt np nv y) (hm : rBn G m nv) :
    ∃ a : Nat, G 30 x = (a : Int) ∧ G 31 x = ((a + y.2.2.2.2.1.length : Nat) : Int) ∧ G 32 x = ((a + y.2.2.2.2.1.length + y.2.2.2.2.2.length : Nat) : Int) ∧ ∃ G1 r1, g278 f (a : Int) ((a + y.2.2.2.2.1.length : Nat) : Int) ((a + y.2.2.2.2.1.length : Nat) : Int) ((a + y.2.2.2.2.1.length + y.2.2.2.2.2.length : Nat) : Int) G = some (r1, G1) ∧ xfv m G G1 ∧
      ((r1 = 0 ∧ ∀ v, vXt m (G 110) v → qEv v y.2.2.2.2.2 = none) ∨ (r1 = 1 ∧ ∃ G2 r2, g278 f ((a + y.2.2.2.2.1.length : Nat) : Int) ((a + y.2.2.2.2.1.length + y.2.2.2.2.2.length : Nat) : Int) (a : Int) ((a + y.2.2.2.2.1.length : Nat) : Int) G1 = some (r2, G2) ∧ xfv m G G2 ∧
        ((r2 = 0 ∧ ∀ v, vXt m (G 110) v → (∃ z, qEv v y.2.2.2.2.1 = some z ∧ qEv v y.2.2.2.2.2 = some z) → False) ∨ (r2 = 1 ∧ rBn G2 (qR1 y (qL1 y m)) nv ∧ ∀ v, vXt m (G 110) v → (∃ z, qEv v y.2.2.2.2.1 = some z ∧ qEv v y.2.2.2.2.2 = some z) → vXt (qR1 y (qL1 y m)) (G2 110) v)))) := by
  obtain ⟨q1, q2, q3, q4⟩ := hL
  obtain ⟨z1, a, z2, z3, z4, z5, z6, z7⟩ := q4 h3
  have hw' : wEx nv y.2.2.2.2.1 ∧ wEx nv y.2.2.2.2.2 := by
    rcases hw with z | z
    · omega
    · exact z.2.2
  obtain ⟨G1, r1, k1, k2, k3⟩ := l_278 (f := f) hf hnv z6 z7 hw'.1 hw'.2 (by omega) (by omega) hm
  refine ⟨a, z2, z3, z4, G1, r1, k1, k2, ?_⟩
  rcases k3 with ⟨k3, k4, k5⟩ | k3
  · have cp : ∀ {b : Nat} {Q : pCd}, rCo G 2 b Q → rCo G1 2 b Q := fun h j hj => by
      rw [k2.1 _ _ (by omega) (by omega) (by omega), k2.1 _ _ (by omega) (by omega) (by omega)]
      exact h j hj
    have sub : ∀ k, m.testBit k = true → (if qAl2 y.2.2.2.2.1 ∧ qSub (qVm y.2.2.2.2.2) m then m ||| qVm y.2.2.2.2.1 else m).testBit k = true := fun k hk => by
      by_cases c1 : qAl2 y.2.2.2.2.1 ∧ qSub (qVm y.2.2.2.2.2) m
      · rw [if_pos c1, Nat.testBit_or, hk, Bool.true_or]
      · rw [if_neg c1]; exact hk
    have em : qL1 y m = (if qAl2 y.2.2.2.2.1 ∧ qSub (qVm y.2.2.2.2.2) m then m ||| qVm y.2.2.2.2.1 else m) := rfl
    rw [← em] at k4 k5 sub
    obtain ⟨G2, r2, m1, m2, m3⟩ := l_278 (f := f) hf hnv (cp z7) (cp z6) hw'.2 hw'.1 (by omega) (by omega) k4
    refine .inr ⟨k3, G2, r2, m1, k2.tr m2 sub, ?_⟩
    rcases m3 with ⟨m3, m4, m5⟩ | ⟨m3, m4⟩
    · have em2 : qR1 y (qL1 y m) = (if qAl2 y.2.2.2.2.2 ∧ qSub (qVm y.2.2.2.2.1) (qL1 y m) then qL1 y m ||| qVm y.2.2.2.2.2 else qL1 y m) := rfl
      rw [← em2] at m4 m5
      exact .inr ⟨m3, m4, fun v hv ⟨z, y1, y2⟩ => m5 v (k5 v hv ⟨z, y1, y2⟩) ⟨z, y2, y1⟩⟩
    · refine .inl ⟨m3, fun v hv ⟨z, y1, y2⟩ => ?_⟩
      have := m4 v (k5 v hv ⟨z, y1, y2⟩)
      rw [y1] at this
      cases this
  · exact .inl k3
theorem l_277_17 {r2 : Int → xG_ → Option (Int × xG_)} {w : Int} (hf : 6300 < f) (hr : r < 25) (hnv : nv ≤ 8) (hc : c ≤ 6200) (hw : ∀ y ∈ l, wLt np nv y) : ∀ (rest : List pLt) (k fu m : Nat) (G : xG_), l.drop k = rest → k ≤ l.length → rest.length < fu → rLs G 2 r c l → G 0 39 = (r : Int) → rBn G m nv →
    ∃ G', xfv m G G' ∧ ((g277_17 r2 f fu w (k : Int) G = some (0, G') ∧ ∀ v, vXt m (G 110) v → ¬ sEq v l) ∨ (g277_17 r2 f fu w (k : Int) G = r2 w G' ∧ rBn G' (qSt rest m) nv ∧ (∀ k, m.testBit k = true → (qSt rest m).testBit k = true) ∧ ∀ v, vXt m (G 110) v → sEq v l → vXt (qSt rest m) (G' 110) v)) := by
  intro rest
  induction rest with
  | nil =>
    intro k fu m G h1 h2 h3 hL h39 hm
    obtain ⟨fu, rfl⟩ : ∃ t, fu = t + 1 := ⟨fu - 1, by have : 0 < fu := h3; omega⟩
    have hk : k = l.length := by
      have : (l.drop k).length = 0 := by rw [h1]; rfl
      rw [List.length_drop] at this
      omega
    have h19 : G 21 r = (l.length : Int) := hL.1
    refine ⟨G, .rf _ _, .inr ⟨?_, hm, fun _ q => q, fun v hv _ => hv⟩⟩
    show g277_17b r2 (g277_17 r2 f fu) f _ _ _ = _
    unfold g277_17b
    rw [h39, if_pos (by omega), Int.toNat_natCast]
    show (if G 21 r ≤ (k : Int) then _ else _) = _
    rw [h19, if_pos (by omega)]
  | cons y rest ih =>
    intro k fu m G h1 h2 h3 hL h39 hm
    have h3' : rest.length + 1 < fu := h3
    obtain ⟨fu, rfl⟩ : ∃ t, fu = t + 1 := ⟨fu - 1, by omega⟩
    have hk : k < l.length := by
      have : (l.drop k).length = (y :: rest).length := by rw [h1]
      rw [List.length_drop, List.length_cons] at this
      omega
    have hl8 := hL.2.1
    have hy : l.getD k dLt = y ∧ l.drop (k + 1) = rest := by
      rw [List.drop_eq_getElem_cons hk] at h1
      injection h1 with e1 e2
      exact ⟨by rw [getD_e hk]; exact e1, e2⟩
    have hym : y ∈ l := by
      rw [← hy.1, getD_e hk]
      exact List.getElem_mem hk
    have h19 : G 21 r = (l.length : Int) := hL.1
    have hLy := hL.2.2 k hk
    rw [hy.1] at hLy
    have hwy := hw y hym
    have ex : xwr (xwr ((r : Int) * 8) + (k : Int)) = ((8 * r + k : Nat) : Int) := by
      rw [xwr_g ((r : Int) * 8) (by omega) (by omega), xwr_g _ (by omega) (by omega)]; omega
    have ek : xwr ((k : Int) + 1) = ((k + 1 : Nat) : Int) := by rw [xwr_g _ (by omega) (by omega)]; omega
    have hxx : 0 ≤ ((8 * r + k : Nat) : Int) ∧ ((8 * r + k : Nat) : Int) < 200 := by omega
    have h27 : G 27 (8 * r + k) = y.1 := hLy.1
    have skip : qS1 y m = m → g277_17 r2 f (fu + 1) w (k : Int) G = g277_17 r2 f fu w ((k + 1 : Nat) : Int) G → ∃ G', xfv m G G' ∧ ((g277_17 r2 f (fu + 1) w (k : Int) G = some (0, G') ∧ ∀ v, vXt m (G 110) v → ¬ sEq v l) ∨ (g277_17 r2 f (fu + 1) w (k : Int) G = r2 w G' ∧ rBn G' (qSt (y :: rest) m) nv ∧ (∀ k, m.testBit k = true → (qSt (y :: rest) m).testBit k = true) ∧ ∀ v, vXt m (G 110) v → sEq v l → vXt (qSt (y :: rest) m) (G' 110) v)) := by
      intro e1 e2
      have e3 : qSt (y :: rest) m = qSt rest m := by
        show qSt rest (qS1 y m) = _
        rw [e1]
      rw [e2, e3]
      exact ih (k + 1) fu m G hy.2 (by omega) (by omega) hL h39 hm
    by_cases c3 : y.1 = 3
    · have hcs : isCs y.2.1 := by
        rcases hwy with z | z
        · omega
        · exact z.2.1
      have h28 : G 28 (8 * r + k) = rsc y.2.1 := (hLy.2.2.2 c3).1
      by_cases c61 : y.2.1 = 61
      · have e61 : rsc y.2.1 = 61 := (rsc61 hcs).mpr c61
        obtain ⟨a, z2, z3, z4, G1, r1, k1, k2, k3⟩ := l_277_s (f := f) hf hnv hc hLy c3 hwy hm
        have eqS : qS1 y m = qR1 y (qL1 y m) := by
          unfold qS1
          rw [if_pos (And.intro c3 c61)]
        have eq1 : g277_17 r2 f (fu + 1) w (k : Int) G = if r1 = 0 then some (0, G1) else (g278 f (G1 31 (8 * r + k)) (G1 32 (8 * r + k)) (G1 30 (8 * r + k)) (G1 31 (8 * r + k)) G1).bind fun R121 => (if ¬ (R121.1) = 0 then g277_17 r2 f fu w ((k + 1 : Nat) : Int) R121.2 else some (0, R121.2)) := by
          have n3 : ¬ ¬ y.1 = 3 := fun q => q c3
          show g277_17b r2 (g277_17 r2 f fu) f _ _ _ = _
          unfold g277_17b g277_159 g277_161
          rw [h39]
          simp only [Nat.reduceAdd, Int.toNat_natCast]
          rw [if_pos (by omega), h19, if_neg (by omega)]
          simp only [ex, if_pos hxx, Int.toNat_natCast]
          rw [h27, if_neg n3, h28, if_pos e61, z2, z3, z4, k1]
          simp only [Option.bind_some]
          rw [ek]
        rw [eq1]
        have no : ∀ v, (∀ z, ¬ (qEv v y.2.2.2.2.1 = some z ∧ qEv v y.2.2.2.2.2 = some z)) → ¬ sEq v l := fun v h hs => by
          obtain ⟨z, hz⟩ := sCm_eq (hs y hym c3 c61) c61
          exact h z hz
        rcases k3 with ⟨k3, k4⟩ | ⟨k3, G2, r2', m1, m2, m3⟩
        · rw [if_pos k3]
          refine ⟨G1, k2, .inl ⟨rfl, fun v hv => no v (fun z hz => ?_)⟩⟩
          rw [k4 v hv] at hz
          cases hz.2
        · rw [if_neg (by omega), k2.1 _ _ (by omega) (by omega) (by omega), k2.1 _ _ (by omega) (by omega) (by omega), k2.1 _ _ (by omega) (by omega) (by omega), z2, z3, z4, m1, Option.bind_some]
          rcases m3 with ⟨m3, m4⟩ | ⟨m3, m4, m5⟩
          · have n1 : ¬ ¬ (r2', G2).1 = 0 := fun q => q m3
            rw [if_neg n1]
            exact ⟨G2, m2, .inl ⟨rfl, fun v hv => no v (fun z hz => m4 v hv ⟨z, hz⟩)⟩⟩
          · have n1 : ¬ (r2', G2).1 = 0 := fun q => by
              have : r2' = 0 := q
              omega
            rw [if_pos n1]
            rw [← eqS] at m4 m5
            have sub : ∀ j, m.testBit j = true → (qS1 y m).testBit j = true := fun j hj => by
              rw [eqS]
              unfold qR1 qL1
              repeat' split
              all_goals simp [Nat.testBit_or, hj]
            obtain ⟨G', u1, u2⟩ := ih (k + 1) fu (qS1 y m) G2 hy.2 (by omega) (by omega) (hL.v (fun a j _ _ => m2.1 _ _ (by omega) (by omega) (by omega))) (by rw [m2.1 _ _ (by omega) (by omega) (by omega)]; exact h39) m4
            refine ⟨G', m2.tr u1 sub, ?_⟩
            have e3 : qSt (y :: rest) m = qSt rest (qS1 y m) := rfl
            rw [e3]
            rcases u2 with ⟨u2, u3⟩ | ⟨u2, u3, u4, u5⟩
            · refine .inl ⟨u2, fun v hv hs => u3 v (m5 v hv (sCm_eq (hs y hym c3 c61) c61)) hs⟩
            · exact .inr ⟨u2, u3, fun j hj => u4 j (sub j hj), fun v hv hs => u5 v (m5 v hv (sCm_eq (hs y hym c3 c61) c61)) hs⟩
      · refine skip (by unfold qS1; rw [if_neg (fun q => c61 q.2)]) ?_
        have e61 : ¬ rsc y.2.1 = 61 := fun q => c61 ((rsc61 hcs).mp q)
        have n3 : ¬ ¬ y.1 = 3 := fun q => q c3
        show g277_17b r2 (g277_17 r2 f fu) f _ _ _ = _
        unfold g277_17b g277_159 g277_161
        rw [h39]
        simp only [Nat.reduceAdd, Int.toNat_natCast]
        rw [if_pos (by omega), h19, if_neg (by omega)]
        simp only [ex, if_pos hxx, Int.toNat_natCast]
        rw [h27, if_neg n3, h28, if_neg e61, ek]
    · refine skip (by unfold qS1; rw [if_neg (fun q => c3 q.1)]) ?_
      show g277_17b r2 (g277_17 r2 f fu) f _ _ _ = _
      unfold g277_17b g277_159 g277_161
      rw [h39]
      simp only [Nat.reduceAdd, Int.toNat_natCast]
      rw [if_pos (by omega), h19, if_neg (by omega)]
      simp only [ex, if_pos hxx, Int.toNat_natCast]
      rw [h27, if_pos c3, ek]
/-- bindsAll -/
theorem l_277_2 (hf : 6300 < f) (hr : r < 25) (hnv : nv ≤ 8) (hc : c ≤ 6200) (hw : ∀ y ∈ l, wLt np nv y) : ∀ (d fu m : Nat) (w : Int) (G : xG_), 256 ≤ m + d → d + 1 < fu → w ≠ (m : Int) → rLs G 2 r c l → G 0 39 = (r : Int) → rBn G m nv →
    ∃ G' b m', g277_2 f fu w G = some (b, G') ∧ xfv m G G' ∧ ((b = 0 ∧ ∀ v, vXt m (G 110) v → ¬ sEq v l) ∨ (b = 1 ∧ rBn G' m' nv ∧ qSt l m' = m' ∧ (∀ k, m.testBit k = true → m'.testBit k = true) ∧ ∀ v, vXt m (G 110) v → sEq v l → vXt m' (G' 110) v)) := by
  intro d
  induction d with
  | zero =>
    intro fu m w G h1 h2 h3 hL h39 hm
    have := hm.2.1
    omega
  | succ d ih =>
    intro fu m w G h1 h2 h3 hL h39 hm
    obtain ⟨fu, rfl⟩ : ∃ t, fu = t + 1 := ⟨fu - 1, by omega⟩
    have e1 : g277_2 f (fu + 1) w G = g277_17 (g277_2 f fu) f f (m : Int) 0 G := by
      show g277_2b (g277_2 f fu) f _ _ = _
      unfold g277_2b
      rw [hm.1, if_neg h3]
    obtain ⟨G1, k1, k2⟩ := l_277_17 (f := f) (r2 := g277_2 f fu) (w := (m : Int)) hf hr hnv hc hw l 0 f m G rfl (Nat.zero_le _) (by have := hL.2.1; omega) hL h39 hm
    rw [e1]
    have k2' : (g277_17 (g277_2 f fu) f f (m : Int) 0 G = some (0, G1) ∧ ∀ v, vXt m (G 110) v → ¬ sEq v l) ∨ (g277_17 (g277_2 f fu) f f (m : Int) 0 G = g277_2 f fu (m : Int) G1 ∧ rBn G1 (qSt l m) nv ∧ (∀ k, m.testBit k = true → (qSt l m).testBit k = true) ∧ ∀ v, vXt m (G 110) v → sEq v l → vXt (qSt l m) (G1 110) v) := k2
    rcases k2' with ⟨k3, k4⟩ | ⟨k3, k4, k5, k6⟩
    · exact ⟨G1, 0, 0, k3, k1, .inl ⟨rfl, k4⟩⟩
    · by_cases ce : qSt l m = m
      · refine ⟨G1, 1, m, ?_, k1, .inr ⟨rfl, by rw [ce] at k4; exact k4, ce, fun _ q => q, fun v hv hs => by have := k6 v hv hs; rw [ce] at this; exact this⟩⟩
        rw [k3]
        obtain ⟨fu, rfl⟩ : ∃ t, fu = t + 1 := ⟨fu - 1, by omega⟩
        show g277_2b (g277_2 f fu) f _ _ = _
        unfold g277_2b
        rw [k4.1, ce, if_pos rfl]
      · have hlt := (qSt_lt hw hnv m hm.2.1).2
        obtain ⟨G', b, m', u1, u2, u3⟩ := ih fu (qSt l m) (m : Int) G1 (by omega) (by omega) (by omega) (hL.v (fun a j _ _ => k1.1 _ _ (by omega) (by omega) (by omega))) (by rw [k1.1 _ _ (by omega) (by omega) (by omega)]; exact h39) k4
        refine ⟨G', b, m', by rw [k3]; exact u1, k1.tr u2 k5, ?_⟩
        rcases u3 with ⟨u3, u4⟩ | ⟨u3, u4, u5, u6, u7⟩
        · exact .inl ⟨u3, fun v hv hs => u4 v (k6 v hv hs) hs⟩
        · exact .inr ⟨u3, u4, u5, fun k hk => u6 k (k5 k hk), fun v hv hs => u7 v (k6 v hv hs) hs⟩
theorem l_277 {G : xG_} (hf : 6300 < f) (hr : r < 25) (hnv : nv ≤ 8) (hc : c ≤ 6200) (hw : ∀ y ∈ l, wLt np nv y) (hL : rLs G 2 r c l) (h39 : G 0 39 = (r : Int)) (hm : rBn G m nv) :
    ∃ G' b m', g277 f G = some (b, G') ∧ xfv m G G' ∧ ((b = 0 ∧ ∀ v, vXt m (G 110) v → ¬ sEq v l) ∨ (b = 1 ∧ rBn G' m' nv ∧ qSt l m' = m' ∧ (∀ k, m.testBit k = true → m'.testBit k = true) ∧ ∀ v, vXt m (G 110) v → sEq v l → vXt m' (G' 110) v)) := by
  unfold g277
  exact l_277_2 hf hr hnv hc hw 256 f m (-1) G (by omega) (by omega) (by omega) hL h39 hm
end
/-- what is closed under = holds all that is bound -/
theorem qS1_mo {y : pLt} {s t : Nat} (h : ∀ k, s.testBit k = true → t.testBit k = true) : ∀ k, (qS1 y s).testBit k = true → (qS1 y t).testBit k = true := by
  have l1 : ∀ {s t : Nat}, (∀ k, s.testBit k = true → t.testBit k = true) → ∀ k, (qL1 y s).testBit k = true → (qL1 y t).testBit k = true := by
    intro s t h k hk
    unfold qL1 at hk ⊢
    by_cases c1 : qAl2 y.2.2.2.2.1 ∧ qSub (qVm y.2.2.2.2.2) s
    · have c2 : qAl2 y.2.2.2.2.1 ∧ qSub (qVm y.2.2.2.2.2) t := ⟨c1.1, qSub_t.mpr (fun j hj => h j (qSub_t.mp c1.2 j hj))⟩
      rw [if_pos c1, Nat.testBit_or, Bool.or_eq_true] at hk
      rw [if_pos c2, Nat.testBit_or, Bool.or_eq_true]
      exact hk.imp (h k) id
    · rw [if_neg c1] at hk
      by_cases c2 : qAl2 y.2.2.2.2.1 ∧ qSub (qVm y.2.2.2.2.2) t
      · rw [if_pos c2, Nat.testBit_or, h k hk, Bool.true_or]
      · rw [if_neg c2]; exact h k hk
  have r1 : ∀ {s t : Nat}, (∀ k, s.testBit k = true → t.testBit k = true) → ∀ k, (qR1 y s).testBit k = true → (qR1 y t).testBit k = true := by
    intro s t h k hk
    unfold qR1 at hk ⊢
    by_cases c1 : qAl2 y.2.2.2.2.2 ∧ qSub (qVm y.2.2.2.2.1) s
    · have c2 : qAl2 y.2.2.2.2.2 ∧ qSub (qVm y.2.2.2.2.1) t := ⟨c1.1, qSub_t.mpr (fun j hj => h j (qSub_t.mp c1.2 j hj))⟩
      rw [if_pos c1, Nat.testBit_or, Bool.or_eq_true] at hk
      rw [if_pos c2, Nat.testBit_or, Bool.or_eq_true]
      exact hk.imp (h k) id
    · rw [if_neg c1] at hk
      by_cases c2 : qAl2 y.2.2.2.2.2 ∧ qSub (qVm y.2.2.2.2.1) t
      · rw [if_pos c2, Nat.testBit_or, h k hk, Bool.true_or]
      · rw [if_neg c2]; exact h k hk
  intro k hk
  unfold qS1 at hk ⊢
  by_cases c : y.1 = 3 ∧ y.2.1 = 61
  · rw [if_pos c] at hk ⊢
    exact r1 (l1 h) k hk
  · rw [if_neg c] at hk ⊢
    exact h k hk
theorem qSt_mo : ∀ (l : List pLt) {s t : Nat}, (∀ k, s.testBit k = true → t.testBit k = true) → ∀ k, (qSt l s).testBit k = true → (qSt l t).testBit k = true
  | [], _, _, h => h
  | y :: l, _, _, h => qSt_mo l (qS1_mo h)
theorem qIt_in {l : List pLt} {t : Nat} (ht : qSt l t = t) : ∀ (n s : Nat), (∀ k, s.testBit k = true → t.testBit k = true) → ∀ k, (qIt l n s).testBit k = true → t.testBit k = true
  | 0, _, h => h
  | n + 1, s, h => by
    unfold qIt
    by_cases c : qSt l s = s
    · rw [if_pos c]; exact h
    · rw [if_neg c]
      refine qIt_in ht n _ (fun k hk => ?_)
      have := qSt_mo l h k hk
      rw [ht] at this
      exact this
theorem qBd_in {l : List pLt} {t : Nat} (ht : qSt l t = t) (h : ∀ k, (qA l).testBit k = true → t.testBit k = true) : ∀ k, (qBd l).testBit k = true → t.testBit k = true := qIt_in ht 256 _ h
