/-! The reference lexes: VARIABLES, NUMBERS, signs; a TOKEN -/
theorem rl_vr {f q n s e : Nat} {B : Nat → Int} {G : xG_} (h : rTx G q B n) (hrun : ∀ j, s ≤ j → j < e → tVr (B j)) (hend : ¬ tVr (B e)) (hse : s ≤ e) (hen : e ≤ n) : ∀ (k i fu : Nat) (L : Nat → Int), s + i + k = e → k < fu → L 4 = (q : Int) + s → L 6 = (if 8 < i then (q : Int) + s + 8 else -1) → L 9 = tenc 64 xdig B s (min i 8) →
    g217_15 f fu ((q : Int) + (s + i : Nat)) (xlx G L) = some (xlx G (xu (xu (xu L 6 (if 8 < e - s then (q : Int) + s + 8 else -1)) 9 (tvcode B s e)) 5 ((q : Int) + e))) := by
  have hl := h.len
  intro k
  induction k with
  | zero =>
    intro i fu L hk hfu h4 h6 h9
    obtain ⟨fu, rfl⟩ : ∃ t, fu = t + 1 := ⟨fu - 1, by omega⟩
    show g217_15b (g217_15 f fu) f _ _ = _
    obtain rfl : e = s + i := by omega
    unfold g217_15b
    have hB := h.2.1.le (s + i)
    unfold tVr tSm tGr tDi at hend
    simp only [xlx_2, xlx_3, xlx_4, xlx_5, xlx_6, xlx_7, xlx_8, xlx_9, xlx_10, xlx_u2, xlx_u3, xlx_u4, xlx_u5, xlx_u6, xlx_u7, xlx_u8, xlx_u9, xlx_u10, xu_e, eq_self, reduceIte, Nat.reduceEqDiff, if_true, if_false, not_true_eq_false, not_false_eq_true, Option.bind_some, h.see (p := s + i) rfl, gsmall, gdigit, ggreat]
    rw [if_neg (by grind), if_neg (by grind), if_pos (by grind)]
    have e9 : tvcode B s (s + i) = L 9 := by unfold tvcode; rw [h9, show s + i - s = i by omega]
    have e6 : (if 8 < s + i - s then (q : Int) + s + 8 else -1) = L 6 := by rw [h6, show s + i - s = i by omega]
    rw [e9, e6]
    exact congrArg some (xlx_ext (fun j => by unfold xu; grind))
  | succ k ih =>
    intro i fu L hk hfu h4 h6 h9
    obtain ⟨fu, rfl⟩ : ∃ t, fu = t + 1 := ⟨fu - 1, by omega⟩
    have hB := h.2.1.le (s + i)
    have hNi := hrun (s + i) (by omega) (by omega)
    have hd := tVr_dig hNi
    have h12 := tenc_b64 (B := B) (s := s) (min i 8) (by omega) (fun j hj => hrun (s + j) (by omega) (by omega))
    have e2 : xwr ((q : Int) + (s + i : Nat) + 1) = (q : Int) + (s + (i + 1) : Nat) := by rw [xwr_g _ (by omega) (by omega)]; omega
    have e3 : xwr ((q : Int) + s + 8) = (q : Int) + s + 8 := by rw [xwr_g _ (by omega) (by omega)]
    have hsee := fun L' => h.see (f := f) (L := L') (p := s + i) rfl
    show g217_15b (g217_15 f fu) f _ _ = _
    have a1 : ∀ L', L' 4 = (q : Int) + s → g217_64 (g217_15 f fu) f ((q : Int) + (s + i : Nat)) (xlx G L') = g217_15 f fu ((q : Int) + (s + (i + 1) : Nat)) (xlx G (if L' 6 = -1 then xu L' 9 (xwl (xwl (64 * L' 9) + xdig (B (s + i)))) else L')) := by
      intro L' hL'
      unfold g217_64 g217_94
      simp only [xlx_2, xlx_3, xlx_4, xlx_5, xlx_6, xlx_7, xlx_8, xlx_9, xlx_10, xlx_u2, xlx_u3, xlx_u4, xlx_u5, xlx_u6, xlx_u7, xlx_u8, xlx_u9, xlx_u10, xu_e, eq_self, reduceIte, Nat.reduceEqDiff, if_true, if_false, not_true_eq_false, not_false_eq_true, Option.bind_some, hsee, gdig hB, e2]
      grind
    have a3 : g217_15b (g217_15 f fu) f ((q : Int) + (s + i : Nat)) (xlx G L) = g217_64 (g217_15 f fu) f ((q : Int) + (s + i : Nat)) (xlx G (if i = 8 then xu L 6 ((q : Int) + (s + i : Nat)) else L)) := by
      unfold g217_15b g217_48
      simp only [xlx_2, xlx_3, xlx_4, xlx_5, xlx_6, xlx_7, xlx_8, xlx_9, xlx_10, xlx_u2, xlx_u3, xlx_u4, xlx_u5, xlx_u6, xlx_u7, xlx_u8, xlx_u9, xlx_u10, xu_e, eq_self, reduceIte, Nat.reduceEqDiff, if_true, if_false, not_true_eq_false, not_false_eq_true, Option.bind_some, hsee, gsmall, gdigit, ggreat, h4, e3]
      unfold tVr tSm tGr tDi at hNi
      grind
    rw [a3, a1 _ (by grind [xu])]
    by_cases c : i < 8
    · have m1 : min i 8 = i := by omega
      have m2 : min (i + 1) 8 = i + 1 := by omega
      rw [m1] at h9 h12
      rw [if_neg (show ¬ i = 8 by omega), if_pos (show L 6 = -1 by rw [h6, if_neg (by omega)]), h9]
      simp (disch := omega) only [xwr_g, xwl_g]
      rw [ih (i + 1) fu _ (by omega) (by omega) (by simp only [xlx_2, xlx_3, xlx_4, xlx_5, xlx_6, xlx_7, xlx_8, xlx_9, xlx_10, xlx_u2, xlx_u3, xlx_u4, xlx_u5, xlx_u6, xlx_u7, xlx_u8, xlx_u9, xlx_u10, xu_e, eq_self, reduceIte, Nat.reduceEqDiff, if_true, if_false, not_true_eq_false, not_false_eq_true, Option.bind_some, h4]) (by simp only [xlx_2, xlx_3, xlx_4, xlx_5, xlx_6, xlx_7, xlx_8, xlx_9, xlx_10, xlx_u2, xlx_u3, xlx_u4, xlx_u5, xlx_u6, xlx_u7, xlx_u8, xlx_u9, xlx_u10, xu_e, eq_self, reduceIte, Nat.reduceEqDiff, if_true, if_false, not_true_eq_false, not_false_eq_true, Option.bind_some, h6]; grind) (by simp only [xlx_2, xlx_3, xlx_4, xlx_5, xlx_6, xlx_7, xlx_8, xlx_9, xlx_10, xlx_u2, xlx_u3, xlx_u4, xlx_u5, xlx_u6, xlx_u7, xlx_u8, xlx_u9, xlx_u10, xu_e, eq_self, reduceIte, Nat.reduceEqDiff, if_true, if_false, not_true_eq_false, not_false_eq_true, Option.bind_some]; rw [m2, tenc_s]; omega)]
      exact congrArg some (xlx_ext (fun j => by unfold xu; grind))
    · by_cases c2 : i = 8
      · rw [if_pos c2, if_neg (by simp only [xlx_2, xlx_3, xlx_4, xlx_5, xlx_6, xlx_7, xlx_8, xlx_9, xlx_10, xlx_u2, xlx_u3, xlx_u4, xlx_u5, xlx_u6, xlx_u7, xlx_u8, xlx_u9, xlx_u10, xu_e, eq_self, reduceIte, Nat.reduceEqDiff, if_true, if_false, not_true_eq_false, not_false_eq_true, Option.bind_some]; omega : ¬ xu L 6 ((q : Int) + (s + i : Nat)) 6 = -1), ih (i + 1) fu _ (by omega) (by omega) (by simp only [xlx_2, xlx_3, xlx_4, xlx_5, xlx_6, xlx_7, xlx_8, xlx_9, xlx_10, xlx_u2, xlx_u3, xlx_u4, xlx_u5, xlx_u6, xlx_u7, xlx_u8, xlx_u9, xlx_u10, xu_e, eq_self, reduceIte, Nat.reduceEqDiff, if_true, if_false, not_true_eq_false, not_false_eq_true, Option.bind_some, h4]) (by simp only [xlx_2, xlx_3, xlx_4, xlx_5, xlx_6, xlx_7, xlx_8, xlx_9, xlx_10, xlx_u2, xlx_u3, xlx_u4, xlx_u5, xlx_u6, xlx_u7, xlx_u8, xlx_u9, xlx_u10, xu_e, eq_self, reduceIte, Nat.reduceEqDiff, if_true, if_false, not_true_eq_false, not_false_eq_true, Option.bind_some]; rw [if_pos (by omega)]; omega) (by simp only [xlx_2, xlx_3, xlx_4, xlx_5, xlx_6, xlx_7, xlx_8, xlx_9, xlx_10, xlx_u2, xlx_u3, xlx_u4, xlx_u5, xlx_u6, xlx_u7, xlx_u8, xlx_u9, xlx_u10, xu_e, eq_self, reduceIte, Nat.reduceEqDiff, if_true, if_false, not_true_eq_false, not_false_eq_true, Option.bind_some]; rw [h9]; congr 1; omega)]
        exact congrArg some (xlx_ext (fun j => by unfold xu; grind))
      · rw [if_neg c2, if_neg (show ¬ L 6 = -1 by rw [h6, if_pos (by omega)]; omega), ih (i + 1) fu _ (by omega) (by omega) h4 (by rw [h6, if_pos (by omega), if_pos (by omega)]) (by rw [h9]; congr 1; omega)]
theorem tnum_in {cap : Int} {B : Nat → Int} {s : Nat} (hc : 9 ≤ cap) : ∀ k, (∀ j, j < k → tDi (B (s + j))) → 0 ≤ tnum cap B s k ∧ tnum cap B s k ≤ cap := by
  intro k
  induction k with
  | zero => intro _; show 0 ≤ (0 : Int) ∧ (0 : Int) ≤ cap; omega
  | succ k ih =>
    intro hk
    have h1 := ih (fun j hj => hk j (by omega))
    have h2 := hk k (by omega)
    show 0 ≤ min (tnum cap B s k * 10 + B (s + k) - 48) cap ∧ min (tnum cap B s k * 10 + B (s + k) - 48) cap ≤ cap
    omega
/-- two caps above what may be a number are as one -/
theorem tnum_two {B : Nat → Int} {s : Nat} : ∀ k, (∀ j, j < k → tDi (B (s + j))) → min (tnum 4000000000000 B s k) 1000000000001 = tnum 1000000000001 B s k := by
  intro k
  induction k with
  | zero => intro _; rfl
  | succ k ih =>
    intro hk
    have h0 := ih (fun j hj => hk j (by omega))
    have h1 := tnum_in (cap := 4000000000000) (by decide) k (fun j hj => hk j (by omega))
    have h2 := hk k (by omega)
    show min (min (tnum 4000000000000 B s k * 10 + B (s + k) - 48) 4000000000000) 1000000000001 = min (tnum 1000000000001 B s k * 10 + B (s + k) - 48) 1000000000001
    omega
/-- NUMBERS -/
theorem rl_nu {f q n s e : Nat} {B : Nat → Int} {G : xG_} {z : Int} (h : rTx G q B n) (hz : z ≠ 0 → e = s + 1) (hrun : ∀ j, s ≤ j → j < e → tDi (B j)) (hend : z = 0 → ¬ tDi (B e)) (hse : s < e) (hen : e ≤ n) : ∀ (k i fu : Nat) (L : Nat → Int), s + i + k = e → k < fu → L 4 = (q : Int) + s → L 9 = tnum 4000000000000 B s i →
    g218_31 f fu ((q : Int) + (s + i : Nat)) z (xlx G L) = some (xlx G (xu (xu (xu L 9 (tnum 4000000000000 B s (e - s))) 5 ((q : Int) + e)) 2 (if tnum 4000000000000 B s (e - s) ≤ 1000000000000 then L 2 else 1))) := by
  have hl := h.len
  intro k
  induction k with
  | zero =>
    intro i fu L hk hfu h4 h9
    obtain ⟨fu, rfl⟩ : ∃ t, fu = t + 1 := ⟨fu - 1, by omega⟩
    show g218_31b (g218_31 f fu) f _ _ _ = _
    obtain rfl : e = s + i := by omega
    unfold g218_31b g218_89 g218_110
    have hB := h.2.1.le (s + i)
    unfold tDi at hend
    simp only [xlx_2, xlx_3, xlx_4, xlx_5, xlx_6, xlx_7, xlx_8, xlx_9, xlx_10, xlx_u2, xlx_u3, xlx_u4, xlx_u5, xlx_u6, xlx_u7, xlx_u8, xlx_u9, xlx_u10, xu_e, eq_self, reduceIte, Nat.reduceEqDiff, if_true, if_false, not_true_eq_false, not_false_eq_true, Option.bind_some, h.see (p := s + i) rfl, gdigit, h4]
    have e9 : tnum 4000000000000 B s (s + i - s) = L 9 := by rw [h9, show s + i - s = i by omega]
    rw [e9]
    by_cases cz : z = 0
    · rw [if_pos (by grind)]
      split
      · exact congrArg some (xlx_ext (fun j => by unfold xu; grind))
      · exact congrArg some (xlx_ext (fun j => by unfold xu; grind))
    · have := hz cz
      rw [if_neg cz, if_pos (show ¬ (q : Int) + (s + i : Nat) = (q : Int) + s by omega)]
      repeat' split
      all_goals exact congrArg some (xlx_ext (fun j => by unfold xu; grind))
  | succ k ih =>
    intro i fu L hk hfu h4 h9
    obtain ⟨fu, rfl⟩ : ∃ t, fu = t + 1 := ⟨fu - 1, by omega⟩
    have hB := h.2.1.le (s + i)
    have hNi := hrun (s + i) (by omega) (by omega)
    have h12 := tnum_in (cap := 4000000000000) (B := B) (s := s) (by decide) i (fun j hj => hrun (s + j) (by omega) (by omega))
    have e2 : xwr ((q : Int) + (s + i : Nat) + 1) = (q : Int) + (s + (i + 1) : Nat) := by rw [xwr_g _ (by omega) (by omega)]; omega
    show g218_31b (g218_31 f fu) f _ _ _ = _
    have a1 : g218_31b (g218_31 f fu) f ((q : Int) + (s + i : Nat)) z (xlx G L) = g218_54 (g218_31 f fu) f ((q : Int) + (s + i : Nat)) z (xlx G L) := by
      unfold g218_31b
      simp only [xlx_2, xlx_3, xlx_4, xlx_5, xlx_6, xlx_7, xlx_8, xlx_9, xlx_10, xlx_u2, xlx_u3, xlx_u4, xlx_u5, xlx_u6, xlx_u7, xlx_u8, xlx_u9, xlx_u10, xu_e, eq_self, reduceIte, Nat.reduceEqDiff, if_true, if_false, not_true_eq_false, not_false_eq_true, Option.bind_some, h.see (p := s + i) rfl, gdigit, h4]
      rw [if_pos hNi, if_neg (by decide)]
      by_cases cz : z = 0
      · rw [if_pos cz]
      · have := hz cz
        rw [if_neg cz, if_neg (show ¬ ¬ (q : Int) + (s + i : Nat) = (q : Int) + s by omega)]
    rw [a1]
    unfold g218_54
    simp only [xlx_2, xlx_3, xlx_4, xlx_5, xlx_6, xlx_7, xlx_8, xlx_9, xlx_10, xlx_u2, xlx_u3, xlx_u4, xlx_u5, xlx_u6, xlx_u7, xlx_u8, xlx_u9, xlx_u10, xu_e, eq_self, reduceIte, Nat.reduceEqDiff, if_true, if_false, not_true_eq_false, not_false_eq_true, Option.bind_some, h.see (p := s + i) rfl, e2, h9]
    simp (disch := omega) only [xwr_g, xwl_g]
    rw [ih (i + 1) fu _ (by omega) (by omega) (by simp only [xlx_2, xlx_3, xlx_4, xlx_5, xlx_6, xlx_7, xlx_8, xlx_9, xlx_10, xlx_u2, xlx_u3, xlx_u4, xlx_u5, xlx_u6, xlx_u7, xlx_u8, xlx_u9, xlx_u10, xu_e, eq_self, reduceIte, Nat.reduceEqDiff, if_true, if_false, not_true_eq_false, not_false_eq_true, Option.bind_some, h4]) (by simp only [xlx_2, xlx_3, xlx_4, xlx_5, xlx_6, xlx_7, xlx_8, xlx_9, xlx_10, xlx_u2, xlx_u3, xlx_u4, xlx_u5, xlx_u6, xlx_u7, xlx_u8, xlx_u9, xlx_u10, xu_e, eq_self, reduceIte, Nat.reduceEqDiff, if_true, if_false, not_true_eq_false, not_false_eq_true, Option.bind_some]; show _ = min (tnum 4000000000000 B s i * 10 + B (s + i) - 48) 4000000000000; unfold xmin; split <;> omega)]
    exact congrArg some (xlx_ext (fun j => by unfold xu; grind))
