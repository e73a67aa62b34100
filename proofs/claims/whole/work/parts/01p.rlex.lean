/-! The reference lexes: its TOKENS are those of 01o. The fields 2 to 10 of the reference are its lexer's: xlx G L has L there -/
def xu (L : Nat → Int) (k : Nat) (v : Int) : Nat → Int := fun j => if j = k then v else L j
def xlx (G : xG_) (L : Nat → Int) : xG_ := fun o i => if o = 0 ∧ 2 ≤ i ∧ i ≤ 10 then L i else G o i
theorem xu_e (L : Nat → Int) (k : Nat) (v : Int) (j : Nat) : xu L k v j = if j = k then v else L j := rfl
theorem xlx_e (G : xG_) (L : Nat → Int) (o i : Nat) : xlx G L o i = if o = 0 ∧ 2 ≤ i ∧ i ≤ 10 then L i else G o i := rfl
theorem xlx_2 (G : xG_) (L : Nat → Int) : xlx G L 0 2 = L 2 := rfl
theorem xlx_3 (G : xG_) (L : Nat → Int) : xlx G L 0 3 = L 3 := rfl
theorem xlx_4 (G : xG_) (L : Nat → Int) : xlx G L 0 4 = L 4 := rfl
theorem xlx_5 (G : xG_) (L : Nat → Int) : xlx G L 0 5 = L 5 := rfl
theorem xlx_6 (G : xG_) (L : Nat → Int) : xlx G L 0 6 = L 6 := rfl
theorem xlx_7 (G : xG_) (L : Nat → Int) : xlx G L 0 7 = L 7 := rfl
theorem xlx_8 (G : xG_) (L : Nat → Int) : xlx G L 0 8 = L 8 := rfl
theorem xlx_9 (G : xG_) (L : Nat → Int) : xlx G L 0 9 = L 9 := rfl
theorem xlx_10 (G : xG_) (L : Nat → Int) : xlx G L 0 10 = L 10 := rfl
theorem xlx_up (G : xG_) (L : Nat → Int) {k : Nat} (v : Int) (h : 2 ≤ k ∧ k ≤ 10) : xup2 (xlx G L) 0 k v = xlx G (xu L k v) := by
  funext o i
  unfold xup2 xlx xu
  grind
theorem xlx_u2 (G : xG_) (L : Nat → Int) (v : Int) : xup2 (xlx G L) 0 2 v = xlx G (xu L 2 v) := xlx_up G L v (by decide)
theorem xlx_u3 (G : xG_) (L : Nat → Int) (v : Int) : xup2 (xlx G L) 0 3 v = xlx G (xu L 3 v) := xlx_up G L v (by decide)
theorem xlx_u4 (G : xG_) (L : Nat → Int) (v : Int) : xup2 (xlx G L) 0 4 v = xlx G (xu L 4 v) := xlx_up G L v (by decide)
theorem xlx_u5 (G : xG_) (L : Nat → Int) (v : Int) : xup2 (xlx G L) 0 5 v = xlx G (xu L 5 v) := xlx_up G L v (by decide)
theorem xlx_u6 (G : xG_) (L : Nat → Int) (v : Int) : xup2 (xlx G L) 0 6 v = xlx G (xu L 6 v) := xlx_up G L v (by decide)
theorem xlx_u7 (G : xG_) (L : Nat → Int) (v : Int) : xup2 (xlx G L) 0 7 v = xlx G (xu L 7 v) := xlx_up G L v (by decide)
theorem xlx_u8 (G : xG_) (L : Nat → Int) (v : Int) : xup2 (xlx G L) 0 8 v = xlx G (xu L 8 v) := xlx_up G L v (by decide)
theorem xlx_u9 (G : xG_) (L : Nat → Int) (v : Int) : xup2 (xlx G L) 0 9 v = xlx G (xu L 9 v) := xlx_up G L v (by decide)
theorem xlx_u10 (G : xG_) (L : Nat → Int) (v : Int) : xup2 (xlx G L) 0 10 v = xlx G (xu L 10 v) := xlx_up G L v (by decide)
theorem xlx_id (G : xG_) : xlx G (G 0) = G := by
  funext o i
  unfold xlx
  split
  · rename_i h; rw [h.1]
  · rfl
theorem xlx_ext {G : xG_} {L L' : Nat → Int} (h : ∀ j, L j = L' j) : xlx G L = xlx G L' := by rw [show L = L' from funext h]
/-- the text that G reads: B from the place q on -/
def rTx (G : xG_) (q : Nat) (B : Nat → Int) (n : Nat) : Prop := gT G ∧ tTx B n ∧ G 0 1 = (q : Int) + n ∧ (∀ p : Nat, gB G ((q : Int) + p) = B p) ∧ ∀ p, p < n → -128 ≤ G (G 0 0).toNat (q + p) ∧ G (G 0 0).toNat (q + p) ≤ 127
theorem rTx.len {G : xG_} {q n : Nat} {B : Nat → Int} (h : rTx G q B n) : (q : Int) + n ≤ 90000 := by have := gT_len h.1; have := h.2.2.1; omega
theorem rTx.see {G : xG_} {q n : Nat} {B : Nat → Int} {L : Nat → Int} (h : rTx G q B n) {f : Nat} {p : Nat} {z : Int} (hz : z = (q : Int) + p) : g209 f z (xlx G L) = some (B p, xlx G L) := by
  have h0 : gT (xlx G L) := h.1
  have h1 := h.1.1
  have e : ∀ k, xlx G L (G 0 0).toNat k = G (G 0 0).toNat k := fun k => if_neg (by omega)
  rw [hz, gsee h0 (by omega), ← h.2.2.2.1 p]
  unfold gB
  show some (if G 0 1 ≤ _ then _ else xand (xlx G L (G 0 0).toNat _) 255, _) = _
  rw [e]
theorem tNm_dig {c : Int} (h : tNm c) : 1 ≤ xdig c ∧ xdig c < 38 := by unfold xdig; unfold tNm tSm tDi at h; grind
theorem tVr_dig {c : Int} (h : tVr c) : 1 ≤ xdig c ∧ xdig c < 64 := by unfold xdig; unfold tVr tSm tDi tGr at h; grind
theorem tenc_b38 {B : Nat → Int} {s : Nat} (k : Nat) (hk : k ≤ 11) (h : ∀ j, j < k → tNm (B (s + j))) : 0 ≤ tenc 38 xdig B s k ∧ tenc 38 xdig B s k < 238572050223552512 := by
  have h1 := tenc_in (b := 38) (d := xdig) (B := B) (s := s) (by decide) k (fun j hj => tNm_dig (h j hj))
  have h2 : (38 : Int) ^ k ≤ 38 ^ 11 := by
    have : (38 : Nat) ^ k ≤ 38 ^ 11 := Nat.pow_le_pow_right (by decide) hk
    exact_mod_cast this
  exact ⟨h1.1, Int.lt_of_lt_of_le h1.2 h2⟩
theorem tenc_b64 {B : Nat → Int} {s : Nat} (k : Nat) (hk : k ≤ 8) (h : ∀ j, j < k → tVr (B (s + j))) : 0 ≤ tenc 64 xdig B s k ∧ tenc 64 xdig B s k < 281474976710656 := by
  have h1 := tenc_in (b := 64) (d := xdig) (B := B) (s := s) (by decide) k (fun j hj => tVr_dig (h j hj))
  have h2 : (64 : Int) ^ k ≤ 64 ^ 8 := by
    have : (64 : Nat) ^ k ≤ 64 ^ 8 := Nat.pow_le_pow_right (by decide) hk
    exact_mod_cast this
  exact ⟨h1.1, Int.lt_of_lt_of_le h1.2 h2⟩
theorem tenc_s (b : Int) (d : Int → Int) (B : Nat → Int) (s k : Nat) : tenc b d B s (k + 1) = tenc b d B s k * b + d (B (s + k)) := rfl
/-- the word that a NAME is -/
theorem rl_wd {f q n s e : Nat} {B : Nat → Int} {G : xG_} (h : rTx G q B n) (hsm : ∀ j, j < e - s → tSm (B (s + j))) (hse : s ≤ e) (hen : e ≤ n) : ∀ (k i fu : Nat) (L : Nat → Int), i + k = 8 → k < fu → L 4 = (q : Int) + s → L 10 = tword B s e i → 0 ≤ L 10 → L 10 < 27 ^ i →
    g216_157 f fu ((q : Int) + e) i (xlx G L) = some (xlx G (xu L 10 (2000000000000 + tword B s e 8))) := by
  have hl := h.len
  intro k
  induction k with
  | zero =>
    intro i fu L hk hfu h4 h10 hp hq
    obtain ⟨fu, rfl⟩ : ∃ t, fu = t + 1 := ⟨fu - 1, by omega⟩
    obtain rfl : i = 8 := by omega
    show g216_157b (g216_157 f fu) f _ _ _ = _
    unfold g216_157b
    rw [if_pos (by omega)]
    simp only [xlx_2, xlx_3, xlx_4, xlx_5, xlx_6, xlx_7, xlx_8, xlx_9, xlx_10, xlx_u2, xlx_u3, xlx_u4, xlx_u5, xlx_u6, xlx_u7, xlx_u8, xlx_u9, xlx_u10, xu_e, eq_self, reduceIte, Nat.reduceEqDiff, if_true, if_false, not_true_eq_false, not_false_eq_true, Option.bind_some]
    rw [h10, xwl_g _ (by omega) (by omega), Int.add_comm]
  | succ k ih =>
    intro i fu L hk hfu h4 h10 hp hq
    obtain ⟨fu, rfl⟩ : ∃ t, fu = t + 1 := ⟨fu - 1, by omega⟩
    show g216_157b (g216_157 f fu) f _ _ _ = _
    unfold g216_157b g216_201
    have e1 : xwr ((q : Int) + s + i) = (q : Int) + (s + i : Nat) := by rw [xwr_g _ (by omega) (by omega)]; omega
    have e2 : xwr ((i : Int) + 1) = (i + 1 : Nat) := by rw [xwr_g _ (by omega) (by omega)]; omega
    have hq1 : (27 : Int) ^ i ≤ 27 ^ 7 := by
      have : (27 : Nat) ^ i ≤ 27 ^ 7 := Nat.pow_le_pow_right (by decide) (by omega)
      exact_mod_cast this
    have hq2 : L 10 < 10460353203 := Int.lt_of_lt_of_le hq hq1
    have hb := h.2.1.le (s + i)
    have ht : tword B s e (i + 1) = tword B s e i * 27 + (if s + i < e then B (s + i) - 96 else 0) := rfl
    have hpw : (27 : Int) ^ (i + 1) = 27 ^ i * 27 := Int.pow_succ 27 i
    rw [if_neg (by omega)]
    simp only [xlx_2, xlx_3, xlx_4, xlx_5, xlx_6, xlx_7, xlx_8, xlx_9, xlx_10, xlx_u2, xlx_u3, xlx_u4, xlx_u5, xlx_u6, xlx_u7, xlx_u8, xlx_u9, xlx_u10, xu_e, eq_self, reduceIte, Nat.reduceEqDiff, if_true, if_false, not_true_eq_false, not_false_eq_true, Option.bind_some, h4, e1, e2]
    by_cases c : s + i < e
    · have hm := hsm i (by omega)
      rw [if_neg (by omega), h.see rfl]
      simp only [xlx_2, xlx_3, xlx_4, xlx_5, xlx_6, xlx_7, xlx_8, xlx_9, xlx_10, xlx_u2, xlx_u3, xlx_u4, xlx_u5, xlx_u6, xlx_u7, xlx_u8, xlx_u9, xlx_u10, xu_e, eq_self, reduceIte, Nat.reduceEqDiff, if_true, if_false, not_true_eq_false, not_false_eq_true, Option.bind_some]
      simp (disch := omega) only [xwr_g, xwl_g]
      rw [ih _ _ _ (by omega) (by omega) (by simp only [xlx_2, xlx_3, xlx_4, xlx_5, xlx_6, xlx_7, xlx_8, xlx_9, xlx_10, xlx_u2, xlx_u3, xlx_u4, xlx_u5, xlx_u6, xlx_u7, xlx_u8, xlx_u9, xlx_u10, xu_e, eq_self, reduceIte, Nat.reduceEqDiff, if_true, if_false, not_true_eq_false, not_false_eq_true, Option.bind_some, h4]) (by simp only [xlx_2, xlx_3, xlx_4, xlx_5, xlx_6, xlx_7, xlx_8, xlx_9, xlx_10, xlx_u2, xlx_u3, xlx_u4, xlx_u5, xlx_u6, xlx_u7, xlx_u8, xlx_u9, xlx_u10, xu_e, eq_self, reduceIte, Nat.reduceEqDiff, if_true, if_false, not_true_eq_false, not_false_eq_true, Option.bind_some, ht, h10]; rw [if_pos c]; omega) (by simp only [xlx_2, xlx_3, xlx_4, xlx_5, xlx_6, xlx_7, xlx_8, xlx_9, xlx_10, xlx_u2, xlx_u3, xlx_u4, xlx_u5, xlx_u6, xlx_u7, xlx_u8, xlx_u9, xlx_u10, xu_e, eq_self, reduceIte, Nat.reduceEqDiff, if_true, if_false, not_true_eq_false, not_false_eq_true, Option.bind_some]; omega) (by simp only [xlx_2, xlx_3, xlx_4, xlx_5, xlx_6, xlx_7, xlx_8, xlx_9, xlx_10, xlx_u2, xlx_u3, xlx_u4, xlx_u5, xlx_u6, xlx_u7, xlx_u8, xlx_u9, xlx_u10, xu_e, eq_self, reduceIte, Nat.reduceEqDiff, if_true, if_false, not_true_eq_false, not_false_eq_true, Option.bind_some]; omega)]
      exact congrArg some (xlx_ext (fun j => by unfold xu; grind))
    · rw [if_pos (by omega)]
      simp (disch := omega) only [xwr_g, xwl_g]
      rw [ih _ _ _ (by omega) (by omega) (by simp only [xlx_2, xlx_3, xlx_4, xlx_5, xlx_6, xlx_7, xlx_8, xlx_9, xlx_10, xlx_u2, xlx_u3, xlx_u4, xlx_u5, xlx_u6, xlx_u7, xlx_u8, xlx_u9, xlx_u10, xu_e, eq_self, reduceIte, Nat.reduceEqDiff, if_true, if_false, not_true_eq_false, not_false_eq_true, Option.bind_some, h4]) (by simp only [xlx_2, xlx_3, xlx_4, xlx_5, xlx_6, xlx_7, xlx_8, xlx_9, xlx_10, xlx_u2, xlx_u3, xlx_u4, xlx_u5, xlx_u6, xlx_u7, xlx_u8, xlx_u9, xlx_u10, xu_e, eq_self, reduceIte, Nat.reduceEqDiff, if_true, if_false, not_true_eq_false, not_false_eq_true, Option.bind_some, ht, h10]; rw [if_neg c]; omega) (by simp only [xlx_2, xlx_3, xlx_4, xlx_5, xlx_6, xlx_7, xlx_8, xlx_9, xlx_10, xlx_u2, xlx_u3, xlx_u4, xlx_u5, xlx_u6, xlx_u7, xlx_u8, xlx_u9, xlx_u10, xu_e, eq_self, reduceIte, Nat.reduceEqDiff, if_true, if_false, not_true_eq_false, not_false_eq_true, Option.bind_some]; omega) (by simp only [xlx_2, xlx_3, xlx_4, xlx_5, xlx_6, xlx_7, xlx_8, xlx_9, xlx_10, xlx_u2, xlx_u3, xlx_u4, xlx_u5, xlx_u6, xlx_u7, xlx_u8, xlx_u9, xlx_u10, xu_e, eq_self, reduceIte, Nat.reduceEqDiff, if_true, if_false, not_true_eq_false, not_false_eq_true, Option.bind_some]; omega)]
      exact congrArg some (xlx_ext (fun j => by unfold xu; grind))
/-- NAMES -/
theorem rl_nm {f q n s e : Nat} {B : Nat → Int} {G : xG_} (hf : 10 < f) (h : rTx G q B n) (hrun : ∀ j, s ≤ j → j < e → tNm (B j)) (hend : ¬ tNm (B e)) (hse : s ≤ e) (hen : e ≤ n) : ∀ (k i fu : Nat) (x : Int) (L : Nat → Int), s + i + k = e → k < fu → L 4 = (q : Int) + s → L 6 = (if 12 < i then (q : Int) + s + 12 else -1) → L 9 = tenc 38 xdig B s (min i 12) → x = (if ∀ j, j < i → tSm (B (s + j)) then 1 else 0) →
    g216_17 f fu x ((q : Int) + (s + i : Nat)) (xlx G L) = some (xlx G (xu (xu (xu (xu L 6 (if 12 < e - s then (q : Int) + s + 12 else -1)) 9 (tncode B s e)) 5 ((q : Int) + e)) 10 (tsens B s e))) := by
  have hl := h.len
  intro k
  induction k with
  | zero =>
    intro i fu x L hk hfu h4 h6 h9 hx
    obtain ⟨fu, rfl⟩ : ∃ t, fu = t + 1 := ⟨fu - 1, by omega⟩
    show g216_17b (g216_17 f fu) f _ _ _ = _
    obtain rfl : e = s + i := by omega
    unfold g216_17b g216_149
    have hB := h.2.1.le (s + i)
    unfold tNm tSm tDi at hend
    simp only [xlx_2, xlx_3, xlx_4, xlx_5, xlx_6, xlx_7, xlx_8, xlx_9, xlx_10, xlx_u2, xlx_u3, xlx_u4, xlx_u5, xlx_u6, xlx_u7, xlx_u8, xlx_u9, xlx_u10, xu_e, eq_self, reduceIte, Nat.reduceEqDiff, if_true, if_false, not_true_eq_false, not_false_eq_true, Option.bind_some, h.see (p := s + i) rfl, gsmall, gdigit]
    rw [if_neg (by grind), if_neg (by grind), if_pos (by grind), h4, xwr_g _ (by omega) (by omega)]
    have e9 : tncode B s (s + i) = L 9 := by unfold tncode; rw [h9, show s + i - s = i by omega]
    have e6 : (if 12 < s + i - s then (q : Int) + s + 12 else -1) = L 6 := by rw [h6, show s + i - s = i by omega]
    rw [e9, e6]
    by_cases c : ∀ j, j < i → tSm (B (s + j))
    · rw [if_pos c] at hx
      rw [hx, if_neg (by decide)]
      by_cases c2 : i ≤ 8
      · rw [if_pos (by omega), show ((q : Int) + (s + i : Nat)) = ((q : Int) + (s + i : Nat)) from rfl, show (0 : Int) = ((0 : Nat) : Int) from rfl, rl_wd h (e := s + i) (s := s) (fun j hj => c j (by omega)) (by omega) (by omega) 8 0 f _ (by omega) (by omega) (by simp only [xlx_2, xlx_3, xlx_4, xlx_5, xlx_6, xlx_7, xlx_8, xlx_9, xlx_10, xlx_u2, xlx_u3, xlx_u4, xlx_u5, xlx_u6, xlx_u7, xlx_u8, xlx_u9, xlx_u10, xu_e, eq_self, reduceIte, Nat.reduceEqDiff, if_true, if_false, not_true_eq_false, not_false_eq_true, Option.bind_some, h4]) (by simp only [xlx_2, xlx_3, xlx_4, xlx_5, xlx_6, xlx_7, xlx_8, xlx_9, xlx_10, xlx_u2, xlx_u3, xlx_u4, xlx_u5, xlx_u6, xlx_u7, xlx_u8, xlx_u9, xlx_u10, xu_e, eq_self, reduceIte, Nat.reduceEqDiff, if_true, if_false, not_true_eq_false, not_false_eq_true, Option.bind_some]; rfl) (by simp only [xlx_2, xlx_3, xlx_4, xlx_5, xlx_6, xlx_7, xlx_8, xlx_9, xlx_10, xlx_u2, xlx_u3, xlx_u4, xlx_u5, xlx_u6, xlx_u7, xlx_u8, xlx_u9, xlx_u10, xu_e, eq_self, reduceIte, Nat.reduceEqDiff, if_true, if_false, not_true_eq_false, not_false_eq_true, Option.bind_some]; decide) (by simp only [xlx_2, xlx_3, xlx_4, xlx_5, xlx_6, xlx_7, xlx_8, xlx_9, xlx_10, xlx_u2, xlx_u3, xlx_u4, xlx_u5, xlx_u6, xlx_u7, xlx_u8, xlx_u9, xlx_u10, xu_e, eq_self, reduceIte, Nat.reduceEqDiff, if_true, if_false, not_true_eq_false, not_false_eq_true, Option.bind_some]; decide)]
        have et : tsens B s (s + i) = 2000000000000 + tword B s (s + i) 8 := if_pos ⟨fun j hj => c j (by omega), by omega⟩
        rw [et]
        exact congrArg some (xlx_ext (fun j => by unfold xu; grind))
      · rw [if_neg (by omega)]
        have et : tsens B s (s + i) = -1 := if_neg (fun q => c2 (by omega))
        rw [et]
        exact congrArg some (xlx_ext (fun j => by unfold xu; grind))
    · rw [if_neg c] at hx
      rw [hx, if_pos rfl]
      have et : tsens B s (s + i) = -1 := if_neg (fun q => c (fun j hj => q.1 j (by omega)))
      rw [et]
      exact congrArg some (xlx_ext (fun j => by unfold xu; grind))
  | succ k ih =>
    intro i fu x L hk hfu h4 h6 h9 hx
    obtain ⟨fu, rfl⟩ : ∃ t, fu = t + 1 := ⟨fu - 1, by omega⟩
    have hB := h.2.1.le (s + i)
    have hNi := hrun (s + i) (by omega) (by omega)
    have hd := tNm_dig hNi
    have h12 := tenc_b38 (B := B) (s := s) (min i 11) (by omega) (fun j hj => hrun (s + j) (by omega) (by omega))
    have e2 : xwr ((q : Int) + (s + i : Nat) + 1) = (q : Int) + (s + (i + 1) : Nat) := by rw [xwr_g _ (by omega) (by omega)]; omega
    have e3 : xwr ((q : Int) + s + 12) = (q : Int) + s + 12 := by rw [xwr_g _ (by omega) (by omega)]
    have hsee := fun L' => h.see (f := f) (L := L') (p := s + i) rfl
    show g216_17b (g216_17 f fu) f _ _ _ = _
    have a1 : ∀ y L', L' 4 = (q : Int) + s → g216_85 (g216_17 f fu) f ((q : Int) + (s + i : Nat)) y (xlx G L') = g216_17 f fu y ((q : Int) + (s + (i + 1) : Nat)) (xlx G (if L' 6 = -1 then xu L' 9 (xwl (xwl (38 * L' 9) + xdig (B (s + i)))) else L')) := by
      intro y L' hL'
      unfold g216_85 g216_116
      simp only [xlx_2, xlx_3, xlx_4, xlx_5, xlx_6, xlx_7, xlx_8, xlx_9, xlx_10, xlx_u2, xlx_u3, xlx_u4, xlx_u5, xlx_u6, xlx_u7, xlx_u8, xlx_u9, xlx_u10, xu_e, eq_self, reduceIte, Nat.reduceEqDiff, if_true, if_false, not_true_eq_false, not_false_eq_true, Option.bind_some, hsee, gdig hB, e2]
      grind
    have a2 : ∀ L', L' 4 = (q : Int) + s → g216_65 (g216_17 f fu) f x ((q : Int) + (s + i : Nat)) (xlx G L') = g216_85 (g216_17 f fu) f ((q : Int) + (s + i : Nat)) (if x ≠ 0 ∧ tSm (B (s + i)) then 1 else 0) (xlx G L') := by
      intro L' hL'
      unfold g216_65 g216_84
      simp only [xlx_2, xlx_3, xlx_4, xlx_5, xlx_6, xlx_7, xlx_8, xlx_9, xlx_10, xlx_u2, xlx_u3, xlx_u4, xlx_u5, xlx_u6, xlx_u7, xlx_u8, xlx_u9, xlx_u10, xu_e, eq_self, reduceIte, Nat.reduceEqDiff, if_true, if_false, not_true_eq_false, not_false_eq_true, Option.bind_some, hsee, gsmall]
      grind
    have a3 : g216_17b (g216_17 f fu) f x ((q : Int) + (s + i : Nat)) (xlx G L) = g216_65 (g216_17 f fu) f x ((q : Int) + (s + i : Nat)) (xlx G (if i = 12 then xu L 6 ((q : Int) + (s + i : Nat)) else L)) := by
      unfold g216_17b g216_49
      simp only [xlx_2, xlx_3, xlx_4, xlx_5, xlx_6, xlx_7, xlx_8, xlx_9, xlx_10, xlx_u2, xlx_u3, xlx_u4, xlx_u5, xlx_u6, xlx_u7, xlx_u8, xlx_u9, xlx_u10, xu_e, eq_self, reduceIte, Nat.reduceEqDiff, if_true, if_false, not_true_eq_false, not_false_eq_true, Option.bind_some, hsee, gsmall, gdigit, h4, e3]
      unfold tNm tSm tDi at hNi
      grind
    have hx2 : (if x ≠ 0 ∧ tSm (B (s + i)) then (1 : Int) else 0) = (if ∀ j, j < i + 1 → tSm (B (s + j)) then 1 else 0) := by
      have : (∀ j, j < i + 1 → tSm (B (s + j))) ↔ (∀ j, j < i → tSm (B (s + j))) ∧ tSm (B (s + i)) := by
        constructor
        · intro q; exact ⟨fun j hj => q j (by omega), q i (by omega)⟩
        · rintro ⟨q1, q2⟩ j hj
          by_cases e : j = i
          · rw [e]; exact q2
          · exact q1 j (by omega)
      rw [hx]
      grind
    rw [a3, a2 _ (by grind [xu]), hx2, a1 _ _ (by grind [xu])]
    by_cases c : i < 12
    · have m1 : min i 12 = i := by omega
      have m2 : min (i + 1) 12 = i + 1 := by omega
      have m3 : min i 11 = i := by omega
      rw [m1] at h9
      rw [m3] at h12
      rw [if_neg (show ¬ i = 12 by omega), if_pos (show L 6 = -1 by rw [h6, if_neg (by omega)]), h9, xwl_g (38 * _) (by omega) (by omega), xwl_g _ (by omega) (by omega), ih (i + 1) fu _ _ (by omega) (by omega) (by simp only [xlx_2, xlx_3, xlx_4, xlx_5, xlx_6, xlx_7, xlx_8, xlx_9, xlx_10, xlx_u2, xlx_u3, xlx_u4, xlx_u5, xlx_u6, xlx_u7, xlx_u8, xlx_u9, xlx_u10, xu_e, eq_self, reduceIte, Nat.reduceEqDiff, if_true, if_false, not_true_eq_false, not_false_eq_true, Option.bind_some, h4]) (by simp only [xlx_2, xlx_3, xlx_4, xlx_5, xlx_6, xlx_7, xlx_8, xlx_9, xlx_10, xlx_u2, xlx_u3, xlx_u4, xlx_u5, xlx_u6, xlx_u7, xlx_u8, xlx_u9, xlx_u10, xu_e, eq_self, reduceIte, Nat.reduceEqDiff, if_true, if_false, not_true_eq_false, not_false_eq_true, Option.bind_some, h6]; grind) (by simp only [xlx_2, xlx_3, xlx_4, xlx_5, xlx_6, xlx_7, xlx_8, xlx_9, xlx_10, xlx_u2, xlx_u3, xlx_u4, xlx_u5, xlx_u6, xlx_u7, xlx_u8, xlx_u9, xlx_u10, xu_e, eq_self, reduceIte, Nat.reduceEqDiff, if_true, if_false, not_true_eq_false, not_false_eq_true, Option.bind_some]; rw [m2, tenc_s]; omega) rfl]
      exact congrArg some (xlx_ext (fun j => by unfold xu; grind))
    · by_cases c2 : i = 12
      · rw [if_pos c2, if_neg (by simp only [xlx_2, xlx_3, xlx_4, xlx_5, xlx_6, xlx_7, xlx_8, xlx_9, xlx_10, xlx_u2, xlx_u3, xlx_u4, xlx_u5, xlx_u6, xlx_u7, xlx_u8, xlx_u9, xlx_u10, xu_e, eq_self, reduceIte, Nat.reduceEqDiff, if_true, if_false, not_true_eq_false, not_false_eq_true, Option.bind_some]; omega : ¬ xu L 6 ((q : Int) + (s + i : Nat)) 6 = -1), ih (i + 1) fu _ _ (by omega) (by omega) (by simp only [xlx_2, xlx_3, xlx_4, xlx_5, xlx_6, xlx_7, xlx_8, xlx_9, xlx_10, xlx_u2, xlx_u3, xlx_u4, xlx_u5, xlx_u6, xlx_u7, xlx_u8, xlx_u9, xlx_u10, xu_e, eq_self, reduceIte, Nat.reduceEqDiff, if_true, if_false, not_true_eq_false, not_false_eq_true, Option.bind_some, h4]) (by simp only [xlx_2, xlx_3, xlx_4, xlx_5, xlx_6, xlx_7, xlx_8, xlx_9, xlx_10, xlx_u2, xlx_u3, xlx_u4, xlx_u5, xlx_u6, xlx_u7, xlx_u8, xlx_u9, xlx_u10, xu_e, eq_self, reduceIte, Nat.reduceEqDiff, if_true, if_false, not_true_eq_false, not_false_eq_true, Option.bind_some]; rw [if_pos (by omega)]; omega) (by simp only [xlx_2, xlx_3, xlx_4, xlx_5, xlx_6, xlx_7, xlx_8, xlx_9, xlx_10, xlx_u2, xlx_u3, xlx_u4, xlx_u5, xlx_u6, xlx_u7, xlx_u8, xlx_u9, xlx_u10, xu_e, eq_self, reduceIte, Nat.reduceEqDiff, if_true, if_false, not_true_eq_false, not_false_eq_true, Option.bind_some]; rw [h9]; congr 1; omega) rfl]
        exact congrArg some (xlx_ext (fun j => by unfold xu; grind))
      · rw [if_neg c2, if_neg (show ¬ L 6 = -1 by rw [h6, if_pos (by omega)]; omega), ih (i + 1) fu _ _ (by omega) (by omega) h4 (by rw [h6, if_pos (by omega), if_pos (by omega)]) (by rw [h9]; congr 1; omega) rfl]
