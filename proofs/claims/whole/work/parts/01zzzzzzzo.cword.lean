/-! THE CLASS: words and CELLS of the TAPE -/
def wL (x : Nat) : Nat := (xj_sB (x - 1)).length
def wS (x j : Nat) : Int := xand ((xj_sB (x - 1)).getD j 0).toInt 255
/-- a run of signs is a word -/
def spl (B : Nat → Int) (s e x : Nat) : Prop := e - s = wL x ∧ ∀ j, j < wL x → B (s + j) = wS x j
section
variable {f n : Nat} {S : Nat → Nat × Nat × Nat} {G : xG_} {m : Nat × Nat} {B : Nat → Int}
theorem wL_le {x : Nat} (hx : 1 ≤ x ∧ x ≤ 10) : wL x ≤ 13 := by
  have : ∀ y : Fin 11, wL y.val ≤ 13 := by decide
  exact this ⟨x, by omega⟩
theorem k_116_15 (hs : cSs S) (hp : cPs G) (hB : cTx G B n) {s x : Nat} (hx : 1 ≤ x ∧ x ≤ 10) (hn : s + wL x ≤ n) : ∀ (d j fu : Nat), j + d = wL x → d < fu → (∀ i, i < j → B (s + i) = wS x i) → ∃ b, c116_15 f fu 65 (s : Int) x (j : Int) (S, G, m) = some (b, (S, G, m)) ∧ isB b (∀ i, i < wL x → B (s + i) = wS x i) := by
  obtain ⟨b1, b2, b3, b4⟩ := hB
  have hl := wL_le hx
  have e1 : xq_st x = some () := by unfold xq_st; rw [if_pos hx]
  have e2 : xcsl x = some (wL x : Int) := by unfold xcsl; rw [if_pos hx]; rfl
  intro d
  induction d with
  | zero =>
    intro j fu h1 h2 h3
    obtain ⟨fu, rfl⟩ : ∃ t, fu = t + 1 := ⟨fu - 1, by omega⟩
    refine ⟨1, ?_, .inl ⟨rfl, fun i hi => h3 i (by omega)⟩⟩
    show c116_15b (c116_15 f fu) f 65 _ _ _ _ = _
    unfold c116_15b
    simp (disch := omega) only [cq_gi, cq_gr, cq_a, cq_s, cq_p, cq_pr, cq_is, cq_ar, cq_ab, cq_ln, xq_nz, Option.bind_some, xup2_n, xup2_s, Int.toNat_natCast, Int.reduceToNat, if_pos, if_neg, true_and, and_true, and_self, eq_self, if_true, reduceIte, not_true_eq_false, not_false_eq_true, or_true, true_or, e1, e2]
  | succ d ih =>
    intro j fu h1 h2 h3
    obtain ⟨fu, rfl⟩ : ∃ t, fu = t + 1 := ⟨fu - 1, by omega⟩
    have hb := b4 (s + j) (by omega)
    have e3 : xcsa x (j : Int) = some (wS x j) := by
      unfold xcsa
      rw [if_pos ⟨hx.1, hx.2, by omega, by show (j : Int) < (wL x : Int); omega⟩, Int.toNat_natCast]
      rfl
    have ej : xwr ((j : Int) + 1) = ((j + 1 : Nat) : Int) := by rw [xwr_g _ (by omega) (by omega)]; omega
    have es : xwr ((s : Int) + (j : Int)) = ((s + j : Nat) : Int) := by rw [xwr_g _ (by omega) (by omega)]; omega
    have e4 : c116_15 f (fu + 1) 65 (s : Int) x (j : Int) (S, G, m) = if B (s + j) = wS x j then c116_15 f fu 65 (s : Int) x ((j + 1 : Nat) : Int) (S, G, m) else some (0, (S, G, m)) := by
      show c116_15b (c116_15 f fu) f 65 _ _ _ _ = _
      unfold c116_15b
      simp (disch := omega) only [cq_gi, cq_gr, cq_a, cq_s, cq_p, cq_pr, cq_is, cq_ar, cq_ab, cq_ln, xq_nz, Option.bind_some, xup2_n, xup2_s, Int.toNat_natCast, Int.reduceToNat, if_pos, if_neg, true_and, and_true, and_self, eq_self, if_true, reduceIte, not_true_eq_false, not_false_eq_true, or_true, true_or, e1, e2, e3, es, ej, s65 hs, s66 hs, p65_0 hp, hb]
    by_cases c : B (s + j) = wS x j
    · rw [if_pos c] at e4
      rw [e4]
      refine ih (j + 1) fu (by omega) (by omega) (fun i hi => ?_)
      by_cases ci : i = j
      · rw [ci]; exact c
      · exact h3 i (by omega)
    · rw [if_neg c] at e4
      exact ⟨0, e4, .inr ⟨rfl, fun q => c (q j (by omega))⟩⟩
theorem k_116 (hs : cSs S) (hp : cPs G) (hB : cTx G B n) (hf : 100 < f) {s e x : Nat} (hx : 1 ≤ x ∧ x ≤ 10) (hse : s ≤ e) (hn : e ≤ n) : ∃ b, c116 f 65 (s : Int) (e : Int) x (S, G, m) = some (b, (S, G, m)) ∧ isB b (spl B s e x) := by
  have hl := wL_le hx
  have hn3 := hB.2.1
  have e1 : xq_st x = some () := by unfold xq_st; rw [if_pos hx]
  have e2 : xcsl x = some (wL x : Int) := by unfold xcsl; rw [if_pos hx]; rfl
  have es : xwr ((e : Int) - (s : Int)) = ((e - s : Nat) : Int) := by rw [xwr_g _ (by omega) (by omega)]; omega
  have e3 : c116 f 65 (s : Int) (e : Int) x (S, G, m) = if ((e - s : Nat) : Int) = (wL x : Int) then c116_15 f f 65 (s : Int) x 0 (S, G, m) else some (0, (S, G, m)) := by
    unfold c116
    rw [e1, Option.bind_some, e2, Option.bind_some, es]
  by_cases c : e - s = wL x
  · rw [if_pos (by omega)] at e3
    obtain ⟨b, k1, k2⟩ := k_116_15 (f := f) (m := m) hs hp hB (s := s) hx (by omega) (wL x) 0 f (by omega) (by omega) (fun i hi => absurd hi (Nat.not_lt_zero i))
    refine ⟨b, by rw [e3]; exact k1, ?_⟩
    rcases k2 with ⟨q1, q2⟩ | ⟨q1, q2⟩
    · exact .inl ⟨q1, c, q2⟩
    · exact .inr ⟨q1, fun q => q2 q.2⟩
  · rw [if_neg (by omega)] at e3
    exact ⟨0, e3, .inr ⟨rfl, fun q => c q.1⟩⟩
/-- a NAME's number tells the word -/
theorem xdig_inj {a b : Int} (ha : tNm a) (hb : tNm b) (h : xdig a = xdig b) : a = b := by
  unfold xdig at h
  unfold tNm tSm tDi at ha hb
  repeat' split at h
  all_goals omega
theorem xdig_in {a : Int} (ha : tNm a) : 1 ≤ xdig a ∧ xdig a < 38 := by
  unfold xdig
  unfold tNm tSm tDi at ha
  repeat' split
  all_goals omega
theorem spl_code {s e x : Nat} (hx : ∀ j, j < wL x → tNm (wS x j)) (hl : wL x < 12) (hN : ∀ j, s ≤ j → j < e → tNm (B j)) : spl B s e x ↔ tncode B s e = tenc 38 xdig (wS x) 0 (wL x) := by
  constructor
  · rintro ⟨h1, h2⟩
    unfold tncode
    rw [h1, Nat.min_eq_left (by omega)]
    have : ∀ k, k ≤ wL x → tenc 38 xdig B s k = tenc 38 xdig (wS x) 0 k := by
      intro k
      induction k with
      | zero => intro _; rfl
      | succ k ih =>
        intro hk
        rw [tenc_s, tenc_s, ih (by omega), h2 k (by omega), Nat.zero_add]
    exact this _ (Nat.le_refl _)
  · intro h
    unfold tncode at h
    obtain ⟨k1, k2⟩ := tenc_inj (b := 38) (d := xdig) (B := B) (s := s) (t := 0) (C := wS x) (min (e - s) 12) (wL x) (fun j hj => xdig_in (hN _ (by omega) (by omega))) (fun j hj => by rw [Nat.zero_add]; exact xdig_in (hx j hj)) h
    refine ⟨by omega, fun j hj => ?_⟩
    have := k2 j (by omega)
    rw [Nat.zero_add] at this
    exact xdig_inj (hN _ (by omega) (by omega)) (hx j hj) this
theorem wS_nm : ∀ x, 1 ≤ x → x ≤ 8 → (∀ j, j < wL x → tNm (wS x j)) ∧ wL x < 12 := by
  have : ∀ y : Fin 9, 1 ≤ y.val → (∀ j : Fin 12, j.val < wL y.val → tNm (wS y.val j.val)) ∧ wL y.val < 12 := by decide +kernel
  intro x h1 h2
  obtain ⟨a, b⟩ := this ⟨x, by omega⟩ h1
  have b' : wL x < 12 := b
  exact ⟨fun j hj => a ⟨j, by omega⟩ hj, b'⟩
theorem wS_code : tenc 38 xdig (wS 1) 0 (wL 1) = 19558354 ∧ tenc 38 xdig (wS 2) 0 (wL 2) = 1233436738 ∧ tenc 38 xdig (wS 3) 0 (wL 3) = 16099 ∧ tenc 38 xdig (wS 4) 0 (wL 4) = 20806 ∧ tenc 38 xdig (wS 5) 0 (wL 5) = 7109364 ∧ tenc 38 xdig (wS 6) 0 (wL 6) = 28247 ∧ tenc 38 xdig (wS 7) 0 (wL 7) = 25298178 ∧ tenc 38 xdig (wS 8) 0 (wL 8) = 735738 := by decide +kernel
theorem k_115 (hs : cSs S) (hp : cPs G) (hB : cTx G B n) (hf : 100 < f) {s e : Nat} (hse : s ≤ e) (hn : e ≤ n) (hN : ∀ j, s ≤ j → j < e → tNm (B j)) : c115 f 65 (s : Int) (e : Int) (S, G, m) = some (tres (tncode B s e), (S, G, m)) := by
  have his : cq_is 8 8 65 (S, G, m) = some () := by unfold cq_is; rw [if_pos (s65 hs)]
  have w : ∀ (x : Nat) (c : Int), 1 ≤ x → x ≤ 8 → tenc 38 xdig (wS x) 0 (wL x) = c → c116 f 65 (s : Int) (e : Int) x (S, G, m) = some (if tncode B s e = c then 1 else 0, (S, G, m)) := fun x c h1 h2 h3 => by
    obtain ⟨b, k1, k2⟩ := k_116 (f := f) (m := m) hs hp hB hf (x := x) (by omega) hse hn
    rw [k1]
    have hi := spl_code (B := B) (s := s) (e := e) (wS_nm x h1 h2).1 (wS_nm x h1 h2).2 hN
    rw [h3] at hi
    rcases k2 with ⟨q1, q2⟩ | ⟨q1, q2⟩
    · rw [if_pos (hi.mp q2), q1]
    · rw [if_neg (fun q => q2 (hi.mpr q)), q1]
  obtain ⟨c1, c2, c3, c4, c5, c6, c7, c8⟩ := wS_code
  have i0 : ∀ {α : Type} {P : Prop} [Decidable P] {x y : α}, (if (if P then (1 : Int) else 0) = 0 then x else y) = if P then y else x := by
    intro α P _ x y
    by_cases h : P
    · rw [if_pos h, if_pos h, if_neg (by decide)]
    · rw [if_neg h, if_neg h, if_pos rfl]
  unfold c115 c115_129 tres
  simp only [his, Option.bind_some, w 1 _ (by decide) (by decide) c1, w 2 _ (by decide) (by decide) c2, w 3 _ (by decide) (by decide) c3, w 4 _ (by decide) (by decide) c4, w 5 _ (by decide) (by decide) c5, w 6 _ (by decide) (by decide) c6, w 7 _ (by decide) (by decide) c7, w 8 _ (by decide) (by decide) c8, i0]
  repeat' split
  all_goals rfl
/-- wordOf -/
theorem tword_b {s e : Nat} : ∀ k, (∀ j, j < k → s + j < e → tSm (B (s + j))) → 0 ≤ tword B s e k ∧ tword B s e k < 27 ^ k := by
  intro k
  induction k with
  | zero => intro _; exact ⟨Int.le_refl _, show (0 : Int) < 1 by decide⟩
  | succ k ih =>
    intro h
    obtain ⟨h1, h2⟩ := ih (fun j hj => h j (by omega))
    have e1 : tword B s e (k + 1) = tword B s e k * 27 + (if s + k < e then B (s + k) - 96 else 0) := rfl
    have e2 : (27 : Int) ^ (k + 1) = 27 ^ k * 27 := Int.pow_succ 27 k
    rw [e1, e2]
    split
    · rename_i c
      have := h k (by omega) c
      unfold tSm at this
      omega
    · omega
theorem k_127_5 (hs : cSs S) (hp : cPs G) (hB : cTx G B n) {s e : Nat} (hse : s ≤ e) (hn : e ≤ n) (h0 : ∀ j, s ≤ j → j < e → B j ≠ 0) : ∀ (d i fu : Nat), i + d = 8 → d < fu → (∀ j, j < i → s + j < e → tSm (B (s + j))) → c127_5 f fu 65 (s : Int) ((e - s : Nat) : Int) (tword B s e i) (i : Int) (S, G, m) = some (tsens B s e, (S, G, m)) := by
  obtain ⟨b1, b2, b3, b4⟩ := hB
  intro d
  induction d with
  | zero =>
    intro i fu h1 h2 h3
    obtain ⟨fu, rfl⟩ : ∃ t, fu = t + 1 := ⟨fu - 1, by omega⟩
    have ei : i = 8 := by omega
    subst ei
    obtain ⟨w1, w2⟩ := tword_b 8 h3
    have w3 : (27 : Int) ^ 8 = 282429536481 := by decide
    have ew : xwl (2000000000000 + tword B s e 8) = 2000000000000 + tword B s e 8 := xwl_g _ (by omega) (by omega)
    show c127_5b (c127_5 f fu) f 65 _ _ _ _ _ = _
    unfold c127_5b c127_97 tsens
    rw [if_pos (by decide), ew]
    by_cases c : e - s ≤ 8
    · rw [if_pos (by omega), if_pos ⟨fun i hi => h3 i (by omega) (by omega), c⟩]
    · rw [if_neg (by omega), if_neg (fun q => c q.2)]
  | succ d ih =>
    intro i fu h1 h2 h3
    obtain ⟨fu, rfl⟩ : ∃ t, fu = t + 1 := ⟨fu - 1, by omega⟩
    obtain ⟨w1, w2⟩ := tword_b i h3
    have w3 : (27 : Int) ^ i ≤ 27 ^ 8 := by
      have : ∀ y : Fin 9, (27 : Int) ^ y.val ≤ 27 ^ 8 := by decide
      exact this ⟨i, by omega⟩
    have w4 : (27 : Int) ^ 8 = 282429536481 := by decide
    have ei : xwr ((i : Int) + 1) = ((i + 1 : Nat) : Int) := by rw [xwr_g _ (by omega) (by omega)]; omega
    have em : xwl (tword B s e i * 27) = tword B s e i * 27 := xwl_g _ (by omega) (by omega)
    have es : xwr ((s : Int) + (i : Int)) = ((s + i : Nat) : Int) := by rw [xwr_g _ (by omega) (by omega)]; omega
    have et : tword B s e (i + 1) = tword B s e i * 27 + (if s + i < e then B (s + i) - 96 else 0) := rfl
    show c127_5b (c127_5 f fu) f 65 _ _ _ _ _ = _
    unfold c127_5b c127_31 c127_50 c127_71
    rw [if_neg (by omega)]
    by_cases c : e - s ≤ i
    · rw [if_pos (by omega), if_pos rfl, if_neg (fun q => q rfl), em, ei, xwl_g _ (by omega) (by omega)]
      rw [if_neg (by omega)] at et
      rw [← et]
      exact ih (i + 1) fu (by omega) (by omega) (fun j hj hj2 => h3 j (by omega) hj2)
    · have hlt : s + i < n := by omega
      have hb := b4 _ hlt
      have hbr := (b3 (s + i)).1 hlt
      have hb0 := h0 (s + i) (by omega) (by omega)
      rw [if_neg (by omega)]
      simp (disch := omega) only [cq_gi, cq_gr, cq_a, cq_s, cq_p, cq_pr, cq_is, cq_ar, cq_ab, cq_ln, xq_nz, Option.bind_some, xup2_n, xup2_s, Int.toNat_natCast, Int.reduceToNat, if_pos, if_neg, true_and, and_true, and_self, eq_self, if_true, reduceIte, not_true_eq_false, not_false_eq_true, or_true, true_or, s65 hs, s66 hs, p65_0 hp, es, hb, k_121]
      by_cases cs : tSm (B (s + i))
      · rw [if_pos cs, if_pos (by decide), em, ei]
        unfold tSm at cs
        rw [xwr_g (B (s + i) - 97) (by omega) (by omega), xwr_g _ (by omega) (by omega), xwl_g _ (by omega) (by omega)]
        rw [if_pos (by omega)] at et
        rw [show tword B s e i * 27 + (B (s + i) - 97 + 1) = tword B s e (i + 1) by omega]
        refine ih (i + 1) fu (by omega) (by omega) (fun j hj hj2 => ?_)
        by_cases cj : j = i
        · rw [cj]; exact cs
        · exact h3 j (by omega) hj2
      · rw [if_neg cs, if_neg (by decide)]
        unfold tsens
        rw [if_neg (fun q => cs (q.1 i (by omega)))]
theorem k_127 (hs : cSs S) (hp : cPs G) (hB : cTx G B n) (hf : 100 < f) {s e : Nat} (hse : s ≤ e) (hn : e ≤ n) (h0 : ∀ j, s ≤ j → j < e → B j ≠ 0) : c127 f 65 (s : Int) ((e - s : Nat) : Int) (S, G, m) = some (tsens B s e, (S, G, m)) := k_127_5 hs hp hB hse hn h0 8 0 f (by omega) (by omega) (fun j hj => absurd hj (Nat.not_lt_zero j))
end
