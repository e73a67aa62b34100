/-! THE CLASS: a TOKEN comes to the list -/
def cPut (G : xG_) (t : Nat) (k a b c : Int) : xG_ := xup2 (xup2 (xup2 (xup2 (xup2 G 67 t k) 68 t a) 69 t b) 70 t c) 65 2 ((t + 1 : Nat) : Int)
theorem cPut_o {G : xG_} {t : Nat} {k a b c : Int} {x j : Nat} (h1 : ¬ (x = 65 ∧ j = 2)) (h2 : ¬ (67 ≤ x ∧ x ≤ 70 ∧ j = t)) : cPut G t k a b c x j = G x j := by
  unfold cPut
  simp (disch := omega) only [xup2_n]
section
variable {f n : Nat} {S : Nat → Nat × Nat × Nat} {G : xG_} {m : Nat × Nat} {B : Nat → Int}
theorem k_128 (hs : cSs S) (hp : cPs G) (hB : cTx G B n) (hf : 100 < f) {s e : Nat} (hsl : s < n) (hse : s ≤ e) (hn : e ≤ n) (hg : tGr (B s)) (hv : ∀ j, s ≤ j → j < e → tVr (B j)) : c128 f 65 (s : Int) ((e - s : Nat) : Int) (S, G, m) = some (tcell B s e, (S, G, m)) := by
  obtain ⟨b1, b2, b3, b4⟩ := hB
  have hb := b4 s hsl
  have hbr := (b3 s).1 hsl
  have e1 : xwr (B s - 65) = B s - 65 := xwr_g _ (by omega) (by omega)
  have e0 : c128 f 65 (s : Int) ((e - s : Nat) : Int) (S, G, m) = (if 6 ≤ B s - 65 then some (-1, (S, G, m)) else (if ((e - s : Nat) : Int) < 2 then some (-1, (S, G, m)) else (if 3 < ((e - s : Nat) : Int) then some (-1, (S, G, m)) else ((cq_gr 8 0 8 65 (S, G, m)).bind fun v124 => ((cq_a 2 v124 (xwr ((s : Int) + 1)) (S, G, m)).bind fun v126 => (if ¬ v126 = 48 then c128_47 f f 65 (s : Int) ((e - s : Nat) : Int) (B s - 65) 0 1 (S, G, m) else some (-1, (S, G, m)))))))) := by
    unfold c128 c128_39
    simp (disch := omega) only [cq_gi, cq_gr, cq_a, cq_s, cq_p, cq_pr, cq_is, cq_ar, cq_ab, cq_ln, xq_nz, Option.bind_some, xup2_n, xup2_s, Int.toNat_natCast, Int.reduceToNat, if_pos, if_neg, true_and, and_true, and_self, eq_self, if_true, reduceIte, not_true_eq_false, not_false_eq_true, or_true, true_or, s65 hs, s66 hs, p65_0 hp, hb, e1]
  rw [e0]
  unfold tcell
  by_cases c1 : 6 ≤ B s - 65
  · rw [if_pos c1, if_pos c1]
  rw [if_neg c1, if_neg c1]
  by_cases c2 : ((e - s : Nat) : Int) < 2
  · rw [if_pos c2, if_neg (by omega), if_neg (by omega)]
  rw [if_neg c2]
  by_cases c3 : 3 < ((e - s : Nat) : Int)
  · rw [if_pos c3, if_neg (by omega), if_neg (by omega)]
  rw [if_neg c3]
  have h1 : s + 1 < n := by omega
  have hb1 := b4 _ h1
  have hbr1 := (b3 (s + 1)).1 h1
  have es1 : xwr ((s : Int) + 1) = ((s + 1 : Nat) : Int) := by rw [xwr_g _ (by omega) (by omega)]; omega
  simp (disch := omega) only [cq_gi, cq_gr, cq_a, cq_s, cq_p, cq_pr, cq_is, cq_ar, cq_ab, cq_ln, xq_nz, Option.bind_some, xup2_n, xup2_s, Int.toNat_natCast, Int.reduceToNat, if_pos, if_neg, true_and, and_true, and_self, eq_self, if_true, reduceIte, not_true_eq_false, not_false_eq_true, or_true, true_or, s65 hs, s66 hs, p65_0 hp, es1, hb1]
  obtain ⟨g, rfl⟩ : ∃ g, f = g + 4 := ⟨f - 4, by omega⟩
  have step : ∀ (fu : Nat) (x4 : Int) (i : Nat), s + i < e → 0 ≤ x4 → x4 ≤ 100 → c128_47 (g + 4) (fu + 1) 65 (s : Int) ((e - s : Nat) : Int) (B s - 65) x4 (i : Int) (S, G, m) = if tDi (B (s + i)) then c128_47 (g + 4) fu 65 (s : Int) ((e - s : Nat) : Int) (B s - 65) (x4 * 10 + B (s + i) - 48) ((i + 1 : Nat) : Int) (S, G, m) else some (-1, (S, G, m)) := fun fu x4 i hi hx1 hx2 => by
    have hbi := b4 (s + i) (by omega)
    have hbri := (b3 (s + i)).1 (by omega)
    have esi : xwr ((s : Int) + (i : Int)) = ((s + i : Nat) : Int) := by rw [xwr_g _ (by omega) (by omega)]; omega
    have ei : xwr ((i : Int) + 1) = ((i + 1 : Nat) : Int) := by rw [xwr_g _ (by omega) (by omega)]; omega
    have ex : xwr (xwr (xwr (x4 * 10) + B (s + i)) - 48) = x4 * 10 + B (s + i) - 48 := by
      rw [xwr_g (x4 * 10) (by omega) (by omega), xwr_g (x4 * 10 + B (s + i)) (by omega) (by omega), xwr_g _ (by omega) (by omega)]
    show c128_47b (c128_47 (g + 4) fu) (g + 4) 65 _ _ _ _ _ _ = _
    unfold c128_47b
    rw [if_neg (by omega)]
    simp (disch := omega) only [cq_gi, cq_gr, cq_a, cq_s, cq_p, cq_pr, cq_is, cq_ar, cq_ab, cq_ln, xq_nz, Option.bind_some, xup2_n, xup2_s, Int.toNat_natCast, Int.reduceToNat, if_pos, if_neg, true_and, and_true, and_self, eq_self, if_true, reduceIte, not_true_eq_false, not_false_eq_true, or_true, true_or, s65 hs, s66 hs, p65_0 hp, esi, hbi, k_123, ex, ei]
    by_cases cd : tDi (B (s + i))
    · simp only [if_pos cd]
      rw [if_pos (by decide)]
    · simp only [if_neg cd]
      rw [if_neg (by decide)]
  have fin : ∀ (fu : Nat) (x4 : Int), 0 ≤ x4 → x4 ≤ 200 → c128_47 (g + 4) (fu + 1) 65 (s : Int) ((e - s : Nat) : Int) (B s - 65) x4 ((e - s : Nat) : Int) (S, G, m) = some (if x4 ≤ 12 then B s - 65 + 6 * (x4 - 1) else -1, (S, G, m)) := fun fu x4 hx1 hx2 => by
    have ex : xwr (B s - 65 + xwr (6 * xwr (x4 - 1))) = B s - 65 + 6 * (x4 - 1) := by
      unfold tGr at hg
      rw [xwr_g (x4 - 1) (by omega) (by omega), xwr_g (6 * (x4 - 1)) (by omega) (by omega), xwr_g _ (by omega) (by omega)]
    show c128_47b (c128_47 (g + 4) fu) (g + 4) 65 _ _ _ _ _ _ = _
    unfold c128_47b c128_116
    rw [if_pos (Int.le_refl _), ex]
    split <;> rfl
  by_cases c48 : B (s + 1) = 48
  · rw [if_neg (fun q => q c48)]
    by_cases c4 : e = s + 2
    · rw [if_pos c4, if_neg (by omega)]
    · rw [if_neg c4, if_neg (by omega)]
  rw [if_pos c48]
  have s1 := step (g + 3) 0 1 (by omega) (by decide) (by decide)
  have s1' : c128_47 (g + 4) (g + 4) 65 (s : Int) ((e - s : Nat) : Int) (B s - 65) 0 1 (S, G, m) = _ := s1
  rw [s1']
  by_cases c4 : e = s + 2
  · rw [if_pos c4]
    by_cases cd : tDi (B (s + 1))
    · rw [if_pos cd]
      have s2 := fin (g + 2) (0 * 10 + B (s + 1) - 48) (by unfold tDi at cd; omega) (by unfold tDi at cd; omega)
      rw [show ((1 + 1 : Nat) : Int) = ((e - s : Nat) : Int) by omega, s2]
      unfold tDi at cd
      rw [if_pos (by omega), if_pos (by omega)]
      congr 2
      omega
    · rw [if_neg cd, if_neg (fun q => cd (by unfold tDi; omega))]
  · rw [if_neg c4]
    by_cases cd : tDi (B (s + 1))
    · rw [if_pos cd]
      have cd' := cd
      unfold tDi at cd'
      have s2 := step (g + 2) (0 * 10 + B (s + 1) - 48) 2 (by omega) (by omega) (by omega)
      rw [show ((1 + 1 : Nat) : Int) = ((2 : Nat) : Int) by rfl, s2]
      by_cases ce : tDi (B (s + 2))
      · rw [if_pos ce]
        have ce' := ce
        unfold tDi at ce'
        have s3 := fin (g + 1) ((0 * 10 + B (s + 1) - 48) * 10 + B (s + 2) - 48) (by omega) (by omega)
        rw [show ((2 + 1 : Nat) : Int) = ((e - s : Nat) : Int) by omega, s3]
        by_cases cf : B (s + 1) = 49 ∧ 48 ≤ B (s + 2) ∧ B (s + 2) ≤ 50
        · rw [if_pos cf, if_pos (by omega)]
          congr 2
          omega
        · rw [if_neg cf, if_neg (by omega)]
      · rw [if_neg ce, if_neg (fun q => ce (by unfold tDi; omega))]
    · rw [if_neg cd, if_neg (fun q => cd (by unfold tDi; omega))]
/-- the end of addName -/
theorem k_114_112 (hs : cSs S) (hp : cPs G) (hB : cTx G B n) (hf : 3100 < f) {s e t : Nat} {c : Int} (ht : G 65 2 = (t : Int)) (htl : t < 3001) (hse : s ≤ e) (hn : e ≤ n) (hN : ∀ j, s ≤ j → j < e → tNm (B j)) : c114_112 f 65 (s : Int) c (e : Int) (S, G, m) = some ((e : Int), (S, cPut (xup2 G 71 t (tsens B s e)) t (tres (tncode B s e)) (s : Int) (e : Int) c, m)) := by
  have hn3 := hB.2.1
  have es : xwr ((e : Int) - (s : Int)) = ((e - s : Nat) : Int) := by rw [xwr_g _ (by omega) (by omega)]; omega
  have e1 := k_127 (f := f) (m := m) hs hp hB (by omega) hse hn (fun j h1 h2 => by have := hN j h1 h2; unfold tNm tSm tDi at this; omega)
  have hp1 : cPs (xup2 G 71 t (tsens B s e)) := hp.tape (fun a j _ q => xup2_n (by omega))
  have hB1 : cTx (xup2 G 71 t (tsens B s e)) B n := hB.ge (xup2_n (by omega)) (fun p => xup2_n (by omega))
  have e2 := k_115 (f := f) (m := m) hs hp1 hB1 (by omega) hse hn hN
  have e3 := k_120 (f := f) (m := m) (k := tres (tncode B s e)) (a := (s : Int)) (b := (e : Int)) (c := c) hs hp1 (by rw [xup2_n (by omega)]; exact ht) htl
  unfold c114_112
  simp (disch := omega) only [cq_gi, cq_gr, cq_a, cq_s, cq_p, cq_pr, cq_is, cq_ar, cq_ab, cq_ln, xq_nz, Option.bind_some, xup2_n, xup2_s, Int.toNat_natCast, Int.reduceToNat, if_pos, if_neg, true_and, and_true, and_self, eq_self, if_true, reduceIte, not_true_eq_false, not_false_eq_true, or_true, true_or, s65 hs, s71 hs, p65_7 hp, es, ht, e1, e2, e3]
  rfl
theorem k_114_5 (hs : cSs S) (hp : cPs G) (hB : cTx G B n) (hf : 3100 < f) {s t : Nat} (ht : G 65 2 = (t : Int)) (htl : t < 3001) (hsn : s < n) : ∀ (d p fu : Nat), p + d = n → d < fu → s ≤ p → (∀ j, s ≤ j → j < p → tNm (B j)) → c114_5 f fu 65 (s : Int) (tenc 38 xdig B s (min (p - s) 12)) (p : Int) (S, G, m) = some ((tnend B n s : Int), (S, cPut (xup2 G 71 t (tsens B s (tnend B n s))) t (tres (tncode B s (tnend B n s))) (s : Int) (tnend B n s : Int) (tncode B s (tnend B n s)), m)) := by
  have hB' := hB
  obtain ⟨b1, b2, b3, b4⟩ := hB
  have hrun := trun_is (P := tNm) b3 (by decide) (n - s) s (Nat.le_refl _) (by omega)
  have fin : ∀ p, s ≤ p → p ≤ n → (∀ j, s ≤ j → j < p → tNm (B j)) → ¬ tNm (B p) → p = tnend B n s := fun p h1 h2 h3 h4 => trun_uniq h3 h4 hrun.2.2.1 hrun.2.2.2 h1 hrun.1
  have close : ∀ p, s ≤ p → p ≤ n → (∀ j, s ≤ j → j < p → tNm (B j)) → ¬ tNm (B p) → c114_112 f 65 (s : Int) (tenc 38 xdig B s (min (p - s) 12)) (p : Int) (S, G, m) = some ((tnend B n s : Int), (S, cPut (xup2 G 71 t (tsens B s (tnend B n s))) t (tres (tncode B s (tnend B n s))) (s : Int) (tnend B n s : Int) (tncode B s (tnend B n s)), m)) := fun p h1 h2 h3 h4 => by
    have e := fin p h1 h2 h3 h4
    rw [← e]
    exact k_114_112 hs hp hB' hf ht htl h1 h2 h3
  intro d
  induction d with
  | zero =>
    intro p fu h1 h2 h3 h4
    obtain ⟨fu, rfl⟩ : ∃ t, fu = t + 1 := ⟨fu - 1, by omega⟩
    show c114_5b (c114_5 f fu) f 65 _ _ _ _ = _
    unfold c114_5b
    simp (disch := omega) only [cq_gi, cq_gr, cq_a, cq_s, cq_p, cq_pr, cq_is, cq_ar, cq_ab, cq_ln, xq_nz, Option.bind_some, xup2_n, xup2_s, Int.toNat_natCast, Int.reduceToNat, if_pos, if_neg, true_and, and_true, and_self, eq_self, if_true, reduceIte, not_true_eq_false, not_false_eq_true, or_true, true_or, s65 hs, b1]
    exact close p h3 (by omega) h4 (by rw [(b3 p).2 (by omega)]; decide)
  | succ d ih =>
    intro p fu h1 h2 h3 h4
    obtain ⟨fu, rfl⟩ : ∃ t, fu = t + 1 := ⟨fu - 1, by omega⟩
    have hlt : p < n := by omega
    have hb := b4 p hlt
    have hbr := (b3 p).1 hlt
    have ep : xwr ((p : Int) + 1) = ((p + 1 : Nat) : Int) := by rw [xwr_g _ (by omega) (by omega)]; omega
    have eps : xwr ((p : Int) - (s : Int)) = ((p - s : Nat) : Int) := by rw [xwr_g _ (by omega) (by omega)]; omega
    -- a further sign
    have go : tNm (B p) → c114_73 (c114_5 f fu) f 65 (s : Int) (tenc 38 xdig B s (min (p - s) 12)) (p : Int) (xdig (B p)) (S, G, m) = some ((tnend B n s : Int), (S, cPut (xup2 G 71 t (tsens B s (tnend B n s))) t (tres (tncode B s (tnend B n s))) (s : Int) (tnend B n s : Int) (tncode B s (tnend B n s)), m)) := fun hN => by
      have hx := xdig_in hN
      have ih' := ih (p + 1) fu (by omega) (by omega) (by omega) (fun j j1 j2 => by
        by_cases cj : j = p
        · rw [cj]; exact hN
        · exact h4 j j1 (by omega))
      unfold c114_73 c114_105
      rw [if_pos (by omega), eps, ep]
      by_cases c12 : 12 ≤ p - s
      · rw [if_pos (by omega)]
        rw [show min (p + 1 - s) 12 = min (p - s) 12 by omega] at ih'
        exact ih'
      · rw [if_neg (by omega)]
        have hl := tenc_b38 (B := B) (s := s) (p - s) (by omega) (fun j hj => h4 _ (by omega) (by omega))
        have em : min (p + 1 - s) 12 = (p - s) + 1 := by omega
        rw [em, tenc_s, show s + (p - s) = p by omega] at ih'
        rw [show min (p - s) 12 = p - s by omega, xwl_g (tenc 38 xdig B s (p - s) * 38) (by omega) (by omega), xwl_g _ (by omega) (by omega)]
        exact ih'
    have stop : ¬ tNm (B p) → c114_73 (c114_5 f fu) f 65 (s : Int) (tenc 38 xdig B s (min (p - s) 12)) (p : Int) 0 (S, G, m) = some ((tnend B n s : Int), (S, cPut (xup2 G 71 t (tsens B s (tnend B n s))) t (tres (tncode B s (tnend B n s))) (s : Int) (tnend B n s : Int) (tncode B s (tnend B n s)), m)) := fun hN => by
      unfold c114_73
      rw [if_neg (fun q => q rfl)]
      exact close p h3 (by omega) h4 hN
    show c114_5b (c114_5 f fu) f 65 _ _ _ _ = _
    unfold c114_5b
    simp (disch := omega) only [cq_gi, cq_gr, cq_a, cq_s, cq_p, cq_pr, cq_is, cq_ar, cq_ab, cq_ln, xq_nz, Option.bind_some, xup2_n, xup2_s, Int.toNat_natCast, Int.reduceToNat, if_pos, if_neg, true_and, and_true, and_self, eq_self, if_true, reduceIte, not_true_eq_false, not_false_eq_true, or_true, true_or, s65 hs, s66 hs, p65_0 hp, b1, hb, k_121, k_123]
    by_cases d1 : tSm (B p)
    · rw [if_pos d1, if_neg (by decide)]
      have : xwr (xwr (B p - 97) + 1) = xdig (B p) := by
        unfold tSm at d1
        unfold xdig
        rw [xwr_g (B p - 97) (by omega) (by omega), xwr_g _ (by omega) (by omega), if_pos (by omega)]
        omega
      rw [this]
      exact go (.inl d1)
    · rw [if_neg d1, if_pos rfl]
      by_cases d2 : tDi (B p)
      · rw [if_pos d2, if_neg (by decide)]
        have : xwr (xwr (B p - 48) + 27) = xdig (B p) := by
          unfold tDi at d2
          unfold xdig
          rw [xwr_g (B p - 48) (by omega) (by omega), xwr_g _ (by omega) (by omega), if_neg (by omega), if_pos (by omega)]
          omega
        rw [this]
        exact go (.inr (.inl d2))
      · rw [if_neg d2, if_pos rfl]
        by_cases d3 : B p = 95
        · rw [if_neg (fun q => q d3)]
          have : (37 : Int) = xdig (B p) := by rw [d3]; rfl
          rw [this]
          exact go (.inr (.inr d3))
        · rw [if_pos d3]
          exact stop (fun q => by rcases q with q | q | q; exact d1 q; exact d2 q; exact d3 q)
theorem k_114 (hs : cSs S) (hp : cPs G) (hB : cTx G B n) (hf : 3100 < f) {s t : Nat} (ht : G 65 2 = (t : Int)) (htl : t < 3001) (hsn : s < n) : c114 f 65 (s : Int) (S, G, m) = some ((tnend B n s : Int), (S, cPut (xup2 G 71 t (tsens B s (tnend B n s))) t (tres (tncode B s (tnend B n s))) (s : Int) (tnend B n s : Int) (tncode B s (tnend B n s)), m)) := by
  have := k_114_5 (f := f) (m := m) hs hp hB hf ht htl hsn (n - s) s f (by omega) (by have := hB.2.1; omega) (Nat.le_refl _) (fun j h1 h2 => by omega)
  rw [Nat.sub_self] at this
  exact this
end
