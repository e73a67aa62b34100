/-! THE CLASS: further TOKENS come to the list -/
def tvco (B : Nat → Int) (s e : Nat) : Int := tenc 63 d63 B s (min (e - s) 8)
theorem d63_in {a : Int} (ha : tVr a) : 1 ≤ d63 a ∧ d63 a < 63 := by
  unfold d63
  unfold tVr tSm tGr tDi at ha
  repeat' split
  all_goals omega
section
variable {f n : Nat} {S : Nat → Nat × Nat × Nat} {G : xG_} {m : Nat × Nat} {B : Nat → Int}
theorem tenc_b63 {s : Nat} (k : Nat) (hk : k ≤ 8) (h : ∀ j, j < k → tVr (B (s + j))) : 0 ≤ tenc 63 d63 B s k ∧ tenc 63 d63 B s k < 248155780267521 := by
  obtain ⟨h1, h2⟩ := tenc_in (b := 63) (d := d63) (B := B) (s := s) (by decide) k (fun j hj => d63_in (h j hj))
  have : ∀ y : Fin 9, (63 : Int) ^ y.val ≤ 248155780267521 := by decide
  have h3 : (63 : Int) ^ k ≤ 248155780267521 := this ⟨k, by omega⟩
  omega
theorem k_117_119 (hs : cSs S) (hp : cPs G) (hB : cTx G B n) (hf : 3100 < f) {s e t : Nat} {c : Int} (ht : G 65 2 = (t : Int)) (htl : t < 3001) (hsl : s < n) (hse : s ≤ e) (hn : e ≤ n) (hg : tGr (B s)) (hv : ∀ j, s ≤ j → j < e → tVr (B j)) : c117_119 f 65 (s : Int) c (e : Int) (S, G, m) = some ((e : Int), (S, cPut (xup2 G 71 t (tcell B s e)) t 2 (s : Int) (e : Int) c, m)) := by
  have hn3 := hB.2.1
  have es : xwr ((e : Int) - (s : Int)) = ((e - s : Nat) : Int) := by rw [xwr_g _ (by omega) (by omega)]; omega
  have e1 := k_128 (f := f) (m := m) hs hp hB (by omega) hsl hse hn hg hv
  have hp1 : cPs (xup2 G 71 t (tcell B s e)) := hp.tape (fun a j _ q => xup2_n (by omega))
  have e3 := k_120 (f := f) (m := m) (k := 2) (a := (s : Int)) (b := (e : Int)) (c := c) hs hp1 (by rw [xup2_n (by omega)]; exact ht) htl
  unfold c117_119
  simp (disch := omega) only [cq_gi, cq_gr, cq_a, cq_s, cq_p, cq_pr, cq_is, cq_ar, cq_ab, cq_ln, xq_nz, Option.bind_some, xup2_n, xup2_s, Int.toNat_natCast, Int.reduceToNat, if_pos, if_neg, true_and, and_true, and_self, eq_self, if_true, reduceIte, not_true_eq_false, not_false_eq_true, or_true, true_or, s65 hs, s71 hs, p65_7 hp, es, ht, e1, e3]
  rfl
theorem k_117_5 (hs : cSs S) (hp : cPs G) (hB : cTx G B n) (hf : 3100 < f) {s t : Nat} (ht : G 65 2 = (t : Int)) (htl : t < 3001) (hsn : s < n) (hg : tGr (B s)) : ∀ (d p fu : Nat), p + d = n → d < fu → s ≤ p → (∀ j, s ≤ j → j < p → tVr (B j)) → c117_5 f fu 65 (s : Int) (tenc 63 d63 B s (min (p - s) 8)) (p : Int) (S, G, m) = some ((tvend B n s : Int), (S, cPut (xup2 G 71 t (tcell B s (tvend B n s))) t 2 (s : Int) (tvend B n s : Int) (tvco B s (tvend B n s)), m)) := by
  have hB' := hB
  obtain ⟨b1, b2, b3, b4⟩ := hB
  have hrun := trun_is (P := tVr) b3 (by decide) (n - s) s (Nat.le_refl _) (by omega)
  have fin : ∀ p, s ≤ p → p ≤ n → (∀ j, s ≤ j → j < p → tVr (B j)) → ¬ tVr (B p) → p = tvend B n s := fun p h1 h2 h3 h4 => trun_uniq h3 h4 hrun.2.2.1 hrun.2.2.2 h1 hrun.1
  have close : ∀ p, s ≤ p → p ≤ n → (∀ j, s ≤ j → j < p → tVr (B j)) → ¬ tVr (B p) → c117_119 f 65 (s : Int) (tenc 63 d63 B s (min (p - s) 8)) (p : Int) (S, G, m) = some ((tvend B n s : Int), (S, cPut (xup2 G 71 t (tcell B s (tvend B n s))) t 2 (s : Int) (tvend B n s : Int) (tvco B s (tvend B n s)), m)) := fun p h1 h2 h3 h4 => by
    have e := fin p h1 h2 h3 h4
    rw [← e]
    exact k_117_119 hs hp hB' hf ht htl hsn h1 h2 hg h3
  intro d
  induction d with
  | zero =>
    intro p fu h1 h2 h3 h4
    obtain ⟨fu, rfl⟩ : ∃ t, fu = t + 1 := ⟨fu - 1, by omega⟩
    show c117_5b (c117_5 f fu) f 65 _ _ _ _ = _
    unfold c117_5b
    simp (disch := omega) only [cq_gi, cq_gr, cq_a, cq_s, cq_p, cq_pr, cq_is, cq_ar, cq_ab, cq_ln, xq_nz, Option.bind_some, xup2_n, xup2_s, Int.toNat_natCast, Int.reduceToNat, if_pos, if_neg, true_and, and_true, and_self, eq_self, if_true, reduceIte, not_true_eq_false, not_false_eq_true, or_true, true_or, s65 hs, b1]
    exact close p h3 (by omega) h4 (by rw [(b3 p).2 (by omega)]; decide)
  | succ d ih =>
    intro p fu h1 h2 h3 h4
    obtain ⟨fu, rfl⟩ : ∃ t, fu = t + 1 := ⟨fu - 1, by omega⟩
    have hlt : p < n := by omega
    have hb := b4 p hlt
    have hbr := (b3 p).1 hlt
    have ep : xwr ((p : Int) + 1) = ((p + 1 : Nat) : Int) := by rw [xwr_g _ (by omega) (by omega)]; omega
    have eps : xwr ((p : Int) - (s : Int)) = ((p - s : Nat) : Int) := by rw [xwr_g _ (by omega) (by omega)]; omega
    have go : tVr (B p) → c117_80 (c117_5 f fu) f 65 (s : Int) (tenc 63 d63 B s (min (p - s) 8)) (p : Int) (d63 (B p)) (S, G, m) = some ((tvend B n s : Int), (S, cPut (xup2 G 71 t (tcell B s (tvend B n s))) t 2 (s : Int) (tvend B n s : Int) (tvco B s (tvend B n s)), m)) := fun hN => by
      have hx := d63_in hN
      have ih' := ih (p + 1) fu (by omega) (by omega) (by omega) (fun j j1 j2 => by
        by_cases cj : j = p
        · rw [cj]; exact hN
        · exact h4 j j1 (by omega))
      unfold c117_80 c117_112
      rw [if_pos (by omega), eps, ep]
      by_cases c12 : 8 ≤ p - s
      · rw [if_pos (by omega)]
        rw [show min (p + 1 - s) 8 = min (p - s) 8 by omega] at ih'
        exact ih'
      · rw [if_neg (by omega)]
        have hl := tenc_b63 (B := B) (s := s) (p - s) (by omega) (fun j hj => h4 _ (by omega) (by omega))
        have em : min (p + 1 - s) 8 = (p - s) + 1 := by omega
        rw [em, tenc_s, show s + (p - s) = p by omega] at ih'
        rw [show min (p - s) 8 = p - s by omega, xwl_g (tenc 63 d63 B s (p - s) * 63) (by omega) (by omega), xwl_g _ (by omega) (by omega)]
        exact ih'
    have stop : ¬ tVr (B p) → c117_80 (c117_5 f fu) f 65 (s : Int) (tenc 63 d63 B s (min (p - s) 8)) (p : Int) 0 (S, G, m) = some ((tvend B n s : Int), (S, cPut (xup2 G 71 t (tcell B s (tvend B n s))) t 2 (s : Int) (tvend B n s : Int) (tvco B s (tvend B n s)), m)) := fun hN => by
      unfold c117_80
      rw [if_neg (fun q => q rfl)]
      exact close p h3 (by omega) h4 hN
    show c117_5b (c117_5 f fu) f 65 _ _ _ _ = _
    unfold c117_5b
    simp (disch := omega) only [cq_gi, cq_gr, cq_a, cq_s, cq_p, cq_pr, cq_is, cq_ar, cq_ab, cq_ln, xq_nz, Option.bind_some, xup2_n, xup2_s, Int.toNat_natCast, Int.reduceToNat, if_pos, if_neg, true_and, and_true, and_self, eq_self, if_true, reduceIte, not_true_eq_false, not_false_eq_true, or_true, true_or, s65 hs, s66 hs, p65_0 hp, b1, hb, k_121, k_122, k_123]
    by_cases d1 : tGr (B p)
    · rw [if_pos d1, if_neg (by decide)]
      have : xwr (xwr (B p - 65) + 1) = d63 (B p) := by
        unfold tGr at d1
        unfold d63
        rw [xwr_g (B p - 65) (by omega) (by omega), xwr_g _ (by omega) (by omega), if_pos (by omega)]
        omega
      rw [this]
      exact go (.inr (.inl d1))
    · rw [if_neg d1, if_pos rfl]
      by_cases d2 : tSm (B p)
      · rw [if_pos d2, if_neg (by decide)]
        have : xwr (xwr (B p - 97) + 27) = d63 (B p) := by
          unfold tSm at d2
          unfold d63
          rw [xwr_g (B p - 97) (by omega) (by omega), xwr_g _ (by omega) (by omega), if_neg (by omega), if_pos (by omega)]
          omega
        rw [this]
        exact go (.inl d2)
      · rw [if_neg d2, if_pos rfl]
        by_cases d3 : tDi (B p)
        · rw [if_pos d3, if_neg (by decide)]
          have : xwr (xwr (B p - 48) + 53) = d63 (B p) := by
            unfold tDi at d3
            unfold d63
            rw [xwr_g (B p - 48) (by omega) (by omega), xwr_g _ (by omega) (by omega), if_neg (by omega), if_neg (by omega)]
            omega
          rw [this]
          exact go (.inr (.inr d3))
        · rw [if_neg d3, if_pos rfl]
          exact stop (fun q => by rcases q with q | q | q; exact d2 q; exact d1 q; exact d3 q)
theorem k_117 (hs : cSs S) (hp : cPs G) (hB : cTx G B n) (hf : 3100 < f) {s t : Nat} (ht : G 65 2 = (t : Int)) (htl : t < 3001) (hsn : s < n) (hg : tGr (B s)) : c117 f 65 (s : Int) (S, G, m) = some ((tvend B n s : Int), (S, cPut (xup2 G 71 t (tcell B s (tvend B n s))) t 2 (s : Int) (tvend B n s : Int) (tvco B s (tvend B n s)), m)) := by
  have := k_117_5 (f := f) (m := m) hs hp hB hf ht htl hsn hg (n - s) s f (by omega) (by have := hB.2.1; omega) (Nat.le_refl _) (fun j h1 h2 => by omega)
  rw [Nat.sub_self] at this
  exact this
/-- NUMBERS -/
theorem tnum_s (cap : Int) (s k : Nat) : tnum cap B s (k + 1) = min (tnum cap B s k * 10 + B (s + k) - 48) cap := rfl
theorem k_118_16 (hs : cSs S) (hp : cPs G) (hB : cTx G B n) (hf : 3100 < f) {s t : Nat} (ht : G 65 2 = (t : Int)) (htl : t < 3001) (hsn : s < n) (hd0 : tDi (B s)) (h48 : B s ≠ 48) : ∀ (d p fu : Nat), p + d = n → d < fu → s < p → (∀ j, s ≤ j → j < p → tDi (B j)) → 0 < tnum 1000000000001 B s (p - s) → c118_16 f fu 65 (s : Int) (tnum 1000000000001 B s (p - s)) (p : Int) (S, G, m) = some ((tdend B n s : Int), (S, cPut G t 4 (s : Int) (tdend B n s : Int) (tnum 1000000000001 B s (tdend B n s - s)), m)) := by
  have hB' := hB
  obtain ⟨b1, b2, b3, b4⟩ := hB
  have hrun := trun_is (P := tDi) b3 (by decide) (n - s) s (Nat.le_refl _) (by omega)
  have ed : tdend B n s = trun B tDi (n - s) s := by unfold tdend; rw [if_neg h48]
  have fin : ∀ p, s ≤ p → p ≤ n → (∀ j, s ≤ j → j < p → tDi (B j)) → ¬ tDi (B p) → p = tdend B n s := fun p h1 h2 h3 h4 => by rw [ed]; exact trun_uniq h3 h4 hrun.2.2.1 hrun.2.2.2 h1 hrun.1
  have close : ∀ p, s ≤ p → p ≤ n → (∀ j, s ≤ j → j < p → tDi (B j)) → ¬ tDi (B p) → c118_75 f 65 (s : Int) (tnum 1000000000001 B s (p - s)) (p : Int) (S, G, m) = some ((tdend B n s : Int), (S, cPut G t 4 (s : Int) (tdend B n s : Int) (tnum 1000000000001 B s (tdend B n s - s)), m)) := fun p h1 h2 h3 h4 => by
    have e := fin p h1 h2 h3 h4
    rw [← e]
    have e3 := k_120 (f := f) (m := m) (k := 4) (a := (s : Int)) (b := (p : Int)) (c := tnum 1000000000001 B s (p - s)) hs hp ht htl
    unfold c118_75
    simp (disch := omega) only [cq_gi, cq_gr, cq_a, cq_s, cq_p, cq_pr, cq_is, cq_ar, cq_ab, cq_ln, xq_nz, Option.bind_some, xup2_n, xup2_s, Int.toNat_natCast, Int.reduceToNat, if_pos, if_neg, true_and, and_true, and_self, eq_self, if_true, reduceIte, not_true_eq_false, not_false_eq_true, or_true, true_or, s65 hs, e3]
    rfl
  intro d
  induction d with
  | zero =>
    intro p fu h1 h2 h3 h4 h5
    obtain ⟨fu, rfl⟩ : ∃ t, fu = t + 1 := ⟨fu - 1, by omega⟩
    show c118_16b (c118_16 f fu) f 65 _ _ _ _ = _
    unfold c118_16b
    simp (disch := omega) only [cq_gi, cq_gr, cq_a, cq_s, cq_p, cq_pr, cq_is, cq_ar, cq_ab, cq_ln, xq_nz, Option.bind_some, xup2_n, xup2_s, Int.toNat_natCast, Int.reduceToNat, if_pos, if_neg, true_and, and_true, and_self, eq_self, if_true, reduceIte, not_true_eq_false, not_false_eq_true, or_true, true_or, s65 hs, b1]
    exact close p (by omega) (by omega) h4 (by rw [(b3 p).2 (by omega)]; decide)
  | succ d ih =>
    intro p fu h1 h2 h3 h4 h5
    obtain ⟨fu, rfl⟩ : ∃ t, fu = t + 1 := ⟨fu - 1, by omega⟩
    have hlt : p < n := by omega
    have hb := b4 p hlt
    have hbr := (b3 p).1 hlt
    have ep : xwr ((p : Int) + 1) = ((p + 1 : Nat) : Int) := by rw [xwr_g _ (by omega) (by omega)]; omega
    obtain ⟨q1, q2⟩ := tnum_in (cap := 1000000000001) (B := B) (s := s) (by decide) (p - s) (fun j hj => h4 _ (by omega) (by omega))
    show c118_16b (c118_16 f fu) f 65 _ _ _ _ = _
    unfold c118_16b
    simp (disch := omega) only [cq_gi, cq_gr, cq_a, cq_s, cq_p, cq_pr, cq_is, cq_ar, cq_ab, cq_ln, xq_nz, Option.bind_some, xup2_n, xup2_s, Int.toNat_natCast, Int.reduceToNat, if_pos, if_neg, true_and, and_true, and_self, eq_self, if_true, reduceIte, not_true_eq_false, not_false_eq_true, or_true, true_or, s65 hs, s66 hs, p65_0 hp, b1, hb, k_123, ep]
    by_cases cd : tDi (B p)
    · rw [if_pos cd, if_neg (by decide)]
      have es := tnum_s (B := B) 1000000000001 s (p - s)
      rw [show s + (p - s) = p by omega] at es
      have cd' := cd
      unfold tDi at cd'
      have ex : xmin (xwl (xwl (xwl (tnum 1000000000001 B s (p - s) * 10) + B p) - 48)) 1000000000001 = tnum 1000000000001 B s (p + 1 - s) := by
        rw [xwl_g (tnum 1000000000001 B s (p - s) * 10) (by omega) (by omega), xwl_g (tnum 1000000000001 B s (p - s) * 10 + B p) (by omega) (by omega), xwl_g _ (by omega) (by omega), show p + 1 - s = p - s + 1 by omega, es]
        unfold xmin
        split <;> omega
      rw [ex]
      refine ih (p + 1) fu (by omega) (by omega) (by omega) (fun j j1 j2 => ?_) ?_
      · by_cases cj : j = p
        · rw [cj]; exact cd
        · exact h4 j j1 (by omega)
      · rw [show p + 1 - s = p - s + 1 by omega, es]
        omega
    · rw [if_neg cd, if_pos rfl]
      exact close p (by omega) (by omega) h4 cd
theorem k_118 (hs : cSs S) (hp : cPs G) (hB : cTx G B n) (hf : 3100 < f) {s t : Nat} (ht : G 65 2 = (t : Int)) (htl : t < 3001) (hsn : s < n) (hd0 : tDi (B s)) : c118 f 65 (s : Int) (S, G, m) = some ((tdend B n s : Int), (S, cPut G t 4 (s : Int) (tdend B n s : Int) (tnum 1000000000001 B s (tdend B n s - s)), m)) := by
  have hn3 := hB.2.1
  have hb := hB.2.2.2 s hsn
  have hd' := hd0
  unfold tDi at hd'
  have ep : xwr ((s : Int) + 1) = ((s + 1 : Nat) : Int) := by rw [xwr_g _ (by omega) (by omega)]; omega
  have e1 : tnum 1000000000001 B s 1 = B s - 48 := by
    show min (0 * 10 + B (s + 0) - 48) 1000000000001 = _
    rw [Nat.add_zero]
    omega
  have ew : xwr (B s - 48) = B s - 48 := xwr_g _ (by omega) (by omega)
  unfold c118
  simp (disch := omega) only [cq_gi, cq_gr, cq_a, cq_s, cq_p, cq_pr, cq_is, cq_ar, cq_ab, cq_ln, xq_nz, Option.bind_some, xup2_n, xup2_s, Int.toNat_natCast, Int.reduceToNat, if_pos, if_neg, true_and, and_true, and_self, eq_self, if_true, reduceIte, not_true_eq_false, not_false_eq_true, or_true, true_or, s65 hs, s66 hs, p65_0 hp, hb, ep, ew]
  by_cases h48 : B s = 48
  · have ed : tdend B n s = s + 1 := by unfold tdend; rw [if_pos h48]
    obtain ⟨g, rfl⟩ : ∃ g, f = g + 1 := ⟨f - 1, by omega⟩
    rw [ed, Nat.add_sub_cancel_left, e1]
    have e3 := k_120 (f := g + 1) (m := m) (k := 4) (a := (s : Int)) (b := ((s + 1 : Nat) : Int)) (c := B s - 48) hs hp ht htl
    show c118_16b (c118_16 (g + 1) g) (g + 1) 65 _ _ _ _ = _
    unfold c118_16b c118_75
    rw [if_pos (by omega)]
    simp (disch := omega) only [cq_gi, cq_gr, cq_a, cq_s, cq_p, cq_pr, cq_is, cq_ar, cq_ab, cq_ln, xq_nz, Option.bind_some, xup2_n, xup2_s, Int.toNat_natCast, Int.reduceToNat, if_pos, if_neg, true_and, and_true, and_self, eq_self, if_true, reduceIte, not_true_eq_false, not_false_eq_true, or_true, true_or, s65 hs, e3]
    rfl
  · rw [← e1]
    have := k_118_16 (f := f) (m := m) hs hp hB hf ht htl hsn hd0 h48 (n - (s + 1)) (s + 1) f (by omega) (by omega) (by omega) (fun j j1 j2 => by rw [show j = s by omega]; exact hd0) (by rw [Nat.add_sub_cancel_left, e1]; omega)
    rw [Nat.add_sub_cancel_left] at this
    exact this
/-- signs -/
theorem xidx_l {c : Int} : 0 ≤ xidx c ↔ (c = 40 ∨ c = 41 ∨ c = 44 ∨ c = 46 ∨ c = 47 ∨ c = 58 ∨ c = 43 ∨ c = 45 ∨ c = 42 ∨ c = 37 ∨ c = 61 ∨ c = 60 ∨ c = 62) := by
  unfold xidx
  cases h : [40, 41, 44, 46, 47, 58, 43, 45, 42, 37, 61, 60, 62].findIdx? (fun q : Int => decide (q = c)) with
  | none =>
    rw [List.findIdx?_eq_none_iff] at h
    simp at h
    constructor
    · intro q
      have q' : (0 : Int) ≤ -1 := q
      omega
    · intro q
      omega
  | some i =>
    obtain ⟨h1, h2, _⟩ := List.findIdx?_eq_some_iff_getElem.mp h
    have h3 := of_decide_eq_true h2
    constructor
    · intro _
      have hm := List.getElem_mem h1
      rw [h3] at hm
      simp at hm
      omega
    · intro _
      show (0 : Int) ≤ (i : Int)
      omega
theorem k_119 (hs : cSs S) (hp : cPs G) (hB : cTx G B n) (hf : 3100 < f) {s t : Nat} (ht : G 65 2 = (t : Int)) (htl : t < 3001) (hsn : s < n) : c119 f 65 (s : Int) (S, G, m) = some (((if 256 ≤ tsgn (B s) (B (s + 1)) then s + 2 else s + 1 : Nat) : Int), (S, cPut G t (tsgn (B s) (B (s + 1))) (s : Int) ((if 256 ≤ tsgn (B s) (B (s + 1)) then s + 2 else s + 1 : Nat) : Int) 0, m)) := by
  obtain ⟨b1, b2, b3, b4⟩ := hB
  have hb := b4 s hsn
  have hbr := (b3 s).1 hsn
  have ep : xwr ((s : Int) + 1) = ((s + 1 : Nat) : Int) := by rw [xwr_g _ (by omega) (by omega)]; omega
  have ep2 : xwr ((s : Int) + 2) = ((s + 2 : Nat) : Int) := by rw [xwr_g _ (by omega) (by omega)]; omega
  have e3 : ∀ (k : Int) (e : Nat), c120 f 65 k (s : Int) (e : Int) 0 (S, G, m) = some (S, cPut G t k (s : Int) (e : Int) 0, m) := fun k e => k_120 (f := f) (m := m) hs hp ht htl
  have his : cq_is 8 8 65 (S, G, m) = some () := by unfold cq_is; rw [if_pos (s65 hs)]
  -- one sign, or two
  have pair : ∀ k : Int, k ≠ -1 → c119_103 f 65 (s : Int) (B s) k (S, G, m) = some (((s + 2 : Nat) : Int), (S, cPut G t k (s : Int) ((s + 2 : Nat) : Int) 0, m)) := fun k hk => by
    unfold c119_103
    rw [if_neg hk, his, Option.bind_some, ep2, e3, Option.bind_some]
  have one : c119_102 f 65 (s : Int) (B s) (S, G, m) = some (((s + 1 : Nat) : Int), (S, cPut G t (if B s = 95 then 3 else if B s = 40 ∨ B s = 41 ∨ B s = 44 ∨ B s = 46 ∨ B s = 47 ∨ B s = 58 ∨ B s = 43 ∨ B s = 45 ∨ B s = 42 ∨ B s = 37 ∨ B s = 61 ∨ B s = 60 ∨ B s = 62 then B s else 5) (s : Int) ((s + 1 : Nat) : Int) 0, m)) := by
    have h67 : ∀ k : Int, c119_167 f (s : Int) k 65 (S, G, m) = some (((s + 1 : Nat) : Int), (S, cPut G t k (s : Int) ((s + 1 : Nat) : Int) 0, m)) := fun k => by
      unfold c119_167
      rw [his, Option.bind_some, ep, e3, Option.bind_some]
    unfold c119_102 c119_103 c119_143 c119_144
    rw [if_pos rfl]
    have e9 : xq_st 9 = some () := rfl
    have ex : xcsx 9 (B s) = some (xidx (B s)) := rfl
    rw [e9, Option.bind_some, ex, Option.bind_some]
    simp only [h67]
    by_cases c95 : B s = 95
    · rw [if_pos c95]
      have n95 : ¬ ¬ B s = 95 := fun q => q c95
      simp only [if_neg n95]
      split
      · rfl
      · split <;> rfl
    · rw [if_neg c95]
      simp only [if_pos c95]
      by_cases cl : B s = 40 ∨ B s = 41 ∨ B s = 44 ∨ B s = 46 ∨ B s = 47 ∨ B s = 58 ∨ B s = 43 ∨ B s = 45 ∨ B s = 42 ∨ B s = 37 ∨ B s = 61 ∨ B s = 60 ∨ B s = 62
      · have := xidx_l.mpr cl
        rw [if_pos cl, if_neg (by omega), if_neg (by omega), if_neg (by decide)]
      · have : ¬ 0 ≤ xidx (B s) := fun q => cl (xidx_l.mp q)
        rw [if_neg cl]
        by_cases c0 : B s ≤ 0
        · rw [if_pos c0, if_pos trivial]
        · rw [if_neg c0, if_pos (by omega), if_pos trivial]
  -- what is behind
  have main : ∀ y : Int, (y = B (s + 1) ∨ y = 0 ∧ B (s + 1) = -1) → c119_29 f 65 (s : Int) (B s) y (S, G, m) = some (((if 256 ≤ tsgn (B s) (B (s + 1)) then s + 2 else s + 1 : Nat) : Int), (S, cPut G t (tsgn (B s) (B (s + 1))) (s : Int) ((if 256 ≤ tsgn (B s) (B (s + 1)) then s + 2 else s + 1 : Nat) : Int) 0, m)) := fun y hy => by
    have y45 : y = 45 ↔ B (s + 1) = 45 := by omega
    have y61 : y = 61 ↔ B (s + 1) = 61 := by omega
    unfold c119_29 c119_48 c119_66 c119_84
    simp only [y45, y61]
    unfold tsgn
    by_cases a1 : B s = 58 ∧ B (s + 1) = 45
    · rw [if_pos a1, if_neg (fun q => q a1.1), if_neg (fun q => q a1.2), if_pos (by decide)]
      exact pair 256 (by decide)
    by_cases a2 : B s = 33 ∧ B (s + 1) = 61
    · rw [if_neg a1, if_pos a2, if_pos (by omega), if_neg (fun q => q a2.1), if_neg (fun q => q a2.2), if_pos (by decide)]
      exact pair 257 (by decide)
    by_cases a3 : B s = 60 ∧ B (s + 1) = 61
    · rw [if_neg a1, if_neg a2, if_pos a3, if_pos (by omega), if_pos (by omega), if_neg (fun q => q a3.1), if_neg (fun q => q a3.2), if_pos (by decide)]
      exact pair 258 (by decide)
    by_cases a4 : B s = 62 ∧ B (s + 1) = 61
    · rw [if_neg a1, if_neg a2, if_neg a3, if_pos a4, if_pos (by omega), if_pos (by omega), if_pos (by omega), if_neg (fun q => q a4.1), if_neg (fun q => q a4.2), if_pos (by decide)]
      exact pair 259 (by decide)
    rw [if_neg a1, if_neg a2, if_neg a3, if_neg a4]
    have hlow : ¬ (256 : Int) ≤ (if B s = 95 then 3 else if B s = 40 ∨ B s = 41 ∨ B s = 44 ∨ B s = 46 ∨ B s = 47 ∨ B s = 58 ∨ B s = 43 ∨ B s = 45 ∨ B s = 42 ∨ B s = 37 ∨ B s = 61 ∨ B s = 60 ∨ B s = 62 then B s else 5) := by
      split
      · decide
      · split
        · omega
        · decide
    rw [if_neg hlow, ← one]
    by_cases d1 : B s = 58
    · rw [if_neg (fun q => q d1), if_pos (fun q => a1 ⟨d1, q⟩), if_pos (by omega), if_pos (by omega), if_pos (by omega)]
    rw [if_pos d1]
    by_cases d2 : B s = 33
    · rw [if_neg (fun q => q d2), if_pos (fun q => a2 ⟨d2, q⟩), if_pos (by omega), if_pos (by omega)]
    rw [if_pos d2]
    by_cases d3 : B s = 60
    · rw [if_neg (fun q => q d3), if_pos (fun q => a3 ⟨d3, q⟩), if_pos (by omega)]
    rw [if_pos d3]
    by_cases d4 : B s = 62
    · rw [if_neg (fun q => q d4), if_pos (fun q => a4 ⟨d4, q⟩)]
    rw [if_pos d4]
  unfold c119
  simp (disch := omega) only [cq_gi, cq_gr, cq_a, cq_s, cq_p, cq_pr, cq_is, cq_ar, cq_ab, cq_ln, xq_nz, Option.bind_some, xup2_n, xup2_s, Int.toNat_natCast, Int.reduceToNat, if_pos, if_neg, true_and, and_true, and_self, eq_self, if_true, reduceIte, not_true_eq_false, not_false_eq_true, or_true, true_or, s65 hs, s66 hs, p65_0 hp, hb, b1, ep]
  by_cases cn : n ≤ s + 1
  · rw [if_pos (by omega)]
    exact main 0 (.inr ⟨rfl, (b3 (s + 1)).2 cn⟩)
  · rw [if_neg (by omega)]
    have hb1 := b4 (s + 1) (by omega)
    simp (disch := omega) only [cq_gi, cq_gr, cq_a, cq_s, cq_p, cq_pr, cq_is, cq_ar, cq_ab, cq_ln, xq_nz, Option.bind_some, xup2_n, xup2_s, Int.toNat_natCast, Int.reduceToNat, if_pos, if_neg, true_and, and_true, and_self, eq_self, if_true, reduceIte, not_true_eq_false, not_false_eq_true, or_true, true_or, s65 hs, s66 hs, p65_0 hp, hb1]
    exact main _ (.inl rfl)
end
