/-! FORMULAS: words, brackets, nodes of the reference -/
section
variable {f q n i : Nat} {B : Nat → Int} {lm : Bool} {G : xG_} {L : Nat → Int}
theorem rAt.isname' (hE : rEw G q B n lm) (hA : rAt q B n lm i L) : g226 f (xlx G L) = some (if kK (tstr B n lm) i = 1 then 1 else 0, xlx G L) := by
  obtain ⟨t4, tsg, tn, tv, tu, tnum, tend, tn9, tv9, tnum9, t6, t5, tlt, t3⟩ := hA.tk hE.1.2.1
  rw [l_name hE.2.2]
  have : (L 7 = -1 ∧ L 2 = 2 ∧ tres (L 9) = 1) ↔ kK (tstr B n lm) i = 1 := by
    constructor
    · rintro ⟨_, a, b⟩
      have := tn9 a
      rw [← this.2.2, ← this.1]; exact b
    · intro c3
      have k2 := tn.mpr (.inl c3)
      have k9 := tn9 k2
      exact ⟨hA.1, k2, by rw [k9.1, k9.2.2]; exact c3⟩
  simp only [this]
theorem rAt.isword' {c k : Int} (hE : rEw G q B n lm) (hA : rAt q B n lm i L) (h1 : tres c = k) (h2 : ∀ x, tres x = k → x = c) (hk : 6 ≤ k ∧ k ≤ 13) : g225 f c (xlx G L) = some (if kK (tstr B n lm) i = k then 1 else 0, xlx G L) := by
  obtain ⟨t4, tsg, tn, tv, tu, tnum, tend, tn9, tv9, tnum9, t6, t5, tlt, t3⟩ := hA.tk hE.1.2.1
  rw [l_word]
  have : (L 7 = -1 ∧ L 2 = 2 ∧ L 9 = c) ↔ kK (tstr B n lm) i = k := by
    constructor
    · rintro ⟨_, a, b⟩
      have := tn9 a
      rw [← this.2.2, ← this.1, b]; exact h1
    · intro c3
      have k2 := tn.mpr (.inr (by rw [c3]; exact hk))
      have k9 := tn9 k2
      exact ⟨hA.1, k2, by rw [k9.1]; exact h2 _ (by rw [k9.2.2]; exact c3)⟩
  simp only [this]
theorem rAt.issign' {c : Int} (hE : rEw G q B n lm) (hA : rAt q B n lm i L) (hc : isSg c) : g220 f (rsc c) (xlx G L) = some (if kK (tstr B n lm) i = c then 1 else 0, xlx G L) := by
  have := (hA.tk hE.1.2.1).2.1 c hc
  rw [l_sign]
  simp only [hA.1, true_and, this]
theorem rAt.nm' (hE : rEw G q B n lm) (hA : rAt q B n lm i L) (hK : kK (tstr B n lm) i = 1) : L 9 = kC (tstr B n lm) i ∧ L 10 = kW (tstr B n lm) i ∧ L 6 = (if 12 < kE (tstr B n lm) i - kS (tstr B n lm) i then (q : Int) + kS (tstr B n lm) i + 12 else -1) := by
  obtain ⟨t4, tsg, tn, tv, tu, tnum, tend, tn9, tv9, tnum9, t6, t5, tlt, t3⟩ := hA.tk hE.1.2.1
  have k2 := tn.mpr (.inl hK)
  refine ⟨(tn9 k2).1, (tn9 k2).2.1, ?_⟩
  rw [t6, k2]
  simp
theorem tok_len {B : Nat → Int} {n i : Nat} {lm : Bool} (hB : tTx B n) (hK : kK (tstr B n lm) i = 1 ∨ 6 ≤ kK (tstr B n lm) i ∧ kK (tstr B n lm) i ≤ 13) (hC : kC (tstr B n lm) i < 238572050223552512) : ¬ 12 < kE (tstr B n lm) i - kS (tstr B n lm) i := by
  intro h12
  have hS := tS_le hB i
  have hkd := kK_inv (lm := lm) (i := i) (B := B) (n := n) rfl (by omega)
  have hsm : tSm (B (tS B n i)) ∧ ¬ B (tS B n i) < 0 := by
    have k3 := tsgn_in (B (tS B n i)) (B (tS B n i + 1))
    unfold isSg at k3
    unfold tkd at hkd
    by_cases c1 : B (tS B n i) < 0
    · rw [if_pos c1] at hkd; omega
    rw [if_neg c1] at hkd
    by_cases c2 : tSm (B (tS B n i))
    · exact ⟨c2, c1⟩
    rw [if_neg c2] at hkd
    by_cases c3 : tGr (B (tS B n i))
    · rw [if_pos c3] at hkd; omega
    rw [if_neg c3] at hkd
    by_cases c4 : tDi (B (tS B n i))
    · rw [if_pos c4] at hkd; omega
    rw [if_neg c4] at hkd; omega
  have eE : kE (tstr B n lm) i = tnend B n (tS B n i) := by show ten B n (tS B n i) = _; unfold ten; rw [if_neg hsm.2, if_pos hsm.1]
  have eS : kS (tstr B n lm) i = tS B n i := rfl
  rw [eE, eS] at h12
  have hr := trun_is (P := tNm) hB (by decide) (n - tS B n i) (tS B n i) (Nat.le_refl _) hS.1
  have e38 := tenc_in (b := 38) (d := xdig) (B := B) (s := tS B n i) (by decide) 11 (fun j hj => tNm_dig (hr.2.2.1 _ (by omega) (by have : trun B tNm (n - tS B n i) (tS B n i) = tnend B n (tS B n i) := rfl; omega)))
  have hco : kC (tstr B n lm) i = tenc 38 xdig B (tS B n i) 12 := by
    show tco B n (tS B n i) = _
    unfold tco tncode
    rw [if_pos hsm.1, show min (tnend B n (tS B n i) - tS B n i) 12 = 12 by omega]
  have hlo : ∀ k, k ≤ 12 → 1 ≤ k → 38 ^ (k - 1) ≤ tenc 38 xdig B (tS B n i) k := by
    intro k
    induction k with
    | zero => intro _ h; omega
    | succ k ih =>
      intro hk _
      have hd := tNm_dig (hr.2.2.1 (tS B n i + k) (by omega) (by have : trun B tNm (n - tS B n i) (tS B n i) = tnend B n (tS B n i) := rfl; omega))
      rw [tenc_s]
      cases k with
      | zero => show (1 : Int) ≤ 0 * 38 + _; omega
      | succ k =>
        have := ih (by omega) (by omega)
        have e1 : (38 : Int) ^ (k + 1 + 1 - 1) = 38 ^ k * 38 := Int.pow_succ 38 k
        have e2 : (38 : Int) ^ (k + 1 - 1) = 38 ^ k := rfl
        rw [e1]
        rw [e2] at this
        omega
  have h11 := hlo 12 (by omega) (by omega)
  have e11 : (38 : Int) ^ (12 - 1) = 238572050223552512 := by decide
  rw [e11, ← hco] at h11
  omega
theorem rAt.wd' (hf : n + 20 < f) (hE : rEw G q B n lm) (hA : rAt q B n lm i L) (hK : 6 ≤ kK (tstr B n lm) i ∧ kK (tstr B n lm) i ≤ 13) : L 9 = kC (tstr B n lm) i ∧ tres (kC (tstr B n lm) i) = kK (tstr B n lm) i ∧ ∃ L', g213 f (xlx G L) = some (xlx G L') ∧ rAt q B n lm (i + 1) L' := by
  obtain ⟨t4, tsg, tn, tv, tu, tnum, tend, tn9, tv9, tnum9, t6, t5, tlt, t3⟩ := hA.tk hE.1.2.1
  have k2 := tn.mpr (.inr hK)
  have k9 := tn9 k2
  have hin := @tres_inv (kC (tstr B n lm) i)
  rw [k9.2.2] at hin
  have h12 := tok_len hE.1.2.1 (lm := lm) (i := i) (.inr hK) (by omega)
  have h6 : L 6 = -1 := by
    rw [t6, if_neg (fun q => h12 q.2), if_neg (by omega)]
  exact ⟨k9.1, k9.2.2, l_pass' hf hE hA h6 (by omega) (by omega)⟩
/-- the word if -/
theorem rAt.isif' (hE : rEw G q B n lm) (hA : rAt q B n lm i L) : g225 f (G 0 20) (xlx G L) = some (if kK (tstr B n lm) i = 1 ∧ kC (tstr B n lm) i = 348 then 1 else 0, xlx G L) := by
  obtain ⟨t4, tsg, tn, tv, tu, tnum, tend, tn9, tv9, tnum9, t6, t5, tlt, t3⟩ := hA.tk hE.1.2.1
  rw [hE.2.2.2.2.2.2.2.2.2.2, l_word]
  have : (L 7 = -1 ∧ L 2 = 2 ∧ L 9 = 348) ↔ (kK (tstr B n lm) i = 1 ∧ kC (tstr B n lm) i = 348) := by
    constructor
    · rintro ⟨_, a, b⟩
      have := tn9 a
      have e : kC (tstr B n lm) i = 348 := by rw [← this.1]; exact b
      refine ⟨?_, e⟩
      rw [← this.2.2, e]
      decide
    · rintro ⟨a, b⟩
      have k2 := tn.mpr (.inl a)
      exact ⟨hA.1, k2, by rw [(tn9 k2).1]; exact b⟩
  simp only [this]
theorem rAt.if' (hf : n + 20 < f) (hE : rEw G q B n lm) (hA : rAt q B n lm i L) (hK : kK (tstr B n lm) i = 1) (hC : kC (tstr B n lm) i = 348) : ∃ L', g213 f (xlx G L) = some (xlx G L') ∧ rAt q B n lm (i + 1) L' := by
  obtain ⟨t4, tsg, tn, tv, tu, tnum, tend, tn9, tv9, tnum9, t6, t5, tlt, t3⟩ := hA.tk hE.1.2.1
  have k2 := tn.mpr (.inl hK)
  have h12 := tok_len hE.1.2.1 (lm := lm) (i := i) (.inl hK) (by omega)
  have h6 : L 6 = -1 := by
    rw [t6, if_neg (fun q => h12 q.2), if_neg (by omega)]
  exact l_pass' hf hE hA h6 (by omega) (by omega)
/-- where the limit of TOKENS is, none is passed -/
theorem rAt.lim {k : Int} (hA : rAt q B n true i L) (hK : kK (tstr B n true) i = k) (h0 : k ≠ 0) (h5 : k ≠ 5) : i ≤ 61 := by
  have e : kK (tstr B n true) i = if 0 ≤ B (tS B n i) ∧ true = true ∧ 62 ≤ i then 5 else tkd B n (tS B n i) := rfl
  rw [e] at hK
  by_cases c : 0 ≤ B (tS B n i) ∧ true = true ∧ 62 ≤ i
  · rw [if_pos c] at hK
    exact absurd hK.symm h5
  · rw [if_neg c] at hK
    by_cases c2 : B (tS B n i) < 0
    · have : tkd B n (tS B n i) = 0 := if_pos c2
      rw [this] at hK
      exact absurd hK.symm h0
    · refine Decidable.byContradiction fun q => c ⟨by omega, rfl, by omega⟩
/-- the nodes that are read -/
def rNd (G : xG_) (N : List pNd) : Prop := G 0 89 = (N.length : Int) ∧ ∀ j, j < N.length → G 258 j = (N.getD j dNd).1 ∧ G 259 j = (N.getD j dNd).2.1 ∧ G 260 j = (N.getD j dNd).2.2.1 ∧ G 261 j = (N.getD j dNd).2.2.2.1 ∧ G 262 j = (N.getD j dNd).2.2.2.2
theorem rNd.ge {G G' : xG_} {N : List pNd} (h : rNd G N) (h0 : G' 0 89 = G 0 89) (hf : ∀ a j, 258 ≤ a → a ≤ 262 → G' a j = G a j) : rNd G' N := ⟨by rw [h0]; exact h.1, fun j hj => by
  rw [hf _ _ (by decide) (by decide), hf _ _ (by decide) (by decide), hf _ _ (by decide) (by decide), hf _ _ (by decide) (by decide), hf _ _ (by decide) (by decide)]
  exact h.2 j hj⟩
def nPut (G : xG_) (c : Nat) (a1 a2 a3 a4 a5 : Int) : xG_ := xup2 (xup2 (xup2 (xup2 (xup2 (xup2 G 258 c a1) 259 c a2) 260 c a3) 261 c a4) 262 c a5) 0 89 ((c + 1 : Nat) : Int)
theorem l_node {c : Nat} {a1 a2 a3 a4 a5 : Int} (hc : G 0 89 = (c : Int)) (hc2 : c < 140) : g331 f a1 a2 a3 a4 a5 (xlx G L) = some ((c : Int), xlx (nPut G c a1 a2 a3 a4 a5) L) := by
  have hcc : 0 ≤ (c : Int) ∧ (c : Int) < 140 := by omega
  have e1 : xwr ((c : Int) + 1) = ((c + 1 : Nat) : Int) := by rw [xwr_g _ (by omega) (by omega)]; omega
  have e2 : xwr (((c + 1 : Nat) : Int) - 1) = (c : Int) := by rw [xwr_g _ (by omega) (by omega)]; omega
  unfold g331
  simp only [xlx_o _ _ (show ¬ (0 = 0 ∧ 2 ≤ 89 ∧ 89 ≤ 10) by decide), xlx_upo _ _ _ (show ¬ (258 = 0 ∧ 2 ≤ c ∧ c ≤ 10) by omega)]
  rw [hc, if_pos hcc, Int.toNat_natCast, Option.bind_some, xlx_upo _ _ _ (by omega), xlx_o _ _ (by omega), xup2_n (by omega), hc, if_pos hcc, Option.bind_some, Int.toNat_natCast, xlx_upo _ _ _ (by omega), xlx_o _ _ (by omega), xup2_n (by omega), xup2_n (by omega), hc, if_pos hcc, Option.bind_some, Int.toNat_natCast, xlx_upo _ _ _ (by omega), xlx_o _ _ (by omega), xup2_n (by omega), xup2_n (by omega), xup2_n (by omega), hc, if_pos hcc, Option.bind_some, Int.toNat_natCast, xlx_upo _ _ _ (by omega), xlx_o _ _ (by omega), xup2_n (by omega), xup2_n (by omega), xup2_n (by omega), xup2_n (by omega), hc, if_pos hcc, Option.bind_some, Int.toNat_natCast, xlx_upo _ _ _ (by omega), xlx_o _ _ (by omega), xup2_n (by omega), xup2_n (by omega), xup2_n (by omega), xup2_n (by omega), xup2_n (by omega), hc, e1, Option.bind_some, xlx_upo _ _ _ (by omega), xlx_o _ _ (by omega), xup2_s, e2]
  rfl
theorem nPut_ff {c : Nat} {a1 a2 a3 a4 a5 : Int} : xff G (nPut G c a1 a2 a3 a4 a5) := fun a j y1 y2 => by
  unfold nPut
  rw [xup2_n (by omega), xup2_n (by omega), xup2_n (by omega), xup2_n (by omega), xup2_n (by omega), xup2_n (by omega)]
theorem rNd.put {N : List pNd} {a1 a2 a3 a4 a5 : Int} (h : rNd G N) : rNd (nPut G N.length a1 a2 a3 a4 a5) (N ++ [(a1, a2, a3, a4, a5)]) := by
  refine ⟨by rw [List.length_append]; exact xup2_s _ _ _ _, fun j hj => ?_⟩
  rw [List.length_append] at hj
  have hj' : j < N.length + 1 := hj
  rw [getD_1]
  unfold nPut
  by_cases c : j = N.length
  · rw [if_pos c, c]
    refine ⟨?_, ?_, ?_, ?_, ?_⟩
    · rw [xup2_n (by omega), xup2_n (by omega), xup2_n (by omega), xup2_n (by omega), xup2_n (by omega), xup2_s]
    · rw [xup2_n (by omega), xup2_n (by omega), xup2_n (by omega), xup2_n (by omega), xup2_s]
    · rw [xup2_n (by omega), xup2_n (by omega), xup2_n (by omega), xup2_s]
    · rw [xup2_n (by omega), xup2_n (by omega), xup2_s]
    · rw [xup2_n (by omega), xup2_s]
  · rw [if_neg c]
    have := h.2 j (by omega)
    refine ⟨?_, ?_, ?_, ?_, ?_⟩ <;> rw [xup2_n (by omega), xup2_n (by omega), xup2_n (by omega), xup2_n (by omega), xup2_n (by omega), xup2_n (by omega)]
    · exact this.1
    · exact this.2.1
    · exact this.2.2.1
    · exact this.2.2.2.1
    · exact this.2.2.2.2
/-- while a FORMULA is read -/
def rYX (G : xG_) (q : Nat) (B : Nat → Int) (n : Nat) (N : List pNd) (b : Nat) : Prop := rEw G q B n true ∧ rNd G N ∧ G 0 25 = (b : Int) ∧ b ≤ 4
theorem rYX.put {N : List pNd} {b : Nat} {a1 a2 a3 a4 a5 : Int} (h : rYX G q B n N b) : rYX (nPut G N.length a1 a2 a3 a4 a5) q B n (N ++ [(a1, a2, a3, a4, a5)]) b := by
  refine ⟨h.1.fr nPut_ff, h.2.1.put, ?_, h.2.2.2⟩
  unfold nPut
  rw [xup2_n (by omega), xup2_n (by omega), xup2_n (by omega), xup2_n (by omega), xup2_n (by omega), xup2_n (by omega)]
  exact h.2.2.1
/-- open and close while WRONG -/
theorem l_open_bad (h : L 7 ≠ -1) : ∃ v, g336 f (xlx G L) = some (xlx (xup2 G 0 25 v) L) := by
  refine ⟨xwr (G 0 25 + 1), ?_⟩
  unfold g336 g336_25
  rw [l_sign, if_neg (fun q => h q.1), Option.bind_some]
  show (if (0 : Int) = 0 then _ else _) = _
  rw [if_pos rfl]
  show Option.bind (some (xup2 (xlx G L) 0 25 (xwr ((xlx G L) 0 25 + 1)))) _ = _
  rw [xlx_o _ _ (by omega), xlx_upo _ _ _ (by omega), Option.bind_some, l_need_bad h]
  rfl
theorem l_close_bad (h : L 7 ≠ -1) : ∃ v, g337 f (xlx G L) = some (xlx (xup2 G 0 25 v) L) := by
  refine ⟨xwr (G 0 25 - 1), ?_⟩
  unfold g337
  rw [xlx_o _ _ (by omega), xlx_upo _ _ _ (by omega), Option.bind_some, l_need_bad h]
  rfl
theorem rYX.b {N : List pNd} {b b' : Nat} (h : rYX G q B n N b) (hb : b' ≤ 4) : rYX (xup2 G 0 25 (b' : Int)) q B n N b' := ⟨h.1.u (.inr rfl), h.2.1.ge (xup2_n (by omega)) (fun a j _ _ => xup2_n (by omega)), xup2_s _ _ _ _, hb⟩
theorem l_open {N : List pNd} {b : Nat} (hf : n + 20 < f) (hX : rYX G q B n N b) (hA : rAt q B n true i L) :
    pok (pOpen (tstr B n true) b i) (fun w => ∃ v L', g336 f (xlx G L) = some (xlx (xup2 G 0 25 v) L') ∧ L' 7 = (q : Int) + w)
      (fun j => ∃ L', g336 f (xlx G L) = some (xlx (xup2 G 0 25 ((b + 1 : Nat) : Int)) L') ∧ rAt q B n true j L' ∧ j = i + 1 ∧ b < 4 ∧ kK (tstr B n true) i = 40) := by
  obtain ⟨hE, hN, h25, hb⟩ := hX
  have t4 := (hA.tk hE.1.2.1).1
  have h40 : isSg 40 := by unfold isSg; omega
  have hs := hA.issign' (f := f) hE h40
  have hs' : g220 f 40 (xlx G L) = _ := hs
  have eb : xwr ((b : Int) + 1) = ((b + 1 : Nat) : Int) := by rw [xwr_g _ (by omega) (by omega)]; omega
  unfold pOpen
  by_cases c1 : kK (tstr B n true) i = 40
  · by_cases c2 : b = 4
    · rw [if_neg (fun q => q.2 c2)]
      have hbad : xu L 7 (L 4) 7 ≠ -1 := by show L 4 ≠ -1; omega
      refine ⟨((b + 1 : Nat) : Int), xu L 7 (L 4), ?_, t4⟩
      have n4 : ¬ ¬ (b : Int) = 4 := fun q => q (by omega)
      have n1 : ¬ (1 : Int) = 0 := by decide
      unfold g336
      rw [hs', if_pos c1, Option.bind_some]
      simp only [if_neg n1, xlx_o _ _ (show ¬ (0 = 0 ∧ 2 ≤ 25 ∧ 25 ≤ 10) by decide), h25, if_neg n4, xlx_4, l_fail, if_pos hA.1, Option.bind_some]
      unfold g336_25
      rw [xlx_o _ _ (by omega), h25, eb, xlx_upo _ _ _ (by omega), Option.bind_some, l_need_bad hbad]
      rfl
    · rw [if_pos ⟨c1, c2⟩]
      obtain ⟨L', d1, d2⟩ := l_need' hf (hE.u (k := 25) (v := ((b + 1 : Nat) : Int)) (.inr rfl)) hA h40 c1
      have d1' : g222 f 40 (xlx (xup2 G 0 25 ((b + 1 : Nat) : Int)) L) = _ := d1
      refine ⟨L', ?_, d2, rfl, by omega, c1⟩
      have n4 : ¬ (b : Int) = 4 := by omega
      have n1 : ¬ (1 : Int) = 0 := by decide
      unfold g336
      rw [hs', if_pos c1, Option.bind_some]
      simp only [if_neg n1, xlx_o _ _ (show ¬ (0 = 0 ∧ 2 ≤ 25 ∧ 25 ≤ 10) by decide), h25, if_pos n4]
      unfold g336_25
      rw [xlx_o _ _ (by omega), h25, eb, xlx_upo _ _ _ (by omega), Option.bind_some, d1']
      rfl
  · rw [if_neg (fun q => c1 q.1)]
    have d1 := l_need_no' (f := f) (hE.u (k := 25) (v := ((b + 1 : Nat) : Int)) (.inr rfl)) hA h40 c1
    have d1' : g222 f 40 (xlx (xup2 G 0 25 ((b + 1 : Nat) : Int)) L) = _ := d1
    have hx7 : xu L 7 ((q : Int) + kS (tstr B n true) i) 7 = (q : Int) + kS (tstr B n true) i := if_pos rfl
    refine ⟨((b + 1 : Nat) : Int), xu L 7 ((q : Int) + kS (tstr B n true) i), ?_, hx7⟩
    unfold g336
    rw [hs', if_neg c1, Option.bind_some]
    simp only [if_true]
    unfold g336_25
    rw [xlx_o _ _ (by omega), h25, eb, xlx_upo _ _ _ (by omega), Option.bind_some, d1']
    rfl
theorem l_close {b : Nat} (hf : n + 20 < f) (hE : rEw G q B n true) (h25 : G 0 25 = ((b + 1 : Nat) : Int)) (hb : b ≤ 4) (hA : rAt q B n true i L) :
    pok (pNeed (tstr B n true) 41 i) (fun w => ∃ v L', g337 f (xlx G L) = some (xlx (xup2 G 0 25 v) L') ∧ L' 7 = (q : Int) + w)
      (fun j => ∃ L', g337 f (xlx G L) = some (xlx (xup2 G 0 25 (b : Int)) L') ∧ rAt q B n true j L' ∧ j = i + 1 ∧ kK (tstr B n true) i = 41) := by
  have h41 : isSg 41 := by unfold isSg; omega
  have eb : xwr (((b + 1 : Nat) : Int) - 1) = (b : Int) := by rw [xwr_g _ (by omega) (by omega)]; omega
  have e0 : g337 f (xlx G L) = (g222 f 41 (xlx (xup2 G 0 25 (b : Int)) L)).bind fun R105 => some R105 := by
    unfold g337
    rw [xlx_o _ _ (by omega), h25, eb, xlx_upo _ _ _ (by omega), Option.bind_some]
  unfold pNeed
  by_cases c : kK (tstr B n true) i = 41
  · rw [if_pos c]
    obtain ⟨L', d1, d2⟩ := l_need' hf (hE.u (k := 25) (v := (b : Int)) (.inr rfl)) hA h41 c
    have d1' : g222 f 41 (xlx (xup2 G 0 25 (b : Int)) L) = _ := d1
    exact ⟨L', by rw [e0, d1']; rfl, d2, rfl, c⟩
  · rw [if_neg c]
    have d1 := l_need_no' (f := f) (hE.u (k := 25) (v := (b : Int)) (.inr rfl)) hA h41 c
    have d1' : g222 f 41 (xlx (xup2 G 0 25 (b : Int)) L) = _ := d1
    exact ⟨(b : Int), _, by rw [e0, d1']; rfl, rfl⟩
end
