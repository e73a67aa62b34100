/-! The reference reads FORMULAS: signs between operands; all of it -/
section
variable {f q n b : Nat} {B : Nat → Int} {e : xG_ → Option (Int × xG_)}
theorem l_sloop_bad {fu : Nat} (hfu : 0 < fu) {x1 : Int} (G : xG_) (L : Nat → Int) (h : L 7 ≠ -1) : g335_5 e f fu x1 (xlx G L) = some (x1, xlx G L) := by
  obtain ⟨fu, rfl⟩ : ∃ t, fu = t + 1 := ⟨fu - 1, by omega⟩
  show g335_5b e (g335_5 e f fu) f x1 (xlx G L) = _
  unfold g335_5b
  rw [l_isOf_bad h (by omega), Option.bind_some]
  rfl
theorem l_wloop_bad {fu : Nat} (hfu : 0 < fu) {x1 : Int} (G : xG_) (L : Nat → Int) (h : L 7 ≠ -1) : g334_5 e f fu x1 (xlx G L) = some (x1, xlx G L) := by
  obtain ⟨fu, rfl⟩ : ∃ t, fu = t + 1 := ⟨fu - 1, by omega⟩
  show g334_5b e (g334_5 e f fu) f x1 (xlx G L) = _
  unfold g334_5b
  rw [l_isOf_bad h (by omega), Option.bind_some]
  rfl
theorem l_strong_bad (hf : 0 < f) : rYB (g335 e f) := by
  intro G L h
  unfold g335
  rw [l_oper_bad G L h, Option.bind_some]
  exact l_sloop_bad hf G L h
theorem l_form_bad (hf : 0 < f) : rYB (g334b e f) := by
  intro G L h
  unfold g334b
  rw [l_strong_bad hf G L h, Option.bind_some]
  exact l_wloop_bad hf G L h
/-- strong signs -/
theorem l_sloop (hf : n + 70 < f) (hP : rYP q B n 0 b (g338 e f)) : ∀ (d fu F : Nat) (G : xG_) (L : Nat → Int) (N : List pNd) (x : Int) (i : Nat), 63 - i ≤ d → d < fu → 4 * (63 - i) + 1 ≤ F → rYX G q B n N b → rAt q B n true i L → i ≤ 62 → N.length ≤ i → wFm N → 0 ≤ x → x < N.length →
    pok (pF (tstr B n true) F 3 b (N, x, i)) (rYW q i N G (g335_5 e f fu x (xlx G L))) (rYS q B n b G (g335_5 e f fu x (xlx G L))) := by
  intro d
  induction d with
  | zero => intro fu F G L N x i h1 h2 hF hX hA hi; omega
  | succ d ih =>
    intro fu F G L N x i h1 h2 hF hX hA hi hNi hw hx0 hx1
    obtain ⟨fu, rfl⟩ : ∃ t, fu = t + 1 := ⟨fu - 1, by omega⟩
    obtain ⟨F, rfl⟩ : ∃ t, F = t + 1 := ⟨F - 1, by omega⟩
    have hE := hX.1
    have hB := hE.1.2.1
    have i1 : ¬ (1 : Int) = 0 := by decide
    rw [pF_3]
    simp only
    by_cases c : kK (tstr B n true) i = 42 ∨ kK (tstr B n true) i = 47 ∨ kK (tstr B n true) i = 37
    · rw [if_pos c]
      have hi61 := hA.lim rfl (by omega) (by omega)
      obtain ⟨s3, L1, s1, s2⟩ := hA.sg' (f := f) (by omega) hE rfl (by unfold isSg; omega)
      have h3' : L 3 = kK (tstr B n true) i := by rw [s3]; unfold rsc; rw [if_neg (by omega)]
      have e0 : g335_5 e f (fu + 1) x (xlx G L) = (g338 e f (xlx G L1)).bind fun R112 => (fun v G => (g331 f 3 x v (kK (tstr B n true) i) 0 G).bind fun R117 => g335_5 e f fu R117.1 R117.2) R112.1 R112.2 := by
        show g335_5b e (g335_5 e f fu) f x (xlx G L) = _
        unfold g335_5b
        rw [l_strong hB hA, if_pos c, Option.bind_some]
        simp only [if_neg i1]
        rw [s1, Option.bind_some, xlx_3, h3']
      have h4 := hP F G L1 N (i + 1) (by rw [if_neg (by decide), if_neg (by decide)]; omega) hX s2 (by omega) (by omega) hw
      rw [e0]
      cases hp : pF (tstr B n true) F 0 b (N, 0, i + 1) with
      | inl w =>
        rw [hp] at h4
        refine h4.cont (k := fun v G => (g331 f 3 x v (kK (tstr B n true) i) 0 G).bind fun R117 => g335_5 e f fu R117.1 R117.2) (.rf G) (by omega) (by omega) (by omega) (fun v G' L' c h7 h89 hc => ?_)
        obtain ⟨G2, k1, k2, k3⟩ := l_node_bad (f := f) (L := L') (a1 := 3) (a2 := x) (a3 := v) (a4 := kK (tstr B n true) i) (a5 := 0) h89 hc
        refine ⟨(c : Int), G2, ?_, k2, k3⟩
        show Option.bind (g331 f 3 x v (kK (tstr B n true) i) 0 (xlx G' L')) _ = _
        rw [k1, Option.bind_some]
        exact l_sloop_bad (by omega) G2 L' h7
      | inr y =>
        rw [hp] at h4
        obtain ⟨G2, L2, y1, y2, y3, y4, y5⟩ := h4
        obtain ⟨p1, p2, p3, p4, p5, p6, p7⟩ := pF_le (tstr_ck hB) F 0 b _ y (by decide) hp hw (fun q => absurd q (by decide))
        simp only at p1 p2 p3 p4
        have h5 := ih fu F (nPut G2 y.1.length 3 x y.2.1 (kK (tstr B n true) i) 0) L2 (y.1 ++ [(3, x, y.2.1, kK (tstr B n true) i, 0)]) (y.1.length : Int) y.2.2 (by omega) (by omega) (by omega) y4.put y2 y5 (by rw [List.length_append, List.length_singleton]; omega) (p5.put (.inr (.inr (.inl ⟨rfl, ⟨hx0, by show x < _; omega⟩, ⟨p6, p7⟩, by simp only; omega⟩)))) (by omega) (by rw [List.length_append, List.length_singleton]; omega)
        have e1 : (g338 e f (xlx G L1)).bind (fun R112 => (fun v G => (g331 f 3 x v (kK (tstr B n true) i) 0 G).bind fun R117 => g335_5 e f fu R117.1 R117.2) R112.1 R112.2) = g335_5 e f fu (y.1.length : Int) (xlx (nPut G2 y.1.length 3 x y.2.1 (kK (tstr B n true) i) 0) L2) := by
          rw [y1, Option.bind_some]
          show Option.bind (g331 f 3 x y.2.1 (kK (tstr B n true) i) 0 (xlx G2 L2)) _ = _
          rw [l_node y4.2.1.1 (by omega)]
          rfl
        rw [e1]
        show pok (pF (tstr B n true) F 3 b (y.1 ++ [(3, x, y.2.1, kK (tstr B n true) i, 0)], (y.1.length : Int), y.2.2)) _ _
        cases hp2 : pF (tstr B n true) F 3 b (y.1 ++ [(3, x, y.2.1, kK (tstr B n true) i, 0)], (y.1.length : Int), y.2.2) with
        | inl w =>
          rw [hp2] at h5
          exact h5.fr (y3.tr nPut_ff) (by omega) (by rw [List.length_append, List.length_singleton]; omega)
        | inr z =>
          rw [hp2] at h5
          exact h5.fr (y3.tr nPut_ff)
    · rw [if_neg c]
      refine ⟨G, L, ?_, hA, .rf G, hX, hi⟩
      show g335_5b e (g335_5 e f fu) f x (xlx G L) = _
      unfold g335_5b
      rw [l_strong hB hA, if_neg c, Option.bind_some]
      rfl
theorem l_strongs (hf : n + 70 < f) (hP : rYP q B n 0 b (g338 e f)) : rYP q B n 2 b (g335 e f) := by
  intro F G L N i hF hX hA hi hNi hw
  rw [if_neg (by decide), if_pos rfl] at hF
  obtain ⟨F, rfl⟩ : ∃ t, F = t + 1 := ⟨F - 1, by omega⟩
  have hB := hX.1.1.2.1
  rw [pF_2]
  have h1 := hP F G L N i (by rw [if_neg (by decide), if_neg (by decide)]; omega) hX hA hi hNi hw
  cases hp : pF (tstr B n true) F 0 b (N, 0, i) with
  | inl w =>
    rw [hp] at h1
    obtain ⟨v, G', L', a1, a2, a3, a4⟩ := h1
    refine ⟨v, G', L', ?_, a2, a3, a4⟩
    unfold g335
    rw [a1, Option.bind_some]
    exact l_sloop_bad (by omega) G' L' (by omega)
  | inr y =>
    rw [hp] at h1
    obtain ⟨G2, L2, y1, y2, y3, y4, y5⟩ := h1
    obtain ⟨p1, p2, p3, p4, p5, p6, p7⟩ := pF_le (tstr_ck hB) F 0 b _ y (by decide) hp hw (fun q => absurd q (by decide))
    simp only at p1 p2 p3 p4
    have h5 := l_sloop (f := f) hf hP 63 f F G2 L2 y.1 y.2.1 y.2.2 (by omega) (by omega) (by omega) y4 y2 y5 (by omega) p5 p6 p7
    have e1 : g335 e f (xlx G L) = g335_5 e f f y.2.1 (xlx G2 L2) := by
      unfold g335
      rw [y1, Option.bind_some]
    rw [e1]
    show pok (pF (tstr B n true) F 3 b (y.1, y.2.1, y.2.2)) _ _
    cases hp2 : pF (tstr B n true) F 3 b (y.1, y.2.1, y.2.2) with
    | inl w =>
      rw [hp2] at h5
      exact h5.fr y3 (by omega) (by omega)
    | inr z =>
      rw [hp2] at h5
      exact h5.fr y3
/-- weak signs -/
theorem l_wloop (hf : n + 70 < f) (hP : rYP q B n 2 b (g335 e f)) : ∀ (d fu F : Nat) (G : xG_) (L : Nat → Int) (N : List pNd) (x : Int) (i : Nat), 63 - i ≤ d → d < fu → 4 * (63 - i) + 1 ≤ F → rYX G q B n N b → rAt q B n true i L → i ≤ 62 → N.length ≤ i → wFm N → 0 ≤ x → x < N.length →
    pok (pF (tstr B n true) F 4 b (N, x, i)) (rYW q i N G (g334_5 e f fu x (xlx G L))) (rYS q B n b G (g334_5 e f fu x (xlx G L))) := by
  intro d
  induction d with
  | zero => intro fu F G L N x i h1 h2 hF hX hA hi; omega
  | succ d ih =>
    intro fu F G L N x i h1 h2 hF hX hA hi hNi hw hx0 hx1
    obtain ⟨fu, rfl⟩ : ∃ t, fu = t + 1 := ⟨fu - 1, by omega⟩
    obtain ⟨F, rfl⟩ : ∃ t, F = t + 1 := ⟨F - 1, by omega⟩
    have hE := hX.1
    have hB := hE.1.2.1
    have i1 : ¬ (1 : Int) = 0 := by decide
    rw [pF_4]
    simp only
    by_cases c : kK (tstr B n true) i = 43 ∨ kK (tstr B n true) i = 45
    · rw [if_pos c]
      have hi61 := hA.lim rfl (by omega) (by omega)
      obtain ⟨s3, L1, s1, s2⟩ := hA.sg' (f := f) (by omega) hE rfl (by unfold isSg; omega)
      have h3' : L 3 = kK (tstr B n true) i := by rw [s3]; unfold rsc; rw [if_neg (by omega)]
      have e0 : g334_5 e f (fu + 1) x (xlx G L) = (g335 e f (xlx G L1)).bind fun R112 => (fun v G => (g331 f 3 x v (kK (tstr B n true) i) 0 G).bind fun R117 => g334_5 e f fu R117.1 R117.2) R112.1 R112.2 := by
        show g334_5b e (g334_5 e f fu) f x (xlx G L) = _
        unfold g334_5b
        rw [l_weak hB hA, if_pos c, Option.bind_some]
        simp only [if_neg i1]
        rw [s1, Option.bind_some, xlx_3, h3']
      have h4 := hP F G L1 N (i + 1) (by rw [if_neg (by decide), if_pos rfl]; omega) hX s2 (by omega) (by omega) hw
      rw [e0]
      cases hp : pF (tstr B n true) F 2 b (N, 0, i + 1) with
      | inl w =>
        rw [hp] at h4
        refine h4.cont (k := fun v G => (g331 f 3 x v (kK (tstr B n true) i) 0 G).bind fun R117 => g334_5 e f fu R117.1 R117.2) (.rf G) (by omega) (by omega) (by omega) (fun v G' L' c h7 h89 hc => ?_)
        obtain ⟨G2, k1, k2, k3⟩ := l_node_bad (f := f) (L := L') (a1 := 3) (a2 := x) (a3 := v) (a4 := kK (tstr B n true) i) (a5 := 0) h89 hc
        refine ⟨(c : Int), G2, ?_, k2, k3⟩
        show Option.bind (g331 f 3 x v (kK (tstr B n true) i) 0 (xlx G' L')) _ = _
        rw [k1, Option.bind_some]
        exact l_wloop_bad (by omega) G2 L' h7
      | inr y =>
        rw [hp] at h4
        obtain ⟨G2, L2, y1, y2, y3, y4, y5⟩ := h4
        obtain ⟨p1, p2, p3, p4, p5, p6, p7⟩ := pF_le (tstr_ck hB) F 2 b _ y (by decide) hp hw (fun q => absurd q (by decide))
        simp only at p1 p2 p3 p4
        have h5 := ih fu F (nPut G2 y.1.length 3 x y.2.1 (kK (tstr B n true) i) 0) L2 (y.1 ++ [(3, x, y.2.1, kK (tstr B n true) i, 0)]) (y.1.length : Int) y.2.2 (by omega) (by omega) (by omega) y4.put y2 y5 (by rw [List.length_append, List.length_singleton]; omega) (p5.put (.inr (.inr (.inl ⟨rfl, ⟨hx0, by show x < _; omega⟩, ⟨p6, p7⟩, by simp only; omega⟩)))) (by omega) (by rw [List.length_append, List.length_singleton]; omega)
        have e1 : (g335 e f (xlx G L1)).bind (fun R112 => (fun v G => (g331 f 3 x v (kK (tstr B n true) i) 0 G).bind fun R117 => g334_5 e f fu R117.1 R117.2) R112.1 R112.2) = g334_5 e f fu (y.1.length : Int) (xlx (nPut G2 y.1.length 3 x y.2.1 (kK (tstr B n true) i) 0) L2) := by
          rw [y1, Option.bind_some]
          show Option.bind (g331 f 3 x y.2.1 (kK (tstr B n true) i) 0 (xlx G2 L2)) _ = _
          rw [l_node y4.2.1.1 (by omega)]
          rfl
        rw [e1]
        show pok (pF (tstr B n true) F 4 b (y.1 ++ [(3, x, y.2.1, kK (tstr B n true) i, 0)], (y.1.length : Int), y.2.2)) _ _
        cases hp2 : pF (tstr B n true) F 4 b (y.1 ++ [(3, x, y.2.1, kK (tstr B n true) i, 0)], (y.1.length : Int), y.2.2) with
        | inl w =>
          rw [hp2] at h5
          exact h5.fr (y3.tr nPut_ff) (by omega) (by rw [List.length_append, List.length_singleton]; omega)
        | inr z =>
          rw [hp2] at h5
          exact h5.fr (y3.tr nPut_ff)
    · rw [if_neg c]
      refine ⟨G, L, ?_, hA, .rf G, hX, hi⟩
      show g334_5b e (g334_5 e f fu) f x (xlx G L) = _
      unfold g334_5b
      rw [l_weak hB hA, if_neg c, Option.bind_some]
      rfl
theorem l_forms (hf : n + 70 < f) (hP : rYP q B n 2 b (g335 e f)) : rYP q B n 1 b (g334b e f) := by
  intro F G L N i hF hX hA hi hNi hw
  rw [if_pos rfl] at hF
  obtain ⟨F, rfl⟩ : ∃ t, F = t + 1 := ⟨F - 1, by omega⟩
  have hB := hX.1.1.2.1
  rw [pF_1]
  have h1 := hP F G L N i (by rw [if_neg (by decide), if_pos rfl]; omega) hX hA hi hNi hw
  cases hp : pF (tstr B n true) F 2 b (N, 0, i) with
  | inl w =>
    rw [hp] at h1
    obtain ⟨v, G', L', a1, a2, a3, a4⟩ := h1
    refine ⟨v, G', L', ?_, a2, a3, a4⟩
    unfold g334b
    rw [a1, Option.bind_some]
    exact l_wloop_bad (by omega) G' L' (by omega)
  | inr y =>
    rw [hp] at h1
    obtain ⟨G2, L2, y1, y2, y3, y4, y5⟩ := h1
    obtain ⟨p1, p2, p3, p4, p5, p6, p7⟩ := pF_le (tstr_ck hB) F 2 b _ y (by decide) hp hw (fun q => absurd q (by decide))
    simp only at p1 p2 p3 p4
    have h5 := l_wloop (f := f) hf hP 63 f F G2 L2 y.1 y.2.1 y.2.2 (by omega) (by omega) (by omega) y4 y2 y5 (by omega) p5 p6 p7
    have e1 : g334b e f (xlx G L) = g334_5 e f f y.2.1 (xlx G2 L2) := by
      unfold g334b
      rw [y1, Option.bind_some]
    rw [e1]
    show pok (pF (tstr B n true) F 4 b (y.1, y.2.1, y.2.2)) _ _
    cases hp2 : pF (tstr B n true) F 4 b (y.1, y.2.1, y.2.2) with
    | inl w =>
      rw [hp2] at h5
      exact h5.fr y3 (by omega) (by omega)
    | inr z =>
      rw [hp2] at h5
      exact h5.fr y3
/-- a FORMULA, up to what can't belong to it -/
theorem l_form (hf : n + 70 < f) : ∀ (d b : Nat), b ≤ 4 → 5 ≤ b + d → rYP q B n 1 b (g334r f (d + 1)) := by
  have hbd : ∀ d, rYB (g334r f (d + 1)) := fun d G L h => l_form_bad (by omega) G L h
  intro d
  induction d with
  | zero =>
    intro b hb hd
    omega
  | succ d ih =>
    intro b hb hd
    exact l_forms hf (l_strongs hf (l_oper (by omega) (hbd d) (fun h => ih (b + 1) (by omega) (by omega))))
end
