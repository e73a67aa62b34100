/-! The reference reads FORMULAS: if; operands; signs; all of it -/
section
variable {f q n i b : Nat} {B : Nat → Int} {G : xG_} {L : Nat → Int} {N : List pNd} {e : xG_ → Option (Int × xG_)}
/-- what stands behind the parts of an if -/
def gIf4 (f : Nat) (x y z : Int) (G : xG_) : Option (Int × xG_) := (g337 f G).bind fun R136 => ((g331 f 10 x y z 0 R136).bind fun R141 => some (R141.1, R141.2))
def gIf3 (e : xG_ → Option (Int × xG_)) (f : Nat) (x y : Int) (G : xG_) : Option (Int × xG_) := (g222 f 44 G).bind fun R126 => ((e R126).bind fun R131 => gIf4 f x y R131.1 R131.2)
def gIf2 (e : xG_ → Option (Int × xG_)) (f : Nat) (x : Int) (G : xG_) : Option (Int × xG_) := (g222 f 44 G).bind fun R116 => ((e R116).bind fun R121 => gIf3 e f x R121.1 R121.2)
def gIf1 (e : xG_ → Option (Int × xG_)) (f : Nat) (G : xG_) : Option (Int × xG_) := (e G).bind fun R111 => gIf2 e f R111.1 R111.2
theorem gIf_e : g339 e f G = (g213 f G).bind fun R101 => ((g336 f R101).bind fun R106 => gIf1 e f R106) := rfl
theorem gIf4_bad {c : Nat} {x y z : Int} (h : L 7 ≠ -1) (hc : G 0 89 = (c : Int)) (hc2 : c < 140) : ∃ v G', gIf4 f x y z (xlx G L) = some (v, xlx G' L) ∧ xff G G' ∧ G' 0 89 = ((c + 1 : Nat) : Int) := by
  obtain ⟨v, e1⟩ := l_close_bad (f := f) (G := G) h
  have hc' : xup2 G 0 25 v 0 89 = (c : Int) := by rw [xup2_n (by omega)]; exact hc
  obtain ⟨G', k1, k2, k3⟩ := l_node_bad (f := f) (L := L) (a1 := 10) (a2 := x) (a3 := y) (a4 := z) (a5 := 0) hc' hc2
  refine ⟨(c : Int), G', ?_, xff.u25.tr k2, k3⟩
  unfold gIf4
  rw [e1, Option.bind_some, k1]
  rfl
theorem gIf3_bad {c : Nat} {x y : Int} (hq : rYB e) (h : L 7 ≠ -1) (hc : G 0 89 = (c : Int)) (hc2 : c < 140) : ∃ v G', gIf3 e f x y (xlx G L) = some (v, xlx G' L) ∧ xff G G' ∧ G' 0 89 = ((c + 1 : Nat) : Int) := by
  obtain ⟨v, G', k⟩ := gIf4_bad (f := f) (x := x) (y := y) (z := 0) h hc hc2
  refine ⟨v, G', ?_, k.2⟩
  unfold gIf3
  rw [l_need_bad h, Option.bind_some, hq G L h, Option.bind_some]
  exact k.1
theorem gIf2_bad {c : Nat} {x : Int} (hq : rYB e) (h : L 7 ≠ -1) (hc : G 0 89 = (c : Int)) (hc2 : c < 140) : ∃ v G', gIf2 e f x (xlx G L) = some (v, xlx G' L) ∧ xff G G' ∧ G' 0 89 = ((c + 1 : Nat) : Int) := by
  obtain ⟨v, G', k⟩ := gIf3_bad (f := f) (x := x) (y := 0) hq h hc hc2
  refine ⟨v, G', ?_, k.2⟩
  unfold gIf2
  rw [l_need_bad h, Option.bind_some, hq G L h, Option.bind_some]
  exact k.1
theorem gIf1_bad {c : Nat} (hq : rYB e) (h : L 7 ≠ -1) (hc : G 0 89 = (c : Int)) (hc2 : c < 140) : ∃ v G', gIf1 e f (xlx G L) = some (v, xlx G' L) ∧ xff G G' ∧ G' 0 89 = ((c + 1 : Nat) : Int) := by
  obtain ⟨v, G', k⟩ := gIf2_bad (f := f) (x := 0) hq h hc hc2
  refine ⟨v, G', ?_, k.2⟩
  unfold gIf1
  rw [hq G L h, Option.bind_some]
  exact k.1
/-- a WRONG that an if passes on -/
theorem rYW.cont {q i i' w : Nat} {N N' : List pNd} {G G1 : xG_} {r : Option (Int × xG_)} {k : Int → xG_ → Option (Int × xG_)} (h : rYW q i' N' G1 r w) (hf : xff G G1) (hi : i < i') (hN : N'.length + i < N.length + i') (hN2 : N'.length ≤ i') (hk : ∀ (v : Int) (G' : xG_) (L' : Nat → Int) (c : Nat), L' 7 ≠ -1 → G' 0 89 = (c : Int) → c < 140 → ∃ v' G2, k v (xlx G' L') = some (v', xlx G2 L') ∧ xff G' G2 ∧ G2 0 89 = ((c + 1 : Nat) : Int)) : rYW q i N G (r.bind fun R => k R.1 R.2) w := by
  obtain ⟨v, G', L', a1, a2, a3, k', c, a4, a5, a6, a7⟩ := h
  obtain ⟨v', G2, b1, b2, b3⟩ := hk v G' L' c (by omega) a6 (by omega)
  refine ⟨v', G2, L', ?_, a2, (hf.tr a3).tr b2, k', c + 1, by omega, a5, b3, by omega⟩
  rw [a1, Option.bind_some]
  exact b1
theorem gIf4_ok {x y z : Int} (hf : n + 20 < f) (hX : rYX G q B n N (b + 1)) (hA : rAt q B n true i L) (hi : i ≤ 62) (hNi : N.length ≤ i) :
    pok (pbind (pNeed (tstr B n true) 41 i) fun j => (.inr (N ++ [(10, x, y, z, 0)], (N.length : Int), j) : Nat ⊕ pFm)) (rYW q i N G (gIf4 f x y z (xlx G L))) (rYS q B n b G (gIf4 f x y z (xlx G L))) := by
  obtain ⟨hE, hN, h25, hb⟩ := hX
  have h1 := l_close hf hE h25 (by omega) hA
  cases hp : pNeed (tstr B n true) 41 i with
  | inl w =>
    rw [hp] at h1
    obtain ⟨v, L1, e1, e2⟩ := h1
    have hc' : xup2 G 0 25 v 0 89 = (N.length : Int) := by rw [xup2_n (by omega)]; exact hN.1
    obtain ⟨G', k1, k2, k3⟩ := l_node_bad (f := f) (L := L1) (a1 := 10) (a2 := x) (a3 := y) (a4 := z) (a5 := 0) hc' (by omega)
    refine ⟨(N.length : Int), G', L1, ?_, e2, xff.u25.tr k2, i, N.length + 1, Nat.le_refl _, hi, k3, by omega⟩
    unfold gIf4
    rw [e1, Option.bind_some, k1]
    rfl
  | inr j =>
    rw [hp] at h1
    obtain ⟨L1, e1, e2, e3, e4⟩ := h1
    have hX1 : rYX (xup2 G 0 25 (b : Int)) q B n N b := ⟨hE.u (.inr rfl), hN.ge (xup2_n (by omega)) (fun a j _ _ => xup2_n (by omega)), xup2_s _ _ _ _, by omega⟩
    refine ⟨nPut (xup2 G 0 25 (b : Int)) N.length 10 x y z 0, L1, ?_, e2, xff.u25.tr nPut_ff, hX1.put, by have := hA.lim e4 (by decide) (by decide); show j ≤ 62; omega⟩
    unfold gIf4
    rw [e1, Option.bind_some, l_node hX1.2.1.1 (by omega)]
    rfl
theorem gIf3_ok {F : Nat} {x y : Int} (hf : n + 20 < f) (hq : rYB e) (hQ : rYP q B n 1 (b + 1) e) (hX : rYX G q B n N (b + 1)) (hA : rAt q B n true i L) (hi : i ≤ 62) (hNi : N.length ≤ i) (hw : wFm N) (hF : 4 * (63 - (i + 1)) + 3 ≤ F) :
    pok (pbind (pNeed (tstr B n true) 44 i) fun i => pbind (pF (tstr B n true) F 1 (b + 1) (N, 0, i)) fun z => pbind (pNeed (tstr B n true) 41 z.2.2) fun j => (.inr (z.1 ++ [(10, x, y, z.2.1, 0)], (z.1.length : Int), j) : Nat ⊕ pFm)) (rYW q i N G (gIf3 e f x y (xlx G L))) (rYS q B n b G (gIf3 e f x y (xlx G L))) := by
  have hE := hX.1
  have h44 : isSg 44 := by unfold isSg; omega
  unfold pNeed
  by_cases c : kK (tstr B n true) i = 44
  · obtain ⟨L1, s1, s2⟩ := l_need' hf hE hA h44 c
    have s1' : g222 f 44 (xlx G L) = _ := s1
    have hi2 := hA.lim c (by decide) (by decide)
    have h1 := hQ F G L1 N (i + 1) (by rw [if_pos rfl]; exact hF) hX s2 (by omega) (by omega) hw
    have e0 : gIf3 e f x y (xlx G L) = (e (xlx G L1)).bind fun R131 => gIf4 f x y R131.1 R131.2 := by
      unfold gIf3
      rw [s1', Option.bind_some]
    rw [if_pos c, e0]
    show pok (pbind (pF (tstr B n true) F 1 (b + 1) (N, 0, i + 1)) _) _ _
    cases hp : pF (tstr B n true) F 1 (b + 1) (N, 0, i + 1) with
    | inl w =>
      rw [hp] at h1
      exact h1.cont (k := fun v G => gIf4 f x y v G) (.rf G) (by omega) (by omega) (by omega) (fun v G' L' c h7 h89 hc => gIf4_bad h7 h89 hc)
    | inr z =>
      rw [hp] at h1
      obtain ⟨G2, L2, u1, u2, u3, u4, hz⟩ := h1
      obtain ⟨p1, p2, p3, p4, p5, p6⟩ := pF_le (tstr_ck hE.1.2.1) F 1 (b + 1) _ z (by decide) hp hw (fun q => absurd q (by decide))
      simp only at p1 p2 p3 p4
      have h2 := gIf4_ok (x := x) (y := y) (z := z.2.1) hf u4 u2 hz (by omega)
      rw [u1, Option.bind_some]
      show pok (pbind (pNeed (tstr B n true) 41 z.2.2) fun j => (.inr (z.1 ++ [(10, x, y, z.2.1, 0)], (z.1.length : Int), j) : Nat ⊕ pFm)) _ _
      cases hp2 : (pbind (pNeed (tstr B n true) 41 z.2.2) fun j => (.inr (z.1 ++ [(10, x, y, z.2.1, 0)], (z.1.length : Int), j) : Nat ⊕ pFm)) with
      | inl w =>
        rw [hp2] at h2
        exact h2.fr u3 (by omega) (by omega)
      | inr r =>
        rw [hp2] at h2
        exact h2.fr u3
  · rw [if_neg c]
    have s1 := l_need_no' (f := f) hE hA h44 c
    have s1' : g222 f 44 (xlx G L) = _ := s1
    have hbad : xu L 7 ((q : Int) + kS (tstr B n true) i) 7 ≠ -1 := by show (q : Int) + kS (tstr B n true) i ≠ -1; omega
    obtain ⟨v, G', k1, k2, k3⟩ := gIf4_bad (f := f) (x := x) (y := y) (z := 0) hbad hX.2.1.1 (by omega)
    refine ⟨v, G', xu L 7 ((q : Int) + kS (tstr B n true) i), ?_, rfl, k2, i, N.length + 1, Nat.le_refl _, hi, k3, by omega⟩
    unfold gIf3
    rw [s1', Option.bind_some, hq _ _ hbad, Option.bind_some]
    exact k1
theorem gIf2_ok {F : Nat} {x : Int} (hf : n + 20 < f) (hq : rYB e) (hQ : rYP q B n 1 (b + 1) e) (hX : rYX G q B n N (b + 1)) (hA : rAt q B n true i L) (hi : i ≤ 62) (hNi : N.length ≤ i) (hw : wFm N) (hF : 4 * (63 - (i + 1)) + 3 ≤ F) :
    pok (pbind (pNeed (tstr B n true) 44 i) fun i => pbind (pF (tstr B n true) F 1 (b + 1) (N, 0, i)) fun y => pbind (pNeed (tstr B n true) 44 y.2.2) fun i => pbind (pF (tstr B n true) F 1 (b + 1) (y.1, 0, i)) fun z => pbind (pNeed (tstr B n true) 41 z.2.2) fun j => (.inr (z.1 ++ [(10, x, y.2.1, z.2.1, 0)], (z.1.length : Int), j) : Nat ⊕ pFm)) (rYW q i N G (gIf2 e f x (xlx G L))) (rYS q B n b G (gIf2 e f x (xlx G L))) := by
  have hE := hX.1
  have h44 : isSg 44 := by unfold isSg; omega
  show pok (pbind (if kK (tstr B n true) i = 44 then .inr (i + 1) else .inl (kS (tstr B n true) i)) _) _ _
  by_cases c : kK (tstr B n true) i = 44
  · obtain ⟨L1, s1, s2⟩ := l_need' hf hE hA h44 c
    have s1' : g222 f 44 (xlx G L) = _ := s1
    have hi2 := hA.lim c (by decide) (by decide)
    have h1 := hQ F G L1 N (i + 1) (by rw [if_pos rfl]; exact hF) hX s2 (by omega) (by omega) hw
    have e0 : gIf2 e f x (xlx G L) = (e (xlx G L1)).bind fun R121 => gIf3 e f x R121.1 R121.2 := by
      unfold gIf2
      rw [s1', Option.bind_some]
    rw [if_pos c, e0]
    show pok (pbind (pF (tstr B n true) F 1 (b + 1) (N, 0, i + 1)) _) _ _
    cases hp : pF (tstr B n true) F 1 (b + 1) (N, 0, i + 1) with
    | inl w =>
      rw [hp] at h1
      exact h1.cont (k := fun v G => gIf3 e f x v G) (.rf G) (by omega) (by omega) (by omega) (fun v G' L' c h7 h89 hc => gIf3_bad hq h7 h89 hc)
    | inr y =>
      rw [hp] at h1
      obtain ⟨G2, L2, u1, u2, u3, u4, hz⟩ := h1
      obtain ⟨p1, p2, p3, p4, p5, p6⟩ := pF_le (tstr_ck hE.1.2.1) F 1 (b + 1) _ y (by decide) hp hw (fun q => absurd q (by decide))
      simp only at p1 p2 p3 p4
      have h2 := gIf3_ok (F := F) (x := x) (y := y.2.1) hf hq hQ u4 u2 hz (by omega) p5 (by omega)
      rw [u1, Option.bind_some]
      show pok (pbind (pNeed (tstr B n true) 44 y.2.2) fun i => pbind (pF (tstr B n true) F 1 (b + 1) (y.1, 0, i)) fun z => pbind (pNeed (tstr B n true) 41 z.2.2) fun j => (.inr (z.1 ++ [(10, x, y.2.1, z.2.1, 0)], (z.1.length : Int), j) : Nat ⊕ pFm)) _ _
      cases hp2 : (pbind (pNeed (tstr B n true) 44 y.2.2) fun i => pbind (pF (tstr B n true) F 1 (b + 1) (y.1, 0, i)) fun z => pbind (pNeed (tstr B n true) 41 z.2.2) fun j => (.inr (z.1 ++ [(10, x, y.2.1, z.2.1, 0)], (z.1.length : Int), j) : Nat ⊕ pFm)) with
      | inl w =>
        rw [hp2] at h2
        exact h2.fr u3 (by omega) (by omega)
      | inr r =>
        rw [hp2] at h2
        exact h2.fr u3
  · rw [if_neg c]
    have s1 := l_need_no' (f := f) hE hA h44 c
    have s1' : g222 f 44 (xlx G L) = _ := s1
    have hbad : xu L 7 ((q : Int) + kS (tstr B n true) i) 7 ≠ -1 := by show (q : Int) + kS (tstr B n true) i ≠ -1; omega
    obtain ⟨v, G', k1, k2, k3⟩ := gIf3_bad (f := f) (x := x) (y := 0) hq hbad hX.2.1.1 (by omega)
    refine ⟨v, G', xu L 7 ((q : Int) + kS (tstr B n true) i), ?_, rfl, k2, i, N.length + 1, Nat.le_refl _, hi, k3, by omega⟩
    unfold gIf2
    rw [s1', Option.bind_some, hq _ _ hbad, Option.bind_some]
    exact k1
/-- if -/
theorem l_if {F : Nat} (hf : n + 20 < f) (hq : rYB e) (hQ : b < 4 → rYP q B n 1 (b + 1) e) (hX : rYX G q B n N b) (hA : rAt q B n true i L) (hi : i ≤ 62) (hNi : N.length ≤ i) (hw : wFm N) (hF : 4 * (63 - i) + 1 ≤ F + 1) (hK : kK (tstr B n true) i = 1) (hC : kC (tstr B n true) i = 348) :
    pok (pbind (pOpen (tstr B n true) b (i + 1)) fun i => pbind (pF (tstr B n true) F 1 (b + 1) (N, 0, i)) fun x => pbind (pNeed (tstr B n true) 44 x.2.2) fun i => pbind (pF (tstr B n true) F 1 (b + 1) (x.1, 0, i)) fun y => pbind (pNeed (tstr B n true) 44 y.2.2) fun i => pbind (pF (tstr B n true) F 1 (b + 1) (y.1, 0, i)) fun z => pbind (pNeed (tstr B n true) 41 z.2.2) fun j => (.inr (z.1 ++ [(10, x.2.1, y.2.1, z.2.1, 0)], (z.1.length : Int), j) : Nat ⊕ pFm)) (rYW q i N G (g339 e f (xlx G L))) (rYS q B n b G (g339 e f (xlx G L))) := by
  have hE := hX.1
  obtain ⟨L1, s1, s2⟩ := hA.if' (f := f) hf hE hK hC
  have hi2 := hA.lim hK (by decide) (by decide)
  have h1 := l_open (f := f) hf hX s2
  have e0 : g339 e f (xlx G L) = (g336 f (xlx G L1)).bind fun R106 => gIf1 e f R106 := by
    rw [gIf_e, s1, Option.bind_some]
  cases hp : pOpen (tstr B n true) b (i + 1) with
  | inl w =>
    rw [hp] at h1
    obtain ⟨v, L2, u1, u2⟩ := h1
    have hbad : L2 7 ≠ -1 := by omega
    obtain ⟨v', G', k1, k2, k3⟩ := gIf1_bad (f := f) (G := xup2 G 0 25 v) (c := N.length) hq hbad (by rw [xup2_n (by omega)]; exact hX.2.1.1) (by omega)
    refine ⟨v', G', L2, ?_, u2, xff.u25.tr k2, i, N.length + 1, Nat.le_refl _, hi, k3, by omega⟩
    rw [e0, u1, Option.bind_some]
    exact k1
  | inr j =>
    rw [hp] at h1
    obtain ⟨L2, u1, u2, u3, u4, u5⟩ := h1
    have hi3 := s2.lim u5 (by decide) (by decide)
    have hX1 : rYX (xup2 G 0 25 ((b + 1 : Nat) : Int)) q B n N (b + 1) := hX.b (by omega)
    have hQ' := hQ u4
    have h2 := hQ' F _ L2 N j (by rw [if_pos rfl]; omega) hX1 u2 (by omega) (by omega) hw
    have e1 : g339 e f (xlx G L) = (e (xlx (xup2 G 0 25 ((b + 1 : Nat) : Int)) L2)).bind fun R111 => gIf2 e f R111.1 R111.2 := by
      rw [e0, u1, Option.bind_some]
      rfl
    rw [e1]
    show pok (pbind (pF (tstr B n true) F 1 (b + 1) (N, 0, j)) _) _ _
    cases hp1 : pF (tstr B n true) F 1 (b + 1) (N, 0, j) with
    | inl w =>
      rw [hp1] at h2
      exact h2.cont (k := fun v G => gIf2 e f v G) xff.u25 (by omega) (by omega) (by omega) (fun v G' L' c h7 h89 hc => gIf2_bad hq h7 h89 hc)
    | inr x =>
      rw [hp1] at h2
      obtain ⟨G2, L3, y1, y2, y3, y4, y5⟩ := h2
      obtain ⟨p1, p2, p3, p4, p5, p6⟩ := pF_le (tstr_ck hE.1.2.1) F 1 (b + 1) _ x (by decide) hp1 hw (fun q => absurd q (by decide))
      simp only at p1 p2 p3 p4
      have h3 := gIf2_ok (F := F) (x := x.2.1) hf hq hQ' y4 y2 y5 (by omega) p5 (by omega)
      rw [y1, Option.bind_some]
      show pok (pbind (pNeed (tstr B n true) 44 x.2.2) fun i => pbind (pF (tstr B n true) F 1 (b + 1) (x.1, 0, i)) fun y => pbind (pNeed (tstr B n true) 44 y.2.2) fun i => pbind (pF (tstr B n true) F 1 (b + 1) (y.1, 0, i)) fun z => pbind (pNeed (tstr B n true) 41 z.2.2) fun j => (.inr (z.1 ++ [(10, x.2.1, y.2.1, z.2.1, 0)], (z.1.length : Int), j) : Nat ⊕ pFm)) _ _
      cases hp2 : (pbind (pNeed (tstr B n true) 44 x.2.2) fun i => pbind (pF (tstr B n true) F 1 (b + 1) (x.1, 0, i)) fun y => pbind (pNeed (tstr B n true) 44 y.2.2) fun i => pbind (pF (tstr B n true) F 1 (b + 1) (y.1, 0, i)) fun z => pbind (pNeed (tstr B n true) 41 z.2.2) fun j => (.inr (z.1 ++ [(10, x.2.1, y.2.1, z.2.1, 0)], (z.1.length : Int), j) : Nat ⊕ pFm)) with
      | inl w =>
        rw [hp2] at h3
        exact h3.fr (xff.u25.tr y3) (by omega) (by omega)
      | inr r =>
        rw [hp2] at h3
        exact h3.fr (xff.u25.tr y3)
end
