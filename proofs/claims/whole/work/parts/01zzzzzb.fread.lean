/-! The reference reads FORMULAS: what goes on while WRONG; sum, count, least, most; if -/
/-- a part of a FORMULA while WRONG: nothing -/
def rYB (e : xG_ → Option (Int × xG_)) : Prop := ∀ (G : xG_) (L : Nat → Int), L 7 ≠ -1 → e (xlx G L) = some (0, xlx G L)
/-- WRONG at w, k TOKENS on at most -/
def rYW (q i : Nat) (N : List pNd) (G : xG_) (r : Option (Int × xG_)) (w : Nat) : Prop := ∃ v G' L', r = some (v, xlx G' L') ∧ L' 7 = (q : Int) + w ∧ xff G G' ∧ ∃ k c : Nat, i ≤ k ∧ k ≤ 62 ∧ G' 0 89 = (c : Int) ∧ c + i ≤ N.length + k + 1
def rYS (q : Nat) (B : Nat → Int) (n b : Nat) (G : xG_) (r : Option (Int × xG_)) (x : pFm) : Prop := ∃ G' L', r = some (x.2.1, xlx G' L') ∧ rAt q B n true x.2.2 L' ∧ xff G G' ∧ rYX G' q B n x.1 b ∧ x.2.2 ≤ 62
/-- what reading a FORMULA, or a part of it, does -/
def rYP (q : Nat) (B : Nat → Int) (n m b : Nat) (e : xG_ → Option (Int × xG_)) : Prop :=
  ∀ (F : Nat) (G : xG_) (L : Nat → Int) (N : List pNd) (i : Nat), 4 * (63 - i) + (if m = 1 then 3 else if m = 2 then 2 else 1) ≤ F → rYX G q B n N b → rAt q B n true i L → i ≤ 62 → N.length ≤ i → wFm N →
    pok (pF (tstr B n true) F m b (N, 0, i)) (rYW q i N G (e (xlx G L))) (rYS q B n b G (e (xlx G L)))
theorem rYW.fr {q i i' w : Nat} {N N' : List pNd} {G G1 : xG_} {r : Option (Int × xG_)} (h : rYW q i' N' G1 r w) (hf : xff G G1) (hi : i ≤ i') (hN : N'.length + i ≤ N.length + i') : rYW q i N G r w := by
  obtain ⟨v, G', L', a1, a2, a3, k, c, a4, a5, a6, a7⟩ := h
  exact ⟨v, G', L', a1, a2, hf.tr a3, k, c, by omega, a5, a6, by omega⟩
theorem rYS.fr {q n b : Nat} {B : Nat → Int} {G G1 : xG_} {r : Option (Int × xG_)} {x : pFm} (h : rYS q B n b G1 r x) (hf : xff G G1) : rYS q B n b G r x := by
  obtain ⟨G', L', a1, a2, a3, a4⟩ := h
  exact ⟨G', L', a1, a2, hf.tr a3, a4⟩
theorem tstr_ck {B : Nat → Int} {n : Nat} {lm : Bool} (hB : tTx B n) : tCk (tstr B n lm) := by
  refine ⟨?_, tOk_of lm hB⟩
  intro i hk hw
  obtain ⟨v1, v2, v3⟩ := tkd_var (kK_inv hk (by decide))
  have eW : kW (tstr B n lm) i = tcell B (tS B n i) (tvend B n (tS B n i)) := by
    show tse B n (tS B n i) = _
    unfold tse
    rw [if_neg v2, if_pos v3]
  rw [eW] at hw ⊢
  unfold tcell at hw ⊢
  by_cases a1 : 6 ≤ B (tS B n i) - 65
  · rw [if_pos a1] at hw
    exact absurd rfl hw
  rw [if_neg a1] at hw ⊢
  split at hw
  · rename_i c
    rw [if_pos c]
    split at hw
    · rename_i c2
      rw [if_pos c2]
      omega
    · exact absurd rfl hw
  · rename_i c
    rw [if_neg c]
    split at hw
    · rename_i c2
      rw [if_pos c2]
      split at hw
      · rename_i c3
        rw [if_pos c3]
        omega
      · exact absurd rfl hw
    · exact absurd rfl hw
section
variable {f q n i b : Nat} {B : Nat → Int} {G : xG_} {L : Nat → Int} {N : List pNd}
/-- one node more while WRONG -/
theorem l_node_bad {c : Nat} {a1 a2 a3 a4 a5 : Int} (hc : G 0 89 = (c : Int)) (hc2 : c < 140) : ∃ G', g331 f a1 a2 a3 a4 a5 (xlx G L) = some ((c : Int), xlx G' L) ∧ xff G G' ∧ G' 0 89 = ((c + 1 : Nat) : Int) := ⟨_, l_node hc hc2, nPut_ff, xup2_s _ _ _ _⟩
theorem xff.u25 {v : Int} : xff G (xup2 G 0 25 v) := xff.up (.inl ⟨rfl, .inr (.inl rfl)⟩)
/-- the end of sum, count, least, most of rows -/
theorem l_of191_bad {c : Nat} {x1 x3 x5 : Int} (h : L 7 ≠ -1) (hc : G 0 89 = (c : Int)) (hc2 : c < 140) : ∃ v G', g340_191 f x1 x3 x5 (xlx G L) = some (v, xlx G' L) ∧ xff G G' ∧ G' 0 89 = ((c + 1 : Nat) : Int) := by
  obtain ⟨v, e1⟩ := l_close_bad (f := f) (G := G) h
  have hc' : xup2 G 0 25 v 0 89 = (c : Int) := by rw [xup2_n (by omega)]; exact hc
  have z : ∀ y : Int, ∃ G', g340_240 f x3 x5 y (xlx (xup2 G 0 25 v) L) = some ((c : Int), xlx G' L) ∧ xff G G' ∧ G' 0 89 = ((c + 1 : Nat) : Int) := fun y => by
    obtain ⟨G', k1, k2, k3⟩ := l_node_bad (f := f) (L := L) (a1 := y) (a2 := x5) (a3 := 0) (a4 := 0) (a5 := x3) hc' hc2
    refine ⟨G', ?_, xff.u25.tr k2, k3⟩
    unfold g340_240
    rw [k1]
    rfl
  refine ⟨(c : Int), ?_⟩
  unfold g340_191
  rw [e1, Option.bind_some]
  split
  · split
    · split
      · exact z 9
      · exact z 8
    · exact z 7
  · exact z 6
theorem l_of139_bad {x1 : Int} (hC : rC G) (h : L 7 ≠ -1) : g340_139 f x1 (xlx G L) = some (0, xlx G L) := by
  unfold g340_139
  rw [l_name hC, if_neg (fun q => h q.1), Option.bind_some]
  have n1 : ¬ ¬ ((0 : Int), xlx G L).1 = 0 := fun q => q rfl
  rw [if_neg n1]
  show Option.bind (g210 f (xlx G L 0 4) (xlx G L)) _ = _
  rw [l_fail, if_neg h]
  rfl
theorem l_of_bad {x1 : Int} (hC : rC G) (h : L 7 ≠ -1) : g340_26 f x1 (xlx G L) = some (0, xlx G L) := by
  unfold g340_26
  rw [l_kind, if_neg (fun q => h q.1), Option.bind_some]
  show (if (0 : Int) = 0 then _ else _) = _
  rw [if_pos rfl]
  exact l_of139_bad hC h
theorem l_of191 {kd x1 x3 x5 : Int} (hf : n + 20 < f) (hE : rEw G q B n true) (hN : rNd G N) (h25 : G 0 25 = ((b + 1 : Nat) : Int)) (hb : b ≤ 4) (hA : rAt q B n true i L) (hi : i ≤ 62) (hNi : N.length ≤ i) (hkd : 10 ≤ kd ∧ kd ≤ 13) (hx1 : tres x1 = kd) :
    pok (pbind (pNeed (tstr B n true) 41 i) fun j => (.inr (N ++ [(kd - 4, x5, 0, 0, x3)], (N.length : Int), j) : Nat ⊕ pFm)) (rYW q i N G (g340_191 f x1 x3 x5 (xlx G L))) (rYS q B n b G (g340_191 f x1 x3 x5 (xlx G L))) := by
  have h1 := l_close hf hE h25 hb hA
  cases hp : pNeed (tstr B n true) 41 i with
  | inl w =>
    rw [hp] at h1
    obtain ⟨v, L1, e1, e2⟩ := h1
    have hbad : L1 7 ≠ -1 := by omega
    have hc' : xup2 G 0 25 v 0 89 = (N.length : Int) := by rw [xup2_n (by omega)]; exact hN.1
    have z : ∀ y : Int, ∃ G', g340_240 f x3 x5 y (xlx (xup2 G 0 25 v) L1) = some ((N.length : Int), xlx G' L1) ∧ xff G G' ∧ G' 0 89 = ((N.length + 1 : Nat) : Int) := fun y => by
      obtain ⟨G', k1, k2, k3⟩ := l_node_bad (f := f) (L := L1) (a1 := y) (a2 := x5) (a3 := 0) (a4 := 0) (a5 := x3) hc' (by omega)
      refine ⟨G', ?_, xff.u25.tr k2, k3⟩
      unfold g340_240
      rw [k1]
      rfl
    have e3 : ∃ y, g340_191 f x1 x3 x5 (xlx G L) = g340_240 f x3 x5 y (xlx (xup2 G 0 25 v) L1) := by
      unfold g340_191
      rw [e1, Option.bind_some]
      split
      · split
        · split
          · exact ⟨_, rfl⟩
          · exact ⟨_, rfl⟩
        · exact ⟨_, rfl⟩
      · exact ⟨_, rfl⟩
    obtain ⟨y, e3⟩ := e3
    obtain ⟨G', k1, k2, k3⟩ := z y
    exact ⟨_, G', L1, by rw [e3]; exact k1, e2, k2, i, N.length + 1, Nat.le_refl _, hi, k3, by omega⟩
  | inr j =>
    rw [hp] at h1
    obtain ⟨L1, e1, e2, e3, e4⟩ := h1
    have hX : rYX (xup2 G 0 25 (b : Int)) q B n N b := ⟨hE.u (.inr rfl), hN.ge (xup2_n (by omega)) (fun a j _ _ => xup2_n (by omega)), xup2_s _ _ _ _, hb⟩
    refine ⟨_, L1, ?_, e2, xff.u25.tr nPut_ff, hX.put, by have := hA.lim e4 (by decide) (by decide); show j ≤ 62; omega⟩
    obtain ⟨r12, r13, r14, r15, r16, r17, r18, r19, r20⟩ := hE.2.2
    have c16 : xlx (xup2 G 0 25 (b : Int)) L1 0 16 = 7109364 := by rw [xlx_o _ _ (by omega), xup2_n (by omega)]; exact r16
    have c17 : xlx (xup2 G 0 25 (b : Int)) L1 0 17 = 28247 := by rw [xlx_o _ _ (by omega), xup2_n (by omega)]; exact r17
    have c18 : xlx (xup2 G 0 25 (b : Int)) L1 0 18 = 25298178 := by rw [xlx_o _ _ (by omega), xup2_n (by omega)]; exact r18
    have fin : g340_240 f x3 x5 (kd - 4) (xlx (xup2 G 0 25 (b : Int)) L1) = some ((N.length : Int), xlx (nPut (xup2 G 0 25 (b : Int)) N.length (kd - 4) x5 0 0 x3) L1) := by
      unfold g340_240
      rw [l_node hX.2.1.1 (by omega)]
      rfl
    have inv := @tres_inv x1
    rw [hx1] at inv
    rw [← fin]
    unfold g340_191
    rw [e1, Option.bind_some, c16, c17, c18]
    by_cases d10 : kd = 10
    · have := inv.2.2.2.2.1 d10
      rw [if_neg (fun q => q this), d10]
      rfl
    · have n10 : ¬ x1 = 7109364 := fun q => d10 (by rw [← hx1, q]; decide)
      rw [if_pos n10]
      by_cases d11 : kd = 11
      · have := inv.2.2.2.2.2.1 d11
        rw [if_neg (fun q => q this), d11]
        rfl
      · have n11 : ¬ x1 = 28247 := fun q => d11 (by rw [← hx1, q]; decide)
        rw [if_pos n11]
        by_cases d12 : kd = 12
        · have := inv.2.2.2.2.2.2.1 d12
          rw [if_neg (fun q => q this), d12]
          rfl
        · have n12 : ¬ x1 = 25298178 := fun q => d12 (by rw [← hx1, q]; decide)
          have d13 : kd = 13 := by omega
          rw [if_pos n12, d13]
          rfl
/-- rows: NAME, and a column -/
theorem l_of139 {kd x1 : Int} (hf : n + 20 < f) (hE : rEw G q B n true) (hN : rNd G N) (h25 : G 0 25 = ((b + 1 : Nat) : Int)) (hb : b ≤ 4) (hA : rAt q B n true i L) (hi : i ≤ 62) (hNi : N.length ≤ i) (hkd : 10 ≤ kd ∧ kd ≤ 13) (hx1 : tres x1 = kd) :
    pok (pbind (pName (tstr B n true) i) fun x => pbind (if kd = 10 then .inr ((0 : Int), x.2) else pbind (pNeed (tstr B n true) 44 x.2) fun k => pNum (tstr B n true) 4 k) fun k => pbind (pNeed (tstr B n true) 41 k.2) fun j => (.inr (N ++ [(kd - 4, k.1, 0, 0, x.1)], (N.length : Int), j) : Nat ⊕ pFm))
      (rYW q i N G (g340_139 f x1 (xlx G L))) (rYS q B n b G (g340_139 f x1 (xlx G L))) := by
  obtain ⟨t4, tsg, tn, tv, tu, tnum, tend, tn9, tv9, tnum9, t6, t5, tlt, t3⟩ := hA.tk hE.1.2.1
  have hnm := hA.isname' (f := f) hE
  have r16 := hE.2.2.2.2.2.2.1
  have inv := @tres_inv x1
  rw [hx1] at inv
  have i16 : x1 = 7109364 ↔ kd = 10 := ⟨fun q => by rw [← hx1, q]; decide, fun q => inv.2.2.2.2.1 q⟩
  unfold pName
  by_cases c1 : kK (tstr B n true) i = 1
  · have n1 : ¬ kK (tstr B n true) i ≠ 1 := fun q => q c1
    rw [if_neg n1]
    obtain ⟨m1, m2, m3⟩ := hA.nm' hE c1
    have hi61 := hA.lim c1 (by decide) (by decide)
    have e0 : g340_139 f x1 (xlx G L) = (g213 f (xlx G L)).bind fun R138 => (if x1 = R138 0 16 then g340_191 f x1 (L 9) 0 R138 else ((g222 f 44 R138).bind fun R144 => ((g233 f 1 4 R144).bind fun R149 => g340_191 f x1 (L 9) R149.1 R149.2))) := by
      unfold g340_139
      rw [hnm, if_pos c1, Option.bind_some]
      rfl
    -- while WRONG
    have bad : ∀ (G1 : xG_) (L1 : Nat → Int), L1 7 ≠ -1 → G1 0 89 = (N.length : Int) → ∃ v G', (if x1 = xlx G1 L1 0 16 then g340_191 f x1 (L 9) 0 (xlx G1 L1) else ((g222 f 44 (xlx G1 L1)).bind fun R144 => ((g233 f 1 4 R144).bind fun R149 => g340_191 f x1 (L 9) R149.1 R149.2))) = some (v, xlx G' L1) ∧ xff G1 G' ∧ G' 0 89 = ((N.length + 1 : Nat) : Int) := fun G1 L1 hbad h89 => by
      split
      · exact l_of191_bad hbad h89 (by omega)
      · rw [l_need_bad hbad, Option.bind_some, l_num_bad hbad, Option.bind_some]
        exact l_of191_bad hbad h89 (by omega)
    by_cases c2 : 12 < kE (tstr B n true) i - kS (tstr B n true) i
    · rw [if_pos c2]
      rw [if_pos c2] at m3
      have hbad : xu L 7 (L 6) 7 ≠ -1 := by show L 6 ≠ -1; omega
      obtain ⟨v, G', k1, k2, k3⟩ := bad G (xu L 7 (L 6)) hbad hN.1
      refine ⟨v, G', xu L 7 (L 6), ?_, ?_, k2, i, N.length + 1, Nat.le_refl _, hi, k3, by omega⟩
      · rw [e0, l_pass_wr hA.1 (by omega), Option.bind_some]
        exact k1
      · show L 6 = (q : Int) + ((kS (tstr B n true) i + 12 : Nat) : Int)
        omega
    · rw [if_neg c2]
      rw [if_neg c2] at m3
      obtain ⟨L1, p1, p2⟩ := l_pass' hf hE hA m3 (by omega) (by omega)
      rw [p1, Option.bind_some, m1] at e0
      rw [m1] at bad
      have c16 : xlx G L1 0 16 = 7109364 := by rw [xlx_o _ _ (by omega)]; exact r16
      show pok (pbind (if kd = 10 then .inr ((0 : Int), i + 1) else pbind (pNeed (tstr B n true) 44 (i + 1)) fun k => pNum (tstr B n true) 4 k) fun k => pbind (pNeed (tstr B n true) 41 k.2) fun j => (.inr (N ++ [(kd - 4, k.1, 0, 0, kC (tstr B n true) i)], (N.length : Int), j) : Nat ⊕ pFm)) _ _
      by_cases d : kd = 10
      · rw [if_pos d]
        rw [if_pos (by rw [c16]; exact i16.mpr d)] at e0
        rw [e0]
        have h3 := l_of191 (x1 := x1) (x3 := kC (tstr B n true) i) (x5 := 0) hf hE hN h25 hb p2 (by omega) (by omega) hkd hx1
        show pok (pbind (pNeed (tstr B n true) 41 (i + 1)) _) _ _
        cases hp : pbind (pNeed (tstr B n true) 41 (i + 1)) fun j => (.inr (N ++ [(kd - 4, 0, 0, 0, kC (tstr B n true) i)], (N.length : Int), j) : Nat ⊕ pFm) with
        | inl w =>
          rw [hp] at h3
          exact h3.fr (.rf G) (by omega) (by omega)
        | inr x =>
          rw [hp] at h3
          exact h3
      · rw [if_neg d]
        rw [if_neg (by rw [c16]; exact fun q => d (i16.mp q))] at e0
        have nd : ¬ x1 = xlx G L1 0 16 := by rw [c16]; exact fun q => d (i16.mp q)
        have h44 : isSg 44 := by unfold isSg; omega
        unfold pNeed
        by_cases c3 : kK (tstr B n true) (i + 1) = 44
        · rw [if_pos c3]
          obtain ⟨L2, s1, s2⟩ := l_need' hf hE p2 h44 c3
          have s1' : g222 f 44 (xlx G L1) = _ := s1
          rw [s1', Option.bind_some] at e0
          have hi62 := p2.lim c3 (by decide) (by decide)
          have h2 := l_num' (hi := 4) hf hE s2 (by decide)
          show pok (pbind (pNum (tstr B n true) 4 (i + 1 + 1)) _) _ _
          cases hq : pNum (tstr B n true) 4 (i + 1 + 1) with
          | inl w =>
            rw [hq] at h2
            obtain ⟨L3, u1, u2⟩ := h2
            have hbad : L3 7 ≠ -1 := by omega
            obtain ⟨v, G', k1, k2, k3⟩ := l_of191_bad (f := f) (x1 := x1) (x3 := kC (tstr B n true) i) (x5 := 1) hbad hN.1 (by omega)
            refine ⟨v, G', L3, ?_, u2, k2, i, N.length + 1, Nat.le_refl _, hi, k3, by omega⟩
            rw [e0, u1]
            exact k1
          | inr y =>
            rw [hq] at h2
            obtain ⟨L3, u1, u2, u3, u4⟩ := h2
            have hy := (pNum_in hq).1
            have hi63 : y.2 ≤ 62 := by
              have hk4 : kK (tstr B n true) (i + 1 + 1) = 4 := by
                unfold pNum at hq
                split at hq
                · rename_i c; exact c.1
                · cases hq
              have := s2.lim hk4 (by decide) (by decide)
              omega
            have h3 := l_of191 (x1 := x1) (x3 := kC (tstr B n true) i) (x5 := y.1) hf hE hN h25 hb u2 hi63 (by omega) hkd hx1
            rw [e0, u1]
            show pok (pbind (pNeed (tstr B n true) 41 y.2) fun j => (.inr (N ++ [(kd - 4, y.1, 0, 0, kC (tstr B n true) i)], (N.length : Int), j) : Nat ⊕ pFm)) (rYW q i N G (g340_191 f x1 (kC (tstr B n true) i) y.1 (xlx G L3))) (rYS q B n b G (g340_191 f x1 (kC (tstr B n true) i) y.1 (xlx G L3)))
            cases hp : pbind (pNeed (tstr B n true) 41 y.2) fun j => (.inr (N ++ [(kd - 4, y.1, 0, 0, kC (tstr B n true) i)], (N.length : Int), j) : Nat ⊕ pFm) with
            | inl w =>
              rw [hp] at h3
              exact h3.fr (.rf G) (by omega) (by omega)
            | inr x =>
              rw [hp] at h3
              exact h3
        · rw [if_neg c3]
          have s1 := l_need_no' (f := f) hE p2 h44 c3
          have s1' : g222 f 44 (xlx G L1) = _ := s1
          have hbad : xu L1 7 ((q : Int) + kS (tstr B n true) (i + 1)) 7 ≠ -1 := by show (q : Int) + kS (tstr B n true) (i + 1) ≠ -1; omega
          obtain ⟨v, G', k1, k2, k3⟩ := l_of191_bad (f := f) (x1 := x1) (x3 := kC (tstr B n true) i) (x5 := 1) hbad hN.1 (by omega)
          refine ⟨v, G', xu L1 7 ((q : Int) + kS (tstr B n true) (i + 1)), ?_, rfl, k2, i, N.length + 1, Nat.le_refl _, hi, k3, by omega⟩
          rw [e0, s1', Option.bind_some, l_num_bad hbad, Option.bind_some]
          exact k1
  · rw [if_pos c1]
    refine ⟨0, G, xu L 7 (L 4), ?_, t4, .rf G, i, N.length, Nat.le_refl _, hi, hN.1, by omega⟩
    unfold g340_139
    rw [hnm, if_neg c1, Option.bind_some]
    have n1 : ¬ ¬ ((0 : Int), xlx G L).1 = 0 := fun q => q rfl
    rw [if_neg n1]
    show Option.bind (g210 f (xlx G L 0 4) (xlx G L)) _ = _
    rw [l_fail, if_pos hA.1, xlx_4]
    rfl
end
