/-! The reference over what stands at its cells (written by mk_g.py) -/
-- ChangeHouseModel.copyLine
theorem s316_127b {m f : Nat} {M0 M : xj_M} {G : xG_} (hI : xHI f)  {r69 : Nat → Nat → Int → xG_ → Option (xG_)} {o69 : Nat → Nat → Int → xj_M → Option (xj_M)} {r127 : Nat → Nat → Int → Int → xG_ → Option (xG_)} {o127 : Nat → Nat → Int → Int → xj_M → Option (xj_M)}  (hr69 : ∀ {M : xj_M} {G : xG_} {x0 : Nat} {x1 : Nat} {x2 : Int} {R : xG_}, xRX m M0 M G → xoL x0 → xoL x1 → xin x2 → r69 x0 x1 x2 G = some R → xok (o69 (m + x0) (m + x1) x2 M) (fun r => xRX m M0 r R)) (hr127 : ∀ {M : xj_M} {G : xG_} {x0 : Nat} {x1 : Nat} {x2 : Int} {x3 : Int} {R : xG_}, xRX m M0 M G → xoL x0 → xoL x1 → xin x2 → xin x3 → r127 x0 x1 x2 x3 G = some R → xok (o127 (m + x0) (m + x1) x2 x3 M) (fun r => xRX m M0 r R)) (h : xRX m M0 M G) {x0 : Nat} {x1 : Nat} {x2 : Int} {x3 : Int} {R : xG_} (tx0 : xoL x0) (tx1 : xoL x1) (tx2 : xin x2) (tx3 : xin x3) (e : g316_127b  r69 r127 f x0 x1 x2 x3 G = some R) : xok (f316_127b  o69 o127 f (m + x0) (m + x1) x2 x3 M) (fun r => xRX m M0 r R) := by
  unfold g316_127b at e
  unfold f316_127b
  refine xok_ite (fun c101 => ?_) (fun c101 => ?_)
  · rw [if_pos c101] at e
    exact hr69 h tx0 tx1 (xin_wr _) e
  · rw [if_neg c101] at e
    refine xok_eqb (h.pt (o := x1) (c := 13) (k := 9) (t := x1 + 9) (n := 37) (xoL_o tx1).1 (xoL_o tx1).2 (by decide) (xoL_all tx1 (Q := fun p => (p, 9, p + 9) ∈ xl_P) (by decide +kernel) (by decide +kernel) (by decide +kernel) (by decide +kernel))) ?_
    refine xok_eqb (h.pt (o := x0) (c := 13) (k := 9) (t := x0 + 9) (n := 37) (xoL_o tx0).1 (xoL_o tx0).2 (by decide) (xoL_all tx0 (Q := fun p => (p, 9, p + 9) ∈ xl_P) (by decide +kernel) (by decide +kernel) (by decide +kernel) (by decide +kernel))) ?_
    by_cases c102 : 0 ≤ (xwr ((xwr ((4) * (x2))) + (x3))) ∧ (xwr ((xwr ((4) * (x2))) + (x3))) < 48000
    · skip
      rw [if_pos c102] at e
      refine xok_eqb (h.al (o := x0 + 9) (n := 48000) (xoL_all tx0 (Q := fun p => p + 9 < 276) (by decide) (by decide) (by decide) (by decide)) (xoL_all tx0 (Q := fun p => xl_t (p + 9) = (2, 4, 48000)) rfl rfl rfl rfl)  c102.1 c102.2) ?_
      by_cases c103 : 0 ≤ (xwr ((xwr ((4) * (x2))) + (x3))) ∧ (xwr ((xwr ((4) * (x2))) + (x3))) < 48000
      · skip
        rw [if_pos c103] at e
        obtain ⟨M104, q105, h106⟩ := h.sl (o := x1 + 9) (n := 48000) (v := G (x0 + 9) (xwr ((xwr ((4) * (x2))) + (x3))).toNat) (xoL_all tx1 (Q := fun p => p + 9 < 276) (by decide) (by decide) (by decide) (by decide)) (xoL_all tx1 (Q := fun p => xl_t (p + 9) = (2, 4, 48000)) rfl rfl rfl rfl) c103.1 c103.2 (h.aln (o := x0 + 9) (n := 48000) (xoL_all tx0 (Q := fun p => p + 9 < 276) (by decide) (by decide) (by decide) (by decide)) (xoL_all tx0 (Q := fun p => xl_t (p + 9) = (2, 4, 48000)) rfl rfl rfl rfl)  c102.1 c102.2)
        refine xok_eqb q105 ?_
        obtain ⟨G107, g1, e⟩ := xbnd e
        cases g1
        have h106_ : xRX m M0 M104 (xup2 G (x1 + 9) (xwr ((xwr ((4) * (x2))) + (x3))).toNat (G (x0 + 9) (xwr ((xwr ((4) * (x2))) + (x3))).toNat)) := h106
        generalize hGG107 : (xup2 G (x1 + 9) (xwr ((xwr ((4) * (x2))) + (x3))).toNat (G (x0 + 9) (xwr ((xwr ((4) * (x2))) + (x3))).toNat)) = G107 at e h106
        clear h106_ hGG107
        exact hr127 h106 tx0 tx1 tx2 (xin_wr _) e
      · rw [if_neg c103] at e; cases e
    · rw [if_neg c102] at e; cases e
theorem s316_127 {m f : Nat} {M0 : xj_M} (hI : xHI f)  {r69 : Nat → Nat → Int → xG_ → Option (xG_)} {o69 : Nat → Nat → Int → xj_M → Option (xj_M)}  (hr69 : ∀ {M : xj_M} {G : xG_} {x0 : Nat} {x1 : Nat} {x2 : Int} {R : xG_}, xRX m M0 M G → xoL x0 → xoL x1 → xin x2 → r69 x0 x1 x2 G = some R → xok (o69 (m + x0) (m + x1) x2 M) (fun r => xRX m M0 r R)) : ∀ {n : Nat} {M : xj_M} {G : xG_} {x0 : Nat} {x1 : Nat} {x2 : Int} {x3 : Int} {R : xG_}, xRX m M0 M G → xoL x0 → xoL x1 → xin x2 → xin x3 → g316_127  r69 f n x0 x1 x2 x3 G = some R → xok (f316_127  o69 f n (m + x0) (m + x1) x2 x3 M) (fun r => xRX m M0 r R) := by
  intro n
  induction n with
  | zero => intros; rename_i e; cases e
  | succ n ih =>
    intros
    rename_i h i0 i1 i2 i3 e
    exact s316_127b hI  hr69 ih h i0 i1 i2 i3 e
theorem s316_258b {m f : Nat} {M0 M : xj_M} {G : xG_} (hI : xHI f)  {r258 : Nat → Nat → Int → xG_ → Option (xG_)} {o258 : Nat → Nat → Int → xj_M → Option (xj_M)}  (hr258 : ∀ {M : xj_M} {G : xG_} {x0 : Nat} {x1 : Nat} {x2 : Int} {R : xG_}, xRX m M0 M G → xoL x0 → xoL x1 → xin x2 → r258 x0 x1 x2 G = some R → xok (o258 (m + x0) (m + x1) x2 M) (fun r => xRX m M0 r R)) (h : xRX m M0 M G) {x0 : Nat} {x1 : Nat} {x2 : Int} {R : xG_} (tx0 : xoL x0) (tx1 : xoL x1) (tx2 : xin x2) (e : g316_258b  r258 f x0 x1 x2 G = some R) : xok (f316_258b  o258 f (m + x0) (m + x1) x2 M) (fun r => xRX m M0 r R) := by
  unfold g316_258b at e
  unfold f316_258b
  refine xok_ite (fun c108 => ?_) (fun c108 => ?_)
  · rw [if_pos c108] at e
    cases e
    exact ⟨_, rfl, h⟩
  · rw [if_neg c108] at e
    refine xok_eqb (h.pt (o := x1) (c := 13) (k := 18) (t := x1 + 15) (n := 37) (xoL_o tx1).1 (xoL_o tx1).2 (by decide) (xoL_all tx1 (Q := fun p => (p, 18, p + 15) ∈ xl_P) (by decide +kernel) (by decide +kernel) (by decide +kernel) (by decide +kernel))) ?_
    refine xok_eqb (h.pt (o := x0) (c := 13) (k := 18) (t := x0 + 15) (n := 37) (xoL_o tx0).1 (xoL_o tx0).2 (by decide) (xoL_all tx0 (Q := fun p => (p, 18, p + 15) ∈ xl_P) (by decide +kernel) (by decide +kernel) (by decide +kernel) (by decide +kernel))) ?_
    by_cases c109 : 0 ≤ (x2) ∧ (x2) < 72
    · skip
      rw [if_pos c109] at e
      refine xok_eqb (h.ai (o := x0 + 15) (n := 72) (xoL_all tx0 (Q := fun p => p + 15 < 276) (by decide) (by decide) (by decide) (by decide)) (xoL_all tx0 (Q := fun p => xl_t (p + 15) = (2, 3, 72)) rfl rfl rfl rfl) (by decide) c109.1 c109.2) ?_
      by_cases c110 : 0 ≤ (x2) ∧ (x2) < 72
      · skip
        rw [if_pos c110] at e
        obtain ⟨M111, q112, h113⟩ := h.si (o := x1 + 15) (n := 72) (v := G (x0 + 15) (x2).toNat) (xoL_all tx1 (Q := fun p => p + 15 < 276) (by decide) (by decide) (by decide) (by decide)) (xoL_all tx1 (Q := fun p => xl_t (p + 15) = (2, 3, 72)) rfl rfl rfl rfl) c110.1 c110.2 (h.ain (o := x0 + 15) (n := 72) (xoL_all tx0 (Q := fun p => p + 15 < 276) (by decide) (by decide) (by decide) (by decide)) (xoL_all tx0 (Q := fun p => xl_t (p + 15) = (2, 3, 72)) rfl rfl rfl rfl) (by decide) c109.1 c109.2)
        refine xok_eqb q112 ?_
        obtain ⟨G114, g1, e⟩ := xbnd e
        cases g1
        have h113_ : xRX m M0 M111 (xup2 G (x1 + 15) (x2).toNat (G (x0 + 15) (x2).toNat)) := h113
        generalize hGG114 : (xup2 G (x1 + 15) (x2).toNat (G (x0 + 15) (x2).toNat)) = G114 at e h113
        clear h113_ hGG114
        exact hr258 h113 tx0 tx1 (xin_wr _) e
      · rw [if_neg c110] at e; cases e
    · rw [if_neg c109] at e; cases e
theorem s316_258 {m f : Nat} {M0 : xj_M} (hI : xHI f)     : ∀ {n : Nat} {M : xj_M} {G : xG_} {x0 : Nat} {x1 : Nat} {x2 : Int} {R : xG_}, xRX m M0 M G → xoL x0 → xoL x1 → xin x2 → g316_258   f n x0 x1 x2 G = some R → xok (f316_258   f n (m + x0) (m + x1) x2 M) (fun r => xRX m M0 r R) := by
  intro n
  induction n with
  | zero => intros; rename_i e; cases e
  | succ n ih =>
    intros
    rename_i h i0 i1 i2 e
    exact s316_258b hI   ih h i0 i1 i2 e
theorem s316_218b {m f : Nat} {M0 M : xj_M} {G : xG_} (hI : xHI f)  {r218 : Nat → Nat → Int → xG_ → Option (xG_)} {o218 : Nat → Nat → Int → xj_M → Option (xj_M)}  (hr218 : ∀ {M : xj_M} {G : xG_} {x0 : Nat} {x1 : Nat} {x2 : Int} {R : xG_}, xRX m M0 M G → xoL x0 → xoL x1 → xin x2 → r218 x0 x1 x2 G = some R → xok (o218 (m + x0) (m + x1) x2 M) (fun r => xRX m M0 r R)) (h : xRX m M0 M G) {x0 : Nat} {x1 : Nat} {x2 : Int} {R : xG_} (tx0 : xoL x0) (tx1 : xoL x1) (tx2 : xin x2) (e : g316_218b  r218 f x0 x1 x2 G = some R) : xok (f316_218b  o218 f (m + x0) (m + x1) x2 M) (fun r => xRX m M0 r R) := by
  unfold g316_218b at e
  unfold f316_218b
  refine xok_eqb (h.gi (o := x0) (c := 13) (k := 17) (n := 37) (xoL_o tx0).1 (xoL_o tx0).2 (by decide) (by decide)) ?_
  refine xok_ite (fun c115 => ?_) (fun c115 => ?_)
  · rw [if_pos c115] at e
    exact s316_258 hI   h tx0 tx1 (show xin (0) by decide) e
  · rw [if_neg c115] at e
    refine xok_eqb (h.pt (o := x1) (c := 13) (k := 14) (t := x1 + 13) (n := 37) (xoL_o tx1).1 (xoL_o tx1).2 (by decide) (xoL_all tx1 (Q := fun p => (p, 14, p + 13) ∈ xl_P) (by decide +kernel) (by decide +kernel) (by decide +kernel) (by decide +kernel))) ?_
    refine xok_eqb (h.pt (o := x0) (c := 13) (k := 14) (t := x0 + 13) (n := 37) (xoL_o tx0).1 (xoL_o tx0).2 (by decide) (xoL_all tx0 (Q := fun p => (p, 14, p + 13) ∈ xl_P) (by decide +kernel) (by decide +kernel) (by decide +kernel) (by decide +kernel))) ?_
    by_cases c116 : 0 ≤ (x2) ∧ (x2) < 20
    · skip
      rw [if_pos c116] at e
      refine xok_eqb (h.ai (o := x0 + 13) (n := 20) (xoL_all tx0 (Q := fun p => p + 13 < 276) (by decide) (by decide) (by decide) (by decide)) (xoL_all tx0 (Q := fun p => xl_t (p + 13) = (2, 3, 20)) rfl rfl rfl rfl) (by decide) c116.1 c116.2) ?_
      by_cases c117 : 0 ≤ (x2) ∧ (x2) < 20
      · skip
        rw [if_pos c117] at e
        obtain ⟨M118, q119, h120⟩ := h.si (o := x1 + 13) (n := 20) (v := G (x0 + 13) (x2).toNat) (xoL_all tx1 (Q := fun p => p + 13 < 276) (by decide) (by decide) (by decide) (by decide)) (xoL_all tx1 (Q := fun p => xl_t (p + 13) = (2, 3, 20)) rfl rfl rfl rfl) c117.1 c117.2 (h.ain (o := x0 + 13) (n := 20) (xoL_all tx0 (Q := fun p => p + 13 < 276) (by decide) (by decide) (by decide) (by decide)) (xoL_all tx0 (Q := fun p => xl_t (p + 13) = (2, 3, 20)) rfl rfl rfl rfl) (by decide) c116.1 c116.2)
        refine xok_eqb q119 ?_
        obtain ⟨G121, g1, e⟩ := xbnd e
        cases g1
        have h120_ : xRX m M0 M118 (xup2 G (x1 + 13) (x2).toNat (G (x0 + 13) (x2).toNat)) := h120
        generalize hGG121 : (xup2 G (x1 + 13) (x2).toNat (G (x0 + 13) (x2).toNat)) = G121 at e h120
        clear h120_ hGG121
        refine xok_eqb (h120.pt (o := x1) (c := 13) (k := 15) (t := x1 + 14) (n := 37) (xoL_o tx1).1 (xoL_o tx1).2 (by decide) (xoL_all tx1 (Q := fun p => (p, 15, p + 14) ∈ xl_P) (by decide +kernel) (by decide +kernel) (by decide +kernel) (by decide +kernel))) ?_
        refine xok_eqb (h120.pt (o := x0) (c := 13) (k := 15) (t := x0 + 14) (n := 37) (xoL_o tx0).1 (xoL_o tx0).2 (by decide) (xoL_all tx0 (Q := fun p => (p, 15, p + 14) ∈ xl_P) (by decide +kernel) (by decide +kernel) (by decide +kernel) (by decide +kernel))) ?_
        by_cases c122 : 0 ≤ (x2) ∧ (x2) < 20
        · skip
          rw [if_pos c122] at e
          refine xok_eqb (h120.ai (o := x0 + 14) (n := 20) (xoL_all tx0 (Q := fun p => p + 14 < 276) (by decide) (by decide) (by decide) (by decide)) (xoL_all tx0 (Q := fun p => xl_t (p + 14) = (2, 3, 20)) rfl rfl rfl rfl) (by decide) c122.1 c122.2) ?_
          by_cases c123 : 0 ≤ (x2) ∧ (x2) < 20
          · skip
            rw [if_pos c123] at e
            obtain ⟨M124, q125, h126⟩ := h120.si (o := x1 + 14) (n := 20) (v := G121 (x0 + 14) (x2).toNat) (xoL_all tx1 (Q := fun p => p + 14 < 276) (by decide) (by decide) (by decide) (by decide)) (xoL_all tx1 (Q := fun p => xl_t (p + 14) = (2, 3, 20)) rfl rfl rfl rfl) c123.1 c123.2 (h120.ain (o := x0 + 14) (n := 20) (xoL_all tx0 (Q := fun p => p + 14 < 276) (by decide) (by decide) (by decide) (by decide)) (xoL_all tx0 (Q := fun p => xl_t (p + 14) = (2, 3, 20)) rfl rfl rfl rfl) (by decide) c122.1 c122.2)
            refine xok_eqb q125 ?_
            obtain ⟨G127, g1, e⟩ := xbnd e
            cases g1
            have h126_ : xRX m M0 M124 (xup2 G121 (x1 + 14) (x2).toNat (G121 (x0 + 14) (x2).toNat)) := h126
            generalize hGG127 : (xup2 G121 (x1 + 14) (x2).toNat (G121 (x0 + 14) (x2).toNat)) = G127 at e h126
            clear h126_ hGG127
            exact hr218 h126 tx0 tx1 (xin_wr _) e
          · rw [if_neg c123] at e; cases e
        · rw [if_neg c122] at e; cases e
      · rw [if_neg c117] at e; cases e
    · rw [if_neg c116] at e; cases e
theorem s316_218 {m f : Nat} {M0 : xj_M} (hI : xHI f)     : ∀ {n : Nat} {M : xj_M} {G : xG_} {x0 : Nat} {x1 : Nat} {x2 : Int} {R : xG_}, xRX m M0 M G → xoL x0 → xoL x1 → xin x2 → g316_218   f n x0 x1 x2 G = some R → xok (f316_218   f n (m + x0) (m + x1) x2 M) (fun r => xRX m M0 r R) := by
  intro n
  induction n with
  | zero => intros; rename_i e; cases e
  | succ n ih =>
    intros
    rename_i h i0 i1 i2 e
    exact s316_218b hI   ih h i0 i1 i2 e
theorem s316_166b {m f : Nat} {M0 M : xj_M} {G : xG_} (hI : xHI f)  {r166 : Nat → Nat → Int → xG_ → Option (xG_)} {o166 : Nat → Nat → Int → xj_M → Option (xj_M)}  (hr166 : ∀ {M : xj_M} {G : xG_} {x0 : Nat} {x1 : Nat} {x2 : Int} {R : xG_}, xRX m M0 M G → xoL x0 → xoL x1 → xin x2 → r166 x0 x1 x2 G = some R → xok (o166 (m + x0) (m + x1) x2 M) (fun r => xRX m M0 r R)) (h : xRX m M0 M G) {x0 : Nat} {x1 : Nat} {x2 : Int} {R : xG_} (tx0 : xoL x0) (tx1 : xoL x1) (tx2 : xin x2) (e : g316_166b  r166 f x0 x1 x2 G = some R) : xok (f316_166b  o166 f (m + x0) (m + x1) x2 M) (fun r => xRX m M0 r R) := by
  unfold g316_166b at e
  unfold f316_166b
  refine xok_eqb (h.gi (o := x0) (c := 13) (k := 16) (n := 37) (xoL_o tx0).1 (xoL_o tx0).2 (by decide) (by decide)) ?_
  refine xok_ite (fun c128 => ?_) (fun c128 => ?_)
  · rw [if_pos c128] at e
    exact s316_218 hI   h tx0 tx1 (show xin (0) by decide) e
  · rw [if_neg c128] at e
    refine xok_eqb (h.pt (o := x1) (c := 13) (k := 11) (t := x1 + 10) (n := 37) (xoL_o tx1).1 (xoL_o tx1).2 (by decide) (xoL_all tx1 (Q := fun p => (p, 11, p + 10) ∈ xl_P) (by decide +kernel) (by decide +kernel) (by decide +kernel) (by decide +kernel))) ?_
    refine xok_eqb (h.pt (o := x0) (c := 13) (k := 11) (t := x0 + 10) (n := 37) (xoL_o tx0).1 (xoL_o tx0).2 (by decide) (xoL_all tx0 (Q := fun p => (p, 11, p + 10) ∈ xl_P) (by decide +kernel) (by decide +kernel) (by decide +kernel) (by decide +kernel))) ?_
    by_cases c129 : 0 ≤ (x2) ∧ (x2) < 200
    · skip
      rw [if_pos c129] at e
      refine xok_eqb (h.ai (o := x0 + 10) (n := 200) (xoL_all tx0 (Q := fun p => p + 10 < 276) (by decide) (by decide) (by decide) (by decide)) (xoL_all tx0 (Q := fun p => xl_t (p + 10) = (2, 3, 200)) rfl rfl rfl rfl) (by decide) c129.1 c129.2) ?_
      by_cases c130 : 0 ≤ (x2) ∧ (x2) < 200
      · skip
        rw [if_pos c130] at e
        obtain ⟨M131, q132, h133⟩ := h.si (o := x1 + 10) (n := 200) (v := G (x0 + 10) (x2).toNat) (xoL_all tx1 (Q := fun p => p + 10 < 276) (by decide) (by decide) (by decide) (by decide)) (xoL_all tx1 (Q := fun p => xl_t (p + 10) = (2, 3, 200)) rfl rfl rfl rfl) c130.1 c130.2 (h.ain (o := x0 + 10) (n := 200) (xoL_all tx0 (Q := fun p => p + 10 < 276) (by decide) (by decide) (by decide) (by decide)) (xoL_all tx0 (Q := fun p => xl_t (p + 10) = (2, 3, 200)) rfl rfl rfl rfl) (by decide) c129.1 c129.2)
        refine xok_eqb q132 ?_
        obtain ⟨G134, g1, e⟩ := xbnd e
        cases g1
        have h133_ : xRX m M0 M131 (xup2 G (x1 + 10) (x2).toNat (G (x0 + 10) (x2).toNat)) := h133
        generalize hGG134 : (xup2 G (x1 + 10) (x2).toNat (G (x0 + 10) (x2).toNat)) = G134 at e h133
        clear h133_ hGG134
        refine xok_eqb (h133.pt (o := x1) (c := 13) (k := 12) (t := x1 + 11) (n := 37) (xoL_o tx1).1 (xoL_o tx1).2 (by decide) (xoL_all tx1 (Q := fun p => (p, 12, p + 11) ∈ xl_P) (by decide +kernel) (by decide +kernel) (by decide +kernel) (by decide +kernel))) ?_
        refine xok_eqb (h133.pt (o := x0) (c := 13) (k := 12) (t := x0 + 11) (n := 37) (xoL_o tx0).1 (xoL_o tx0).2 (by decide) (xoL_all tx0 (Q := fun p => (p, 12, p + 11) ∈ xl_P) (by decide +kernel) (by decide +kernel) (by decide +kernel) (by decide +kernel))) ?_
        by_cases c135 : 0 ≤ (x2) ∧ (x2) < 200
        · skip
          rw [if_pos c135] at e
          refine xok_eqb (h133.ai (o := x0 + 11) (n := 200) (xoL_all tx0 (Q := fun p => p + 11 < 276) (by decide) (by decide) (by decide) (by decide)) (xoL_all tx0 (Q := fun p => xl_t (p + 11) = (2, 3, 200)) rfl rfl rfl rfl) (by decide) c135.1 c135.2) ?_
          by_cases c136 : 0 ≤ (x2) ∧ (x2) < 200
          · skip
            rw [if_pos c136] at e
            obtain ⟨M137, q138, h139⟩ := h133.si (o := x1 + 11) (n := 200) (v := G134 (x0 + 11) (x2).toNat) (xoL_all tx1 (Q := fun p => p + 11 < 276) (by decide) (by decide) (by decide) (by decide)) (xoL_all tx1 (Q := fun p => xl_t (p + 11) = (2, 3, 200)) rfl rfl rfl rfl) c136.1 c136.2 (h133.ain (o := x0 + 11) (n := 200) (xoL_all tx0 (Q := fun p => p + 11 < 276) (by decide) (by decide) (by decide) (by decide)) (xoL_all tx0 (Q := fun p => xl_t (p + 11) = (2, 3, 200)) rfl rfl rfl rfl) (by decide) c135.1 c135.2)
            refine xok_eqb q138 ?_
            obtain ⟨G140, g1, e⟩ := xbnd e
            cases g1
            have h139_ : xRX m M0 M137 (xup2 G134 (x1 + 11) (x2).toNat (G134 (x0 + 11) (x2).toNat)) := h139
            generalize hGG140 : (xup2 G134 (x1 + 11) (x2).toNat (G134 (x0 + 11) (x2).toNat)) = G140 at e h139
            clear h139_ hGG140
            refine xok_eqb (h139.pt (o := x1) (c := 13) (k := 13) (t := x1 + 12) (n := 37) (xoL_o tx1).1 (xoL_o tx1).2 (by decide) (xoL_all tx1 (Q := fun p => (p, 13, p + 12) ∈ xl_P) (by decide +kernel) (by decide +kernel) (by decide +kernel) (by decide +kernel))) ?_
            refine xok_eqb (h139.pt (o := x0) (c := 13) (k := 13) (t := x0 + 12) (n := 37) (xoL_o tx0).1 (xoL_o tx0).2 (by decide) (xoL_all tx0 (Q := fun p => (p, 13, p + 12) ∈ xl_P) (by decide +kernel) (by decide +kernel) (by decide +kernel) (by decide +kernel))) ?_
            by_cases c141 : 0 ≤ (x2) ∧ (x2) < 200
            · skip
              rw [if_pos c141] at e
              refine xok_eqb (h139.ai (o := x0 + 12) (n := 200) (xoL_all tx0 (Q := fun p => p + 12 < 276) (by decide) (by decide) (by decide) (by decide)) (xoL_all tx0 (Q := fun p => xl_t (p + 12) = (2, 3, 200)) rfl rfl rfl rfl) (by decide) c141.1 c141.2) ?_
              by_cases c142 : 0 ≤ (x2) ∧ (x2) < 200
              · skip
                rw [if_pos c142] at e
                obtain ⟨M143, q144, h145⟩ := h139.si (o := x1 + 12) (n := 200) (v := G140 (x0 + 12) (x2).toNat) (xoL_all tx1 (Q := fun p => p + 12 < 276) (by decide) (by decide) (by decide) (by decide)) (xoL_all tx1 (Q := fun p => xl_t (p + 12) = (2, 3, 200)) rfl rfl rfl rfl) c142.1 c142.2 (h139.ain (o := x0 + 12) (n := 200) (xoL_all tx0 (Q := fun p => p + 12 < 276) (by decide) (by decide) (by decide) (by decide)) (xoL_all tx0 (Q := fun p => xl_t (p + 12) = (2, 3, 200)) rfl rfl rfl rfl) (by decide) c141.1 c141.2)
                refine xok_eqb q144 ?_
                obtain ⟨G146, g1, e⟩ := xbnd e
                cases g1
                have h145_ : xRX m M0 M143 (xup2 G140 (x1 + 12) (x2).toNat (G140 (x0 + 12) (x2).toNat)) := h145
                generalize hGG146 : (xup2 G140 (x1 + 12) (x2).toNat (G140 (x0 + 12) (x2).toNat)) = G146 at e h145
                clear h145_ hGG146
                exact hr166 h145 tx0 tx1 (xin_wr _) e
              · rw [if_neg c142] at e; cases e
            · rw [if_neg c141] at e; cases e
          · rw [if_neg c136] at e; cases e
        · rw [if_neg c135] at e; cases e
      · rw [if_neg c130] at e; cases e
    · rw [if_neg c129] at e; cases e
theorem s316_166 {m f : Nat} {M0 : xj_M} (hI : xHI f)     : ∀ {n : Nat} {M : xj_M} {G : xG_} {x0 : Nat} {x1 : Nat} {x2 : Int} {R : xG_}, xRX m M0 M G → xoL x0 → xoL x1 → xin x2 → g316_166   f n x0 x1 x2 G = some R → xok (f316_166   f n (m + x0) (m + x1) x2 M) (fun r => xRX m M0 r R) := by
  intro n
  induction n with
  | zero => intros; rename_i e; cases e
  | succ n ih =>
    intros
    rename_i h i0 i1 i2 e
    exact s316_166b hI   ih h i0 i1 i2 e
theorem s316_69b {m f : Nat} {M0 M : xj_M} {G : xG_} (hI : xHI f)  {r69 : Nat → Nat → Int → xG_ → Option (xG_)} {o69 : Nat → Nat → Int → xj_M → Option (xj_M)}  (hr69 : ∀ {M : xj_M} {G : xG_} {x0 : Nat} {x1 : Nat} {x2 : Int} {R : xG_}, xRX m M0 M G → xoL x0 → xoL x1 → xin x2 → r69 x0 x1 x2 G = some R → xok (o69 (m + x0) (m + x1) x2 M) (fun r => xRX m M0 r R)) (h : xRX m M0 M G) {x0 : Nat} {x1 : Nat} {x2 : Int} {R : xG_} (tx0 : xoL x0) (tx1 : xoL x1) (tx2 : xin x2) (e : g316_69b  r69 f x0 x1 x2 G = some R) : xok (f316_69b  o69 f (m + x0) (m + x1) x2 M) (fun r => xRX m M0 r R) := by
  unfold g316_69b at e
  unfold f316_69b
  refine xok_eqb (h.gi (o := x0) (c := 13) (k := 10) (n := 37) (xoL_o tx0).1 (xoL_o tx0).2 (by decide) (by decide)) ?_
  refine xok_ite (fun c147 => ?_) (fun c147 => ?_)
  · rw [if_pos c147] at e
    exact s316_166 hI   h tx0 tx1 (show xin (0) by decide) e
  · rw [if_neg c147] at e
    refine xok_eqb (h.pt (o := x1) (c := 13) (k := 5) (t := x1 + 5) (n := 37) (xoL_o tx1).1 (xoL_o tx1).2 (by decide) (xoL_all tx1 (Q := fun p => (p, 5, p + 5) ∈ xl_P) (by decide +kernel) (by decide +kernel) (by decide +kernel) (by decide +kernel))) ?_
    refine xok_eqb (h.pt (o := x0) (c := 13) (k := 5) (t := x0 + 5) (n := 37) (xoL_o tx0).1 (xoL_o tx0).2 (by decide) (xoL_all tx0 (Q := fun p => (p, 5, p + 5) ∈ xl_P) (by decide +kernel) (by decide +kernel) (by decide +kernel) (by decide +kernel))) ?_
    by_cases c148 : 0 ≤ (x2) ∧ (x2) < 12000
    · skip
      rw [if_pos c148] at e
      refine xok_eqb (h.ai (o := x0 + 5) (n := 12000) (xoL_all tx0 (Q := fun p => p + 5 < 276) (by decide) (by decide) (by decide) (by decide)) (xoL_all tx0 (Q := fun p => xl_t (p + 5) = (2, 3, 12000)) rfl rfl rfl rfl) (by decide) c148.1 c148.2) ?_
      by_cases c149 : 0 ≤ (x2) ∧ (x2) < 12000
      · skip
        rw [if_pos c149] at e
        obtain ⟨M150, q151, h152⟩ := h.si (o := x1 + 5) (n := 12000) (v := G (x0 + 5) (x2).toNat) (xoL_all tx1 (Q := fun p => p + 5 < 276) (by decide) (by decide) (by decide) (by decide)) (xoL_all tx1 (Q := fun p => xl_t (p + 5) = (2, 3, 12000)) rfl rfl rfl rfl) c149.1 c149.2 (h.ain (o := x0 + 5) (n := 12000) (xoL_all tx0 (Q := fun p => p + 5 < 276) (by decide) (by decide) (by decide) (by decide)) (xoL_all tx0 (Q := fun p => xl_t (p + 5) = (2, 3, 12000)) rfl rfl rfl rfl) (by decide) c148.1 c148.2)
        refine xok_eqb q151 ?_
        obtain ⟨G153, g1, e⟩ := xbnd e
        cases g1
        have h152_ : xRX m M0 M150 (xup2 G (x1 + 5) (x2).toNat (G (x0 + 5) (x2).toNat)) := h152
        generalize hGG153 : (xup2 G (x1 + 5) (x2).toNat (G (x0 + 5) (x2).toNat)) = G153 at e h152
        clear h152_ hGG153
        refine xok_eqb (h152.pt (o := x1) (c := 13) (k := 6) (t := x1 + 6) (n := 37) (xoL_o tx1).1 (xoL_o tx1).2 (by decide) (xoL_all tx1 (Q := fun p => (p, 6, p + 6) ∈ xl_P) (by decide +kernel) (by decide +kernel) (by decide +kernel) (by decide +kernel))) ?_
        refine xok_eqb (h152.pt (o := x0) (c := 13) (k := 6) (t := x0 + 6) (n := 37) (xoL_o tx0).1 (xoL_o tx0).2 (by decide) (xoL_all tx0 (Q := fun p => (p, 6, p + 6) ∈ xl_P) (by decide +kernel) (by decide +kernel) (by decide +kernel) (by decide +kernel))) ?_
        by_cases c154 : 0 ≤ (x2) ∧ (x2) < 12000
        · skip
          rw [if_pos c154] at e
          refine xok_eqb (h152.ai (o := x0 + 6) (n := 12000) (xoL_all tx0 (Q := fun p => p + 6 < 276) (by decide) (by decide) (by decide) (by decide)) (xoL_all tx0 (Q := fun p => xl_t (p + 6) = (2, 3, 12000)) rfl rfl rfl rfl) (by decide) c154.1 c154.2) ?_
          by_cases c155 : 0 ≤ (x2) ∧ (x2) < 12000
          · skip
            rw [if_pos c155] at e
            obtain ⟨M156, q157, h158⟩ := h152.si (o := x1 + 6) (n := 12000) (v := G153 (x0 + 6) (x2).toNat) (xoL_all tx1 (Q := fun p => p + 6 < 276) (by decide) (by decide) (by decide) (by decide)) (xoL_all tx1 (Q := fun p => xl_t (p + 6) = (2, 3, 12000)) rfl rfl rfl rfl) c155.1 c155.2 (h152.ain (o := x0 + 6) (n := 12000) (xoL_all tx0 (Q := fun p => p + 6 < 276) (by decide) (by decide) (by decide) (by decide)) (xoL_all tx0 (Q := fun p => xl_t (p + 6) = (2, 3, 12000)) rfl rfl rfl rfl) (by decide) c154.1 c154.2)
            refine xok_eqb q157 ?_
            obtain ⟨G159, g1, e⟩ := xbnd e
            cases g1
            have h158_ : xRX m M0 M156 (xup2 G153 (x1 + 6) (x2).toNat (G153 (x0 + 6) (x2).toNat)) := h158
            generalize hGG159 : (xup2 G153 (x1 + 6) (x2).toNat (G153 (x0 + 6) (x2).toNat)) = G159 at e h158
            clear h158_ hGG159
            refine xok_eqb (h158.pt (o := x1) (c := 13) (k := 8) (t := x1 + 8) (n := 37) (xoL_o tx1).1 (xoL_o tx1).2 (by decide) (xoL_all tx1 (Q := fun p => (p, 8, p + 8) ∈ xl_P) (by decide +kernel) (by decide +kernel) (by decide +kernel) (by decide +kernel))) ?_
            refine xok_eqb (h158.pt (o := x0) (c := 13) (k := 8) (t := x0 + 8) (n := 37) (xoL_o tx0).1 (xoL_o tx0).2 (by decide) (xoL_all tx0 (Q := fun p => (p, 8, p + 8) ∈ xl_P) (by decide +kernel) (by decide +kernel) (by decide +kernel) (by decide +kernel))) ?_
            by_cases c160 : 0 ≤ (x2) ∧ (x2) < 12000
            · skip
              rw [if_pos c160] at e
              refine xok_eqb (h158.al (o := x0 + 8) (n := 12000) (xoL_all tx0 (Q := fun p => p + 8 < 276) (by decide) (by decide) (by decide) (by decide)) (xoL_all tx0 (Q := fun p => xl_t (p + 8) = (2, 4, 12000)) rfl rfl rfl rfl)  c160.1 c160.2) ?_
              by_cases c161 : 0 ≤ (x2) ∧ (x2) < 12000
              · skip
                rw [if_pos c161] at e
                obtain ⟨M162, q163, h164⟩ := h158.sl (o := x1 + 8) (n := 12000) (v := G159 (x0 + 8) (x2).toNat) (xoL_all tx1 (Q := fun p => p + 8 < 276) (by decide) (by decide) (by decide) (by decide)) (xoL_all tx1 (Q := fun p => xl_t (p + 8) = (2, 4, 12000)) rfl rfl rfl rfl) c161.1 c161.2 (h158.aln (o := x0 + 8) (n := 12000) (xoL_all tx0 (Q := fun p => p + 8 < 276) (by decide) (by decide) (by decide) (by decide)) (xoL_all tx0 (Q := fun p => xl_t (p + 8) = (2, 4, 12000)) rfl rfl rfl rfl)  c160.1 c160.2)
                refine xok_eqb q163 ?_
                obtain ⟨G165, g1, e⟩ := xbnd e
                cases g1
                have h164_ : xRX m M0 M162 (xup2 G159 (x1 + 8) (x2).toNat (G159 (x0 + 8) (x2).toNat)) := h164
                generalize hGG165 : (xup2 G159 (x1 + 8) (x2).toNat (G159 (x0 + 8) (x2).toNat)) = G165 at e h164
                clear h164_ hGG165
                refine xok_eqb (h164.pt (o := x1) (c := 13) (k := 7) (t := x1 + 7) (n := 37) (xoL_o tx1).1 (xoL_o tx1).2 (by decide) (xoL_all tx1 (Q := fun p => (p, 7, p + 7) ∈ xl_P) (by decide +kernel) (by decide +kernel) (by decide +kernel) (by decide +kernel))) ?_
                refine xok_eqb (h164.pt (o := x0) (c := 13) (k := 7) (t := x0 + 7) (n := 37) (xoL_o tx0).1 (xoL_o tx0).2 (by decide) (xoL_all tx0 (Q := fun p => (p, 7, p + 7) ∈ xl_P) (by decide +kernel) (by decide +kernel) (by decide +kernel) (by decide +kernel))) ?_
                by_cases c166 : 0 ≤ (x2) ∧ (x2) < 12000
                · skip
                  rw [if_pos c166] at e
                  refine xok_eqb (h164.ai (o := x0 + 7) (n := 12000) (xoL_all tx0 (Q := fun p => p + 7 < 276) (by decide) (by decide) (by decide) (by decide)) (xoL_all tx0 (Q := fun p => xl_t (p + 7) = (2, 3, 12000)) rfl rfl rfl rfl) (by decide) c166.1 c166.2) ?_
                  by_cases c167 : 0 ≤ (x2) ∧ (x2) < 12000
                  · skip
                    rw [if_pos c167] at e
                    obtain ⟨M168, q169, h170⟩ := h164.si (o := x1 + 7) (n := 12000) (v := G165 (x0 + 7) (x2).toNat) (xoL_all tx1 (Q := fun p => p + 7 < 276) (by decide) (by decide) (by decide) (by decide)) (xoL_all tx1 (Q := fun p => xl_t (p + 7) = (2, 3, 12000)) rfl rfl rfl rfl) c167.1 c167.2 (h164.ain (o := x0 + 7) (n := 12000) (xoL_all tx0 (Q := fun p => p + 7 < 276) (by decide) (by decide) (by decide) (by decide)) (xoL_all tx0 (Q := fun p => xl_t (p + 7) = (2, 3, 12000)) rfl rfl rfl rfl) (by decide) c166.1 c166.2)
                    refine xok_eqb q169 ?_
                    obtain ⟨G171, g1, e⟩ := xbnd e
                    cases g1
                    have h170_ : xRX m M0 M168 (xup2 G165 (x1 + 7) (x2).toNat (G165 (x0 + 7) (x2).toNat)) := h170
                    generalize hGG171 : (xup2 G165 (x1 + 7) (x2).toNat (G165 (x0 + 7) (x2).toNat)) = G171 at e h170
                    clear h170_ hGG171
                    exact s316_127 hI  hr69 h170 tx0 tx1 tx2 (show xin (0) by decide) e
                  · rw [if_neg c167] at e; cases e
                · rw [if_neg c166] at e; cases e
              · rw [if_neg c161] at e; cases e
            · rw [if_neg c160] at e; cases e
          · rw [if_neg c155] at e; cases e
        · rw [if_neg c154] at e; cases e
      · rw [if_neg c149] at e; cases e
    · rw [if_neg c148] at e; cases e
theorem s316_69 {m f : Nat} {M0 : xj_M} (hI : xHI f)     : ∀ {n : Nat} {M : xj_M} {G : xG_} {x0 : Nat} {x1 : Nat} {x2 : Int} {R : xG_}, xRX m M0 M G → xoL x0 → xoL x1 → xin x2 → g316_69   f n x0 x1 x2 G = some R → xok (f316_69   f n (m + x0) (m + x1) x2 M) (fun r => xRX m M0 r R) := by
  intro n
  induction n with
  | zero => intros; rename_i e; cases e
  | succ n ih =>
    intros
    rename_i h i0 i1 i2 e
    exact s316_69b hI   ih h i0 i1 i2 e
theorem sg316 {m f : Nat} {M0 M : xj_M} {G : xG_} (hI : xHI f)   (h : xRX m M0 M G) {a0 : Nat} {a1 : Nat} {R : xG_} (ta0 : xoL a0) (ta1 : xoL a1) (e : g316  f a0 a1 G = some R) : xok (f316  f (m + a0) (m + a1) M) (fun r => xRX m M0 r R) := by
  unfold g316 at e
  unfold f316
  refine xok_eqb (h.pt (o := a1) (c := 13) (k := 0) (t := a1 + 1) (n := 37) (xoL_o ta1).1 (xoL_o ta1).2 (by decide) (xoL_all ta1 (Q := fun p => (p, 0, p + 1) ∈ xl_P) (by decide +kernel) (by decide +kernel) (by decide +kernel) (by decide +kernel))) ?_
  refine xok_eqb (h.pt (o := a0) (c := 13) (k := 0) (t := a0 + 1) (n := 37) (xoL_o ta0).1 (xoL_o ta0).2 (by decide) (xoL_all ta0 (Q := fun p => (p, 0, p + 1) ∈ xl_P) (by decide +kernel) (by decide +kernel) (by decide +kernel) (by decide +kernel))) ?_
  obtain ⟨R172, e173, e⟩ := xbnd e
  refine xok_eqb (h.is (o := a1 + 1) (c := 12) (xoF_o (xoL_all ta1 (Q := fun p => xoF (p + 1)) (by unfold xoF; omega) (by unfold xoF; omega) (by unfold xoF; omega) (by unfold xoF; omega))).1 (xoF_o (xoL_all ta1 (Q := fun p => xoF (p + 1)) (by unfold xoF; omega) (by unfold xoF; omega) (by unfold xoF; omega) (by unfold xoF; omega))).2) ?_
  refine xok_call (sg194 hI  h (xoL_all ta1 (Q := fun p => xoF (p + 1)) (by unfold xoF; omega) (by unfold xoF; omega) (by unfold xoF; omega) (by unfold xoF; omega)) (xoL_all ta0 (Q := fun p => xoF (p + 1)) (by unfold xoF; omega) (by unfold xoF; omega) (by unfold xoF; omega) (by unfold xoF; omega)) e173) ?_
  intro M176 h174
  refine xok_eqb (h174.gi (o := a0) (c := 13) (k := 1) (n := 37) (xoL_o ta0).1 (xoL_o ta0).2 (by decide) (by decide)) ?_
  obtain ⟨M177, q178, h179⟩ := h174.pi (v := R172 (a0) 1) (o := a1) (c := 13) (k := 1) (n := 37) (xoL_o ta1).1 (xoL_o ta1).2 (by decide) (by decide) (h174.gin (o := a0) (c := 13) (k := 1) (n := 37) (xoL_o ta0).1 (xoL_o ta0).2 (by decide) (by decide))
  refine xok_eqb q178 ?_
  obtain ⟨G180, g1, e⟩ := xbnd e
  cases g1
  have h179_ : xRX m M0 M177 (xup2 R172 (a1) 1 (R172 (a0) 1)) := h179
  generalize hGG180 : (xup2 R172 (a1) 1 (R172 (a0) 1)) = G180 at e h179
  clear h179_ hGG180
  refine xok_eqb (h179.gi (o := a0) (c := 13) (k := 2) (n := 37) (xoL_o ta0).1 (xoL_o ta0).2 (by decide) (by decide)) ?_
  obtain ⟨M181, q182, h183⟩ := h179.pi (v := G180 (a0) 2) (o := a1) (c := 13) (k := 2) (n := 37) (xoL_o ta1).1 (xoL_o ta1).2 (by decide) (by decide) (h179.gin (o := a0) (c := 13) (k := 2) (n := 37) (xoL_o ta0).1 (xoL_o ta0).2 (by decide) (by decide))
  refine xok_eqb q182 ?_
  obtain ⟨G184, g1, e⟩ := xbnd e
  cases g1
  have h183_ : xRX m M0 M181 (xup2 G180 (a1) 2 (G180 (a0) 2)) := h183
  generalize hGG184 : (xup2 G180 (a1) 2 (G180 (a0) 2)) = G184 at e h183
  clear h183_ hGG184
  refine xok_eqb (h183.gi (o := a0) (c := 13) (k := 3) (n := 37) (xoL_o ta0).1 (xoL_o ta0).2 (by decide) (by decide)) ?_
  obtain ⟨M185, q186, h187⟩ := h183.pi (v := G184 (a0) 3) (o := a1) (c := 13) (k := 3) (n := 37) (xoL_o ta1).1 (xoL_o ta1).2 (by decide) (by decide) (h183.gin (o := a0) (c := 13) (k := 3) (n := 37) (xoL_o ta0).1 (xoL_o ta0).2 (by decide) (by decide))
  refine xok_eqb q186 ?_
  obtain ⟨G188, g1, e⟩ := xbnd e
  cases g1
  have h187_ : xRX m M0 M185 (xup2 G184 (a1) 3 (G184 (a0) 3)) := h187
  generalize hGG188 : (xup2 G184 (a1) 3 (G184 (a0) 3)) = G188 at e h187
  clear h187_ hGG188
  refine xok_eqb (h187.gi (o := a0) (c := 13) (k := 4) (n := 37) (xoL_o ta0).1 (xoL_o ta0).2 (by decide) (by decide)) ?_
  obtain ⟨M189, q190, h191⟩ := h187.pi (v := G188 (a0) 4) (o := a1) (c := 13) (k := 4) (n := 37) (xoL_o ta1).1 (xoL_o ta1).2 (by decide) (by decide) (h187.gin (o := a0) (c := 13) (k := 4) (n := 37) (xoL_o ta0).1 (xoL_o ta0).2 (by decide) (by decide))
  refine xok_eqb q190 ?_
  obtain ⟨G192, g1, e⟩ := xbnd e
  cases g1
  have h191_ : xRX m M0 M189 (xup2 G188 (a1) 4 (G188 (a0) 4)) := h191
  generalize hGG192 : (xup2 G188 (a1) 4 (G188 (a0) 4)) = G192 at e h191
  clear h191_ hGG192
  refine xok_eqb (h191.gi (o := a0) (c := 13) (k := 10) (n := 37) (xoL_o ta0).1 (xoL_o ta0).2 (by decide) (by decide)) ?_
  obtain ⟨M193, q194, h195⟩ := h191.pi (v := G192 (a0) 10) (o := a1) (c := 13) (k := 10) (n := 37) (xoL_o ta1).1 (xoL_o ta1).2 (by decide) (by decide) (h191.gin (o := a0) (c := 13) (k := 10) (n := 37) (xoL_o ta0).1 (xoL_o ta0).2 (by decide) (by decide))
  refine xok_eqb q194 ?_
  obtain ⟨G196, g1, e⟩ := xbnd e
  cases g1
  have h195_ : xRX m M0 M193 (xup2 G192 (a1) 10 (G192 (a0) 10)) := h195
  generalize hGG196 : (xup2 G192 (a1) 10 (G192 (a0) 10)) = G196 at e h195
  clear h195_ hGG196
  refine xok_eqb (h195.gi (o := a0) (c := 13) (k := 16) (n := 37) (xoL_o ta0).1 (xoL_o ta0).2 (by decide) (by decide)) ?_
  obtain ⟨M197, q198, h199⟩ := h195.pi (v := G196 (a0) 16) (o := a1) (c := 13) (k := 16) (n := 37) (xoL_o ta1).1 (xoL_o ta1).2 (by decide) (by decide) (h195.gin (o := a0) (c := 13) (k := 16) (n := 37) (xoL_o ta0).1 (xoL_o ta0).2 (by decide) (by decide))
  refine xok_eqb q198 ?_
  obtain ⟨G200, g1, e⟩ := xbnd e
  cases g1
  have h199_ : xRX m M0 M197 (xup2 G196 (a1) 16 (G196 (a0) 16)) := h199
  generalize hGG200 : (xup2 G196 (a1) 16 (G196 (a0) 16)) = G200 at e h199
  clear h199_ hGG200
  refine xok_eqb (h199.gi (o := a0) (c := 13) (k := 17) (n := 37) (xoL_o ta0).1 (xoL_o ta0).2 (by decide) (by decide)) ?_
  obtain ⟨M201, q202, h203⟩ := h199.pi (v := G200 (a0) 17) (o := a1) (c := 13) (k := 17) (n := 37) (xoL_o ta1).1 (xoL_o ta1).2 (by decide) (by decide) (h199.gin (o := a0) (c := 13) (k := 17) (n := 37) (xoL_o ta0).1 (xoL_o ta0).2 (by decide) (by decide))
  refine xok_eqb q202 ?_
  obtain ⟨G204, g1, e⟩ := xbnd e
  cases g1
  have h203_ : xRX m M0 M201 (xup2 G200 (a1) 17 (G200 (a0) 17)) := h203
  generalize hGG204 : (xup2 G200 (a1) 17 (G200 (a0) 17)) = G204 at e h203
  clear h203_ hGG204
  exact s316_69 hI   h203 ta0 ta1 (show xin (0) by decide) e
-- ChangeHouseModel.line
theorem s317_14 {m f : Nat} {M0 M : xj_M} {G : xG_} (hI : xHI f)     (h : xRX m M0 M G)  {R : Int × xG_}  (e : g317_14   f  G = some R) : xok (f317_14   f  M) (fun r => r.1 = R.1 ∧ xRX m M0 r.2 R.2 ∧ xin R.1) := by
  unfold g317_14 at e
  unfold f317_14
  cases e
  exact ⟨_, rfl, rfl, h, (show xin (-1) by decide)⟩
theorem sg317 {m f : Nat} {M0 M : xj_M} {G : xG_} (hI : xHI f)   (h : xRX m M0 M G) {a1 : Int} {R : Int × xG_} (ta1 : xin a1) (e : g317  f a1 G = some R) : xok (f317  f m a1 M) (fun r => r.1 = R.1 ∧ xRX m M0 r.2 R.2 ∧ xin R.1) := by
  unfold g317 at e
  unfold f317
  obtain ⟨M101, q102, h103⟩ := h.pi (v := 0) (o := 0) (c := 15) (k := 74) (n := 107) (by decide) rfl (by decide) (by decide) (show xin (0) by decide)
  refine xok_eqb q102 ?_
  obtain ⟨G104, g1, e⟩ := xbnd e
  cases g1
  have h103_ : xRX m M0 M101 (xup2 G (0) 74 (0)) := h103
  generalize hGG104 : (xup2 G (0) 74 (0)) = G104 at e h103
  clear h103_ hGG104
  refine xok_ite (fun c105 => ?_) (fun c105 => ?_)
  · rw [if_pos c105] at e
    exact s317_14 hI   h103  e
  · rw [if_neg c105] at e
    refine xok_ite (fun c106 => ?_) (fun c106 => ?_)
    · rw [if_pos c106] at e
      refine xok_eqb (h103.gi (o := 0) (c := 15) (k := 62) (n := 107) (by decide) rfl (by decide) (by decide)) ?_
      obtain ⟨M107, q108, h109⟩ := h103.pi (v := a1) (o := 0) (c := 15) (k := 62) (n := 107) (by decide) rfl (by decide) (by decide) ta1
      refine xok_eqb q108 ?_
      obtain ⟨G110, g1, e⟩ := xbnd e
      cases g1
      have h109_ : xRX m M0 M107 (xup2 G104 (0) 62 (a1)) := h109
      generalize hGG110 : (xup2 G104 (0) 62 (a1)) = G110 at e h109
      clear h109_ hGG110
      refine xok_eqb (h109.pt (o := 0) (c := 15) (k := 61) (t := 122) (n := 107) (by decide) rfl (by decide) (by decide +kernel)) ?_
      by_cases c111 : 0 ≤ (a1) ∧ (a1) < 4
      · skip
        rw [if_pos c111] at e
        refine xok_eqb (h109.lin c111) ?_
        obtain ⟨R112, e113, e⟩ := xbnd e
        refine xok_eqb (h109.is (o := 123 + 29 * (a1).toNat) (c := 13) (xoL_o (xoL_of c111)).1 (xoL_o (xoL_of c111)).2) ?_
        refine xok_call (sg203 hI  h109 (xoL_of c111) e113) ?_
        intro M116 h114
        cases e
        exact ⟨_, rfl, rfl, h114, (h103.gin (o := 0) (c := 15) (k := 62) (n := 107) (by decide) rfl (by decide) (by decide))⟩
      · rw [if_neg c111] at e; cases e
    · rw [if_neg c106] at e
      exact s317_14 hI   h103  e
-- ChangeHouseModel.isThen
theorem s319_48 {m f : Nat} {M0 M : xj_M} {G : xG_} (hI : xHI f)     (h : xRX m M0 M G) {y0 : Int} {R : Int × xG_} (ty0 : xin y0) (e : g319_48   f y0 G = some R) : xok (f319_48   f y0 M) (fun r => r.1 = R.1 ∧ xRX m M0 r.2 R.2 ∧ xin R.1) := by
  unfold g319_48 at e
  unfold f319_48
  refine xok_ite (fun c101 => ?_) (fun c101 => ?_)
  · rw [if_pos c101] at e; cases e; exact ⟨_, rfl, rfl, h, ty0⟩
  · rw [if_neg c101] at e; cases e
theorem s319_47 {m f : Nat} {M0 M : xj_M} {G : xG_} (hI : xHI f)     (h : xRX m M0 M G)  {R : Int × xG_}  (e : g319_47   f  G = some R) : xok (f319_47   f  M) (fun r => r.1 = R.1 ∧ xRX m M0 r.2 R.2 ∧ xin R.1) := by
  unfold g319_47 at e
  unfold f319_47
  exact s319_48 hI   h (show xin (0) by decide) e
theorem sg319 {m f : Nat} {M0 M : xj_M} {G : xG_} (hI : xHI f)   (h : xRX m M0 M G) {a1 : Int} {a2 : Int} {R : Int × xG_} (ta1 : xin a1) (ta2 : xin a2) (e : g319  f a1 a2 G = some R) : xok (f319  f m a1 a2 M) (fun r => r.1 = R.1 ∧ xRX m M0 r.2 R.2 ∧ xin R.1) := by
  unfold g319 at e
  unfold f319
  refine xok_eqb (h.pt (o := 0) (c := 15) (k := 80) (t := 253) (n := 107) (by decide) rfl (by decide) (by decide +kernel)) ?_
  refine xok_eqb (h.pt (o := 253) (c := 12) (k := 0) (t := 253 + 1) (n := 4) (xoF_o (show xoF 253 by unfold xoF; omega)).1 (xoF_o (show xoF 253 by unfold xoF; omega)).2 (by decide) (xoF_all (show xoF 253 by unfold xoF; omega) (Q := fun p => (p, 0, p + 1) ∈ xl_P) (by decide +kernel) (by decide +kernel) (by decide +kernel) (by decide +kernel) (by decide +kernel) (by decide +kernel) (by decide +kernel))) ?_
  by_cases c102 : 0 ≤ (a2) ∧ (a2) < 3400
  · skip
    rw [if_pos c102] at e
    refine xok_eqb (h.al (o := 253 + 1) (n := 3400) (xoF_all (show xoF 253 by unfold xoF; omega) (Q := fun p => p + 1 < 276) (by decide) (by decide) (by decide) (by decide) (by decide) (by decide) (by decide)) (xoF_all (show xoF 253 by unfold xoF; omega) (Q := fun p => xl_t (p + 1) = (2, 4, 3400)) rfl rfl rfl rfl rfl rfl rfl)  c102.1 c102.2) ?_
    refine xok_eqb (h.pt (o := 0) (c := 15) (k := 30) (t := 37) (n := 107) (by decide) rfl (by decide) (by decide +kernel)) ?_
    refine xok_eqb (h.pt (o := 37) (c := 14) (k := 0) (t := 37 + 1) (n := 38) (xoP_o (show xoP 37 by unfold xoP; omega)).1 (xoP_o (show xoP 37 by unfold xoP; omega)).2 (by decide) (xoP_all (show xoP 37 by unfold xoP; omega) (Q := fun p => (p, 0, p + 1) ∈ xl_P) (by decide +kernel) (by decide +kernel) (by decide +kernel))) ?_
    by_cases c103 : 0 ≤ (a1) ∧ (a1) < 16
    · skip
      rw [if_pos c103] at e
      refine xok_eqb (h.al (o := 37 + 1) (n := 16) (xoP_all (show xoP 37 by unfold xoP; omega) (Q := fun p => p + 1 < 276) (by decide) (by decide) (by decide)) (xoP_all (show xoP 37 by unfold xoP; omega) (Q := fun p => xl_t (p + 1) = (2, 4, 16)) rfl rfl rfl)  c103.1 c103.2) ?_
      refine xok_ite (fun c104 => ?_) (fun c104 => ?_)
      · rw [if_pos c104] at e
        exact s319_47 hI   h  e
      · rw [if_neg c104] at e
        refine xok_eqb (h.pt (o := 0) (c := 15) (k := 80) (t := 253) (n := 107) (by decide) rfl (by decide) (by decide +kernel)) ?_
        refine xok_eqb (h.pt (o := 253) (c := 12) (k := 2) (t := 253 + 3) (n := 4) (xoF_o (show xoF 253 by unfold xoF; omega)).1 (xoF_o (show xoF 253 by unfold xoF; omega)).2 (by decide) (xoF_all (show xoF 253 by unfold xoF; omega) (Q := fun p => (p, 2, p + 3) ∈ xl_P) (by decide +kernel) (by decide +kernel) (by decide +kernel) (by decide +kernel) (by decide +kernel) (by decide +kernel) (by decide +kernel))) ?_
        by_cases c105 : 0 ≤ (a2) ∧ (a2) < 3400
        · skip
          rw [if_pos c105] at e
          refine xok_eqb (h.ai (o := 253 + 3) (n := 3400) (xoF_all (show xoF 253 by unfold xoF; omega) (Q := fun p => p + 3 < 276) (by decide) (by decide) (by decide) (by decide) (by decide) (by decide) (by decide)) (xoF_all (show xoF 253 by unfold xoF; omega) (Q := fun p => xl_t (p + 3) = (2, 3, 3400)) rfl rfl rfl rfl rfl rfl rfl) (by decide) c105.1 c105.2) ?_
          refine xok_eqb (h.pt (o := 0) (c := 15) (k := 30) (t := 37) (n := 107) (by decide) rfl (by decide) (by decide +kernel)) ?_
          refine xok_eqb (h.pt (o := 37) (c := 14) (k := 1) (t := 37 + 2) (n := 38) (xoP_o (show xoP 37 by unfold xoP; omega)).1 (xoP_o (show xoP 37 by unfold xoP; omega)).2 (by decide) (xoP_all (show xoP 37 by unfold xoP; omega) (Q := fun p => (p, 1, p + 2) ∈ xl_P) (by decide +kernel) (by decide +kernel) (by decide +kernel))) ?_
          by_cases c106 : 0 ≤ (a1) ∧ (a1) < 16
          · skip
            rw [if_pos c106] at e
            refine xok_eqb (h.ai (o := 37 + 2) (n := 16) (xoP_all (show xoP 37 by unfold xoP; omega) (Q := fun p => p + 2 < 276) (by decide) (by decide) (by decide)) (xoP_all (show xoP 37 by unfold xoP; omega) (Q := fun p => xl_t (p + 2) = (2, 3, 16)) rfl rfl rfl) (by decide) c106.1 c106.2) ?_
            refine xok_ite (fun c107 => ?_) (fun c107 => ?_)
            · rw [if_pos c107] at e
              exact s319_47 hI   h  e
            · rw [if_neg c107] at e
              exact s319_48 hI   h (show xin (1) by decide) e
          · rw [if_neg c106] at e; cases e
        · rw [if_neg c105] at e; cases e
    · rw [if_neg c103] at e; cases e
  · rw [if_neg c102] at e; cases e
-- ChangeHouseModel.lost
theorem sg321 {m f : Nat} {M0 M : xj_M} {G : xG_} (hI : xHI f)   (h : xRX m M0 M G)  {R : Int × xG_}  (e : g321  f  G = some R) : xok (f321  f m M) (fun r => r.1 = R.1 ∧ xRX m M0 r.2 R.2 ∧ xin R.1) := by
  unfold g321 at e
  unfold f321
  obtain ⟨M101, q102, h103⟩ := h.pi (v := 1) (o := 0) (c := 15) (k := 74) (n := 107) (by decide) rfl (by decide) (by decide) (show xin (1) by decide)
  refine xok_eqb q102 ?_
  obtain ⟨G104, g1, e⟩ := xbnd e
  cases g1
  have h103_ : xRX m M0 M101 (xup2 G (0) 74 (1)) := h103
  generalize hGG104 : (xup2 G (0) 74 (1)) = G104 at e h103
  clear h103_ hGG104
  cases e
  exact ⟨_, rfl, rfl, h103, (show xin (0) by decide)⟩
-- ChangeHouseModel.lies
theorem sg322 {m f : Nat} {M0 M : xj_M} {G : xG_} (hI : xHI f)   (h : xRX m M0 M G) {a0 : Nat} {a1 : Nat} {a2 : Int} {R : Int × xG_} (ta0 : xoF a0) (ta1 : xoF a1) (ta2 : xin a2) (e : g322  f a0 a1 a2 G = some R) : xok (f322  f (m + a0) (m + a1) a2 M) (fun r => r.1 = R.1 ∧ xRX m M0 r.2 R.2 ∧ xin R.1) := by
  unfold g322 at e
  unfold f322
  refine xok_eqb (h.pt (o := a1) (c := 12) (k := 0) (t := a1 + 1) (n := 4) (xoF_o ta1).1 (xoF_o ta1).2 (by decide) (xoF_all ta1 (Q := fun p => (p, 0, p + 1) ∈ xl_P) (by decide +kernel) (by decide +kernel) (by decide +kernel) (by decide +kernel) (by decide +kernel) (by decide +kernel) (by decide +kernel))) ?_
  by_cases c101 : 0 ≤ (a2) ∧ (a2) < 3400
  · skip
    rw [if_pos c101] at e
    refine xok_eqb (h.al (o := a1 + 1) (n := 3400) (xoF_all ta1 (Q := fun p => p + 1 < 276) (by decide) (by decide) (by decide) (by decide) (by decide) (by decide) (by decide)) (xoF_all ta1 (Q := fun p => xl_t (p + 1) = (2, 4, 3400)) rfl rfl rfl rfl rfl rfl rfl)  c101.1 c101.2) ?_
    refine xok_eqb (h.pt (o := a1) (c := 12) (k := 2) (t := a1 + 3) (n := 4) (xoF_o ta1).1 (xoF_o ta1).2 (by decide) (xoF_all ta1 (Q := fun p => (p, 2, p + 3) ∈ xl_P) (by decide +kernel) (by decide +kernel) (by decide +kernel) (by decide +kernel) (by decide +kernel) (by decide +kernel) (by decide +kernel))) ?_
    by_cases c102 : 0 ≤ (a2) ∧ (a2) < 3400
    · skip
      rw [if_pos c102] at e
      refine xok_eqb (h.ai (o := a1 + 3) (n := 3400) (xoF_all ta1 (Q := fun p => p + 3 < 276) (by decide) (by decide) (by decide) (by decide) (by decide) (by decide) (by decide)) (xoF_all ta1 (Q := fun p => xl_t (p + 3) = (2, 3, 3400)) rfl rfl rfl rfl rfl rfl rfl) (by decide) c102.1 c102.2) ?_
      refine xok_eqb (h.pt (o := a1) (c := 12) (k := 1) (t := a1 + 2) (n := 4) (xoF_o ta1).1 (xoF_o ta1).2 (by decide) (xoF_all ta1 (Q := fun p => (p, 1, p + 2) ∈ xl_P) (by decide +kernel) (by decide +kernel) (by decide +kernel) (by decide +kernel) (by decide +kernel) (by decide +kernel) (by decide +kernel))) ?_
      obtain ⟨R103, e104, e⟩ := xbnd e
      refine xok_eqb (h.is (o := a0) (c := 12) (xoF_o ta0).1 (xoF_o ta0).2) ?_
      refine xok_call (sg197 hI  h ta0 (h.aln (o := a1 + 1) (n := 3400) (xoF_all ta1 (Q := fun p => p + 1 < 276) (by decide) (by decide) (by decide) (by decide) (by decide) (by decide) (by decide)) (xoF_all ta1 (Q := fun p => xl_t (p + 1) = (2, 4, 3400)) rfl rfl rfl rfl rfl rfl rfl)  c101.1 c101.2) (h.ain (o := a1 + 3) (n := 3400) (xoF_all ta1 (Q := fun p => p + 3 < 276) (by decide) (by decide) (by decide) (by decide) (by decide) (by decide) (by decide)) (xoF_all ta1 (Q := fun p => xl_t (p + 3) = (2, 3, 3400)) rfl rfl rfl rfl rfl rfl rfl) (by decide) c102.1 c102.2) (xoF_all ta1 (Q := fun p => xoJ (p + 2)) ⟨by decide, rfl⟩ ⟨by decide, rfl⟩ ⟨by decide, rfl⟩ ⟨by decide, rfl⟩ ⟨by decide, rfl⟩ ⟨by decide, rfl⟩ ⟨by decide, rfl⟩) (xin_wr _) e104) ?_
      rintro ⟨v_, M107⟩ ⟨hv_, h105, hi106⟩
      cases hv_
      refine xok_ite (fun c108 => ?_) (fun c108 => ?_)
      · rw [if_pos c108] at e; cases e; exact ⟨_, rfl, rfl, h105, hi106⟩
      · rw [if_neg c108] at e; cases e
    · rw [if_neg c102] at e; cases e
  · rw [if_neg c101] at e; cases e
-- ChangeHouseModel.sameKey
theorem s323_66 {m f : Nat} {M0 M : xj_M} {G : xG_} (hI : xHI f)  {r3 : Nat → Int → Nat → Int → Int → xG_ → Option (Int × xG_)} {o3 : Nat → Nat → Int → Nat → Int → Int → xj_M → Option (Int × xj_M)}  (hr3 : ∀ {M : xj_M} {G : xG_} {x1 : Nat} {x2 : Int} {x3 : Nat} {x4 : Int} {x5 : Int} {R : Int × xG_}, xRX m M0 M G → xoF x1 → xin x2 → xoF x3 → xin x4 → xin x5 → r3 x1 x2 x3 x4 x5 G = some R → xok (o3 m (m + x1) x2 (m + x3) x4 x5 M) (fun r => r.1 = R.1 ∧ xRX m M0 r.2 R.2 ∧ xin R.1)) (h : xRX m M0 M G) {x1 : Nat} {x2 : Int} {x3 : Nat} {x4 : Int} {x5 : Int} {R : Int × xG_} (tx1 : xoF x1) (tx2 : xin x2) (tx3 : xoF x3) (tx4 : xin x4) (tx5 : xin x5) (e : g323_66  r3 f x1 x2 x3 x4 x5 G = some R) : xok (f323_66  o3 f m (m + x1) x2 (m + x3) x4 x5 M) (fun r => r.1 = R.1 ∧ xRX m M0 r.2 R.2 ∧ xin R.1) := by
  unfold g323_66 at e
  unfold f323_66
  exact hr3 h tx1 tx2 tx3 tx4 (xin_wr _) e
theorem s323_3b {m f : Nat} {M0 M : xj_M} {G : xG_} (hI : xHI f)  {r3 : Nat → Int → Nat → Int → Int → xG_ → Option (Int × xG_)} {o3 : Nat → Nat → Int → Nat → Int → Int → xj_M → Option (Int × xj_M)}  (hr3 : ∀ {M : xj_M} {G : xG_} {x1 : Nat} {x2 : Int} {x3 : Nat} {x4 : Int} {x5 : Int} {R : Int × xG_}, xRX m M0 M G → xoF x1 → xin x2 → xoF x3 → xin x4 → xin x5 → r3 x1 x2 x3 x4 x5 G = some R → xok (o3 m (m + x1) x2 (m + x3) x4 x5 M) (fun r => r.1 = R.1 ∧ xRX m M0 r.2 R.2 ∧ xin R.1)) (h : xRX m M0 M G) {x1 : Nat} {x2 : Int} {x3 : Nat} {x4 : Int} {x5 : Int} {R : Int × xG_} (tx1 : xoF x1) (tx2 : xin x2) (tx3 : xoF x3) (tx4 : xin x4) (tx5 : xin x5) (e : g323_3b  r3 f x1 x2 x3 x4 x5 G = some R) : xok (f323_3b  o3 f m (m + x1) x2 (m + x3) x4 x5 M) (fun r => r.1 = R.1 ∧ xRX m M0 r.2 R.2 ∧ xin R.1) := by
  unfold g323_3b at e
  unfold f323_3b
  refine xok_eqb (h.gi (o := x1) (c := 12) (k := 3) (n := 4) (xoF_o tx1).1 (xoF_o tx1).2 (by decide) (by decide)) ?_
  refine xok_ite (fun c101 => ?_) (fun c101 => ?_)
  · rw [if_pos c101] at e
    cases e
    exact ⟨_, rfl, rfl, h, (show xin (-1) by decide)⟩
  · rw [if_neg c101] at e
    refine xok_eqb (h.pt (o := x1) (c := 12) (k := 0) (t := x1 + 1) (n := 4) (xoF_o tx1).1 (xoF_o tx1).2 (by decide) (xoF_all tx1 (Q := fun p => (p, 0, p + 1) ∈ xl_P) (by decide +kernel) (by decide +kernel) (by decide +kernel) (by decide +kernel) (by decide +kernel) (by decide +kernel) (by decide +kernel))) ?_
    by_cases c102 : 0 ≤ (x5) ∧ (x5) < 3400
    · skip
      rw [if_pos c102] at e
      refine xok_eqb (h.al (o := x1 + 1) (n := 3400) (xoF_all tx1 (Q := fun p => p + 1 < 276) (by decide) (by decide) (by decide) (by decide) (by decide) (by decide) (by decide)) (xoF_all tx1 (Q := fun p => xl_t (p + 1) = (2, 4, 3400)) rfl rfl rfl rfl rfl rfl rfl)  c102.1 c102.2) ?_
      refine xok_eqb (h.pt (o := 0) (c := 15) (k := 29) (t := 2) (n := 107) (by decide) rfl (by decide) (by decide +kernel)) ?_
      refine xok_eqb (h.pt (o := 2) (c := 14) (k := 0) (t := 2 + 1) (n := 38) (xoP_o (show xoP 2 by unfold xoP; omega)).1 (xoP_o (show xoP 2 by unfold xoP; omega)).2 (by decide) (xoP_all (show xoP 2 by unfold xoP; omega) (Q := fun p => (p, 0, p + 1) ∈ xl_P) (by decide +kernel) (by decide +kernel) (by decide +kernel))) ?_
      by_cases c103 : 0 ≤ (x2) ∧ (x2) < 16
      · skip
        rw [if_pos c103] at e
        refine xok_eqb (h.al (o := 2 + 1) (n := 16) (xoP_all (show xoP 2 by unfold xoP; omega) (Q := fun p => p + 1 < 276) (by decide) (by decide) (by decide)) (xoP_all (show xoP 2 by unfold xoP; omega) (Q := fun p => xl_t (p + 1) = (2, 4, 16)) rfl rfl rfl)  c103.1 c103.2) ?_
        refine xok_ite (fun c104 => ?_) (fun c104 => ?_)
        · rw [if_pos c104] at e
          exact s323_66 hI  hr3 h tx1 tx2 tx3 tx4 tx5 e
        · rw [if_neg c104] at e
          refine xok_eqb (h.pt (o := x1) (c := 12) (k := 1) (t := x1 + 2) (n := 4) (xoF_o tx1).1 (xoF_o tx1).2 (by decide) (xoF_all tx1 (Q := fun p => (p, 1, p + 2) ∈ xl_P) (by decide +kernel) (by decide +kernel) (by decide +kernel) (by decide +kernel) (by decide +kernel) (by decide +kernel) (by decide +kernel))) ?_
          refine xok_eqb (h.pt (o := x3) (c := 12) (k := 1) (t := x3 + 2) (n := 4) (xoF_o tx3).1 (xoF_o tx3).2 (by decide) (xoF_all tx3 (Q := fun p => (p, 1, p + 2) ∈ xl_P) (by decide +kernel) (by decide +kernel) (by decide +kernel) (by decide +kernel) (by decide +kernel) (by decide +kernel) (by decide +kernel))) ?_
          refine xok_eqb (h.pt (o := 0) (c := 15) (k := 29) (t := 2) (n := 107) (by decide) rfl (by decide) (by decide +kernel)) ?_
          refine xok_eqb (h.pt (o := 2) (c := 14) (k := 2) (t := 2 + 3) (n := 38) (xoP_o (show xoP 2 by unfold xoP; omega)).1 (xoP_o (show xoP 2 by unfold xoP; omega)).2 (by decide) (xoP_all (show xoP 2 by unfold xoP; omega) (Q := fun p => (p, 2, p + 3) ∈ xl_P) (by decide +kernel) (by decide +kernel) (by decide +kernel))) ?_
          by_cases c105 : 0 ≤ (x2) ∧ (x2) < 16
          · skip
            rw [if_pos c105] at e
            refine xok_eqb (h.ai (o := 2 + 3) (n := 16) (xoP_all (show xoP 2 by unfold xoP; omega) (Q := fun p => p + 3 < 276) (by decide) (by decide) (by decide)) (xoP_all (show xoP 2 by unfold xoP; omega) (Q := fun p => xl_t (p + 3) = (2, 3, 16)) rfl rfl rfl) (by decide) c105.1 c105.2) ?_
            obtain ⟨R106, e107, e⟩ := xbnd e
            refine xok_call (sg262 hI  h (xoF_all tx1 (Q := fun p => xoJ (p + 2)) ⟨by decide, rfl⟩ ⟨by decide, rfl⟩ ⟨by decide, rfl⟩ ⟨by decide, rfl⟩ ⟨by decide, rfl⟩ ⟨by decide, rfl⟩ ⟨by decide, rfl⟩) (xin_wr _) (xoF_all tx3 (Q := fun p => xoJ (p + 2)) ⟨by decide, rfl⟩ ⟨by decide, rfl⟩ ⟨by decide, rfl⟩ ⟨by decide, rfl⟩ ⟨by decide, rfl⟩ ⟨by decide, rfl⟩ ⟨by decide, rfl⟩) (xin_wr _) (h.ain (o := 2 + 3) (n := 16) (xoP_all (show xoP 2 by unfold xoP; omega) (Q := fun p => p + 3 < 276) (by decide) (by decide) (by decide)) (xoP_all (show xoP 2 by unfold xoP; omega) (Q := fun p => xl_t (p + 3) = (2, 3, 16)) rfl rfl rfl) (by decide) c105.1 c105.2) e107) ?_
            rintro ⟨v_, M110⟩ ⟨hv_, h108, hi109⟩
            cases hv_
            refine xok_ite (fun c111 => ?_) (fun c111 => ?_)
            · rw [if_pos c111] at e
              exact s323_66 hI  hr3 h108 tx1 tx2 tx3 tx4 tx5 e
            · rw [if_neg c111] at e
              cases e
              exact ⟨_, rfl, rfl, h108, tx5⟩
          · rw [if_neg c105] at e; cases e
      · rw [if_neg c103] at e; cases e
    · rw [if_neg c102] at e; cases e
theorem s323_3 {m f : Nat} {M0 : xj_M} (hI : xHI f)     : ∀ {n : Nat} {M : xj_M} {G : xG_} {x1 : Nat} {x2 : Int} {x3 : Nat} {x4 : Int} {x5 : Int} {R : Int × xG_}, xRX m M0 M G → xoF x1 → xin x2 → xoF x3 → xin x4 → xin x5 → g323_3   f n x1 x2 x3 x4 x5 G = some R → xok (f323_3   f n m (m + x1) x2 (m + x3) x4 x5 M) (fun r => r.1 = R.1 ∧ xRX m M0 r.2 R.2 ∧ xin R.1) := by
  intro n
  induction n with
  | zero => intros; rename_i e; cases e
  | succ n ih =>
    intros
    rename_i h i0 i1 i2 i3 i4 e
    exact s323_3b hI   ih h i0 i1 i2 i3 i4 e
theorem sg323 {m f : Nat} {M0 M : xj_M} {G : xG_} (hI : xHI f)   (h : xRX m M0 M G) {a1 : Nat} {a2 : Int} {a3 : Nat} {a4 : Int} {R : Int × xG_} (ta1 : xoF a1) (ta2 : xin a2) (ta3 : xoF a3) (ta4 : xin a4) (e : g323  f a1 a2 a3 a4 G = some R) : xok (f323  f m (m + a1) a2 (m + a3) a4 M) (fun r => r.1 = R.1 ∧ xRX m M0 r.2 R.2 ∧ xin R.1) := by
  unfold g323 at e
  unfold f323
  exact s323_3 hI   h ta1 ta2 ta3 ta4 (show xin (0) by decide) e
-- ChangeHouseModel.isSame
theorem s324_57 {m f : Nat} {M0 M : xj_M} {G : xG_} (hI : xHI f)     (h : xRX m M0 M G) {y0 : Int} {R : Int × xG_} (ty0 : xin y0) (e : g324_57   f y0 G = some R) : xok (f324_57   f y0 M) (fun r => r.1 = R.1 ∧ xRX m M0 r.2 R.2 ∧ xin R.1) := by
  unfold g324_57 at e
  unfold f324_57
  refine xok_ite (fun c101 => ?_) (fun c101 => ?_)
  · rw [if_pos c101] at e; cases e; exact ⟨_, rfl, rfl, h, ty0⟩
  · rw [if_neg c101] at e; cases e
theorem s324_11 {m f : Nat} {M0 M : xj_M} {G : xG_} (hI : xHI f)     (h : xRX m M0 M G) {x2 : Int} {x4 : Int} {R : Int × xG_} (tx2 : xin x2) (tx4 : xin x4) (e : g324_11   f x2 x4 G = some R) : xok (f324_11   f x2 x4 M) (fun r => r.1 = R.1 ∧ xRX m M0 r.2 R.2 ∧ xin R.1) := by
  unfold g324_11 at e
  unfold f324_11
  refine xok_ite (fun c102 => ?_) (fun c102 => ?_)
  · rw [if_pos c102] at e
    exact s324_57 hI   h (show xin (0) by decide) e
  · rw [if_neg c102] at e
    exact s324_57 hI   h (show xin (1) by decide) e
theorem sg324 {m f : Nat} {M0 M : xj_M} {G : xG_} (hI : xHI f)   (h : xRX m M0 M G) {a1 : Nat} {a2 : Int} {a3 : Nat} {a4 : Int} {R : Int × xG_} (ta1 : xoF a1) (ta2 : xin a2) (ta3 : xoF a3) (ta4 : xin a4) (e : g324  f a1 a2 a3 a4 G = some R) : xok (f324  f m (m + a1) a2 (m + a3) a4 M) (fun r => r.1 = R.1 ∧ xRX m M0 r.2 R.2 ∧ xin R.1) := by
  unfold g324 at e
  unfold f324
  refine xok_ite (fun c103 => ?_) (fun c103 => ?_)
  · rw [if_pos c103] at e
    exact s324_11 hI   h ta2 ta4 e
  · rw [if_neg c103] at e
    refine xok_ite (fun c104 => ?_) (fun c104 => ?_)
    · rw [if_pos c104] at e
      refine xok_eqb (h.pt (o := a1) (c := 12) (k := 1) (t := a1 + 2) (n := 4) (xoF_o ta1).1 (xoF_o ta1).2 (by decide) (xoF_all ta1 (Q := fun p => (p, 1, p + 2) ∈ xl_P) (by decide +kernel) (by decide +kernel) (by decide +kernel) (by decide +kernel) (by decide +kernel) (by decide +kernel) (by decide +kernel))) ?_
      refine xok_eqb (h.pt (o := a3) (c := 12) (k := 1) (t := a3 + 2) (n := 4) (xoF_o ta3).1 (xoF_o ta3).2 (by decide) (xoF_all ta3 (Q := fun p => (p, 1, p + 2) ∈ xl_P) (by decide +kernel) (by decide +kernel) (by decide +kernel) (by decide +kernel) (by decide +kernel) (by decide +kernel) (by decide +kernel))) ?_
      refine xok_eqb (h.pt (o := a1) (c := 12) (k := 2) (t := a1 + 3) (n := 4) (xoF_o ta1).1 (xoF_o ta1).2 (by decide) (xoF_all ta1 (Q := fun p => (p, 2, p + 3) ∈ xl_P) (by decide +kernel) (by decide +kernel) (by decide +kernel) (by decide +kernel) (by decide +kernel) (by decide +kernel) (by decide +kernel))) ?_
      by_cases c105 : 0 ≤ (a2) ∧ (a2) < 3400
      · skip
        rw [if_pos c105] at e
        refine xok_eqb (h.ai (o := a1 + 3) (n := 3400) (xoF_all ta1 (Q := fun p => p + 3 < 276) (by decide) (by decide) (by decide) (by decide) (by decide) (by decide) (by decide)) (xoF_all ta1 (Q := fun p => xl_t (p + 3) = (2, 3, 3400)) rfl rfl rfl rfl rfl rfl rfl) (by decide) c105.1 c105.2) ?_
        obtain ⟨R106, e107, e⟩ := xbnd e
        refine xok_call (sg262 hI  h (xoF_all ta1 (Q := fun p => xoJ (p + 2)) ⟨by decide, rfl⟩ ⟨by decide, rfl⟩ ⟨by decide, rfl⟩ ⟨by decide, rfl⟩ ⟨by decide, rfl⟩ ⟨by decide, rfl⟩ ⟨by decide, rfl⟩) (xin_wr _) (xoF_all ta3 (Q := fun p => xoJ (p + 2)) ⟨by decide, rfl⟩ ⟨by decide, rfl⟩ ⟨by decide, rfl⟩ ⟨by decide, rfl⟩ ⟨by decide, rfl⟩ ⟨by decide, rfl⟩ ⟨by decide, rfl⟩) (xin_wr _) (h.ain (o := a1 + 3) (n := 3400) (xoF_all ta1 (Q := fun p => p + 3 < 276) (by decide) (by decide) (by decide) (by decide) (by decide) (by decide) (by decide)) (xoF_all ta1 (Q := fun p => xl_t (p + 3) = (2, 3, 3400)) rfl rfl rfl rfl rfl rfl rfl) (by decide) c105.1 c105.2) e107) ?_
        rintro ⟨v_, M110⟩ ⟨hv_, h108, hi109⟩
        cases hv_
        refine xok_ite (fun c111 => ?_) (fun c111 => ?_)
        · rw [if_pos c111] at e
          exact s324_57 hI   h108 (show xin (0) by decide) e
        · rw [if_neg c111] at e
          exact s324_57 hI   h108 (show xin (1) by decide) e
      · rw [if_neg c105] at e; cases e
    · rw [if_neg c104] at e
      exact s324_11 hI   h ta2 ta4 e
-- ChangeHouseModel.meets
theorem s325_107 {m f : Nat} {M0 M : xj_M} {G : xG_} (hI : xHI f)     (h : xRX m M0 M G) {y0 : Int} {R : Int × xG_} (ty0 : xin y0) (e : g325_107   f y0 G = some R) : xok (f325_107   f y0 M) (fun r => r.1 = R.1 ∧ xRX m M0 r.2 R.2 ∧ xin R.1) := by
  unfold g325_107 at e
  unfold f325_107
  refine xok_ite (fun c101 => ?_) (fun c101 => ?_)
  · rw [if_pos c101] at e; cases e; exact ⟨_, rfl, rfl, h, ty0⟩
  · rw [if_neg c101] at e; cases e
theorem s325_106 {m f : Nat} {M0 M : xj_M} {G : xG_} (hI : xHI f)     (h : xRX m M0 M G)  {R : Int × xG_}  (e : g325_106   f  G = some R) : xok (f325_106   f  M) (fun r => r.1 = R.1 ∧ xRX m M0 r.2 R.2 ∧ xin R.1) := by
  unfold g325_106 at e
  unfold f325_106
  exact s325_107 hI   h (show xin (0) by decide) e
theorem sg325 {m f : Nat} {M0 M : xj_M} {G : xG_} (hI : xHI f)   (h : xRX m M0 M G) {a1 : Nat} {a2 : Nat} {a3 : Int} {a4 : Nat} {a5 : Int} {R : Int × xG_} (ta1 : xoL a1) (ta2 : xoL a2) (ta3 : xin a3) (ta4 : xoF a4) (ta5 : xin a5) (e : g325  f a1 a2 a3 a4 a5 G = some R) : xok (f325  f m (m + a1) (m + a2) a3 (m + a4) a5 M) (fun r => r.1 = R.1 ∧ xRX m M0 r.2 R.2 ∧ xin R.1) := by
  unfold g325 at e
  unfold f325
  refine xok_eqb (h.pt (o := a1) (c := 13) (k := 0) (t := a1 + 1) (n := 37) (xoL_o ta1).1 (xoL_o ta1).2 (by decide) (xoL_all ta1 (Q := fun p => (p, 0, p + 1) ∈ xl_P) (by decide +kernel) (by decide +kernel) (by decide +kernel) (by decide +kernel))) ?_
  obtain ⟨R102, e103, e⟩ := xbnd e
  refine xok_eqb (h.is (o := 0) (c := 15) (by decide) rfl) ?_
  refine xok_call (sg323 hI  h (xoL_all ta1 (Q := fun p => xoF (p + 1)) (by unfold xoF; omega) (by unfold xoF; omega) (by unfold xoF; omega) (by unfold xoF; omega)) ta3 ta4 ta5 e103) ?_
  rintro ⟨v_, M106⟩ ⟨hv_, h104, hi105⟩
  cases hv_
  refine xok_eqb (h104.pt (o := a2) (c := 13) (k := 0) (t := a2 + 1) (n := 37) (xoL_o ta2).1 (xoL_o ta2).2 (by decide) (xoL_all ta2 (Q := fun p => (p, 0, p + 1) ∈ xl_P) (by decide +kernel) (by decide +kernel) (by decide +kernel) (by decide +kernel))) ?_
  obtain ⟨R107, e108, e⟩ := xbnd e
  refine xok_eqb (h104.is (o := 0) (c := 15) (by decide) rfl) ?_
  refine xok_call (sg323 hI  h104 (xoL_all ta2 (Q := fun p => xoF (p + 1)) (by unfold xoF; omega) (by unfold xoF; omega) (by unfold xoF; omega) (by unfold xoF; omega)) ta3 ta4 ta5 e108) ?_
  rintro ⟨v_, M111⟩ ⟨hv_, h109, hi110⟩
  cases hv_
  refine xok_eqb (h109.pt (o := 0) (c := 15) (k := 80) (t := 253) (n := 107) (by decide) rfl (by decide) (by decide +kernel)) ?_
  obtain ⟨R112, e113, e⟩ := xbnd e
  refine xok_eqb (h109.is (o := 0) (c := 15) (by decide) rfl) ?_
  refine xok_call (sg323 hI  h109 (show xoF 253 by unfold xoF; omega) ta3 ta4 ta5 e113) ?_
  rintro ⟨v_, M116⟩ ⟨hv_, h114, hi115⟩
  cases hv_
  refine xok_eqb (h114.pt (o := a1) (c := 13) (k := 0) (t := a1 + 1) (n := 37) (xoL_o ta1).1 (xoL_o ta1).2 (by decide) (xoL_all ta1 (Q := fun p => (p, 0, p + 1) ∈ xl_P) (by decide +kernel) (by decide +kernel) (by decide +kernel) (by decide +kernel))) ?_
  refine xok_eqb (h114.pt (o := 0) (c := 15) (k := 80) (t := 253) (n := 107) (by decide) rfl (by decide) (by decide +kernel)) ?_
  obtain ⟨R117, e118, e⟩ := xbnd e
  refine xok_eqb (h114.is (o := 0) (c := 15) (by decide) rfl) ?_
  refine xok_call (sg324 hI  h114 (xoL_all ta1 (Q := fun p => xoF (p + 1)) (by unfold xoF; omega) (by unfold xoF; omega) (by unfold xoF; omega) (by unfold xoF; omega)) hi105 (show xoF 253 by unfold xoF; omega) hi115 e118) ?_
  rintro ⟨v_, M121⟩ ⟨hv_, h119, hi120⟩
  cases hv_
  refine xok_ite (fun c122 => ?_) (fun c122 => ?_)
  · rw [if_pos c122] at e
    exact s325_106 hI   h119  e
  · rw [if_neg c122] at e
    refine xok_eqb (h119.pt (o := a2) (c := 13) (k := 0) (t := a2 + 1) (n := 37) (xoL_o ta2).1 (xoL_o ta2).2 (by decide) (xoL_all ta2 (Q := fun p => (p, 0, p + 1) ∈ xl_P) (by decide +kernel) (by decide +kernel) (by decide +kernel) (by decide +kernel))) ?_
    refine xok_eqb (h119.pt (o := 0) (c := 15) (k := 80) (t := 253) (n := 107) (by decide) rfl (by decide) (by decide +kernel)) ?_
    obtain ⟨R123, e124, e⟩ := xbnd e
    refine xok_eqb (h119.is (o := 0) (c := 15) (by decide) rfl) ?_
    refine xok_call (sg324 hI  h119 (xoL_all ta2 (Q := fun p => xoF (p + 1)) (by unfold xoF; omega) (by unfold xoF; omega) (by unfold xoF; omega) (by unfold xoF; omega)) hi110 (show xoF 253 by unfold xoF; omega) hi115 e124) ?_
    rintro ⟨v_, M127⟩ ⟨hv_, h125, hi126⟩
    cases hv_
    refine xok_ite (fun c128 => ?_) (fun c128 => ?_)
    · rw [if_pos c128] at e
      exact s325_106 hI   h125  e
    · rw [if_neg c128] at e
      refine xok_eqb (h125.pt (o := a1) (c := 13) (k := 0) (t := a1 + 1) (n := 37) (xoL_o ta1).1 (xoL_o ta1).2 (by decide) (xoL_all ta1 (Q := fun p => (p, 0, p + 1) ∈ xl_P) (by decide +kernel) (by decide +kernel) (by decide +kernel) (by decide +kernel))) ?_
      refine xok_eqb (h125.pt (o := a2) (c := 13) (k := 0) (t := a2 + 1) (n := 37) (xoL_o ta2).1 (xoL_o ta2).2 (by decide) (xoL_all ta2 (Q := fun p => (p, 0, p + 1) ∈ xl_P) (by decide +kernel) (by decide +kernel) (by decide +kernel) (by decide +kernel))) ?_
      obtain ⟨R129, e130, e⟩ := xbnd e
      refine xok_eqb (h125.is (o := 0) (c := 15) (by decide) rfl) ?_
      refine xok_call (sg324 hI  h125 (xoL_all ta1 (Q := fun p => xoF (p + 1)) (by unfold xoF; omega) (by unfold xoF; omega) (by unfold xoF; omega) (by unfold xoF; omega)) hi105 (xoL_all ta2 (Q := fun p => xoF (p + 1)) (by unfold xoF; omega) (by unfold xoF; omega) (by unfold xoF; omega) (by unfold xoF; omega)) hi110 e130) ?_
      rintro ⟨v_, M133⟩ ⟨hv_, h131, hi132⟩
      cases hv_
      refine xok_ite (fun c134 => ?_) (fun c134 => ?_)
      · rw [if_pos c134] at e
        exact s325_106 hI   h131  e
      · rw [if_neg c134] at e
        exact s325_107 hI   h131 (show xin (1) by decide) e
-- ChangeHouseModel.findMeeting
theorem s327_363 {m f : Nat} {M0 M : xj_M} {G : xG_} (hI : xHI f)  {r2 : Nat → Nat → Int → xG_ → Option (Int × xG_)} {o2 : Nat → Nat → Nat → Int → xj_M → Option (Int × xj_M)}  (hr2 : ∀ {M : xj_M} {G : xG_} {x1 : Nat} {x2 : Nat} {x3 : Int} {R : Int × xG_}, xRX m M0 M G → xoL x1 → xoL x2 → xin x3 → r2 x1 x2 x3 G = some R → xok (o2 m (m + x1) (m + x2) x3 M) (fun r => r.1 = R.1 ∧ xRX m M0 r.2 R.2 ∧ xin R.1)) (h : xRX m M0 M G) {x1 : Nat} {x2 : Nat} {x3 : Int} {R : Int × xG_} (tx1 : xoL x1) (tx2 : xoL x2) (tx3 : xin x3) (e : g327_363  r2 f x1 x2 x3 G = some R) : xok (f327_363  o2 f m (m + x1) (m + x2) x3 M) (fun r => r.1 = R.1 ∧ xRX m M0 r.2 R.2 ∧ xin R.1) := by
  unfold g327_363 at e
  unfold f327_363
  exact hr2 h tx1 tx2 (xin_wr _) e
theorem s327_293b {m f : Nat} {M0 M : xj_M} {G : xG_} (hI : xHI f)  {r293 : Nat → Int → Int → xG_ → Option (Int × xG_)} {o293 : Nat → Nat → Int → Int → xj_M → Option (Int × xj_M)}  (hr293 : ∀ {M : xj_M} {G : xG_} {x7 : Nat} {x8 : Int} {x10 : Int} {R : Int × xG_}, xRX m M0 M G → xoF x7 → xin x8 → xin x10 → r293 x7 x8 x10 G = some R → xok (o293 m (m + x7) x8 x10 M) (fun r => r.1 = R.1 ∧ xRX m M0 r.2 R.2 ∧ xin R.1)) (h : xRX m M0 M G) {x7 : Nat} {x8 : Int} {x10 : Int} {R : Int × xG_} (tx7 : xoF x7) (tx8 : xin x8) (tx10 : xin x10) (e : g327_293b  r293 f x7 x8 x10 G = some R) : xok (f327_293b  o293 f m (m + x7) x8 x10 M) (fun r => r.1 = R.1 ∧ xRX m M0 r.2 R.2 ∧ xin R.1) := by
  unfold g327_293b at e
  unfold f327_293b
  refine xok_eqb (h.gi (o := 0) (c := 15) (k := 83) (n := 107) (by decide) rfl (by decide) (by decide)) ?_
  refine xok_ite (fun c101 => ?_) (fun c101 => ?_)
  · rw [if_pos c101] at e
    cases e
    exact ⟨_, rfl, rfl, h, (show xin (1) by decide)⟩
  · rw [if_neg c101] at e
    refine xok_eqb (h.pt (o := 0) (c := 15) (k := 81) (t := 257) (n := 107) (by decide) rfl (by decide) (by decide +kernel)) ?_
    refine xok_eqb (h.pt (o := x7) (c := 12) (k := 1) (t := x7 + 2) (n := 4) (xoF_o tx7).1 (xoF_o tx7).2 (by decide) (xoF_all tx7 (Q := fun p => (p, 1, p + 2) ∈ xl_P) (by decide +kernel) (by decide +kernel) (by decide +kernel) (by decide +kernel) (by decide +kernel) (by decide +kernel) (by decide +kernel))) ?_
    by_cases c102 : 0 ≤ (xwr ((xwr ((4) * (x8))) + (x10))) ∧ (xwr ((xwr ((4) * (x8))) + (x10))) < 13600
    · skip
      rw [if_pos c102] at e
      refine xok_eqb (h.al (o := x7 + 2) (n := 13600) (xoF_all tx7 (Q := fun p => p + 2 < 276) (by decide) (by decide) (by decide) (by decide) (by decide) (by decide) (by decide)) (xoF_all tx7 (Q := fun p => xl_t (p + 2) = (2, 4, 13600)) rfl rfl rfl rfl rfl rfl rfl)  c102.1 c102.2) ?_
      by_cases c103 : 0 ≤ (x10) ∧ (x10) < 4
      · skip
        rw [if_pos c103] at e
        obtain ⟨M104, q105, h106⟩ := h.sl (o := 257) (n := 4) (v := G (x7 + 2) (xwr ((xwr ((4) * (x8))) + (x10))).toNat) (by decide) rfl c103.1 c103.2 (h.aln (o := x7 + 2) (n := 13600) (xoF_all tx7 (Q := fun p => p + 2 < 276) (by decide) (by decide) (by decide) (by decide) (by decide) (by decide) (by decide)) (xoF_all tx7 (Q := fun p => xl_t (p + 2) = (2, 4, 13600)) rfl rfl rfl rfl rfl rfl rfl)  c102.1 c102.2)
        refine xok_eqb q105 ?_
        obtain ⟨G107, g1, e⟩ := xbnd e
        cases g1
        have h106_ : xRX m M0 M104 (xup2 G (257) (x10).toNat (G (x7 + 2) (xwr ((xwr ((4) * (x8))) + (x10))).toNat)) := h106
        generalize hGG107 : (xup2 G (257) (x10).toNat (G (x7 + 2) (xwr ((xwr ((4) * (x8))) + (x10))).toNat)) = G107 at e h106
        clear h106_ hGG107
        exact hr293 h106 tx7 tx8 (xin_wr _) e
      · rw [if_neg c103] at e; cases e
    · rw [if_neg c102] at e; cases e
theorem s327_293 {m f : Nat} {M0 : xj_M} (hI : xHI f)     : ∀ {n : Nat} {M : xj_M} {G : xG_} {x7 : Nat} {x8 : Int} {x10 : Int} {R : Int × xG_}, xRX m M0 M G → xoF x7 → xin x8 → xin x10 → g327_293   f n x7 x8 x10 G = some R → xok (f327_293   f n m (m + x7) x8 x10 M) (fun r => r.1 = R.1 ∧ xRX m M0 r.2 R.2 ∧ xin R.1) := by
  intro n
  induction n with
  | zero => intros; rename_i e; cases e
  | succ n ih =>
    intros
    rename_i h i0 i1 i2 e
    exact s327_293b hI   ih h i0 i1 i2 e
theorem s327_357 {m f : Nat} {M0 M : xj_M} {G : xG_} (hI : xHI f)  {r2 : Nat → Nat → Int → xG_ → Option (Int × xG_)} {o2 : Nat → Nat → Nat → Int → xj_M → Option (Int × xj_M)} {r46 : Nat → Nat → Int → Int → Int → xG_ → Option (Int × xG_)} {o46 : Nat → Nat → Nat → Int → Int → Int → xj_M → Option (Int × xj_M)}  (hr2 : ∀ {M : xj_M} {G : xG_} {x1 : Nat} {x2 : Nat} {x3 : Int} {R : Int × xG_}, xRX m M0 M G → xoL x1 → xoL x2 → xin x3 → r2 x1 x2 x3 G = some R → xok (o2 m (m + x1) (m + x2) x3 M) (fun r => r.1 = R.1 ∧ xRX m M0 r.2 R.2 ∧ xin R.1)) (hr46 : ∀ {M : xj_M} {G : xG_} {x1 : Nat} {x2 : Nat} {x3 : Int} {x4 : Int} {x5 : Int} {R : Int × xG_}, xRX m M0 M G → xoL x1 → xoL x2 → xin x3 → xin x4 → xin x5 → r46 x1 x2 x3 x4 x5 G = some R → xok (o46 m (m + x1) (m + x2) x3 x4 x5 M) (fun r => r.1 = R.1 ∧ xRX m M0 r.2 R.2 ∧ xin R.1)) (h : xRX m M0 M G) {x1 : Nat} {x2 : Nat} {x3 : Int} {x4 : Int} {y0 : Int} {y1 : Int} {R : Int × xG_} (tx1 : xoL x1) (tx2 : xoL x2) (tx3 : xin x3) (tx4 : xin x4) (ty0 : xin y0) (ty1 : xin y1) (e : g327_357  r2 r46 f x1 x2 x3 x4 y0 y1 G = some R) : xok (f327_357  o2 o46 f m (m + x1) (m + x2) x3 x4 y0 y1 M) (fun r => r.1 = R.1 ∧ xRX m M0 r.2 R.2 ∧ xin R.1) := by
  unfold g327_357 at e
  unfold f327_357
  exact hr46 h tx1 tx2 tx3 tx4 (xin_wr _) e
theorem s327_342 {m f : Nat} {M0 M : xj_M} {G : xG_} (hI : xHI f)  {r2 : Nat → Nat → Int → xG_ → Option (Int × xG_)} {o2 : Nat → Nat → Nat → Int → xj_M → Option (Int × xj_M)} {r46 : Nat → Nat → Int → Int → Int → xG_ → Option (Int × xG_)} {o46 : Nat → Nat → Nat → Int → Int → Int → xj_M → Option (Int × xj_M)}  (hr2 : ∀ {M : xj_M} {G : xG_} {x1 : Nat} {x2 : Nat} {x3 : Int} {R : Int × xG_}, xRX m M0 M G → xoL x1 → xoL x2 → xin x3 → r2 x1 x2 x3 G = some R → xok (o2 m (m + x1) (m + x2) x3 M) (fun r => r.1 = R.1 ∧ xRX m M0 r.2 R.2 ∧ xin R.1)) (hr46 : ∀ {M : xj_M} {G : xG_} {x1 : Nat} {x2 : Nat} {x3 : Int} {x4 : Int} {x5 : Int} {R : Int × xG_}, xRX m M0 M G → xoL x1 → xoL x2 → xin x3 → xin x4 → xin x5 → r46 x1 x2 x3 x4 x5 G = some R → xok (o46 m (m + x1) (m + x2) x3 x4 x5 M) (fun r => r.1 = R.1 ∧ xRX m M0 r.2 R.2 ∧ xin R.1)) (h : xRX m M0 M G) {x1 : Nat} {x2 : Nat} {x3 : Int} {x5 : Int} {x6 : Int} {y0 : Int} {y1 : Int} {R : Int × xG_} (tx1 : xoL x1) (tx2 : xoL x2) (tx3 : xin x3) (tx5 : xin x5) (tx6 : xin x6) (ty0 : xin y0) (ty1 : xin y1) (e : g327_342  r2 r46 f x1 x2 x3 x5 x6 y0 y1 G = some R) : xok (f327_342  o2 o46 f m (m + x1) (m + x2) x3 x5 x6 y0 y1 M) (fun r => r.1 = R.1 ∧ xRX m M0 r.2 R.2 ∧ xin R.1) := by
  unfold g327_342 at e
  unfold f327_342
  refine xok_ite (fun c108 => ?_) (fun c108 => ?_)
  · rw [if_pos c108] at e
    exact s327_357 hI  hr2 hr46 h tx1 tx2 tx3 (xin_wr _) (show xin (0) by decide) tx5 e
  · rw [if_neg c108] at e
    exact s327_357 hI  hr2 hr46 h tx1 tx2 tx3 (xin_wr _) (show xin (1) by decide) tx5 e
theorem s327_330 {m f : Nat} {M0 M : xj_M} {G : xG_} (hI : xHI f)  {r2 : Nat → Nat → Int → xG_ → Option (Int × xG_)} {o2 : Nat → Nat → Nat → Int → xj_M → Option (Int × xj_M)} {r46 : Nat → Nat → Int → Int → Int → xG_ → Option (Int × xG_)} {o46 : Nat → Nat → Nat → Int → Int → Int → xj_M → Option (Int × xj_M)}  (hr2 : ∀ {M : xj_M} {G : xG_} {x1 : Nat} {x2 : Nat} {x3 : Int} {R : Int × xG_}, xRX m M0 M G → xoL x1 → xoL x2 → xin x3 → r2 x1 x2 x3 G = some R → xok (o2 m (m + x1) (m + x2) x3 M) (fun r => r.1 = R.1 ∧ xRX m M0 r.2 R.2 ∧ xin R.1)) (hr46 : ∀ {M : xj_M} {G : xG_} {x1 : Nat} {x2 : Nat} {x3 : Int} {x4 : Int} {x5 : Int} {R : Int × xG_}, xRX m M0 M G → xoL x1 → xoL x2 → xin x3 → xin x4 → xin x5 → r46 x1 x2 x3 x4 x5 G = some R → xok (o46 m (m + x1) (m + x2) x3 x4 x5 M) (fun r => r.1 = R.1 ∧ xRX m M0 r.2 R.2 ∧ xin R.1)) (h : xRX m M0 M G) {x1 : Nat} {x2 : Nat} {x3 : Int} {x4 : Int} {x5 : Int} {x6 : Int} {R : Int × xG_} (tx1 : xoL x1) (tx2 : xoL x2) (tx3 : xin x3) (tx4 : xin x4) (tx5 : xin x5) (tx6 : xin x6) (e : g327_330  r2 r46 f x1 x2 x3 x4 x5 x6 G = some R) : xok (f327_330  o2 o46 f m (m + x1) (m + x2) x3 x4 x5 x6 M) (fun r => r.1 = R.1 ∧ xRX m M0 r.2 R.2 ∧ xin R.1) := by
  unfold g327_330 at e
  unfold f327_330
  refine xok_ite (fun c109 => ?_) (fun c109 => ?_)
  · rw [if_pos c109] at e
    exact s327_342 hI  hr2 hr46 h tx1 tx2 tx3 tx5 tx6 (show xin (0) by decide) tx4 e
  · rw [if_neg c109] at e
    exact s327_342 hI  hr2 hr46 h tx1 tx2 tx3 tx5 tx6 (show xin (1) by decide) tx4 e
theorem s327_251 {m f : Nat} {M0 M : xj_M} {G : xG_} (hI : xHI f)  {r2 : Nat → Nat → Int → xG_ → Option (Int × xG_)} {o2 : Nat → Nat → Nat → Int → xj_M → Option (Int × xj_M)} {r46 : Nat → Nat → Int → Int → Int → xG_ → Option (Int × xG_)} {o46 : Nat → Nat → Nat → Int → Int → Int → xj_M → Option (Int × xj_M)}  (hr2 : ∀ {M : xj_M} {G : xG_} {x1 : Nat} {x2 : Nat} {x3 : Int} {R : Int × xG_}, xRX m M0 M G → xoL x1 → xoL x2 → xin x3 → r2 x1 x2 x3 G = some R → xok (o2 m (m + x1) (m + x2) x3 M) (fun r => r.1 = R.1 ∧ xRX m M0 r.2 R.2 ∧ xin R.1)) (hr46 : ∀ {M : xj_M} {G : xG_} {x1 : Nat} {x2 : Nat} {x3 : Int} {x4 : Int} {x5 : Int} {R : Int × xG_}, xRX m M0 M G → xoL x1 → xoL x2 → xin x3 → xin x4 → xin x5 → r46 x1 x2 x3 x4 x5 G = some R → xok (o46 m (m + x1) (m + x2) x3 x4 x5 M) (fun r => r.1 = R.1 ∧ xRX m M0 r.2 R.2 ∧ xin R.1)) (h : xRX m M0 M G) {x1 : Nat} {x2 : Nat} {x3 : Int} {x4 : Int} {x5 : Int} {x6 : Int} {x7 : Nat} {x8 : Int} {y0 : Int} {R : Int × xG_} (tx1 : xoL x1) (tx2 : xoL x2) (tx3 : xin x3) (tx4 : xin x4) (tx5 : xin x5) (tx6 : xin x6) (tx7 : xoF x7) (tx8 : xin x8) (ty0 : xin y0) (e : g327_251  r2 r46 f x1 x2 x3 x4 x5 x6 x7 x8 y0 G = some R) : xok (f327_251  o2 o46 f m (m + x1) (m + x2) x3 x4 x5 x6 (m + x7) x8 y0 M) (fun r => r.1 = R.1 ∧ xRX m M0 r.2 R.2 ∧ xin R.1) := by
  unfold g327_251 at e
  unfold f327_251
  refine xok_ite (fun c110 => ?_) (fun c110 => ?_)
  · rw [if_pos c110] at e
    exact s327_330 hI  hr2 hr46 h tx1 tx2 tx3 tx4 tx5 tx6 e
  · rw [if_neg c110] at e
    obtain ⟨R111, e112, e⟩ := xbnd e
    refine xok_eqb (h.is (o := 0) (c := 15) (by decide) rfl) ?_
    refine xok_call (sg325 hI  h tx1 tx2 tx3 tx7 tx8 e112) ?_
    rintro ⟨v_, M115⟩ ⟨hv_, h113, hi114⟩
    cases hv_
    refine xok_ite (fun c116 => ?_) (fun c116 => ?_)
    · rw [if_pos c116] at e
      exact s327_330 hI  hr2 hr46 h113 tx1 tx2 tx3 tx4 tx5 tx6 e
    · rw [if_neg c116] at e
      obtain ⟨M117, q118, h119⟩ := h113.pi (v := x3) (o := 0) (c := 15) (k := 82) (n := 107) (by decide) rfl (by decide) (by decide) tx3
      refine xok_eqb q118 ?_
      obtain ⟨G120, g1, e⟩ := xbnd e
      cases g1
      have h119_ : xRX m M0 M117 (xup2 R111.2 (0) 82 (x3)) := h119
      generalize hGG120 : (xup2 R111.2 (0) 82 (x3)) = G120 at e h119
      clear h119_ hGG120
      refine xok_eqb (h119.pt (o := 0) (c := 15) (k := 29) (t := 2) (n := 107) (by decide) rfl (by decide) (by decide +kernel)) ?_
      refine xok_eqb (h119.pt (o := 2) (c := 14) (k := 2) (t := 2 + 3) (n := 38) (xoP_o (show xoP 2 by unfold xoP; omega)).1 (xoP_o (show xoP 2 by unfold xoP; omega)).2 (by decide) (xoP_all (show xoP 2 by unfold xoP; omega) (Q := fun p => (p, 2, p + 3) ∈ xl_P) (by decide +kernel) (by decide +kernel) (by decide +kernel))) ?_
      by_cases c121 : 0 ≤ (x3) ∧ (x3) < 16
      · skip
        rw [if_pos c121] at e
        refine xok_eqb (h119.ai (o := 2 + 3) (n := 16) (xoP_all (show xoP 2 by unfold xoP; omega) (Q := fun p => p + 3 < 276) (by decide) (by decide) (by decide)) (xoP_all (show xoP 2 by unfold xoP; omega) (Q := fun p => xl_t (p + 3) = (2, 3, 16)) rfl rfl rfl) (by decide) c121.1 c121.2) ?_
        obtain ⟨M122, q123, h124⟩ := h119.pi (v := G120 (2 + 3) (x3).toNat) (o := 0) (c := 15) (k := 83) (n := 107) (by decide) rfl (by decide) (by decide) (h119.ain (o := 2 + 3) (n := 16) (xoP_all (show xoP 2 by unfold xoP; omega) (Q := fun p => p + 3 < 276) (by decide) (by decide) (by decide)) (xoP_all (show xoP 2 by unfold xoP; omega) (Q := fun p => xl_t (p + 3) = (2, 3, 16)) rfl rfl rfl) (by decide) c121.1 c121.2)
        refine xok_eqb q123 ?_
        obtain ⟨G125, g1, e⟩ := xbnd e
        cases g1
        have h124_ : xRX m M0 M122 (xup2 G120 (0) 83 (G120 (2 + 3) (x3).toNat)) := h124
        generalize hGG125 : (xup2 G120 (0) 83 (G120 (2 + 3) (x3).toNat)) = G125 at e h124
        clear h124_ hGG125
        exact s327_293 hI   h124 tx7 tx8 (show xin (0) by decide) e
      · rw [if_neg c121] at e; cases e
theorem s327_246 {m f : Nat} {M0 M : xj_M} {G : xG_} (hI : xHI f)  {r2 : Nat → Nat → Int → xG_ → Option (Int × xG_)} {o2 : Nat → Nat → Nat → Int → xj_M → Option (Int × xj_M)} {r46 : Nat → Nat → Int → Int → Int → xG_ → Option (Int × xG_)} {o46 : Nat → Nat → Nat → Int → Int → Int → xj_M → Option (Int × xj_M)}  (hr2 : ∀ {M : xj_M} {G : xG_} {x1 : Nat} {x2 : Nat} {x3 : Int} {R : Int × xG_}, xRX m M0 M G → xoL x1 → xoL x2 → xin x3 → r2 x1 x2 x3 G = some R → xok (o2 m (m + x1) (m + x2) x3 M) (fun r => r.1 = R.1 ∧ xRX m M0 r.2 R.2 ∧ xin R.1)) (hr46 : ∀ {M : xj_M} {G : xG_} {x1 : Nat} {x2 : Nat} {x3 : Int} {x4 : Int} {x5 : Int} {R : Int × xG_}, xRX m M0 M G → xoL x1 → xoL x2 → xin x3 → xin x4 → xin x5 → r46 x1 x2 x3 x4 x5 G = some R → xok (o46 m (m + x1) (m + x2) x3 x4 x5 M) (fun r => r.1 = R.1 ∧ xRX m M0 r.2 R.2 ∧ xin R.1)) (h : xRX m M0 M G) {x1 : Nat} {x2 : Nat} {x3 : Int} {x4 : Int} {x5 : Int} {x6 : Int} {x7 : Nat} {x8 : Int} {R : Int × xG_} (tx1 : xoL x1) (tx2 : xoL x2) (tx3 : xin x3) (tx4 : xin x4) (tx5 : xin x5) (tx6 : xin x6) (tx7 : xoF x7) (tx8 : xin x8) (e : g327_246  r2 r46 f x1 x2 x3 x4 x5 x6 x7 x8 G = some R) : xok (f327_246  o2 o46 f m (m + x1) (m + x2) x3 x4 x5 x6 (m + x7) x8 M) (fun r => r.1 = R.1 ∧ xRX m M0 r.2 R.2 ∧ xin R.1) := by
  unfold g327_246 at e
  unfold f327_246
  exact s327_251 hI  hr2 hr46 h tx1 tx2 tx3 tx4 tx5 tx6 tx7 tx8 (show xin (1) by decide) e
theorem s327_250 {m f : Nat} {M0 M : xj_M} {G : xG_} (hI : xHI f)  {r2 : Nat → Nat → Int → xG_ → Option (Int × xG_)} {o2 : Nat → Nat → Nat → Int → xj_M → Option (Int × xj_M)} {r46 : Nat → Nat → Int → Int → Int → xG_ → Option (Int × xG_)} {o46 : Nat → Nat → Nat → Int → Int → Int → xj_M → Option (Int × xj_M)}  (hr2 : ∀ {M : xj_M} {G : xG_} {x1 : Nat} {x2 : Nat} {x3 : Int} {R : Int × xG_}, xRX m M0 M G → xoL x1 → xoL x2 → xin x3 → r2 x1 x2 x3 G = some R → xok (o2 m (m + x1) (m + x2) x3 M) (fun r => r.1 = R.1 ∧ xRX m M0 r.2 R.2 ∧ xin R.1)) (hr46 : ∀ {M : xj_M} {G : xG_} {x1 : Nat} {x2 : Nat} {x3 : Int} {x4 : Int} {x5 : Int} {R : Int × xG_}, xRX m M0 M G → xoL x1 → xoL x2 → xin x3 → xin x4 → xin x5 → r46 x1 x2 x3 x4 x5 G = some R → xok (o46 m (m + x1) (m + x2) x3 x4 x5 M) (fun r => r.1 = R.1 ∧ xRX m M0 r.2 R.2 ∧ xin R.1)) (h : xRX m M0 M G) {x1 : Nat} {x2 : Nat} {x3 : Int} {x4 : Int} {x5 : Int} {x6 : Int} {x7 : Nat} {x8 : Int} {R : Int × xG_} (tx1 : xoL x1) (tx2 : xoL x2) (tx3 : xin x3) (tx4 : xin x4) (tx5 : xin x5) (tx6 : xin x6) (tx7 : xoF x7) (tx8 : xin x8) (e : g327_250  r2 r46 f x1 x2 x3 x4 x5 x6 x7 x8 G = some R) : xok (f327_250  o2 o46 f m (m + x1) (m + x2) x3 x4 x5 x6 (m + x7) x8 M) (fun r => r.1 = R.1 ∧ xRX m M0 r.2 R.2 ∧ xin R.1) := by
  unfold g327_250 at e
  unfold f327_250
  exact s327_251 hI  hr2 hr46 h tx1 tx2 tx3 tx4 tx5 tx6 tx7 tx8 (show xin (0) by decide) e
theorem s327_199 {m f : Nat} {M0 M : xj_M} {G : xG_} (hI : xHI f)  {r2 : Nat → Nat → Int → xG_ → Option (Int × xG_)} {o2 : Nat → Nat → Nat → Int → xj_M → Option (Int × xj_M)} {r46 : Nat → Nat → Int → Int → Int → xG_ → Option (Int × xG_)} {o46 : Nat → Nat → Nat → Int → Int → Int → xj_M → Option (Int × xj_M)}  (hr2 : ∀ {M : xj_M} {G : xG_} {x1 : Nat} {x2 : Nat} {x3 : Int} {R : Int × xG_}, xRX m M0 M G → xoL x1 → xoL x2 → xin x3 → r2 x1 x2 x3 G = some R → xok (o2 m (m + x1) (m + x2) x3 M) (fun r => r.1 = R.1 ∧ xRX m M0 r.2 R.2 ∧ xin R.1)) (hr46 : ∀ {M : xj_M} {G : xG_} {x1 : Nat} {x2 : Nat} {x3 : Int} {x4 : Int} {x5 : Int} {R : Int × xG_}, xRX m M0 M G → xoL x1 → xoL x2 → xin x3 → xin x4 → xin x5 → r46 x1 x2 x3 x4 x5 G = some R → xok (o46 m (m + x1) (m + x2) x3 x4 x5 M) (fun r => r.1 = R.1 ∧ xRX m M0 r.2 R.2 ∧ xin R.1)) (h : xRX m M0 M G) {x1 : Nat} {x2 : Nat} {x3 : Int} {x4 : Int} {x5 : Int} {x6 : Int} {x7 : Nat} {y0 : Int} {R : Int × xG_} (tx1 : xoL x1) (tx2 : xoL x2) (tx3 : xin x3) (tx4 : xin x4) (tx5 : xin x5) (tx6 : xin x6) (tx7 : xoF x7) (ty0 : xin y0) (e : g327_199  r2 r46 f x1 x2 x3 x4 x5 x6 x7 y0 G = some R) : xok (f327_199  o2 o46 f m (m + x1) (m + x2) x3 x4 x5 x6 (m + x7) y0 M) (fun r => r.1 = R.1 ∧ xRX m M0 r.2 R.2 ∧ xin R.1) := by
  unfold g327_199 at e
  unfold f327_199
  refine xok_eqb (h.pt (o := x7) (c := 12) (k := 0) (t := x7 + 1) (n := 4) (xoF_o tx7).1 (xoF_o tx7).2 (by decide) (xoF_all tx7 (Q := fun p => (p, 0, p + 1) ∈ xl_P) (by decide +kernel) (by decide +kernel) (by decide +kernel) (by decide +kernel) (by decide +kernel) (by decide +kernel) (by decide +kernel))) ?_
  by_cases c126 : 0 ≤ (y0) ∧ (y0) < 3400
  · skip
    rw [if_pos c126] at e
    refine xok_eqb (h.al (o := x7 + 1) (n := 3400) (xoF_all tx7 (Q := fun p => p + 1 < 276) (by decide) (by decide) (by decide) (by decide) (by decide) (by decide) (by decide)) (xoF_all tx7 (Q := fun p => xl_t (p + 1) = (2, 4, 3400)) rfl rfl rfl rfl rfl rfl rfl)  c126.1 c126.2) ?_
    refine xok_eqb (h.pt (o := 0) (c := 15) (k := 29) (t := 2) (n := 107) (by decide) rfl (by decide) (by decide +kernel)) ?_
    refine xok_eqb (h.pt (o := 2) (c := 14) (k := 0) (t := 2 + 1) (n := 38) (xoP_o (show xoP 2 by unfold xoP; omega)).1 (xoP_o (show xoP 2 by unfold xoP; omega)).2 (by decide) (xoP_all (show xoP 2 by unfold xoP; omega) (Q := fun p => (p, 0, p + 1) ∈ xl_P) (by decide +kernel) (by decide +kernel) (by decide +kernel))) ?_
    by_cases c127 : 0 ≤ (x3) ∧ (x3) < 16
    · skip
      rw [if_pos c127] at e
      refine xok_eqb (h.al (o := 2 + 1) (n := 16) (xoP_all (show xoP 2 by unfold xoP; omega) (Q := fun p => p + 1 < 276) (by decide) (by decide) (by decide)) (xoP_all (show xoP 2 by unfold xoP; omega) (Q := fun p => xl_t (p + 1) = (2, 4, 16)) rfl rfl rfl)  c127.1 c127.2) ?_
      refine xok_ite (fun c128 => ?_) (fun c128 => ?_)
      · rw [if_pos c128] at e
        exact s327_250 hI  hr2 hr46 h tx1 tx2 tx3 tx4 tx5 tx6 tx7 ty0 e
      · rw [if_neg c128] at e
        refine xok_ite (fun c129 => ?_) (fun c129 => ?_)
        · rw [if_pos c129] at e
          exact s327_246 hI  hr2 hr46 h tx1 tx2 tx3 tx4 tx5 tx6 tx7 ty0 e
        · rw [if_neg c129] at e
          refine xok_eqb (h.pt (o := x2) (c := 13) (k := 0) (t := x2 + 1) (n := 37) (xoL_o tx2).1 (xoL_o tx2).2 (by decide) (xoL_all tx2 (Q := fun p => (p, 0, p + 1) ∈ xl_P) (by decide +kernel) (by decide +kernel) (by decide +kernel) (by decide +kernel))) ?_
          refine xok_eqb (h.pt (o := 0) (c := 15) (k := 80) (t := 253) (n := 107) (by decide) rfl (by decide) (by decide +kernel)) ?_
          obtain ⟨R130, e131, e⟩ := xbnd e
          refine xok_eqb (h.is (o := 0) (c := 15) (by decide) rfl) ?_
          refine xok_call (sg323 hI  h (xoL_all tx2 (Q := fun p => xoF (p + 1)) (by unfold xoF; omega) (by unfold xoF; omega) (by unfold xoF; omega) (by unfold xoF; omega)) tx3 (show xoF 253 by unfold xoF; omega) tx5 e131) ?_
          rintro ⟨v_, M134⟩ ⟨hv_, h132, hi133⟩
          cases hv_
          refine xok_ite (fun c135 => ?_) (fun c135 => ?_)
          · rw [if_pos c135] at e
            exact s327_250 hI  hr2 hr46 h132 tx1 tx2 tx3 tx4 tx5 tx6 tx7 ty0 e
          · rw [if_neg c135] at e
            exact s327_246 hI  hr2 hr46 h132 tx1 tx2 tx3 tx4 tx5 tx6 tx7 ty0 e
    · rw [if_neg c127] at e; cases e
  · rw [if_neg c126] at e; cases e
theorem s327_185 {m f : Nat} {M0 M : xj_M} {G : xG_} (hI : xHI f)  {r2 : Nat → Nat → Int → xG_ → Option (Int × xG_)} {o2 : Nat → Nat → Nat → Int → xj_M → Option (Int × xj_M)} {r46 : Nat → Nat → Int → Int → Int → xG_ → Option (Int × xG_)} {o46 : Nat → Nat → Nat → Int → Int → Int → xj_M → Option (Int × xj_M)}  (hr2 : ∀ {M : xj_M} {G : xG_} {x1 : Nat} {x2 : Nat} {x3 : Int} {R : Int × xG_}, xRX m M0 M G → xoL x1 → xoL x2 → xin x3 → r2 x1 x2 x3 G = some R → xok (o2 m (m + x1) (m + x2) x3 M) (fun r => r.1 = R.1 ∧ xRX m M0 r.2 R.2 ∧ xin R.1)) (hr46 : ∀ {M : xj_M} {G : xG_} {x1 : Nat} {x2 : Nat} {x3 : Int} {x4 : Int} {x5 : Int} {R : Int × xG_}, xRX m M0 M G → xoL x1 → xoL x2 → xin x3 → xin x4 → xin x5 → r46 x1 x2 x3 x4 x5 G = some R → xok (o46 m (m + x1) (m + x2) x3 x4 x5 M) (fun r => r.1 = R.1 ∧ xRX m M0 r.2 R.2 ∧ xin R.1)) (h : xRX m M0 M G) {x1 : Nat} {x2 : Nat} {x3 : Int} {x4 : Int} {x5 : Int} {x6 : Int} {y0 : Nat} {R : Int × xG_} (tx1 : xoL x1) (tx2 : xoL x2) (tx3 : xin x3) (tx4 : xin x4) (tx5 : xin x5) (tx6 : xin x6) (ty0 : xoF y0) (e : g327_185  r2 r46 f x1 x2 x3 x4 x5 x6 y0 G = some R) : xok (f327_185  o2 o46 f m (m + x1) (m + x2) x3 x4 x5 x6 (m + y0) M) (fun r => r.1 = R.1 ∧ xRX m M0 r.2 R.2 ∧ xin R.1) := by
  unfold g327_185 at e
  unfold f327_185
  refine xok_ite (fun c136 => ?_) (fun c136 => ?_)
  · rw [if_pos c136] at e
    exact s327_199 hI  hr2 hr46 h tx1 tx2 tx3 tx4 tx5 tx6 ty0 tx5 e
  · rw [if_neg c136] at e
    exact s327_199 hI  hr2 hr46 h tx1 tx2 tx3 tx4 tx5 tx6 ty0 tx4 e
theorem s327_167 {m f : Nat} {M0 M : xj_M} {G : xG_} (hI : xHI f)  {r2 : Nat → Nat → Int → xG_ → Option (Int × xG_)} {o2 : Nat → Nat → Nat → Int → xj_M → Option (Int × xj_M)} {r46 : Nat → Nat → Int → Int → Int → xG_ → Option (Int × xG_)} {o46 : Nat → Nat → Nat → Int → Int → Int → xj_M → Option (Int × xj_M)}  (hr2 : ∀ {M : xj_M} {G : xG_} {x1 : Nat} {x2 : Nat} {x3 : Int} {R : Int × xG_}, xRX m M0 M G → xoL x1 → xoL x2 → xin x3 → r2 x1 x2 x3 G = some R → xok (o2 m (m + x1) (m + x2) x3 M) (fun r => r.1 = R.1 ∧ xRX m M0 r.2 R.2 ∧ xin R.1)) (hr46 : ∀ {M : xj_M} {G : xG_} {x1 : Nat} {x2 : Nat} {x3 : Int} {x4 : Int} {x5 : Int} {R : Int × xG_}, xRX m M0 M G → xoL x1 → xoL x2 → xin x3 → xin x4 → xin x5 → r46 x1 x2 x3 x4 x5 G = some R → xok (o46 m (m + x1) (m + x2) x3 x4 x5 M) (fun r => r.1 = R.1 ∧ xRX m M0 r.2 R.2 ∧ xin R.1)) (h : xRX m M0 M G) {x1 : Nat} {x2 : Nat} {x3 : Int} {x4 : Int} {x5 : Int} {y0 : Int} {R : Int × xG_} (tx1 : xoL x1) (tx2 : xoL x2) (tx3 : xin x3) (tx4 : xin x4) (tx5 : xin x5) (ty0 : xin y0) (e : g327_167  r2 r46 f x1 x2 x3 x4 x5 y0 G = some R) : xok (f327_167  o2 o46 f m (m + x1) (m + x2) x3 x4 x5 y0 M) (fun r => r.1 = R.1 ∧ xRX m M0 r.2 R.2 ∧ xin R.1) := by
  unfold g327_167 at e
  unfold f327_167
  refine xok_ite (fun c137 => ?_) (fun c137 => ?_)
  · rw [if_pos c137] at e
    refine xok_eqb (h.pt (o := 0) (c := 15) (k := 80) (t := 253) (n := 107) (by decide) rfl (by decide) (by decide +kernel)) ?_
    exact s327_185 hI  hr2 hr46 h tx1 tx2 tx3 tx4 tx5 ty0 (show xoF 253 by unfold xoF; omega) e
  · rw [if_neg c137] at e
    refine xok_eqb (h.pt (o := x2) (c := 13) (k := 0) (t := x2 + 1) (n := 37) (xoL_o tx2).1 (xoL_o tx2).2 (by decide) (xoL_all tx2 (Q := fun p => (p, 0, p + 1) ∈ xl_P) (by decide +kernel) (by decide +kernel) (by decide +kernel) (by decide +kernel))) ?_
    exact s327_185 hI  hr2 hr46 h tx1 tx2 tx3 tx4 tx5 ty0 (xoL_all tx2 (Q := fun p => xoF (p + 1)) (by unfold xoF; omega) (by unfold xoF; omega) (by unfold xoF; omega) (by unfold xoF; omega)) e
theorem s327_70 {m f : Nat} {M0 M : xj_M} {G : xG_} (hI : xHI f)  {r2 : Nat → Nat → Int → xG_ → Option (Int × xG_)} {o2 : Nat → Nat → Nat → Int → xj_M → Option (Int × xj_M)} {r46 : Nat → Nat → Int → Int → Int → xG_ → Option (Int × xG_)} {o46 : Nat → Nat → Nat → Int → Int → Int → xj_M → Option (Int × xj_M)}  (hr2 : ∀ {M : xj_M} {G : xG_} {x1 : Nat} {x2 : Nat} {x3 : Int} {R : Int × xG_}, xRX m M0 M G → xoL x1 → xoL x2 → xin x3 → r2 x1 x2 x3 G = some R → xok (o2 m (m + x1) (m + x2) x3 M) (fun r => r.1 = R.1 ∧ xRX m M0 r.2 R.2 ∧ xin R.1)) (hr46 : ∀ {M : xj_M} {G : xG_} {x1 : Nat} {x2 : Nat} {x3 : Int} {x4 : Int} {x5 : Int} {R : Int × xG_}, xRX m M0 M G → xoL x1 → xoL x2 → xin x3 → xin x4 → xin x5 → r46 x1 x2 x3 x4 x5 G = some R → xok (o46 m (m + x1) (m + x2) x3 x4 x5 M) (fun r => r.1 = R.1 ∧ xRX m M0 r.2 R.2 ∧ xin R.1)) (h : xRX m M0 M G) {x1 : Nat} {x2 : Nat} {x3 : Int} {x4 : Int} {x5 : Int} {R : Int × xG_} (tx1 : xoL x1) (tx2 : xoL x2) (tx3 : xin x3) (tx4 : xin x4) (tx5 : xin x5) (e : g327_70  r2 r46 f x1 x2 x3 x4 x5 G = some R) : xok (f327_70  o2 o46 f m (m + x1) (m + x2) x3 x4 x5 M) (fun r => r.1 = R.1 ∧ xRX m M0 r.2 R.2 ∧ xin R.1) := by
  unfold g327_70 at e
  unfold f327_70
  refine xok_eqb (h.pt (o := x2) (c := 13) (k := 0) (t := x2 + 1) (n := 37) (xoL_o tx2).1 (xoL_o tx2).2 (by decide) (xoL_all tx2 (Q := fun p => (p, 0, p + 1) ∈ xl_P) (by decide +kernel) (by decide +kernel) (by decide +kernel) (by decide +kernel))) ?_
  refine xok_eqb (h.gi (o := x2 + 1) (c := 12) (k := 3) (n := 4) (xoF_o (xoL_all tx2 (Q := fun p => xoF (p + 1)) (by unfold xoF; omega) (by unfold xoF; omega) (by unfold xoF; omega) (by unfold xoF; omega))).1 (xoF_o (xoL_all tx2 (Q := fun p => xoF (p + 1)) (by unfold xoF; omega) (by unfold xoF; omega) (by unfold xoF; omega) (by unfold xoF; omega))).2 (by decide) (by decide)) ?_
  refine xok_ite (fun c138 => ?_) (fun c138 => ?_)
  · rw [if_pos c138] at e
    refine xok_eqb (h.pt (o := 0) (c := 15) (k := 80) (t := 253) (n := 107) (by decide) rfl (by decide) (by decide +kernel)) ?_
    refine xok_eqb (h.gi (o := 253) (c := 12) (k := 3) (n := 4) (xoF_o (show xoF 253 by unfold xoF; omega)).1 (xoF_o (show xoF 253 by unfold xoF; omega)).2 (by decide) (by decide)) ?_
    refine xok_ite (fun c139 => ?_) (fun c139 => ?_)
    · rw [if_pos c139] at e
      refine xok_eqb (h.pt (o := x2) (c := 13) (k := 0) (t := x2 + 1) (n := 37) (xoL_o tx2).1 (xoL_o tx2).2 (by decide) (xoL_all tx2 (Q := fun p => (p, 0, p + 1) ∈ xl_P) (by decide +kernel) (by decide +kernel) (by decide +kernel) (by decide +kernel))) ?_
      refine xok_eqb (h.pt (o := x2 + 1) (c := 12) (k := 0) (t := x2 + 1 + 1) (n := 4) (xoF_o (xoL_all tx2 (Q := fun p => xoF (p + 1)) (by unfold xoF; omega) (by unfold xoF; omega) (by unfold xoF; omega) (by unfold xoF; omega))).1 (xoF_o (xoL_all tx2 (Q := fun p => xoF (p + 1)) (by unfold xoF; omega) (by unfold xoF; omega) (by unfold xoF; omega) (by unfold xoF; omega))).2 (by decide) (xoF_all (xoL_all tx2 (Q := fun p => xoF (p + 1)) (by unfold xoF; omega) (by unfold xoF; omega) (by unfold xoF; omega) (by unfold xoF; omega)) (Q := fun p => (p, 0, p + 1) ∈ xl_P) (by decide +kernel) (by decide +kernel) (by decide +kernel) (by decide +kernel) (by decide +kernel) (by decide +kernel) (by decide +kernel))) ?_
      by_cases c140 : 0 ≤ (x4) ∧ (x4) < 3400
      · skip
        rw [if_pos c140] at e
        refine xok_eqb (h.al (o := x2 + 1 + 1) (n := 3400) (xoF_all (xoL_all tx2 (Q := fun p => xoF (p + 1)) (by unfold xoF; omega) (by unfold xoF; omega) (by unfold xoF; omega) (by unfold xoF; omega)) (Q := fun p => p + 1 < 276) (by decide) (by decide) (by decide) (by decide) (by decide) (by decide) (by decide)) (xoF_all (xoL_all tx2 (Q := fun p => xoF (p + 1)) (by unfold xoF; omega) (by unfold xoF; omega) (by unfold xoF; omega) (by unfold xoF; omega)) (Q := fun p => xl_t (p + 1) = (2, 4, 3400)) rfl rfl rfl rfl rfl rfl rfl)  c140.1 c140.2) ?_
        refine xok_eqb (h.pt (o := x2) (c := 13) (k := 0) (t := x2 + 1) (n := 37) (xoL_o tx2).1 (xoL_o tx2).2 (by decide) (xoL_all tx2 (Q := fun p => (p, 0, p + 1) ∈ xl_P) (by decide +kernel) (by decide +kernel) (by decide +kernel) (by decide +kernel))) ?_
        refine xok_eqb (h.pt (o := x2 + 1) (c := 12) (k := 2) (t := x2 + 1 + 3) (n := 4) (xoF_o (xoL_all tx2 (Q := fun p => xoF (p + 1)) (by unfold xoF; omega) (by unfold xoF; omega) (by unfold xoF; omega) (by unfold xoF; omega))).1 (xoF_o (xoL_all tx2 (Q := fun p => xoF (p + 1)) (by unfold xoF; omega) (by unfold xoF; omega) (by unfold xoF; omega) (by unfold xoF; omega))).2 (by decide) (xoF_all (xoL_all tx2 (Q := fun p => xoF (p + 1)) (by unfold xoF; omega) (by unfold xoF; omega) (by unfold xoF; omega) (by unfold xoF; omega)) (Q := fun p => (p, 2, p + 3) ∈ xl_P) (by decide +kernel) (by decide +kernel) (by decide +kernel) (by decide +kernel) (by decide +kernel) (by decide +kernel) (by decide +kernel))) ?_
        by_cases c141 : 0 ≤ (x4) ∧ (x4) < 3400
        · skip
          rw [if_pos c141] at e
          refine xok_eqb (h.ai (o := x2 + 1 + 3) (n := 3400) (xoF_all (xoL_all tx2 (Q := fun p => xoF (p + 1)) (by unfold xoF; omega) (by unfold xoF; omega) (by unfold xoF; omega) (by unfold xoF; omega)) (Q := fun p => p + 3 < 276) (by decide) (by decide) (by decide) (by decide) (by decide) (by decide) (by decide)) (xoF_all (xoL_all tx2 (Q := fun p => xoF (p + 1)) (by unfold xoF; omega) (by unfold xoF; omega) (by unfold xoF; omega) (by unfold xoF; omega)) (Q := fun p => xl_t (p + 3) = (2, 3, 3400)) rfl rfl rfl rfl rfl rfl rfl) (by decide) c141.1 c141.2) ?_
          refine xok_eqb (h.pt (o := x2) (c := 13) (k := 0) (t := x2 + 1) (n := 37) (xoL_o tx2).1 (xoL_o tx2).2 (by decide) (xoL_all tx2 (Q := fun p => (p, 0, p + 1) ∈ xl_P) (by decide +kernel) (by decide +kernel) (by decide +kernel) (by decide +kernel))) ?_
          refine xok_eqb (h.pt (o := x2 + 1) (c := 12) (k := 1) (t := x2 + 1 + 2) (n := 4) (xoF_o (xoL_all tx2 (Q := fun p => xoF (p + 1)) (by unfold xoF; omega) (by unfold xoF; omega) (by unfold xoF; omega) (by unfold xoF; omega))).1 (xoF_o (xoL_all tx2 (Q := fun p => xoF (p + 1)) (by unfold xoF; omega) (by unfold xoF; omega) (by unfold xoF; omega) (by unfold xoF; omega))).2 (by decide) (xoF_all (xoL_all tx2 (Q := fun p => xoF (p + 1)) (by unfold xoF; omega) (by unfold xoF; omega) (by unfold xoF; omega) (by unfold xoF; omega)) (Q := fun p => (p, 1, p + 2) ∈ xl_P) (by decide +kernel) (by decide +kernel) (by decide +kernel) (by decide +kernel) (by decide +kernel) (by decide +kernel) (by decide +kernel))) ?_
          refine xok_eqb (h.pt (o := 0) (c := 15) (k := 80) (t := 253) (n := 107) (by decide) rfl (by decide) (by decide +kernel)) ?_
          refine xok_eqb (h.pt (o := 253) (c := 12) (k := 0) (t := 253 + 1) (n := 4) (xoF_o (show xoF 253 by unfold xoF; omega)).1 (xoF_o (show xoF 253 by unfold xoF; omega)).2 (by decide) (xoF_all (show xoF 253 by unfold xoF; omega) (Q := fun p => (p, 0, p + 1) ∈ xl_P) (by decide +kernel) (by decide +kernel) (by decide +kernel) (by decide +kernel) (by decide +kernel) (by decide +kernel) (by decide +kernel))) ?_
          by_cases c142 : 0 ≤ (x5) ∧ (x5) < 3400
          · skip
            rw [if_pos c142] at e
            refine xok_eqb (h.al (o := 253 + 1) (n := 3400) (xoF_all (show xoF 253 by unfold xoF; omega) (Q := fun p => p + 1 < 276) (by decide) (by decide) (by decide) (by decide) (by decide) (by decide) (by decide)) (xoF_all (show xoF 253 by unfold xoF; omega) (Q := fun p => xl_t (p + 1) = (2, 4, 3400)) rfl rfl rfl rfl rfl rfl rfl)  c142.1 c142.2) ?_
            refine xok_eqb (h.pt (o := 0) (c := 15) (k := 80) (t := 253) (n := 107) (by decide) rfl (by decide) (by decide +kernel)) ?_
            refine xok_eqb (h.pt (o := 253) (c := 12) (k := 2) (t := 253 + 3) (n := 4) (xoF_o (show xoF 253 by unfold xoF; omega)).1 (xoF_o (show xoF 253 by unfold xoF; omega)).2 (by decide) (xoF_all (show xoF 253 by unfold xoF; omega) (Q := fun p => (p, 2, p + 3) ∈ xl_P) (by decide +kernel) (by decide +kernel) (by decide +kernel) (by decide +kernel) (by decide +kernel) (by decide +kernel) (by decide +kernel))) ?_
            by_cases c143 : 0 ≤ (x5) ∧ (x5) < 3400
            · skip
              rw [if_pos c143] at e
              refine xok_eqb (h.ai (o := 253 + 3) (n := 3400) (xoF_all (show xoF 253 by unfold xoF; omega) (Q := fun p => p + 3 < 276) (by decide) (by decide) (by decide) (by decide) (by decide) (by decide) (by decide)) (xoF_all (show xoF 253 by unfold xoF; omega) (Q := fun p => xl_t (p + 3) = (2, 3, 3400)) rfl rfl rfl rfl rfl rfl rfl) (by decide) c143.1 c143.2) ?_
              refine xok_eqb (h.pt (o := 0) (c := 15) (k := 80) (t := 253) (n := 107) (by decide) rfl (by decide) (by decide +kernel)) ?_
              refine xok_eqb (h.pt (o := 253) (c := 12) (k := 1) (t := 253 + 2) (n := 4) (xoF_o (show xoF 253 by unfold xoF; omega)).1 (xoF_o (show xoF 253 by unfold xoF; omega)).2 (by decide) (xoF_all (show xoF 253 by unfold xoF; omega) (Q := fun p => (p, 1, p + 2) ∈ xl_P) (by decide +kernel) (by decide +kernel) (by decide +kernel) (by decide +kernel) (by decide +kernel) (by decide +kernel) (by decide +kernel))) ?_
              obtain ⟨R144, e145, e⟩ := xbnd e
              refine xok_call (sg195 hI  h (h.aln (o := x2 + 1 + 1) (n := 3400) (xoF_all (xoL_all tx2 (Q := fun p => xoF (p + 1)) (by unfold xoF; omega) (by unfold xoF; omega) (by unfold xoF; omega) (by unfold xoF; omega)) (Q := fun p => p + 1 < 276) (by decide) (by decide) (by decide) (by decide) (by decide) (by decide) (by decide)) (xoF_all (xoL_all tx2 (Q := fun p => xoF (p + 1)) (by unfold xoF; omega) (by unfold xoF; omega) (by unfold xoF; omega) (by unfold xoF; omega)) (Q := fun p => xl_t (p + 1) = (2, 4, 3400)) rfl rfl rfl rfl rfl rfl rfl)  c140.1 c140.2) (h.ain (o := x2 + 1 + 3) (n := 3400) (xoF_all (xoL_all tx2 (Q := fun p => xoF (p + 1)) (by unfold xoF; omega) (by unfold xoF; omega) (by unfold xoF; omega) (by unfold xoF; omega)) (Q := fun p => p + 3 < 276) (by decide) (by decide) (by decide) (by decide) (by decide) (by decide) (by decide)) (xoF_all (xoL_all tx2 (Q := fun p => xoF (p + 1)) (by unfold xoF; omega) (by unfold xoF; omega) (by unfold xoF; omega) (by unfold xoF; omega)) (Q := fun p => xl_t (p + 3) = (2, 3, 3400)) rfl rfl rfl rfl rfl rfl rfl) (by decide) c141.1 c141.2) (xoF_all (xoL_all tx2 (Q := fun p => xoF (p + 1)) (by unfold xoF; omega) (by unfold xoF; omega) (by unfold xoF; omega) (by unfold xoF; omega)) (Q := fun p => xoJ (p + 2)) ⟨by decide, rfl⟩ ⟨by decide, rfl⟩ ⟨by decide, rfl⟩ ⟨by decide, rfl⟩ ⟨by decide, rfl⟩ ⟨by decide, rfl⟩ ⟨by decide, rfl⟩) (xin_wr _) (h.aln (o := 253 + 1) (n := 3400) (xoF_all (show xoF 253 by unfold xoF; omega) (Q := fun p => p + 1 < 276) (by decide) (by decide) (by decide) (by decide) (by decide) (by decide) (by decide)) (xoF_all (show xoF 253 by unfold xoF; omega) (Q := fun p => xl_t (p + 1) = (2, 4, 3400)) rfl rfl rfl rfl rfl rfl rfl)  c142.1 c142.2) (h.ain (o := 253 + 3) (n := 3400) (xoF_all (show xoF 253 by unfold xoF; omega) (Q := fun p => p + 3 < 276) (by decide) (by decide) (by decide) (by decide) (by decide) (by decide) (by decide)) (xoF_all (show xoF 253 by unfold xoF; omega) (Q := fun p => xl_t (p + 3) = (2, 3, 3400)) rfl rfl rfl rfl rfl rfl rfl) (by decide) c143.1 c143.2) (xoF_all (show xoF 253 by unfold xoF; omega) (Q := fun p => xoJ (p + 2)) ⟨by decide, rfl⟩ ⟨by decide, rfl⟩ ⟨by decide, rfl⟩ ⟨by decide, rfl⟩ ⟨by decide, rfl⟩ ⟨by decide, rfl⟩ ⟨by decide, rfl⟩) (xin_wr _) e145) ?_
              rintro ⟨v_, M148⟩ ⟨hv_, h146, hi147⟩
              cases hv_
              exact s327_167 hI  hr2 hr46 h146 tx1 tx2 tx3 tx4 tx5 hi147 e
            · rw [if_neg c143] at e; cases e
          · rw [if_neg c142] at e; cases e
        · rw [if_neg c141] at e; cases e
      · rw [if_neg c140] at e; cases e
    · rw [if_neg c139] at e
      exact s327_167 hI  hr2 hr46 h tx1 tx2 tx3 tx4 tx5 (show xin (-1) by decide) e
  · rw [if_neg c138] at e
    exact s327_167 hI  hr2 hr46 h tx1 tx2 tx3 tx4 tx5 (show xin (1) by decide) e
theorem s327_46b {m f : Nat} {M0 M : xj_M} {G : xG_} (hI : xHI f)  {r2 : Nat → Nat → Int → xG_ → Option (Int × xG_)} {o2 : Nat → Nat → Nat → Int → xj_M → Option (Int × xj_M)} {r46 : Nat → Nat → Int → Int → Int → xG_ → Option (Int × xG_)} {o46 : Nat → Nat → Nat → Int → Int → Int → xj_M → Option (Int × xj_M)}  (hr2 : ∀ {M : xj_M} {G : xG_} {x1 : Nat} {x2 : Nat} {x3 : Int} {R : Int × xG_}, xRX m M0 M G → xoL x1 → xoL x2 → xin x3 → r2 x1 x2 x3 G = some R → xok (o2 m (m + x1) (m + x2) x3 M) (fun r => r.1 = R.1 ∧ xRX m M0 r.2 R.2 ∧ xin R.1)) (hr46 : ∀ {M : xj_M} {G : xG_} {x1 : Nat} {x2 : Nat} {x3 : Int} {x4 : Int} {x5 : Int} {R : Int × xG_}, xRX m M0 M G → xoL x1 → xoL x2 → xin x3 → xin x4 → xin x5 → r46 x1 x2 x3 x4 x5 G = some R → xok (o46 m (m + x1) (m + x2) x3 x4 x5 M) (fun r => r.1 = R.1 ∧ xRX m M0 r.2 R.2 ∧ xin R.1)) (h : xRX m M0 M G) {x1 : Nat} {x2 : Nat} {x3 : Int} {x4 : Int} {x5 : Int} {R : Int × xG_} (tx1 : xoL x1) (tx2 : xoL x2) (tx3 : xin x3) (tx4 : xin x4) (tx5 : xin x5) (e : g327_46b  r2 r46 f x1 x2 x3 x4 x5 G = some R) : xok (f327_46b  o2 o46 f m (m + x1) (m + x2) x3 x4 x5 M) (fun r => r.1 = R.1 ∧ xRX m M0 r.2 R.2 ∧ xin R.1) := by
  unfold g327_46b at e
  unfold f327_46b
  refine xok_eqb (h.pt (o := x2) (c := 13) (k := 0) (t := x2 + 1) (n := 37) (xoL_o tx2).1 (xoL_o tx2).2 (by decide) (xoL_all tx2 (Q := fun p => (p, 0, p + 1) ∈ xl_P) (by decide +kernel) (by decide +kernel) (by decide +kernel) (by decide +kernel))) ?_
  refine xok_eqb (h.gi (o := x2 + 1) (c := 12) (k := 3) (n := 4) (xoF_o (xoL_all tx2 (Q := fun p => xoF (p + 1)) (by unfold xoF; omega) (by unfold xoF; omega) (by unfold xoF; omega) (by unfold xoF; omega))).1 (xoF_o (xoL_all tx2 (Q := fun p => xoF (p + 1)) (by unfold xoF; omega) (by unfold xoF; omega) (by unfold xoF; omega) (by unfold xoF; omega))).2 (by decide) (by decide)) ?_
  refine xok_ite (fun c149 => ?_) (fun c149 => ?_)
  · rw [if_pos c149] at e
    exact s327_70 hI  hr2 hr46 h tx1 tx2 tx3 tx4 tx5 e
  · rw [if_neg c149] at e
    refine xok_eqb (h.pt (o := 0) (c := 15) (k := 80) (t := 253) (n := 107) (by decide) rfl (by decide) (by decide +kernel)) ?_
    refine xok_eqb (h.gi (o := 253) (c := 12) (k := 3) (n := 4) (xoF_o (show xoF 253 by unfold xoF; omega)).1 (xoF_o (show xoF 253 by unfold xoF; omega)).2 (by decide) (by decide)) ?_
    refine xok_ite (fun c150 => ?_) (fun c150 => ?_)
    · rw [if_pos c150] at e
      exact s327_363 hI  hr2 h tx1 tx2 tx3 e
    · rw [if_neg c150] at e
      exact s327_70 hI  hr2 hr46 h tx1 tx2 tx3 tx4 tx5 e
theorem s327_46 {m f : Nat} {M0 : xj_M} (hI : xHI f)  {r2 : Nat → Nat → Int → xG_ → Option (Int × xG_)} {o2 : Nat → Nat → Nat → Int → xj_M → Option (Int × xj_M)}  (hr2 : ∀ {M : xj_M} {G : xG_} {x1 : Nat} {x2 : Nat} {x3 : Int} {R : Int × xG_}, xRX m M0 M G → xoL x1 → xoL x2 → xin x3 → r2 x1 x2 x3 G = some R → xok (o2 m (m + x1) (m + x2) x3 M) (fun r => r.1 = R.1 ∧ xRX m M0 r.2 R.2 ∧ xin R.1)) : ∀ {n : Nat} {M : xj_M} {G : xG_} {x1 : Nat} {x2 : Nat} {x3 : Int} {x4 : Int} {x5 : Int} {R : Int × xG_}, xRX m M0 M G → xoL x1 → xoL x2 → xin x3 → xin x4 → xin x5 → g327_46  r2 f n x1 x2 x3 x4 x5 G = some R → xok (f327_46  o2 f n m (m + x1) (m + x2) x3 x4 x5 M) (fun r => r.1 = R.1 ∧ xRX m M0 r.2 R.2 ∧ xin R.1) := by
  intro n
  induction n with
  | zero => intros; rename_i e; cases e
  | succ n ih =>
    intros
    rename_i h i0 i1 i2 i3 i4 e
    exact s327_46b hI  hr2 ih h i0 i1 i2 i3 i4 e
theorem s327_2b {m f : Nat} {M0 M : xj_M} {G : xG_} (hI : xHI f)  {r2 : Nat → Nat → Int → xG_ → Option (Int × xG_)} {o2 : Nat → Nat → Nat → Int → xj_M → Option (Int × xj_M)}  (hr2 : ∀ {M : xj_M} {G : xG_} {x1 : Nat} {x2 : Nat} {x3 : Int} {R : Int × xG_}, xRX m M0 M G → xoL x1 → xoL x2 → xin x3 → r2 x1 x2 x3 G = some R → xok (o2 m (m + x1) (m + x2) x3 M) (fun r => r.1 = R.1 ∧ xRX m M0 r.2 R.2 ∧ xin R.1)) (h : xRX m M0 M G) {x1 : Nat} {x2 : Nat} {x3 : Int} {R : Int × xG_} (tx1 : xoL x1) (tx2 : xoL x2) (tx3 : xin x3) (e : g327_2b  r2 f x1 x2 x3 G = some R) : xok (f327_2b  o2 f m (m + x1) (m + x2) x3 M) (fun r => r.1 = R.1 ∧ xRX m M0 r.2 R.2 ∧ xin R.1) := by
  unfold g327_2b at e
  unfold f327_2b
  refine xok_eqb (h.pt (o := 0) (c := 15) (k := 29) (t := 2) (n := 107) (by decide) rfl (by decide) (by decide +kernel)) ?_
  refine xok_eqb (h.gi (o := 2) (c := 14) (k := 8) (n := 38) (xoP_o (show xoP 2 by unfold xoP; omega)).1 (xoP_o (show xoP 2 by unfold xoP; omega)).2 (by decide) (by decide)) ?_
  refine xok_ite (fun c151 => ?_) (fun c151 => ?_)
  · rw [if_pos c151] at e
    cases e
    exact ⟨_, rfl, rfl, h, (show xin (0) by decide)⟩
  · rw [if_neg c151] at e
    refine xok_eqb (h.pt (o := 0) (c := 15) (k := 29) (t := 2) (n := 107) (by decide) rfl (by decide) (by decide +kernel)) ?_
    refine xok_eqb (h.pt (o := 2) (c := 14) (k := 5) (t := 2 + 6) (n := 38) (xoP_o (show xoP 2 by unfold xoP; omega)).1 (xoP_o (show xoP 2 by unfold xoP; omega)).2 (by decide) (xoP_all (show xoP 2 by unfold xoP; omega) (Q := fun p => (p, 5, p + 6) ∈ xl_P) (by decide +kernel) (by decide +kernel) (by decide +kernel))) ?_
    by_cases c152 : 0 ≤ (x3) ∧ (x3) < 16
    · skip
      rw [if_pos c152] at e
      refine xok_eqb (h.ab (o := 2 + 6) (n := 16) (xoP_all (show xoP 2 by unfold xoP; omega) (Q := fun p => p + 6 < 276) (by decide) (by decide) (by decide)) (xoP_all (show xoP 2 by unfold xoP; omega) (Q := fun p => xl_t (p + 6) = (2, 0, 16)) rfl rfl rfl) (by decide) c152.1 c152.2) ?_
      refine xok_ite (fun c153 => ?_) (fun c153 => ?_)
      · rw [if_pos c153] at e
        exact s327_363 hI  hr2 h tx1 tx2 tx3 e
      · rw [if_neg c153] at e
        refine xok_eqb (h.pt (o := 0) (c := 15) (k := 29) (t := 2) (n := 107) (by decide) rfl (by decide) (by decide +kernel)) ?_
        refine xok_eqb (h.pt (o := 2) (c := 14) (k := 2) (t := 2 + 3) (n := 38) (xoP_o (show xoP 2 by unfold xoP; omega)).1 (xoP_o (show xoP 2 by unfold xoP; omega)).2 (by decide) (xoP_all (show xoP 2 by unfold xoP; omega) (Q := fun p => (p, 2, p + 3) ∈ xl_P) (by decide +kernel) (by decide +kernel) (by decide +kernel))) ?_
        by_cases c154 : 0 ≤ (x3) ∧ (x3) < 16
        · skip
          rw [if_pos c154] at e
          refine xok_eqb (h.ai (o := 2 + 3) (n := 16) (xoP_all (show xoP 2 by unfold xoP; omega) (Q := fun p => p + 3 < 276) (by decide) (by decide) (by decide)) (xoP_all (show xoP 2 by unfold xoP; omega) (Q := fun p => xl_t (p + 3) = (2, 3, 16)) rfl rfl rfl) (by decide) c154.1 c154.2) ?_
          refine xok_ite (fun c155 => ?_) (fun c155 => ?_)
          · rw [if_pos c155] at e
            exact s327_46 hI  hr2 h tx1 tx2 tx3 (show xin (0) by decide) (show xin (0) by decide) e
          · rw [if_neg c155] at e
            exact s327_363 hI  hr2 h tx1 tx2 tx3 e
        · rw [if_neg c154] at e; cases e
    · rw [if_neg c152] at e; cases e
theorem s327_2 {m f : Nat} {M0 : xj_M} (hI : xHI f)     : ∀ {n : Nat} {M : xj_M} {G : xG_} {x1 : Nat} {x2 : Nat} {x3 : Int} {R : Int × xG_}, xRX m M0 M G → xoL x1 → xoL x2 → xin x3 → g327_2   f n x1 x2 x3 G = some R → xok (f327_2   f n m (m + x1) (m + x2) x3 M) (fun r => r.1 = R.1 ∧ xRX m M0 r.2 R.2 ∧ xin R.1) := by
  intro n
  induction n with
  | zero => intros; rename_i e; cases e
  | succ n ih =>
    intros
    rename_i h i0 i1 i2 e
    exact s327_2b hI   ih h i0 i1 i2 e
theorem sg327 {m f : Nat} {M0 M : xj_M} {G : xG_} (hI : xHI f)   (h : xRX m M0 M G) {a1 : Nat} {a2 : Nat} {R : Int × xG_} (ta1 : xoL a1) (ta2 : xoL a2) (e : g327  f a1 a2 G = some R) : xok (f327  f m (m + a1) (m + a2) M) (fun r => r.1 = R.1 ∧ xRX m M0 r.2 R.2 ∧ xin R.1) := by
  unfold g327 at e
  unfold f327
  exact s327_2 hI   h ta1 ta2 (show xin (0) by decide) e
-- ChangeHouseModel.pend
theorem s329_72 {m f : Nat} {M0 M : xj_M} {G : xG_} (hI : xHI f)  {r34 : Nat → Int → Nat → Int → Int → xG_ → Option (xG_)} {o34 : Nat → Int → Nat → Int → Int → xj_M → Option (xj_M)}  (hr34 : ∀ {M : xj_M} {G : xG_} {x0 : Nat} {x4 : Int} {x5 : Nat} {x6 : Int} {x7 : Int} {R : xG_}, xRX m M0 M G → xoL x0 → xin x4 → xoJ x5 → xin x6 → xin x7 → r34 x0 x4 x5 x6 x7 G = some R → xok (o34 (m + x0) x4 (m + x5) x6 x7 M) (fun r => xRX m M0 r R)) (h : xRX m M0 M G) {x0 : Nat} {x4 : Int} {x5 : Nat} {x6 : Int} {x7 : Int} {y0 : Int} {y1 : Int} {y2 : Nat} {R : xG_} (tx0 : xoL x0) (tx4 : xin x4) (tx5 : xoJ x5) (tx6 : xin x6) (tx7 : xin x7) (ty0 : xiN y0) (ty1 : xin y1) (ty2 : xoJ y2) (e : g329_72  r34 f x0 x4 x5 x6 x7 y0 y1 y2 G = some R) : xok (f329_72  o34 f (m + x0) x4 (m + x5) x6 x7 y0 y1 (m + y2) M) (fun r => xRX m M0 r R) := by
  unfold g329_72 at e
  unfold f329_72
  by_cases c101 : 0 ≤ (y1) ∧ (y1) < ((xl_t (y2)).2.2 : Int)
  · skip
    rw [if_pos c101] at e
    obtain ⟨M102, q103, h104⟩ := h.sl (o := y2) (n := (xl_t (y2)).2.2) (v := y0) ty2.1 ty2.2 c101.1 c101.2 ty0
    refine xok_eqb q103 ?_
    obtain ⟨G105, g1, e⟩ := xbnd e
    cases g1
    have h104_ : xRX m M0 M102 (xup2 G (y2) (y1).toNat (y0)) := h104
    generalize hGG105 : (xup2 G (y2) (y1).toNat (y0)) = G105 at e h104
    clear h104_ hGG105
    exact hr34 h104 tx0 tx4 tx5 tx6 (xin_wr _) e
  · rw [if_neg c101] at e; cases e
theorem s329_34b {m f : Nat} {M0 M : xj_M} {G : xG_} (hI : xHI f)  {r34 : Nat → Int → Nat → Int → Int → xG_ → Option (xG_)} {o34 : Nat → Int → Nat → Int → Int → xj_M → Option (xj_M)}  (hr34 : ∀ {M : xj_M} {G : xG_} {x0 : Nat} {x4 : Int} {x5 : Nat} {x6 : Int} {x7 : Int} {R : xG_}, xRX m M0 M G → xoL x0 → xin x4 → xoJ x5 → xin x6 → xin x7 → r34 x0 x4 x5 x6 x7 G = some R → xok (o34 (m + x0) x4 (m + x5) x6 x7 M) (fun r => xRX m M0 r R)) (h : xRX m M0 M G) {x0 : Nat} {x4 : Int} {x5 : Nat} {x6 : Int} {x7 : Int} {R : xG_} (tx0 : xoL x0) (tx4 : xin x4) (tx5 : xoJ x5) (tx6 : xin x6) (tx7 : xin x7) (e : g329_34b  r34 f x0 x4 x5 x6 x7 G = some R) : xok (f329_34b  o34 f (m + x0) x4 (m + x5) x6 x7 M) (fun r => xRX m M0 r R) := by
  unfold g329_34b at e
  unfold f329_34b
  refine xok_ite (fun c106 => ?_) (fun c106 => ?_)
  · rw [if_pos c106] at e
    refine xok_eqb (h.gi (o := x0) (c := 13) (k := 33) (n := 37) (xoL_o tx0).1 (xoL_o tx0).2 (by decide) (by decide)) ?_
    obtain ⟨M107, q108, h109⟩ := h.pi (v := xwr ((G (x0) 33) + (1))) (o := x0) (c := 13) (k := 33) (n := 37) (xoL_o tx0).1 (xoL_o tx0).2 (by decide) (by decide) (xin_wr _)
    refine xok_eqb q108 ?_
    obtain ⟨G110, g1, e⟩ := xbnd e
    cases g1
    have h109_ : xRX m M0 M107 (xup2 G (x0) 33 (xwr ((G (x0) 33) + (1)))) := h109
    generalize hGG110 : (xup2 G (x0) 33 (xwr ((G (x0) 33) + (1)))) = G110 at e h109
    clear h109_ hGG110
    cases e
    exact ⟨_, rfl, h109⟩
  · rw [if_neg c106] at e
    refine xok_eqb (h.pt (o := x0) (c := 13) (k := 32) (t := x0 + 28) (n := 37) (xoL_o tx0).1 (xoL_o tx0).2 (by decide) (xoL_all tx0 (Q := fun p => (p, 32, p + 28) ∈ xl_P) (by decide +kernel) (by decide +kernel) (by decide +kernel) (by decide +kernel))) ?_
    refine xok_eqb (h.gi (o := x0) (c := 13) (k := 33) (n := 37) (xoL_o tx0).1 (xoL_o tx0).2 (by decide) (by decide)) ?_
    refine xok_ite (fun c111 => ?_) (fun c111 => ?_)
    · rw [if_pos c111] at e
      exact s329_72 hI  hr34 h tx0 tx4 tx5 tx6 tx7 (show xiN (0) by decide) (xin_wr _) (xoL_all tx0 (Q := fun p => xoJ (p + 28)) ⟨by decide, rfl⟩ ⟨by decide, rfl⟩ ⟨by decide, rfl⟩ ⟨by decide, rfl⟩) e
    · rw [if_neg c111] at e
      by_cases c112 : 0 ≤ (xwr ((x6) + (x7))) ∧ (xwr ((x6) + (x7))) < ((xl_t (x5)).2.2 : Int)
      · skip
        rw [if_pos c112] at e
        refine xok_eqb (h.al (o := x5) (n := (xl_t (x5)).2.2) tx5.1 tx5.2  c112.1 c112.2) ?_
        exact s329_72 hI  hr34 h tx0 tx4 tx5 tx6 tx7 (h.aln (o := x5) (n := (xl_t (x5)).2.2) tx5.1 tx5.2  c112.1 c112.2) (xin_wr _) (xoL_all tx0 (Q := fun p => xoJ (p + 28)) ⟨by decide, rfl⟩ ⟨by decide, rfl⟩ ⟨by decide, rfl⟩ ⟨by decide, rfl⟩) e
      · rw [if_neg c112] at e; cases e
theorem s329_34 {m f : Nat} {M0 : xj_M} (hI : xHI f)     : ∀ {n : Nat} {M : xj_M} {G : xG_} {x0 : Nat} {x4 : Int} {x5 : Nat} {x6 : Int} {x7 : Int} {R : xG_}, xRX m M0 M G → xoL x0 → xin x4 → xoJ x5 → xin x6 → xin x7 → g329_34   f n x0 x4 x5 x6 x7 G = some R → xok (f329_34   f n (m + x0) x4 (m + x5) x6 x7 M) (fun r => xRX m M0 r R) := by
  intro n
  induction n with
  | zero => intros; rename_i e; cases e
  | succ n ih =>
    intros
    rename_i h i0 i1 i2 i3 i4 e
    exact s329_34b hI   ih h i0 i1 i2 i3 i4 e
theorem sg329 {m f : Nat} {M0 M : xj_M} {G : xG_} (hI : xHI f)   (h : xRX m M0 M G) {a0 : Nat} {a1 : Int} {a2 : Int} {a3 : Int} {a4 : Nat} {a5 : Int} {R : xG_} (ta0 : xoL a0) (ta1 : xin a1) (ta2 : xiN a2) (ta3 : xin a3) (ta4 : xoJ a4) (ta5 : xin a5) (e : g329  f a0 a1 a2 a3 a4 a5 G = some R) : xok (f329  f (m + a0) a1 a2 a3 (m + a4) a5 M) (fun r => xRX m M0 r R) := by
  unfold g329 at e
  unfold f329
  refine xok_eqb (h.pt (o := a0) (c := 13) (k := 28) (t := a0 + 24) (n := 37) (xoL_o ta0).1 (xoL_o ta0).2 (by decide) (xoL_all ta0 (Q := fun p => (p, 28, p + 24) ∈ xl_P) (by decide +kernel) (by decide +kernel) (by decide +kernel) (by decide +kernel))) ?_
  refine xok_eqb (h.gi (o := a0) (c := 13) (k := 33) (n := 37) (xoL_o ta0).1 (xoL_o ta0).2 (by decide) (by decide)) ?_
  by_cases c113 : 0 ≤ (G (a0) 33) ∧ (G (a0) 33) < 400
  · skip
    rw [if_pos c113] at e
    obtain ⟨M114, q115, h116⟩ := h.si (o := a0 + 24) (n := 400) (v := a1) (xoL_all ta0 (Q := fun p => p + 24 < 276) (by decide) (by decide) (by decide) (by decide)) (xoL_all ta0 (Q := fun p => xl_t (p + 24) = (2, 3, 400)) rfl rfl rfl rfl) c113.1 c113.2 ta1
    refine xok_eqb q115 ?_
    obtain ⟨G117, g1, e⟩ := xbnd e
    cases g1
    have h116_ : xRX m M0 M114 (xup2 G (a0 + 24) (G (a0) 33).toNat (a1)) := h116
    generalize hGG117 : (xup2 G (a0 + 24) (G (a0) 33).toNat (a1)) = G117 at e h116
    clear h116_ hGG117
    refine xok_eqb (h116.pt (o := a0) (c := 13) (k := 31) (t := a0 + 27) (n := 37) (xoL_o ta0).1 (xoL_o ta0).2 (by decide) (xoL_all ta0 (Q := fun p => (p, 31, p + 27) ∈ xl_P) (by decide +kernel) (by decide +kernel) (by decide +kernel) (by decide +kernel))) ?_
    refine xok_eqb (h116.gi (o := a0) (c := 13) (k := 33) (n := 37) (xoL_o ta0).1 (xoL_o ta0).2 (by decide) (by decide)) ?_
    by_cases c118 : 0 ≤ (G117 (a0) 33) ∧ (G117 (a0) 33) < 400
    · skip
      rw [if_pos c118] at e
      obtain ⟨M119, q120, h121⟩ := h116.sl (o := a0 + 27) (n := 400) (v := a2) (xoL_all ta0 (Q := fun p => p + 27 < 276) (by decide) (by decide) (by decide) (by decide)) (xoL_all ta0 (Q := fun p => xl_t (p + 27) = (2, 4, 400)) rfl rfl rfl rfl) c118.1 c118.2 ta2
      refine xok_eqb q120 ?_
      obtain ⟨G122, g1, e⟩ := xbnd e
      cases g1
      have h121_ : xRX m M0 M119 (xup2 G117 (a0 + 27) (G117 (a0) 33).toNat (a2)) := h121
      generalize hGG122 : (xup2 G117 (a0 + 27) (G117 (a0) 33).toNat (a2)) = G122 at e h121
      clear h121_ hGG122
      refine xok_eqb (h121.pt (o := a0) (c := 13) (k := 29) (t := a0 + 25) (n := 37) (xoL_o ta0).1 (xoL_o ta0).2 (by decide) (xoL_all ta0 (Q := fun p => (p, 29, p + 25) ∈ xl_P) (by decide +kernel) (by decide +kernel) (by decide +kernel) (by decide +kernel))) ?_
      refine xok_eqb (h121.gi (o := a0) (c := 13) (k := 33) (n := 37) (xoL_o ta0).1 (xoL_o ta0).2 (by decide) (by decide)) ?_
      by_cases c123 : 0 ≤ (G122 (a0) 33) ∧ (G122 (a0) 33) < 400
      · skip
        rw [if_pos c123] at e
        obtain ⟨M124, q125, h126⟩ := h121.si (o := a0 + 25) (n := 400) (v := a3) (xoL_all ta0 (Q := fun p => p + 25 < 276) (by decide) (by decide) (by decide) (by decide)) (xoL_all ta0 (Q := fun p => xl_t (p + 25) = (2, 3, 400)) rfl rfl rfl rfl) c123.1 c123.2 ta3
        refine xok_eqb q125 ?_
        obtain ⟨G127, g1, e⟩ := xbnd e
        cases g1
        have h126_ : xRX m M0 M124 (xup2 G122 (a0 + 25) (G122 (a0) 33).toNat (a3)) := h126
        generalize hGG127 : (xup2 G122 (a0 + 25) (G122 (a0) 33).toNat (a3)) = G127 at e h126
        clear h126_ hGG127
        exact s329_34 hI   h126 ta0 ta3 ta4 ta5 (show xin (0) by decide) e
      · rw [if_neg c123] at e; cases e
    · rw [if_neg c118] at e; cases e
  · rw [if_neg c113] at e; cases e
-- ChangeHouseModel.met
theorem s330_25 {m f : Nat} {M0 M : xj_M} {G : xG_} (hI : xHI f)     (h : xRX m M0 M G)  {R : Int × xG_}  (e : g330_25   f  G = some R) : xok (f330_25   f m M) (fun r => r.1 = R.1 ∧ xRX m M0 r.2 R.2 ∧ xiN R.1) := by
  unfold g330_25 at e
  unfold f330_25
  obtain ⟨R101, e102, e⟩ := xbnd e
  refine xok_eqb (h.is (o := 0) (c := 15) (by decide) rfl) ?_
  refine xok_call (sg321 hI  h  e102) ?_
  rintro ⟨v_, M105⟩ ⟨hv_, h103, hi104⟩
  cases hv_
  cases e
  exact ⟨_, rfl, rfl, h103, (xin_N hi104)⟩
theorem s330_51 {m f : Nat} {M0 M : xj_M} {G : xG_} (hI : xHI f)     (h : xRX m M0 M G) {y0 : Int} {R : Int × xG_} (ty0 : xiN y0) (e : g330_51   f y0 G = some R) : xok (f330_51   f y0 M) (fun r => r.1 = R.1 ∧ xRX m M0 r.2 R.2 ∧ xiN R.1) := by
  unfold g330_51 at e
  unfold f330_51
  cases e
  exact ⟨_, rfl, rfl, h, ty0⟩
theorem sg330 {m f : Nat} {M0 M : xj_M} {G : xG_} (hI : xHI f)   (h : xRX m M0 M G) {a1 : Int} {R : Int × xG_} (ta1 : xin a1) (e : g330  f a1 G = some R) : xok (f330  f m a1 M) (fun r => r.1 = R.1 ∧ xRX m M0 r.2 R.2 ∧ xiN R.1) := by
  unfold g330 at e
  unfold f330
  obtain ⟨M106, q107, h108⟩ := h.pi (v := 0) (o := 0) (c := 15) (k := 74) (n := 107) (by decide) rfl (by decide) (by decide) (show xin (0) by decide)
  refine xok_eqb q107 ?_
  obtain ⟨G109, g1, e⟩ := xbnd e
  cases g1
  have h108_ : xRX m M0 M106 (xup2 G (0) 74 (0)) := h108
  generalize hGG109 : (xup2 G (0) 74 (0)) = G109 at e h108
  clear h108_ hGG109
  refine xok_eqb (h108.gi (o := 0) (c := 15) (k := 82) (n := 107) (by decide) rfl (by decide) (by decide)) ?_
  refine xok_ite (fun c110 => ?_) (fun c110 => ?_)
  · rw [if_pos c110] at e
    exact s330_25 hI   h108  e
  · rw [if_neg c110] at e
    refine xok_ite (fun c111 => ?_) (fun c111 => ?_)
    · rw [if_pos c111] at e
      exact s330_25 hI   h108  e
    · rw [if_neg c111] at e
      refine xok_eqb (h108.gi (o := 0) (c := 15) (k := 83) (n := 107) (by decide) rfl (by decide) (by decide)) ?_
      refine xok_ite (fun c112 => ?_) (fun c112 => ?_)
      · rw [if_pos c112] at e
        refine xok_ite (fun c113 => ?_) (fun c113 => ?_)
        · rw [if_pos c113] at e
          refine xok_eqb (h108.pt (o := 0) (c := 15) (k := 81) (t := 257) (n := 107) (by decide) rfl (by decide) (by decide +kernel)) ?_
          by_cases c114 : 0 ≤ (xwr ((a1) - (1))) ∧ (xwr ((a1) - (1))) < 4
          · skip
            rw [if_pos c114] at e
            refine xok_eqb (h108.al (o := 257) (n := 4) (by decide) rfl  c114.1 c114.2) ?_
            exact s330_51 hI   h108 (h108.aln (o := 257) (n := 4) (by decide) rfl  c114.1 c114.2) e
          · rw [if_neg c114] at e; cases e
        · rw [if_neg c113] at e
          refine xok_eqb (h108.gi (o := 0) (c := 15) (k := 82) (n := 107) (by decide) rfl (by decide) (by decide)) ?_
          exact s330_51 hI   h108 (xin_N (h108.gin (o := 0) (c := 15) (k := 82) (n := 107) (by decide) rfl (by decide) (by decide))) e
      · rw [if_neg c112] at e
        exact s330_25 hI   h108  e
-- ChangeHouseModel.node
theorem sg331 {m f : Nat} {M0 M : xj_M} {G : xG_} (hI : xHI f)   (h : xRX m M0 M G) {a1 : Int} {a2 : Int} {a3 : Int} {a4 : Int} {a5 : Int} {R : Int × xG_} (ta1 : xin a1) (ta2 : xin a2) (ta3 : xin a3) (ta4 : xin a4) (ta5 : xiN a5) (e : g331  f a1 a2 a3 a4 a5 G = some R) : xok (f331  f m a1 a2 a3 a4 a5 M) (fun r => r.1 = R.1 ∧ xRX m M0 r.2 R.2 ∧ xin R.1) := by
  unfold g331 at e
  unfold f331
  refine xok_eqb (h.pt (o := 0) (c := 15) (k := 84) (t := 258) (n := 107) (by decide) rfl (by decide) (by decide +kernel)) ?_
  refine xok_eqb (h.gi (o := 0) (c := 15) (k := 89) (n := 107) (by decide) rfl (by decide) (by decide)) ?_
  by_cases c101 : 0 ≤ (G (0) 89) ∧ (G (0) 89) < 140
  · skip
    rw [if_pos c101] at e
    obtain ⟨M102, q103, h104⟩ := h.si (o := 258) (n := 140) (v := a1) (by decide) rfl c101.1 c101.2 ta1
    refine xok_eqb q103 ?_
    obtain ⟨G105, g1, e⟩ := xbnd e
    cases g1
    have h104_ : xRX m M0 M102 (xup2 G (258) (G (0) 89).toNat (a1)) := h104
    generalize hGG105 : (xup2 G (258) (G (0) 89).toNat (a1)) = G105 at e h104
    clear h104_ hGG105
    refine xok_eqb (h104.pt (o := 0) (c := 15) (k := 85) (t := 259) (n := 107) (by decide) rfl (by decide) (by decide +kernel)) ?_
    refine xok_eqb (h104.gi (o := 0) (c := 15) (k := 89) (n := 107) (by decide) rfl (by decide) (by decide)) ?_
    by_cases c106 : 0 ≤ (G105 (0) 89) ∧ (G105 (0) 89) < 140
    · skip
      rw [if_pos c106] at e
      obtain ⟨M107, q108, h109⟩ := h104.si (o := 259) (n := 140) (v := a2) (by decide) rfl c106.1 c106.2 ta2
      refine xok_eqb q108 ?_
      obtain ⟨G110, g1, e⟩ := xbnd e
      cases g1
      have h109_ : xRX m M0 M107 (xup2 G105 (259) (G105 (0) 89).toNat (a2)) := h109
      generalize hGG110 : (xup2 G105 (259) (G105 (0) 89).toNat (a2)) = G110 at e h109
      clear h109_ hGG110
      refine xok_eqb (h109.pt (o := 0) (c := 15) (k := 86) (t := 260) (n := 107) (by decide) rfl (by decide) (by decide +kernel)) ?_
      refine xok_eqb (h109.gi (o := 0) (c := 15) (k := 89) (n := 107) (by decide) rfl (by decide) (by decide)) ?_
      by_cases c111 : 0 ≤ (G110 (0) 89) ∧ (G110 (0) 89) < 140
      · skip
        rw [if_pos c111] at e
        obtain ⟨M112, q113, h114⟩ := h109.si (o := 260) (n := 140) (v := a3) (by decide) rfl c111.1 c111.2 ta3
        refine xok_eqb q113 ?_
        obtain ⟨G115, g1, e⟩ := xbnd e
        cases g1
        have h114_ : xRX m M0 M112 (xup2 G110 (260) (G110 (0) 89).toNat (a3)) := h114
        generalize hGG115 : (xup2 G110 (260) (G110 (0) 89).toNat (a3)) = G115 at e h114
        clear h114_ hGG115
        refine xok_eqb (h114.pt (o := 0) (c := 15) (k := 87) (t := 261) (n := 107) (by decide) rfl (by decide) (by decide +kernel)) ?_
        refine xok_eqb (h114.gi (o := 0) (c := 15) (k := 89) (n := 107) (by decide) rfl (by decide) (by decide)) ?_
        by_cases c116 : 0 ≤ (G115 (0) 89) ∧ (G115 (0) 89) < 140
        · skip
          rw [if_pos c116] at e
          obtain ⟨M117, q118, h119⟩ := h114.si (o := 261) (n := 140) (v := a4) (by decide) rfl c116.1 c116.2 ta4
          refine xok_eqb q118 ?_
          obtain ⟨G120, g1, e⟩ := xbnd e
          cases g1
          have h119_ : xRX m M0 M117 (xup2 G115 (261) (G115 (0) 89).toNat (a4)) := h119
          generalize hGG120 : (xup2 G115 (261) (G115 (0) 89).toNat (a4)) = G120 at e h119
          clear h119_ hGG120
          refine xok_eqb (h119.pt (o := 0) (c := 15) (k := 88) (t := 262) (n := 107) (by decide) rfl (by decide) (by decide +kernel)) ?_
          refine xok_eqb (h119.gi (o := 0) (c := 15) (k := 89) (n := 107) (by decide) rfl (by decide) (by decide)) ?_
          by_cases c121 : 0 ≤ (G120 (0) 89) ∧ (G120 (0) 89) < 140
          · skip
            rw [if_pos c121] at e
            obtain ⟨M122, q123, h124⟩ := h119.sl (o := 262) (n := 140) (v := a5) (by decide) rfl c121.1 c121.2 ta5
            refine xok_eqb q123 ?_
            obtain ⟨G125, g1, e⟩ := xbnd e
            cases g1
            have h124_ : xRX m M0 M122 (xup2 G120 (262) (G120 (0) 89).toNat (a5)) := h124
            generalize hGG125 : (xup2 G120 (262) (G120 (0) 89).toNat (a5)) = G125 at e h124
            clear h124_ hGG125
            refine xok_eqb (h124.gi (o := 0) (c := 15) (k := 89) (n := 107) (by decide) rfl (by decide) (by decide)) ?_
            obtain ⟨M126, q127, h128⟩ := h124.pi (v := xwr ((G125 (0) 89) + (1))) (o := 0) (c := 15) (k := 89) (n := 107) (by decide) rfl (by decide) (by decide) (xin_wr _)
            refine xok_eqb q127 ?_
            obtain ⟨G129, g1, e⟩ := xbnd e
            cases g1
            have h128_ : xRX m M0 M126 (xup2 G125 (0) 89 (xwr ((G125 (0) 89) + (1)))) := h128
            generalize hGG129 : (xup2 G125 (0) 89 (xwr ((G125 (0) 89) + (1)))) = G129 at e h128
            clear h128_ hGG129
            refine xok_eqb (h128.gi (o := 0) (c := 15) (k := 89) (n := 107) (by decide) rfl (by decide) (by decide)) ?_
            cases e
            exact ⟨_, rfl, rfl, h128, (xin_wr _)⟩
          · rw [if_neg c121] at e; cases e
        · rw [if_neg c116] at e; cases e
      · rw [if_neg c111] at e; cases e
    · rw [if_neg c106] at e; cases e
  · rw [if_neg c101] at e; cases e
-- ChangeHouseModel.readsCell
theorem s342_36 {m f : Nat} {M0 M : xj_M} {G : xG_} (hI : xHI f)     (h : xRX m M0 M G)  {R : xG_}  (e : g342_36   f  G = some R) : xok (f342_36   f  M) (fun r => xRX m M0 r R) := by
  unfold g342_36 at e
  unfold f342_36
  cases e
  exact ⟨_, rfl, h⟩
theorem sg342 {m f : Nat} {M0 M : xj_M} {G : xG_} (hI : xHI f)   (h : xRX m M0 M G) {a1 : Int} {a2 : Int} {R : xG_} (ta1 : xin a1) (ta2 : xin a2) (e : g342  f a1 a2 G = some R) : xok (f342  f m a1 a2 M) (fun r => xRX m M0 r R) := by
  unfold g342 at e
  unfold f342
  refine xok_ite (fun c101 => ?_) (fun c101 => ?_)
  · rw [if_pos c101] at e
    refine xok_eqb (h.pt (o := 0) (c := 15) (k := 93) (t := 264) (n := 107) (by decide) rfl (by decide) (by decide +kernel)) ?_
    by_cases c102 : 0 ≤ (a1) ∧ (a1) < 72
    · skip
      rw [if_pos c102] at e
      refine xok_eqb (h.al (o := 264) (n := 72) (by decide) rfl  c102.1 c102.2) ?_
      by_cases c103 : 0 ≤ (a1) ∧ (a1) < 72
      · skip
        rw [if_pos c103] at e
        obtain ⟨M104, q105, h106⟩ := h.sl (o := 264) (n := 72) (v := xor8 (G (264) (a1).toNat) (xshl8 (1) (xwr ((a2) - (64))))) (by decide) rfl c103.1 c103.2 (xiN_of _)
        refine xok_eqb q105 ?_
        obtain ⟨G107, g1, e⟩ := xbnd e
        cases g1
        have h106_ : xRX m M0 M104 (xup2 G (264) (a1).toNat (xor8 (G (264) (a1).toNat) (xshl8 (1) (xwr ((a2) - (64)))))) := h106
        generalize hGG107 : (xup2 G (264) (a1).toNat (xor8 (G (264) (a1).toNat) (xshl8 (1) (xwr ((a2) - (64)))))) = G107 at e h106
        clear h106_ hGG107
        exact s342_36 hI   h106  e
      · rw [if_neg c103] at e; cases e
    · rw [if_neg c102] at e; cases e
  · rw [if_neg c101] at e
    refine xok_eqb (h.pt (o := 0) (c := 15) (k := 92) (t := 263) (n := 107) (by decide) rfl (by decide) (by decide +kernel)) ?_
    by_cases c108 : 0 ≤ (a1) ∧ (a1) < 72
    · skip
      rw [if_pos c108] at e
      refine xok_eqb (h.al (o := 263) (n := 72) (by decide) rfl  c108.1 c108.2) ?_
      by_cases c109 : 0 ≤ (a1) ∧ (a1) < 72
      · skip
        rw [if_pos c109] at e
        obtain ⟨M110, q111, h112⟩ := h.sl (o := 263) (n := 72) (v := xor8 (G (263) (a1).toNat) (xshl8 (1) (a2))) (by decide) rfl c109.1 c109.2 (xiN_of _)
        refine xok_eqb q111 ?_
        obtain ⟨G113, g1, e⟩ := xbnd e
        cases g1
        have h112_ : xRX m M0 M110 (xup2 G (263) (a1).toNat (xor8 (G (263) (a1).toNat) (xshl8 (1) (a2)))) := h112
        generalize hGG113 : (xup2 G (263) (a1).toNat (xor8 (G (263) (a1).toNat) (xshl8 (1) (a2)))) = G113 at e h112
        clear h112_ hGG113
        exact s342_36 hI   h112  e
      · rw [if_neg c109] at e; cases e
    · rw [if_neg c108] at e; cases e
-- ChangeHouseModel.has
theorem s343_33 {m f : Nat} {M0 M : xj_M} {G : xG_} (hI : xHI f)     (h : xRX m M0 M G) {y0 : Int} {R : Int × xG_} (ty0 : xin y0) (e : g343_33   f y0 G = some R) : xok (f343_33   f y0 M) (fun r => r.1 = R.1 ∧ xRX m M0 r.2 R.2 ∧ xin R.1) := by
  unfold g343_33 at e
  unfold f343_33
  refine xok_ite (fun c101 => ?_) (fun c101 => ?_)
  · rw [if_pos c101] at e; cases e; exact ⟨_, rfl, rfl, h, ty0⟩
  · rw [if_neg c101] at e; cases e
theorem s343_21 {m f : Nat} {M0 M : xj_M} {G : xG_} (hI : xHI f)     (h : xRX m M0 M G) {y0 : Int} {R : Int × xG_} (ty0 : xiN y0) (e : g343_21   f y0 G = some R) : xok (f343_21   f y0 M) (fun r => r.1 = R.1 ∧ xRX m M0 r.2 R.2 ∧ xin R.1) := by
  unfold g343_21 at e
  unfold f343_21
  refine xok_ite (fun c102 => ?_) (fun c102 => ?_)
  · rw [if_pos c102] at e
    exact s343_33 hI   h (show xin (0) by decide) e
  · rw [if_neg c102] at e
    exact s343_33 hI   h (show xin (1) by decide) e
theorem sg343 {m f : Nat} {M0 M : xj_M} {G : xG_} (hI : xHI f)   (h : xRX m M0 M G) {a0 : Int} {a1 : Int} {a2 : Int} {R : Int × xG_} (ta0 : xiN a0) (ta1 : xiN a1) (ta2 : xin a2) (e : g343  f a0 a1 a2 G = some R) : xok (f343  f a0 a1 a2 M) (fun r => r.1 = R.1 ∧ xRX m M0 r.2 R.2 ∧ xin R.1) := by
  unfold g343 at e
  unfold f343
  refine xok_ite (fun c103 => ?_) (fun c103 => ?_)
  · rw [if_pos c103] at e
    exact s343_21 hI   h (xiN_of _) e
  · rw [if_neg c103] at e
    exact s343_21 hI   h (xiN_of _) e
-- ChangeHouseModel.isWithin
theorem s345_49 {m f : Nat} {M0 M : xj_M} {G : xG_} (hI : xHI f)     (h : xRX m M0 M G) {y0 : Int} {R : Int × xG_} (ty0 : xin y0) (e : g345_49   f y0 G = some R) : xok (f345_49   f y0 M) (fun r => r.1 = R.1 ∧ xRX m M0 r.2 R.2 ∧ xin R.1) := by
  unfold g345_49 at e
  unfold f345_49
  refine xok_ite (fun c101 => ?_) (fun c101 => ?_)
  · rw [if_pos c101] at e; cases e; exact ⟨_, rfl, rfl, h, ty0⟩
  · rw [if_neg c101] at e; cases e
theorem s345_48 {m f : Nat} {M0 M : xj_M} {G : xG_} (hI : xHI f)     (h : xRX m M0 M G)  {R : Int × xG_}  (e : g345_48   f  G = some R) : xok (f345_48   f  M) (fun r => r.1 = R.1 ∧ xRX m M0 r.2 R.2 ∧ xin R.1) := by
  unfold g345_48 at e
  unfold f345_48
  exact s345_49 hI   h (show xin (0) by decide) e
theorem sg345 {m f : Nat} {M0 M : xj_M} {G : xG_} (hI : xHI f)   (h : xRX m M0 M G) {a0 : Int} {a1 : Int} {a2 : Int} {R : Int × xG_} (ta0 : xin a0) (ta1 : xin a1) (ta2 : xin a2) (e : g345  f a0 a1 a2 G = some R) : xok (f345  f a0 a1 a2 M) (fun r => r.1 = R.1 ∧ xRX m M0 r.2 R.2 ∧ xin R.1) := by
  unfold g345 at e
  unfold f345
  refine xok_ite (fun c102 => ?_) (fun c102 => ?_)
  · rw [if_pos c102] at e
    exact s345_48 hI   h  e
  · rw [if_neg c102] at e
    refine xok_ite (fun c103 => ?_) (fun c103 => ?_)
    · rw [if_pos c103] at e
      exact s345_48 hI   h  e
    · rw [if_neg c103] at e
      refine xok_ite (fun c104 => ?_) (fun c104 => ?_)
      · rw [if_pos c104] at e
        exact s345_48 hI   h  e
      · rw [if_neg c104] at e
        refine xok_ite (fun c105 => ?_) (fun c105 => ?_)
        · rw [if_pos c105] at e
          exact s345_48 hI   h  e
        · rw [if_neg c105] at e
          exact s345_49 hI   h (show xin (1) by decide) e
-- ChangeHouseModel.waits
theorem s347_38 {m f : Nat} {M0 M : xj_M} {G : xG_} (hI : xHI f)  {r2 : Int → Int → xG_ → Option (Int × xG_)} {o2 : Nat → Int → Int → xj_M → Option (Int × xj_M)}  (hr2 : ∀ {M : xj_M} {G : xG_} {x1 : Int} {x2 : Int} {R : Int × xG_}, xRX m M0 M G → xin x1 → xin x2 → r2 x1 x2 G = some R → xok (o2 m x1 x2 M) (fun r => r.1 = R.1 ∧ xRX m M0 r.2 R.2 ∧ xin R.1)) (h : xRX m M0 M G) {x1 : Int} {x2 : Int} {R : Int × xG_} (tx1 : xin x1) (tx2 : xin x2) (e : g347_38  r2 f x1 x2 G = some R) : xok (f347_38  o2 f m x1 x2 M) (fun r => r.1 = R.1 ∧ xRX m M0 r.2 R.2 ∧ xin R.1) := by
  unfold g347_38 at e
  unfold f347_38
  exact hr2 h tx1 (xin_wr _) e
theorem s347_2b {m f : Nat} {M0 M : xj_M} {G : xG_} (hI : xHI f)  {r2 : Int → Int → xG_ → Option (Int × xG_)} {o2 : Nat → Int → Int → xj_M → Option (Int × xj_M)}  (hr2 : ∀ {M : xj_M} {G : xG_} {x1 : Int} {x2 : Int} {R : Int × xG_}, xRX m M0 M G → xin x1 → xin x2 → r2 x1 x2 G = some R → xok (o2 m x1 x2 M) (fun r => r.1 = R.1 ∧ xRX m M0 r.2 R.2 ∧ xin R.1)) (h : xRX m M0 M G) {x1 : Int} {x2 : Int} {R : Int × xG_} (tx1 : xin x1) (tx2 : xin x2) (e : g347_2b  r2 f x1 x2 G = some R) : xok (f347_2b  o2 f m x1 x2 M) (fun r => r.1 = R.1 ∧ xRX m M0 r.2 R.2 ∧ xin R.1) := by
  unfold g347_2b at e
  unfold f347_2b
  refine xok_ite (fun c101 => ?_) (fun c101 => ?_)
  · rw [if_pos c101] at e
    cases e
    exact ⟨_, rfl, rfl, h, (show xin (0) by decide)⟩
  · rw [if_neg c101] at e
    refine xok_eqb (h.pt (o := 0) (c := 15) (k := 92) (t := 263) (n := 107) (by decide) rfl (by decide) (by decide +kernel)) ?_
    by_cases c102 : 0 ≤ (x1) ∧ (x1) < 72
    · skip
      rw [if_pos c102] at e
      refine xok_eqb (h.al (o := 263) (n := 72) (by decide) rfl  c102.1 c102.2) ?_
      refine xok_eqb (h.pt (o := 0) (c := 15) (k := 93) (t := 264) (n := 107) (by decide) rfl (by decide) (by decide +kernel)) ?_
      by_cases c103 : 0 ≤ (x1) ∧ (x1) < 72
      · skip
        rw [if_pos c103] at e
        refine xok_eqb (h.al (o := 264) (n := 72) (by decide) rfl  c103.1 c103.2) ?_
        obtain ⟨R104, e105, e⟩ := xbnd e
        refine xok_call (sg343 hI  h (h.aln (o := 263) (n := 72) (by decide) rfl  c102.1 c102.2) (h.aln (o := 264) (n := 72) (by decide) rfl  c103.1 c103.2) tx2 e105) ?_
        rintro ⟨v_, M108⟩ ⟨hv_, h106, hi107⟩
        cases hv_
        refine xok_ite (fun c109 => ?_) (fun c109 => ?_)
        · rw [if_pos c109] at e
          exact s347_38 hI  hr2 h106 tx1 tx2 e
        · rw [if_neg c109] at e
          refine xok_eqb (h106.pt (o := 0) (c := 15) (k := 96) (t := 267) (n := 107) (by decide) rfl (by decide) (by decide +kernel)) ?_
          by_cases c110 : 0 ≤ (x2) ∧ (x2) < 72
          · skip
            rw [if_pos c110] at e
            refine xok_eqb (h106.ab (o := 267) (n := 72) (by decide) rfl (by decide) c110.1 c110.2) ?_
            refine xok_ite (fun c111 => ?_) (fun c111 => ?_)
            · rw [if_pos c111] at e
              exact s347_38 hI  hr2 h106 tx1 tx2 e
            · rw [if_neg c111] at e
              cases e
              exact ⟨_, rfl, rfl, h106, (show xin (1) by decide)⟩
          · rw [if_neg c110] at e; cases e
      · rw [if_neg c103] at e; cases e
    · rw [if_neg c102] at e; cases e
theorem s347_2 {m f : Nat} {M0 : xj_M} (hI : xHI f)     : ∀ {n : Nat} {M : xj_M} {G : xG_} {x1 : Int} {x2 : Int} {R : Int × xG_}, xRX m M0 M G → xin x1 → xin x2 → g347_2   f n x1 x2 G = some R → xok (f347_2   f n m x1 x2 M) (fun r => r.1 = R.1 ∧ xRX m M0 r.2 R.2 ∧ xin R.1) := by
  intro n
  induction n with
  | zero => intros; rename_i e; cases e
  | succ n ih =>
    intros
    rename_i h i0 i1 e
    exact s347_2b hI   ih h i0 i1 e
theorem sg347 {m f : Nat} {M0 M : xj_M} {G : xG_} (hI : xHI f)   (h : xRX m M0 M G) {a1 : Int} {R : Int × xG_} (ta1 : xin a1) (e : g347  f a1 G = some R) : xok (f347  f m a1 M) (fun r => r.1 = R.1 ∧ xRX m M0 r.2 R.2 ∧ xin R.1) := by
  unfold g347 at e
  unfold f347
  exact s347_2 hI   h ta1 (show xin (0) by decide) e
-- ChangeHouseModel.setCell
theorem sg348 {m f : Nat} {M0 M : xj_M} {G : xG_} (hI : xHI f)   (h : xRX m M0 M G) {a0 : Nat} {a1 : Int} {a2 : Int} {a3 : Int} {R : xG_} (ta0 : xoL a0) (ta1 : xin a1) (ta2 : xin a2) (ta3 : xiN a3) (e : g348  f a0 a1 a2 a3 G = some R) : xok (f348  f (m + a0) a1 a2 a3 M) (fun r => xRX m M0 r R) := by
  unfold g348 at e
  unfold f348
  refine xok_eqb (h.pt (o := a0) (c := 13) (k := 20) (t := a0 + 17) (n := 37) (xoL_o ta0).1 (xoL_o ta0).2 (by decide) (xoL_all ta0 (Q := fun p => (p, 20, p + 17) ∈ xl_P) (by decide +kernel) (by decide +kernel) (by decide +kernel) (by decide +kernel))) ?_
  by_cases c101 : 0 ≤ (a1) ∧ (a1) < 72
  · skip
    rw [if_pos c101] at e
    obtain ⟨M102, q103, h104⟩ := h.si (o := a0 + 17) (n := 72) (v := a2) (xoL_all ta0 (Q := fun p => p + 17 < 276) (by decide) (by decide) (by decide) (by decide)) (xoL_all ta0 (Q := fun p => xl_t (p + 17) = (2, 3, 72)) rfl rfl rfl rfl) c101.1 c101.2 ta2
    refine xok_eqb q103 ?_
    obtain ⟨G105, g1, e⟩ := xbnd e
    cases g1
    have h104_ : xRX m M0 M102 (xup2 G (a0 + 17) (a1).toNat (a2)) := h104
    generalize hGG105 : (xup2 G (a0 + 17) (a1).toNat (a2)) = G105 at e h104
    clear h104_ hGG105
    refine xok_eqb (h104.pt (o := a0) (c := 13) (k := 23) (t := a0 + 20) (n := 37) (xoL_o ta0).1 (xoL_o ta0).2 (by decide) (xoL_all ta0 (Q := fun p => (p, 23, p + 20) ∈ xl_P) (by decide +kernel) (by decide +kernel) (by decide +kernel) (by decide +kernel))) ?_
    by_cases c106 : 0 ≤ (a1) ∧ (a1) < 72
    · skip
      rw [if_pos c106] at e
      obtain ⟨M107, q108, h109⟩ := h104.sl (o := a0 + 20) (n := 72) (v := a3) (xoL_all ta0 (Q := fun p => p + 20 < 276) (by decide) (by decide) (by decide) (by decide)) (xoL_all ta0 (Q := fun p => xl_t (p + 20) = (2, 4, 72)) rfl rfl rfl rfl) c106.1 c106.2 ta3
      refine xok_eqb q108 ?_
      obtain ⟨G110, g1, e⟩ := xbnd e
      cases g1
      have h109_ : xRX m M0 M107 (xup2 G105 (a0 + 20) (a1).toNat (a3)) := h109
      generalize hGG110 : (xup2 G105 (a0 + 20) (a1).toNat (a3)) = G110 at e h109
      clear h109_ hGG110
      cases e
      exact ⟨_, rfl, h109⟩
    · rw [if_neg c106] at e; cases e
  · rw [if_neg c101] at e; cases e
-- ChangeHouseModel.overCells
theorem s352_99 {m f : Nat} {M0 M : xj_M} {G : xG_} (hI : xHI f)  {r8 : Nat → Int → Int → Int → Int → xG_ → Option (Int × xG_)} {o8 : Nat → Nat → Int → Int → Int → Int → xj_M → Option (Int × xj_M)}  (hr8 : ∀ {M : xj_M} {G : xG_} {x1 : Nat} {x2 : Int} {x3 : Int} {x5 : Int} {x6 : Int} {R : Int × xG_}, xRX m M0 M G → xoL x1 → xin x2 → xiN x3 → xin x5 → xin x6 → r8 x1 x2 x3 x5 x6 G = some R → xok (o8 m (m + x1) x2 x3 x5 x6 M) (fun r => r.1 = R.1 ∧ xRX m M0 r.2 R.2 ∧ xiN R.1)) (h : xRX m M0 M G) {x1 : Nat} {x2 : Int} {x3 : Int} {x5 : Int} {x6 : Int} {R : Int × xG_} (tx1 : xoL x1) (tx2 : xin x2) (tx3 : xiN x3) (tx5 : xin x5) (tx6 : xin x6) (e : g352_99  r8 f x1 x2 x3 x5 x6 G = some R) : xok (f352_99  o8 f m (m + x1) x2 x3 x5 x6 M) (fun r => r.1 = R.1 ∧ xRX m M0 r.2 R.2 ∧ xiN R.1) := by
  unfold g352_99 at e
  unfold f352_99
  exact hr8 h tx1 tx2 tx3 tx5 (xin_wr _) e
theorem s352_140 {m f : Nat} {M0 M : xj_M} {G : xG_} (hI : xHI f)     (h : xRX m M0 M G) {x3 : Int} {R : Int × xG_} (tx3 : xiN x3) (e : g352_140   f x3 G = some R) : xok (f352_140   f x3 M) (fun r => r.1 = R.1 ∧ xRX m M0 r.2 R.2 ∧ xiN R.1) := by
  unfold g352_140 at e
  unfold f352_140
  cases e
  exact ⟨_, rfl, rfl, h, tx3⟩
theorem s352_135 {m f : Nat} {M0 M : xj_M} {G : xG_} (hI : xHI f)     (h : xRX m M0 M G) {x3 : Int} {R : Int × xG_} (tx3 : xiN x3) (e : g352_135   f x3 G = some R) : xok (f352_135   f m x3 M) (fun r => r.1 = R.1 ∧ xRX m M0 r.2 R.2 ∧ xiN R.1) := by
  unfold g352_135 at e
  unfold f352_135
  obtain ⟨M101, q102, h103⟩ := h.pi (v := 3) (o := 0) (c := 15) (k := 91) (n := 107) (by decide) rfl (by decide) (by decide) (show xin (3) by decide)
  refine xok_eqb q102 ?_
  obtain ⟨G104, g1, e⟩ := xbnd e
  cases g1
  have h103_ : xRX m M0 M101 (xup2 G (0) 91 (3)) := h103
  generalize hGG104 : (xup2 G (0) 91 (3)) = G104 at e h103
  clear h103_ hGG104
  exact s352_140 hI   h103 tx3 e
theorem s352_8b {m f : Nat} {M0 M : xj_M} {G : xG_} (hI : xHI f)  {r8 : Nat → Int → Int → Int → Int → xG_ → Option (Int × xG_)} {o8 : Nat → Nat → Int → Int → Int → Int → xj_M → Option (Int × xj_M)}  (hr8 : ∀ {M : xj_M} {G : xG_} {x1 : Nat} {x2 : Int} {x3 : Int} {x5 : Int} {x6 : Int} {R : Int × xG_}, xRX m M0 M G → xoL x1 → xin x2 → xiN x3 → xin x5 → xin x6 → r8 x1 x2 x3 x5 x6 G = some R → xok (o8 m (m + x1) x2 x3 x5 x6 M) (fun r => r.1 = R.1 ∧ xRX m M0 r.2 R.2 ∧ xiN R.1)) (h : xRX m M0 M G) {x1 : Nat} {x2 : Int} {x3 : Int} {x5 : Int} {x6 : Int} {R : Int × xG_} (tx1 : xoL x1) (tx2 : xin x2) (tx3 : xiN x3) (tx5 : xin x5) (tx6 : xin x6) (e : g352_8b  r8 f x1 x2 x3 x5 x6 G = some R) : xok (f352_8b  o8 f m (m + x1) x2 x3 x5 x6 M) (fun r => r.1 = R.1 ∧ xRX m M0 r.2 R.2 ∧ xiN R.1) := by
  unfold g352_8b at e
  unfold f352_8b
  refine xok_ite (fun c105 => ?_) (fun c105 => ?_)
  · rw [if_pos c105] at e
    refine xok_eqb (h.pt (o := 0) (c := 15) (k := 84) (t := 258) (n := 107) (by decide) rfl (by decide) (by decide +kernel)) ?_
    by_cases c106 : 0 ≤ (x2) ∧ (x2) < 140
    · skip
      rw [if_pos c106] at e
      refine xok_eqb (h.ai (o := 258) (n := 140) (by decide) rfl (by decide) c106.1 c106.2) ?_
      refine xok_ite (fun c107 => ?_) (fun c107 => ?_)
      · rw [if_pos c107] at e
        refine xok_ite (fun c108 => ?_) (fun c108 => ?_)
        · rw [if_pos c108] at e
          exact s352_135 hI   h tx3 e
        · rw [if_neg c108] at e
          refine xok_ite (fun c109 => ?_) (fun c109 => ?_)
          · rw [if_pos c109] at e
            exact s352_140 hI   h tx3 e
          · rw [if_neg c109] at e
            exact s352_135 hI   h tx3 e
      · rw [if_neg c107] at e
        cases e
        exact ⟨_, rfl, rfl, h, (xin_N tx5)⟩
    · rw [if_neg c106] at e; cases e
  · rw [if_neg c105] at e
    refine xok_eqb (h.pt (o := 0) (c := 15) (k := 85) (t := 259) (n := 107) (by decide) rfl (by decide) (by decide +kernel)) ?_
    by_cases c110 : 0 ≤ (x2) ∧ (x2) < 140
    · skip
      rw [if_pos c110] at e
      refine xok_eqb (h.ai (o := 259) (n := 140) (by decide) rfl (by decide) c110.1 c110.2) ?_
      refine xok_eqb (h.pt (o := 0) (c := 15) (k := 86) (t := 260) (n := 107) (by decide) rfl (by decide) (by decide +kernel)) ?_
      by_cases c111 : 0 ≤ (x2) ∧ (x2) < 140
      · skip
        rw [if_pos c111] at e
        refine xok_eqb (h.ai (o := 260) (n := 140) (by decide) rfl (by decide) c111.1 c111.2) ?_
        obtain ⟨R112, e113, e⟩ := xbnd e
        refine xok_call (sg345 hI  h tx6 (h.ain (o := 259) (n := 140) (by decide) rfl (by decide) c110.1 c110.2) (h.ain (o := 260) (n := 140) (by decide) rfl (by decide) c111.1 c111.2) e113) ?_
        rintro ⟨v_, M116⟩ ⟨hv_, h114, hi115⟩
        cases hv_
        refine xok_ite (fun c117 => ?_) (fun c117 => ?_)
        · rw [if_pos c117] at e
          exact s352_99 hI  hr8 h114 tx1 tx2 tx3 tx5 tx6 e
        · rw [if_neg c117] at e
          refine xok_eqb (h114.pt (o := x1) (c := 13) (k := 20) (t := x1 + 17) (n := 37) (xoL_o tx1).1 (xoL_o tx1).2 (by decide) (xoL_all tx1 (Q := fun p => (p, 20, p + 17) ∈ xl_P) (by decide +kernel) (by decide +kernel) (by decide +kernel) (by decide +kernel))) ?_
          by_cases c118 : 0 ≤ (x6) ∧ (x6) < 72
          · skip
            rw [if_pos c118] at e
            refine xok_eqb (h114.ai (o := x1 + 17) (n := 72) (xoL_all tx1 (Q := fun p => p + 17 < 276) (by decide) (by decide) (by decide) (by decide)) (xoL_all tx1 (Q := fun p => xl_t (p + 17) = (2, 3, 72)) rfl rfl rfl rfl) (by decide) c118.1 c118.2) ?_
            refine xok_ite (fun c119 => ?_) (fun c119 => ?_)
            · rw [if_pos c119] at e
              refine xok_eqb (h114.pt (o := x1) (c := 13) (k := 20) (t := x1 + 17) (n := 37) (xoL_o tx1).1 (xoL_o tx1).2 (by decide) (xoL_all tx1 (Q := fun p => (p, 20, p + 17) ∈ xl_P) (by decide +kernel) (by decide +kernel) (by decide +kernel) (by decide +kernel))) ?_
              by_cases c120 : 0 ≤ (x6) ∧ (x6) < 72
              · skip
                rw [if_pos c120] at e
                refine xok_eqb (h114.ai (o := x1 + 17) (n := 72) (xoL_all tx1 (Q := fun p => p + 17 < 276) (by decide) (by decide) (by decide) (by decide)) (xoL_all tx1 (Q := fun p => xl_t (p + 17) = (2, 3, 72)) rfl rfl rfl rfl) (by decide) c120.1 c120.2) ?_
                refine xok_ite (fun c121 => ?_) (fun c121 => ?_)
                · rw [if_pos c121] at e
                  refine xok_eqb (h114.pt (o := x1) (c := 13) (k := 23) (t := x1 + 20) (n := 37) (xoL_o tx1).1 (xoL_o tx1).2 (by decide) (xoL_all tx1 (Q := fun p => (p, 23, p + 20) ∈ xl_P) (by decide +kernel) (by decide +kernel) (by decide +kernel) (by decide +kernel))) ?_
                  by_cases c122 : 0 ≤ (x6) ∧ (x6) < 72
                  · skip
                    rw [if_pos c122] at e
                    refine xok_eqb (h114.al (o := x1 + 20) (n := 72) (xoL_all tx1 (Q := fun p => p + 20 < 276) (by decide) (by decide) (by decide) (by decide)) (xoL_all tx1 (Q := fun p => xl_t (p + 20) = (2, 4, 72)) rfl rfl rfl rfl)  c122.1 c122.2) ?_
                    obtain ⟨R123, e124, e⟩ := xbnd e
                    refine xok_call (sg267 hI  h114 (h114.aln (o := x1 + 20) (n := 72) (xoL_all tx1 (Q := fun p => p + 20 < 276) (by decide) (by decide) (by decide) (by decide)) (xoL_all tx1 (Q := fun p => xl_t (p + 20) = (2, 4, 72)) rfl rfl rfl rfl)  c122.1 c122.2) e124) ?_
                    rintro ⟨v_, M127⟩ ⟨hv_, h125, hi126⟩
                    cases hv_
                    refine xok_ite (fun c128 => ?_) (fun c128 => ?_)
                    · rw [if_pos c128] at e
                      exact s352_99 hI  hr8 h125 tx1 tx2 tx3 (xin_wr _) tx6 e
                    · rw [if_neg c128] at e
                      refine xok_eqb (h125.pt (o := x1) (c := 13) (k := 23) (t := x1 + 20) (n := 37) (xoL_o tx1).1 (xoL_o tx1).2 (by decide) (xoL_all tx1 (Q := fun p => (p, 23, p + 20) ∈ xl_P) (by decide +kernel) (by decide +kernel) (by decide +kernel) (by decide +kernel))) ?_
                      by_cases c129 : 0 ≤ (x6) ∧ (x6) < 72
                      · skip
                        rw [if_pos c129] at e
                        refine xok_eqb (h125.al (o := x1 + 20) (n := 72) (xoL_all tx1 (Q := fun p => p + 20 < 276) (by decide) (by decide) (by decide) (by decide)) (xoL_all tx1 (Q := fun p => xl_t (p + 20) = (2, 4, 72)) rfl rfl rfl rfl)  c129.1 c129.2) ?_
                        exact s352_99 hI  hr8 h125 tx1 tx2 (xiN_wl _) (xin_wr _) tx6 e
                      · rw [if_neg c129] at e; cases e
                  · rw [if_neg c122] at e; cases e
                · rw [if_neg c121] at e
                  refine xok_eqb (h114.pt (o := x1) (c := 13) (k := 23) (t := x1 + 20) (n := 37) (xoL_o tx1).1 (xoL_o tx1).2 (by decide) (xoL_all tx1 (Q := fun p => (p, 23, p + 20) ∈ xl_P) (by decide +kernel) (by decide +kernel) (by decide +kernel) (by decide +kernel))) ?_
                  by_cases c130 : 0 ≤ (x6) ∧ (x6) < 72
                  · skip
                    rw [if_pos c130] at e
                    refine xok_eqb (h114.al (o := x1 + 20) (n := 72) (xoL_all tx1 (Q := fun p => p + 20 < 276) (by decide) (by decide) (by decide) (by decide)) (xoL_all tx1 (Q := fun p => xl_t (p + 20) = (2, 4, 72)) rfl rfl rfl rfl)  c130.1 c130.2) ?_
                    obtain ⟨M131, q132, h133⟩ := h114.pi (v := xwr (R112.2 (x1 + 20) (x6).toNat)) (o := 0) (c := 15) (k := 91) (n := 107) (by decide) rfl (by decide) (by decide) (xin_wr _)
                    refine xok_eqb q132 ?_
                    obtain ⟨G134, g1, e⟩ := xbnd e
                    cases g1
                    have h133_ : xRX m M0 M131 (xup2 R112.2 (0) 91 (xwr (R112.2 (x1 + 20) (x6).toNat))) := h133
                    generalize hGG134 : (xup2 R112.2 (0) 91 (xwr (R112.2 (x1 + 20) (x6).toNat))) = G134 at e h133
                    clear h133_ hGG134
                    cases e
                    exact ⟨_, rfl, rfl, h133, (show xiN (0) by decide)⟩
                  · rw [if_neg c130] at e; cases e
              · rw [if_neg c120] at e; cases e
            · rw [if_neg c119] at e
              exact s352_99 hI  hr8 h114 tx1 tx2 tx3 tx5 tx6 e
          · rw [if_neg c118] at e; cases e
      · rw [if_neg c111] at e; cases e
    · rw [if_neg c110] at e; cases e
theorem s352_8 {m f : Nat} {M0 : xj_M} (hI : xHI f)     : ∀ {n : Nat} {M : xj_M} {G : xG_} {x1 : Nat} {x2 : Int} {x3 : Int} {x5 : Int} {x6 : Int} {R : Int × xG_}, xRX m M0 M G → xoL x1 → xin x2 → xiN x3 → xin x5 → xin x6 → g352_8   f n x1 x2 x3 x5 x6 G = some R → xok (f352_8   f n m (m + x1) x2 x3 x5 x6 M) (fun r => r.1 = R.1 ∧ xRX m M0 r.2 R.2 ∧ xiN R.1) := by
  intro n
  induction n with
  | zero => intros; rename_i e; cases e
  | succ n ih =>
    intros
    rename_i h i0 i1 i2 i3 i4 e
    exact s352_8b hI   ih h i0 i1 i2 i3 i4 e
theorem sg352 {m f : Nat} {M0 M : xj_M} {G : xG_} (hI : xHI f)   (h : xRX m M0 M G) {a1 : Nat} {a2 : Int} {R : Int × xG_} (ta1 : xoL a1) (ta2 : xin a2) (e : g352  f a1 a2 G = some R) : xok (f352  f m (m + a1) a2 M) (fun r => r.1 = R.1 ∧ xRX m M0 r.2 R.2 ∧ xiN R.1) := by
  unfold g352 at e
  unfold f352
  exact s352_8 hI   h ta1 ta2 (show xiN (0) by decide) (show xin (0) by decide) (show xin (0) by decide) e
-- ChangeHouseModel.overRows
theorem s353_41 {m f : Nat} {M0 M : xj_M} {G : xG_} (hI : xHI f)     (h : xRX m M0 M G)  {R : Int × xG_}  (e : g353_41   f  G = some R) : xok (f353_41   f m M) (fun r => r.1 = R.1 ∧ xRX m M0 r.2 R.2 ∧ xiN R.1) := by
  unfold g353_41 at e
  unfold f353_41
  obtain ⟨M101, q102, h103⟩ := h.pi (v := 4) (o := 0) (c := 15) (k := 91) (n := 107) (by decide) rfl (by decide) (by decide) (show xin (4) by decide)
  refine xok_eqb q102 ?_
  obtain ⟨G104, g1, e⟩ := xbnd e
  cases g1
  have h103_ : xRX m M0 M101 (xup2 G (0) 91 (4)) := h103
  generalize hGG104 : (xup2 G (0) 91 (4)) = G104 at e h103
  clear h103_ hGG104
  cases e
  exact ⟨_, rfl, rfl, h103, (show xiN (0) by decide)⟩
theorem s353_173 {m f : Nat} {M0 M : xj_M} {G : xG_} (hI : xHI f)  {r73 : Int → Int → Int → Int → Int → xG_ → Option (Int × xG_)} {o73 : Nat → Int → Int → Int → Int → Int → xj_M → Option (Int × xj_M)}  (hr73 : ∀ {M : xj_M} {G : xG_} {x1 : Int} {x2 : Int} {x3 : Int} {x4 : Int} {x6 : Int} {R : Int × xG_}, xRX m M0 M G → xin x1 → xin x2 → xin x3 → xiN x4 → xin x6 → r73 x1 x2 x3 x4 x6 G = some R → xok (o73 m x1 x2 x3 x4 x6 M) (fun r => r.1 = R.1 ∧ xRX m M0 r.2 R.2 ∧ xiN R.1)) (h : xRX m M0 M G) {x1 : Int} {x2 : Int} {x3 : Int} {x4 : Int} {x6 : Int} {R : Int × xG_} (tx1 : xin x1) (tx2 : xin x2) (tx3 : xin x3) (tx4 : xiN x4) (tx6 : xin x6) (e : g353_173  r73 f x1 x2 x3 x4 x6 G = some R) : xok (f353_173  o73 f m x1 x2 x3 x4 x6 M) (fun r => r.1 = R.1 ∧ xRX m M0 r.2 R.2 ∧ xiN R.1) := by
  unfold g353_173 at e
  unfold f353_173
  exact hr73 h tx1 tx2 tx3 tx4 (xin_wr _) e
theorem s353_127 {m f : Nat} {M0 M : xj_M} {G : xG_} (hI : xHI f)  {r73 : Int → Int → Int → Int → Int → xG_ → Option (Int × xG_)} {o73 : Nat → Int → Int → Int → Int → Int → xj_M → Option (Int × xj_M)}  (hr73 : ∀ {M : xj_M} {G : xG_} {x1 : Int} {x2 : Int} {x3 : Int} {x4 : Int} {x6 : Int} {R : Int × xG_}, xRX m M0 M G → xin x1 → xin x2 → xin x3 → xiN x4 → xin x6 → r73 x1 x2 x3 x4 x6 G = some R → xok (o73 m x1 x2 x3 x4 x6 M) (fun r => r.1 = R.1 ∧ xRX m M0 r.2 R.2 ∧ xiN R.1)) (h : xRX m M0 M G) {x1 : Int} {x2 : Int} {x3 : Int} {x6 : Int} {y0 : Int} {y1 : Int} {R : Int × xG_} (tx1 : xin x1) (tx2 : xin x2) (tx3 : xin x3) (tx6 : xin x6) (ty0 : xiN y0) (ty1 : xiN y1) (e : g353_127  r73 f x1 x2 x3 x6 y0 y1 G = some R) : xok (f353_127  o73 f m x1 x2 x3 x6 y0 y1 M) (fun r => r.1 = R.1 ∧ xRX m M0 r.2 R.2 ∧ xiN R.1) := by
  unfold g353_127 at e
  unfold f353_127
  exact s353_173 hI  hr73 h tx1 tx2 tx3 (xiN_wl _) tx6 e
theorem s353_171 {m f : Nat} {M0 M : xj_M} {G : xG_} (hI : xHI f)  {r73 : Int → Int → Int → Int → Int → xG_ → Option (Int × xG_)} {o73 : Nat → Int → Int → Int → Int → Int → xj_M → Option (Int × xj_M)}  (hr73 : ∀ {M : xj_M} {G : xG_} {x1 : Int} {x2 : Int} {x3 : Int} {x4 : Int} {x6 : Int} {R : Int × xG_}, xRX m M0 M G → xin x1 → xin x2 → xin x3 → xiN x4 → xin x6 → r73 x1 x2 x3 x4 x6 G = some R → xok (o73 m x1 x2 x3 x4 x6 M) (fun r => r.1 = R.1 ∧ xRX m M0 r.2 R.2 ∧ xiN R.1)) (h : xRX m M0 M G) {x1 : Int} {x2 : Int} {x3 : Int} {x6 : Int} {y0 : Int} {R : Int × xG_} (tx1 : xin x1) (tx2 : xin x2) (tx3 : xin x3) (tx6 : xin x6) (ty0 : xiN y0) (e : g353_171  r73 f x1 x2 x3 x6 y0 G = some R) : xok (f353_171  o73 f m x1 x2 x3 x6 y0 M) (fun r => r.1 = R.1 ∧ xRX m M0 r.2 R.2 ∧ xiN R.1) := by
  unfold g353_171 at e
  unfold f353_171
  exact s353_173 hI  hr73 h tx1 tx2 tx3 ty0 tx6 e
theorem s353_213 {m f : Nat} {M0 M : xj_M} {G : xG_} (hI : xHI f)     (h : xRX m M0 M G) {x4 : Int} {R : Int × xG_} (tx4 : xiN x4) (e : g353_213   f x4 G = some R) : xok (f353_213   f x4 M) (fun r => r.1 = R.1 ∧ xRX m M0 r.2 R.2 ∧ xiN R.1) := by
  unfold g353_213 at e
  unfold f353_213
  cases e
  exact ⟨_, rfl, rfl, h, tx4⟩
theorem s353_208 {m f : Nat} {M0 M : xj_M} {G : xG_} (hI : xHI f)     (h : xRX m M0 M G) {x4 : Int} {R : Int × xG_} (tx4 : xiN x4) (e : g353_208   f x4 G = some R) : xok (f353_208   f m x4 M) (fun r => r.1 = R.1 ∧ xRX m M0 r.2 R.2 ∧ xiN R.1) := by
  unfold g353_208 at e
  unfold f353_208
  obtain ⟨M105, q106, h107⟩ := h.pi (v := 3) (o := 0) (c := 15) (k := 91) (n := 107) (by decide) rfl (by decide) (by decide) (show xin (3) by decide)
  refine xok_eqb q106 ?_
  obtain ⟨G108, g1, e⟩ := xbnd e
  cases g1
  have h107_ : xRX m M0 M105 (xup2 G (0) 91 (3)) := h107
  generalize hGG108 : (xup2 G (0) 91 (3)) = G108 at e h107
  clear h107_ hGG108
  exact s353_213 hI   h107 tx4 e
theorem s353_73b {m f : Nat} {M0 M : xj_M} {G : xG_} (hI : xHI f)  {r73 : Int → Int → Int → Int → Int → xG_ → Option (Int × xG_)} {o73 : Nat → Int → Int → Int → Int → Int → xj_M → Option (Int × xj_M)}  (hr73 : ∀ {M : xj_M} {G : xG_} {x1 : Int} {x2 : Int} {x3 : Int} {x4 : Int} {x6 : Int} {R : Int × xG_}, xRX m M0 M G → xin x1 → xin x2 → xin x3 → xiN x4 → xin x6 → r73 x1 x2 x3 x4 x6 G = some R → xok (o73 m x1 x2 x3 x4 x6 M) (fun r => r.1 = R.1 ∧ xRX m M0 r.2 R.2 ∧ xiN R.1)) (h : xRX m M0 M G) {x1 : Int} {x2 : Int} {x3 : Int} {x4 : Int} {x6 : Int} {R : Int × xG_} (tx1 : xin x1) (tx2 : xin x2) (tx3 : xin x3) (tx4 : xiN x4) (tx6 : xin x6) (e : g353_73b  r73 f x1 x2 x3 x4 x6 G = some R) : xok (f353_73b  o73 f m x1 x2 x3 x4 x6 M) (fun r => r.1 = R.1 ∧ xRX m M0 r.2 R.2 ∧ xiN R.1) := by
  unfold g353_73b at e
  unfold f353_73b
  refine xok_eqb (h.pt (o := 0) (c := 15) (k := 33) (t := 108) (n := 107) (by decide) rfl (by decide) (by decide +kernel)) ?_
  by_cases c109 : 0 ≤ (x2) ∧ (x2) < 16
  · skip
    rw [if_pos c109] at e
    refine xok_eqb (h.ai (o := 108) (n := 16) (by decide) rfl (by decide) c109.1 c109.2) ?_
    refine xok_ite (fun c110 => ?_) (fun c110 => ?_)
    · rw [if_pos c110] at e
      refine xok_eqb (h.pt (o := 0) (c := 15) (k := 84) (t := 258) (n := 107) (by decide) rfl (by decide) (by decide +kernel)) ?_
      by_cases c111 : 0 ≤ (x1) ∧ (x1) < 140
      · skip
        rw [if_pos c111] at e
        refine xok_eqb (h.ai (o := 258) (n := 140) (by decide) rfl (by decide) c111.1 c111.2) ?_
        refine xok_ite (fun c112 => ?_) (fun c112 => ?_)
        · rw [if_pos c112] at e
          exact s353_213 hI   h tx4 e
        · rw [if_neg c112] at e
          refine xok_ite (fun c113 => ?_) (fun c113 => ?_)
          · rw [if_pos c113] at e
            exact s353_208 hI   h tx4 e
          · rw [if_neg c113] at e
            refine xok_ite (fun c114 => ?_) (fun c114 => ?_)
            · rw [if_pos c114] at e
              exact s353_213 hI   h tx4 e
            · rw [if_neg c114] at e
              exact s353_208 hI   h tx4 e
      · rw [if_neg c111] at e; cases e
    · rw [if_neg c110] at e
      refine xok_eqb (h.pt (o := 0) (c := 15) (k := 32) (t := 107) (n := 107) (by decide) rfl (by decide) (by decide +kernel)) ?_
      obtain ⟨R115, e116, e⟩ := xbnd e
      refine xok_eqb (h.is (o := 0) (c := 15) (by decide) rfl) ?_
      refine xok_call (sg261 hI  h tx2 tx6 e116) ?_
      rintro ⟨v_, M119⟩ ⟨hv_, h117, hi118⟩
      cases hv_
      by_cases c120 : 0 ≤ (xwr ((R115.1) + (x3))) ∧ (xwr ((R115.1) + (x3))) < 33280
      · skip
        rw [if_pos c120] at e
        refine xok_eqb (h117.al (o := 107) (n := 33280) (by decide) rfl  c120.1 c120.2) ?_
        refine xok_eqb (h117.pt (o := 0) (c := 15) (k := 84) (t := 258) (n := 107) (by decide) rfl (by decide) (by decide +kernel)) ?_
        by_cases c121 : 0 ≤ (x1) ∧ (x1) < 140
        · skip
          rw [if_pos c121] at e
          refine xok_eqb (h117.ai (o := 258) (n := 140) (by decide) rfl (by decide) c121.1 c121.2) ?_
          refine xok_ite (fun c122 => ?_) (fun c122 => ?_)
          · rw [if_pos c122] at e
            refine xok_ite (fun c123 => ?_) (fun c123 => ?_)
            · rw [if_pos c123] at e
              refine xok_eqb (h117.pt (o := 0) (c := 15) (k := 84) (t := 258) (n := 107) (by decide) rfl (by decide) (by decide +kernel)) ?_
              by_cases c124 : 0 ≤ (x1) ∧ (x1) < 140
              · skip
                rw [if_pos c124] at e
                refine xok_eqb (h117.ai (o := 258) (n := 140) (by decide) rfl (by decide) c124.1 c124.2) ?_
                refine xok_ite (fun c125 => ?_) (fun c125 => ?_)
                · rw [if_pos c125] at e
                  exact s353_171 hI  hr73 h117 tx1 tx2 tx3 tx6 (xmax_iN tx4 (h117.aln (o := 107) (n := 33280) (by decide) rfl  c120.1 c120.2)) e
                · rw [if_neg c125] at e
                  exact s353_171 hI  hr73 h117 tx1 tx2 tx3 tx6 (xmin_iN tx4 (h117.aln (o := 107) (n := 33280) (by decide) rfl  c120.1 c120.2)) e
              · rw [if_neg c124] at e; cases e
            · rw [if_neg c123] at e
              exact s353_171 hI  hr73 h117 tx1 tx2 tx3 tx6 (h117.aln (o := 107) (n := 33280) (by decide) rfl  c120.1 c120.2) e
          · rw [if_neg c122] at e
            obtain ⟨R126, e127, e⟩ := xbnd e
            refine xok_call (sg267 hI  h117 (h117.aln (o := 107) (n := 33280) (by decide) rfl  c120.1 c120.2) e127) ?_
            rintro ⟨v_, M130⟩ ⟨hv_, h128, hi129⟩
            cases hv_
            refine xok_ite (fun c131 => ?_) (fun c131 => ?_)
            · rw [if_pos c131] at e
              exact s353_127 hI  hr73 h128 tx1 tx2 tx3 tx6 (h117.aln (o := 107) (n := 33280) (by decide) rfl  c120.1 c120.2) tx4 e
            · rw [if_neg c131] at e
              exact s353_127 hI  hr73 h128 tx1 tx2 tx3 tx6 (show xiN (0) by decide) tx4 e
        · rw [if_neg c121] at e; cases e
      · rw [if_neg c120] at e; cases e
  · rw [if_neg c109] at e; cases e
theorem s353_73 {m f : Nat} {M0 : xj_M} (hI : xHI f)     : ∀ {n : Nat} {M : xj_M} {G : xG_} {x1 : Int} {x2 : Int} {x3 : Int} {x4 : Int} {x6 : Int} {R : Int × xG_}, xRX m M0 M G → xin x1 → xin x2 → xin x3 → xiN x4 → xin x6 → g353_73   f n x1 x2 x3 x4 x6 G = some R → xok (f353_73   f n m x1 x2 x3 x4 x6 M) (fun r => r.1 = R.1 ∧ xRX m M0 r.2 R.2 ∧ xiN R.1) := by
  intro n
  induction n with
  | zero => intros; rename_i e; cases e
  | succ n ih =>
    intros
    rename_i h i0 i1 i2 i3 i4 e
    exact s353_73b hI   ih h i0 i1 i2 i3 i4 e
theorem sg353 {m f : Nat} {M0 M : xj_M} {G : xG_} (hI : xHI f)   (h : xRX m M0 M G) {a1 : Int} {R : Int × xG_} (ta1 : xin a1) (e : g353  f a1 G = some R) : xok (f353  f m a1 M) (fun r => r.1 = R.1 ∧ xRX m M0 r.2 R.2 ∧ xiN R.1) := by
  unfold g353 at e
  unfold f353
  refine xok_eqb (h.pt (o := 0) (c := 15) (k := 29) (t := 2) (n := 107) (by decide) rfl (by decide) (by decide +kernel)) ?_
  refine xok_eqb (h.pt (o := 0) (c := 15) (k := 88) (t := 262) (n := 107) (by decide) rfl (by decide) (by decide +kernel)) ?_
  by_cases c132 : 0 ≤ (a1) ∧ (a1) < 140
  · skip
    rw [if_pos c132] at e
    refine xok_eqb (h.al (o := 262) (n := 140) (by decide) rfl  c132.1 c132.2) ?_
    obtain ⟨R133, e134, e⟩ := xbnd e
    refine xok_eqb (h.is (o := 2) (c := 14) (xoP_o (show xoP 2 by unfold xoP; omega)).1 (xoP_o (show xoP 2 by unfold xoP; omega)).2) ?_
    refine xok_call (sg205 hI  h (show xoP 2 by unfold xoP; omega) (h.aln (o := 262) (n := 140) (by decide) rfl  c132.1 c132.2) e134) ?_
    rintro ⟨v_, M137⟩ ⟨hv_, h135, hi136⟩
    cases hv_
    refine xok_eqb (h135.pt (o := 0) (c := 15) (k := 85) (t := 259) (n := 107) (by decide) rfl (by decide) (by decide +kernel)) ?_
    by_cases c138 : 0 ≤ (a1) ∧ (a1) < 140
    · skip
      rw [if_pos c138] at e
      refine xok_eqb (h135.ai (o := 259) (n := 140) (by decide) rfl (by decide) c138.1 c138.2) ?_
      refine xok_ite (fun c139 => ?_) (fun c139 => ?_)
      · rw [if_pos c139] at e
        exact s353_41 hI   h135  e
      · rw [if_neg c139] at e
        refine xok_eqb (h135.pt (o := 0) (c := 15) (k := 29) (t := 2) (n := 107) (by decide) rfl (by decide) (by decide +kernel)) ?_
        refine xok_eqb (h135.pt (o := 2) (c := 14) (k := 1) (t := 2 + 2) (n := 38) (xoP_o (show xoP 2 by unfold xoP; omega)).1 (xoP_o (show xoP 2 by unfold xoP; omega)).2 (by decide) (xoP_all (show xoP 2 by unfold xoP; omega) (Q := fun p => (p, 1, p + 2) ∈ xl_P) (by decide +kernel) (by decide +kernel) (by decide +kernel))) ?_
        by_cases c140 : 0 ≤ (R133.1) ∧ (R133.1) < 16
        · skip
          rw [if_pos c140] at e
          refine xok_eqb (h135.ai (o := 2 + 2) (n := 16) (xoP_all (show xoP 2 by unfold xoP; omega) (Q := fun p => p + 2 < 276) (by decide) (by decide) (by decide)) (xoP_all (show xoP 2 by unfold xoP; omega) (Q := fun p => xl_t (p + 2) = (2, 3, 16)) rfl rfl rfl) (by decide) c140.1 c140.2) ?_
          refine xok_ite (fun c141 => ?_) (fun c141 => ?_)
          · rw [if_pos c141] at e
            refine xok_eqb (h135.pt (o := 0) (c := 15) (k := 84) (t := 258) (n := 107) (by decide) rfl (by decide) (by decide +kernel)) ?_
            by_cases c142 : 0 ≤ (a1) ∧ (a1) < 140
            · skip
              rw [if_pos c142] at e
              refine xok_eqb (h135.ai (o := 258) (n := 140) (by decide) rfl (by decide) c142.1 c142.2) ?_
              refine xok_ite (fun c143 => ?_) (fun c143 => ?_)
              · rw [if_pos c143] at e
                exact s353_73 hI   h135 ta1 hi136 (xin_wr _) (show xiN (0) by decide) (show xin (0) by decide) e
              · rw [if_neg c143] at e
                refine xok_eqb (h135.pt (o := 0) (c := 15) (k := 33) (t := 108) (n := 107) (by decide) rfl (by decide) (by decide +kernel)) ?_
                by_cases c144 : 0 ≤ (R133.1) ∧ (R133.1) < 16
                · skip
                  rw [if_pos c144] at e
                  refine xok_eqb (h135.ai (o := 108) (n := 16) (by decide) rfl (by decide) c144.1 c144.2) ?_
                  cases e
                  exact ⟨_, rfl, rfl, h135, (xin_N (h135.ain (o := 108) (n := 16) (by decide) rfl (by decide) c144.1 c144.2))⟩
                · rw [if_neg c144] at e; cases e
            · rw [if_neg c142] at e; cases e
          · rw [if_neg c141] at e
            exact s353_41 hI   h135  e
        · rw [if_neg c140] at e; cases e
    · rw [if_neg c138] at e; cases e
  · rw [if_neg c132] at e; cases e
-- ChangeHouseModel.sheet
theorem s355_25 {m f : Nat} {M0 M : xj_M} {G : xG_} (hI : xHI f)     (h : xRX m M0 M G)  {R : Int × xG_}  (e : g355_25   f  G = some R) : xok (f355_25   f m M) (fun r => r.1 = R.1 ∧ xRX m M0 r.2 R.2 ∧ xiN R.1) := by
  unfold g355_25 at e
  unfold f355_25
  obtain ⟨R101, e102, e⟩ := xbnd e
  refine xok_eqb (h.is (o := 0) (c := 15) (by decide) rfl) ?_
  refine xok_call (sg321 hI  h  e102) ?_
  rintro ⟨v_, M105⟩ ⟨hv_, h103, hi104⟩
  cases hv_
  cases e
  exact ⟨_, rfl, rfl, h103, (xin_N hi104)⟩
theorem s355_102 {m f : Nat} {M0 M : xj_M} {G : xG_} (hI : xHI f)     (h : xRX m M0 M G) {y0 : Int} {R : Int × xG_} (ty0 : xiN y0) (e : g355_102   f y0 G = some R) : xok (f355_102   f y0 M) (fun r => r.1 = R.1 ∧ xRX m M0 r.2 R.2 ∧ xiN R.1) := by
  unfold g355_102 at e
  unfold f355_102
  cases e
  exact ⟨_, rfl, rfl, h, ty0⟩
theorem sg355 {m f : Nat} {M0 M : xj_M} {G : xG_} (hI : xHI f)   (h : xRX m M0 M G) {a1 : Int} {a2 : Int} {a3 : Int} {R : Int × xG_} (ta1 : xin a1) (ta2 : xin a2) (ta3 : xin a3) (e : g355  f a1 a2 a3 G = some R) : xok (f355  f m a1 a2 a3 M) (fun r => r.1 = R.1 ∧ xRX m M0 r.2 R.2 ∧ xiN R.1) := by
  unfold g355 at e
  unfold f355
  obtain ⟨M106, q107, h108⟩ := h.pi (v := 0) (o := 0) (c := 15) (k := 74) (n := 107) (by decide) rfl (by decide) (by decide) (show xin (0) by decide)
  refine xok_eqb q107 ?_
  obtain ⟨G109, g1, e⟩ := xbnd e
  cases g1
  have h108_ : xRX m M0 M106 (xup2 G (0) 74 (0)) := h108
  generalize hGG109 : (xup2 G (0) 74 (0)) = G109 at e h108
  clear h108_ hGG109
  refine xok_ite (fun c110 => ?_) (fun c110 => ?_)
  · rw [if_pos c110] at e
    exact s355_25 hI   h108  e
  · rw [if_neg c110] at e
    refine xok_ite (fun c111 => ?_) (fun c111 => ?_)
    · rw [if_pos c111] at e
      exact s355_25 hI   h108  e
    · rw [if_neg c111] at e
      refine xok_ite (fun c112 => ?_) (fun c112 => ?_)
      · rw [if_pos c112] at e
        exact s355_25 hI   h108  e
      · rw [if_neg c112] at e
        refine xok_ite (fun c113 => ?_) (fun c113 => ?_)
        · rw [if_pos c113] at e
          refine xok_eqb (h108.pt (o := 0) (c := 15) (k := 61) (t := 122) (n := 107) (by decide) rfl (by decide) (by decide +kernel)) ?_
          refine xok_eqb (h108.gi (o := 0) (c := 15) (k := 62) (n := 107) (by decide) rfl (by decide) (by decide)) ?_
          by_cases c114 : 0 ≤ (G109 (0) 62) ∧ (G109 (0) 62) < 4
          · skip
            rw [if_pos c114] at e
            refine xok_eqb (h108.lin c114) ?_
            refine xok_ite (fun c115 => ?_) (fun c115 => ?_)
            · rw [if_pos c115] at e
              refine xok_ite (fun c116 => ?_) (fun c116 => ?_)
              · rw [if_pos c116] at e
                refine xok_ite (fun c117 => ?_) (fun c117 => ?_)
                · rw [if_pos c117] at e
                  exact s355_102 hI   h108 (show xiN (-1) by decide) e
                · rw [if_neg c117] at e
                  refine xok_eqb (h108.pt (o := 123 + 29 * (G109 (0) 62).toNat) (c := 13) (k := 19) (t := 123 + 29 * (G109 (0) 62).toNat + 16) (n := 37) (xoL_o (xoL_of c114)).1 (xoL_o (xoL_of c114)).2 (by decide) (xoL_all (xoL_of c114) (Q := fun p => (p, 19, p + 16) ∈ xl_P) (by decide +kernel) (by decide +kernel) (by decide +kernel) (by decide +kernel))) ?_
                  by_cases c118 : 0 ≤ (xwr ((a1) + (xwr ((6) * (a2))))) ∧ (xwr ((a1) + (xwr ((6) * (a2))))) < 72
                  · skip
                    rw [if_pos c118] at e
                    refine xok_eqb (h108.ai (o := 123 + 29 * (G109 (0) 62).toNat + 16) (n := 72) (xoL_all (xoL_of c114) (Q := fun p => p + 16 < 276) (by decide) (by decide) (by decide) (by decide)) (xoL_all (xoL_of c114) (Q := fun p => xl_t (p + 16) = (2, 3, 72)) rfl rfl rfl rfl) (by decide) c118.1 c118.2) ?_
                    exact s355_102 hI   h108 (xin_N (h108.ain (o := 123 + 29 * (G109 (0) 62).toNat + 16) (n := 72) (xoL_all (xoL_of c114) (Q := fun p => p + 16 < 276) (by decide) (by decide) (by decide) (by decide)) (xoL_all (xoL_of c114) (Q := fun p => xl_t (p + 16) = (2, 3, 72)) rfl rfl rfl rfl) (by decide) c118.1 c118.2)) e
                  · rw [if_neg c118] at e; cases e
              · rw [if_neg c116] at e
                refine xok_eqb (h108.pt (o := 123 + 29 * (G109 (0) 62).toNat) (c := 13) (k := 23) (t := 123 + 29 * (G109 (0) 62).toNat + 20) (n := 37) (xoL_o (xoL_of c114)).1 (xoL_o (xoL_of c114)).2 (by decide) (xoL_all (xoL_of c114) (Q := fun p => (p, 23, p + 20) ∈ xl_P) (by decide +kernel) (by decide +kernel) (by decide +kernel) (by decide +kernel))) ?_
                by_cases c119 : 0 ≤ (xwr ((a1) + (xwr ((6) * (a2))))) ∧ (xwr ((a1) + (xwr ((6) * (a2))))) < 72
                · skip
                  rw [if_pos c119] at e
                  refine xok_eqb (h108.al (o := 123 + 29 * (G109 (0) 62).toNat + 20) (n := 72) (xoL_all (xoL_of c114) (Q := fun p => p + 20 < 276) (by decide) (by decide) (by decide) (by decide)) (xoL_all (xoL_of c114) (Q := fun p => xl_t (p + 20) = (2, 4, 72)) rfl rfl rfl rfl)  c119.1 c119.2) ?_
                  exact s355_102 hI   h108 (h108.aln (o := 123 + 29 * (G109 (0) 62).toNat + 20) (n := 72) (xoL_all (xoL_of c114) (Q := fun p => p + 20 < 276) (by decide) (by decide) (by decide) (by decide)) (xoL_all (xoL_of c114) (Q := fun p => xl_t (p + 20) = (2, 4, 72)) rfl rfl rfl rfl)  c119.1 c119.2) e
                · rw [if_neg c119] at e; cases e
            · rw [if_neg c115] at e
              refine xok_eqb (h108.pt (o := 123 + 29 * (G109 (0) 62).toNat) (c := 13) (k := 20) (t := 123 + 29 * (G109 (0) 62).toNat + 17) (n := 37) (xoL_o (xoL_of c114)).1 (xoL_o (xoL_of c114)).2 (by decide) (xoL_all (xoL_of c114) (Q := fun p => (p, 20, p + 17) ∈ xl_P) (by decide +kernel) (by decide +kernel) (by decide +kernel) (by decide +kernel))) ?_
              by_cases c120 : 0 ≤ (xwr ((a1) + (xwr ((6) * (a2))))) ∧ (xwr ((a1) + (xwr ((6) * (a2))))) < 72
              · skip
                rw [if_pos c120] at e
                refine xok_eqb (h108.ai (o := 123 + 29 * (G109 (0) 62).toNat + 17) (n := 72) (xoL_all (xoL_of c114) (Q := fun p => p + 17 < 276) (by decide) (by decide) (by decide) (by decide)) (xoL_all (xoL_of c114) (Q := fun p => xl_t (p + 17) = (2, 3, 72)) rfl rfl rfl rfl) (by decide) c120.1 c120.2) ?_
                exact s355_102 hI   h108 (xin_N (h108.ain (o := 123 + 29 * (G109 (0) 62).toNat + 17) (n := 72) (xoL_all (xoL_of c114) (Q := fun p => p + 17 < 276) (by decide) (by decide) (by decide) (by decide)) (xoL_all (xoL_of c114) (Q := fun p => xl_t (p + 17) = (2, 3, 72)) rfl rfl rfl rfl) (by decide) c120.1 c120.2)) e
              · rw [if_neg c120] at e; cases e
          · rw [if_neg c114] at e; cases e
        · rw [if_neg c113] at e
          exact s355_25 hI   h108  e
-- ChangeHouseModel.thrown
theorem sg358 {m f : Nat} {M0 M : xj_M} {G : xG_} (hI : xHI f)   (h : xRX m M0 M G)  {R : Int × xG_}  (e : g358  f  G = some R) : xok (f358  f m M) (fun r => r.1 = R.1 ∧ xRX m M0 r.2 R.2 ∧ xin R.1) := by
  unfold g358 at e
  unfold f358
  refine xok_eqb (h.gi (o := 0) (c := 15) (k := 74) (n := 107) (by decide) rfl (by decide) (by decide)) ?_
  cases e
  exact ⟨_, rfl, rfl, h, (h.gin (o := 0) (c := 15) (k := 74) (n := 107) (by decide) rfl (by decide) (by decide))⟩
