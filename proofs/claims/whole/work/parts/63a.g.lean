/-! The reference over what stands at its cells (written by mk_g.py) -/
-- ChangeHouseModel$Facts.copy
theorem s194_44b {m f : Nat} {M0 M : xj_M} {G : xG_} (hI : xHI f)  {r10 : Nat → Nat → Int → xG_ → Option (xG_)} {o10 : Nat → Nat → Int → xj_M → Option (xj_M)} {r44 : Nat → Nat → Int → Int → xG_ → Option (xG_)} {o44 : Nat → Nat → Int → Int → xj_M → Option (xj_M)}  (hr10 : ∀ {M : xj_M} {G : xG_} {x0 : Nat} {x1 : Nat} {x2 : Int} {R : xG_}, xRX m M0 M G → xoF x0 → xoF x1 → xin x2 → r10 x0 x1 x2 G = some R → xok (o10 (m + x0) (m + x1) x2 M) (fun r => xRX m M0 r R)) (hr44 : ∀ {M : xj_M} {G : xG_} {x0 : Nat} {x1 : Nat} {x2 : Int} {x3 : Int} {R : xG_}, xRX m M0 M G → xoF x0 → xoF x1 → xin x2 → xin x3 → r44 x0 x1 x2 x3 G = some R → xok (o44 (m + x0) (m + x1) x2 x3 M) (fun r => xRX m M0 r R)) (h : xRX m M0 M G) {x0 : Nat} {x1 : Nat} {x2 : Int} {x3 : Int} {R : xG_} (tx0 : xoF x0) (tx1 : xoF x1) (tx2 : xin x2) (tx3 : xin x3) (e : g194_44b  r10 r44 f x0 x1 x2 x3 G = some R) : xok (f194_44b  o10 o44 f (m + x0) (m + x1) x2 x3 M) (fun r => xRX m M0 r R) := by
  unfold g194_44b at e
  unfold f194_44b
  refine xok_ite (fun c101 => ?_) (fun c101 => ?_)
  · rw [if_pos c101] at e
    exact hr10 h tx0 tx1 (xin_wr _) e
  · rw [if_neg c101] at e
    refine xok_eqb (h.pt (o := x0) (c := 12) (k := 1) (t := x0 + 2) (n := 4) (xoF_o tx0).1 (xoF_o tx0).2 (by decide) (xoF_all tx0 (Q := fun p => (p, 1, p + 2) ∈ xl_P) (by decide +kernel) (by decide +kernel) (by decide +kernel) (by decide +kernel) (by decide +kernel) (by decide +kernel) (by decide +kernel))) ?_
    refine xok_eqb (h.pt (o := x1) (c := 12) (k := 1) (t := x1 + 2) (n := 4) (xoF_o tx1).1 (xoF_o tx1).2 (by decide) (xoF_all tx1 (Q := fun p => (p, 1, p + 2) ∈ xl_P) (by decide +kernel) (by decide +kernel) (by decide +kernel) (by decide +kernel) (by decide +kernel) (by decide +kernel) (by decide +kernel))) ?_
    by_cases c102 : 0 ≤ (xwr ((xwr ((4) * (x2))) + (x3))) ∧ (xwr ((xwr ((4) * (x2))) + (x3))) < 13600
    · skip
      rw [if_pos c102] at e
      refine xok_eqb (h.al (o := x1 + 2) (n := 13600) (xoF_all tx1 (Q := fun p => p + 2 < 276) (by decide) (by decide) (by decide) (by decide) (by decide) (by decide) (by decide)) (xoF_all tx1 (Q := fun p => xl_t (p + 2) = (2, 4, 13600)) rfl rfl rfl rfl rfl rfl rfl)  c102.1 c102.2) ?_
      by_cases c103 : 0 ≤ (xwr ((xwr ((4) * (x2))) + (x3))) ∧ (xwr ((xwr ((4) * (x2))) + (x3))) < 13600
      · skip
        rw [if_pos c103] at e
        obtain ⟨M104, q105, h106⟩ := h.sl (o := x0 + 2) (n := 13600) (v := G (x1 + 2) (xwr ((xwr ((4) * (x2))) + (x3))).toNat) (xoF_all tx0 (Q := fun p => p + 2 < 276) (by decide) (by decide) (by decide) (by decide) (by decide) (by decide) (by decide)) (xoF_all tx0 (Q := fun p => xl_t (p + 2) = (2, 4, 13600)) rfl rfl rfl rfl rfl rfl rfl) c103.1 c103.2 (h.aln (o := x1 + 2) (n := 13600) (xoF_all tx1 (Q := fun p => p + 2 < 276) (by decide) (by decide) (by decide) (by decide) (by decide) (by decide) (by decide)) (xoF_all tx1 (Q := fun p => xl_t (p + 2) = (2, 4, 13600)) rfl rfl rfl rfl rfl rfl rfl)  c102.1 c102.2)
        refine xok_eqb q105 ?_
        obtain ⟨G107, g1, e⟩ := xbnd e
        cases g1
        have h106_ : xRX m M0 M104 (xup2 G (x0 + 2) (xwr ((xwr ((4) * (x2))) + (x3))).toNat (G (x1 + 2) (xwr ((xwr ((4) * (x2))) + (x3))).toNat)) := h106
        generalize hGG107 : (xup2 G (x0 + 2) (xwr ((xwr ((4) * (x2))) + (x3))).toNat (G (x1 + 2) (xwr ((xwr ((4) * (x2))) + (x3))).toNat)) = G107 at e h106
        clear h106_ hGG107
        exact hr44 h106 tx0 tx1 tx2 (xin_wr _) e
      · rw [if_neg c103] at e; cases e
    · rw [if_neg c102] at e; cases e
theorem s194_44 {m f : Nat} {M0 : xj_M} (hI : xHI f)  {r10 : Nat → Nat → Int → xG_ → Option (xG_)} {o10 : Nat → Nat → Int → xj_M → Option (xj_M)}  (hr10 : ∀ {M : xj_M} {G : xG_} {x0 : Nat} {x1 : Nat} {x2 : Int} {R : xG_}, xRX m M0 M G → xoF x0 → xoF x1 → xin x2 → r10 x0 x1 x2 G = some R → xok (o10 (m + x0) (m + x1) x2 M) (fun r => xRX m M0 r R)) : ∀ {n : Nat} {M : xj_M} {G : xG_} {x0 : Nat} {x1 : Nat} {x2 : Int} {x3 : Int} {R : xG_}, xRX m M0 M G → xoF x0 → xoF x1 → xin x2 → xin x3 → g194_44  r10 f n x0 x1 x2 x3 G = some R → xok (f194_44  o10 f n (m + x0) (m + x1) x2 x3 M) (fun r => xRX m M0 r R) := by
  intro n
  induction n with
  | zero => intros; rename_i e; cases e
  | succ n ih =>
    intros
    rename_i h i0 i1 i2 i3 e
    exact s194_44b hI  hr10 ih h i0 i1 i2 i3 e
theorem s194_10b {m f : Nat} {M0 M : xj_M} {G : xG_} (hI : xHI f)  {r10 : Nat → Nat → Int → xG_ → Option (xG_)} {o10 : Nat → Nat → Int → xj_M → Option (xj_M)}  (hr10 : ∀ {M : xj_M} {G : xG_} {x0 : Nat} {x1 : Nat} {x2 : Int} {R : xG_}, xRX m M0 M G → xoF x0 → xoF x1 → xin x2 → r10 x0 x1 x2 G = some R → xok (o10 (m + x0) (m + x1) x2 M) (fun r => xRX m M0 r R)) (h : xRX m M0 M G) {x0 : Nat} {x1 : Nat} {x2 : Int} {R : xG_} (tx0 : xoF x0) (tx1 : xoF x1) (tx2 : xin x2) (e : g194_10b  r10 f x0 x1 x2 G = some R) : xok (f194_10b  o10 f (m + x0) (m + x1) x2 M) (fun r => xRX m M0 r R) := by
  unfold g194_10b at e
  unfold f194_10b
  refine xok_eqb (h.gi (o := x0) (c := 12) (k := 3) (n := 4) (xoF_o tx0).1 (xoF_o tx0).2 (by decide) (by decide)) ?_
  refine xok_ite (fun c108 => ?_) (fun c108 => ?_)
  · rw [if_pos c108] at e
    cases e
    exact ⟨_, rfl, h⟩
  · rw [if_neg c108] at e
    refine xok_eqb (h.pt (o := x0) (c := 12) (k := 0) (t := x0 + 1) (n := 4) (xoF_o tx0).1 (xoF_o tx0).2 (by decide) (xoF_all tx0 (Q := fun p => (p, 0, p + 1) ∈ xl_P) (by decide +kernel) (by decide +kernel) (by decide +kernel) (by decide +kernel) (by decide +kernel) (by decide +kernel) (by decide +kernel))) ?_
    refine xok_eqb (h.pt (o := x1) (c := 12) (k := 0) (t := x1 + 1) (n := 4) (xoF_o tx1).1 (xoF_o tx1).2 (by decide) (xoF_all tx1 (Q := fun p => (p, 0, p + 1) ∈ xl_P) (by decide +kernel) (by decide +kernel) (by decide +kernel) (by decide +kernel) (by decide +kernel) (by decide +kernel) (by decide +kernel))) ?_
    by_cases c109 : 0 ≤ (x2) ∧ (x2) < 3400
    · skip
      rw [if_pos c109] at e
      refine xok_eqb (h.al (o := x1 + 1) (n := 3400) (xoF_all tx1 (Q := fun p => p + 1 < 276) (by decide) (by decide) (by decide) (by decide) (by decide) (by decide) (by decide)) (xoF_all tx1 (Q := fun p => xl_t (p + 1) = (2, 4, 3400)) rfl rfl rfl rfl rfl rfl rfl)  c109.1 c109.2) ?_
      by_cases c110 : 0 ≤ (x2) ∧ (x2) < 3400
      · skip
        rw [if_pos c110] at e
        obtain ⟨M111, q112, h113⟩ := h.sl (o := x0 + 1) (n := 3400) (v := G (x1 + 1) (x2).toNat) (xoF_all tx0 (Q := fun p => p + 1 < 276) (by decide) (by decide) (by decide) (by decide) (by decide) (by decide) (by decide)) (xoF_all tx0 (Q := fun p => xl_t (p + 1) = (2, 4, 3400)) rfl rfl rfl rfl rfl rfl rfl) c110.1 c110.2 (h.aln (o := x1 + 1) (n := 3400) (xoF_all tx1 (Q := fun p => p + 1 < 276) (by decide) (by decide) (by decide) (by decide) (by decide) (by decide) (by decide)) (xoF_all tx1 (Q := fun p => xl_t (p + 1) = (2, 4, 3400)) rfl rfl rfl rfl rfl rfl rfl)  c109.1 c109.2)
        refine xok_eqb q112 ?_
        obtain ⟨G114, g1, e⟩ := xbnd e
        cases g1
        have h113_ : xRX m M0 M111 (xup2 G (x0 + 1) (x2).toNat (G (x1 + 1) (x2).toNat)) := h113
        generalize hGG114 : (xup2 G (x0 + 1) (x2).toNat (G (x1 + 1) (x2).toNat)) = G114 at e h113
        clear h113_ hGG114
        refine xok_eqb (h113.pt (o := x0) (c := 12) (k := 2) (t := x0 + 3) (n := 4) (xoF_o tx0).1 (xoF_o tx0).2 (by decide) (xoF_all tx0 (Q := fun p => (p, 2, p + 3) ∈ xl_P) (by decide +kernel) (by decide +kernel) (by decide +kernel) (by decide +kernel) (by decide +kernel) (by decide +kernel) (by decide +kernel))) ?_
        refine xok_eqb (h113.pt (o := x1) (c := 12) (k := 2) (t := x1 + 3) (n := 4) (xoF_o tx1).1 (xoF_o tx1).2 (by decide) (xoF_all tx1 (Q := fun p => (p, 2, p + 3) ∈ xl_P) (by decide +kernel) (by decide +kernel) (by decide +kernel) (by decide +kernel) (by decide +kernel) (by decide +kernel) (by decide +kernel))) ?_
        by_cases c115 : 0 ≤ (x2) ∧ (x2) < 3400
        · skip
          rw [if_pos c115] at e
          refine xok_eqb (h113.ai (o := x1 + 3) (n := 3400) (xoF_all tx1 (Q := fun p => p + 3 < 276) (by decide) (by decide) (by decide) (by decide) (by decide) (by decide) (by decide)) (xoF_all tx1 (Q := fun p => xl_t (p + 3) = (2, 3, 3400)) rfl rfl rfl rfl rfl rfl rfl) (by decide) c115.1 c115.2) ?_
          by_cases c116 : 0 ≤ (x2) ∧ (x2) < 3400
          · skip
            rw [if_pos c116] at e
            obtain ⟨M117, q118, h119⟩ := h113.si (o := x0 + 3) (n := 3400) (v := G114 (x1 + 3) (x2).toNat) (xoF_all tx0 (Q := fun p => p + 3 < 276) (by decide) (by decide) (by decide) (by decide) (by decide) (by decide) (by decide)) (xoF_all tx0 (Q := fun p => xl_t (p + 3) = (2, 3, 3400)) rfl rfl rfl rfl rfl rfl rfl) c116.1 c116.2 (h113.ain (o := x1 + 3) (n := 3400) (xoF_all tx1 (Q := fun p => p + 3 < 276) (by decide) (by decide) (by decide) (by decide) (by decide) (by decide) (by decide)) (xoF_all tx1 (Q := fun p => xl_t (p + 3) = (2, 3, 3400)) rfl rfl rfl rfl rfl rfl rfl) (by decide) c115.1 c115.2)
            refine xok_eqb q118 ?_
            obtain ⟨G120, g1, e⟩ := xbnd e
            cases g1
            have h119_ : xRX m M0 M117 (xup2 G114 (x0 + 3) (x2).toNat (G114 (x1 + 3) (x2).toNat)) := h119
            generalize hGG120 : (xup2 G114 (x0 + 3) (x2).toNat (G114 (x1 + 3) (x2).toNat)) = G120 at e h119
            clear h119_ hGG120
            exact s194_44 hI  hr10 h119 tx0 tx1 tx2 (show xin (0) by decide) e
          · rw [if_neg c116] at e; cases e
        · rw [if_neg c115] at e; cases e
      · rw [if_neg c110] at e; cases e
    · rw [if_neg c109] at e; cases e
theorem s194_10 {m f : Nat} {M0 : xj_M} (hI : xHI f)     : ∀ {n : Nat} {M : xj_M} {G : xG_} {x0 : Nat} {x1 : Nat} {x2 : Int} {R : xG_}, xRX m M0 M G → xoF x0 → xoF x1 → xin x2 → g194_10   f n x0 x1 x2 G = some R → xok (f194_10   f n (m + x0) (m + x1) x2 M) (fun r => xRX m M0 r R) := by
  intro n
  induction n with
  | zero => intros; rename_i e; cases e
  | succ n ih =>
    intros
    rename_i h i0 i1 i2 e
    exact s194_10b hI   ih h i0 i1 i2 e
theorem sg194 {m f : Nat} {M0 M : xj_M} {G : xG_} (hI : xHI f)   (h : xRX m M0 M G) {a0 : Nat} {a1 : Nat} {R : xG_} (ta0 : xoF a0) (ta1 : xoF a1) (e : g194  f a0 a1 G = some R) : xok (f194  f (m + a0) (m + a1) M) (fun r => xRX m M0 r R) := by
  unfold g194 at e
  unfold f194
  refine xok_eqb (h.gi (o := a1) (c := 12) (k := 3) (n := 4) (xoF_o ta1).1 (xoF_o ta1).2 (by decide) (by decide)) ?_
  obtain ⟨M121, q122, h123⟩ := h.pi (v := G (a1) 3) (o := a0) (c := 12) (k := 3) (n := 4) (xoF_o ta0).1 (xoF_o ta0).2 (by decide) (by decide) (h.gin (o := a1) (c := 12) (k := 3) (n := 4) (xoF_o ta1).1 (xoF_o ta1).2 (by decide) (by decide))
  refine xok_eqb q122 ?_
  obtain ⟨G124, g1, e⟩ := xbnd e
  cases g1
  have h123_ : xRX m M0 M121 (xup2 G (a0) 3 (G (a1) 3)) := h123
  generalize hGG124 : (xup2 G (a0) 3 (G (a1) 3)) = G124 at e h123
  clear h123_ hGG124
  exact s194_10 hI   h123 ta0 ta1 (show xin (0) by decide) e
-- ChangeHouseModel$Facts.compare
theorem s195_19 {m f : Nat} {M0 M : xj_M} {G : xG_} (hI : xHI f)     (h : xRX m M0 M G) {y0 : Int} {R : Int × xG_} (ty0 : xin y0) (e : g195_19   f y0 G = some R) : xok (f195_19   f y0 M) (fun r => r.1 = R.1 ∧ xRX m M0 r.2 R.2 ∧ xin R.1) := by
  unfold g195_19 at e
  unfold f195_19
  cases e
  exact ⟨_, rfl, rfl, h, ty0⟩
theorem s195_37 {m f : Nat} {M0 M : xj_M} {G : xG_} (hI : xHI f)     (h : xRX m M0 M G) {y0 : Int} {R : Int × xG_} (ty0 : xin y0) (e : g195_37   f y0 G = some R) : xok (f195_37   f y0 M) (fun r => r.1 = R.1 ∧ xRX m M0 r.2 R.2 ∧ xin R.1) := by
  unfold g195_37 at e
  unfold f195_37
  cases e
  exact ⟨_, rfl, rfl, h, ty0⟩
theorem s195_90 {m f : Nat} {M0 M : xj_M} {G : xG_} (hI : xHI f)     (h : xRX m M0 M G) {y0 : Int} {R : Int × xG_} (ty0 : xin y0) (e : g195_90   f y0 G = some R) : xok (f195_90   f y0 M) (fun r => r.1 = R.1 ∧ xRX m M0 r.2 R.2 ∧ xin R.1) := by
  unfold g195_90 at e
  unfold f195_90
  cases e
  exact ⟨_, rfl, rfl, h, ty0⟩
theorem s195_41b {m f : Nat} {M0 M : xj_M} {G : xG_} (hI : xHI f)  {r41 : Int → Nat → Int → Nat → Int → Int → xG_ → Option (Int × xG_)} {o41 : Int → Nat → Int → Nat → Int → Int → xj_M → Option (Int × xj_M)}  (hr41 : ∀ {M : xj_M} {G : xG_} {x2 : Int} {x3 : Nat} {x4 : Int} {x8 : Nat} {x9 : Int} {x10 : Int} {R : Int × xG_}, xRX m M0 M G → xin x2 → xoJ x3 → xin x4 → xoJ x8 → xin x9 → xin x10 → r41 x2 x3 x4 x8 x9 x10 G = some R → xok (o41 x2 (m + x3) x4 (m + x8) x9 x10 M) (fun r => r.1 = R.1 ∧ xRX m M0 r.2 R.2 ∧ xin R.1)) (h : xRX m M0 M G) {x2 : Int} {x3 : Nat} {x4 : Int} {x8 : Nat} {x9 : Int} {x10 : Int} {R : Int × xG_} (tx2 : xin x2) (tx3 : xoJ x3) (tx4 : xin x4) (tx8 : xoJ x8) (tx9 : xin x9) (tx10 : xin x10) (e : g195_41b  r41 f x2 x3 x4 x8 x9 x10 G = some R) : xok (f195_41b  o41 f x2 (m + x3) x4 (m + x8) x9 x10 M) (fun r => r.1 = R.1 ∧ xRX m M0 r.2 R.2 ∧ xin R.1) := by
  unfold g195_41b at e
  unfold f195_41b
  refine xok_ite (fun c101 => ?_) (fun c101 => ?_)
  · rw [if_pos c101] at e
    cases e
    exact ⟨_, rfl, rfl, h, (show xin (0) by decide)⟩
  · rw [if_neg c101] at e
    by_cases c102 : 0 ≤ (xwr ((x4) + (x10))) ∧ (xwr ((x4) + (x10))) < ((xl_t (x3)).2.2 : Int)
    · skip
      rw [if_pos c102] at e
      refine xok_eqb (h.al (o := x3) (n := (xl_t (x3)).2.2) tx3.1 tx3.2  c102.1 c102.2) ?_
      by_cases c103 : 0 ≤ (xwr ((x9) + (x10))) ∧ (xwr ((x9) + (x10))) < ((xl_t (x8)).2.2 : Int)
      · skip
        rw [if_pos c103] at e
        refine xok_eqb (h.al (o := x8) (n := (xl_t (x8)).2.2) tx8.1 tx8.2  c103.1 c103.2) ?_
        refine xok_ite (fun c104 => ?_) (fun c104 => ?_)
        · rw [if_pos c104] at e
          exact hr41 h tx2 tx3 tx4 tx8 tx9 (xin_wr _) e
        · rw [if_neg c104] at e
          by_cases c105 : 0 ≤ (xwr ((x4) + (x10))) ∧ (xwr ((x4) + (x10))) < ((xl_t (x3)).2.2 : Int)
          · skip
            rw [if_pos c105] at e
            refine xok_eqb (h.al (o := x3) (n := (xl_t (x3)).2.2) tx3.1 tx3.2  c105.1 c105.2) ?_
            by_cases c106 : 0 ≤ (xwr ((x9) + (x10))) ∧ (xwr ((x9) + (x10))) < ((xl_t (x8)).2.2 : Int)
            · skip
              rw [if_pos c106] at e
              refine xok_eqb (h.al (o := x8) (n := (xl_t (x8)).2.2) tx8.1 tx8.2  c106.1 c106.2) ?_
              refine xok_ite (fun c107 => ?_) (fun c107 => ?_)
              · rw [if_pos c107] at e
                exact s195_90 hI   h (show xin (1) by decide) e
              · rw [if_neg c107] at e
                exact s195_90 hI   h (show xin (-1) by decide) e
            · rw [if_neg c106] at e; cases e
          · rw [if_neg c105] at e; cases e
      · rw [if_neg c103] at e; cases e
    · rw [if_neg c102] at e; cases e
theorem s195_41 {m f : Nat} {M0 : xj_M} (hI : xHI f)     : ∀ {n : Nat} {M : xj_M} {G : xG_} {x2 : Int} {x3 : Nat} {x4 : Int} {x8 : Nat} {x9 : Int} {x10 : Int} {R : Int × xG_}, xRX m M0 M G → xin x2 → xoJ x3 → xin x4 → xoJ x8 → xin x9 → xin x10 → g195_41   f n x2 x3 x4 x8 x9 x10 G = some R → xok (f195_41   f n x2 (m + x3) x4 (m + x8) x9 x10 M) (fun r => r.1 = R.1 ∧ xRX m M0 r.2 R.2 ∧ xin R.1) := by
  intro n
  induction n with
  | zero => intros; rename_i e; cases e
  | succ n ih =>
    intros
    rename_i h i0 i1 i2 i3 i4 i5 e
    exact s195_41b hI   ih h i0 i1 i2 i3 i4 i5 e
theorem sg195 {m f : Nat} {M0 M : xj_M} {G : xG_} (hI : xHI f)   (h : xRX m M0 M G) {a0 : Int} {a1 : Int} {a2 : Nat} {a3 : Int} {a4 : Int} {a5 : Int} {a6 : Nat} {a7 : Int} {R : Int × xG_} (ta0 : xiN a0) (ta1 : xin a1) (ta2 : xoJ a2) (ta3 : xin a3) (ta4 : xiN a4) (ta5 : xin a5) (ta6 : xoJ a6) (ta7 : xin a7) (e : g195  f a0 a1 a2 a3 a4 a5 a6 a7 G = some R) : xok (f195  f a0 a1 (m + a2) a3 a4 a5 (m + a6) a7 M) (fun r => r.1 = R.1 ∧ xRX m M0 r.2 R.2 ∧ xin R.1) := by
  unfold g195 at e
  unfold f195
  refine xok_ite (fun c108 => ?_) (fun c108 => ?_)
  · rw [if_pos c108] at e
    refine xok_ite (fun c109 => ?_) (fun c109 => ?_)
    · rw [if_pos c109] at e
      exact s195_41 hI   h ta1 ta2 ta3 ta6 ta7 (show xin (0) by decide) e
    · rw [if_neg c109] at e
      refine xok_ite (fun c110 => ?_) (fun c110 => ?_)
      · rw [if_pos c110] at e
        exact s195_37 hI   h (show xin (1) by decide) e
      · rw [if_neg c110] at e
        exact s195_37 hI   h (show xin (-1) by decide) e
  · rw [if_neg c108] at e
    refine xok_ite (fun c111 => ?_) (fun c111 => ?_)
    · rw [if_pos c111] at e
      exact s195_19 hI   h (show xin (1) by decide) e
    · rw [if_neg c111] at e
      exact s195_19 hI   h (show xin (-1) by decide) e
-- ChangeHouseModel$Facts.placeOf
theorem s196_72 {m f : Nat} {M0 M : xj_M} {G : xG_} (hI : xHI f)  {r9 : Nat → Int → Int → Nat → Int → Int → Int → xG_ → Option (Int × xG_)} {o9 : Nat → Int → Int → Nat → Int → Int → Int → xj_M → Option (Int × xj_M)}  (hr9 : ∀ {M : xj_M} {G : xG_} {x0 : Nat} {x1 : Int} {x3 : Int} {x4 : Nat} {x5 : Int} {x6 : Int} {x7 : Int} {R : Int × xG_}, xRX m M0 M G → xoF x0 → xiN x1 → xin x3 → xoJ x4 → xin x5 → xin x6 → xin x7 → r9 x0 x1 x3 x4 x5 x6 x7 G = some R → xok (o9 (m + x0) x1 x3 (m + x4) x5 x6 x7 M) (fun r => r.1 = R.1 ∧ xRX m M0 r.2 R.2 ∧ xin R.1)) (h : xRX m M0 M G) {x0 : Nat} {x1 : Int} {x3 : Int} {x4 : Nat} {x5 : Int} {x6 : Int} {x7 : Int} {R : Int × xG_} (tx0 : xoF x0) (tx1 : xiN x1) (tx3 : xin x3) (tx4 : xoJ x4) (tx5 : xin x5) (tx6 : xin x6) (tx7 : xin x7) (e : g196_72  r9 f x0 x1 x3 x4 x5 x6 x7 G = some R) : xok (f196_72  o9 f (m + x0) x1 x3 (m + x4) x5 x6 x7 M) (fun r => r.1 = R.1 ∧ xRX m M0 r.2 R.2 ∧ xin R.1) := by
  unfold g196_72 at e
  unfold f196_72
  exact hr9 h tx0 tx1 tx3 tx4 tx5 tx6 tx7 e
theorem s196_9b {m f : Nat} {M0 M : xj_M} {G : xG_} (hI : xHI f)  {r9 : Nat → Int → Int → Nat → Int → Int → Int → xG_ → Option (Int × xG_)} {o9 : Nat → Int → Int → Nat → Int → Int → Int → xj_M → Option (Int × xj_M)}  (hr9 : ∀ {M : xj_M} {G : xG_} {x0 : Nat} {x1 : Int} {x3 : Int} {x4 : Nat} {x5 : Int} {x6 : Int} {x7 : Int} {R : Int × xG_}, xRX m M0 M G → xoF x0 → xiN x1 → xin x3 → xoJ x4 → xin x5 → xin x6 → xin x7 → r9 x0 x1 x3 x4 x5 x6 x7 G = some R → xok (o9 (m + x0) x1 x3 (m + x4) x5 x6 x7 M) (fun r => r.1 = R.1 ∧ xRX m M0 r.2 R.2 ∧ xin R.1)) (h : xRX m M0 M G) {x0 : Nat} {x1 : Int} {x3 : Int} {x4 : Nat} {x5 : Int} {x6 : Int} {x7 : Int} {R : Int × xG_} (tx0 : xoF x0) (tx1 : xiN x1) (tx3 : xin x3) (tx4 : xoJ x4) (tx5 : xin x5) (tx6 : xin x6) (tx7 : xin x7) (e : g196_9b  r9 f x0 x1 x3 x4 x5 x6 x7 G = some R) : xok (f196_9b  o9 f (m + x0) x1 x3 (m + x4) x5 x6 x7 M) (fun r => r.1 = R.1 ∧ xRX m M0 r.2 R.2 ∧ xin R.1) := by
  unfold g196_9b at e
  unfold f196_9b
  refine xok_ite (fun c101 => ?_) (fun c101 => ?_)
  · rw [if_pos c101] at e
    cases e
    exact ⟨_, rfl, rfl, h, tx6⟩
  · rw [if_neg c101] at e
    refine xok_eqb (h.pt (o := x0) (c := 12) (k := 0) (t := x0 + 1) (n := 4) (xoF_o tx0).1 (xoF_o tx0).2 (by decide) (xoF_all tx0 (Q := fun p => (p, 0, p + 1) ∈ xl_P) (by decide +kernel) (by decide +kernel) (by decide +kernel) (by decide +kernel) (by decide +kernel) (by decide +kernel) (by decide +kernel))) ?_
    by_cases c102 : 0 ≤ (xush (xwr ((x6) + (x7))) (1)) ∧ (xush (xwr ((x6) + (x7))) (1)) < 3400
    · skip
      rw [if_pos c102] at e
      refine xok_eqb (h.al (o := x0 + 1) (n := 3400) (xoF_all tx0 (Q := fun p => p + 1 < 276) (by decide) (by decide) (by decide) (by decide) (by decide) (by decide) (by decide)) (xoF_all tx0 (Q := fun p => xl_t (p + 1) = (2, 4, 3400)) rfl rfl rfl rfl rfl rfl rfl)  c102.1 c102.2) ?_
      refine xok_eqb (h.pt (o := x0) (c := 12) (k := 2) (t := x0 + 3) (n := 4) (xoF_o tx0).1 (xoF_o tx0).2 (by decide) (xoF_all tx0 (Q := fun p => (p, 2, p + 3) ∈ xl_P) (by decide +kernel) (by decide +kernel) (by decide +kernel) (by decide +kernel) (by decide +kernel) (by decide +kernel) (by decide +kernel))) ?_
      by_cases c103 : 0 ≤ (xush (xwr ((x6) + (x7))) (1)) ∧ (xush (xwr ((x6) + (x7))) (1)) < 3400
      · skip
        rw [if_pos c103] at e
        refine xok_eqb (h.ai (o := x0 + 3) (n := 3400) (xoF_all tx0 (Q := fun p => p + 3 < 276) (by decide) (by decide) (by decide) (by decide) (by decide) (by decide) (by decide)) (xoF_all tx0 (Q := fun p => xl_t (p + 3) = (2, 3, 3400)) rfl rfl rfl rfl rfl rfl rfl) (by decide) c103.1 c103.2) ?_
        refine xok_eqb (h.pt (o := x0) (c := 12) (k := 1) (t := x0 + 2) (n := 4) (xoF_o tx0).1 (xoF_o tx0).2 (by decide) (xoF_all tx0 (Q := fun p => (p, 1, p + 2) ∈ xl_P) (by decide +kernel) (by decide +kernel) (by decide +kernel) (by decide +kernel) (by decide +kernel) (by decide +kernel) (by decide +kernel))) ?_
        obtain ⟨R104, e105, e⟩ := xbnd e
        refine xok_call (sg195 hI  h (h.aln (o := x0 + 1) (n := 3400) (xoF_all tx0 (Q := fun p => p + 1 < 276) (by decide) (by decide) (by decide) (by decide) (by decide) (by decide) (by decide)) (xoF_all tx0 (Q := fun p => xl_t (p + 1) = (2, 4, 3400)) rfl rfl rfl rfl rfl rfl rfl)  c102.1 c102.2) (h.ain (o := x0 + 3) (n := 3400) (xoF_all tx0 (Q := fun p => p + 3 < 276) (by decide) (by decide) (by decide) (by decide) (by decide) (by decide) (by decide)) (xoF_all tx0 (Q := fun p => xl_t (p + 3) = (2, 3, 3400)) rfl rfl rfl rfl rfl rfl rfl) (by decide) c103.1 c103.2) (xoF_all tx0 (Q := fun p => xoJ (p + 2)) ⟨by decide, rfl⟩ ⟨by decide, rfl⟩ ⟨by decide, rfl⟩ ⟨by decide, rfl⟩ ⟨by decide, rfl⟩ ⟨by decide, rfl⟩ ⟨by decide, rfl⟩) (xin_wr _) tx1 tx3 tx4 tx5 e105) ?_
        rintro ⟨v_, M108⟩ ⟨hv_, h106, hi107⟩
        cases hv_
        refine xok_ite (fun c109 => ?_) (fun c109 => ?_)
        · rw [if_pos c109] at e
          exact s196_72 hI  hr9 h106 tx0 tx1 tx3 tx4 tx5 tx6 (xin_of _) e
        · rw [if_neg c109] at e
          exact s196_72 hI  hr9 h106 tx0 tx1 tx3 tx4 tx5 (xin_wr _) tx7 e
      · rw [if_neg c103] at e; cases e
    · rw [if_neg c102] at e; cases e
theorem s196_9 {m f : Nat} {M0 : xj_M} (hI : xHI f)     : ∀ {n : Nat} {M : xj_M} {G : xG_} {x0 : Nat} {x1 : Int} {x3 : Int} {x4 : Nat} {x5 : Int} {x6 : Int} {x7 : Int} {R : Int × xG_}, xRX m M0 M G → xoF x0 → xiN x1 → xin x3 → xoJ x4 → xin x5 → xin x6 → xin x7 → g196_9   f n x0 x1 x3 x4 x5 x6 x7 G = some R → xok (f196_9   f n (m + x0) x1 x3 (m + x4) x5 x6 x7 M) (fun r => r.1 = R.1 ∧ xRX m M0 r.2 R.2 ∧ xin R.1) := by
  intro n
  induction n with
  | zero => intros; rename_i e; cases e
  | succ n ih =>
    intros
    rename_i h i0 i1 i2 i3 i4 i5 i6 e
    exact s196_9b hI   ih h i0 i1 i2 i3 i4 i5 i6 e
theorem sg196 {m f : Nat} {M0 M : xj_M} {G : xG_} (hI : xHI f)   (h : xRX m M0 M G) {a0 : Nat} {a1 : Int} {a2 : Int} {a3 : Nat} {a4 : Int} {R : Int × xG_} (ta0 : xoF a0) (ta1 : xiN a1) (ta2 : xin a2) (ta3 : xoJ a3) (ta4 : xin a4) (e : g196  f a0 a1 a2 a3 a4 G = some R) : xok (f196  f (m + a0) a1 a2 (m + a3) a4 M) (fun r => r.1 = R.1 ∧ xRX m M0 r.2 R.2 ∧ xin R.1) := by
  unfold g196 at e
  unfold f196
  refine xok_eqb (h.gi (o := a0) (c := 12) (k := 3) (n := 4) (xoF_o ta0).1 (xoF_o ta0).2 (by decide) (by decide)) ?_
  exact s196_9 hI   h ta0 ta1 ta2 ta3 ta4 (show xin (0) by decide) (h.gin (o := a0) (c := 12) (k := 3) (n := 4) (xoF_o ta0).1 (xoF_o ta0).2 (by decide) (by decide)) e
-- ChangeHouseModel$Facts.has
theorem s197_60 {m f : Nat} {M0 M : xj_M} {G : xG_} (hI : xHI f)     (h : xRX m M0 M G) {y0 : Int} {R : Int × xG_} (ty0 : xin y0) (e : g197_60   f y0 G = some R) : xok (f197_60   f y0 M) (fun r => r.1 = R.1 ∧ xRX m M0 r.2 R.2 ∧ xin R.1) := by
  unfold g197_60 at e
  unfold f197_60
  refine xok_ite (fun c101 => ?_) (fun c101 => ?_)
  · rw [if_pos c101] at e; cases e; exact ⟨_, rfl, rfl, h, ty0⟩
  · rw [if_neg c101] at e; cases e
theorem s197_59 {m f : Nat} {M0 M : xj_M} {G : xG_} (hI : xHI f)     (h : xRX m M0 M G)  {R : Int × xG_}  (e : g197_59   f  G = some R) : xok (f197_59   f  M) (fun r => r.1 = R.1 ∧ xRX m M0 r.2 R.2 ∧ xin R.1) := by
  unfold g197_59 at e
  unfold f197_59
  exact s197_60 hI   h (show xin (0) by decide) e
theorem sg197 {m f : Nat} {M0 M : xj_M} {G : xG_} (hI : xHI f)   (h : xRX m M0 M G) {a0 : Nat} {a1 : Int} {a2 : Int} {a3 : Nat} {a4 : Int} {R : Int × xG_} (ta0 : xoF a0) (ta1 : xiN a1) (ta2 : xin a2) (ta3 : xoJ a3) (ta4 : xin a4) (e : g197  f a0 a1 a2 a3 a4 G = some R) : xok (f197  f (m + a0) a1 a2 (m + a3) a4 M) (fun r => r.1 = R.1 ∧ xRX m M0 r.2 R.2 ∧ xin R.1) := by
  unfold g197 at e
  unfold f197
  obtain ⟨R102, e103, e⟩ := xbnd e
  refine xok_eqb (h.is (o := a0) (c := 12) (xoF_o ta0).1 (xoF_o ta0).2) ?_
  refine xok_call (sg196 hI  h ta0 ta1 ta2 ta3 ta4 e103) ?_
  rintro ⟨v_, M106⟩ ⟨hv_, h104, hi105⟩
  cases hv_
  refine xok_eqb (h104.gi (o := a0) (c := 12) (k := 3) (n := 4) (xoF_o ta0).1 (xoF_o ta0).2 (by decide) (by decide)) ?_
  refine xok_ite (fun c107 => ?_) (fun c107 => ?_)
  · rw [if_pos c107] at e
    exact s197_59 hI   h104  e
  · rw [if_neg c107] at e
    refine xok_eqb (h104.pt (o := a0) (c := 12) (k := 0) (t := a0 + 1) (n := 4) (xoF_o ta0).1 (xoF_o ta0).2 (by decide) (xoF_all ta0 (Q := fun p => (p, 0, p + 1) ∈ xl_P) (by decide +kernel) (by decide +kernel) (by decide +kernel) (by decide +kernel) (by decide +kernel) (by decide +kernel) (by decide +kernel))) ?_
    by_cases c108 : 0 ≤ (R102.1) ∧ (R102.1) < 3400
    · skip
      rw [if_pos c108] at e
      refine xok_eqb (h104.al (o := a0 + 1) (n := 3400) (xoF_all ta0 (Q := fun p => p + 1 < 276) (by decide) (by decide) (by decide) (by decide) (by decide) (by decide) (by decide)) (xoF_all ta0 (Q := fun p => xl_t (p + 1) = (2, 4, 3400)) rfl rfl rfl rfl rfl rfl rfl)  c108.1 c108.2) ?_
      refine xok_eqb (h104.pt (o := a0) (c := 12) (k := 2) (t := a0 + 3) (n := 4) (xoF_o ta0).1 (xoF_o ta0).2 (by decide) (xoF_all ta0 (Q := fun p => (p, 2, p + 3) ∈ xl_P) (by decide +kernel) (by decide +kernel) (by decide +kernel) (by decide +kernel) (by decide +kernel) (by decide +kernel) (by decide +kernel))) ?_
      by_cases c109 : 0 ≤ (R102.1) ∧ (R102.1) < 3400
      · skip
        rw [if_pos c109] at e
        refine xok_eqb (h104.ai (o := a0 + 3) (n := 3400) (xoF_all ta0 (Q := fun p => p + 3 < 276) (by decide) (by decide) (by decide) (by decide) (by decide) (by decide) (by decide)) (xoF_all ta0 (Q := fun p => xl_t (p + 3) = (2, 3, 3400)) rfl rfl rfl rfl rfl rfl rfl) (by decide) c109.1 c109.2) ?_
        refine xok_eqb (h104.pt (o := a0) (c := 12) (k := 1) (t := a0 + 2) (n := 4) (xoF_o ta0).1 (xoF_o ta0).2 (by decide) (xoF_all ta0 (Q := fun p => (p, 1, p + 2) ∈ xl_P) (by decide +kernel) (by decide +kernel) (by decide +kernel) (by decide +kernel) (by decide +kernel) (by decide +kernel) (by decide +kernel))) ?_
        obtain ⟨R110, e111, e⟩ := xbnd e
        refine xok_call (sg195 hI  h104 (h104.aln (o := a0 + 1) (n := 3400) (xoF_all ta0 (Q := fun p => p + 1 < 276) (by decide) (by decide) (by decide) (by decide) (by decide) (by decide) (by decide)) (xoF_all ta0 (Q := fun p => xl_t (p + 1) = (2, 4, 3400)) rfl rfl rfl rfl rfl rfl rfl)  c108.1 c108.2) (h104.ain (o := a0 + 3) (n := 3400) (xoF_all ta0 (Q := fun p => p + 3 < 276) (by decide) (by decide) (by decide) (by decide) (by decide) (by decide) (by decide)) (xoF_all ta0 (Q := fun p => xl_t (p + 3) = (2, 3, 3400)) rfl rfl rfl rfl rfl rfl rfl) (by decide) c109.1 c109.2) (xoF_all ta0 (Q := fun p => xoJ (p + 2)) ⟨by decide, rfl⟩ ⟨by decide, rfl⟩ ⟨by decide, rfl⟩ ⟨by decide, rfl⟩ ⟨by decide, rfl⟩ ⟨by decide, rfl⟩ ⟨by decide, rfl⟩) (xin_wr _) ta1 ta2 ta3 ta4 e111) ?_
        rintro ⟨v_, M114⟩ ⟨hv_, h112, hi113⟩
        cases hv_
        refine xok_ite (fun c115 => ?_) (fun c115 => ?_)
        · rw [if_pos c115] at e
          exact s197_59 hI   h112  e
        · rw [if_neg c115] at e
          exact s197_60 hI   h112 (show xin (1) by decide) e
      · rw [if_neg c109] at e; cases e
    · rw [if_neg c108] at e; cases e
-- ChangeHouseModel$Facts.move
theorem s200_26b {m f : Nat} {M0 M : xj_M} {G : xG_} (hI : xHI f)  {r26 : Nat → Int → Int → Int → xG_ → Option (xG_)} {o26 : Nat → Int → Int → Int → xj_M → Option (xj_M)}  (hr26 : ∀ {M : xj_M} {G : xG_} {x0 : Nat} {x1 : Int} {x2 : Int} {x3 : Int} {R : xG_}, xRX m M0 M G → xoF x0 → xin x1 → xin x2 → xin x3 → r26 x0 x1 x2 x3 G = some R → xok (o26 (m + x0) x1 x2 x3 M) (fun r => xRX m M0 r R)) (h : xRX m M0 M G) {x0 : Nat} {x1 : Int} {x2 : Int} {x3 : Int} {R : xG_} (tx0 : xoF x0) (tx1 : xin x1) (tx2 : xin x2) (tx3 : xin x3) (e : g200_26b  r26 f x0 x1 x2 x3 G = some R) : xok (f200_26b  o26 f (m + x0) x1 x2 x3 M) (fun r => xRX m M0 r R) := by
  unfold g200_26b at e
  unfold f200_26b
  refine xok_ite (fun c101 => ?_) (fun c101 => ?_)
  · rw [if_pos c101] at e
    cases e
    exact ⟨_, rfl, h⟩
  · rw [if_neg c101] at e
    refine xok_eqb (h.pt (o := x0) (c := 12) (k := 1) (t := x0 + 2) (n := 4) (xoF_o tx0).1 (xoF_o tx0).2 (by decide) (xoF_all tx0 (Q := fun p => (p, 1, p + 2) ∈ xl_P) (by decide +kernel) (by decide +kernel) (by decide +kernel) (by decide +kernel) (by decide +kernel) (by decide +kernel) (by decide +kernel))) ?_
    refine xok_eqb (h.pt (o := x0) (c := 12) (k := 1) (t := x0 + 2) (n := 4) (xoF_o tx0).1 (xoF_o tx0).2 (by decide) (xoF_all tx0 (Q := fun p => (p, 1, p + 2) ∈ xl_P) (by decide +kernel) (by decide +kernel) (by decide +kernel) (by decide +kernel) (by decide +kernel) (by decide +kernel) (by decide +kernel))) ?_
    by_cases c102 : 0 ≤ (xwr ((xwr ((4) * (x1))) + (x3))) ∧ (xwr ((xwr ((4) * (x1))) + (x3))) < 13600
    · skip
      rw [if_pos c102] at e
      refine xok_eqb (h.al (o := x0 + 2) (n := 13600) (xoF_all tx0 (Q := fun p => p + 2 < 276) (by decide) (by decide) (by decide) (by decide) (by decide) (by decide) (by decide)) (xoF_all tx0 (Q := fun p => xl_t (p + 2) = (2, 4, 13600)) rfl rfl rfl rfl rfl rfl rfl)  c102.1 c102.2) ?_
      by_cases c103 : 0 ≤ (xwr ((xwr ((4) * (x2))) + (x3))) ∧ (xwr ((xwr ((4) * (x2))) + (x3))) < 13600
      · skip
        rw [if_pos c103] at e
        obtain ⟨M104, q105, h106⟩ := h.sl (o := x0 + 2) (n := 13600) (v := G (x0 + 2) (xwr ((xwr ((4) * (x1))) + (x3))).toNat) (xoF_all tx0 (Q := fun p => p + 2 < 276) (by decide) (by decide) (by decide) (by decide) (by decide) (by decide) (by decide)) (xoF_all tx0 (Q := fun p => xl_t (p + 2) = (2, 4, 13600)) rfl rfl rfl rfl rfl rfl rfl) c103.1 c103.2 (h.aln (o := x0 + 2) (n := 13600) (xoF_all tx0 (Q := fun p => p + 2 < 276) (by decide) (by decide) (by decide) (by decide) (by decide) (by decide) (by decide)) (xoF_all tx0 (Q := fun p => xl_t (p + 2) = (2, 4, 13600)) rfl rfl rfl rfl rfl rfl rfl)  c102.1 c102.2)
        refine xok_eqb q105 ?_
        obtain ⟨G107, g1, e⟩ := xbnd e
        cases g1
        have h106_ : xRX m M0 M104 (xup2 G (x0 + 2) (xwr ((xwr ((4) * (x2))) + (x3))).toNat (G (x0 + 2) (xwr ((xwr ((4) * (x1))) + (x3))).toNat)) := h106
        generalize hGG107 : (xup2 G (x0 + 2) (xwr ((xwr ((4) * (x2))) + (x3))).toNat (G (x0 + 2) (xwr ((xwr ((4) * (x1))) + (x3))).toNat)) = G107 at e h106
        clear h106_ hGG107
        exact hr26 h106 tx0 tx1 tx2 (xin_wr _) e
      · rw [if_neg c103] at e; cases e
    · rw [if_neg c102] at e; cases e
theorem s200_26 {m f : Nat} {M0 : xj_M} (hI : xHI f)     : ∀ {n : Nat} {M : xj_M} {G : xG_} {x0 : Nat} {x1 : Int} {x2 : Int} {x3 : Int} {R : xG_}, xRX m M0 M G → xoF x0 → xin x1 → xin x2 → xin x3 → g200_26   f n x0 x1 x2 x3 G = some R → xok (f200_26   f n (m + x0) x1 x2 x3 M) (fun r => xRX m M0 r R) := by
  intro n
  induction n with
  | zero => intros; rename_i e; cases e
  | succ n ih =>
    intros
    rename_i h i0 i1 i2 i3 e
    exact s200_26b hI   ih h i0 i1 i2 i3 e
theorem sg200 {m f : Nat} {M0 M : xj_M} {G : xG_} (hI : xHI f)   (h : xRX m M0 M G) {a0 : Nat} {a1 : Int} {a2 : Int} {R : xG_} (ta0 : xoF a0) (ta1 : xin a1) (ta2 : xin a2) (e : g200  f a0 a1 a2 G = some R) : xok (f200  f (m + a0) a1 a2 M) (fun r => xRX m M0 r R) := by
  unfold g200 at e
  unfold f200
  refine xok_eqb (h.pt (o := a0) (c := 12) (k := 0) (t := a0 + 1) (n := 4) (xoF_o ta0).1 (xoF_o ta0).2 (by decide) (xoF_all ta0 (Q := fun p => (p, 0, p + 1) ∈ xl_P) (by decide +kernel) (by decide +kernel) (by decide +kernel) (by decide +kernel) (by decide +kernel) (by decide +kernel) (by decide +kernel))) ?_
  refine xok_eqb (h.pt (o := a0) (c := 12) (k := 0) (t := a0 + 1) (n := 4) (xoF_o ta0).1 (xoF_o ta0).2 (by decide) (xoF_all ta0 (Q := fun p => (p, 0, p + 1) ∈ xl_P) (by decide +kernel) (by decide +kernel) (by decide +kernel) (by decide +kernel) (by decide +kernel) (by decide +kernel) (by decide +kernel))) ?_
  by_cases c108 : 0 ≤ (a1) ∧ (a1) < 3400
  · skip
    rw [if_pos c108] at e
    refine xok_eqb (h.al (o := a0 + 1) (n := 3400) (xoF_all ta0 (Q := fun p => p + 1 < 276) (by decide) (by decide) (by decide) (by decide) (by decide) (by decide) (by decide)) (xoF_all ta0 (Q := fun p => xl_t (p + 1) = (2, 4, 3400)) rfl rfl rfl rfl rfl rfl rfl)  c108.1 c108.2) ?_
    by_cases c109 : 0 ≤ (a2) ∧ (a2) < 3400
    · skip
      rw [if_pos c109] at e
      obtain ⟨M110, q111, h112⟩ := h.sl (o := a0 + 1) (n := 3400) (v := G (a0 + 1) (a1).toNat) (xoF_all ta0 (Q := fun p => p + 1 < 276) (by decide) (by decide) (by decide) (by decide) (by decide) (by decide) (by decide)) (xoF_all ta0 (Q := fun p => xl_t (p + 1) = (2, 4, 3400)) rfl rfl rfl rfl rfl rfl rfl) c109.1 c109.2 (h.aln (o := a0 + 1) (n := 3400) (xoF_all ta0 (Q := fun p => p + 1 < 276) (by decide) (by decide) (by decide) (by decide) (by decide) (by decide) (by decide)) (xoF_all ta0 (Q := fun p => xl_t (p + 1) = (2, 4, 3400)) rfl rfl rfl rfl rfl rfl rfl)  c108.1 c108.2)
      refine xok_eqb q111 ?_
      obtain ⟨G113, g1, e⟩ := xbnd e
      cases g1
      have h112_ : xRX m M0 M110 (xup2 G (a0 + 1) (a2).toNat (G (a0 + 1) (a1).toNat)) := h112
      generalize hGG113 : (xup2 G (a0 + 1) (a2).toNat (G (a0 + 1) (a1).toNat)) = G113 at e h112
      clear h112_ hGG113
      refine xok_eqb (h112.pt (o := a0) (c := 12) (k := 2) (t := a0 + 3) (n := 4) (xoF_o ta0).1 (xoF_o ta0).2 (by decide) (xoF_all ta0 (Q := fun p => (p, 2, p + 3) ∈ xl_P) (by decide +kernel) (by decide +kernel) (by decide +kernel) (by decide +kernel) (by decide +kernel) (by decide +kernel) (by decide +kernel))) ?_
      refine xok_eqb (h112.pt (o := a0) (c := 12) (k := 2) (t := a0 + 3) (n := 4) (xoF_o ta0).1 (xoF_o ta0).2 (by decide) (xoF_all ta0 (Q := fun p => (p, 2, p + 3) ∈ xl_P) (by decide +kernel) (by decide +kernel) (by decide +kernel) (by decide +kernel) (by decide +kernel) (by decide +kernel) (by decide +kernel))) ?_
      by_cases c114 : 0 ≤ (a1) ∧ (a1) < 3400
      · skip
        rw [if_pos c114] at e
        refine xok_eqb (h112.ai (o := a0 + 3) (n := 3400) (xoF_all ta0 (Q := fun p => p + 3 < 276) (by decide) (by decide) (by decide) (by decide) (by decide) (by decide) (by decide)) (xoF_all ta0 (Q := fun p => xl_t (p + 3) = (2, 3, 3400)) rfl rfl rfl rfl rfl rfl rfl) (by decide) c114.1 c114.2) ?_
        by_cases c115 : 0 ≤ (a2) ∧ (a2) < 3400
        · skip
          rw [if_pos c115] at e
          obtain ⟨M116, q117, h118⟩ := h112.si (o := a0 + 3) (n := 3400) (v := G113 (a0 + 3) (a1).toNat) (xoF_all ta0 (Q := fun p => p + 3 < 276) (by decide) (by decide) (by decide) (by decide) (by decide) (by decide) (by decide)) (xoF_all ta0 (Q := fun p => xl_t (p + 3) = (2, 3, 3400)) rfl rfl rfl rfl rfl rfl rfl) c115.1 c115.2 (h112.ain (o := a0 + 3) (n := 3400) (xoF_all ta0 (Q := fun p => p + 3 < 276) (by decide) (by decide) (by decide) (by decide) (by decide) (by decide) (by decide)) (xoF_all ta0 (Q := fun p => xl_t (p + 3) = (2, 3, 3400)) rfl rfl rfl rfl rfl rfl rfl) (by decide) c114.1 c114.2)
          refine xok_eqb q117 ?_
          obtain ⟨G119, g1, e⟩ := xbnd e
          cases g1
          have h118_ : xRX m M0 M116 (xup2 G113 (a0 + 3) (a2).toNat (G113 (a0 + 3) (a1).toNat)) := h118
          generalize hGG119 : (xup2 G113 (a0 + 3) (a2).toNat (G113 (a0 + 3) (a1).toNat)) = G119 at e h118
          clear h118_ hGG119
          exact s200_26 hI   h118 ta0 ta1 ta2 (show xin (0) by decide) e
        · rw [if_neg c115] at e; cases e
      · rw [if_neg c114] at e; cases e
    · rw [if_neg c109] at e; cases e
  · rw [if_neg c108] at e; cases e
-- ChangeHouseModel$Line.forget
theorem s202_12b {m f : Nat} {M0 M : xj_M} {G : xG_} (hI : xHI f)  {r12 : Nat → Int → xG_ → Option (xG_)} {o12 : Nat → Int → xj_M → Option (xj_M)}  (hr12 : ∀ {M : xj_M} {G : xG_} {x0 : Nat} {x1 : Int} {R : xG_}, xRX m M0 M G → xoL x0 → xin x1 → r12 x0 x1 G = some R → xok (o12 (m + x0) x1 M) (fun r => xRX m M0 r R)) (h : xRX m M0 M G) {x0 : Nat} {x1 : Int} {R : xG_} (tx0 : xoL x0) (tx1 : xin x1) (e : g202_12b  r12 f x0 x1 G = some R) : xok (f202_12b  o12 f (m + x0) x1 M) (fun r => xRX m M0 r R) := by
  unfold g202_12b at e
  unfold f202_12b
  refine xok_ite (fun c101 => ?_) (fun c101 => ?_)
  · rw [if_pos c101] at e
    cases e
    exact ⟨_, rfl, h⟩
  · rw [if_neg c101] at e
    refine xok_eqb (h.pt (o := x0) (c := 13) (k := 30) (t := x0 + 26) (n := 37) (xoL_o tx0).1 (xoL_o tx0).2 (by decide) (xoL_all tx0 (Q := fun p => (p, 30, p + 26) ∈ xl_P) (by decide +kernel) (by decide +kernel) (by decide +kernel) (by decide +kernel))) ?_
    by_cases c102 : 0 ≤ (x1) ∧ (x1) < 72
    · skip
      rw [if_pos c102] at e
      obtain ⟨M103, q104, h105⟩ := h.si (o := x0 + 26) (n := 72) (v := -1) (xoL_all tx0 (Q := fun p => p + 26 < 276) (by decide) (by decide) (by decide) (by decide)) (xoL_all tx0 (Q := fun p => xl_t (p + 26) = (2, 3, 72)) rfl rfl rfl rfl) c102.1 c102.2 (show xin (-1) by decide)
      refine xok_eqb q104 ?_
      obtain ⟨G106, g1, e⟩ := xbnd e
      cases g1
      have h105_ : xRX m M0 M103 (xup2 G (x0 + 26) (x1).toNat (-1)) := h105
      generalize hGG106 : (xup2 G (x0 + 26) (x1).toNat (-1)) = G106 at e h105
      clear h105_ hGG106
      exact hr12 h105 tx0 (xin_wr _) e
    · rw [if_neg c102] at e; cases e
theorem s202_12 {m f : Nat} {M0 : xj_M} (hI : xHI f)     : ∀ {n : Nat} {M : xj_M} {G : xG_} {x0 : Nat} {x1 : Int} {R : xG_}, xRX m M0 M G → xoL x0 → xin x1 → g202_12   f n x0 x1 G = some R → xok (f202_12   f n (m + x0) x1 M) (fun r => xRX m M0 r R) := by
  intro n
  induction n with
  | zero => intros; rename_i e; cases e
  | succ n ih =>
    intros
    rename_i h i0 i1 e
    exact s202_12b hI   ih h i0 i1 e
theorem sg202 {m f : Nat} {M0 M : xj_M} {G : xG_} (hI : xHI f)   (h : xRX m M0 M G) {a0 : Nat} {R : xG_} (ta0 : xoL a0) (e : g202  f a0 G = some R) : xok (f202  f (m + a0) M) (fun r => xRX m M0 r R) := by
  unfold g202 at e
  unfold f202
  obtain ⟨M107, q108, h109⟩ := h.pi (v := 0) (o := a0) (c := 13) (k := 33) (n := 37) (xoL_o ta0).1 (xoL_o ta0).2 (by decide) (by decide) (show xin (0) by decide)
  refine xok_eqb q108 ?_
  obtain ⟨G110, g1, e⟩ := xbnd e
  cases g1
  have h109_ : xRX m M0 M107 (xup2 G (a0) 33 (0)) := h109
  generalize hGG110 : (xup2 G (a0) 33 (0)) = G110 at e h109
  clear h109_ hGG110
  obtain ⟨M111, q112, h113⟩ := h109.pi (v := -1) (o := a0) (c := 13) (k := 34) (n := 37) (xoL_o ta0).1 (xoL_o ta0).2 (by decide) (by decide) (show xin (-1) by decide)
  refine xok_eqb q112 ?_
  obtain ⟨G114, g1, e⟩ := xbnd e
  cases g1
  have h113_ : xRX m M0 M111 (xup2 G110 (a0) 34 (-1)) := h113
  generalize hGG114 : (xup2 G110 (a0) 34 (-1)) = G114 at e h113
  clear h113_ hGG114
  exact s202_12 hI   h113 ta0 (show xin (0) by decide) e
-- ChangeHouseModel$Line.forgetRound
theorem s203_7b {m f : Nat} {M0 M : xj_M} {G : xG_} (hI : xHI f)  {r7 : Nat → Int → xG_ → Option (xG_)} {o7 : Nat → Int → xj_M → Option (xj_M)}  (hr7 : ∀ {M : xj_M} {G : xG_} {x0 : Nat} {x1 : Int} {R : xG_}, xRX m M0 M G → xoL x0 → xin x1 → r7 x0 x1 G = some R → xok (o7 (m + x0) x1 M) (fun r => xRX m M0 r R)) (h : xRX m M0 M G) {x0 : Nat} {x1 : Int} {R : xG_} (tx0 : xoL x0) (tx1 : xin x1) (e : g203_7b  r7 f x0 x1 G = some R) : xok (f203_7b  o7 f (m + x0) x1 M) (fun r => xRX m M0 r R) := by
  unfold g203_7b at e
  unfold f203_7b
  refine xok_ite (fun c101 => ?_) (fun c101 => ?_)
  · rw [if_pos c101] at e
    cases e
    exact ⟨_, rfl, h⟩
  · rw [if_neg c101] at e
    refine xok_eqb (h.pt (o := x0) (c := 13) (k := 22) (t := x0 + 19) (n := 37) (xoL_o tx0).1 (xoL_o tx0).2 (by decide) (xoL_all tx0 (Q := fun p => (p, 22, p + 19) ∈ xl_P) (by decide +kernel) (by decide +kernel) (by decide +kernel) (by decide +kernel))) ?_
    by_cases c102 : 0 ≤ (x1) ∧ (x1) < 16
    · skip
      rw [if_pos c102] at e
      obtain ⟨M103, q104, h105⟩ := h.si (o := x0 + 19) (n := 16) (v := 0) (xoL_all tx0 (Q := fun p => p + 19 < 276) (by decide) (by decide) (by decide) (by decide)) (xoL_all tx0 (Q := fun p => xl_t (p + 19) = (2, 3, 16)) rfl rfl rfl rfl) c102.1 c102.2 (show xin (0) by decide)
      refine xok_eqb q104 ?_
      obtain ⟨G106, g1, e⟩ := xbnd e
      cases g1
      have h105_ : xRX m M0 M103 (xup2 G (x0 + 19) (x1).toNat (0)) := h105
      generalize hGG106 : (xup2 G (x0 + 19) (x1).toNat (0)) = G106 at e h105
      clear h105_ hGG106
      exact hr7 h105 tx0 (xin_wr _) e
    · rw [if_neg c102] at e; cases e
theorem s203_7 {m f : Nat} {M0 : xj_M} (hI : xHI f)     : ∀ {n : Nat} {M : xj_M} {G : xG_} {x0 : Nat} {x1 : Int} {R : xG_}, xRX m M0 M G → xoL x0 → xin x1 → g203_7   f n x0 x1 G = some R → xok (f203_7   f n (m + x0) x1 M) (fun r => xRX m M0 r R) := by
  intro n
  induction n with
  | zero => intros; rename_i e; cases e
  | succ n ih =>
    intros
    rename_i h i0 i1 e
    exact s203_7b hI   ih h i0 i1 e
theorem sg203 {m f : Nat} {M0 M : xj_M} {G : xG_} (hI : xHI f)   (h : xRX m M0 M G) {a0 : Nat} {R : xG_} (ta0 : xoL a0) (e : g203  f a0 G = some R) : xok (f203  f (m + a0) M) (fun r => xRX m M0 r R) := by
  unfold g203 at e
  unfold f203
  obtain ⟨M107, q108, h109⟩ := h.pi (v := 0) (o := a0) (c := 13) (k := 27) (n := 37) (xoL_o ta0).1 (xoL_o ta0).2 (by decide) (by decide) (show xin (0) by decide)
  refine xok_eqb q108 ?_
  obtain ⟨G110, g1, e⟩ := xbnd e
  cases g1
  have h109_ : xRX m M0 M107 (xup2 G (a0) 27 (0)) := h109
  generalize hGG110 : (xup2 G (a0) 27 (0)) = G110 at e h109
  clear h109_ hGG110
  exact s203_7 hI   h109 ta0 (show xin (0) by decide) e
-- ChangeHouseModel$Program.predicateOf
theorem s205_2b {m f : Nat} {M0 M : xj_M} {G : xG_} (hI : xHI f)  {r2 : Nat → Int → Int → xG_ → Option (Int × xG_)} {o2 : Nat → Int → Int → xj_M → Option (Int × xj_M)}  (hr2 : ∀ {M : xj_M} {G : xG_} {x0 : Nat} {x1 : Int} {x3 : Int} {R : Int × xG_}, xRX m M0 M G → xoP x0 → xiN x1 → xin x3 → r2 x0 x1 x3 G = some R → xok (o2 (m + x0) x1 x3 M) (fun r => r.1 = R.1 ∧ xRX m M0 r.2 R.2 ∧ xin R.1)) (h : xRX m M0 M G) {x0 : Nat} {x1 : Int} {x3 : Int} {R : Int × xG_} (tx0 : xoP x0) (tx1 : xiN x1) (tx3 : xin x3) (e : g205_2b  r2 f x0 x1 x3 G = some R) : xok (f205_2b  o2 f (m + x0) x1 x3 M) (fun r => r.1 = R.1 ∧ xRX m M0 r.2 R.2 ∧ xin R.1) := by
  unfold g205_2b at e
  unfold f205_2b
  refine xok_eqb (h.gi (o := x0) (c := 14) (k := 8) (n := 38) (xoP_o tx0).1 (xoP_o tx0).2 (by decide) (by decide)) ?_
  refine xok_ite (fun c101 => ?_) (fun c101 => ?_)
  · rw [if_pos c101] at e
    cases e
    exact ⟨_, rfl, rfl, h, (show xin (-1) by decide)⟩
  · rw [if_neg c101] at e
    refine xok_eqb (h.pt (o := x0) (c := 14) (k := 0) (t := x0 + 1) (n := 38) (xoP_o tx0).1 (xoP_o tx0).2 (by decide) (xoP_all tx0 (Q := fun p => (p, 0, p + 1) ∈ xl_P) (by decide +kernel) (by decide +kernel) (by decide +kernel))) ?_
    by_cases c102 : 0 ≤ (x3) ∧ (x3) < 16
    · skip
      rw [if_pos c102] at e
      refine xok_eqb (h.al (o := x0 + 1) (n := 16) (xoP_all tx0 (Q := fun p => p + 1 < 276) (by decide) (by decide) (by decide)) (xoP_all tx0 (Q := fun p => xl_t (p + 1) = (2, 4, 16)) rfl rfl rfl)  c102.1 c102.2) ?_
      refine xok_ite (fun c103 => ?_) (fun c103 => ?_)
      · rw [if_pos c103] at e
        exact hr2 h tx0 tx1 (xin_wr _) e
      · rw [if_neg c103] at e
        cases e
        exact ⟨_, rfl, rfl, h, tx3⟩
    · rw [if_neg c102] at e; cases e
theorem s205_2 {m f : Nat} {M0 : xj_M} (hI : xHI f)     : ∀ {n : Nat} {M : xj_M} {G : xG_} {x0 : Nat} {x1 : Int} {x3 : Int} {R : Int × xG_}, xRX m M0 M G → xoP x0 → xiN x1 → xin x3 → g205_2   f n x0 x1 x3 G = some R → xok (f205_2   f n (m + x0) x1 x3 M) (fun r => r.1 = R.1 ∧ xRX m M0 r.2 R.2 ∧ xin R.1) := by
  intro n
  induction n with
  | zero => intros; rename_i e; cases e
  | succ n ih =>
    intros
    rename_i h i0 i1 i2 e
    exact s205_2b hI   ih h i0 i1 i2 e
theorem sg205 {m f : Nat} {M0 M : xj_M} {G : xG_} (hI : xHI f)   (h : xRX m M0 M G) {a0 : Nat} {a1 : Int} {R : Int × xG_} (ta0 : xoP a0) (ta1 : xiN a1) (e : g205  f a0 a1 G = some R) : xok (f205  f (m + a0) a1 M) (fun r => r.1 = R.1 ∧ xRX m M0 r.2 R.2 ∧ xin R.1) := by
  unfold g205 at e
  unfold f205
  exact s205_2 hI   h ta0 ta1 (show xin (0) by decide) e
-- ChangeHouseModel.isSmall
theorem s206_17 {m f : Nat} {M0 M : xj_M} {G : xG_} (hI : xHI f)     (h : xRX m M0 M G) {y0 : Int} {R : Int × xG_} (ty0 : xin y0) (e : g206_17   f y0 G = some R) : xok (f206_17   f y0 M) (fun r => r.1 = R.1 ∧ xRX m M0 r.2 R.2 ∧ xin R.1) := by
  unfold g206_17 at e
  unfold f206_17
  refine xok_ite (fun c101 => ?_) (fun c101 => ?_)
  · rw [if_pos c101] at e; cases e; exact ⟨_, rfl, rfl, h, ty0⟩
  · rw [if_neg c101] at e; cases e
theorem s206_16 {m f : Nat} {M0 M : xj_M} {G : xG_} (hI : xHI f)     (h : xRX m M0 M G)  {R : Int × xG_}  (e : g206_16   f  G = some R) : xok (f206_16   f  M) (fun r => r.1 = R.1 ∧ xRX m M0 r.2 R.2 ∧ xin R.1) := by
  unfold g206_16 at e
  unfold f206_16
  exact s206_17 hI   h (show xin (0) by decide) e
theorem sg206 {m f : Nat} {M0 M : xj_M} {G : xG_} (hI : xHI f)   (h : xRX m M0 M G) {a0 : Int} {R : Int × xG_} (ta0 : xin a0) (e : g206  f a0 G = some R) : xok (f206  f a0 M) (fun r => r.1 = R.1 ∧ xRX m M0 r.2 R.2 ∧ xin R.1) := by
  unfold g206 at e
  unfold f206
  refine xok_ite (fun c102 => ?_) (fun c102 => ?_)
  · rw [if_pos c102] at e
    exact s206_16 hI   h  e
  · rw [if_neg c102] at e
    refine xok_ite (fun c103 => ?_) (fun c103 => ?_)
    · rw [if_pos c103] at e
      exact s206_16 hI   h  e
    · rw [if_neg c103] at e
      exact s206_17 hI   h (show xin (1) by decide) e
-- ChangeHouseModel.isGreat
theorem s207_17 {m f : Nat} {M0 M : xj_M} {G : xG_} (hI : xHI f)     (h : xRX m M0 M G) {y0 : Int} {R : Int × xG_} (ty0 : xin y0) (e : g207_17   f y0 G = some R) : xok (f207_17   f y0 M) (fun r => r.1 = R.1 ∧ xRX m M0 r.2 R.2 ∧ xin R.1) := by
  unfold g207_17 at e
  unfold f207_17
  refine xok_ite (fun c101 => ?_) (fun c101 => ?_)
  · rw [if_pos c101] at e; cases e; exact ⟨_, rfl, rfl, h, ty0⟩
  · rw [if_neg c101] at e; cases e
theorem s207_16 {m f : Nat} {M0 M : xj_M} {G : xG_} (hI : xHI f)     (h : xRX m M0 M G)  {R : Int × xG_}  (e : g207_16   f  G = some R) : xok (f207_16   f  M) (fun r => r.1 = R.1 ∧ xRX m M0 r.2 R.2 ∧ xin R.1) := by
  unfold g207_16 at e
  unfold f207_16
  exact s207_17 hI   h (show xin (0) by decide) e
theorem sg207 {m f : Nat} {M0 M : xj_M} {G : xG_} (hI : xHI f)   (h : xRX m M0 M G) {a0 : Int} {R : Int × xG_} (ta0 : xin a0) (e : g207  f a0 G = some R) : xok (f207  f a0 M) (fun r => r.1 = R.1 ∧ xRX m M0 r.2 R.2 ∧ xin R.1) := by
  unfold g207 at e
  unfold f207
  refine xok_ite (fun c102 => ?_) (fun c102 => ?_)
  · rw [if_pos c102] at e
    exact s207_16 hI   h  e
  · rw [if_neg c102] at e
    refine xok_ite (fun c103 => ?_) (fun c103 => ?_)
    · rw [if_pos c103] at e
      exact s207_16 hI   h  e
    · rw [if_neg c103] at e
      exact s207_17 hI   h (show xin (1) by decide) e
-- ChangeHouseModel.isDigit
theorem s208_17 {m f : Nat} {M0 M : xj_M} {G : xG_} (hI : xHI f)     (h : xRX m M0 M G) {y0 : Int} {R : Int × xG_} (ty0 : xin y0) (e : g208_17   f y0 G = some R) : xok (f208_17   f y0 M) (fun r => r.1 = R.1 ∧ xRX m M0 r.2 R.2 ∧ xin R.1) := by
  unfold g208_17 at e
  unfold f208_17
  refine xok_ite (fun c101 => ?_) (fun c101 => ?_)
  · rw [if_pos c101] at e; cases e; exact ⟨_, rfl, rfl, h, ty0⟩
  · rw [if_neg c101] at e; cases e
theorem s208_16 {m f : Nat} {M0 M : xj_M} {G : xG_} (hI : xHI f)     (h : xRX m M0 M G)  {R : Int × xG_}  (e : g208_16   f  G = some R) : xok (f208_16   f  M) (fun r => r.1 = R.1 ∧ xRX m M0 r.2 R.2 ∧ xin R.1) := by
  unfold g208_16 at e
  unfold f208_16
  exact s208_17 hI   h (show xin (0) by decide) e
theorem sg208 {m f : Nat} {M0 M : xj_M} {G : xG_} (hI : xHI f)   (h : xRX m M0 M G) {a0 : Int} {R : Int × xG_} (ta0 : xin a0) (e : g208  f a0 G = some R) : xok (f208  f a0 M) (fun r => r.1 = R.1 ∧ xRX m M0 r.2 R.2 ∧ xin R.1) := by
  unfold g208 at e
  unfold f208
  refine xok_ite (fun c102 => ?_) (fun c102 => ?_)
  · rw [if_pos c102] at e
    exact s208_16 hI   h  e
  · rw [if_neg c102] at e
    refine xok_ite (fun c103 => ?_) (fun c103 => ?_)
    · rw [if_pos c103] at e
      exact s208_16 hI   h  e
    · rw [if_neg c103] at e
      exact s208_17 hI   h (show xin (1) by decide) e
-- ChangeHouseModel.see
theorem s209_22 {m f : Nat} {M0 M : xj_M} {G : xG_} (hI : xHI f)     (h : xRX m M0 M G) {y0 : Int} {R : Int × xG_} (ty0 : xin y0) (e : g209_22   f y0 G = some R) : xok (f209_22   f y0 M) (fun r => r.1 = R.1 ∧ xRX m M0 r.2 R.2 ∧ xin R.1) := by
  unfold g209_22 at e
  unfold f209_22
  cases e
  exact ⟨_, rfl, rfl, h, ty0⟩
theorem sg209 {m f : Nat} {M0 M : xj_M} {G : xG_} (hI : xHI f)   (h : xRX m M0 M G) {a1 : Int} {R : Int × xG_} (ta1 : xin a1) (e : g209  f a1 G = some R) : xok (f209  f m a1 M) (fun r => r.1 = R.1 ∧ xRX m M0 r.2 R.2 ∧ xin R.1) := by
  unfold g209 at e
  unfold f209
  refine xok_eqb (h.gi (o := 0) (c := 15) (k := 1) (n := 107) (by decide) rfl (by decide) (by decide)) ?_
  refine xok_ite (fun c101 => ?_) (fun c101 => ?_)
  · rw [if_pos c101] at e
    exact s209_22 hI   h (show xin (-1) by decide) e
  · rw [if_neg c101] at e
    by_cases c102 : G 0 0 < 0
    · rw [if_pos c102] at e; cases e
    rw [if_neg c102] at e
    refine xok_eqb (h.src c102) ?_
    by_cases c103 : 0 ≤ (a1) ∧ (a1) < ((xl_t ((G 0 0).toNat)).2.2 : Int)
    · skip
      rw [if_pos c103] at e
      refine xok_eqb (h.ab (o := (G 0 0).toNat) (n := (xl_t ((G 0 0).toNat)).2.2) (xoB_o (h.srt c102)).1 (xoB_o (h.srt c102)).2 (by decide) c103.1 c103.2) ?_
      exact s209_22 hI   h (xin_of _) e
    · rw [if_neg c103] at e; cases e
-- ChangeHouseModel.fail
theorem s210_13 {m f : Nat} {M0 M : xj_M} {G : xG_} (hI : xHI f)     (h : xRX m M0 M G)  {R : xG_}  (e : g210_13   f  G = some R) : xok (f210_13   f  M) (fun r => xRX m M0 r R) := by
  unfold g210_13 at e
  unfold f210_13
  cases e
  exact ⟨_, rfl, h⟩
theorem sg210 {m f : Nat} {M0 M : xj_M} {G : xG_} (hI : xHI f)   (h : xRX m M0 M G) {a1 : Int} {R : xG_} (ta1 : xin a1) (e : g210  f a1 G = some R) : xok (f210  f m a1 M) (fun r => xRX m M0 r R) := by
  unfold g210 at e
  unfold f210
  refine xok_eqb (h.gi (o := 0) (c := 15) (k := 7) (n := 107) (by decide) rfl (by decide) (by decide)) ?_
  refine xok_ite (fun c101 => ?_) (fun c101 => ?_)
  · rw [if_pos c101] at e
    exact s210_13 hI   h  e
  · rw [if_neg c101] at e
    obtain ⟨M102, q103, h104⟩ := h.pi (v := a1) (o := 0) (c := 15) (k := 7) (n := 107) (by decide) rfl (by decide) (by decide) ta1
    refine xok_eqb q103 ?_
    obtain ⟨G105, g1, e⟩ := xbnd e
    cases g1
    have h104_ : xRX m M0 M102 (xup2 G (0) 7 (a1)) := h104
    generalize hGG105 : (xup2 G (0) 7 (a1)) = G105 at e h104
    clear h104_ hGG105
    exact s210_13 hI   h104  e
-- ChangeHouseModel.bad
theorem s211_13 {m f : Nat} {M0 M : xj_M} {G : xG_} (hI : xHI f)     (h : xRX m M0 M G) {y0 : Int} {R : Int × xG_} (ty0 : xin y0) (e : g211_13   f y0 G = some R) : xok (f211_13   f y0 M) (fun r => r.1 = R.1 ∧ xRX m M0 r.2 R.2 ∧ xin R.1) := by
  unfold g211_13 at e
  unfold f211_13
  refine xok_ite (fun c101 => ?_) (fun c101 => ?_)
  · rw [if_pos c101] at e; cases e; exact ⟨_, rfl, rfl, h, ty0⟩
  · rw [if_neg c101] at e; cases e
theorem sg211 {m f : Nat} {M0 M : xj_M} {G : xG_} (hI : xHI f)   (h : xRX m M0 M G)  {R : Int × xG_}  (e : g211  f  G = some R) : xok (f211  f m M) (fun r => r.1 = R.1 ∧ xRX m M0 r.2 R.2 ∧ xin R.1) := by
  unfold g211 at e
  unfold f211
  refine xok_eqb (h.gi (o := 0) (c := 15) (k := 7) (n := 107) (by decide) rfl (by decide) (by decide)) ?_
  refine xok_ite (fun c102 => ?_) (fun c102 => ?_)
  · rw [if_pos c102] at e
    exact s211_13 hI   h (show xin (0) by decide) e
  · rw [if_neg c102] at e
    exact s211_13 hI   h (show xin (1) by decide) e
-- ChangeHouseModel.digitOf
theorem s215_51 {m f : Nat} {M0 M : xj_M} {G : xG_} (hI : xHI f)     (h : xRX m M0 M G) {y0 : Int} {R : Int × xG_} (ty0 : xin y0) (e : g215_51   f y0 G = some R) : xok (f215_51   f y0 M) (fun r => r.1 = R.1 ∧ xRX m M0 r.2 R.2 ∧ xin R.1) := by
  unfold g215_51 at e
  unfold f215_51
  cases e
  exact ⟨_, rfl, rfl, h, ty0⟩
theorem sg215 {m f : Nat} {M0 M : xj_M} {G : xG_} (hI : xHI f)   (h : xRX m M0 M G) {a0 : Int} {R : Int × xG_} (ta0 : xin a0) (e : g215  f a0 G = some R) : xok (f215  f a0 M) (fun r => r.1 = R.1 ∧ xRX m M0 r.2 R.2 ∧ xin R.1) := by
  unfold g215 at e
  unfold f215
  obtain ⟨R101, e102, e⟩ := xbnd e
  refine xok_call (sg206 hI  h ta0 e102) ?_
  rintro ⟨v_, M105⟩ ⟨hv_, h103, hi104⟩
  cases hv_
  refine xok_ite (fun c106 => ?_) (fun c106 => ?_)
  · rw [if_pos c106] at e
    obtain ⟨R107, e108, e⟩ := xbnd e
    refine xok_call (sg208 hI  h103 ta0 e108) ?_
    rintro ⟨v_, M111⟩ ⟨hv_, h109, hi110⟩
    cases hv_
    refine xok_ite (fun c112 => ?_) (fun c112 => ?_)
    · rw [if_pos c112] at e
      refine xok_ite (fun c113 => ?_) (fun c113 => ?_)
      · rw [if_pos c113] at e
        exact s215_51 hI   h109 (xin_wr _) e
      · rw [if_neg c113] at e
        exact s215_51 hI   h109 (show xin (37) by decide) e
    · rw [if_neg c112] at e
      exact s215_51 hI   h109 (xin_wr _) e
  · rw [if_neg c106] at e
    exact s215_51 hI   h103 (xin_wr _) e
-- ChangeHouseModel.lexName
theorem s216_116 {m f : Nat} {M0 M : xj_M} {G : xG_} (hI : xHI f)  {r17 : Int → Int → xG_ → Option (xG_)} {o17 : Nat → Int → Int → xj_M → Option (xj_M)}  (hr17 : ∀ {M : xj_M} {G : xG_} {x1 : Int} {x2 : Int} {R : xG_}, xRX m M0 M G → xin x1 → xin x2 → r17 x1 x2 G = some R → xok (o17 m x1 x2 M) (fun r => xRX m M0 r R)) (h : xRX m M0 M G) {x1 : Int} {x2 : Int} {R : xG_} (tx1 : xin x1) (tx2 : xin x2) (e : g216_116  r17 f x1 x2 G = some R) : xok (f216_116  o17 f m x1 x2 M) (fun r => xRX m M0 r R) := by
  unfold g216_116 at e
  unfold f216_116
  exact hr17 h tx1 (xin_wr _) e
theorem s216_85 {m f : Nat} {M0 M : xj_M} {G : xG_} (hI : xHI f)  {r17 : Int → Int → xG_ → Option (xG_)} {o17 : Nat → Int → Int → xj_M → Option (xj_M)}  (hr17 : ∀ {M : xj_M} {G : xG_} {x1 : Int} {x2 : Int} {R : xG_}, xRX m M0 M G → xin x1 → xin x2 → r17 x1 x2 G = some R → xok (o17 m x1 x2 M) (fun r => xRX m M0 r R)) (h : xRX m M0 M G) {x2 : Int} {y0 : Int} {R : xG_} (tx2 : xin x2) (ty0 : xin y0) (e : g216_85  r17 f x2 y0 G = some R) : xok (f216_85  o17 f m x2 y0 M) (fun r => xRX m M0 r R) := by
  unfold g216_85 at e
  unfold f216_85
  refine xok_eqb (h.gi (o := 0) (c := 15) (k := 6) (n := 107) (by decide) rfl (by decide) (by decide)) ?_
  refine xok_ite (fun c101 => ?_) (fun c101 => ?_)
  · rw [if_pos c101] at e
    exact s216_116 hI  hr17 h ty0 tx2 e
  · rw [if_neg c101] at e
    refine xok_eqb (h.gl (o := 0) (c := 15) (k := 9) (n := 107) (by decide) rfl (by decide) (by decide)) ?_
    obtain ⟨R102, e103, e⟩ := xbnd e
    refine xok_eqb (h.is (o := 0) (c := 15) (by decide) rfl) ?_
    refine xok_call (sg209 hI  h tx2 e103) ?_
    rintro ⟨v_, M106⟩ ⟨hv_, h104, hi105⟩
    cases hv_
    obtain ⟨R107, e108, e⟩ := xbnd e
    refine xok_call (sg215 hI  h104 hi105 e108) ?_
    rintro ⟨v_, M111⟩ ⟨hv_, h109, hi110⟩
    cases hv_
    obtain ⟨M112, q113, h114⟩ := h109.pl (v := xwl ((xwl ((38) * (G (0) 9))) + (R107.1))) (o := 0) (c := 15) (k := 9) (n := 107) (by decide) rfl (by decide) (by decide) (xiN_wl _)
    refine xok_eqb q113 ?_
    obtain ⟨G115, g1, e⟩ := xbnd e
    cases g1
    have h114_ : xRX m M0 M112 (xup2 R107.2 (0) 9 (xwl ((xwl ((38) * (G (0) 9))) + (R107.1)))) := h114
    generalize hGG115 : (xup2 R107.2 (0) 9 (xwl ((xwl ((38) * (G (0) 9))) + (R107.1)))) = G115 at e h114
    clear h114_ hGG115
    exact s216_116 hI  hr17 h114 ty0 tx2 e
theorem s216_84 {m f : Nat} {M0 M : xj_M} {G : xG_} (hI : xHI f)  {r17 : Int → Int → xG_ → Option (xG_)} {o17 : Nat → Int → Int → xj_M → Option (xj_M)}  (hr17 : ∀ {M : xj_M} {G : xG_} {x1 : Int} {x2 : Int} {R : xG_}, xRX m M0 M G → xin x1 → xin x2 → r17 x1 x2 G = some R → xok (o17 m x1 x2 M) (fun r => xRX m M0 r R)) (h : xRX m M0 M G) {x2 : Int} {R : xG_} (tx2 : xin x2) (e : g216_84  r17 f x2 G = some R) : xok (f216_84  o17 f m x2 M) (fun r => xRX m M0 r R) := by
  unfold g216_84 at e
  unfold f216_84
  exact s216_85 hI  hr17 h tx2 (show xin (0) by decide) e
theorem s216_65 {m f : Nat} {M0 M : xj_M} {G : xG_} (hI : xHI f)  {r17 : Int → Int → xG_ → Option (xG_)} {o17 : Nat → Int → Int → xj_M → Option (xj_M)}  (hr17 : ∀ {M : xj_M} {G : xG_} {x1 : Int} {x2 : Int} {R : xG_}, xRX m M0 M G → xin x1 → xin x2 → r17 x1 x2 G = some R → xok (o17 m x1 x2 M) (fun r => xRX m M0 r R)) (h : xRX m M0 M G) {x1 : Int} {x2 : Int} {R : xG_} (tx1 : xin x1) (tx2 : xin x2) (e : g216_65  r17 f x1 x2 G = some R) : xok (f216_65  o17 f m x1 x2 M) (fun r => xRX m M0 r R) := by
  unfold g216_65 at e
  unfold f216_65
  refine xok_ite (fun c116 => ?_) (fun c116 => ?_)
  · rw [if_pos c116] at e
    exact s216_84 hI  hr17 h tx2 e
  · rw [if_neg c116] at e
    obtain ⟨R117, e118, e⟩ := xbnd e
    refine xok_eqb (h.is (o := 0) (c := 15) (by decide) rfl) ?_
    refine xok_call (sg209 hI  h tx2 e118) ?_
    rintro ⟨v_, M121⟩ ⟨hv_, h119, hi120⟩
    cases hv_
    obtain ⟨R122, e123, e⟩ := xbnd e
    refine xok_call (sg206 hI  h119 hi120 e123) ?_
    rintro ⟨v_, M126⟩ ⟨hv_, h124, hi125⟩
    cases hv_
    refine xok_ite (fun c127 => ?_) (fun c127 => ?_)
    · rw [if_pos c127] at e
      exact s216_84 hI  hr17 h124 tx2 e
    · rw [if_neg c127] at e
      exact s216_85 hI  hr17 h124 tx2 (show xin (1) by decide) e
theorem s216_49 {m f : Nat} {M0 M : xj_M} {G : xG_} (hI : xHI f)  {r17 : Int → Int → xG_ → Option (xG_)} {o17 : Nat → Int → Int → xj_M → Option (xj_M)}  (hr17 : ∀ {M : xj_M} {G : xG_} {x1 : Int} {x2 : Int} {R : xG_}, xRX m M0 M G → xin x1 → xin x2 → r17 x1 x2 G = some R → xok (o17 m x1 x2 M) (fun r => xRX m M0 r R)) (h : xRX m M0 M G) {x1 : Int} {x2 : Int} {R : xG_} (tx1 : xin x1) (tx2 : xin x2) (e : g216_49  r17 f x1 x2 G = some R) : xok (f216_49  o17 f m x1 x2 M) (fun r => xRX m M0 r R) := by
  unfold g216_49 at e
  unfold f216_49
  refine xok_eqb (h.gi (o := 0) (c := 15) (k := 4) (n := 107) (by decide) rfl (by decide) (by decide)) ?_
  refine xok_ite (fun c128 => ?_) (fun c128 => ?_)
  · rw [if_pos c128] at e
    exact s216_65 hI  hr17 h tx1 tx2 e
  · rw [if_neg c128] at e
    obtain ⟨M129, q130, h131⟩ := h.pi (v := x2) (o := 0) (c := 15) (k := 6) (n := 107) (by decide) rfl (by decide) (by decide) tx2
    refine xok_eqb q130 ?_
    obtain ⟨G132, g1, e⟩ := xbnd e
    cases g1
    have h131_ : xRX m M0 M129 (xup2 G (0) 6 (x2)) := h131
    generalize hGG132 : (xup2 G (0) 6 (x2)) = G132 at e h131
    clear h131_ hGG132
    exact s216_65 hI  hr17 h131 tx1 tx2 e
theorem s216_149 {m f : Nat} {M0 M : xj_M} {G : xG_} (hI : xHI f)     (h : xRX m M0 M G)  {R : xG_}  (e : g216_149   f  G = some R) : xok (f216_149   f  M) (fun r => xRX m M0 r R) := by
  unfold g216_149 at e
  unfold f216_149
  cases e
  exact ⟨_, rfl, h⟩
theorem s216_201 {m f : Nat} {M0 M : xj_M} {G : xG_} (hI : xHI f)  {r157 : Int → Int → xG_ → Option (xG_)} {o157 : Nat → Int → Int → xj_M → Option (xj_M)}  (hr157 : ∀ {M : xj_M} {G : xG_} {x2 : Int} {x3 : Int} {R : xG_}, xRX m M0 M G → xin x2 → xin x3 → r157 x2 x3 G = some R → xok (o157 m x2 x3 M) (fun r => xRX m M0 r R)) (h : xRX m M0 M G) {x2 : Int} {x3 : Int} {y0 : Int} {y1 : Int} {R : xG_} (tx2 : xin x2) (tx3 : xin x3) (ty0 : xin y0) (ty1 : xiN y1) (e : g216_201  r157 f x2 x3 y0 y1 G = some R) : xok (f216_201  o157 f m x2 x3 y0 y1 m M) (fun r => xRX m M0 r R) := by
  unfold g216_201 at e
  unfold f216_201
  obtain ⟨M133, q134, h135⟩ := h.pl (v := xwl ((y1) + (y0))) (o := 0) (c := 15) (k := 10) (n := 107) (by decide) rfl (by decide) (by decide) (xiN_wl _)
  refine xok_eqb q134 ?_
  obtain ⟨G136, g1, e⟩ := xbnd e
  cases g1
  have h135_ : xRX m M0 M133 (xup2 G (0) 10 (xwl ((y1) + (y0)))) := h135
  generalize hGG136 : (xup2 G (0) 10 (xwl ((y1) + (y0)))) = G136 at e h135
  clear h135_ hGG136
  exact hr157 h135 tx2 (xin_wr _) e
theorem s216_157b {m f : Nat} {M0 M : xj_M} {G : xG_} (hI : xHI f)  {r157 : Int → Int → xG_ → Option (xG_)} {o157 : Nat → Int → Int → xj_M → Option (xj_M)}  (hr157 : ∀ {M : xj_M} {G : xG_} {x2 : Int} {x3 : Int} {R : xG_}, xRX m M0 M G → xin x2 → xin x3 → r157 x2 x3 G = some R → xok (o157 m x2 x3 M) (fun r => xRX m M0 r R)) (h : xRX m M0 M G) {x2 : Int} {x3 : Int} {R : xG_} (tx2 : xin x2) (tx3 : xin x3) (e : g216_157b  r157 f x2 x3 G = some R) : xok (f216_157b  o157 f m x2 x3 M) (fun r => xRX m M0 r R) := by
  unfold g216_157b at e
  unfold f216_157b
  refine xok_ite (fun c137 => ?_) (fun c137 => ?_)
  · rw [if_pos c137] at e
    refine xok_eqb (h.gl (o := 0) (c := 15) (k := 10) (n := 107) (by decide) rfl (by decide) (by decide)) ?_
    obtain ⟨M138, q139, h140⟩ := h.pl (v := xwl ((G (0) 10) + (2000000000000))) (o := 0) (c := 15) (k := 10) (n := 107) (by decide) rfl (by decide) (by decide) (xiN_wl _)
    refine xok_eqb q139 ?_
    obtain ⟨G141, g1, e⟩ := xbnd e
    cases g1
    have h140_ : xRX m M0 M138 (xup2 G (0) 10 (xwl ((G (0) 10) + (2000000000000)))) := h140
    generalize hGG141 : (xup2 G (0) 10 (xwl ((G (0) 10) + (2000000000000)))) = G141 at e h140
    clear h140_ hGG141
    cases e
    exact ⟨_, rfl, h140⟩
  · rw [if_neg c137] at e
    refine xok_eqb (h.gl (o := 0) (c := 15) (k := 10) (n := 107) (by decide) rfl (by decide) (by decide)) ?_
    refine xok_eqb (h.gi (o := 0) (c := 15) (k := 4) (n := 107) (by decide) rfl (by decide) (by decide)) ?_
    refine xok_ite (fun c142 => ?_) (fun c142 => ?_)
    · rw [if_pos c142] at e
      exact s216_201 hI  hr157 h tx2 tx3 (show xin (0) by decide) (xiN_wl _) e
    · rw [if_neg c142] at e
      refine xok_eqb (h.gi (o := 0) (c := 15) (k := 4) (n := 107) (by decide) rfl (by decide) (by decide)) ?_
      obtain ⟨R143, e144, e⟩ := xbnd e
      refine xok_eqb (h.is (o := 0) (c := 15) (by decide) rfl) ?_
      refine xok_call (sg209 hI  h (xin_wr _) e144) ?_
      rintro ⟨v_, M147⟩ ⟨hv_, h145, hi146⟩
      cases hv_
      exact s216_201 hI  hr157 h145 tx2 tx3 (xin_wr _) (xiN_wl _) e
theorem s216_157 {m f : Nat} {M0 : xj_M} (hI : xHI f)     : ∀ {n : Nat} {M : xj_M} {G : xG_} {x2 : Int} {x3 : Int} {R : xG_}, xRX m M0 M G → xin x2 → xin x3 → g216_157   f n x2 x3 G = some R → xok (f216_157   f n m x2 x3 M) (fun r => xRX m M0 r R) := by
  intro n
  induction n with
  | zero => intros; rename_i e; cases e
  | succ n ih =>
    intros
    rename_i h i0 i1 e
    exact s216_157b hI   ih h i0 i1 e
theorem s216_17b {m f : Nat} {M0 M : xj_M} {G : xG_} (hI : xHI f)  {r17 : Int → Int → xG_ → Option (xG_)} {o17 : Nat → Int → Int → xj_M → Option (xj_M)}  (hr17 : ∀ {M : xj_M} {G : xG_} {x1 : Int} {x2 : Int} {R : xG_}, xRX m M0 M G → xin x1 → xin x2 → r17 x1 x2 G = some R → xok (o17 m x1 x2 M) (fun r => xRX m M0 r R)) (h : xRX m M0 M G) {x1 : Int} {x2 : Int} {R : xG_} (tx1 : xin x1) (tx2 : xin x2) (e : g216_17b  r17 f x1 x2 G = some R) : xok (f216_17b  o17 f m x1 x2 M) (fun r => xRX m M0 r R) := by
  unfold g216_17b at e
  unfold f216_17b
  obtain ⟨R148, e149, e⟩ := xbnd e
  refine xok_eqb (h.is (o := 0) (c := 15) (by decide) rfl) ?_
  refine xok_call (sg209 hI  h tx2 e149) ?_
  rintro ⟨v_, M152⟩ ⟨hv_, h150, hi151⟩
  cases hv_
  obtain ⟨R153, e154, e⟩ := xbnd e
  refine xok_call (sg206 hI  h150 hi151 e154) ?_
  rintro ⟨v_, M157⟩ ⟨hv_, h155, hi156⟩
  cases hv_
  refine xok_ite (fun c158 => ?_) (fun c158 => ?_)
  · rw [if_pos c158] at e
    exact s216_49 hI  hr17 h155 tx1 tx2 e
  · rw [if_neg c158] at e
    obtain ⟨R159, e160, e⟩ := xbnd e
    refine xok_eqb (h155.is (o := 0) (c := 15) (by decide) rfl) ?_
    refine xok_call (sg209 hI  h155 tx2 e160) ?_
    rintro ⟨v_, M163⟩ ⟨hv_, h161, hi162⟩
    cases hv_
    obtain ⟨R164, e165, e⟩ := xbnd e
    refine xok_call (sg208 hI  h161 hi162 e165) ?_
    rintro ⟨v_, M168⟩ ⟨hv_, h166, hi167⟩
    cases hv_
    refine xok_ite (fun c169 => ?_) (fun c169 => ?_)
    · rw [if_pos c169] at e
      exact s216_49 hI  hr17 h166 tx1 tx2 e
    · rw [if_neg c169] at e
      obtain ⟨R170, e171, e⟩ := xbnd e
      refine xok_eqb (h166.is (o := 0) (c := 15) (by decide) rfl) ?_
      refine xok_call (sg209 hI  h166 tx2 e171) ?_
      rintro ⟨v_, M174⟩ ⟨hv_, h172, hi173⟩
      cases hv_
      refine xok_ite (fun c175 => ?_) (fun c175 => ?_)
      · rw [if_pos c175] at e
        obtain ⟨M176, q177, h178⟩ := h172.pi (v := x2) (o := 0) (c := 15) (k := 5) (n := 107) (by decide) rfl (by decide) (by decide) tx2
        refine xok_eqb q177 ?_
        obtain ⟨G179, g1, e⟩ := xbnd e
        cases g1
        have h178_ : xRX m M0 M176 (xup2 R170.2 (0) 5 (x2)) := h178
        generalize hGG179 : (xup2 R170.2 (0) 5 (x2)) = G179 at e h178
        clear h178_ hGG179
        obtain ⟨M180, q181, h182⟩ := h178.pl (v := -1) (o := 0) (c := 15) (k := 10) (n := 107) (by decide) rfl (by decide) (by decide) (show xiN (-1) by decide)
        refine xok_eqb q181 ?_
        obtain ⟨G183, g1, e⟩ := xbnd e
        cases g1
        have h182_ : xRX m M0 M180 (xup2 G179 (0) 10 (-1)) := h182
        generalize hGG183 : (xup2 G179 (0) 10 (-1)) = G183 at e h182
        clear h182_ hGG183
        refine xok_ite (fun c184 => ?_) (fun c184 => ?_)
        · rw [if_pos c184] at e
          exact s216_149 hI   h182  e
        · rw [if_neg c184] at e
          refine xok_eqb (h182.gi (o := 0) (c := 15) (k := 4) (n := 107) (by decide) rfl (by decide) (by decide)) ?_
          refine xok_ite (fun c185 => ?_) (fun c185 => ?_)
          · rw [if_pos c185] at e
            obtain ⟨M186, q187, h188⟩ := h182.pl (v := 0) (o := 0) (c := 15) (k := 10) (n := 107) (by decide) rfl (by decide) (by decide) (show xiN (0) by decide)
            refine xok_eqb q187 ?_
            obtain ⟨G189, g1, e⟩ := xbnd e
            cases g1
            have h188_ : xRX m M0 M186 (xup2 G183 (0) 10 (0)) := h188
            generalize hGG189 : (xup2 G183 (0) 10 (0)) = G189 at e h188
            clear h188_ hGG189
            exact s216_157 hI   h188 tx2 (show xin (0) by decide) e
          · rw [if_neg c185] at e
            exact s216_149 hI   h182  e
      · rw [if_neg c175] at e
        exact s216_49 hI  hr17 h172 tx1 tx2 e
theorem s216_17 {m f : Nat} {M0 : xj_M} (hI : xHI f)     : ∀ {n : Nat} {M : xj_M} {G : xG_} {x1 : Int} {x2 : Int} {R : xG_}, xRX m M0 M G → xin x1 → xin x2 → g216_17   f n x1 x2 G = some R → xok (f216_17   f n m x1 x2 M) (fun r => xRX m M0 r R) := by
  intro n
  induction n with
  | zero => intros; rename_i e; cases e
  | succ n ih =>
    intros
    rename_i h i0 i1 e
    exact s216_17b hI   ih h i0 i1 e
theorem sg216 {m f : Nat} {M0 M : xj_M} {G : xG_} (hI : xHI f)   (h : xRX m M0 M G)  {R : xG_}  (e : g216  f  G = some R) : xok (f216  f m M) (fun r => xRX m M0 r R) := by
  unfold g216 at e
  unfold f216
  obtain ⟨M190, q191, h192⟩ := h.pi (v := 2) (o := 0) (c := 15) (k := 2) (n := 107) (by decide) rfl (by decide) (by decide) (show xin (2) by decide)
  refine xok_eqb q191 ?_
  obtain ⟨G193, g1, e⟩ := xbnd e
  cases g1
  have h192_ : xRX m M0 M190 (xup2 G (0) 2 (2)) := h192
  generalize hGG193 : (xup2 G (0) 2 (2)) = G193 at e h192
  clear h192_ hGG193
  obtain ⟨M194, q195, h196⟩ := h192.pl (v := 0) (o := 0) (c := 15) (k := 9) (n := 107) (by decide) rfl (by decide) (by decide) (show xiN (0) by decide)
  refine xok_eqb q195 ?_
  obtain ⟨G197, g1, e⟩ := xbnd e
  cases g1
  have h196_ : xRX m M0 M194 (xup2 G193 (0) 9 (0)) := h196
  generalize hGG197 : (xup2 G193 (0) 9 (0)) = G197 at e h196
  clear h196_ hGG197
  refine xok_eqb (h196.gi (o := 0) (c := 15) (k := 4) (n := 107) (by decide) rfl (by decide) (by decide)) ?_
  exact s216_17 hI   h196 (show xin (1) by decide) (h196.gin (o := 0) (c := 15) (k := 4) (n := 107) (by decide) rfl (by decide) (by decide)) e
-- ChangeHouseModel.lexVariable
theorem s217_94 {m f : Nat} {M0 M : xj_M} {G : xG_} (hI : xHI f)  {r15 : Int → xG_ → Option (xG_)} {o15 : Nat → Int → xj_M → Option (xj_M)}  (hr15 : ∀ {M : xj_M} {G : xG_} {x1 : Int} {R : xG_}, xRX m M0 M G → xin x1 → r15 x1 G = some R → xok (o15 m x1 M) (fun r => xRX m M0 r R)) (h : xRX m M0 M G) {x1 : Int} {R : xG_} (tx1 : xin x1) (e : g217_94  r15 f x1 G = some R) : xok (f217_94  o15 f m x1 M) (fun r => xRX m M0 r R) := by
  unfold g217_94 at e
  unfold f217_94
  exact hr15 h (xin_wr _) e
theorem s217_64 {m f : Nat} {M0 M : xj_M} {G : xG_} (hI : xHI f)  {r15 : Int → xG_ → Option (xG_)} {o15 : Nat → Int → xj_M → Option (xj_M)}  (hr15 : ∀ {M : xj_M} {G : xG_} {x1 : Int} {R : xG_}, xRX m M0 M G → xin x1 → r15 x1 G = some R → xok (o15 m x1 M) (fun r => xRX m M0 r R)) (h : xRX m M0 M G) {x1 : Int} {R : xG_} (tx1 : xin x1) (e : g217_64  r15 f x1 G = some R) : xok (f217_64  o15 f m x1 M) (fun r => xRX m M0 r R) := by
  unfold g217_64 at e
  unfold f217_64
  refine xok_eqb (h.gi (o := 0) (c := 15) (k := 6) (n := 107) (by decide) rfl (by decide) (by decide)) ?_
  refine xok_ite (fun c101 => ?_) (fun c101 => ?_)
  · rw [if_pos c101] at e
    exact s217_94 hI  hr15 h tx1 e
  · rw [if_neg c101] at e
    refine xok_eqb (h.gl (o := 0) (c := 15) (k := 9) (n := 107) (by decide) rfl (by decide) (by decide)) ?_
    obtain ⟨R102, e103, e⟩ := xbnd e
    refine xok_eqb (h.is (o := 0) (c := 15) (by decide) rfl) ?_
    refine xok_call (sg209 hI  h tx1 e103) ?_
    rintro ⟨v_, M106⟩ ⟨hv_, h104, hi105⟩
    cases hv_
    obtain ⟨R107, e108, e⟩ := xbnd e
    refine xok_call (sg215 hI  h104 hi105 e108) ?_
    rintro ⟨v_, M111⟩ ⟨hv_, h109, hi110⟩
    cases hv_
    obtain ⟨M112, q113, h114⟩ := h109.pl (v := xwl ((xwl ((64) * (G (0) 9))) + (R107.1))) (o := 0) (c := 15) (k := 9) (n := 107) (by decide) rfl (by decide) (by decide) (xiN_wl _)
    refine xok_eqb q113 ?_
    obtain ⟨G115, g1, e⟩ := xbnd e
    cases g1
    have h114_ : xRX m M0 M112 (xup2 R107.2 (0) 9 (xwl ((xwl ((64) * (G (0) 9))) + (R107.1)))) := h114
    generalize hGG115 : (xup2 R107.2 (0) 9 (xwl ((xwl ((64) * (G (0) 9))) + (R107.1)))) = G115 at e h114
    clear h114_ hGG115
    exact s217_94 hI  hr15 h114 tx1 e
theorem s217_48 {m f : Nat} {M0 M : xj_M} {G : xG_} (hI : xHI f)  {r15 : Int → xG_ → Option (xG_)} {o15 : Nat → Int → xj_M → Option (xj_M)}  (hr15 : ∀ {M : xj_M} {G : xG_} {x1 : Int} {R : xG_}, xRX m M0 M G → xin x1 → r15 x1 G = some R → xok (o15 m x1 M) (fun r => xRX m M0 r R)) (h : xRX m M0 M G) {x1 : Int} {R : xG_} (tx1 : xin x1) (e : g217_48  r15 f x1 G = some R) : xok (f217_48  o15 f m x1 M) (fun r => xRX m M0 r R) := by
  unfold g217_48 at e
  unfold f217_48
  refine xok_eqb (h.gi (o := 0) (c := 15) (k := 4) (n := 107) (by decide) rfl (by decide) (by decide)) ?_
  refine xok_ite (fun c116 => ?_) (fun c116 => ?_)
  · rw [if_pos c116] at e
    exact s217_64 hI  hr15 h tx1 e
  · rw [if_neg c116] at e
    obtain ⟨M117, q118, h119⟩ := h.pi (v := x1) (o := 0) (c := 15) (k := 6) (n := 107) (by decide) rfl (by decide) (by decide) tx1
    refine xok_eqb q118 ?_
    obtain ⟨G120, g1, e⟩ := xbnd e
    cases g1
    have h119_ : xRX m M0 M117 (xup2 G (0) 6 (x1)) := h119
    generalize hGG120 : (xup2 G (0) 6 (x1)) = G120 at e h119
    clear h119_ hGG120
    exact s217_64 hI  hr15 h119 tx1 e
theorem s217_15b {m f : Nat} {M0 M : xj_M} {G : xG_} (hI : xHI f)  {r15 : Int → xG_ → Option (xG_)} {o15 : Nat → Int → xj_M → Option (xj_M)}  (hr15 : ∀ {M : xj_M} {G : xG_} {x1 : Int} {R : xG_}, xRX m M0 M G → xin x1 → r15 x1 G = some R → xok (o15 m x1 M) (fun r => xRX m M0 r R)) (h : xRX m M0 M G) {x1 : Int} {R : xG_} (tx1 : xin x1) (e : g217_15b  r15 f x1 G = some R) : xok (f217_15b  o15 f m x1 M) (fun r => xRX m M0 r R) := by
  unfold g217_15b at e
  unfold f217_15b
  obtain ⟨R121, e122, e⟩ := xbnd e
  refine xok_eqb (h.is (o := 0) (c := 15) (by decide) rfl) ?_
  refine xok_call (sg209 hI  h tx1 e122) ?_
  rintro ⟨v_, M125⟩ ⟨hv_, h123, hi124⟩
  cases hv_
  obtain ⟨R126, e127, e⟩ := xbnd e
  refine xok_call (sg206 hI  h123 hi124 e127) ?_
  rintro ⟨v_, M130⟩ ⟨hv_, h128, hi129⟩
  cases hv_
  refine xok_ite (fun c131 => ?_) (fun c131 => ?_)
  · rw [if_pos c131] at e
    exact s217_48 hI  hr15 h128 tx1 e
  · rw [if_neg c131] at e
    obtain ⟨R132, e133, e⟩ := xbnd e
    refine xok_eqb (h128.is (o := 0) (c := 15) (by decide) rfl) ?_
    refine xok_call (sg209 hI  h128 tx1 e133) ?_
    rintro ⟨v_, M136⟩ ⟨hv_, h134, hi135⟩
    cases hv_
    obtain ⟨R137, e138, e⟩ := xbnd e
    refine xok_call (sg207 hI  h134 hi135 e138) ?_
    rintro ⟨v_, M141⟩ ⟨hv_, h139, hi140⟩
    cases hv_
    refine xok_ite (fun c142 => ?_) (fun c142 => ?_)
    · rw [if_pos c142] at e
      exact s217_48 hI  hr15 h139 tx1 e
    · rw [if_neg c142] at e
      obtain ⟨R143, e144, e⟩ := xbnd e
      refine xok_eqb (h139.is (o := 0) (c := 15) (by decide) rfl) ?_
      refine xok_call (sg209 hI  h139 tx1 e144) ?_
      rintro ⟨v_, M147⟩ ⟨hv_, h145, hi146⟩
      cases hv_
      obtain ⟨R148, e149, e⟩ := xbnd e
      refine xok_call (sg208 hI  h145 hi146 e149) ?_
      rintro ⟨v_, M152⟩ ⟨hv_, h150, hi151⟩
      cases hv_
      refine xok_ite (fun c153 => ?_) (fun c153 => ?_)
      · rw [if_pos c153] at e
        obtain ⟨M154, q155, h156⟩ := h150.pi (v := x1) (o := 0) (c := 15) (k := 5) (n := 107) (by decide) rfl (by decide) (by decide) tx1
        refine xok_eqb q155 ?_
        obtain ⟨G157, g1, e⟩ := xbnd e
        cases g1
        have h156_ : xRX m M0 M154 (xup2 R148.2 (0) 5 (x1)) := h156
        generalize hGG157 : (xup2 R148.2 (0) 5 (x1)) = G157 at e h156
        clear h156_ hGG157
        cases e
        exact ⟨_, rfl, h156⟩
      · rw [if_neg c153] at e
        exact s217_48 hI  hr15 h150 tx1 e
theorem s217_15 {m f : Nat} {M0 : xj_M} (hI : xHI f)     : ∀ {n : Nat} {M : xj_M} {G : xG_} {x1 : Int} {R : xG_}, xRX m M0 M G → xin x1 → g217_15   f n x1 G = some R → xok (f217_15   f n m x1 M) (fun r => xRX m M0 r R) := by
  intro n
  induction n with
  | zero => intros; rename_i e; cases e
  | succ n ih =>
    intros
    rename_i h i0 e
    exact s217_15b hI   ih h i0 e
theorem sg217 {m f : Nat} {M0 M : xj_M} {G : xG_} (hI : xHI f)   (h : xRX m M0 M G)  {R : xG_}  (e : g217  f  G = some R) : xok (f217  f m M) (fun r => xRX m M0 r R) := by
  unfold g217 at e
  unfold f217
  obtain ⟨M158, q159, h160⟩ := h.pi (v := 3) (o := 0) (c := 15) (k := 2) (n := 107) (by decide) rfl (by decide) (by decide) (show xin (3) by decide)
  refine xok_eqb q159 ?_
  obtain ⟨G161, g1, e⟩ := xbnd e
  cases g1
  have h160_ : xRX m M0 M158 (xup2 G (0) 2 (3)) := h160
  generalize hGG161 : (xup2 G (0) 2 (3)) = G161 at e h160
  clear h160_ hGG161
  obtain ⟨M162, q163, h164⟩ := h160.pl (v := 0) (o := 0) (c := 15) (k := 9) (n := 107) (by decide) rfl (by decide) (by decide) (show xiN (0) by decide)
  refine xok_eqb q163 ?_
  obtain ⟨G165, g1, e⟩ := xbnd e
  cases g1
  have h164_ : xRX m M0 M162 (xup2 G161 (0) 9 (0)) := h164
  generalize hGG165 : (xup2 G161 (0) 9 (0)) = G165 at e h164
  clear h164_ hGG165
  refine xok_eqb (h164.gi (o := 0) (c := 15) (k := 4) (n := 107) (by decide) rfl (by decide) (by decide)) ?_
  exact s217_15 hI   h164 (h164.gin (o := 0) (c := 15) (k := 4) (n := 107) (by decide) rfl (by decide) (by decide)) e
-- ChangeHouseModel.lexNumber
theorem s218_54 {m f : Nat} {M0 M : xj_M} {G : xG_} (hI : xHI f)  {r31 : Int → Int → xG_ → Option (xG_)} {o31 : Nat → Int → Int → xj_M → Option (xj_M)}  (hr31 : ∀ {M : xj_M} {G : xG_} {x1 : Int} {x2 : Int} {R : xG_}, xRX m M0 M G → xin x1 → xin x2 → r31 x1 x2 G = some R → xok (o31 m x1 x2 M) (fun r => xRX m M0 r R)) (h : xRX m M0 M G) {x1 : Int} {x2 : Int} {R : xG_} (tx1 : xin x1) (tx2 : xin x2) (e : g218_54  r31 f x1 x2 G = some R) : xok (f218_54  o31 f m x1 x2 M) (fun r => xRX m M0 r R) := by
  unfold g218_54 at e
  unfold f218_54
  refine xok_eqb (h.gl (o := 0) (c := 15) (k := 9) (n := 107) (by decide) rfl (by decide) (by decide)) ?_
  obtain ⟨R101, e102, e⟩ := xbnd e
  refine xok_eqb (h.is (o := 0) (c := 15) (by decide) rfl) ?_
  refine xok_call (sg209 hI  h tx1 e102) ?_
  rintro ⟨v_, M105⟩ ⟨hv_, h103, hi104⟩
  cases hv_
  obtain ⟨M106, q107, h108⟩ := h103.pl (v := xmin (4000000000000) (xwl ((xwl ((xwl ((10) * (G (0) 9))) + (R101.1))) - (48)))) (o := 0) (c := 15) (k := 9) (n := 107) (by decide) rfl (by decide) (by decide) (xmin_iN (show xiN (4000000000000) by decide) (xiN_wl _))
  refine xok_eqb q107 ?_
  obtain ⟨G109, g1, e⟩ := xbnd e
  cases g1
  have h108_ : xRX m M0 M106 (xup2 R101.2 (0) 9 (xmin (4000000000000) (xwl ((xwl ((xwl ((10) * (G (0) 9))) + (R101.1))) - (48))))) := h108
  generalize hGG109 : (xup2 R101.2 (0) 9 (xmin (4000000000000) (xwl ((xwl ((xwl ((10) * (G (0) 9))) + (R101.1))) - (48))))) = G109 at e h108
  clear h108_ hGG109
  exact hr31 h108 (xin_wr _) tx2 e
theorem s218_110 {m f : Nat} {M0 M : xj_M} {G : xG_} (hI : xHI f)     (h : xRX m M0 M G)  {R : xG_}  (e : g218_110   f  G = some R) : xok (f218_110   f  M) (fun r => xRX m M0 r R) := by
  unfold g218_110 at e
  unfold f218_110
  cases e
  exact ⟨_, rfl, h⟩
theorem s218_89 {m f : Nat} {M0 M : xj_M} {G : xG_} (hI : xHI f)     (h : xRX m M0 M G) {x1 : Int} {R : xG_} (tx1 : xin x1) (e : g218_89   f x1 G = some R) : xok (f218_89   f m x1 M) (fun r => xRX m M0 r R) := by
  unfold g218_89 at e
  unfold f218_89
  obtain ⟨M110, q111, h112⟩ := h.pi (v := x1) (o := 0) (c := 15) (k := 5) (n := 107) (by decide) rfl (by decide) (by decide) tx1
  refine xok_eqb q111 ?_
  obtain ⟨G113, g1, e⟩ := xbnd e
  cases g1
  have h112_ : xRX m M0 M110 (xup2 G (0) 5 (x1)) := h112
  generalize hGG113 : (xup2 G (0) 5 (x1)) = G113 at e h112
  clear h112_ hGG113
  refine xok_eqb (h112.gl (o := 0) (c := 15) (k := 9) (n := 107) (by decide) rfl (by decide) (by decide)) ?_
  refine xok_ite (fun c114 => ?_) (fun c114 => ?_)
  · rw [if_pos c114] at e
    exact s218_110 hI   h112  e
  · rw [if_neg c114] at e
    obtain ⟨M115, q116, h117⟩ := h112.pi (v := 1) (o := 0) (c := 15) (k := 2) (n := 107) (by decide) rfl (by decide) (by decide) (show xin (1) by decide)
    refine xok_eqb q116 ?_
    obtain ⟨G118, g1, e⟩ := xbnd e
    cases g1
    have h117_ : xRX m M0 M115 (xup2 G113 (0) 2 (1)) := h117
    generalize hGG118 : (xup2 G113 (0) 2 (1)) = G118 at e h117
    clear h117_ hGG118
    exact s218_110 hI   h117  e
theorem s218_31b {m f : Nat} {M0 M : xj_M} {G : xG_} (hI : xHI f)  {r31 : Int → Int → xG_ → Option (xG_)} {o31 : Nat → Int → Int → xj_M → Option (xj_M)}  (hr31 : ∀ {M : xj_M} {G : xG_} {x1 : Int} {x2 : Int} {R : xG_}, xRX m M0 M G → xin x1 → xin x2 → r31 x1 x2 G = some R → xok (o31 m x1 x2 M) (fun r => xRX m M0 r R)) (h : xRX m M0 M G) {x1 : Int} {x2 : Int} {R : xG_} (tx1 : xin x1) (tx2 : xin x2) (e : g218_31b  r31 f x1 x2 G = some R) : xok (f218_31b  o31 f m x1 x2 M) (fun r => xRX m M0 r R) := by
  unfold g218_31b at e
  unfold f218_31b
  obtain ⟨R119, e120, e⟩ := xbnd e
  refine xok_eqb (h.is (o := 0) (c := 15) (by decide) rfl) ?_
  refine xok_call (sg209 hI  h tx1 e120) ?_
  rintro ⟨v_, M123⟩ ⟨hv_, h121, hi122⟩
  cases hv_
  obtain ⟨R124, e125, e⟩ := xbnd e
  refine xok_call (sg208 hI  h121 hi122 e125) ?_
  rintro ⟨v_, M128⟩ ⟨hv_, h126, hi127⟩
  cases hv_
  refine xok_ite (fun c129 => ?_) (fun c129 => ?_)
  · rw [if_pos c129] at e
    exact s218_89 hI   h126 tx1 e
  · rw [if_neg c129] at e
    refine xok_ite (fun c130 => ?_) (fun c130 => ?_)
    · rw [if_pos c130] at e
      exact s218_54 hI  hr31 h126 tx1 tx2 e
    · rw [if_neg c130] at e
      refine xok_eqb (h126.gi (o := 0) (c := 15) (k := 4) (n := 107) (by decide) rfl (by decide) (by decide)) ?_
      refine xok_ite (fun c131 => ?_) (fun c131 => ?_)
      · rw [if_pos c131] at e
        exact s218_89 hI   h126 tx1 e
      · rw [if_neg c131] at e
        exact s218_54 hI  hr31 h126 tx1 tx2 e
theorem s218_31 {m f : Nat} {M0 : xj_M} (hI : xHI f)     : ∀ {n : Nat} {M : xj_M} {G : xG_} {x1 : Int} {x2 : Int} {R : xG_}, xRX m M0 M G → xin x1 → xin x2 → g218_31   f n x1 x2 G = some R → xok (f218_31   f n m x1 x2 M) (fun r => xRX m M0 r R) := by
  intro n
  induction n with
  | zero => intros; rename_i e; cases e
  | succ n ih =>
    intros
    rename_i h i0 i1 e
    exact s218_31b hI   ih h i0 i1 e
theorem s218_30 {m f : Nat} {M0 M : xj_M} {G : xG_} (hI : xHI f)     (h : xRX m M0 M G) {x1 : Int} {y0 : Int} {R : xG_} (tx1 : xin x1) (ty0 : xin y0) (e : g218_30   f x1 y0 G = some R) : xok (f218_30   f m x1 y0 M) (fun r => xRX m M0 r R) := by
  unfold g218_30 at e
  unfold f218_30
  exact s218_31 hI   h tx1 ty0 e
theorem sg218 {m f : Nat} {M0 M : xj_M} {G : xG_} (hI : xHI f)   (h : xRX m M0 M G)  {R : xG_}  (e : g218  f  G = some R) : xok (f218  f m M) (fun r => xRX m M0 r R) := by
  unfold g218 at e
  unfold f218
  obtain ⟨M132, q133, h134⟩ := h.pi (v := 5) (o := 0) (c := 15) (k := 2) (n := 107) (by decide) rfl (by decide) (by decide) (show xin (5) by decide)
  refine xok_eqb q133 ?_
  obtain ⟨G135, g1, e⟩ := xbnd e
  cases g1
  have h134_ : xRX m M0 M132 (xup2 G (0) 2 (5)) := h134
  generalize hGG135 : (xup2 G (0) 2 (5)) = G135 at e h134
  clear h134_ hGG135
  obtain ⟨M136, q137, h138⟩ := h134.pl (v := 0) (o := 0) (c := 15) (k := 9) (n := 107) (by decide) rfl (by decide) (by decide) (show xiN (0) by decide)
  refine xok_eqb q137 ?_
  obtain ⟨G139, g1, e⟩ := xbnd e
  cases g1
  have h138_ : xRX m M0 M136 (xup2 G135 (0) 9 (0)) := h138
  generalize hGG139 : (xup2 G135 (0) 9 (0)) = G139 at e h138
  clear h138_ hGG139
  refine xok_eqb (h138.gi (o := 0) (c := 15) (k := 4) (n := 107) (by decide) rfl (by decide) (by decide)) ?_
  obtain ⟨R140, e141, e⟩ := xbnd e
  refine xok_eqb (h138.is (o := 0) (c := 15) (by decide) rfl) ?_
  refine xok_call (sg209 hI  h138 (h138.gin (o := 0) (c := 15) (k := 4) (n := 107) (by decide) rfl (by decide) (by decide)) e141) ?_
  rintro ⟨v_, M144⟩ ⟨hv_, h142, hi143⟩
  cases hv_
  refine xok_ite (fun c145 => ?_) (fun c145 => ?_)
  · rw [if_pos c145] at e
    exact s218_30 hI   h142 (h138.gin (o := 0) (c := 15) (k := 4) (n := 107) (by decide) rfl (by decide) (by decide)) (show xin (0) by decide) e
  · rw [if_neg c145] at e
    exact s218_30 hI   h142 (h138.gin (o := 0) (c := 15) (k := 4) (n := 107) (by decide) rfl (by decide) (by decide)) (show xin (1) by decide) e
-- ChangeHouseModel.lexSign
theorem s219_145 {m f : Nat} {M0 M : xj_M} {G : xG_} (hI : xHI f)     (h : xRX m M0 M G)  {R : xG_}  (e : g219_145   f  G = some R) : xok (f219_145   f  M) (fun r => xRX m M0 r R) := by
  unfold g219_145 at e
  unfold f219_145
  cases e
  exact ⟨_, rfl, h⟩
theorem s219_115 {m f : Nat} {M0 M : xj_M} {G : xG_} (hI : xHI f)     (h : xRX m M0 M G) {x1 : Int} {R : xG_} (tx1 : xin x1) (e : g219_115   f x1 G = some R) : xok (f219_115   f m x1 M) (fun r => xRX m M0 r R) := by
  unfold g219_115 at e
  unfold f219_115
  obtain ⟨M101, q102, h103⟩ := h.pi (v := x1) (o := 0) (c := 15) (k := 3) (n := 107) (by decide) rfl (by decide) (by decide) tx1
  refine xok_eqb q102 ?_
  obtain ⟨G104, g1, e⟩ := xbnd e
  cases g1
  have h103_ : xRX m M0 M101 (xup2 G (0) 3 (x1)) := h103
  generalize hGG104 : (xup2 G (0) 3 (x1)) = G104 at e h103
  clear h103_ hGG104
  refine xok_eqb (h103.gi (o := 0) (c := 15) (k := 4) (n := 107) (by decide) rfl (by decide) (by decide)) ?_
  obtain ⟨M105, q106, h107⟩ := h103.pi (v := xwr ((G104 (0) 4) + (1))) (o := 0) (c := 15) (k := 5) (n := 107) (by decide) rfl (by decide) (by decide) (xin_wr _)
  refine xok_eqb q106 ?_
  obtain ⟨G108, g1, e⟩ := xbnd e
  cases g1
  have h107_ : xRX m M0 M105 (xup2 G104 (0) 5 (xwr ((G104 (0) 4) + (1)))) := h107
  generalize hGG108 : (xup2 G104 (0) 5 (xwr ((G104 (0) 4) + (1)))) = G108 at e h107
  clear h107_ hGG108
  refine xok_eqb (show xq_st 9 = some () from rfl) ?_
  refine xok_eqb (hI (xi2ch (x1)) _ (xin_of _)).1 ?_
  dsimp only
  refine xok_ite (fun c109 => ?_) (fun c109 => ?_)
  · rw [if_pos c109] at e
    exact s219_145 hI   h107  e
  · rw [if_neg c109] at e
    obtain ⟨M110, q111, h112⟩ := h107.pi (v := 1) (o := 0) (c := 15) (k := 2) (n := 107) (by decide) rfl (by decide) (by decide) (show xin (1) by decide)
    refine xok_eqb q111 ?_
    obtain ⟨G113, g1, e⟩ := xbnd e
    cases g1
    have h112_ : xRX m M0 M110 (xup2 G108 (0) 2 (1)) := h112
    generalize hGG113 : (xup2 G108 (0) 2 (1)) = G113 at e h112
    clear h112_ hGG113
    exact s219_145 hI   h112  e
theorem s219_93 {m f : Nat} {M0 M : xj_M} {G : xG_} (hI : xHI f)     (h : xRX m M0 M G) {x1 : Int} {x2 : Int} {R : xG_} (tx1 : xin x1) (tx2 : xin x2) (e : g219_93   f x1 x2 G = some R) : xok (f219_93   f m x1 x2 M) (fun r => xRX m M0 r R) := by
  unfold g219_93 at e
  unfold f219_93
  refine xok_ite (fun c114 => ?_) (fun c114 => ?_)
  · rw [if_pos c114] at e
    exact s219_115 hI   h tx1 e
  · rw [if_neg c114] at e
    refine xok_ite (fun c115 => ?_) (fun c115 => ?_)
    · rw [if_pos c115] at e
      exact s219_115 hI   h tx1 e
    · rw [if_neg c115] at e
      obtain ⟨M116, q117, h118⟩ := h.pi (v := 303) (o := 0) (c := 15) (k := 3) (n := 107) (by decide) rfl (by decide) (by decide) (show xin (303) by decide)
      refine xok_eqb q117 ?_
      obtain ⟨G119, g1, e⟩ := xbnd e
      cases g1
      have h118_ : xRX m M0 M116 (xup2 G (0) 3 (303)) := h118
      generalize hGG119 : (xup2 G (0) 3 (303)) = G119 at e h118
      clear h118_ hGG119
      exact s219_145 hI   h118  e
theorem s219_71 {m f : Nat} {M0 M : xj_M} {G : xG_} (hI : xHI f)     (h : xRX m M0 M G) {x1 : Int} {x2 : Int} {R : xG_} (tx1 : xin x1) (tx2 : xin x2) (e : g219_71   f x1 x2 G = some R) : xok (f219_71   f m x1 x2 M) (fun r => xRX m M0 r R) := by
  unfold g219_71 at e
  unfold f219_71
  refine xok_ite (fun c120 => ?_) (fun c120 => ?_)
  · rw [if_pos c120] at e
    exact s219_93 hI   h tx1 tx2 e
  · rw [if_neg c120] at e
    refine xok_ite (fun c121 => ?_) (fun c121 => ?_)
    · rw [if_pos c121] at e
      exact s219_93 hI   h tx1 tx2 e
    · rw [if_neg c121] at e
      obtain ⟨M122, q123, h124⟩ := h.pi (v := 302) (o := 0) (c := 15) (k := 3) (n := 107) (by decide) rfl (by decide) (by decide) (show xin (302) by decide)
      refine xok_eqb q123 ?_
      obtain ⟨G125, g1, e⟩ := xbnd e
      cases g1
      have h124_ : xRX m M0 M122 (xup2 G (0) 3 (302)) := h124
      generalize hGG125 : (xup2 G (0) 3 (302)) = G125 at e h124
      clear h124_ hGG125
      exact s219_145 hI   h124  e
theorem s219_49 {m f : Nat} {M0 M : xj_M} {G : xG_} (hI : xHI f)     (h : xRX m M0 M G) {x1 : Int} {x2 : Int} {R : xG_} (tx1 : xin x1) (tx2 : xin x2) (e : g219_49   f x1 x2 G = some R) : xok (f219_49   f m x1 x2 M) (fun r => xRX m M0 r R) := by
  unfold g219_49 at e
  unfold f219_49
  refine xok_ite (fun c126 => ?_) (fun c126 => ?_)
  · rw [if_pos c126] at e
    exact s219_71 hI   h tx1 tx2 e
  · rw [if_neg c126] at e
    refine xok_ite (fun c127 => ?_) (fun c127 => ?_)
    · rw [if_pos c127] at e
      exact s219_71 hI   h tx1 tx2 e
    · rw [if_neg c127] at e
      obtain ⟨M128, q129, h130⟩ := h.pi (v := 301) (o := 0) (c := 15) (k := 3) (n := 107) (by decide) rfl (by decide) (by decide) (show xin (301) by decide)
      refine xok_eqb q129 ?_
      obtain ⟨G131, g1, e⟩ := xbnd e
      cases g1
      have h130_ : xRX m M0 M128 (xup2 G (0) 3 (301)) := h130
      generalize hGG131 : (xup2 G (0) 3 (301)) = G131 at e h130
      clear h130_ hGG131
      exact s219_145 hI   h130  e
theorem sg219 {m f : Nat} {M0 M : xj_M} {G : xG_} (hI : xHI f)   (h : xRX m M0 M G) {a1 : Int} {R : xG_} (ta1 : xin a1) (e : g219  f a1 G = some R) : xok (f219  f m a1 M) (fun r => xRX m M0 r R) := by
  unfold g219 at e
  unfold f219
  refine xok_eqb (h.gi (o := 0) (c := 15) (k := 4) (n := 107) (by decide) rfl (by decide) (by decide)) ?_
  obtain ⟨R132, e133, e⟩ := xbnd e
  refine xok_eqb (h.is (o := 0) (c := 15) (by decide) rfl) ?_
  refine xok_call (sg209 hI  h (xin_wr _) e133) ?_
  rintro ⟨v_, M136⟩ ⟨hv_, h134, hi135⟩
  cases hv_
  obtain ⟨M137, q138, h139⟩ := h134.pi (v := 6) (o := 0) (c := 15) (k := 2) (n := 107) (by decide) rfl (by decide) (by decide) (show xin (6) by decide)
  refine xok_eqb q138 ?_
  obtain ⟨G140, g1, e⟩ := xbnd e
  cases g1
  have h139_ : xRX m M0 M137 (xup2 R132.2 (0) 2 (6)) := h139
  generalize hGG140 : (xup2 R132.2 (0) 2 (6)) = G140 at e h139
  clear h139_ hGG140
  refine xok_eqb (h139.gi (o := 0) (c := 15) (k := 4) (n := 107) (by decide) rfl (by decide) (by decide)) ?_
  obtain ⟨M141, q142, h143⟩ := h139.pi (v := xwr ((G140 (0) 4) + (2))) (o := 0) (c := 15) (k := 5) (n := 107) (by decide) rfl (by decide) (by decide) (xin_wr _)
  refine xok_eqb q142 ?_
  obtain ⟨G144, g1, e⟩ := xbnd e
  cases g1
  have h143_ : xRX m M0 M141 (xup2 G140 (0) 5 (xwr ((G140 (0) 4) + (2)))) := h143
  generalize hGG144 : (xup2 G140 (0) 5 (xwr ((G140 (0) 4) + (2)))) = G144 at e h143
  clear h143_ hGG144
  refine xok_ite (fun c145 => ?_) (fun c145 => ?_)
  · rw [if_pos c145] at e
    exact s219_49 hI   h143 ta1 hi135 e
  · rw [if_neg c145] at e
    refine xok_ite (fun c146 => ?_) (fun c146 => ?_)
    · rw [if_pos c146] at e
      exact s219_49 hI   h143 ta1 hi135 e
    · rw [if_neg c146] at e
      obtain ⟨M147, q148, h149⟩ := h143.pi (v := 300) (o := 0) (c := 15) (k := 3) (n := 107) (by decide) rfl (by decide) (by decide) (show xin (300) by decide)
      refine xok_eqb q148 ?_
      obtain ⟨G150, g1, e⟩ := xbnd e
      cases g1
      have h149_ : xRX m M0 M147 (xup2 G144 (0) 3 (300)) := h149
      generalize hGG150 : (xup2 G144 (0) 3 (300)) = G150 at e h149
      clear h149_ hGG150
      exact s219_145 hI   h149  e
-- ChangeHouseModel.isSign
theorem s220_29 {m f : Nat} {M0 M : xj_M} {G : xG_} (hI : xHI f)     (h : xRX m M0 M G) {y0 : Int} {R : Int × xG_} (ty0 : xin y0) (e : g220_29   f y0 G = some R) : xok (f220_29   f y0 M) (fun r => r.1 = R.1 ∧ xRX m M0 r.2 R.2 ∧ xin R.1) := by
  unfold g220_29 at e
  unfold f220_29
  refine xok_ite (fun c101 => ?_) (fun c101 => ?_)
  · rw [if_pos c101] at e; cases e; exact ⟨_, rfl, rfl, h, ty0⟩
  · rw [if_neg c101] at e; cases e
theorem s220_28 {m f : Nat} {M0 M : xj_M} {G : xG_} (hI : xHI f)     (h : xRX m M0 M G)  {R : Int × xG_}  (e : g220_28   f  G = some R) : xok (f220_28   f  M) (fun r => r.1 = R.1 ∧ xRX m M0 r.2 R.2 ∧ xin R.1) := by
  unfold g220_28 at e
  unfold f220_28
  exact s220_29 hI   h (show xin (0) by decide) e
theorem sg220 {m f : Nat} {M0 M : xj_M} {G : xG_} (hI : xHI f)   (h : xRX m M0 M G) {a1 : Int} {R : Int × xG_} (ta1 : xin a1) (e : g220  f a1 G = some R) : xok (f220  f m a1 M) (fun r => r.1 = R.1 ∧ xRX m M0 r.2 R.2 ∧ xin R.1) := by
  unfold g220 at e
  unfold f220
  obtain ⟨R102, e103, e⟩ := xbnd e
  refine xok_eqb (h.is (o := 0) (c := 15) (by decide) rfl) ?_
  refine xok_call (sg211 hI  h  e103) ?_
  rintro ⟨v_, M106⟩ ⟨hv_, h104, hi105⟩
  cases hv_
  refine xok_ite (fun c107 => ?_) (fun c107 => ?_)
  · rw [if_pos c107] at e
    exact s220_28 hI   h104  e
  · rw [if_neg c107] at e
    refine xok_eqb (h104.gi (o := 0) (c := 15) (k := 2) (n := 107) (by decide) rfl (by decide) (by decide)) ?_
    refine xok_ite (fun c108 => ?_) (fun c108 => ?_)
    · rw [if_pos c108] at e
      exact s220_28 hI   h104  e
    · rw [if_neg c108] at e
      refine xok_eqb (h104.gi (o := 0) (c := 15) (k := 3) (n := 107) (by decide) rfl (by decide) (by decide)) ?_
      refine xok_ite (fun c109 => ?_) (fun c109 => ?_)
      · rw [if_pos c109] at e
        exact s220_28 hI   h104  e
      · rw [if_neg c109] at e
        exact s220_29 hI   h104 (show xin (1) by decide) e
-- ChangeHouseModel.isKind
theorem s221_20 {m f : Nat} {M0 M : xj_M} {G : xG_} (hI : xHI f)     (h : xRX m M0 M G) {y0 : Int} {R : Int × xG_} (ty0 : xin y0) (e : g221_20   f y0 G = some R) : xok (f221_20   f y0 M) (fun r => r.1 = R.1 ∧ xRX m M0 r.2 R.2 ∧ xin R.1) := by
  unfold g221_20 at e
  unfold f221_20
  refine xok_ite (fun c101 => ?_) (fun c101 => ?_)
  · rw [if_pos c101] at e; cases e; exact ⟨_, rfl, rfl, h, ty0⟩
  · rw [if_neg c101] at e; cases e
theorem s221_19 {m f : Nat} {M0 M : xj_M} {G : xG_} (hI : xHI f)     (h : xRX m M0 M G)  {R : Int × xG_}  (e : g221_19   f  G = some R) : xok (f221_19   f  M) (fun r => r.1 = R.1 ∧ xRX m M0 r.2 R.2 ∧ xin R.1) := by
  unfold g221_19 at e
  unfold f221_19
  exact s221_20 hI   h (show xin (0) by decide) e
theorem sg221 {m f : Nat} {M0 M : xj_M} {G : xG_} (hI : xHI f)   (h : xRX m M0 M G) {a1 : Int} {R : Int × xG_} (ta1 : xin a1) (e : g221  f a1 G = some R) : xok (f221  f m a1 M) (fun r => r.1 = R.1 ∧ xRX m M0 r.2 R.2 ∧ xin R.1) := by
  unfold g221 at e
  unfold f221
  obtain ⟨R102, e103, e⟩ := xbnd e
  refine xok_eqb (h.is (o := 0) (c := 15) (by decide) rfl) ?_
  refine xok_call (sg211 hI  h  e103) ?_
  rintro ⟨v_, M106⟩ ⟨hv_, h104, hi105⟩
  cases hv_
  refine xok_ite (fun c107 => ?_) (fun c107 => ?_)
  · rw [if_pos c107] at e
    exact s221_19 hI   h104  e
  · rw [if_neg c107] at e
    refine xok_eqb (h104.gi (o := 0) (c := 15) (k := 2) (n := 107) (by decide) rfl (by decide) (by decide)) ?_
    refine xok_ite (fun c108 => ?_) (fun c108 => ?_)
    · rw [if_pos c108] at e
      exact s221_19 hI   h104  e
    · rw [if_neg c108] at e
      exact s221_20 hI   h104 (show xin (1) by decide) e
-- ChangeHouseModel.isReserved
theorem s224_77 {m f : Nat} {M0 M : xj_M} {G : xG_} (hI : xHI f)     (h : xRX m M0 M G) {y0 : Int} {R : Int × xG_} (ty0 : xin y0) (e : g224_77   f y0 G = some R) : xok (f224_77   f y0 M) (fun r => r.1 = R.1 ∧ xRX m M0 r.2 R.2 ∧ xin R.1) := by
  unfold g224_77 at e
  unfold f224_77
  refine xok_ite (fun c101 => ?_) (fun c101 => ?_)
  · rw [if_pos c101] at e; cases e; exact ⟨_, rfl, rfl, h, ty0⟩
  · rw [if_neg c101] at e; cases e
theorem s224_72 {m f : Nat} {M0 M : xj_M} {G : xG_} (hI : xHI f)     (h : xRX m M0 M G)  {R : Int × xG_}  (e : g224_72   f  G = some R) : xok (f224_72   f  M) (fun r => r.1 = R.1 ∧ xRX m M0 r.2 R.2 ∧ xin R.1) := by
  unfold g224_72 at e
  unfold f224_72
  exact s224_77 hI   h (show xin (1) by decide) e
theorem sg224 {m f : Nat} {M0 M : xj_M} {G : xG_} (hI : xHI f)   (h : xRX m M0 M G) {a1 : Int} {R : Int × xG_} (ta1 : xiN a1) (e : g224  f a1 G = some R) : xok (f224  f m a1 M) (fun r => r.1 = R.1 ∧ xRX m M0 r.2 R.2 ∧ xin R.1) := by
  unfold g224 at e
  unfold f224
  refine xok_eqb (h.gl (o := 0) (c := 15) (k := 12) (n := 107) (by decide) rfl (by decide) (by decide)) ?_
  refine xok_ite (fun c102 => ?_) (fun c102 => ?_)
  · rw [if_pos c102] at e
    exact s224_72 hI   h  e
  · rw [if_neg c102] at e
    refine xok_eqb (h.gl (o := 0) (c := 15) (k := 13) (n := 107) (by decide) rfl (by decide) (by decide)) ?_
    refine xok_ite (fun c103 => ?_) (fun c103 => ?_)
    · rw [if_pos c103] at e
      exact s224_72 hI   h  e
    · rw [if_neg c103] at e
      refine xok_eqb (h.gl (o := 0) (c := 15) (k := 14) (n := 107) (by decide) rfl (by decide) (by decide)) ?_
      refine xok_ite (fun c104 => ?_) (fun c104 => ?_)
      · rw [if_pos c104] at e
        exact s224_72 hI   h  e
      · rw [if_neg c104] at e
        refine xok_eqb (h.gl (o := 0) (c := 15) (k := 15) (n := 107) (by decide) rfl (by decide) (by decide)) ?_
        refine xok_ite (fun c105 => ?_) (fun c105 => ?_)
        · rw [if_pos c105] at e
          exact s224_72 hI   h  e
        · rw [if_neg c105] at e
          refine xok_eqb (h.gl (o := 0) (c := 15) (k := 16) (n := 107) (by decide) rfl (by decide) (by decide)) ?_
          refine xok_ite (fun c106 => ?_) (fun c106 => ?_)
          · rw [if_pos c106] at e
            exact s224_72 hI   h  e
          · rw [if_neg c106] at e
            refine xok_eqb (h.gl (o := 0) (c := 15) (k := 17) (n := 107) (by decide) rfl (by decide) (by decide)) ?_
            refine xok_ite (fun c107 => ?_) (fun c107 => ?_)
            · rw [if_pos c107] at e
              exact s224_72 hI   h  e
            · rw [if_neg c107] at e
              refine xok_eqb (h.gl (o := 0) (c := 15) (k := 18) (n := 107) (by decide) rfl (by decide) (by decide)) ?_
              refine xok_ite (fun c108 => ?_) (fun c108 => ?_)
              · rw [if_pos c108] at e
                exact s224_72 hI   h  e
              · rw [if_neg c108] at e
                refine xok_eqb (h.gl (o := 0) (c := 15) (k := 19) (n := 107) (by decide) rfl (by decide) (by decide)) ?_
                refine xok_ite (fun c109 => ?_) (fun c109 => ?_)
                · rw [if_pos c109] at e
                  exact s224_77 hI   h (show xin (0) by decide) e
                · rw [if_neg c109] at e
                  exact s224_72 hI   h  e
-- ChangeHouseModel.isWord
theorem s225_22 {m f : Nat} {M0 M : xj_M} {G : xG_} (hI : xHI f)     (h : xRX m M0 M G) {y0 : Int} {R : Int × xG_} (ty0 : xin y0) (e : g225_22   f y0 G = some R) : xok (f225_22   f y0 M) (fun r => r.1 = R.1 ∧ xRX m M0 r.2 R.2 ∧ xin R.1) := by
  unfold g225_22 at e
  unfold f225_22
  refine xok_ite (fun c101 => ?_) (fun c101 => ?_)
  · rw [if_pos c101] at e; cases e; exact ⟨_, rfl, rfl, h, ty0⟩
  · rw [if_neg c101] at e; cases e
theorem s225_21 {m f : Nat} {M0 M : xj_M} {G : xG_} (hI : xHI f)     (h : xRX m M0 M G)  {R : Int × xG_}  (e : g225_21   f  G = some R) : xok (f225_21   f  M) (fun r => r.1 = R.1 ∧ xRX m M0 r.2 R.2 ∧ xin R.1) := by
  unfold g225_21 at e
  unfold f225_21
  exact s225_22 hI   h (show xin (0) by decide) e
theorem sg225 {m f : Nat} {M0 M : xj_M} {G : xG_} (hI : xHI f)   (h : xRX m M0 M G) {a1 : Int} {R : Int × xG_} (ta1 : xiN a1) (e : g225  f a1 G = some R) : xok (f225  f m a1 M) (fun r => r.1 = R.1 ∧ xRX m M0 r.2 R.2 ∧ xin R.1) := by
  unfold g225 at e
  unfold f225
  obtain ⟨R102, e103, e⟩ := xbnd e
  refine xok_eqb (h.is (o := 0) (c := 15) (by decide) rfl) ?_
  refine xok_call (sg221 hI  h (show xin (2) by decide) e103) ?_
  rintro ⟨v_, M106⟩ ⟨hv_, h104, hi105⟩
  cases hv_
  refine xok_ite (fun c107 => ?_) (fun c107 => ?_)
  · rw [if_pos c107] at e
    exact s225_21 hI   h104  e
  · rw [if_neg c107] at e
    refine xok_eqb (h104.gl (o := 0) (c := 15) (k := 9) (n := 107) (by decide) rfl (by decide) (by decide)) ?_
    refine xok_ite (fun c108 => ?_) (fun c108 => ?_)
    · rw [if_pos c108] at e
      exact s225_21 hI   h104  e
    · rw [if_neg c108] at e
      exact s225_22 hI   h104 (show xin (1) by decide) e
-- ChangeHouseModel.isName
theorem s226_24 {m f : Nat} {M0 M : xj_M} {G : xG_} (hI : xHI f)     (h : xRX m M0 M G) {y0 : Int} {R : Int × xG_} (ty0 : xin y0) (e : g226_24   f y0 G = some R) : xok (f226_24   f y0 M) (fun r => r.1 = R.1 ∧ xRX m M0 r.2 R.2 ∧ xin R.1) := by
  unfold g226_24 at e
  unfold f226_24
  refine xok_ite (fun c101 => ?_) (fun c101 => ?_)
  · rw [if_pos c101] at e; cases e; exact ⟨_, rfl, rfl, h, ty0⟩
  · rw [if_neg c101] at e; cases e
theorem s226_23 {m f : Nat} {M0 M : xj_M} {G : xG_} (hI : xHI f)     (h : xRX m M0 M G)  {R : Int × xG_}  (e : g226_23   f  G = some R) : xok (f226_23   f  M) (fun r => r.1 = R.1 ∧ xRX m M0 r.2 R.2 ∧ xin R.1) := by
  unfold g226_23 at e
  unfold f226_23
  exact s226_24 hI   h (show xin (0) by decide) e
theorem sg226 {m f : Nat} {M0 M : xj_M} {G : xG_} (hI : xHI f)   (h : xRX m M0 M G)  {R : Int × xG_}  (e : g226  f  G = some R) : xok (f226  f m M) (fun r => r.1 = R.1 ∧ xRX m M0 r.2 R.2 ∧ xin R.1) := by
  unfold g226 at e
  unfold f226
  obtain ⟨R102, e103, e⟩ := xbnd e
  refine xok_eqb (h.is (o := 0) (c := 15) (by decide) rfl) ?_
  refine xok_call (sg221 hI  h (show xin (2) by decide) e103) ?_
  rintro ⟨v_, M106⟩ ⟨hv_, h104, hi105⟩
  cases hv_
  refine xok_ite (fun c107 => ?_) (fun c107 => ?_)
  · rw [if_pos c107] at e
    exact s226_23 hI   h104  e
  · rw [if_neg c107] at e
    refine xok_eqb (h104.gl (o := 0) (c := 15) (k := 9) (n := 107) (by decide) rfl (by decide) (by decide)) ?_
    obtain ⟨R108, e109, e⟩ := xbnd e
    refine xok_eqb (h104.is (o := 0) (c := 15) (by decide) rfl) ?_
    refine xok_call (sg224 hI  h104 (h104.gln (o := 0) (c := 15) (k := 9) (n := 107) (by decide) rfl (by decide) (by decide)) e109) ?_
    rintro ⟨v_, M112⟩ ⟨hv_, h110, hi111⟩
    cases hv_
    refine xok_ite (fun c113 => ?_) (fun c113 => ?_)
    · rw [if_pos c113] at e
      exact s226_23 hI   h110  e
    · rw [if_neg c113] at e
      exact s226_24 hI   h110 (show xin (1) by decide) e
-- ChangeHouseModel.clear
theorem s228_22b {m f : Nat} {M0 M : xj_M} {G : xG_} (hI : xHI f)  {r22 : Nat → Int → xG_ → Option (xG_)} {o22 : Nat → Nat → Int → xj_M → Option (xj_M)}  (hr22 : ∀ {M : xj_M} {G : xG_} {x1 : Nat} {x2 : Int} {R : xG_}, xRX m M0 M G → xoP x1 → xin x2 → r22 x1 x2 G = some R → xok (o22 m (m + x1) x2 M) (fun r => xRX m M0 r R)) (h : xRX m M0 M G) {x1 : Nat} {x2 : Int} {R : xG_} (tx1 : xoP x1) (tx2 : xin x2) (e : g228_22b  r22 f x1 x2 G = some R) : xok (f228_22b  o22 f m (m + x1) x2 M) (fun r => xRX m M0 r R) := by
  unfold g228_22b at e
  unfold f228_22b
  refine xok_ite (fun c101 => ?_) (fun c101 => ?_)
  · rw [if_pos c101] at e
    obtain ⟨M102, q103, h104⟩ := h.pitp tx1
    refine xok_eqb q103 ?_
    obtain ⟨G105, g1, e⟩ := xbnd e
    cases g1
    have h104_ : xRX m M0 M102 (xup2 G (0) 22 (((x1 : Nat) : Int))) := h104
    generalize hGG105 : (xup2 G (0) 22 (((x1 : Nat) : Int))) = G105 at e h104
    clear h104_ hGG105
    cases e
    exact ⟨_, rfl, h104⟩
  · rw [if_neg c101] at e
    refine xok_eqb (h.pt (o := x1) (c := 14) (k := 1) (t := x1 + 2) (n := 38) (xoP_o tx1).1 (xoP_o tx1).2 (by decide) (xoP_all tx1 (Q := fun p => (p, 1, p + 2) ∈ xl_P) (by decide +kernel) (by decide +kernel) (by decide +kernel))) ?_
    by_cases c106 : 0 ≤ (x2) ∧ (x2) < 16
    · skip
      rw [if_pos c106] at e
      obtain ⟨M107, q108, h109⟩ := h.si (o := x1 + 2) (n := 16) (v := 0) (xoP_all tx1 (Q := fun p => p + 2 < 276) (by decide) (by decide) (by decide)) (xoP_all tx1 (Q := fun p => xl_t (p + 2) = (2, 3, 16)) rfl rfl rfl) c106.1 c106.2 (show xin (0) by decide)
      refine xok_eqb q108 ?_
      obtain ⟨G110, g1, e⟩ := xbnd e
      cases g1
      have h109_ : xRX m M0 M107 (xup2 G (x1 + 2) (x2).toNat (0)) := h109
      generalize hGG110 : (xup2 G (x1 + 2) (x2).toNat (0)) = G110 at e h109
      clear h109_ hGG110
      refine xok_eqb (h109.pt (o := x1) (c := 14) (k := 2) (t := x1 + 3) (n := 38) (xoP_o tx1).1 (xoP_o tx1).2 (by decide) (xoP_all tx1 (Q := fun p => (p, 2, p + 3) ∈ xl_P) (by decide +kernel) (by decide +kernel) (by decide +kernel))) ?_
      by_cases c111 : 0 ≤ (x2) ∧ (x2) < 16
      · skip
        rw [if_pos c111] at e
        obtain ⟨M112, q113, h114⟩ := h109.si (o := x1 + 3) (n := 16) (v := 0) (xoP_all tx1 (Q := fun p => p + 3 < 276) (by decide) (by decide) (by decide)) (xoP_all tx1 (Q := fun p => xl_t (p + 3) = (2, 3, 16)) rfl rfl rfl) c111.1 c111.2 (show xin (0) by decide)
        refine xok_eqb q113 ?_
        obtain ⟨G115, g1, e⟩ := xbnd e
        cases g1
        have h114_ : xRX m M0 M112 (xup2 G110 (x1 + 3) (x2).toNat (0)) := h114
        generalize hGG115 : (xup2 G110 (x1 + 3) (x2).toNat (0)) = G115 at e h114
        clear h114_ hGG115
        refine xok_eqb (h114.pt (o := x1) (c := 14) (k := 5) (t := x1 + 6) (n := 38) (xoP_o tx1).1 (xoP_o tx1).2 (by decide) (xoP_all tx1 (Q := fun p => (p, 5, p + 6) ∈ xl_P) (by decide +kernel) (by decide +kernel) (by decide +kernel))) ?_
        by_cases c116 : 0 ≤ (x2) ∧ (x2) < 16
        · skip
          rw [if_pos c116] at e
          obtain ⟨M117, q118, h119⟩ := h114.sb0 (o := x1 + 6) (n := 16) (v := 0) (xoP_all tx1 (Q := fun p => p + 6 < 276) (by decide) (by decide) (by decide)) (xoP_all tx1 (Q := fun p => xl_t (p + 6) = (2, 0, 16)) rfl rfl rfl) c116.1 c116.2 (by decide)
          refine xok_eqb q118 ?_
          obtain ⟨G120, g1, e⟩ := xbnd e
          cases g1
          have h119_ : xRX m M0 M117 (xup2 G115 (x1 + 6) (x2).toNat (0)) := h119
          generalize hGG120 : (xup2 G115 (x1 + 6) (x2).toNat (0)) = G120 at e h119
          clear h119_ hGG120
          refine xok_eqb (h119.pt (o := x1) (c := 14) (k := 6) (t := x1 + 7) (n := 38) (xoP_o tx1).1 (xoP_o tx1).2 (by decide) (xoP_all tx1 (Q := fun p => (p, 6, p + 7) ∈ xl_P) (by decide +kernel) (by decide +kernel) (by decide +kernel))) ?_
          by_cases c121 : 0 ≤ (x2) ∧ (x2) < 16
          · skip
            rw [if_pos c121] at e
            obtain ⟨M122, q123, h124⟩ := h119.sb0 (o := x1 + 7) (n := 16) (v := 0) (xoP_all tx1 (Q := fun p => p + 7 < 276) (by decide) (by decide) (by decide)) (xoP_all tx1 (Q := fun p => xl_t (p + 7) = (2, 0, 16)) rfl rfl rfl) c121.1 c121.2 (by decide)
            refine xok_eqb q123 ?_
            obtain ⟨G125, g1, e⟩ := xbnd e
            cases g1
            have h124_ : xRX m M0 M122 (xup2 G120 (x1 + 7) (x2).toNat (0)) := h124
            generalize hGG125 : (xup2 G120 (x1 + 7) (x2).toNat (0)) = G125 at e h124
            clear h124_ hGG125
            refine xok_eqb (h124.pt (o := x1) (c := 14) (k := 7) (t := x1 + 8) (n := 38) (xoP_o tx1).1 (xoP_o tx1).2 (by decide) (xoP_all tx1 (Q := fun p => (p, 7, p + 8) ∈ xl_P) (by decide +kernel) (by decide +kernel) (by decide +kernel))) ?_
            by_cases c126 : 0 ≤ (x2) ∧ (x2) < 16
            · skip
              rw [if_pos c126] at e
              obtain ⟨M127, q128, h129⟩ := h124.sb0 (o := x1 + 8) (n := 16) (v := 0) (xoP_all tx1 (Q := fun p => p + 8 < 276) (by decide) (by decide) (by decide)) (xoP_all tx1 (Q := fun p => xl_t (p + 8) = (2, 0, 16)) rfl rfl rfl) c126.1 c126.2 (by decide)
              refine xok_eqb q128 ?_
              obtain ⟨G130, g1, e⟩ := xbnd e
              cases g1
              have h129_ : xRX m M0 M127 (xup2 G125 (x1 + 8) (x2).toNat (0)) := h129
              generalize hGG130 : (xup2 G125 (x1 + 8) (x2).toNat (0)) = G130 at e h129
              clear h129_ hGG130
              exact hr22 h129 tx1 (xin_wr _) e
            · rw [if_neg c126] at e; cases e
          · rw [if_neg c121] at e; cases e
        · rw [if_neg c116] at e; cases e
      · rw [if_neg c111] at e; cases e
    · rw [if_neg c106] at e; cases e
theorem s228_22 {m f : Nat} {M0 : xj_M} (hI : xHI f)     : ∀ {n : Nat} {M : xj_M} {G : xG_} {x1 : Nat} {x2 : Int} {R : xG_}, xRX m M0 M G → xoP x1 → xin x2 → g228_22   f n x1 x2 G = some R → xok (f228_22   f n m (m + x1) x2 M) (fun r => xRX m M0 r R) := by
  intro n
  induction n with
  | zero => intros; rename_i e; cases e
  | succ n ih =>
    intros
    rename_i h i0 i1 e
    exact s228_22b hI   ih h i0 i1 e
theorem sg228 {m f : Nat} {M0 M : xj_M} {G : xG_} (hI : xHI f)   (h : xRX m M0 M G) {a1 : Nat} {R : xG_} (ta1 : xoP a1) (e : g228  f a1 G = some R) : xok (f228  f m (m + a1) M) (fun r => xRX m M0 r R) := by
  unfold g228 at e
  unfold f228
  obtain ⟨M131, q132, h133⟩ := h.pi (v := 0) (o := a1) (c := 14) (k := 8) (n := 38) (xoP_o ta1).1 (xoP_o ta1).2 (by decide) (by decide) (show xin (0) by decide)
  refine xok_eqb q132 ?_
  obtain ⟨G134, g1, e⟩ := xbnd e
  cases g1
  have h133_ : xRX m M0 M131 (xup2 G (a1) 8 (0)) := h133
  generalize hGG134 : (xup2 G (a1) 8 (0)) = G134 at e h133
  clear h133_ hGG134
  obtain ⟨M135, q136, h137⟩ := h133.pi (v := 0) (o := a1) (c := 14) (k := 9) (n := 38) (xoP_o ta1).1 (xoP_o ta1).2 (by decide) (by decide) (show xin (0) by decide)
  refine xok_eqb q136 ?_
  obtain ⟨G138, g1, e⟩ := xbnd e
  cases g1
  have h137_ : xRX m M0 M135 (xup2 G134 (a1) 9 (0)) := h137
  generalize hGG138 : (xup2 G134 (a1) 9 (0)) = G138 at e h137
  clear h137_ hGG138
  obtain ⟨M139, q140, h141⟩ := h137.pi (v := 0) (o := a1) (c := 14) (k := 14) (n := 38) (xoP_o ta1).1 (xoP_o ta1).2 (by decide) (by decide) (show xin (0) by decide)
  refine xok_eqb q140 ?_
  obtain ⟨G142, g1, e⟩ := xbnd e
  cases g1
  have h141_ : xRX m M0 M139 (xup2 G138 (a1) 14 (0)) := h141
  generalize hGG142 : (xup2 G138 (a1) 14 (0)) = G142 at e h141
  clear h141_ hGG142
  obtain ⟨M143, q144, h145⟩ := h141.pi (v := 0) (o := a1) (c := 14) (k := 37) (n := 38) (xoP_o ta1).1 (xoP_o ta1).2 (by decide) (by decide) (show xin (0) by decide)
  refine xok_eqb q144 ?_
  obtain ⟨G146, g1, e⟩ := xbnd e
  cases g1
  have h145_ : xRX m M0 M143 (xup2 G142 (a1) 37 (0)) := h145
  generalize hGG146 : (xup2 G142 (a1) 37 (0)) = G146 at e h145
  clear h145_ hGG146
  exact s228_22 hI   h145 ta1 (show xin (0) by decide) e
-- ChangeHouseModel.mention
theorem sg229 {m f : Nat} {M0 M : xj_M} {G : xG_} (hI : xHI f)   (h : xRX m M0 M G) {a1 : Int} {a2 : Int} {a3 : Int} {a4 : Int} {R : xG_} (ta1 : xin a1) (ta2 : xin a2) (ta3 : xin a3) (ta4 : xin a4) (e : g229  f a1 a2 a3 a4 G = some R) : xok (f229  f m a1 a2 a3 a4 M) (fun r => xRX m M0 r R) := by
  unfold g229 at e
  unfold f229
  by_cases c101 : G 0 22 < 0
  · rw [if_pos c101] at e; cases e
  rw [if_neg c101] at e
  refine xok_eqb (h.itp c101) ?_
  refine xok_eqb (h.gi (o := (G 0 22).toNat) (c := 14) (k := 14) (n := 38) (xoP_o (h.itt c101)).1 (xoP_o (h.itt c101)).2 (by decide) (by decide)) ?_
  refine xok_ite (fun c102 => ?_) (fun c102 => ?_)
  · rw [if_pos c102] at e
    by_cases c103 : G 0 22 < 0
    · rw [if_pos c103] at e; cases e
    rw [if_neg c103] at e
    refine xok_eqb (h.itp c103) ?_
    refine xok_eqb (h.pt (o := (G 0 22).toNat) (c := 14) (k := 10) (t := (G 0 22).toNat + 9) (n := 38) (xoP_o (h.itt c103)).1 (xoP_o (h.itt c103)).2 (by decide) (xoP_all (h.itt c103) (Q := fun p => (p, 10, p + 9) ∈ xl_P) (by decide +kernel) (by decide +kernel) (by decide +kernel))) ?_
    by_cases c104 : G 0 22 < 0
    · rw [if_pos c104] at e; cases e
    rw [if_neg c104] at e
    refine xok_eqb (h.itp c104) ?_
    refine xok_eqb (h.gi (o := (G 0 22).toNat) (c := 14) (k := 14) (n := 38) (xoP_o (h.itt c104)).1 (xoP_o (h.itt c104)).2 (by decide) (by decide)) ?_
    by_cases c105 : 0 ≤ (G ((G 0 22).toNat) 14) ∧ (G ((G 0 22).toNat) 14) < 420
    · skip
      rw [if_pos c105] at e
      obtain ⟨M106, q107, h108⟩ := h.si (o := (G 0 22).toNat + 9) (n := 420) (v := a1) (xoP_all (h.itt c103) (Q := fun p => p + 9 < 276) (by decide) (by decide) (by decide)) (xoP_all (h.itt c103) (Q := fun p => xl_t (p + 9) = (2, 3, 420)) rfl rfl rfl) c105.1 c105.2 ta1
      refine xok_eqb q107 ?_
      obtain ⟨G109, g1, e⟩ := xbnd e
      cases g1
      have h108_ : xRX m M0 M106 (xup2 G ((G 0 22).toNat + 9) (G ((G 0 22).toNat) 14).toNat (a1)) := h108
      generalize hGG109 : (xup2 G ((G 0 22).toNat + 9) (G ((G 0 22).toNat) 14).toNat (a1)) = G109 at e h108
      clear h108_ hGG109
      by_cases c110 : G109 0 22 < 0
      · rw [if_pos c110] at e; cases e
      rw [if_neg c110] at e
      refine xok_eqb (h108.itp c110) ?_
      refine xok_eqb (h108.pt (o := (G109 0 22).toNat) (c := 14) (k := 11) (t := (G109 0 22).toNat + 10) (n := 38) (xoP_o (h108.itt c110)).1 (xoP_o (h108.itt c110)).2 (by decide) (xoP_all (h108.itt c110) (Q := fun p => (p, 11, p + 10) ∈ xl_P) (by decide +kernel) (by decide +kernel) (by decide +kernel))) ?_
      by_cases c111 : G109 0 22 < 0
      · rw [if_pos c111] at e; cases e
      rw [if_neg c111] at e
      refine xok_eqb (h108.itp c111) ?_
      refine xok_eqb (h108.gi (o := (G109 0 22).toNat) (c := 14) (k := 14) (n := 38) (xoP_o (h108.itt c111)).1 (xoP_o (h108.itt c111)).2 (by decide) (by decide)) ?_
      by_cases c112 : 0 ≤ (G109 ((G109 0 22).toNat) 14) ∧ (G109 ((G109 0 22).toNat) 14) < 420
      · skip
        rw [if_pos c112] at e
        obtain ⟨M113, q114, h115⟩ := h108.si (o := (G109 0 22).toNat + 10) (n := 420) (v := a2) (xoP_all (h108.itt c110) (Q := fun p => p + 10 < 276) (by decide) (by decide) (by decide)) (xoP_all (h108.itt c110) (Q := fun p => xl_t (p + 10) = (2, 3, 420)) rfl rfl rfl) c112.1 c112.2 ta2
        refine xok_eqb q114 ?_
        obtain ⟨G116, g1, e⟩ := xbnd e
        cases g1
        have h115_ : xRX m M0 M113 (xup2 G109 ((G109 0 22).toNat + 10) (G109 ((G109 0 22).toNat) 14).toNat (a2)) := h115
        generalize hGG116 : (xup2 G109 ((G109 0 22).toNat + 10) (G109 ((G109 0 22).toNat) 14).toNat (a2)) = G116 at e h115
        clear h115_ hGG116
        by_cases c117 : G116 0 22 < 0
        · rw [if_pos c117] at e; cases e
        rw [if_neg c117] at e
        refine xok_eqb (h115.itp c117) ?_
        refine xok_eqb (h115.pt (o := (G116 0 22).toNat) (c := 14) (k := 12) (t := (G116 0 22).toNat + 11) (n := 38) (xoP_o (h115.itt c117)).1 (xoP_o (h115.itt c117)).2 (by decide) (xoP_all (h115.itt c117) (Q := fun p => (p, 12, p + 11) ∈ xl_P) (by decide +kernel) (by decide +kernel) (by decide +kernel))) ?_
        by_cases c118 : G116 0 22 < 0
        · rw [if_pos c118] at e; cases e
        rw [if_neg c118] at e
        refine xok_eqb (h115.itp c118) ?_
        refine xok_eqb (h115.gi (o := (G116 0 22).toNat) (c := 14) (k := 14) (n := 38) (xoP_o (h115.itt c118)).1 (xoP_o (h115.itt c118)).2 (by decide) (by decide)) ?_
        by_cases c119 : 0 ≤ (G116 ((G116 0 22).toNat) 14) ∧ (G116 ((G116 0 22).toNat) 14) < 420
        · skip
          rw [if_pos c119] at e
          obtain ⟨M120, q121, h122⟩ := h115.si (o := (G116 0 22).toNat + 11) (n := 420) (v := a3) (xoP_all (h115.itt c117) (Q := fun p => p + 11 < 276) (by decide) (by decide) (by decide)) (xoP_all (h115.itt c117) (Q := fun p => xl_t (p + 11) = (2, 3, 420)) rfl rfl rfl) c119.1 c119.2 ta3
          refine xok_eqb q121 ?_
          obtain ⟨G123, g1, e⟩ := xbnd e
          cases g1
          have h122_ : xRX m M0 M120 (xup2 G116 ((G116 0 22).toNat + 11) (G116 ((G116 0 22).toNat) 14).toNat (a3)) := h122
          generalize hGG123 : (xup2 G116 ((G116 0 22).toNat + 11) (G116 ((G116 0 22).toNat) 14).toNat (a3)) = G123 at e h122
          clear h122_ hGG123
          by_cases c124 : G123 0 22 < 0
          · rw [if_pos c124] at e; cases e
          rw [if_neg c124] at e
          refine xok_eqb (h122.itp c124) ?_
          refine xok_eqb (h122.pt (o := (G123 0 22).toNat) (c := 14) (k := 13) (t := (G123 0 22).toNat + 12) (n := 38) (xoP_o (h122.itt c124)).1 (xoP_o (h122.itt c124)).2 (by decide) (xoP_all (h122.itt c124) (Q := fun p => (p, 13, p + 12) ∈ xl_P) (by decide +kernel) (by decide +kernel) (by decide +kernel))) ?_
          by_cases c125 : G123 0 22 < 0
          · rw [if_pos c125] at e; cases e
          rw [if_neg c125] at e
          refine xok_eqb (h122.itp c125) ?_
          refine xok_eqb (h122.gi (o := (G123 0 22).toNat) (c := 14) (k := 14) (n := 38) (xoP_o (h122.itt c125)).1 (xoP_o (h122.itt c125)).2 (by decide) (by decide)) ?_
          by_cases c126 : 0 ≤ (G123 ((G123 0 22).toNat) 14) ∧ (G123 ((G123 0 22).toNat) 14) < 420
          · skip
            rw [if_pos c126] at e
            obtain ⟨M127, q128, h129⟩ := h122.si (o := (G123 0 22).toNat + 12) (n := 420) (v := a4) (xoP_all (h122.itt c124) (Q := fun p => p + 12 < 276) (by decide) (by decide) (by decide)) (xoP_all (h122.itt c124) (Q := fun p => xl_t (p + 12) = (2, 3, 420)) rfl rfl rfl) c126.1 c126.2 ta4
            refine xok_eqb q128 ?_
            obtain ⟨G130, g1, e⟩ := xbnd e
            cases g1
            have h129_ : xRX m M0 M127 (xup2 G123 ((G123 0 22).toNat + 12) (G123 ((G123 0 22).toNat) 14).toNat (a4)) := h129
            generalize hGG130 : (xup2 G123 ((G123 0 22).toNat + 12) (G123 ((G123 0 22).toNat) 14).toNat (a4)) = G130 at e h129
            clear h129_ hGG130
            by_cases c131 : G130 0 22 < 0
            · rw [if_pos c131] at e; cases e
            rw [if_neg c131] at e
            refine xok_eqb (h129.itp c131) ?_
            refine xok_eqb (h129.gi (o := (G130 0 22).toNat) (c := 14) (k := 14) (n := 38) (xoP_o (h129.itt c131)).1 (xoP_o (h129.itt c131)).2 (by decide) (by decide)) ?_
            obtain ⟨M132, q133, h134⟩ := h129.pi (v := xwr ((G130 ((G130 0 22).toNat) 14) + (1))) (o := (G130 0 22).toNat) (c := 14) (k := 14) (n := 38) (xoP_o (h129.itt c131)).1 (xoP_o (h129.itt c131)).2 (by decide) (by decide) (xin_wr _)
            refine xok_eqb q133 ?_
            obtain ⟨G135, g1, e⟩ := xbnd e
            cases g1
            have h134_ : xRX m M0 M132 (xup2 G130 ((G130 0 22).toNat) 14 (xwr ((G130 ((G130 0 22).toNat) 14) + (1)))) := h134
            generalize hGG135 : (xup2 G130 ((G130 0 22).toNat) 14 (xwr ((G130 ((G130 0 22).toNat) 14) + (1)))) = G135 at e h134
            clear h134_ hGG135
            cases e
            exact ⟨_, rfl, h134⟩
          · rw [if_neg c126] at e; cases e
        · rw [if_neg c119] at e; cases e
      · rw [if_neg c112] at e; cases e
    · rw [if_neg c105] at e; cases e
  · rw [if_neg c102] at e
    cases e
    exact ⟨_, rfl, h⟩
-- ChangeHouseModel.predicate
theorem sg230 {m f : Nat} {M0 M : xj_M} {G : xG_} (hI : xHI f)   (h : xRX m M0 M G) {a1 : Int} {a2 : Int} {R : Int × xG_} (ta1 : xiN a1) (ta2 : xin a2) (e : g230  f a1 a2 G = some R) : xok (f230  f m a1 a2 M) (fun r => r.1 = R.1 ∧ xRX m M0 r.2 R.2 ∧ xin R.1) := by
  unfold g230 at e
  unfold f230
  by_cases c101 : G 0 22 < 0
  · rw [if_pos c101] at e; cases e
  rw [if_neg c101] at e
  refine xok_eqb (h.itp c101) ?_
  obtain ⟨R102, e103, e⟩ := xbnd e
  refine xok_eqb (h.is (o := (G 0 22).toNat) (c := 14) (xoP_o (h.itt c101)).1 (xoP_o (h.itt c101)).2) ?_
  refine xok_call (sg205 hI  h (h.itt c101) ta1 e103) ?_
  rintro ⟨v_, M106⟩ ⟨hv_, h104, hi105⟩
  cases hv_
  refine xok_ite (fun c107 => ?_) (fun c107 => ?_)
  · rw [if_pos c107] at e
    by_cases c108 : R102.2 0 22 < 0
    · rw [if_pos c108] at e; cases e
    rw [if_neg c108] at e
    refine xok_eqb (h104.itp c108) ?_
    refine xok_eqb (h104.gi (o := (R102.2 0 22).toNat) (c := 14) (k := 8) (n := 38) (xoP_o (h104.itt c108)).1 (xoP_o (h104.itt c108)).2 (by decide) (by decide)) ?_
    refine xok_ite (fun c109 => ?_) (fun c109 => ?_)
    · rw [if_pos c109] at e
      by_cases c110 : R102.2 0 22 < 0
      · rw [if_pos c110] at e; cases e
      rw [if_neg c110] at e
      refine xok_eqb (h104.itp c110) ?_
      refine xok_eqb (h104.pt (o := (R102.2 0 22).toNat) (c := 14) (k := 0) (t := (R102.2 0 22).toNat + 1) (n := 38) (xoP_o (h104.itt c110)).1 (xoP_o (h104.itt c110)).2 (by decide) (xoP_all (h104.itt c110) (Q := fun p => (p, 0, p + 1) ∈ xl_P) (by decide +kernel) (by decide +kernel) (by decide +kernel))) ?_
      by_cases c111 : R102.2 0 22 < 0
      · rw [if_pos c111] at e; cases e
      rw [if_neg c111] at e
      refine xok_eqb (h104.itp c111) ?_
      refine xok_eqb (h104.gi (o := (R102.2 0 22).toNat) (c := 14) (k := 8) (n := 38) (xoP_o (h104.itt c111)).1 (xoP_o (h104.itt c111)).2 (by decide) (by decide)) ?_
      by_cases c112 : 0 ≤ (R102.2 ((R102.2 0 22).toNat) 8) ∧ (R102.2 ((R102.2 0 22).toNat) 8) < 16
      · skip
        rw [if_pos c112] at e
        obtain ⟨M113, q114, h115⟩ := h104.sl (o := (R102.2 0 22).toNat + 1) (n := 16) (v := a1) (xoP_all (h104.itt c110) (Q := fun p => p + 1 < 276) (by decide) (by decide) (by decide)) (xoP_all (h104.itt c110) (Q := fun p => xl_t (p + 1) = (2, 4, 16)) rfl rfl rfl) c112.1 c112.2 ta1
        refine xok_eqb q114 ?_
        obtain ⟨G116, g1, e⟩ := xbnd e
        cases g1
        have h115_ : xRX m M0 M113 (xup2 R102.2 ((R102.2 0 22).toNat + 1) (R102.2 ((R102.2 0 22).toNat) 8).toNat (a1)) := h115
        generalize hGG116 : (xup2 R102.2 ((R102.2 0 22).toNat + 1) (R102.2 ((R102.2 0 22).toNat) 8).toNat (a1)) = G116 at e h115
        clear h115_ hGG116
        by_cases c117 : G116 0 22 < 0
        · rw [if_pos c117] at e; cases e
        rw [if_neg c117] at e
        refine xok_eqb (h115.itp c117) ?_
        refine xok_eqb (h115.gi (o := (G116 0 22).toNat) (c := 14) (k := 8) (n := 38) (xoP_o (h115.itt c117)).1 (xoP_o (h115.itt c117)).2 (by decide) (by decide)) ?_
        obtain ⟨M118, q119, h120⟩ := h115.pi (v := xwr ((G116 ((G116 0 22).toNat) 8) + (1))) (o := (G116 0 22).toNat) (c := 14) (k := 8) (n := 38) (xoP_o (h115.itt c117)).1 (xoP_o (h115.itt c117)).2 (by decide) (by decide) (xin_wr _)
        refine xok_eqb q119 ?_
        obtain ⟨G121, g1, e⟩ := xbnd e
        cases g1
        have h120_ : xRX m M0 M118 (xup2 G116 ((G116 0 22).toNat) 8 (xwr ((G116 ((G116 0 22).toNat) 8) + (1)))) := h120
        generalize hGG121 : (xup2 G116 ((G116 0 22).toNat) 8 (xwr ((G116 ((G116 0 22).toNat) 8) + (1)))) = G121 at e h120
        clear h120_ hGG121
        by_cases c122 : G121 0 22 < 0
        · rw [if_pos c122] at e; cases e
        rw [if_neg c122] at e
        refine xok_eqb (h120.itp c122) ?_
        refine xok_eqb (h120.gi (o := (G121 0 22).toNat) (c := 14) (k := 8) (n := 38) (xoP_o (h120.itt c122)).1 (xoP_o (h120.itt c122)).2 (by decide) (by decide)) ?_
        cases e
        exact ⟨_, rfl, rfl, h120, (xin_wr _)⟩
      · rw [if_neg c112] at e; cases e
    · rw [if_neg c109] at e
      obtain ⟨R123, e124, e⟩ := xbnd e
      refine xok_eqb (h104.is (o := 0) (c := 15) (by decide) rfl) ?_
      refine xok_call (sg210 hI  h104 ta2 e124) ?_
      intro M127 h125
      cases e
      exact ⟨_, rfl, rfl, h125, (show xin (-1) by decide)⟩
  · rw [if_neg c107] at e
    cases e
    exact ⟨_, rfl, rfl, h104, hi105⟩
-- ChangeHouseModel.needName
theorem sg232 {m f : Nat} {M0 M : xj_M} {G : xG_} (hI : xHI f)   (h : xRX m M0 M G)  {R : Int × xG_}  (e : g232  f  G = some R) : xok (f232  f m M) (fun r => r.1 = R.1 ∧ xRX m M0 r.2 R.2 ∧ xin R.1) := by
  unfold g232 at e
  unfold f232
  obtain ⟨R101, e102, e⟩ := xbnd e
  refine xok_eqb (h.is (o := 0) (c := 15) (by decide) rfl) ?_
  refine xok_call (sg226 hI  h  e102) ?_
  rintro ⟨v_, M105⟩ ⟨hv_, h103, hi104⟩
  cases hv_
  refine xok_ite (fun c106 => ?_) (fun c106 => ?_)
  · rw [if_pos c106] at e
    refine xok_eqb (h103.gi (o := 0) (c := 15) (k := 6) (n := 107) (by decide) rfl (by decide) (by decide)) ?_
    refine xok_ite (fun c107 => ?_) (fun c107 => ?_)
    · rw [if_pos c107] at e
      refine xok_eqb (h103.gl (o := 0) (c := 15) (k := 9) (n := 107) (by decide) rfl (by decide) (by decide)) ?_
      refine xok_eqb (h103.gi (o := 0) (c := 15) (k := 4) (n := 107) (by decide) rfl (by decide) (by decide)) ?_
      obtain ⟨R108, e109, e⟩ := xbnd e
      refine xok_eqb (h103.is (o := 0) (c := 15) (by decide) rfl) ?_
      refine xok_call (sg230 hI  h103 (h103.gln (o := 0) (c := 15) (k := 9) (n := 107) (by decide) rfl (by decide) (by decide)) (h103.gin (o := 0) (c := 15) (k := 4) (n := 107) (by decide) rfl (by decide) (by decide)) e109) ?_
      rintro ⟨v_, M112⟩ ⟨hv_, h110, hi111⟩
      cases hv_
      cases e
      exact ⟨_, rfl, rfl, h110, hi111⟩
    · rw [if_neg c107] at e
      refine xok_eqb (h103.gi (o := 0) (c := 15) (k := 6) (n := 107) (by decide) rfl (by decide) (by decide)) ?_
      obtain ⟨R113, e114, e⟩ := xbnd e
      refine xok_eqb (h103.is (o := 0) (c := 15) (by decide) rfl) ?_
      refine xok_call (sg210 hI  h103 (h103.gin (o := 0) (c := 15) (k := 6) (n := 107) (by decide) rfl (by decide) (by decide)) e114) ?_
      intro M117 h115
      cases e
      exact ⟨_, rfl, rfl, h115, (show xin (-1) by decide)⟩
  · rw [if_neg c106] at e
    refine xok_eqb (h103.gi (o := 0) (c := 15) (k := 4) (n := 107) (by decide) rfl (by decide) (by decide)) ?_
    obtain ⟨R118, e119, e⟩ := xbnd e
    refine xok_eqb (h103.is (o := 0) (c := 15) (by decide) rfl) ?_
    refine xok_call (sg210 hI  h103 (h103.gin (o := 0) (c := 15) (k := 4) (n := 107) (by decide) rfl (by decide) (by decide)) e119) ?_
    intro M122 h120
    cases e
    exact ⟨_, rfl, rfl, h120, (show xin (-1) by decide)⟩
-- ChangeHouseModel.beginRule
theorem sg236 {m f : Nat} {M0 M : xj_M} {G : xG_} (hI : xHI f)   (h : xRX m M0 M G) {a1 : Int} {R : xG_} (ta1 : xin a1) (e : g236  f a1 G = some R) : xok (f236  f m a1 M) (fun r => xRX m M0 r R) := by
  unfold g236 at e
  unfold f236
  obtain ⟨M101, q102, h103⟩ := h.pi (v := a1) (o := 0) (c := 15) (k := 23) (n := 107) (by decide) rfl (by decide) (by decide) ta1
  refine xok_eqb q102 ?_
  obtain ⟨G104, g1, e⟩ := xbnd e
  cases g1
  have h103_ : xRX m M0 M101 (xup2 G (0) 23 (a1)) := h103
  generalize hGG104 : (xup2 G (0) 23 (a1)) = G104 at e h103
  clear h103_ hGG104
  obtain ⟨M105, q106, h107⟩ := h103.pi (v := 0) (o := 0) (c := 15) (k := 24) (n := 107) (by decide) rfl (by decide) (by decide) (show xin (0) by decide)
  refine xok_eqb q106 ?_
  obtain ⟨G108, g1, e⟩ := xbnd e
  cases g1
  have h107_ : xRX m M0 M105 (xup2 G104 (0) 24 (0)) := h107
  generalize hGG108 : (xup2 G104 (0) 24 (0)) = G108 at e h107
  clear h107_ hGG108
  obtain ⟨M109, q110, h111⟩ := h107.pi (v := 0) (o := 0) (c := 15) (k := 25) (n := 107) (by decide) rfl (by decide) (by decide) (show xin (0) by decide)
  refine xok_eqb q110 ?_
  obtain ⟨G112, g1, e⟩ := xbnd e
  cases g1
  have h111_ : xRX m M0 M109 (xup2 G108 (0) 25 (0)) := h111
  generalize hGG112 : (xup2 G108 (0) 25 (0)) = G112 at e h111
  clear h111_ hGG112
  by_cases c113 : G112 0 22 < 0
  · rw [if_pos c113] at e; cases e
  rw [if_neg c113] at e
  refine xok_eqb (h111.itp c113) ?_
  refine xok_eqb (h111.pt (o := (G112 0 22).toNat) (c := 14) (k := 21) (t := (G112 0 22).toNat + 19) (n := 38) (xoP_o (h111.itt c113)).1 (xoP_o (h111.itt c113)).2 (by decide) (xoP_all (h111.itt c113) (Q := fun p => (p, 21, p + 19) ∈ xl_P) (by decide +kernel) (by decide +kernel) (by decide +kernel))) ?_
  by_cases c114 : 0 ≤ (a1) ∧ (a1) < 25
  · skip
    rw [if_pos c114] at e
    obtain ⟨M115, q116, h117⟩ := h111.si (o := (G112 0 22).toNat + 19) (n := 25) (v := 0) (xoP_all (h111.itt c113) (Q := fun p => p + 19 < 276) (by decide) (by decide) (by decide)) (xoP_all (h111.itt c113) (Q := fun p => xl_t (p + 19) = (2, 3, 25)) rfl rfl rfl) c114.1 c114.2 (show xin (0) by decide)
    refine xok_eqb q116 ?_
    obtain ⟨G118, g1, e⟩ := xbnd e
    cases g1
    have h117_ : xRX m M0 M115 (xup2 G112 ((G112 0 22).toNat + 19) (a1).toNat (0)) := h117
    generalize hGG118 : (xup2 G112 ((G112 0 22).toNat + 19) (a1).toNat (0)) = G118 at e h117
    clear h117_ hGG118
    by_cases c119 : G118 0 22 < 0
    · rw [if_pos c119] at e; cases e
    rw [if_neg c119] at e
    refine xok_eqb (h117.itp c119) ?_
    refine xok_eqb (h117.pt (o := (G118 0 22).toNat) (c := 14) (k := 22) (t := (G118 0 22).toNat + 20) (n := 38) (xoP_o (h117.itt c119)).1 (xoP_o (h117.itt c119)).2 (by decide) (xoP_all (h117.itt c119) (Q := fun p => (p, 22, p + 20) ∈ xl_P) (by decide +kernel) (by decide +kernel) (by decide +kernel))) ?_
    by_cases c120 : 0 ≤ (a1) ∧ (a1) < 25
    · skip
      rw [if_pos c120] at e
      obtain ⟨M121, q122, h123⟩ := h117.si (o := (G118 0 22).toNat + 20) (n := 25) (v := 0) (xoP_all (h117.itt c119) (Q := fun p => p + 20 < 276) (by decide) (by decide) (by decide)) (xoP_all (h117.itt c119) (Q := fun p => xl_t (p + 20) = (2, 3, 25)) rfl rfl rfl) c120.1 c120.2 (show xin (0) by decide)
      refine xok_eqb q122 ?_
      obtain ⟨G124, g1, e⟩ := xbnd e
      cases g1
      have h123_ : xRX m M0 M121 (xup2 G118 ((G118 0 22).toNat + 20) (a1).toNat (0)) := h123
      generalize hGG124 : (xup2 G118 ((G118 0 22).toNat + 20) (a1).toNat (0)) = G124 at e h123
      clear h123_ hGG124
      by_cases c125 : G124 0 22 < 0
      · rw [if_pos c125] at e; cases e
      rw [if_neg c125] at e
      refine xok_eqb (h123.itp c125) ?_
      refine xok_eqb (h123.pt (o := (G124 0 22).toNat) (c := 14) (k := 17) (t := (G124 0 22).toNat + 15) (n := 38) (xoP_o (h123.itt c125)).1 (xoP_o (h123.itt c125)).2 (by decide) (xoP_all (h123.itt c125) (Q := fun p => (p, 17, p + 15) ∈ xl_P) (by decide +kernel) (by decide +kernel) (by decide +kernel))) ?_
      by_cases c126 : 0 ≤ (a1) ∧ (a1) < 25
      · skip
        rw [if_pos c126] at e
        obtain ⟨M127, q128, h129⟩ := h123.si (o := (G124 0 22).toNat + 15) (n := 25) (v := 0) (xoP_all (h123.itt c125) (Q := fun p => p + 15 < 276) (by decide) (by decide) (by decide)) (xoP_all (h123.itt c125) (Q := fun p => xl_t (p + 15) = (2, 3, 25)) rfl rfl rfl) c126.1 c126.2 (show xin (0) by decide)
        refine xok_eqb q128 ?_
        obtain ⟨G130, g1, e⟩ := xbnd e
        cases g1
        have h129_ : xRX m M0 M127 (xup2 G124 ((G124 0 22).toNat + 15) (a1).toNat (0)) := h129
        generalize hGG130 : (xup2 G124 ((G124 0 22).toNat + 15) (a1).toNat (0)) = G130 at e h129
        clear h129_ hGG130
        by_cases c131 : G130 0 22 < 0
        · rw [if_pos c131] at e; cases e
        rw [if_neg c131] at e
        refine xok_eqb (h129.itp c131) ?_
        refine xok_eqb (h129.pt (o := (G130 0 22).toNat) (c := 14) (k := 18) (t := (G130 0 22).toNat + 16) (n := 38) (xoP_o (h129.itt c131)).1 (xoP_o (h129.itt c131)).2 (by decide) (xoP_all (h129.itt c131) (Q := fun p => (p, 18, p + 16) ∈ xl_P) (by decide +kernel) (by decide +kernel) (by decide +kernel))) ?_
        by_cases c132 : 0 ≤ (a1) ∧ (a1) < 25
        · skip
          rw [if_pos c132] at e
          obtain ⟨M133, q134, h135⟩ := h129.si (o := (G130 0 22).toNat + 16) (n := 25) (v := 0) (xoP_all (h129.itt c131) (Q := fun p => p + 16 < 276) (by decide) (by decide) (by decide)) (xoP_all (h129.itt c131) (Q := fun p => xl_t (p + 16) = (2, 3, 25)) rfl rfl rfl) c132.1 c132.2 (show xin (0) by decide)
          refine xok_eqb q134 ?_
          obtain ⟨G136, g1, e⟩ := xbnd e
          cases g1
          have h135_ : xRX m M0 M133 (xup2 G130 ((G130 0 22).toNat + 16) (a1).toNat (0)) := h135
          generalize hGG136 : (xup2 G130 ((G130 0 22).toNat + 16) (a1).toNat (0)) = G136 at e h135
          clear h135_ hGG136
          by_cases c137 : G136 0 22 < 0
          · rw [if_pos c137] at e; cases e
          rw [if_neg c137] at e
          refine xok_eqb (h135.itp c137) ?_
          refine xok_eqb (h135.pt (o := (G136 0 22).toNat) (c := 14) (k := 19) (t := (G136 0 22).toNat + 17) (n := 38) (xoP_o (h135.itt c137)).1 (xoP_o (h135.itt c137)).2 (by decide) (xoP_all (h135.itt c137) (Q := fun p => (p, 19, p + 17) ∈ xl_P) (by decide +kernel) (by decide +kernel) (by decide +kernel))) ?_
          by_cases c138 : 0 ≤ (a1) ∧ (a1) < 25
          · skip
            rw [if_pos c138] at e
            obtain ⟨M139, q140, h141⟩ := h135.si (o := (G136 0 22).toNat + 17) (n := 25) (v := -1) (xoP_all (h135.itt c137) (Q := fun p => p + 17 < 276) (by decide) (by decide) (by decide)) (xoP_all (h135.itt c137) (Q := fun p => xl_t (p + 17) = (2, 3, 25)) rfl rfl rfl) c138.1 c138.2 (show xin (-1) by decide)
            refine xok_eqb q140 ?_
            obtain ⟨G142, g1, e⟩ := xbnd e
            cases g1
            have h141_ : xRX m M0 M139 (xup2 G136 ((G136 0 22).toNat + 17) (a1).toNat (-1)) := h141
            generalize hGG142 : (xup2 G136 ((G136 0 22).toNat + 17) (a1).toNat (-1)) = G142 at e h141
            clear h141_ hGG142
            by_cases c143 : G142 0 22 < 0
            · rw [if_pos c143] at e; cases e
            rw [if_neg c143] at e
            refine xok_eqb (h141.itp c143) ?_
            refine xok_eqb (h141.pt (o := (G142 0 22).toNat) (c := 14) (k := 20) (t := (G142 0 22).toNat + 18) (n := 38) (xoP_o (h141.itt c143)).1 (xoP_o (h141.itt c143)).2 (by decide) (xoP_all (h141.itt c143) (Q := fun p => (p, 20, p + 18) ∈ xl_P) (by decide +kernel) (by decide +kernel) (by decide +kernel))) ?_
            by_cases c144 : 0 ≤ (a1) ∧ (a1) < 25
            · skip
              rw [if_pos c144] at e
              obtain ⟨M145, q146, h147⟩ := h141.si (o := (G142 0 22).toNat + 18) (n := 25) (v := -1) (xoP_all (h141.itt c143) (Q := fun p => p + 18 < 276) (by decide) (by decide) (by decide)) (xoP_all (h141.itt c143) (Q := fun p => xl_t (p + 18) = (2, 3, 25)) rfl rfl rfl) c144.1 c144.2 (show xin (-1) by decide)
              refine xok_eqb q146 ?_
              obtain ⟨G148, g1, e⟩ := xbnd e
              cases g1
              have h147_ : xRX m M0 M145 (xup2 G142 ((G142 0 22).toNat + 18) (a1).toNat (-1)) := h147
              generalize hGG148 : (xup2 G142 ((G142 0 22).toNat + 18) (a1).toNat (-1)) = G148 at e h147
              clear h147_ hGG148
              cases e
              exact ⟨_, rfl, h147⟩
            · rw [if_neg c144] at e; cases e
          · rw [if_neg c138] at e; cases e
        · rw [if_neg c132] at e; cases e
      · rw [if_neg c126] at e; cases e
    · rw [if_neg c120] at e; cases e
  · rw [if_neg c114] at e; cases e
-- ChangeHouseModel.put
theorem sg240 {m f : Nat} {M0 M : xj_M} {G : xG_} (hI : xHI f)   (h : xRX m M0 M G) {a1 : Int} {a2 : Int} {R : xG_} (ta1 : xin a1) (ta2 : xiN a2) (e : g240  f a1 a2 G = some R) : xok (f240  f m a1 a2 M) (fun r => xRX m M0 r R) := by
  unfold g240 at e
  unfold f240
  obtain ⟨R101, e102, e⟩ := xbnd e
  refine xok_eqb (h.is (o := 0) (c := 15) (by decide) rfl) ?_
  refine xok_call (sg211 hI  h  e102) ?_
  rintro ⟨v_, M105⟩ ⟨hv_, h103, hi104⟩
  cases hv_
  refine xok_ite (fun c106 => ?_) (fun c106 => ?_)
  · rw [if_pos c106] at e
    by_cases c107 : R101.2 0 22 < 0
    · rw [if_pos c107] at e; cases e
    rw [if_neg c107] at e
    refine xok_eqb (h103.itp c107) ?_
    refine xok_eqb (h103.pt (o := (R101.2 0 22).toNat) (c := 14) (k := 35) (t := (R101.2 0 22).toNat + 33) (n := 38) (xoP_o (h103.itt c107)).1 (xoP_o (h103.itt c107)).2 (by decide) (xoP_all (h103.itt c107) (Q := fun p => (p, 35, p + 33) ∈ xl_P) (by decide +kernel) (by decide +kernel) (by decide +kernel))) ?_
    by_cases c108 : R101.2 0 22 < 0
    · rw [if_pos c108] at e; cases e
    rw [if_neg c108] at e
    refine xok_eqb (h103.itp c108) ?_
    refine xok_eqb (h103.gi (o := (R101.2 0 22).toNat) (c := 14) (k := 37) (n := 38) (xoP_o (h103.itt c108)).1 (xoP_o (h103.itt c108)).2 (by decide) (by decide)) ?_
    by_cases c109 : 0 ≤ (R101.2 ((R101.2 0 22).toNat) 37) ∧ (R101.2 ((R101.2 0 22).toNat) 37) < 6200
    · skip
      rw [if_pos c109] at e
      obtain ⟨M110, q111, h112⟩ := h103.si (o := (R101.2 0 22).toNat + 33) (n := 6200) (v := a1) (xoP_all (h103.itt c107) (Q := fun p => p + 33 < 276) (by decide) (by decide) (by decide)) (xoP_all (h103.itt c107) (Q := fun p => xl_t (p + 33) = (2, 3, 6200)) rfl rfl rfl) c109.1 c109.2 ta1
      refine xok_eqb q111 ?_
      obtain ⟨G113, g1, e⟩ := xbnd e
      cases g1
      have h112_ : xRX m M0 M110 (xup2 R101.2 ((R101.2 0 22).toNat + 33) (R101.2 ((R101.2 0 22).toNat) 37).toNat (a1)) := h112
      generalize hGG113 : (xup2 R101.2 ((R101.2 0 22).toNat + 33) (R101.2 ((R101.2 0 22).toNat) 37).toNat (a1)) = G113 at e h112
      clear h112_ hGG113
      by_cases c114 : G113 0 22 < 0
      · rw [if_pos c114] at e; cases e
      rw [if_neg c114] at e
      refine xok_eqb (h112.itp c114) ?_
      refine xok_eqb (h112.pt (o := (G113 0 22).toNat) (c := 14) (k := 36) (t := (G113 0 22).toNat + 34) (n := 38) (xoP_o (h112.itt c114)).1 (xoP_o (h112.itt c114)).2 (by decide) (xoP_all (h112.itt c114) (Q := fun p => (p, 36, p + 34) ∈ xl_P) (by decide +kernel) (by decide +kernel) (by decide +kernel))) ?_
      by_cases c115 : G113 0 22 < 0
      · rw [if_pos c115] at e; cases e
      rw [if_neg c115] at e
      refine xok_eqb (h112.itp c115) ?_
      refine xok_eqb (h112.gi (o := (G113 0 22).toNat) (c := 14) (k := 37) (n := 38) (xoP_o (h112.itt c115)).1 (xoP_o (h112.itt c115)).2 (by decide) (by decide)) ?_
      by_cases c116 : 0 ≤ (G113 ((G113 0 22).toNat) 37) ∧ (G113 ((G113 0 22).toNat) 37) < 6200
      · skip
        rw [if_pos c116] at e
        obtain ⟨M117, q118, h119⟩ := h112.sl (o := (G113 0 22).toNat + 34) (n := 6200) (v := a2) (xoP_all (h112.itt c114) (Q := fun p => p + 34 < 276) (by decide) (by decide) (by decide)) (xoP_all (h112.itt c114) (Q := fun p => xl_t (p + 34) = (2, 4, 6200)) rfl rfl rfl) c116.1 c116.2 ta2
        refine xok_eqb q118 ?_
        obtain ⟨G120, g1, e⟩ := xbnd e
        cases g1
        have h119_ : xRX m M0 M117 (xup2 G113 ((G113 0 22).toNat + 34) (G113 ((G113 0 22).toNat) 37).toNat (a2)) := h119
        generalize hGG120 : (xup2 G113 ((G113 0 22).toNat + 34) (G113 ((G113 0 22).toNat) 37).toNat (a2)) = G120 at e h119
        clear h119_ hGG120
        by_cases c121 : G120 0 22 < 0
        · rw [if_pos c121] at e; cases e
        rw [if_neg c121] at e
        refine xok_eqb (h119.itp c121) ?_
        refine xok_eqb (h119.gi (o := (G120 0 22).toNat) (c := 14) (k := 37) (n := 38) (xoP_o (h119.itt c121)).1 (xoP_o (h119.itt c121)).2 (by decide) (by decide)) ?_
        obtain ⟨M122, q123, h124⟩ := h119.pi (v := xwr ((G120 ((G120 0 22).toNat) 37) + (1))) (o := (G120 0 22).toNat) (c := 14) (k := 37) (n := 38) (xoP_o (h119.itt c121)).1 (xoP_o (h119.itt c121)).2 (by decide) (by decide) (xin_wr _)
        refine xok_eqb q123 ?_
        obtain ⟨G125, g1, e⟩ := xbnd e
        cases g1
        have h124_ : xRX m M0 M122 (xup2 G120 ((G120 0 22).toNat) 37 (xwr ((G120 ((G120 0 22).toNat) 37) + (1)))) := h124
        generalize hGG125 : (xup2 G120 ((G120 0 22).toNat) 37 (xwr ((G120 ((G120 0 22).toNat) 37) + (1)))) = G125 at e h124
        clear h124_ hGG125
        cases e
        exact ⟨_, rfl, h124⟩
      · rw [if_neg c116] at e; cases e
    · rw [if_neg c109] at e; cases e
  · rw [if_neg c106] at e
    cases e
    exact ⟨_, rfl, h103⟩
-- ChangeHouseModel.isOf
theorem s242_62 {m f : Nat} {M0 M : xj_M} {G : xG_} (hI : xHI f)     (h : xRX m M0 M G) {y0 : Int} {R : Int × xG_} (ty0 : xin y0) (e : g242_62   f y0 G = some R) : xok (f242_62   f y0 M) (fun r => r.1 = R.1 ∧ xRX m M0 r.2 R.2 ∧ xin R.1) := by
  unfold g242_62 at e
  unfold f242_62
  refine xok_ite (fun c101 => ?_) (fun c101 => ?_)
  · rw [if_pos c101] at e; cases e; exact ⟨_, rfl, rfl, h, ty0⟩
  · rw [if_neg c101] at e; cases e
theorem s242_31 {m f : Nat} {M0 M : xj_M} {G : xG_} (hI : xHI f)     (h : xRX m M0 M G)  {R : Int × xG_}  (e : g242_31   f  G = some R) : xok (f242_31   f  M) (fun r => r.1 = R.1 ∧ xRX m M0 r.2 R.2 ∧ xin R.1) := by
  unfold g242_31 at e
  unfold f242_31
  exact s242_62 hI   h (show xin (1) by decide) e
theorem s242_57 {m f : Nat} {M0 M : xj_M} {G : xG_} (hI : xHI f)     (h : xRX m M0 M G)  {R : Int × xG_}  (e : g242_57   f  G = some R) : xok (f242_57   f  M) (fun r => r.1 = R.1 ∧ xRX m M0 r.2 R.2 ∧ xin R.1) := by
  unfold g242_57 at e
  unfold f242_57
  exact s242_62 hI   h (show xin (1) by decide) e
theorem sg242 {m f : Nat} {M0 M : xj_M} {G : xG_} (hI : xHI f)   (h : xRX m M0 M G) {a1 : Int} {R : Int × xG_} (ta1 : xin a1) (e : g242  f a1 G = some R) : xok (f242  f m a1 M) (fun r => r.1 = R.1 ∧ xRX m M0 r.2 R.2 ∧ xin R.1) := by
  unfold g242 at e
  unfold f242
  refine xok_ite (fun c102 => ?_) (fun c102 => ?_)
  · rw [if_pos c102] at e
    obtain ⟨R103, e104, e⟩ := xbnd e
    refine xok_eqb (h.is (o := 0) (c := 15) (by decide) rfl) ?_
    refine xok_call (sg220 hI  h (show xin (43) by decide) e104) ?_
    rintro ⟨v_, M107⟩ ⟨hv_, h105, hi106⟩
    cases hv_
    refine xok_ite (fun c108 => ?_) (fun c108 => ?_)
    · rw [if_pos c108] at e
      exact s242_57 hI   h105  e
    · rw [if_neg c108] at e
      obtain ⟨R109, e110, e⟩ := xbnd e
      refine xok_eqb (h105.is (o := 0) (c := 15) (by decide) rfl) ?_
      refine xok_call (sg220 hI  h105 (show xin (45) by decide) e110) ?_
      rintro ⟨v_, M113⟩ ⟨hv_, h111, hi112⟩
      cases hv_
      refine xok_ite (fun c114 => ?_) (fun c114 => ?_)
      · rw [if_pos c114] at e
        exact s242_62 hI   h111 (show xin (0) by decide) e
      · rw [if_neg c114] at e
        exact s242_57 hI   h111  e
  · rw [if_neg c102] at e
    obtain ⟨R115, e116, e⟩ := xbnd e
    refine xok_eqb (h.is (o := 0) (c := 15) (by decide) rfl) ?_
    refine xok_call (sg220 hI  h (show xin (42) by decide) e116) ?_
    rintro ⟨v_, M119⟩ ⟨hv_, h117, hi118⟩
    cases hv_
    refine xok_ite (fun c120 => ?_) (fun c120 => ?_)
    · rw [if_pos c120] at e
      exact s242_31 hI   h117  e
    · rw [if_neg c120] at e
      obtain ⟨R121, e122, e⟩ := xbnd e
      refine xok_eqb (h117.is (o := 0) (c := 15) (by decide) rfl) ?_
      refine xok_call (sg220 hI  h117 (show xin (47) by decide) e122) ?_
      rintro ⟨v_, M125⟩ ⟨hv_, h123, hi124⟩
      cases hv_
      refine xok_ite (fun c126 => ?_) (fun c126 => ?_)
      · rw [if_pos c126] at e
        exact s242_31 hI   h123  e
      · rw [if_neg c126] at e
        obtain ⟨R127, e128, e⟩ := xbnd e
        refine xok_eqb (h123.is (o := 0) (c := 15) (by decide) rfl) ?_
        refine xok_call (sg220 hI  h123 (show xin (37) by decide) e128) ?_
        rintro ⟨v_, M131⟩ ⟨hv_, h129, hi130⟩
        cases hv_
        refine xok_ite (fun c132 => ?_) (fun c132 => ?_)
        · rw [if_pos c132] at e
          exact s242_62 hI   h129 (show xin (0) by decide) e
        · rw [if_neg c132] at e
          exact s242_31 hI   h129  e
-- ChangeHouseModel.faulty
theorem s251_31 {m f : Nat} {M0 M : xj_M} {G : xG_} (hI : xHI f)     (h : xRX m M0 M G)  {R : xG_}  (e : g251_31   f  G = some R) : xok (f251_31   f  M) (fun r => xRX m M0 r R) := by
  unfold g251_31 at e
  unfold f251_31
  cases e
  exact ⟨_, rfl, h⟩
theorem s251_32 {m f : Nat} {M0 M : xj_M} {G : xG_} (hI : xHI f)     (h : xRX m M0 M G) {x1 : Int} {x2 : Int} {R : xG_} (tx1 : xin x1) (tx2 : xin x2) (e : g251_32   f x1 x2 G = some R) : xok (f251_32   f m x1 x2 M) (fun r => xRX m M0 r R) := by
  unfold g251_32 at e
  unfold f251_32
  obtain ⟨M101, q102, h103⟩ := h.pi (v := x1) (o := 0) (c := 15) (k := 26) (n := 107) (by decide) rfl (by decide) (by decide) tx1
  refine xok_eqb q102 ?_
  obtain ⟨G104, g1, e⟩ := xbnd e
  cases g1
  have h103_ : xRX m M0 M101 (xup2 G (0) 26 (x1)) := h103
  generalize hGG104 : (xup2 G (0) 26 (x1)) = G104 at e h103
  clear h103_ hGG104
  obtain ⟨M105, q106, h107⟩ := h103.pi (v := x2) (o := 0) (c := 15) (k := 27) (n := 107) (by decide) rfl (by decide) (by decide) tx2
  refine xok_eqb q106 ?_
  obtain ⟨G108, g1, e⟩ := xbnd e
  cases g1
  have h107_ : xRX m M0 M105 (xup2 G104 (0) 27 (x2)) := h107
  generalize hGG108 : (xup2 G104 (0) 27 (x2)) = G108 at e h107
  clear h107_ hGG108
  cases e
  exact ⟨_, rfl, h107⟩
theorem sg251 {m f : Nat} {M0 M : xj_M} {G : xG_} (hI : xHI f)   (h : xRX m M0 M G) {a1 : Int} {a2 : Int} {R : xG_} (ta1 : xin a1) (ta2 : xin a2) (e : g251  f a1 a2 G = some R) : xok (f251  f m a1 a2 M) (fun r => xRX m M0 r R) := by
  unfold g251 at e
  unfold f251
  refine xok_eqb (h.gi (o := 0) (c := 15) (k := 26) (n := 107) (by decide) rfl (by decide) (by decide)) ?_
  refine xok_ite (fun c109 => ?_) (fun c109 => ?_)
  · rw [if_pos c109] at e
    exact s251_32 hI   h ta1 ta2 e
  · rw [if_neg c109] at e
    refine xok_eqb (h.gi (o := 0) (c := 15) (k := 26) (n := 107) (by decide) rfl (by decide) (by decide)) ?_
    refine xok_ite (fun c110 => ?_) (fun c110 => ?_)
    · rw [if_pos c110] at e
      exact s251_31 hI   h  e
    · rw [if_neg c110] at e
      refine xok_eqb (h.gi (o := 0) (c := 15) (k := 26) (n := 107) (by decide) rfl (by decide) (by decide)) ?_
      refine xok_ite (fun c111 => ?_) (fun c111 => ?_)
      · rw [if_pos c111] at e
        exact s251_32 hI   h ta1 ta2 e
      · rw [if_neg c111] at e
        refine xok_eqb (h.gi (o := 0) (c := 15) (k := 27) (n := 107) (by decide) rfl (by decide) (by decide)) ?_
        refine xok_ite (fun c112 => ?_) (fun c112 => ?_)
        · rw [if_pos c112] at e
          exact s251_32 hI   h ta1 ta2 e
        · rw [if_neg c112] at e
          exact s251_31 hI   h  e
-- ChangeHouseModel.isTwice
theorem s253_40 {m f : Nat} {M0 M : xj_M} {G : xG_} (hI : xHI f)     (h : xRX m M0 M G) {y0 : Int} {R : Int × xG_} (ty0 : xin y0) (e : g253_40   f y0 G = some R) : xok (f253_40   f y0 M) (fun r => r.1 = R.1 ∧ xRX m M0 r.2 R.2 ∧ xin R.1) := by
  unfold g253_40 at e
  unfold f253_40
  refine xok_ite (fun c101 => ?_) (fun c101 => ?_)
  · rw [if_pos c101] at e; cases e; exact ⟨_, rfl, rfl, h, ty0⟩
  · rw [if_neg c101] at e; cases e
theorem s253_35 {m f : Nat} {M0 M : xj_M} {G : xG_} (hI : xHI f)     (h : xRX m M0 M G)  {R : Int × xG_}  (e : g253_35   f  G = some R) : xok (f253_35   f  M) (fun r => r.1 = R.1 ∧ xRX m M0 r.2 R.2 ∧ xin R.1) := by
  unfold g253_35 at e
  unfold f253_35
  exact s253_40 hI   h (show xin (1) by decide) e
theorem s253_39 {m f : Nat} {M0 M : xj_M} {G : xG_} (hI : xHI f)     (h : xRX m M0 M G)  {R : Int × xG_}  (e : g253_39   f  G = some R) : xok (f253_39   f  M) (fun r => r.1 = R.1 ∧ xRX m M0 r.2 R.2 ∧ xin R.1) := by
  unfold g253_39 at e
  unfold f253_39
  exact s253_40 hI   h (show xin (0) by decide) e
theorem s253_25 {m f : Nat} {M0 M : xj_M} {G : xG_} (hI : xHI f)     (h : xRX m M0 M G) {x0 : Int} {x1 : Int} {R : Int × xG_} (tx0 : xin x0) (tx1 : xin x1) (e : g253_25   f x0 x1 G = some R) : xok (f253_25   f x0 x1 M) (fun r => r.1 = R.1 ∧ xRX m M0 r.2 R.2 ∧ xin R.1) := by
  unfold g253_25 at e
  unfold f253_25
  refine xok_ite (fun c102 => ?_) (fun c102 => ?_)
  · rw [if_pos c102] at e
    exact s253_39 hI   h  e
  · rw [if_neg c102] at e
    refine xok_ite (fun c103 => ?_) (fun c103 => ?_)
    · rw [if_pos c103] at e
      exact s253_39 hI   h  e
    · rw [if_neg c103] at e
      exact s253_35 hI   h  e
theorem s253_15 {m f : Nat} {M0 M : xj_M} {G : xG_} (hI : xHI f)     (h : xRX m M0 M G) {x0 : Int} {x1 : Int} {R : Int × xG_} (tx0 : xin x0) (tx1 : xin x1) (e : g253_15   f x0 x1 G = some R) : xok (f253_15   f x0 x1 M) (fun r => r.1 = R.1 ∧ xRX m M0 r.2 R.2 ∧ xin R.1) := by
  unfold g253_15 at e
  unfold f253_15
  refine xok_ite (fun c104 => ?_) (fun c104 => ?_)
  · rw [if_pos c104] at e
    exact s253_25 hI   h tx0 tx1 e
  · rw [if_neg c104] at e
    refine xok_ite (fun c105 => ?_) (fun c105 => ?_)
    · rw [if_pos c105] at e
      exact s253_35 hI   h  e
    · rw [if_neg c105] at e
      exact s253_25 hI   h tx0 tx1 e
theorem sg253 {m f : Nat} {M0 M : xj_M} {G : xG_} (hI : xHI f)   (h : xRX m M0 M G) {a0 : Int} {a1 : Int} {R : Int × xG_} (ta0 : xin a0) (ta1 : xin a1) (e : g253  f a0 a1 G = some R) : xok (f253  f a0 a1 M) (fun r => r.1 = R.1 ∧ xRX m M0 r.2 R.2 ∧ xin R.1) := by
  unfold g253 at e
  unfold f253
  refine xok_ite (fun c106 => ?_) (fun c106 => ?_)
  · rw [if_pos c106] at e
    exact s253_15 hI   h ta0 ta1 e
  · rw [if_neg c106] at e
    refine xok_ite (fun c107 => ?_) (fun c107 => ?_)
    · rw [if_pos c107] at e
      exact s253_35 hI   h  e
    · rw [if_neg c107] at e
      refine xok_ite (fun c108 => ?_) (fun c108 => ?_)
      · rw [if_pos c108] at e
        exact s253_35 hI   h  e
      · rw [if_neg c108] at e
        exact s253_15 hI   h ta0 ta1 e
-- ChangeHouseModel.findParts
theorem s254_70 {m f : Nat} {M0 M : xj_M} {G : xG_} (hI : xHI f)  {r2 : Nat → Int → xG_ → Option (xG_)} {o2 : Nat → Nat → Int → xj_M → Option (xj_M)} {r15 : Nat → Int → Int → Int → xG_ → Option (xG_)} {o15 : Nat → Nat → Int → Int → Int → xj_M → Option (xj_M)}  (hr2 : ∀ {M : xj_M} {G : xG_} {x1 : Nat} {x2 : Int} {R : xG_}, xRX m M0 M G → xoP x1 → xin x2 → r2 x1 x2 G = some R → xok (o2 m (m + x1) x2 M) (fun r => xRX m M0 r R)) (hr15 : ∀ {M : xj_M} {G : xG_} {x1 : Nat} {x2 : Int} {x3 : Int} {x4 : Int} {R : xG_}, xRX m M0 M G → xoP x1 → xin x2 → xin x3 → xin x4 → r15 x1 x2 x3 x4 G = some R → xok (o15 m (m + x1) x2 x3 x4 M) (fun r => xRX m M0 r R)) (h : xRX m M0 M G) {x1 : Nat} {x2 : Int} {x3 : Int} {x4 : Int} {R : xG_} (tx1 : xoP x1) (tx2 : xin x2) (tx3 : xin x3) (tx4 : xin x4) (e : g254_70  r2 r15 f x1 x2 x3 x4 G = some R) : xok (f254_70  o2 o15 f m (m + x1) x2 x3 x4 M) (fun r => xRX m M0 r R) := by
  unfold g254_70 at e
  unfold f254_70
  exact hr15 h tx1 tx2 tx3 (xin_wr _) e
theorem s254_67 {m f : Nat} {M0 M : xj_M} {G : xG_} (hI : xHI f)  {r2 : Nat → Int → xG_ → Option (xG_)} {o2 : Nat → Nat → Int → xj_M → Option (xj_M)} {r15 : Nat → Int → Int → Int → xG_ → Option (xG_)} {o15 : Nat → Nat → Int → Int → Int → xj_M → Option (xj_M)}  (hr2 : ∀ {M : xj_M} {G : xG_} {x1 : Nat} {x2 : Int} {R : xG_}, xRX m M0 M G → xoP x1 → xin x2 → r2 x1 x2 G = some R → xok (o2 m (m + x1) x2 M) (fun r => xRX m M0 r R)) (hr15 : ∀ {M : xj_M} {G : xG_} {x1 : Nat} {x2 : Int} {x3 : Int} {x4 : Int} {R : xG_}, xRX m M0 M G → xoP x1 → xin x2 → xin x3 → xin x4 → r15 x1 x2 x3 x4 G = some R → xok (o15 m (m + x1) x2 x3 x4 M) (fun r => xRX m M0 r R)) (h : xRX m M0 M G) {x1 : Nat} {x2 : Int} {x4 : Int} {R : xG_} (tx1 : xoP x1) (tx2 : xin x2) (tx4 : xin x4) (e : g254_67  r2 r15 f x1 x2 x4 G = some R) : xok (f254_67  o2 o15 f m (m + x1) x2 x4 M) (fun r => xRX m M0 r R) := by
  unfold g254_67 at e
  unfold f254_67
  exact s254_70 hI  hr2 hr15 h tx1 tx2 tx4 tx4 e
theorem s254_164 {m f : Nat} {M0 M : xj_M} {G : xG_} (hI : xHI f)  {r2 : Nat → Int → xG_ → Option (xG_)} {o2 : Nat → Nat → Int → xj_M → Option (xj_M)}  (hr2 : ∀ {M : xj_M} {G : xG_} {x1 : Nat} {x2 : Int} {R : xG_}, xRX m M0 M G → xoP x1 → xin x2 → r2 x1 x2 G = some R → xok (o2 m (m + x1) x2 M) (fun r => xRX m M0 r R)) (h : xRX m M0 M G) {x1 : Nat} {x2 : Int} {R : xG_} (tx1 : xoP x1) (tx2 : xin x2) (e : g254_164  r2 f x1 x2 G = some R) : xok (f254_164  o2 f m (m + x1) x2 M) (fun r => xRX m M0 r R) := by
  unfold g254_164 at e
  unfold f254_164
  exact hr2 h tx1 (xin_wr _) e
theorem s254_158 {m f : Nat} {M0 M : xj_M} {G : xG_} (hI : xHI f)  {r2 : Nat → Int → xG_ → Option (xG_)} {o2 : Nat → Nat → Int → xj_M → Option (xj_M)} {r99 : Nat → Int → Int → xG_ → Option (xG_)} {o99 : Nat → Nat → Int → Int → xj_M → Option (xj_M)}  (hr2 : ∀ {M : xj_M} {G : xG_} {x1 : Nat} {x2 : Int} {R : xG_}, xRX m M0 M G → xoP x1 → xin x2 → r2 x1 x2 G = some R → xok (o2 m (m + x1) x2 M) (fun r => xRX m M0 r R)) (hr99 : ∀ {M : xj_M} {G : xG_} {x1 : Nat} {x2 : Int} {x4 : Int} {R : xG_}, xRX m M0 M G → xoP x1 → xin x2 → xin x4 → r99 x1 x2 x4 G = some R → xok (o99 m (m + x1) x2 x4 M) (fun r => xRX m M0 r R)) (h : xRX m M0 M G) {x1 : Nat} {x2 : Int} {x4 : Int} {R : xG_} (tx1 : xoP x1) (tx2 : xin x2) (tx4 : xin x4) (e : g254_158  r2 r99 f x1 x2 x4 G = some R) : xok (f254_158  o2 o99 f m (m + x1) x2 x4 M) (fun r => xRX m M0 r R) := by
  unfold g254_158 at e
  unfold f254_158
  exact hr99 h tx1 tx2 (xin_wr _) e
theorem s254_99b {m f : Nat} {M0 M : xj_M} {G : xG_} (hI : xHI f)  {r2 : Nat → Int → xG_ → Option (xG_)} {o2 : Nat → Nat → Int → xj_M → Option (xj_M)} {r99 : Nat → Int → Int → xG_ → Option (xG_)} {o99 : Nat → Nat → Int → Int → xj_M → Option (xj_M)}  (hr2 : ∀ {M : xj_M} {G : xG_} {x1 : Nat} {x2 : Int} {R : xG_}, xRX m M0 M G → xoP x1 → xin x2 → r2 x1 x2 G = some R → xok (o2 m (m + x1) x2 M) (fun r => xRX m M0 r R)) (hr99 : ∀ {M : xj_M} {G : xG_} {x1 : Nat} {x2 : Int} {x4 : Int} {R : xG_}, xRX m M0 M G → xoP x1 → xin x2 → xin x4 → r99 x1 x2 x4 G = some R → xok (o99 m (m + x1) x2 x4 M) (fun r => xRX m M0 r R)) (h : xRX m M0 M G) {x1 : Nat} {x2 : Int} {x4 : Int} {R : xG_} (tx1 : xoP x1) (tx2 : xin x2) (tx4 : xin x4) (e : g254_99b  r2 r99 f x1 x2 x4 G = some R) : xok (f254_99b  o2 o99 f m (m + x1) x2 x4 M) (fun r => xRX m M0 r R) := by
  unfold g254_99b at e
  unfold f254_99b
  refine xok_eqb (h.gi (o := x1) (c := 14) (k := 14) (n := 38) (xoP_o tx1).1 (xoP_o tx1).2 (by decide) (by decide)) ?_
  refine xok_ite (fun c101 => ?_) (fun c101 => ?_)
  · rw [if_pos c101] at e
    exact s254_164 hI  hr2 h tx1 tx2 e
  · rw [if_neg c101] at e
    refine xok_eqb (h.pt (o := x1) (c := 14) (k := 10) (t := x1 + 9) (n := 38) (xoP_o tx1).1 (xoP_o tx1).2 (by decide) (xoP_all tx1 (Q := fun p => (p, 10, p + 9) ∈ xl_P) (by decide +kernel) (by decide +kernel) (by decide +kernel))) ?_
    by_cases c102 : 0 ≤ (x4) ∧ (x4) < 420
    · skip
      rw [if_pos c102] at e
      refine xok_eqb (h.ai (o := x1 + 9) (n := 420) (xoP_all tx1 (Q := fun p => p + 9 < 276) (by decide) (by decide) (by decide)) (xoP_all tx1 (Q := fun p => xl_t (p + 9) = (2, 3, 420)) rfl rfl rfl) (by decide) c102.1 c102.2) ?_
      refine xok_ite (fun c103 => ?_) (fun c103 => ?_)
      · rw [if_pos c103] at e
        exact s254_158 hI  hr2 hr99 h tx1 tx2 tx4 e
      · rw [if_neg c103] at e
        refine xok_eqb (h.pt (o := x1) (c := 14) (k := 12) (t := x1 + 11) (n := 38) (xoP_o tx1).1 (xoP_o tx1).2 (by decide) (xoP_all tx1 (Q := fun p => (p, 12, p + 11) ∈ xl_P) (by decide +kernel) (by decide +kernel) (by decide +kernel))) ?_
        by_cases c104 : 0 ≤ (x4) ∧ (x4) < 420
        · skip
          rw [if_pos c104] at e
          refine xok_eqb (h.ai (o := x1 + 11) (n := 420) (xoP_all tx1 (Q := fun p => p + 11 < 276) (by decide) (by decide) (by decide)) (xoP_all tx1 (Q := fun p => xl_t (p + 11) = (2, 3, 420)) rfl rfl rfl) (by decide) c104.1 c104.2) ?_
          refine xok_ite (fun c105 => ?_) (fun c105 => ?_)
          · rw [if_pos c105] at e
            exact s254_158 hI  hr2 hr99 h tx1 tx2 tx4 e
          · rw [if_neg c105] at e
            refine xok_eqb (h.pt (o := x1) (c := 14) (k := 12) (t := x1 + 11) (n := 38) (xoP_o tx1).1 (xoP_o tx1).2 (by decide) (xoP_all tx1 (Q := fun p => (p, 12, p + 11) ∈ xl_P) (by decide +kernel) (by decide +kernel) (by decide +kernel))) ?_
            by_cases c106 : 0 ≤ (x4) ∧ (x4) < 420
            · skip
              rw [if_pos c106] at e
              refine xok_eqb (h.ai (o := x1 + 11) (n := 420) (xoP_all tx1 (Q := fun p => p + 11 < 276) (by decide) (by decide) (by decide)) (xoP_all tx1 (Q := fun p => xl_t (p + 11) = (2, 3, 420)) rfl rfl rfl) (by decide) c106.1 c106.2) ?_
              refine xok_eqb (h.pt (o := x1) (c := 14) (k := 1) (t := x1 + 2) (n := 38) (xoP_o tx1).1 (xoP_o tx1).2 (by decide) (xoP_all tx1 (Q := fun p => (p, 1, p + 2) ∈ xl_P) (by decide +kernel) (by decide +kernel) (by decide +kernel))) ?_
              by_cases c107 : 0 ≤ (x2) ∧ (x2) < 16
              · skip
                rw [if_pos c107] at e
                refine xok_eqb (h.ai (o := x1 + 2) (n := 16) (xoP_all tx1 (Q := fun p => p + 2 < 276) (by decide) (by decide) (by decide)) (xoP_all tx1 (Q := fun p => xl_t (p + 2) = (2, 3, 16)) rfl rfl rfl) (by decide) c107.1 c107.2) ?_
                refine xok_ite (fun c108 => ?_) (fun c108 => ?_)
                · rw [if_pos c108] at e
                  exact s254_158 hI  hr2 hr99 h tx1 tx2 tx4 e
                · rw [if_neg c108] at e
                  refine xok_eqb (h.pt (o := x1) (c := 14) (k := 11) (t := x1 + 10) (n := 38) (xoP_o tx1).1 (xoP_o tx1).2 (by decide) (xoP_all tx1 (Q := fun p => (p, 11, p + 10) ∈ xl_P) (by decide +kernel) (by decide +kernel) (by decide +kernel))) ?_
                  by_cases c109 : 0 ≤ (x4) ∧ (x4) < 420
                  · skip
                    rw [if_pos c109] at e
                    refine xok_eqb (h.ai (o := x1 + 10) (n := 420) (xoP_all tx1 (Q := fun p => p + 10 < 276) (by decide) (by decide) (by decide)) (xoP_all tx1 (Q := fun p => xl_t (p + 10) = (2, 3, 420)) rfl rfl rfl) (by decide) c109.1 c109.2) ?_
                    obtain ⟨R110, e111, e⟩ := xbnd e
                    refine xok_eqb (h.is (o := 0) (c := 15) (by decide) rfl) ?_
                    refine xok_call (sg251 hI  h (show xin (3) by decide) (h.ain (o := x1 + 10) (n := 420) (xoP_all tx1 (Q := fun p => p + 10 < 276) (by decide) (by decide) (by decide)) (xoP_all tx1 (Q := fun p => xl_t (p + 10) = (2, 3, 420)) rfl rfl rfl) (by decide) c109.1 c109.2) e111) ?_
                    intro M114 h112
                    exact s254_158 hI  hr2 hr99 h112 tx1 tx2 tx4 e
                  · rw [if_neg c109] at e; cases e
              · rw [if_neg c107] at e; cases e
            · rw [if_neg c106] at e; cases e
        · rw [if_neg c104] at e; cases e
    · rw [if_neg c102] at e; cases e
theorem s254_99 {m f : Nat} {M0 : xj_M} (hI : xHI f)  {r2 : Nat → Int → xG_ → Option (xG_)} {o2 : Nat → Nat → Int → xj_M → Option (xj_M)}  (hr2 : ∀ {M : xj_M} {G : xG_} {x1 : Nat} {x2 : Int} {R : xG_}, xRX m M0 M G → xoP x1 → xin x2 → r2 x1 x2 G = some R → xok (o2 m (m + x1) x2 M) (fun r => xRX m M0 r R)) : ∀ {n : Nat} {M : xj_M} {G : xG_} {x1 : Nat} {x2 : Int} {x4 : Int} {R : xG_}, xRX m M0 M G → xoP x1 → xin x2 → xin x4 → g254_99  r2 f n x1 x2 x4 G = some R → xok (f254_99  o2 f n m (m + x1) x2 x4 M) (fun r => xRX m M0 r R) := by
  intro n
  induction n with
  | zero => intros; rename_i e; cases e
  | succ n ih =>
    intros
    rename_i h i0 i1 i2 e
    exact s254_99b hI  hr2 ih h i0 i1 i2 e
theorem s254_15b {m f : Nat} {M0 M : xj_M} {G : xG_} (hI : xHI f)  {r2 : Nat → Int → xG_ → Option (xG_)} {o2 : Nat → Nat → Int → xj_M → Option (xj_M)} {r15 : Nat → Int → Int → Int → xG_ → Option (xG_)} {o15 : Nat → Nat → Int → Int → Int → xj_M → Option (xj_M)}  (hr2 : ∀ {M : xj_M} {G : xG_} {x1 : Nat} {x2 : Int} {R : xG_}, xRX m M0 M G → xoP x1 → xin x2 → r2 x1 x2 G = some R → xok (o2 m (m + x1) x2 M) (fun r => xRX m M0 r R)) (hr15 : ∀ {M : xj_M} {G : xG_} {x1 : Nat} {x2 : Int} {x3 : Int} {x4 : Int} {R : xG_}, xRX m M0 M G → xoP x1 → xin x2 → xin x3 → xin x4 → r15 x1 x2 x3 x4 G = some R → xok (o15 m (m + x1) x2 x3 x4 M) (fun r => xRX m M0 r R)) (h : xRX m M0 M G) {x1 : Nat} {x2 : Int} {x3 : Int} {x4 : Int} {R : xG_} (tx1 : xoP x1) (tx2 : xin x2) (tx3 : xin x3) (tx4 : xin x4) (e : g254_15b  r2 r15 f x1 x2 x3 x4 G = some R) : xok (f254_15b  o2 o15 f m (m + x1) x2 x3 x4 M) (fun r => xRX m M0 r R) := by
  unfold g254_15b at e
  unfold f254_15b
  refine xok_eqb (h.gi (o := x1) (c := 14) (k := 14) (n := 38) (xoP_o tx1).1 (xoP_o tx1).2 (by decide) (by decide)) ?_
  refine xok_ite (fun c115 => ?_) (fun c115 => ?_)
  · rw [if_pos c115] at e
    refine xok_ite (fun c116 => ?_) (fun c116 => ?_)
    · rw [if_pos c116] at e
      refine xok_eqb (h.pt (o := x1) (c := 14) (k := 1) (t := x1 + 2) (n := 38) (xoP_o tx1).1 (xoP_o tx1).2 (by decide) (xoP_all tx1 (Q := fun p => (p, 1, p + 2) ∈ xl_P) (by decide +kernel) (by decide +kernel) (by decide +kernel))) ?_
      refine xok_eqb (h.pt (o := x1) (c := 14) (k := 12) (t := x1 + 11) (n := 38) (xoP_o tx1).1 (xoP_o tx1).2 (by decide) (xoP_all tx1 (Q := fun p => (p, 12, p + 11) ∈ xl_P) (by decide +kernel) (by decide +kernel) (by decide +kernel))) ?_
      by_cases c117 : 0 ≤ (x3) ∧ (x3) < 420
      · skip
        rw [if_pos c117] at e
        refine xok_eqb (h.ai (o := x1 + 11) (n := 420) (xoP_all tx1 (Q := fun p => p + 11 < 276) (by decide) (by decide) (by decide)) (xoP_all tx1 (Q := fun p => xl_t (p + 11) = (2, 3, 420)) rfl rfl rfl) (by decide) c117.1 c117.2) ?_
        by_cases c118 : 0 ≤ (x2) ∧ (x2) < 16
        · skip
          rw [if_pos c118] at e
          obtain ⟨M119, q120, h121⟩ := h.si (o := x1 + 2) (n := 16) (v := G (x1 + 11) (x3).toNat) (xoP_all tx1 (Q := fun p => p + 2 < 276) (by decide) (by decide) (by decide)) (xoP_all tx1 (Q := fun p => xl_t (p + 2) = (2, 3, 16)) rfl rfl rfl) c118.1 c118.2 (h.ain (o := x1 + 11) (n := 420) (xoP_all tx1 (Q := fun p => p + 11 < 276) (by decide) (by decide) (by decide)) (xoP_all tx1 (Q := fun p => xl_t (p + 11) = (2, 3, 420)) rfl rfl rfl) (by decide) c117.1 c117.2)
          refine xok_eqb q120 ?_
          obtain ⟨G122, g1, e⟩ := xbnd e
          cases g1
          have h121_ : xRX m M0 M119 (xup2 G (x1 + 2) (x2).toNat (G (x1 + 11) (x3).toNat)) := h121
          generalize hGG122 : (xup2 G (x1 + 2) (x2).toNat (G (x1 + 11) (x3).toNat)) = G122 at e h121
          clear h121_ hGG122
          exact s254_99 hI  hr2 h121 tx1 tx2 (show xin (0) by decide) e
        · rw [if_neg c118] at e; cases e
      · rw [if_neg c117] at e; cases e
    · rw [if_neg c116] at e
      exact s254_164 hI  hr2 h tx1 tx2 e
  · rw [if_neg c115] at e
    refine xok_eqb (h.pt (o := x1) (c := 14) (k := 10) (t := x1 + 9) (n := 38) (xoP_o tx1).1 (xoP_o tx1).2 (by decide) (xoP_all tx1 (Q := fun p => (p, 10, p + 9) ∈ xl_P) (by decide +kernel) (by decide +kernel) (by decide +kernel))) ?_
    by_cases c123 : 0 ≤ (x4) ∧ (x4) < 420
    · skip
      rw [if_pos c123] at e
      refine xok_eqb (h.ai (o := x1 + 9) (n := 420) (xoP_all tx1 (Q := fun p => p + 9 < 276) (by decide) (by decide) (by decide)) (xoP_all tx1 (Q := fun p => xl_t (p + 9) = (2, 3, 420)) rfl rfl rfl) (by decide) c123.1 c123.2) ?_
      refine xok_ite (fun c124 => ?_) (fun c124 => ?_)
      · rw [if_pos c124] at e
        exact s254_70 hI  hr2 hr15 h tx1 tx2 tx3 tx4 e
      · rw [if_neg c124] at e
        refine xok_eqb (h.pt (o := x1) (c := 14) (k := 12) (t := x1 + 11) (n := 38) (xoP_o tx1).1 (xoP_o tx1).2 (by decide) (xoP_all tx1 (Q := fun p => (p, 12, p + 11) ∈ xl_P) (by decide +kernel) (by decide +kernel) (by decide +kernel))) ?_
        by_cases c125 : 0 ≤ (x4) ∧ (x4) < 420
        · skip
          rw [if_pos c125] at e
          refine xok_eqb (h.ai (o := x1 + 11) (n := 420) (xoP_all tx1 (Q := fun p => p + 11 < 276) (by decide) (by decide) (by decide)) (xoP_all tx1 (Q := fun p => xl_t (p + 11) = (2, 3, 420)) rfl rfl rfl) (by decide) c125.1 c125.2) ?_
          refine xok_ite (fun c126 => ?_) (fun c126 => ?_)
          · rw [if_pos c126] at e
            exact s254_70 hI  hr2 hr15 h tx1 tx2 tx3 tx4 e
          · rw [if_neg c126] at e
            refine xok_ite (fun c127 => ?_) (fun c127 => ?_)
            · rw [if_pos c127] at e
              exact s254_67 hI  hr2 hr15 h tx1 tx2 tx4 e
            · rw [if_neg c127] at e
              refine xok_eqb (h.pt (o := x1) (c := 14) (k := 11) (t := x1 + 10) (n := 38) (xoP_o tx1).1 (xoP_o tx1).2 (by decide) (xoP_all tx1 (Q := fun p => (p, 11, p + 10) ∈ xl_P) (by decide +kernel) (by decide +kernel) (by decide +kernel))) ?_
              by_cases c128 : 0 ≤ (x4) ∧ (x4) < 420
              · skip
                rw [if_pos c128] at e
                refine xok_eqb (h.ai (o := x1 + 10) (n := 420) (xoP_all tx1 (Q := fun p => p + 10 < 276) (by decide) (by decide) (by decide)) (xoP_all tx1 (Q := fun p => xl_t (p + 10) = (2, 3, 420)) rfl rfl rfl) (by decide) c128.1 c128.2) ?_
                refine xok_eqb (h.pt (o := x1) (c := 14) (k := 11) (t := x1 + 10) (n := 38) (xoP_o tx1).1 (xoP_o tx1).2 (by decide) (xoP_all tx1 (Q := fun p => (p, 11, p + 10) ∈ xl_P) (by decide +kernel) (by decide +kernel) (by decide +kernel))) ?_
                by_cases c129 : 0 ≤ (x3) ∧ (x3) < 420
                · skip
                  rw [if_pos c129] at e
                  refine xok_eqb (h.ai (o := x1 + 10) (n := 420) (xoP_all tx1 (Q := fun p => p + 10 < 276) (by decide) (by decide) (by decide)) (xoP_all tx1 (Q := fun p => xl_t (p + 10) = (2, 3, 420)) rfl rfl rfl) (by decide) c129.1 c129.2) ?_
                  refine xok_ite (fun c130 => ?_) (fun c130 => ?_)
                  · rw [if_pos c130] at e
                    exact s254_70 hI  hr2 hr15 h tx1 tx2 tx3 tx4 e
                  · rw [if_neg c130] at e
                    exact s254_67 hI  hr2 hr15 h tx1 tx2 tx4 e
                · rw [if_neg c129] at e; cases e
              · rw [if_neg c128] at e; cases e
        · rw [if_neg c125] at e; cases e
    · rw [if_neg c123] at e; cases e
theorem s254_15 {m f : Nat} {M0 : xj_M} (hI : xHI f)  {r2 : Nat → Int → xG_ → Option (xG_)} {o2 : Nat → Nat → Int → xj_M → Option (xj_M)}  (hr2 : ∀ {M : xj_M} {G : xG_} {x1 : Nat} {x2 : Int} {R : xG_}, xRX m M0 M G → xoP x1 → xin x2 → r2 x1 x2 G = some R → xok (o2 m (m + x1) x2 M) (fun r => xRX m M0 r R)) : ∀ {n : Nat} {M : xj_M} {G : xG_} {x1 : Nat} {x2 : Int} {x3 : Int} {x4 : Int} {R : xG_}, xRX m M0 M G → xoP x1 → xin x2 → xin x3 → xin x4 → g254_15  r2 f n x1 x2 x3 x4 G = some R → xok (f254_15  o2 f n m (m + x1) x2 x3 x4 M) (fun r => xRX m M0 r R) := by
  intro n
  induction n with
  | zero => intros; rename_i e; cases e
  | succ n ih =>
    intros
    rename_i h i0 i1 i2 i3 e
    exact s254_15b hI  hr2 ih h i0 i1 i2 i3 e
theorem s254_2b {m f : Nat} {M0 M : xj_M} {G : xG_} (hI : xHI f)  {r2 : Nat → Int → xG_ → Option (xG_)} {o2 : Nat → Nat → Int → xj_M → Option (xj_M)}  (hr2 : ∀ {M : xj_M} {G : xG_} {x1 : Nat} {x2 : Int} {R : xG_}, xRX m M0 M G → xoP x1 → xin x2 → r2 x1 x2 G = some R → xok (o2 m (m + x1) x2 M) (fun r => xRX m M0 r R)) (h : xRX m M0 M G) {x1 : Nat} {x2 : Int} {R : xG_} (tx1 : xoP x1) (tx2 : xin x2) (e : g254_2b  r2 f x1 x2 G = some R) : xok (f254_2b  o2 f m (m + x1) x2 M) (fun r => xRX m M0 r R) := by
  unfold g254_2b at e
  unfold f254_2b
  refine xok_eqb (h.gi (o := x1) (c := 14) (k := 8) (n := 38) (xoP_o tx1).1 (xoP_o tx1).2 (by decide) (by decide)) ?_
  refine xok_ite (fun c131 => ?_) (fun c131 => ?_)
  · rw [if_pos c131] at e
    cases e
    exact ⟨_, rfl, h⟩
  · rw [if_neg c131] at e
    exact s254_15 hI  hr2 h tx1 tx2 (show xin (-1) by decide) (show xin (0) by decide) e
theorem s254_2 {m f : Nat} {M0 : xj_M} (hI : xHI f)     : ∀ {n : Nat} {M : xj_M} {G : xG_} {x1 : Nat} {x2 : Int} {R : xG_}, xRX m M0 M G → xoP x1 → xin x2 → g254_2   f n x1 x2 G = some R → xok (f254_2   f n m (m + x1) x2 M) (fun r => xRX m M0 r R) := by
  intro n
  induction n with
  | zero => intros; rename_i e; cases e
  | succ n ih =>
    intros
    rename_i h i0 i1 e
    exact s254_2b hI   ih h i0 i1 e
theorem sg254 {m f : Nat} {M0 M : xj_M} {G : xG_} (hI : xHI f)   (h : xRX m M0 M G) {a1 : Nat} {R : xG_} (ta1 : xoP a1) (e : g254  f a1 G = some R) : xok (f254  f m (m + a1) M) (fun r => xRX m M0 r R) := by
  unfold g254 at e
  unfold f254
  exact s254_2 hI   h ta1 (show xin (0) by decide) e
