/-! The reference over what stands at its cells (written by mk_g.py) -/
-- ChangeHouseModel.workCells
theorem s354_125 {m f : Nat} {M0 M : xj_M} {G : xG_} (hI : xHI f)  {r2 : Nat → Int → Int → xG_ → Option (xG_)} {o2 : Nat → Nat → Int → Int → xj_M → Option (xj_M)}  (hr2 : ∀ {M : xj_M} {G : xG_} {x1 : Nat} {x2 : Int} {x3 : Int} {R : xG_}, xRX m M0 M G → xoL x1 → xin x2 → xin x3 → r2 x1 x2 x3 G = some R → xok (o2 m (m + x1) x2 x3 M) (fun r => xRX m M0 r R)) (h : xRX m M0 M G) {x1 : Nat} {x2 : Int} {x3 : Int} {R : xG_} (tx1 : xoL x1) (tx2 : xin x2) (tx3 : xin x3) (e : g354_125  r2 f x1 x2 x3 G = some R) : xok (f354_125  o2 f m (m + x1) x2 x3 M) (fun r => xRX m M0 r R) := by
  unfold g354_125 at e
  unfold f354_125
  exact hr2 h tx1 tx2 (xin_wr _) e
theorem s354_52 {m f : Nat} {M0 M : xj_M} {G : xG_} (hI : xHI f)  {r2 : Nat → Int → Int → xG_ → Option (xG_)} {o2 : Nat → Nat → Int → Int → xj_M → Option (xj_M)}  (hr2 : ∀ {M : xj_M} {G : xG_} {x1 : Nat} {x2 : Int} {x3 : Int} {R : xG_}, xRX m M0 M G → xoL x1 → xin x2 → xin x3 → r2 x1 x2 x3 G = some R → xok (o2 m (m + x1) x2 x3 M) (fun r => xRX m M0 r R)) (h : xRX m M0 M G) {x1 : Nat} {x2 : Int} {x3 : Int} {y0 : Int} {y1 : Int} {y2 : Nat} {R : xG_} (tx1 : xoL x1) (tx2 : xin x2) (tx3 : xin x3) (ty0 : xin y0) (ty1 : xin y1) (ty2 : xoZ y2) (e : g354_52  r2 f x1 x2 x3 y0 y1 y2 G = some R) : xok (f354_52  o2 f m (m + x1) x2 x3 y0 y1 (m + y2) M) (fun r => xRX m M0 r R) := by
  unfold g354_52 at e
  unfold f354_52
  by_cases c101 : 0 ≤ (y1) ∧ (y1) < ((xl_t (y2)).2.2 : Int) ∧ ((y0) = 0 ∨ (y0) = 1)
  · skip
    rw [if_pos c101] at e
    obtain ⟨M102, q103, h104⟩ := h.sb0 (o := y2) (n := (xl_t (y2)).2.2) (v := y0) ty2.1 ty2.2 c101.1 c101.2.1 c101.2.2
    refine xok_eqb q103 ?_
    obtain ⟨G105, g1, e⟩ := xbnd e
    cases g1
    have h104_ : xRX m M0 M102 (xup2 G (y2) (y1).toNat (y0)) := h104
    generalize hGG105 : (xup2 G (y2) (y1).toNat (y0)) = G105 at e h104
    clear h104_ hGG105
    refine xok_eqb (h104.pt (o := 0) (c := 15) (k := 97) (t := 268) (n := 107) (by decide) rfl (by decide) (by decide +kernel)) ?_
    by_cases c106 : 0 ≤ (x3) ∧ (x3) < 72
    · skip
      rw [if_pos c106] at e
      refine xok_eqb (h104.ab (o := 268) (n := 72) (by decide) rfl (by decide) c106.1 c106.2) ?_
      refine xok_ite (fun c107 => ?_) (fun c107 => ?_)
      · rw [if_pos c107] at e
        refine xok_eqb (h104.pt (o := x1) (c := 13) (k := 11) (t := x1 + 10) (n := 37) (xoL_o tx1).1 (xoL_o tx1).2 (by decide) (xoL_all tx1 (Q := fun p => (p, 11, p + 10) ∈ xl_P) (by decide +kernel) (by decide +kernel) (by decide +kernel) (by decide +kernel))) ?_
        refine xok_eqb (h104.gi (o := x1) (c := 13) (k := 16) (n := 37) (xoL_o tx1).1 (xoL_o tx1).2 (by decide) (by decide)) ?_
        refine xok_eqb (h104.gi (o := x1) (c := 13) (k := 2) (n := 37) (xoL_o tx1).1 (xoL_o tx1).2 (by decide) (by decide)) ?_
        by_cases c108 : 0 ≤ (G105 (x1) 16) ∧ (G105 (x1) 16) < 200
        · skip
          rw [if_pos c108] at e
          obtain ⟨M109, q110, h111⟩ := h104.si (o := x1 + 10) (n := 200) (v := G105 (x1) 2) (xoL_all tx1 (Q := fun p => p + 10 < 276) (by decide) (by decide) (by decide) (by decide)) (xoL_all tx1 (Q := fun p => xl_t (p + 10) = (2, 3, 200)) rfl rfl rfl rfl) c108.1 c108.2 (h104.gin (o := x1) (c := 13) (k := 2) (n := 37) (xoL_o tx1).1 (xoL_o tx1).2 (by decide) (by decide))
          refine xok_eqb q110 ?_
          obtain ⟨G112, g1, e⟩ := xbnd e
          cases g1
          have h111_ : xRX m M0 M109 (xup2 G105 (x1 + 10) (G105 (x1) 16).toNat (G105 (x1) 2)) := h111
          generalize hGG112 : (xup2 G105 (x1 + 10) (G105 (x1) 16).toNat (G105 (x1) 2)) = G112 at e h111
          clear h111_ hGG112
          refine xok_eqb (h111.pt (o := x1) (c := 13) (k := 12) (t := x1 + 11) (n := 37) (xoL_o tx1).1 (xoL_o tx1).2 (by decide) (xoL_all tx1 (Q := fun p => (p, 12, p + 11) ∈ xl_P) (by decide +kernel) (by decide +kernel) (by decide +kernel) (by decide +kernel))) ?_
          refine xok_eqb (h111.gi (o := x1) (c := 13) (k := 16) (n := 37) (xoL_o tx1).1 (xoL_o tx1).2 (by decide) (by decide)) ?_
          by_cases c113 : 0 ≤ (G112 (x1) 16) ∧ (G112 (x1) 16) < 200
          · skip
            rw [if_pos c113] at e
            obtain ⟨M114, q115, h116⟩ := h111.si (o := x1 + 11) (n := 200) (v := x3) (xoL_all tx1 (Q := fun p => p + 11 < 276) (by decide) (by decide) (by decide) (by decide)) (xoL_all tx1 (Q := fun p => xl_t (p + 11) = (2, 3, 200)) rfl rfl rfl rfl) c113.1 c113.2 tx3
            refine xok_eqb q115 ?_
            obtain ⟨G117, g1, e⟩ := xbnd e
            cases g1
            have h116_ : xRX m M0 M114 (xup2 G112 (x1 + 11) (G112 (x1) 16).toNat (x3)) := h116
            generalize hGG117 : (xup2 G112 (x1 + 11) (G112 (x1) 16).toNat (x3)) = G117 at e h116
            clear h116_ hGG117
            refine xok_eqb (h116.pt (o := x1) (c := 13) (k := 13) (t := x1 + 12) (n := 37) (xoL_o tx1).1 (xoL_o tx1).2 (by decide) (xoL_all tx1 (Q := fun p => (p, 13, p + 12) ∈ xl_P) (by decide +kernel) (by decide +kernel) (by decide +kernel) (by decide +kernel))) ?_
            refine xok_eqb (h116.gi (o := x1) (c := 13) (k := 16) (n := 37) (xoL_o tx1).1 (xoL_o tx1).2 (by decide) (by decide)) ?_
            refine xok_eqb (h116.pt (o := x1) (c := 13) (k := 18) (t := x1 + 15) (n := 37) (xoL_o tx1).1 (xoL_o tx1).2 (by decide) (xoL_all tx1 (Q := fun p => (p, 18, p + 15) ∈ xl_P) (by decide +kernel) (by decide +kernel) (by decide +kernel) (by decide +kernel))) ?_
            by_cases c118 : 0 ≤ (x3) ∧ (x3) < 72
            · skip
              rw [if_pos c118] at e
              refine xok_eqb (h116.ai (o := x1 + 15) (n := 72) (xoL_all tx1 (Q := fun p => p + 15 < 276) (by decide) (by decide) (by decide) (by decide)) (xoL_all tx1 (Q := fun p => xl_t (p + 15) = (2, 3, 72)) rfl rfl rfl rfl) (by decide) c118.1 c118.2) ?_
              by_cases c119 : 0 ≤ (G117 (x1) 16) ∧ (G117 (x1) 16) < 200
              · skip
                rw [if_pos c119] at e
                obtain ⟨M120, q121, h122⟩ := h116.si (o := x1 + 12) (n := 200) (v := G117 (x1 + 15) (x3).toNat) (xoL_all tx1 (Q := fun p => p + 12 < 276) (by decide) (by decide) (by decide) (by decide)) (xoL_all tx1 (Q := fun p => xl_t (p + 12) = (2, 3, 200)) rfl rfl rfl rfl) c119.1 c119.2 (h116.ain (o := x1 + 15) (n := 72) (xoL_all tx1 (Q := fun p => p + 15 < 276) (by decide) (by decide) (by decide) (by decide)) (xoL_all tx1 (Q := fun p => xl_t (p + 15) = (2, 3, 72)) rfl rfl rfl rfl) (by decide) c118.1 c118.2)
                refine xok_eqb q121 ?_
                obtain ⟨G123, g1, e⟩ := xbnd e
                cases g1
                have h122_ : xRX m M0 M120 (xup2 G117 (x1 + 12) (G117 (x1) 16).toNat (G117 (x1 + 15) (x3).toNat)) := h122
                generalize hGG123 : (xup2 G117 (x1 + 12) (G117 (x1) 16).toNat (G117 (x1 + 15) (x3).toNat)) = G123 at e h122
                clear h122_ hGG123
                refine xok_eqb (h122.gi (o := x1) (c := 13) (k := 16) (n := 37) (xoL_o tx1).1 (xoL_o tx1).2 (by decide) (by decide)) ?_
                obtain ⟨M124, q125, h126⟩ := h122.pi (v := xwr ((G123 (x1) 16) + (1))) (o := x1) (c := 13) (k := 16) (n := 37) (xoL_o tx1).1 (xoL_o tx1).2 (by decide) (by decide) (xin_wr _)
                refine xok_eqb q125 ?_
                obtain ⟨G127, g1, e⟩ := xbnd e
                cases g1
                have h126_ : xRX m M0 M124 (xup2 G123 (x1) 16 (xwr ((G123 (x1) 16) + (1)))) := h126
                generalize hGG127 : (xup2 G123 (x1) 16 (xwr ((G123 (x1) 16) + (1)))) = G127 at e h126
                clear h126_ hGG127
                refine xok_eqb (h126.pt (o := x1) (c := 13) (k := 18) (t := x1 + 15) (n := 37) (xoL_o tx1).1 (xoL_o tx1).2 (by decide) (xoL_all tx1 (Q := fun p => (p, 18, p + 15) ∈ xl_P) (by decide +kernel) (by decide +kernel) (by decide +kernel) (by decide +kernel))) ?_
                refine xok_eqb (h126.pt (o := x1) (c := 13) (k := 30) (t := x1 + 26) (n := 37) (xoL_o tx1).1 (xoL_o tx1).2 (by decide) (xoL_all tx1 (Q := fun p => (p, 30, p + 26) ∈ xl_P) (by decide +kernel) (by decide +kernel) (by decide +kernel) (by decide +kernel))) ?_
                by_cases c128 : 0 ≤ (x3) ∧ (x3) < 72
                · skip
                  rw [if_pos c128] at e
                  refine xok_eqb (h126.ai (o := x1 + 26) (n := 72) (xoL_all tx1 (Q := fun p => p + 26 < 276) (by decide) (by decide) (by decide) (by decide)) (xoL_all tx1 (Q := fun p => xl_t (p + 26) = (2, 3, 72)) rfl rfl rfl rfl) (by decide) c128.1 c128.2) ?_
                  by_cases c129 : 0 ≤ (x3) ∧ (x3) < 72
                  · skip
                    rw [if_pos c129] at e
                    obtain ⟨M130, q131, h132⟩ := h126.si (o := x1 + 15) (n := 72) (v := G127 (x1 + 26) (x3).toNat) (xoL_all tx1 (Q := fun p => p + 15 < 276) (by decide) (by decide) (by decide) (by decide)) (xoL_all tx1 (Q := fun p => xl_t (p + 15) = (2, 3, 72)) rfl rfl rfl rfl) c129.1 c129.2 (h126.ain (o := x1 + 26) (n := 72) (xoL_all tx1 (Q := fun p => p + 26 < 276) (by decide) (by decide) (by decide) (by decide)) (xoL_all tx1 (Q := fun p => xl_t (p + 26) = (2, 3, 72)) rfl rfl rfl rfl) (by decide) c128.1 c128.2)
                    refine xok_eqb q131 ?_
                    obtain ⟨G133, g1, e⟩ := xbnd e
                    cases g1
                    have h132_ : xRX m M0 M130 (xup2 G127 (x1 + 15) (x3).toNat (G127 (x1 + 26) (x3).toNat)) := h132
                    generalize hGG133 : (xup2 G127 (x1 + 15) (x3).toNat (G127 (x1 + 26) (x3).toNat)) = G133 at e h132
                    clear h132_ hGG133
                    exact s354_125 hI  hr2 h132 tx1 tx2 tx3 e
                  · rw [if_neg c129] at e; cases e
                · rw [if_neg c128] at e; cases e
              · rw [if_neg c119] at e; cases e
            · rw [if_neg c118] at e; cases e
          · rw [if_neg c113] at e; cases e
        · rw [if_neg c108] at e; cases e
      · rw [if_neg c107] at e
        exact s354_125 hI  hr2 h104 tx1 tx2 tx3 e
    · rw [if_neg c106] at e; cases e
  · rw [if_neg c101] at e; cases e
theorem s354_346 {m f : Nat} {M0 M : xj_M} {G : xG_} (hI : xHI f)  {r138 : Nat → Int → Int → xG_ → Option (xG_)} {o138 : Nat → Nat → Int → Int → xj_M → Option (xj_M)}  (hr138 : ∀ {M : xj_M} {G : xG_} {x1 : Nat} {x2 : Int} {x3 : Int} {R : xG_}, xRX m M0 M G → xoL x1 → xin x2 → xin x3 → r138 x1 x2 x3 G = some R → xok (o138 m (m + x1) x2 x3 M) (fun r => xRX m M0 r R)) (h : xRX m M0 M G) {x1 : Nat} {x2 : Int} {x3 : Int} {R : xG_} (tx1 : xoL x1) (tx2 : xin x2) (tx3 : xin x3) (e : g354_346  r138 f x1 x2 x3 G = some R) : xok (f354_346  o138 f m (m + x1) x2 x3 M) (fun r => xRX m M0 r R) := by
  unfold g354_346 at e
  unfold f354_346
  exact hr138 h tx1 tx2 (xin_wr _) e
theorem s354_260 {m f : Nat} {M0 M : xj_M} {G : xG_} (hI : xHI f)  {r138 : Nat → Int → Int → xG_ → Option (xG_)} {o138 : Nat → Nat → Int → Int → xj_M → Option (xj_M)} {r188 : Nat → Int → Int → Int → Int → xG_ → Option (xG_)} {o188 : Nat → Nat → Int → Int → Int → Int → xj_M → Option (xj_M)}  (hr138 : ∀ {M : xj_M} {G : xG_} {x1 : Nat} {x2 : Int} {x3 : Int} {R : xG_}, xRX m M0 M G → xoL x1 → xin x2 → xin x3 → r138 x1 x2 x3 G = some R → xok (o138 m (m + x1) x2 x3 M) (fun r => xRX m M0 r R)) (hr188 : ∀ {M : xj_M} {G : xG_} {x1 : Nat} {x2 : Int} {x3 : Int} {x4 : Int} {x5 : Int} {R : xG_}, xRX m M0 M G → xoL x1 → xin x2 → xin x3 → xin x4 → xin x5 → r188 x1 x2 x3 x4 x5 G = some R → xok (o188 m (m + x1) x2 x3 x4 x5 M) (fun r => xRX m M0 r R)) (h : xRX m M0 M G) {x1 : Nat} {x2 : Int} {x3 : Int} {x5 : Int} {y0 : Int} {R : xG_} (tx1 : xoL x1) (tx2 : xin x2) (tx3 : xin x3) (tx5 : xin x5) (ty0 : xin y0) (e : g354_260  r138 r188 f x1 x2 x3 x5 y0 G = some R) : xok (f354_260  o138 o188 f m (m + x1) x2 x3 x5 y0 M) (fun r => xRX m M0 r R) := by
  unfold g354_260 at e
  unfold f354_260
  exact hr188 h tx1 tx2 tx3 ty0 (xin_wr _) e
theorem s354_255 {m f : Nat} {M0 M : xj_M} {G : xG_} (hI : xHI f)  {r138 : Nat → Int → Int → xG_ → Option (xG_)} {o138 : Nat → Nat → Int → Int → xj_M → Option (xj_M)} {r188 : Nat → Int → Int → Int → Int → xG_ → Option (xG_)} {o188 : Nat → Nat → Int → Int → Int → Int → xj_M → Option (xj_M)}  (hr138 : ∀ {M : xj_M} {G : xG_} {x1 : Nat} {x2 : Int} {x3 : Int} {R : xG_}, xRX m M0 M G → xoL x1 → xin x2 → xin x3 → r138 x1 x2 x3 G = some R → xok (o138 m (m + x1) x2 x3 M) (fun r => xRX m M0 r R)) (hr188 : ∀ {M : xj_M} {G : xG_} {x1 : Nat} {x2 : Int} {x3 : Int} {x4 : Int} {x5 : Int} {R : xG_}, xRX m M0 M G → xoL x1 → xin x2 → xin x3 → xin x4 → xin x5 → r188 x1 x2 x3 x4 x5 G = some R → xok (o188 m (m + x1) x2 x3 x4 x5 M) (fun r => xRX m M0 r R)) (h : xRX m M0 M G) {x1 : Nat} {x2 : Int} {x3 : Int} {x5 : Int} {R : xG_} (tx1 : xoL x1) (tx2 : xin x2) (tx3 : xin x3) (tx5 : xin x5) (e : g354_255  r138 r188 f x1 x2 x3 x5 G = some R) : xok (f354_255  o138 o188 f m (m + x1) x2 x3 x5 M) (fun r => xRX m M0 r R) := by
  unfold g354_255 at e
  unfold f354_255
  exact s354_260 hI  hr138 hr188 h tx1 tx2 tx3 tx5 (show xin (1) by decide) e
theorem s354_259 {m f : Nat} {M0 M : xj_M} {G : xG_} (hI : xHI f)  {r138 : Nat → Int → Int → xG_ → Option (xG_)} {o138 : Nat → Nat → Int → Int → xj_M → Option (xj_M)} {r188 : Nat → Int → Int → Int → Int → xG_ → Option (xG_)} {o188 : Nat → Nat → Int → Int → Int → Int → xj_M → Option (xj_M)}  (hr138 : ∀ {M : xj_M} {G : xG_} {x1 : Nat} {x2 : Int} {x3 : Int} {R : xG_}, xRX m M0 M G → xoL x1 → xin x2 → xin x3 → r138 x1 x2 x3 G = some R → xok (o138 m (m + x1) x2 x3 M) (fun r => xRX m M0 r R)) (hr188 : ∀ {M : xj_M} {G : xG_} {x1 : Nat} {x2 : Int} {x3 : Int} {x4 : Int} {x5 : Int} {R : xG_}, xRX m M0 M G → xoL x1 → xin x2 → xin x3 → xin x4 → xin x5 → r188 x1 x2 x3 x4 x5 G = some R → xok (o188 m (m + x1) x2 x3 x4 x5 M) (fun r => xRX m M0 r R)) (h : xRX m M0 M G) {x1 : Nat} {x2 : Int} {x3 : Int} {x5 : Int} {R : xG_} (tx1 : xoL x1) (tx2 : xin x2) (tx3 : xin x3) (tx5 : xin x5) (e : g354_259  r138 r188 f x1 x2 x3 x5 G = some R) : xok (f354_259  o138 o188 f m (m + x1) x2 x3 x5 M) (fun r => xRX m M0 r R) := by
  unfold g354_259 at e
  unfold f354_259
  exact s354_260 hI  hr138 hr188 h tx1 tx2 tx3 tx5 (show xin (0) by decide) e
theorem s354_319 {m f : Nat} {M0 M : xj_M} {G : xG_} (hI : xHI f)  {r138 : Nat → Int → Int → xG_ → Option (xG_)} {o138 : Nat → Nat → Int → Int → xj_M → Option (xj_M)} {r271 : Nat → Int → Int → Int → Int → xG_ → Option (xG_)} {o271 : Nat → Nat → Int → Int → Int → Int → xj_M → Option (xj_M)}  (hr138 : ∀ {M : xj_M} {G : xG_} {x1 : Nat} {x2 : Int} {x3 : Int} {R : xG_}, xRX m M0 M G → xoL x1 → xin x2 → xin x3 → r138 x1 x2 x3 G = some R → xok (o138 m (m + x1) x2 x3 M) (fun r => xRX m M0 r R)) (hr271 : ∀ {M : xj_M} {G : xG_} {x1 : Nat} {x2 : Int} {x3 : Int} {x4 : Int} {x5 : Int} {R : xG_}, xRX m M0 M G → xoL x1 → xin x2 → xin x3 → xin x4 → xin x5 → r271 x1 x2 x3 x4 x5 G = some R → xok (o271 m (m + x1) x2 x3 x4 x5 M) (fun r => xRX m M0 r R)) (h : xRX m M0 M G) {x1 : Nat} {x2 : Int} {x3 : Int} {x5 : Int} {y0 : Int} {R : xG_} (tx1 : xoL x1) (tx2 : xin x2) (tx3 : xin x3) (tx5 : xin x5) (ty0 : xin y0) (e : g354_319  r138 r271 f x1 x2 x3 x5 y0 G = some R) : xok (f354_319  o138 o271 f m (m + x1) x2 x3 x5 y0 M) (fun r => xRX m M0 r R) := by
  unfold g354_319 at e
  unfold f354_319
  exact hr271 h tx1 tx2 tx3 ty0 (xin_wr _) e
theorem s354_314 {m f : Nat} {M0 M : xj_M} {G : xG_} (hI : xHI f)  {r138 : Nat → Int → Int → xG_ → Option (xG_)} {o138 : Nat → Nat → Int → Int → xj_M → Option (xj_M)} {r271 : Nat → Int → Int → Int → Int → xG_ → Option (xG_)} {o271 : Nat → Nat → Int → Int → Int → Int → xj_M → Option (xj_M)}  (hr138 : ∀ {M : xj_M} {G : xG_} {x1 : Nat} {x2 : Int} {x3 : Int} {R : xG_}, xRX m M0 M G → xoL x1 → xin x2 → xin x3 → r138 x1 x2 x3 G = some R → xok (o138 m (m + x1) x2 x3 M) (fun r => xRX m M0 r R)) (hr271 : ∀ {M : xj_M} {G : xG_} {x1 : Nat} {x2 : Int} {x3 : Int} {x4 : Int} {x5 : Int} {R : xG_}, xRX m M0 M G → xoL x1 → xin x2 → xin x3 → xin x4 → xin x5 → r271 x1 x2 x3 x4 x5 G = some R → xok (o271 m (m + x1) x2 x3 x4 x5 M) (fun r => xRX m M0 r R)) (h : xRX m M0 M G) {x1 : Nat} {x2 : Int} {x3 : Int} {x5 : Int} {R : xG_} (tx1 : xoL x1) (tx2 : xin x2) (tx3 : xin x3) (tx5 : xin x5) (e : g354_314  r138 r271 f x1 x2 x3 x5 G = some R) : xok (f354_314  o138 o271 f m (m + x1) x2 x3 x5 M) (fun r => xRX m M0 r R) := by
  unfold g354_314 at e
  unfold f354_314
  exact s354_319 hI  hr138 hr271 h tx1 tx2 tx3 tx5 (show xin (1) by decide) e
theorem s354_318 {m f : Nat} {M0 M : xj_M} {G : xG_} (hI : xHI f)  {r138 : Nat → Int → Int → xG_ → Option (xG_)} {o138 : Nat → Nat → Int → Int → xj_M → Option (xj_M)} {r271 : Nat → Int → Int → Int → Int → xG_ → Option (xG_)} {o271 : Nat → Nat → Int → Int → Int → Int → xj_M → Option (xj_M)}  (hr138 : ∀ {M : xj_M} {G : xG_} {x1 : Nat} {x2 : Int} {x3 : Int} {R : xG_}, xRX m M0 M G → xoL x1 → xin x2 → xin x3 → r138 x1 x2 x3 G = some R → xok (o138 m (m + x1) x2 x3 M) (fun r => xRX m M0 r R)) (hr271 : ∀ {M : xj_M} {G : xG_} {x1 : Nat} {x2 : Int} {x3 : Int} {x4 : Int} {x5 : Int} {R : xG_}, xRX m M0 M G → xoL x1 → xin x2 → xin x3 → xin x4 → xin x5 → r271 x1 x2 x3 x4 x5 G = some R → xok (o271 m (m + x1) x2 x3 x4 x5 M) (fun r => xRX m M0 r R)) (h : xRX m M0 M G) {x1 : Nat} {x2 : Int} {x3 : Int} {x5 : Int} {R : xG_} (tx1 : xoL x1) (tx2 : xin x2) (tx3 : xin x3) (tx5 : xin x5) (e : g354_318  r138 r271 f x1 x2 x3 x5 G = some R) : xok (f354_318  o138 o271 f m (m + x1) x2 x3 x5 M) (fun r => xRX m M0 r R) := by
  unfold g354_318 at e
  unfold f354_318
  exact s354_319 hI  hr138 hr271 h tx1 tx2 tx3 tx5 (show xin (0) by decide) e
theorem s354_344 {m f : Nat} {M0 M : xj_M} {G : xG_} (hI : xHI f)  {r138 : Nat → Int → Int → xG_ → Option (xG_)} {o138 : Nat → Nat → Int → Int → xj_M → Option (xj_M)}  (hr138 : ∀ {M : xj_M} {G : xG_} {x1 : Nat} {x2 : Int} {x3 : Int} {R : xG_}, xRX m M0 M G → xoL x1 → xin x2 → xin x3 → r138 x1 x2 x3 G = some R → xok (o138 m (m + x1) x2 x3 M) (fun r => xRX m M0 r R)) (h : xRX m M0 M G) {x1 : Nat} {x2 : Int} {x3 : Int} {y0 : Int} {y1 : Int} {y2 : Int} {y3 : Nat} {R : xG_} (tx1 : xoL x1) (tx2 : xin x2) (tx3 : xin x3) (ty0 : xin y0) (ty1 : xin y1) (ty2 : xin y2) (ty3 : xoI y3) (e : g354_344  r138 f x1 x2 x3 y0 y1 y2 y3 G = some R) : xok (f354_344  o138 f m (m + x1) x2 x3 y0 y1 y2 (m + y3) M) (fun r => xRX m M0 r R) := by
  unfold g354_344 at e
  unfold f354_344
  by_cases c134 : 0 ≤ (y2) ∧ (y2) < ((xl_t (y3)).2.2 : Int)
  · skip
    rw [if_pos c134] at e
    obtain ⟨M135, q136, h137⟩ := h.si (o := y3) (n := (xl_t (y3)).2.2) (v := xwr ((y1) + (y0))) ty3.1 ty3.2 c134.1 c134.2 (xin_wr _)
    refine xok_eqb q136 ?_
    obtain ⟨G138, g1, e⟩ := xbnd e
    cases g1
    have h137_ : xRX m M0 M135 (xup2 G (y3) (y2).toNat (xwr ((y1) + (y0)))) := h137
    generalize hGG138 : (xup2 G (y3) (y2).toNat (xwr ((y1) + (y0)))) = G138 at e h137
    clear h137_ hGG138
    exact s354_346 hI  hr138 h137 tx1 tx2 tx3 e
  · rw [if_neg c134] at e; cases e
theorem s354_271b {m f : Nat} {M0 M : xj_M} {G : xG_} (hI : xHI f)  {r138 : Nat → Int → Int → xG_ → Option (xG_)} {o138 : Nat → Nat → Int → Int → xj_M → Option (xj_M)} {r271 : Nat → Int → Int → Int → Int → xG_ → Option (xG_)} {o271 : Nat → Nat → Int → Int → Int → Int → xj_M → Option (xj_M)}  (hr138 : ∀ {M : xj_M} {G : xG_} {x1 : Nat} {x2 : Int} {x3 : Int} {R : xG_}, xRX m M0 M G → xoL x1 → xin x2 → xin x3 → r138 x1 x2 x3 G = some R → xok (o138 m (m + x1) x2 x3 M) (fun r => xRX m M0 r R)) (hr271 : ∀ {M : xj_M} {G : xG_} {x1 : Nat} {x2 : Int} {x3 : Int} {x4 : Int} {x5 : Int} {R : xG_}, xRX m M0 M G → xoL x1 → xin x2 → xin x3 → xin x4 → xin x5 → r271 x1 x2 x3 x4 x5 G = some R → xok (o271 m (m + x1) x2 x3 x4 x5 M) (fun r => xRX m M0 r R)) (h : xRX m M0 M G) {x1 : Nat} {x2 : Int} {x3 : Int} {x4 : Int} {x5 : Int} {R : xG_} (tx1 : xoL x1) (tx2 : xin x2) (tx3 : xin x3) (tx4 : xin x4) (tx5 : xin x5) (e : g354_271b  r138 r271 f x1 x2 x3 x4 x5 G = some R) : xok (f354_271b  o138 o271 f m (m + x1) x2 x3 x4 x5 M) (fun r => xRX m M0 r R) := by
  unfold g354_271b at e
  unfold f354_271b
  refine xok_eqb (h.pt (o := 0) (c := 15) (k := 29) (t := 2) (n := 107) (by decide) rfl (by decide) (by decide +kernel)) ?_
  refine xok_eqb (h.gi (o := 2) (c := 14) (k := 8) (n := 38) (xoP_o (show xoP 2 by unfold xoP; omega)).1 (xoP_o (show xoP 2 by unfold xoP; omega)).2 (by decide) (by decide)) ?_
  refine xok_ite (fun c139 => ?_) (fun c139 => ?_)
  · rw [if_pos c139] at e
    refine xok_eqb (h.pt (o := x1) (c := 13) (k := 19) (t := x1 + 16) (n := 37) (xoL_o tx1).1 (xoL_o tx1).2 (by decide) (xoL_all tx1 (Q := fun p => (p, 19, p + 16) ∈ xl_P) (by decide +kernel) (by decide +kernel) (by decide +kernel) (by decide +kernel))) ?_
    by_cases c140 : 0 ≤ (x3) ∧ (x3) < 72
    · skip
      rw [if_pos c140] at e
      refine xok_eqb (h.ai (o := x1 + 16) (n := 72) (xoL_all tx1 (Q := fun p => p + 16 < 276) (by decide) (by decide) (by decide) (by decide)) (xoL_all tx1 (Q := fun p => xl_t (p + 16) = (2, 3, 72)) rfl rfl rfl rfl) (by decide) c140.1 c140.2) ?_
      refine xok_ite (fun c141 => ?_) (fun c141 => ?_)
      · rw [if_pos c141] at e
        exact s354_344 hI  hr138 h tx1 tx2 tx3 (show xin (0) by decide) (h.ain (o := x1 + 16) (n := 72) (xoL_all tx1 (Q := fun p => p + 16 < 276) (by decide) (by decide) (by decide) (by decide)) (xoL_all tx1 (Q := fun p => xl_t (p + 16) = (2, 3, 72)) rfl rfl rfl rfl) (by decide) c140.1 c140.2) tx3 (xoL_all tx1 (Q := fun p => xoI (p + 16)) ⟨by decide, rfl⟩ ⟨by decide, rfl⟩ ⟨by decide, rfl⟩ ⟨by decide, rfl⟩) e
      · rw [if_neg c141] at e
        exact s354_344 hI  hr138 h tx1 tx2 tx3 (show xin (1) by decide) (h.ain (o := x1 + 16) (n := 72) (xoL_all tx1 (Q := fun p => p + 16 < 276) (by decide) (by decide) (by decide) (by decide)) (xoL_all tx1 (Q := fun p => xl_t (p + 16) = (2, 3, 72)) rfl rfl rfl rfl) (by decide) c140.1 c140.2) tx3 (xoL_all tx1 (Q := fun p => xoI (p + 16)) ⟨by decide, rfl⟩ ⟨by decide, rfl⟩ ⟨by decide, rfl⟩ ⟨by decide, rfl⟩) e
    · rw [if_neg c140] at e; cases e
  · rw [if_neg c139] at e
    refine xok_ite (fun c142 => ?_) (fun c142 => ?_)
    · rw [if_pos c142] at e
      exact s354_314 hI  hr138 hr271 h tx1 tx2 tx3 tx5 e
    · rw [if_neg c142] at e
      refine xok_eqb (h.pt (o := 0) (c := 15) (k := 94) (t := 265) (n := 107) (by decide) rfl (by decide) (by decide +kernel)) ?_
      by_cases c143 : 0 ≤ (x3) ∧ (x3) < 72
      · skip
        rw [if_pos c143] at e
        refine xok_eqb (h.ai (o := 265) (n := 72) (by decide) rfl (by decide) c143.1 c143.2) ?_
        refine xok_ite (fun c144 => ?_) (fun c144 => ?_)
        · rw [if_pos c144] at e
          exact s354_318 hI  hr138 hr271 h tx1 tx2 tx3 tx5 e
        · rw [if_neg c144] at e
          refine xok_eqb (h.pt (o := x1) (c := 13) (k := 22) (t := x1 + 19) (n := 37) (xoL_o tx1).1 (xoL_o tx1).2 (by decide) (xoL_all tx1 (Q := fun p => (p, 22, p + 19) ∈ xl_P) (by decide +kernel) (by decide +kernel) (by decide +kernel) (by decide +kernel))) ?_
          by_cases c145 : 0 ≤ (x5) ∧ (x5) < 16
          · skip
            rw [if_pos c145] at e
            refine xok_eqb (h.ai (o := x1 + 19) (n := 16) (xoL_all tx1 (Q := fun p => p + 19 < 276) (by decide) (by decide) (by decide) (by decide)) (xoL_all tx1 (Q := fun p => xl_t (p + 19) = (2, 3, 16)) rfl rfl rfl rfl) (by decide) c145.1 c145.2) ?_
            refine xok_ite (fun c146 => ?_) (fun c146 => ?_)
            · rw [if_pos c146] at e
              exact s354_318 hI  hr138 hr271 h tx1 tx2 tx3 tx5 e
            · rw [if_neg c146] at e
              exact s354_314 hI  hr138 hr271 h tx1 tx2 tx3 tx5 e
          · rw [if_neg c145] at e; cases e
      · rw [if_neg c143] at e; cases e
theorem s354_271 {m f : Nat} {M0 : xj_M} (hI : xHI f)  {r138 : Nat → Int → Int → xG_ → Option (xG_)} {o138 : Nat → Nat → Int → Int → xj_M → Option (xj_M)}  (hr138 : ∀ {M : xj_M} {G : xG_} {x1 : Nat} {x2 : Int} {x3 : Int} {R : xG_}, xRX m M0 M G → xoL x1 → xin x2 → xin x3 → r138 x1 x2 x3 G = some R → xok (o138 m (m + x1) x2 x3 M) (fun r => xRX m M0 r R)) : ∀ {n : Nat} {M : xj_M} {G : xG_} {x1 : Nat} {x2 : Int} {x3 : Int} {x4 : Int} {x5 : Int} {R : xG_}, xRX m M0 M G → xoL x1 → xin x2 → xin x3 → xin x4 → xin x5 → g354_271  r138 f n x1 x2 x3 x4 x5 G = some R → xok (f354_271  o138 f n m (m + x1) x2 x3 x4 x5 M) (fun r => xRX m M0 r R) := by
  intro n
  induction n with
  | zero => intros; rename_i e; cases e
  | succ n ih =>
    intros
    rename_i h i0 i1 i2 i3 i4 e
    exact s354_271b hI  hr138 ih h i0 i1 i2 i3 i4 e
theorem s354_188b {m f : Nat} {M0 M : xj_M} {G : xG_} (hI : xHI f)  {r138 : Nat → Int → Int → xG_ → Option (xG_)} {o138 : Nat → Nat → Int → Int → xj_M → Option (xj_M)} {r188 : Nat → Int → Int → Int → Int → xG_ → Option (xG_)} {o188 : Nat → Nat → Int → Int → Int → Int → xj_M → Option (xj_M)}  (hr138 : ∀ {M : xj_M} {G : xG_} {x1 : Nat} {x2 : Int} {x3 : Int} {R : xG_}, xRX m M0 M G → xoL x1 → xin x2 → xin x3 → r138 x1 x2 x3 G = some R → xok (o138 m (m + x1) x2 x3 M) (fun r => xRX m M0 r R)) (hr188 : ∀ {M : xj_M} {G : xG_} {x1 : Nat} {x2 : Int} {x3 : Int} {x4 : Int} {x5 : Int} {R : xG_}, xRX m M0 M G → xoL x1 → xin x2 → xin x3 → xin x4 → xin x5 → r188 x1 x2 x3 x4 x5 G = some R → xok (o188 m (m + x1) x2 x3 x4 x5 M) (fun r => xRX m M0 r R)) (h : xRX m M0 M G) {x1 : Nat} {x2 : Int} {x3 : Int} {x4 : Int} {x5 : Int} {R : xG_} (tx1 : xoL x1) (tx2 : xin x2) (tx3 : xin x3) (tx4 : xin x4) (tx5 : xin x5) (e : g354_188b  r138 r188 f x1 x2 x3 x4 x5 G = some R) : xok (f354_188b  o138 o188 f m (m + x1) x2 x3 x4 x5 M) (fun r => xRX m M0 r R) := by
  unfold g354_188b at e
  unfold f354_188b
  refine xok_ite (fun c147 => ?_) (fun c147 => ?_)
  · rw [if_pos c147] at e
    exact s354_271 hI  hr138 h tx1 tx2 tx3 tx4 (show xin (0) by decide) e
  · rw [if_neg c147] at e
    refine xok_ite (fun c148 => ?_) (fun c148 => ?_)
    · rw [if_pos c148] at e
      exact s354_255 hI  hr138 hr188 h tx1 tx2 tx3 tx5 e
    · rw [if_neg c148] at e
      refine xok_eqb (h.pt (o := 0) (c := 15) (k := 92) (t := 263) (n := 107) (by decide) rfl (by decide) (by decide +kernel)) ?_
      by_cases c149 : 0 ≤ (x3) ∧ (x3) < 72
      · skip
        rw [if_pos c149] at e
        refine xok_eqb (h.al (o := 263) (n := 72) (by decide) rfl  c149.1 c149.2) ?_
        refine xok_eqb (h.pt (o := 0) (c := 15) (k := 93) (t := 264) (n := 107) (by decide) rfl (by decide) (by decide +kernel)) ?_
        by_cases c150 : 0 ≤ (x3) ∧ (x3) < 72
        · skip
          rw [if_pos c150] at e
          refine xok_eqb (h.al (o := 264) (n := 72) (by decide) rfl  c150.1 c150.2) ?_
          obtain ⟨R151, e152, e⟩ := xbnd e
          refine xok_call (sg343 hI  h (h.aln (o := 263) (n := 72) (by decide) rfl  c149.1 c149.2) (h.aln (o := 264) (n := 72) (by decide) rfl  c150.1 c150.2) tx5 e152) ?_
          rintro ⟨v_, M155⟩ ⟨hv_, h153, hi154⟩
          cases hv_
          refine xok_ite (fun c156 => ?_) (fun c156 => ?_)
          · rw [if_pos c156] at e
            exact s354_259 hI  hr138 hr188 h153 tx1 tx2 tx3 tx5 e
          · rw [if_neg c156] at e
            refine xok_eqb (h153.pt (o := x1) (c := 13) (k := 20) (t := x1 + 17) (n := 37) (xoL_o tx1).1 (xoL_o tx1).2 (by decide) (xoL_all tx1 (Q := fun p => (p, 20, p + 17) ∈ xl_P) (by decide +kernel) (by decide +kernel) (by decide +kernel) (by decide +kernel))) ?_
            by_cases c157 : 0 ≤ (x5) ∧ (x5) < 72
            · skip
              rw [if_pos c157] at e
              refine xok_eqb (h153.ai (o := x1 + 17) (n := 72) (xoL_all tx1 (Q := fun p => p + 17 < 276) (by decide) (by decide) (by decide) (by decide)) (xoL_all tx1 (Q := fun p => xl_t (p + 17) = (2, 3, 72)) rfl rfl rfl rfl) (by decide) c157.1 c157.2) ?_
              refine xok_eqb (h153.pt (o := 0) (c := 15) (k := 78) (t := 251) (n := 107) (by decide) rfl (by decide) (by decide +kernel)) ?_
              by_cases c158 : 0 ≤ (x5) ∧ (x5) < 72
              · skip
                rw [if_pos c158] at e
                refine xok_eqb (h153.ai (o := 251) (n := 72) (by decide) rfl (by decide) c158.1 c158.2) ?_
                refine xok_ite (fun c159 => ?_) (fun c159 => ?_)
                · rw [if_pos c159] at e
                  exact s354_255 hI  hr138 hr188 h153 tx1 tx2 tx3 tx5 e
                · rw [if_neg c159] at e
                  refine xok_eqb (h153.pt (o := x1) (c := 13) (k := 23) (t := x1 + 20) (n := 37) (xoL_o tx1).1 (xoL_o tx1).2 (by decide) (xoL_all tx1 (Q := fun p => (p, 23, p + 20) ∈ xl_P) (by decide +kernel) (by decide +kernel) (by decide +kernel) (by decide +kernel))) ?_
                  by_cases c160 : 0 ≤ (x5) ∧ (x5) < 72
                  · skip
                    rw [if_pos c160] at e
                    refine xok_eqb (h153.al (o := x1 + 20) (n := 72) (xoL_all tx1 (Q := fun p => p + 20 < 276) (by decide) (by decide) (by decide) (by decide)) (xoL_all tx1 (Q := fun p => xl_t (p + 20) = (2, 4, 72)) rfl rfl rfl rfl)  c160.1 c160.2) ?_
                    refine xok_eqb (h153.pt (o := 0) (c := 15) (k := 79) (t := 252) (n := 107) (by decide) rfl (by decide) (by decide +kernel)) ?_
                    by_cases c161 : 0 ≤ (x5) ∧ (x5) < 72
                    · skip
                      rw [if_pos c161] at e
                      refine xok_eqb (h153.al (o := 252) (n := 72) (by decide) rfl  c161.1 c161.2) ?_
                      refine xok_ite (fun c162 => ?_) (fun c162 => ?_)
                      · rw [if_pos c162] at e
                        exact s354_259 hI  hr138 hr188 h153 tx1 tx2 tx3 tx5 e
                      · rw [if_neg c162] at e
                        exact s354_255 hI  hr138 hr188 h153 tx1 tx2 tx3 tx5 e
                    · rw [if_neg c161] at e; cases e
                  · rw [if_neg c160] at e; cases e
              · rw [if_neg c158] at e; cases e
            · rw [if_neg c157] at e; cases e
        · rw [if_neg c150] at e; cases e
      · rw [if_neg c149] at e; cases e
theorem s354_188 {m f : Nat} {M0 : xj_M} (hI : xHI f)  {r138 : Nat → Int → Int → xG_ → Option (xG_)} {o138 : Nat → Nat → Int → Int → xj_M → Option (xj_M)}  (hr138 : ∀ {M : xj_M} {G : xG_} {x1 : Nat} {x2 : Int} {x3 : Int} {R : xG_}, xRX m M0 M G → xoL x1 → xin x2 → xin x3 → r138 x1 x2 x3 G = some R → xok (o138 m (m + x1) x2 x3 M) (fun r => xRX m M0 r R)) : ∀ {n : Nat} {M : xj_M} {G : xG_} {x1 : Nat} {x2 : Int} {x3 : Int} {x4 : Int} {x5 : Int} {R : xG_}, xRX m M0 M G → xoL x1 → xin x2 → xin x3 → xin x4 → xin x5 → g354_188  r138 f n x1 x2 x3 x4 x5 G = some R → xok (f354_188  o138 f n m (m + x1) x2 x3 x4 x5 M) (fun r => xRX m M0 r R) := by
  intro n
  induction n with
  | zero => intros; rename_i e; cases e
  | succ n ih =>
    intros
    rename_i h i0 i1 i2 i3 i4 e
    exact s354_188b hI  hr138 ih h i0 i1 i2 i3 i4 e
theorem s354_183 {m f : Nat} {M0 M : xj_M} {G : xG_} (hI : xHI f)  {r138 : Nat → Int → Int → xG_ → Option (xG_)} {o138 : Nat → Nat → Int → Int → xj_M → Option (xj_M)}  (hr138 : ∀ {M : xj_M} {G : xG_} {x1 : Nat} {x2 : Int} {x3 : Int} {R : xG_}, xRX m M0 M G → xoL x1 → xin x2 → xin x3 → r138 x1 x2 x3 G = some R → xok (o138 m (m + x1) x2 x3 M) (fun r => xRX m M0 r R)) (h : xRX m M0 M G) {x1 : Nat} {x2 : Int} {x3 : Int} {y0 : Int} {R : xG_} (tx1 : xoL x1) (tx2 : xin x2) (tx3 : xin x3) (ty0 : xin y0) (e : g354_183  r138 f x1 x2 x3 y0 G = some R) : xok (f354_183  o138 f m (m + x1) x2 x3 y0 M) (fun r => xRX m M0 r R) := by
  unfold g354_183 at e
  unfold f354_183
  exact s354_188 hI  hr138 h tx1 tx2 tx3 ty0 (show xin (0) by decide) e
theorem s354_178 {m f : Nat} {M0 M : xj_M} {G : xG_} (hI : xHI f)  {r138 : Nat → Int → Int → xG_ → Option (xG_)} {o138 : Nat → Nat → Int → Int → xj_M → Option (xj_M)}  (hr138 : ∀ {M : xj_M} {G : xG_} {x1 : Nat} {x2 : Int} {x3 : Int} {R : xG_}, xRX m M0 M G → xoL x1 → xin x2 → xin x3 → r138 x1 x2 x3 G = some R → xok (o138 m (m + x1) x2 x3 M) (fun r => xRX m M0 r R)) (h : xRX m M0 M G) {x1 : Nat} {x2 : Int} {x3 : Int} {R : xG_} (tx1 : xoL x1) (tx2 : xin x2) (tx3 : xin x3) (e : g354_178  r138 f x1 x2 x3 G = some R) : xok (f354_178  o138 f m (m + x1) x2 x3 M) (fun r => xRX m M0 r R) := by
  unfold g354_178 at e
  unfold f354_178
  exact s354_183 hI  hr138 h tx1 tx2 tx3 (show xin (1) by decide) e
theorem s354_182 {m f : Nat} {M0 M : xj_M} {G : xG_} (hI : xHI f)  {r138 : Nat → Int → Int → xG_ → Option (xG_)} {o138 : Nat → Nat → Int → Int → xj_M → Option (xj_M)}  (hr138 : ∀ {M : xj_M} {G : xG_} {x1 : Nat} {x2 : Int} {x3 : Int} {R : xG_}, xRX m M0 M G → xoL x1 → xin x2 → xin x3 → r138 x1 x2 x3 G = some R → xok (o138 m (m + x1) x2 x3 M) (fun r => xRX m M0 r R)) (h : xRX m M0 M G) {x1 : Nat} {x2 : Int} {x3 : Int} {R : xG_} (tx1 : xoL x1) (tx2 : xin x2) (tx3 : xin x3) (e : g354_182  r138 f x1 x2 x3 G = some R) : xok (f354_182  o138 f m (m + x1) x2 x3 M) (fun r => xRX m M0 r R) := by
  unfold g354_182 at e
  unfold f354_182
  exact s354_183 hI  hr138 h tx1 tx2 tx3 (show xin (0) by decide) e
theorem s354_138b {m f : Nat} {M0 M : xj_M} {G : xG_} (hI : xHI f)  {r138 : Nat → Int → Int → xG_ → Option (xG_)} {o138 : Nat → Nat → Int → Int → xj_M → Option (xj_M)}  (hr138 : ∀ {M : xj_M} {G : xG_} {x1 : Nat} {x2 : Int} {x3 : Int} {R : xG_}, xRX m M0 M G → xoL x1 → xin x2 → xin x3 → r138 x1 x2 x3 G = some R → xok (o138 m (m + x1) x2 x3 M) (fun r => xRX m M0 r R)) (h : xRX m M0 M G) {x1 : Nat} {x2 : Int} {x3 : Int} {R : xG_} (tx1 : xoL x1) (tx2 : xin x2) (tx3 : xin x3) (e : g354_138b  r138 f x1 x2 x3 G = some R) : xok (f354_138b  o138 f m (m + x1) x2 x3 M) (fun r => xRX m M0 r R) := by
  unfold g354_138b at e
  unfold f354_138b
  refine xok_ite (fun c163 => ?_) (fun c163 => ?_)
  · rw [if_pos c163] at e
    cases e
    exact ⟨_, rfl, h⟩
  · rw [if_neg c163] at e
    refine xok_eqb (h.pt (o := x1) (c := 13) (k := 18) (t := x1 + 15) (n := 37) (xoL_o tx1).1 (xoL_o tx1).2 (by decide) (xoL_all tx1 (Q := fun p => (p, 18, p + 15) ∈ xl_P) (by decide +kernel) (by decide +kernel) (by decide +kernel) (by decide +kernel))) ?_
    by_cases c164 : 0 ≤ (x3) ∧ (x3) < 72
    · skip
      rw [if_pos c164] at e
      refine xok_eqb (h.ai (o := x1 + 15) (n := 72) (xoL_all tx1 (Q := fun p => p + 15 < 276) (by decide) (by decide) (by decide) (by decide)) (xoL_all tx1 (Q := fun p => xl_t (p + 15) = (2, 3, 72)) rfl rfl rfl rfl) (by decide) c164.1 c164.2) ?_
      refine xok_ite (fun c165 => ?_) (fun c165 => ?_)
      · rw [if_pos c165] at e
        refine xok_eqb (h.pt (o := 0) (c := 15) (k := 97) (t := 268) (n := 107) (by decide) rfl (by decide) (by decide +kernel)) ?_
        by_cases c166 : 0 ≤ (x3) ∧ (x3) < 72
        · skip
          rw [if_pos c166] at e
          refine xok_eqb (h.ab (o := 268) (n := 72) (by decide) rfl (by decide) c166.1 c166.2) ?_
          refine xok_ite (fun c167 => ?_) (fun c167 => ?_)
          · rw [if_pos c167] at e
            exact s354_178 hI  hr138 h tx1 tx2 tx3 e
          · rw [if_neg c167] at e
            refine xok_ite (fun c168 => ?_) (fun c168 => ?_)
            · rw [if_pos c168] at e
              exact s354_182 hI  hr138 h tx1 tx2 tx3 e
            · rw [if_neg c168] at e
              refine xok_eqb (h.pt (o := 0) (c := 15) (k := 95) (t := 266) (n := 107) (by decide) rfl (by decide) (by decide +kernel)) ?_
              by_cases c169 : 0 ≤ (x3) ∧ (x3) < 72
              · skip
                rw [if_pos c169] at e
                refine xok_eqb (h.ab (o := 266) (n := 72) (by decide) rfl (by decide) c169.1 c169.2) ?_
                refine xok_ite (fun c170 => ?_) (fun c170 => ?_)
                · rw [if_pos c170] at e
                  exact s354_182 hI  hr138 h tx1 tx2 tx3 e
                · rw [if_neg c170] at e
                  exact s354_178 hI  hr138 h tx1 tx2 tx3 e
              · rw [if_neg c169] at e; cases e
        · rw [if_neg c166] at e; cases e
      · rw [if_neg c165] at e
        exact s354_346 hI  hr138 h tx1 tx2 tx3 e
    · rw [if_neg c164] at e; cases e
theorem s354_138 {m f : Nat} {M0 : xj_M} (hI : xHI f)     : ∀ {n : Nat} {M : xj_M} {G : xG_} {x1 : Nat} {x2 : Int} {x3 : Int} {R : xG_}, xRX m M0 M G → xoL x1 → xin x2 → xin x3 → g354_138   f n x1 x2 x3 G = some R → xok (f354_138   f n m (m + x1) x2 x3 M) (fun r => xRX m M0 r R) := by
  intro n
  induction n with
  | zero => intros; rename_i e; cases e
  | succ n ih =>
    intros
    rename_i h i0 i1 i2 e
    exact s354_138b hI   ih h i0 i1 i2 e
theorem s354_2b {m f : Nat} {M0 M : xj_M} {G : xG_} (hI : xHI f)  {r2 : Nat → Int → Int → xG_ → Option (xG_)} {o2 : Nat → Nat → Int → Int → xj_M → Option (xj_M)}  (hr2 : ∀ {M : xj_M} {G : xG_} {x1 : Nat} {x2 : Int} {x3 : Int} {R : xG_}, xRX m M0 M G → xoL x1 → xin x2 → xin x3 → r2 x1 x2 x3 G = some R → xok (o2 m (m + x1) x2 x3 M) (fun r => xRX m M0 r R)) (h : xRX m M0 M G) {x1 : Nat} {x2 : Int} {x3 : Int} {R : xG_} (tx1 : xoL x1) (tx2 : xin x2) (tx3 : xin x3) (e : g354_2b  r2 f x1 x2 x3 G = some R) : xok (f354_2b  o2 f m (m + x1) x2 x3 M) (fun r => xRX m M0 r R) := by
  unfold g354_2b at e
  unfold f354_2b
  refine xok_ite (fun c171 => ?_) (fun c171 => ?_)
  · rw [if_pos c171] at e
    obtain ⟨R172, e173, e⟩ := xbnd e
    refine xok_eqb (h.is (o := 0) (c := 15) (by decide) rfl) ?_
    refine xok_call (sg346 hI  h tx1 e173) ?_
    intro M176 h174
    exact s354_138 hI   h174 tx1 tx2 (show xin (0) by decide) e
  · rw [if_neg c171] at e
    refine xok_eqb (h.pt (o := 0) (c := 15) (k := 78) (t := 251) (n := 107) (by decide) rfl (by decide) (by decide +kernel)) ?_
    refine xok_eqb (h.pt (o := x1) (c := 13) (k := 20) (t := x1 + 17) (n := 37) (xoL_o tx1).1 (xoL_o tx1).2 (by decide) (xoL_all tx1 (Q := fun p => (p, 20, p + 17) ∈ xl_P) (by decide +kernel) (by decide +kernel) (by decide +kernel) (by decide +kernel))) ?_
    by_cases c177 : 0 ≤ (x3) ∧ (x3) < 72
    · skip
      rw [if_pos c177] at e
      refine xok_eqb (h.ai (o := x1 + 17) (n := 72) (xoL_all tx1 (Q := fun p => p + 17 < 276) (by decide) (by decide) (by decide) (by decide)) (xoL_all tx1 (Q := fun p => xl_t (p + 17) = (2, 3, 72)) rfl rfl rfl rfl) (by decide) c177.1 c177.2) ?_
      by_cases c178 : 0 ≤ (x3) ∧ (x3) < 72
      · skip
        rw [if_pos c178] at e
        obtain ⟨M179, q180, h181⟩ := h.si (o := 251) (n := 72) (v := G (x1 + 17) (x3).toNat) (by decide) rfl c178.1 c178.2 (h.ain (o := x1 + 17) (n := 72) (xoL_all tx1 (Q := fun p => p + 17 < 276) (by decide) (by decide) (by decide) (by decide)) (xoL_all tx1 (Q := fun p => xl_t (p + 17) = (2, 3, 72)) rfl rfl rfl rfl) (by decide) c177.1 c177.2)
        refine xok_eqb q180 ?_
        obtain ⟨G182, g1, e⟩ := xbnd e
        cases g1
        have h181_ : xRX m M0 M179 (xup2 G (251) (x3).toNat (G (x1 + 17) (x3).toNat)) := h181
        generalize hGG182 : (xup2 G (251) (x3).toNat (G (x1 + 17) (x3).toNat)) = G182 at e h181
        clear h181_ hGG182
        refine xok_eqb (h181.pt (o := 0) (c := 15) (k := 79) (t := 252) (n := 107) (by decide) rfl (by decide) (by decide +kernel)) ?_
        refine xok_eqb (h181.pt (o := x1) (c := 13) (k := 23) (t := x1 + 20) (n := 37) (xoL_o tx1).1 (xoL_o tx1).2 (by decide) (xoL_all tx1 (Q := fun p => (p, 23, p + 20) ∈ xl_P) (by decide +kernel) (by decide +kernel) (by decide +kernel) (by decide +kernel))) ?_
        by_cases c183 : 0 ≤ (x3) ∧ (x3) < 72
        · skip
          rw [if_pos c183] at e
          refine xok_eqb (h181.al (o := x1 + 20) (n := 72) (xoL_all tx1 (Q := fun p => p + 20 < 276) (by decide) (by decide) (by decide) (by decide)) (xoL_all tx1 (Q := fun p => xl_t (p + 20) = (2, 4, 72)) rfl rfl rfl rfl)  c183.1 c183.2) ?_
          by_cases c184 : 0 ≤ (x3) ∧ (x3) < 72
          · skip
            rw [if_pos c184] at e
            obtain ⟨M185, q186, h187⟩ := h181.sl (o := 252) (n := 72) (v := G182 (x1 + 20) (x3).toNat) (by decide) rfl c184.1 c184.2 (h181.aln (o := x1 + 20) (n := 72) (xoL_all tx1 (Q := fun p => p + 20 < 276) (by decide) (by decide) (by decide) (by decide)) (xoL_all tx1 (Q := fun p => xl_t (p + 20) = (2, 4, 72)) rfl rfl rfl rfl)  c183.1 c183.2)
            refine xok_eqb q186 ?_
            obtain ⟨G188, g1, e⟩ := xbnd e
            cases g1
            have h187_ : xRX m M0 M185 (xup2 G182 (252) (x3).toNat (G182 (x1 + 20) (x3).toNat)) := h187
            generalize hGG188 : (xup2 G182 (252) (x3).toNat (G182 (x1 + 20) (x3).toNat)) = G188 at e h187
            clear h187_ hGG188
            refine xok_eqb (h187.pt (o := 0) (c := 15) (k := 97) (t := 268) (n := 107) (by decide) rfl (by decide) (by decide +kernel)) ?_
            refine xok_eqb (h187.pt (o := x1) (c := 13) (k := 30) (t := x1 + 26) (n := 37) (xoL_o tx1).1 (xoL_o tx1).2 (by decide) (xoL_all tx1 (Q := fun p => (p, 30, p + 26) ∈ xl_P) (by decide +kernel) (by decide +kernel) (by decide +kernel) (by decide +kernel))) ?_
            by_cases c189 : 0 ≤ (x3) ∧ (x3) < 72
            · skip
              rw [if_pos c189] at e
              refine xok_eqb (h187.ai (o := x1 + 26) (n := 72) (xoL_all tx1 (Q := fun p => p + 26 < 276) (by decide) (by decide) (by decide) (by decide)) (xoL_all tx1 (Q := fun p => xl_t (p + 26) = (2, 3, 72)) rfl rfl rfl rfl) (by decide) c189.1 c189.2) ?_
              refine xok_ite (fun c190 => ?_) (fun c190 => ?_)
              · rw [if_pos c190] at e
                exact s354_52 hI  hr2 h187 tx1 tx2 tx3 (show xin (0) by decide) tx3 (show xoZ 268 from ⟨by decide, rfl⟩) e
              · rw [if_neg c190] at e
                exact s354_52 hI  hr2 h187 tx1 tx2 tx3 (show xin (1) by decide) tx3 (show xoZ 268 from ⟨by decide, rfl⟩) e
            · rw [if_neg c189] at e; cases e
          · rw [if_neg c184] at e; cases e
        · rw [if_neg c183] at e; cases e
      · rw [if_neg c178] at e; cases e
    · rw [if_neg c177] at e; cases e
theorem s354_2 {m f : Nat} {M0 : xj_M} (hI : xHI f)     : ∀ {n : Nat} {M : xj_M} {G : xG_} {x1 : Nat} {x2 : Int} {x3 : Int} {R : xG_}, xRX m M0 M G → xoL x1 → xin x2 → xin x3 → g354_2   f n x1 x2 x3 G = some R → xok (f354_2   f n m (m + x1) x2 x3 M) (fun r => xRX m M0 r R) := by
  intro n
  induction n with
  | zero => intros; rename_i e; cases e
  | succ n ih =>
    intros
    rename_i h i0 i1 i2 e
    exact s354_2b hI   ih h i0 i1 i2 e
theorem sg354 {m f : Nat} {M0 M : xj_M} {G : xG_} (hI : xHI f)   (h : xRX m M0 M G) {a1 : Nat} {a2 : Int} {R : xG_} (ta1 : xoL a1) (ta2 : xin a2) (e : g354  f a1 a2 G = some R) : xok (f354  f m (m + a1) a2 M) (fun r => xRX m M0 r R) := by
  unfold g354 at e
  unfold f354
  exact s354_2 hI   h ta1 ta2 (show xin (0) by decide) e
-- ChangeHouseModel.readProgram
theorem s231_88 {m f : Nat} {M0 M : xj_M} {G : xG_} (hI : xHI f)     (h : xRX m M0 M G)  {R : xG_}  (e : g231_88   f  G = some R) : xok (f231_88   f  M) (fun r => xRX m M0 r R) := by
  unfold g231_88 at e
  unfold f231_88
  cases e
  exact ⟨_, rfl, h⟩
theorem s231_13b {m f : Nat} {M0 M : xj_M} {G : xG_} (hI : xHI f)  {r13 : xG_ → Option (xG_)} {o13 : Nat → xj_M → Option (xj_M)}  (hr13 : ∀ {M : xj_M} {G : xG_}  {R : xG_}, xRX m M0 M G → r13  G = some R → xok (o13 m M) (fun r => xRX m M0 r R)) (h : xRX m M0 M G)  {R : xG_}  (e : g231_13b  r13 f  G = some R) : xok (f231_13b  o13 f m M) (fun r => xRX m M0 r R) := by
  unfold g231_13b at e
  unfold f231_13b
  obtain ⟨R101, e102, e⟩ := xbnd e
  refine xok_eqb (h.is (o := 0) (c := 15) (by decide) rfl) ?_
  refine xok_call (sg211 hI  h  e102) ?_
  rintro ⟨v_, M105⟩ ⟨hv_, h103, hi104⟩
  cases hv_
  refine xok_ite (fun c106 => ?_) (fun c106 => ?_)
  · rw [if_pos c106] at e
    exact s231_88 hI   h103  e
  · rw [if_neg c106] at e
    refine xok_eqb (h103.gi (o := 0) (c := 15) (k := 2) (n := 107) (by decide) rfl (by decide) (by decide)) ?_
    refine xok_ite (fun c107 => ?_) (fun c107 => ?_)
    · rw [if_pos c107] at e
      exact s231_88 hI   h103  e
    · rw [if_neg c107] at e
      refine xok_eqb (h103.gl (o := 0) (c := 15) (k := 12) (n := 107) (by decide) rfl (by decide) (by decide)) ?_
      obtain ⟨R108, e109, e⟩ := xbnd e
      refine xok_eqb (h103.is (o := 0) (c := 15) (by decide) rfl) ?_
      refine xok_call (sg225 hI  h103 (h103.gln (o := 0) (c := 15) (k := 12) (n := 107) (by decide) rfl (by decide) (by decide)) e109) ?_
      rintro ⟨v_, M112⟩ ⟨hv_, h110, hi111⟩
      cases hv_
      refine xok_ite (fun c113 => ?_) (fun c113 => ?_)
      · rw [if_pos c113] at e
        refine xok_eqb (h110.gl (o := 0) (c := 15) (k := 13) (n := 107) (by decide) rfl (by decide) (by decide)) ?_
        obtain ⟨R114, e115, e⟩ := xbnd e
        refine xok_eqb (h110.is (o := 0) (c := 15) (by decide) rfl) ?_
        refine xok_call (sg225 hI  h110 (h110.gln (o := 0) (c := 15) (k := 13) (n := 107) (by decide) rfl (by decide) (by decide)) e115) ?_
        rintro ⟨v_, M118⟩ ⟨hv_, h116, hi117⟩
        cases hv_
        refine xok_ite (fun c119 => ?_) (fun c119 => ?_)
        · rw [if_pos c119] at e
          obtain ⟨R120, e121, e⟩ := xbnd e
          refine xok_eqb (h116.is (o := 0) (c := 15) (by decide) rfl) ?_
          refine xok_call (sg226 hI  h116  e121) ?_
          rintro ⟨v_, M124⟩ ⟨hv_, h122, hi123⟩
          cases hv_
          refine xok_ite (fun c125 => ?_) (fun c125 => ?_)
          · rw [if_pos c125] at e
            refine xok_eqb (h122.gi (o := 0) (c := 15) (k := 4) (n := 107) (by decide) rfl (by decide) (by decide)) ?_
            obtain ⟨R126, e127, e⟩ := xbnd e
            refine xok_eqb (h122.is (o := 0) (c := 15) (by decide) rfl) ?_
            refine xok_call (sg210 hI  h122 (h122.gin (o := 0) (c := 15) (k := 4) (n := 107) (by decide) rfl (by decide) (by decide)) e127) ?_
            intro M130 h128
            exact hr13 h128  e
          · rw [if_neg c125] at e
            obtain ⟨R131, e132, e⟩ := xbnd e
            refine xok_eqb (h122.is (o := 0) (c := 15) (by decide) rfl) ?_
            refine xok_call (sg237 hI  h122  e132) ?_
            intro M135 h133
            exact hr13 h133  e
        · rw [if_neg c119] at e
          obtain ⟨R136, e137, e⟩ := xbnd e
          refine xok_eqb (h116.is (o := 0) (c := 15) (by decide) rfl) ?_
          refine xok_call (sg235 hI  h116  e137) ?_
          intro M140 h138
          exact hr13 h138  e
      · rw [if_neg c113] at e
        obtain ⟨R141, e142, e⟩ := xbnd e
        refine xok_eqb (h110.is (o := 0) (c := 15) (by decide) rfl) ?_
        refine xok_call (sg234 hI  h110  e142) ?_
        intro M145 h143
        exact hr13 h143  e
theorem s231_13 {m f : Nat} {M0 : xj_M} (hI : xHI f)     : ∀ {n : Nat} {M : xj_M} {G : xG_}  {R : xG_}, xRX m M0 M G → g231_13   f n  G = some R → xok (f231_13   f n m M) (fun r => xRX m M0 r R) := by
  intro n
  induction n with
  | zero => intros; rename_i e; cases e
  | succ n ih =>
    intros
    rename_i h  e
    exact s231_13b hI   ih h  e
theorem sg231 {m f : Nat} {M0 M : xj_M} {G : xG_} (hI : xHI f)   (h : xRX m M0 M G) {a1 : Nat} {a2 : Nat} {a3 : Int} {a4 : Int} {R : xG_} (ta1 : xoP a1) (ta2 : xoB a2) (ta3 : xin a3) (ta4 : xin a4) (e : g231  f a1 a2 a3 a4 G = some R) : xok (f231  f m (m + a1) (m + a2) a3 a4 M) (fun r => xRX m M0 r R) := by
  unfold g231 at e
  unfold f231
  obtain ⟨R146, e147, e⟩ := xbnd e
  refine xok_eqb (h.is (o := 0) (c := 15) (by decide) rfl) ?_
  refine xok_call (sg228 hI  h ta1 e147) ?_
  intro M150 h148
  obtain ⟨R151, e152, e⟩ := xbnd e
  refine xok_eqb (h148.is (o := 0) (c := 15) (by decide) rfl) ?_
  refine xok_call (sg212 hI  h148 ta2 ta3 ta4 e152) ?_
  intro M155 h153
  exact s231_13 hI   h153  e
-- ChangeHouseModel.readText
theorem sg295 {m f : Nat} {M0 M : xj_M} {G : xG_} (hI : xHI f)   (h : xRX m M0 M G) {a1 : Nat} {a2 : Int} {R : xG_} (ta1 : xoP a1) (ta2 : xin a2) (e : g295  f a1 a2 G = some R) : xok (f295  f m (m + a1) a2 M) (fun r => xRX m M0 r R) := by
  unfold g295 at e
  unfold f295
  refine xok_eqb (h.pt (o := 0) (c := 15) (k := 67) (t := 239) (n := 107) (by decide) rfl (by decide) (by decide +kernel)) ?_
  refine xok_eqb (h.pt (o := 0) (c := 15) (k := 69) (t := 241) (n := 107) (by decide) rfl (by decide) (by decide +kernel)) ?_
  by_cases c101 : 0 ≤ (a2) ∧ (a2) < 4200
  · skip
    rw [if_pos c101] at e
    refine xok_eqb (h.ai (o := 241) (n := 4200) (by decide) rfl (by decide) c101.1 c101.2) ?_
    refine xok_eqb (h.pt (o := 0) (c := 15) (k := 69) (t := 241) (n := 107) (by decide) rfl (by decide) (by decide +kernel)) ?_
    by_cases c102 : 0 ≤ (a2) ∧ (a2) < 4200
    · skip
      rw [if_pos c102] at e
      refine xok_eqb (h.ai (o := 241) (n := 4200) (by decide) rfl (by decide) c102.1 c102.2) ?_
      refine xok_eqb (h.pt (o := 0) (c := 15) (k := 70) (t := 242) (n := 107) (by decide) rfl (by decide) (by decide +kernel)) ?_
      by_cases c103 : 0 ≤ (a2) ∧ (a2) < 4200
      · skip
        rw [if_pos c103] at e
        refine xok_eqb (h.ai (o := 242) (n := 4200) (by decide) rfl (by decide) c103.1 c103.2) ?_
        obtain ⟨R104, e105, e⟩ := xbnd e
        refine xok_eqb (h.is (o := 0) (c := 15) (by decide) rfl) ?_
        refine xok_call (sg231 hI  h ta1 (show xoB 239 by unfold xoB; omega) (h.ain (o := 241) (n := 4200) (by decide) rfl (by decide) c101.1 c101.2) (xin_wr _) e105) ?_
        intro M108 h106
        obtain ⟨R109, e110, e⟩ := xbnd e
        refine xok_eqb (h106.is (o := 0) (c := 15) (by decide) rfl) ?_
        refine xok_call (sg252 hI  h106 ta1 e110) ?_
        intro M113 h111
        cases e
        exact ⟨_, rfl, h111⟩
      · rw [if_neg c103] at e; cases e
    · rw [if_neg c102] at e; cases e
  · rw [if_neg c101] at e; cases e
-- ChangeHouseModel.load
theorem s296_23 {m f : Nat} {M0 M : xj_M} {G : xG_} (hI : xHI f)     (h : xRX m M0 M G)  {R : xG_}  (e : g296_23   f  G = some R) : xok (f296_23   f m M) (fun r => xRX m M0 r R) := by
  unfold g296_23 at e
  unfold f296_23
  refine xok_eqb (h.pt (o := 0) (c := 15) (k := 61) (t := 122) (n := 107) (by decide) rfl (by decide) (by decide +kernel)) ?_
  refine xok_eqb (h.gi (o := 0) (c := 15) (k := 62) (n := 107) (by decide) rfl (by decide) (by decide)) ?_
  by_cases c101 : 0 ≤ (G (0) 62) ∧ (G (0) 62) < 4
  · skip
    rw [if_pos c101] at e
    refine xok_eqb (h.lin c101) ?_
    refine xok_eqb (h.pt (o := 0) (c := 15) (k := 29) (t := 2) (n := 107) (by decide) rfl (by decide) (by decide +kernel)) ?_
    refine xok_eqb (h.gi (o := 123 + 29 * (G (0) 62).toNat) (c := 13) (k := 1) (n := 37) (xoL_o (xoL_of c101)).1 (xoL_o (xoL_of c101)).2 (by decide) (by decide)) ?_
    obtain ⟨R102, e103, e⟩ := xbnd e
    refine xok_eqb (h.is (o := 0) (c := 15) (by decide) rfl) ?_
    refine xok_call (sg295 hI  h (show xoP 2 by unfold xoP; omega) (h.gin (o := 123 + 29 * (G (0) 62).toNat) (c := 13) (k := 1) (n := 37) (xoL_o (xoL_of c101)).1 (xoL_o (xoL_of c101)).2 (by decide) (by decide)) e103) ?_
    intro M106 h104
    refine xok_eqb (h104.pt (o := 123 + 29 * (G (0) 62).toNat) (c := 13) (k := 0) (t := 123 + 29 * (G (0) 62).toNat + 1) (n := 37) (xoL_o (xoL_of c101)).1 (xoL_o (xoL_of c101)).2 (by decide) (xoL_all (xoL_of c101) (Q := fun p => (p, 0, p + 1) ∈ xl_P) (by decide +kernel) (by decide +kernel) (by decide +kernel) (by decide +kernel))) ?_
    obtain ⟨R107, e108, e⟩ := xbnd e
    refine xok_eqb (h104.is (o := 0) (c := 15) (by decide) rfl) ?_
    refine xok_call (sg297 hI  h104 (xoL_all (xoL_of c101) (Q := fun p => xoF (p + 1)) (by unfold xoF; omega) (by unfold xoF; omega) (by unfold xoF; omega) (by unfold xoF; omega)) e108) ?_
    intro M111 h109
    obtain ⟨R112, e113, e⟩ := xbnd e
    refine xok_eqb (h109.is (o := 0) (c := 15) (by decide) rfl) ?_
    refine xok_call (sg290 hI  h109  e113) ?_
    rintro ⟨v_, M116⟩ ⟨hv_, h114, hi115⟩
    cases hv_
    refine xok_eqb (h114.gi (o := 0) (c := 15) (k := 64) (n := 107) (by decide) rfl (by decide) (by decide)) ?_
    obtain ⟨M117, q118, h119⟩ := h114.pi (v := R112.2 (0) 64) (o := 0) (c := 15) (k := 65) (n := 107) (by decide) rfl (by decide) (by decide) (h114.gin (o := 0) (c := 15) (k := 64) (n := 107) (by decide) rfl (by decide) (by decide))
    refine xok_eqb q118 ?_
    obtain ⟨G120, g1, e⟩ := xbnd e
    cases g1
    have h119_ : xRX m M0 M117 (xup2 R112.2 (0) 65 (R112.2 (0) 64)) := h119
    generalize hGG120 : (xup2 R112.2 (0) 65 (R112.2 (0) 64)) = G120 at e h119
    clear h119_ hGG120
    refine xok_eqb (h119.gi (o := 0) (c := 15) (k := 62) (n := 107) (by decide) rfl (by decide) (by decide)) ?_
    obtain ⟨M121, q122, h123⟩ := h119.pi (v := G120 (0) 62) (o := 0) (c := 15) (k := 66) (n := 107) (by decide) rfl (by decide) (by decide) (h119.gin (o := 0) (c := 15) (k := 62) (n := 107) (by decide) rfl (by decide) (by decide))
    refine xok_eqb q122 ?_
    obtain ⟨G124, g1, e⟩ := xbnd e
    cases g1
    have h123_ : xRX m M0 M121 (xup2 G120 (0) 66 (G120 (0) 62)) := h123
    generalize hGG124 : (xup2 G120 (0) 66 (G120 (0) 62)) = G124 at e h123
    clear h123_ hGG124
    cases e
    exact ⟨_, rfl, h123⟩
  · rw [if_neg c101] at e; cases e
theorem sg296 {m f : Nat} {M0 M : xj_M} {G : xG_} (hI : xHI f)   (h : xRX m M0 M G)  {R : xG_}  (e : g296  f  G = some R) : xok (f296  f m M) (fun r => xRX m M0 r R) := by
  unfold g296 at e
  unfold f296
  refine xok_eqb (h.gi (o := 0) (c := 15) (k := 65) (n := 107) (by decide) rfl (by decide) (by decide)) ?_
  refine xok_eqb (h.gi (o := 0) (c := 15) (k := 64) (n := 107) (by decide) rfl (by decide) (by decide)) ?_
  refine xok_ite (fun c125 => ?_) (fun c125 => ?_)
  · rw [if_pos c125] at e
    exact s296_23 hI   h  e
  · rw [if_neg c125] at e
    refine xok_eqb (h.gi (o := 0) (c := 15) (k := 66) (n := 107) (by decide) rfl (by decide) (by decide)) ?_
    refine xok_eqb (h.gi (o := 0) (c := 15) (k := 62) (n := 107) (by decide) rfl (by decide) (by decide)) ?_
    refine xok_ite (fun c126 => ?_) (fun c126 => ?_)
    · rw [if_pos c126] at e
      exact s296_23 hI   h  e
    · rw [if_neg c126] at e
      cases e
      exact ⟨_, rfl, h⟩
-- ChangeHouseModel.readOld
theorem sg300 {m f : Nat} {M0 M : xj_M} {G : xG_} (hI : xHI f)   (h : xRX m M0 M G) {a1 : Int} {R : xG_} (ta1 : xin a1) (e : g300  f a1 G = some R) : xok (f300  f m a1 M) (fun r => xRX m M0 r R) := by
  unfold g300 at e
  unfold f300
  refine xok_eqb (h.pt (o := 0) (c := 15) (k := 30) (t := 37) (n := 107) (by decide) rfl (by decide) (by decide +kernel)) ?_
  refine xok_eqb (h.pt (o := 0) (c := 15) (k := 67) (t := 239) (n := 107) (by decide) rfl (by decide) (by decide +kernel)) ?_
  refine xok_eqb (h.pt (o := 0) (c := 15) (k := 69) (t := 241) (n := 107) (by decide) rfl (by decide) (by decide +kernel)) ?_
  by_cases c101 : 0 ≤ (a1) ∧ (a1) < 4200
  · skip
    rw [if_pos c101] at e
    refine xok_eqb (h.ai (o := 241) (n := 4200) (by decide) rfl (by decide) c101.1 c101.2) ?_
    refine xok_eqb (h.pt (o := 0) (c := 15) (k := 69) (t := 241) (n := 107) (by decide) rfl (by decide) (by decide +kernel)) ?_
    by_cases c102 : 0 ≤ (a1) ∧ (a1) < 4200
    · skip
      rw [if_pos c102] at e
      refine xok_eqb (h.ai (o := 241) (n := 4200) (by decide) rfl (by decide) c102.1 c102.2) ?_
      refine xok_eqb (h.pt (o := 0) (c := 15) (k := 70) (t := 242) (n := 107) (by decide) rfl (by decide) (by decide +kernel)) ?_
      by_cases c103 : 0 ≤ (a1) ∧ (a1) < 4200
      · skip
        rw [if_pos c103] at e
        refine xok_eqb (h.ai (o := 242) (n := 4200) (by decide) rfl (by decide) c103.1 c103.2) ?_
        obtain ⟨R104, e105, e⟩ := xbnd e
        refine xok_eqb (h.is (o := 0) (c := 15) (by decide) rfl) ?_
        refine xok_call (sg231 hI  h (show xoP 37 by unfold xoP; omega) (show xoB 239 by unfold xoB; omega) (h.ain (o := 241) (n := 4200) (by decide) rfl (by decide) c101.1 c101.2) (xin_wr _) e105) ?_
        intro M108 h106
        refine xok_eqb (h106.pt (o := 0) (c := 15) (k := 30) (t := 37) (n := 107) (by decide) rfl (by decide) (by decide +kernel)) ?_
        obtain ⟨R109, e110, e⟩ := xbnd e
        refine xok_eqb (h106.is (o := 0) (c := 15) (by decide) rfl) ?_
        refine xok_call (sg254 hI  h106 (show xoP 37 by unfold xoP; omega) e110) ?_
        intro M113 h111
        cases e
        exact ⟨_, rfl, h111⟩
      · rw [if_neg c103] at e; cases e
    · rw [if_neg c102] at e; cases e
  · rw [if_neg c101] at e; cases e
-- ChangeHouseModel.back
theorem s314_69 {m f : Nat} {M0 M : xj_M} {G : xG_} (hI : xHI f)     (h : xRX m M0 M G) {x2 : Nat} {x3 : Int} {R : Int × xG_} (tx2 : xoL x2) (tx3 : xin x3) (e : g314_69   f x2 x3 G = some R) : xok (f314_69   f m (m + x2) x3 M) (fun r => r.1 = R.1 ∧ xRX m M0 r.2 R.2 ∧ xin R.1) := by
  unfold g314_69 at e
  unfold f314_69
  refine xok_eqb (h.gi (o := 0) (c := 15) (k := 64) (n := 107) (by decide) rfl (by decide) (by decide)) ?_
  obtain ⟨M101, q102, h103⟩ := h.pi (v := xwr ((G (0) 64) + (1))) (o := 0) (c := 15) (k := 64) (n := 107) (by decide) rfl (by decide) (by decide) (xin_wr _)
  refine xok_eqb q102 ?_
  obtain ⟨G104, g1, e⟩ := xbnd e
  cases g1
  have h103_ : xRX m M0 M101 (xup2 G (0) 64 (xwr ((G (0) 64) + (1)))) := h103
  generalize hGG104 : (xup2 G (0) 64 (xwr ((G (0) 64) + (1)))) = G104 at e h103
  clear h103_ hGG104
  obtain ⟨R105, e106, e⟩ := xbnd e
  refine xok_eqb (h103.is (o := 0) (c := 15) (by decide) rfl) ?_
  refine xok_call (sg296 hI  h103  e106) ?_
  intro M109 h107
  obtain ⟨R110, e111, e⟩ := xbnd e
  refine xok_eqb (h107.is (o := 0) (c := 15) (by decide) rfl) ?_
  refine xok_call (sg346 hI  h107 tx2 e111) ?_
  intro M114 h112
  cases e
  exact ⟨_, rfl, rfl, h112, tx3⟩
theorem sg314 {m f : Nat} {M0 M : xj_M} {G : xG_} (hI : xHI f)   (h : xRX m M0 M G) {a1 : Int} {R : Int × xG_} (ta1 : xin a1) (e : g314  f a1 G = some R) : xok (f314  f m a1 M) (fun r => r.1 = R.1 ∧ xRX m M0 r.2 R.2 ∧ xin R.1) := by
  unfold g314 at e
  unfold f314
  obtain ⟨M115, q116, h117⟩ := h.pi (v := 0) (o := 0) (c := 15) (k := 74) (n := 107) (by decide) rfl (by decide) (by decide) (show xin (0) by decide)
  refine xok_eqb q116 ?_
  obtain ⟨G118, g1, e⟩ := xbnd e
  cases g1
  have h117_ : xRX m M0 M115 (xup2 G (0) 74 (0)) := h117
  generalize hGG118 : (xup2 G (0) 74 (0)) = G118 at e h117
  clear h117_ hGG118
  refine xok_eqb (h117.pt (o := 0) (c := 15) (k := 61) (t := 122) (n := 107) (by decide) rfl (by decide) (by decide +kernel)) ?_
  refine xok_eqb (h117.gi (o := 0) (c := 15) (k := 62) (n := 107) (by decide) rfl (by decide) (by decide)) ?_
  by_cases c119 : 0 ≤ (G118 (0) 62) ∧ (G118 (0) 62) < 4
  · skip
    rw [if_pos c119] at e
    refine xok_eqb (h117.lin c119) ?_
    obtain ⟨R120, e121, e⟩ := xbnd e
    refine xok_eqb (h117.is (o := 0) (c := 15) (by decide) rfl) ?_
    refine xok_call (sg310 hI  h117 (xoL_of c119) ta1 e121) ?_
    rintro ⟨v_, M124⟩ ⟨hv_, h122, hi123⟩
    cases hv_
    refine xok_ite (fun c125 => ?_) (fun c125 => ?_)
    · rw [if_pos c125] at e
      refine xok_eqb (h122.gi (o := 123 + 29 * (G118 (0) 62).toNat) (c := 13) (k := 2) (n := 37) (xoL_o (xoL_of c119)).1 (xoL_o (xoL_of c119)).2 (by decide) (by decide)) ?_
      obtain ⟨R126, e127, e⟩ := xbnd e
      refine xok_eqb (h122.is (o := 0) (c := 15) (by decide) rfl) ?_
      refine xok_call (sg312 hI  h122 (xoL_of c119) ta1 e127) ?_
      intro M130 h128
      refine xok_eqb (h128.gi (o := 0) (c := 15) (k := 62) (n := 107) (by decide) rfl (by decide) (by decide)) ?_
      obtain ⟨R131, e132, e⟩ := xbnd e
      refine xok_eqb (h128.is (o := 0) (c := 15) (by decide) rfl) ?_
      refine xok_call (sg313 hI  h128 (h128.gin (o := 0) (c := 15) (k := 62) (n := 107) (by decide) rfl (by decide) (by decide)) ta1 e132) ?_
      intro M135 h133
      refine xok_eqb (h133.gi (o := 123 + 29 * (G118 (0) 62).toNat) (c := 13) (k := 35) (n := 37) (xoL_o (xoL_of c119)).1 (xoL_o (xoL_of c119)).2 (by decide) (by decide)) ?_
      refine xok_ite (fun c136 => ?_) (fun c136 => ?_)
      · rw [if_pos c136] at e
        exact s314_69 hI   h133 (xoL_of c119) (xin_wr _) e
      · rw [if_neg c136] at e
        refine xok_eqb (h133.gi (o := 123 + 29 * (G118 (0) 62).toNat) (c := 13) (k := 36) (n := 37) (xoL_o (xoL_of c119)).1 (xoL_o (xoL_of c119)).2 (by decide) (by decide)) ?_
        refine xok_ite (fun c137 => ?_) (fun c137 => ?_)
        · rw [if_pos c137] at e
          exact s314_69 hI   h133 (xoL_of c119) (xin_wr _) e
        · rw [if_neg c137] at e
          obtain ⟨M138, q139, h140⟩ := h133.pi (v := -1) (o := 123 + 29 * (G118 (0) 62).toNat) (c := 13) (k := 35) (n := 37) (xoL_o (xoL_of c119)).1 (xoL_o (xoL_of c119)).2 (by decide) (by decide) (show xin (-1) by decide)
          refine xok_eqb q139 ?_
          obtain ⟨G141, g1, e⟩ := xbnd e
          cases g1
          have h140_ : xRX m M0 M138 (xup2 R131 (123 + 29 * (G118 (0) 62).toNat) 35 (-1)) := h140
          generalize hGG141 : (xup2 R131 (123 + 29 * (G118 (0) 62).toNat) 35 (-1)) = G141 at e h140
          clear h140_ hGG141
          exact s314_69 hI   h140 (xoL_of c119) (xin_wr _) e
    · rw [if_neg c125] at e
      cases e
      exact ⟨_, rfl, rfl, h122, (show xin (-1) by decide)⟩
  · rw [if_neg c119] at e; cases e
-- ChangeHouseModel.branch
theorem s315_41 {m f : Nat} {M0 M : xj_M} {G : xG_} (hI : xHI f)     (h : xRX m M0 M G)  {R : Int × xG_}  (e : g315_41   f  G = some R) : xok (f315_41   f  M) (fun r => r.1 = R.1 ∧ xRX m M0 r.2 R.2 ∧ xin R.1) := by
  unfold g315_41 at e
  unfold f315_41
  cases e
  exact ⟨_, rfl, rfl, h, (show xin (-1) by decide)⟩
theorem s315_92b {m f : Nat} {M0 M : xj_M} {G : xG_} (hI : xHI f)  {r92 : Int → Int → Nat → Int → xG_ → Option (Int × xG_)} {o92 : Nat → Int → Int → Nat → Int → xj_M → Option (Int × xj_M)}  (hr92 : ∀ {M : xj_M} {G : xG_} {x1 : Int} {x2 : Int} {x4 : Nat} {x5 : Int} {R : Int × xG_}, xRX m M0 M G → xin x1 → xin x2 → xoL x4 → xin x5 → r92 x1 x2 x4 x5 G = some R → xok (o92 m x1 x2 (m + x4) x5 M) (fun r => r.1 = R.1 ∧ xRX m M0 r.2 R.2 ∧ xin R.1)) (h : xRX m M0 M G) {x1 : Int} {x2 : Int} {x4 : Nat} {x5 : Int} {R : Int × xG_} (tx1 : xin x1) (tx2 : xin x2) (tx4 : xoL x4) (tx5 : xin x5) (e : g315_92b  r92 f x1 x2 x4 x5 G = some R) : xok (f315_92b  o92 f m x1 x2 (m + x4) x5 M) (fun r => r.1 = R.1 ∧ xRX m M0 r.2 R.2 ∧ xin R.1) := by
  unfold g315_92b at e
  unfold f315_92b
  refine xok_ite (fun c101 => ?_) (fun c101 => ?_)
  · rw [if_pos c101] at e
    obtain ⟨R102, e103, e⟩ := xbnd e
    refine xok_eqb (h.is (o := 0) (c := 15) (by decide) rfl) ?_
    refine xok_call (sg313 hI  h tx1 (show xin (-1) by decide) e103) ?_
    intro M106 h104
    refine xok_eqb (h104.gi (o := 0) (c := 15) (k := 62) (n := 107) (by decide) rfl (by decide) (by decide)) ?_
    obtain ⟨M107, q108, h109⟩ := h104.pi (v := R102 (0) 62) (o := x4) (c := 13) (k := 35) (n := 37) (xoL_o tx4).1 (xoL_o tx4).2 (by decide) (by decide) (h104.gin (o := 0) (c := 15) (k := 62) (n := 107) (by decide) rfl (by decide) (by decide))
    refine xok_eqb q108 ?_
    obtain ⟨G110, g1, e⟩ := xbnd e
    cases g1
    have h109_ : xRX m M0 M107 (xup2 R102 (x4) 35 (R102 (0) 62)) := h109
    generalize hGG110 : (xup2 R102 (x4) 35 (R102 (0) 62)) = G110 at e h109
    clear h109_ hGG110
    obtain ⟨M111, q112, h113⟩ := h109.pi (v := x2) (o := x4) (c := 13) (k := 36) (n := 37) (xoL_o tx4).1 (xoL_o tx4).2 (by decide) (by decide) tx2
    refine xok_eqb q112 ?_
    obtain ⟨G114, g1, e⟩ := xbnd e
    cases g1
    have h113_ : xRX m M0 M111 (xup2 G110 (x4) 36 (x2)) := h113
    generalize hGG114 : (xup2 G110 (x4) 36 (x2)) = G114 at e h113
    clear h113_ hGG114
    refine xok_eqb (h113.gi (o := 0) (c := 15) (k := 64) (n := 107) (by decide) rfl (by decide) (by decide)) ?_
    obtain ⟨M115, q116, h117⟩ := h113.pi (v := xwr ((G114 (0) 64) + (1))) (o := 0) (c := 15) (k := 64) (n := 107) (by decide) rfl (by decide) (by decide) (xin_wr _)
    refine xok_eqb q116 ?_
    obtain ⟨G118, g1, e⟩ := xbnd e
    cases g1
    have h117_ : xRX m M0 M115 (xup2 G114 (0) 64 (xwr ((G114 (0) 64) + (1)))) := h117
    generalize hGG118 : (xup2 G114 (0) 64 (xwr ((G114 (0) 64) + (1)))) = G118 at e h117
    clear h117_ hGG118
    refine xok_eqb (h117.gi (o := 0) (c := 15) (k := 62) (n := 107) (by decide) rfl (by decide) (by decide)) ?_
    obtain ⟨M119, q120, h121⟩ := h117.pi (v := x1) (o := 0) (c := 15) (k := 62) (n := 107) (by decide) rfl (by decide) (by decide) tx1
    refine xok_eqb q120 ?_
    obtain ⟨G122, g1, e⟩ := xbnd e
    cases g1
    have h121_ : xRX m M0 M119 (xup2 G118 (0) 62 (x1)) := h121
    generalize hGG122 : (xup2 G118 (0) 62 (x1)) = G122 at e h121
    clear h121_ hGG122
    obtain ⟨R123, e124, e⟩ := xbnd e
    refine xok_eqb (h121.is (o := 0) (c := 15) (by decide) rfl) ?_
    refine xok_call (sg296 hI  h121  e124) ?_
    intro M127 h125
    obtain ⟨R128, e129, e⟩ := xbnd e
    refine xok_eqb (h125.is (o := 0) (c := 15) (by decide) rfl) ?_
    refine xok_call (sg346 hI  h125 tx4 e129) ?_
    intro M132 h130
    obtain ⟨M133, q134, h135⟩ := h130.pi (v := G118 (0) 62) (o := 0) (c := 15) (k := 62) (n := 107) (by decide) rfl (by decide) (by decide) (h117.gin (o := 0) (c := 15) (k := 62) (n := 107) (by decide) rfl (by decide) (by decide))
    refine xok_eqb q134 ?_
    obtain ⟨G136, g1, e⟩ := xbnd e
    cases g1
    have h135_ : xRX m M0 M133 (xup2 R128 (0) 62 (G118 (0) 62)) := h135
    generalize hGG136 : (xup2 R128 (0) 62 (G118 (0) 62)) = G136 at e h135
    clear h135_ hGG136
    cases e
    exact ⟨_, rfl, rfl, h135, tx2⟩
  · rw [if_neg c101] at e
    refine xok_eqb (h.pt (o := x4) (c := 13) (k := 19) (t := x4 + 16) (n := 37) (xoL_o tx4).1 (xoL_o tx4).2 (by decide) (xoL_all tx4 (Q := fun p => (p, 19, p + 16) ∈ xl_P) (by decide +kernel) (by decide +kernel) (by decide +kernel) (by decide +kernel))) ?_
    by_cases c137 : 0 ≤ (x5) ∧ (x5) < 72
    · skip
      rw [if_pos c137] at e
      obtain ⟨M138, q139, h140⟩ := h.si (o := x4 + 16) (n := 72) (v := 0) (xoL_all tx4 (Q := fun p => p + 16 < 276) (by decide) (by decide) (by decide) (by decide)) (xoL_all tx4 (Q := fun p => xl_t (p + 16) = (2, 3, 72)) rfl rfl rfl rfl) c137.1 c137.2 (show xin (0) by decide)
      refine xok_eqb q139 ?_
      obtain ⟨G141, g1, e⟩ := xbnd e
      cases g1
      have h140_ : xRX m M0 M138 (xup2 G (x4 + 16) (x5).toNat (0)) := h140
      generalize hGG141 : (xup2 G (x4 + 16) (x5).toNat (0)) = G141 at e h140
      clear h140_ hGG141
      exact hr92 h140 tx1 tx2 tx4 (xin_wr _) e
    · rw [if_neg c137] at e; cases e
theorem s315_92 {m f : Nat} {M0 : xj_M} (hI : xHI f)     : ∀ {n : Nat} {M : xj_M} {G : xG_} {x1 : Int} {x2 : Int} {x4 : Nat} {x5 : Int} {R : Int × xG_}, xRX m M0 M G → xin x1 → xin x2 → xoL x4 → xin x5 → g315_92   f n x1 x2 x4 x5 G = some R → xok (f315_92   f n m x1 x2 (m + x4) x5 M) (fun r => r.1 = R.1 ∧ xRX m M0 r.2 R.2 ∧ xin R.1) := by
  intro n
  induction n with
  | zero => intros; rename_i e; cases e
  | succ n ih =>
    intros
    rename_i h i0 i1 i2 i3 e
    exact s315_92b hI   ih h i0 i1 i2 i3 e
theorem s315_67b {m f : Nat} {M0 M : xj_M} {G : xG_} (hI : xHI f)  {r67 : Int → Int → Nat → Int → xG_ → Option (Int × xG_)} {o67 : Nat → Int → Int → Nat → Int → xj_M → Option (Int × xj_M)}  (hr67 : ∀ {M : xj_M} {G : xG_} {x1 : Int} {x2 : Int} {x4 : Nat} {x5 : Int} {R : Int × xG_}, xRX m M0 M G → xin x1 → xin x2 → xoL x4 → xin x5 → r67 x1 x2 x4 x5 G = some R → xok (o67 m x1 x2 (m + x4) x5 M) (fun r => r.1 = R.1 ∧ xRX m M0 r.2 R.2 ∧ xin R.1)) (h : xRX m M0 M G) {x1 : Int} {x2 : Int} {x4 : Nat} {x5 : Int} {R : Int × xG_} (tx1 : xin x1) (tx2 : xin x2) (tx4 : xoL x4) (tx5 : xin x5) (e : g315_67b  r67 f x1 x2 x4 x5 G = some R) : xok (f315_67b  o67 f m x1 x2 (m + x4) x5 M) (fun r => r.1 = R.1 ∧ xRX m M0 r.2 R.2 ∧ xin R.1) := by
  unfold g315_67b at e
  unfold f315_67b
  refine xok_ite (fun c142 => ?_) (fun c142 => ?_)
  · rw [if_pos c142] at e
    exact s315_92 hI   h tx1 tx2 tx4 (show xin (0) by decide) e
  · rw [if_neg c142] at e
    refine xok_eqb (h.pt (o := x4) (c := 13) (k := 21) (t := x4 + 18) (n := 37) (xoL_o tx4).1 (xoL_o tx4).2 (by decide) (xoL_all tx4 (Q := fun p => (p, 21, p + 18) ∈ xl_P) (by decide +kernel) (by decide +kernel) (by decide +kernel) (by decide +kernel))) ?_
    by_cases c143 : 0 ≤ (x5) ∧ (x5) < 16
    · skip
      rw [if_pos c143] at e
      obtain ⟨M144, q145, h146⟩ := h.si (o := x4 + 18) (n := 16) (v := 0) (xoL_all tx4 (Q := fun p => p + 18 < 276) (by decide) (by decide) (by decide) (by decide)) (xoL_all tx4 (Q := fun p => xl_t (p + 18) = (2, 3, 16)) rfl rfl rfl rfl) c143.1 c143.2 (show xin (0) by decide)
      refine xok_eqb q145 ?_
      obtain ⟨G147, g1, e⟩ := xbnd e
      cases g1
      have h146_ : xRX m M0 M144 (xup2 G (x4 + 18) (x5).toNat (0)) := h146
      generalize hGG147 : (xup2 G (x4 + 18) (x5).toNat (0)) = G147 at e h146
      clear h146_ hGG147
      exact hr67 h146 tx1 tx2 tx4 (xin_wr _) e
    · rw [if_neg c143] at e; cases e
theorem s315_67 {m f : Nat} {M0 : xj_M} (hI : xHI f)     : ∀ {n : Nat} {M : xj_M} {G : xG_} {x1 : Int} {x2 : Int} {x4 : Nat} {x5 : Int} {R : Int × xG_}, xRX m M0 M G → xin x1 → xin x2 → xoL x4 → xin x5 → g315_67   f n x1 x2 x4 x5 G = some R → xok (f315_67   f n m x1 x2 (m + x4) x5 M) (fun r => r.1 = R.1 ∧ xRX m M0 r.2 R.2 ∧ xin R.1) := by
  intro n
  induction n with
  | zero => intros; rename_i e; cases e
  | succ n ih =>
    intros
    rename_i h i0 i1 i2 i3 e
    exact s315_67b hI   ih h i0 i1 i2 i3 e
theorem sg315 {m f : Nat} {M0 M : xj_M} {G : xG_} (hI : xHI f)   (h : xRX m M0 M G) {a1 : Int} {a2 : Int} {R : Int × xG_} (ta1 : xin a1) (ta2 : xin a2) (e : g315  f a1 a2 G = some R) : xok (f315  f m a1 a2 M) (fun r => r.1 = R.1 ∧ xRX m M0 r.2 R.2 ∧ xin R.1) := by
  unfold g315 at e
  unfold f315
  obtain ⟨M148, q149, h150⟩ := h.pi (v := 0) (o := 0) (c := 15) (k := 74) (n := 107) (by decide) rfl (by decide) (by decide) (show xin (0) by decide)
  refine xok_eqb q149 ?_
  obtain ⟨G151, g1, e⟩ := xbnd e
  cases g1
  have h150_ : xRX m M0 M148 (xup2 G (0) 74 (0)) := h150
  generalize hGG151 : (xup2 G (0) 74 (0)) = G151 at e h150
  clear h150_ hGG151
  refine xok_eqb (h150.pt (o := 0) (c := 15) (k := 61) (t := 122) (n := 107) (by decide) rfl (by decide) (by decide +kernel)) ?_
  refine xok_eqb (h150.gi (o := 0) (c := 15) (k := 62) (n := 107) (by decide) rfl (by decide) (by decide)) ?_
  by_cases c152 : 0 ≤ (G151 (0) 62) ∧ (G151 (0) 62) < 4
  · skip
    rw [if_pos c152] at e
    refine xok_eqb (h150.lin c152) ?_
    refine xok_ite (fun c153 => ?_) (fun c153 => ?_)
    · rw [if_pos c153] at e
      exact s315_41 hI   h150  e
    · rw [if_neg c153] at e
      refine xok_ite (fun c154 => ?_) (fun c154 => ?_)
      · rw [if_pos c154] at e
        exact s315_41 hI   h150  e
      · rw [if_neg c154] at e
        refine xok_eqb (h150.gi (o := 0) (c := 15) (k := 62) (n := 107) (by decide) rfl (by decide) (by decide)) ?_
        refine xok_ite (fun c155 => ?_) (fun c155 => ?_)
        · rw [if_pos c155] at e
          exact s315_41 hI   h150  e
        · rw [if_neg c155] at e
          obtain ⟨R156, e157, e⟩ := xbnd e
          refine xok_eqb (h150.is (o := 0) (c := 15) (by decide) rfl) ?_
          refine xok_call (sg310 hI  h150 (xoL_of c152) ta2 e157) ?_
          rintro ⟨v_, M160⟩ ⟨hv_, h158, hi159⟩
          cases hv_
          refine xok_ite (fun c161 => ?_) (fun c161 => ?_)
          · rw [if_pos c161] at e
            refine xok_eqb (h158.pt (o := 0) (c := 15) (k := 61) (t := 122) (n := 107) (by decide) rfl (by decide) (by decide +kernel)) ?_
            by_cases c162 : 0 ≤ (a1) ∧ (a1) < 4
            · skip
              rw [if_pos c162] at e
              refine xok_eqb (h158.lin c162) ?_
              obtain ⟨R163, e164, e⟩ := xbnd e
              refine xok_call (sg316 hI  h158 (xoL_of c152) (xoL_of c162) e164) ?_
              intro M167 h165
              obtain ⟨R168, e169, e⟩ := xbnd e
              refine xok_eqb (h165.is (o := 0) (c := 15) (by decide) rfl) ?_
              refine xok_call (sg312 hI  h165 (xoL_of c162) ta2 e169) ?_
              intro M172 h170
              exact s315_67 hI   h170 ta1 ta2 (xoL_of c162) (show xin (0) by decide) e
            · rw [if_neg c162] at e; cases e
          · rw [if_neg c161] at e
            exact s315_41 hI   h158  e
  · rw [if_neg c152] at e; cases e
-- ChangeHouseModel.past
theorem s318_55 {m f : Nat} {M0 M : xj_M} {G : xG_} (hI : xHI f)     (h : xRX m M0 M G)  {R : Int × xG_}  (e : g318_55   f  G = some R) : xok (f318_55   f  M) (fun r => r.1 = R.1 ∧ xRX m M0 r.2 R.2 ∧ xin R.1) := by
  unfold g318_55 at e
  unfold f318_55
  cases e
  exact ⟨_, rfl, rfl, h, (show xin (-1) by decide)⟩
theorem s318_92 {m f : Nat} {M0 M : xj_M} {G : xG_} (hI : xHI f)  {r63 : Int → Int → Int → xG_ → Option (Int × xG_)} {o63 : Nat → Int → Int → Int → xj_M → Option (Int × xj_M)}  (hr63 : ∀ {M : xj_M} {G : xG_} {x2 : Int} {x4 : Int} {x5 : Int} {R : Int × xG_}, xRX m M0 M G → xin x2 → xin x4 → xin x5 → r63 x2 x4 x5 G = some R → xok (o63 m x2 x4 x5 M) (fun r => r.1 = R.1 ∧ xRX m M0 r.2 R.2 ∧ xin R.1)) (h : xRX m M0 M G) {x2 : Int} {x5 : Int} {y0 : Int} {y1 : Int} {R : Int × xG_} (tx2 : xin x2) (tx5 : xin x5) (ty0 : xin y0) (ty1 : xin y1) (e : g318_92  r63 f x2 x5 y0 y1 G = some R) : xok (f318_92  o63 f m x2 x5 y0 y1 M) (fun r => r.1 = R.1 ∧ xRX m M0 r.2 R.2 ∧ xin R.1) := by
  unfold g318_92 at e
  unfold f318_92
  exact hr63 h tx2 (xin_wr _) (xin_wr _) e
theorem s318_63b {m f : Nat} {M0 M : xj_M} {G : xG_} (hI : xHI f)  {r63 : Int → Int → Int → xG_ → Option (Int × xG_)} {o63 : Nat → Int → Int → Int → xj_M → Option (Int × xj_M)}  (hr63 : ∀ {M : xj_M} {G : xG_} {x2 : Int} {x4 : Int} {x5 : Int} {R : Int × xG_}, xRX m M0 M G → xin x2 → xin x4 → xin x5 → r63 x2 x4 x5 G = some R → xok (o63 m x2 x4 x5 M) (fun r => r.1 = R.1 ∧ xRX m M0 r.2 R.2 ∧ xin R.1)) (h : xRX m M0 M G) {x2 : Int} {x4 : Int} {x5 : Int} {R : Int × xG_} (tx2 : xin x2) (tx4 : xin x4) (tx5 : xin x5) (e : g318_63b  r63 f x2 x4 x5 G = some R) : xok (f318_63b  o63 f m x2 x4 x5 M) (fun r => r.1 = R.1 ∧ xRX m M0 r.2 R.2 ∧ xin R.1) := by
  unfold g318_63b at e
  unfold f318_63b
  refine xok_eqb (h.pt (o := 0) (c := 15) (k := 80) (t := 253) (n := 107) (by decide) rfl (by decide) (by decide +kernel)) ?_
  refine xok_eqb (h.gi (o := 253) (c := 12) (k := 3) (n := 4) (xoF_o (show xoF 253 by unfold xoF; omega)).1 (xoF_o (show xoF 253 by unfold xoF; omega)).2 (by decide) (by decide)) ?_
  refine xok_ite (fun c101 => ?_) (fun c101 => ?_)
  · rw [if_pos c101] at e
    cases e
    exact ⟨_, rfl, rfl, h, tx4⟩
  · rw [if_neg c101] at e
    obtain ⟨R102, e103, e⟩ := xbnd e
    refine xok_eqb (h.is (o := 0) (c := 15) (by decide) rfl) ?_
    refine xok_call (sg319 hI  h tx2 tx5 e103) ?_
    rintro ⟨v_, M106⟩ ⟨hv_, h104, hi105⟩
    cases hv_
    refine xok_ite (fun c107 => ?_) (fun c107 => ?_)
    · rw [if_pos c107] at e
      exact s318_92 hI  hr63 h104 tx2 tx5 (show xin (0) by decide) tx4 e
    · rw [if_neg c107] at e
      exact s318_92 hI  hr63 h104 tx2 tx5 (show xin (1) by decide) tx4 e
theorem s318_63 {m f : Nat} {M0 : xj_M} (hI : xHI f)     : ∀ {n : Nat} {M : xj_M} {G : xG_} {x2 : Int} {x4 : Int} {x5 : Int} {R : Int × xG_}, xRX m M0 M G → xin x2 → xin x4 → xin x5 → g318_63   f n x2 x4 x5 G = some R → xok (f318_63   f n m x2 x4 x5 M) (fun r => r.1 = R.1 ∧ xRX m M0 r.2 R.2 ∧ xin R.1) := by
  intro n
  induction n with
  | zero => intros; rename_i e; cases e
  | succ n ih =>
    intros
    rename_i h i0 i1 i2 e
    exact s318_63b hI   ih h i0 i1 i2 e
theorem sg318 {m f : Nat} {M0 M : xj_M} {G : xG_} (hI : xHI f)   (h : xRX m M0 M G) {a1 : Int} {a2 : Int} {R : Int × xG_} (ta1 : xin a1) (ta2 : xin a2) (e : g318  f a1 a2 G = some R) : xok (f318  f m a1 a2 M) (fun r => r.1 = R.1 ∧ xRX m M0 r.2 R.2 ∧ xin R.1) := by
  unfold g318 at e
  unfold f318
  obtain ⟨M108, q109, h110⟩ := h.pi (v := 0) (o := 0) (c := 15) (k := 74) (n := 107) (by decide) rfl (by decide) (by decide) (show xin (0) by decide)
  refine xok_eqb q109 ?_
  obtain ⟨G111, g1, e⟩ := xbnd e
  cases g1
  have h110_ : xRX m M0 M108 (xup2 G (0) 74 (0)) := h110
  generalize hGG111 : (xup2 G (0) 74 (0)) = G111 at e h110
  clear h110_ hGG111
  refine xok_eqb (h110.pt (o := 0) (c := 15) (k := 61) (t := 122) (n := 107) (by decide) rfl (by decide) (by decide +kernel)) ?_
  refine xok_eqb (h110.gi (o := 0) (c := 15) (k := 62) (n := 107) (by decide) rfl (by decide) (by decide)) ?_
  by_cases c112 : 0 ≤ (G111 (0) 62) ∧ (G111 (0) 62) < 4
  · skip
    rw [if_pos c112] at e
    refine xok_eqb (h110.lin c112) ?_
    obtain ⟨R113, e114, e⟩ := xbnd e
    refine xok_eqb (h110.is (o := 0) (c := 15) (by decide) rfl) ?_
    refine xok_call (sg310 hI  h110 (xoL_of c112) ta1 e114) ?_
    rintro ⟨v_, M117⟩ ⟨hv_, h115, hi116⟩
    cases hv_
    refine xok_ite (fun c118 => ?_) (fun c118 => ?_)
    · rw [if_pos c118] at e
      refine xok_eqb (h115.pt (o := 0) (c := 15) (k := 80) (t := 253) (n := 107) (by decide) rfl (by decide) (by decide +kernel)) ?_
      obtain ⟨R119, e120, e⟩ := xbnd e
      refine xok_eqb (h115.is (o := 0) (c := 15) (by decide) rfl) ?_
      refine xok_call (sg311 hI  h115 (xoL_of c112) ta1 (show xoF 253 by unfold xoF; omega) e120) ?_
      rintro ⟨v_, M123⟩ ⟨hv_, h121, hi122⟩
      cases hv_
      obtain ⟨R124, e125, e⟩ := xbnd e
      refine xok_eqb (h121.is (o := 0) (c := 15) (by decide) rfl) ?_
      refine xok_call (sg300 hI  h121 hi122 e125) ?_
      intro M128 h126
      refine xok_ite (fun c129 => ?_) (fun c129 => ?_)
      · rw [if_pos c129] at e
        exact s318_55 hI   h126  e
      · rw [if_neg c129] at e
        refine xok_eqb (h126.pt (o := 0) (c := 15) (k := 30) (t := 37) (n := 107) (by decide) rfl (by decide) (by decide +kernel)) ?_
        refine xok_eqb (h126.gi (o := 37) (c := 14) (k := 8) (n := 38) (xoP_o (show xoP 37 by unfold xoP; omega)).1 (xoP_o (show xoP 37 by unfold xoP; omega)).2 (by decide) (by decide)) ?_
        refine xok_ite (fun c130 => ?_) (fun c130 => ?_)
        · rw [if_pos c130] at e
          exact s318_63 hI   h126 ta2 (show xin (0) by decide) (show xin (0) by decide) e
        · rw [if_neg c130] at e
          exact s318_55 hI   h126  e
    · rw [if_neg c118] at e
      cases e
      exact ⟨_, rfl, rfl, h115, (show xin (-1) by decide)⟩
  · rw [if_neg c112] at e; cases e
-- ChangeHouseModel.pastValue
theorem s320_43 {m f : Nat} {M0 M : xj_M} {G : xG_} (hI : xHI f)     (h : xRX m M0 M G)  {R : Int × xG_}  (e : g320_43   f  G = some R) : xok (f320_43   f m M) (fun r => r.1 = R.1 ∧ xRX m M0 r.2 R.2 ∧ xiN R.1) := by
  unfold g320_43 at e
  unfold f320_43
  obtain ⟨R101, e102, e⟩ := xbnd e
  refine xok_eqb (h.is (o := 0) (c := 15) (by decide) rfl) ?_
  refine xok_call (sg321 hI  h  e102) ?_
  rintro ⟨v_, M105⟩ ⟨hv_, h103, hi104⟩
  cases hv_
  cases e
  exact ⟨_, rfl, rfl, h103, (xin_N hi104)⟩
theorem s320_52b {m f : Nat} {M0 M : xj_M} {G : xG_} (hI : xHI f)  {r52 : Int → Int → Int → Int → xG_ → Option (Int × xG_)} {o52 : Nat → Int → Int → Int → Int → xj_M → Option (Int × xj_M)}  (hr52 : ∀ {M : xj_M} {G : xG_} {x2 : Int} {x3 : Int} {x4 : Int} {x6 : Int} {R : Int × xG_}, xRX m M0 M G → xin x2 → xin x3 → xin x4 → xin x6 → r52 x2 x3 x4 x6 G = some R → xok (o52 m x2 x3 x4 x6 M) (fun r => r.1 = R.1 ∧ xRX m M0 r.2 R.2 ∧ xiN R.1)) (h : xRX m M0 M G) {x2 : Int} {x3 : Int} {x4 : Int} {x6 : Int} {R : Int × xG_} (tx2 : xin x2) (tx3 : xin x3) (tx4 : xin x4) (tx6 : xin x6) (e : g320_52b  r52 f x2 x3 x4 x6 G = some R) : xok (f320_52b  o52 f m x2 x3 x4 x6 M) (fun r => r.1 = R.1 ∧ xRX m M0 r.2 R.2 ∧ xiN R.1) := by
  unfold g320_52b at e
  unfold f320_52b
  obtain ⟨R106, e107, e⟩ := xbnd e
  refine xok_eqb (h.is (o := 0) (c := 15) (by decide) rfl) ?_
  refine xok_call (sg319 hI  h tx2 tx6 e107) ?_
  rintro ⟨v_, M110⟩ ⟨hv_, h108, hi109⟩
  cases hv_
  refine xok_ite (fun c111 => ?_) (fun c111 => ?_)
  · rw [if_pos c111] at e
    refine xok_eqb (h108.pt (o := 0) (c := 15) (k := 80) (t := 253) (n := 107) (by decide) rfl (by decide) (by decide +kernel)) ?_
    refine xok_eqb (h108.pt (o := 253) (c := 12) (k := 1) (t := 253 + 2) (n := 4) (xoF_o (show xoF 253 by unfold xoF; omega)).1 (xoF_o (show xoF 253 by unfold xoF; omega)).2 (by decide) (xoF_all (show xoF 253 by unfold xoF; omega) (Q := fun p => (p, 1, p + 2) ∈ xl_P) (by decide +kernel) (by decide +kernel) (by decide +kernel) (by decide +kernel) (by decide +kernel) (by decide +kernel) (by decide +kernel))) ?_
    by_cases c112 : 0 ≤ (xwr ((xwr ((4) * (xwr ((x6) + (x3))))) + (x4))) ∧ (xwr ((xwr ((4) * (xwr ((x6) + (x3))))) + (x4))) < 13600
    · skip
      rw [if_pos c112] at e
      refine xok_eqb (h108.al (o := 253 + 2) (n := 13600) (xoF_all (show xoF 253 by unfold xoF; omega) (Q := fun p => p + 2 < 276) (by decide) (by decide) (by decide) (by decide) (by decide) (by decide) (by decide)) (xoF_all (show xoF 253 by unfold xoF; omega) (Q := fun p => xl_t (p + 2) = (2, 4, 13600)) rfl rfl rfl rfl rfl rfl rfl)  c112.1 c112.2) ?_
      cases e
      exact ⟨_, rfl, rfl, h108, (h108.aln (o := 253 + 2) (n := 13600) (xoF_all (show xoF 253 by unfold xoF; omega) (Q := fun p => p + 2 < 276) (by decide) (by decide) (by decide) (by decide) (by decide) (by decide) (by decide)) (xoF_all (show xoF 253 by unfold xoF; omega) (Q := fun p => xl_t (p + 2) = (2, 4, 13600)) rfl rfl rfl rfl rfl rfl rfl)  c112.1 c112.2)⟩
    · rw [if_neg c112] at e; cases e
  · rw [if_neg c111] at e
    exact hr52 h108 tx2 tx3 tx4 (xin_wr _) e
theorem s320_52 {m f : Nat} {M0 : xj_M} (hI : xHI f)     : ∀ {n : Nat} {M : xj_M} {G : xG_} {x2 : Int} {x3 : Int} {x4 : Int} {x6 : Int} {R : Int × xG_}, xRX m M0 M G → xin x2 → xin x3 → xin x4 → xin x6 → g320_52   f n x2 x3 x4 x6 G = some R → xok (f320_52   f n m x2 x3 x4 x6 M) (fun r => r.1 = R.1 ∧ xRX m M0 r.2 R.2 ∧ xiN R.1) := by
  intro n
  induction n with
  | zero => intros; rename_i e; cases e
  | succ n ih =>
    intros
    rename_i h i0 i1 i2 i3 e
    exact s320_52b hI   ih h i0 i1 i2 i3 e
theorem sg320 {m f : Nat} {M0 M : xj_M} {G : xG_} (hI : xHI f)   (h : xRX m M0 M G) {a1 : Int} {a2 : Int} {a3 : Int} {a4 : Int} {R : Int × xG_} (ta1 : xin a1) (ta2 : xin a2) (ta3 : xin a3) (ta4 : xin a4) (e : g320  f a1 a2 a3 a4 G = some R) : xok (f320  f m a1 a2 a3 a4 M) (fun r => r.1 = R.1 ∧ xRX m M0 r.2 R.2 ∧ xiN R.1) := by
  unfold g320 at e
  unfold f320
  obtain ⟨R113, e114, e⟩ := xbnd e
  refine xok_eqb (h.is (o := 0) (c := 15) (by decide) rfl) ?_
  refine xok_call (sg318 hI  h ta1 ta2 e114) ?_
  rintro ⟨v_, M117⟩ ⟨hv_, h115, hi116⟩
  cases hv_
  refine xok_ite (fun c118 => ?_) (fun c118 => ?_)
  · rw [if_pos c118] at e
    exact s320_43 hI   h115  e
  · rw [if_neg c118] at e
    refine xok_ite (fun c119 => ?_) (fun c119 => ?_)
    · rw [if_pos c119] at e
      exact s320_43 hI   h115  e
    · rw [if_neg c119] at e
      refine xok_ite (fun c120 => ?_) (fun c120 => ?_)
      · rw [if_pos c120] at e
        exact s320_43 hI   h115  e
      · rw [if_neg c120] at e
        refine xok_ite (fun c121 => ?_) (fun c121 => ?_)
        · rw [if_pos c121] at e
          exact s320_43 hI   h115  e
        · rw [if_neg c121] at e
          refine xok_eqb (h115.pt (o := 0) (c := 15) (k := 30) (t := 37) (n := 107) (by decide) rfl (by decide) (by decide +kernel)) ?_
          refine xok_eqb (h115.pt (o := 37) (c := 14) (k := 1) (t := 37 + 2) (n := 38) (xoP_o (show xoP 37 by unfold xoP; omega)).1 (xoP_o (show xoP 37 by unfold xoP; omega)).2 (by decide) (xoP_all (show xoP 37 by unfold xoP; omega) (Q := fun p => (p, 1, p + 2) ∈ xl_P) (by decide +kernel) (by decide +kernel) (by decide +kernel))) ?_
          by_cases c122 : 0 ≤ (a2) ∧ (a2) < 16
          · skip
            rw [if_pos c122] at e
            refine xok_eqb (h115.ai (o := 37 + 2) (n := 16) (xoP_all (show xoP 37 by unfold xoP; omega) (Q := fun p => p + 2 < 276) (by decide) (by decide) (by decide)) (xoP_all (show xoP 37 by unfold xoP; omega) (Q := fun p => xl_t (p + 2) = (2, 3, 16)) rfl rfl rfl) (by decide) c122.1 c122.2) ?_
            refine xok_ite (fun c123 => ?_) (fun c123 => ?_)
            · rw [if_pos c123] at e
              exact s320_52 hI   h115 ta2 ta3 ta4 (show xin (0) by decide) e
            · rw [if_neg c123] at e
              exact s320_43 hI   h115  e
          · rw [if_neg c122] at e; cases e
-- ChangeHouseModel.merge
theorem s326_22 {m f : Nat} {M0 M : xj_M} {G : xG_} (hI : xHI f)     (h : xRX m M0 M G)  {R : Int × xG_}  (e : g326_22   f  G = some R) : xok (f326_22   f  M) (fun r => r.1 = R.1 ∧ xRX m M0 r.2 R.2 ∧ xin R.1) := by
  unfold g326_22 at e
  unfold f326_22
  cases e
  exact ⟨_, rfl, rfl, h, (show xin (-1) by decide)⟩
theorem s326_64 {m f : Nat} {M0 M : xj_M} {G : xG_} (hI : xHI f)     (h : xRX m M0 M G)  {R : Int × xG_}  (e : g326_64   f  G = some R) : xok (f326_64   f  M) (fun r => r.1 = R.1 ∧ xRX m M0 r.2 R.2 ∧ xin R.1) := by
  unfold g326_64 at e
  unfold f326_64
  cases e
  exact ⟨_, rfl, rfl, h, (show xin (-1) by decide)⟩
theorem s326_115 {m f : Nat} {M0 M : xj_M} {G : xG_} (hI : xHI f)     (h : xRX m M0 M G)  {R : Int × xG_}  (e : g326_115   f  G = some R) : xok (f326_115   f  M) (fun r => r.1 = R.1 ∧ xRX m M0 r.2 R.2 ∧ xin R.1) := by
  unfold g326_115 at e
  unfold f326_115
  cases e
  exact ⟨_, rfl, rfl, h, (show xin (-2) by decide)⟩
theorem s326_192 {m f : Nat} {M0 M : xj_M} {G : xG_} (hI : xHI f)  {r153 : Nat → Nat → Int → Int → xG_ → Option (Int × xG_)} {o153 : Nat → Nat → Nat → Int → Int → xj_M → Option (Int × xj_M)}  (hr153 : ∀ {M : xj_M} {G : xG_} {x2 : Nat} {x3 : Nat} {x6 : Int} {x7 : Int} {R : Int × xG_}, xRX m M0 M G → xoL x2 → xoL x3 → xin x6 → xin x7 → r153 x2 x3 x6 x7 G = some R → xok (o153 m (m + x2) (m + x3) x6 x7 M) (fun r => r.1 = R.1 ∧ xRX m M0 r.2 R.2 ∧ xin R.1)) (h : xRX m M0 M G) {x2 : Nat} {x3 : Nat} {x6 : Int} {x7 : Int} {R : Int × xG_} (tx2 : xoL x2) (tx3 : xoL x3) (tx6 : xin x6) (tx7 : xin x7) (e : g326_192  r153 f x2 x3 x6 x7 G = some R) : xok (f326_192  o153 f m (m + x2) (m + x3) x6 x7 M) (fun r => r.1 = R.1 ∧ xRX m M0 r.2 R.2 ∧ xin R.1) := by
  unfold g326_192 at e
  unfold f326_192
  exact hr153 h tx2 tx3 tx6 (xin_wr _) e
theorem s326_259 {m f : Nat} {M0 M : xj_M} {G : xG_} (hI : xHI f)  {r220 : Nat → Nat → Int → Int → xG_ → Option (Int × xG_)} {o220 : Nat → Nat → Nat → Int → Int → xj_M → Option (Int × xj_M)}  (hr220 : ∀ {M : xj_M} {G : xG_} {x2 : Nat} {x3 : Nat} {x7 : Int} {x8 : Int} {R : Int × xG_}, xRX m M0 M G → xoL x2 → xoL x3 → xin x7 → xin x8 → r220 x2 x3 x7 x8 G = some R → xok (o220 m (m + x2) (m + x3) x7 x8 M) (fun r => r.1 = R.1 ∧ xRX m M0 r.2 R.2 ∧ xin R.1)) (h : xRX m M0 M G) {x2 : Nat} {x3 : Nat} {x7 : Int} {x8 : Int} {R : Int × xG_} (tx2 : xoL x2) (tx3 : xoL x3) (tx7 : xin x7) (tx8 : xin x8) (e : g326_259  r220 f x2 x3 x7 x8 G = some R) : xok (f326_259  o220 f m (m + x2) (m + x3) x7 x8 M) (fun r => r.1 = R.1 ∧ xRX m M0 r.2 R.2 ∧ xin R.1) := by
  unfold g326_259 at e
  unfold f326_259
  exact hr220 h tx2 tx3 tx7 (xin_wr _) e
theorem s326_220b {m f : Nat} {M0 M : xj_M} {G : xG_} (hI : xHI f)  {r220 : Nat → Nat → Int → Int → xG_ → Option (Int × xG_)} {o220 : Nat → Nat → Nat → Int → Int → xj_M → Option (Int × xj_M)}  (hr220 : ∀ {M : xj_M} {G : xG_} {x2 : Nat} {x3 : Nat} {x7 : Int} {x8 : Int} {R : Int × xG_}, xRX m M0 M G → xoL x2 → xoL x3 → xin x7 → xin x8 → r220 x2 x3 x7 x8 G = some R → xok (o220 m (m + x2) (m + x3) x7 x8 M) (fun r => r.1 = R.1 ∧ xRX m M0 r.2 R.2 ∧ xin R.1)) (h : xRX m M0 M G) {x2 : Nat} {x3 : Nat} {x7 : Int} {x8 : Int} {R : Int × xG_} (tx2 : xoL x2) (tx3 : xoL x3) (tx7 : xin x7) (tx8 : xin x8) (e : g326_220b  r220 f x2 x3 x7 x8 G = some R) : xok (f326_220b  o220 f m (m + x2) (m + x3) x7 x8 M) (fun r => r.1 = R.1 ∧ xRX m M0 r.2 R.2 ∧ xin R.1) := by
  unfold g326_220b at e
  unfold f326_220b
  refine xok_eqb (h.pt (o := 0) (c := 15) (k := 29) (t := 2) (n := 107) (by decide) rfl (by decide) (by decide +kernel)) ?_
  refine xok_eqb (h.gi (o := 2) (c := 14) (k := 8) (n := 38) (xoP_o (show xoP 2 by unfold xoP; omega)).1 (xoP_o (show xoP 2 by unfold xoP; omega)).2 (by decide) (by decide)) ?_
  refine xok_ite (fun c101 => ?_) (fun c101 => ?_)
  · rw [if_pos c101] at e
    cases e
    exact ⟨_, rfl, rfl, h, tx7⟩
  · rw [if_neg c101] at e
    refine xok_eqb (h.pt (o := 0) (c := 15) (k := 29) (t := 2) (n := 107) (by decide) rfl (by decide) (by decide +kernel)) ?_
    refine xok_eqb (h.pt (o := 2) (c := 14) (k := 5) (t := 2 + 6) (n := 38) (xoP_o (show xoP 2 by unfold xoP; omega)).1 (xoP_o (show xoP 2 by unfold xoP; omega)).2 (by decide) (xoP_all (show xoP 2 by unfold xoP; omega) (Q := fun p => (p, 5, p + 6) ∈ xl_P) (by decide +kernel) (by decide +kernel) (by decide +kernel))) ?_
    by_cases c102 : 0 ≤ (x8) ∧ (x8) < 16
    · skip
      rw [if_pos c102] at e
      refine xok_eqb (h.ab (o := 2 + 6) (n := 16) (xoP_all (show xoP 2 by unfold xoP; omega) (Q := fun p => p + 6 < 276) (by decide) (by decide) (by decide)) (xoP_all (show xoP 2 by unfold xoP; omega) (Q := fun p => xl_t (p + 6) = (2, 0, 16)) rfl rfl rfl) (by decide) c102.1 c102.2) ?_
      refine xok_ite (fun c103 => ?_) (fun c103 => ?_)
      · rw [if_pos c103] at e
        exact s326_259 hI  hr220 h tx2 tx3 tx7 tx8 e
      · rw [if_neg c103] at e
        obtain ⟨R104, e105, e⟩ := xbnd e
        refine xok_eqb (h.is (o := 0) (c := 15) (by decide) rfl) ?_
        refine xok_call (sg328 hI  h tx2 tx3 tx8 (show xin (1) by decide) e105) ?_
        rintro ⟨v_, M108⟩ ⟨hv_, h106, hi107⟩
        cases hv_
        exact s326_259 hI  hr220 h106 tx2 tx3 (xin_wr _) tx8 e
    · rw [if_neg c102] at e; cases e
theorem s326_220 {m f : Nat} {M0 : xj_M} (hI : xHI f)     : ∀ {n : Nat} {M : xj_M} {G : xG_} {x2 : Nat} {x3 : Nat} {x7 : Int} {x8 : Int} {R : Int × xG_}, xRX m M0 M G → xoL x2 → xoL x3 → xin x7 → xin x8 → g326_220   f n x2 x3 x7 x8 G = some R → xok (f326_220   f n m (m + x2) (m + x3) x7 x8 M) (fun r => r.1 = R.1 ∧ xRX m M0 r.2 R.2 ∧ xin R.1) := by
  intro n
  induction n with
  | zero => intros; rename_i e; cases e
  | succ n ih =>
    intros
    rename_i h i0 i1 i2 i3 e
    exact s326_220b hI   ih h i0 i1 i2 i3 e
theorem s326_153b {m f : Nat} {M0 M : xj_M} {G : xG_} (hI : xHI f)  {r153 : Nat → Nat → Int → Int → xG_ → Option (Int × xG_)} {o153 : Nat → Nat → Nat → Int → Int → xj_M → Option (Int × xj_M)}  (hr153 : ∀ {M : xj_M} {G : xG_} {x2 : Nat} {x3 : Nat} {x6 : Int} {x7 : Int} {R : Int × xG_}, xRX m M0 M G → xoL x2 → xoL x3 → xin x6 → xin x7 → r153 x2 x3 x6 x7 G = some R → xok (o153 m (m + x2) (m + x3) x6 x7 M) (fun r => r.1 = R.1 ∧ xRX m M0 r.2 R.2 ∧ xin R.1)) (h : xRX m M0 M G) {x2 : Nat} {x3 : Nat} {x6 : Int} {x7 : Int} {R : Int × xG_} (tx2 : xoL x2) (tx3 : xoL x3) (tx6 : xin x6) (tx7 : xin x7) (e : g326_153b  r153 f x2 x3 x6 x7 G = some R) : xok (f326_153b  o153 f m (m + x2) (m + x3) x6 x7 M) (fun r => r.1 = R.1 ∧ xRX m M0 r.2 R.2 ∧ xin R.1) := by
  unfold g326_153b at e
  unfold f326_153b
  refine xok_eqb (h.pt (o := 0) (c := 15) (k := 29) (t := 2) (n := 107) (by decide) rfl (by decide) (by decide +kernel)) ?_
  refine xok_eqb (h.gi (o := 2) (c := 14) (k := 8) (n := 38) (xoP_o (show xoP 2 by unfold xoP; omega)).1 (xoP_o (show xoP 2 by unfold xoP; omega)).2 (by decide) (by decide)) ?_
  refine xok_ite (fun c109 => ?_) (fun c109 => ?_)
  · rw [if_pos c109] at e
    refine xok_eqb (h.gi (o := x2) (c := 13) (k := 33) (n := 37) (xoL_o tx2).1 (xoL_o tx2).2 (by decide) (by decide)) ?_
    refine xok_ite (fun c110 => ?_) (fun c110 => ?_)
    · rw [if_pos c110] at e
      exact s326_220 hI   h tx2 tx3 (show xin (0) by decide) (show xin (0) by decide) e
    · rw [if_neg c110] at e
      cases e
      exact ⟨_, rfl, rfl, h, (show xin (-4) by decide)⟩
  · rw [if_neg c109] at e
    refine xok_eqb (h.pt (o := 0) (c := 15) (k := 29) (t := 2) (n := 107) (by decide) rfl (by decide) (by decide +kernel)) ?_
    refine xok_eqb (h.pt (o := 2) (c := 14) (k := 5) (t := 2 + 6) (n := 38) (xoP_o (show xoP 2 by unfold xoP; omega)).1 (xoP_o (show xoP 2 by unfold xoP; omega)).2 (by decide) (xoP_all (show xoP 2 by unfold xoP; omega) (Q := fun p => (p, 5, p + 6) ∈ xl_P) (by decide +kernel) (by decide +kernel) (by decide +kernel))) ?_
    by_cases c111 : 0 ≤ (x7) ∧ (x7) < 16
    · skip
      rw [if_pos c111] at e
      refine xok_eqb (h.ab (o := 2 + 6) (n := 16) (xoP_all (show xoP 2 by unfold xoP; omega) (Q := fun p => p + 6 < 276) (by decide) (by decide) (by decide)) (xoP_all (show xoP 2 by unfold xoP; omega) (Q := fun p => xl_t (p + 6) = (2, 0, 16)) rfl rfl rfl) (by decide) c111.1 c111.2) ?_
      refine xok_ite (fun c112 => ?_) (fun c112 => ?_)
      · rw [if_pos c112] at e
        exact s326_192 hI  hr153 h tx2 tx3 tx6 tx7 e
      · rw [if_neg c112] at e
        obtain ⟨R113, e114, e⟩ := xbnd e
        refine xok_eqb (h.is (o := 0) (c := 15) (by decide) rfl) ?_
        refine xok_call (sg328 hI  h tx2 tx3 tx7 (show xin (0) by decide) e114) ?_
        rintro ⟨v_, M117⟩ ⟨hv_, h115, hi116⟩
        cases hv_
        exact s326_192 hI  hr153 h115 tx2 tx3 (xin_wr _) tx7 e
    · rw [if_neg c111] at e; cases e
theorem s326_153 {m f : Nat} {M0 : xj_M} (hI : xHI f)     : ∀ {n : Nat} {M : xj_M} {G : xG_} {x2 : Nat} {x3 : Nat} {x6 : Int} {x7 : Int} {R : Int × xG_}, xRX m M0 M G → xoL x2 → xoL x3 → xin x6 → xin x7 → g326_153   f n x2 x3 x6 x7 G = some R → xok (f326_153   f n m (m + x2) (m + x3) x6 x7 M) (fun r => r.1 = R.1 ∧ xRX m M0 r.2 R.2 ∧ xin R.1) := by
  intro n
  induction n with
  | zero => intros; rename_i e; cases e
  | succ n ih =>
    intros
    rename_i h i0 i1 i2 i3 e
    exact s326_153b hI   ih h i0 i1 i2 i3 e
theorem sg326 {m f : Nat} {M0 M : xj_M} {G : xG_} (hI : xHI f)   (h : xRX m M0 M G) {a1 : Int} {R : Int × xG_} (ta1 : xin a1) (e : g326  f a1 G = some R) : xok (f326  f m a1 M) (fun r => r.1 = R.1 ∧ xRX m M0 r.2 R.2 ∧ xin R.1) := by
  unfold g326 at e
  unfold f326
  obtain ⟨M118, q119, h120⟩ := h.pi (v := 0) (o := 0) (c := 15) (k := 74) (n := 107) (by decide) rfl (by decide) (by decide) (show xin (0) by decide)
  refine xok_eqb q119 ?_
  obtain ⟨G121, g1, e⟩ := xbnd e
  cases g1
  have h120_ : xRX m M0 M118 (xup2 G (0) 74 (0)) := h120
  generalize hGG121 : (xup2 G (0) 74 (0)) = G121 at e h120
  clear h120_ hGG121
  refine xok_ite (fun c122 => ?_) (fun c122 => ?_)
  · rw [if_pos c122] at e
    exact s326_22 hI   h120  e
  · rw [if_neg c122] at e
    refine xok_ite (fun c123 => ?_) (fun c123 => ?_)
    · rw [if_pos c123] at e
      exact s326_22 hI   h120  e
    · rw [if_neg c123] at e
      refine xok_eqb (h120.gi (o := 0) (c := 15) (k := 62) (n := 107) (by decide) rfl (by decide) (by decide)) ?_
      refine xok_ite (fun c124 => ?_) (fun c124 => ?_)
      · rw [if_pos c124] at e
        refine xok_eqb (h120.pt (o := 0) (c := 15) (k := 61) (t := 122) (n := 107) (by decide) rfl (by decide) (by decide +kernel)) ?_
        refine xok_eqb (h120.gi (o := 0) (c := 15) (k := 62) (n := 107) (by decide) rfl (by decide) (by decide)) ?_
        by_cases c125 : 0 ≤ (G121 (0) 62) ∧ (G121 (0) 62) < 4
        · skip
          rw [if_pos c125] at e
          refine xok_eqb (h120.lin c125) ?_
          refine xok_eqb (h120.pt (o := 0) (c := 15) (k := 61) (t := 122) (n := 107) (by decide) rfl (by decide) (by decide +kernel)) ?_
          by_cases c126 : 0 ≤ (a1) ∧ (a1) < 4
          · skip
            rw [if_pos c126] at e
            refine xok_eqb (h120.lin c126) ?_
            refine xok_eqb (h120.gi (o := 123 + 29 * (a1).toNat) (c := 13) (k := 35) (n := 37) (xoL_o (xoL_of c126)).1 (xoL_o (xoL_of c126)).2 (by decide) (by decide)) ?_
            refine xok_eqb (h120.gi (o := 0) (c := 15) (k := 62) (n := 107) (by decide) rfl (by decide) (by decide)) ?_
            refine xok_ite (fun c127 => ?_) (fun c127 => ?_)
            · rw [if_pos c127] at e
              exact s326_64 hI   h120  e
            · rw [if_neg c127] at e
              refine xok_eqb (h120.gi (o := 123 + 29 * (a1).toNat) (c := 13) (k := 36) (n := 37) (xoL_o (xoL_of c126)).1 (xoL_o (xoL_of c126)).2 (by decide) (by decide)) ?_
              obtain ⟨R128, e129, e⟩ := xbnd e
              refine xok_eqb (h120.is (o := 0) (c := 15) (by decide) rfl) ?_
              refine xok_call (sg310 hI  h120 (xoL_of c125) (h120.gin (o := 123 + 29 * (a1).toNat) (c := 13) (k := 36) (n := 37) (xoL_o (xoL_of c126)).1 (xoL_o (xoL_of c126)).2 (by decide) (by decide)) e129) ?_
              rintro ⟨v_, M132⟩ ⟨hv_, h130, hi131⟩
              cases hv_
              refine xok_ite (fun c133 => ?_) (fun c133 => ?_)
              · rw [if_pos c133] at e
                refine xok_eqb (h130.gi (o := 123 + 29 * (a1).toNat) (c := 13) (k := 36) (n := 37) (xoL_o (xoL_of c126)).1 (xoL_o (xoL_of c126)).2 (by decide) (by decide)) ?_
                refine xok_eqb (h130.gi (o := 123 + 29 * (G121 (0) 62).toNat) (c := 13) (k := 1) (n := 37) (xoL_o (xoL_of c125)).1 (xoL_o (xoL_of c125)).2 (by decide) (by decide)) ?_
                refine xok_eqb (h130.gi (o := 123 + 29 * (a1).toNat) (c := 13) (k := 1) (n := 37) (xoL_o (xoL_of c126)).1 (xoL_o (xoL_of c126)).2 (by decide) (by decide)) ?_
                refine xok_ite (fun c134 => ?_) (fun c134 => ?_)
                · rw [if_pos c134] at e
                  exact s326_115 hI   h130  e
                · rw [if_neg c134] at e
                  refine xok_eqb (h130.pt (o := 123 + 29 * (G121 (0) 62).toNat) (c := 13) (k := 14) (t := 123 + 29 * (G121 (0) 62).toNat + 13) (n := 37) (xoL_o (xoL_of c125)).1 (xoL_o (xoL_of c125)).2 (by decide) (xoL_all (xoL_of c125) (Q := fun p => (p, 14, p + 13) ∈ xl_P) (by decide +kernel) (by decide +kernel) (by decide +kernel) (by decide +kernel))) ?_
                  refine xok_eqb (h130.gi (o := 123 + 29 * (G121 (0) 62).toNat) (c := 13) (k := 17) (n := 37) (xoL_o (xoL_of c125)).1 (xoL_o (xoL_of c125)).2 (by decide) (by decide)) ?_
                  obtain ⟨R135, e136, e⟩ := xbnd e
                  refine xok_call (sg309 hI  h130 (xoL_all (xoL_of c125) (Q := fun p => xoI (p + 13)) ⟨by decide, rfl⟩ ⟨by decide, rfl⟩ ⟨by decide, rfl⟩ ⟨by decide, rfl⟩) (h130.gin (o := 123 + 29 * (G121 (0) 62).toNat) (c := 13) (k := 17) (n := 37) (xoL_o (xoL_of c125)).1 (xoL_o (xoL_of c125)).2 (by decide) (by decide)) (h130.gin (o := 123 + 29 * (a1).toNat) (c := 13) (k := 36) (n := 37) (xoL_o (xoL_of c126)).1 (xoL_o (xoL_of c126)).2 (by decide) (by decide)) e136) ?_
                  rintro ⟨v_, M139⟩ ⟨hv_, h137, hi138⟩
                  cases hv_
                  refine xok_ite (fun c140 => ?_) (fun c140 => ?_)
                  · rw [if_pos c140] at e
                    exact s326_115 hI   h137  e
                  · rw [if_neg c140] at e
                    refine xok_eqb (h137.pt (o := 123 + 29 * (a1).toNat) (c := 13) (k := 14) (t := 123 + 29 * (a1).toNat + 13) (n := 37) (xoL_o (xoL_of c126)).1 (xoL_o (xoL_of c126)).2 (by decide) (xoL_all (xoL_of c126) (Q := fun p => (p, 14, p + 13) ∈ xl_P) (by decide +kernel) (by decide +kernel) (by decide +kernel) (by decide +kernel))) ?_
                    refine xok_eqb (h137.gi (o := 123 + 29 * (a1).toNat) (c := 13) (k := 17) (n := 37) (xoL_o (xoL_of c126)).1 (xoL_o (xoL_of c126)).2 (by decide) (by decide)) ?_
                    obtain ⟨R141, e142, e⟩ := xbnd e
                    refine xok_call (sg309 hI  h137 (xoL_all (xoL_of c126) (Q := fun p => xoI (p + 13)) ⟨by decide, rfl⟩ ⟨by decide, rfl⟩ ⟨by decide, rfl⟩ ⟨by decide, rfl⟩) (h137.gin (o := 123 + 29 * (a1).toNat) (c := 13) (k := 17) (n := 37) (xoL_o (xoL_of c126)).1 (xoL_o (xoL_of c126)).2 (by decide) (by decide)) (h130.gin (o := 123 + 29 * (a1).toNat) (c := 13) (k := 36) (n := 37) (xoL_o (xoL_of c126)).1 (xoL_o (xoL_of c126)).2 (by decide) (by decide)) e142) ?_
                    rintro ⟨v_, M145⟩ ⟨hv_, h143, hi144⟩
                    cases hv_
                    refine xok_ite (fun c146 => ?_) (fun c146 => ?_)
                    · rw [if_pos c146] at e
                      obtain ⟨R147, e148, e⟩ := xbnd e
                      refine xok_eqb (h143.is (o := 0) (c := 15) (by decide) rfl) ?_
                      refine xok_call (sg296 hI  h143  e148) ?_
                      intro M151 h149
                      refine xok_eqb (h149.pt (o := 0) (c := 15) (k := 80) (t := 253) (n := 107) (by decide) rfl (by decide) (by decide +kernel)) ?_
                      obtain ⟨R152, e153, e⟩ := xbnd e
                      refine xok_eqb (h149.is (o := 0) (c := 15) (by decide) rfl) ?_
                      refine xok_call (sg311 hI  h149 (xoL_of c125) (h130.gin (o := 123 + 29 * (a1).toNat) (c := 13) (k := 36) (n := 37) (xoL_o (xoL_of c126)).1 (xoL_o (xoL_of c126)).2 (by decide) (by decide)) (show xoF 253 by unfold xoF; omega) e153) ?_
                      rintro ⟨v_, M156⟩ ⟨hv_, h154, hi155⟩
                      cases hv_
                      obtain ⟨R157, e158, e⟩ := xbnd e
                      refine xok_eqb (h154.is (o := 0) (c := 15) (by decide) rfl) ?_
                      refine xok_call (sg327 hI  h154 (xoL_of c125) (xoL_of c126) e158) ?_
                      rintro ⟨v_, M161⟩ ⟨hv_, h159, hi160⟩
                      cases hv_
                      refine xok_ite (fun c162 => ?_) (fun c162 => ?_)
                      · rw [if_pos c162] at e
                        exact s326_153 hI   h159 (xoL_of c125) (xoL_of c126) (show xin (0) by decide) (show xin (0) by decide) e
                      · rw [if_neg c162] at e
                        cases e
                        exact ⟨_, rfl, rfl, h159, (show xin (-3) by decide)⟩
                    · rw [if_neg c146] at e
                      exact s326_115 hI   h143  e
              · rw [if_neg c133] at e
                exact s326_64 hI   h130  e
          · rw [if_neg c126] at e; cases e
        · rw [if_neg c125] at e; cases e
      · rw [if_neg c124] at e
        exact s326_22 hI   h120  e
-- ChangeHouseModel.program
theorem sg363 {m f : Nat} {M0 M : xj_M} {G : xG_} (hI : xHI f)   (h : xRX m M0 M G)  {R : Int × xG_}  (e : g363  f  G = some R) : xok (f363  f m M) (fun r => r.1 = R.1 ∧ xRX m M0 r.2 R.2 ∧ xin R.1) := by
  unfold g363 at e
  unfold f363
  obtain ⟨R101, e102, e⟩ := xbnd e
  refine xok_eqb (h.is (o := 0) (c := 15) (by decide) rfl) ?_
  refine xok_call (sg361 hI  h  e102) ?_
  rintro ⟨v_, M105⟩ ⟨hv_, h103, hi104⟩
  cases hv_
  obtain ⟨M106, q107, h108⟩ := h103.pi (v := -1) (o := 0) (c := 15) (k := 75) (n := 107) (by decide) rfl (by decide) (by decide) (show xin (-1) by decide)
  refine xok_eqb q107 ?_
  obtain ⟨G109, g1, e⟩ := xbnd e
  cases g1
  have h108_ : xRX m M0 M106 (xup2 R101.2 (0) 75 (-1)) := h108
  generalize hGG109 : (xup2 R101.2 (0) 75 (-1)) = G109 at e h108
  clear h108_ hGG109
  refine xok_eqb (h108.pt (o := 0) (c := 15) (k := 31) (t := 72) (n := 107) (by decide) rfl (by decide) (by decide +kernel)) ?_
  refine xok_eqb (h108.pt (o := 0) (c := 15) (k := 68) (t := 240) (n := 107) (by decide) rfl (by decide) (by decide +kernel)) ?_
  obtain ⟨R110, e111, e⟩ := xbnd e
  refine xok_eqb (h108.is (o := 0) (c := 15) (by decide) rfl) ?_
  refine xok_call (sg231 hI  h108 (show xoP 72 by unfold xoP; omega) (show xoB 240 by unfold xoB; omega) (show xin (0) by decide) hi104 e111) ?_
  intro M114 h112
  obtain ⟨R115, e116, e⟩ := xbnd e
  refine xok_eqb (h112.is (o := 0) (c := 15) (by decide) rfl) ?_
  refine xok_call (sg211 hI  h112  e116) ?_
  rintro ⟨v_, M119⟩ ⟨hv_, h117, hi118⟩
  cases hv_
  refine xok_ite (fun c120 => ?_) (fun c120 => ?_)
  · rw [if_pos c120] at e
    refine xok_eqb (h117.pt (o := 0) (c := 15) (k := 31) (t := 72) (n := 107) (by decide) rfl (by decide) (by decide +kernel)) ?_
    obtain ⟨R121, e122, e⟩ := xbnd e
    refine xok_eqb (h117.is (o := 0) (c := 15) (by decide) rfl) ?_
    refine xok_call (sg252 hI  h117 (show xoP 72 by unfold xoP; omega) e122) ?_
    intro M125 h123
    refine xok_eqb (h123.gi (o := 0) (c := 15) (k := 26) (n := 107) (by decide) rfl (by decide) (by decide)) ?_
    refine xok_ite (fun c126 => ?_) (fun c126 => ?_)
    · rw [if_pos c126] at e
      refine xok_eqb (h123.pt (o := 0) (c := 15) (k := 61) (t := 122) (n := 107) (by decide) rfl (by decide) (by decide +kernel)) ?_
      refine xok_eqb (h123.gi (o := 0) (c := 15) (k := 62) (n := 107) (by decide) rfl (by decide) (by decide)) ?_
      by_cases c127 : 0 ≤ (R121 (0) 62) ∧ (R121 (0) 62) < 4
      · skip
        rw [if_pos c127] at e
        refine xok_eqb (h123.lin c127) ?_
        obtain ⟨R128, e129, e⟩ := xbnd e
        refine xok_eqb (h123.is (o := 0) (c := 15) (by decide) rfl) ?_
        refine xok_call (sg294 hI  h123 hi104 e129) ?_
        rintro ⟨v_, M132⟩ ⟨hv_, h130, hi131⟩
        cases hv_
        obtain ⟨M133, q134, h135⟩ := h130.pi (v := R128.1) (o := 123 + 29 * (R121 (0) 62).toNat) (c := 13) (k := 34) (n := 37) (xoL_o (xoL_of c127)).1 (xoL_o (xoL_of c127)).2 (by decide) (by decide) hi131
        refine xok_eqb q134 ?_
        obtain ⟨G136, g1, e⟩ := xbnd e
        cases g1
        have h135_ : xRX m M0 M133 (xup2 R128.2 (123 + 29 * (R121 (0) 62).toNat) 34 (R128.1)) := h135
        generalize hGG136 : (xup2 R128.2 (123 + 29 * (R121 (0) 62).toNat) 34 (R128.1)) = G136 at e h135
        clear h135_ hGG136
        obtain ⟨M137, q138, h139⟩ := h135.pi (v := 0) (o := 123 + 29 * (R121 (0) 62).toNat) (c := 13) (k := 33) (n := 37) (xoL_o (xoL_of c127)).1 (xoL_o (xoL_of c127)).2 (by decide) (by decide) (show xin (0) by decide)
        refine xok_eqb q138 ?_
        obtain ⟨G140, g1, e⟩ := xbnd e
        cases g1
        have h139_ : xRX m M0 M137 (xup2 G136 (123 + 29 * (R121 (0) 62).toNat) 33 (0)) := h139
        generalize hGG140 : (xup2 G136 (123 + 29 * (R121 (0) 62).toNat) 33 (0)) = G140 at e h139
        clear h139_ hGG140
        refine xok_eqb (h139.pt (o := 0) (c := 15) (k := 31) (t := 72) (n := 107) (by decide) rfl (by decide) (by decide +kernel)) ?_
        refine xok_eqb (h139.gi (o := 72) (c := 14) (k := 9) (n := 38) (xoP_o (show xoP 72 by unfold xoP; omega)).1 (xoP_o (show xoP 72 by unfold xoP; omega)).2 (by decide) (by decide)) ?_
        cases e
        exact ⟨_, rfl, rfl, h139, (h139.gin (o := 72) (c := 14) (k := 9) (n := 38) (xoP_o (show xoP 72 by unfold xoP; omega)).1 (xoP_o (show xoP 72 by unfold xoP; omega)).2 (by decide) (by decide))⟩
      · rw [if_neg c127] at e; cases e
    · rw [if_neg c126] at e
      refine xok_eqb (h123.gi (o := 0) (c := 15) (k := 26) (n := 107) (by decide) rfl (by decide) (by decide)) ?_
      refine xok_eqb (h123.gi (o := 0) (c := 15) (k := 27) (n := 107) (by decide) rfl (by decide) (by decide)) ?_
      obtain ⟨R141, e142, e⟩ := xbnd e
      refine xok_eqb (h123.is (o := 0) (c := 15) (by decide) rfl) ?_
      refine xok_call (sg362 hI  h123 (h123.gin (o := 0) (c := 15) (k := 26) (n := 107) (by decide) rfl (by decide) (by decide)) (h123.gin (o := 0) (c := 15) (k := 27) (n := 107) (by decide) rfl (by decide) (by decide)) e142) ?_
      rintro ⟨v_, M145⟩ ⟨hv_, h143, hi144⟩
      cases hv_
      cases e
      exact ⟨_, rfl, rfl, h143, hi144⟩
  · rw [if_neg c120] at e
    refine xok_eqb (h117.gi (o := 0) (c := 15) (k := 7) (n := 107) (by decide) rfl (by decide) (by decide)) ?_
    cases e
    exact ⟨_, rfl, rfl, h117, (xin_wr _)⟩
-- ChangeHouseModel.change
theorem s365_270 {m f : Nat} {M0 M : xj_M} {G : xG_} (hI : xHI f)  {r98 : Nat → Int → Int → Int → xG_ → Option (Int × xG_)} {o98 : Nat → Nat → Int → Int → Int → xj_M → Option (Int × xj_M)}  (hr98 : ∀ {M : xj_M} {G : xG_} {x2 : Nat} {x4 : Int} {x5 : Int} {x6 : Int} {R : Int × xG_}, xRX m M0 M G → xoL x2 → xin x4 → xin x5 → xin x6 → r98 x2 x4 x5 x6 G = some R → xok (o98 m (m + x2) x4 x5 x6 M) (fun r => r.1 = R.1 ∧ xRX m M0 r.2 R.2 ∧ xin R.1)) (h : xRX m M0 M G) {x2 : Nat} {x4 : Int} {x5 : Int} {x6 : Int} {R : Int × xG_} (tx2 : xoL x2) (tx4 : xin x4) (tx5 : xin x5) (tx6 : xin x6) (e : g365_270  r98 f x2 x4 x5 x6 G = some R) : xok (f365_270  o98 f m (m + x2) x4 x5 x6 M) (fun r => r.1 = R.1 ∧ xRX m M0 r.2 R.2 ∧ xin R.1) := by
  unfold g365_270 at e
  unfold f365_270
  exact hr98 h tx2 (xin_wr _) tx5 tx6 e
theorem s365_250 {m f : Nat} {M0 M : xj_M} {G : xG_} (hI : xHI f)  {r98 : Nat → Int → Int → Int → xG_ → Option (Int × xG_)} {o98 : Nat → Nat → Int → Int → Int → xj_M → Option (Int × xj_M)}  (hr98 : ∀ {M : xj_M} {G : xG_} {x2 : Nat} {x4 : Int} {x5 : Int} {x6 : Int} {R : Int × xG_}, xRX m M0 M G → xoL x2 → xin x4 → xin x5 → xin x6 → r98 x2 x4 x5 x6 G = some R → xok (o98 m (m + x2) x4 x5 x6 M) (fun r => r.1 = R.1 ∧ xRX m M0 r.2 R.2 ∧ xin R.1)) (h : xRX m M0 M G) {x2 : Nat} {x4 : Int} {x5 : Int} {x6 : Int} {x7 : Int} {y0 : Int} {R : Int × xG_} (tx2 : xoL x2) (tx4 : xin x4) (tx5 : xin x5) (tx6 : xin x6) (tx7 : xin x7) (ty0 : xin y0) (e : g365_250  r98 f x2 x4 x5 x6 x7 y0 G = some R) : xok (f365_250  o98 f m (m + x2) x4 x5 x6 x7 y0 M) (fun r => r.1 = R.1 ∧ xRX m M0 r.2 R.2 ∧ xin R.1) := by
  unfold g365_250 at e
  unfold f365_250
  refine xok_ite (fun c101 => ?_) (fun c101 => ?_)
  · rw [if_pos c101] at e
    exact s365_270 hI  hr98 h tx2 tx4 tx5 tx6 e
  · rw [if_neg c101] at e
    refine xok_ite (fun c102 => ?_) (fun c102 => ?_)
    · rw [if_pos c102] at e
      exact s365_270 hI  hr98 h tx2 tx4 tx5 tx6 e
    · rw [if_neg c102] at e
      exact s365_270 hI  hr98 h tx2 tx4 ty0 tx7 e
theorem s365_221 {m f : Nat} {M0 M : xj_M} {G : xG_} (hI : xHI f)  {r98 : Nat → Int → Int → Int → xG_ → Option (Int × xG_)} {o98 : Nat → Nat → Int → Int → Int → xj_M → Option (Int × xj_M)}  (hr98 : ∀ {M : xj_M} {G : xG_} {x2 : Nat} {x4 : Int} {x5 : Int} {x6 : Int} {R : Int × xG_}, xRX m M0 M G → xoL x2 → xin x4 → xin x5 → xin x6 → r98 x2 x4 x5 x6 G = some R → xok (o98 m (m + x2) x4 x5 x6 M) (fun r => r.1 = R.1 ∧ xRX m M0 r.2 R.2 ∧ xin R.1)) (h : xRX m M0 M G) {x2 : Nat} {x4 : Int} {x5 : Int} {x6 : Int} {x7 : Int} {R : Int × xG_} (tx2 : xoL x2) (tx4 : xin x4) (tx5 : xin x5) (tx6 : xin x6) (tx7 : xin x7) (e : g365_221  r98 f x2 x4 x5 x6 x7 G = some R) : xok (f365_221  o98 f m (m + x2) x4 x5 x6 x7 M) (fun r => r.1 = R.1 ∧ xRX m M0 r.2 R.2 ∧ xin R.1) := by
  unfold g365_221 at e
  unfold f365_221
  exact s365_250 hI  hr98 h tx2 tx4 tx5 tx6 tx7 (show xin (2) by decide) e
theorem s365_200 {m f : Nat} {M0 M : xj_M} {G : xG_} (hI : xHI f)  {r98 : Nat → Int → Int → Int → xG_ → Option (Int × xG_)} {o98 : Nat → Nat → Int → Int → Int → xj_M → Option (Int × xj_M)}  (hr98 : ∀ {M : xj_M} {G : xG_} {x2 : Nat} {x4 : Int} {x5 : Int} {x6 : Int} {R : Int × xG_}, xRX m M0 M G → xoL x2 → xin x4 → xin x5 → xin x6 → r98 x2 x4 x5 x6 G = some R → xok (o98 m (m + x2) x4 x5 x6 M) (fun r => r.1 = R.1 ∧ xRX m M0 r.2 R.2 ∧ xin R.1)) (h : xRX m M0 M G) {x2 : Nat} {x4 : Int} {x5 : Int} {x6 : Int} {x7 : Int} {y0 : Int} {R : Int × xG_} (tx2 : xoL x2) (tx4 : xin x4) (tx5 : xin x5) (tx6 : xin x6) (tx7 : xin x7) (ty0 : xin y0) (e : g365_200  r98 f x2 x4 x5 x6 x7 y0 G = some R) : xok (f365_200  o98 f m (m + x2) x4 x5 x6 x7 y0 M) (fun r => r.1 = R.1 ∧ xRX m M0 r.2 R.2 ∧ xin R.1) := by
  unfold g365_200 at e
  unfold f365_200
  refine xok_ite (fun c103 => ?_) (fun c103 => ?_)
  · rw [if_pos c103] at e
    exact s365_221 hI  hr98 h tx2 tx4 tx5 tx6 tx7 e
  · rw [if_neg c103] at e
    refine xok_eqb (h.pt (o := 0) (c := 15) (k := 31) (t := 72) (n := 107) (by decide) rfl (by decide) (by decide +kernel)) ?_
    refine xok_eqb (h.pt (o := 72) (c := 14) (k := 5) (t := 72 + 6) (n := 38) (xoP_o (show xoP 72 by unfold xoP; omega)).1 (xoP_o (show xoP 72 by unfold xoP; omega)).2 (by decide) (xoP_all (show xoP 72 by unfold xoP; omega) (Q := fun p => (p, 5, p + 6) ∈ xl_P) (by decide +kernel) (by decide +kernel) (by decide +kernel))) ?_
    by_cases c104 : 0 ≤ (y0) ∧ (y0) < 16
    · skip
      rw [if_pos c104] at e
      refine xok_eqb (h.ab (o := 72 + 6) (n := 16) (xoP_all (show xoP 72 by unfold xoP; omega) (Q := fun p => p + 6 < 276) (by decide) (by decide) (by decide)) (xoP_all (show xoP 72 by unfold xoP; omega) (Q := fun p => xl_t (p + 6) = (2, 0, 16)) rfl rfl rfl) (by decide) c104.1 c104.2) ?_
      refine xok_ite (fun c105 => ?_) (fun c105 => ?_)
      · rw [if_pos c105] at e
        refine xok_eqb (h.pt (o := 0) (c := 15) (k := 31) (t := 72) (n := 107) (by decide) rfl (by decide) (by decide +kernel)) ?_
        refine xok_eqb (h.pt (o := 72) (c := 14) (k := 1) (t := 72 + 2) (n := 38) (xoP_o (show xoP 72 by unfold xoP; omega)).1 (xoP_o (show xoP 72 by unfold xoP; omega)).2 (by decide) (xoP_all (show xoP 72 by unfold xoP; omega) (Q := fun p => (p, 1, p + 2) ∈ xl_P) (by decide +kernel) (by decide +kernel) (by decide +kernel))) ?_
        by_cases c106 : 0 ≤ (y0) ∧ (y0) < 16
        · skip
          rw [if_pos c106] at e
          refine xok_eqb (h.ai (o := 72 + 2) (n := 16) (xoP_all (show xoP 72 by unfold xoP; omega) (Q := fun p => p + 2 < 276) (by decide) (by decide) (by decide)) (xoP_all (show xoP 72 by unfold xoP; omega) (Q := fun p => xl_t (p + 2) = (2, 3, 16)) rfl rfl rfl) (by decide) c106.1 c106.2) ?_
          refine xok_eqb (h.pt (o := 0) (c := 15) (k := 101) (t := 272) (n := 107) (by decide) rfl (by decide) (by decide +kernel)) ?_
          by_cases c107 : 0 ≤ (x4) ∧ (x4) < 600
          · skip
            rw [if_pos c107] at e
            refine xok_eqb (h.ai (o := 272) (n := 600) (by decide) rfl (by decide) c107.1 c107.2) ?_
            refine xok_ite (fun c108 => ?_) (fun c108 => ?_)
            · rw [if_pos c108] at e
              exact s365_250 hI  hr98 h tx2 tx4 tx5 tx6 tx7 (show xin (0) by decide) e
            · rw [if_neg c108] at e
              exact s365_250 hI  hr98 h tx2 tx4 tx5 tx6 tx7 (show xin (3) by decide) e
          · rw [if_neg c107] at e; cases e
        · rw [if_neg c106] at e; cases e
      · rw [if_neg c105] at e
        exact s365_221 hI  hr98 h tx2 tx4 tx5 tx6 tx7 e
    · rw [if_neg c104] at e; cases e
theorem s365_158 {m f : Nat} {M0 M : xj_M} {G : xG_} (hI : xHI f)  {r98 : Nat → Int → Int → Int → xG_ → Option (Int × xG_)} {o98 : Nat → Nat → Int → Int → Int → xj_M → Option (Int × xj_M)}  (hr98 : ∀ {M : xj_M} {G : xG_} {x2 : Nat} {x4 : Int} {x5 : Int} {x6 : Int} {R : Int × xG_}, xRX m M0 M G → xoL x2 → xin x4 → xin x5 → xin x6 → r98 x2 x4 x5 x6 G = some R → xok (o98 m (m + x2) x4 x5 x6 M) (fun r => r.1 = R.1 ∧ xRX m M0 r.2 R.2 ∧ xin R.1)) (h : xRX m M0 M G) {x2 : Nat} {x4 : Int} {x5 : Int} {x6 : Int} {y0 : Int} {y1 : Int} {y2 : Nat} {R : Int × xG_} (tx2 : xoL x2) (tx4 : xin x4) (tx5 : xin x5) (tx6 : xin x6) (ty0 : xin y0) (ty1 : xin y1) (ty2 : xoI y2) (e : g365_158  r98 f x2 x4 x5 x6 y0 y1 y2 G = some R) : xok (f365_158  o98 f m (m + x2) x4 x5 x6 y0 y1 (m + y2) M) (fun r => r.1 = R.1 ∧ xRX m M0 r.2 R.2 ∧ xin R.1) := by
  unfold g365_158 at e
  unfold f365_158
  by_cases c109 : 0 ≤ (y1) ∧ (y1) < ((xl_t (y2)).2.2 : Int)
  · skip
    rw [if_pos c109] at e
    obtain ⟨M110, q111, h112⟩ := h.si (o := y2) (n := (xl_t (y2)).2.2) (v := y0) ty2.1 ty2.2 c109.1 c109.2 ty0
    refine xok_eqb q111 ?_
    obtain ⟨G113, g1, e⟩ := xbnd e
    cases g1
    have h112_ : xRX m M0 M110 (xup2 G (y2) (y1).toNat (y0)) := h112
    generalize hGG113 : (xup2 G (y2) (y1).toNat (y0)) = G113 at e h112
    clear h112_ hGG113
    obtain ⟨R114, e115, e⟩ := xbnd e
    refine xok_eqb (h112.is (o := 0) (c := 15) (by decide) rfl) ?_
    refine xok_call (sg213 hI  h112  e115) ?_
    intro M118 h116
    refine xok_eqb (h116.gi (o := 0) (c := 15) (k := 4) (n := 107) (by decide) rfl (by decide) (by decide)) ?_
    obtain ⟨R119, e120, e⟩ := xbnd e
    refine xok_eqb (h116.is (o := 0) (c := 15) (by decide) rfl) ?_
    refine xok_call (sg366 hI  h116 tx4 e120) ?_
    intro M123 h121
    obtain ⟨R124, e125, e⟩ := xbnd e
    refine xok_eqb (h121.is (o := 0) (c := 15) (by decide) rfl) ?_
    refine xok_call (sg211 hI  h121  e125) ?_
    rintro ⟨v_, M128⟩ ⟨hv_, h126, hi127⟩
    cases hv_
    refine xok_ite (fun c129 => ?_) (fun c129 => ?_)
    · rw [if_pos c129] at e
      refine xok_eqb (h126.pt (o := 0) (c := 15) (k := 31) (t := 72) (n := 107) (by decide) rfl (by decide) (by decide +kernel)) ?_
      refine xok_eqb (h126.pt (o := 0) (c := 15) (k := 102) (t := 273) (n := 107) (by decide) rfl (by decide) (by decide +kernel)) ?_
      by_cases c130 : 0 ≤ (x4) ∧ (x4) < 600
      · skip
        rw [if_pos c130] at e
        refine xok_eqb (h126.al (o := 273) (n := 600) (by decide) rfl  c130.1 c130.2) ?_
        obtain ⟨R131, e132, e⟩ := xbnd e
        refine xok_eqb (h126.is (o := 72) (c := 14) (xoP_o (show xoP 72 by unfold xoP; omega)).1 (xoP_o (show xoP 72 by unfold xoP; omega)).2) ?_
        refine xok_call (sg205 hI  h126 (show xoP 72 by unfold xoP; omega) (h126.aln (o := 273) (n := 600) (by decide) rfl  c130.1 c130.2) e132) ?_
        rintro ⟨v_, M135⟩ ⟨hv_, h133, hi134⟩
        cases hv_
        exact s365_200 hI  hr98 h133 tx2 tx4 tx5 tx6 (h116.gin (o := 0) (c := 15) (k := 4) (n := 107) (by decide) rfl (by decide) (by decide)) hi134 e
      · rw [if_neg c130] at e; cases e
    · rw [if_neg c129] at e
      exact s365_200 hI  hr98 h126 tx2 tx4 tx5 tx6 (h116.gin (o := 0) (c := 15) (k := 4) (n := 107) (by decide) rfl (by decide) (by decide)) (show xin (-1) by decide) e
  · rw [if_neg c109] at e; cases e
theorem s365_138 {m f : Nat} {M0 M : xj_M} {G : xG_} (hI : xHI f)  {r98 : Nat → Int → Int → Int → xG_ → Option (Int × xG_)} {o98 : Nat → Nat → Int → Int → Int → xj_M → Option (Int × xj_M)}  (hr98 : ∀ {M : xj_M} {G : xG_} {x2 : Nat} {x4 : Int} {x5 : Int} {x6 : Int} {R : Int × xG_}, xRX m M0 M G → xoL x2 → xin x4 → xin x5 → xin x6 → r98 x2 x4 x5 x6 G = some R → xok (o98 m (m + x2) x4 x5 x6 M) (fun r => r.1 = R.1 ∧ xRX m M0 r.2 R.2 ∧ xin R.1)) (h : xRX m M0 M G) {x2 : Nat} {x4 : Int} {x5 : Int} {x6 : Int} {R : Int × xG_} (tx2 : xoL x2) (tx4 : xin x4) (tx5 : xin x5) (tx6 : xin x6) (e : g365_138  r98 f x2 x4 x5 x6 G = some R) : xok (f365_138  o98 f m (m + x2) x4 x5 x6 M) (fun r => r.1 = R.1 ∧ xRX m M0 r.2 R.2 ∧ xin R.1) := by
  unfold g365_138 at e
  unfold f365_138
  refine xok_eqb (h.pt (o := 0) (c := 15) (k := 100) (t := 271) (n := 107) (by decide) rfl (by decide) (by decide +kernel)) ?_
  obtain ⟨R136, e137, e⟩ := xbnd e
  refine xok_eqb (h.is (o := 0) (c := 15) (by decide) rfl) ?_
  refine xok_call (sg220 hI  h (show xin (43) by decide) e137) ?_
  rintro ⟨v_, M140⟩ ⟨hv_, h138, hi139⟩
  cases hv_
  refine xok_ite (fun c141 => ?_) (fun c141 => ?_)
  · rw [if_pos c141] at e
    exact s365_158 hI  hr98 h138 tx2 tx4 tx5 tx6 (show xin (-1) by decide) tx4 (show xoI 271 from ⟨by decide, rfl⟩) e
  · rw [if_neg c141] at e
    exact s365_158 hI  hr98 h138 tx2 tx4 tx5 tx6 (show xin (1) by decide) tx4 (show xoI 271 from ⟨by decide, rfl⟩) e
theorem s365_324b {m f : Nat} {M0 M : xj_M} {G : xG_} (hI : xHI f)  {r324 : Nat → Int → Int → xG_ → Option (Int × xG_)} {o324 : Nat → Nat → Int → Int → xj_M → Option (Int × xj_M)}  (hr324 : ∀ {M : xj_M} {G : xG_} {x2 : Nat} {x4 : Int} {x7 : Int} {R : Int × xG_}, xRX m M0 M G → xoL x2 → xin x4 → xin x7 → r324 x2 x4 x7 G = some R → xok (o324 m (m + x2) x4 x7 M) (fun r => r.1 = R.1 ∧ xRX m M0 r.2 R.2 ∧ xin R.1)) (h : xRX m M0 M G) {x2 : Nat} {x4 : Int} {x7 : Int} {R : Int × xG_} (tx2 : xoL x2) (tx4 : xin x4) (tx7 : xin x7) (e : g365_324b  r324 f x2 x4 x7 G = some R) : xok (f365_324b  o324 f m (m + x2) x4 x7 M) (fun r => r.1 = R.1 ∧ xRX m M0 r.2 R.2 ∧ xin R.1) := by
  unfold g365_324b at e
  unfold f365_324b
  refine xok_ite (fun c142 => ?_) (fun c142 => ?_)
  · rw [if_pos c142] at e
    cases e
    exact ⟨_, rfl, rfl, h, tx4⟩
  · rw [if_neg c142] at e
    refine xok_eqb (h.pt (o := 0) (c := 15) (k := 100) (t := 271) (n := 107) (by decide) rfl (by decide) (by decide +kernel)) ?_
    by_cases c143 : 0 ≤ (x7) ∧ (x7) < 600
    · skip
      rw [if_pos c143] at e
      refine xok_eqb (h.ai (o := 271) (n := 600) (by decide) rfl (by decide) c143.1 c143.2) ?_
      refine xok_eqb (h.pt (o := 0) (c := 15) (k := 102) (t := 273) (n := 107) (by decide) rfl (by decide) (by decide +kernel)) ?_
      by_cases c144 : 0 ≤ (x7) ∧ (x7) < 600
      · skip
        rw [if_pos c144] at e
        refine xok_eqb (h.al (o := 273) (n := 600) (by decide) rfl  c144.1 c144.2) ?_
        refine xok_eqb (h.pt (o := 0) (c := 15) (k := 101) (t := 272) (n := 107) (by decide) rfl (by decide) (by decide +kernel)) ?_
        by_cases c145 : 0 ≤ (x7) ∧ (x7) < 600
        · skip
          rw [if_pos c145] at e
          refine xok_eqb (h.ai (o := 272) (n := 600) (by decide) rfl (by decide) c145.1 c145.2) ?_
          refine xok_eqb (h.pt (o := 0) (c := 15) (k := 103) (t := 274) (n := 107) (by decide) rfl (by decide) (by decide +kernel)) ?_
          obtain ⟨R146, e147, e⟩ := xbnd e
          refine xok_call (sg329 hI  h tx2 (h.ain (o := 271) (n := 600) (by decide) rfl (by decide) c143.1 c143.2) (h.aln (o := 273) (n := 600) (by decide) rfl  c144.1 c144.2) (h.ain (o := 272) (n := 600) (by decide) rfl (by decide) c145.1 c145.2) (show xoJ 274 from ⟨by decide, rfl⟩) (xin_wr _) e147) ?_
          intro M150 h148
          exact hr324 h148 tx2 tx4 (xin_wr _) e
        · rw [if_neg c145] at e; cases e
      · rw [if_neg c144] at e; cases e
    · rw [if_neg c143] at e; cases e
theorem s365_324 {m f : Nat} {M0 : xj_M} (hI : xHI f)     : ∀ {n : Nat} {M : xj_M} {G : xG_} {x2 : Nat} {x4 : Int} {x7 : Int} {R : Int × xG_}, xRX m M0 M G → xoL x2 → xin x4 → xin x7 → g365_324   f n x2 x4 x7 G = some R → xok (f365_324   f n m (m + x2) x4 x7 M) (fun r => r.1 = R.1 ∧ xRX m M0 r.2 R.2 ∧ xin R.1) := by
  intro n
  induction n with
  | zero => intros; rename_i e; cases e
  | succ n ih =>
    intros
    rename_i h i0 i1 i2 e
    exact s365_324b hI   ih h i0 i1 i2 e
theorem s365_276 {m f : Nat} {M0 M : xj_M} {G : xG_} (hI : xHI f)     (h : xRX m M0 M G) {x2 : Nat} {x4 : Int} {x5 : Int} {x6 : Int} {R : Int × xG_} (tx2 : xoL x2) (tx4 : xin x4) (tx5 : xin x5) (tx6 : xin x6) (e : g365_276   f x2 x4 x5 x6 G = some R) : xok (f365_276   f m (m + x2) x4 x5 x6 M) (fun r => r.1 = R.1 ∧ xRX m M0 r.2 R.2 ∧ xin R.1) := by
  unfold g365_276 at e
  unfold f365_276
  obtain ⟨R151, e152, e⟩ := xbnd e
  refine xok_eqb (h.is (o := 0) (c := 15) (by decide) rfl) ?_
  refine xok_call (sg211 hI  h  e152) ?_
  rintro ⟨v_, M155⟩ ⟨hv_, h153, hi154⟩
  cases hv_
  refine xok_ite (fun c156 => ?_) (fun c156 => ?_)
  · rw [if_pos c156] at e
    refine xok_ite (fun c157 => ?_) (fun c157 => ?_)
    · rw [if_pos c157] at e
      refine xok_eqb (h153.gi (o := x2) (c := 13) (k := 33) (n := 37) (xoL_o tx2).1 (xoL_o tx2).2 (by decide) (by decide)) ?_
      refine xok_ite (fun c158 => ?_) (fun c158 => ?_)
      · rw [if_pos c158] at e
        exact s365_324 hI   h153 tx2 tx4 (show xin (0) by decide) e
      · rw [if_neg c158] at e
        cases e
        exact ⟨_, rfl, rfl, h153, (show xin (-6000) by decide)⟩
    · rw [if_neg c157] at e
      obtain ⟨R159, e160, e⟩ := xbnd e
      refine xok_eqb (h153.is (o := 0) (c := 15) (by decide) rfl) ?_
      refine xok_call (sg362 hI  h153 tx5 tx6 e160) ?_
      rintro ⟨v_, M163⟩ ⟨hv_, h161, hi162⟩
      cases hv_
      cases e
      exact ⟨_, rfl, rfl, h161, hi162⟩
  · rw [if_neg c156] at e
    refine xok_eqb (h153.gi (o := 0) (c := 15) (k := 7) (n := 107) (by decide) rfl (by decide) (by decide)) ?_
    cases e
    exact ⟨_, rfl, rfl, h153, (xin_wr _)⟩
theorem s365_98b {m f : Nat} {M0 M : xj_M} {G : xG_} (hI : xHI f)  {r98 : Nat → Int → Int → Int → xG_ → Option (Int × xG_)} {o98 : Nat → Nat → Int → Int → Int → xj_M → Option (Int × xj_M)}  (hr98 : ∀ {M : xj_M} {G : xG_} {x2 : Nat} {x4 : Int} {x5 : Int} {x6 : Int} {R : Int × xG_}, xRX m M0 M G → xoL x2 → xin x4 → xin x5 → xin x6 → r98 x2 x4 x5 x6 G = some R → xok (o98 m (m + x2) x4 x5 x6 M) (fun r => r.1 = R.1 ∧ xRX m M0 r.2 R.2 ∧ xin R.1)) (h : xRX m M0 M G) {x2 : Nat} {x4 : Int} {x5 : Int} {x6 : Int} {R : Int × xG_} (tx2 : xoL x2) (tx4 : xin x4) (tx5 : xin x5) (tx6 : xin x6) (e : g365_98b  r98 f x2 x4 x5 x6 G = some R) : xok (f365_98b  o98 f m (m + x2) x4 x5 x6 M) (fun r => r.1 = R.1 ∧ xRX m M0 r.2 R.2 ∧ xin R.1) := by
  unfold g365_98b at e
  unfold f365_98b
  obtain ⟨R164, e165, e⟩ := xbnd e
  refine xok_eqb (h.is (o := 0) (c := 15) (by decide) rfl) ?_
  refine xok_call (sg211 hI  h  e165) ?_
  rintro ⟨v_, M168⟩ ⟨hv_, h166, hi167⟩
  cases hv_
  refine xok_ite (fun c169 => ?_) (fun c169 => ?_)
  · rw [if_pos c169] at e
    exact s365_276 hI   h166 tx2 tx4 tx5 tx6 e
  · rw [if_neg c169] at e
    refine xok_eqb (h166.gi (o := 0) (c := 15) (k := 2) (n := 107) (by decide) rfl (by decide) (by decide)) ?_
    refine xok_ite (fun c170 => ?_) (fun c170 => ?_)
    · rw [if_pos c170] at e
      exact s365_276 hI   h166 tx2 tx4 tx5 tx6 e
    · rw [if_neg c170] at e
      obtain ⟨R171, e172, e⟩ := xbnd e
      refine xok_eqb (h166.is (o := 0) (c := 15) (by decide) rfl) ?_
      refine xok_call (sg220 hI  h166 (show xin (43) by decide) e172) ?_
      rintro ⟨v_, M175⟩ ⟨hv_, h173, hi174⟩
      cases hv_
      refine xok_ite (fun c176 => ?_) (fun c176 => ?_)
      · rw [if_pos c176] at e
        exact s365_138 hI  hr98 h173 tx2 tx4 tx5 tx6 e
      · rw [if_neg c176] at e
        obtain ⟨R177, e178, e⟩ := xbnd e
        refine xok_eqb (h173.is (o := 0) (c := 15) (by decide) rfl) ?_
        refine xok_call (sg220 hI  h173 (show xin (45) by decide) e178) ?_
        rintro ⟨v_, M181⟩ ⟨hv_, h179, hi180⟩
        cases hv_
        refine xok_ite (fun c182 => ?_) (fun c182 => ?_)
        · rw [if_pos c182] at e
          exact s365_138 hI  hr98 h179 tx2 tx4 tx5 tx6 e
        · rw [if_neg c182] at e
          refine xok_eqb (h179.gi (o := 0) (c := 15) (k := 4) (n := 107) (by decide) rfl (by decide) (by decide)) ?_
          obtain ⟨R183, e184, e⟩ := xbnd e
          refine xok_eqb (h179.is (o := 0) (c := 15) (by decide) rfl) ?_
          refine xok_call (sg210 hI  h179 (h179.gin (o := 0) (c := 15) (k := 4) (n := 107) (by decide) rfl (by decide) (by decide)) e184) ?_
          intro M187 h185
          exact s365_138 hI  hr98 h185 tx2 tx4 tx5 tx6 e
theorem s365_98 {m f : Nat} {M0 : xj_M} (hI : xHI f)     : ∀ {n : Nat} {M : xj_M} {G : xG_} {x2 : Nat} {x4 : Int} {x5 : Int} {x6 : Int} {R : Int × xG_}, xRX m M0 M G → xoL x2 → xin x4 → xin x5 → xin x6 → g365_98   f n x2 x4 x5 x6 G = some R → xok (f365_98   f n m (m + x2) x4 x5 x6 M) (fun r => r.1 = R.1 ∧ xRX m M0 r.2 R.2 ∧ xin R.1) := by
  intro n
  induction n with
  | zero => intros; rename_i e; cases e
  | succ n ih =>
    intros
    rename_i h i0 i1 i2 i3 e
    exact s365_98b hI   ih h i0 i1 i2 i3 e
theorem s365_39 {m f : Nat} {M0 M : xj_M} {G : xG_} (hI : xHI f)     (h : xRX m M0 M G) {x1 : Int} {x2 : Nat} {y0 : Int} {R : Int × xG_} (tx1 : xin x1) (tx2 : xoL x2) (ty0 : xin y0) (e : g365_39   f x1 x2 y0 G = some R) : xok (f365_39   f m x1 (m + x2) y0 M) (fun r => r.1 = R.1 ∧ xRX m M0 r.2 R.2 ∧ xin R.1) := by
  unfold g365_39 at e
  unfold f365_39
  refine xok_eqb (h.pt (o := 0) (c := 15) (k := 31) (t := 72) (n := 107) (by decide) rfl (by decide) (by decide +kernel)) ?_
  refine xok_eqb (h.pt (o := 0) (c := 15) (k := 67) (t := 239) (n := 107) (by decide) rfl (by decide) (by decide +kernel)) ?_
  refine xok_eqb (h.pt (o := 0) (c := 15) (k := 69) (t := 241) (n := 107) (by decide) rfl (by decide) (by decide +kernel)) ?_
  by_cases c188 : 0 ≤ (y0) ∧ (y0) < 4200
  · skip
    rw [if_pos c188] at e
    refine xok_eqb (h.ai (o := 241) (n := 4200) (by decide) rfl (by decide) c188.1 c188.2) ?_
    refine xok_eqb (h.pt (o := 0) (c := 15) (k := 69) (t := 241) (n := 107) (by decide) rfl (by decide) (by decide +kernel)) ?_
    by_cases c189 : 0 ≤ (y0) ∧ (y0) < 4200
    · skip
      rw [if_pos c189] at e
      refine xok_eqb (h.ai (o := 241) (n := 4200) (by decide) rfl (by decide) c189.1 c189.2) ?_
      refine xok_eqb (h.pt (o := 0) (c := 15) (k := 70) (t := 242) (n := 107) (by decide) rfl (by decide) (by decide +kernel)) ?_
      by_cases c190 : 0 ≤ (y0) ∧ (y0) < 4200
      · skip
        rw [if_pos c190] at e
        refine xok_eqb (h.ai (o := 242) (n := 4200) (by decide) rfl (by decide) c190.1 c190.2) ?_
        obtain ⟨R191, e192, e⟩ := xbnd e
        refine xok_eqb (h.is (o := 0) (c := 15) (by decide) rfl) ?_
        refine xok_call (sg231 hI  h (show xoP 72 by unfold xoP; omega) (show xoB 239 by unfold xoB; omega) (h.ain (o := 241) (n := 4200) (by decide) rfl (by decide) c188.1 c188.2) (xin_wr _) e192) ?_
        intro M195 h193
        refine xok_eqb (h193.pt (o := 0) (c := 15) (k := 31) (t := 72) (n := 107) (by decide) rfl (by decide) (by decide +kernel)) ?_
        obtain ⟨R196, e197, e⟩ := xbnd e
        refine xok_eqb (h193.is (o := 0) (c := 15) (by decide) rfl) ?_
        refine xok_call (sg254 hI  h193 (show xoP 72 by unfold xoP; omega) e197) ?_
        intro M200 h198
        refine xok_eqb (h198.pt (o := 0) (c := 15) (k := 68) (t := 240) (n := 107) (by decide) rfl (by decide) (by decide +kernel)) ?_
        obtain ⟨R201, e202, e⟩ := xbnd e
        refine xok_eqb (h198.is (o := 0) (c := 15) (by decide) rfl) ?_
        refine xok_call (sg212 hI  h198 (show xoB 240 by unfold xoB; omega) (show xin (0) by decide) tx1 e202) ?_
        intro M205 h203
        exact s365_98 hI   h203 tx2 (show xin (0) by decide) (show xin (0) by decide) (show xin (-1) by decide) e
      · rw [if_neg c190] at e; cases e
    · rw [if_neg c189] at e; cases e
  · rw [if_neg c188] at e; cases e
theorem sg365 {m f : Nat} {M0 M : xj_M} {G : xG_} (hI : xHI f)   (h : xRX m M0 M G)  {R : Int × xG_}  (e : g365  f  G = some R) : xok (f365  f m M) (fun r => r.1 = R.1 ∧ xRX m M0 r.2 R.2 ∧ xin R.1) := by
  unfold g365 at e
  unfold f365
  obtain ⟨R206, e207, e⟩ := xbnd e
  refine xok_eqb (h.is (o := 0) (c := 15) (by decide) rfl) ?_
  refine xok_call (sg361 hI  h  e207) ?_
  rintro ⟨v_, M210⟩ ⟨hv_, h208, hi209⟩
  cases hv_
  obtain ⟨M211, q212, h213⟩ := h208.pi (v := -1) (o := 0) (c := 15) (k := 75) (n := 107) (by decide) rfl (by decide) (by decide) (show xin (-1) by decide)
  refine xok_eqb q212 ?_
  obtain ⟨G214, g1, e⟩ := xbnd e
  cases g1
  have h213_ : xRX m M0 M211 (xup2 R206.2 (0) 75 (-1)) := h213
  generalize hGG214 : (xup2 R206.2 (0) 75 (-1)) = G214 at e h213
  clear h213_ hGG214
  refine xok_eqb (h213.pt (o := 0) (c := 15) (k := 61) (t := 122) (n := 107) (by decide) rfl (by decide) (by decide +kernel)) ?_
  refine xok_eqb (h213.gi (o := 0) (c := 15) (k := 62) (n := 107) (by decide) rfl (by decide) (by decide)) ?_
  by_cases c215 : 0 ≤ (G214 (0) 62) ∧ (G214 (0) 62) < 4
  · skip
    rw [if_pos c215] at e
    refine xok_eqb (h213.lin c215) ?_
    refine xok_eqb (h213.gi (o := 123 + 29 * (G214 (0) 62).toNat) (c := 13) (k := 34) (n := 37) (xoL_o (xoL_of c215)).1 (xoL_o (xoL_of c215)).2 (by decide) (by decide)) ?_
    refine xok_ite (fun c216 => ?_) (fun c216 => ?_)
    · rw [if_pos c216] at e
      refine xok_eqb (h213.gi (o := 123 + 29 * (G214 (0) 62).toNat) (c := 13) (k := 1) (n := 37) (xoL_o (xoL_of c215)).1 (xoL_o (xoL_of c215)).2 (by decide) (by decide)) ?_
      exact s365_39 hI   h213 hi209 (xoL_of c215) (h213.gin (o := 123 + 29 * (G214 (0) 62).toNat) (c := 13) (k := 1) (n := 37) (xoL_o (xoL_of c215)).1 (xoL_o (xoL_of c215)).2 (by decide) (by decide)) e
    · rw [if_neg c216] at e
      refine xok_eqb (h213.gi (o := 123 + 29 * (G214 (0) 62).toNat) (c := 13) (k := 34) (n := 37) (xoL_o (xoL_of c215)).1 (xoL_o (xoL_of c215)).2 (by decide) (by decide)) ?_
      exact s365_39 hI   h213 hi209 (xoL_of c215) (h213.gin (o := 123 + 29 * (G214 (0) 62).toNat) (c := 13) (k := 34) (n := 37) (xoL_o (xoL_of c215)).1 (xoL_o (xoL_of c215)).2 (by decide) (by decide)) e
  · rw [if_neg c215] at e; cases e
-- ChangeHouseModel.query
theorem s368_107 {m f : Nat} {M0 M : xj_M} {G : xG_} (hI : xHI f)     (h : xRX m M0 M G) {x2 : Int} {x3 : Int} {y0 : Int} {R : Int × xG_} (tx2 : xin x2) (tx3 : xin x3) (ty0 : xin y0) (e : g368_107   f x2 x3 y0 G = some R) : xok (f368_107   f m x2 x3 y0 M) (fun r => r.1 = R.1 ∧ xRX m M0 r.2 R.2 ∧ xin R.1) := by
  unfold g368_107 at e
  unfold f368_107
  refine xok_eqb (h.pt (o := 0) (c := 15) (k := 29) (t := 2) (n := 107) (by decide) rfl (by decide) (by decide +kernel)) ?_
  obtain ⟨M101, q102, h103⟩ := h.pi (v := x2) (o := 2) (c := 14) (k := 14) (n := 38) (xoP_o (show xoP 2 by unfold xoP; omega)).1 (xoP_o (show xoP 2 by unfold xoP; omega)).2 (by decide) (by decide) tx2
  refine xok_eqb q102 ?_
  obtain ⟨G104, g1, e⟩ := xbnd e
  cases g1
  have h103_ : xRX m M0 M101 (xup2 G (2) 14 (x2)) := h103
  generalize hGG104 : (xup2 G (2) 14 (x2)) = G104 at e h103
  clear h103_ hGG104
  refine xok_eqb (h103.pt (o := 0) (c := 15) (k := 29) (t := 2) (n := 107) (by decide) rfl (by decide) (by decide +kernel)) ?_
  obtain ⟨M105, q106, h107⟩ := h103.pi (v := x3) (o := 2) (c := 14) (k := 37) (n := 38) (xoP_o (show xoP 2 by unfold xoP; omega)).1 (xoP_o (show xoP 2 by unfold xoP; omega)).2 (by decide) (by decide) tx3
  refine xok_eqb q106 ?_
  obtain ⟨G108, g1, e⟩ := xbnd e
  cases g1
  have h107_ : xRX m M0 M105 (xup2 G104 (2) 37 (x3)) := h107
  generalize hGG108 : (xup2 G104 (2) 37 (x3)) = G108 at e h107
  clear h107_ hGG108
  cases e
  exact ⟨_, rfl, rfl, h107, ty0⟩
theorem s368_86 {m f : Nat} {M0 M : xj_M} {G : xG_} (hI : xHI f)     (h : xRX m M0 M G) {x2 : Int} {x3 : Int} {R : Int × xG_} (tx2 : xin x2) (tx3 : xin x3) (e : g368_86   f x2 x3 G = some R) : xok (f368_86   f m x2 x3 M) (fun r => r.1 = R.1 ∧ xRX m M0 r.2 R.2 ∧ xin R.1) := by
  unfold g368_86 at e
  unfold f368_86
  obtain ⟨R109, e110, e⟩ := xbnd e
  refine xok_eqb (h.is (o := 0) (c := 15) (by decide) rfl) ?_
  refine xok_call (sg211 hI  h  e110) ?_
  rintro ⟨v_, M113⟩ ⟨hv_, h111, hi112⟩
  cases hv_
  refine xok_ite (fun c114 => ?_) (fun c114 => ?_)
  · rw [if_pos c114] at e
    obtain ⟨R115, e116, e⟩ := xbnd e
    refine xok_eqb (h111.is (o := 0) (c := 15) (by decide) rfl) ?_
    refine xok_call (sg369 hI  h111 tx2 e116) ?_
    rintro ⟨v_, M119⟩ ⟨hv_, h117, hi118⟩
    cases hv_
    exact s368_107 hI   h117 tx2 tx3 hi118 e
  · rw [if_neg c114] at e
    refine xok_eqb (h111.gi (o := 0) (c := 15) (k := 7) (n := 107) (by decide) rfl (by decide) (by decide)) ?_
    exact s368_107 hI   h111 tx2 tx3 (xin_wr _) e
theorem sg368 {m f : Nat} {M0 M : xj_M} {G : xG_} (hI : xHI f)   (h : xRX m M0 M G)  {R : Int × xG_}  (e : g368  f  G = some R) : xok (f368  f m M) (fun r => r.1 = R.1 ∧ xRX m M0 r.2 R.2 ∧ xin R.1) := by
  unfold g368 at e
  unfold f368
  obtain ⟨R120, e121, e⟩ := xbnd e
  refine xok_eqb (h.is (o := 0) (c := 15) (by decide) rfl) ?_
  refine xok_call (sg361 hI  h  e121) ?_
  rintro ⟨v_, M124⟩ ⟨hv_, h122, hi123⟩
  cases hv_
  obtain ⟨M125, q126, h127⟩ := h122.pi (v := -1) (o := 0) (c := 15) (k := 75) (n := 107) (by decide) rfl (by decide) (by decide) (show xin (-1) by decide)
  refine xok_eqb q126 ?_
  obtain ⟨G128, g1, e⟩ := xbnd e
  cases g1
  have h127_ : xRX m M0 M125 (xup2 R120.2 (0) 75 (-1)) := h127
  generalize hGG128 : (xup2 R120.2 (0) 75 (-1)) = G128 at e h127
  clear h127_ hGG128
  obtain ⟨R129, e130, e⟩ := xbnd e
  refine xok_eqb (h127.is (o := 0) (c := 15) (by decide) rfl) ?_
  refine xok_call (sg296 hI  h127  e130) ?_
  intro M133 h131
  refine xok_eqb (h131.pt (o := 0) (c := 15) (k := 29) (t := 2) (n := 107) (by decide) rfl (by decide) (by decide +kernel)) ?_
  refine xok_eqb (h131.gi (o := 2) (c := 14) (k := 14) (n := 38) (xoP_o (show xoP 2 by unfold xoP; omega)).1 (xoP_o (show xoP 2 by unfold xoP; omega)).2 (by decide) (by decide)) ?_
  refine xok_eqb (h131.pt (o := 0) (c := 15) (k := 29) (t := 2) (n := 107) (by decide) rfl (by decide) (by decide +kernel)) ?_
  refine xok_eqb (h131.gi (o := 2) (c := 14) (k := 37) (n := 38) (xoP_o (show xoP 2 by unfold xoP; omega)).1 (xoP_o (show xoP 2 by unfold xoP; omega)).2 (by decide) (by decide)) ?_
  refine xok_eqb (h131.pt (o := 0) (c := 15) (k := 29) (t := 2) (n := 107) (by decide) rfl (by decide) (by decide +kernel)) ?_
  obtain ⟨M134, q135, h136⟩ := h131.pitp (show xoP 2 by unfold xoP; omega)
  refine xok_eqb q135 ?_
  obtain ⟨G137, g1, e⟩ := xbnd e
  cases g1
  have h136_ : xRX m M0 M134 (xup2 R129 (0) 22 (((2 : Nat) : Int))) := h136
  generalize hGG137 : (xup2 R129 (0) 22 (((2 : Nat) : Int))) = G137 at e h136
  clear h136_ hGG137
  refine xok_eqb (h136.pt (o := 0) (c := 15) (k := 68) (t := 240) (n := 107) (by decide) rfl (by decide) (by decide +kernel)) ?_
  obtain ⟨R138, e139, e⟩ := xbnd e
  refine xok_eqb (h136.is (o := 0) (c := 15) (by decide) rfl) ?_
  refine xok_call (sg212 hI  h136 (show xoB 240 by unfold xoB; omega) (show xin (0) by decide) hi123 e139) ?_
  intro M142 h140
  obtain ⟨R143, e144, e⟩ := xbnd e
  refine xok_eqb (h140.is (o := 0) (c := 15) (by decide) rfl) ?_
  refine xok_call (sg236 hI  h140 (show xin (24) by decide) e144) ?_
  intro M147 h145
  obtain ⟨R148, e149, e⟩ := xbnd e
  refine xok_eqb (h145.is (o := 0) (c := 15) (by decide) rfl) ?_
  refine xok_call (sg246 hI  h145  e149) ?_
  intro M152 h150
  obtain ⟨R153, e154, e⟩ := xbnd e
  refine xok_eqb (h150.is (o := 0) (c := 15) (by decide) rfl) ?_
  refine xok_call (sg222 hI  h150 (show xin (46) by decide) e154) ?_
  intro M157 h155
  obtain ⟨R158, e159, e⟩ := xbnd e
  refine xok_eqb (h155.is (o := 0) (c := 15) (by decide) rfl) ?_
  refine xok_call (sg211 hI  h155  e159) ?_
  rintro ⟨v_, M162⟩ ⟨hv_, h160, hi161⟩
  cases hv_
  refine xok_ite (fun c163 => ?_) (fun c163 => ?_)
  · rw [if_pos c163] at e
    exact s368_86 hI   h160 (h131.gin (o := 2) (c := 14) (k := 14) (n := 38) (xoP_o (show xoP 2 by unfold xoP; omega)).1 (xoP_o (show xoP 2 by unfold xoP; omega)).2 (by decide) (by decide)) (h131.gin (o := 2) (c := 14) (k := 37) (n := 38) (xoP_o (show xoP 2 by unfold xoP; omega)).1 (xoP_o (show xoP 2 by unfold xoP; omega)).2 (by decide) (by decide)) e
  · rw [if_neg c163] at e
    refine xok_eqb (h160.gi (o := 0) (c := 15) (k := 2) (n := 107) (by decide) rfl (by decide) (by decide)) ?_
    refine xok_ite (fun c164 => ?_) (fun c164 => ?_)
    · rw [if_pos c164] at e
      exact s368_86 hI   h160 (h131.gin (o := 2) (c := 14) (k := 14) (n := 38) (xoP_o (show xoP 2 by unfold xoP; omega)).1 (xoP_o (show xoP 2 by unfold xoP; omega)).2 (by decide) (by decide)) (h131.gin (o := 2) (c := 14) (k := 37) (n := 38) (xoP_o (show xoP 2 by unfold xoP; omega)).1 (xoP_o (show xoP 2 by unfold xoP; omega)).2 (by decide) (by decide)) e
    · rw [if_neg c164] at e
      refine xok_eqb (h160.gi (o := 0) (c := 15) (k := 4) (n := 107) (by decide) rfl (by decide) (by decide)) ?_
      obtain ⟨R165, e166, e⟩ := xbnd e
      refine xok_eqb (h160.is (o := 0) (c := 15) (by decide) rfl) ?_
      refine xok_call (sg210 hI  h160 (h160.gin (o := 0) (c := 15) (k := 4) (n := 107) (by decide) rfl (by decide) (by decide)) e166) ?_
      intro M169 h167
      exact s368_86 hI   h167 (h131.gin (o := 2) (c := 14) (k := 14) (n := 38) (xoP_o (show xoP 2 by unfold xoP; omega)).1 (xoP_o (show xoP 2 by unfold xoP; omega)).2 (by decide) (by decide)) (h131.gin (o := 2) (c := 14) (k := 37) (n := 38) (xoP_o (show xoP 2 by unfold xoP; omega)).1 (xoP_o (show xoP 2 by unfold xoP; omega)).2 (by decide) (by decide)) e
-- ChangeHouseModel.value
theorem s372_56 {m f : Nat} {M0 M : xj_M} {G : xG_} (hI : xHI f)     (h : xRX m M0 M G) {y0 : Int} {R : Int × xG_} (ty0 : xiN y0) (e : g372_56   f y0 G = some R) : xok (f372_56   f y0 M) (fun r => r.1 = R.1 ∧ xRX m M0 r.2 R.2 ∧ xiN R.1) := by
  unfold g372_56 at e
  unfold f372_56
  cases e
  exact ⟨_, rfl, rfl, h, ty0⟩
theorem s372_35 {m f : Nat} {M0 M : xj_M} {G : xG_} (hI : xHI f)     (h : xRX m M0 M G)  {R : Int × xG_}  (e : g372_35   f  G = some R) : xok (f372_35   f m M) (fun r => r.1 = R.1 ∧ xRX m M0 r.2 R.2 ∧ xiN R.1) := by
  unfold g372_35 at e
  unfold f372_35
  obtain ⟨R101, e102, e⟩ := xbnd e
  refine xok_eqb (h.is (o := 0) (c := 15) (by decide) rfl) ?_
  refine xok_call (sg321 hI  h  e102) ?_
  rintro ⟨v_, M105⟩ ⟨hv_, h103, hi104⟩
  cases hv_
  exact s372_56 hI   h103 (xin_N hi104) e
theorem sg372 {m f : Nat} {M0 M : xj_M} {G : xG_} (hI : xHI f)   (h : xRX m M0 M G) {a1 : Int} {a2 : Int} {a3 : Int} {R : Int × xG_} (ta1 : xin a1) (ta2 : xin a2) (ta3 : xin a3) (e : g372  f a1 a2 a3 G = some R) : xok (f372  f m a1 a2 a3 M) (fun r => r.1 = R.1 ∧ xRX m M0 r.2 R.2 ∧ xiN R.1) := by
  unfold g372 at e
  unfold f372
  obtain ⟨M106, q107, h108⟩ := h.pi (v := 0) (o := 0) (c := 15) (k := 74) (n := 107) (by decide) rfl (by decide) (by decide) (show xin (0) by decide)
  refine xok_eqb q107 ?_
  obtain ⟨G109, g1, e⟩ := xbnd e
  cases g1
  have h108_ : xRX m M0 M106 (xup2 G (0) 74 (0)) := h108
  generalize hGG109 : (xup2 G (0) 74 (0)) = G109 at e h108
  clear h108_ hGG109
  obtain ⟨R110, e111, e⟩ := xbnd e
  refine xok_eqb (h108.is (o := 0) (c := 15) (by decide) rfl) ?_
  refine xok_call (sg296 hI  h108  e111) ?_
  intro M114 h112
  obtain ⟨R115, e116, e⟩ := xbnd e
  refine xok_eqb (h112.is (o := 0) (c := 15) (by decide) rfl) ?_
  refine xok_call (sg371 hI  h112 ta1 ta2 e116) ?_
  rintro ⟨v_, M119⟩ ⟨hv_, h117, hi118⟩
  cases hv_
  refine xok_ite (fun c120 => ?_) (fun c120 => ?_)
  · rw [if_pos c120] at e
    exact s372_35 hI   h117  e
  · rw [if_neg c120] at e
    refine xok_ite (fun c121 => ?_) (fun c121 => ?_)
    · rw [if_pos c121] at e
      exact s372_35 hI   h117  e
    · rw [if_neg c121] at e
      refine xok_eqb (h117.pt (o := 0) (c := 15) (k := 29) (t := 2) (n := 107) (by decide) rfl (by decide) (by decide +kernel)) ?_
      refine xok_eqb (h117.pt (o := 2) (c := 14) (k := 1) (t := 2 + 2) (n := 38) (xoP_o (show xoP 2 by unfold xoP; omega)).1 (xoP_o (show xoP 2 by unfold xoP; omega)).2 (by decide) (xoP_all (show xoP 2 by unfold xoP; omega) (Q := fun p => (p, 1, p + 2) ∈ xl_P) (by decide +kernel) (by decide +kernel) (by decide +kernel))) ?_
      by_cases c122 : 0 ≤ (a1) ∧ (a1) < 16
      · skip
        rw [if_pos c122] at e
        refine xok_eqb (h117.ai (o := 2 + 2) (n := 16) (xoP_all (show xoP 2 by unfold xoP; omega) (Q := fun p => p + 2 < 276) (by decide) (by decide) (by decide)) (xoP_all (show xoP 2 by unfold xoP; omega) (Q := fun p => xl_t (p + 2) = (2, 3, 16)) rfl rfl rfl) (by decide) c122.1 c122.2) ?_
        refine xok_ite (fun c123 => ?_) (fun c123 => ?_)
        · rw [if_pos c123] at e
          refine xok_eqb (h117.pt (o := 0) (c := 15) (k := 32) (t := 107) (n := 107) (by decide) rfl (by decide) (by decide +kernel)) ?_
          obtain ⟨R124, e125, e⟩ := xbnd e
          refine xok_eqb (h117.is (o := 0) (c := 15) (by decide) rfl) ?_
          refine xok_call (sg261 hI  h117 ta1 ta2 e125) ?_
          rintro ⟨v_, M128⟩ ⟨hv_, h126, hi127⟩
          cases hv_
          by_cases c129 : 0 ≤ (xwr ((R124.1) + (a3))) ∧ (xwr ((R124.1) + (a3))) < 33280
          · skip
            rw [if_pos c129] at e
            refine xok_eqb (h126.al (o := 107) (n := 33280) (by decide) rfl  c129.1 c129.2) ?_
            exact s372_56 hI   h126 (h126.aln (o := 107) (n := 33280) (by decide) rfl  c129.1 c129.2) e
          · rw [if_neg c129] at e; cases e
        · rw [if_neg c123] at e
          exact s372_35 hI   h117  e
      · rw [if_neg c122] at e; cases e
-- ChangeHouseModel.rank
theorem s373_37 {m f : Nat} {M0 M : xj_M} {G : xG_} (hI : xHI f)     (h : xRX m M0 M G) {y0 : Int} {R : Int × xG_} (ty0 : xin y0) (e : g373_37   f y0 G = some R) : xok (f373_37   f y0 M) (fun r => r.1 = R.1 ∧ xRX m M0 r.2 R.2 ∧ xin R.1) := by
  unfold g373_37 at e
  unfold f373_37
  cases e
  exact ⟨_, rfl, rfl, h, ty0⟩
theorem sg373 {m f : Nat} {M0 M : xj_M} {G : xG_} (hI : xHI f)   (h : xRX m M0 M G) {a1 : Int} {a2 : Int} {R : Int × xG_} (ta1 : xin a1) (ta2 : xin a2) (e : g373  f a1 a2 G = some R) : xok (f373  f m a1 a2 M) (fun r => r.1 = R.1 ∧ xRX m M0 r.2 R.2 ∧ xin R.1) := by
  unfold g373 at e
  unfold f373
  obtain ⟨M101, q102, h103⟩ := h.pi (v := 0) (o := 0) (c := 15) (k := 74) (n := 107) (by decide) rfl (by decide) (by decide) (show xin (0) by decide)
  refine xok_eqb q102 ?_
  obtain ⟨G104, g1, e⟩ := xbnd e
  cases g1
  have h103_ : xRX m M0 M101 (xup2 G (0) 74 (0)) := h103
  generalize hGG104 : (xup2 G (0) 74 (0)) = G104 at e h103
  clear h103_ hGG104
  obtain ⟨R105, e106, e⟩ := xbnd e
  refine xok_eqb (h103.is (o := 0) (c := 15) (by decide) rfl) ?_
  refine xok_call (sg296 hI  h103  e106) ?_
  intro M109 h107
  obtain ⟨R110, e111, e⟩ := xbnd e
  refine xok_eqb (h107.is (o := 0) (c := 15) (by decide) rfl) ?_
  refine xok_call (sg371 hI  h107 ta1 ta2 e111) ?_
  rintro ⟨v_, M114⟩ ⟨hv_, h112, hi113⟩
  cases hv_
  refine xok_ite (fun c115 => ?_) (fun c115 => ?_)
  · rw [if_pos c115] at e
    obtain ⟨R116, e117, e⟩ := xbnd e
    refine xok_eqb (h112.is (o := 0) (c := 15) (by decide) rfl) ?_
    refine xok_call (sg321 hI  h112  e117) ?_
    rintro ⟨v_, M120⟩ ⟨hv_, h118, hi119⟩
    cases hv_
    exact s373_37 hI   h118 hi119 e
  · rw [if_neg c115] at e
    refine xok_eqb (h112.pt (o := 0) (c := 15) (k := 34) (t := 109) (n := 107) (by decide) rfl (by decide) (by decide +kernel)) ?_
    by_cases c121 : 0 ≤ (xwr ((xwr ((a1) * (520))) + (a2))) ∧ (xwr ((xwr ((a1) * (520))) + (a2))) < 8320
    · skip
      rw [if_pos c121] at e
      refine xok_eqb (h112.ai (o := 109) (n := 8320) (by decide) rfl (by decide) c121.1 c121.2) ?_
      exact s373_37 hI   h112 (h112.ain (o := 109) (n := 8320) (by decide) rfl (by decide) c121.1 c121.2) e
    · rw [if_neg c121] at e; cases e
-- ChangeHouseModel.reason
theorem s374_39 {m f : Nat} {M0 M : xj_M} {G : xG_} (hI : xHI f)     (h : xRX m M0 M G)  {R : Int × xG_}  (e : g374_39   f  G = some R) : xok (f374_39   f  M) (fun r => r.1 = R.1 ∧ xRX m M0 r.2 R.2 ∧ xin R.1) := by
  unfold g374_39 at e
  unfold f374_39
  cases e
  exact ⟨_, rfl, rfl, h, (show xin (-1) by decide)⟩
theorem s374_240 {m f : Nat} {M0 M : xj_M} {G : xG_} (hI : xHI f)  {r99 : Int → Int → Int → Int → xG_ → Option (Int × xG_)} {o99 : Nat → Int → Int → Int → Int → xj_M → Option (Int × xj_M)}  (hr99 : ∀ {M : xj_M} {G : xG_} {x1 : Int} {x3 : Int} {x4 : Int} {x5 : Int} {R : Int × xG_}, xRX m M0 M G → xin x1 → xin x3 → xin x4 → xin x5 → r99 x1 x3 x4 x5 G = some R → xok (o99 m x1 x3 x4 x5 M) (fun r => r.1 = R.1 ∧ xRX m M0 r.2 R.2 ∧ xin R.1)) (h : xRX m M0 M G) {x1 : Int} {x3 : Int} {x4 : Int} {x5 : Int} {R : Int × xG_} (tx1 : xin x1) (tx3 : xin x3) (tx4 : xin x4) (tx5 : xin x5) (e : g374_240  r99 f x1 x3 x4 x5 G = some R) : xok (f374_240  o99 f m x1 x3 x4 x5 M) (fun r => r.1 = R.1 ∧ xRX m M0 r.2 R.2 ∧ xin R.1) := by
  unfold g374_240 at e
  unfold f374_240
  exact hr99 h tx1 tx3 tx4 (xin_wr _) e
theorem s374_186 {m f : Nat} {M0 M : xj_M} {G : xG_} (hI : xHI f)     (h : xRX m M0 M G) {y0 : Int} {R : Int × xG_} (ty0 : xin y0) (e : g374_186   f y0 G = some R) : xok (f374_186   f y0 M) (fun r => r.1 = R.1 ∧ xRX m M0 r.2 R.2 ∧ xin R.1) := by
  unfold g374_186 at e
  unfold f374_186
  cases e
  exact ⟨_, rfl, rfl, h, ty0⟩
theorem s374_239 {m f : Nat} {M0 M : xj_M} {G : xG_} (hI : xHI f)     (h : xRX m M0 M G) {y0 : Int} {R : Int × xG_} (ty0 : xin y0) (e : g374_239   f y0 G = some R) : xok (f374_239   f y0 M) (fun r => r.1 = R.1 ∧ xRX m M0 r.2 R.2 ∧ xin R.1) := by
  unfold g374_239 at e
  unfold f374_239
  cases e
  exact ⟨_, rfl, rfl, h, ty0⟩
theorem s374_99b {m f : Nat} {M0 M : xj_M} {G : xG_} (hI : xHI f)  {r99 : Int → Int → Int → Int → xG_ → Option (Int × xG_)} {o99 : Nat → Int → Int → Int → Int → xj_M → Option (Int × xj_M)}  (hr99 : ∀ {M : xj_M} {G : xG_} {x1 : Int} {x3 : Int} {x4 : Int} {x5 : Int} {R : Int × xG_}, xRX m M0 M G → xin x1 → xin x3 → xin x4 → xin x5 → r99 x1 x3 x4 x5 G = some R → xok (o99 m x1 x3 x4 x5 M) (fun r => r.1 = R.1 ∧ xRX m M0 r.2 R.2 ∧ xin R.1)) (h : xRX m M0 M G) {x1 : Int} {x3 : Int} {x4 : Int} {x5 : Int} {R : Int × xG_} (tx1 : xin x1) (tx3 : xin x3) (tx4 : xin x4) (tx5 : xin x5) (e : g374_99b  r99 f x1 x3 x4 x5 G = some R) : xok (f374_99b  o99 f m x1 x3 x4 x5 M) (fun r => r.1 = R.1 ∧ xRX m M0 r.2 R.2 ∧ xin R.1) := by
  unfold g374_99b at e
  unfold f374_99b
  refine xok_eqb (h.pt (o := 0) (c := 15) (k := 29) (t := 2) (n := 107) (by decide) rfl (by decide) (by decide +kernel)) ?_
  refine xok_eqb (h.gi (o := 2) (c := 14) (k := 9) (n := 38) (xoP_o (show xoP 2 by unfold xoP; omega)).1 (xoP_o (show xoP 2 by unfold xoP; omega)).2 (by decide) (by decide)) ?_
  refine xok_ite (fun c101 => ?_) (fun c101 => ?_)
  · rw [if_pos c101] at e
    cases e
    exact ⟨_, rfl, rfl, h, (show xin (-1) by decide)⟩
  · rw [if_neg c101] at e
    refine xok_eqb (h.pt (o := 0) (c := 15) (k := 29) (t := 2) (n := 107) (by decide) rfl (by decide) (by decide +kernel)) ?_
    refine xok_eqb (h.pt (o := 2) (c := 14) (k := 15) (t := 2 + 13) (n := 38) (xoP_o (show xoP 2 by unfold xoP; omega)).1 (xoP_o (show xoP 2 by unfold xoP; omega)).2 (by decide) (xoP_all (show xoP 2 by unfold xoP; omega) (Q := fun p => (p, 15, p + 13) ∈ xl_P) (by decide +kernel) (by decide +kernel) (by decide +kernel))) ?_
    by_cases c102 : 0 ≤ (x5) ∧ (x5) < 25
    · skip
      rw [if_pos c102] at e
      refine xok_eqb (h.ai (o := 2 + 13) (n := 25) (xoP_all (show xoP 2 by unfold xoP; omega) (Q := fun p => p + 13 < 276) (by decide) (by decide) (by decide)) (xoP_all (show xoP 2 by unfold xoP; omega) (Q := fun p => xl_t (p + 13) = (2, 3, 25)) rfl rfl rfl) (by decide) c102.1 c102.2) ?_
      refine xok_ite (fun c103 => ?_) (fun c103 => ?_)
      · rw [if_pos c103] at e
        obtain ⟨M104, q105, h106⟩ := h.pi (v := x5) (o := 0) (c := 15) (k := 39) (n := 107) (by decide) rfl (by decide) (by decide) tx5
        refine xok_eqb q105 ?_
        obtain ⟨G107, g1, e⟩ := xbnd e
        cases g1
        have h106_ : xRX m M0 M104 (xup2 G (0) 39 (x5)) := h106
        generalize hGG107 : (xup2 G (0) 39 (x5)) = G107 at e h106
        clear h106_ hGG107
        obtain ⟨M108, q109, h110⟩ := h106.pb (v := 0) (o := 0) (c := 15) (k := 43) (n := 107) (by decide) rfl (by decide) (by decide) (by decide)
        refine xok_eqb q109 ?_
        obtain ⟨G111, g1, e⟩ := xbnd e
        cases g1
        have h110_ : xRX m M0 M108 (xup2 G107 (0) 43 (0)) := h110
        generalize hGG111 : (xup2 G107 (0) 43 (0)) = G111 at e h110
        clear h110_ hGG111
        obtain ⟨M112, q113, h114⟩ := h110.pi (v := 0) (o := 0) (c := 15) (k := 37) (n := 107) (by decide) rfl (by decide) (by decide) (show xin (0) by decide)
        refine xok_eqb q113 ?_
        obtain ⟨G115, g1, e⟩ := xbnd e
        cases g1
        have h114_ : xRX m M0 M112 (xup2 G111 (0) 37 (0)) := h114
        generalize hGG115 : (xup2 G111 (0) 37 (0)) = G115 at e h114
        clear h114_ hGG115
        obtain ⟨M116, q117, h118⟩ := h114.pi (v := -1) (o := 0) (c := 15) (k := 40) (n := 107) (by decide) rfl (by decide) (by decide) (show xin (-1) by decide)
        refine xok_eqb q117 ?_
        obtain ⟨G119, g1, e⟩ := xbnd e
        cases g1
        have h118_ : xRX m M0 M116 (xup2 G115 (0) 40 (-1)) := h118
        generalize hGG119 : (xup2 G115 (0) 40 (-1)) = G119 at e h118
        clear h118_ hGG119
        refine xok_eqb (h118.pt (o := 0) (c := 15) (k := 29) (t := 2) (n := 107) (by decide) rfl (by decide) (by decide +kernel)) ?_
        refine xok_eqb (h118.pt (o := 2) (c := 14) (k := 18) (t := 2 + 16) (n := 38) (xoP_o (show xoP 2 by unfold xoP; omega)).1 (xoP_o (show xoP 2 by unfold xoP; omega)).2 (by decide) (xoP_all (show xoP 2 by unfold xoP; omega) (Q := fun p => (p, 18, p + 16) ∈ xl_P) (by decide +kernel) (by decide +kernel) (by decide +kernel))) ?_
        by_cases c120 : 0 ≤ (x5) ∧ (x5) < 25
        · skip
          rw [if_pos c120] at e
          refine xok_eqb (h118.ai (o := 2 + 16) (n := 25) (xoP_all (show xoP 2 by unfold xoP; omega) (Q := fun p => p + 16 < 276) (by decide) (by decide) (by decide)) (xoP_all (show xoP 2 by unfold xoP; omega) (Q := fun p => xl_t (p + 16) = (2, 3, 25)) rfl rfl rfl) (by decide) c120.1 c120.2) ?_
          refine xok_ite (fun c121 => ?_) (fun c121 => ?_)
          · rw [if_pos c121] at e
            refine xok_eqb (h118.pt (o := 0) (c := 15) (k := 29) (t := 2) (n := 107) (by decide) rfl (by decide) (by decide +kernel)) ?_
            refine xok_eqb (h118.pt (o := 2) (c := 14) (k := 4) (t := 2 + 5) (n := 38) (xoP_o (show xoP 2 by unfold xoP; omega)).1 (xoP_o (show xoP 2 by unfold xoP; omega)).2 (by decide) (xoP_all (show xoP 2 by unfold xoP; omega) (Q := fun p => (p, 4, p + 5) ∈ xl_P) (by decide +kernel) (by decide +kernel) (by decide +kernel))) ?_
            by_cases c122 : 0 ≤ (x1) ∧ (x1) < 16
            · skip
              rw [if_pos c122] at e
              refine xok_eqb (h118.ai (o := 2 + 5) (n := 16) (xoP_all (show xoP 2 by unfold xoP; omega) (Q := fun p => p + 5 < 276) (by decide) (by decide) (by decide)) (xoP_all (show xoP 2 by unfold xoP; omega) (Q := fun p => xl_t (p + 5) = (2, 3, 16)) rfl rfl rfl) (by decide) c122.1 c122.2) ?_
              obtain ⟨M123, q124, h125⟩ := h118.pi (v := G119 (2 + 5) (x1).toNat) (o := 0) (c := 15) (k := 40) (n := 107) (by decide) rfl (by decide) (by decide) (h118.ain (o := 2 + 5) (n := 16) (xoP_all (show xoP 2 by unfold xoP; omega) (Q := fun p => p + 5 < 276) (by decide) (by decide) (by decide)) (xoP_all (show xoP 2 by unfold xoP; omega) (Q := fun p => xl_t (p + 5) = (2, 3, 16)) rfl rfl rfl) (by decide) c122.1 c122.2)
              refine xok_eqb q124 ?_
              obtain ⟨G126, g1, e⟩ := xbnd e
              cases g1
              have h125_ : xRX m M0 M123 (xup2 G119 (0) 40 (G119 (2 + 5) (x1).toNat)) := h125
              generalize hGG126 : (xup2 G119 (0) 40 (G119 (2 + 5) (x1).toNat)) = G126 at e h125
              clear h125_ hGG126
              obtain ⟨M127, q128, h129⟩ := h125.pi (v := x4) (o := 0) (c := 15) (k := 41) (n := 107) (by decide) rfl (by decide) (by decide) tx4
              refine xok_eqb q128 ?_
              obtain ⟨G130, g1, e⟩ := xbnd e
              cases g1
              have h129_ : xRX m M0 M127 (xup2 G126 (0) 41 (x4)) := h129
              generalize hGG130 : (xup2 G126 (0) 41 (x4)) = G130 at e h129
              clear h129_ hGG130
              obtain ⟨M131, q132, h133⟩ := h129.pi (v := 4) (o := 0) (c := 15) (k := 38) (n := 107) (by decide) rfl (by decide) (by decide) (show xin (4) by decide)
              refine xok_eqb q132 ?_
              obtain ⟨G134, g1, e⟩ := xbnd e
              cases g1
              have h133_ : xRX m M0 M131 (xup2 G130 (0) 38 (4)) := h133
              generalize hGG134 : (xup2 G130 (0) 38 (4)) = G134 at e h133
              clear h133_ hGG134
              obtain ⟨R135, e136, e⟩ := xbnd e
              refine xok_eqb (h133.is (o := 0) (c := 15) (by decide) rfl) ?_
              refine xok_call (sg275 hI  h133 (show xin (0) by decide) e136) ?_
              intro M139 h137
              refine xok_eqb (h137.gi (o := 0) (c := 15) (k := 54) (n := 107) (by decide) rfl (by decide) (by decide)) ?_
              refine xok_ite (fun c140 => ?_) (fun c140 => ?_)
              · rw [if_pos c140] at e
                exact s374_240 hI  hr99 h137 tx1 tx3 tx4 tx5 e
              · rw [if_neg c140] at e
                refine xok_ite (fun c141 => ?_) (fun c141 => ?_)
                · rw [if_pos c141] at e
                  obtain ⟨R142, e143, e⟩ := xbnd e
                  refine xok_eqb (h137.is (o := 0) (c := 15) (by decide) rfl) ?_
                  refine xok_call (sg375 hI  h137 (xin_wr _) e143) ?_
                  rintro ⟨v_, M146⟩ ⟨hv_, h144, hi145⟩
                  cases hv_
                  exact s374_239 hI   h144 hi145 e
                · rw [if_neg c141] at e
                  exact s374_239 hI   h137 tx5 e
            · rw [if_neg c122] at e; cases e
          · rw [if_neg c121] at e
            refine xok_ite (fun c147 => ?_) (fun c147 => ?_)
            · rw [if_pos c147] at e
              exact s374_240 hI  hr99 h118 tx1 tx3 tx4 tx5 e
            · rw [if_neg c147] at e
              obtain ⟨R148, e149, e⟩ := xbnd e
              refine xok_eqb (h118.is (o := 0) (c := 15) (by decide) rfl) ?_
              refine xok_call (sg288 hI  h118 (show xin (1) by decide) e149) ?_
              rintro ⟨v_, M152⟩ ⟨hv_, h150, hi151⟩
              cases hv_
              refine xok_ite (fun c153 => ?_) (fun c153 => ?_)
              · rw [if_pos c153] at e
                exact s374_240 hI  hr99 h150 tx1 tx3 tx4 tx5 e
              · rw [if_neg c153] at e
                refine xok_ite (fun c154 => ?_) (fun c154 => ?_)
                · rw [if_pos c154] at e
                  exact s374_186 hI   h150 (show xin (-1) by decide) e
                · rw [if_neg c154] at e
                  exact s374_186 hI   h150 tx5 e
        · rw [if_neg c120] at e; cases e
      · rw [if_neg c103] at e
        exact s374_240 hI  hr99 h tx1 tx3 tx4 tx5 e
    · rw [if_neg c102] at e; cases e
theorem s374_99 {m f : Nat} {M0 : xj_M} (hI : xHI f)     : ∀ {n : Nat} {M : xj_M} {G : xG_} {x1 : Int} {x3 : Int} {x4 : Int} {x5 : Int} {R : Int × xG_}, xRX m M0 M G → xin x1 → xin x3 → xin x4 → xin x5 → g374_99   f n x1 x3 x4 x5 G = some R → xok (f374_99   f n m x1 x3 x4 x5 M) (fun r => r.1 = R.1 ∧ xRX m M0 r.2 R.2 ∧ xin R.1) := by
  intro n
  induction n with
  | zero => intros; rename_i e; cases e
  | succ n ih =>
    intros
    rename_i h i0 i1 i2 i3 e
    exact s374_99b hI   ih h i0 i1 i2 i3 e
theorem s374_58b {m f : Nat} {M0 M : xj_M} {G : xG_} (hI : xHI f)  {r58 : Int → Int → Int → Int → Int → xG_ → Option (Int × xG_)} {o58 : Nat → Int → Int → Int → Int → Int → xj_M → Option (Int × xj_M)}  (hr58 : ∀ {M : xj_M} {G : xG_} {x1 : Int} {x2 : Int} {x3 : Int} {x4 : Int} {x5 : Int} {R : Int × xG_}, xRX m M0 M G → xin x1 → xin x2 → xin x3 → xin x4 → xin x5 → r58 x1 x2 x3 x4 x5 G = some R → xok (o58 m x1 x2 x3 x4 x5 M) (fun r => r.1 = R.1 ∧ xRX m M0 r.2 R.2 ∧ xin R.1)) (h : xRX m M0 M G) {x1 : Int} {x2 : Int} {x3 : Int} {x4 : Int} {x5 : Int} {R : Int × xG_} (tx1 : xin x1) (tx2 : xin x2) (tx3 : xin x3) (tx4 : xin x4) (tx5 : xin x5) (e : g374_58b  r58 f x1 x2 x3 x4 x5 G = some R) : xok (f374_58b  o58 f m x1 x2 x3 x4 x5 M) (fun r => r.1 = R.1 ∧ xRX m M0 r.2 R.2 ∧ xin R.1) := by
  unfold g374_58b at e
  unfold f374_58b
  refine xok_ite (fun c155 => ?_) (fun c155 => ?_)
  · rw [if_pos c155] at e
    obtain ⟨M156, q157, h158⟩ := h.pb (v := 0) (o := 0) (c := 15) (k := 54) (n := 107) (by decide) rfl (by decide) (by decide) (by decide)
    refine xok_eqb q157 ?_
    obtain ⟨G159, g1, e⟩ := xbnd e
    cases g1
    have h158_ : xRX m M0 M156 (xup2 G (0) 54 (0)) := h158
    generalize hGG159 : (xup2 G (0) 54 (0)) = G159 at e h158
    clear h158_ hGG159
    exact s374_99 hI   h158 tx1 tx3 tx4 (show xin (0) by decide) e
  · rw [if_neg c155] at e
    refine xok_eqb (h.pt (o := 0) (c := 15) (k := 51) (t := 118) (n := 107) (by decide) rfl (by decide) (by decide +kernel)) ?_
    refine xok_eqb (h.pt (o := 0) (c := 15) (k := 32) (t := 107) (n := 107) (by decide) rfl (by decide) (by decide +kernel)) ?_
    obtain ⟨R160, e161, e⟩ := xbnd e
    refine xok_eqb (h.is (o := 0) (c := 15) (by decide) rfl) ?_
    refine xok_call (sg261 hI  h tx1 tx2 e161) ?_
    rintro ⟨v_, M164⟩ ⟨hv_, h162, hi163⟩
    cases hv_
    by_cases c165 : 0 ≤ (xwr ((R160.1) + (x5))) ∧ (xwr ((R160.1) + (x5))) < 33280
    · skip
      rw [if_pos c165] at e
      refine xok_eqb (h162.al (o := 107) (n := 33280) (by decide) rfl  c165.1 c165.2) ?_
      by_cases c166 : 0 ≤ (x5) ∧ (x5) < 4
      · skip
        rw [if_pos c166] at e
        obtain ⟨M167, q168, h169⟩ := h162.sl (o := 118) (n := 4) (v := R160.2 (107) (xwr ((R160.1) + (x5))).toNat) (by decide) rfl c166.1 c166.2 (h162.aln (o := 107) (n := 33280) (by decide) rfl  c165.1 c165.2)
        refine xok_eqb q168 ?_
        obtain ⟨G170, g1, e⟩ := xbnd e
        cases g1
        have h169_ : xRX m M0 M167 (xup2 R160.2 (118) (x5).toNat (R160.2 (107) (xwr ((R160.1) + (x5))).toNat)) := h169
        generalize hGG170 : (xup2 R160.2 (118) (x5).toNat (R160.2 (107) (xwr ((R160.1) + (x5))).toNat)) = G170 at e h169
        clear h169_ hGG170
        exact hr58 h169 tx1 tx2 tx3 tx4 (xin_wr _) e
      · rw [if_neg c166] at e; cases e
    · rw [if_neg c165] at e; cases e
theorem s374_58 {m f : Nat} {M0 : xj_M} (hI : xHI f)     : ∀ {n : Nat} {M : xj_M} {G : xG_} {x1 : Int} {x2 : Int} {x3 : Int} {x4 : Int} {x5 : Int} {R : Int × xG_}, xRX m M0 M G → xin x1 → xin x2 → xin x3 → xin x4 → xin x5 → g374_58   f n x1 x2 x3 x4 x5 G = some R → xok (f374_58   f n m x1 x2 x3 x4 x5 M) (fun r => r.1 = R.1 ∧ xRX m M0 r.2 R.2 ∧ xin R.1) := by
  intro n
  induction n with
  | zero => intros; rename_i e; cases e
  | succ n ih =>
    intros
    rename_i h i0 i1 i2 i3 i4 e
    exact s374_58b hI   ih h i0 i1 i2 i3 i4 e
theorem sg374 {m f : Nat} {M0 M : xj_M} {G : xG_} (hI : xHI f)   (h : xRX m M0 M G) {a1 : Int} {a2 : Int} {a3 : Int} {R : Int × xG_} (ta1 : xin a1) (ta2 : xin a2) (ta3 : xin a3) (e : g374  f a1 a2 a3 G = some R) : xok (f374  f m a1 a2 a3 M) (fun r => r.1 = R.1 ∧ xRX m M0 r.2 R.2 ∧ xin R.1) := by
  unfold g374 at e
  unfold f374
  obtain ⟨M171, q172, h173⟩ := h.pi (v := 0) (o := 0) (c := 15) (k := 74) (n := 107) (by decide) rfl (by decide) (by decide) (show xin (0) by decide)
  refine xok_eqb q172 ?_
  obtain ⟨G174, g1, e⟩ := xbnd e
  cases g1
  have h173_ : xRX m M0 M171 (xup2 G (0) 74 (0)) := h173
  generalize hGG174 : (xup2 G (0) 74 (0)) = G174 at e h173
  clear h173_ hGG174
  obtain ⟨R175, e176, e⟩ := xbnd e
  refine xok_eqb (h173.is (o := 0) (c := 15) (by decide) rfl) ?_
  refine xok_call (sg296 hI  h173  e176) ?_
  intro M179 h177
  obtain ⟨R180, e181, e⟩ := xbnd e
  refine xok_eqb (h177.is (o := 0) (c := 15) (by decide) rfl) ?_
  refine xok_call (sg371 hI  h177 ta1 ta2 e181) ?_
  rintro ⟨v_, M184⟩ ⟨hv_, h182, hi183⟩
  cases hv_
  refine xok_ite (fun c185 => ?_) (fun c185 => ?_)
  · rw [if_pos c185] at e
    refine xok_eqb (h182.pt (o := 0) (c := 15) (k := 29) (t := 2) (n := 107) (by decide) rfl (by decide) (by decide +kernel)) ?_
    refine xok_eqb (h182.pt (o := 2) (c := 14) (k := 5) (t := 2 + 6) (n := 38) (xoP_o (show xoP 2 by unfold xoP; omega)).1 (xoP_o (show xoP 2 by unfold xoP; omega)).2 (by decide) (xoP_all (show xoP 2 by unfold xoP; omega) (Q := fun p => (p, 5, p + 6) ∈ xl_P) (by decide +kernel) (by decide +kernel) (by decide +kernel))) ?_
    by_cases c186 : 0 ≤ (a1) ∧ (a1) < 16
    · skip
      rw [if_pos c186] at e
      refine xok_eqb (h182.ab (o := 2 + 6) (n := 16) (xoP_all (show xoP 2 by unfold xoP; omega) (Q := fun p => p + 6 < 276) (by decide) (by decide) (by decide)) (xoP_all (show xoP 2 by unfold xoP; omega) (Q := fun p => xl_t (p + 6) = (2, 0, 16)) rfl rfl rfl) (by decide) c186.1 c186.2) ?_
      refine xok_ite (fun c187 => ?_) (fun c187 => ?_)
      · rw [if_pos c187] at e
        exact s374_39 hI   h182  e
      · rw [if_neg c187] at e
        refine xok_ite (fun c188 => ?_) (fun c188 => ?_)
        · rw [if_pos c188] at e
          refine xok_eqb (h182.pt (o := 0) (c := 15) (k := 34) (t := 109) (n := 107) (by decide) rfl (by decide) (by decide +kernel)) ?_
          by_cases c189 : 0 ≤ (xwr ((xwr ((a1) * (520))) + (a2))) ∧ (xwr ((xwr ((a1) * (520))) + (a2))) < 8320
          · skip
            rw [if_pos c189] at e
            refine xok_eqb (h182.ai (o := 109) (n := 8320) (by decide) rfl (by decide) c189.1 c189.2) ?_
            exact s374_58 hI   h182 ta1 ta2 ta3 (h182.ain (o := 109) (n := 8320) (by decide) rfl (by decide) c189.1 c189.2) (show xin (0) by decide) e
          · rw [if_neg c189] at e; cases e
        · rw [if_neg c188] at e
          exact s374_39 hI   h182  e
    · rw [if_neg c186] at e; cases e
  · rw [if_neg c185] at e
    obtain ⟨R190, e191, e⟩ := xbnd e
    refine xok_eqb (h182.is (o := 0) (c := 15) (by decide) rfl) ?_
    refine xok_call (sg321 hI  h182  e191) ?_
    rintro ⟨v_, M194⟩ ⟨hv_, h192, hi193⟩
    cases hv_
    cases e
    exact ⟨_, rfl, rfl, h192, hi193⟩
