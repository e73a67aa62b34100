/-! The reference over what stands at its cells (written by mk_g.py) -/
-- ChangeHouseModel.ways
theorem s275_241 {m f : Nat} {M0 M : xj_M} {G : xG_} (hI : xHI f) {q275 : Int → xG_ → Option (xG_)} {p275 : Nat → Int → xj_M → Option (xj_M)} {r79 : Int → Int → Int → Int → Int → xG_ → Option (xG_)} {o79 : Nat → Int → Int → Int → Int → Int → xj_M → Option (xj_M)} (hq275 : ∀ {M : xj_M} {G : xG_} {a1 : Int} {R : xG_}, xRX m M0 M G → xin a1 → q275 a1 G = some R → xok (p275 m a1 M) (fun r => xRX m M0 r R)) (hr79 : ∀ {M : xj_M} {G : xG_} {x1 : Int} {x2 : Int} {x3 : Int} {x4 : Int} {x5 : Int} {R : xG_}, xRX m M0 M G → xin x1 → xin x2 → xin x3 → xin x4 → xin x5 → r79 x1 x2 x3 x4 x5 G = some R → xok (o79 m x1 x2 x3 x4 x5 M) (fun r => xRX m M0 r R)) (h : xRX m M0 M G) {x1 : Int} {x2 : Int} {x3 : Int} {x4 : Int} {x5 : Int} {R : xG_} (tx1 : xin x1) (tx2 : xin x2) (tx3 : xin x3) (tx4 : xin x4) (tx5 : xin x5) (e : g275_241 q275 r79 f x1 x2 x3 x4 x5 G = some R) : xok (f275_241 p275 o79 f m x1 x2 x3 x4 x5 M) (fun r => xRX m M0 r R) := by
  unfold g275_241 at e
  unfold f275_241
  exact hr79 h tx1 tx2 tx3 tx4 (xin_wr _) e
theorem s275_222 {m f : Nat} {M0 M : xj_M} {G : xG_} (hI : xHI f) {q275 : Int → xG_ → Option (xG_)} {p275 : Nat → Int → xj_M → Option (xj_M)} {r79 : Int → Int → Int → Int → Int → xG_ → Option (xG_)} {o79 : Nat → Int → Int → Int → Int → Int → xj_M → Option (xj_M)} {r135 : Int → Int → Int → Int → Int → Int → xG_ → Option (xG_)} {o135 : Nat → Int → Int → Int → Int → Int → Int → xj_M → Option (xj_M)} (hq275 : ∀ {M : xj_M} {G : xG_} {a1 : Int} {R : xG_}, xRX m M0 M G → xin a1 → q275 a1 G = some R → xok (p275 m a1 M) (fun r => xRX m M0 r R)) (hr79 : ∀ {M : xj_M} {G : xG_} {x1 : Int} {x2 : Int} {x3 : Int} {x4 : Int} {x5 : Int} {R : xG_}, xRX m M0 M G → xin x1 → xin x2 → xin x3 → xin x4 → xin x5 → r79 x1 x2 x3 x4 x5 G = some R → xok (o79 m x1 x2 x3 x4 x5 M) (fun r => xRX m M0 r R)) (hr135 : ∀ {M : xj_M} {G : xG_} {x1 : Int} {x2 : Int} {x3 : Int} {x4 : Int} {x5 : Int} {x6 : Int} {R : xG_}, xRX m M0 M G → xin x1 → xin x2 → xin x3 → xin x4 → xin x5 → xin x6 → r135 x1 x2 x3 x4 x5 x6 G = some R → xok (o135 m x1 x2 x3 x4 x5 x6 M) (fun r => xRX m M0 r R)) (h : xRX m M0 M G) {x1 : Int} {x2 : Int} {x3 : Int} {x4 : Int} {x5 : Int} {x6 : Int} {R : xG_} (tx1 : xin x1) (tx2 : xin x2) (tx3 : xin x3) (tx4 : xin x4) (tx5 : xin x5) (tx6 : xin x6) (e : g275_222 q275 r79 r135 f x1 x2 x3 x4 x5 x6 G = some R) : xok (f275_222 p275 o79 o135 f m x1 x2 x3 x4 x5 x6 M) (fun r => xRX m M0 r R) := by
  unfold g275_222 at e
  unfold f275_222
  exact hr135 h tx1 tx2 tx3 tx4 tx5 (xin_wr _) e
theorem s275_135b {m f : Nat} {M0 M : xj_M} {G : xG_} (hI : xHI f) {q275 : Int → xG_ → Option (xG_)} {p275 : Nat → Int → xj_M → Option (xj_M)} {r79 : Int → Int → Int → Int → Int → xG_ → Option (xG_)} {o79 : Nat → Int → Int → Int → Int → Int → xj_M → Option (xj_M)} {r135 : Int → Int → Int → Int → Int → Int → xG_ → Option (xG_)} {o135 : Nat → Int → Int → Int → Int → Int → Int → xj_M → Option (xj_M)} (hq275 : ∀ {M : xj_M} {G : xG_} {a1 : Int} {R : xG_}, xRX m M0 M G → xin a1 → q275 a1 G = some R → xok (p275 m a1 M) (fun r => xRX m M0 r R)) (hr79 : ∀ {M : xj_M} {G : xG_} {x1 : Int} {x2 : Int} {x3 : Int} {x4 : Int} {x5 : Int} {R : xG_}, xRX m M0 M G → xin x1 → xin x2 → xin x3 → xin x4 → xin x5 → r79 x1 x2 x3 x4 x5 G = some R → xok (o79 m x1 x2 x3 x4 x5 M) (fun r => xRX m M0 r R)) (hr135 : ∀ {M : xj_M} {G : xG_} {x1 : Int} {x2 : Int} {x3 : Int} {x4 : Int} {x5 : Int} {x6 : Int} {R : xG_}, xRX m M0 M G → xin x1 → xin x2 → xin x3 → xin x4 → xin x5 → xin x6 → r135 x1 x2 x3 x4 x5 x6 G = some R → xok (o135 m x1 x2 x3 x4 x5 x6 M) (fun r => xRX m M0 r R)) (h : xRX m M0 M G) {x1 : Int} {x2 : Int} {x3 : Int} {x4 : Int} {x5 : Int} {x6 : Int} {R : xG_} (tx1 : xin x1) (tx2 : xin x2) (tx3 : xin x3) (tx4 : xin x4) (tx5 : xin x5) (tx6 : xin x6) (e : g275_135b q275 r79 r135 f x1 x2 x3 x4 x5 x6 G = some R) : xok (f275_135b p275 o79 o135 f m x1 x2 x3 x4 x5 x6 M) (fun r => xRX m M0 r R) := by
  unfold g275_135b at e
  unfold f275_135b
  refine xok_eqb (h.pt (o := 0) (c := 15) (k := 29) (t := 2) (n := 107) (by decide) rfl (by decide) (by decide +kernel)) ?_
  refine xok_eqb (h.pt (o := 2) (c := 14) (k := 29) (t := 2 + 27) (n := 38) (xoP_o (show xoP 2 by unfold xoP; omega)).1 (xoP_o (show xoP 2 by unfold xoP; omega)).2 (by decide) (xoP_all (show xoP 2 by unfold xoP; omega) (Q := fun p => (p, 29, p + 27) ∈ xl_P) (by decide +kernel) (by decide +kernel) (by decide +kernel))) ?_
  by_cases c101 : 0 ≤ (x2) ∧ (x2) < 200
  · skip
    rw [if_pos c101] at e
    refine xok_eqb (h.ai (o := 2 + 27) (n := 200) (xoP_all (show xoP 2 by unfold xoP; omega) (Q := fun p => p + 27 < 276) (by decide) (by decide) (by decide)) (xoP_all (show xoP 2 by unfold xoP; omega) (Q := fun p => xl_t (p + 27) = (2, 3, 200)) rfl rfl rfl) (by decide) c101.1 c101.2) ?_
    refine xok_ite (fun c102 => ?_) (fun c102 => ?_)
    · rw [if_pos c102] at e
      obtain ⟨R103, e104, e⟩ := xbnd e
      refine xok_eqb (h.is (o := 0) (c := 15) (by decide) rfl) ?_
      refine xok_call (hq275 h (xin_wr _) e104) ?_
      intro M107 h105
      obtain ⟨M108, q109, h110⟩ := h105.pi (v := x4) (o := 0) (c := 15) (k := 37) (n := 107) (by decide) rfl (by decide) (by decide) tx4
      refine xok_eqb q109 ?_
      obtain ⟨G111, g1, e⟩ := xbnd e
      cases g1
      have h110_ : xRX m M0 M108 (xup2 R103 (0) 37 (x4)) := h110
      generalize hGG111 : (xup2 R103 (0) 37 (x4)) = G111 at e h110
      clear h110_ hGG111
      exact s275_241 hI hq275 hr79 h110 tx1 tx2 tx3 tx4 tx5 e
    · rw [if_neg c102] at e
      refine xok_eqb (h.pt (o := 0) (c := 15) (k := 29) (t := 2) (n := 107) (by decide) rfl (by decide) (by decide +kernel)) ?_
      refine xok_eqb (h.pt (o := 2) (c := 14) (k := 33) (t := 2 + 31) (n := 38) (xoP_o (show xoP 2 by unfold xoP; omega)).1 (xoP_o (show xoP 2 by unfold xoP; omega)).2 (by decide) (xoP_all (show xoP 2 by unfold xoP; omega) (Q := fun p => (p, 33, p + 31) ∈ xl_P) (by decide +kernel) (by decide +kernel) (by decide +kernel))) ?_
      by_cases c112 : 0 ≤ (xwr ((xwr ((x2) * (4))) + (x6))) ∧ (xwr ((xwr ((x2) * (4))) + (x6))) < 800
      · skip
        rw [if_pos c112] at e
        refine xok_eqb (h.ai (o := 2 + 31) (n := 800) (xoP_all (show xoP 2 by unfold xoP; omega) (Q := fun p => p + 31 < 276) (by decide) (by decide) (by decide)) (xoP_all (show xoP 2 by unfold xoP; omega) (Q := fun p => xl_t (p + 31) = (2, 3, 800)) rfl rfl rfl) (by decide) c112.1 c112.2) ?_
        refine xok_ite (fun c113 => ?_) (fun c113 => ?_)
        · rw [if_pos c113] at e
          refine xok_eqb (h.pt (o := 0) (c := 15) (k := 29) (t := 2) (n := 107) (by decide) rfl (by decide) (by decide +kernel)) ?_
          refine xok_eqb (h.pt (o := 2) (c := 14) (k := 34) (t := 2 + 32) (n := 38) (xoP_o (show xoP 2 by unfold xoP; omega)).1 (xoP_o (show xoP 2 by unfold xoP; omega)).2 (by decide) (xoP_all (show xoP 2 by unfold xoP; omega) (Q := fun p => (p, 34, p + 32) ∈ xl_P) (by decide +kernel) (by decide +kernel) (by decide +kernel))) ?_
          by_cases c114 : 0 ≤ (xwr ((xwr ((x2) * (4))) + (x6))) ∧ (xwr ((xwr ((x2) * (4))) + (x6))) < 800
          · skip
            rw [if_pos c114] at e
            refine xok_eqb (h.al (o := 2 + 32) (n := 800) (xoP_all (show xoP 2 by unfold xoP; omega) (Q := fun p => p + 32 < 276) (by decide) (by decide) (by decide)) (xoP_all (show xoP 2 by unfold xoP; omega) (Q := fun p => xl_t (p + 32) = (2, 4, 800)) rfl rfl rfl)  c114.1 c114.2) ?_
            refine xok_eqb (h.pt (o := 0) (c := 15) (k := 35) (t := 110) (n := 107) (by decide) rfl (by decide) (by decide +kernel)) ?_
            refine xok_eqb (h.pt (o := 0) (c := 15) (k := 32) (t := 107) (n := 107) (by decide) rfl (by decide) (by decide +kernel)) ?_
            obtain ⟨R115, e116, e⟩ := xbnd e
            refine xok_eqb (h.is (o := 0) (c := 15) (by decide) rfl) ?_
            refine xok_call (sg261 hI  h tx3 tx5 e116) ?_
            rintro ⟨v_, M119⟩ ⟨hv_, h117, hi118⟩
            cases hv_
            by_cases c120 : 0 ≤ (xwr ((R115.1) + (x6))) ∧ (xwr ((R115.1) + (x6))) < 33280
            · skip
              rw [if_pos c120] at e
              refine xok_eqb (h117.al (o := 107) (n := 33280) (by decide) rfl  c120.1 c120.2) ?_
              by_cases c121 : 0 ≤ (xwr (G (2 + 32) (xwr ((xwr ((x2) * (4))) + (x6))).toNat)) ∧ (xwr (G (2 + 32) (xwr ((xwr ((x2) * (4))) + (x6))).toNat)) < 8
              · skip
                rw [if_pos c121] at e
                obtain ⟨M122, q123, h124⟩ := h117.sl (o := 110) (n := 8) (v := R115.2 (107) (xwr ((R115.1) + (x6))).toNat) (by decide) rfl c121.1 c121.2 (h117.aln (o := 107) (n := 33280) (by decide) rfl  c120.1 c120.2)
                refine xok_eqb q123 ?_
                obtain ⟨G125, g1, e⟩ := xbnd e
                cases g1
                have h124_ : xRX m M0 M122 (xup2 R115.2 (110) (xwr (G (2 + 32) (xwr ((xwr ((x2) * (4))) + (x6))).toNat)).toNat (R115.2 (107) (xwr ((R115.1) + (x6))).toNat)) := h124
                generalize hGG125 : (xup2 R115.2 (110) (xwr (G (2 + 32) (xwr ((xwr ((x2) * (4))) + (x6))).toNat)).toNat (R115.2 (107) (xwr ((R115.1) + (x6))).toNat)) = G125 at e h124
                clear h124_ hGG125
                refine xok_eqb (h124.gi (o := 0) (c := 15) (k := 37) (n := 107) (by decide) rfl (by decide) (by decide)) ?_
                obtain ⟨M126, q127, h128⟩ := h124.pi (v := xor_ (G125 (0) 37) (xshl (1) (xwr (G (2 + 32) (xwr ((xwr ((x2) * (4))) + (x6))).toNat)))) (o := 0) (c := 15) (k := 37) (n := 107) (by decide) rfl (by decide) (by decide) (xin_of _)
                refine xok_eqb q127 ?_
                obtain ⟨G129, g1, e⟩ := xbnd e
                cases g1
                have h128_ : xRX m M0 M126 (xup2 G125 (0) 37 (xor_ (G125 (0) 37) (xshl (1) (xwr (G (2 + 32) (xwr ((xwr ((x2) * (4))) + (x6))).toNat))))) := h128
                generalize hGG129 : (xup2 G125 (0) 37 (xor_ (G125 (0) 37) (xshl (1) (xwr (G (2 + 32) (xwr ((xwr ((x2) * (4))) + (x6))).toNat))))) = G129 at e h128
                clear h128_ hGG129
                exact s275_222 hI hq275 hr79 hr135 h128 tx1 tx2 tx3 tx4 tx5 tx6 e
              · rw [if_neg c121] at e; cases e
            · rw [if_neg c120] at e; cases e
          · rw [if_neg c114] at e; cases e
        · rw [if_neg c113] at e
          exact s275_222 hI hq275 hr79 hr135 h tx1 tx2 tx3 tx4 tx5 tx6 e
      · rw [if_neg c112] at e; cases e
  · rw [if_neg c101] at e; cases e
theorem s275_135 {m f : Nat} {M0 : xj_M} (hI : xHI f) {q275 : Int → xG_ → Option (xG_)} {p275 : Nat → Int → xj_M → Option (xj_M)} {r79 : Int → Int → Int → Int → Int → xG_ → Option (xG_)} {o79 : Nat → Int → Int → Int → Int → Int → xj_M → Option (xj_M)} (hq275 : ∀ {M : xj_M} {G : xG_} {a1 : Int} {R : xG_}, xRX m M0 M G → xin a1 → q275 a1 G = some R → xok (p275 m a1 M) (fun r => xRX m M0 r R)) (hr79 : ∀ {M : xj_M} {G : xG_} {x1 : Int} {x2 : Int} {x3 : Int} {x4 : Int} {x5 : Int} {R : xG_}, xRX m M0 M G → xin x1 → xin x2 → xin x3 → xin x4 → xin x5 → r79 x1 x2 x3 x4 x5 G = some R → xok (o79 m x1 x2 x3 x4 x5 M) (fun r => xRX m M0 r R)) : ∀ {n : Nat} {M : xj_M} {G : xG_} {x1 : Int} {x2 : Int} {x3 : Int} {x4 : Int} {x5 : Int} {x6 : Int} {R : xG_}, xRX m M0 M G → xin x1 → xin x2 → xin x3 → xin x4 → xin x5 → xin x6 → g275_135 q275 r79 f n x1 x2 x3 x4 x5 x6 G = some R → xok (f275_135 p275 o79 f n m x1 x2 x3 x4 x5 x6 M) (fun r => xRX m M0 r R) := by
  intro n
  induction n with
  | zero => intros; rename_i e; cases e
  | succ n ih =>
    intros
    rename_i h i0 i1 i2 i3 i4 i5 e
    exact s275_135b hI hq275 hr79 ih h i0 i1 i2 i3 i4 i5 e
theorem s275_247 {m f : Nat} {M0 M : xj_M} {G : xG_} (hI : xHI f) {q275 : Int → xG_ → Option (xG_)} {p275 : Nat → Int → xj_M → Option (xj_M)}  (hq275 : ∀ {M : xj_M} {G : xG_} {a1 : Int} {R : xG_}, xRX m M0 M G → xin a1 → q275 a1 G = some R → xok (p275 m a1 M) (fun r => xRX m M0 r R))  (h : xRX m M0 M G)  {R : xG_}  (e : g275_247 q275  f  G = some R) : xok (f275_247 p275  f  M) (fun r => xRX m M0 r R) := by
  unfold g275_247 at e
  unfold f275_247
  cases e
  exact ⟨_, rfl, h⟩
theorem s275_79b {m f : Nat} {M0 M : xj_M} {G : xG_} (hI : xHI f) {q275 : Int → xG_ → Option (xG_)} {p275 : Nat → Int → xj_M → Option (xj_M)} {r79 : Int → Int → Int → Int → Int → xG_ → Option (xG_)} {o79 : Nat → Int → Int → Int → Int → Int → xj_M → Option (xj_M)} (hq275 : ∀ {M : xj_M} {G : xG_} {a1 : Int} {R : xG_}, xRX m M0 M G → xin a1 → q275 a1 G = some R → xok (p275 m a1 M) (fun r => xRX m M0 r R)) (hr79 : ∀ {M : xj_M} {G : xG_} {x1 : Int} {x2 : Int} {x3 : Int} {x4 : Int} {x5 : Int} {R : xG_}, xRX m M0 M G → xin x1 → xin x2 → xin x3 → xin x4 → xin x5 → r79 x1 x2 x3 x4 x5 G = some R → xok (o79 m x1 x2 x3 x4 x5 M) (fun r => xRX m M0 r R)) (h : xRX m M0 M G) {x1 : Int} {x2 : Int} {x3 : Int} {x4 : Int} {x5 : Int} {R : xG_} (tx1 : xin x1) (tx2 : xin x2) (tx3 : xin x3) (tx4 : xin x4) (tx5 : xin x5) (e : g275_79b q275 r79 f x1 x2 x3 x4 x5 G = some R) : xok (f275_79b p275 o79 f m x1 x2 x3 x4 x5 M) (fun r => xRX m M0 r R) := by
  unfold g275_79b at e
  unfold f275_79b
  refine xok_eqb (h.pt (o := 0) (c := 15) (k := 33) (t := 108) (n := 107) (by decide) rfl (by decide) (by decide +kernel)) ?_
  by_cases c130 : 0 ≤ (x3) ∧ (x3) < 16
  · skip
    rw [if_pos c130] at e
    refine xok_eqb (h.ai (o := 108) (n := 16) (by decide) rfl (by decide) c130.1 c130.2) ?_
    refine xok_ite (fun c131 => ?_) (fun c131 => ?_)
    · rw [if_pos c131] at e
      exact s275_247 hI hq275  h  e
    · rw [if_neg c131] at e
      refine xok_eqb (h.gi (o := 0) (c := 15) (k := 43) (n := 107) (by decide) rfl (by decide) (by decide)) ?_
      refine xok_ite (fun c132 => ?_) (fun c132 => ?_)
      · rw [if_pos c132] at e
        exact s275_247 hI hq275  h  e
      · rw [if_neg c132] at e
        obtain ⟨R133, e134, e⟩ := xbnd e
        refine xok_eqb (h.is (o := 0) (c := 15) (by decide) rfl) ?_
        refine xok_call (sg271 hI  h tx3 tx5 e134) ?_
        rintro ⟨v_, M137⟩ ⟨hv_, h135, hi136⟩
        cases hv_
        refine xok_ite (fun c138 => ?_) (fun c138 => ?_)
        · rw [if_pos c138] at e
          exact s275_241 hI hq275 hr79 h135 tx1 tx2 tx3 tx4 tx5 e
        · rw [if_neg c138] at e
          obtain ⟨R139, e140, e⟩ := xbnd e
          refine xok_eqb (h135.is (o := 0) (c := 15) (by decide) rfl) ?_
          refine xok_call (sg272 hI  h135 tx2 tx3 tx5 e140) ?_
          rintro ⟨v_, M143⟩ ⟨hv_, h141, hi142⟩
          cases hv_
          refine xok_ite (fun c144 => ?_) (fun c144 => ?_)
          · rw [if_pos c144] at e
            exact s275_241 hI hq275 hr79 h141 tx1 tx2 tx3 tx4 tx5 e
          · rw [if_neg c144] at e
            obtain ⟨R145, e146, e⟩ := xbnd e
            refine xok_eqb (h141.is (o := 0) (c := 15) (by decide) rfl) ?_
            refine xok_call (sg274 hI  h141 tx2 tx3 tx5 e146) ?_
            rintro ⟨v_, M149⟩ ⟨hv_, h147, hi148⟩
            cases hv_
            refine xok_ite (fun c150 => ?_) (fun c150 => ?_)
            · rw [if_pos c150] at e
              exact s275_135 hI hq275 hr79 h147 tx1 tx2 tx3 tx4 tx5 (show xin (0) by decide) e
            · rw [if_neg c150] at e
              exact s275_241 hI hq275 hr79 h147 tx1 tx2 tx3 tx4 tx5 e
  · rw [if_neg c130] at e; cases e
theorem s275_79 {m f : Nat} {M0 : xj_M} (hI : xHI f) {q275 : Int → xG_ → Option (xG_)} {p275 : Nat → Int → xj_M → Option (xj_M)}  (hq275 : ∀ {M : xj_M} {G : xG_} {a1 : Int} {R : xG_}, xRX m M0 M G → xin a1 → q275 a1 G = some R → xok (p275 m a1 M) (fun r => xRX m M0 r R))  : ∀ {n : Nat} {M : xj_M} {G : xG_} {x1 : Int} {x2 : Int} {x3 : Int} {x4 : Int} {x5 : Int} {R : xG_}, xRX m M0 M G → xin x1 → xin x2 → xin x3 → xin x4 → xin x5 → g275_79 q275  f n x1 x2 x3 x4 x5 G = some R → xok (f275_79 p275  f n m x1 x2 x3 x4 x5 M) (fun r => xRX m M0 r R) := by
  intro n
  induction n with
  | zero => intros; rename_i e; cases e
  | succ n ih =>
    intros
    rename_i h i0 i1 i2 i3 i4 e
    exact s275_79b hI hq275  ih h i0 i1 i2 i3 i4 e
theorem s275b {m f : Nat} {M0 M : xj_M} {G : xG_} (hI : xHI f) {q275 : Int → xG_ → Option (xG_)} {p275 : Nat → Int → xj_M → Option (xj_M)} (hq275 : ∀ {M : xj_M} {G : xG_} {a1 : Int} {R : xG_}, xRX m M0 M G → xin a1 → q275 a1 G = some R → xok (p275 m a1 M) (fun r => xRX m M0 r R)) (h : xRX m M0 M G) {a1 : Int} {R : xG_} (ta1 : xin a1) (e : g275b q275 f a1 G = some R) : xok (f275b p275 f m a1 M) (fun r => xRX m M0 r R) := by
  unfold g275b at e
  unfold f275b
  refine xok_eqb (h.gi (o := 0) (c := 15) (k := 43) (n := 107) (by decide) rfl (by decide) (by decide)) ?_
  refine xok_ite (fun c151 => ?_) (fun c151 => ?_)
  · rw [if_pos c151] at e
    refine xok_eqb (h.pt (o := 0) (c := 15) (k := 29) (t := 2) (n := 107) (by decide) rfl (by decide) (by decide +kernel)) ?_
    refine xok_eqb (h.pt (o := 2) (c := 14) (k := 21) (t := 2 + 19) (n := 38) (xoP_o (show xoP 2 by unfold xoP; omega)).1 (xoP_o (show xoP 2 by unfold xoP; omega)).2 (by decide) (xoP_all (show xoP 2 by unfold xoP; omega) (Q := fun p => (p, 21, p + 19) ∈ xl_P) (by decide +kernel) (by decide +kernel) (by decide +kernel))) ?_
    refine xok_eqb (h.gi (o := 0) (c := 15) (k := 39) (n := 107) (by decide) rfl (by decide) (by decide)) ?_
    by_cases c152 : 0 ≤ (G (0) 39) ∧ (G (0) 39) < 25
    · skip
      rw [if_pos c152] at e
      refine xok_eqb (h.ai (o := 2 + 19) (n := 25) (xoP_all (show xoP 2 by unfold xoP; omega) (Q := fun p => p + 19 < 276) (by decide) (by decide) (by decide)) (xoP_all (show xoP 2 by unfold xoP; omega) (Q := fun p => xl_t (p + 19) = (2, 3, 25)) rfl rfl rfl) (by decide) c152.1 c152.2) ?_
      refine xok_ite (fun c153 => ?_) (fun c153 => ?_)
      · rw [if_pos c153] at e
        refine xok_eqb (h.gi (o := 0) (c := 15) (k := 39) (n := 107) (by decide) rfl (by decide) (by decide)) ?_
        refine xok_eqb (h.pt (o := 0) (c := 15) (k := 29) (t := 2) (n := 107) (by decide) rfl (by decide) (by decide +kernel)) ?_
        refine xok_eqb (h.pt (o := 2) (c := 14) (k := 27) (t := 2 + 25) (n := 38) (xoP_o (show xoP 2 by unfold xoP; omega)).1 (xoP_o (show xoP 2 by unfold xoP; omega)).2 (by decide) (xoP_all (show xoP 2 by unfold xoP; omega) (Q := fun p => (p, 27, p + 25) ∈ xl_P) (by decide +kernel) (by decide +kernel) (by decide +kernel))) ?_
        by_cases c154 : 0 ≤ (xwr ((xwr ((G (0) 39) * (8))) + (a1))) ∧ (xwr ((xwr ((G (0) 39) * (8))) + (a1))) < 200
        · skip
          rw [if_pos c154] at e
          refine xok_eqb (h.ai (o := 2 + 25) (n := 200) (xoP_all (show xoP 2 by unfold xoP; omega) (Q := fun p => p + 25 < 276) (by decide) (by decide) (by decide)) (xoP_all (show xoP 2 by unfold xoP; omega) (Q := fun p => xl_t (p + 25) = (2, 3, 200)) rfl rfl rfl) (by decide) c154.1 c154.2) ?_
          refine xok_ite (fun c155 => ?_) (fun c155 => ?_)
          · rw [if_pos c155] at e
            refine xok_eqb (h.pt (o := 0) (c := 15) (k := 29) (t := 2) (n := 107) (by decide) rfl (by decide) (by decide +kernel)) ?_
            refine xok_eqb (h.pt (o := 2) (c := 14) (k := 28) (t := 2 + 26) (n := 38) (xoP_o (show xoP 2 by unfold xoP; omega)).1 (xoP_o (show xoP 2 by unfold xoP; omega)).2 (by decide) (xoP_all (show xoP 2 by unfold xoP; omega) (Q := fun p => (p, 28, p + 26) ∈ xl_P) (by decide +kernel) (by decide +kernel) (by decide +kernel))) ?_
            by_cases c156 : 0 ≤ (xwr ((xwr ((G (0) 39) * (8))) + (a1))) ∧ (xwr ((xwr ((G (0) 39) * (8))) + (a1))) < 200
            · skip
              rw [if_pos c156] at e
              refine xok_eqb (h.ai (o := 2 + 26) (n := 200) (xoP_all (show xoP 2 by unfold xoP; omega) (Q := fun p => p + 26 < 276) (by decide) (by decide) (by decide)) (xoP_all (show xoP 2 by unfold xoP; omega) (Q := fun p => xl_t (p + 26) = (2, 3, 200)) rfl rfl rfl) (by decide) c156.1 c156.2) ?_
              refine xok_eqb (h.gi (o := 0) (c := 15) (k := 37) (n := 107) (by decide) rfl (by decide) (by decide)) ?_
              exact s275_79 hI hq275  h ta1 (xin_wr _) (h.ain (o := 2 + 26) (n := 200) (xoP_all (show xoP 2 by unfold xoP; omega) (Q := fun p => p + 26 < 276) (by decide) (by decide) (by decide)) (xoP_all (show xoP 2 by unfold xoP; omega) (Q := fun p => xl_t (p + 26) = (2, 3, 200)) rfl rfl rfl) (by decide) c156.1 c156.2) (h.gin (o := 0) (c := 15) (k := 37) (n := 107) (by decide) rfl (by decide) (by decide)) (show xin (0) by decide) e
            · rw [if_neg c156] at e; cases e
          · rw [if_neg c155] at e
            obtain ⟨R157, e158, e⟩ := xbnd e
            refine xok_eqb (h.is (o := 0) (c := 15) (by decide) rfl) ?_
            refine xok_call (hq275 h (xin_wr _) e158) ?_
            intro M161 h159
            cases e
            exact ⟨_, rfl, h159⟩
        · rw [if_neg c154] at e; cases e
      · rw [if_neg c153] at e
        obtain ⟨R162, e163, e⟩ := xbnd e
        refine xok_eqb (h.is (o := 0) (c := 15) (by decide) rfl) ?_
        refine xok_call (sg276 hI  h  e163) ?_
        intro M166 h164
        cases e
        exact ⟨_, rfl, h164⟩
    · rw [if_neg c152] at e; cases e
  · rw [if_neg c151] at e
    cases e
    exact ⟨_, rfl, h⟩
theorem s275r {m f : Nat} {M0 : xj_M} (hI : xHI f) : ∀ {n : Nat} {M : xj_M} {G : xG_} {a1 : Int} {R : xG_}, xRX m M0 M G → xin a1 → g275r f n a1 G = some R → xok (f275r f n m a1 M) (fun r => xRX m M0 r R) := by
  intro n
  induction n with
  | zero => intros; rename_i e; cases e
  | succ n ih =>
    intros
    rename_i h i0 e
    exact s275b hI ih h i0 e
theorem sg275 {m f : Nat} {M0 M : xj_M} {G : xG_} (hI : xHI f) (h : xRX m M0 M G) {a1 : Int} {R : xG_} (ta1 : xin a1) (e : g275 f a1 G = some R) : xok (f275 f m a1 M) (fun r => xRX m M0 r R) := s275r hI h ta1 e
-- ChangeHouseModel.gatherAll
theorem s288_124 {m f : Nat} {M0 M : xj_M} {G : xG_} (hI : xHI f)  {r15 : Int → xG_ → Option (Int × xG_)} {o15 : Nat → Int → xj_M → Option (Int × xj_M)}  (hr15 : ∀ {M : xj_M} {G : xG_} {x1 : Int} {R : Int × xG_}, xRX m M0 M G → xin x1 → r15 x1 G = some R → xok (o15 m x1 M) (fun r => r.1 = R.1 ∧ xRX m M0 r.2 R.2 ∧ xin R.1)) (h : xRX m M0 M G) {x1 : Int} {R : Int × xG_} (tx1 : xin x1) (e : g288_124  r15 f x1 G = some R) : xok (f288_124  o15 f m x1 M) (fun r => r.1 = R.1 ∧ xRX m M0 r.2 R.2 ∧ xin R.1) := by
  unfold g288_124 at e
  unfold f288_124
  obtain ⟨M101, q102, h103⟩ := h.pb (v := 1) (o := 0) (c := 15) (k := 59) (n := 107) (by decide) rfl (by decide) (by decide) (by decide)
  refine xok_eqb q102 ?_
  obtain ⟨G104, g1, e⟩ := xbnd e
  cases g1
  have h103_ : xRX m M0 M101 (xup2 G (0) 59 (1)) := h103
  generalize hGG104 : (xup2 G (0) 59 (1)) = G104 at e h103
  clear h103_ hGG104
  exact hr15 h103 tx1 e
theorem s288_85b {m f : Nat} {M0 M : xj_M} {G : xG_} (hI : xHI f)  {r15 : Int → xG_ → Option (Int × xG_)} {o15 : Nat → Int → xj_M → Option (Int × xj_M)} {r85 : Int → Int → xG_ → Option (Int × xG_)} {o85 : Nat → Int → Int → xj_M → Option (Int × xj_M)}  (hr15 : ∀ {M : xj_M} {G : xG_} {x1 : Int} {R : Int × xG_}, xRX m M0 M G → xin x1 → r15 x1 G = some R → xok (o15 m x1 M) (fun r => r.1 = R.1 ∧ xRX m M0 r.2 R.2 ∧ xin R.1)) (hr85 : ∀ {M : xj_M} {G : xG_} {x1 : Int} {x2 : Int} {R : Int × xG_}, xRX m M0 M G → xin x1 → xin x2 → r85 x1 x2 G = some R → xok (o85 m x1 x2 M) (fun r => r.1 = R.1 ∧ xRX m M0 r.2 R.2 ∧ xin R.1)) (h : xRX m M0 M G) {x1 : Int} {x2 : Int} {R : Int × xG_} (tx1 : xin x1) (tx2 : xin x2) (e : g288_85b  r15 r85 f x1 x2 G = some R) : xok (f288_85b  o15 o85 f m x1 x2 M) (fun r => r.1 = R.1 ∧ xRX m M0 r.2 R.2 ∧ xin R.1) := by
  unfold g288_85b at e
  unfold f288_85b
  refine xok_ite (fun c105 => ?_) (fun c105 => ?_)
  · rw [if_pos c105] at e
    exact s288_124 hI  hr15 h tx1 e
  · rw [if_neg c105] at e
    refine xok_eqb (h.gi (o := 0) (c := 15) (k := 58) (n := 107) (by decide) rfl (by decide) (by decide)) ?_
    refine xok_ite (fun c106 => ?_) (fun c106 => ?_)
    · rw [if_pos c106] at e
      exact s288_124 hI  hr15 h tx1 e
    · rw [if_neg c106] at e
      refine xok_eqb (h.pt (o := 0) (c := 15) (k := 57) (t := 121) (n := 107) (by decide) rfl (by decide) (by decide +kernel)) ?_
      refine xok_eqb (h.pt (o := 0) (c := 15) (k := 55) (t := 119) (n := 107) (by decide) rfl (by decide) (by decide +kernel)) ?_
      refine xok_eqb (h.gi (o := 0) (c := 15) (k := 58) (n := 107) (by decide) rfl (by decide) (by decide)) ?_
      by_cases c107 : 0 ≤ (xwr ((xwr ((4) * (xwr ((G (0) 58) - (1))))) + (x2))) ∧ (xwr ((xwr ((4) * (xwr ((G (0) 58) - (1))))) + (x2))) < 4100
      · skip
        rw [if_pos c107] at e
        refine xok_eqb (h.al (o := 119) (n := 4100) (by decide) rfl  c107.1 c107.2) ?_
        by_cases c108 : 0 ≤ (x2) ∧ (x2) < 4
        · skip
          rw [if_pos c108] at e
          obtain ⟨M109, q110, h111⟩ := h.sl (o := 121) (n := 4) (v := G (119) (xwr ((xwr ((4) * (xwr ((G (0) 58) - (1))))) + (x2))).toNat) (by decide) rfl c108.1 c108.2 (h.aln (o := 119) (n := 4100) (by decide) rfl  c107.1 c107.2)
          refine xok_eqb q110 ?_
          obtain ⟨G112, g1, e⟩ := xbnd e
          cases g1
          have h111_ : xRX m M0 M109 (xup2 G (121) (x2).toNat (G (119) (xwr ((xwr ((4) * (xwr ((G (0) 58) - (1))))) + (x2))).toNat)) := h111
          generalize hGG112 : (xup2 G (121) (x2).toNat (G (119) (xwr ((xwr ((4) * (xwr ((G (0) 58) - (1))))) + (x2))).toNat)) = G112 at e h111
          clear h111_ hGG112
          exact hr85 h111 tx1 (xin_wr _) e
        · rw [if_neg c108] at e; cases e
      · rw [if_neg c107] at e; cases e
theorem s288_85 {m f : Nat} {M0 : xj_M} (hI : xHI f)  {r15 : Int → xG_ → Option (Int × xG_)} {o15 : Nat → Int → xj_M → Option (Int × xj_M)}  (hr15 : ∀ {M : xj_M} {G : xG_} {x1 : Int} {R : Int × xG_}, xRX m M0 M G → xin x1 → r15 x1 G = some R → xok (o15 m x1 M) (fun r => r.1 = R.1 ∧ xRX m M0 r.2 R.2 ∧ xin R.1)) : ∀ {n : Nat} {M : xj_M} {G : xG_} {x1 : Int} {x2 : Int} {R : Int × xG_}, xRX m M0 M G → xin x1 → xin x2 → g288_85  r15 f n x1 x2 G = some R → xok (f288_85  o15 f n m x1 x2 M) (fun r => r.1 = R.1 ∧ xRX m M0 r.2 R.2 ∧ xin R.1) := by
  intro n
  induction n with
  | zero => intros; rename_i e; cases e
  | succ n ih =>
    intros
    rename_i h i0 i1 e
    exact s288_85b hI  hr15 ih h i0 i1 e
theorem s288_83 {m f : Nat} {M0 M : xj_M} {G : xG_} (hI : xHI f)  {r15 : Int → xG_ → Option (Int × xG_)} {o15 : Nat → Int → xj_M → Option (Int × xj_M)}  (hr15 : ∀ {M : xj_M} {G : xG_} {x1 : Int} {R : Int × xG_}, xRX m M0 M G → xin x1 → r15 x1 G = some R → xok (o15 m x1 M) (fun r => r.1 = R.1 ∧ xRX m M0 r.2 R.2 ∧ xin R.1)) (h : xRX m M0 M G) {x1 : Int} {R : Int × xG_} (tx1 : xin x1) (e : g288_83  r15 f x1 G = some R) : xok (f288_83  o15 f m x1 M) (fun r => r.1 = R.1 ∧ xRX m M0 r.2 R.2 ∧ xin R.1) := by
  unfold g288_83 at e
  unfold f288_83
  exact s288_85 hI  hr15 h tx1 (show xin (0) by decide) e
theorem s288_51b {m f : Nat} {M0 M : xj_M} {G : xG_} (hI : xHI f)  {r15 : Int → xG_ → Option (Int × xG_)} {o15 : Nat → Int → xj_M → Option (Int × xj_M)} {r51 : Int → Int → xG_ → Option (Int × xG_)} {o51 : Nat → Int → Int → xj_M → Option (Int × xj_M)}  (hr15 : ∀ {M : xj_M} {G : xG_} {x1 : Int} {R : Int × xG_}, xRX m M0 M G → xin x1 → r15 x1 G = some R → xok (o15 m x1 M) (fun r => r.1 = R.1 ∧ xRX m M0 r.2 R.2 ∧ xin R.1)) (hr51 : ∀ {M : xj_M} {G : xG_} {x1 : Int} {x2 : Int} {R : Int × xG_}, xRX m M0 M G → xin x1 → xin x2 → r51 x1 x2 G = some R → xok (o51 m x1 x2 M) (fun r => r.1 = R.1 ∧ xRX m M0 r.2 R.2 ∧ xin R.1)) (h : xRX m M0 M G) {x1 : Int} {x2 : Int} {R : Int × xG_} (tx1 : xin x1) (tx2 : xin x2) (e : g288_51b  r15 r51 f x1 x2 G = some R) : xok (f288_51b  o15 o51 f m x1 x2 M) (fun r => r.1 = R.1 ∧ xRX m M0 r.2 R.2 ∧ xin R.1) := by
  unfold g288_51b at e
  unfold f288_51b
  refine xok_eqb (h.gi (o := 0) (c := 15) (k := 58) (n := 107) (by decide) rfl (by decide) (by decide)) ?_
  refine xok_ite (fun c113 => ?_) (fun c113 => ?_)
  · rw [if_pos c113] at e
    exact s288_83 hI  hr15 h tx1 e
  · rw [if_neg c113] at e
    refine xok_eqb (h.gi (o := 0) (c := 15) (k := 43) (n := 107) (by decide) rfl (by decide) (by decide)) ?_
    refine xok_ite (fun c114 => ?_) (fun c114 => ?_)
    · rw [if_pos c114] at e
      exact s288_83 hI  hr15 h tx1 e
    · rw [if_neg c114] at e
      obtain ⟨R115, e116, e⟩ := xbnd e
      refine xok_eqb (h.is (o := 0) (c := 15) (by decide) rfl) ?_
      refine xok_call (sg289 hI  h tx2 tx1 e116) ?_
      rintro ⟨v_, M119⟩ ⟨hv_, h117, hi118⟩
      cases hv_
      refine xok_ite (fun c120 => ?_) (fun c120 => ?_)
      · rw [if_pos c120] at e
        exact hr51 h117 tx1 (xin_wr _) e
      · rw [if_neg c120] at e
        cases e
        exact ⟨_, rfl, rfl, h117, (show xin (1) by decide)⟩
theorem s288_51 {m f : Nat} {M0 : xj_M} (hI : xHI f)  {r15 : Int → xG_ → Option (Int × xG_)} {o15 : Nat → Int → xj_M → Option (Int × xj_M)}  (hr15 : ∀ {M : xj_M} {G : xG_} {x1 : Int} {R : Int × xG_}, xRX m M0 M G → xin x1 → r15 x1 G = some R → xok (o15 m x1 M) (fun r => r.1 = R.1 ∧ xRX m M0 r.2 R.2 ∧ xin R.1)) : ∀ {n : Nat} {M : xj_M} {G : xG_} {x1 : Int} {x2 : Int} {R : Int × xG_}, xRX m M0 M G → xin x1 → xin x2 → g288_51  r15 f n x1 x2 G = some R → xok (f288_51  o15 f n m x1 x2 M) (fun r => r.1 = R.1 ∧ xRX m M0 r.2 R.2 ∧ xin R.1) := by
  intro n
  induction n with
  | zero => intros; rename_i e; cases e
  | succ n ih =>
    intros
    rename_i h i0 i1 e
    exact s288_51b hI  hr15 ih h i0 i1 e
theorem s288_132 {m f : Nat} {M0 M : xj_M} {G : xG_} (hI : xHI f)     (h : xRX m M0 M G)  {R : Int × xG_}  (e : g288_132   f  G = some R) : xok (f288_132   f  M) (fun r => r.1 = R.1 ∧ xRX m M0 r.2 R.2 ∧ xin R.1) := by
  unfold g288_132 at e
  unfold f288_132
  cases e
  exact ⟨_, rfl, rfl, h, (show xin (0) by decide)⟩
theorem s288_15b {m f : Nat} {M0 M : xj_M} {G : xG_} (hI : xHI f)  {r15 : Int → xG_ → Option (Int × xG_)} {o15 : Nat → Int → xj_M → Option (Int × xj_M)}  (hr15 : ∀ {M : xj_M} {G : xG_} {x1 : Int} {R : Int × xG_}, xRX m M0 M G → xin x1 → r15 x1 G = some R → xok (o15 m x1 M) (fun r => r.1 = R.1 ∧ xRX m M0 r.2 R.2 ∧ xin R.1)) (h : xRX m M0 M G) {x1 : Int} {R : Int × xG_} (tx1 : xin x1) (e : g288_15b  r15 f x1 G = some R) : xok (f288_15b  o15 f m x1 M) (fun r => r.1 = R.1 ∧ xRX m M0 r.2 R.2 ∧ xin R.1) := by
  unfold g288_15b at e
  unfold f288_15b
  refine xok_eqb (h.gi (o := 0) (c := 15) (k := 60) (n := 107) (by decide) rfl (by decide) (by decide)) ?_
  refine xok_ite (fun c121 => ?_) (fun c121 => ?_)
  · rw [if_pos c121] at e
    exact s288_132 hI   h  e
  · rw [if_neg c121] at e
    refine xok_eqb (h.gi (o := 0) (c := 15) (k := 43) (n := 107) (by decide) rfl (by decide) (by decide)) ?_
    refine xok_ite (fun c122 => ?_) (fun c122 => ?_)
    · rw [if_pos c122] at e
      exact s288_132 hI   h  e
    · rw [if_neg c122] at e
      obtain ⟨M123, q124, h125⟩ := h.pb (v := 0) (o := 0) (c := 15) (k := 60) (n := 107) (by decide) rfl (by decide) (by decide) (by decide)
      refine xok_eqb q124 ?_
      obtain ⟨G126, g1, e⟩ := xbnd e
      cases g1
      have h125_ : xRX m M0 M123 (xup2 G (0) 60 (0)) := h125
      generalize hGG126 : (xup2 G (0) 60 (0)) = G126 at e h125
      clear h125_ hGG126
      obtain ⟨M127, q128, h129⟩ := h125.pi (v := 0) (o := 0) (c := 15) (k := 58) (n := 107) (by decide) rfl (by decide) (by decide) (show xin (0) by decide)
      refine xok_eqb q128 ?_
      obtain ⟨G130, g1, e⟩ := xbnd e
      cases g1
      have h129_ : xRX m M0 M127 (xup2 G126 (0) 58 (0)) := h129
      generalize hGG130 : (xup2 G126 (0) 58 (0)) = G130 at e h129
      clear h129_ hGG130
      obtain ⟨M131, q132, h133⟩ := h129.pi (v := 0) (o := 0) (c := 15) (k := 37) (n := 107) (by decide) rfl (by decide) (by decide) (show xin (0) by decide)
      refine xok_eqb q132 ?_
      obtain ⟨G134, g1, e⟩ := xbnd e
      cases g1
      have h133_ : xRX m M0 M131 (xup2 G130 (0) 37 (0)) := h133
      generalize hGG134 : (xup2 G130 (0) 37 (0)) = G134 at e h133
      clear h133_ hGG134
      obtain ⟨R135, e136, e⟩ := xbnd e
      refine xok_eqb (h133.is (o := 0) (c := 15) (by decide) rfl) ?_
      refine xok_call (sg275 hI  h133 (show xin (0) by decide) e136) ?_
      intro M139 h137
      exact s288_51 hI  hr15 h137 tx1 (show xin (0) by decide) e
theorem s288_15 {m f : Nat} {M0 : xj_M} (hI : xHI f)     : ∀ {n : Nat} {M : xj_M} {G : xG_} {x1 : Int} {R : Int × xG_}, xRX m M0 M G → xin x1 → g288_15   f n x1 G = some R → xok (f288_15   f n m x1 M) (fun r => r.1 = R.1 ∧ xRX m M0 r.2 R.2 ∧ xin R.1) := by
  intro n
  induction n with
  | zero => intros; rename_i e; cases e
  | succ n ih =>
    intros
    rename_i h i0 e
    exact s288_15b hI   ih h i0 e
theorem sg288 {m f : Nat} {M0 M : xj_M} {G : xG_} (hI : xHI f)   (h : xRX m M0 M G) {a1 : Int} {R : Int × xG_} (ta1 : xin a1) (e : g288  f a1 G = some R) : xok (f288  f m a1 M) (fun r => r.1 = R.1 ∧ xRX m M0 r.2 R.2 ∧ xin R.1) := by
  unfold g288 at e
  unfold f288
  obtain ⟨M140, q141, h142⟩ := h.pi (v := 2) (o := 0) (c := 15) (k := 38) (n := 107) (by decide) rfl (by decide) (by decide) (show xin (2) by decide)
  refine xok_eqb q141 ?_
  obtain ⟨G143, g1, e⟩ := xbnd e
  cases g1
  have h142_ : xRX m M0 M140 (xup2 G (0) 38 (2)) := h142
  generalize hGG143 : (xup2 G (0) 38 (2)) = G143 at e h142
  clear h142_ hGG143
  obtain ⟨M144, q145, h146⟩ := h142.pb (v := 0) (o := 0) (c := 15) (k := 59) (n := 107) (by decide) rfl (by decide) (by decide) (by decide)
  refine xok_eqb q145 ?_
  obtain ⟨G147, g1, e⟩ := xbnd e
  cases g1
  have h146_ : xRX m M0 M144 (xup2 G143 (0) 59 (0)) := h146
  generalize hGG147 : (xup2 G143 (0) 59 (0)) = G147 at e h146
  clear h146_ hGG147
  obtain ⟨M148, q149, h150⟩ := h146.pb (v := 1) (o := 0) (c := 15) (k := 60) (n := 107) (by decide) rfl (by decide) (by decide) (by decide)
  refine xok_eqb q149 ?_
  obtain ⟨G151, g1, e⟩ := xbnd e
  cases g1
  have h150_ : xRX m M0 M148 (xup2 G147 (0) 60 (1)) := h150
  generalize hGG151 : (xup2 G147 (0) 60 (1)) = G151 at e h150
  clear h150_ hGG151
  exact s288_15 hI   h150 ta1 e
-- ChangeHouseModel.workRing
theorem s293_153 {m f : Nat} {M0 M : xj_M} {G : xG_} (hI : xHI f)  {r12 : Int → Int → xG_ → Option (Int × xG_)} {o12 : Nat → Int → Int → xj_M → Option (Int × xj_M)} {r52 : Int → Int → Int → xG_ → Option (Int × xG_)} {o52 : Nat → Int → Int → Int → xj_M → Option (Int × xj_M)}  (hr12 : ∀ {M : xj_M} {G : xG_} {x1 : Int} {x2 : Int} {R : Int × xG_}, xRX m M0 M G → xin x1 → xin x2 → r12 x1 x2 G = some R → xok (o12 m x1 x2 M) (fun r => r.1 = R.1 ∧ xRX m M0 r.2 R.2 ∧ xin R.1)) (hr52 : ∀ {M : xj_M} {G : xG_} {x1 : Int} {x2 : Int} {x3 : Int} {R : Int × xG_}, xRX m M0 M G → xin x1 → xin x2 → xin x3 → r52 x1 x2 x3 G = some R → xok (o52 m x1 x2 x3 M) (fun r => r.1 = R.1 ∧ xRX m M0 r.2 R.2 ∧ xin R.1)) (h : xRX m M0 M G) {x1 : Int} {x2 : Int} {x3 : Int} {R : Int × xG_} (tx1 : xin x1) (tx2 : xin x2) (tx3 : xin x3) (e : g293_153  r12 r52 f x1 x2 x3 G = some R) : xok (f293_153  o12 o52 f m x1 x2 x3 M) (fun r => r.1 = R.1 ∧ xRX m M0 r.2 R.2 ∧ xin R.1) := by
  unfold g293_153 at e
  unfold f293_153
  exact hr52 h tx1 tx2 (xin_wr _) e
theorem s293_111 {m f : Nat} {M0 M : xj_M} {G : xG_} (hI : xHI f)  {r12 : Int → Int → xG_ → Option (Int × xG_)} {o12 : Nat → Int → Int → xj_M → Option (Int × xj_M)} {r52 : Int → Int → Int → xG_ → Option (Int × xG_)} {o52 : Nat → Int → Int → Int → xj_M → Option (Int × xj_M)}  (hr12 : ∀ {M : xj_M} {G : xG_} {x1 : Int} {x2 : Int} {R : Int × xG_}, xRX m M0 M G → xin x1 → xin x2 → r12 x1 x2 G = some R → xok (o12 m x1 x2 M) (fun r => r.1 = R.1 ∧ xRX m M0 r.2 R.2 ∧ xin R.1)) (hr52 : ∀ {M : xj_M} {G : xG_} {x1 : Int} {x2 : Int} {x3 : Int} {R : Int × xG_}, xRX m M0 M G → xin x1 → xin x2 → xin x3 → r52 x1 x2 x3 G = some R → xok (o52 m x1 x2 x3 M) (fun r => r.1 = R.1 ∧ xRX m M0 r.2 R.2 ∧ xin R.1)) (h : xRX m M0 M G) {x1 : Int} {x2 : Int} {x3 : Int} {R : Int × xG_} (tx1 : xin x1) (tx2 : xin x2) (tx3 : xin x3) (e : g293_111  r12 r52 f x1 x2 x3 G = some R) : xok (f293_111  o12 o52 f m x1 x2 x3 M) (fun r => r.1 = R.1 ∧ xRX m M0 r.2 R.2 ∧ xin R.1) := by
  unfold g293_111 at e
  unfold f293_111
  obtain ⟨M101, q102, h103⟩ := h.pi (v := x3) (o := 0) (c := 15) (k := 39) (n := 107) (by decide) rfl (by decide) (by decide) tx3
  refine xok_eqb q102 ?_
  obtain ⟨G104, g1, e⟩ := xbnd e
  cases g1
  have h103_ : xRX m M0 M101 (xup2 G (0) 39 (x3)) := h103
  generalize hGG104 : (xup2 G (0) 39 (x3)) = G104 at e h103
  clear h103_ hGG104
  refine xok_eqb (h103.pt (o := 0) (c := 15) (k := 29) (t := 2) (n := 107) (by decide) rfl (by decide) (by decide +kernel)) ?_
  refine xok_eqb (h103.pt (o := 2) (c := 14) (k := 18) (t := 2 + 16) (n := 38) (xoP_o (show xoP 2 by unfold xoP; omega)).1 (xoP_o (show xoP 2 by unfold xoP; omega)).2 (by decide) (xoP_all (show xoP 2 by unfold xoP; omega) (Q := fun p => (p, 18, p + 16) ∈ xl_P) (by decide +kernel) (by decide +kernel) (by decide +kernel))) ?_
  by_cases c105 : 0 ≤ (x3) ∧ (x3) < 25
  · skip
    rw [if_pos c105] at e
    refine xok_eqb (h103.ai (o := 2 + 16) (n := 25) (xoP_all (show xoP 2 by unfold xoP; omega) (Q := fun p => p + 16 < 276) (by decide) (by decide) (by decide)) (xoP_all (show xoP 2 by unfold xoP; omega) (Q := fun p => xl_t (p + 16) = (2, 3, 25)) rfl rfl rfl) (by decide) c105.1 c105.2) ?_
    refine xok_ite (fun c106 => ?_) (fun c106 => ?_)
    · rw [if_pos c106] at e
      obtain ⟨M107, q108, h109⟩ := h103.pi (v := 1) (o := 0) (c := 15) (k := 38) (n := 107) (by decide) rfl (by decide) (by decide) (show xin (1) by decide)
      refine xok_eqb q108 ?_
      obtain ⟨G110, g1, e⟩ := xbnd e
      cases g1
      have h109_ : xRX m M0 M107 (xup2 G104 (0) 38 (1)) := h109
      generalize hGG110 : (xup2 G104 (0) 38 (1)) = G110 at e h109
      clear h109_ hGG110
      obtain ⟨M111, q112, h113⟩ := h109.pi (v := 0) (o := 0) (c := 15) (k := 37) (n := 107) (by decide) rfl (by decide) (by decide) (show xin (0) by decide)
      refine xok_eqb q112 ?_
      obtain ⟨G114, g1, e⟩ := xbnd e
      cases g1
      have h113_ : xRX m M0 M111 (xup2 G110 (0) 37 (0)) := h113
      generalize hGG114 : (xup2 G110 (0) 37 (0)) = G114 at e h113
      clear h113_ hGG114
      obtain ⟨R115, e116, e⟩ := xbnd e
      refine xok_eqb (h113.is (o := 0) (c := 15) (by decide) rfl) ?_
      refine xok_call (sg275 hI  h113 (show xin (0) by decide) e116) ?_
      intro M119 h117
      exact s293_153 hI  hr12 hr52 h117 tx1 tx2 tx3 e
    · rw [if_neg c106] at e
      obtain ⟨R120, e121, e⟩ := xbnd e
      refine xok_eqb (h103.is (o := 0) (c := 15) (by decide) rfl) ?_
      refine xok_call (sg288 hI  h103 (show xin (0) by decide) e121) ?_
      rintro ⟨v_, M124⟩ ⟨hv_, h122, hi123⟩
      cases hv_
      exact s293_153 hI  hr12 hr52 h122 tx1 tx2 tx3 e
  · rw [if_neg c105] at e; cases e
theorem s293_179b {m f : Nat} {M0 M : xj_M} {G : xG_} (hI : xHI f)  {r12 : Int → Int → xG_ → Option (Int × xG_)} {o12 : Nat → Int → Int → xj_M → Option (Int × xj_M)} {r179 : Int → Int → Int → xG_ → Option (Int × xG_)} {o179 : Nat → Int → Int → Int → xj_M → Option (Int × xj_M)}  (hr12 : ∀ {M : xj_M} {G : xG_} {x1 : Int} {x2 : Int} {R : Int × xG_}, xRX m M0 M G → xin x1 → xin x2 → r12 x1 x2 G = some R → xok (o12 m x1 x2 M) (fun r => r.1 = R.1 ∧ xRX m M0 r.2 R.2 ∧ xin R.1)) (hr179 : ∀ {M : xj_M} {G : xG_} {x1 : Int} {x2 : Int} {x3 : Int} {R : Int × xG_}, xRX m M0 M G → xin x1 → xin x2 → xin x3 → r179 x1 x2 x3 G = some R → xok (o179 m x1 x2 x3 M) (fun r => r.1 = R.1 ∧ xRX m M0 r.2 R.2 ∧ xin R.1)) (h : xRX m M0 M G) {x1 : Int} {x2 : Int} {x3 : Int} {R : Int × xG_} (tx1 : xin x1) (tx2 : xin x2) (tx3 : xin x3) (e : g293_179b  r12 r179 f x1 x2 x3 G = some R) : xok (f293_179b  o12 o179 f m x1 x2 x3 M) (fun r => r.1 = R.1 ∧ xRX m M0 r.2 R.2 ∧ xin R.1) := by
  unfold g293_179b at e
  unfold f293_179b
  refine xok_eqb (h.gi (o := 0) (c := 15) (k := 47) (n := 107) (by decide) rfl (by decide) (by decide)) ?_
  refine xok_ite (fun c125 => ?_) (fun c125 => ?_)
  · rw [if_pos c125] at e
    exact hr12 h tx1 (xin_wr _) e
  · rw [if_neg c125] at e
    refine xok_eqb (h.pt (o := 0) (c := 15) (k := 45) (t := 113) (n := 107) (by decide) rfl (by decide) (by decide +kernel)) ?_
    by_cases c126 : 0 ≤ (x3) ∧ (x3) < 3400
    · skip
      rw [if_pos c126] at e
      refine xok_eqb (h.ai (o := 113) (n := 3400) (by decide) rfl (by decide) c126.1 c126.2) ?_
      refine xok_eqb (h.pt (o := 0) (c := 15) (k := 46) (t := 114) (n := 107) (by decide) rfl (by decide) (by decide +kernel)) ?_
      obtain ⟨R127, e128, e⟩ := xbnd e
      refine xok_eqb (h.is (o := 0) (c := 15) (by decide) rfl) ?_
      refine xok_call (sg264 hI  h (h.ain (o := 113) (n := 3400) (by decide) rfl (by decide) c126.1 c126.2) (show xoJ 114 from ⟨by decide, rfl⟩) (xin_wr _) tx2 e128) ?_
      intro M131 h129
      exact hr179 h129 tx1 tx2 (xin_wr _) e
    · rw [if_neg c126] at e; cases e
theorem s293_179 {m f : Nat} {M0 : xj_M} (hI : xHI f)  {r12 : Int → Int → xG_ → Option (Int × xG_)} {o12 : Nat → Int → Int → xj_M → Option (Int × xj_M)}  (hr12 : ∀ {M : xj_M} {G : xG_} {x1 : Int} {x2 : Int} {R : Int × xG_}, xRX m M0 M G → xin x1 → xin x2 → r12 x1 x2 G = some R → xok (o12 m x1 x2 M) (fun r => r.1 = R.1 ∧ xRX m M0 r.2 R.2 ∧ xin R.1)) : ∀ {n : Nat} {M : xj_M} {G : xG_} {x1 : Int} {x2 : Int} {x3 : Int} {R : Int × xG_}, xRX m M0 M G → xin x1 → xin x2 → xin x3 → g293_179  r12 f n x1 x2 x3 G = some R → xok (f293_179  o12 f n m x1 x2 x3 M) (fun r => r.1 = R.1 ∧ xRX m M0 r.2 R.2 ∧ xin R.1) := by
  intro n
  induction n with
  | zero => intros; rename_i e; cases e
  | succ n ih =>
    intros
    rename_i h i0 i1 i2 e
    exact s293_179b hI  hr12 ih h i0 i1 i2 e
theorem s293_159 {m f : Nat} {M0 M : xj_M} {G : xG_} (hI : xHI f)  {r12 : Int → Int → xG_ → Option (Int × xG_)} {o12 : Nat → Int → Int → xj_M → Option (Int × xj_M)}  (hr12 : ∀ {M : xj_M} {G : xG_} {x1 : Int} {x2 : Int} {R : Int × xG_}, xRX m M0 M G → xin x1 → xin x2 → r12 x1 x2 G = some R → xok (o12 m x1 x2 M) (fun r => r.1 = R.1 ∧ xRX m M0 r.2 R.2 ∧ xin R.1)) (h : xRX m M0 M G) {x1 : Int} {x2 : Int} {R : Int × xG_} (tx1 : xin x1) (tx2 : xin x2) (e : g293_159  r12 f x1 x2 G = some R) : xok (f293_159  o12 f m x1 x2 M) (fun r => r.1 = R.1 ∧ xRX m M0 r.2 R.2 ∧ xin R.1) := by
  unfold g293_159 at e
  unfold f293_159
  refine xok_eqb (h.gi (o := 0) (c := 15) (k := 43) (n := 107) (by decide) rfl (by decide) (by decide)) ?_
  refine xok_ite (fun c132 => ?_) (fun c132 => ?_)
  · rw [if_pos c132] at e
    refine xok_eqb (h.gi (o := 0) (c := 15) (k := 47) (n := 107) (by decide) rfl (by decide) (by decide)) ?_
    refine xok_ite (fun c133 => ?_) (fun c133 => ?_)
    · rw [if_pos c133] at e
      exact s293_179 hI  hr12 h tx1 tx2 (show xin (0) by decide) e
    · rw [if_neg c133] at e
      cases e
      exact ⟨_, rfl, rfl, h, (show xin (1) by decide)⟩
  · rw [if_neg c132] at e
    cases e
    exact ⟨_, rfl, rfl, h, (show xin (0) by decide)⟩
theorem s293_52b {m f : Nat} {M0 M : xj_M} {G : xG_} (hI : xHI f)  {r12 : Int → Int → xG_ → Option (Int × xG_)} {o12 : Nat → Int → Int → xj_M → Option (Int × xj_M)} {r52 : Int → Int → Int → xG_ → Option (Int × xG_)} {o52 : Nat → Int → Int → Int → xj_M → Option (Int × xj_M)}  (hr12 : ∀ {M : xj_M} {G : xG_} {x1 : Int} {x2 : Int} {R : Int × xG_}, xRX m M0 M G → xin x1 → xin x2 → r12 x1 x2 G = some R → xok (o12 m x1 x2 M) (fun r => r.1 = R.1 ∧ xRX m M0 r.2 R.2 ∧ xin R.1)) (hr52 : ∀ {M : xj_M} {G : xG_} {x1 : Int} {x2 : Int} {x3 : Int} {R : Int × xG_}, xRX m M0 M G → xin x1 → xin x2 → xin x3 → r52 x1 x2 x3 G = some R → xok (o52 m x1 x2 x3 M) (fun r => r.1 = R.1 ∧ xRX m M0 r.2 R.2 ∧ xin R.1)) (h : xRX m M0 M G) {x1 : Int} {x2 : Int} {x3 : Int} {R : Int × xG_} (tx1 : xin x1) (tx2 : xin x2) (tx3 : xin x3) (e : g293_52b  r12 r52 f x1 x2 x3 G = some R) : xok (f293_52b  o12 o52 f m x1 x2 x3 M) (fun r => r.1 = R.1 ∧ xRX m M0 r.2 R.2 ∧ xin R.1) := by
  unfold g293_52b at e
  unfold f293_52b
  refine xok_eqb (h.pt (o := 0) (c := 15) (k := 29) (t := 2) (n := 107) (by decide) rfl (by decide) (by decide +kernel)) ?_
  refine xok_eqb (h.gi (o := 2) (c := 14) (k := 9) (n := 38) (xoP_o (show xoP 2 by unfold xoP; omega)).1 (xoP_o (show xoP 2 by unfold xoP; omega)).2 (by decide) (by decide)) ?_
  refine xok_ite (fun c134 => ?_) (fun c134 => ?_)
  · rw [if_pos c134] at e
    exact s293_159 hI  hr12 h tx1 tx2 e
  · rw [if_neg c134] at e
    refine xok_eqb (h.gi (o := 0) (c := 15) (k := 43) (n := 107) (by decide) rfl (by decide) (by decide)) ?_
    refine xok_ite (fun c135 => ?_) (fun c135 => ?_)
    · rw [if_pos c135] at e
      exact s293_159 hI  hr12 h tx1 tx2 e
    · rw [if_neg c135] at e
      refine xok_eqb (h.pt (o := 0) (c := 15) (k := 29) (t := 2) (n := 107) (by decide) rfl (by decide) (by decide +kernel)) ?_
      refine xok_eqb (h.pt (o := 2) (c := 14) (k := 4) (t := 2 + 5) (n := 38) (xoP_o (show xoP 2 by unfold xoP; omega)).1 (xoP_o (show xoP 2 by unfold xoP; omega)).2 (by decide) (xoP_all (show xoP 2 by unfold xoP; omega) (Q := fun p => (p, 4, p + 5) ∈ xl_P) (by decide +kernel) (by decide +kernel) (by decide +kernel))) ?_
      refine xok_eqb (h.pt (o := 0) (c := 15) (k := 29) (t := 2) (n := 107) (by decide) rfl (by decide) (by decide +kernel)) ?_
      refine xok_eqb (h.pt (o := 2) (c := 14) (k := 15) (t := 2 + 13) (n := 38) (xoP_o (show xoP 2 by unfold xoP; omega)).1 (xoP_o (show xoP 2 by unfold xoP; omega)).2 (by decide) (xoP_all (show xoP 2 by unfold xoP; omega) (Q := fun p => (p, 15, p + 13) ∈ xl_P) (by decide +kernel) (by decide +kernel) (by decide +kernel))) ?_
      by_cases c136 : 0 ≤ (x3) ∧ (x3) < 25
      · skip
        rw [if_pos c136] at e
        refine xok_eqb (h.ai (o := 2 + 13) (n := 25) (xoP_all (show xoP 2 by unfold xoP; omega) (Q := fun p => p + 13 < 276) (by decide) (by decide) (by decide)) (xoP_all (show xoP 2 by unfold xoP; omega) (Q := fun p => xl_t (p + 13) = (2, 3, 25)) rfl rfl rfl) (by decide) c136.1 c136.2) ?_
        by_cases c137 : 0 ≤ (G (2 + 13) (x3).toNat) ∧ (G (2 + 13) (x3).toNat) < 16
        · skip
          rw [if_pos c137] at e
          refine xok_eqb (h.ai (o := 2 + 5) (n := 16) (xoP_all (show xoP 2 by unfold xoP; omega) (Q := fun p => p + 5 < 276) (by decide) (by decide) (by decide)) (xoP_all (show xoP 2 by unfold xoP; omega) (Q := fun p => xl_t (p + 5) = (2, 3, 16)) rfl rfl rfl) (by decide) c137.1 c137.2) ?_
          refine xok_ite (fun c138 => ?_) (fun c138 => ?_)
          · rw [if_pos c138] at e
            exact s293_153 hI  hr12 hr52 h tx1 tx2 tx3 e
          · rw [if_neg c138] at e
            refine xok_eqb (h.pt (o := 0) (c := 15) (k := 29) (t := 2) (n := 107) (by decide) rfl (by decide) (by decide +kernel)) ?_
            refine xok_eqb (h.pt (o := 2) (c := 14) (k := 18) (t := 2 + 16) (n := 38) (xoP_o (show xoP 2 by unfold xoP; omega)).1 (xoP_o (show xoP 2 by unfold xoP; omega)).2 (by decide) (xoP_all (show xoP 2 by unfold xoP; omega) (Q := fun p => (p, 18, p + 16) ∈ xl_P) (by decide +kernel) (by decide +kernel) (by decide +kernel))) ?_
            by_cases c139 : 0 ≤ (x3) ∧ (x3) < 25
            · skip
              rw [if_pos c139] at e
              refine xok_eqb (h.ai (o := 2 + 16) (n := 25) (xoP_all (show xoP 2 by unfold xoP; omega) (Q := fun p => p + 16 < 276) (by decide) (by decide) (by decide)) (xoP_all (show xoP 2 by unfold xoP; omega) (Q := fun p => xl_t (p + 16) = (2, 3, 25)) rfl rfl rfl) (by decide) c139.1 c139.2) ?_
              refine xok_ite (fun c140 => ?_) (fun c140 => ?_)
              · rw [if_pos c140] at e
                exact s293_111 hI  hr12 hr52 h tx1 tx2 tx3 e
              · rw [if_neg c140] at e
                refine xok_ite (fun c141 => ?_) (fun c141 => ?_)
                · rw [if_pos c141] at e
                  exact s293_111 hI  hr12 hr52 h tx1 tx2 tx3 e
                · rw [if_neg c141] at e
                  exact s293_153 hI  hr12 hr52 h tx1 tx2 tx3 e
            · rw [if_neg c139] at e; cases e
        · rw [if_neg c137] at e; cases e
      · rw [if_neg c136] at e; cases e
theorem s293_52 {m f : Nat} {M0 : xj_M} (hI : xHI f)  {r12 : Int → Int → xG_ → Option (Int × xG_)} {o12 : Nat → Int → Int → xj_M → Option (Int × xj_M)}  (hr12 : ∀ {M : xj_M} {G : xG_} {x1 : Int} {x2 : Int} {R : Int × xG_}, xRX m M0 M G → xin x1 → xin x2 → r12 x1 x2 G = some R → xok (o12 m x1 x2 M) (fun r => r.1 = R.1 ∧ xRX m M0 r.2 R.2 ∧ xin R.1)) : ∀ {n : Nat} {M : xj_M} {G : xG_} {x1 : Int} {x2 : Int} {x3 : Int} {R : Int × xG_}, xRX m M0 M G → xin x1 → xin x2 → xin x3 → g293_52  r12 f n x1 x2 x3 G = some R → xok (f293_52  o12 f n m x1 x2 x3 M) (fun r => r.1 = R.1 ∧ xRX m M0 r.2 R.2 ∧ xin R.1) := by
  intro n
  induction n with
  | zero => intros; rename_i e; cases e
  | succ n ih =>
    intros
    rename_i h i0 i1 i2 e
    exact s293_52b hI  hr12 ih h i0 i1 i2 e
theorem s293_26b {m f : Nat} {M0 M : xj_M} {G : xG_} (hI : xHI f)  {r12 : Int → Int → xG_ → Option (Int × xG_)} {o12 : Nat → Int → Int → xj_M → Option (Int × xj_M)} {r26 : Int → Int → Int → xG_ → Option (Int × xG_)} {o26 : Nat → Int → Int → Int → xj_M → Option (Int × xj_M)}  (hr12 : ∀ {M : xj_M} {G : xG_} {x1 : Int} {x2 : Int} {R : Int × xG_}, xRX m M0 M G → xin x1 → xin x2 → r12 x1 x2 G = some R → xok (o12 m x1 x2 M) (fun r => r.1 = R.1 ∧ xRX m M0 r.2 R.2 ∧ xin R.1)) (hr26 : ∀ {M : xj_M} {G : xG_} {x1 : Int} {x2 : Int} {x3 : Int} {R : Int × xG_}, xRX m M0 M G → xin x1 → xin x2 → xin x3 → r26 x1 x2 x3 G = some R → xok (o26 m x1 x2 x3 M) (fun r => r.1 = R.1 ∧ xRX m M0 r.2 R.2 ∧ xin R.1)) (h : xRX m M0 M G) {x1 : Int} {x2 : Int} {x3 : Int} {R : Int × xG_} (tx1 : xin x1) (tx2 : xin x2) (tx3 : xin x3) (e : g293_26b  r12 r26 f x1 x2 x3 G = some R) : xok (f293_26b  o12 o26 f m x1 x2 x3 M) (fun r => r.1 = R.1 ∧ xRX m M0 r.2 R.2 ∧ xin R.1) := by
  unfold g293_26b at e
  unfold f293_26b
  refine xok_eqb (h.pt (o := 0) (c := 15) (k := 29) (t := 2) (n := 107) (by decide) rfl (by decide) (by decide +kernel)) ?_
  refine xok_eqb (h.gi (o := 2) (c := 14) (k := 8) (n := 38) (xoP_o (show xoP 2 by unfold xoP; omega)).1 (xoP_o (show xoP 2 by unfold xoP; omega)).2 (by decide) (by decide)) ?_
  refine xok_ite (fun c142 => ?_) (fun c142 => ?_)
  · rw [if_pos c142] at e
    exact s293_52 hI  hr12 h tx1 tx2 (show xin (0) by decide) e
  · rw [if_neg c142] at e
    refine xok_eqb (h.pt (o := 0) (c := 15) (k := 48) (t := 115) (n := 107) (by decide) rfl (by decide) (by decide +kernel)) ?_
    by_cases c143 : 0 ≤ (x3) ∧ (x3) < 16
    · skip
      rw [if_pos c143] at e
      obtain ⟨M144, q145, h146⟩ := h.si (o := 115) (n := 16) (v := 0) (by decide) rfl c143.1 c143.2 (show xin (0) by decide)
      refine xok_eqb q145 ?_
      obtain ⟨G147, g1, e⟩ := xbnd e
      cases g1
      have h146_ : xRX m M0 M144 (xup2 G (115) (x3).toNat (0)) := h146
      generalize hGG147 : (xup2 G (115) (x3).toNat (0)) = G147 at e h146
      clear h146_ hGG147
      exact hr26 h146 tx1 tx2 (xin_wr _) e
    · rw [if_neg c143] at e; cases e
theorem s293_26 {m f : Nat} {M0 : xj_M} (hI : xHI f)  {r12 : Int → Int → xG_ → Option (Int × xG_)} {o12 : Nat → Int → Int → xj_M → Option (Int × xj_M)}  (hr12 : ∀ {M : xj_M} {G : xG_} {x1 : Int} {x2 : Int} {R : Int × xG_}, xRX m M0 M G → xin x1 → xin x2 → r12 x1 x2 G = some R → xok (o12 m x1 x2 M) (fun r => r.1 = R.1 ∧ xRX m M0 r.2 R.2 ∧ xin R.1)) : ∀ {n : Nat} {M : xj_M} {G : xG_} {x1 : Int} {x2 : Int} {x3 : Int} {R : Int × xG_}, xRX m M0 M G → xin x1 → xin x2 → xin x3 → g293_26  r12 f n x1 x2 x3 G = some R → xok (f293_26  o12 f n m x1 x2 x3 M) (fun r => r.1 = R.1 ∧ xRX m M0 r.2 R.2 ∧ xin R.1) := by
  intro n
  induction n with
  | zero => intros; rename_i e; cases e
  | succ n ih =>
    intros
    rename_i h i0 i1 i2 e
    exact s293_26b hI  hr12 ih h i0 i1 i2 e
theorem s293_12b {m f : Nat} {M0 M : xj_M} {G : xG_} (hI : xHI f)  {r12 : Int → Int → xG_ → Option (Int × xG_)} {o12 : Nat → Int → Int → xj_M → Option (Int × xj_M)}  (hr12 : ∀ {M : xj_M} {G : xG_} {x1 : Int} {x2 : Int} {R : Int × xG_}, xRX m M0 M G → xin x1 → xin x2 → r12 x1 x2 G = some R → xok (o12 m x1 x2 M) (fun r => r.1 = R.1 ∧ xRX m M0 r.2 R.2 ∧ xin R.1)) (h : xRX m M0 M G) {x1 : Int} {x2 : Int} {R : Int × xG_} (tx1 : xin x1) (tx2 : xin x2) (e : g293_12b  r12 f x1 x2 G = some R) : xok (f293_12b  o12 f m x1 x2 M) (fun r => r.1 = R.1 ∧ xRX m M0 r.2 R.2 ∧ xin R.1) := by
  unfold g293_12b at e
  unfold f293_12b
  refine xok_eqb (h.gi (o := 0) (c := 15) (k := 43) (n := 107) (by decide) rfl (by decide) (by decide)) ?_
  refine xok_ite (fun c148 => ?_) (fun c148 => ?_)
  · rw [if_pos c148] at e
    cases e
    exact ⟨_, rfl, rfl, h, (show xin (0) by decide)⟩
  · rw [if_neg c148] at e
    obtain ⟨M149, q150, h151⟩ := h.pi (v := 0) (o := 0) (c := 15) (k := 47) (n := 107) (by decide) rfl (by decide) (by decide) (show xin (0) by decide)
    refine xok_eqb q150 ?_
    obtain ⟨G152, g1, e⟩ := xbnd e
    cases g1
    have h151_ : xRX m M0 M149 (xup2 G (0) 47 (0)) := h151
    generalize hGG152 : (xup2 G (0) 47 (0)) = G152 at e h151
    clear h151_ hGG152
    exact s293_26 hI  hr12 h151 tx1 tx2 (show xin (0) by decide) e
theorem s293_12 {m f : Nat} {M0 : xj_M} (hI : xHI f)     : ∀ {n : Nat} {M : xj_M} {G : xG_} {x1 : Int} {x2 : Int} {R : Int × xG_}, xRX m M0 M G → xin x1 → xin x2 → g293_12   f n x1 x2 G = some R → xok (f293_12   f n m x1 x2 M) (fun r => r.1 = R.1 ∧ xRX m M0 r.2 R.2 ∧ xin R.1) := by
  intro n
  induction n with
  | zero => intros; rename_i e; cases e
  | succ n ih =>
    intros
    rename_i h i0 i1 e
    exact s293_12b hI   ih h i0 i1 e
theorem sg293 {m f : Nat} {M0 M : xj_M} {G : xG_} (hI : xHI f)   (h : xRX m M0 M G) {a1 : Int} {R : Int × xG_} (ta1 : xin a1) (e : g293  f a1 G = some R) : xok (f293  f m a1 M) (fun r => r.1 = R.1 ∧ xRX m M0 r.2 R.2 ∧ xin R.1) := by
  unfold g293 at e
  unfold f293
  obtain ⟨M153, q154, h155⟩ := h.pb (v := 0) (o := 0) (c := 15) (k := 43) (n := 107) (by decide) rfl (by decide) (by decide) (by decide)
  refine xok_eqb q154 ?_
  obtain ⟨G156, g1, e⟩ := xbnd e
  cases g1
  have h155_ : xRX m M0 M153 (xup2 G (0) 43 (0)) := h155
  generalize hGG156 : (xup2 G (0) 43 (0)) = G156 at e h155
  clear h155_ hGG156
  obtain ⟨M157, q158, h159⟩ := h155.pi (v := -1) (o := 0) (c := 15) (k := 40) (n := 107) (by decide) rfl (by decide) (by decide) (show xin (-1) by decide)
  refine xok_eqb q158 ?_
  obtain ⟨G160, g1, e⟩ := xbnd e
  cases g1
  have h159_ : xRX m M0 M157 (xup2 G156 (0) 40 (-1)) := h159
  generalize hGG160 : (xup2 G156 (0) 40 (-1)) = G160 at e h159
  clear h159_ hGG160
  exact s293_12 hI   h159 ta1 (show xin (1) by decide) e
-- ChangeHouseModel.formula
theorem s334_5b {m f : Nat} {M0 M : xj_M} {G : xG_} (hI : xHI f) {q334 : xG_ → Option (Int × xG_)} {p334 : Nat → xj_M → Option (Int × xj_M)} {r5 : Int → xG_ → Option (Int × xG_)} {o5 : Nat → Int → xj_M → Option (Int × xj_M)} (hq334 : ∀ {M : xj_M} {G : xG_}  {R : Int × xG_}, xRX m M0 M G → q334  G = some R → xok (p334 m M) (fun r => r.1 = R.1 ∧ xRX m M0 r.2 R.2 ∧ xin R.1)) (hr5 : ∀ {M : xj_M} {G : xG_} {x1 : Int} {R : Int × xG_}, xRX m M0 M G → xin x1 → r5 x1 G = some R → xok (o5 m x1 M) (fun r => r.1 = R.1 ∧ xRX m M0 r.2 R.2 ∧ xin R.1)) (h : xRX m M0 M G) {x1 : Int} {R : Int × xG_} (tx1 : xin x1) (e : g334_5b q334 r5 f x1 G = some R) : xok (f334_5b p334 o5 f m x1 M) (fun r => r.1 = R.1 ∧ xRX m M0 r.2 R.2 ∧ xin R.1) := by
  unfold g334_5b at e
  unfold f334_5b
  obtain ⟨R101, e102, e⟩ := xbnd e
  refine xok_eqb (h.is (o := 0) (c := 15) (by decide) rfl) ?_
  refine xok_call (sg242 hI  h (show xin (0) by decide) e102) ?_
  rintro ⟨v_, M105⟩ ⟨hv_, h103, hi104⟩
  cases hv_
  refine xok_ite (fun c106 => ?_) (fun c106 => ?_)
  · rw [if_pos c106] at e
    cases e
    exact ⟨_, rfl, rfl, h103, tx1⟩
  · rw [if_neg c106] at e
    refine xok_eqb (h103.gi (o := 0) (c := 15) (k := 3) (n := 107) (by decide) rfl (by decide) (by decide)) ?_
    obtain ⟨R107, e108, e⟩ := xbnd e
    refine xok_eqb (h103.is (o := 0) (c := 15) (by decide) rfl) ?_
    refine xok_call (sg213 hI  h103  e108) ?_
    intro M111 h109
    obtain ⟨R112, e113, e⟩ := xbnd e
    refine xok_eqb (h109.is (o := 0) (c := 15) (by decide) rfl) ?_
    refine xok_call (sg335 hI hq334 h109  e113) ?_
    rintro ⟨v_, M116⟩ ⟨hv_, h114, hi115⟩
    cases hv_
    obtain ⟨R117, e118, e⟩ := xbnd e
    refine xok_eqb (h114.is (o := 0) (c := 15) (by decide) rfl) ?_
    refine xok_call (sg331 hI  h114 (show xin (3) by decide) tx1 hi115 (h103.gin (o := 0) (c := 15) (k := 3) (n := 107) (by decide) rfl (by decide) (by decide)) (show xiN (0) by decide) e118) ?_
    rintro ⟨v_, M121⟩ ⟨hv_, h119, hi120⟩
    cases hv_
    exact hr5 h119 hi120 e
theorem s334_5 {m f : Nat} {M0 : xj_M} (hI : xHI f) {q334 : xG_ → Option (Int × xG_)} {p334 : Nat → xj_M → Option (Int × xj_M)}  (hq334 : ∀ {M : xj_M} {G : xG_}  {R : Int × xG_}, xRX m M0 M G → q334  G = some R → xok (p334 m M) (fun r => r.1 = R.1 ∧ xRX m M0 r.2 R.2 ∧ xin R.1))  : ∀ {n : Nat} {M : xj_M} {G : xG_} {x1 : Int} {R : Int × xG_}, xRX m M0 M G → xin x1 → g334_5 q334  f n x1 G = some R → xok (f334_5 p334  f n m x1 M) (fun r => r.1 = R.1 ∧ xRX m M0 r.2 R.2 ∧ xin R.1) := by
  intro n
  induction n with
  | zero => intros; rename_i e; cases e
  | succ n ih =>
    intros
    rename_i h i0 e
    exact s334_5b hI hq334  ih h i0 e
theorem s334b {m f : Nat} {M0 M : xj_M} {G : xG_} (hI : xHI f) {q334 : xG_ → Option (Int × xG_)} {p334 : Nat → xj_M → Option (Int × xj_M)} (hq334 : ∀ {M : xj_M} {G : xG_}  {R : Int × xG_}, xRX m M0 M G → q334  G = some R → xok (p334 m M) (fun r => r.1 = R.1 ∧ xRX m M0 r.2 R.2 ∧ xin R.1)) (h : xRX m M0 M G)  {R : Int × xG_}  (e : g334b q334 f  G = some R) : xok (f334b p334 f m M) (fun r => r.1 = R.1 ∧ xRX m M0 r.2 R.2 ∧ xin R.1) := by
  unfold g334b at e
  unfold f334b
  obtain ⟨R122, e123, e⟩ := xbnd e
  refine xok_eqb (h.is (o := 0) (c := 15) (by decide) rfl) ?_
  refine xok_call (sg335 hI hq334 h  e123) ?_
  rintro ⟨v_, M126⟩ ⟨hv_, h124, hi125⟩
  cases hv_
  exact s334_5 hI hq334  h124 hi125 e
theorem s334r {m f : Nat} {M0 : xj_M} (hI : xHI f) : ∀ {n : Nat} {M : xj_M} {G : xG_}  {R : Int × xG_}, xRX m M0 M G → g334r f n  G = some R → xok (f334r f n m M) (fun r => r.1 = R.1 ∧ xRX m M0 r.2 R.2 ∧ xin R.1) := by
  intro n
  induction n with
  | zero => intros; rename_i e; cases e
  | succ n ih =>
    intros
    rename_i h  e
    exact s334b hI ih h  e
theorem sg334 {m f : Nat} {M0 M : xj_M} {G : xG_} (hI : xHI f) (h : xRX m M0 M G)  {R : Int × xG_}  (e : g334 f  G = some R) : xok (f334 f m M) (fun r => r.1 = R.1 ∧ xRX m M0 r.2 R.2 ∧ xin R.1) := s334r hI h  e
-- ChangeHouseModel.asked
theorem s369_85 {m f : Nat} {M0 M : xj_M} {G : xG_} (hI : xHI f)  {r7 : Int → xG_ → Option (Int × xG_)} {o7 : Nat → Int → xj_M → Option (Int × xj_M)}  (hr7 : ∀ {M : xj_M} {G : xG_} {x2 : Int} {R : Int × xG_}, xRX m M0 M G → xin x2 → r7 x2 G = some R → xok (o7 m x2 M) (fun r => r.1 = R.1 ∧ xRX m M0 r.2 R.2 ∧ xin R.1)) (h : xRX m M0 M G) {x2 : Int} {R : Int × xG_} (tx2 : xin x2) (e : g369_85  r7 f x2 G = some R) : xok (f369_85  o7 f m x2 M) (fun r => r.1 = R.1 ∧ xRX m M0 r.2 R.2 ∧ xin R.1) := by
  unfold g369_85 at e
  unfold f369_85
  exact hr7 h (xin_wr _) e
theorem s369_209b {m f : Nat} {M0 M : xj_M} {G : xG_} (hI : xHI f)  {r209 : Int → xG_ → Option (Int × xG_)} {o209 : Nat → Int → xj_M → Option (Int × xj_M)}  (hr209 : ∀ {M : xj_M} {G : xG_} {x2 : Int} {R : Int × xG_}, xRX m M0 M G → xin x2 → r209 x2 G = some R → xok (o209 m x2 M) (fun r => r.1 = R.1 ∧ xRX m M0 r.2 R.2 ∧ xin R.1)) (h : xRX m M0 M G) {x2 : Int} {R : Int × xG_} (tx2 : xin x2) (e : g369_209b  r209 f x2 G = some R) : xok (f369_209b  o209 f m x2 M) (fun r => r.1 = R.1 ∧ xRX m M0 r.2 R.2 ∧ xin R.1) := by
  unfold g369_209b at e
  unfold f369_209b
  refine xok_eqb (h.gi (o := 0) (c := 15) (k := 52) (n := 107) (by decide) rfl (by decide) (by decide)) ?_
  refine xok_ite (fun c101 => ?_) (fun c101 => ?_)
  · rw [if_pos c101] at e
    refine xok_eqb (h.gi (o := 0) (c := 15) (k := 52) (n := 107) (by decide) rfl (by decide) (by decide)) ?_
    cases e
    exact ⟨_, rfl, rfl, h, (h.gin (o := 0) (c := 15) (k := 52) (n := 107) (by decide) rfl (by decide) (by decide))⟩
  · rw [if_neg c101] at e
    refine xok_eqb (h.pt (o := 0) (c := 15) (k := 104) (t := 275) (n := 107) (by decide) rfl (by decide) (by decide +kernel)) ?_
    refine xok_eqb (h.pt (o := 0) (c := 15) (k := 49) (t := 116) (n := 107) (by decide) rfl (by decide) (by decide +kernel)) ?_
    by_cases c102 : 0 ≤ (x2) ∧ (x2) < 4008
    · skip
      rw [if_pos c102] at e
      refine xok_eqb (h.al (o := 116) (n := 4008) (by decide) rfl  c102.1 c102.2) ?_
      by_cases c103 : 0 ≤ (x2) ∧ (x2) < 4000
      · skip
        rw [if_pos c103] at e
        obtain ⟨M104, q105, h106⟩ := h.sl (o := 275) (n := 4000) (v := G (116) (x2).toNat) (by decide) rfl c103.1 c103.2 (h.aln (o := 116) (n := 4008) (by decide) rfl  c102.1 c102.2)
        refine xok_eqb q105 ?_
        obtain ⟨G107, g1, e⟩ := xbnd e
        cases g1
        have h106_ : xRX m M0 M104 (xup2 G (275) (x2).toNat (G (116) (x2).toNat)) := h106
        generalize hGG107 : (xup2 G (275) (x2).toNat (G (116) (x2).toNat)) = G107 at e h106
        clear h106_ hGG107
        exact hr209 h106 (xin_wr _) e
      · rw [if_neg c103] at e; cases e
    · rw [if_neg c102] at e; cases e
theorem s369_209 {m f : Nat} {M0 : xj_M} (hI : xHI f)     : ∀ {n : Nat} {M : xj_M} {G : xG_} {x2 : Int} {R : Int × xG_}, xRX m M0 M G → xin x2 → g369_209   f n x2 G = some R → xok (f369_209   f n m x2 M) (fun r => r.1 = R.1 ∧ xRX m M0 r.2 R.2 ∧ xin R.1) := by
  intro n
  induction n with
  | zero => intros; rename_i e; cases e
  | succ n ih =>
    intros
    rename_i h i0 e
    exact s369_209b hI   ih h i0 e
theorem s369_7b {m f : Nat} {M0 M : xj_M} {G : xG_} (hI : xHI f)  {r7 : Int → xG_ → Option (Int × xG_)} {o7 : Nat → Int → xj_M → Option (Int × xj_M)}  (hr7 : ∀ {M : xj_M} {G : xG_} {x2 : Int} {R : Int × xG_}, xRX m M0 M G → xin x2 → r7 x2 G = some R → xok (o7 m x2 M) (fun r => r.1 = R.1 ∧ xRX m M0 r.2 R.2 ∧ xin R.1)) (h : xRX m M0 M G) {x2 : Int} {R : Int × xG_} (tx2 : xin x2) (e : g369_7b  r7 f x2 G = some R) : xok (f369_7b  o7 f m x2 M) (fun r => r.1 = R.1 ∧ xRX m M0 r.2 R.2 ∧ xin R.1) := by
  unfold g369_7b at e
  unfold f369_7b
  refine xok_eqb (h.pt (o := 0) (c := 15) (k := 29) (t := 2) (n := 107) (by decide) rfl (by decide) (by decide +kernel)) ?_
  refine xok_eqb (h.gi (o := 2) (c := 14) (k := 14) (n := 38) (xoP_o (show xoP 2 by unfold xoP; omega)).1 (xoP_o (show xoP 2 by unfold xoP; omega)).2 (by decide) (by decide)) ?_
  refine xok_ite (fun c108 => ?_) (fun c108 => ?_)
  · rw [if_pos c108] at e
    refine xok_eqb (h.pt (o := 0) (c := 15) (k := 29) (t := 2) (n := 107) (by decide) rfl (by decide) (by decide +kernel)) ?_
    obtain ⟨R109, e110, e⟩ := xbnd e
    refine xok_eqb (h.is (o := 0) (c := 15) (by decide) rfl) ?_
    refine xok_call (sg258 hI  h (show xoP 2 by unfold xoP; omega) (show xin (24) by decide) e110) ?_
    intro M113 h111
    refine xok_eqb (h111.gi (o := 0) (c := 15) (k := 26) (n := 107) (by decide) rfl (by decide) (by decide)) ?_
    refine xok_ite (fun c114 => ?_) (fun c114 => ?_)
    · rw [if_pos c114] at e
      obtain ⟨M115, q116, h117⟩ := h111.pi (v := 24) (o := 0) (c := 15) (k := 39) (n := 107) (by decide) rfl (by decide) (by decide) (show xin (24) by decide)
      refine xok_eqb q116 ?_
      obtain ⟨G118, g1, e⟩ := xbnd e
      cases g1
      have h117_ : xRX m M0 M115 (xup2 R109 (0) 39 (24)) := h117
      generalize hGG118 : (xup2 R109 (0) 39 (24)) = G118 at e h117
      clear h117_ hGG118
      obtain ⟨M119, q120, h121⟩ := h117.pi (v := 3) (o := 0) (c := 15) (k := 38) (n := 107) (by decide) rfl (by decide) (by decide) (show xin (3) by decide)
      refine xok_eqb q120 ?_
      obtain ⟨G122, g1, e⟩ := xbnd e
      cases g1
      have h121_ : xRX m M0 M119 (xup2 G118 (0) 38 (3)) := h121
      generalize hGG122 : (xup2 G118 (0) 38 (3)) = G122 at e h121
      clear h121_ hGG122
      obtain ⟨M123, q124, h125⟩ := h121.pi (v := -1) (o := 0) (c := 15) (k := 40) (n := 107) (by decide) rfl (by decide) (by decide) (show xin (-1) by decide)
      refine xok_eqb q124 ?_
      obtain ⟨G126, g1, e⟩ := xbnd e
      cases g1
      have h125_ : xRX m M0 M123 (xup2 G122 (0) 40 (-1)) := h125
      generalize hGG126 : (xup2 G122 (0) 40 (-1)) = G126 at e h125
      clear h125_ hGG126
      obtain ⟨M127, q128, h129⟩ := h125.pi (v := 0) (o := 0) (c := 15) (k := 37) (n := 107) (by decide) rfl (by decide) (by decide) (show xin (0) by decide)
      refine xok_eqb q128 ?_
      obtain ⟨G130, g1, e⟩ := xbnd e
      cases g1
      have h129_ : xRX m M0 M127 (xup2 G126 (0) 37 (0)) := h129
      generalize hGG130 : (xup2 G126 (0) 37 (0)) = G130 at e h129
      clear h129_ hGG130
      obtain ⟨M131, q132, h133⟩ := h129.pb (v := 0) (o := 0) (c := 15) (k := 43) (n := 107) (by decide) rfl (by decide) (by decide) (by decide)
      refine xok_eqb q132 ?_
      obtain ⟨G134, g1, e⟩ := xbnd e
      cases g1
      have h133_ : xRX m M0 M131 (xup2 G130 (0) 43 (0)) := h133
      generalize hGG134 : (xup2 G130 (0) 43 (0)) = G134 at e h133
      clear h133_ hGG134
      obtain ⟨M135, q136, h137⟩ := h133.pi (v := 0) (o := 0) (c := 15) (k := 52) (n := 107) (by decide) rfl (by decide) (by decide) (show xin (0) by decide)
      refine xok_eqb q136 ?_
      obtain ⟨G138, g1, e⟩ := xbnd e
      cases g1
      have h137_ : xRX m M0 M135 (xup2 G134 (0) 52 (0)) := h137
      generalize hGG138 : (xup2 G134 (0) 52 (0)) = G138 at e h137
      clear h137_ hGG138
      refine xok_eqb (h137.pt (o := 0) (c := 15) (k := 29) (t := 2) (n := 107) (by decide) rfl (by decide) (by decide +kernel)) ?_
      refine xok_eqb (h137.pt (o := 2) (c := 14) (k := 22) (t := 2 + 20) (n := 38) (xoP_o (show xoP 2 by unfold xoP; omega)).1 (xoP_o (show xoP 2 by unfold xoP; omega)).2 (by decide) (xoP_all (show xoP 2 by unfold xoP; omega) (Q := fun p => (p, 22, p + 20) ∈ xl_P) (by decide +kernel) (by decide +kernel) (by decide +kernel))) ?_
      by_cases c139 : 0 ≤ (24 : Int) ∧ (24 : Int) < 25
      · skip
        rw [if_pos c139] at e
        refine xok_eqb (h137.ai (o := 2 + 20) (n := 25) (xoP_all (show xoP 2 by unfold xoP; omega) (Q := fun p => p + 20 < 276) (by decide) (by decide) (by decide)) (xoP_all (show xoP 2 by unfold xoP; omega) (Q := fun p => xl_t (p + 20) = (2, 3, 25)) rfl rfl rfl) (by decide) c139.1 c139.2) ?_
        obtain ⟨M140, q141, h142⟩ := h137.pi (v := G138 (2 + 20) (24 : Int).toNat) (o := 0) (c := 15) (k := 53) (n := 107) (by decide) rfl (by decide) (by decide) (h137.ain (o := 2 + 20) (n := 25) (xoP_all (show xoP 2 by unfold xoP; omega) (Q := fun p => p + 20 < 276) (by decide) (by decide) (by decide)) (xoP_all (show xoP 2 by unfold xoP; omega) (Q := fun p => xl_t (p + 20) = (2, 3, 25)) rfl rfl rfl) (by decide) c139.1 c139.2)
        refine xok_eqb q141 ?_
        obtain ⟨G143, g1, e⟩ := xbnd e
        cases g1
        have h142_ : xRX m M0 M140 (xup2 G138 (0) 53 (G138 (2 + 20) (24 : Int).toNat)) := h142
        generalize hGG143 : (xup2 G138 (0) 53 (G138 (2 + 20) (24 : Int).toNat)) = G143 at e h142
        clear h142_ hGG143
        obtain ⟨R144, e145, e⟩ := xbnd e
        refine xok_eqb (h142.is (o := 0) (c := 15) (by decide) rfl) ?_
        refine xok_call (sg275 hI  h142 (show xin (0) by decide) e145) ?_
        intro M148 h146
        refine xok_eqb (h146.gi (o := 0) (c := 15) (k := 43) (n := 107) (by decide) rfl (by decide) (by decide)) ?_
        refine xok_ite (fun c149 => ?_) (fun c149 => ?_)
        · rw [if_pos c149] at e
          refine xok_eqb (h146.gi (o := 0) (c := 15) (k := 52) (n := 107) (by decide) rfl (by decide) (by decide)) ?_
          refine xok_ite (fun c150 => ?_) (fun c150 => ?_)
          · rw [if_pos c150] at e
            refine xok_eqb (h146.gi (o := 0) (c := 15) (k := 52) (n := 107) (by decide) rfl (by decide) (by decide)) ?_
            obtain ⟨M151, q152, h153⟩ := h146.pi (v := R144 (0) 52) (o := 0) (c := 15) (k := 105) (n := 107) (by decide) rfl (by decide) (by decide) (h146.gin (o := 0) (c := 15) (k := 52) (n := 107) (by decide) rfl (by decide) (by decide))
            refine xok_eqb q152 ?_
            obtain ⟨G154, g1, e⟩ := xbnd e
            cases g1
            have h153_ : xRX m M0 M151 (xup2 R144 (0) 105 (R144 (0) 52)) := h153
            generalize hGG154 : (xup2 R144 (0) 105 (R144 (0) 52)) = G154 at e h153
            clear h153_ hGG154
            refine xok_eqb (h153.gi (o := 0) (c := 15) (k := 53) (n := 107) (by decide) rfl (by decide) (by decide)) ?_
            obtain ⟨M155, q156, h157⟩ := h153.pi (v := G154 (0) 53) (o := 0) (c := 15) (k := 106) (n := 107) (by decide) rfl (by decide) (by decide) (h153.gin (o := 0) (c := 15) (k := 53) (n := 107) (by decide) rfl (by decide) (by decide))
            refine xok_eqb q156 ?_
            obtain ⟨G158, g1, e⟩ := xbnd e
            cases g1
            have h157_ : xRX m M0 M155 (xup2 G154 (0) 106 (G154 (0) 53)) := h157
            generalize hGG158 : (xup2 G154 (0) 106 (G154 (0) 53)) = G158 at e h157
            clear h157_ hGG158
            exact s369_209 hI   h157 (show xin (0) by decide) e
          · rw [if_neg c150] at e
            cases e
            exact ⟨_, rfl, rfl, h146, (show xin (0) by decide)⟩
        · rw [if_neg c149] at e
          cases e
          exact ⟨_, rfl, rfl, h146, (show xin (-6000) by decide)⟩
      · rw [if_neg c139] at e; cases e
    · rw [if_neg c114] at e
      refine xok_eqb (h111.gi (o := 0) (c := 15) (k := 26) (n := 107) (by decide) rfl (by decide) (by decide)) ?_
      refine xok_eqb (h111.gi (o := 0) (c := 15) (k := 27) (n := 107) (by decide) rfl (by decide) (by decide)) ?_
      obtain ⟨R159, e160, e⟩ := xbnd e
      refine xok_eqb (h111.is (o := 0) (c := 15) (by decide) rfl) ?_
      refine xok_call (sg362 hI  h111 (h111.gin (o := 0) (c := 15) (k := 26) (n := 107) (by decide) rfl (by decide) (by decide)) (h111.gin (o := 0) (c := 15) (k := 27) (n := 107) (by decide) rfl (by decide) (by decide)) e160) ?_
      rintro ⟨v_, M163⟩ ⟨hv_, h161, hi162⟩
      cases hv_
      cases e
      exact ⟨_, rfl, rfl, h161, hi162⟩
  · rw [if_neg c108] at e
    refine xok_eqb (h.pt (o := 0) (c := 15) (k := 29) (t := 2) (n := 107) (by decide) rfl (by decide) (by decide +kernel)) ?_
    refine xok_eqb (h.pt (o := 2) (c := 14) (k := 10) (t := 2 + 9) (n := 38) (xoP_o (show xoP 2 by unfold xoP; omega)).1 (xoP_o (show xoP 2 by unfold xoP; omega)).2 (by decide) (xoP_all (show xoP 2 by unfold xoP; omega) (Q := fun p => (p, 10, p + 9) ∈ xl_P) (by decide +kernel) (by decide +kernel) (by decide +kernel))) ?_
    by_cases c164 : 0 ≤ (x2) ∧ (x2) < 420
    · skip
      rw [if_pos c164] at e
      refine xok_eqb (h.ai (o := 2 + 9) (n := 420) (xoP_all (show xoP 2 by unfold xoP; omega) (Q := fun p => p + 9 < 276) (by decide) (by decide) (by decide)) (xoP_all (show xoP 2 by unfold xoP; omega) (Q := fun p => xl_t (p + 9) = (2, 3, 420)) rfl rfl rfl) (by decide) c164.1 c164.2) ?_
      refine xok_ite (fun c165 => ?_) (fun c165 => ?_)
      · rw [if_pos c165] at e
        refine xok_eqb (h.pt (o := 0) (c := 15) (k := 29) (t := 2) (n := 107) (by decide) rfl (by decide) (by decide +kernel)) ?_
        refine xok_eqb (h.pt (o := 2) (c := 14) (k := 1) (t := 2 + 2) (n := 38) (xoP_o (show xoP 2 by unfold xoP; omega)).1 (xoP_o (show xoP 2 by unfold xoP; omega)).2 (by decide) (xoP_all (show xoP 2 by unfold xoP; omega) (Q := fun p => (p, 1, p + 2) ∈ xl_P) (by decide +kernel) (by decide +kernel) (by decide +kernel))) ?_
        by_cases c166 : 0 ≤ (G (2 + 9) (x2).toNat) ∧ (G (2 + 9) (x2).toNat) < 16
        · skip
          rw [if_pos c166] at e
          refine xok_eqb (h.ai (o := 2 + 2) (n := 16) (xoP_all (show xoP 2 by unfold xoP; omega) (Q := fun p => p + 2 < 276) (by decide) (by decide) (by decide)) (xoP_all (show xoP 2 by unfold xoP; omega) (Q := fun p => xl_t (p + 2) = (2, 3, 16)) rfl rfl rfl) (by decide) c166.1 c166.2) ?_
          refine xok_eqb (h.pt (o := 0) (c := 15) (k := 29) (t := 2) (n := 107) (by decide) rfl (by decide) (by decide +kernel)) ?_
          refine xok_eqb (h.pt (o := 2) (c := 14) (k := 12) (t := 2 + 11) (n := 38) (xoP_o (show xoP 2 by unfold xoP; omega)).1 (xoP_o (show xoP 2 by unfold xoP; omega)).2 (by decide) (xoP_all (show xoP 2 by unfold xoP; omega) (Q := fun p => (p, 12, p + 11) ∈ xl_P) (by decide +kernel) (by decide +kernel) (by decide +kernel))) ?_
          by_cases c167 : 0 ≤ (x2) ∧ (x2) < 420
          · skip
            rw [if_pos c167] at e
            refine xok_eqb (h.ai (o := 2 + 11) (n := 420) (xoP_all (show xoP 2 by unfold xoP; omega) (Q := fun p => p + 11 < 276) (by decide) (by decide) (by decide)) (xoP_all (show xoP 2 by unfold xoP; omega) (Q := fun p => xl_t (p + 11) = (2, 3, 420)) rfl rfl rfl) (by decide) c167.1 c167.2) ?_
            refine xok_ite (fun c168 => ?_) (fun c168 => ?_)
            · rw [if_pos c168] at e
              exact s369_85 hI  hr7 h tx2 e
            · rw [if_neg c168] at e
              refine xok_eqb (h.pt (o := 0) (c := 15) (k := 29) (t := 2) (n := 107) (by decide) rfl (by decide) (by decide +kernel)) ?_
              refine xok_eqb (h.pt (o := 2) (c := 14) (k := 11) (t := 2 + 10) (n := 38) (xoP_o (show xoP 2 by unfold xoP; omega)).1 (xoP_o (show xoP 2 by unfold xoP; omega)).2 (by decide) (xoP_all (show xoP 2 by unfold xoP; omega) (Q := fun p => (p, 11, p + 10) ∈ xl_P) (by decide +kernel) (by decide +kernel) (by decide +kernel))) ?_
              by_cases c169 : 0 ≤ (x2) ∧ (x2) < 420
              · skip
                rw [if_pos c169] at e
                refine xok_eqb (h.ai (o := 2 + 10) (n := 420) (xoP_all (show xoP 2 by unfold xoP; omega) (Q := fun p => p + 10 < 276) (by decide) (by decide) (by decide)) (xoP_all (show xoP 2 by unfold xoP; omega) (Q := fun p => xl_t (p + 10) = (2, 3, 420)) rfl rfl rfl) (by decide) c169.1 c169.2) ?_
                obtain ⟨R170, e171, e⟩ := xbnd e
                refine xok_eqb (h.is (o := 0) (c := 15) (by decide) rfl) ?_
                refine xok_call (sg251 hI  h (show xin (3) by decide) (h.ain (o := 2 + 10) (n := 420) (xoP_all (show xoP 2 by unfold xoP; omega) (Q := fun p => p + 10 < 276) (by decide) (by decide) (by decide)) (xoP_all (show xoP 2 by unfold xoP; omega) (Q := fun p => xl_t (p + 10) = (2, 3, 420)) rfl rfl rfl) (by decide) c169.1 c169.2) e171) ?_
                intro M174 h172
                exact s369_85 hI  hr7 h172 tx2 e
              · rw [if_neg c169] at e; cases e
          · rw [if_neg c167] at e; cases e
        · rw [if_neg c166] at e; cases e
      · rw [if_neg c165] at e
        refine xok_eqb (h.pt (o := 0) (c := 15) (k := 29) (t := 2) (n := 107) (by decide) rfl (by decide) (by decide +kernel)) ?_
        refine xok_eqb (h.pt (o := 2) (c := 14) (k := 11) (t := 2 + 10) (n := 38) (xoP_o (show xoP 2 by unfold xoP; omega)).1 (xoP_o (show xoP 2 by unfold xoP; omega)).2 (by decide) (xoP_all (show xoP 2 by unfold xoP; omega) (Q := fun p => (p, 11, p + 10) ∈ xl_P) (by decide +kernel) (by decide +kernel) (by decide +kernel))) ?_
        by_cases c175 : 0 ≤ (x2) ∧ (x2) < 420
        · skip
          rw [if_pos c175] at e
          refine xok_eqb (h.ai (o := 2 + 10) (n := 420) (xoP_all (show xoP 2 by unfold xoP; omega) (Q := fun p => p + 10 < 276) (by decide) (by decide) (by decide)) (xoP_all (show xoP 2 by unfold xoP; omega) (Q := fun p => xl_t (p + 10) = (2, 3, 420)) rfl rfl rfl) (by decide) c175.1 c175.2) ?_
          obtain ⟨R176, e177, e⟩ := xbnd e
          refine xok_eqb (h.is (o := 0) (c := 15) (by decide) rfl) ?_
          refine xok_call (sg251 hI  h (show xin (2) by decide) (h.ain (o := 2 + 10) (n := 420) (xoP_all (show xoP 2 by unfold xoP; omega) (Q := fun p => p + 10 < 276) (by decide) (by decide) (by decide)) (xoP_all (show xoP 2 by unfold xoP; omega) (Q := fun p => xl_t (p + 10) = (2, 3, 420)) rfl rfl rfl) (by decide) c175.1 c175.2) e177) ?_
          intro M180 h178
          exact s369_85 hI  hr7 h178 tx2 e
        · rw [if_neg c175] at e; cases e
    · rw [if_neg c164] at e; cases e
theorem s369_7 {m f : Nat} {M0 : xj_M} (hI : xHI f)     : ∀ {n : Nat} {M : xj_M} {G : xG_} {x2 : Int} {R : Int × xG_}, xRX m M0 M G → xin x2 → g369_7   f n x2 G = some R → xok (f369_7   f n m x2 M) (fun r => r.1 = R.1 ∧ xRX m M0 r.2 R.2 ∧ xin R.1) := by
  intro n
  induction n with
  | zero => intros; rename_i e; cases e
  | succ n ih =>
    intros
    rename_i h i0 e
    exact s369_7b hI   ih h i0 e
theorem sg369 {m f : Nat} {M0 M : xj_M} {G : xG_} (hI : xHI f)   (h : xRX m M0 M G) {a1 : Int} {R : Int × xG_} (ta1 : xin a1) (e : g369  f a1 G = some R) : xok (f369  f m a1 M) (fun r => r.1 = R.1 ∧ xRX m M0 r.2 R.2 ∧ xin R.1) := by
  unfold g369 at e
  unfold f369
  obtain ⟨M181, q182, h183⟩ := h.pi (v := 0) (o := 0) (c := 15) (k := 26) (n := 107) (by decide) rfl (by decide) (by decide) (show xin (0) by decide)
  refine xok_eqb q182 ?_
  obtain ⟨G184, g1, e⟩ := xbnd e
  cases g1
  have h183_ : xRX m M0 M181 (xup2 G (0) 26 (0)) := h183
  generalize hGG184 : (xup2 G (0) 26 (0)) = G184 at e h183
  clear h183_ hGG184
  exact s369_7 hI   h183 ta1 e
-- ChangeHouseModel.readLiterals
theorem s246_4b {m f : Nat} {M0 M : xj_M} {G : xG_} (hI : xHI f)  {r4 : xG_ → Option (xG_)} {o4 : Nat → xj_M → Option (xj_M)}  (hr4 : ∀ {M : xj_M} {G : xG_}  {R : xG_}, xRX m M0 M G → r4  G = some R → xok (o4 m M) (fun r => xRX m M0 r R)) (h : xRX m M0 M G)  {R : xG_}  (e : g246_4b  r4 f  G = some R) : xok (f246_4b  o4 f m M) (fun r => xRX m M0 r R) := by
  unfold g246_4b at e
  unfold f246_4b
  obtain ⟨R101, e102, e⟩ := xbnd e
  refine xok_eqb (h.is (o := 0) (c := 15) (by decide) rfl) ?_
  refine xok_call (sg220 hI  h (show xin (44) by decide) e102) ?_
  rintro ⟨v_, M105⟩ ⟨hv_, h103, hi104⟩
  cases hv_
  refine xok_ite (fun c106 => ?_) (fun c106 => ?_)
  · rw [if_pos c106] at e
    cases e
    exact ⟨_, rfl, h103⟩
  · rw [if_neg c106] at e
    obtain ⟨R107, e108, e⟩ := xbnd e
    refine xok_eqb (h103.is (o := 0) (c := 15) (by decide) rfl) ?_
    refine xok_call (sg213 hI  h103  e108) ?_
    intro M111 h109
    obtain ⟨R112, e113, e⟩ := xbnd e
    refine xok_eqb (h109.is (o := 0) (c := 15) (by decide) rfl) ?_
    refine xok_call (sg247 hI  h109  e113) ?_
    intro M116 h114
    exact hr4 h114  e
theorem s246_4 {m f : Nat} {M0 : xj_M} (hI : xHI f)     : ∀ {n : Nat} {M : xj_M} {G : xG_}  {R : xG_}, xRX m M0 M G → g246_4   f n  G = some R → xok (f246_4   f n m M) (fun r => xRX m M0 r R) := by
  intro n
  induction n with
  | zero => intros; rename_i e; cases e
  | succ n ih =>
    intros
    rename_i h  e
    exact s246_4b hI   ih h  e
theorem sg246 {m f : Nat} {M0 M : xj_M} {G : xG_} (hI : xHI f)   (h : xRX m M0 M G)  {R : xG_}  (e : g246  f  G = some R) : xok (f246  f m M) (fun r => xRX m M0 r R) := by
  unfold g246 at e
  unfold f246
  obtain ⟨R117, e118, e⟩ := xbnd e
  refine xok_eqb (h.is (o := 0) (c := 15) (by decide) rfl) ?_
  refine xok_call (sg247 hI  h  e118) ?_
  intro M121 h119
  exact s246_4 hI   h119  e
-- ChangeHouseModel.workAll
theorem s290_43 {m f : Nat} {M0 M : xj_M} {G : xG_} (hI : xHI f)  {r4 : Int → Int → xG_ → Option (Int × xG_)} {o4 : Nat → Int → Int → xj_M → Option (Int × xj_M)}  (hr4 : ∀ {M : xj_M} {G : xG_} {x1 : Int} {x2 : Int} {R : Int × xG_}, xRX m M0 M G → xin x1 → xin x2 → r4 x1 x2 G = some R → xok (o4 m x1 x2 M) (fun r => r.1 = R.1 ∧ xRX m M0 r.2 R.2 ∧ xin R.1)) (h : xRX m M0 M G) {x1 : Int} {x2 : Int} {R : Int × xG_} (tx1 : xin x1) (tx2 : xin x2) (e : g290_43  r4 f x1 x2 G = some R) : xok (f290_43  o4 f m x1 x2 M) (fun r => r.1 = R.1 ∧ xRX m M0 r.2 R.2 ∧ xin R.1) := by
  unfold g290_43 at e
  unfold f290_43
  refine xok_eqb (h.pt (o := 0) (c := 15) (k := 33) (t := 108) (n := 107) (by decide) rfl (by decide) (by decide +kernel)) ?_
  by_cases c101 : 0 ≤ (x2) ∧ (x2) < 16
  · skip
    rw [if_pos c101] at e
    refine xok_eqb (h.ai (o := 108) (n := 16) (by decide) rfl (by decide) c101.1 c101.2) ?_
    refine xok_ite (fun c102 => ?_) (fun c102 => ?_)
    · rw [if_pos c102] at e
      exact hr4 h tx1 (xin_wr _) e
    · rw [if_neg c102] at e
      cases e
      exact ⟨_, rfl, rfl, h, (show xin (0) by decide)⟩
  · rw [if_neg c101] at e; cases e
theorem s290_131 {m f : Nat} {M0 M : xj_M} {G : xG_} (hI : xHI f)  {r64 : Int → Int → xG_ → Option (Int × xG_)} {o64 : Nat → Int → Int → xj_M → Option (Int × xj_M)} {r98 : Int → Int → Int → Int → xG_ → Option (Int × xG_)} {o98 : Nat → Int → Int → Int → Int → xj_M → Option (Int × xj_M)}  (hr64 : ∀ {M : xj_M} {G : xG_} {x1 : Int} {x2 : Int} {R : Int × xG_}, xRX m M0 M G → xin x1 → xin x2 → r64 x1 x2 G = some R → xok (o64 m x1 x2 M) (fun r => r.1 = R.1 ∧ xRX m M0 r.2 R.2 ∧ xin R.1)) (hr98 : ∀ {M : xj_M} {G : xG_} {x1 : Int} {x2 : Int} {x3 : Int} {x4 : Int} {R : Int × xG_}, xRX m M0 M G → xin x1 → xin x2 → xin x3 → xin x4 → r98 x1 x2 x3 x4 G = some R → xok (o98 m x1 x2 x3 x4 M) (fun r => r.1 = R.1 ∧ xRX m M0 r.2 R.2 ∧ xin R.1)) (h : xRX m M0 M G) {x1 : Int} {x2 : Int} {x3 : Int} {x4 : Int} {R : Int × xG_} (tx1 : xin x1) (tx2 : xin x2) (tx3 : xin x3) (tx4 : xin x4) (e : g290_131  r64 r98 f x1 x2 x3 x4 G = some R) : xok (f290_131  o64 o98 f m x1 x2 x3 x4 M) (fun r => r.1 = R.1 ∧ xRX m M0 r.2 R.2 ∧ xin R.1) := by
  unfold g290_131 at e
  unfold f290_131
  exact hr98 h tx1 tx2 tx3 (xin_wr _) e
theorem s290_98b {m f : Nat} {M0 M : xj_M} {G : xG_} (hI : xHI f)  {r64 : Int → Int → xG_ → Option (Int × xG_)} {o64 : Nat → Int → Int → xj_M → Option (Int × xj_M)} {r98 : Int → Int → Int → Int → xG_ → Option (Int × xG_)} {o98 : Nat → Int → Int → Int → Int → xj_M → Option (Int × xj_M)}  (hr64 : ∀ {M : xj_M} {G : xG_} {x1 : Int} {x2 : Int} {R : Int × xG_}, xRX m M0 M G → xin x1 → xin x2 → r64 x1 x2 G = some R → xok (o64 m x1 x2 M) (fun r => r.1 = R.1 ∧ xRX m M0 r.2 R.2 ∧ xin R.1)) (hr98 : ∀ {M : xj_M} {G : xG_} {x1 : Int} {x2 : Int} {x3 : Int} {x4 : Int} {R : Int × xG_}, xRX m M0 M G → xin x1 → xin x2 → xin x3 → xin x4 → r98 x1 x2 x3 x4 G = some R → xok (o98 m x1 x2 x3 x4 M) (fun r => r.1 = R.1 ∧ xRX m M0 r.2 R.2 ∧ xin R.1)) (h : xRX m M0 M G) {x1 : Int} {x2 : Int} {x3 : Int} {x4 : Int} {R : Int × xG_} (tx1 : xin x1) (tx2 : xin x2) (tx3 : xin x3) (tx4 : xin x4) (e : g290_98b  r64 r98 f x1 x2 x3 x4 G = some R) : xok (f290_98b  o64 o98 f m x1 x2 x3 x4 M) (fun r => r.1 = R.1 ∧ xRX m M0 r.2 R.2 ∧ xin R.1) := by
  unfold g290_98b at e
  unfold f290_98b
  refine xok_eqb (h.pt (o := 0) (c := 15) (k := 29) (t := 2) (n := 107) (by decide) rfl (by decide) (by decide +kernel)) ?_
  refine xok_eqb (h.gi (o := 2) (c := 14) (k := 8) (n := 38) (xoP_o (show xoP 2 by unfold xoP; omega)).1 (xoP_o (show xoP 2 by unfold xoP; omega)).2 (by decide) (by decide)) ?_
  refine xok_ite (fun c103 => ?_) (fun c103 => ?_)
  · rw [if_pos c103] at e
    exact hr64 h tx1 tx2 e
  · rw [if_neg c103] at e
    refine xok_eqb (h.pt (o := 0) (c := 15) (k := 29) (t := 2) (n := 107) (by decide) rfl (by decide) (by decide +kernel)) ?_
    refine xok_eqb (h.pt (o := 2) (c := 14) (k := 4) (t := 2 + 5) (n := 38) (xoP_o (show xoP 2 by unfold xoP; omega)).1 (xoP_o (show xoP 2 by unfold xoP; omega)).2 (by decide) (xoP_all (show xoP 2 by unfold xoP; omega) (Q := fun p => (p, 4, p + 5) ∈ xl_P) (by decide +kernel) (by decide +kernel) (by decide +kernel))) ?_
    by_cases c104 : 0 ≤ (x4) ∧ (x4) < 16
    · skip
      rw [if_pos c104] at e
      refine xok_eqb (h.ai (o := 2 + 5) (n := 16) (xoP_all (show xoP 2 by unfold xoP; omega) (Q := fun p => p + 5 < 276) (by decide) (by decide) (by decide)) (xoP_all (show xoP 2 by unfold xoP; omega) (Q := fun p => xl_t (p + 5) = (2, 3, 16)) rfl rfl rfl) (by decide) c104.1 c104.2) ?_
      refine xok_ite (fun c105 => ?_) (fun c105 => ?_)
      · rw [if_pos c105] at e
        exact s290_131 hI  hr64 hr98 h tx1 tx2 tx3 tx4 e
      · rw [if_neg c105] at e
        exact s290_131 hI  hr64 hr98 h (xin_of _) tx2 tx3 tx4 e
    · rw [if_neg c104] at e; cases e
theorem s290_98 {m f : Nat} {M0 : xj_M} (hI : xHI f)  {r64 : Int → Int → xG_ → Option (Int × xG_)} {o64 : Nat → Int → Int → xj_M → Option (Int × xj_M)}  (hr64 : ∀ {M : xj_M} {G : xG_} {x1 : Int} {x2 : Int} {R : Int × xG_}, xRX m M0 M G → xin x1 → xin x2 → r64 x1 x2 G = some R → xok (o64 m x1 x2 M) (fun r => r.1 = R.1 ∧ xRX m M0 r.2 R.2 ∧ xin R.1)) : ∀ {n : Nat} {M : xj_M} {G : xG_} {x1 : Int} {x2 : Int} {x3 : Int} {x4 : Int} {R : Int × xG_}, xRX m M0 M G → xin x1 → xin x2 → xin x3 → xin x4 → g290_98  r64 f n x1 x2 x3 x4 G = some R → xok (f290_98  o64 f n m x1 x2 x3 x4 M) (fun r => r.1 = R.1 ∧ xRX m M0 r.2 R.2 ∧ xin R.1) := by
  intro n
  induction n with
  | zero => intros; rename_i e; cases e
  | succ n ih =>
    intros
    rename_i h i0 i1 i2 i3 e
    exact s290_98b hI  hr64 ih h i0 i1 i2 i3 e
theorem s290_140 {m f : Nat} {M0 M : xj_M} {G : xG_} (hI : xHI f)     (h : xRX m M0 M G) {x2 : Int} {R : Int × xG_} (tx2 : xin x2) (e : g290_140   f x2 G = some R) : xok (f290_140   f x2 M) (fun r => r.1 = R.1 ∧ xRX m M0 r.2 R.2 ∧ xin R.1) := by
  unfold g290_140 at e
  unfold f290_140
  refine xok_ite (fun c106 => ?_) (fun c106 => ?_)
  · rw [if_pos c106] at e; cases e; exact ⟨_, rfl, rfl, h, tx2⟩
  · rw [if_neg c106] at e; cases e
theorem s290_64b {m f : Nat} {M0 M : xj_M} {G : xG_} (hI : xHI f)  {r64 : Int → Int → xG_ → Option (Int × xG_)} {o64 : Nat → Int → Int → xj_M → Option (Int × xj_M)}  (hr64 : ∀ {M : xj_M} {G : xG_} {x1 : Int} {x2 : Int} {R : Int × xG_}, xRX m M0 M G → xin x1 → xin x2 → r64 x1 x2 G = some R → xok (o64 m x1 x2 M) (fun r => r.1 = R.1 ∧ xRX m M0 r.2 R.2 ∧ xin R.1)) (h : xRX m M0 M G) {x1 : Int} {x2 : Int} {R : Int × xG_} (tx1 : xin x1) (tx2 : xin x2) (e : g290_64b  r64 f x1 x2 G = some R) : xok (f290_64b  o64 f m x1 x2 M) (fun r => r.1 = R.1 ∧ xRX m M0 r.2 R.2 ∧ xin R.1) := by
  unfold g290_64b at e
  unfold f290_64b
  refine xok_ite (fun c107 => ?_) (fun c107 => ?_)
  · rw [if_pos c107] at e
    exact s290_140 hI   h tx2 e
  · rw [if_neg c107] at e
    refine xok_eqb (h.pt (o := 0) (c := 15) (k := 29) (t := 2) (n := 107) (by decide) rfl (by decide) (by decide +kernel)) ?_
    refine xok_eqb (h.gi (o := 2) (c := 14) (k := 8) (n := 38) (xoP_o (show xoP 2 by unfold xoP; omega)).1 (xoP_o (show xoP 2 by unfold xoP; omega)).2 (by decide) (by decide)) ?_
    refine xok_ite (fun c108 => ?_) (fun c108 => ?_)
    · rw [if_pos c108] at e
      exact s290_140 hI   h tx2 e
    · rw [if_neg c108] at e
      obtain ⟨R109, e110, e⟩ := xbnd e
      refine xok_eqb (h.is (o := 0) (c := 15) (by decide) rfl) ?_
      refine xok_call (sg291 hI  h tx1 e110) ?_
      rintro ⟨v_, M113⟩ ⟨hv_, h111, hi112⟩
      cases hv_
      obtain ⟨R114, e115, e⟩ := xbnd e
      refine xok_eqb (h111.is (o := 0) (c := 15) (by decide) rfl) ?_
      refine xok_call (sg293 hI  h111 hi112 e115) ?_
      rintro ⟨v_, M118⟩ ⟨hv_, h116, hi117⟩
      cases hv_
      exact s290_98 hI  hr64 h116 tx1 hi117 hi112 (show xin (0) by decide) e
theorem s290_64 {m f : Nat} {M0 : xj_M} (hI : xHI f)     : ∀ {n : Nat} {M : xj_M} {G : xG_} {x1 : Int} {x2 : Int} {R : Int × xG_}, xRX m M0 M G → xin x1 → xin x2 → g290_64   f n x1 x2 G = some R → xok (f290_64   f n m x1 x2 M) (fun r => r.1 = R.1 ∧ xRX m M0 r.2 R.2 ∧ xin R.1) := by
  intro n
  induction n with
  | zero => intros; rename_i e; cases e
  | succ n ih =>
    intros
    rename_i h i0 i1 e
    exact s290_64b hI   ih h i0 i1 e
theorem s290_4b {m f : Nat} {M0 M : xj_M} {G : xG_} (hI : xHI f)  {r4 : Int → Int → xG_ → Option (Int × xG_)} {o4 : Nat → Int → Int → xj_M → Option (Int × xj_M)}  (hr4 : ∀ {M : xj_M} {G : xG_} {x1 : Int} {x2 : Int} {R : Int × xG_}, xRX m M0 M G → xin x1 → xin x2 → r4 x1 x2 G = some R → xok (o4 m x1 x2 M) (fun r => r.1 = R.1 ∧ xRX m M0 r.2 R.2 ∧ xin R.1)) (h : xRX m M0 M G) {x1 : Int} {x2 : Int} {R : Int × xG_} (tx1 : xin x1) (tx2 : xin x2) (e : g290_4b  r4 f x1 x2 G = some R) : xok (f290_4b  o4 f m x1 x2 M) (fun r => r.1 = R.1 ∧ xRX m M0 r.2 R.2 ∧ xin R.1) := by
  unfold g290_4b at e
  unfold f290_4b
  refine xok_eqb (h.pt (o := 0) (c := 15) (k := 29) (t := 2) (n := 107) (by decide) rfl (by decide) (by decide +kernel)) ?_
  refine xok_eqb (h.gi (o := 2) (c := 14) (k := 8) (n := 38) (xoP_o (show xoP 2 by unfold xoP; omega)).1 (xoP_o (show xoP 2 by unfold xoP; omega)).2 (by decide) (by decide)) ?_
  refine xok_ite (fun c119 => ?_) (fun c119 => ?_)
  · rw [if_pos c119] at e
    exact s290_64 hI   h tx1 (show xin (1) by decide) e
  · rw [if_neg c119] at e
    refine xok_eqb (h.pt (o := 0) (c := 15) (k := 29) (t := 2) (n := 107) (by decide) rfl (by decide) (by decide +kernel)) ?_
    refine xok_eqb (h.pt (o := 2) (c := 14) (k := 5) (t := 2 + 6) (n := 38) (xoP_o (show xoP 2 by unfold xoP; omega)).1 (xoP_o (show xoP 2 by unfold xoP; omega)).2 (by decide) (xoP_all (show xoP 2 by unfold xoP; omega) (Q := fun p => (p, 5, p + 6) ∈ xl_P) (by decide +kernel) (by decide +kernel) (by decide +kernel))) ?_
    by_cases c120 : 0 ≤ (x2) ∧ (x2) < 16
    · skip
      rw [if_pos c120] at e
      refine xok_eqb (h.ab (o := 2 + 6) (n := 16) (xoP_all (show xoP 2 by unfold xoP; omega) (Q := fun p => p + 6 < 276) (by decide) (by decide) (by decide)) (xoP_all (show xoP 2 by unfold xoP; omega) (Q := fun p => xl_t (p + 6) = (2, 0, 16)) rfl rfl rfl) (by decide) c120.1 c120.2) ?_
      refine xok_ite (fun c121 => ?_) (fun c121 => ?_)
      · rw [if_pos c121] at e
        refine xok_eqb (h.pt (o := 0) (c := 15) (k := 33) (t := 108) (n := 107) (by decide) rfl (by decide) (by decide +kernel)) ?_
        by_cases c122 : 0 ≤ (x2) ∧ (x2) < 16
        · skip
          rw [if_pos c122] at e
          obtain ⟨M123, q124, h125⟩ := h.si (o := 108) (n := 16) (v := 0) (by decide) rfl c122.1 c122.2 (show xin (0) by decide)
          refine xok_eqb q124 ?_
          obtain ⟨G126, g1, e⟩ := xbnd e
          cases g1
          have h125_ : xRX m M0 M123 (xup2 G (108) (x2).toNat (0)) := h125
          generalize hGG126 : (xup2 G (108) (x2).toNat (0)) = G126 at e h125
          clear h125_ hGG126
          exact s290_43 hI  hr4 h125 tx1 tx2 e
        · rw [if_neg c122] at e; cases e
      · rw [if_neg c121] at e
        exact s290_43 hI  hr4 h (xin_of _) tx2 e
    · rw [if_neg c120] at e; cases e
theorem s290_4 {m f : Nat} {M0 : xj_M} (hI : xHI f)     : ∀ {n : Nat} {M : xj_M} {G : xG_} {x1 : Int} {x2 : Int} {R : Int × xG_}, xRX m M0 M G → xin x1 → xin x2 → g290_4   f n x1 x2 G = some R → xok (f290_4   f n m x1 x2 M) (fun r => r.1 = R.1 ∧ xRX m M0 r.2 R.2 ∧ xin R.1) := by
  intro n
  induction n with
  | zero => intros; rename_i e; cases e
  | succ n ih =>
    intros
    rename_i h i0 i1 e
    exact s290_4b hI   ih h i0 i1 e
theorem sg290 {m f : Nat} {M0 M : xj_M} {G : xG_} (hI : xHI f)   (h : xRX m M0 M G)  {R : Int × xG_}  (e : g290  f  G = some R) : xok (f290  f m M) (fun r => r.1 = R.1 ∧ xRX m M0 r.2 R.2 ∧ xin R.1) := by
  unfold g290 at e
  unfold f290
  exact s290_4 hI   h (show xin (0) by decide) (show xin (0) by decide) e
-- ChangeHouseModel.readCell
theorem s333_85 {m f : Nat} {M0 M : xj_M} {G : xG_} (hI : xHI f)     (h : xRX m M0 M G) {x4 : Int} {R : Int × xG_} (tx4 : xin x4) (e : g333_85   f x4 G = some R) : xok (f333_85   f x4 M) (fun r => r.1 = R.1 ∧ xRX m M0 r.2 R.2 ∧ xin R.1) := by
  unfold g333_85 at e
  unfold f333_85
  cases e
  exact ⟨_, rfl, rfl, h, tx4⟩
theorem s333_57 {m f : Nat} {M0 M : xj_M} {G : xG_} (hI : xHI f)     (h : xRX m M0 M G)  {R : Int × xG_}  (e : g333_57   f  G = some R) : xok (f333_57   f m M) (fun r => r.1 = R.1 ∧ xRX m M0 r.2 R.2 ∧ xin R.1) := by
  unfold g333_57 at e
  unfold f333_57
  obtain ⟨R101, e102, e⟩ := xbnd e
  refine xok_eqb (h.is (o := 0) (c := 15) (by decide) rfl) ?_
  refine xok_call (sg334 hI  h  e102) ?_
  rintro ⟨v_, M105⟩ ⟨hv_, h103, hi104⟩
  cases hv_
  obtain ⟨R106, e107, e⟩ := xbnd e
  refine xok_eqb (h103.is (o := 0) (c := 15) (by decide) rfl) ?_
  refine xok_call (sg211 hI  h103  e107) ?_
  rintro ⟨v_, M110⟩ ⟨hv_, h108, hi109⟩
  cases hv_
  refine xok_ite (fun c111 => ?_) (fun c111 => ?_)
  · rw [if_pos c111] at e
    exact s333_85 hI   h108 hi104 e
  · rw [if_neg c111] at e
    refine xok_eqb (h108.gi (o := 0) (c := 15) (k := 2) (n := 107) (by decide) rfl (by decide) (by decide)) ?_
    refine xok_ite (fun c112 => ?_) (fun c112 => ?_)
    · rw [if_pos c112] at e
      exact s333_85 hI   h108 hi104 e
    · rw [if_neg c112] at e
      refine xok_eqb (h108.gi (o := 0) (c := 15) (k := 4) (n := 107) (by decide) rfl (by decide) (by decide)) ?_
      obtain ⟨R113, e114, e⟩ := xbnd e
      refine xok_eqb (h108.is (o := 0) (c := 15) (by decide) rfl) ?_
      refine xok_call (sg210 hI  h108 (h108.gin (o := 0) (c := 15) (k := 4) (n := 107) (by decide) rfl (by decide) (by decide)) e114) ?_
      intro M117 h115
      exact s333_85 hI   h115 hi104 e
theorem sg333 {m f : Nat} {M0 M : xj_M} {G : xG_} (hI : xHI f)   (h : xRX m M0 M G) {a1 : Nat} {a2 : Int} {a3 : Int} {R : Int × xG_} (ta1 : xoB a1) (ta2 : xin a2) (ta3 : xin a3) (e : g333  f a1 a2 a3 G = some R) : xok (f333  f m (m + a1) a2 a3 M) (fun r => r.1 = R.1 ∧ xRX m M0 r.2 R.2 ∧ xin R.1) := by
  unfold g333 at e
  unfold f333
  obtain ⟨R118, e119, e⟩ := xbnd e
  refine xok_eqb (h.is (o := 0) (c := 15) (by decide) rfl) ?_
  refine xok_call (sg212 hI  h ta1 ta2 ta3 e119) ?_
  intro M122 h120
  obtain ⟨M123, q124, h125⟩ := h120.pi (v := 0) (o := 0) (c := 15) (k := 89) (n := 107) (by decide) rfl (by decide) (by decide) (show xin (0) by decide)
  refine xok_eqb q124 ?_
  obtain ⟨G126, g1, e⟩ := xbnd e
  cases g1
  have h125_ : xRX m M0 M123 (xup2 R118 (0) 89 (0)) := h125
  generalize hGG126 : (xup2 R118 (0) 89 (0)) = G126 at e h125
  clear h125_ hGG126
  obtain ⟨M127, q128, h129⟩ := h125.pi (v := 0) (o := 0) (c := 15) (k := 25) (n := 107) (by decide) rfl (by decide) (by decide) (show xin (0) by decide)
  refine xok_eqb q128 ?_
  obtain ⟨G130, g1, e⟩ := xbnd e
  cases g1
  have h129_ : xRX m M0 M127 (xup2 G126 (0) 25 (0)) := h129
  generalize hGG130 : (xup2 G126 (0) 25 (0)) = G130 at e h129
  clear h129_ hGG130
  obtain ⟨R131, e132, e⟩ := xbnd e
  refine xok_eqb (h129.is (o := 0) (c := 15) (by decide) rfl) ?_
  refine xok_call (sg332 hI  h129  e132) ?_
  rintro ⟨v_, M135⟩ ⟨hv_, h133, hi134⟩
  cases hv_
  obtain ⟨M136, q137, h138⟩ := h133.pi (v := R131.1) (o := 0) (c := 15) (k := 90) (n := 107) (by decide) rfl (by decide) (by decide) hi134
  refine xok_eqb q137 ?_
  obtain ⟨G139, g1, e⟩ := xbnd e
  cases g1
  have h138_ : xRX m M0 M136 (xup2 R131.2 (0) 90 (R131.1)) := h138
  generalize hGG139 : (xup2 R131.2 (0) 90 (R131.1)) = G139 at e h138
  clear h138_ hGG139
  obtain ⟨M140, q141, h142⟩ := h138.pb (v := 1) (o := 0) (c := 15) (k := 11) (n := 107) (by decide) rfl (by decide) (by decide) (by decide)
  refine xok_eqb q141 ?_
  obtain ⟨G143, g1, e⟩ := xbnd e
  cases g1
  have h142_ : xRX m M0 M140 (xup2 G139 (0) 11 (1)) := h142
  generalize hGG143 : (xup2 G139 (0) 11 (1)) = G143 at e h142
  clear h142_ hGG143
  obtain ⟨M144, q145, h146⟩ := h142.pi (v := 0) (o := 0) (c := 15) (k := 8) (n := 107) (by decide) rfl (by decide) (by decide) (show xin (0) by decide)
  refine xok_eqb q145 ?_
  obtain ⟨G147, g1, e⟩ := xbnd e
  cases g1
  have h146_ : xRX m M0 M144 (xup2 G143 (0) 8 (0)) := h146
  generalize hGG147 : (xup2 G143 (0) 8 (0)) = G147 at e h146
  clear h146_ hGG147
  obtain ⟨R148, e149, e⟩ := xbnd e
  refine xok_eqb (h146.is (o := 0) (c := 15) (by decide) rfl) ?_
  refine xok_call (sg222 hI  h146 (show xin (61) by decide) e149) ?_
  intro M152 h150
  obtain ⟨R153, e154, e⟩ := xbnd e
  refine xok_eqb (h150.is (o := 0) (c := 15) (by decide) rfl) ?_
  refine xok_call (sg211 hI  h150  e154) ?_
  rintro ⟨v_, M157⟩ ⟨hv_, h155, hi156⟩
  cases hv_
  refine xok_ite (fun c158 => ?_) (fun c158 => ?_)
  · rw [if_pos c158] at e
    exact s333_57 hI   h155  e
  · rw [if_neg c158] at e
    refine xok_eqb (h155.gi (o := 0) (c := 15) (k := 2) (n := 107) (by decide) rfl (by decide) (by decide)) ?_
    refine xok_ite (fun c159 => ?_) (fun c159 => ?_)
    · rw [if_pos c159] at e
      exact s333_57 hI   h155  e
    · rw [if_neg c159] at e
      cases e
      exact ⟨_, rfl, rfl, h155, (show xin (-1) by decide)⟩
-- ChangeHouseModel.formulaOf
theorem sg341 {m f : Nat} {M0 M : xj_M} {G : xG_} (hI : xHI f)   (h : xRX m M0 M G) {a1 : Nat} {a2 : Int} {R : Int × xG_} (ta1 : xoL a1) (ta2 : xin a2) (e : g341  f a1 a2 G = some R) : xok (f341  f m (m + a1) a2 M) (fun r => r.1 = R.1 ∧ xRX m M0 r.2 R.2 ∧ xin R.1) := by
  unfold g341 at e
  unfold f341
  refine xok_eqb (h.pt (o := 0) (c := 15) (k := 67) (t := 239) (n := 107) (by decide) rfl (by decide) (by decide +kernel)) ?_
  refine xok_eqb (h.pt (o := 0) (c := 15) (k := 69) (t := 241) (n := 107) (by decide) rfl (by decide) (by decide +kernel)) ?_
  refine xok_eqb (h.pt (o := a1) (c := 13) (k := 18) (t := a1 + 15) (n := 37) (xoL_o ta1).1 (xoL_o ta1).2 (by decide) (xoL_all ta1 (Q := fun p => (p, 18, p + 15) ∈ xl_P) (by decide +kernel) (by decide +kernel) (by decide +kernel) (by decide +kernel))) ?_
  by_cases c101 : 0 ≤ (a2) ∧ (a2) < 72
  · skip
    rw [if_pos c101] at e
    refine xok_eqb (h.ai (o := a1 + 15) (n := 72) (xoL_all ta1 (Q := fun p => p + 15 < 276) (by decide) (by decide) (by decide) (by decide)) (xoL_all ta1 (Q := fun p => xl_t (p + 15) = (2, 3, 72)) rfl rfl rfl rfl) (by decide) c101.1 c101.2) ?_
    by_cases c102 : 0 ≤ (G (a1 + 15) (a2).toNat) ∧ (G (a1 + 15) (a2).toNat) < 4200
    · skip
      rw [if_pos c102] at e
      refine xok_eqb (h.ai (o := 241) (n := 4200) (by decide) rfl (by decide) c102.1 c102.2) ?_
      refine xok_eqb (h.pt (o := 0) (c := 15) (k := 69) (t := 241) (n := 107) (by decide) rfl (by decide) (by decide +kernel)) ?_
      refine xok_eqb (h.pt (o := a1) (c := 13) (k := 18) (t := a1 + 15) (n := 37) (xoL_o ta1).1 (xoL_o ta1).2 (by decide) (xoL_all ta1 (Q := fun p => (p, 18, p + 15) ∈ xl_P) (by decide +kernel) (by decide +kernel) (by decide +kernel) (by decide +kernel))) ?_
      by_cases c103 : 0 ≤ (a2) ∧ (a2) < 72
      · skip
        rw [if_pos c103] at e
        refine xok_eqb (h.ai (o := a1 + 15) (n := 72) (xoL_all ta1 (Q := fun p => p + 15 < 276) (by decide) (by decide) (by decide) (by decide)) (xoL_all ta1 (Q := fun p => xl_t (p + 15) = (2, 3, 72)) rfl rfl rfl rfl) (by decide) c103.1 c103.2) ?_
        by_cases c104 : 0 ≤ (G (a1 + 15) (a2).toNat) ∧ (G (a1 + 15) (a2).toNat) < 4200
        · skip
          rw [if_pos c104] at e
          refine xok_eqb (h.ai (o := 241) (n := 4200) (by decide) rfl (by decide) c104.1 c104.2) ?_
          refine xok_eqb (h.pt (o := 0) (c := 15) (k := 70) (t := 242) (n := 107) (by decide) rfl (by decide) (by decide +kernel)) ?_
          refine xok_eqb (h.pt (o := a1) (c := 13) (k := 18) (t := a1 + 15) (n := 37) (xoL_o ta1).1 (xoL_o ta1).2 (by decide) (xoL_all ta1 (Q := fun p => (p, 18, p + 15) ∈ xl_P) (by decide +kernel) (by decide +kernel) (by decide +kernel) (by decide +kernel))) ?_
          by_cases c105 : 0 ≤ (a2) ∧ (a2) < 72
          · skip
            rw [if_pos c105] at e
            refine xok_eqb (h.ai (o := a1 + 15) (n := 72) (xoL_all ta1 (Q := fun p => p + 15 < 276) (by decide) (by decide) (by decide) (by decide)) (xoL_all ta1 (Q := fun p => xl_t (p + 15) = (2, 3, 72)) rfl rfl rfl rfl) (by decide) c105.1 c105.2) ?_
            by_cases c106 : 0 ≤ (G (a1 + 15) (a2).toNat) ∧ (G (a1 + 15) (a2).toNat) < 4200
            · skip
              rw [if_pos c106] at e
              refine xok_eqb (h.ai (o := 242) (n := 4200) (by decide) rfl (by decide) c106.1 c106.2) ?_
              obtain ⟨R107, e108, e⟩ := xbnd e
              refine xok_eqb (h.is (o := 0) (c := 15) (by decide) rfl) ?_
              refine xok_call (sg333 hI  h (show xoB 239 by unfold xoB; omega) (h.ain (o := 241) (n := 4200) (by decide) rfl (by decide) c102.1 c102.2) (xin_wr _) e108) ?_
              rintro ⟨v_, M111⟩ ⟨hv_, h109, hi110⟩
              cases hv_
              cases e
              exact ⟨_, rfl, rfl, h109, hi110⟩
            · rw [if_neg c106] at e; cases e
          · rw [if_neg c105] at e; cases e
        · rw [if_neg c104] at e; cases e
      · rw [if_neg c103] at e; cases e
    · rw [if_neg c102] at e; cases e
  · rw [if_neg c101] at e; cases e
-- ChangeHouseModel.findReadings
theorem s344_141 {m f : Nat} {M0 M : xj_M} {G : xG_} (hI : xHI f)  {r48 : Int → Int → xG_ → Option (xG_)} {o48 : Nat → Int → Int → xj_M → Option (xj_M)} {r105 : Int → Int → Int → xG_ → Option (xG_)} {o105 : Nat → Int → Int → Int → xj_M → Option (xj_M)}  (hr48 : ∀ {M : xj_M} {G : xG_} {x2 : Int} {x4 : Int} {R : xG_}, xRX m M0 M G → xin x2 → xin x4 → r48 x2 x4 G = some R → xok (o48 m x2 x4 M) (fun r => xRX m M0 r R)) (hr105 : ∀ {M : xj_M} {G : xG_} {x2 : Int} {x4 : Int} {x5 : Int} {R : xG_}, xRX m M0 M G → xin x2 → xin x4 → xin x5 → r105 x2 x4 x5 G = some R → xok (o105 m x2 x4 x5 M) (fun r => xRX m M0 r R)) (h : xRX m M0 M G) {x2 : Int} {x4 : Int} {x5 : Int} {R : xG_} (tx2 : xin x2) (tx4 : xin x4) (tx5 : xin x5) (e : g344_141  r48 r105 f x2 x4 x5 G = some R) : xok (f344_141  o48 o105 f m x2 x4 x5 M) (fun r => xRX m M0 r R) := by
  unfold g344_141 at e
  unfold f344_141
  exact hr105 h tx2 tx4 (xin_wr _) e
theorem s344_216 {m f : Nat} {M0 M : xj_M} {G : xG_} (hI : xHI f)  {r48 : Int → Int → xG_ → Option (xG_)} {o48 : Nat → Int → Int → xj_M → Option (xj_M)}  (hr48 : ∀ {M : xj_M} {G : xG_} {x2 : Int} {x4 : Int} {R : xG_}, xRX m M0 M G → xin x2 → xin x4 → r48 x2 x4 G = some R → xok (o48 m x2 x4 M) (fun r => xRX m M0 r R)) (h : xRX m M0 M G) {x2 : Int} {x4 : Int} {R : xG_} (tx2 : xin x2) (tx4 : xin x4) (e : g344_216  r48 f x2 x4 G = some R) : xok (f344_216  o48 f m x2 x4 M) (fun r => xRX m M0 r R) := by
  unfold g344_216 at e
  unfold f344_216
  exact hr48 h tx2 (xin_wr _) e
theorem s344_147 {m f : Nat} {M0 M : xj_M} {G : xG_} (hI : xHI f)  {r48 : Int → Int → xG_ → Option (xG_)} {o48 : Nat → Int → Int → xj_M → Option (xj_M)}  (hr48 : ∀ {M : xj_M} {G : xG_} {x2 : Int} {x4 : Int} {R : xG_}, xRX m M0 M G → xin x2 → xin x4 → r48 x2 x4 G = some R → xok (o48 m x2 x4 M) (fun r => xRX m M0 r R)) (h : xRX m M0 M G) {x2 : Int} {x4 : Int} {R : xG_} (tx2 : xin x2) (tx4 : xin x4) (e : g344_147  r48 f x2 x4 G = some R) : xok (f344_147  o48 f m x2 x4 M) (fun r => xRX m M0 r R) := by
  unfold g344_147 at e
  unfold f344_147
  refine xok_eqb (h.pt (o := 0) (c := 15) (k := 84) (t := 258) (n := 107) (by decide) rfl (by decide) (by decide +kernel)) ?_
  by_cases c101 : 0 ≤ (x4) ∧ (x4) < 140
  · skip
    rw [if_pos c101] at e
    refine xok_eqb (h.ai (o := 258) (n := 140) (by decide) rfl (by decide) c101.1 c101.2) ?_
    refine xok_ite (fun c102 => ?_) (fun c102 => ?_)
    · rw [if_pos c102] at e
      exact s344_216 hI  hr48 h tx2 tx4 e
    · rw [if_neg c102] at e
      refine xok_eqb (h.pt (o := 0) (c := 15) (k := 84) (t := 258) (n := 107) (by decide) rfl (by decide) (by decide +kernel)) ?_
      by_cases c103 : 0 ≤ (x4) ∧ (x4) < 140
      · skip
        rw [if_pos c103] at e
        refine xok_eqb (h.ai (o := 258) (n := 140) (by decide) rfl (by decide) c103.1 c103.2) ?_
        refine xok_ite (fun c104 => ?_) (fun c104 => ?_)
        · rw [if_pos c104] at e
          refine xok_eqb (h.pt (o := 0) (c := 15) (k := 95) (t := 266) (n := 107) (by decide) rfl (by decide) (by decide +kernel)) ?_
          by_cases c105 : 0 ≤ (x2) ∧ (x2) < 72
          · skip
            rw [if_pos c105] at e
            obtain ⟨M106, q107, h108⟩ := h.sb0 (o := 266) (n := 72) (v := 1) (by decide) rfl c105.1 c105.2 (by decide)
            refine xok_eqb q107 ?_
            obtain ⟨G109, g1, e⟩ := xbnd e
            cases g1
            have h108_ : xRX m M0 M106 (xup2 G (266) (x2).toNat (1)) := h108
            generalize hGG109 : (xup2 G (266) (x2).toNat (1)) = G109 at e h108
            clear h108_ hGG109
            refine xok_eqb (h108.pt (o := 0) (c := 15) (k := 29) (t := 2) (n := 107) (by decide) rfl (by decide) (by decide +kernel)) ?_
            refine xok_eqb (h108.pt (o := 0) (c := 15) (k := 88) (t := 262) (n := 107) (by decide) rfl (by decide) (by decide +kernel)) ?_
            by_cases c110 : 0 ≤ (x4) ∧ (x4) < 140
            · skip
              rw [if_pos c110] at e
              refine xok_eqb (h108.al (o := 262) (n := 140) (by decide) rfl  c110.1 c110.2) ?_
              obtain ⟨R111, e112, e⟩ := xbnd e
              refine xok_eqb (h108.is (o := 2) (c := 14) (xoP_o (show xoP 2 by unfold xoP; omega)).1 (xoP_o (show xoP 2 by unfold xoP; omega)).2) ?_
              refine xok_call (sg205 hI  h108 (show xoP 2 by unfold xoP; omega) (h108.aln (o := 262) (n := 140) (by decide) rfl  c110.1 c110.2) e112) ?_
              rintro ⟨v_, M115⟩ ⟨hv_, h113, hi114⟩
              cases hv_
              refine xok_ite (fun c116 => ?_) (fun c116 => ?_)
              · rw [if_pos c116] at e
                exact s344_216 hI  hr48 h113 tx2 tx4 e
              · rw [if_neg c116] at e
                refine xok_eqb (h113.pt (o := 0) (c := 15) (k := 94) (t := 265) (n := 107) (by decide) rfl (by decide) (by decide +kernel)) ?_
                by_cases c117 : 0 ≤ (x2) ∧ (x2) < 72
                · skip
                  rw [if_pos c117] at e
                  refine xok_eqb (h113.ai (o := 265) (n := 72) (by decide) rfl (by decide) c117.1 c117.2) ?_
                  by_cases c118 : 0 ≤ (x2) ∧ (x2) < 72
                  · skip
                    rw [if_pos c118] at e
                    obtain ⟨M119, q120, h121⟩ := h113.si (o := 265) (n := 72) (v := xor_ (R111.2 (265) (x2).toNat) (xshl (1) (R111.1))) (by decide) rfl c118.1 c118.2 (xin_of _)
                    refine xok_eqb q120 ?_
                    obtain ⟨G122, g1, e⟩ := xbnd e
                    cases g1
                    have h121_ : xRX m M0 M119 (xup2 R111.2 (265) (x2).toNat (xor_ (R111.2 (265) (x2).toNat) (xshl (1) (R111.1)))) := h121
                    generalize hGG122 : (xup2 R111.2 (265) (x2).toNat (xor_ (R111.2 (265) (x2).toNat) (xshl (1) (R111.1)))) = G122 at e h121
                    clear h121_ hGG122
                    exact s344_216 hI  hr48 h121 tx2 tx4 e
                  · rw [if_neg c118] at e; cases e
                · rw [if_neg c117] at e; cases e
            · rw [if_neg c110] at e; cases e
          · rw [if_neg c105] at e; cases e
        · rw [if_neg c104] at e
          exact s344_216 hI  hr48 h tx2 tx4 e
      · rw [if_neg c103] at e; cases e
  · rw [if_neg c101] at e; cases e
theorem s344_105b {m f : Nat} {M0 M : xj_M} {G : xG_} (hI : xHI f)  {r48 : Int → Int → xG_ → Option (xG_)} {o48 : Nat → Int → Int → xj_M → Option (xj_M)} {r105 : Int → Int → Int → xG_ → Option (xG_)} {o105 : Nat → Int → Int → Int → xj_M → Option (xj_M)}  (hr48 : ∀ {M : xj_M} {G : xG_} {x2 : Int} {x4 : Int} {R : xG_}, xRX m M0 M G → xin x2 → xin x4 → r48 x2 x4 G = some R → xok (o48 m x2 x4 M) (fun r => xRX m M0 r R)) (hr105 : ∀ {M : xj_M} {G : xG_} {x2 : Int} {x4 : Int} {x5 : Int} {R : xG_}, xRX m M0 M G → xin x2 → xin x4 → xin x5 → r105 x2 x4 x5 G = some R → xok (o105 m x2 x4 x5 M) (fun r => xRX m M0 r R)) (h : xRX m M0 M G) {x2 : Int} {x4 : Int} {x5 : Int} {R : xG_} (tx2 : xin x2) (tx4 : xin x4) (tx5 : xin x5) (e : g344_105b  r48 r105 f x2 x4 x5 G = some R) : xok (f344_105b  o48 o105 f m x2 x4 x5 M) (fun r => xRX m M0 r R) := by
  unfold g344_105b at e
  unfold f344_105b
  refine xok_ite (fun c123 => ?_) (fun c123 => ?_)
  · rw [if_pos c123] at e
    exact s344_147 hI  hr48 h tx2 tx4 e
  · rw [if_neg c123] at e
    refine xok_eqb (h.pt (o := 0) (c := 15) (k := 85) (t := 259) (n := 107) (by decide) rfl (by decide) (by decide +kernel)) ?_
    by_cases c124 : 0 ≤ (x4) ∧ (x4) < 140
    · skip
      rw [if_pos c124] at e
      refine xok_eqb (h.ai (o := 259) (n := 140) (by decide) rfl (by decide) c124.1 c124.2) ?_
      refine xok_eqb (h.pt (o := 0) (c := 15) (k := 86) (t := 260) (n := 107) (by decide) rfl (by decide) (by decide +kernel)) ?_
      by_cases c125 : 0 ≤ (x4) ∧ (x4) < 140
      · skip
        rw [if_pos c125] at e
        refine xok_eqb (h.ai (o := 260) (n := 140) (by decide) rfl (by decide) c125.1 c125.2) ?_
        obtain ⟨R126, e127, e⟩ := xbnd e
        refine xok_call (sg345 hI  h tx5 (h.ain (o := 259) (n := 140) (by decide) rfl (by decide) c124.1 c124.2) (h.ain (o := 260) (n := 140) (by decide) rfl (by decide) c125.1 c125.2) e127) ?_
        rintro ⟨v_, M130⟩ ⟨hv_, h128, hi129⟩
        cases hv_
        refine xok_ite (fun c131 => ?_) (fun c131 => ?_)
        · rw [if_pos c131] at e
          exact s344_141 hI  hr48 hr105 h128 tx2 tx4 tx5 e
        · rw [if_neg c131] at e
          obtain ⟨R132, e133, e⟩ := xbnd e
          refine xok_eqb (h128.is (o := 0) (c := 15) (by decide) rfl) ?_
          refine xok_call (sg342 hI  h128 tx2 tx5 e133) ?_
          intro M136 h134
          exact s344_141 hI  hr48 hr105 h134 tx2 tx4 tx5 e
      · rw [if_neg c125] at e; cases e
    · rw [if_neg c124] at e; cases e
theorem s344_105 {m f : Nat} {M0 : xj_M} (hI : xHI f)  {r48 : Int → Int → xG_ → Option (xG_)} {o48 : Nat → Int → Int → xj_M → Option (xj_M)}  (hr48 : ∀ {M : xj_M} {G : xG_} {x2 : Int} {x4 : Int} {R : xG_}, xRX m M0 M G → xin x2 → xin x4 → r48 x2 x4 G = some R → xok (o48 m x2 x4 M) (fun r => xRX m M0 r R)) : ∀ {n : Nat} {M : xj_M} {G : xG_} {x2 : Int} {x4 : Int} {x5 : Int} {R : xG_}, xRX m M0 M G → xin x2 → xin x4 → xin x5 → g344_105  r48 f n x2 x4 x5 G = some R → xok (f344_105  o48 f n m x2 x4 x5 M) (fun r => xRX m M0 r R) := by
  intro n
  induction n with
  | zero => intros; rename_i e; cases e
  | succ n ih =>
    intros
    rename_i h i0 i1 i2 e
    exact s344_105b hI  hr48 ih h i0 i1 i2 e
theorem s344_102 {m f : Nat} {M0 M : xj_M} {G : xG_} (hI : xHI f)  {r48 : Int → Int → xG_ → Option (xG_)} {o48 : Nat → Int → Int → xj_M → Option (xj_M)}  (hr48 : ∀ {M : xj_M} {G : xG_} {x2 : Int} {x4 : Int} {R : xG_}, xRX m M0 M G → xin x2 → xin x4 → r48 x2 x4 G = some R → xok (o48 m x2 x4 M) (fun r => xRX m M0 r R)) (h : xRX m M0 M G) {x2 : Int} {x4 : Int} {R : xG_} (tx2 : xin x2) (tx4 : xin x4) (e : g344_102  r48 f x2 x4 G = some R) : xok (f344_102  o48 f m x2 x4 M) (fun r => xRX m M0 r R) := by
  unfold g344_102 at e
  unfold f344_102
  exact s344_105 hI  hr48 h tx2 tx4 (show xin (0) by decide) e
theorem s344_80 {m f : Nat} {M0 M : xj_M} {G : xG_} (hI : xHI f)  {r48 : Int → Int → xG_ → Option (xG_)} {o48 : Nat → Int → Int → xj_M → Option (xj_M)}  (hr48 : ∀ {M : xj_M} {G : xG_} {x2 : Int} {x4 : Int} {R : xG_}, xRX m M0 M G → xin x2 → xin x4 → r48 x2 x4 G = some R → xok (o48 m x2 x4 M) (fun r => xRX m M0 r R)) (h : xRX m M0 M G) {x2 : Int} {x4 : Int} {R : xG_} (tx2 : xin x2) (tx4 : xin x4) (e : g344_80  r48 f x2 x4 G = some R) : xok (f344_80  o48 f m x2 x4 M) (fun r => xRX m M0 r R) := by
  unfold g344_80 at e
  unfold f344_80
  refine xok_eqb (h.pt (o := 0) (c := 15) (k := 84) (t := 258) (n := 107) (by decide) rfl (by decide) (by decide +kernel)) ?_
  by_cases c137 : 0 ≤ (x4) ∧ (x4) < 140
  · skip
    rw [if_pos c137] at e
    refine xok_eqb (h.ai (o := 258) (n := 140) (by decide) rfl (by decide) c137.1 c137.2) ?_
    refine xok_ite (fun c138 => ?_) (fun c138 => ?_)
    · rw [if_pos c138] at e
      exact s344_102 hI  hr48 h tx2 tx4 e
    · rw [if_neg c138] at e
      refine xok_eqb (h.pt (o := 0) (c := 15) (k := 84) (t := 258) (n := 107) (by decide) rfl (by decide) (by decide +kernel)) ?_
      by_cases c139 : 0 ≤ (x4) ∧ (x4) < 140
      · skip
        rw [if_pos c139] at e
        refine xok_eqb (h.ai (o := 258) (n := 140) (by decide) rfl (by decide) c139.1 c139.2) ?_
        refine xok_ite (fun c140 => ?_) (fun c140 => ?_)
        · rw [if_pos c140] at e
          exact s344_147 hI  hr48 h tx2 tx4 e
        · rw [if_neg c140] at e
          exact s344_102 hI  hr48 h tx2 tx4 e
      · rw [if_neg c139] at e; cases e
  · rw [if_neg c137] at e; cases e
theorem s344_48b {m f : Nat} {M0 M : xj_M} {G : xG_} (hI : xHI f)  {r48 : Int → Int → xG_ → Option (xG_)} {o48 : Nat → Int → Int → xj_M → Option (xj_M)}  (hr48 : ∀ {M : xj_M} {G : xG_} {x2 : Int} {x4 : Int} {R : xG_}, xRX m M0 M G → xin x2 → xin x4 → r48 x2 x4 G = some R → xok (o48 m x2 x4 M) (fun r => xRX m M0 r R)) (h : xRX m M0 M G) {x2 : Int} {x4 : Int} {R : xG_} (tx2 : xin x2) (tx4 : xin x4) (e : g344_48b  r48 f x2 x4 G = some R) : xok (f344_48b  o48 f m x2 x4 M) (fun r => xRX m M0 r R) := by
  unfold g344_48b at e
  unfold f344_48b
  refine xok_eqb (h.gi (o := 0) (c := 15) (k := 89) (n := 107) (by decide) rfl (by decide) (by decide)) ?_
  refine xok_ite (fun c141 => ?_) (fun c141 => ?_)
  · rw [if_pos c141] at e
    cases e
    exact ⟨_, rfl, h⟩
  · rw [if_neg c141] at e
    refine xok_eqb (h.pt (o := 0) (c := 15) (k := 84) (t := 258) (n := 107) (by decide) rfl (by decide) (by decide +kernel)) ?_
    by_cases c142 : 0 ≤ (x4) ∧ (x4) < 140
    · skip
      rw [if_pos c142] at e
      refine xok_eqb (h.ai (o := 258) (n := 140) (by decide) rfl (by decide) c142.1 c142.2) ?_
      refine xok_ite (fun c143 => ?_) (fun c143 => ?_)
      · rw [if_pos c143] at e
        exact s344_80 hI  hr48 h tx2 tx4 e
      · rw [if_neg c143] at e
        refine xok_eqb (h.pt (o := 0) (c := 15) (k := 85) (t := 259) (n := 107) (by decide) rfl (by decide) (by decide +kernel)) ?_
        by_cases c144 : 0 ≤ (x4) ∧ (x4) < 140
        · skip
          rw [if_pos c144] at e
          refine xok_eqb (h.ai (o := 259) (n := 140) (by decide) rfl (by decide) c144.1 c144.2) ?_
          obtain ⟨R145, e146, e⟩ := xbnd e
          refine xok_eqb (h.is (o := 0) (c := 15) (by decide) rfl) ?_
          refine xok_call (sg342 hI  h tx2 (h.ain (o := 259) (n := 140) (by decide) rfl (by decide) c144.1 c144.2) e146) ?_
          intro M149 h147
          exact s344_80 hI  hr48 h147 tx2 tx4 e
        · rw [if_neg c144] at e; cases e
    · rw [if_neg c142] at e; cases e
theorem s344_48 {m f : Nat} {M0 : xj_M} (hI : xHI f)     : ∀ {n : Nat} {M : xj_M} {G : xG_} {x2 : Int} {x4 : Int} {R : xG_}, xRX m M0 M G → xin x2 → xin x4 → g344_48   f n x2 x4 G = some R → xok (f344_48   f n m x2 x4 M) (fun r => xRX m M0 r R) := by
  intro n
  induction n with
  | zero => intros; rename_i e; cases e
  | succ n ih =>
    intros
    rename_i h i0 i1 e
    exact s344_48b hI   ih h i0 i1 e
theorem sg344 {m f : Nat} {M0 M : xj_M} {G : xG_} (hI : xHI f)   (h : xRX m M0 M G) {a1 : Nat} {a2 : Int} {R : xG_} (ta1 : xoL a1) (ta2 : xin a2) (e : g344  f a1 a2 G = some R) : xok (f344  f m (m + a1) a2 M) (fun r => xRX m M0 r R) := by
  unfold g344 at e
  unfold f344
  refine xok_eqb (h.pt (o := 0) (c := 15) (k := 92) (t := 263) (n := 107) (by decide) rfl (by decide) (by decide +kernel)) ?_
  by_cases c150 : 0 ≤ (a2) ∧ (a2) < 72
  · skip
    rw [if_pos c150] at e
    obtain ⟨M151, q152, h153⟩ := h.sl (o := 263) (n := 72) (v := 0) (by decide) rfl c150.1 c150.2 (show xiN (0) by decide)
    refine xok_eqb q152 ?_
    obtain ⟨G154, g1, e⟩ := xbnd e
    cases g1
    have h153_ : xRX m M0 M151 (xup2 G (263) (a2).toNat (0)) := h153
    generalize hGG154 : (xup2 G (263) (a2).toNat (0)) = G154 at e h153
    clear h153_ hGG154
    refine xok_eqb (h153.pt (o := 0) (c := 15) (k := 93) (t := 264) (n := 107) (by decide) rfl (by decide) (by decide +kernel)) ?_
    by_cases c155 : 0 ≤ (a2) ∧ (a2) < 72
    · skip
      rw [if_pos c155] at e
      obtain ⟨M156, q157, h158⟩ := h153.sl (o := 264) (n := 72) (v := 0) (by decide) rfl c155.1 c155.2 (show xiN (0) by decide)
      refine xok_eqb q157 ?_
      obtain ⟨G159, g1, e⟩ := xbnd e
      cases g1
      have h158_ : xRX m M0 M156 (xup2 G154 (264) (a2).toNat (0)) := h158
      generalize hGG159 : (xup2 G154 (264) (a2).toNat (0)) = G159 at e h158
      clear h158_ hGG159
      refine xok_eqb (h158.pt (o := 0) (c := 15) (k := 94) (t := 265) (n := 107) (by decide) rfl (by decide) (by decide +kernel)) ?_
      by_cases c160 : 0 ≤ (a2) ∧ (a2) < 72
      · skip
        rw [if_pos c160] at e
        obtain ⟨M161, q162, h163⟩ := h158.si (o := 265) (n := 72) (v := 0) (by decide) rfl c160.1 c160.2 (show xin (0) by decide)
        refine xok_eqb q162 ?_
        obtain ⟨G164, g1, e⟩ := xbnd e
        cases g1
        have h163_ : xRX m M0 M161 (xup2 G159 (265) (a2).toNat (0)) := h163
        generalize hGG164 : (xup2 G159 (265) (a2).toNat (0)) = G164 at e h163
        clear h163_ hGG164
        refine xok_eqb (h163.pt (o := 0) (c := 15) (k := 95) (t := 266) (n := 107) (by decide) rfl (by decide) (by decide +kernel)) ?_
        by_cases c165 : 0 ≤ (a2) ∧ (a2) < 72
        · skip
          rw [if_pos c165] at e
          obtain ⟨M166, q167, h168⟩ := h163.sb0 (o := 266) (n := 72) (v := 0) (by decide) rfl c165.1 c165.2 (by decide)
          refine xok_eqb q167 ?_
          obtain ⟨G169, g1, e⟩ := xbnd e
          cases g1
          have h168_ : xRX m M0 M166 (xup2 G164 (266) (a2).toNat (0)) := h168
          generalize hGG169 : (xup2 G164 (266) (a2).toNat (0)) = G169 at e h168
          clear h168_ hGG169
          refine xok_eqb (h168.pt (o := a1) (c := 13) (k := 18) (t := a1 + 15) (n := 37) (xoL_o ta1).1 (xoL_o ta1).2 (by decide) (xoL_all ta1 (Q := fun p => (p, 18, p + 15) ∈ xl_P) (by decide +kernel) (by decide +kernel) (by decide +kernel) (by decide +kernel))) ?_
          by_cases c170 : 0 ≤ (a2) ∧ (a2) < 72
          · skip
            rw [if_pos c170] at e
            refine xok_eqb (h168.ai (o := a1 + 15) (n := 72) (xoL_all ta1 (Q := fun p => p + 15 < 276) (by decide) (by decide) (by decide) (by decide)) (xoL_all ta1 (Q := fun p => xl_t (p + 15) = (2, 3, 72)) rfl rfl rfl rfl) (by decide) c170.1 c170.2) ?_
            refine xok_ite (fun c171 => ?_) (fun c171 => ?_)
            · rw [if_pos c171] at e
              obtain ⟨R172, e173, e⟩ := xbnd e
              refine xok_eqb (h168.is (o := 0) (c := 15) (by decide) rfl) ?_
              refine xok_call (sg341 hI  h168 ta1 ta2 e173) ?_
              rintro ⟨v_, M176⟩ ⟨hv_, h174, hi175⟩
              cases hv_
              exact s344_48 hI   h174 ta2 (show xin (0) by decide) e
            · rw [if_neg c171] at e
              cases e
              exact ⟨_, rfl, h168⟩
          · rw [if_neg c170] at e; cases e
        · rw [if_neg c165] at e; cases e
      · rw [if_neg c160] at e; cases e
    · rw [if_neg c155] at e; cases e
  · rw [if_neg c150] at e; cases e
-- ChangeHouseModel.valueCell
theorem s349_51 {m f : Nat} {M0 M : xj_M} {G : xG_} (hI : xHI f)     (h : xRX m M0 M G) {x2 : Int} {y0 : Int} {y1 : Int} {y2 : Int} {y3 : Nat} {R : xG_} (tx2 : xin x2) (ty0 : xiN y0) (ty1 : xin y1) (ty2 : xin y2) (ty3 : xoL y3) (e : g349_51   f x2 y0 y1 y2 y3 G = some R) : xok (f349_51   f m x2 y0 y1 y2 (m + y3) M) (fun r => xRX m M0 r R) := by
  unfold g349_51 at e
  unfold f349_51
  obtain ⟨R101, e102, e⟩ := xbnd e
  refine xok_call (sg348 hI  h ty3 ty2 ty1 ty0 e102) ?_
  intro M105 h103
  refine xok_eqb (h103.pt (o := 0) (c := 15) (k := 96) (t := 267) (n := 107) (by decide) rfl (by decide) (by decide +kernel)) ?_
  by_cases c106 : 0 ≤ (x2) ∧ (x2) < 72
  · skip
    rw [if_pos c106] at e
    obtain ⟨M107, q108, h109⟩ := h103.sb0 (o := 267) (n := 72) (v := 1) (by decide) rfl c106.1 c106.2 (by decide)
    refine xok_eqb q108 ?_
    obtain ⟨G110, g1, e⟩ := xbnd e
    cases g1
    have h109_ : xRX m M0 M107 (xup2 R101 (267) (x2).toNat (1)) := h109
    generalize hGG110 : (xup2 R101 (267) (x2).toNat (1)) = G110 at e h109
    clear h109_ hGG110
    cases e
    exact ⟨_, rfl, h109⟩
  · rw [if_neg c106] at e; cases e
theorem s349_34 {m f : Nat} {M0 M : xj_M} {G : xG_} (hI : xHI f)     (h : xRX m M0 M G) {x2 : Int} {x4 : Int} {y0 : Int} {y1 : Int} {y2 : Nat} {R : xG_} (tx2 : xin x2) (tx4 : xiN x4) (ty0 : xin y0) (ty1 : xin y1) (ty2 : xoL y2) (e : g349_34   f x2 x4 y0 y1 y2 G = some R) : xok (f349_34   f m x2 x4 y0 y1 (m + y2) M) (fun r => xRX m M0 r R) := by
  unfold g349_34 at e
  unfold f349_34
  refine xok_eqb (h.gi (o := 0) (c := 15) (k := 91) (n := 107) (by decide) rfl (by decide) (by decide)) ?_
  refine xok_ite (fun c111 => ?_) (fun c111 => ?_)
  · rw [if_pos c111] at e
    refine xok_eqb (h.gi (o := 0) (c := 15) (k := 91) (n := 107) (by decide) rfl (by decide) (by decide)) ?_
    exact s349_51 hI   h tx2 (xin_N (h.gin (o := 0) (c := 15) (k := 91) (n := 107) (by decide) rfl (by decide) (by decide))) ty0 ty1 ty2 e
  · rw [if_neg c111] at e
    exact s349_51 hI   h tx2 tx4 ty0 ty1 ty2 e
theorem sg349 {m f : Nat} {M0 M : xj_M} {G : xG_} (hI : xHI f)   (h : xRX m M0 M G) {a1 : Nat} {a2 : Int} {R : xG_} (ta1 : xoL a1) (ta2 : xin a2) (e : g349  f a1 a2 G = some R) : xok (f349  f m (m + a1) a2 M) (fun r => xRX m M0 r R) := by
  unfold g349 at e
  unfold f349
  obtain ⟨R112, e113, e⟩ := xbnd e
  refine xok_eqb (h.is (o := 0) (c := 15) (by decide) rfl) ?_
  refine xok_call (sg341 hI  h ta1 ta2 e113) ?_
  rintro ⟨v_, M116⟩ ⟨hv_, h114, hi115⟩
  cases hv_
  obtain ⟨M117, q118, h119⟩ := h114.pi (v := 0) (o := 0) (c := 15) (k := 91) (n := 107) (by decide) rfl (by decide) (by decide) (show xin (0) by decide)
  refine xok_eqb q118 ?_
  obtain ⟨G120, g1, e⟩ := xbnd e
  cases g1
  have h119_ : xRX m M0 M117 (xup2 R112.2 (0) 91 (0)) := h119
  generalize hGG120 : (xup2 R112.2 (0) 91 (0)) = G120 at e h119
  clear h119_ hGG120
  obtain ⟨R121, e122, e⟩ := xbnd e
  refine xok_eqb (h119.is (o := 0) (c := 15) (by decide) rfl) ?_
  refine xok_call (sg350 hI  h119 ta1 hi115 e122) ?_
  rintro ⟨v_, M125⟩ ⟨hv_, h123, hi124⟩
  cases hv_
  refine xok_eqb (h123.gi (o := 0) (c := 15) (k := 91) (n := 107) (by decide) rfl (by decide) (by decide)) ?_
  refine xok_ite (fun c126 => ?_) (fun c126 => ?_)
  · rw [if_pos c126] at e
    exact s349_34 hI   h123 ta2 hi124 (show xin (2) by decide) ta2 ta1 e
  · rw [if_neg c126] at e
    exact s349_34 hI   h123 ta2 hi124 (show xin (1) by decide) ta2 ta1 e
-- ChangeHouseModel.cell
theorem s356_60 {m f : Nat} {M0 M : xj_M} {G : xG_} (hI : xHI f)     (h : xRX m M0 M G) {y0 : Int} {y1 : Int} {y2 : Nat} {R : Int × xG_} (ty0 : xin y0) (ty1 : xin y1) (ty2 : xoI y2) (e : g356_60   f y0 y1 y2 G = some R) : xok (f356_60   f m y0 y1 (m + y2) M) (fun r => r.1 = R.1 ∧ xRX m M0 r.2 R.2 ∧ xin R.1) := by
  unfold g356_60 at e
  unfold f356_60
  by_cases c101 : 0 ≤ (y1) ∧ (y1) < ((xl_t (y2)).2.2 : Int)
  · skip
    rw [if_pos c101] at e
    obtain ⟨M102, q103, h104⟩ := h.si (o := y2) (n := (xl_t (y2)).2.2) (v := y0) ty2.1 ty2.2 c101.1 c101.2 ty0
    refine xok_eqb q103 ?_
    obtain ⟨G105, g1, e⟩ := xbnd e
    cases g1
    have h104_ : xRX m M0 M102 (xup2 G (y2) (y1).toNat (y0)) := h104
    generalize hGG105 : (xup2 G (y2) (y1).toNat (y0)) = G105 at e h104
    clear h104_ hGG105
    refine xok_eqb (h104.gi (o := 0) (c := 15) (k := 90) (n := 107) (by decide) rfl (by decide) (by decide)) ?_
    cases e
    exact ⟨_, rfl, rfl, h104, (h104.gin (o := 0) (c := 15) (k := 90) (n := 107) (by decide) rfl (by decide) (by decide))⟩
  · rw [if_neg c101] at e; cases e
theorem sg356 {m f : Nat} {M0 M : xj_M} {G : xG_} (hI : xHI f)   (h : xRX m M0 M G)  {R : Int × xG_}  (e : g356  f  G = some R) : xok (f356  f m M) (fun r => r.1 = R.1 ∧ xRX m M0 r.2 R.2 ∧ xin R.1) := by
  unfold g356 at e
  unfold f356
  obtain ⟨R106, e107, e⟩ := xbnd e
  refine xok_eqb (h.is (o := 0) (c := 15) (by decide) rfl) ?_
  refine xok_call (sg361 hI  h  e107) ?_
  rintro ⟨v_, M110⟩ ⟨hv_, h108, hi109⟩
  cases hv_
  refine xok_eqb (h108.pt (o := 0) (c := 15) (k := 68) (t := 240) (n := 107) (by decide) rfl (by decide) (by decide +kernel)) ?_
  obtain ⟨R111, e112, e⟩ := xbnd e
  refine xok_eqb (h108.is (o := 0) (c := 15) (by decide) rfl) ?_
  refine xok_call (sg333 hI  h108 (show xoB 240 by unfold xoB; omega) (show xin (0) by decide) hi109 e112) ?_
  rintro ⟨v_, M115⟩ ⟨hv_, h113, hi114⟩
  cases hv_
  obtain ⟨R116, e117, e⟩ := xbnd e
  refine xok_eqb (h113.is (o := 0) (c := 15) (by decide) rfl) ?_
  refine xok_call (sg211 hI  h113  e117) ?_
  rintro ⟨v_, M120⟩ ⟨hv_, h118, hi119⟩
  cases hv_
  refine xok_ite (fun c121 => ?_) (fun c121 => ?_)
  · rw [if_pos c121] at e
    refine xok_eqb (h118.pt (o := 0) (c := 15) (k := 61) (t := 122) (n := 107) (by decide) rfl (by decide) (by decide +kernel)) ?_
    refine xok_eqb (h118.gi (o := 0) (c := 15) (k := 62) (n := 107) (by decide) rfl (by decide) (by decide)) ?_
    by_cases c122 : 0 ≤ (R116.2 (0) 62) ∧ (R116.2 (0) 62) < 4
    · skip
      rw [if_pos c122] at e
      refine xok_eqb (h118.lin c122) ?_
      refine xok_eqb (h118.pt (o := 123 + 29 * (R116.2 (0) 62).toNat) (c := 13) (k := 30) (t := 123 + 29 * (R116.2 (0) 62).toNat + 26) (n := 37) (xoL_o (xoL_of c122)).1 (xoL_o (xoL_of c122)).2 (by decide) (xoL_all (xoL_of c122) (Q := fun p => (p, 30, p + 26) ∈ xl_P) (by decide +kernel) (by decide +kernel) (by decide +kernel) (by decide +kernel))) ?_
      refine xok_eqb (h118.gi (o := 0) (c := 15) (k := 90) (n := 107) (by decide) rfl (by decide) (by decide)) ?_
      refine xok_ite (fun c123 => ?_) (fun c123 => ?_)
      · rw [if_pos c123] at e
        obtain ⟨R124, e125, e⟩ := xbnd e
        refine xok_eqb (h118.is (o := 0) (c := 15) (by decide) rfl) ?_
        refine xok_call (sg294 hI  h118 hi109 e125) ?_
        rintro ⟨v_, M128⟩ ⟨hv_, h126, hi127⟩
        cases hv_
        exact s356_60 hI   h126 hi127 (h118.gin (o := 0) (c := 15) (k := 90) (n := 107) (by decide) rfl (by decide) (by decide)) (xoL_all (xoL_of c122) (Q := fun p => xoI (p + 26)) ⟨by decide, rfl⟩ ⟨by decide, rfl⟩ ⟨by decide, rfl⟩ ⟨by decide, rfl⟩) e
      · rw [if_neg c123] at e
        exact s356_60 hI   h118 (show xin (0) by decide) (h118.gin (o := 0) (c := 15) (k := 90) (n := 107) (by decide) rfl (by decide) (by decide)) (xoL_all (xoL_of c122) (Q := fun p => xoI (p + 26)) ⟨by decide, rfl⟩ ⟨by decide, rfl⟩ ⟨by decide, rfl⟩ ⟨by decide, rfl⟩) e
    · rw [if_neg c122] at e; cases e
  · rw [if_neg c121] at e
    refine xok_eqb (h118.gi (o := 0) (c := 15) (k := 7) (n := 107) (by decide) rfl (by decide) (by decide)) ?_
    cases e
    exact ⟨_, rfl, rfl, h118, (xin_wr _)⟩
-- ChangeHouseModel.readRule
theorem s237_176 {m f : Nat} {M0 M : xj_M} {G : xG_} (hI : xHI f)     (h : xRX m M0 M G)  {R : xG_}  (e : g237_176   f  G = some R) : xok (f237_176   f m M) (fun r => xRX m M0 r R) := by
  unfold g237_176 at e
  unfold f237_176
  obtain ⟨R101, e102, e⟩ := xbnd e
  refine xok_eqb (h.is (o := 0) (c := 15) (by decide) rfl) ?_
  refine xok_call (sg222 hI  h (show xin (46) by decide) e102) ?_
  intro M105 h103
  by_cases c106 : R101 0 22 < 0
  · rw [if_pos c106] at e; cases e
  rw [if_neg c106] at e
  refine xok_eqb (h103.itp c106) ?_
  refine xok_eqb (h103.gi (o := (R101 0 22).toNat) (c := 14) (k := 9) (n := 38) (xoP_o (h103.itt c106)).1 (xoP_o (h103.itt c106)).2 (by decide) (by decide)) ?_
  obtain ⟨M107, q108, h109⟩ := h103.pi (v := xwr ((R101 ((R101 0 22).toNat) 9) + (1))) (o := (R101 0 22).toNat) (c := 14) (k := 9) (n := 38) (xoP_o (h103.itt c106)).1 (xoP_o (h103.itt c106)).2 (by decide) (by decide) (xin_wr _)
  refine xok_eqb q108 ?_
  obtain ⟨G110, g1, e⟩ := xbnd e
  cases g1
  have h109_ : xRX m M0 M107 (xup2 R101 ((R101 0 22).toNat) 9 (xwr ((R101 ((R101 0 22).toNat) 9) + (1)))) := h109
  generalize hGG110 : (xup2 R101 ((R101 0 22).toNat) 9 (xwr ((R101 ((R101 0 22).toNat) 9) + (1)))) = G110 at e h109
  clear h109_ hGG110
  cases e
  exact ⟨_, rfl, h109⟩
theorem s237_89 {m f : Nat} {M0 M : xj_M} {G : xG_} (hI : xHI f)     (h : xRX m M0 M G) {x1 : Int} {x2 : Int} {R : xG_} (tx1 : xin x1) (tx2 : xin x2) (e : g237_89   f x1 x2 G = some R) : xok (f237_89   f m x1 x2 M) (fun r => xRX m M0 r R) := by
  unfold g237_89 at e
  unfold f237_89
  obtain ⟨R111, e112, e⟩ := xbnd e
  refine xok_eqb (h.is (o := 0) (c := 15) (by decide) rfl) ?_
  refine xok_call (sg222 hI  h (show xin (41) by decide) e112) ?_
  intro M115 h113
  obtain ⟨R116, e117, e⟩ := xbnd e
  refine xok_eqb (h113.is (o := 0) (c := 15) (by decide) rfl) ?_
  refine xok_call (sg211 hI  h113  e117) ?_
  rintro ⟨v_, M120⟩ ⟨hv_, h118, hi119⟩
  cases hv_
  refine xok_ite (fun c121 => ?_) (fun c121 => ?_)
  · rw [if_pos c121] at e
    by_cases c122 : R116.2 0 22 < 0
    · rw [if_pos c122] at e; cases e
    rw [if_neg c122] at e
    refine xok_eqb (h118.itp c122) ?_
    refine xok_eqb (h118.pt (o := (R116.2 0 22).toNat) (c := 14) (k := 15) (t := (R116.2 0 22).toNat + 13) (n := 38) (xoP_o (h118.itt c122)).1 (xoP_o (h118.itt c122)).2 (by decide) (xoP_all (h118.itt c122) (Q := fun p => (p, 15, p + 13) ∈ xl_P) (by decide +kernel) (by decide +kernel) (by decide +kernel))) ?_
    refine xok_eqb (h118.gi (o := 0) (c := 15) (k := 23) (n := 107) (by decide) rfl (by decide) (by decide)) ?_
    by_cases c123 : 0 ≤ (R116.2 (0) 23) ∧ (R116.2 (0) 23) < 25
    · skip
      rw [if_pos c123] at e
      obtain ⟨M124, q125, h126⟩ := h118.si (o := (R116.2 0 22).toNat + 13) (n := 25) (v := x2) (xoP_all (h118.itt c122) (Q := fun p => p + 13 < 276) (by decide) (by decide) (by decide)) (xoP_all (h118.itt c122) (Q := fun p => xl_t (p + 13) = (2, 3, 25)) rfl rfl rfl) c123.1 c123.2 tx2
      refine xok_eqb q125 ?_
      obtain ⟨G127, g1, e⟩ := xbnd e
      cases g1
      have h126_ : xRX m M0 M124 (xup2 R116.2 ((R116.2 0 22).toNat + 13) (R116.2 (0) 23).toNat (x2)) := h126
      generalize hGG127 : (xup2 R116.2 ((R116.2 0 22).toNat + 13) (R116.2 (0) 23).toNat (x2)) = G127 at e h126
      clear h126_ hGG127
      by_cases c128 : G127 0 22 < 0
      · rw [if_pos c128] at e; cases e
      rw [if_neg c128] at e
      refine xok_eqb (h126.itp c128) ?_
      refine xok_eqb (h126.pt (o := (G127 0 22).toNat) (c := 14) (k := 16) (t := (G127 0 22).toNat + 14) (n := 38) (xoP_o (h126.itt c128)).1 (xoP_o (h126.itt c128)).2 (by decide) (xoP_all (h126.itt c128) (Q := fun p => (p, 16, p + 14) ∈ xl_P) (by decide +kernel) (by decide +kernel) (by decide +kernel))) ?_
      refine xok_eqb (h126.gi (o := 0) (c := 15) (k := 23) (n := 107) (by decide) rfl (by decide) (by decide)) ?_
      by_cases c129 : 0 ≤ (G127 (0) 23) ∧ (G127 (0) 23) < 25
      · skip
        rw [if_pos c129] at e
        obtain ⟨M130, q131, h132⟩ := h126.si (o := (G127 0 22).toNat + 14) (n := 25) (v := x1) (xoP_all (h126.itt c128) (Q := fun p => p + 14 < 276) (by decide) (by decide) (by decide)) (xoP_all (h126.itt c128) (Q := fun p => xl_t (p + 14) = (2, 3, 25)) rfl rfl rfl) c129.1 c129.2 tx1
        refine xok_eqb q131 ?_
        obtain ⟨G133, g1, e⟩ := xbnd e
        cases g1
        have h132_ : xRX m M0 M130 (xup2 G127 ((G127 0 22).toNat + 14) (G127 (0) 23).toNat (x1)) := h132
        generalize hGG133 : (xup2 G127 ((G127 0 22).toNat + 14) (G127 (0) 23).toNat (x1)) = G133 at e h132
        clear h132_ hGG133
        by_cases c134 : G133 0 22 < 0
        · rw [if_pos c134] at e; cases e
        rw [if_neg c134] at e
        refine xok_eqb (h132.itp c134) ?_
        refine xok_eqb (h132.pt (o := (G133 0 22).toNat) (c := 14) (k := 7) (t := (G133 0 22).toNat + 8) (n := 38) (xoP_o (h132.itt c134)).1 (xoP_o (h132.itt c134)).2 (by decide) (xoP_all (h132.itt c134) (Q := fun p => (p, 7, p + 8) ∈ xl_P) (by decide +kernel) (by decide +kernel) (by decide +kernel))) ?_
        by_cases c135 : 0 ≤ (x2) ∧ (x2) < 16
        · skip
          rw [if_pos c135] at e
          obtain ⟨M136, q137, h138⟩ := h132.sb0 (o := (G133 0 22).toNat + 8) (n := 16) (v := 1) (xoP_all (h132.itt c134) (Q := fun p => p + 8 < 276) (by decide) (by decide) (by decide)) (xoP_all (h132.itt c134) (Q := fun p => xl_t (p + 8) = (2, 0, 16)) rfl rfl rfl) c135.1 c135.2 (by decide)
          refine xok_eqb q137 ?_
          obtain ⟨G139, g1, e⟩ := xbnd e
          cases g1
          have h138_ : xRX m M0 M136 (xup2 G133 ((G133 0 22).toNat + 8) (x2).toNat (1)) := h138
          generalize hGG139 : (xup2 G133 ((G133 0 22).toNat + 8) (x2).toNat (1)) = G139 at e h138
          clear h138_ hGG139
          by_cases c140 : G139 0 22 < 0
          · rw [if_pos c140] at e; cases e
          rw [if_neg c140] at e
          refine xok_eqb (h138.itp c140) ?_
          refine xok_eqb (h138.pt (o := (G139 0 22).toNat) (c := 14) (k := 17) (t := (G139 0 22).toNat + 15) (n := 38) (xoP_o (h138.itt c140)).1 (xoP_o (h138.itt c140)).2 (by decide) (xoP_all (h138.itt c140) (Q := fun p => (p, 17, p + 15) ∈ xl_P) (by decide +kernel) (by decide +kernel) (by decide +kernel))) ?_
          refine xok_eqb (h138.gi (o := 0) (c := 15) (k := 23) (n := 107) (by decide) rfl (by decide) (by decide)) ?_
          by_cases c141 : 0 ≤ (G139 (0) 23) ∧ (G139 (0) 23) < 25
          · skip
            rw [if_pos c141] at e
            refine xok_eqb (h138.ai (o := (G139 0 22).toNat + 15) (n := 25) (xoP_all (h138.itt c140) (Q := fun p => p + 15 < 276) (by decide) (by decide) (by decide)) (xoP_all (h138.itt c140) (Q := fun p => xl_t (p + 15) = (2, 3, 25)) rfl rfl rfl) (by decide) c141.1 c141.2) ?_
            obtain ⟨R142, e143, e⟩ := xbnd e
            refine xok_eqb (h138.is (o := 0) (c := 15) (by decide) rfl) ?_
            refine xok_call (sg229 hI  h138 tx2 tx1 (h138.ain (o := (G139 0 22).toNat + 15) (n := 25) (xoP_all (h138.itt c140) (Q := fun p => p + 15 < 276) (by decide) (by decide) (by decide)) (xoP_all (h138.itt c140) (Q := fun p => xl_t (p + 15) = (2, 3, 25)) rfl rfl rfl) (by decide) c141.1 c141.2) (show xin (3) by decide) e143) ?_
            intro M146 h144
            obtain ⟨R147, e148, e⟩ := xbnd e
            refine xok_eqb (h144.is (o := 0) (c := 15) (by decide) rfl) ?_
            refine xok_call (sg220 hI  h144 (show xin (300) by decide) e148) ?_
            rintro ⟨v_, M151⟩ ⟨hv_, h149, hi150⟩
            cases hv_
            refine xok_ite (fun c152 => ?_) (fun c152 => ?_)
            · rw [if_pos c152] at e
              exact s237_176 hI   h149  e
            · rw [if_neg c152] at e
              obtain ⟨R153, e154, e⟩ := xbnd e
              refine xok_eqb (h149.is (o := 0) (c := 15) (by decide) rfl) ?_
              refine xok_call (sg213 hI  h149  e154) ?_
              intro M157 h155
              obtain ⟨R158, e159, e⟩ := xbnd e
              refine xok_eqb (h155.is (o := 0) (c := 15) (by decide) rfl) ?_
              refine xok_call (sg246 hI  h155  e159) ?_
              intro M162 h160
              exact s237_176 hI   h160  e
          · rw [if_neg c141] at e; cases e
        · rw [if_neg c135] at e; cases e
      · rw [if_neg c129] at e; cases e
    · rw [if_neg c123] at e; cases e
  · rw [if_neg c121] at e
    cases e
    exact ⟨_, rfl, h118⟩
theorem s237_53b {m f : Nat} {M0 M : xj_M} {G : xG_} (hI : xHI f)  {r53 : Int → Int → xG_ → Option (xG_)} {o53 : Nat → Int → Int → xj_M → Option (xj_M)}  (hr53 : ∀ {M : xj_M} {G : xG_} {x1 : Int} {x2 : Int} {R : xG_}, xRX m M0 M G → xin x1 → xin x2 → r53 x1 x2 G = some R → xok (o53 m x1 x2 M) (fun r => xRX m M0 r R)) (h : xRX m M0 M G) {x1 : Int} {x2 : Int} {R : xG_} (tx1 : xin x1) (tx2 : xin x2) (e : g237_53b  r53 f x1 x2 G = some R) : xok (f237_53b  o53 f m x1 x2 M) (fun r => xRX m M0 r R) := by
  unfold g237_53b at e
  unfold f237_53b
  obtain ⟨R163, e164, e⟩ := xbnd e
  refine xok_eqb (h.is (o := 0) (c := 15) (by decide) rfl) ?_
  refine xok_call (sg220 hI  h (show xin (44) by decide) e164) ?_
  rintro ⟨v_, M167⟩ ⟨hv_, h165, hi166⟩
  cases hv_
  refine xok_ite (fun c168 => ?_) (fun c168 => ?_)
  · rw [if_pos c168] at e
    exact s237_89 hI   h165 tx1 tx2 e
  · rw [if_neg c168] at e
    by_cases c169 : R163.2 0 22 < 0
    · rw [if_pos c169] at e; cases e
    rw [if_neg c169] at e
    refine xok_eqb (h165.itp c169) ?_
    refine xok_eqb (h165.pt (o := (R163.2 0 22).toNat) (c := 14) (k := 17) (t := (R163.2 0 22).toNat + 15) (n := 38) (xoP_o (h165.itt c169)).1 (xoP_o (h165.itt c169)).2 (by decide) (xoP_all (h165.itt c169) (Q := fun p => (p, 17, p + 15) ∈ xl_P) (by decide +kernel) (by decide +kernel) (by decide +kernel))) ?_
    refine xok_eqb (h165.gi (o := 0) (c := 15) (k := 23) (n := 107) (by decide) rfl (by decide) (by decide)) ?_
    by_cases c170 : 0 ≤ (R163.2 (0) 23) ∧ (R163.2 (0) 23) < 25
    · skip
      rw [if_pos c170] at e
      refine xok_eqb (h165.ai (o := (R163.2 0 22).toNat + 15) (n := 25) (xoP_all (h165.itt c169) (Q := fun p => p + 15 < 276) (by decide) (by decide) (by decide)) (xoP_all (h165.itt c169) (Q := fun p => xl_t (p + 15) = (2, 3, 25)) rfl rfl rfl) (by decide) c170.1 c170.2) ?_
      refine xok_ite (fun c171 => ?_) (fun c171 => ?_)
      · rw [if_pos c171] at e
        exact s237_89 hI   h165 tx1 tx2 e
      · rw [if_neg c171] at e
        obtain ⟨R172, e173, e⟩ := xbnd e
        refine xok_eqb (h165.is (o := 0) (c := 15) (by decide) rfl) ?_
        refine xok_call (sg213 hI  h165  e173) ?_
        intro M176 h174
        obtain ⟨R177, e178, e⟩ := xbnd e
        refine xok_eqb (h174.is (o := 0) (c := 15) (by decide) rfl) ?_
        refine xok_call (sg238 hI  h174  e178) ?_
        intro M181 h179
        exact hr53 h179 tx1 tx2 e
    · rw [if_neg c170] at e; cases e
theorem s237_53 {m f : Nat} {M0 : xj_M} (hI : xHI f)     : ∀ {n : Nat} {M : xj_M} {G : xG_} {x1 : Int} {x2 : Int} {R : xG_}, xRX m M0 M G → xin x1 → xin x2 → g237_53   f n x1 x2 G = some R → xok (f237_53   f n m x1 x2 M) (fun r => xRX m M0 r R) := by
  intro n
  induction n with
  | zero => intros; rename_i e; cases e
  | succ n ih =>
    intros
    rename_i h i0 i1 e
    exact s237_53b hI   ih h i0 i1 e
theorem sg237 {m f : Nat} {M0 M : xj_M} {G : xG_} (hI : xHI f)   (h : xRX m M0 M G)  {R : xG_}  (e : g237  f  G = some R) : xok (f237  f m M) (fun r => xRX m M0 r R) := by
  unfold g237 at e
  unfold f237
  refine xok_eqb (h.gi (o := 0) (c := 15) (k := 4) (n := 107) (by decide) rfl (by decide) (by decide)) ?_
  by_cases c182 : G 0 22 < 0
  · rw [if_pos c182] at e; cases e
  rw [if_neg c182] at e
  refine xok_eqb (h.itp c182) ?_
  refine xok_eqb (h.gi (o := (G 0 22).toNat) (c := 14) (k := 9) (n := 38) (xoP_o (h.itt c182)).1 (xoP_o (h.itt c182)).2 (by decide) (by decide)) ?_
  refine xok_ite (fun c183 => ?_) (fun c183 => ?_)
  · rw [if_pos c183] at e
    obtain ⟨R184, e185, e⟩ := xbnd e
    refine xok_eqb (h.is (o := 0) (c := 15) (by decide) rfl) ?_
    refine xok_call (sg232 hI  h  e185) ?_
    rintro ⟨v_, M188⟩ ⟨hv_, h186, hi187⟩
    cases hv_
    by_cases c189 : R184.2 0 22 < 0
    · rw [if_pos c189] at e; cases e
    rw [if_neg c189] at e
    refine xok_eqb (h186.itp c189) ?_
    refine xok_eqb (h186.gi (o := (R184.2 0 22).toNat) (c := 14) (k := 9) (n := 38) (xoP_o (h186.itt c189)).1 (xoP_o (h186.itt c189)).2 (by decide) (by decide)) ?_
    obtain ⟨R190, e191, e⟩ := xbnd e
    refine xok_eqb (h186.is (o := 0) (c := 15) (by decide) rfl) ?_
    refine xok_call (sg236 hI  h186 (h186.gin (o := (R184.2 0 22).toNat) (c := 14) (k := 9) (n := 38) (xoP_o (h186.itt c189)).1 (xoP_o (h186.itt c189)).2 (by decide) (by decide)) e191) ?_
    intro M194 h192
    obtain ⟨R195, e196, e⟩ := xbnd e
    refine xok_eqb (h192.is (o := 0) (c := 15) (by decide) rfl) ?_
    refine xok_call (sg213 hI  h192  e196) ?_
    intro M199 h197
    obtain ⟨R200, e201, e⟩ := xbnd e
    refine xok_eqb (h197.is (o := 0) (c := 15) (by decide) rfl) ?_
    refine xok_call (sg222 hI  h197 (show xin (40) by decide) e201) ?_
    intro M204 h202
    obtain ⟨R205, e206, e⟩ := xbnd e
    refine xok_eqb (h202.is (o := 0) (c := 15) (by decide) rfl) ?_
    refine xok_call (sg238 hI  h202  e206) ?_
    intro M209 h207
    exact s237_53 hI   h207 (h.gin (o := 0) (c := 15) (k := 4) (n := 107) (by decide) rfl (by decide) (by decide)) hi187 e
  · rw [if_neg c183] at e
    obtain ⟨R210, e211, e⟩ := xbnd e
    refine xok_eqb (h.is (o := 0) (c := 15) (by decide) rfl) ?_
    refine xok_call (sg210 hI  h (h.gin (o := 0) (c := 15) (k := 4) (n := 107) (by decide) rfl (by decide) (by decide)) e211) ?_
    intro M214 h212
    cases e
    exact ⟨_, rfl, h212⟩
-- ChangeHouseModel.valueCells
theorem s346_74 {m f : Nat} {M0 M : xj_M} {G : xG_} (hI : xHI f)  {r2 : Nat → Int → xG_ → Option (xG_)} {o2 : Nat → Nat → Int → xj_M → Option (xj_M)}  (hr2 : ∀ {M : xj_M} {G : xG_} {x1 : Nat} {x2 : Int} {R : xG_}, xRX m M0 M G → xoL x1 → xin x2 → r2 x1 x2 G = some R → xok (o2 m (m + x1) x2 M) (fun r => xRX m M0 r R)) (h : xRX m M0 M G) {x1 : Nat} {x2 : Int} {R : xG_} (tx1 : xoL x1) (tx2 : xin x2) (e : g346_74  r2 f x1 x2 G = some R) : xok (f346_74  o2 f m (m + x1) x2 M) (fun r => xRX m M0 r R) := by
  unfold g346_74 at e
  unfold f346_74
  exact hr2 h tx1 (xin_wr _) e
theorem s346_57 {m f : Nat} {M0 M : xj_M} {G : xG_} (hI : xHI f)  {r2 : Nat → Int → xG_ → Option (xG_)} {o2 : Nat → Nat → Int → xj_M → Option (xj_M)}  (hr2 : ∀ {M : xj_M} {G : xG_} {x1 : Nat} {x2 : Int} {R : xG_}, xRX m M0 M G → xoL x1 → xin x2 → r2 x1 x2 G = some R → xok (o2 m (m + x1) x2 M) (fun r => xRX m M0 r R)) (h : xRX m M0 M G) {x1 : Nat} {x2 : Int} {y0 : Int} {y1 : Int} {y2 : Nat} {R : xG_} (tx1 : xoL x1) (tx2 : xin x2) (ty0 : xin y0) (ty1 : xin y1) (ty2 : xoZ y2) (e : g346_57  r2 f x1 x2 y0 y1 y2 G = some R) : xok (f346_57  o2 f m (m + x1) x2 y0 y1 (m + y2) M) (fun r => xRX m M0 r R) := by
  unfold g346_57 at e
  unfold f346_57
  by_cases c101 : 0 ≤ (y1) ∧ (y1) < ((xl_t (y2)).2.2 : Int) ∧ ((y0) = 0 ∨ (y0) = 1)
  · skip
    rw [if_pos c101] at e
    obtain ⟨M102, q103, h104⟩ := h.sb0 (o := y2) (n := (xl_t (y2)).2.2) (v := y0) ty2.1 ty2.2 c101.1 c101.2.1 c101.2.2
    refine xok_eqb q103 ?_
    obtain ⟨G105, g1, e⟩ := xbnd e
    cases g1
    have h104_ : xRX m M0 M102 (xup2 G (y2) (y1).toNat (y0)) := h104
    generalize hGG105 : (xup2 G (y2) (y1).toNat (y0)) = G105 at e h104
    clear h104_ hGG105
    refine xok_eqb (h104.pt (o := 0) (c := 15) (k := 96) (t := 267) (n := 107) (by decide) rfl (by decide) (by decide +kernel)) ?_
    by_cases c106 : 0 ≤ (x2) ∧ (x2) < 72
    · skip
      rw [if_pos c106] at e
      refine xok_eqb (h104.ab (o := 267) (n := 72) (by decide) rfl (by decide) c106.1 c106.2) ?_
      refine xok_ite (fun c107 => ?_) (fun c107 => ?_)
      · rw [if_pos c107] at e
        exact s346_74 hI  hr2 h104 tx1 tx2 e
      · rw [if_neg c107] at e
        obtain ⟨R108, e109, e⟩ := xbnd e
        refine xok_call (sg348 hI  h104 tx1 tx2 (show xin (0) by decide) (show xiN (0) by decide) e109) ?_
        intro M112 h110
        exact s346_74 hI  hr2 h110 tx1 tx2 e
    · rw [if_neg c106] at e; cases e
  · rw [if_neg c101] at e; cases e
theorem s346_148 {m f : Nat} {M0 M : xj_M} {G : xG_} (hI : xHI f)  {r82 : Nat → Int → xG_ → Option (xG_)} {o82 : Nat → Nat → Int → xj_M → Option (xj_M)} {r90 : Nat → Int → Int → xG_ → Option (xG_)} {o90 : Nat → Nat → Int → Int → xj_M → Option (xj_M)}  (hr82 : ∀ {M : xj_M} {G : xG_} {x1 : Nat} {x2 : Int} {R : xG_}, xRX m M0 M G → xoL x1 → xin x2 → r82 x1 x2 G = some R → xok (o82 m (m + x1) x2 M) (fun r => xRX m M0 r R)) (hr90 : ∀ {M : xj_M} {G : xG_} {x1 : Nat} {x2 : Int} {x3 : Int} {R : xG_}, xRX m M0 M G → xoL x1 → xin x2 → xin x3 → r90 x1 x2 x3 G = some R → xok (o90 m (m + x1) x2 x3 M) (fun r => xRX m M0 r R)) (h : xRX m M0 M G) {x1 : Nat} {x2 : Int} {x3 : Int} {R : xG_} (tx1 : xoL x1) (tx2 : xin x2) (tx3 : xin x3) (e : g346_148  r82 r90 f x1 x2 x3 G = some R) : xok (f346_148  o82 o90 f m (m + x1) x2 x3 M) (fun r => xRX m M0 r R) := by
  unfold g346_148 at e
  unfold f346_148
  exact hr90 h tx1 tx2 (xin_wr _) e
theorem s346_90b {m f : Nat} {M0 M : xj_M} {G : xG_} (hI : xHI f)  {r82 : Nat → Int → xG_ → Option (xG_)} {o82 : Nat → Nat → Int → xj_M → Option (xj_M)} {r90 : Nat → Int → Int → xG_ → Option (xG_)} {o90 : Nat → Nat → Int → Int → xj_M → Option (xj_M)}  (hr82 : ∀ {M : xj_M} {G : xG_} {x1 : Nat} {x2 : Int} {R : xG_}, xRX m M0 M G → xoL x1 → xin x2 → r82 x1 x2 G = some R → xok (o82 m (m + x1) x2 M) (fun r => xRX m M0 r R)) (hr90 : ∀ {M : xj_M} {G : xG_} {x1 : Nat} {x2 : Int} {x3 : Int} {R : xG_}, xRX m M0 M G → xoL x1 → xin x2 → xin x3 → r90 x1 x2 x3 G = some R → xok (o90 m (m + x1) x2 x3 M) (fun r => xRX m M0 r R)) (h : xRX m M0 M G) {x1 : Nat} {x2 : Int} {x3 : Int} {R : xG_} (tx1 : xoL x1) (tx2 : xin x2) (tx3 : xin x3) (e : g346_90b  r82 r90 f x1 x2 x3 G = some R) : xok (f346_90b  o82 o90 f m (m + x1) x2 x3 M) (fun r => xRX m M0 r R) := by
  unfold g346_90b at e
  unfold f346_90b
  refine xok_ite (fun c113 => ?_) (fun c113 => ?_)
  · rw [if_pos c113] at e
    exact hr82 h tx1 (xin_wr _) e
  · rw [if_neg c113] at e
    refine xok_eqb (h.pt (o := 0) (c := 15) (k := 98) (t := 269) (n := 107) (by decide) rfl (by decide) (by decide +kernel)) ?_
    by_cases c114 : 0 ≤ (x3) ∧ (x3) < 72
    · skip
      rw [if_pos c114] at e
      refine xok_eqb (h.al (o := 269) (n := 72) (by decide) rfl  c114.1 c114.2) ?_
      refine xok_eqb (h.pt (o := 0) (c := 15) (k := 99) (t := 270) (n := 107) (by decide) rfl (by decide) (by decide +kernel)) ?_
      by_cases c115 : 0 ≤ (x3) ∧ (x3) < 72
      · skip
        rw [if_pos c115] at e
        refine xok_eqb (h.al (o := 270) (n := 72) (by decide) rfl  c115.1 c115.2) ?_
        obtain ⟨R116, e117, e⟩ := xbnd e
        refine xok_call (sg343 hI  h (h.aln (o := 269) (n := 72) (by decide) rfl  c114.1 c114.2) (h.aln (o := 270) (n := 72) (by decide) rfl  c115.1 c115.2) tx2 e117) ?_
        rintro ⟨v_, M120⟩ ⟨hv_, h118, hi119⟩
        cases hv_
        refine xok_ite (fun c121 => ?_) (fun c121 => ?_)
        · rw [if_pos c121] at e
          refine xok_eqb (h118.pt (o := 0) (c := 15) (k := 98) (t := 269) (n := 107) (by decide) rfl (by decide) (by decide +kernel)) ?_
          by_cases c122 : 0 ≤ (x3) ∧ (x3) < 72
          · skip
            rw [if_pos c122] at e
            refine xok_eqb (h118.al (o := 269) (n := 72) (by decide) rfl  c122.1 c122.2) ?_
            refine xok_eqb (h118.pt (o := 0) (c := 15) (k := 98) (t := 269) (n := 107) (by decide) rfl (by decide) (by decide +kernel)) ?_
            by_cases c123 : 0 ≤ (x2) ∧ (x2) < 72
            · skip
              rw [if_pos c123] at e
              refine xok_eqb (h118.al (o := 269) (n := 72) (by decide) rfl  c123.1 c123.2) ?_
              by_cases c124 : 0 ≤ (x3) ∧ (x3) < 72
              · skip
                rw [if_pos c124] at e
                obtain ⟨M125, q126, h127⟩ := h118.sl (o := 269) (n := 72) (v := xor8 (R116.2 (269) (x3).toNat) (R116.2 (269) (x2).toNat)) (by decide) rfl c124.1 c124.2 (xiN_of _)
                refine xok_eqb q126 ?_
                obtain ⟨G128, g1, e⟩ := xbnd e
                cases g1
                have h127_ : xRX m M0 M125 (xup2 R116.2 (269) (x3).toNat (xor8 (R116.2 (269) (x3).toNat) (R116.2 (269) (x2).toNat))) := h127
                generalize hGG128 : (xup2 R116.2 (269) (x3).toNat (xor8 (R116.2 (269) (x3).toNat) (R116.2 (269) (x2).toNat))) = G128 at e h127
                clear h127_ hGG128
                refine xok_eqb (h127.pt (o := 0) (c := 15) (k := 99) (t := 270) (n := 107) (by decide) rfl (by decide) (by decide +kernel)) ?_
                by_cases c129 : 0 ≤ (x3) ∧ (x3) < 72
                · skip
                  rw [if_pos c129] at e
                  refine xok_eqb (h127.al (o := 270) (n := 72) (by decide) rfl  c129.1 c129.2) ?_
                  refine xok_eqb (h127.pt (o := 0) (c := 15) (k := 99) (t := 270) (n := 107) (by decide) rfl (by decide) (by decide +kernel)) ?_
                  by_cases c130 : 0 ≤ (x2) ∧ (x2) < 72
                  · skip
                    rw [if_pos c130] at e
                    refine xok_eqb (h127.al (o := 270) (n := 72) (by decide) rfl  c130.1 c130.2) ?_
                    by_cases c131 : 0 ≤ (x3) ∧ (x3) < 72
                    · skip
                      rw [if_pos c131] at e
                      obtain ⟨M132, q133, h134⟩ := h127.sl (o := 270) (n := 72) (v := xor8 (G128 (270) (x3).toNat) (G128 (270) (x2).toNat)) (by decide) rfl c131.1 c131.2 (xiN_of _)
                      refine xok_eqb q133 ?_
                      obtain ⟨G135, g1, e⟩ := xbnd e
                      cases g1
                      have h134_ : xRX m M0 M132 (xup2 G128 (270) (x3).toNat (xor8 (G128 (270) (x3).toNat) (G128 (270) (x2).toNat))) := h134
                      generalize hGG135 : (xup2 G128 (270) (x3).toNat (xor8 (G128 (270) (x3).toNat) (G128 (270) (x2).toNat))) = G135 at e h134
                      clear h134_ hGG135
                      exact s346_148 hI  hr82 hr90 h134 tx1 tx2 tx3 e
                    · rw [if_neg c131] at e; cases e
                  · rw [if_neg c130] at e; cases e
                · rw [if_neg c129] at e; cases e
              · rw [if_neg c124] at e; cases e
            · rw [if_neg c123] at e; cases e
          · rw [if_neg c122] at e; cases e
        · rw [if_neg c121] at e
          exact s346_148 hI  hr82 hr90 h118 tx1 tx2 tx3 e
      · rw [if_neg c115] at e; cases e
    · rw [if_neg c114] at e; cases e
theorem s346_90 {m f : Nat} {M0 : xj_M} (hI : xHI f)  {r82 : Nat → Int → xG_ → Option (xG_)} {o82 : Nat → Nat → Int → xj_M → Option (xj_M)}  (hr82 : ∀ {M : xj_M} {G : xG_} {x1 : Nat} {x2 : Int} {R : xG_}, xRX m M0 M G → xoL x1 → xin x2 → r82 x1 x2 G = some R → xok (o82 m (m + x1) x2 M) (fun r => xRX m M0 r R)) : ∀ {n : Nat} {M : xj_M} {G : xG_} {x1 : Nat} {x2 : Int} {x3 : Int} {R : xG_}, xRX m M0 M G → xoL x1 → xin x2 → xin x3 → g346_90  r82 f n x1 x2 x3 G = some R → xok (f346_90  o82 f n m (m + x1) x2 x3 M) (fun r => xRX m M0 r R) := by
  intro n
  induction n with
  | zero => intros; rename_i e; cases e
  | succ n ih =>
    intros
    rename_i h i0 i1 i2 e
    exact s346_90b hI  hr82 ih h i0 i1 i2 e
theorem s346_213 {m f : Nat} {M0 M : xj_M} {G : xG_} (hI : xHI f)  {r162 : Nat → Int → xG_ → Option (xG_)} {o162 : Nat → Nat → Int → xj_M → Option (xj_M)}  (hr162 : ∀ {M : xj_M} {G : xG_} {x1 : Nat} {x2 : Int} {R : xG_}, xRX m M0 M G → xoL x1 → xin x2 → r162 x1 x2 G = some R → xok (o162 m (m + x1) x2 M) (fun r => xRX m M0 r R)) (h : xRX m M0 M G) {x1 : Nat} {x2 : Int} {R : xG_} (tx1 : xoL x1) (tx2 : xin x2) (e : g346_213  r162 f x1 x2 G = some R) : xok (f346_213  o162 f m (m + x1) x2 M) (fun r => xRX m M0 r R) := by
  unfold g346_213 at e
  unfold f346_213
  exact hr162 h tx1 (xin_wr _) e
theorem s346_263 {m f : Nat} {M0 M : xj_M} {G : xG_} (hI : xHI f)  {r221 : Nat → Int → xG_ → Option (xG_)} {o221 : Nat → Nat → Int → xj_M → Option (xj_M)} {r229 : Nat → Int → Int → xG_ → Option (xG_)} {o229 : Nat → Nat → Int → Int → xj_M → Option (xj_M)}  (hr221 : ∀ {M : xj_M} {G : xG_} {x1 : Nat} {x2 : Int} {R : xG_}, xRX m M0 M G → xoL x1 → xin x2 → r221 x1 x2 G = some R → xok (o221 m (m + x1) x2 M) (fun r => xRX m M0 r R)) (hr229 : ∀ {M : xj_M} {G : xG_} {x1 : Nat} {x2 : Int} {x3 : Int} {R : xG_}, xRX m M0 M G → xoL x1 → xin x2 → xin x3 → r229 x1 x2 x3 G = some R → xok (o229 m (m + x1) x2 x3 M) (fun r => xRX m M0 r R)) (h : xRX m M0 M G) {x1 : Nat} {x2 : Int} {x3 : Int} {R : xG_} (tx1 : xoL x1) (tx2 : xin x2) (tx3 : xin x3) (e : g346_263  r221 r229 f x1 x2 x3 G = some R) : xok (f346_263  o221 o229 f m (m + x1) x2 x3 M) (fun r => xRX m M0 r R) := by
  unfold g346_263 at e
  unfold f346_263
  exact hr229 h tx1 tx2 (xin_wr _) e
theorem s346_229b {m f : Nat} {M0 M : xj_M} {G : xG_} (hI : xHI f)  {r221 : Nat → Int → xG_ → Option (xG_)} {o221 : Nat → Nat → Int → xj_M → Option (xj_M)} {r229 : Nat → Int → Int → xG_ → Option (xG_)} {o229 : Nat → Nat → Int → Int → xj_M → Option (xj_M)}  (hr221 : ∀ {M : xj_M} {G : xG_} {x1 : Nat} {x2 : Int} {R : xG_}, xRX m M0 M G → xoL x1 → xin x2 → r221 x1 x2 G = some R → xok (o221 m (m + x1) x2 M) (fun r => xRX m M0 r R)) (hr229 : ∀ {M : xj_M} {G : xG_} {x1 : Nat} {x2 : Int} {x3 : Int} {R : xG_}, xRX m M0 M G → xoL x1 → xin x2 → xin x3 → r229 x1 x2 x3 G = some R → xok (o229 m (m + x1) x2 x3 M) (fun r => xRX m M0 r R)) (h : xRX m M0 M G) {x1 : Nat} {x2 : Int} {x3 : Int} {R : xG_} (tx1 : xoL x1) (tx2 : xin x2) (tx3 : xin x3) (e : g346_229b  r221 r229 f x1 x2 x3 G = some R) : xok (f346_229b  o221 o229 f m (m + x1) x2 x3 M) (fun r => xRX m M0 r R) := by
  unfold g346_229b at e
  unfold f346_229b
  refine xok_ite (fun c136 => ?_) (fun c136 => ?_)
  · rw [if_pos c136] at e
    exact hr221 h tx1 tx2 e
  · rw [if_neg c136] at e
    refine xok_eqb (h.pt (o := 0) (c := 15) (k := 96) (t := 267) (n := 107) (by decide) rfl (by decide) (by decide +kernel)) ?_
    by_cases c137 : 0 ≤ (x3) ∧ (x3) < 72
    · skip
      rw [if_pos c137] at e
      refine xok_eqb (h.ab (o := 267) (n := 72) (by decide) rfl (by decide) c137.1 c137.2) ?_
      refine xok_ite (fun c138 => ?_) (fun c138 => ?_)
      · rw [if_pos c138] at e
        exact s346_263 hI  hr221 hr229 h tx1 tx2 tx3 e
      · rw [if_neg c138] at e
        obtain ⟨R139, e140, e⟩ := xbnd e
        refine xok_eqb (h.is (o := 0) (c := 15) (by decide) rfl) ?_
        refine xok_call (sg347 hI  h tx3 e140) ?_
        rintro ⟨v_, M143⟩ ⟨hv_, h141, hi142⟩
        cases hv_
        refine xok_ite (fun c144 => ?_) (fun c144 => ?_)
        · rw [if_pos c144] at e
          obtain ⟨R145, e146, e⟩ := xbnd e
          refine xok_eqb (h141.is (o := 0) (c := 15) (by decide) rfl) ?_
          refine xok_call (sg349 hI  h141 tx1 tx3 e146) ?_
          intro M149 h147
          exact s346_263 hI  hr221 hr229 h147 tx1 (show xin (1) by decide) tx3 e
        · rw [if_neg c144] at e
          exact s346_263 hI  hr221 hr229 h141 tx1 tx2 tx3 e
    · rw [if_neg c137] at e; cases e
theorem s346_229 {m f : Nat} {M0 : xj_M} (hI : xHI f)  {r221 : Nat → Int → xG_ → Option (xG_)} {o221 : Nat → Nat → Int → xj_M → Option (xj_M)}  (hr221 : ∀ {M : xj_M} {G : xG_} {x1 : Nat} {x2 : Int} {R : xG_}, xRX m M0 M G → xoL x1 → xin x2 → r221 x1 x2 G = some R → xok (o221 m (m + x1) x2 M) (fun r => xRX m M0 r R)) : ∀ {n : Nat} {M : xj_M} {G : xG_} {x1 : Nat} {x2 : Int} {x3 : Int} {R : xG_}, xRX m M0 M G → xoL x1 → xin x2 → xin x3 → g346_229  r221 f n x1 x2 x3 G = some R → xok (f346_229  o221 f n m (m + x1) x2 x3 M) (fun r => xRX m M0 r R) := by
  intro n
  induction n with
  | zero => intros; rename_i e; cases e
  | succ n ih =>
    intros
    rename_i h i0 i1 i2 e
    exact s346_229b hI  hr221 ih h i0 i1 i2 e
theorem s346_221b {m f : Nat} {M0 M : xj_M} {G : xG_} (hI : xHI f)  {r221 : Nat → Int → xG_ → Option (xG_)} {o221 : Nat → Nat → Int → xj_M → Option (xj_M)}  (hr221 : ∀ {M : xj_M} {G : xG_} {x1 : Nat} {x2 : Int} {R : xG_}, xRX m M0 M G → xoL x1 → xin x2 → r221 x1 x2 G = some R → xok (o221 m (m + x1) x2 M) (fun r => xRX m M0 r R)) (h : xRX m M0 M G) {x1 : Nat} {x2 : Int} {R : xG_} (tx1 : xoL x1) (tx2 : xin x2) (e : g346_221b  r221 f x1 x2 G = some R) : xok (f346_221b  o221 f m (m + x1) x2 M) (fun r => xRX m M0 r R) := by
  unfold g346_221b at e
  unfold f346_221b
  refine xok_ite (fun c150 => ?_) (fun c150 => ?_)
  · rw [if_pos c150] at e
    cases e
    exact ⟨_, rfl, h⟩
  · rw [if_neg c150] at e
    exact s346_229 hI  hr221 h tx1 (show xin (0) by decide) (show xin (0) by decide) e
theorem s346_221 {m f : Nat} {M0 : xj_M} (hI : xHI f)     : ∀ {n : Nat} {M : xj_M} {G : xG_} {x1 : Nat} {x2 : Int} {R : xG_}, xRX m M0 M G → xoL x1 → xin x2 → g346_221   f n x1 x2 G = some R → xok (f346_221   f n m (m + x1) x2 M) (fun r => xRX m M0 r R) := by
  intro n
  induction n with
  | zero => intros; rename_i e; cases e
  | succ n ih =>
    intros
    rename_i h i0 i1 e
    exact s346_221b hI   ih h i0 i1 e
theorem s346_162b {m f : Nat} {M0 M : xj_M} {G : xG_} (hI : xHI f)  {r162 : Nat → Int → xG_ → Option (xG_)} {o162 : Nat → Nat → Int → xj_M → Option (xj_M)}  (hr162 : ∀ {M : xj_M} {G : xG_} {x1 : Nat} {x2 : Int} {R : xG_}, xRX m M0 M G → xoL x1 → xin x2 → r162 x1 x2 G = some R → xok (o162 m (m + x1) x2 M) (fun r => xRX m M0 r R)) (h : xRX m M0 M G) {x1 : Nat} {x2 : Int} {R : xG_} (tx1 : xoL x1) (tx2 : xin x2) (e : g346_162b  r162 f x1 x2 G = some R) : xok (f346_162b  o162 f m (m + x1) x2 M) (fun r => xRX m M0 r R) := by
  unfold g346_162b at e
  unfold f346_162b
  refine xok_ite (fun c151 => ?_) (fun c151 => ?_)
  · rw [if_pos c151] at e
    exact s346_221 hI   h tx1 (show xin (1) by decide) e
  · rw [if_neg c151] at e
    refine xok_eqb (h.pt (o := 0) (c := 15) (k := 96) (t := 267) (n := 107) (by decide) rfl (by decide) (by decide +kernel)) ?_
    by_cases c152 : 0 ≤ (x2) ∧ (x2) < 72
    · skip
      rw [if_pos c152] at e
      refine xok_eqb (h.ab (o := 267) (n := 72) (by decide) rfl (by decide) c152.1 c152.2) ?_
      refine xok_ite (fun c153 => ?_) (fun c153 => ?_)
      · rw [if_pos c153] at e
        exact s346_213 hI  hr162 h tx1 tx2 e
      · rw [if_neg c153] at e
        refine xok_eqb (h.pt (o := 0) (c := 15) (k := 98) (t := 269) (n := 107) (by decide) rfl (by decide) (by decide +kernel)) ?_
        by_cases c154 : 0 ≤ (x2) ∧ (x2) < 72
        · skip
          rw [if_pos c154] at e
          refine xok_eqb (h.al (o := 269) (n := 72) (by decide) rfl  c154.1 c154.2) ?_
          refine xok_eqb (h.pt (o := 0) (c := 15) (k := 99) (t := 270) (n := 107) (by decide) rfl (by decide) (by decide +kernel)) ?_
          by_cases c155 : 0 ≤ (x2) ∧ (x2) < 72
          · skip
            rw [if_pos c155] at e
            refine xok_eqb (h.al (o := 270) (n := 72) (by decide) rfl  c155.1 c155.2) ?_
            obtain ⟨R156, e157, e⟩ := xbnd e
            refine xok_call (sg343 hI  h (h.aln (o := 269) (n := 72) (by decide) rfl  c154.1 c154.2) (h.aln (o := 270) (n := 72) (by decide) rfl  c155.1 c155.2) tx2 e157) ?_
            rintro ⟨v_, M160⟩ ⟨hv_, h158, hi159⟩
            cases hv_
            refine xok_ite (fun c161 => ?_) (fun c161 => ?_)
            · rw [if_pos c161] at e
              refine xok_eqb (h158.pt (o := 0) (c := 15) (k := 96) (t := 267) (n := 107) (by decide) rfl (by decide) (by decide +kernel)) ?_
              by_cases c162 : 0 ≤ (x2) ∧ (x2) < 72
              · skip
                rw [if_pos c162] at e
                obtain ⟨M163, q164, h165⟩ := h158.sb0 (o := 267) (n := 72) (v := 1) (by decide) rfl c162.1 c162.2 (by decide)
                refine xok_eqb q164 ?_
                obtain ⟨G166, g1, e⟩ := xbnd e
                cases g1
                have h165_ : xRX m M0 M163 (xup2 R156.2 (267) (x2).toNat (1)) := h165
                generalize hGG166 : (xup2 R156.2 (267) (x2).toNat (1)) = G166 at e h165
                clear h165_ hGG166
                obtain ⟨R167, e168, e⟩ := xbnd e
                refine xok_call (sg348 hI  h165 tx1 tx2 (show xin (2) by decide) (show xiN (1) by decide) e168) ?_
                intro M171 h169
                exact s346_213 hI  hr162 h169 tx1 tx2 e
              · rw [if_neg c162] at e; cases e
            · rw [if_neg c161] at e
              exact s346_213 hI  hr162 h158 tx1 tx2 e
          · rw [if_neg c155] at e; cases e
        · rw [if_neg c154] at e; cases e
    · rw [if_neg c152] at e; cases e
theorem s346_162 {m f : Nat} {M0 : xj_M} (hI : xHI f)     : ∀ {n : Nat} {M : xj_M} {G : xG_} {x1 : Nat} {x2 : Int} {R : xG_}, xRX m M0 M G → xoL x1 → xin x2 → g346_162   f n x1 x2 G = some R → xok (f346_162   f n m (m + x1) x2 M) (fun r => xRX m M0 r R) := by
  intro n
  induction n with
  | zero => intros; rename_i e; cases e
  | succ n ih =>
    intros
    rename_i h i0 i1 e
    exact s346_162b hI   ih h i0 i1 e
theorem s346_82b {m f : Nat} {M0 M : xj_M} {G : xG_} (hI : xHI f)  {r82 : Nat → Int → xG_ → Option (xG_)} {o82 : Nat → Nat → Int → xj_M → Option (xj_M)}  (hr82 : ∀ {M : xj_M} {G : xG_} {x1 : Nat} {x2 : Int} {R : xG_}, xRX m M0 M G → xoL x1 → xin x2 → r82 x1 x2 G = some R → xok (o82 m (m + x1) x2 M) (fun r => xRX m M0 r R)) (h : xRX m M0 M G) {x1 : Nat} {x2 : Int} {R : xG_} (tx1 : xoL x1) (tx2 : xin x2) (e : g346_82b  r82 f x1 x2 G = some R) : xok (f346_82b  o82 f m (m + x1) x2 M) (fun r => xRX m M0 r R) := by
  unfold g346_82b at e
  unfold f346_82b
  refine xok_ite (fun c172 => ?_) (fun c172 => ?_)
  · rw [if_pos c172] at e
    exact s346_162 hI   h tx1 (show xin (0) by decide) e
  · rw [if_neg c172] at e
    exact s346_90 hI  hr82 h tx1 tx2 (show xin (0) by decide) e
theorem s346_82 {m f : Nat} {M0 : xj_M} (hI : xHI f)     : ∀ {n : Nat} {M : xj_M} {G : xG_} {x1 : Nat} {x2 : Int} {R : xG_}, xRX m M0 M G → xoL x1 → xin x2 → g346_82   f n x1 x2 G = some R → xok (f346_82   f n m (m + x1) x2 M) (fun r => xRX m M0 r R) := by
  intro n
  induction n with
  | zero => intros; rename_i e; cases e
  | succ n ih =>
    intros
    rename_i h i0 i1 e
    exact s346_82b hI   ih h i0 i1 e
theorem s346_2b {m f : Nat} {M0 M : xj_M} {G : xG_} (hI : xHI f)  {r2 : Nat → Int → xG_ → Option (xG_)} {o2 : Nat → Nat → Int → xj_M → Option (xj_M)}  (hr2 : ∀ {M : xj_M} {G : xG_} {x1 : Nat} {x2 : Int} {R : xG_}, xRX m M0 M G → xoL x1 → xin x2 → r2 x1 x2 G = some R → xok (o2 m (m + x1) x2 M) (fun r => xRX m M0 r R)) (h : xRX m M0 M G) {x1 : Nat} {x2 : Int} {R : xG_} (tx1 : xoL x1) (tx2 : xin x2) (e : g346_2b  r2 f x1 x2 G = some R) : xok (f346_2b  o2 f m (m + x1) x2 M) (fun r => xRX m M0 r R) := by
  unfold g346_2b at e
  unfold f346_2b
  refine xok_ite (fun c173 => ?_) (fun c173 => ?_)
  · rw [if_pos c173] at e
    exact s346_82 hI   h tx1 (show xin (0) by decide) e
  · rw [if_neg c173] at e
    obtain ⟨R174, e175, e⟩ := xbnd e
    refine xok_eqb (h.is (o := 0) (c := 15) (by decide) rfl) ?_
    refine xok_call (sg344 hI  h tx1 tx2 e175) ?_
    intro M178 h176
    refine xok_eqb (h176.pt (o := 0) (c := 15) (k := 98) (t := 269) (n := 107) (by decide) rfl (by decide) (by decide +kernel)) ?_
    refine xok_eqb (h176.pt (o := 0) (c := 15) (k := 92) (t := 263) (n := 107) (by decide) rfl (by decide) (by decide +kernel)) ?_
    by_cases c179 : 0 ≤ (x2) ∧ (x2) < 72
    · skip
      rw [if_pos c179] at e
      refine xok_eqb (h176.al (o := 263) (n := 72) (by decide) rfl  c179.1 c179.2) ?_
      by_cases c180 : 0 ≤ (x2) ∧ (x2) < 72
      · skip
        rw [if_pos c180] at e
        obtain ⟨M181, q182, h183⟩ := h176.sl (o := 269) (n := 72) (v := R174 (263) (x2).toNat) (by decide) rfl c180.1 c180.2 (h176.aln (o := 263) (n := 72) (by decide) rfl  c179.1 c179.2)
        refine xok_eqb q182 ?_
        obtain ⟨G184, g1, e⟩ := xbnd e
        cases g1
        have h183_ : xRX m M0 M181 (xup2 R174 (269) (x2).toNat (R174 (263) (x2).toNat)) := h183
        generalize hGG184 : (xup2 R174 (269) (x2).toNat (R174 (263) (x2).toNat)) = G184 at e h183
        clear h183_ hGG184
        refine xok_eqb (h183.pt (o := 0) (c := 15) (k := 99) (t := 270) (n := 107) (by decide) rfl (by decide) (by decide +kernel)) ?_
        refine xok_eqb (h183.pt (o := 0) (c := 15) (k := 93) (t := 264) (n := 107) (by decide) rfl (by decide) (by decide +kernel)) ?_
        by_cases c185 : 0 ≤ (x2) ∧ (x2) < 72
        · skip
          rw [if_pos c185] at e
          refine xok_eqb (h183.al (o := 264) (n := 72) (by decide) rfl  c185.1 c185.2) ?_
          by_cases c186 : 0 ≤ (x2) ∧ (x2) < 72
          · skip
            rw [if_pos c186] at e
            obtain ⟨M187, q188, h189⟩ := h183.sl (o := 270) (n := 72) (v := G184 (264) (x2).toNat) (by decide) rfl c186.1 c186.2 (h183.aln (o := 264) (n := 72) (by decide) rfl  c185.1 c185.2)
            refine xok_eqb q188 ?_
            obtain ⟨G190, g1, e⟩ := xbnd e
            cases g1
            have h189_ : xRX m M0 M187 (xup2 G184 (270) (x2).toNat (G184 (264) (x2).toNat)) := h189
            generalize hGG190 : (xup2 G184 (270) (x2).toNat (G184 (264) (x2).toNat)) = G190 at e h189
            clear h189_ hGG190
            refine xok_eqb (h189.pt (o := 0) (c := 15) (k := 96) (t := 267) (n := 107) (by decide) rfl (by decide) (by decide +kernel)) ?_
            refine xok_eqb (h189.pt (o := x1) (c := 13) (k := 18) (t := x1 + 15) (n := 37) (xoL_o tx1).1 (xoL_o tx1).2 (by decide) (xoL_all tx1 (Q := fun p => (p, 18, p + 15) ∈ xl_P) (by decide +kernel) (by decide +kernel) (by decide +kernel) (by decide +kernel))) ?_
            by_cases c191 : 0 ≤ (x2) ∧ (x2) < 72
            · skip
              rw [if_pos c191] at e
              refine xok_eqb (h189.ai (o := x1 + 15) (n := 72) (xoL_all tx1 (Q := fun p => p + 15 < 276) (by decide) (by decide) (by decide) (by decide)) (xoL_all tx1 (Q := fun p => xl_t (p + 15) = (2, 3, 72)) rfl rfl rfl rfl) (by decide) c191.1 c191.2) ?_
              refine xok_ite (fun c192 => ?_) (fun c192 => ?_)
              · rw [if_pos c192] at e
                exact s346_57 hI  hr2 h189 tx1 tx2 (show xin (0) by decide) tx2 (show xoZ 267 from ⟨by decide, rfl⟩) e
              · rw [if_neg c192] at e
                exact s346_57 hI  hr2 h189 tx1 tx2 (show xin (1) by decide) tx2 (show xoZ 267 from ⟨by decide, rfl⟩) e
            · rw [if_neg c191] at e; cases e
          · rw [if_neg c186] at e; cases e
        · rw [if_neg c185] at e; cases e
      · rw [if_neg c180] at e; cases e
    · rw [if_neg c179] at e; cases e
theorem s346_2 {m f : Nat} {M0 : xj_M} (hI : xHI f)     : ∀ {n : Nat} {M : xj_M} {G : xG_} {x1 : Nat} {x2 : Int} {R : xG_}, xRX m M0 M G → xoL x1 → xin x2 → g346_2   f n x1 x2 G = some R → xok (f346_2   f n m (m + x1) x2 M) (fun r => xRX m M0 r R) := by
  intro n
  induction n with
  | zero => intros; rename_i e; cases e
  | succ n ih =>
    intros
    rename_i h i0 i1 e
    exact s346_2b hI   ih h i0 i1 e
theorem sg346 {m f : Nat} {M0 M : xj_M} {G : xG_} (hI : xHI f)   (h : xRX m M0 M G) {a1 : Nat} {R : xG_} (ta1 : xoL a1) (e : g346  f a1 G = some R) : xok (f346  f m (m + a1) M) (fun r => xRX m M0 r R) := by
  unfold g346 at e
  unfold f346
  exact s346_2 hI   h ta1 (show xin (0) by decide) e
