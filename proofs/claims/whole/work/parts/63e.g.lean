/-! The reference over what stands at its cells (written by mk_g.py) -/
-- ChangeHouseModel.feed
theorem s359_76 {m f : Nat} {M0 M : xj_M} {G : xG_} (hI : xHI f)  {r23 : Int → Int → Int → Int → Int → Int → xG_ → Option (Int × xG_)} {o23 : Nat → Int → Int → Int → Int → Int → Int → xj_M → Option (Int × xj_M)}  (hr23 : ∀ {M : xj_M} {G : xG_} {x1 : Int} {x2 : Int} {x3 : Int} {x4 : Int} {x5 : Int} {x6 : Int} {R : Int × xG_}, xRX m M0 M G → xin x1 → xin x2 → xin x3 → xin x4 → xin x5 → xin x6 → r23 x1 x2 x3 x4 x5 x6 G = some R → xok (o23 m x1 x2 x3 x4 x5 x6 M) (fun r => r.1 = R.1 ∧ xRX m M0 r.2 R.2 ∧ xin R.1)) (h : xRX m M0 M G) {x1 : Int} {x2 : Int} {x3 : Int} {x4 : Int} {x5 : Int} {x6 : Int} {y0 : Int} {R : Int × xG_} (tx1 : xin x1) (tx2 : xin x2) (tx3 : xin x3) (tx4 : xin x4) (tx5 : xin x5) (tx6 : xin x6) (ty0 : xin y0) (e : g359_76  r23 f x1 x2 x3 x4 x5 x6 y0 G = some R) : xok (f359_76  o23 f m x1 x2 x3 x4 x5 x6 y0 M) (fun r => r.1 = R.1 ∧ xRX m M0 r.2 R.2 ∧ xin R.1) := by
  unfold g359_76 at e
  unfold f359_76
  refine xok_eqb (h.pt (o := 0) (c := 15) (k := 68) (t := 240) (n := 107) (by decide) rfl (by decide) (by decide +kernel)) ?_
  refine xok_eqb (h.gi (o := 0) (c := 15) (k := 73) (n := 107) (by decide) rfl (by decide) (by decide)) ?_
  by_cases c101 : 0 ≤ (G (0) 73) ∧ (G (0) 73) < 3000
  · skip
    rw [if_pos c101] at e
    obtain ⟨M102, q103, h104⟩ := h.sb1 (o := 240) (n := 3000) (v := xi2b (xshr (y0) (xwr ((24) - (xwr ((xrem (x6) (4)) * (8))))))) (by decide) rfl c101.1 c101.2
    refine xok_eqb q103 ?_
    obtain ⟨G105, g1, e⟩ := xbnd e
    cases g1
    have h104_ : xRX m M0 M102 (xup2 G (240) (G (0) 73).toNat (xnar .byte (xi2b (xshr (y0) (xwr ((24) - (xwr ((xrem (x6) (4)) * (8))))))))) := h104
    generalize hGG105 : (xup2 G (240) (G (0) 73).toNat (xnar .byte (xi2b (xshr (y0) (xwr ((24) - (xwr ((xrem (x6) (4)) * (8))))))))) = G105 at e h104
    clear h104_ hGG105
    refine xok_eqb (h104.gi (o := 0) (c := 15) (k := 73) (n := 107) (by decide) rfl (by decide) (by decide)) ?_
    obtain ⟨M106, q107, h108⟩ := h104.pi (v := xwr ((G105 (0) 73) + (1))) (o := 0) (c := 15) (k := 73) (n := 107) (by decide) rfl (by decide) (by decide) (xin_wr _)
    refine xok_eqb q107 ?_
    obtain ⟨G109, g1, e⟩ := xbnd e
    cases g1
    have h108_ : xRX m M0 M106 (xup2 G105 (0) 73 (xwr ((G105 (0) 73) + (1)))) := h108
    generalize hGG109 : (xup2 G105 (0) 73 (xwr ((G105 (0) 73) + (1)))) = G109 at e h108
    clear h108_ hGG109
    exact hr23 h108 tx1 tx2 tx3 tx4 tx5 (xin_wr _) e
  · rw [if_neg c101] at e; cases e
theorem s359_23b {m f : Nat} {M0 M : xj_M} {G : xG_} (hI : xHI f)  {r23 : Int → Int → Int → Int → Int → Int → xG_ → Option (Int × xG_)} {o23 : Nat → Int → Int → Int → Int → Int → Int → xj_M → Option (Int × xj_M)}  (hr23 : ∀ {M : xj_M} {G : xG_} {x1 : Int} {x2 : Int} {x3 : Int} {x4 : Int} {x5 : Int} {x6 : Int} {R : Int × xG_}, xRX m M0 M G → xin x1 → xin x2 → xin x3 → xin x4 → xin x5 → xin x6 → r23 x1 x2 x3 x4 x5 x6 G = some R → xok (o23 m x1 x2 x3 x4 x5 x6 M) (fun r => r.1 = R.1 ∧ xRX m M0 r.2 R.2 ∧ xin R.1)) (h : xRX m M0 M G) {x1 : Int} {x2 : Int} {x3 : Int} {x4 : Int} {x5 : Int} {x6 : Int} {R : Int × xG_} (tx1 : xin x1) (tx2 : xin x2) (tx3 : xin x3) (tx4 : xin x4) (tx5 : xin x5) (tx6 : xin x6) (e : g359_23b  r23 f x1 x2 x3 x4 x5 x6 G = some R) : xok (f359_23b  o23 f m x1 x2 x3 x4 x5 x6 M) (fun r => r.1 = R.1 ∧ xRX m M0 r.2 R.2 ∧ xin R.1) := by
  unfold g359_23b at e
  unfold f359_23b
  refine xok_ite (fun c110 => ?_) (fun c110 => ?_)
  · rw [if_pos c110] at e
    cases e
    exact ⟨_, rfl, rfl, h, (show xin (1) by decide)⟩
  · rw [if_neg c110] at e
    refine xok_ite (fun c111 => ?_) (fun c111 => ?_)
    · rw [if_pos c111] at e
      refine xok_ite (fun c112 => ?_) (fun c112 => ?_)
      · rw [if_pos c112] at e
        refine xok_ite (fun c113 => ?_) (fun c113 => ?_)
        · rw [if_pos c113] at e
          refine xok_ite (fun c114 => ?_) (fun c114 => ?_)
          · rw [if_pos c114] at e
            exact s359_76 hI  hr23 h tx1 tx2 tx3 tx4 tx5 tx6 tx5 e
          · rw [if_neg c114] at e
            exact s359_76 hI  hr23 h tx1 tx2 tx3 tx4 tx5 tx6 tx4 e
        · rw [if_neg c113] at e
          exact s359_76 hI  hr23 h tx1 tx2 tx3 tx4 tx5 tx6 tx3 e
      · rw [if_neg c112] at e
        exact s359_76 hI  hr23 h tx1 tx2 tx3 tx4 tx5 tx6 tx2 e
    · rw [if_neg c111] at e
      exact s359_76 hI  hr23 h tx1 tx2 tx3 tx4 tx5 tx6 tx1 e
theorem s359_23 {m f : Nat} {M0 : xj_M} (hI : xHI f)     : ∀ {n : Nat} {M : xj_M} {G : xG_} {x1 : Int} {x2 : Int} {x3 : Int} {x4 : Int} {x5 : Int} {x6 : Int} {R : Int × xG_}, xRX m M0 M G → xin x1 → xin x2 → xin x3 → xin x4 → xin x5 → xin x6 → g359_23   f n x1 x2 x3 x4 x5 x6 G = some R → xok (f359_23   f n m x1 x2 x3 x4 x5 x6 M) (fun r => r.1 = R.1 ∧ xRX m M0 r.2 R.2 ∧ xin R.1) := by
  intro n
  induction n with
  | zero => intros; rename_i e; cases e
  | succ n ih =>
    intros
    rename_i h i0 i1 i2 i3 i4 i5 e
    exact s359_23b hI   ih h i0 i1 i2 i3 i4 i5 e
theorem sg359 {m f : Nat} {M0 M : xj_M} {G : xG_} (hI : xHI f)   (h : xRX m M0 M G) {a1 : Int} {a2 : Int} {a3 : Int} {a4 : Int} {a5 : Int} {R : Int × xG_} (ta1 : xin a1) (ta2 : xin a2) (ta3 : xin a3) (ta4 : xin a4) (ta5 : xin a5) (e : g359  f a1 a2 a3 a4 a5 G = some R) : xok (f359  f m a1 a2 a3 a4 a5 M) (fun r => r.1 = R.1 ∧ xRX m M0 r.2 R.2 ∧ xin R.1) := by
  unfold g359 at e
  unfold f359
  obtain ⟨M115, q116, h117⟩ := h.pi (v := 0) (o := 0) (c := 15) (k := 74) (n := 107) (by decide) rfl (by decide) (by decide) (show xin (0) by decide)
  refine xok_eqb q116 ?_
  obtain ⟨G118, g1, e⟩ := xbnd e
  cases g1
  have h117_ : xRX m M0 M115 (xup2 G (0) 74 (0)) := h117
  generalize hGG118 : (xup2 G (0) 74 (0)) = G118 at e h117
  clear h117_ hGG118
  refine xok_eqb (h117.gi (o := 0) (c := 15) (k := 73) (n := 107) (by decide) rfl (by decide) (by decide)) ?_
  refine xok_ite (fun c119 => ?_) (fun c119 => ?_)
  · rw [if_pos c119] at e
    exact s359_23 hI   h117 ta1 ta2 ta3 ta4 ta5 (show xin (0) by decide) e
  · rw [if_neg c119] at e
    cases e
    exact ⟨_, rfl, rfl, h117, (show xin (0) by decide)⟩
-- ChangeHouseModel.end
theorem s360_17 {m f : Nat} {M0 M : xj_M} {G : xG_} (hI : xHI f)     (h : xRX m M0 M G)  {R : Int × xG_}  (e : g360_17   f  G = some R) : xok (f360_17   f  M) (fun r => r.1 = R.1 ∧ xRX m M0 r.2 R.2 ∧ xin R.1) := by
  unfold g360_17 at e
  unfold f360_17
  cases e
  exact ⟨_, rfl, rfl, h, (show xin (0) by decide)⟩
theorem sg360 {m f : Nat} {M0 M : xj_M} {G : xG_} (hI : xHI f)   (h : xRX m M0 M G) {a1 : Int} {R : Int × xG_} (ta1 : xin a1) (e : g360  f a1 G = some R) : xok (f360  f m a1 M) (fun r => r.1 = R.1 ∧ xRX m M0 r.2 R.2 ∧ xin R.1) := by
  unfold g360 at e
  unfold f360
  obtain ⟨M101, q102, h103⟩ := h.pi (v := 0) (o := 0) (c := 15) (k := 74) (n := 107) (by decide) rfl (by decide) (by decide) (show xin (0) by decide)
  refine xok_eqb q102 ?_
  obtain ⟨G104, g1, e⟩ := xbnd e
  cases g1
  have h103_ : xRX m M0 M101 (xup2 G (0) 74 (0)) := h103
  generalize hGG104 : (xup2 G (0) 74 (0)) = G104 at e h103
  clear h103_ hGG104
  refine xok_ite (fun c105 => ?_) (fun c105 => ?_)
  · rw [if_pos c105] at e
    exact s360_17 hI   h103  e
  · rw [if_neg c105] at e
    refine xok_eqb (h103.gi (o := 0) (c := 15) (k := 73) (n := 107) (by decide) rfl (by decide) (by decide)) ?_
    refine xok_ite (fun c106 => ?_) (fun c106 => ?_)
    · rw [if_pos c106] at e
      obtain ⟨M107, q108, h109⟩ := h103.pi (v := a1) (o := 0) (c := 15) (k := 73) (n := 107) (by decide) rfl (by decide) (by decide) ta1
      refine xok_eqb q108 ?_
      obtain ⟨G110, g1, e⟩ := xbnd e
      cases g1
      have h109_ : xRX m M0 M107 (xup2 G104 (0) 73 (a1)) := h109
      generalize hGG110 : (xup2 G104 (0) 73 (a1)) = G110 at e h109
      clear h109_ hGG110
      cases e
      exact ⟨_, rfl, rfl, h109, (show xin (1) by decide)⟩
    · rw [if_neg c106] at e
      exact s360_17 hI   h103  e
-- ChangeHouseModel.take
theorem sg361 {m f : Nat} {M0 M : xj_M} {G : xG_} (hI : xHI f)   (h : xRX m M0 M G)  {R : Int × xG_}  (e : g361  f  G = some R) : xok (f361  f m M) (fun r => r.1 = R.1 ∧ xRX m M0 r.2 R.2 ∧ xin R.1) := by
  unfold g361 at e
  unfold f361
  obtain ⟨M101, q102, h103⟩ := h.pi (v := 0) (o := 0) (c := 15) (k := 74) (n := 107) (by decide) rfl (by decide) (by decide) (show xin (0) by decide)
  refine xok_eqb q102 ?_
  obtain ⟨G104, g1, e⟩ := xbnd e
  cases g1
  have h103_ : xRX m M0 M101 (xup2 G (0) 74 (0)) := h103
  generalize hGG104 : (xup2 G (0) 74 (0)) = G104 at e h103
  clear h103_ hGG104
  refine xok_eqb (h103.gi (o := 0) (c := 15) (k := 73) (n := 107) (by decide) rfl (by decide) (by decide)) ?_
  obtain ⟨M105, q106, h107⟩ := h103.pi (v := 0) (o := 0) (c := 15) (k := 73) (n := 107) (by decide) rfl (by decide) (by decide) (show xin (0) by decide)
  refine xok_eqb q106 ?_
  obtain ⟨G108, g1, e⟩ := xbnd e
  cases g1
  have h107_ : xRX m M0 M105 (xup2 G104 (0) 73 (0)) := h107
  generalize hGG108 : (xup2 G104 (0) 73 (0)) = G108 at e h107
  clear h107_ hGG108
  cases e
  exact ⟨_, rfl, rfl, h107, (h103.gin (o := 0) (c := 15) (k := 73) (n := 107) (by decide) rfl (by decide) (by decide))⟩
-- ChangeHouseModel.refused
theorem sg362 {m f : Nat} {M0 M : xj_M} {G : xG_} (hI : xHI f)   (h : xRX m M0 M G) {a1 : Int} {a2 : Int} {R : Int × xG_} (ta1 : xin a1) (ta2 : xin a2) (e : g362  f a1 a2 G = some R) : xok (f362  f m a1 a2 M) (fun r => r.1 = R.1 ∧ xRX m M0 r.2 R.2 ∧ xin R.1) := by
  unfold g362 at e
  unfold f362
  obtain ⟨M101, q102, h103⟩ := h.pi (v := a2) (o := 0) (c := 15) (k := 75) (n := 107) (by decide) rfl (by decide) (by decide) ta2
  refine xok_eqb q102 ?_
  obtain ⟨G104, g1, e⟩ := xbnd e
  cases g1
  have h103_ : xRX m M0 M101 (xup2 G (0) 75 (a2)) := h103
  generalize hGG104 : (xup2 G (0) 75 (a2)) = G104 at e h103
  clear h103_ hGG104
  cases e
  exact ⟨_, rfl, rfl, h103, (xin_wr _)⟩
-- ChangeHouseModel.place
theorem sg364 {m f : Nat} {M0 M : xj_M} {G : xG_} (hI : xHI f)   (h : xRX m M0 M G)  {R : Int × xG_}  (e : g364  f  G = some R) : xok (f364  f m M) (fun r => r.1 = R.1 ∧ xRX m M0 r.2 R.2 ∧ xin R.1) := by
  unfold g364 at e
  unfold f364
  obtain ⟨M101, q102, h103⟩ := h.pi (v := 0) (o := 0) (c := 15) (k := 74) (n := 107) (by decide) rfl (by decide) (by decide) (show xin (0) by decide)
  refine xok_eqb q102 ?_
  obtain ⟨G104, g1, e⟩ := xbnd e
  cases g1
  have h103_ : xRX m M0 M101 (xup2 G (0) 74 (0)) := h103
  generalize hGG104 : (xup2 G (0) 74 (0)) = G104 at e h103
  clear h103_ hGG104
  refine xok_eqb (h103.gi (o := 0) (c := 15) (k := 75) (n := 107) (by decide) rfl (by decide) (by decide)) ?_
  cases e
  exact ⟨_, rfl, rfl, h103, (h103.gin (o := 0) (c := 15) (k := 75) (n := 107) (by decide) rfl (by decide) (by decide))⟩
-- ChangeHouseModel.forget
theorem sg367 {m f : Nat} {M0 M : xj_M} {G : xG_} (hI : xHI f)   (h : xRX m M0 M G)  {R : Int × xG_}  (e : g367  f  G = some R) : xok (f367  f m M) (fun r => r.1 = R.1 ∧ xRX m M0 r.2 R.2 ∧ xin R.1) := by
  unfold g367 at e
  unfold f367
  obtain ⟨M101, q102, h103⟩ := h.pi (v := 0) (o := 0) (c := 15) (k := 74) (n := 107) (by decide) rfl (by decide) (by decide) (show xin (0) by decide)
  refine xok_eqb q102 ?_
  obtain ⟨G104, g1, e⟩ := xbnd e
  cases g1
  have h103_ : xRX m M0 M101 (xup2 G (0) 74 (0)) := h103
  generalize hGG104 : (xup2 G (0) 74 (0)) = G104 at e h103
  clear h103_ hGG104
  refine xok_eqb (h103.pt (o := 0) (c := 15) (k := 61) (t := 122) (n := 107) (by decide) rfl (by decide) (by decide +kernel)) ?_
  refine xok_eqb (h103.gi (o := 0) (c := 15) (k := 62) (n := 107) (by decide) rfl (by decide) (by decide)) ?_
  by_cases c105 : 0 ≤ (G104 (0) 62) ∧ (G104 (0) 62) < 4
  · skip
    rw [if_pos c105] at e
    refine xok_eqb (h103.lin c105) ?_
    refine xok_eqb (h103.gi (o := 123 + 29 * (G104 (0) 62).toNat) (c := 13) (k := 33) (n := 37) (xoL_o (xoL_of c105)).1 (xoL_o (xoL_of c105)).2 (by decide) (by decide)) ?_
    refine xok_eqb (h103.pt (o := 0) (c := 15) (k := 61) (t := 122) (n := 107) (by decide) rfl (by decide) (by decide +kernel)) ?_
    refine xok_eqb (h103.gi (o := 0) (c := 15) (k := 62) (n := 107) (by decide) rfl (by decide) (by decide)) ?_
    by_cases c106 : 0 ≤ (G104 (0) 62) ∧ (G104 (0) 62) < 4
    · skip
      rw [if_pos c106] at e
      refine xok_eqb (h103.lin c106) ?_
      obtain ⟨R107, e108, e⟩ := xbnd e
      refine xok_eqb (h103.is (o := 123 + 29 * (G104 (0) 62).toNat) (c := 13) (xoL_o (xoL_of c106)).1 (xoL_o (xoL_of c106)).2) ?_
      refine xok_call (sg202 hI  h103 (xoL_of c106) e108) ?_
      intro M111 h109
      cases e
      exact ⟨_, rfl, rfl, h109, (h103.gin (o := 123 + 29 * (G104 (0) 62).toNat) (c := 13) (k := 33) (n := 37) (xoL_o (xoL_of c105)).1 (xoL_o (xoL_of c105)).2 (by decide) (by decide))⟩
    · rw [if_neg c106] at e; cases e
  · rw [if_neg c105] at e; cases e
-- ChangeHouseModel.answer
theorem s370_48 {m f : Nat} {M0 M : xj_M} {G : xG_} (hI : xHI f)     (h : xRX m M0 M G) {y0 : Int} {R : Int × xG_} (ty0 : xiN y0) (e : g370_48   f y0 G = some R) : xok (f370_48   f y0 M) (fun r => r.1 = R.1 ∧ xRX m M0 r.2 R.2 ∧ xiN R.1) := by
  unfold g370_48 at e
  unfold f370_48
  cases e
  exact ⟨_, rfl, rfl, h, ty0⟩
theorem s370_29 {m f : Nat} {M0 M : xj_M} {G : xG_} (hI : xHI f)     (h : xRX m M0 M G)  {R : Int × xG_}  (e : g370_29   f  G = some R) : xok (f370_29   f m M) (fun r => r.1 = R.1 ∧ xRX m M0 r.2 R.2 ∧ xiN R.1) := by
  unfold g370_29 at e
  unfold f370_29
  obtain ⟨R101, e102, e⟩ := xbnd e
  refine xok_eqb (h.is (o := 0) (c := 15) (by decide) rfl) ?_
  refine xok_call (sg321 hI  h  e102) ?_
  rintro ⟨v_, M105⟩ ⟨hv_, h103, hi104⟩
  cases hv_
  exact s370_48 hI   h103 (xin_N hi104) e
theorem sg370 {m f : Nat} {M0 M : xj_M} {G : xG_} (hI : xHI f)   (h : xRX m M0 M G) {a1 : Int} {a2 : Int} {R : Int × xG_} (ta1 : xin a1) (ta2 : xin a2) (e : g370  f a1 a2 G = some R) : xok (f370  f m a1 a2 M) (fun r => r.1 = R.1 ∧ xRX m M0 r.2 R.2 ∧ xiN R.1) := by
  unfold g370 at e
  unfold f370
  obtain ⟨M106, q107, h108⟩ := h.pi (v := 0) (o := 0) (c := 15) (k := 74) (n := 107) (by decide) rfl (by decide) (by decide) (show xin (0) by decide)
  refine xok_eqb q107 ?_
  obtain ⟨G109, g1, e⟩ := xbnd e
  cases g1
  have h108_ : xRX m M0 M106 (xup2 G (0) 74 (0)) := h108
  generalize hGG109 : (xup2 G (0) 74 (0)) = G109 at e h108
  clear h108_ hGG109
  refine xok_ite (fun c110 => ?_) (fun c110 => ?_)
  · rw [if_pos c110] at e
    exact s370_29 hI   h108  e
  · rw [if_neg c110] at e
    refine xok_eqb (h108.gi (o := 0) (c := 15) (k := 105) (n := 107) (by decide) rfl (by decide) (by decide)) ?_
    refine xok_ite (fun c111 => ?_) (fun c111 => ?_)
    · rw [if_pos c111] at e
      exact s370_29 hI   h108  e
    · rw [if_neg c111] at e
      refine xok_ite (fun c112 => ?_) (fun c112 => ?_)
      · rw [if_pos c112] at e
        exact s370_29 hI   h108  e
      · rw [if_neg c112] at e
        refine xok_eqb (h108.gi (o := 0) (c := 15) (k := 106) (n := 107) (by decide) rfl (by decide) (by decide)) ?_
        refine xok_ite (fun c113 => ?_) (fun c113 => ?_)
        · rw [if_pos c113] at e
          refine xok_eqb (h108.pt (o := 0) (c := 15) (k := 104) (t := 275) (n := 107) (by decide) rfl (by decide) (by decide +kernel)) ?_
          by_cases c114 : 0 ≤ (xwr ((xwr ((8) * (a1))) + (a2))) ∧ (xwr ((xwr ((8) * (a1))) + (a2))) < 4000
          · skip
            rw [if_pos c114] at e
            refine xok_eqb (h108.al (o := 275) (n := 4000) (by decide) rfl  c114.1 c114.2) ?_
            exact s370_48 hI   h108 (h108.aln (o := 275) (n := 4000) (by decide) rfl  c114.1 c114.2) e
          · rw [if_neg c114] at e; cases e
        · rw [if_neg c113] at e
          exact s370_29 hI   h108  e
-- ChangeHouseModel.isRow
theorem s371_34 {m f : Nat} {M0 M : xj_M} {G : xG_} (hI : xHI f)     (h : xRX m M0 M G) {y0 : Int} {R : Int × xG_} (ty0 : xin y0) (e : g371_34   f y0 G = some R) : xok (f371_34   f y0 M) (fun r => r.1 = R.1 ∧ xRX m M0 r.2 R.2 ∧ xin R.1) := by
  unfold g371_34 at e
  unfold f371_34
  refine xok_ite (fun c101 => ?_) (fun c101 => ?_)
  · rw [if_pos c101] at e; cases e; exact ⟨_, rfl, rfl, h, ty0⟩
  · rw [if_neg c101] at e; cases e
theorem s371_33 {m f : Nat} {M0 M : xj_M} {G : xG_} (hI : xHI f)     (h : xRX m M0 M G)  {R : Int × xG_}  (e : g371_33   f  G = some R) : xok (f371_33   f  M) (fun r => r.1 = R.1 ∧ xRX m M0 r.2 R.2 ∧ xin R.1) := by
  unfold g371_33 at e
  unfold f371_33
  exact s371_34 hI   h (show xin (0) by decide) e
theorem sg371 {m f : Nat} {M0 M : xj_M} {G : xG_} (hI : xHI f)   (h : xRX m M0 M G) {a1 : Int} {a2 : Int} {R : Int × xG_} (ta1 : xin a1) (ta2 : xin a2) (e : g371  f a1 a2 G = some R) : xok (f371  f m a1 a2 M) (fun r => r.1 = R.1 ∧ xRX m M0 r.2 R.2 ∧ xin R.1) := by
  unfold g371 at e
  unfold f371
  refine xok_ite (fun c102 => ?_) (fun c102 => ?_)
  · rw [if_pos c102] at e
    exact s371_33 hI   h  e
  · rw [if_neg c102] at e
    refine xok_eqb (h.pt (o := 0) (c := 15) (k := 29) (t := 2) (n := 107) (by decide) rfl (by decide) (by decide +kernel)) ?_
    refine xok_eqb (h.gi (o := 2) (c := 14) (k := 8) (n := 38) (xoP_o (show xoP 2 by unfold xoP; omega)).1 (xoP_o (show xoP 2 by unfold xoP; omega)).2 (by decide) (by decide)) ?_
    refine xok_ite (fun c103 => ?_) (fun c103 => ?_)
    · rw [if_pos c103] at e
      exact s371_33 hI   h  e
    · rw [if_neg c103] at e
      refine xok_ite (fun c104 => ?_) (fun c104 => ?_)
      · rw [if_pos c104] at e
        exact s371_33 hI   h  e
      · rw [if_neg c104] at e
        refine xok_eqb (h.pt (o := 0) (c := 15) (k := 33) (t := 108) (n := 107) (by decide) rfl (by decide) (by decide +kernel)) ?_
        by_cases c105 : 0 ≤ (a1) ∧ (a1) < 16
        · skip
          rw [if_pos c105] at e
          refine xok_eqb (h.ai (o := 108) (n := 16) (by decide) rfl (by decide) c105.1 c105.2) ?_
          refine xok_ite (fun c106 => ?_) (fun c106 => ?_)
          · rw [if_pos c106] at e
            exact s371_33 hI   h  e
          · rw [if_neg c106] at e
            exact s371_34 hI   h (show xin (1) by decide) e
        · rw [if_neg c105] at e; cases e
-- ChangeHouseModel.firstRow
theorem s376_99 {m f : Nat} {M0 M : xj_M} {G : xG_} (hI : xHI f)  {r68 : Int → Int → Int → xG_ → Option (Int × xG_)} {o68 : Nat → Int → Int → Int → xj_M → Option (Int × xj_M)}  (hr68 : ∀ {M : xj_M} {G : xG_} {x1 : Int} {x2 : Int} {x3 : Int} {R : Int × xG_}, xRX m M0 M G → xin x1 → xin x2 → xin x3 → r68 x1 x2 x3 G = some R → xok (o68 m x1 x2 x3 M) (fun r => r.1 = R.1 ∧ xRX m M0 r.2 R.2 ∧ xin R.1)) (h : xRX m M0 M G) {x1 : Int} {x2 : Int} {x3 : Int} {R : Int × xG_} (tx1 : xin x1) (tx2 : xin x2) (tx3 : xin x3) (e : g376_99  r68 f x1 x2 x3 G = some R) : xok (f376_99  o68 f m x1 x2 x3 M) (fun r => r.1 = R.1 ∧ xRX m M0 r.2 R.2 ∧ xin R.1) := by
  unfold g376_99 at e
  unfold f376_99
  exact hr68 h tx1 tx2 (xin_wr _) e
theorem s376_68b {m f : Nat} {M0 M : xj_M} {G : xG_} (hI : xHI f)  {r68 : Int → Int → Int → xG_ → Option (Int × xG_)} {o68 : Nat → Int → Int → Int → xj_M → Option (Int × xj_M)}  (hr68 : ∀ {M : xj_M} {G : xG_} {x1 : Int} {x2 : Int} {x3 : Int} {R : Int × xG_}, xRX m M0 M G → xin x1 → xin x2 → xin x3 → r68 x1 x2 x3 G = some R → xok (o68 m x1 x2 x3 M) (fun r => r.1 = R.1 ∧ xRX m M0 r.2 R.2 ∧ xin R.1)) (h : xRX m M0 M G) {x1 : Int} {x2 : Int} {x3 : Int} {R : Int × xG_} (tx1 : xin x1) (tx2 : xin x2) (tx3 : xin x3) (e : g376_68b  r68 f x1 x2 x3 G = some R) : xok (f376_68b  o68 f m x1 x2 x3 M) (fun r => r.1 = R.1 ∧ xRX m M0 r.2 R.2 ∧ xin R.1) := by
  unfold g376_68b at e
  unfold f376_68b
  refine xok_eqb (h.pt (o := 0) (c := 15) (k := 33) (t := 108) (n := 107) (by decide) rfl (by decide) (by decide +kernel)) ?_
  by_cases c101 : 0 ≤ (x2) ∧ (x2) < 16
  · skip
    rw [if_pos c101] at e
    refine xok_eqb (h.ai (o := 108) (n := 16) (by decide) rfl (by decide) c101.1 c101.2) ?_
    refine xok_ite (fun c102 => ?_) (fun c102 => ?_)
    · rw [if_pos c102] at e
      cases e
      exact ⟨_, rfl, rfl, h, (show xin (-1) by decide)⟩
    · rw [if_neg c102] at e
      obtain ⟨R103, e104, e⟩ := xbnd e
      refine xok_eqb (h.is (o := 0) (c := 15) (by decide) rfl) ?_
      refine xok_call (sg271 hI  h tx2 tx3 e104) ?_
      rintro ⟨v_, M107⟩ ⟨hv_, h105, hi106⟩
      cases hv_
      refine xok_ite (fun c108 => ?_) (fun c108 => ?_)
      · rw [if_pos c108] at e
        exact s376_99 hI  hr68 h105 tx1 tx2 tx3 e
      · rw [if_neg c108] at e
        obtain ⟨R109, e110, e⟩ := xbnd e
        refine xok_eqb (h105.is (o := 0) (c := 15) (by decide) rfl) ?_
        refine xok_call (sg272 hI  h105 tx1 tx2 tx3 e110) ?_
        rintro ⟨v_, M113⟩ ⟨hv_, h111, hi112⟩
        cases hv_
        refine xok_ite (fun c114 => ?_) (fun c114 => ?_)
        · rw [if_pos c114] at e
          exact s376_99 hI  hr68 h111 tx1 tx2 tx3 e
        · rw [if_neg c114] at e
          cases e
          exact ⟨_, rfl, rfl, h111, tx3⟩
  · rw [if_neg c101] at e; cases e
theorem s376_68 {m f : Nat} {M0 : xj_M} (hI : xHI f)     : ∀ {n : Nat} {M : xj_M} {G : xG_} {x1 : Int} {x2 : Int} {x3 : Int} {R : Int × xG_}, xRX m M0 M G → xin x1 → xin x2 → xin x3 → g376_68   f n x1 x2 x3 G = some R → xok (f376_68   f n m x1 x2 x3 M) (fun r => r.1 = R.1 ∧ xRX m M0 r.2 R.2 ∧ xin R.1) := by
  intro n
  induction n with
  | zero => intros; rename_i e; cases e
  | succ n ih =>
    intros
    rename_i h i0 i1 i2 e
    exact s376_68b hI   ih h i0 i1 i2 e
theorem s376_2b {m f : Nat} {M0 M : xj_M} {G : xG_} (hI : xHI f)  {r2 : Int → Int → xG_ → Option (Int × xG_)} {o2 : Nat → Int → Int → xj_M → Option (Int × xj_M)}  (hr2 : ∀ {M : xj_M} {G : xG_} {x1 : Int} {x2 : Int} {R : Int × xG_}, xRX m M0 M G → xin x1 → xin x2 → r2 x1 x2 G = some R → xok (o2 m x1 x2 M) (fun r => r.1 = R.1 ∧ xRX m M0 r.2 R.2 ∧ xin R.1)) (h : xRX m M0 M G) {x1 : Int} {x2 : Int} {R : Int × xG_} (tx1 : xin x1) (tx2 : xin x2) (e : g376_2b  r2 f x1 x2 G = some R) : xok (f376_2b  o2 f m x1 x2 M) (fun r => r.1 = R.1 ∧ xRX m M0 r.2 R.2 ∧ xin R.1) := by
  unfold g376_2b at e
  unfold f376_2b
  refine xok_eqb (h.pt (o := 0) (c := 15) (k := 29) (t := 2) (n := 107) (by decide) rfl (by decide) (by decide +kernel)) ?_
  refine xok_eqb (h.pt (o := 2) (c := 14) (k := 22) (t := 2 + 20) (n := 38) (xoP_o (show xoP 2 by unfold xoP; omega)).1 (xoP_o (show xoP 2 by unfold xoP; omega)).2 (by decide) (xoP_all (show xoP 2 by unfold xoP; omega) (Q := fun p => (p, 22, p + 20) ∈ xl_P) (by decide +kernel) (by decide +kernel) (by decide +kernel))) ?_
  refine xok_eqb (h.gi (o := 0) (c := 15) (k := 39) (n := 107) (by decide) rfl (by decide) (by decide)) ?_
  by_cases c115 : 0 ≤ (G (0) 39) ∧ (G (0) 39) < 25
  · skip
    rw [if_pos c115] at e
    refine xok_eqb (h.ai (o := 2 + 20) (n := 25) (xoP_all (show xoP 2 by unfold xoP; omega) (Q := fun p => p + 20 < 276) (by decide) (by decide) (by decide)) (xoP_all (show xoP 2 by unfold xoP; omega) (Q := fun p => xl_t (p + 20) = (2, 3, 25)) rfl rfl rfl) (by decide) c115.1 c115.2) ?_
    refine xok_ite (fun c116 => ?_) (fun c116 => ?_)
    · rw [if_pos c116] at e
      refine xok_eqb (h.pt (o := 0) (c := 15) (k := 29) (t := 2) (n := 107) (by decide) rfl (by decide) (by decide +kernel)) ?_
      refine xok_eqb (h.pt (o := 2) (c := 14) (k := 22) (t := 2 + 20) (n := 38) (xoP_o (show xoP 2 by unfold xoP; omega)).1 (xoP_o (show xoP 2 by unfold xoP; omega)).2 (by decide) (xoP_all (show xoP 2 by unfold xoP; omega) (Q := fun p => (p, 22, p + 20) ∈ xl_P) (by decide +kernel) (by decide +kernel) (by decide +kernel))) ?_
      refine xok_eqb (h.gi (o := 0) (c := 15) (k := 39) (n := 107) (by decide) rfl (by decide) (by decide)) ?_
      by_cases c117 : 0 ≤ (G (0) 39) ∧ (G (0) 39) < 25
      · skip
        rw [if_pos c117] at e
        refine xok_eqb (h.ai (o := 2 + 20) (n := 25) (xoP_all (show xoP 2 by unfold xoP; omega) (Q := fun p => p + 20 < 276) (by decide) (by decide) (by decide)) (xoP_all (show xoP 2 by unfold xoP; omega) (Q := fun p => xl_t (p + 20) = (2, 3, 25)) rfl rfl rfl) (by decide) c117.1 c117.2) ?_
        obtain ⟨M118, q119, h120⟩ := h.pi (v := xwr ((xshl (1) (G (2 + 20) (G (0) 39).toNat)) - (1))) (o := 0) (c := 15) (k := 37) (n := 107) (by decide) rfl (by decide) (by decide) (xin_wr _)
        refine xok_eqb q119 ?_
        obtain ⟨G121, g1, e⟩ := xbnd e
        cases g1
        have h120_ : xRX m M0 M118 (xup2 G (0) 37 (xwr ((xshl (1) (G (2 + 20) (G (0) 39).toNat)) - (1)))) := h120
        generalize hGG121 : (xup2 G (0) 37 (xwr ((xshl (1) (G (2 + 20) (G (0) 39).toNat)) - (1)))) = G121 at e h120
        clear h120_ hGG121
        refine xok_eqb (h120.pt (o := 0) (c := 15) (k := 29) (t := 2) (n := 107) (by decide) rfl (by decide) (by decide +kernel)) ?_
        refine xok_eqb (h120.pt (o := 2) (c := 14) (k := 28) (t := 2 + 26) (n := 38) (xoP_o (show xoP 2 by unfold xoP; omega)).1 (xoP_o (show xoP 2 by unfold xoP; omega)).2 (by decide) (xoP_all (show xoP 2 by unfold xoP; omega) (Q := fun p => (p, 28, p + 26) ∈ xl_P) (by decide +kernel) (by decide +kernel) (by decide +kernel))) ?_
        by_cases c122 : 0 ≤ (x1) ∧ (x1) < 200
        · skip
          rw [if_pos c122] at e
          refine xok_eqb (h120.ai (o := 2 + 26) (n := 200) (xoP_all (show xoP 2 by unfold xoP; omega) (Q := fun p => p + 26 < 276) (by decide) (by decide) (by decide)) (xoP_all (show xoP 2 by unfold xoP; omega) (Q := fun p => xl_t (p + 26) = (2, 3, 200)) rfl rfl rfl) (by decide) c122.1 c122.2) ?_
          exact s376_68 hI   h120 tx1 (h120.ain (o := 2 + 26) (n := 200) (xoP_all (show xoP 2 by unfold xoP; omega) (Q := fun p => p + 26 < 276) (by decide) (by decide) (by decide)) (xoP_all (show xoP 2 by unfold xoP; omega) (Q := fun p => xl_t (p + 26) = (2, 3, 200)) rfl rfl rfl) (by decide) c122.1 c122.2) (show xin (0) by decide) e
        · rw [if_neg c122] at e; cases e
      · rw [if_neg c117] at e; cases e
    · rw [if_neg c116] at e
      refine xok_eqb (h.pt (o := 0) (c := 15) (k := 35) (t := 110) (n := 107) (by decide) rfl (by decide) (by decide +kernel)) ?_
      refine xok_eqb (h.pt (o := 0) (c := 15) (k := 50) (t := 117) (n := 107) (by decide) rfl (by decide) (by decide +kernel)) ?_
      by_cases c123 : 0 ≤ (x2) ∧ (x2) < 8
      · skip
        rw [if_pos c123] at e
        refine xok_eqb (h.al (o := 117) (n := 8) (by decide) rfl  c123.1 c123.2) ?_
        by_cases c124 : 0 ≤ (x2) ∧ (x2) < 8
        · skip
          rw [if_pos c124] at e
          obtain ⟨M125, q126, h127⟩ := h.sl (o := 110) (n := 8) (v := G (117) (x2).toNat) (by decide) rfl c124.1 c124.2 (h.aln (o := 117) (n := 8) (by decide) rfl  c123.1 c123.2)
          refine xok_eqb q126 ?_
          obtain ⟨G128, g1, e⟩ := xbnd e
          cases g1
          have h127_ : xRX m M0 M125 (xup2 G (110) (x2).toNat (G (117) (x2).toNat)) := h127
          generalize hGG128 : (xup2 G (110) (x2).toNat (G (117) (x2).toNat)) = G128 at e h127
          clear h127_ hGG128
          exact hr2 h127 tx1 (xin_wr _) e
        · rw [if_neg c124] at e; cases e
      · rw [if_neg c123] at e; cases e
  · rw [if_neg c115] at e; cases e
theorem s376_2 {m f : Nat} {M0 : xj_M} (hI : xHI f)     : ∀ {n : Nat} {M : xj_M} {G : xG_} {x1 : Int} {x2 : Int} {R : Int × xG_}, xRX m M0 M G → xin x1 → xin x2 → g376_2   f n x1 x2 G = some R → xok (f376_2   f n m x1 x2 M) (fun r => r.1 = R.1 ∧ xRX m M0 r.2 R.2 ∧ xin R.1) := by
  intro n
  induction n with
  | zero => intros; rename_i e; cases e
  | succ n ih =>
    intros
    rename_i h i0 i1 e
    exact s376_2b hI   ih h i0 i1 e
theorem sg376 {m f : Nat} {M0 M : xj_M} {G : xG_} (hI : xHI f)   (h : xRX m M0 M G) {a1 : Int} {R : Int × xG_} (ta1 : xin a1) (e : g376  f a1 G = some R) : xok (f376  f m a1 M) (fun r => r.1 = R.1 ∧ xRX m M0 r.2 R.2 ∧ xin R.1) := by
  unfold g376 at e
  unfold f376
  exact s376_2 hI   h ta1 (show xin (0) by decide) e
-- ChangeHouseModel.edits
theorem sg379 {m f : Nat} {M0 M : xj_M} {G : xG_} (hI : xHI f)   (h : xRX m M0 M G)  {R : Int × xG_}  (e : g379  f  G = some R) : xok (f379  f m M) (fun r => r.1 = R.1 ∧ xRX m M0 r.2 R.2 ∧ xin R.1) := by
  unfold g379 at e
  unfold f379
  obtain ⟨M101, q102, h103⟩ := h.pi (v := 0) (o := 0) (c := 15) (k := 74) (n := 107) (by decide) rfl (by decide) (by decide) (show xin (0) by decide)
  refine xok_eqb q102 ?_
  obtain ⟨G104, g1, e⟩ := xbnd e
  cases g1
  have h103_ : xRX m M0 M101 (xup2 G (0) 74 (0)) := h103
  generalize hGG104 : (xup2 G (0) 74 (0)) = G104 at e h103
  clear h103_ hGG104
  refine xok_eqb (h103.pt (o := 0) (c := 15) (k := 61) (t := 122) (n := 107) (by decide) rfl (by decide) (by decide +kernel)) ?_
  refine xok_eqb (h103.gi (o := 0) (c := 15) (k := 62) (n := 107) (by decide) rfl (by decide) (by decide)) ?_
  by_cases c105 : 0 ≤ (G104 (0) 62) ∧ (G104 (0) 62) < 4
  · skip
    rw [if_pos c105] at e
    refine xok_eqb (h103.lin c105) ?_
    refine xok_eqb (h103.gi (o := 123 + 29 * (G104 (0) 62).toNat) (c := 13) (k := 27) (n := 37) (xoL_o (xoL_of c105)).1 (xoL_o (xoL_of c105)).2 (by decide) (by decide)) ?_
    cases e
    exact ⟨_, rfl, rfl, h103, (h103.gin (o := 123 + 29 * (G104 (0) 62).toNat) (c := 13) (k := 27) (n := 37) (xoL_o (xoL_of c105)).1 (xoL_o (xoL_of c105)).2 (by decide) (by decide))⟩
  · rw [if_neg c105] at e; cases e
-- ChangeHouseModel$Facts.add
theorem s198_139 {m f : Nat} {M0 M : xj_M} {G : xG_} (hI : xHI f)  {r104 : Nat → Int → Nat → Int → Int → Int → xG_ → Option (xG_)} {o104 : Nat → Int → Nat → Int → Int → Int → xj_M → Option (xj_M)}  (hr104 : ∀ {M : xj_M} {G : xG_} {x0 : Nat} {x3 : Int} {x4 : Nat} {x5 : Int} {x6 : Int} {x7 : Int} {R : xG_}, xRX m M0 M G → xoF x0 → xin x3 → xoJ x4 → xin x5 → xin x6 → xin x7 → r104 x0 x3 x4 x5 x6 x7 G = some R → xok (o104 (m + x0) x3 (m + x4) x5 x6 x7 M) (fun r => xRX m M0 r R)) (h : xRX m M0 M G) {x0 : Nat} {x3 : Int} {x4 : Nat} {x5 : Int} {x6 : Int} {x7 : Int} {y0 : Int} {y1 : Int} {y2 : Nat} {R : xG_} (tx0 : xoF x0) (tx3 : xin x3) (tx4 : xoJ x4) (tx5 : xin x5) (tx6 : xin x6) (tx7 : xin x7) (ty0 : xiN y0) (ty1 : xin y1) (ty2 : xoJ y2) (e : g198_139  r104 f x0 x3 x4 x5 x6 x7 y0 y1 y2 G = some R) : xok (f198_139  o104 f (m + x0) x3 (m + x4) x5 x6 x7 y0 y1 (m + y2) M) (fun r => xRX m M0 r R) := by
  unfold g198_139 at e
  unfold f198_139
  by_cases c101 : 0 ≤ (y1) ∧ (y1) < ((xl_t (y2)).2.2 : Int)
  · skip
    rw [if_pos c101] at e
    obtain ⟨M102, q103, h104⟩ := h.sl (o := y2) (n := (xl_t (y2)).2.2) (v := y0) ty2.1 ty2.2 c101.1 c101.2 ty0
    refine xok_eqb q103 ?_
    obtain ⟨G105, g1, e⟩ := xbnd e
    cases g1
    have h104_ : xRX m M0 M102 (xup2 G (y2) (y1).toNat (y0)) := h104
    generalize hGG105 : (xup2 G (y2) (y1).toNat (y0)) = G105 at e h104
    clear h104_ hGG105
    exact hr104 h104 tx0 tx3 tx4 tx5 tx6 (xin_wr _) e
  · rw [if_neg c101] at e; cases e
theorem s198_104b {m f : Nat} {M0 M : xj_M} {G : xG_} (hI : xHI f)  {r104 : Nat → Int → Nat → Int → Int → Int → xG_ → Option (xG_)} {o104 : Nat → Int → Nat → Int → Int → Int → xj_M → Option (xj_M)}  (hr104 : ∀ {M : xj_M} {G : xG_} {x0 : Nat} {x3 : Int} {x4 : Nat} {x5 : Int} {x6 : Int} {x7 : Int} {R : xG_}, xRX m M0 M G → xoF x0 → xin x3 → xoJ x4 → xin x5 → xin x6 → xin x7 → r104 x0 x3 x4 x5 x6 x7 G = some R → xok (o104 (m + x0) x3 (m + x4) x5 x6 x7 M) (fun r => xRX m M0 r R)) (h : xRX m M0 M G) {x0 : Nat} {x3 : Int} {x4 : Nat} {x5 : Int} {x6 : Int} {x7 : Int} {R : xG_} (tx0 : xoF x0) (tx3 : xin x3) (tx4 : xoJ x4) (tx5 : xin x5) (tx6 : xin x6) (tx7 : xin x7) (e : g198_104b  r104 f x0 x3 x4 x5 x6 x7 G = some R) : xok (f198_104b  o104 f (m + x0) x3 (m + x4) x5 x6 x7 M) (fun r => xRX m M0 r R) := by
  unfold g198_104b at e
  unfold f198_104b
  refine xok_ite (fun c106 => ?_) (fun c106 => ?_)
  · rw [if_pos c106] at e
    refine xok_eqb (h.gi (o := x0) (c := 12) (k := 3) (n := 4) (xoF_o tx0).1 (xoF_o tx0).2 (by decide) (by decide)) ?_
    obtain ⟨M107, q108, h109⟩ := h.pi (v := xwr ((G (x0) 3) + (1))) (o := x0) (c := 12) (k := 3) (n := 4) (xoF_o tx0).1 (xoF_o tx0).2 (by decide) (by decide) (xin_wr _)
    refine xok_eqb q108 ?_
    obtain ⟨G110, g1, e⟩ := xbnd e
    cases g1
    have h109_ : xRX m M0 M107 (xup2 G (x0) 3 (xwr ((G (x0) 3) + (1)))) := h109
    generalize hGG110 : (xup2 G (x0) 3 (xwr ((G (x0) 3) + (1)))) = G110 at e h109
    clear h109_ hGG110
    cases e
    exact ⟨_, rfl, h109⟩
  · rw [if_neg c106] at e
    refine xok_eqb (h.pt (o := x0) (c := 12) (k := 1) (t := x0 + 2) (n := 4) (xoF_o tx0).1 (xoF_o tx0).2 (by decide) (xoF_all tx0 (Q := fun p => (p, 1, p + 2) ∈ xl_P) (by decide +kernel) (by decide +kernel) (by decide +kernel) (by decide +kernel) (by decide +kernel) (by decide +kernel) (by decide +kernel))) ?_
    refine xok_ite (fun c111 => ?_) (fun c111 => ?_)
    · rw [if_pos c111] at e
      exact s198_139 hI  hr104 h tx0 tx3 tx4 tx5 tx6 tx7 (show xiN (0) by decide) (xin_wr _) (xoF_all tx0 (Q := fun p => xoJ (p + 2)) ⟨by decide, rfl⟩ ⟨by decide, rfl⟩ ⟨by decide, rfl⟩ ⟨by decide, rfl⟩ ⟨by decide, rfl⟩ ⟨by decide, rfl⟩ ⟨by decide, rfl⟩) e
    · rw [if_neg c111] at e
      by_cases c112 : 0 ≤ (xwr ((x5) + (x7))) ∧ (xwr ((x5) + (x7))) < ((xl_t (x4)).2.2 : Int)
      · skip
        rw [if_pos c112] at e
        refine xok_eqb (h.al (o := x4) (n := (xl_t (x4)).2.2) tx4.1 tx4.2  c112.1 c112.2) ?_
        exact s198_139 hI  hr104 h tx0 tx3 tx4 tx5 tx6 tx7 (h.aln (o := x4) (n := (xl_t (x4)).2.2) tx4.1 tx4.2  c112.1 c112.2) (xin_wr _) (xoF_all tx0 (Q := fun p => xoJ (p + 2)) ⟨by decide, rfl⟩ ⟨by decide, rfl⟩ ⟨by decide, rfl⟩ ⟨by decide, rfl⟩ ⟨by decide, rfl⟩ ⟨by decide, rfl⟩ ⟨by decide, rfl⟩) e
      · rw [if_neg c112] at e; cases e
theorem s198_104 {m f : Nat} {M0 : xj_M} (hI : xHI f)     : ∀ {n : Nat} {M : xj_M} {G : xG_} {x0 : Nat} {x3 : Int} {x4 : Nat} {x5 : Int} {x6 : Int} {x7 : Int} {R : xG_}, xRX m M0 M G → xoF x0 → xin x3 → xoJ x4 → xin x5 → xin x6 → xin x7 → g198_104   f n x0 x3 x4 x5 x6 x7 G = some R → xok (f198_104   f n (m + x0) x3 (m + x4) x5 x6 x7 M) (fun r => xRX m M0 r R) := by
  intro n
  induction n with
  | zero => intros; rename_i e; cases e
  | succ n ih =>
    intros
    rename_i h i0 i1 i2 i3 i4 i5 e
    exact s198_104b hI   ih h i0 i1 i2 i3 i4 i5 e
theorem s198_62b {m f : Nat} {M0 M : xj_M} {G : xG_} (hI : xHI f)  {r62 : Nat → Int → Int → Nat → Int → Int → Int → xG_ → Option (xG_)} {o62 : Nat → Int → Int → Nat → Int → Int → Int → xj_M → Option (xj_M)}  (hr62 : ∀ {M : xj_M} {G : xG_} {x0 : Nat} {x1 : Int} {x3 : Int} {x4 : Nat} {x5 : Int} {x6 : Int} {x7 : Int} {R : xG_}, xRX m M0 M G → xoF x0 → xiN x1 → xin x3 → xoJ x4 → xin x5 → xin x6 → xin x7 → r62 x0 x1 x3 x4 x5 x6 x7 G = some R → xok (o62 (m + x0) x1 x3 (m + x4) x5 x6 x7 M) (fun r => xRX m M0 r R)) (h : xRX m M0 M G) {x0 : Nat} {x1 : Int} {x3 : Int} {x4 : Nat} {x5 : Int} {x6 : Int} {x7 : Int} {R : xG_} (tx0 : xoF x0) (tx1 : xiN x1) (tx3 : xin x3) (tx4 : xoJ x4) (tx5 : xin x5) (tx6 : xin x6) (tx7 : xin x7) (e : g198_62b  r62 f x0 x1 x3 x4 x5 x6 x7 G = some R) : xok (f198_62b  o62 f (m + x0) x1 x3 (m + x4) x5 x6 x7 M) (fun r => xRX m M0 r R) := by
  unfold g198_62b at e
  unfold f198_62b
  refine xok_ite (fun c113 => ?_) (fun c113 => ?_)
  · rw [if_pos c113] at e
    refine xok_eqb (h.pt (o := x0) (c := 12) (k := 0) (t := x0 + 1) (n := 4) (xoF_o tx0).1 (xoF_o tx0).2 (by decide) (xoF_all tx0 (Q := fun p => (p, 0, p + 1) ∈ xl_P) (by decide +kernel) (by decide +kernel) (by decide +kernel) (by decide +kernel) (by decide +kernel) (by decide +kernel) (by decide +kernel))) ?_
    by_cases c114 : 0 ≤ (x6) ∧ (x6) < 3400
    · skip
      rw [if_pos c114] at e
      obtain ⟨M115, q116, h117⟩ := h.sl (o := x0 + 1) (n := 3400) (v := x1) (xoF_all tx0 (Q := fun p => p + 1 < 276) (by decide) (by decide) (by decide) (by decide) (by decide) (by decide) (by decide)) (xoF_all tx0 (Q := fun p => xl_t (p + 1) = (2, 4, 3400)) rfl rfl rfl rfl rfl rfl rfl) c114.1 c114.2 tx1
      refine xok_eqb q116 ?_
      obtain ⟨G118, g1, e⟩ := xbnd e
      cases g1
      have h117_ : xRX m M0 M115 (xup2 G (x0 + 1) (x6).toNat (x1)) := h117
      generalize hGG118 : (xup2 G (x0 + 1) (x6).toNat (x1)) = G118 at e h117
      clear h117_ hGG118
      refine xok_eqb (h117.pt (o := x0) (c := 12) (k := 2) (t := x0 + 3) (n := 4) (xoF_o tx0).1 (xoF_o tx0).2 (by decide) (xoF_all tx0 (Q := fun p => (p, 2, p + 3) ∈ xl_P) (by decide +kernel) (by decide +kernel) (by decide +kernel) (by decide +kernel) (by decide +kernel) (by decide +kernel) (by decide +kernel))) ?_
      by_cases c119 : 0 ≤ (x6) ∧ (x6) < 3400
      · skip
        rw [if_pos c119] at e
        obtain ⟨M120, q121, h122⟩ := h117.si (o := x0 + 3) (n := 3400) (v := x3) (xoF_all tx0 (Q := fun p => p + 3 < 276) (by decide) (by decide) (by decide) (by decide) (by decide) (by decide) (by decide)) (xoF_all tx0 (Q := fun p => xl_t (p + 3) = (2, 3, 3400)) rfl rfl rfl rfl rfl rfl rfl) c119.1 c119.2 tx3
        refine xok_eqb q121 ?_
        obtain ⟨G123, g1, e⟩ := xbnd e
        cases g1
        have h122_ : xRX m M0 M120 (xup2 G118 (x0 + 3) (x6).toNat (x3)) := h122
        generalize hGG123 : (xup2 G118 (x0 + 3) (x6).toNat (x3)) = G123 at e h122
        clear h122_ hGG123
        exact s198_104 hI   h122 tx0 tx3 tx4 tx5 tx6 (show xin (0) by decide) e
      · rw [if_neg c119] at e; cases e
    · rw [if_neg c114] at e; cases e
  · rw [if_neg c113] at e
    obtain ⟨R124, e125, e⟩ := xbnd e
    refine xok_eqb (h.is (o := x0) (c := 12) (xoF_o tx0).1 (xoF_o tx0).2) ?_
    refine xok_call (sg200 hI  h tx0 (xin_wr _) tx7 e125) ?_
    intro M128 h126
    exact hr62 h126 tx0 tx1 tx3 tx4 tx5 tx6 (xin_wr _) e
theorem s198_62 {m f : Nat} {M0 : xj_M} (hI : xHI f)     : ∀ {n : Nat} {M : xj_M} {G : xG_} {x0 : Nat} {x1 : Int} {x3 : Int} {x4 : Nat} {x5 : Int} {x6 : Int} {x7 : Int} {R : xG_}, xRX m M0 M G → xoF x0 → xiN x1 → xin x3 → xoJ x4 → xin x5 → xin x6 → xin x7 → g198_62   f n x0 x1 x3 x4 x5 x6 x7 G = some R → xok (f198_62   f n (m + x0) x1 x3 (m + x4) x5 x6 x7 M) (fun r => xRX m M0 r R) := by
  intro n
  induction n with
  | zero => intros; rename_i e; cases e
  | succ n ih =>
    intros
    rename_i h i0 i1 i2 i3 i4 i5 i6 e
    exact s198_62b hI   ih h i0 i1 i2 i3 i4 i5 i6 e
theorem s198_56 {m f : Nat} {M0 M : xj_M} {G : xG_} (hI : xHI f)     (h : xRX m M0 M G) {x0 : Nat} {x1 : Int} {x3 : Int} {x4 : Nat} {x5 : Int} {x6 : Int} {R : xG_} (tx0 : xoF x0) (tx1 : xiN x1) (tx3 : xin x3) (tx4 : xoJ x4) (tx5 : xin x5) (tx6 : xin x6) (e : g198_56   f x0 x1 x3 x4 x5 x6 G = some R) : xok (f198_56   f (m + x0) x1 x3 (m + x4) x5 x6 M) (fun r => xRX m M0 r R) := by
  unfold g198_56 at e
  unfold f198_56
  refine xok_eqb (h.gi (o := x0) (c := 12) (k := 3) (n := 4) (xoF_o tx0).1 (xoF_o tx0).2 (by decide) (by decide)) ?_
  exact s198_62 hI   h tx0 tx1 tx3 tx4 tx5 tx6 (h.gin (o := x0) (c := 12) (k := 3) (n := 4) (xoF_o tx0).1 (xoF_o tx0).2 (by decide) (by decide)) e
theorem sg198 {m f : Nat} {M0 M : xj_M} {G : xG_} (hI : xHI f)   (h : xRX m M0 M G) {a0 : Nat} {a1 : Int} {a2 : Int} {a3 : Nat} {a4 : Int} {R : xG_} (ta0 : xoF a0) (ta1 : xiN a1) (ta2 : xin a2) (ta3 : xoJ a3) (ta4 : xin a4) (e : g198  f a0 a1 a2 a3 a4 G = some R) : xok (f198  f (m + a0) a1 a2 (m + a3) a4 M) (fun r => xRX m M0 r R) := by
  unfold g198 at e
  unfold f198
  obtain ⟨R129, e130, e⟩ := xbnd e
  refine xok_eqb (h.is (o := a0) (c := 12) (xoF_o ta0).1 (xoF_o ta0).2) ?_
  refine xok_call (sg196 hI  h ta0 ta1 ta2 ta3 ta4 e130) ?_
  rintro ⟨v_, M133⟩ ⟨hv_, h131, hi132⟩
  cases hv_
  refine xok_eqb (h131.gi (o := a0) (c := 12) (k := 3) (n := 4) (xoF_o ta0).1 (xoF_o ta0).2 (by decide) (by decide)) ?_
  refine xok_ite (fun c134 => ?_) (fun c134 => ?_)
  · rw [if_pos c134] at e
    exact s198_56 hI   h131 ta0 ta1 ta2 ta3 ta4 hi132 e
  · rw [if_neg c134] at e
    refine xok_eqb (h131.pt (o := a0) (c := 12) (k := 0) (t := a0 + 1) (n := 4) (xoF_o ta0).1 (xoF_o ta0).2 (by decide) (xoF_all ta0 (Q := fun p => (p, 0, p + 1) ∈ xl_P) (by decide +kernel) (by decide +kernel) (by decide +kernel) (by decide +kernel) (by decide +kernel) (by decide +kernel) (by decide +kernel))) ?_
    by_cases c135 : 0 ≤ (R129.1) ∧ (R129.1) < 3400
    · skip
      rw [if_pos c135] at e
      refine xok_eqb (h131.al (o := a0 + 1) (n := 3400) (xoF_all ta0 (Q := fun p => p + 1 < 276) (by decide) (by decide) (by decide) (by decide) (by decide) (by decide) (by decide)) (xoF_all ta0 (Q := fun p => xl_t (p + 1) = (2, 4, 3400)) rfl rfl rfl rfl rfl rfl rfl)  c135.1 c135.2) ?_
      refine xok_eqb (h131.pt (o := a0) (c := 12) (k := 2) (t := a0 + 3) (n := 4) (xoF_o ta0).1 (xoF_o ta0).2 (by decide) (xoF_all ta0 (Q := fun p => (p, 2, p + 3) ∈ xl_P) (by decide +kernel) (by decide +kernel) (by decide +kernel) (by decide +kernel) (by decide +kernel) (by decide +kernel) (by decide +kernel))) ?_
      by_cases c136 : 0 ≤ (R129.1) ∧ (R129.1) < 3400
      · skip
        rw [if_pos c136] at e
        refine xok_eqb (h131.ai (o := a0 + 3) (n := 3400) (xoF_all ta0 (Q := fun p => p + 3 < 276) (by decide) (by decide) (by decide) (by decide) (by decide) (by decide) (by decide)) (xoF_all ta0 (Q := fun p => xl_t (p + 3) = (2, 3, 3400)) rfl rfl rfl rfl rfl rfl rfl) (by decide) c136.1 c136.2) ?_
        refine xok_eqb (h131.pt (o := a0) (c := 12) (k := 1) (t := a0 + 2) (n := 4) (xoF_o ta0).1 (xoF_o ta0).2 (by decide) (xoF_all ta0 (Q := fun p => (p, 1, p + 2) ∈ xl_P) (by decide +kernel) (by decide +kernel) (by decide +kernel) (by decide +kernel) (by decide +kernel) (by decide +kernel) (by decide +kernel))) ?_
        obtain ⟨R137, e138, e⟩ := xbnd e
        refine xok_call (sg195 hI  h131 (h131.aln (o := a0 + 1) (n := 3400) (xoF_all ta0 (Q := fun p => p + 1 < 276) (by decide) (by decide) (by decide) (by decide) (by decide) (by decide) (by decide)) (xoF_all ta0 (Q := fun p => xl_t (p + 1) = (2, 4, 3400)) rfl rfl rfl rfl rfl rfl rfl)  c135.1 c135.2) (h131.ain (o := a0 + 3) (n := 3400) (xoF_all ta0 (Q := fun p => p + 3 < 276) (by decide) (by decide) (by decide) (by decide) (by decide) (by decide) (by decide)) (xoF_all ta0 (Q := fun p => xl_t (p + 3) = (2, 3, 3400)) rfl rfl rfl rfl rfl rfl rfl) (by decide) c136.1 c136.2) (xoF_all ta0 (Q := fun p => xoJ (p + 2)) ⟨by decide, rfl⟩ ⟨by decide, rfl⟩ ⟨by decide, rfl⟩ ⟨by decide, rfl⟩ ⟨by decide, rfl⟩ ⟨by decide, rfl⟩ ⟨by decide, rfl⟩) (xin_wr _) ta1 ta2 ta3 ta4 e138) ?_
        rintro ⟨v_, M141⟩ ⟨hv_, h139, hi140⟩
        cases hv_
        refine xok_ite (fun c142 => ?_) (fun c142 => ?_)
        · rw [if_pos c142] at e
          exact s198_56 hI   h139 ta0 ta1 ta2 ta3 ta4 hi132 e
        · rw [if_neg c142] at e
          cases e
          exact ⟨_, rfl, h139⟩
      · rw [if_neg c136] at e; cases e
    · rw [if_neg c135] at e; cases e
-- ChangeHouseModel$Facts.remove
theorem s199_55 {m f : Nat} {M0 M : xj_M} {G : xG_} (hI : xHI f)     (h : xRX m M0 M G)  {R : xG_}  (e : g199_55   f  G = some R) : xok (f199_55   f  M) (fun r => xRX m M0 r R) := by
  unfold g199_55 at e
  unfold f199_55
  cases e
  exact ⟨_, rfl, h⟩
theorem s199_70b {m f : Nat} {M0 M : xj_M} {G : xG_} (hI : xHI f)  {r70 : Nat → Int → xG_ → Option (xG_)} {o70 : Nat → Int → xj_M → Option (xj_M)}  (hr70 : ∀ {M : xj_M} {G : xG_} {x0 : Nat} {x7 : Int} {R : xG_}, xRX m M0 M G → xoF x0 → xin x7 → r70 x0 x7 G = some R → xok (o70 (m + x0) x7 M) (fun r => xRX m M0 r R)) (h : xRX m M0 M G) {x0 : Nat} {x7 : Int} {R : xG_} (tx0 : xoF x0) (tx7 : xin x7) (e : g199_70b  r70 f x0 x7 G = some R) : xok (f199_70b  o70 f (m + x0) x7 M) (fun r => xRX m M0 r R) := by
  unfold g199_70b at e
  unfold f199_70b
  refine xok_eqb (h.gi (o := x0) (c := 12) (k := 3) (n := 4) (xoF_o tx0).1 (xoF_o tx0).2 (by decide) (by decide)) ?_
  refine xok_ite (fun c101 => ?_) (fun c101 => ?_)
  · rw [if_pos c101] at e
    cases e
    exact ⟨_, rfl, h⟩
  · rw [if_neg c101] at e
    obtain ⟨R102, e103, e⟩ := xbnd e
    refine xok_eqb (h.is (o := x0) (c := 12) (xoF_o tx0).1 (xoF_o tx0).2) ?_
    refine xok_call (sg200 hI  h tx0 (xin_wr _) tx7 e103) ?_
    intro M106 h104
    exact hr70 h104 tx0 (xin_wr _) e
theorem s199_70 {m f : Nat} {M0 : xj_M} (hI : xHI f)     : ∀ {n : Nat} {M : xj_M} {G : xG_} {x0 : Nat} {x7 : Int} {R : xG_}, xRX m M0 M G → xoF x0 → xin x7 → g199_70   f n x0 x7 G = some R → xok (f199_70   f n (m + x0) x7 M) (fun r => xRX m M0 r R) := by
  intro n
  induction n with
  | zero => intros; rename_i e; cases e
  | succ n ih =>
    intros
    rename_i h i0 i1 e
    exact s199_70b hI   ih h i0 i1 e
theorem sg199 {m f : Nat} {M0 M : xj_M} {G : xG_} (hI : xHI f)   (h : xRX m M0 M G) {a0 : Nat} {a1 : Int} {a2 : Int} {a3 : Nat} {a4 : Int} {R : xG_} (ta0 : xoF a0) (ta1 : xiN a1) (ta2 : xin a2) (ta3 : xoJ a3) (ta4 : xin a4) (e : g199  f a0 a1 a2 a3 a4 G = some R) : xok (f199  f (m + a0) a1 a2 (m + a3) a4 M) (fun r => xRX m M0 r R) := by
  unfold g199 at e
  unfold f199
  obtain ⟨R107, e108, e⟩ := xbnd e
  refine xok_eqb (h.is (o := a0) (c := 12) (xoF_o ta0).1 (xoF_o ta0).2) ?_
  refine xok_call (sg196 hI  h ta0 ta1 ta2 ta3 ta4 e108) ?_
  rintro ⟨v_, M111⟩ ⟨hv_, h109, hi110⟩
  cases hv_
  refine xok_eqb (h109.gi (o := a0) (c := 12) (k := 3) (n := 4) (xoF_o ta0).1 (xoF_o ta0).2 (by decide) (by decide)) ?_
  refine xok_ite (fun c112 => ?_) (fun c112 => ?_)
  · rw [if_pos c112] at e
    exact s199_55 hI   h109  e
  · rw [if_neg c112] at e
    refine xok_eqb (h109.pt (o := a0) (c := 12) (k := 0) (t := a0 + 1) (n := 4) (xoF_o ta0).1 (xoF_o ta0).2 (by decide) (xoF_all ta0 (Q := fun p => (p, 0, p + 1) ∈ xl_P) (by decide +kernel) (by decide +kernel) (by decide +kernel) (by decide +kernel) (by decide +kernel) (by decide +kernel) (by decide +kernel))) ?_
    by_cases c113 : 0 ≤ (R107.1) ∧ (R107.1) < 3400
    · skip
      rw [if_pos c113] at e
      refine xok_eqb (h109.al (o := a0 + 1) (n := 3400) (xoF_all ta0 (Q := fun p => p + 1 < 276) (by decide) (by decide) (by decide) (by decide) (by decide) (by decide) (by decide)) (xoF_all ta0 (Q := fun p => xl_t (p + 1) = (2, 4, 3400)) rfl rfl rfl rfl rfl rfl rfl)  c113.1 c113.2) ?_
      refine xok_eqb (h109.pt (o := a0) (c := 12) (k := 2) (t := a0 + 3) (n := 4) (xoF_o ta0).1 (xoF_o ta0).2 (by decide) (xoF_all ta0 (Q := fun p => (p, 2, p + 3) ∈ xl_P) (by decide +kernel) (by decide +kernel) (by decide +kernel) (by decide +kernel) (by decide +kernel) (by decide +kernel) (by decide +kernel))) ?_
      by_cases c114 : 0 ≤ (R107.1) ∧ (R107.1) < 3400
      · skip
        rw [if_pos c114] at e
        refine xok_eqb (h109.ai (o := a0 + 3) (n := 3400) (xoF_all ta0 (Q := fun p => p + 3 < 276) (by decide) (by decide) (by decide) (by decide) (by decide) (by decide) (by decide)) (xoF_all ta0 (Q := fun p => xl_t (p + 3) = (2, 3, 3400)) rfl rfl rfl rfl rfl rfl rfl) (by decide) c114.1 c114.2) ?_
        refine xok_eqb (h109.pt (o := a0) (c := 12) (k := 1) (t := a0 + 2) (n := 4) (xoF_o ta0).1 (xoF_o ta0).2 (by decide) (xoF_all ta0 (Q := fun p => (p, 1, p + 2) ∈ xl_P) (by decide +kernel) (by decide +kernel) (by decide +kernel) (by decide +kernel) (by decide +kernel) (by decide +kernel) (by decide +kernel))) ?_
        obtain ⟨R115, e116, e⟩ := xbnd e
        refine xok_call (sg195 hI  h109 (h109.aln (o := a0 + 1) (n := 3400) (xoF_all ta0 (Q := fun p => p + 1 < 276) (by decide) (by decide) (by decide) (by decide) (by decide) (by decide) (by decide)) (xoF_all ta0 (Q := fun p => xl_t (p + 1) = (2, 4, 3400)) rfl rfl rfl rfl rfl rfl rfl)  c113.1 c113.2) (h109.ain (o := a0 + 3) (n := 3400) (xoF_all ta0 (Q := fun p => p + 3 < 276) (by decide) (by decide) (by decide) (by decide) (by decide) (by decide) (by decide)) (xoF_all ta0 (Q := fun p => xl_t (p + 3) = (2, 3, 3400)) rfl rfl rfl rfl rfl rfl rfl) (by decide) c114.1 c114.2) (xoF_all ta0 (Q := fun p => xoJ (p + 2)) ⟨by decide, rfl⟩ ⟨by decide, rfl⟩ ⟨by decide, rfl⟩ ⟨by decide, rfl⟩ ⟨by decide, rfl⟩ ⟨by decide, rfl⟩ ⟨by decide, rfl⟩) (xin_wr _) ta1 ta2 ta3 ta4 e116) ?_
        rintro ⟨v_, M119⟩ ⟨hv_, h117, hi118⟩
        cases hv_
        refine xok_ite (fun c120 => ?_) (fun c120 => ?_)
        · rw [if_pos c120] at e
          refine xok_eqb (h117.gi (o := a0) (c := 12) (k := 3) (n := 4) (xoF_o ta0).1 (xoF_o ta0).2 (by decide) (by decide)) ?_
          obtain ⟨M121, q122, h123⟩ := h117.pi (v := xwr ((R115.2 (a0) 3) - (1))) (o := a0) (c := 12) (k := 3) (n := 4) (xoF_o ta0).1 (xoF_o ta0).2 (by decide) (by decide) (xin_wr _)
          refine xok_eqb q122 ?_
          obtain ⟨G124, g1, e⟩ := xbnd e
          cases g1
          have h123_ : xRX m M0 M121 (xup2 R115.2 (a0) 3 (xwr ((R115.2 (a0) 3) - (1)))) := h123
          generalize hGG124 : (xup2 R115.2 (a0) 3 (xwr ((R115.2 (a0) 3) - (1)))) = G124 at e h123
          clear h123_ hGG124
          exact s199_70 hI   h123 ta0 hi110 e
        · rw [if_neg c120] at e
          exact s199_55 hI   h117  e
      · rw [if_neg c114] at e; cases e
    · rw [if_neg c113] at e; cases e
-- ChangeHouseModel.lex
theorem s214_75 {m f : Nat} {M0 M : xj_M} {G : xG_} (hI : xHI f)  {r11 : Int → Int → xG_ → Option (xG_)} {o11 : Nat → Int → Int → xj_M → Option (xj_M)}  (hr11 : ∀ {M : xj_M} {G : xG_} {x1 : Int} {x2 : Int} {R : xG_}, xRX m M0 M G → xin x1 → xin x2 → r11 x1 x2 G = some R → xok (o11 m x1 x2 M) (fun r => xRX m M0 r R)) (h : xRX m M0 M G) {x1 : Int} {R : xG_} (tx1 : xin x1) (e : g214_75  r11 f x1 G = some R) : xok (f214_75  o11 f m x1 M) (fun r => xRX m M0 r R) := by
  unfold g214_75 at e
  unfold f214_75
  obtain ⟨R101, e102, e⟩ := xbnd e
  refine xok_eqb (h.is (o := 0) (c := 15) (by decide) rfl) ?_
  refine xok_call (sg209 hI  h tx1 e102) ?_
  rintro ⟨v_, M105⟩ ⟨hv_, h103, hi104⟩
  cases hv_
  exact hr11 h103 tx1 hi104 e
theorem s214_47b {m f : Nat} {M0 M : xj_M} {G : xG_} (hI : xHI f)  {r11 : Int → Int → xG_ → Option (xG_)} {o11 : Nat → Int → Int → xj_M → Option (xj_M)} {r47 : Int → xG_ → Option (xG_)} {o47 : Nat → Int → xj_M → Option (xj_M)}  (hr11 : ∀ {M : xj_M} {G : xG_} {x1 : Int} {x2 : Int} {R : xG_}, xRX m M0 M G → xin x1 → xin x2 → r11 x1 x2 G = some R → xok (o11 m x1 x2 M) (fun r => xRX m M0 r R)) (hr47 : ∀ {M : xj_M} {G : xG_} {x1 : Int} {R : xG_}, xRX m M0 M G → xin x1 → r47 x1 G = some R → xok (o47 m x1 M) (fun r => xRX m M0 r R)) (h : xRX m M0 M G) {x1 : Int} {R : xG_} (tx1 : xin x1) (e : g214_47b  r11 r47 f x1 G = some R) : xok (f214_47b  o11 o47 f m x1 M) (fun r => xRX m M0 r R) := by
  unfold g214_47b at e
  unfold f214_47b
  refine xok_eqb (h.gi (o := 0) (c := 15) (k := 1) (n := 107) (by decide) rfl (by decide) (by decide)) ?_
  refine xok_ite (fun c106 => ?_) (fun c106 => ?_)
  · rw [if_pos c106] at e
    exact s214_75 hI  hr11 h tx1 e
  · rw [if_neg c106] at e
    by_cases c107 : G 0 0 < 0
    · rw [if_pos c107] at e; cases e
    rw [if_neg c107] at e
    refine xok_eqb (h.src c107) ?_
    by_cases c108 : 0 ≤ (x1) ∧ (x1) < ((xl_t ((G 0 0).toNat)).2.2 : Int)
    · skip
      rw [if_pos c108] at e
      refine xok_eqb (h.ab (o := (G 0 0).toNat) (n := (xl_t ((G 0 0).toNat)).2.2) (xoB_o (h.srt c107)).1 (xoB_o (h.srt c107)).2 (by decide) c108.1 c108.2) ?_
      refine xok_ite (fun c109 => ?_) (fun c109 => ?_)
      · rw [if_pos c109] at e
        exact s214_75 hI  hr11 h tx1 e
      · rw [if_neg c109] at e
        exact hr47 h (xin_wr _) e
    · rw [if_neg c108] at e; cases e
theorem s214_47 {m f : Nat} {M0 : xj_M} (hI : xHI f)  {r11 : Int → Int → xG_ → Option (xG_)} {o11 : Nat → Int → Int → xj_M → Option (xj_M)}  (hr11 : ∀ {M : xj_M} {G : xG_} {x1 : Int} {x2 : Int} {R : xG_}, xRX m M0 M G → xin x1 → xin x2 → r11 x1 x2 G = some R → xok (o11 m x1 x2 M) (fun r => xRX m M0 r R)) : ∀ {n : Nat} {M : xj_M} {G : xG_} {x1 : Int} {R : xG_}, xRX m M0 M G → xin x1 → g214_47  r11 f n x1 G = some R → xok (f214_47  o11 f n m x1 M) (fun r => xRX m M0 r R) := by
  intro n
  induction n with
  | zero => intros; rename_i e; cases e
  | succ n ih =>
    intros
    rename_i h i0 e
    exact s214_47b hI  hr11 ih h i0 e
theorem s214_41 {m f : Nat} {M0 M : xj_M} {G : xG_} (hI : xHI f)  {r11 : Int → Int → xG_ → Option (xG_)} {o11 : Nat → Int → Int → xj_M → Option (xj_M)}  (hr11 : ∀ {M : xj_M} {G : xG_} {x1 : Int} {x2 : Int} {R : xG_}, xRX m M0 M G → xin x1 → xin x2 → r11 x1 x2 G = some R → xok (o11 m x1 x2 M) (fun r => xRX m M0 r R)) (h : xRX m M0 M G) {x1 : Int} {x2 : Int} {R : xG_} (tx1 : xin x1) (tx2 : xin x2) (e : g214_41  r11 f x1 x2 G = some R) : xok (f214_41  o11 f m x1 x2 M) (fun r => xRX m M0 r R) := by
  unfold g214_41 at e
  unfold f214_41
  refine xok_ite (fun c110 => ?_) (fun c110 => ?_)
  · rw [if_pos c110] at e
    exact s214_75 hI  hr11 h (xin_wr _) e
  · rw [if_neg c110] at e
    exact s214_47 hI  hr11 h tx1 e
theorem s214_222 {m f : Nat} {M0 M : xj_M} {G : xG_} (hI : xHI f)     (h : xRX m M0 M G)  {R : xG_}  (e : g214_222   f  G = some R) : xok (f214_222   f  M) (fun r => xRX m M0 r R) := by
  unfold g214_222 at e
  unfold f214_222
  cases e
  exact ⟨_, rfl, h⟩
theorem s214_138 {m f : Nat} {M0 M : xj_M} {G : xG_} (hI : xHI f)     (h : xRX m M0 M G) {x2 : Int} {R : xG_} (tx2 : xin x2) (e : g214_138   f x2 G = some R) : xok (f214_138   f m x2 M) (fun r => xRX m M0 r R) := by
  unfold g214_138 at e
  unfold f214_138
  refine xok_ite (fun c111 => ?_) (fun c111 => ?_)
  · rw [if_pos c111] at e
    obtain ⟨R112, e113, e⟩ := xbnd e
    refine xok_call (sg206 hI  h tx2 e113) ?_
    rintro ⟨v_, M116⟩ ⟨hv_, h114, hi115⟩
    cases hv_
    refine xok_ite (fun c117 => ?_) (fun c117 => ?_)
    · rw [if_pos c117] at e
      obtain ⟨R118, e119, e⟩ := xbnd e
      refine xok_call (sg207 hI  h114 tx2 e119) ?_
      rintro ⟨v_, M122⟩ ⟨hv_, h120, hi121⟩
      cases hv_
      refine xok_ite (fun c123 => ?_) (fun c123 => ?_)
      · rw [if_pos c123] at e
        obtain ⟨R124, e125, e⟩ := xbnd e
        refine xok_call (sg208 hI  h120 tx2 e125) ?_
        rintro ⟨v_, M128⟩ ⟨hv_, h126, hi127⟩
        cases hv_
        refine xok_ite (fun c129 => ?_) (fun c129 => ?_)
        · rw [if_pos c129] at e
          refine xok_ite (fun c130 => ?_) (fun c130 => ?_)
          · rw [if_pos c130] at e
            obtain ⟨R131, e132, e⟩ := xbnd e
            refine xok_eqb (h126.is (o := 0) (c := 15) (by decide) rfl) ?_
            refine xok_call (sg219 hI  h126 tx2 e132) ?_
            intro M135 h133
            exact s214_222 hI   h133  e
          · rw [if_neg c130] at e
            obtain ⟨M136, q137, h138⟩ := h126.pi (v := 4) (o := 0) (c := 15) (k := 2) (n := 107) (by decide) rfl (by decide) (by decide) (show xin (4) by decide)
            refine xok_eqb q137 ?_
            obtain ⟨G139, g1, e⟩ := xbnd e
            cases g1
            have h138_ : xRX m M0 M136 (xup2 R124.2 (0) 2 (4)) := h138
            generalize hGG139 : (xup2 R124.2 (0) 2 (4)) = G139 at e h138
            clear h138_ hGG139
            refine xok_eqb (h138.gi (o := 0) (c := 15) (k := 5) (n := 107) (by decide) rfl (by decide) (by decide)) ?_
            obtain ⟨M140, q141, h142⟩ := h138.pi (v := xwr ((G139 (0) 5) + (1))) (o := 0) (c := 15) (k := 5) (n := 107) (by decide) rfl (by decide) (by decide) (xin_wr _)
            refine xok_eqb q141 ?_
            obtain ⟨G143, g1, e⟩ := xbnd e
            cases g1
            have h142_ : xRX m M0 M140 (xup2 G139 (0) 5 (xwr ((G139 (0) 5) + (1)))) := h142
            generalize hGG143 : (xup2 G139 (0) 5 (xwr ((G139 (0) 5) + (1)))) = G143 at e h142
            clear h142_ hGG143
            exact s214_222 hI   h142  e
        · rw [if_neg c129] at e
          obtain ⟨R144, e145, e⟩ := xbnd e
          refine xok_eqb (h126.is (o := 0) (c := 15) (by decide) rfl) ?_
          refine xok_call (sg218 hI  h126  e145) ?_
          intro M148 h146
          exact s214_222 hI   h146  e
      · rw [if_neg c123] at e
        obtain ⟨R149, e150, e⟩ := xbnd e
        refine xok_eqb (h120.is (o := 0) (c := 15) (by decide) rfl) ?_
        refine xok_call (sg217 hI  h120  e150) ?_
        intro M153 h151
        exact s214_222 hI   h151  e
    · rw [if_neg c117] at e
      obtain ⟨R154, e155, e⟩ := xbnd e
      refine xok_eqb (h114.is (o := 0) (c := 15) (by decide) rfl) ?_
      refine xok_call (sg216 hI  h114  e155) ?_
      intro M158 h156
      exact s214_222 hI   h156  e
  · rw [if_neg c111] at e
    obtain ⟨M159, q160, h161⟩ := h.pi (v := 0) (o := 0) (c := 15) (k := 2) (n := 107) (by decide) rfl (by decide) (by decide) (show xin (0) by decide)
    refine xok_eqb q160 ?_
    obtain ⟨G162, g1, e⟩ := xbnd e
    cases g1
    have h161_ : xRX m M0 M159 (xup2 G (0) 2 (0)) := h161
    generalize hGG162 : (xup2 G (0) 2 (0)) = G162 at e h161
    clear h161_ hGG162
    exact s214_222 hI   h161  e
theorem s214_11b {m f : Nat} {M0 M : xj_M} {G : xG_} (hI : xHI f)  {r11 : Int → Int → xG_ → Option (xG_)} {o11 : Nat → Int → Int → xj_M → Option (xj_M)}  (hr11 : ∀ {M : xj_M} {G : xG_} {x1 : Int} {x2 : Int} {R : xG_}, xRX m M0 M G → xin x1 → xin x2 → r11 x1 x2 G = some R → xok (o11 m x1 x2 M) (fun r => xRX m M0 r R)) (h : xRX m M0 M G) {x1 : Int} {x2 : Int} {R : xG_} (tx1 : xin x1) (tx2 : xin x2) (e : g214_11b  r11 f x1 x2 G = some R) : xok (f214_11b  o11 f m x1 x2 M) (fun r => xRX m M0 r R) := by
  unfold g214_11b at e
  unfold f214_11b
  refine xok_ite (fun c163 => ?_) (fun c163 => ?_)
  · rw [if_pos c163] at e
    exact s214_41 hI  hr11 h tx1 tx2 e
  · rw [if_neg c163] at e
    refine xok_ite (fun c164 => ?_) (fun c164 => ?_)
    · rw [if_pos c164] at e
      exact s214_41 hI  hr11 h tx1 tx2 e
    · rw [if_neg c164] at e
      refine xok_ite (fun c165 => ?_) (fun c165 => ?_)
      · rw [if_pos c165] at e
        exact s214_41 hI  hr11 h tx1 tx2 e
      · rw [if_neg c165] at e
        refine xok_ite (fun c166 => ?_) (fun c166 => ?_)
        · rw [if_pos c166] at e
          exact s214_41 hI  hr11 h tx1 tx2 e
        · rw [if_neg c166] at e
          refine xok_ite (fun c167 => ?_) (fun c167 => ?_)
          · rw [if_pos c167] at e
            obtain ⟨M168, q169, h170⟩ := h.pi (v := x1) (o := 0) (c := 15) (k := 4) (n := 107) (by decide) rfl (by decide) (by decide) tx1
            refine xok_eqb q169 ?_
            obtain ⟨G171, g1, e⟩ := xbnd e
            cases g1
            have h170_ : xRX m M0 M168 (xup2 G (0) 4 (x1)) := h170
            generalize hGG171 : (xup2 G (0) 4 (x1)) = G171 at e h170
            clear h170_ hGG171
            obtain ⟨M172, q173, h174⟩ := h170.pi (v := x1) (o := 0) (c := 15) (k := 5) (n := 107) (by decide) rfl (by decide) (by decide) tx1
            refine xok_eqb q173 ?_
            obtain ⟨G175, g1, e⟩ := xbnd e
            cases g1
            have h174_ : xRX m M0 M172 (xup2 G171 (0) 5 (x1)) := h174
            generalize hGG175 : (xup2 G171 (0) 5 (x1)) = G175 at e h174
            clear h174_ hGG175
            obtain ⟨M176, q177, h178⟩ := h174.pi (v := -1) (o := 0) (c := 15) (k := 6) (n := 107) (by decide) rfl (by decide) (by decide) (show xin (-1) by decide)
            refine xok_eqb q177 ?_
            obtain ⟨G179, g1, e⟩ := xbnd e
            cases g1
            have h178_ : xRX m M0 M176 (xup2 G175 (0) 6 (-1)) := h178
            generalize hGG179 : (xup2 G175 (0) 6 (-1)) = G179 at e h178
            clear h178_ hGG179
            refine xok_eqb (h178.gi (o := 0) (c := 15) (k := 8) (n := 107) (by decide) rfl (by decide) (by decide)) ?_
            obtain ⟨M180, q181, h182⟩ := h178.pi (v := xwr ((G179 (0) 8) + (1))) (o := 0) (c := 15) (k := 8) (n := 107) (by decide) rfl (by decide) (by decide) (xin_wr _)
            refine xok_eqb q181 ?_
            obtain ⟨G183, g1, e⟩ := xbnd e
            cases g1
            have h182_ : xRX m M0 M180 (xup2 G179 (0) 8 (xwr ((G179 (0) 8) + (1)))) := h182
            generalize hGG183 : (xup2 G179 (0) 8 (xwr ((G179 (0) 8) + (1)))) = G183 at e h182
            clear h182_ hGG183
            refine xok_ite (fun c184 => ?_) (fun c184 => ?_)
            · rw [if_pos c184] at e
              exact s214_138 hI   h182 tx2 e
            · rw [if_neg c184] at e
              refine xok_eqb (h182.gi (o := 0) (c := 15) (k := 11) (n := 107) (by decide) rfl (by decide) (by decide)) ?_
              refine xok_ite (fun c185 => ?_) (fun c185 => ?_)
              · rw [if_pos c185] at e
                exact s214_138 hI   h182 tx2 e
              · rw [if_neg c185] at e
                refine xok_eqb (h182.gi (o := 0) (c := 15) (k := 8) (n := 107) (by decide) rfl (by decide) (by decide)) ?_
                refine xok_ite (fun c186 => ?_) (fun c186 => ?_)
                · rw [if_pos c186] at e
                  exact s214_138 hI   h182 tx2 e
                · rw [if_neg c186] at e
                  obtain ⟨M187, q188, h189⟩ := h182.pi (v := 1) (o := 0) (c := 15) (k := 2) (n := 107) (by decide) rfl (by decide) (by decide) (show xin (1) by decide)
                  refine xok_eqb q188 ?_
                  obtain ⟨G190, g1, e⟩ := xbnd e
                  cases g1
                  have h189_ : xRX m M0 M187 (xup2 G183 (0) 2 (1)) := h189
                  generalize hGG190 : (xup2 G183 (0) 2 (1)) = G190 at e h189
                  clear h189_ hGG190
                  exact s214_222 hI   h189  e
          · rw [if_neg c167] at e
            exact s214_41 hI  hr11 h tx1 tx2 e
theorem s214_11 {m f : Nat} {M0 : xj_M} (hI : xHI f)     : ∀ {n : Nat} {M : xj_M} {G : xG_} {x1 : Int} {x2 : Int} {R : xG_}, xRX m M0 M G → xin x1 → xin x2 → g214_11   f n x1 x2 G = some R → xok (f214_11   f n m x1 x2 M) (fun r => xRX m M0 r R) := by
  intro n
  induction n with
  | zero => intros; rename_i e; cases e
  | succ n ih =>
    intros
    rename_i h i0 i1 e
    exact s214_11b hI   ih h i0 i1 e
theorem sg214 {m f : Nat} {M0 M : xj_M} {G : xG_} (hI : xHI f)   (h : xRX m M0 M G)  {R : xG_}  (e : g214  f  G = some R) : xok (f214  f m M) (fun r => xRX m M0 r R) := by
  unfold g214 at e
  unfold f214
  refine xok_eqb (h.gi (o := 0) (c := 15) (k := 5) (n := 107) (by decide) rfl (by decide) (by decide)) ?_
  obtain ⟨R191, e192, e⟩ := xbnd e
  refine xok_eqb (h.is (o := 0) (c := 15) (by decide) rfl) ?_
  refine xok_call (sg209 hI  h (h.gin (o := 0) (c := 15) (k := 5) (n := 107) (by decide) rfl (by decide) (by decide)) e192) ?_
  rintro ⟨v_, M195⟩ ⟨hv_, h193, hi194⟩
  cases hv_
  exact s214_11 hI   h193 (h.gin (o := 0) (c := 15) (k := 5) (n := 107) (by decide) rfl (by decide) (by decide)) hi194 e
-- ChangeHouseModel.findFaults
theorem s252_66 {m f : Nat} {M0 M : xj_M} {G : xG_} (hI : xHI f)  {r7 : Nat → Int → xG_ → Option (xG_)} {o7 : Nat → Nat → Int → xj_M → Option (xj_M)} {r17 : Nat → Int → Int → xG_ → Option (xG_)} {o17 : Nat → Nat → Int → Int → xj_M → Option (xj_M)}  (hr7 : ∀ {M : xj_M} {G : xG_} {x1 : Nat} {x2 : Int} {R : xG_}, xRX m M0 M G → xoP x1 → xin x2 → r7 x1 x2 G = some R → xok (o7 m (m + x1) x2 M) (fun r => xRX m M0 r R)) (hr17 : ∀ {M : xj_M} {G : xG_} {x1 : Nat} {x2 : Int} {x3 : Int} {R : xG_}, xRX m M0 M G → xoP x1 → xin x2 → xin x3 → r17 x1 x2 x3 G = some R → xok (o17 m (m + x1) x2 x3 M) (fun r => xRX m M0 r R)) (h : xRX m M0 M G) {x1 : Nat} {x2 : Int} {x3 : Int} {R : xG_} (tx1 : xoP x1) (tx2 : xin x2) (tx3 : xin x3) (e : g252_66  r7 r17 f x1 x2 x3 G = some R) : xok (f252_66  o7 o17 f m (m + x1) x2 x3 M) (fun r => xRX m M0 r R) := by
  unfold g252_66 at e
  unfold f252_66
  exact hr17 h tx1 tx2 (xin_wr _) e
theorem s252_128 {m f : Nat} {M0 M : xj_M} {G : xG_} (hI : xHI f)  {r7 : Nat → Int → xG_ → Option (xG_)} {o7 : Nat → Nat → Int → xj_M → Option (xj_M)}  (hr7 : ∀ {M : xj_M} {G : xG_} {x1 : Nat} {x2 : Int} {R : xG_}, xRX m M0 M G → xoP x1 → xin x2 → r7 x1 x2 G = some R → xok (o7 m (m + x1) x2 M) (fun r => xRX m M0 r R)) (h : xRX m M0 M G) {x1 : Nat} {x2 : Int} {R : xG_} (tx1 : xoP x1) (tx2 : xin x2) (e : g252_128  r7 f x1 x2 G = some R) : xok (f252_128  o7 f m (m + x1) x2 M) (fun r => xRX m M0 r R) := by
  unfold g252_128 at e
  unfold f252_128
  exact hr7 h tx1 (xin_wr _) e
theorem s252_99 {m f : Nat} {M0 M : xj_M} {G : xG_} (hI : xHI f)  {r7 : Nat → Int → xG_ → Option (xG_)} {o7 : Nat → Nat → Int → xj_M → Option (xj_M)}  (hr7 : ∀ {M : xj_M} {G : xG_} {x1 : Nat} {x2 : Int} {R : xG_}, xRX m M0 M G → xoP x1 → xin x2 → r7 x1 x2 G = some R → xok (o7 m (m + x1) x2 M) (fun r => xRX m M0 r R)) (h : xRX m M0 M G) {x1 : Nat} {x2 : Int} {x3 : Int} {R : xG_} (tx1 : xoP x1) (tx2 : xin x2) (tx3 : xin x3) (e : g252_99  r7 f x1 x2 x3 G = some R) : xok (f252_99  o7 f m (m + x1) x2 x3 M) (fun r => xRX m M0 r R) := by
  unfold g252_99 at e
  unfold f252_99
  refine xok_eqb (h.pt (o := x1) (c := 14) (k := 5) (t := x1 + 6) (n := 38) (xoP_o tx1).1 (xoP_o tx1).2 (by decide) (xoP_all tx1 (Q := fun p => (p, 5, p + 6) ∈ xl_P) (by decide +kernel) (by decide +kernel) (by decide +kernel))) ?_
  by_cases c101 : 0 ≤ (x3) ∧ (x3) < 16
  · skip
    rw [if_pos c101] at e
    refine xok_eqb (h.ab (o := x1 + 6) (n := 16) (xoP_all tx1 (Q := fun p => p + 6 < 276) (by decide) (by decide) (by decide)) (xoP_all tx1 (Q := fun p => xl_t (p + 6) = (2, 0, 16)) rfl rfl rfl) (by decide) c101.1 c101.2) ?_
    refine xok_ite (fun c102 => ?_) (fun c102 => ?_)
    · rw [if_pos c102] at e
      exact s252_128 hI  hr7 h tx1 tx2 e
    · rw [if_neg c102] at e
      refine xok_eqb (h.pt (o := x1) (c := 14) (k := 7) (t := x1 + 8) (n := 38) (xoP_o tx1).1 (xoP_o tx1).2 (by decide) (xoP_all tx1 (Q := fun p => (p, 7, p + 8) ∈ xl_P) (by decide +kernel) (by decide +kernel) (by decide +kernel))) ?_
      by_cases c103 : 0 ≤ (x3) ∧ (x3) < 16
      · skip
        rw [if_pos c103] at e
        refine xok_eqb (h.ab (o := x1 + 8) (n := 16) (xoP_all tx1 (Q := fun p => p + 8 < 276) (by decide) (by decide) (by decide)) (xoP_all tx1 (Q := fun p => xl_t (p + 8) = (2, 0, 16)) rfl rfl rfl) (by decide) c103.1 c103.2) ?_
        refine xok_ite (fun c104 => ?_) (fun c104 => ?_)
        · rw [if_pos c104] at e
          exact s252_128 hI  hr7 h tx1 tx2 e
        · rw [if_neg c104] at e
          refine xok_eqb (h.pt (o := x1) (c := 14) (k := 11) (t := x1 + 10) (n := 38) (xoP_o tx1).1 (xoP_o tx1).2 (by decide) (xoP_all tx1 (Q := fun p => (p, 11, p + 10) ∈ xl_P) (by decide +kernel) (by decide +kernel) (by decide +kernel))) ?_
          by_cases c105 : 0 ≤ (x2) ∧ (x2) < 420
          · skip
            rw [if_pos c105] at e
            refine xok_eqb (h.ai (o := x1 + 10) (n := 420) (xoP_all tx1 (Q := fun p => p + 10 < 276) (by decide) (by decide) (by decide)) (xoP_all tx1 (Q := fun p => xl_t (p + 10) = (2, 3, 420)) rfl rfl rfl) (by decide) c105.1 c105.2) ?_
            obtain ⟨R106, e107, e⟩ := xbnd e
            refine xok_eqb (h.is (o := 0) (c := 15) (by decide) rfl) ?_
            refine xok_call (sg251 hI  h (show xin (2) by decide) (h.ain (o := x1 + 10) (n := 420) (xoP_all tx1 (Q := fun p => p + 10 < 276) (by decide) (by decide) (by decide)) (xoP_all tx1 (Q := fun p => xl_t (p + 10) = (2, 3, 420)) rfl rfl rfl) (by decide) c105.1 c105.2) e107) ?_
            intro M110 h108
            exact s252_128 hI  hr7 h108 tx1 tx2 e
          · rw [if_neg c105] at e; cases e
      · rw [if_neg c103] at e; cases e
  · rw [if_neg c101] at e; cases e
theorem s252_17b {m f : Nat} {M0 M : xj_M} {G : xG_} (hI : xHI f)  {r7 : Nat → Int → xG_ → Option (xG_)} {o7 : Nat → Nat → Int → xj_M → Option (xj_M)} {r17 : Nat → Int → Int → xG_ → Option (xG_)} {o17 : Nat → Nat → Int → Int → xj_M → Option (xj_M)}  (hr7 : ∀ {M : xj_M} {G : xG_} {x1 : Nat} {x2 : Int} {R : xG_}, xRX m M0 M G → xoP x1 → xin x2 → r7 x1 x2 G = some R → xok (o7 m (m + x1) x2 M) (fun r => xRX m M0 r R)) (hr17 : ∀ {M : xj_M} {G : xG_} {x1 : Nat} {x2 : Int} {x3 : Int} {R : xG_}, xRX m M0 M G → xoP x1 → xin x2 → xin x3 → r17 x1 x2 x3 G = some R → xok (o17 m (m + x1) x2 x3 M) (fun r => xRX m M0 r R)) (h : xRX m M0 M G) {x1 : Nat} {x2 : Int} {x3 : Int} {R : xG_} (tx1 : xoP x1) (tx2 : xin x2) (tx3 : xin x3) (e : g252_17b  r7 r17 f x1 x2 x3 G = some R) : xok (f252_17b  o7 o17 f m (m + x1) x2 x3 M) (fun r => xRX m M0 r R) := by
  unfold g252_17b at e
  unfold f252_17b
  refine xok_ite (fun c111 => ?_) (fun c111 => ?_)
  · rw [if_pos c111] at e
    refine xok_eqb (h.pt (o := x1) (c := 14) (k := 10) (t := x1 + 9) (n := 38) (xoP_o tx1).1 (xoP_o tx1).2 (by decide) (xoP_all tx1 (Q := fun p => (p, 10, p + 9) ∈ xl_P) (by decide +kernel) (by decide +kernel) (by decide +kernel))) ?_
    by_cases c112 : 0 ≤ (x2) ∧ (x2) < 420
    · skip
      rw [if_pos c112] at e
      refine xok_eqb (h.ai (o := x1 + 9) (n := 420) (xoP_all tx1 (Q := fun p => p + 9 < 276) (by decide) (by decide) (by decide)) (xoP_all tx1 (Q := fun p => xl_t (p + 9) = (2, 3, 420)) rfl rfl rfl) (by decide) c112.1 c112.2) ?_
      refine xok_eqb (h.pt (o := x1) (c := 14) (k := 13) (t := x1 + 12) (n := 38) (xoP_o tx1).1 (xoP_o tx1).2 (by decide) (xoP_all tx1 (Q := fun p => (p, 13, p + 12) ∈ xl_P) (by decide +kernel) (by decide +kernel) (by decide +kernel))) ?_
      by_cases c113 : 0 ≤ (x2) ∧ (x2) < 420
      · skip
        rw [if_pos c113] at e
        refine xok_eqb (h.ai (o := x1 + 12) (n := 420) (xoP_all tx1 (Q := fun p => p + 12 < 276) (by decide) (by decide) (by decide)) (xoP_all tx1 (Q := fun p => xl_t (p + 12) = (2, 3, 420)) rfl rfl rfl) (by decide) c113.1 c113.2) ?_
        refine xok_ite (fun c114 => ?_) (fun c114 => ?_)
        · rw [if_pos c114] at e
          exact s252_99 hI  hr7 h tx1 tx2 (h.ain (o := x1 + 9) (n := 420) (xoP_all tx1 (Q := fun p => p + 9 < 276) (by decide) (by decide) (by decide)) (xoP_all tx1 (Q := fun p => xl_t (p + 9) = (2, 3, 420)) rfl rfl rfl) (by decide) c112.1 c112.2) e
        · rw [if_neg c114] at e
          refine xok_eqb (h.pt (o := x1) (c := 14) (k := 13) (t := x1 + 12) (n := 38) (xoP_o tx1).1 (xoP_o tx1).2 (by decide) (xoP_all tx1 (Q := fun p => (p, 13, p + 12) ∈ xl_P) (by decide +kernel) (by decide +kernel) (by decide +kernel))) ?_
          by_cases c115 : 0 ≤ (x2) ∧ (x2) < 420
          · skip
            rw [if_pos c115] at e
            refine xok_eqb (h.ai (o := x1 + 12) (n := 420) (xoP_all tx1 (Q := fun p => p + 12 < 276) (by decide) (by decide) (by decide)) (xoP_all tx1 (Q := fun p => xl_t (p + 12) = (2, 3, 420)) rfl rfl rfl) (by decide) c115.1 c115.2) ?_
            refine xok_ite (fun c116 => ?_) (fun c116 => ?_)
            · rw [if_pos c116] at e
              exact s252_128 hI  hr7 h tx1 tx2 e
            · rw [if_neg c116] at e
              exact s252_99 hI  hr7 h tx1 tx2 (h.ain (o := x1 + 9) (n := 420) (xoP_all tx1 (Q := fun p => p + 9 < 276) (by decide) (by decide) (by decide)) (xoP_all tx1 (Q := fun p => xl_t (p + 9) = (2, 3, 420)) rfl rfl rfl) (by decide) c112.1 c112.2) e
          · rw [if_neg c115] at e; cases e
      · rw [if_neg c113] at e; cases e
    · rw [if_neg c112] at e; cases e
  · rw [if_neg c111] at e
    refine xok_eqb (h.pt (o := x1) (c := 14) (k := 10) (t := x1 + 9) (n := 38) (xoP_o tx1).1 (xoP_o tx1).2 (by decide) (xoP_all tx1 (Q := fun p => (p, 10, p + 9) ∈ xl_P) (by decide +kernel) (by decide +kernel) (by decide +kernel))) ?_
    by_cases c117 : 0 ≤ (x3) ∧ (x3) < 420
    · skip
      rw [if_pos c117] at e
      refine xok_eqb (h.ai (o := x1 + 9) (n := 420) (xoP_all tx1 (Q := fun p => p + 9 < 276) (by decide) (by decide) (by decide)) (xoP_all tx1 (Q := fun p => xl_t (p + 9) = (2, 3, 420)) rfl rfl rfl) (by decide) c117.1 c117.2) ?_
      refine xok_eqb (h.pt (o := x1) (c := 14) (k := 10) (t := x1 + 9) (n := 38) (xoP_o tx1).1 (xoP_o tx1).2 (by decide) (xoP_all tx1 (Q := fun p => (p, 10, p + 9) ∈ xl_P) (by decide +kernel) (by decide +kernel) (by decide +kernel))) ?_
      by_cases c118 : 0 ≤ (x2) ∧ (x2) < 420
      · skip
        rw [if_pos c118] at e
        refine xok_eqb (h.ai (o := x1 + 9) (n := 420) (xoP_all tx1 (Q := fun p => p + 9 < 276) (by decide) (by decide) (by decide)) (xoP_all tx1 (Q := fun p => xl_t (p + 9) = (2, 3, 420)) rfl rfl rfl) (by decide) c118.1 c118.2) ?_
        refine xok_ite (fun c119 => ?_) (fun c119 => ?_)
        · rw [if_pos c119] at e
          exact s252_66 hI  hr7 hr17 h tx1 tx2 tx3 e
        · rw [if_neg c119] at e
          refine xok_eqb (h.pt (o := x1) (c := 14) (k := 13) (t := x1 + 12) (n := 38) (xoP_o tx1).1 (xoP_o tx1).2 (by decide) (xoP_all tx1 (Q := fun p => (p, 13, p + 12) ∈ xl_P) (by decide +kernel) (by decide +kernel) (by decide +kernel))) ?_
          by_cases c120 : 0 ≤ (x3) ∧ (x3) < 420
          · skip
            rw [if_pos c120] at e
            refine xok_eqb (h.ai (o := x1 + 12) (n := 420) (xoP_all tx1 (Q := fun p => p + 12 < 276) (by decide) (by decide) (by decide)) (xoP_all tx1 (Q := fun p => xl_t (p + 12) = (2, 3, 420)) rfl rfl rfl) (by decide) c120.1 c120.2) ?_
            refine xok_eqb (h.pt (o := x1) (c := 14) (k := 13) (t := x1 + 12) (n := 38) (xoP_o tx1).1 (xoP_o tx1).2 (by decide) (xoP_all tx1 (Q := fun p => (p, 13, p + 12) ∈ xl_P) (by decide +kernel) (by decide +kernel) (by decide +kernel))) ?_
            by_cases c121 : 0 ≤ (x2) ∧ (x2) < 420
            · skip
              rw [if_pos c121] at e
              refine xok_eqb (h.ai (o := x1 + 12) (n := 420) (xoP_all tx1 (Q := fun p => p + 12 < 276) (by decide) (by decide) (by decide)) (xoP_all tx1 (Q := fun p => xl_t (p + 12) = (2, 3, 420)) rfl rfl rfl) (by decide) c121.1 c121.2) ?_
              obtain ⟨R122, e123, e⟩ := xbnd e
              refine xok_call (sg253 hI  h (h.ain (o := x1 + 12) (n := 420) (xoP_all tx1 (Q := fun p => p + 12 < 276) (by decide) (by decide) (by decide)) (xoP_all tx1 (Q := fun p => xl_t (p + 12) = (2, 3, 420)) rfl rfl rfl) (by decide) c120.1 c120.2) (h.ain (o := x1 + 12) (n := 420) (xoP_all tx1 (Q := fun p => p + 12 < 276) (by decide) (by decide) (by decide)) (xoP_all tx1 (Q := fun p => xl_t (p + 12) = (2, 3, 420)) rfl rfl rfl) (by decide) c121.1 c121.2) e123) ?_
              rintro ⟨v_, M126⟩ ⟨hv_, h124, hi125⟩
              cases hv_
              refine xok_ite (fun c127 => ?_) (fun c127 => ?_)
              · rw [if_pos c127] at e
                exact s252_66 hI  hr7 hr17 h124 tx1 tx2 tx3 e
              · rw [if_neg c127] at e
                refine xok_eqb (h124.pt (o := x1) (c := 14) (k := 11) (t := x1 + 10) (n := 38) (xoP_o tx1).1 (xoP_o tx1).2 (by decide) (xoP_all tx1 (Q := fun p => (p, 11, p + 10) ∈ xl_P) (by decide +kernel) (by decide +kernel) (by decide +kernel))) ?_
                by_cases c128 : 0 ≤ (x2) ∧ (x2) < 420
                · skip
                  rw [if_pos c128] at e
                  refine xok_eqb (h124.ai (o := x1 + 10) (n := 420) (xoP_all tx1 (Q := fun p => p + 10 < 276) (by decide) (by decide) (by decide)) (xoP_all tx1 (Q := fun p => xl_t (p + 10) = (2, 3, 420)) rfl rfl rfl) (by decide) c128.1 c128.2) ?_
                  obtain ⟨R129, e130, e⟩ := xbnd e
                  refine xok_eqb (h124.is (o := 0) (c := 15) (by decide) rfl) ?_
                  refine xok_call (sg251 hI  h124 (show xin (1) by decide) (h124.ain (o := x1 + 10) (n := 420) (xoP_all tx1 (Q := fun p => p + 10 < 276) (by decide) (by decide) (by decide)) (xoP_all tx1 (Q := fun p => xl_t (p + 10) = (2, 3, 420)) rfl rfl rfl) (by decide) c128.1 c128.2) e130) ?_
                  intro M133 h131
                  exact s252_66 hI  hr7 hr17 h131 tx1 tx2 tx3 e
                · rw [if_neg c128] at e; cases e
            · rw [if_neg c121] at e; cases e
          · rw [if_neg c120] at e; cases e
      · rw [if_neg c118] at e; cases e
    · rw [if_neg c117] at e; cases e
theorem s252_17 {m f : Nat} {M0 : xj_M} (hI : xHI f)  {r7 : Nat → Int → xG_ → Option (xG_)} {o7 : Nat → Nat → Int → xj_M → Option (xj_M)}  (hr7 : ∀ {M : xj_M} {G : xG_} {x1 : Nat} {x2 : Int} {R : xG_}, xRX m M0 M G → xoP x1 → xin x2 → r7 x1 x2 G = some R → xok (o7 m (m + x1) x2 M) (fun r => xRX m M0 r R)) : ∀ {n : Nat} {M : xj_M} {G : xG_} {x1 : Nat} {x2 : Int} {x3 : Int} {R : xG_}, xRX m M0 M G → xoP x1 → xin x2 → xin x3 → g252_17  r7 f n x1 x2 x3 G = some R → xok (f252_17  o7 f n m (m + x1) x2 x3 M) (fun r => xRX m M0 r R) := by
  intro n
  induction n with
  | zero => intros; rename_i e; cases e
  | succ n ih =>
    intros
    rename_i h i0 i1 i2 e
    exact s252_17b hI  hr7 ih h i0 i1 i2 e
theorem s252_203 {m f : Nat} {M0 M : xj_M} {G : xG_} (hI : xHI f)  {r176 : Nat → Int → xG_ → Option (xG_)} {o176 : Nat → Nat → Int → xj_M → Option (xj_M)}  (hr176 : ∀ {M : xj_M} {G : xG_} {x1 : Nat} {x2 : Int} {R : xG_}, xRX m M0 M G → xoP x1 → xin x2 → r176 x1 x2 G = some R → xok (o176 m (m + x1) x2 M) (fun r => xRX m M0 r R)) (h : xRX m M0 M G) {x1 : Nat} {x2 : Int} {R : xG_} (tx1 : xoP x1) (tx2 : xin x2) (e : g252_203  r176 f x1 x2 G = some R) : xok (f252_203  o176 f m (m + x1) x2 M) (fun r => xRX m M0 r R) := by
  unfold g252_203 at e
  unfold f252_203
  exact hr176 h tx1 (xin_wr _) e
theorem s252_176b {m f : Nat} {M0 M : xj_M} {G : xG_} (hI : xHI f)  {r176 : Nat → Int → xG_ → Option (xG_)} {o176 : Nat → Nat → Int → xj_M → Option (xj_M)}  (hr176 : ∀ {M : xj_M} {G : xG_} {x1 : Nat} {x2 : Int} {R : xG_}, xRX m M0 M G → xoP x1 → xin x2 → r176 x1 x2 G = some R → xok (o176 m (m + x1) x2 M) (fun r => xRX m M0 r R)) (h : xRX m M0 M G) {x1 : Nat} {x2 : Int} {R : xG_} (tx1 : xoP x1) (tx2 : xin x2) (e : g252_176b  r176 f x1 x2 G = some R) : xok (f252_176b  o176 f m (m + x1) x2 M) (fun r => xRX m M0 r R) := by
  unfold g252_176b at e
  unfold f252_176b
  refine xok_eqb (h.gi (o := x1) (c := 14) (k := 9) (n := 38) (xoP_o tx1).1 (xoP_o tx1).2 (by decide) (by decide)) ?_
  refine xok_ite (fun c134 => ?_) (fun c134 => ?_)
  · rw [if_pos c134] at e
    cases e
    exact ⟨_, rfl, h⟩
  · rw [if_neg c134] at e
    obtain ⟨R135, e136, e⟩ := xbnd e
    refine xok_call (sg260 hI  h tx1 tx2 e136) ?_
    rintro ⟨v_, M139⟩ ⟨hv_, h137, hi138⟩
    cases hv_
    refine xok_ite (fun c140 => ?_) (fun c140 => ?_)
    · rw [if_pos c140] at e
      exact s252_203 hI  hr176 h137 tx1 tx2 e
    · rw [if_neg c140] at e
      refine xok_eqb (h137.pt (o := x1) (c := 14) (k := 16) (t := x1 + 14) (n := 38) (xoP_o tx1).1 (xoP_o tx1).2 (by decide) (xoP_all tx1 (Q := fun p => (p, 16, p + 14) ∈ xl_P) (by decide +kernel) (by decide +kernel) (by decide +kernel))) ?_
      by_cases c141 : 0 ≤ (x2) ∧ (x2) < 25
      · skip
        rw [if_pos c141] at e
        refine xok_eqb (h137.ai (o := x1 + 14) (n := 25) (xoP_all tx1 (Q := fun p => p + 14 < 276) (by decide) (by decide) (by decide)) (xoP_all tx1 (Q := fun p => xl_t (p + 14) = (2, 3, 25)) rfl rfl rfl) (by decide) c141.1 c141.2) ?_
        obtain ⟨R142, e143, e⟩ := xbnd e
        refine xok_eqb (h137.is (o := 0) (c := 15) (by decide) rfl) ?_
        refine xok_call (sg251 hI  h137 (show xin (5) by decide) (h137.ain (o := x1 + 14) (n := 25) (xoP_all tx1 (Q := fun p => p + 14 < 276) (by decide) (by decide) (by decide)) (xoP_all tx1 (Q := fun p => xl_t (p + 14) = (2, 3, 25)) rfl rfl rfl) (by decide) c141.1 c141.2) e143) ?_
        intro M146 h144
        exact s252_203 hI  hr176 h144 tx1 tx2 e
      · rw [if_neg c141] at e; cases e
theorem s252_176 {m f : Nat} {M0 : xj_M} (hI : xHI f)     : ∀ {n : Nat} {M : xj_M} {G : xG_} {x1 : Nat} {x2 : Int} {R : xG_}, xRX m M0 M G → xoP x1 → xin x2 → g252_176   f n x1 x2 G = some R → xok (f252_176   f n m (m + x1) x2 M) (fun r => xRX m M0 r R) := by
  intro n
  induction n with
  | zero => intros; rename_i e; cases e
  | succ n ih =>
    intros
    rename_i h i0 i1 e
    exact s252_176b hI   ih h i0 i1 e
theorem s252_141b {m f : Nat} {M0 M : xj_M} {G : xG_} (hI : xHI f)  {r141 : Nat → Int → xG_ → Option (xG_)} {o141 : Nat → Nat → Int → xj_M → Option (xj_M)}  (hr141 : ∀ {M : xj_M} {G : xG_} {x1 : Nat} {x2 : Int} {R : xG_}, xRX m M0 M G → xoP x1 → xin x2 → r141 x1 x2 G = some R → xok (o141 m (m + x1) x2 M) (fun r => xRX m M0 r R)) (h : xRX m M0 M G) {x1 : Nat} {x2 : Int} {R : xG_} (tx1 : xoP x1) (tx2 : xin x2) (e : g252_141b  r141 f x1 x2 G = some R) : xok (f252_141b  o141 f m (m + x1) x2 M) (fun r => xRX m M0 r R) := by
  unfold g252_141b at e
  unfold f252_141b
  refine xok_eqb (h.gi (o := x1) (c := 14) (k := 9) (n := 38) (xoP_o tx1).1 (xoP_o tx1).2 (by decide) (by decide)) ?_
  refine xok_ite (fun c147 => ?_) (fun c147 => ?_)
  · rw [if_pos c147] at e
    refine xok_eqb (h.gi (o := 0) (c := 15) (k := 26) (n := 107) (by decide) rfl (by decide) (by decide)) ?_
    refine xok_ite (fun c148 => ?_) (fun c148 => ?_)
    · rw [if_pos c148] at e
      obtain ⟨R149, e150, e⟩ := xbnd e
      refine xok_eqb (h.is (o := 0) (c := 15) (by decide) rfl) ?_
      refine xok_call (sg259 hI  h tx1 e150) ?_
      intro M153 h151
      exact s252_176 hI   h151 tx1 (show xin (0) by decide) e
    · rw [if_neg c148] at e
      cases e
      exact ⟨_, rfl, h⟩
  · rw [if_neg c147] at e
    obtain ⟨R154, e155, e⟩ := xbnd e
    refine xok_eqb (h.is (o := 0) (c := 15) (by decide) rfl) ?_
    refine xok_call (sg258 hI  h tx1 tx2 e155) ?_
    intro M158 h156
    exact hr141 h156 tx1 (xin_wr _) e
theorem s252_141 {m f : Nat} {M0 : xj_M} (hI : xHI f)     : ∀ {n : Nat} {M : xj_M} {G : xG_} {x1 : Nat} {x2 : Int} {R : xG_}, xRX m M0 M G → xoP x1 → xin x2 → g252_141   f n x1 x2 G = some R → xok (f252_141   f n m (m + x1) x2 M) (fun r => xRX m M0 r R) := by
  intro n
  induction n with
  | zero => intros; rename_i e; cases e
  | succ n ih =>
    intros
    rename_i h i0 i1 e
    exact s252_141b hI   ih h i0 i1 e
theorem s252_7b {m f : Nat} {M0 M : xj_M} {G : xG_} (hI : xHI f)  {r7 : Nat → Int → xG_ → Option (xG_)} {o7 : Nat → Nat → Int → xj_M → Option (xj_M)}  (hr7 : ∀ {M : xj_M} {G : xG_} {x1 : Nat} {x2 : Int} {R : xG_}, xRX m M0 M G → xoP x1 → xin x2 → r7 x1 x2 G = some R → xok (o7 m (m + x1) x2 M) (fun r => xRX m M0 r R)) (h : xRX m M0 M G) {x1 : Nat} {x2 : Int} {R : xG_} (tx1 : xoP x1) (tx2 : xin x2) (e : g252_7b  r7 f x1 x2 G = some R) : xok (f252_7b  o7 f m (m + x1) x2 M) (fun r => xRX m M0 r R) := by
  unfold g252_7b at e
  unfold f252_7b
  refine xok_eqb (h.gi (o := x1) (c := 14) (k := 14) (n := 38) (xoP_o tx1).1 (xoP_o tx1).2 (by decide) (by decide)) ?_
  refine xok_ite (fun c159 => ?_) (fun c159 => ?_)
  · rw [if_pos c159] at e
    obtain ⟨R160, e161, e⟩ := xbnd e
    refine xok_eqb (h.is (o := 0) (c := 15) (by decide) rfl) ?_
    refine xok_call (sg254 hI  h tx1 e161) ?_
    intro M164 h162
    exact s252_141 hI   h162 tx1 (show xin (0) by decide) e
  · rw [if_neg c159] at e
    exact s252_17 hI  hr7 h tx1 tx2 (show xin (0) by decide) e
theorem s252_7 {m f : Nat} {M0 : xj_M} (hI : xHI f)     : ∀ {n : Nat} {M : xj_M} {G : xG_} {x1 : Nat} {x2 : Int} {R : xG_}, xRX m M0 M G → xoP x1 → xin x2 → g252_7   f n x1 x2 G = some R → xok (f252_7   f n m (m + x1) x2 M) (fun r => xRX m M0 r R) := by
  intro n
  induction n with
  | zero => intros; rename_i e; cases e
  | succ n ih =>
    intros
    rename_i h i0 i1 e
    exact s252_7b hI   ih h i0 i1 e
theorem sg252 {m f : Nat} {M0 M : xj_M} {G : xG_} (hI : xHI f)   (h : xRX m M0 M G) {a1 : Nat} {R : xG_} (ta1 : xoP a1) (e : g252  f a1 G = some R) : xok (f252  f m (m + a1) M) (fun r => xRX m M0 r R) := by
  unfold g252 at e
  unfold f252
  obtain ⟨M165, q166, h167⟩ := h.pi (v := 0) (o := 0) (c := 15) (k := 26) (n := 107) (by decide) rfl (by decide) (by decide) (show xin (0) by decide)
  refine xok_eqb q166 ?_
  obtain ⟨G168, g1, e⟩ := xbnd e
  cases g1
  have h167_ : xRX m M0 M165 (xup2 G (0) 26 (0)) := h167
  generalize hGG168 : (xup2 G (0) 26 (0)) = G168 at e h167
  clear h167_ hGG168
  exact s252_7 hI   h167 ta1 (show xin (0) by decide) e
-- ChangeHouseModel.worked
theorem s268_49 {m f : Nat} {M0 M : xj_M} {G : xG_} (hI : xHI f)     (h : xRX m M0 M G)  {R : Int × xG_}  (e : g268_49   f  G = some R) : xok (f268_49   f m M) (fun r => r.1 = R.1 ∧ xRX m M0 r.2 R.2 ∧ xiN R.1) := by
  unfold g268_49 at e
  unfold f268_49
  obtain ⟨M101, q102, h103⟩ := h.pb (v := 1) (o := 0) (c := 15) (k := 42) (n := 107) (by decide) rfl (by decide) (by decide) (by decide)
  refine xok_eqb q102 ?_
  obtain ⟨G104, g1, e⟩ := xbnd e
  cases g1
  have h103_ : xRX m M0 M101 (xup2 G (0) 42 (1)) := h103
  generalize hGG104 : (xup2 G (0) 42 (1)) = G104 at e h103
  clear h103_ hGG104
  cases e
  exact ⟨_, rfl, rfl, h103, (show xiN (0) by decide)⟩
theorem s268_138 {m f : Nat} {M0 M : xj_M} {G : xG_} (hI : xHI f)     (h : xRX m M0 M G) {x6 : Int} {y0 : Int} {R : Int × xG_} (tx6 : xiN x6) (ty0 : xin y0) (e : g268_138   f x6 y0 G = some R) : xok (f268_138   f x6 y0 m M) (fun r => r.1 = R.1 ∧ xRX m M0 r.2 R.2 ∧ xiN R.1) := by
  unfold g268_138 at e
  unfold f268_138
  by_cases c108 : (y0) = 0 ∨ (y0) = 1
  · skip
    rw [if_pos c108] at e
    obtain ⟨M105, q106, h107⟩ := h.pb (v := y0) (o := 0) (c := 15) (k := 42) (n := 107) (by decide) rfl (by decide) (by decide) c108
    refine xok_eqb q106 ?_
    obtain ⟨G109, g1, e⟩ := xbnd e
    cases g1
    have h107_ : xRX m M0 M105 (xup2 G (0) 42 (y0)) := h107
    generalize hGG109 : (xup2 G (0) 42 (y0)) = G109 at e h107
    clear h107_ hGG109
    cases e
    exact ⟨_, rfl, rfl, h107, tx6⟩
  · rw [if_neg c108] at e; cases e
theorem s268_133 {m f : Nat} {M0 M : xj_M} {G : xG_} (hI : xHI f)     (h : xRX m M0 M G) {x6 : Int} {R : Int × xG_} (tx6 : xiN x6) (e : g268_133   f x6 G = some R) : xok (f268_133   f x6 m M) (fun r => r.1 = R.1 ∧ xRX m M0 r.2 R.2 ∧ xiN R.1) := by
  unfold g268_133 at e
  unfold f268_133
  exact s268_138 hI   h tx6 (show xin (1) by decide) e
theorem s268_112 {m f : Nat} {M0 M : xj_M} {G : xG_} (hI : xHI f)     (h : xRX m M0 M G) {y0 : Int} {R : Int × xG_} (ty0 : xiN y0) (e : g268_112   f y0 G = some R) : xok (f268_112   f m y0 M) (fun r => r.1 = R.1 ∧ xRX m M0 r.2 R.2 ∧ xiN R.1) := by
  unfold g268_112 at e
  unfold f268_112
  refine xok_ite (fun c110 => ?_) (fun c110 => ?_)
  · rw [if_pos c110] at e
    exact s268_133 hI   h ty0 e
  · rw [if_neg c110] at e
    refine xok_ite (fun c111 => ?_) (fun c111 => ?_)
    · rw [if_pos c111] at e
      exact s268_138 hI   h ty0 (show xin (0) by decide) e
    · rw [if_neg c111] at e
      exact s268_133 hI   h ty0 e
theorem s268_56 {m f : Nat} {M0 M : xj_M} {G : xG_} (hI : xHI f)     (h : xRX m M0 M G) {x1 : Int} {x2 : Int} {x4 : Int} {R : Int × xG_} (tx1 : xin x1) (tx2 : xiN x2) (tx4 : xiN x4) (e : g268_56   f x1 x2 x4 G = some R) : xok (f268_56   f m x1 x2 x4 M) (fun r => r.1 = R.1 ∧ xRX m M0 r.2 R.2 ∧ xiN R.1) := by
  unfold g268_56 at e
  unfold f268_56
  refine xok_ite (fun c112 => ?_) (fun c112 => ?_)
  · rw [if_pos c112] at e
    refine xok_ite (fun c113 => ?_) (fun c113 => ?_)
    · rw [if_pos c113] at e
      refine xok_ite (fun c114 => ?_) (fun c114 => ?_)
      · rw [if_pos c114] at e
        refine xok_ite (fun c115 => ?_) (fun c115 => ?_)
        · rw [if_pos c115] at e
          refine xok_ite (fun c116 => ?_) (fun c116 => ?_)
          · rw [if_pos c116] at e; cases e
          rw [if_neg c116] at e
          exact s268_112 hI   h (xiN_of _) e
        · rw [if_neg c115] at e
          refine xok_ite (fun c117 => ?_) (fun c117 => ?_)
          · rw [if_pos c117] at e; cases e
          rw [if_neg c117] at e
          exact s268_112 hI   h (xiN_of _) e
      · rw [if_neg c114] at e
        exact s268_112 hI   h (xiN_wl _) e
    · rw [if_neg c113] at e
      exact s268_112 hI   h (xiN_wl _) e
  · rw [if_neg c112] at e
    exact s268_112 hI   h (xiN_wl _) e
theorem s268_34 {m f : Nat} {M0 M : xj_M} {G : xG_} (hI : xHI f)     (h : xRX m M0 M G) {x1 : Int} {x2 : Int} {x4 : Int} {R : Int × xG_} (tx1 : xin x1) (tx2 : xiN x2) (tx4 : xiN x4) (e : g268_34   f x1 x2 x4 G = some R) : xok (f268_34   f m x1 x2 x4 M) (fun r => r.1 = R.1 ∧ xRX m M0 r.2 R.2 ∧ xiN R.1) := by
  unfold g268_34 at e
  unfold f268_34
  refine xok_ite (fun c118 => ?_) (fun c118 => ?_)
  · rw [if_pos c118] at e
    exact s268_56 hI   h tx1 tx2 tx4 e
  · rw [if_neg c118] at e
    obtain ⟨R119, e120, e⟩ := xbnd e
    refine xok_call (sg269 hI  h tx2 tx4 e120) ?_
    rintro ⟨v_, M123⟩ ⟨hv_, h121, hi122⟩
    cases hv_
    refine xok_ite (fun c124 => ?_) (fun c124 => ?_)
    · rw [if_pos c124] at e
      exact s268_56 hI   h121 tx1 tx2 tx4 e
    · rw [if_neg c124] at e
      exact s268_49 hI   h121  e
theorem s268_27 {m f : Nat} {M0 M : xj_M} {G : xG_} (hI : xHI f)     (h : xRX m M0 M G) {x1 : Int} {x2 : Int} {x4 : Int} {R : Int × xG_} (tx1 : xin x1) (tx2 : xiN x2) (tx4 : xiN x4) (e : g268_27   f x1 x2 x4 G = some R) : xok (f268_27   f m x1 x2 x4 M) (fun r => r.1 = R.1 ∧ xRX m M0 r.2 R.2 ∧ xiN R.1) := by
  unfold g268_27 at e
  unfold f268_27
  refine xok_ite (fun c125 => ?_) (fun c125 => ?_)
  · rw [if_pos c125] at e
    exact s268_49 hI   h  e
  · rw [if_neg c125] at e
    exact s268_34 hI   h tx1 tx2 tx4 e
theorem sg268 {m f : Nat} {M0 M : xj_M} {G : xG_} (hI : xHI f)   (h : xRX m M0 M G) {a1 : Int} {a2 : Int} {a3 : Int} {R : Int × xG_} (ta1 : xin a1) (ta2 : xiN a2) (ta3 : xiN a3) (e : g268  f a1 a2 a3 G = some R) : xok (f268  f m a1 a2 a3 M) (fun r => r.1 = R.1 ∧ xRX m M0 r.2 R.2 ∧ xiN R.1) := by
  unfold g268 at e
  unfold f268
  obtain ⟨R126, e127, e⟩ := xbnd e
  refine xok_call (sg267 hI  h ta2 e127) ?_
  rintro ⟨v_, M130⟩ ⟨hv_, h128, hi129⟩
  cases hv_
  refine xok_ite (fun c131 => ?_) (fun c131 => ?_)
  · rw [if_pos c131] at e
    exact s268_49 hI   h128  e
  · rw [if_neg c131] at e
    obtain ⟨R132, e133, e⟩ := xbnd e
    refine xok_call (sg267 hI  h128 ta3 e133) ?_
    rintro ⟨v_, M136⟩ ⟨hv_, h134, hi135⟩
    cases hv_
    refine xok_ite (fun c137 => ?_) (fun c137 => ?_)
    · rw [if_pos c137] at e
      exact s268_49 hI   h134  e
    · rw [if_neg c137] at e
      refine xok_ite (fun c138 => ?_) (fun c138 => ?_)
      · rw [if_pos c138] at e
        exact s268_27 hI   h134 ta1 ta2 ta3 e
      · rw [if_neg c138] at e
        refine xok_ite (fun c139 => ?_) (fun c139 => ?_)
        · rw [if_pos c139] at e
          exact s268_34 hI   h134 ta1 ta2 ta3 e
        · rw [if_neg c139] at e
          exact s268_27 hI   h134 ta1 ta2 ta3 e
-- ChangeHouseModel.nextRing
theorem s291_36 {m f : Nat} {M0 M : xj_M} {G : xG_} (hI : xHI f)  {r2 : Int → Int → xG_ → Option (Int × xG_)} {o2 : Nat → Int → Int → xj_M → Option (Int × xj_M)}  (hr2 : ∀ {M : xj_M} {G : xG_} {x1 : Int} {x2 : Int} {R : Int × xG_}, xRX m M0 M G → xin x1 → xin x2 → r2 x1 x2 G = some R → xok (o2 m x1 x2 M) (fun r => r.1 = R.1 ∧ xRX m M0 r.2 R.2 ∧ xin R.1)) (h : xRX m M0 M G) {x1 : Int} {x2 : Int} {R : Int × xG_} (tx1 : xin x1) (tx2 : xin x2) (e : g291_36  r2 f x1 x2 G = some R) : xok (f291_36  o2 f m x1 x2 M) (fun r => r.1 = R.1 ∧ xRX m M0 r.2 R.2 ∧ xin R.1) := by
  unfold g291_36 at e
  unfold f291_36
  exact hr2 h tx1 (xin_wr _) e
theorem s291_2b {m f : Nat} {M0 M : xj_M} {G : xG_} (hI : xHI f)  {r2 : Int → Int → xG_ → Option (Int × xG_)} {o2 : Nat → Int → Int → xj_M → Option (Int × xj_M)}  (hr2 : ∀ {M : xj_M} {G : xG_} {x1 : Int} {x2 : Int} {R : Int × xG_}, xRX m M0 M G → xin x1 → xin x2 → r2 x1 x2 G = some R → xok (o2 m x1 x2 M) (fun r => r.1 = R.1 ∧ xRX m M0 r.2 R.2 ∧ xin R.1)) (h : xRX m M0 M G) {x1 : Int} {x2 : Int} {R : Int × xG_} (tx1 : xin x1) (tx2 : xin x2) (e : g291_2b  r2 f x1 x2 G = some R) : xok (f291_2b  o2 f m x1 x2 M) (fun r => r.1 = R.1 ∧ xRX m M0 r.2 R.2 ∧ xin R.1) := by
  unfold g291_2b at e
  unfold f291_2b
  refine xok_eqb (h.pt (o := 0) (c := 15) (k := 29) (t := 2) (n := 107) (by decide) rfl (by decide) (by decide +kernel)) ?_
  refine xok_eqb (h.pt (o := 2) (c := 14) (k := 4) (t := 2 + 5) (n := 38) (xoP_o (show xoP 2 by unfold xoP; omega)).1 (xoP_o (show xoP 2 by unfold xoP; omega)).2 (by decide) (xoP_all (show xoP 2 by unfold xoP; omega) (Q := fun p => (p, 4, p + 5) ∈ xl_P) (by decide +kernel) (by decide +kernel) (by decide +kernel))) ?_
  by_cases c101 : 0 ≤ (x2) ∧ (x2) < 16
  · skip
    rw [if_pos c101] at e
    refine xok_eqb (h.ai (o := 2 + 5) (n := 16) (xoP_all (show xoP 2 by unfold xoP; omega) (Q := fun p => p + 5 < 276) (by decide) (by decide) (by decide)) (xoP_all (show xoP 2 by unfold xoP; omega) (Q := fun p => xl_t (p + 5) = (2, 3, 16)) rfl rfl rfl) (by decide) c101.1 c101.2) ?_
    refine xok_ite (fun c102 => ?_) (fun c102 => ?_)
    · rw [if_pos c102] at e
      exact s291_36 hI  hr2 h tx1 tx2 e
    · rw [if_neg c102] at e
      refine xok_ite (fun c103 => ?_) (fun c103 => ?_)
      · rw [if_pos c103] at e
        exact s291_36 hI  hr2 h tx1 tx2 e
      · rw [if_neg c103] at e
        obtain ⟨R104, e105, e⟩ := xbnd e
        refine xok_eqb (h.is (o := 0) (c := 15) (by decide) rfl) ?_
        refine xok_call (sg292 hI  h tx2 e105) ?_
        rintro ⟨v_, M108⟩ ⟨hv_, h106, hi107⟩
        cases hv_
        refine xok_ite (fun c109 => ?_) (fun c109 => ?_)
        · rw [if_pos c109] at e
          cases e
          exact ⟨_, rfl, rfl, h106, tx2⟩
        · rw [if_neg c109] at e
          exact s291_36 hI  hr2 h106 tx1 tx2 e
  · rw [if_neg c101] at e; cases e
theorem s291_2 {m f : Nat} {M0 : xj_M} (hI : xHI f)     : ∀ {n : Nat} {M : xj_M} {G : xG_} {x1 : Int} {x2 : Int} {R : Int × xG_}, xRX m M0 M G → xin x1 → xin x2 → g291_2   f n x1 x2 G = some R → xok (f291_2   f n m x1 x2 M) (fun r => r.1 = R.1 ∧ xRX m M0 r.2 R.2 ∧ xin R.1) := by
  intro n
  induction n with
  | zero => intros; rename_i e; cases e
  | succ n ih =>
    intros
    rename_i h i0 i1 e
    exact s291_2b hI   ih h i0 i1 e
theorem sg291 {m f : Nat} {M0 M : xj_M} {G : xG_} (hI : xHI f)   (h : xRX m M0 M G) {a1 : Int} {R : Int × xG_} (ta1 : xin a1) (e : g291  f a1 G = some R) : xok (f291  f m a1 M) (fun r => r.1 = R.1 ∧ xRX m M0 r.2 R.2 ∧ xin R.1) := by
  unfold g291 at e
  unfold f291
  exact s291_2 hI   h ta1 (show xin (0) by decide) e
-- ChangeHouseModel.gatherFacts
theorem s302_20b {m f : Nat} {M0 M : xj_M} {G : xG_} (hI : xHI f)  {r7 : Nat → Int → xG_ → Option (xG_)} {o7 : Nat → Nat → Int → xj_M → Option (xj_M)} {r20 : Nat → Int → Int → xG_ → Option (xG_)} {o20 : Nat → Nat → Int → Int → xj_M → Option (xj_M)}  (hr7 : ∀ {M : xj_M} {G : xG_} {x1 : Nat} {x2 : Int} {R : xG_}, xRX m M0 M G → xoF x1 → xin x2 → r7 x1 x2 G = some R → xok (o7 m (m + x1) x2 M) (fun r => xRX m M0 r R)) (hr20 : ∀ {M : xj_M} {G : xG_} {x1 : Nat} {x2 : Int} {x3 : Int} {R : xG_}, xRX m M0 M G → xoF x1 → xin x2 → xin x3 → r20 x1 x2 x3 G = some R → xok (o20 m (m + x1) x2 x3 M) (fun r => xRX m M0 r R)) (h : xRX m M0 M G) {x1 : Nat} {x2 : Int} {x3 : Int} {R : xG_} (tx1 : xoF x1) (tx2 : xin x2) (tx3 : xin x3) (e : g302_20b  r7 r20 f x1 x2 x3 G = some R) : xok (f302_20b  o7 o20 f m (m + x1) x2 x3 M) (fun r => xRX m M0 r R) := by
  unfold g302_20b at e
  unfold f302_20b
  refine xok_eqb (h.pt (o := 0) (c := 15) (k := 33) (t := 108) (n := 107) (by decide) rfl (by decide) (by decide +kernel)) ?_
  by_cases c101 : 0 ≤ (x2) ∧ (x2) < 16
  · skip
    rw [if_pos c101] at e
    refine xok_eqb (h.ai (o := 108) (n := 16) (by decide) rfl (by decide) c101.1 c101.2) ?_
    refine xok_ite (fun c102 => ?_) (fun c102 => ?_)
    · rw [if_pos c102] at e
      exact hr7 h tx1 (xin_wr _) e
    · rw [if_neg c102] at e
      refine xok_eqb (h.pt (o := 0) (c := 15) (k := 29) (t := 2) (n := 107) (by decide) rfl (by decide) (by decide +kernel)) ?_
      refine xok_eqb (h.pt (o := 2) (c := 14) (k := 0) (t := 2 + 1) (n := 38) (xoP_o (show xoP 2 by unfold xoP; omega)).1 (xoP_o (show xoP 2 by unfold xoP; omega)).2 (by decide) (xoP_all (show xoP 2 by unfold xoP; omega) (Q := fun p => (p, 0, p + 1) ∈ xl_P) (by decide +kernel) (by decide +kernel) (by decide +kernel))) ?_
      by_cases c103 : 0 ≤ (x2) ∧ (x2) < 16
      · skip
        rw [if_pos c103] at e
        refine xok_eqb (h.al (o := 2 + 1) (n := 16) (xoP_all (show xoP 2 by unfold xoP; omega) (Q := fun p => p + 1 < 276) (by decide) (by decide) (by decide)) (xoP_all (show xoP 2 by unfold xoP; omega) (Q := fun p => xl_t (p + 1) = (2, 4, 16)) rfl rfl rfl)  c103.1 c103.2) ?_
        refine xok_eqb (h.pt (o := 0) (c := 15) (k := 29) (t := 2) (n := 107) (by decide) rfl (by decide) (by decide +kernel)) ?_
        refine xok_eqb (h.pt (o := 2) (c := 14) (k := 1) (t := 2 + 2) (n := 38) (xoP_o (show xoP 2 by unfold xoP; omega)).1 (xoP_o (show xoP 2 by unfold xoP; omega)).2 (by decide) (xoP_all (show xoP 2 by unfold xoP; omega) (Q := fun p => (p, 1, p + 2) ∈ xl_P) (by decide +kernel) (by decide +kernel) (by decide +kernel))) ?_
        by_cases c104 : 0 ≤ (x2) ∧ (x2) < 16
        · skip
          rw [if_pos c104] at e
          refine xok_eqb (h.ai (o := 2 + 2) (n := 16) (xoP_all (show xoP 2 by unfold xoP; omega) (Q := fun p => p + 2 < 276) (by decide) (by decide) (by decide)) (xoP_all (show xoP 2 by unfold xoP; omega) (Q := fun p => xl_t (p + 2) = (2, 3, 16)) rfl rfl rfl) (by decide) c104.1 c104.2) ?_
          refine xok_eqb (h.pt (o := 0) (c := 15) (k := 32) (t := 107) (n := 107) (by decide) rfl (by decide) (by decide +kernel)) ?_
          obtain ⟨R105, e106, e⟩ := xbnd e
          refine xok_eqb (h.is (o := 0) (c := 15) (by decide) rfl) ?_
          refine xok_call (sg261 hI  h tx2 tx3 e106) ?_
          rintro ⟨v_, M109⟩ ⟨hv_, h107, hi108⟩
          cases hv_
          obtain ⟨R110, e111, e⟩ := xbnd e
          refine xok_eqb (h107.is (o := x1) (c := 12) (xoF_o tx1).1 (xoF_o tx1).2) ?_
          refine xok_call (sg198 hI  h107 tx1 (h.aln (o := 2 + 1) (n := 16) (xoP_all (show xoP 2 by unfold xoP; omega) (Q := fun p => p + 1 < 276) (by decide) (by decide) (by decide)) (xoP_all (show xoP 2 by unfold xoP; omega) (Q := fun p => xl_t (p + 1) = (2, 4, 16)) rfl rfl rfl)  c103.1 c103.2) (h.ain (o := 2 + 2) (n := 16) (xoP_all (show xoP 2 by unfold xoP; omega) (Q := fun p => p + 2 < 276) (by decide) (by decide) (by decide)) (xoP_all (show xoP 2 by unfold xoP; omega) (Q := fun p => xl_t (p + 2) = (2, 3, 16)) rfl rfl rfl) (by decide) c104.1 c104.2) (show xoJ 107 from ⟨by decide, rfl⟩) hi108 e111) ?_
          intro M114 h112
          exact hr20 h112 tx1 tx2 (xin_wr _) e
        · rw [if_neg c104] at e; cases e
      · rw [if_neg c103] at e; cases e
  · rw [if_neg c101] at e; cases e
theorem s302_20 {m f : Nat} {M0 : xj_M} (hI : xHI f)  {r7 : Nat → Int → xG_ → Option (xG_)} {o7 : Nat → Nat → Int → xj_M → Option (xj_M)}  (hr7 : ∀ {M : xj_M} {G : xG_} {x1 : Nat} {x2 : Int} {R : xG_}, xRX m M0 M G → xoF x1 → xin x2 → r7 x1 x2 G = some R → xok (o7 m (m + x1) x2 M) (fun r => xRX m M0 r R)) : ∀ {n : Nat} {M : xj_M} {G : xG_} {x1 : Nat} {x2 : Int} {x3 : Int} {R : xG_}, xRX m M0 M G → xoF x1 → xin x2 → xin x3 → g302_20  r7 f n x1 x2 x3 G = some R → xok (f302_20  o7 f n m (m + x1) x2 x3 M) (fun r => xRX m M0 r R) := by
  intro n
  induction n with
  | zero => intros; rename_i e; cases e
  | succ n ih =>
    intros
    rename_i h i0 i1 i2 e
    exact s302_20b hI  hr7 ih h i0 i1 i2 e
theorem s302_7b {m f : Nat} {M0 M : xj_M} {G : xG_} (hI : xHI f)  {r7 : Nat → Int → xG_ → Option (xG_)} {o7 : Nat → Nat → Int → xj_M → Option (xj_M)}  (hr7 : ∀ {M : xj_M} {G : xG_} {x1 : Nat} {x2 : Int} {R : xG_}, xRX m M0 M G → xoF x1 → xin x2 → r7 x1 x2 G = some R → xok (o7 m (m + x1) x2 M) (fun r => xRX m M0 r R)) (h : xRX m M0 M G) {x1 : Nat} {x2 : Int} {R : xG_} (tx1 : xoF x1) (tx2 : xin x2) (e : g302_7b  r7 f x1 x2 G = some R) : xok (f302_7b  o7 f m (m + x1) x2 M) (fun r => xRX m M0 r R) := by
  unfold g302_7b at e
  unfold f302_7b
  refine xok_eqb (h.pt (o := 0) (c := 15) (k := 29) (t := 2) (n := 107) (by decide) rfl (by decide) (by decide +kernel)) ?_
  refine xok_eqb (h.gi (o := 2) (c := 14) (k := 8) (n := 38) (xoP_o (show xoP 2 by unfold xoP; omega)).1 (xoP_o (show xoP 2 by unfold xoP; omega)).2 (by decide) (by decide)) ?_
  refine xok_ite (fun c115 => ?_) (fun c115 => ?_)
  · rw [if_pos c115] at e
    cases e
    exact ⟨_, rfl, h⟩
  · rw [if_neg c115] at e
    exact s302_20 hI  hr7 h tx1 tx2 (show xin (0) by decide) e
theorem s302_7 {m f : Nat} {M0 : xj_M} (hI : xHI f)     : ∀ {n : Nat} {M : xj_M} {G : xG_} {x1 : Nat} {x2 : Int} {R : xG_}, xRX m M0 M G → xoF x1 → xin x2 → g302_7   f n x1 x2 G = some R → xok (f302_7   f n m (m + x1) x2 M) (fun r => xRX m M0 r R) := by
  intro n
  induction n with
  | zero => intros; rename_i e; cases e
  | succ n ih =>
    intros
    rename_i h i0 i1 e
    exact s302_7b hI   ih h i0 i1 e
theorem sg302 {m f : Nat} {M0 M : xj_M} {G : xG_} (hI : xHI f)   (h : xRX m M0 M G) {a1 : Nat} {R : xG_} (ta1 : xoF a1) (e : g302  f a1 G = some R) : xok (f302  f m (m + a1) M) (fun r => xRX m M0 r R) := by
  unfold g302 at e
  unfold f302
  obtain ⟨M116, q117, h118⟩ := h.pi (v := 0) (o := a1) (c := 12) (k := 3) (n := 4) (xoF_o ta1).1 (xoF_o ta1).2 (by decide) (by decide) (show xin (0) by decide)
  refine xok_eqb q117 ?_
  obtain ⟨G119, g1, e⟩ := xbnd e
  cases g1
  have h118_ : xRX m M0 M116 (xup2 G (a1) 3 (0)) := h118
  generalize hGG119 : (xup2 G (a1) 3 (0)) = G119 at e h118
  clear h118_ hGG119
  exact s302_7 hI   h118 ta1 (show xin (0) by decide) e
-- ChangeHouseModel.tellEdits
theorem s306_217 {m f : Nat} {M0 M : xj_M} {G : xG_} (hI : xHI f)  {r2 : Nat → Int → xG_ → Option (xG_)} {o2 : Nat → Nat → Int → xj_M → Option (xj_M)}  (hr2 : ∀ {M : xj_M} {G : xG_} {x1 : Nat} {x2 : Int} {R : xG_}, xRX m M0 M G → xoL x1 → xin x2 → r2 x1 x2 G = some R → xok (o2 m (m + x1) x2 M) (fun r => xRX m M0 r R)) (h : xRX m M0 M G) {x1 : Nat} {x2 : Int} {R : xG_} (tx1 : xoL x1) (tx2 : xin x2) (e : g306_217  r2 f x1 x2 G = some R) : xok (f306_217  o2 f m (m + x1) x2 M) (fun r => xRX m M0 r R) := by
  unfold g306_217 at e
  unfold f306_217
  exact hr2 h tx1 (xin_wr _) e
theorem s306_211 {m f : Nat} {M0 M : xj_M} {G : xG_} (hI : xHI f)  {r2 : Nat → Int → xG_ → Option (xG_)} {o2 : Nat → Nat → Int → xj_M → Option (xj_M)} {r33 : Nat → Int → Int → Int → xG_ → Option (xG_)} {o33 : Nat → Nat → Int → Int → Int → xj_M → Option (xj_M)}  (hr2 : ∀ {M : xj_M} {G : xG_} {x1 : Nat} {x2 : Int} {R : xG_}, xRX m M0 M G → xoL x1 → xin x2 → r2 x1 x2 G = some R → xok (o2 m (m + x1) x2 M) (fun r => xRX m M0 r R)) (hr33 : ∀ {M : xj_M} {G : xG_} {x1 : Nat} {x2 : Int} {x3 : Int} {x4 : Int} {R : xG_}, xRX m M0 M G → xoL x1 → xin x2 → xin x3 → xin x4 → r33 x1 x2 x3 x4 G = some R → xok (o33 m (m + x1) x2 x3 x4 M) (fun r => xRX m M0 r R)) (h : xRX m M0 M G) {x1 : Nat} {x2 : Int} {x3 : Int} {y0 : Int} {y1 : Int} {R : xG_} (tx1 : xoL x1) (tx2 : xin x2) (tx3 : xin x3) (ty0 : xin y0) (ty1 : xin y1) (e : g306_211  r2 r33 f x1 x2 x3 y0 y1 G = some R) : xok (f306_211  o2 o33 f m (m + x1) x2 x3 y0 y1 M) (fun r => xRX m M0 r R) := by
  unfold g306_211 at e
  unfold f306_211
  exact hr33 h tx1 tx2 tx3 (xin_wr _) e
theorem s306_197 {m f : Nat} {M0 M : xj_M} {G : xG_} (hI : xHI f)  {r2 : Nat → Int → xG_ → Option (xG_)} {o2 : Nat → Nat → Int → xj_M → Option (xj_M)} {r33 : Nat → Int → Int → Int → xG_ → Option (xG_)} {o33 : Nat → Nat → Int → Int → Int → xj_M → Option (xj_M)}  (hr2 : ∀ {M : xj_M} {G : xG_} {x1 : Nat} {x2 : Int} {R : xG_}, xRX m M0 M G → xoL x1 → xin x2 → r2 x1 x2 G = some R → xok (o2 m (m + x1) x2 M) (fun r => xRX m M0 r R)) (hr33 : ∀ {M : xj_M} {G : xG_} {x1 : Nat} {x2 : Int} {x3 : Int} {x4 : Int} {R : xG_}, xRX m M0 M G → xoL x1 → xin x2 → xin x3 → xin x4 → r33 x1 x2 x3 x4 G = some R → xok (o33 m (m + x1) x2 x3 x4 M) (fun r => xRX m M0 r R)) (h : xRX m M0 M G) {x1 : Nat} {x2 : Int} {x4 : Int} {x5 : Int} {y0 : Int} {y1 : Int} {R : xG_} (tx1 : xoL x1) (tx2 : xin x2) (tx4 : xin x4) (tx5 : xin x5) (ty0 : xin y0) (ty1 : xin y1) (e : g306_197  r2 r33 f x1 x2 x4 x5 y0 y1 G = some R) : xok (f306_197  o2 o33 f m (m + x1) x2 x4 x5 y0 y1 M) (fun r => xRX m M0 r R) := by
  unfold g306_197 at e
  unfold f306_197
  refine xok_ite (fun c101 => ?_) (fun c101 => ?_)
  · rw [if_pos c101] at e
    exact s306_211 hI  hr2 hr33 h tx1 tx2 (xin_wr _) (show xin (0) by decide) tx4 e
  · rw [if_neg c101] at e
    exact s306_211 hI  hr2 hr33 h tx1 tx2 (xin_wr _) (show xin (1) by decide) tx4 e
theorem s306_186 {m f : Nat} {M0 M : xj_M} {G : xG_} (hI : xHI f)  {r2 : Nat → Int → xG_ → Option (xG_)} {o2 : Nat → Nat → Int → xj_M → Option (xj_M)} {r33 : Nat → Int → Int → Int → xG_ → Option (xG_)} {o33 : Nat → Nat → Int → Int → Int → xj_M → Option (xj_M)}  (hr2 : ∀ {M : xj_M} {G : xG_} {x1 : Nat} {x2 : Int} {R : xG_}, xRX m M0 M G → xoL x1 → xin x2 → r2 x1 x2 G = some R → xok (o2 m (m + x1) x2 M) (fun r => xRX m M0 r R)) (hr33 : ∀ {M : xj_M} {G : xG_} {x1 : Nat} {x2 : Int} {x3 : Int} {x4 : Int} {R : xG_}, xRX m M0 M G → xoL x1 → xin x2 → xin x3 → xin x4 → r33 x1 x2 x3 x4 G = some R → xok (o33 m (m + x1) x2 x3 x4 M) (fun r => xRX m M0 r R)) (h : xRX m M0 M G) {x1 : Nat} {x2 : Int} {x3 : Int} {x4 : Int} {x5 : Int} {R : xG_} (tx1 : xoL x1) (tx2 : xin x2) (tx3 : xin x3) (tx4 : xin x4) (tx5 : xin x5) (e : g306_186  r2 r33 f x1 x2 x3 x4 x5 G = some R) : xok (f306_186  o2 o33 f m (m + x1) x2 x3 x4 x5 M) (fun r => xRX m M0 r R) := by
  unfold g306_186 at e
  unfold f306_186
  refine xok_ite (fun c102 => ?_) (fun c102 => ?_)
  · rw [if_pos c102] at e
    exact s306_197 hI  hr2 hr33 h tx1 tx2 tx4 tx5 (show xin (0) by decide) tx3 e
  · rw [if_neg c102] at e
    exact s306_197 hI  hr2 hr33 h tx1 tx2 tx4 tx5 (show xin (1) by decide) tx3 e
theorem s306_168 {m f : Nat} {M0 M : xj_M} {G : xG_} (hI : xHI f)  {r2 : Nat → Int → xG_ → Option (xG_)} {o2 : Nat → Nat → Int → xj_M → Option (xj_M)} {r33 : Nat → Int → Int → Int → xG_ → Option (xG_)} {o33 : Nat → Nat → Int → Int → Int → xj_M → Option (xj_M)}  (hr2 : ∀ {M : xj_M} {G : xG_} {x1 : Nat} {x2 : Int} {R : xG_}, xRX m M0 M G → xoL x1 → xin x2 → r2 x1 x2 G = some R → xok (o2 m (m + x1) x2 M) (fun r => xRX m M0 r R)) (hr33 : ∀ {M : xj_M} {G : xG_} {x1 : Nat} {x2 : Int} {x3 : Int} {x4 : Int} {R : xG_}, xRX m M0 M G → xoL x1 → xin x2 → xin x3 → xin x4 → r33 x1 x2 x3 x4 G = some R → xok (o33 m (m + x1) x2 x3 x4 M) (fun r => xRX m M0 r R)) (h : xRX m M0 M G) {x1 : Nat} {x2 : Int} {x3 : Int} {x4 : Int} {x5 : Int} {R : xG_} (tx1 : xoL x1) (tx2 : xin x2) (tx3 : xin x3) (tx4 : xin x4) (tx5 : xin x5) (e : g306_168  r2 r33 f x1 x2 x3 x4 x5 G = some R) : xok (f306_168  o2 o33 f m (m + x1) x2 x3 x4 x5 M) (fun r => xRX m M0 r R) := by
  unfold g306_168 at e
  unfold f306_168
  refine xok_ite (fun c103 => ?_) (fun c103 => ?_)
  · rw [if_pos c103] at e
    exact s306_186 hI  hr2 hr33 h tx1 tx2 tx3 tx4 tx5 e
  · rw [if_neg c103] at e
    refine xok_eqb (h.pt (o := 0) (c := 15) (k := 77) (t := 247) (n := 107) (by decide) rfl (by decide) (by decide +kernel)) ?_
    obtain ⟨R104, e105, e⟩ := xbnd e
    refine xok_eqb (h.is (o := 0) (c := 15) (by decide) rfl) ?_
    refine xok_call (sg307 hI  h tx1 tx2 (show xin (1) by decide) (show xoF 247 by unfold xoF; omega) tx4 e105) ?_
    intro M108 h106
    exact s306_186 hI  hr2 hr33 h106 tx1 tx2 tx3 tx4 tx5 e
theorem s306_149 {m f : Nat} {M0 M : xj_M} {G : xG_} (hI : xHI f)  {r2 : Nat → Int → xG_ → Option (xG_)} {o2 : Nat → Nat → Int → xj_M → Option (xj_M)} {r33 : Nat → Int → Int → Int → xG_ → Option (xG_)} {o33 : Nat → Nat → Int → Int → Int → xj_M → Option (xj_M)}  (hr2 : ∀ {M : xj_M} {G : xG_} {x1 : Nat} {x2 : Int} {R : xG_}, xRX m M0 M G → xoL x1 → xin x2 → r2 x1 x2 G = some R → xok (o2 m (m + x1) x2 M) (fun r => xRX m M0 r R)) (hr33 : ∀ {M : xj_M} {G : xG_} {x1 : Nat} {x2 : Int} {x3 : Int} {x4 : Int} {R : xG_}, xRX m M0 M G → xoL x1 → xin x2 → xin x3 → xin x4 → r33 x1 x2 x3 x4 G = some R → xok (o33 m (m + x1) x2 x3 x4 M) (fun r => xRX m M0 r R)) (h : xRX m M0 M G) {x1 : Nat} {x2 : Int} {x3 : Int} {x4 : Int} {y0 : Int} {R : xG_} (tx1 : xoL x1) (tx2 : xin x2) (tx3 : xin x3) (tx4 : xin x4) (ty0 : xin y0) (e : g306_149  r2 r33 f x1 x2 x3 x4 y0 G = some R) : xok (f306_149  o2 o33 f m (m + x1) x2 x3 x4 y0 M) (fun r => xRX m M0 r R) := by
  unfold g306_149 at e
  unfold f306_149
  refine xok_ite (fun c109 => ?_) (fun c109 => ?_)
  · rw [if_pos c109] at e
    exact s306_168 hI  hr2 hr33 h tx1 tx2 tx3 tx4 ty0 e
  · rw [if_neg c109] at e
    refine xok_eqb (h.pt (o := 0) (c := 15) (k := 76) (t := 243) (n := 107) (by decide) rfl (by decide) (by decide +kernel)) ?_
    obtain ⟨R110, e111, e⟩ := xbnd e
    refine xok_eqb (h.is (o := 0) (c := 15) (by decide) rfl) ?_
    refine xok_call (sg307 hI  h tx1 tx2 (show xin (0) by decide) (show xoF 243 by unfold xoF; omega) tx3 e111) ?_
    intro M114 h112
    exact s306_168 hI  hr2 hr33 h112 tx1 tx2 tx3 tx4 ty0 e
theorem s306_56 {m f : Nat} {M0 M : xj_M} {G : xG_} (hI : xHI f)  {r2 : Nat → Int → xG_ → Option (xG_)} {o2 : Nat → Nat → Int → xj_M → Option (xj_M)} {r33 : Nat → Int → Int → Int → xG_ → Option (xG_)} {o33 : Nat → Nat → Int → Int → Int → xj_M → Option (xj_M)}  (hr2 : ∀ {M : xj_M} {G : xG_} {x1 : Nat} {x2 : Int} {R : xG_}, xRX m M0 M G → xoL x1 → xin x2 → r2 x1 x2 G = some R → xok (o2 m (m + x1) x2 M) (fun r => xRX m M0 r R)) (hr33 : ∀ {M : xj_M} {G : xG_} {x1 : Nat} {x2 : Int} {x3 : Int} {x4 : Int} {R : xG_}, xRX m M0 M G → xoL x1 → xin x2 → xin x3 → xin x4 → r33 x1 x2 x3 x4 G = some R → xok (o33 m (m + x1) x2 x3 x4 M) (fun r => xRX m M0 r R)) (h : xRX m M0 M G) {x1 : Nat} {x2 : Int} {x3 : Int} {x4 : Int} {R : xG_} (tx1 : xoL x1) (tx2 : xin x2) (tx3 : xin x3) (tx4 : xin x4) (e : g306_56  r2 r33 f x1 x2 x3 x4 G = some R) : xok (f306_56  o2 o33 f m (m + x1) x2 x3 x4 M) (fun r => xRX m M0 r R) := by
  unfold g306_56 at e
  unfold f306_56
  refine xok_eqb (h.pt (o := 0) (c := 15) (k := 76) (t := 243) (n := 107) (by decide) rfl (by decide) (by decide +kernel)) ?_
  refine xok_eqb (h.gi (o := 243) (c := 12) (k := 3) (n := 4) (xoF_o (show xoF 243 by unfold xoF; omega)).1 (xoF_o (show xoF 243 by unfold xoF; omega)).2 (by decide) (by decide)) ?_
  refine xok_ite (fun c115 => ?_) (fun c115 => ?_)
  · rw [if_pos c115] at e
    refine xok_eqb (h.pt (o := 0) (c := 15) (k := 77) (t := 247) (n := 107) (by decide) rfl (by decide) (by decide +kernel)) ?_
    refine xok_eqb (h.gi (o := 247) (c := 12) (k := 3) (n := 4) (xoF_o (show xoF 247 by unfold xoF; omega)).1 (xoF_o (show xoF 247 by unfold xoF; omega)).2 (by decide) (by decide)) ?_
    refine xok_ite (fun c116 => ?_) (fun c116 => ?_)
    · rw [if_pos c116] at e
      refine xok_eqb (h.pt (o := 0) (c := 15) (k := 76) (t := 243) (n := 107) (by decide) rfl (by decide) (by decide +kernel)) ?_
      refine xok_eqb (h.pt (o := 243) (c := 12) (k := 0) (t := 243 + 1) (n := 4) (xoF_o (show xoF 243 by unfold xoF; omega)).1 (xoF_o (show xoF 243 by unfold xoF; omega)).2 (by decide) (xoF_all (show xoF 243 by unfold xoF; omega) (Q := fun p => (p, 0, p + 1) ∈ xl_P) (by decide +kernel) (by decide +kernel) (by decide +kernel) (by decide +kernel) (by decide +kernel) (by decide +kernel) (by decide +kernel))) ?_
      by_cases c117 : 0 ≤ (x3) ∧ (x3) < 3400
      · skip
        rw [if_pos c117] at e
        refine xok_eqb (h.al (o := 243 + 1) (n := 3400) (xoF_all (show xoF 243 by unfold xoF; omega) (Q := fun p => p + 1 < 276) (by decide) (by decide) (by decide) (by decide) (by decide) (by decide) (by decide)) (xoF_all (show xoF 243 by unfold xoF; omega) (Q := fun p => xl_t (p + 1) = (2, 4, 3400)) rfl rfl rfl rfl rfl rfl rfl)  c117.1 c117.2) ?_
        refine xok_eqb (h.pt (o := 0) (c := 15) (k := 76) (t := 243) (n := 107) (by decide) rfl (by decide) (by decide +kernel)) ?_
        refine xok_eqb (h.pt (o := 243) (c := 12) (k := 2) (t := 243 + 3) (n := 4) (xoF_o (show xoF 243 by unfold xoF; omega)).1 (xoF_o (show xoF 243 by unfold xoF; omega)).2 (by decide) (xoF_all (show xoF 243 by unfold xoF; omega) (Q := fun p => (p, 2, p + 3) ∈ xl_P) (by decide +kernel) (by decide +kernel) (by decide +kernel) (by decide +kernel) (by decide +kernel) (by decide +kernel) (by decide +kernel))) ?_
        by_cases c118 : 0 ≤ (x3) ∧ (x3) < 3400
        · skip
          rw [if_pos c118] at e
          refine xok_eqb (h.ai (o := 243 + 3) (n := 3400) (xoF_all (show xoF 243 by unfold xoF; omega) (Q := fun p => p + 3 < 276) (by decide) (by decide) (by decide) (by decide) (by decide) (by decide) (by decide)) (xoF_all (show xoF 243 by unfold xoF; omega) (Q := fun p => xl_t (p + 3) = (2, 3, 3400)) rfl rfl rfl rfl rfl rfl rfl) (by decide) c118.1 c118.2) ?_
          refine xok_eqb (h.pt (o := 0) (c := 15) (k := 76) (t := 243) (n := 107) (by decide) rfl (by decide) (by decide +kernel)) ?_
          refine xok_eqb (h.pt (o := 243) (c := 12) (k := 1) (t := 243 + 2) (n := 4) (xoF_o (show xoF 243 by unfold xoF; omega)).1 (xoF_o (show xoF 243 by unfold xoF; omega)).2 (by decide) (xoF_all (show xoF 243 by unfold xoF; omega) (Q := fun p => (p, 1, p + 2) ∈ xl_P) (by decide +kernel) (by decide +kernel) (by decide +kernel) (by decide +kernel) (by decide +kernel) (by decide +kernel) (by decide +kernel))) ?_
          refine xok_eqb (h.pt (o := 0) (c := 15) (k := 77) (t := 247) (n := 107) (by decide) rfl (by decide) (by decide +kernel)) ?_
          refine xok_eqb (h.pt (o := 247) (c := 12) (k := 0) (t := 247 + 1) (n := 4) (xoF_o (show xoF 247 by unfold xoF; omega)).1 (xoF_o (show xoF 247 by unfold xoF; omega)).2 (by decide) (xoF_all (show xoF 247 by unfold xoF; omega) (Q := fun p => (p, 0, p + 1) ∈ xl_P) (by decide +kernel) (by decide +kernel) (by decide +kernel) (by decide +kernel) (by decide +kernel) (by decide +kernel) (by decide +kernel))) ?_
          by_cases c119 : 0 ≤ (x4) ∧ (x4) < 3400
          · skip
            rw [if_pos c119] at e
            refine xok_eqb (h.al (o := 247 + 1) (n := 3400) (xoF_all (show xoF 247 by unfold xoF; omega) (Q := fun p => p + 1 < 276) (by decide) (by decide) (by decide) (by decide) (by decide) (by decide) (by decide)) (xoF_all (show xoF 247 by unfold xoF; omega) (Q := fun p => xl_t (p + 1) = (2, 4, 3400)) rfl rfl rfl rfl rfl rfl rfl)  c119.1 c119.2) ?_
            refine xok_eqb (h.pt (o := 0) (c := 15) (k := 77) (t := 247) (n := 107) (by decide) rfl (by decide) (by decide +kernel)) ?_
            refine xok_eqb (h.pt (o := 247) (c := 12) (k := 2) (t := 247 + 3) (n := 4) (xoF_o (show xoF 247 by unfold xoF; omega)).1 (xoF_o (show xoF 247 by unfold xoF; omega)).2 (by decide) (xoF_all (show xoF 247 by unfold xoF; omega) (Q := fun p => (p, 2, p + 3) ∈ xl_P) (by decide +kernel) (by decide +kernel) (by decide +kernel) (by decide +kernel) (by decide +kernel) (by decide +kernel) (by decide +kernel))) ?_
            by_cases c120 : 0 ≤ (x4) ∧ (x4) < 3400
            · skip
              rw [if_pos c120] at e
              refine xok_eqb (h.ai (o := 247 + 3) (n := 3400) (xoF_all (show xoF 247 by unfold xoF; omega) (Q := fun p => p + 3 < 276) (by decide) (by decide) (by decide) (by decide) (by decide) (by decide) (by decide)) (xoF_all (show xoF 247 by unfold xoF; omega) (Q := fun p => xl_t (p + 3) = (2, 3, 3400)) rfl rfl rfl rfl rfl rfl rfl) (by decide) c120.1 c120.2) ?_
              refine xok_eqb (h.pt (o := 0) (c := 15) (k := 77) (t := 247) (n := 107) (by decide) rfl (by decide) (by decide +kernel)) ?_
              refine xok_eqb (h.pt (o := 247) (c := 12) (k := 1) (t := 247 + 2) (n := 4) (xoF_o (show xoF 247 by unfold xoF; omega)).1 (xoF_o (show xoF 247 by unfold xoF; omega)).2 (by decide) (xoF_all (show xoF 247 by unfold xoF; omega) (Q := fun p => (p, 1, p + 2) ∈ xl_P) (by decide +kernel) (by decide +kernel) (by decide +kernel) (by decide +kernel) (by decide +kernel) (by decide +kernel) (by decide +kernel))) ?_
              obtain ⟨R121, e122, e⟩ := xbnd e
              refine xok_call (sg195 hI  h (h.aln (o := 243 + 1) (n := 3400) (xoF_all (show xoF 243 by unfold xoF; omega) (Q := fun p => p + 1 < 276) (by decide) (by decide) (by decide) (by decide) (by decide) (by decide) (by decide)) (xoF_all (show xoF 243 by unfold xoF; omega) (Q := fun p => xl_t (p + 1) = (2, 4, 3400)) rfl rfl rfl rfl rfl rfl rfl)  c117.1 c117.2) (h.ain (o := 243 + 3) (n := 3400) (xoF_all (show xoF 243 by unfold xoF; omega) (Q := fun p => p + 3 < 276) (by decide) (by decide) (by decide) (by decide) (by decide) (by decide) (by decide)) (xoF_all (show xoF 243 by unfold xoF; omega) (Q := fun p => xl_t (p + 3) = (2, 3, 3400)) rfl rfl rfl rfl rfl rfl rfl) (by decide) c118.1 c118.2) (xoF_all (show xoF 243 by unfold xoF; omega) (Q := fun p => xoJ (p + 2)) ⟨by decide, rfl⟩ ⟨by decide, rfl⟩ ⟨by decide, rfl⟩ ⟨by decide, rfl⟩ ⟨by decide, rfl⟩ ⟨by decide, rfl⟩ ⟨by decide, rfl⟩) (xin_wr _) (h.aln (o := 247 + 1) (n := 3400) (xoF_all (show xoF 247 by unfold xoF; omega) (Q := fun p => p + 1 < 276) (by decide) (by decide) (by decide) (by decide) (by decide) (by decide) (by decide)) (xoF_all (show xoF 247 by unfold xoF; omega) (Q := fun p => xl_t (p + 1) = (2, 4, 3400)) rfl rfl rfl rfl rfl rfl rfl)  c119.1 c119.2) (h.ain (o := 247 + 3) (n := 3400) (xoF_all (show xoF 247 by unfold xoF; omega) (Q := fun p => p + 3 < 276) (by decide) (by decide) (by decide) (by decide) (by decide) (by decide) (by decide)) (xoF_all (show xoF 247 by unfold xoF; omega) (Q := fun p => xl_t (p + 3) = (2, 3, 3400)) rfl rfl rfl rfl rfl rfl rfl) (by decide) c120.1 c120.2) (xoF_all (show xoF 247 by unfold xoF; omega) (Q := fun p => xoJ (p + 2)) ⟨by decide, rfl⟩ ⟨by decide, rfl⟩ ⟨by decide, rfl⟩ ⟨by decide, rfl⟩ ⟨by decide, rfl⟩ ⟨by decide, rfl⟩ ⟨by decide, rfl⟩) (xin_wr _) e122) ?_
              rintro ⟨v_, M125⟩ ⟨hv_, h123, hi124⟩
              cases hv_
              exact s306_149 hI  hr2 hr33 h123 tx1 tx2 tx3 tx4 hi124 e
            · rw [if_neg c120] at e; cases e
          · rw [if_neg c119] at e; cases e
        · rw [if_neg c118] at e; cases e
      · rw [if_neg c117] at e; cases e
    · rw [if_neg c116] at e
      exact s306_149 hI  hr2 hr33 h tx1 tx2 tx3 tx4 (show xin (-1) by decide) e
  · rw [if_neg c115] at e
    exact s306_149 hI  hr2 hr33 h tx1 tx2 tx3 tx4 (show xin (1) by decide) e
theorem s306_33b {m f : Nat} {M0 M : xj_M} {G : xG_} (hI : xHI f)  {r2 : Nat → Int → xG_ → Option (xG_)} {o2 : Nat → Nat → Int → xj_M → Option (xj_M)} {r33 : Nat → Int → Int → Int → xG_ → Option (xG_)} {o33 : Nat → Nat → Int → Int → Int → xj_M → Option (xj_M)}  (hr2 : ∀ {M : xj_M} {G : xG_} {x1 : Nat} {x2 : Int} {R : xG_}, xRX m M0 M G → xoL x1 → xin x2 → r2 x1 x2 G = some R → xok (o2 m (m + x1) x2 M) (fun r => xRX m M0 r R)) (hr33 : ∀ {M : xj_M} {G : xG_} {x1 : Nat} {x2 : Int} {x3 : Int} {x4 : Int} {R : xG_}, xRX m M0 M G → xoL x1 → xin x2 → xin x3 → xin x4 → r33 x1 x2 x3 x4 G = some R → xok (o33 m (m + x1) x2 x3 x4 M) (fun r => xRX m M0 r R)) (h : xRX m M0 M G) {x1 : Nat} {x2 : Int} {x3 : Int} {x4 : Int} {R : xG_} (tx1 : xoL x1) (tx2 : xin x2) (tx3 : xin x3) (tx4 : xin x4) (e : g306_33b  r2 r33 f x1 x2 x3 x4 G = some R) : xok (f306_33b  o2 o33 f m (m + x1) x2 x3 x4 M) (fun r => xRX m M0 r R) := by
  unfold g306_33b at e
  unfold f306_33b
  refine xok_eqb (h.pt (o := 0) (c := 15) (k := 76) (t := 243) (n := 107) (by decide) rfl (by decide) (by decide +kernel)) ?_
  refine xok_eqb (h.gi (o := 243) (c := 12) (k := 3) (n := 4) (xoF_o (show xoF 243 by unfold xoF; omega)).1 (xoF_o (show xoF 243 by unfold xoF; omega)).2 (by decide) (by decide)) ?_
  refine xok_ite (fun c126 => ?_) (fun c126 => ?_)
  · rw [if_pos c126] at e
    exact s306_56 hI  hr2 hr33 h tx1 tx2 tx3 tx4 e
  · rw [if_neg c126] at e
    refine xok_eqb (h.pt (o := 0) (c := 15) (k := 77) (t := 247) (n := 107) (by decide) rfl (by decide) (by decide +kernel)) ?_
    refine xok_eqb (h.gi (o := 247) (c := 12) (k := 3) (n := 4) (xoF_o (show xoF 247 by unfold xoF; omega)).1 (xoF_o (show xoF 247 by unfold xoF; omega)).2 (by decide) (by decide)) ?_
    refine xok_ite (fun c127 => ?_) (fun c127 => ?_)
    · rw [if_pos c127] at e
      exact s306_217 hI  hr2 h tx1 tx2 e
    · rw [if_neg c127] at e
      exact s306_56 hI  hr2 hr33 h tx1 tx2 tx3 tx4 e
theorem s306_33 {m f : Nat} {M0 : xj_M} (hI : xHI f)  {r2 : Nat → Int → xG_ → Option (xG_)} {o2 : Nat → Nat → Int → xj_M → Option (xj_M)}  (hr2 : ∀ {M : xj_M} {G : xG_} {x1 : Nat} {x2 : Int} {R : xG_}, xRX m M0 M G → xoL x1 → xin x2 → r2 x1 x2 G = some R → xok (o2 m (m + x1) x2 M) (fun r => xRX m M0 r R)) : ∀ {n : Nat} {M : xj_M} {G : xG_} {x1 : Nat} {x2 : Int} {x3 : Int} {x4 : Int} {R : xG_}, xRX m M0 M G → xoL x1 → xin x2 → xin x3 → xin x4 → g306_33  r2 f n x1 x2 x3 x4 G = some R → xok (f306_33  o2 f n m (m + x1) x2 x3 x4 M) (fun r => xRX m M0 r R) := by
  intro n
  induction n with
  | zero => intros; rename_i e; cases e
  | succ n ih =>
    intros
    rename_i h i0 i1 i2 i3 e
    exact s306_33b hI  hr2 ih h i0 i1 i2 i3 e
theorem s306_2b {m f : Nat} {M0 M : xj_M} {G : xG_} (hI : xHI f)  {r2 : Nat → Int → xG_ → Option (xG_)} {o2 : Nat → Nat → Int → xj_M → Option (xj_M)}  (hr2 : ∀ {M : xj_M} {G : xG_} {x1 : Nat} {x2 : Int} {R : xG_}, xRX m M0 M G → xoL x1 → xin x2 → r2 x1 x2 G = some R → xok (o2 m (m + x1) x2 M) (fun r => xRX m M0 r R)) (h : xRX m M0 M G) {x1 : Nat} {x2 : Int} {R : xG_} (tx1 : xoL x1) (tx2 : xin x2) (e : g306_2b  r2 f x1 x2 G = some R) : xok (f306_2b  o2 f m (m + x1) x2 M) (fun r => xRX m M0 r R) := by
  unfold g306_2b at e
  unfold f306_2b
  refine xok_eqb (h.pt (o := 0) (c := 15) (k := 29) (t := 2) (n := 107) (by decide) rfl (by decide) (by decide +kernel)) ?_
  refine xok_eqb (h.gi (o := 2) (c := 14) (k := 8) (n := 38) (xoP_o (show xoP 2 by unfold xoP; omega)).1 (xoP_o (show xoP 2 by unfold xoP; omega)).2 (by decide) (by decide)) ?_
  refine xok_ite (fun c128 => ?_) (fun c128 => ?_)
  · rw [if_pos c128] at e
    cases e
    exact ⟨_, rfl, h⟩
  · rw [if_neg c128] at e
    refine xok_eqb (h.pt (o := 0) (c := 15) (k := 29) (t := 2) (n := 107) (by decide) rfl (by decide) (by decide +kernel)) ?_
    refine xok_eqb (h.pt (o := 2) (c := 14) (k := 6) (t := 2 + 7) (n := 38) (xoP_o (show xoP 2 by unfold xoP; omega)).1 (xoP_o (show xoP 2 by unfold xoP; omega)).2 (by decide) (xoP_all (show xoP 2 by unfold xoP; omega) (Q := fun p => (p, 6, p + 7) ∈ xl_P) (by decide +kernel) (by decide +kernel) (by decide +kernel))) ?_
    by_cases c129 : 0 ≤ (x2) ∧ (x2) < 16
    · skip
      rw [if_pos c129] at e
      refine xok_eqb (h.ab (o := 2 + 7) (n := 16) (xoP_all (show xoP 2 by unfold xoP; omega) (Q := fun p => p + 7 < 276) (by decide) (by decide) (by decide)) (xoP_all (show xoP 2 by unfold xoP; omega) (Q := fun p => xl_t (p + 7) = (2, 0, 16)) rfl rfl rfl) (by decide) c129.1 c129.2) ?_
      refine xok_ite (fun c130 => ?_) (fun c130 => ?_)
      · rw [if_pos c130] at e
        exact s306_33 hI  hr2 h tx1 tx2 (show xin (0) by decide) (show xin (0) by decide) e
      · rw [if_neg c130] at e
        exact s306_217 hI  hr2 h tx1 tx2 e
    · rw [if_neg c129] at e; cases e
theorem s306_2 {m f : Nat} {M0 : xj_M} (hI : xHI f)     : ∀ {n : Nat} {M : xj_M} {G : xG_} {x1 : Nat} {x2 : Int} {R : xG_}, xRX m M0 M G → xoL x1 → xin x2 → g306_2   f n x1 x2 G = some R → xok (f306_2   f n m (m + x1) x2 M) (fun r => xRX m M0 r R) := by
  intro n
  induction n with
  | zero => intros; rename_i e; cases e
  | succ n ih =>
    intros
    rename_i h i0 i1 e
    exact s306_2b hI   ih h i0 i1 e
theorem sg306 {m f : Nat} {M0 M : xj_M} {G : xG_} (hI : xHI f)   (h : xRX m M0 M G) {a1 : Nat} {R : xG_} (ta1 : xoL a1) (e : g306  f a1 G = some R) : xok (f306  f m (m + a1) M) (fun r => xRX m M0 r R) := by
  unfold g306 at e
  unfold f306
  exact s306_2 hI   h ta1 (show xin (0) by decide) e
-- ChangeHouseModel.trim
theorem s308_61 {m f : Nat} {M0 M : xj_M} {G : xG_} (hI : xHI f)  {r0 : Nat → xG_ → Option (xG_)} {o0 : Nat → xj_M → Option (xj_M)}  (hr0 : ∀ {M : xj_M} {G : xG_} {x1 : Nat} {R : xG_}, xRX m M0 M G → xoL x1 → r0 x1 G = some R → xok (o0 (m + x1) M) (fun r => xRX m M0 r R)) (h : xRX m M0 M G) {x1 : Nat} {R : xG_} (tx1 : xoL x1) (e : g308_61  r0 f x1 G = some R) : xok (f308_61  o0 f (m + x1) M) (fun r => xRX m M0 r R) := by
  unfold g308_61 at e
  unfold f308_61
  refine xok_eqb (h.gi (o := x1) (c := 13) (k := 3) (n := 37) (xoL_o tx1).1 (xoL_o tx1).2 (by decide) (by decide)) ?_
  obtain ⟨M101, q102, h103⟩ := h.pi (v := xwr ((G (x1) 3) + (1))) (o := x1) (c := 13) (k := 3) (n := 37) (xoL_o tx1).1 (xoL_o tx1).2 (by decide) (by decide) (xin_wr _)
  refine xok_eqb q102 ?_
  obtain ⟨G104, g1, e⟩ := xbnd e
  cases g1
  have h103_ : xRX m M0 M101 (xup2 G (x1) 3 (xwr ((G (x1) 3) + (1)))) := h103
  generalize hGG104 : (xup2 G (x1) 3 (xwr ((G (x1) 3) + (1)))) = G104 at e h103
  clear h103_ hGG104
  exact hr0 h103 tx1 e
theorem s308_174b {m f : Nat} {M0 M : xj_M} {G : xG_} (hI : xHI f)  {r107 : Nat → Int → Int → xG_ → Option (xG_)} {o107 : Nat → Int → Int → xj_M → Option (xj_M)} {r174 : Nat → Int → Int → Int → xG_ → Option (xG_)} {o174 : Nat → Int → Int → Int → xj_M → Option (xj_M)}  (hr107 : ∀ {M : xj_M} {G : xG_} {x1 : Nat} {x2 : Int} {x3 : Int} {R : xG_}, xRX m M0 M G → xoL x1 → xin x2 → xin x3 → r107 x1 x2 x3 G = some R → xok (o107 (m + x1) x2 x3 M) (fun r => xRX m M0 r R)) (hr174 : ∀ {M : xj_M} {G : xG_} {x1 : Nat} {x2 : Int} {x3 : Int} {x4 : Int} {R : xG_}, xRX m M0 M G → xoL x1 → xin x2 → xin x3 → xin x4 → r174 x1 x2 x3 x4 G = some R → xok (o174 (m + x1) x2 x3 x4 M) (fun r => xRX m M0 r R)) (h : xRX m M0 M G) {x1 : Nat} {x2 : Int} {x3 : Int} {x4 : Int} {R : xG_} (tx1 : xoL x1) (tx2 : xin x2) (tx3 : xin x3) (tx4 : xin x4) (e : g308_174b  r107 r174 f x1 x2 x3 x4 G = some R) : xok (f308_174b  o107 o174 f (m + x1) x2 x3 x4 M) (fun r => xRX m M0 r R) := by
  unfold g308_174b at e
  unfold f308_174b
  refine xok_ite (fun c105 => ?_) (fun c105 => ?_)
  · rw [if_pos c105] at e
    exact hr107 h tx1 tx2 (xin_wr _) e
  · rw [if_neg c105] at e
    refine xok_eqb (h.pt (o := x1) (c := 13) (k := 9) (t := x1 + 9) (n := 37) (xoL_o tx1).1 (xoL_o tx1).2 (by decide) (xoL_all tx1 (Q := fun p => (p, 9, p + 9) ∈ xl_P) (by decide +kernel) (by decide +kernel) (by decide +kernel) (by decide +kernel))) ?_
    refine xok_eqb (h.pt (o := x1) (c := 13) (k := 9) (t := x1 + 9) (n := 37) (xoL_o tx1).1 (xoL_o tx1).2 (by decide) (xoL_all tx1 (Q := fun p => (p, 9, p + 9) ∈ xl_P) (by decide +kernel) (by decide +kernel) (by decide +kernel) (by decide +kernel))) ?_
    by_cases c106 : 0 ≤ (xwr ((xwr ((4) * (xwr ((x3) + (x2))))) + (x4))) ∧ (xwr ((xwr ((4) * (xwr ((x3) + (x2))))) + (x4))) < 48000
    · skip
      rw [if_pos c106] at e
      refine xok_eqb (h.al (o := x1 + 9) (n := 48000) (xoL_all tx1 (Q := fun p => p + 9 < 276) (by decide) (by decide) (by decide) (by decide)) (xoL_all tx1 (Q := fun p => xl_t (p + 9) = (2, 4, 48000)) rfl rfl rfl rfl)  c106.1 c106.2) ?_
      by_cases c107 : 0 ≤ (xwr ((xwr ((4) * (x3))) + (x4))) ∧ (xwr ((xwr ((4) * (x3))) + (x4))) < 48000
      · skip
        rw [if_pos c107] at e
        obtain ⟨M108, q109, h110⟩ := h.sl (o := x1 + 9) (n := 48000) (v := G (x1 + 9) (xwr ((xwr ((4) * (xwr ((x3) + (x2))))) + (x4))).toNat) (xoL_all tx1 (Q := fun p => p + 9 < 276) (by decide) (by decide) (by decide) (by decide)) (xoL_all tx1 (Q := fun p => xl_t (p + 9) = (2, 4, 48000)) rfl rfl rfl rfl) c107.1 c107.2 (h.aln (o := x1 + 9) (n := 48000) (xoL_all tx1 (Q := fun p => p + 9 < 276) (by decide) (by decide) (by decide) (by decide)) (xoL_all tx1 (Q := fun p => xl_t (p + 9) = (2, 4, 48000)) rfl rfl rfl rfl)  c106.1 c106.2)
        refine xok_eqb q109 ?_
        obtain ⟨G111, g1, e⟩ := xbnd e
        cases g1
        have h110_ : xRX m M0 M108 (xup2 G (x1 + 9) (xwr ((xwr ((4) * (x3))) + (x4))).toNat (G (x1 + 9) (xwr ((xwr ((4) * (xwr ((x3) + (x2))))) + (x4))).toNat)) := h110
        generalize hGG111 : (xup2 G (x1 + 9) (xwr ((xwr ((4) * (x3))) + (x4))).toNat (G (x1 + 9) (xwr ((xwr ((4) * (xwr ((x3) + (x2))))) + (x4))).toNat)) = G111 at e h110
        clear h110_ hGG111
        exact hr174 h110 tx1 tx2 tx3 (xin_wr _) e
      · rw [if_neg c107] at e; cases e
    · rw [if_neg c106] at e; cases e
theorem s308_174 {m f : Nat} {M0 : xj_M} (hI : xHI f)  {r107 : Nat → Int → Int → xG_ → Option (xG_)} {o107 : Nat → Int → Int → xj_M → Option (xj_M)}  (hr107 : ∀ {M : xj_M} {G : xG_} {x1 : Nat} {x2 : Int} {x3 : Int} {R : xG_}, xRX m M0 M G → xoL x1 → xin x2 → xin x3 → r107 x1 x2 x3 G = some R → xok (o107 (m + x1) x2 x3 M) (fun r => xRX m M0 r R)) : ∀ {n : Nat} {M : xj_M} {G : xG_} {x1 : Nat} {x2 : Int} {x3 : Int} {x4 : Int} {R : xG_}, xRX m M0 M G → xoL x1 → xin x2 → xin x3 → xin x4 → g308_174  r107 f n x1 x2 x3 x4 G = some R → xok (f308_174  o107 f n (m + x1) x2 x3 x4 M) (fun r => xRX m M0 r R) := by
  intro n
  induction n with
  | zero => intros; rename_i e; cases e
  | succ n ih =>
    intros
    rename_i h i0 i1 i2 i3 e
    exact s308_174b hI  hr107 ih h i0 i1 i2 i3 e
theorem s308_338b {m f : Nat} {M0 M : xj_M} {G : xG_} (hI : xHI f)  {r338 : Nat → Int → Int → xG_ → Option (xG_)} {o338 : Nat → Int → Int → xj_M → Option (xj_M)}  (hr338 : ∀ {M : xj_M} {G : xG_} {x1 : Nat} {x2 : Int} {x3 : Int} {R : xG_}, xRX m M0 M G → xoL x1 → xin x2 → xin x3 → r338 x1 x2 x3 G = some R → xok (o338 (m + x1) x2 x3 M) (fun r => xRX m M0 r R)) (h : xRX m M0 M G) {x1 : Nat} {x2 : Int} {x3 : Int} {R : xG_} (tx1 : xoL x1) (tx2 : xin x2) (tx3 : xin x3) (e : g308_338b  r338 f x1 x2 x3 G = some R) : xok (f308_338b  o338 f (m + x1) x2 x3 M) (fun r => xRX m M0 r R) := by
  unfold g308_338b at e
  unfold f308_338b
  refine xok_eqb (h.gi (o := x1) (c := 13) (k := 17) (n := 37) (xoL_o tx1).1 (xoL_o tx1).2 (by decide) (by decide)) ?_
  refine xok_ite (fun c112 => ?_) (fun c112 => ?_)
  · rw [if_pos c112] at e
    cases e
    exact ⟨_, rfl, h⟩
  · rw [if_neg c112] at e
    refine xok_eqb (h.pt (o := x1) (c := 13) (k := 14) (t := x1 + 13) (n := 37) (xoL_o tx1).1 (xoL_o tx1).2 (by decide) (xoL_all tx1 (Q := fun p => (p, 14, p + 13) ∈ xl_P) (by decide +kernel) (by decide +kernel) (by decide +kernel) (by decide +kernel))) ?_
    refine xok_eqb (h.pt (o := x1) (c := 13) (k := 14) (t := x1 + 13) (n := 37) (xoL_o tx1).1 (xoL_o tx1).2 (by decide) (xoL_all tx1 (Q := fun p => (p, 14, p + 13) ∈ xl_P) (by decide +kernel) (by decide +kernel) (by decide +kernel) (by decide +kernel))) ?_
    by_cases c113 : 0 ≤ (xwr ((x3) + (x2))) ∧ (xwr ((x3) + (x2))) < 20
    · skip
      rw [if_pos c113] at e
      refine xok_eqb (h.ai (o := x1 + 13) (n := 20) (xoL_all tx1 (Q := fun p => p + 13 < 276) (by decide) (by decide) (by decide) (by decide)) (xoL_all tx1 (Q := fun p => xl_t (p + 13) = (2, 3, 20)) rfl rfl rfl rfl) (by decide) c113.1 c113.2) ?_
      by_cases c114 : 0 ≤ (x3) ∧ (x3) < 20
      · skip
        rw [if_pos c114] at e
        obtain ⟨M115, q116, h117⟩ := h.si (o := x1 + 13) (n := 20) (v := G (x1 + 13) (xwr ((x3) + (x2))).toNat) (xoL_all tx1 (Q := fun p => p + 13 < 276) (by decide) (by decide) (by decide) (by decide)) (xoL_all tx1 (Q := fun p => xl_t (p + 13) = (2, 3, 20)) rfl rfl rfl rfl) c114.1 c114.2 (h.ain (o := x1 + 13) (n := 20) (xoL_all tx1 (Q := fun p => p + 13 < 276) (by decide) (by decide) (by decide) (by decide)) (xoL_all tx1 (Q := fun p => xl_t (p + 13) = (2, 3, 20)) rfl rfl rfl rfl) (by decide) c113.1 c113.2)
        refine xok_eqb q116 ?_
        obtain ⟨G118, g1, e⟩ := xbnd e
        cases g1
        have h117_ : xRX m M0 M115 (xup2 G (x1 + 13) (x3).toNat (G (x1 + 13) (xwr ((x3) + (x2))).toNat)) := h117
        generalize hGG118 : (xup2 G (x1 + 13) (x3).toNat (G (x1 + 13) (xwr ((x3) + (x2))).toNat)) = G118 at e h117
        clear h117_ hGG118
        refine xok_eqb (h117.pt (o := x1) (c := 13) (k := 15) (t := x1 + 14) (n := 37) (xoL_o tx1).1 (xoL_o tx1).2 (by decide) (xoL_all tx1 (Q := fun p => (p, 15, p + 14) ∈ xl_P) (by decide +kernel) (by decide +kernel) (by decide +kernel) (by decide +kernel))) ?_
        refine xok_eqb (h117.pt (o := x1) (c := 13) (k := 15) (t := x1 + 14) (n := 37) (xoL_o tx1).1 (xoL_o tx1).2 (by decide) (xoL_all tx1 (Q := fun p => (p, 15, p + 14) ∈ xl_P) (by decide +kernel) (by decide +kernel) (by decide +kernel) (by decide +kernel))) ?_
        by_cases c119 : 0 ≤ (xwr ((x3) + (x2))) ∧ (xwr ((x3) + (x2))) < 20
        · skip
          rw [if_pos c119] at e
          refine xok_eqb (h117.ai (o := x1 + 14) (n := 20) (xoL_all tx1 (Q := fun p => p + 14 < 276) (by decide) (by decide) (by decide) (by decide)) (xoL_all tx1 (Q := fun p => xl_t (p + 14) = (2, 3, 20)) rfl rfl rfl rfl) (by decide) c119.1 c119.2) ?_
          by_cases c120 : 0 ≤ (x3) ∧ (x3) < 20
          · skip
            rw [if_pos c120] at e
            obtain ⟨M121, q122, h123⟩ := h117.si (o := x1 + 14) (n := 20) (v := G118 (x1 + 14) (xwr ((x3) + (x2))).toNat) (xoL_all tx1 (Q := fun p => p + 14 < 276) (by decide) (by decide) (by decide) (by decide)) (xoL_all tx1 (Q := fun p => xl_t (p + 14) = (2, 3, 20)) rfl rfl rfl rfl) c120.1 c120.2 (h117.ain (o := x1 + 14) (n := 20) (xoL_all tx1 (Q := fun p => p + 14 < 276) (by decide) (by decide) (by decide) (by decide)) (xoL_all tx1 (Q := fun p => xl_t (p + 14) = (2, 3, 20)) rfl rfl rfl rfl) (by decide) c119.1 c119.2)
            refine xok_eqb q122 ?_
            obtain ⟨G124, g1, e⟩ := xbnd e
            cases g1
            have h123_ : xRX m M0 M121 (xup2 G118 (x1 + 14) (x3).toNat (G118 (x1 + 14) (xwr ((x3) + (x2))).toNat)) := h123
            generalize hGG124 : (xup2 G118 (x1 + 14) (x3).toNat (G118 (x1 + 14) (xwr ((x3) + (x2))).toNat)) = G124 at e h123
            clear h123_ hGG124
            exact hr338 h123 tx1 tx2 (xin_wr _) e
          · rw [if_neg c120] at e; cases e
        · rw [if_neg c119] at e; cases e
      · rw [if_neg c114] at e; cases e
    · rw [if_neg c113] at e; cases e
theorem s308_338 {m f : Nat} {M0 : xj_M} (hI : xHI f)     : ∀ {n : Nat} {M : xj_M} {G : xG_} {x1 : Nat} {x2 : Int} {x3 : Int} {R : xG_}, xRX m M0 M G → xoL x1 → xin x2 → xin x3 → g308_338   f n x1 x2 x3 G = some R → xok (f308_338   f n (m + x1) x2 x3 M) (fun r => xRX m M0 r R) := by
  intro n
  induction n with
  | zero => intros; rename_i e; cases e
  | succ n ih =>
    intros
    rename_i h i0 i1 i2 e
    exact s308_338b hI   ih h i0 i1 i2 e
theorem s308_249b {m f : Nat} {M0 M : xj_M} {G : xG_} (hI : xHI f)  {r249 : Nat → Int → Int → xG_ → Option (xG_)} {o249 : Nat → Int → Int → xj_M → Option (xj_M)}  (hr249 : ∀ {M : xj_M} {G : xG_} {x1 : Nat} {x2 : Int} {x3 : Int} {R : xG_}, xRX m M0 M G → xoL x1 → xin x2 → xin x3 → r249 x1 x2 x3 G = some R → xok (o249 (m + x1) x2 x3 M) (fun r => xRX m M0 r R)) (h : xRX m M0 M G) {x1 : Nat} {x2 : Int} {x3 : Int} {R : xG_} (tx1 : xoL x1) (tx2 : xin x2) (tx3 : xin x3) (e : g308_249b  r249 f x1 x2 x3 G = some R) : xok (f308_249b  o249 f (m + x1) x2 x3 M) (fun r => xRX m M0 r R) := by
  unfold g308_249b at e
  unfold f308_249b
  refine xok_eqb (h.gi (o := x1) (c := 13) (k := 16) (n := 37) (xoL_o tx1).1 (xoL_o tx1).2 (by decide) (by decide)) ?_
  refine xok_ite (fun c125 => ?_) (fun c125 => ?_)
  · rw [if_pos c125] at e
    refine xok_eqb (h.gi (o := x1) (c := 13) (k := 17) (n := 37) (xoL_o tx1).1 (xoL_o tx1).2 (by decide) (by decide)) ?_
    refine xok_eqb (h.pt (o := x1) (c := 13) (k := 14) (t := x1 + 13) (n := 37) (xoL_o tx1).1 (xoL_o tx1).2 (by decide) (xoL_all tx1 (Q := fun p => (p, 14, p + 13) ∈ xl_P) (by decide +kernel) (by decide +kernel) (by decide +kernel) (by decide +kernel))) ?_
    refine xok_eqb (h.gi (o := x1) (c := 13) (k := 17) (n := 37) (xoL_o tx1).1 (xoL_o tx1).2 (by decide) (by decide)) ?_
    refine xok_eqb (h.gi (o := x1) (c := 13) (k := 3) (n := 37) (xoL_o tx1).1 (xoL_o tx1).2 (by decide) (by decide)) ?_
    obtain ⟨R126, e127, e⟩ := xbnd e
    refine xok_call (sg309 hI  h (xoL_all tx1 (Q := fun p => xoI (p + 13)) ⟨by decide, rfl⟩ ⟨by decide, rfl⟩ ⟨by decide, rfl⟩ ⟨by decide, rfl⟩) (h.gin (o := x1) (c := 13) (k := 17) (n := 37) (xoL_o tx1).1 (xoL_o tx1).2 (by decide) (by decide)) (h.gin (o := x1) (c := 13) (k := 3) (n := 37) (xoL_o tx1).1 (xoL_o tx1).2 (by decide) (by decide)) e127) ?_
    rintro ⟨v_, M130⟩ ⟨hv_, h128, hi129⟩
    cases hv_
    refine xok_eqb (h128.gi (o := x1) (c := 13) (k := 17) (n := 37) (xoL_o tx1).1 (xoL_o tx1).2 (by decide) (by decide)) ?_
    obtain ⟨M131, q132, h133⟩ := h128.pi (v := xwr ((R126.2 (x1) 17) - (xwr ((G (x1) 17) - (R126.1))))) (o := x1) (c := 13) (k := 17) (n := 37) (xoL_o tx1).1 (xoL_o tx1).2 (by decide) (by decide) (xin_wr _)
    refine xok_eqb q132 ?_
    obtain ⟨G134, g1, e⟩ := xbnd e
    cases g1
    have h133_ : xRX m M0 M131 (xup2 R126.2 (x1) 17 (xwr ((R126.2 (x1) 17) - (xwr ((G (x1) 17) - (R126.1)))))) := h133
    generalize hGG134 : (xup2 R126.2 (x1) 17 (xwr ((R126.2 (x1) 17) - (xwr ((G (x1) 17) - (R126.1)))))) = G134 at e h133
    clear h133_ hGG134
    exact s308_338 hI   h133 tx1 (xin_wr _) (show xin (0) by decide) e
  · rw [if_neg c125] at e
    refine xok_eqb (h.pt (o := x1) (c := 13) (k := 11) (t := x1 + 10) (n := 37) (xoL_o tx1).1 (xoL_o tx1).2 (by decide) (xoL_all tx1 (Q := fun p => (p, 11, p + 10) ∈ xl_P) (by decide +kernel) (by decide +kernel) (by decide +kernel) (by decide +kernel))) ?_
    refine xok_eqb (h.pt (o := x1) (c := 13) (k := 11) (t := x1 + 10) (n := 37) (xoL_o tx1).1 (xoL_o tx1).2 (by decide) (xoL_all tx1 (Q := fun p => (p, 11, p + 10) ∈ xl_P) (by decide +kernel) (by decide +kernel) (by decide +kernel) (by decide +kernel))) ?_
    by_cases c135 : 0 ≤ (xwr ((x3) + (x2))) ∧ (xwr ((x3) + (x2))) < 200
    · skip
      rw [if_pos c135] at e
      refine xok_eqb (h.ai (o := x1 + 10) (n := 200) (xoL_all tx1 (Q := fun p => p + 10 < 276) (by decide) (by decide) (by decide) (by decide)) (xoL_all tx1 (Q := fun p => xl_t (p + 10) = (2, 3, 200)) rfl rfl rfl rfl) (by decide) c135.1 c135.2) ?_
      by_cases c136 : 0 ≤ (x3) ∧ (x3) < 200
      · skip
        rw [if_pos c136] at e
        obtain ⟨M137, q138, h139⟩ := h.si (o := x1 + 10) (n := 200) (v := G (x1 + 10) (xwr ((x3) + (x2))).toNat) (xoL_all tx1 (Q := fun p => p + 10 < 276) (by decide) (by decide) (by decide) (by decide)) (xoL_all tx1 (Q := fun p => xl_t (p + 10) = (2, 3, 200)) rfl rfl rfl rfl) c136.1 c136.2 (h.ain (o := x1 + 10) (n := 200) (xoL_all tx1 (Q := fun p => p + 10 < 276) (by decide) (by decide) (by decide) (by decide)) (xoL_all tx1 (Q := fun p => xl_t (p + 10) = (2, 3, 200)) rfl rfl rfl rfl) (by decide) c135.1 c135.2)
        refine xok_eqb q138 ?_
        obtain ⟨G140, g1, e⟩ := xbnd e
        cases g1
        have h139_ : xRX m M0 M137 (xup2 G (x1 + 10) (x3).toNat (G (x1 + 10) (xwr ((x3) + (x2))).toNat)) := h139
        generalize hGG140 : (xup2 G (x1 + 10) (x3).toNat (G (x1 + 10) (xwr ((x3) + (x2))).toNat)) = G140 at e h139
        clear h139_ hGG140
        refine xok_eqb (h139.pt (o := x1) (c := 13) (k := 12) (t := x1 + 11) (n := 37) (xoL_o tx1).1 (xoL_o tx1).2 (by decide) (xoL_all tx1 (Q := fun p => (p, 12, p + 11) ∈ xl_P) (by decide +kernel) (by decide +kernel) (by decide +kernel) (by decide +kernel))) ?_
        refine xok_eqb (h139.pt (o := x1) (c := 13) (k := 12) (t := x1 + 11) (n := 37) (xoL_o tx1).1 (xoL_o tx1).2 (by decide) (xoL_all tx1 (Q := fun p => (p, 12, p + 11) ∈ xl_P) (by decide +kernel) (by decide +kernel) (by decide +kernel) (by decide +kernel))) ?_
        by_cases c141 : 0 ≤ (xwr ((x3) + (x2))) ∧ (xwr ((x3) + (x2))) < 200
        · skip
          rw [if_pos c141] at e
          refine xok_eqb (h139.ai (o := x1 + 11) (n := 200) (xoL_all tx1 (Q := fun p => p + 11 < 276) (by decide) (by decide) (by decide) (by decide)) (xoL_all tx1 (Q := fun p => xl_t (p + 11) = (2, 3, 200)) rfl rfl rfl rfl) (by decide) c141.1 c141.2) ?_
          by_cases c142 : 0 ≤ (x3) ∧ (x3) < 200
          · skip
            rw [if_pos c142] at e
            obtain ⟨M143, q144, h145⟩ := h139.si (o := x1 + 11) (n := 200) (v := G140 (x1 + 11) (xwr ((x3) + (x2))).toNat) (xoL_all tx1 (Q := fun p => p + 11 < 276) (by decide) (by decide) (by decide) (by decide)) (xoL_all tx1 (Q := fun p => xl_t (p + 11) = (2, 3, 200)) rfl rfl rfl rfl) c142.1 c142.2 (h139.ain (o := x1 + 11) (n := 200) (xoL_all tx1 (Q := fun p => p + 11 < 276) (by decide) (by decide) (by decide) (by decide)) (xoL_all tx1 (Q := fun p => xl_t (p + 11) = (2, 3, 200)) rfl rfl rfl rfl) (by decide) c141.1 c141.2)
            refine xok_eqb q144 ?_
            obtain ⟨G146, g1, e⟩ := xbnd e
            cases g1
            have h145_ : xRX m M0 M143 (xup2 G140 (x1 + 11) (x3).toNat (G140 (x1 + 11) (xwr ((x3) + (x2))).toNat)) := h145
            generalize hGG146 : (xup2 G140 (x1 + 11) (x3).toNat (G140 (x1 + 11) (xwr ((x3) + (x2))).toNat)) = G146 at e h145
            clear h145_ hGG146
            refine xok_eqb (h145.pt (o := x1) (c := 13) (k := 13) (t := x1 + 12) (n := 37) (xoL_o tx1).1 (xoL_o tx1).2 (by decide) (xoL_all tx1 (Q := fun p => (p, 13, p + 12) ∈ xl_P) (by decide +kernel) (by decide +kernel) (by decide +kernel) (by decide +kernel))) ?_
            refine xok_eqb (h145.pt (o := x1) (c := 13) (k := 13) (t := x1 + 12) (n := 37) (xoL_o tx1).1 (xoL_o tx1).2 (by decide) (xoL_all tx1 (Q := fun p => (p, 13, p + 12) ∈ xl_P) (by decide +kernel) (by decide +kernel) (by decide +kernel) (by decide +kernel))) ?_
            by_cases c147 : 0 ≤ (xwr ((x3) + (x2))) ∧ (xwr ((x3) + (x2))) < 200
            · skip
              rw [if_pos c147] at e
              refine xok_eqb (h145.ai (o := x1 + 12) (n := 200) (xoL_all tx1 (Q := fun p => p + 12 < 276) (by decide) (by decide) (by decide) (by decide)) (xoL_all tx1 (Q := fun p => xl_t (p + 12) = (2, 3, 200)) rfl rfl rfl rfl) (by decide) c147.1 c147.2) ?_
              by_cases c148 : 0 ≤ (x3) ∧ (x3) < 200
              · skip
                rw [if_pos c148] at e
                obtain ⟨M149, q150, h151⟩ := h145.si (o := x1 + 12) (n := 200) (v := G146 (x1 + 12) (xwr ((x3) + (x2))).toNat) (xoL_all tx1 (Q := fun p => p + 12 < 276) (by decide) (by decide) (by decide) (by decide)) (xoL_all tx1 (Q := fun p => xl_t (p + 12) = (2, 3, 200)) rfl rfl rfl rfl) c148.1 c148.2 (h145.ain (o := x1 + 12) (n := 200) (xoL_all tx1 (Q := fun p => p + 12 < 276) (by decide) (by decide) (by decide) (by decide)) (xoL_all tx1 (Q := fun p => xl_t (p + 12) = (2, 3, 200)) rfl rfl rfl rfl) (by decide) c147.1 c147.2)
                refine xok_eqb q150 ?_
                obtain ⟨G152, g1, e⟩ := xbnd e
                cases g1
                have h151_ : xRX m M0 M149 (xup2 G146 (x1 + 12) (x3).toNat (G146 (x1 + 12) (xwr ((x3) + (x2))).toNat)) := h151
                generalize hGG152 : (xup2 G146 (x1 + 12) (x3).toNat (G146 (x1 + 12) (xwr ((x3) + (x2))).toNat)) = G152 at e h151
                clear h151_ hGG152
                exact hr249 h151 tx1 tx2 (xin_wr _) e
              · rw [if_neg c148] at e; cases e
            · rw [if_neg c147] at e; cases e
          · rw [if_neg c142] at e; cases e
        · rw [if_neg c141] at e; cases e
      · rw [if_neg c136] at e; cases e
    · rw [if_neg c135] at e; cases e
theorem s308_249 {m f : Nat} {M0 : xj_M} (hI : xHI f)     : ∀ {n : Nat} {M : xj_M} {G : xG_} {x1 : Nat} {x2 : Int} {x3 : Int} {R : xG_}, xRX m M0 M G → xoL x1 → xin x2 → xin x3 → g308_249   f n x1 x2 x3 G = some R → xok (f308_249   f n (m + x1) x2 x3 M) (fun r => xRX m M0 r R) := by
  intro n
  induction n with
  | zero => intros; rename_i e; cases e
  | succ n ih =>
    intros
    rename_i h i0 i1 i2 e
    exact s308_249b hI   ih h i0 i1 i2 e
theorem s308_107b {m f : Nat} {M0 M : xj_M} {G : xG_} (hI : xHI f)  {r107 : Nat → Int → Int → xG_ → Option (xG_)} {o107 : Nat → Int → Int → xj_M → Option (xj_M)}  (hr107 : ∀ {M : xj_M} {G : xG_} {x1 : Nat} {x2 : Int} {x3 : Int} {R : xG_}, xRX m M0 M G → xoL x1 → xin x2 → xin x3 → r107 x1 x2 x3 G = some R → xok (o107 (m + x1) x2 x3 M) (fun r => xRX m M0 r R)) (h : xRX m M0 M G) {x1 : Nat} {x2 : Int} {x3 : Int} {R : xG_} (tx1 : xoL x1) (tx2 : xin x2) (tx3 : xin x3) (e : g308_107b  r107 f x1 x2 x3 G = some R) : xok (f308_107b  o107 f (m + x1) x2 x3 M) (fun r => xRX m M0 r R) := by
  unfold g308_107b at e
  unfold f308_107b
  refine xok_eqb (h.gi (o := x1) (c := 13) (k := 10) (n := 37) (xoL_o tx1).1 (xoL_o tx1).2 (by decide) (by decide)) ?_
  refine xok_ite (fun c153 => ?_) (fun c153 => ?_)
  · rw [if_pos c153] at e
    refine xok_eqb (h.gi (o := x1) (c := 13) (k := 16) (n := 37) (xoL_o tx1).1 (xoL_o tx1).2 (by decide) (by decide)) ?_
    refine xok_eqb (h.pt (o := x1) (c := 13) (k := 11) (t := x1 + 10) (n := 37) (xoL_o tx1).1 (xoL_o tx1).2 (by decide) (xoL_all tx1 (Q := fun p => (p, 11, p + 10) ∈ xl_P) (by decide +kernel) (by decide +kernel) (by decide +kernel) (by decide +kernel))) ?_
    refine xok_eqb (h.gi (o := x1) (c := 13) (k := 16) (n := 37) (xoL_o tx1).1 (xoL_o tx1).2 (by decide) (by decide)) ?_
    refine xok_eqb (h.gi (o := x1) (c := 13) (k := 3) (n := 37) (xoL_o tx1).1 (xoL_o tx1).2 (by decide) (by decide)) ?_
    obtain ⟨R154, e155, e⟩ := xbnd e
    refine xok_call (sg309 hI  h (xoL_all tx1 (Q := fun p => xoI (p + 10)) ⟨by decide, rfl⟩ ⟨by decide, rfl⟩ ⟨by decide, rfl⟩ ⟨by decide, rfl⟩) (h.gin (o := x1) (c := 13) (k := 16) (n := 37) (xoL_o tx1).1 (xoL_o tx1).2 (by decide) (by decide)) (h.gin (o := x1) (c := 13) (k := 3) (n := 37) (xoL_o tx1).1 (xoL_o tx1).2 (by decide) (by decide)) e155) ?_
    rintro ⟨v_, M158⟩ ⟨hv_, h156, hi157⟩
    cases hv_
    refine xok_eqb (h156.gi (o := x1) (c := 13) (k := 16) (n := 37) (xoL_o tx1).1 (xoL_o tx1).2 (by decide) (by decide)) ?_
    obtain ⟨M159, q160, h161⟩ := h156.pi (v := xwr ((R154.2 (x1) 16) - (xwr ((G (x1) 16) - (R154.1))))) (o := x1) (c := 13) (k := 16) (n := 37) (xoL_o tx1).1 (xoL_o tx1).2 (by decide) (by decide) (xin_wr _)
    refine xok_eqb q160 ?_
    obtain ⟨G162, g1, e⟩ := xbnd e
    cases g1
    have h161_ : xRX m M0 M159 (xup2 R154.2 (x1) 16 (xwr ((R154.2 (x1) 16) - (xwr ((G (x1) 16) - (R154.1)))))) := h161
    generalize hGG162 : (xup2 R154.2 (x1) 16 (xwr ((R154.2 (x1) 16) - (xwr ((G (x1) 16) - (R154.1)))))) = G162 at e h161
    clear h161_ hGG162
    exact s308_249 hI   h161 tx1 (xin_wr _) (show xin (0) by decide) e
  · rw [if_neg c153] at e
    refine xok_eqb (h.pt (o := x1) (c := 13) (k := 5) (t := x1 + 5) (n := 37) (xoL_o tx1).1 (xoL_o tx1).2 (by decide) (xoL_all tx1 (Q := fun p => (p, 5, p + 5) ∈ xl_P) (by decide +kernel) (by decide +kernel) (by decide +kernel) (by decide +kernel))) ?_
    refine xok_eqb (h.pt (o := x1) (c := 13) (k := 5) (t := x1 + 5) (n := 37) (xoL_o tx1).1 (xoL_o tx1).2 (by decide) (xoL_all tx1 (Q := fun p => (p, 5, p + 5) ∈ xl_P) (by decide +kernel) (by decide +kernel) (by decide +kernel) (by decide +kernel))) ?_
    by_cases c163 : 0 ≤ (xwr ((x3) + (x2))) ∧ (xwr ((x3) + (x2))) < 12000
    · skip
      rw [if_pos c163] at e
      refine xok_eqb (h.ai (o := x1 + 5) (n := 12000) (xoL_all tx1 (Q := fun p => p + 5 < 276) (by decide) (by decide) (by decide) (by decide)) (xoL_all tx1 (Q := fun p => xl_t (p + 5) = (2, 3, 12000)) rfl rfl rfl rfl) (by decide) c163.1 c163.2) ?_
      by_cases c164 : 0 ≤ (x3) ∧ (x3) < 12000
      · skip
        rw [if_pos c164] at e
        obtain ⟨M165, q166, h167⟩ := h.si (o := x1 + 5) (n := 12000) (v := G (x1 + 5) (xwr ((x3) + (x2))).toNat) (xoL_all tx1 (Q := fun p => p + 5 < 276) (by decide) (by decide) (by decide) (by decide)) (xoL_all tx1 (Q := fun p => xl_t (p + 5) = (2, 3, 12000)) rfl rfl rfl rfl) c164.1 c164.2 (h.ain (o := x1 + 5) (n := 12000) (xoL_all tx1 (Q := fun p => p + 5 < 276) (by decide) (by decide) (by decide) (by decide)) (xoL_all tx1 (Q := fun p => xl_t (p + 5) = (2, 3, 12000)) rfl rfl rfl rfl) (by decide) c163.1 c163.2)
        refine xok_eqb q166 ?_
        obtain ⟨G168, g1, e⟩ := xbnd e
        cases g1
        have h167_ : xRX m M0 M165 (xup2 G (x1 + 5) (x3).toNat (G (x1 + 5) (xwr ((x3) + (x2))).toNat)) := h167
        generalize hGG168 : (xup2 G (x1 + 5) (x3).toNat (G (x1 + 5) (xwr ((x3) + (x2))).toNat)) = G168 at e h167
        clear h167_ hGG168
        refine xok_eqb (h167.pt (o := x1) (c := 13) (k := 6) (t := x1 + 6) (n := 37) (xoL_o tx1).1 (xoL_o tx1).2 (by decide) (xoL_all tx1 (Q := fun p => (p, 6, p + 6) ∈ xl_P) (by decide +kernel) (by decide +kernel) (by decide +kernel) (by decide +kernel))) ?_
        refine xok_eqb (h167.pt (o := x1) (c := 13) (k := 6) (t := x1 + 6) (n := 37) (xoL_o tx1).1 (xoL_o tx1).2 (by decide) (xoL_all tx1 (Q := fun p => (p, 6, p + 6) ∈ xl_P) (by decide +kernel) (by decide +kernel) (by decide +kernel) (by decide +kernel))) ?_
        by_cases c169 : 0 ≤ (xwr ((x3) + (x2))) ∧ (xwr ((x3) + (x2))) < 12000
        · skip
          rw [if_pos c169] at e
          refine xok_eqb (h167.ai (o := x1 + 6) (n := 12000) (xoL_all tx1 (Q := fun p => p + 6 < 276) (by decide) (by decide) (by decide) (by decide)) (xoL_all tx1 (Q := fun p => xl_t (p + 6) = (2, 3, 12000)) rfl rfl rfl rfl) (by decide) c169.1 c169.2) ?_
          by_cases c170 : 0 ≤ (x3) ∧ (x3) < 12000
          · skip
            rw [if_pos c170] at e
            obtain ⟨M171, q172, h173⟩ := h167.si (o := x1 + 6) (n := 12000) (v := G168 (x1 + 6) (xwr ((x3) + (x2))).toNat) (xoL_all tx1 (Q := fun p => p + 6 < 276) (by decide) (by decide) (by decide) (by decide)) (xoL_all tx1 (Q := fun p => xl_t (p + 6) = (2, 3, 12000)) rfl rfl rfl rfl) c170.1 c170.2 (h167.ain (o := x1 + 6) (n := 12000) (xoL_all tx1 (Q := fun p => p + 6 < 276) (by decide) (by decide) (by decide) (by decide)) (xoL_all tx1 (Q := fun p => xl_t (p + 6) = (2, 3, 12000)) rfl rfl rfl rfl) (by decide) c169.1 c169.2)
            refine xok_eqb q172 ?_
            obtain ⟨G174, g1, e⟩ := xbnd e
            cases g1
            have h173_ : xRX m M0 M171 (xup2 G168 (x1 + 6) (x3).toNat (G168 (x1 + 6) (xwr ((x3) + (x2))).toNat)) := h173
            generalize hGG174 : (xup2 G168 (x1 + 6) (x3).toNat (G168 (x1 + 6) (xwr ((x3) + (x2))).toNat)) = G174 at e h173
            clear h173_ hGG174
            refine xok_eqb (h173.pt (o := x1) (c := 13) (k := 8) (t := x1 + 8) (n := 37) (xoL_o tx1).1 (xoL_o tx1).2 (by decide) (xoL_all tx1 (Q := fun p => (p, 8, p + 8) ∈ xl_P) (by decide +kernel) (by decide +kernel) (by decide +kernel) (by decide +kernel))) ?_
            refine xok_eqb (h173.pt (o := x1) (c := 13) (k := 8) (t := x1 + 8) (n := 37) (xoL_o tx1).1 (xoL_o tx1).2 (by decide) (xoL_all tx1 (Q := fun p => (p, 8, p + 8) ∈ xl_P) (by decide +kernel) (by decide +kernel) (by decide +kernel) (by decide +kernel))) ?_
            by_cases c175 : 0 ≤ (xwr ((x3) + (x2))) ∧ (xwr ((x3) + (x2))) < 12000
            · skip
              rw [if_pos c175] at e
              refine xok_eqb (h173.al (o := x1 + 8) (n := 12000) (xoL_all tx1 (Q := fun p => p + 8 < 276) (by decide) (by decide) (by decide) (by decide)) (xoL_all tx1 (Q := fun p => xl_t (p + 8) = (2, 4, 12000)) rfl rfl rfl rfl)  c175.1 c175.2) ?_
              by_cases c176 : 0 ≤ (x3) ∧ (x3) < 12000
              · skip
                rw [if_pos c176] at e
                obtain ⟨M177, q178, h179⟩ := h173.sl (o := x1 + 8) (n := 12000) (v := G174 (x1 + 8) (xwr ((x3) + (x2))).toNat) (xoL_all tx1 (Q := fun p => p + 8 < 276) (by decide) (by decide) (by decide) (by decide)) (xoL_all tx1 (Q := fun p => xl_t (p + 8) = (2, 4, 12000)) rfl rfl rfl rfl) c176.1 c176.2 (h173.aln (o := x1 + 8) (n := 12000) (xoL_all tx1 (Q := fun p => p + 8 < 276) (by decide) (by decide) (by decide) (by decide)) (xoL_all tx1 (Q := fun p => xl_t (p + 8) = (2, 4, 12000)) rfl rfl rfl rfl)  c175.1 c175.2)
                refine xok_eqb q178 ?_
                obtain ⟨G180, g1, e⟩ := xbnd e
                cases g1
                have h179_ : xRX m M0 M177 (xup2 G174 (x1 + 8) (x3).toNat (G174 (x1 + 8) (xwr ((x3) + (x2))).toNat)) := h179
                generalize hGG180 : (xup2 G174 (x1 + 8) (x3).toNat (G174 (x1 + 8) (xwr ((x3) + (x2))).toNat)) = G180 at e h179
                clear h179_ hGG180
                refine xok_eqb (h179.pt (o := x1) (c := 13) (k := 7) (t := x1 + 7) (n := 37) (xoL_o tx1).1 (xoL_o tx1).2 (by decide) (xoL_all tx1 (Q := fun p => (p, 7, p + 7) ∈ xl_P) (by decide +kernel) (by decide +kernel) (by decide +kernel) (by decide +kernel))) ?_
                refine xok_eqb (h179.pt (o := x1) (c := 13) (k := 7) (t := x1 + 7) (n := 37) (xoL_o tx1).1 (xoL_o tx1).2 (by decide) (xoL_all tx1 (Q := fun p => (p, 7, p + 7) ∈ xl_P) (by decide +kernel) (by decide +kernel) (by decide +kernel) (by decide +kernel))) ?_
                by_cases c181 : 0 ≤ (xwr ((x3) + (x2))) ∧ (xwr ((x3) + (x2))) < 12000
                · skip
                  rw [if_pos c181] at e
                  refine xok_eqb (h179.ai (o := x1 + 7) (n := 12000) (xoL_all tx1 (Q := fun p => p + 7 < 276) (by decide) (by decide) (by decide) (by decide)) (xoL_all tx1 (Q := fun p => xl_t (p + 7) = (2, 3, 12000)) rfl rfl rfl rfl) (by decide) c181.1 c181.2) ?_
                  by_cases c182 : 0 ≤ (x3) ∧ (x3) < 12000
                  · skip
                    rw [if_pos c182] at e
                    obtain ⟨M183, q184, h185⟩ := h179.si (o := x1 + 7) (n := 12000) (v := G180 (x1 + 7) (xwr ((x3) + (x2))).toNat) (xoL_all tx1 (Q := fun p => p + 7 < 276) (by decide) (by decide) (by decide) (by decide)) (xoL_all tx1 (Q := fun p => xl_t (p + 7) = (2, 3, 12000)) rfl rfl rfl rfl) c182.1 c182.2 (h179.ain (o := x1 + 7) (n := 12000) (xoL_all tx1 (Q := fun p => p + 7 < 276) (by decide) (by decide) (by decide) (by decide)) (xoL_all tx1 (Q := fun p => xl_t (p + 7) = (2, 3, 12000)) rfl rfl rfl rfl) (by decide) c181.1 c181.2)
                    refine xok_eqb q184 ?_
                    obtain ⟨G186, g1, e⟩ := xbnd e
                    cases g1
                    have h185_ : xRX m M0 M183 (xup2 G180 (x1 + 7) (x3).toNat (G180 (x1 + 7) (xwr ((x3) + (x2))).toNat)) := h185
                    generalize hGG186 : (xup2 G180 (x1 + 7) (x3).toNat (G180 (x1 + 7) (xwr ((x3) + (x2))).toNat)) = G186 at e h185
                    clear h185_ hGG186
                    exact s308_174 hI  hr107 h185 tx1 tx2 tx3 (show xin (0) by decide) e
                  · rw [if_neg c182] at e; cases e
                · rw [if_neg c181] at e; cases e
              · rw [if_neg c176] at e; cases e
            · rw [if_neg c175] at e; cases e
          · rw [if_neg c170] at e; cases e
        · rw [if_neg c169] at e; cases e
      · rw [if_neg c164] at e; cases e
    · rw [if_neg c163] at e; cases e
theorem s308_107 {m f : Nat} {M0 : xj_M} (hI : xHI f)     : ∀ {n : Nat} {M : xj_M} {G : xG_} {x1 : Nat} {x2 : Int} {x3 : Int} {R : xG_}, xRX m M0 M G → xoL x1 → xin x2 → xin x3 → g308_107   f n x1 x2 x3 G = some R → xok (f308_107   f n (m + x1) x2 x3 M) (fun r => xRX m M0 r R) := by
  intro n
  induction n with
  | zero => intros; rename_i e; cases e
  | succ n ih =>
    intros
    rename_i h i0 i1 i2 e
    exact s308_107b hI   ih h i0 i1 i2 e
theorem s308_0b {m f : Nat} {M0 M : xj_M} {G : xG_} (hI : xHI f)  {r0 : Nat → xG_ → Option (xG_)} {o0 : Nat → xj_M → Option (xj_M)}  (hr0 : ∀ {M : xj_M} {G : xG_} {x1 : Nat} {R : xG_}, xRX m M0 M G → xoL x1 → r0 x1 G = some R → xok (o0 (m + x1) M) (fun r => xRX m M0 r R)) (h : xRX m M0 M G) {x1 : Nat} {R : xG_} (tx1 : xoL x1) (e : g308_0b  r0 f x1 G = some R) : xok (f308_0b  o0 f (m + x1) M) (fun r => xRX m M0 r R) := by
  unfold g308_0b at e
  unfold f308_0b
  refine xok_eqb (h.pt (o := x1) (c := 13) (k := 5) (t := x1 + 5) (n := 37) (xoL_o tx1).1 (xoL_o tx1).2 (by decide) (xoL_all tx1 (Q := fun p => (p, 5, p + 5) ∈ xl_P) (by decide +kernel) (by decide +kernel) (by decide +kernel) (by decide +kernel))) ?_
  refine xok_eqb (h.gi (o := x1) (c := 13) (k := 10) (n := 37) (xoL_o tx1).1 (xoL_o tx1).2 (by decide) (by decide)) ?_
  refine xok_eqb (h.gi (o := x1) (c := 13) (k := 3) (n := 37) (xoL_o tx1).1 (xoL_o tx1).2 (by decide) (by decide)) ?_
  obtain ⟨R187, e188, e⟩ := xbnd e
  refine xok_call (sg309 hI  h (xoL_all tx1 (Q := fun p => xoI (p + 5)) ⟨by decide, rfl⟩ ⟨by decide, rfl⟩ ⟨by decide, rfl⟩ ⟨by decide, rfl⟩) (h.gin (o := x1) (c := 13) (k := 10) (n := 37) (xoL_o tx1).1 (xoL_o tx1).2 (by decide) (by decide)) (h.gin (o := x1) (c := 13) (k := 3) (n := 37) (xoL_o tx1).1 (xoL_o tx1).2 (by decide) (by decide)) e188) ?_
  rintro ⟨v_, M191⟩ ⟨hv_, h189, hi190⟩
  cases hv_
  refine xok_ite (fun c192 => ?_) (fun c192 => ?_)
  · rw [if_pos c192] at e
    exact s308_61 hI  hr0 h189 tx1 e
  · rw [if_neg c192] at e
    refine xok_eqb (h189.pt (o := x1) (c := 13) (k := 11) (t := x1 + 10) (n := 37) (xoL_o tx1).1 (xoL_o tx1).2 (by decide) (xoL_all tx1 (Q := fun p => (p, 11, p + 10) ∈ xl_P) (by decide +kernel) (by decide +kernel) (by decide +kernel) (by decide +kernel))) ?_
    refine xok_eqb (h189.gi (o := x1) (c := 13) (k := 16) (n := 37) (xoL_o tx1).1 (xoL_o tx1).2 (by decide) (by decide)) ?_
    refine xok_eqb (h189.gi (o := x1) (c := 13) (k := 3) (n := 37) (xoL_o tx1).1 (xoL_o tx1).2 (by decide) (by decide)) ?_
    obtain ⟨R193, e194, e⟩ := xbnd e
    refine xok_call (sg309 hI  h189 (xoL_all tx1 (Q := fun p => xoI (p + 10)) ⟨by decide, rfl⟩ ⟨by decide, rfl⟩ ⟨by decide, rfl⟩ ⟨by decide, rfl⟩) (h189.gin (o := x1) (c := 13) (k := 16) (n := 37) (xoL_o tx1).1 (xoL_o tx1).2 (by decide) (by decide)) (h189.gin (o := x1) (c := 13) (k := 3) (n := 37) (xoL_o tx1).1 (xoL_o tx1).2 (by decide) (by decide)) e194) ?_
    rintro ⟨v_, M197⟩ ⟨hv_, h195, hi196⟩
    cases hv_
    refine xok_ite (fun c198 => ?_) (fun c198 => ?_)
    · rw [if_pos c198] at e
      exact s308_61 hI  hr0 h195 tx1 e
    · rw [if_neg c198] at e
      refine xok_eqb (h195.pt (o := x1) (c := 13) (k := 14) (t := x1 + 13) (n := 37) (xoL_o tx1).1 (xoL_o tx1).2 (by decide) (xoL_all tx1 (Q := fun p => (p, 14, p + 13) ∈ xl_P) (by decide +kernel) (by decide +kernel) (by decide +kernel) (by decide +kernel))) ?_
      refine xok_eqb (h195.gi (o := x1) (c := 13) (k := 17) (n := 37) (xoL_o tx1).1 (xoL_o tx1).2 (by decide) (by decide)) ?_
      refine xok_eqb (h195.gi (o := x1) (c := 13) (k := 3) (n := 37) (xoL_o tx1).1 (xoL_o tx1).2 (by decide) (by decide)) ?_
      obtain ⟨R199, e200, e⟩ := xbnd e
      refine xok_call (sg309 hI  h195 (xoL_all tx1 (Q := fun p => xoI (p + 13)) ⟨by decide, rfl⟩ ⟨by decide, rfl⟩ ⟨by decide, rfl⟩ ⟨by decide, rfl⟩) (h195.gin (o := x1) (c := 13) (k := 17) (n := 37) (xoL_o tx1).1 (xoL_o tx1).2 (by decide) (by decide)) (h195.gin (o := x1) (c := 13) (k := 3) (n := 37) (xoL_o tx1).1 (xoL_o tx1).2 (by decide) (by decide)) e200) ?_
      rintro ⟨v_, M203⟩ ⟨hv_, h201, hi202⟩
      cases hv_
      refine xok_ite (fun c204 => ?_) (fun c204 => ?_)
      · rw [if_pos c204] at e
        refine xok_eqb (h201.gi (o := x1) (c := 13) (k := 10) (n := 37) (xoL_o tx1).1 (xoL_o tx1).2 (by decide) (by decide)) ?_
        refine xok_eqb (h201.pt (o := x1) (c := 13) (k := 5) (t := x1 + 5) (n := 37) (xoL_o tx1).1 (xoL_o tx1).2 (by decide) (xoL_all tx1 (Q := fun p => (p, 5, p + 5) ∈ xl_P) (by decide +kernel) (by decide +kernel) (by decide +kernel) (by decide +kernel))) ?_
        refine xok_eqb (h201.gi (o := x1) (c := 13) (k := 10) (n := 37) (xoL_o tx1).1 (xoL_o tx1).2 (by decide) (by decide)) ?_
        refine xok_eqb (h201.gi (o := x1) (c := 13) (k := 3) (n := 37) (xoL_o tx1).1 (xoL_o tx1).2 (by decide) (by decide)) ?_
        obtain ⟨R205, e206, e⟩ := xbnd e
        refine xok_call (sg309 hI  h201 (xoL_all tx1 (Q := fun p => xoI (p + 5)) ⟨by decide, rfl⟩ ⟨by decide, rfl⟩ ⟨by decide, rfl⟩ ⟨by decide, rfl⟩) (h201.gin (o := x1) (c := 13) (k := 10) (n := 37) (xoL_o tx1).1 (xoL_o tx1).2 (by decide) (by decide)) (h201.gin (o := x1) (c := 13) (k := 3) (n := 37) (xoL_o tx1).1 (xoL_o tx1).2 (by decide) (by decide)) e206) ?_
        rintro ⟨v_, M209⟩ ⟨hv_, h207, hi208⟩
        cases hv_
        refine xok_eqb (h207.gi (o := x1) (c := 13) (k := 10) (n := 37) (xoL_o tx1).1 (xoL_o tx1).2 (by decide) (by decide)) ?_
        obtain ⟨M210, q211, h212⟩ := h207.pi (v := xwr ((R205.2 (x1) 10) - (xwr ((R199.2 (x1) 10) - (R205.1))))) (o := x1) (c := 13) (k := 10) (n := 37) (xoL_o tx1).1 (xoL_o tx1).2 (by decide) (by decide) (xin_wr _)
        refine xok_eqb q211 ?_
        obtain ⟨G213, g1, e⟩ := xbnd e
        cases g1
        have h212_ : xRX m M0 M210 (xup2 R205.2 (x1) 10 (xwr ((R205.2 (x1) 10) - (xwr ((R199.2 (x1) 10) - (R205.1)))))) := h212
        generalize hGG213 : (xup2 R205.2 (x1) 10 (xwr ((R205.2 (x1) 10) - (xwr ((R199.2 (x1) 10) - (R205.1)))))) = G213 at e h212
        clear h212_ hGG213
        exact s308_107 hI   h212 tx1 (xin_wr _) (show xin (0) by decide) e
      · rw [if_neg c204] at e
        exact s308_61 hI  hr0 h201 tx1 e
theorem s308_0 {m f : Nat} {M0 : xj_M} (hI : xHI f)     : ∀ {n : Nat} {M : xj_M} {G : xG_} {x1 : Nat} {R : xG_}, xRX m M0 M G → xoL x1 → g308_0   f n x1 G = some R → xok (f308_0   f n (m + x1) M) (fun r => xRX m M0 r R) := by
  intro n
  induction n with
  | zero => intros; rename_i e; cases e
  | succ n ih =>
    intros
    rename_i h i0 e
    exact s308_0b hI   ih h i0 e
theorem sg308 {m f : Nat} {M0 M : xj_M} {G : xG_} (hI : xHI f)   (h : xRX m M0 M G) {a1 : Nat} {R : xG_} (ta1 : xoL a1) (e : g308  f a1 G = some R) : xok (f308  f m (m + a1) M) (fun r => xRX m M0 r R) := by
  unfold g308 at e
  unfold f308
  exact s308_0 hI   h ta1 e
