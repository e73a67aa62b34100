/-! The reference over what stands at its cells (written by mk_g.py) -/
-- ChangeHouseModel.cellHere
theorem s332_171 {m f : Nat} {M0 M : xj_M} {G : xG_} (hI : xHI f)     (h : xRX m M0 M G)  {R : Int × xG_}  (e : g332_171   f  G = some R) : xok (f332_171   f m M) (fun r => r.1 = R.1 ∧ xRX m M0 r.2 R.2 ∧ xin R.1) := by
  unfold g332_171 at e
  unfold f332_171
  refine xok_eqb (h.gi (o := 0) (c := 15) (k := 4) (n := 107) (by decide) rfl (by decide) (by decide)) ?_
  obtain ⟨R101, e102, e⟩ := xbnd e
  refine xok_eqb (h.is (o := 0) (c := 15) (by decide) rfl) ?_
  refine xok_call (sg210 hI  h (h.gin (o := 0) (c := 15) (k := 4) (n := 107) (by decide) rfl (by decide) (by decide)) e102) ?_
  intro M105 h103
  cases e
  exact ⟨_, rfl, rfl, h103, (show xin (0) by decide)⟩
theorem s332_143 {m f : Nat} {M0 M : xj_M} {G : xG_} (hI : xHI f)     (h : xRX m M0 M G) {x2 : Int} {x3 : Int} {y0 : Int} {R : Int × xG_} (tx2 : xin x2) (tx3 : xin x3) (ty0 : xin y0) (e : g332_143   f x2 x3 y0 G = some R) : xok (f332_143   f m x2 x3 y0 M) (fun r => r.1 = R.1 ∧ xRX m M0 r.2 R.2 ∧ xin R.1) := by
  unfold g332_143 at e
  unfold f332_143
  refine xok_ite (fun c106 => ?_) (fun c106 => ?_)
  · rw [if_pos c106] at e
    exact s332_171 hI   h  e
  · rw [if_neg c106] at e
    refine xok_ite (fun c107 => ?_) (fun c107 => ?_)
    · rw [if_pos c107] at e
      exact s332_171 hI   h  e
    · rw [if_neg c107] at e
      refine xok_ite (fun c108 => ?_) (fun c108 => ?_)
      · rw [if_pos c108] at e
        exact s332_171 hI   h  e
      · rw [if_neg c108] at e
        refine xok_ite (fun c109 => ?_) (fun c109 => ?_)
        · rw [if_pos c109] at e
          exact s332_171 hI   h  e
        · rw [if_neg c109] at e
          refine xok_ite (fun c110 => ?_) (fun c110 => ?_)
          · rw [if_pos c110] at e
            obtain ⟨R111, e112, e⟩ := xbnd e
            refine xok_eqb (h.is (o := 0) (c := 15) (by decide) rfl) ?_
            refine xok_call (sg213 hI  h  e112) ?_
            intro M115 h113
            cases e
            exact ⟨_, rfl, rfl, h113, (xin_wr _)⟩
          · rw [if_neg c110] at e
            exact s332_171 hI   h  e
theorem s332_142 {m f : Nat} {M0 M : xj_M} {G : xG_} (hI : xHI f)     (h : xRX m M0 M G) {x2 : Int} {x3 : Int} {R : Int × xG_} (tx2 : xin x2) (tx3 : xin x3) (e : g332_142   f x2 x3 G = some R) : xok (f332_142   f m x2 x3 M) (fun r => r.1 = R.1 ∧ xRX m M0 r.2 R.2 ∧ xin R.1) := by
  unfold g332_142 at e
  unfold f332_142
  exact s332_143 hI   h tx2 tx3 (show xin (0) by decide) e
theorem s332_95 {m f : Nat} {M0 M : xj_M} {G : xG_} (hI : xHI f)     (h : xRX m M0 M G) {x1 : Int} {x2 : Int} {y0 : Int} {R : Int × xG_} (tx1 : xin x1) (tx2 : xin x2) (ty0 : xin y0) (e : g332_95   f x1 x2 y0 G = some R) : xok (f332_95   f m x1 x2 y0 M) (fun r => r.1 = R.1 ∧ xRX m M0 r.2 R.2 ∧ xin R.1) := by
  unfold g332_95 at e
  unfold f332_95
  refine xok_ite (fun c116 => ?_) (fun c116 => ?_)
  · rw [if_pos c116] at e
    refine xok_ite (fun c117 => ?_) (fun c117 => ?_)
    · rw [if_pos c117] at e
      exact s332_142 hI   h tx2 ty0 e
    · rw [if_neg c117] at e
      refine xok_eqb (h.gi (o := 0) (c := 15) (k := 4) (n := 107) (by decide) rfl (by decide) (by decide)) ?_
      obtain ⟨R118, e119, e⟩ := xbnd e
      refine xok_eqb (h.is (o := 0) (c := 15) (by decide) rfl) ?_
      refine xok_call (sg209 hI  h (xin_wr _) e119) ?_
      rintro ⟨v_, M122⟩ ⟨hv_, h120, hi121⟩
      cases hv_
      obtain ⟨R123, e124, e⟩ := xbnd e
      refine xok_call (sg208 hI  h120 hi121 e124) ?_
      rintro ⟨v_, M127⟩ ⟨hv_, h125, hi126⟩
      cases hv_
      refine xok_ite (fun c128 => ?_) (fun c128 => ?_)
      · rw [if_pos c128] at e
        exact s332_142 hI   h125 tx2 ty0 e
      · rw [if_neg c128] at e
        exact s332_143 hI   h125 tx2 ty0 (show xin (1) by decide) e
  · rw [if_neg c116] at e
    refine xok_eqb (h.gi (o := 0) (c := 15) (k := 4) (n := 107) (by decide) rfl (by decide) (by decide)) ?_
    obtain ⟨R129, e130, e⟩ := xbnd e
    refine xok_eqb (h.is (o := 0) (c := 15) (by decide) rfl) ?_
    refine xok_call (sg209 hI  h (xin_wr _) e130) ?_
    rintro ⟨v_, M133⟩ ⟨hv_, h131, hi132⟩
    cases hv_
    obtain ⟨R134, e135, e⟩ := xbnd e
    refine xok_call (sg208 hI  h131 hi132 e135) ?_
    rintro ⟨v_, M138⟩ ⟨hv_, h136, hi137⟩
    cases hv_
    exact s332_143 hI   h136 tx2 ty0 hi137 e
theorem s332_94 {m f : Nat} {M0 M : xj_M} {G : xG_} (hI : xHI f)     (h : xRX m M0 M G) {x1 : Int} {x2 : Int} {R : Int × xG_} (tx1 : xin x1) (tx2 : xin x2) (e : g332_94   f x1 x2 G = some R) : xok (f332_94   f m x1 x2 M) (fun r => r.1 = R.1 ∧ xRX m M0 r.2 R.2 ∧ xin R.1) := by
  unfold g332_94 at e
  unfold f332_94
  exact s332_95 hI   h tx1 tx2 (show xin (0) by decide) e
theorem s332_33 {m f : Nat} {M0 M : xj_M} {G : xG_} (hI : xHI f)     (h : xRX m M0 M G) {x1 : Int} {y0 : Int} {R : Int × xG_} (tx1 : xin x1) (ty0 : xin y0) (e : g332_33   f x1 y0 G = some R) : xok (f332_33   f m x1 y0 M) (fun r => r.1 = R.1 ∧ xRX m M0 r.2 R.2 ∧ xin R.1) := by
  unfold g332_33 at e
  unfold f332_33
  refine xok_ite (fun c139 => ?_) (fun c139 => ?_)
  · rw [if_pos c139] at e
    refine xok_ite (fun c140 => ?_) (fun c140 => ?_)
    · rw [if_pos c140] at e
      exact s332_94 hI   h tx1 ty0 e
    · rw [if_neg c140] at e
      refine xok_eqb (h.gi (o := 0) (c := 15) (k := 4) (n := 107) (by decide) rfl (by decide) (by decide)) ?_
      obtain ⟨R141, e142, e⟩ := xbnd e
      refine xok_eqb (h.is (o := 0) (c := 15) (by decide) rfl) ?_
      refine xok_call (sg209 hI  h (xin_wr _) e142) ?_
      rintro ⟨v_, M145⟩ ⟨hv_, h143, hi144⟩
      cases hv_
      refine xok_ite (fun c146 => ?_) (fun c146 => ?_)
      · rw [if_pos c146] at e
        exact s332_94 hI   h143 tx1 ty0 e
      · rw [if_neg c146] at e
        refine xok_eqb (h143.gi (o := 0) (c := 15) (k := 4) (n := 107) (by decide) rfl (by decide) (by decide)) ?_
        obtain ⟨R147, e148, e⟩ := xbnd e
        refine xok_eqb (h143.is (o := 0) (c := 15) (by decide) rfl) ?_
        refine xok_call (sg209 hI  h143 (xin_wr _) e148) ?_
        rintro ⟨v_, M151⟩ ⟨hv_, h149, hi150⟩
        cases hv_
        exact s332_95 hI   h149 tx1 ty0 (xin_wr _) e
  · rw [if_neg c139] at e
    refine xok_eqb (h.gi (o := 0) (c := 15) (k := 4) (n := 107) (by decide) rfl (by decide) (by decide)) ?_
    obtain ⟨R152, e153, e⟩ := xbnd e
    refine xok_eqb (h.is (o := 0) (c := 15) (by decide) rfl) ?_
    refine xok_call (sg209 hI  h (xin_wr _) e153) ?_
    rintro ⟨v_, M156⟩ ⟨hv_, h154, hi155⟩
    cases hv_
    exact s332_95 hI   h154 tx1 ty0 (xin_wr _) e
theorem sg332 {m f : Nat} {M0 M : xj_M} {G : xG_} (hI : xHI f)   (h : xRX m M0 M G)  {R : Int × xG_}  (e : g332  f  G = some R) : xok (f332  f m M) (fun r => r.1 = R.1 ∧ xRX m M0 r.2 R.2 ∧ xin R.1) := by
  unfold g332 at e
  unfold f332
  refine xok_eqb (h.gi (o := 0) (c := 15) (k := 5) (n := 107) (by decide) rfl (by decide) (by decide)) ?_
  refine xok_eqb (h.gi (o := 0) (c := 15) (k := 4) (n := 107) (by decide) rfl (by decide) (by decide)) ?_
  obtain ⟨R157, e158, e⟩ := xbnd e
  refine xok_eqb (h.is (o := 0) (c := 15) (by decide) rfl) ?_
  refine xok_call (sg221 hI  h (show xin (3) by decide) e158) ?_
  rintro ⟨v_, M161⟩ ⟨hv_, h159, hi160⟩
  cases hv_
  refine xok_ite (fun c162 => ?_) (fun c162 => ?_)
  · rw [if_pos c162] at e
    exact s332_33 hI   h159 (xin_wr _) (show xin (-1) by decide) e
  · rw [if_neg c162] at e
    refine xok_eqb (h159.gi (o := 0) (c := 15) (k := 4) (n := 107) (by decide) rfl (by decide) (by decide)) ?_
    obtain ⟨R163, e164, e⟩ := xbnd e
    refine xok_eqb (h159.is (o := 0) (c := 15) (by decide) rfl) ?_
    refine xok_call (sg209 hI  h159 (h159.gin (o := 0) (c := 15) (k := 4) (n := 107) (by decide) rfl (by decide) (by decide)) e164) ?_
    rintro ⟨v_, M167⟩ ⟨hv_, h165, hi166⟩
    cases hv_
    exact s332_33 hI   h165 (xin_wr _) (xin_wr _) e
-- ChangeHouseModel.open
theorem s336_25 {m f : Nat} {M0 M : xj_M} {G : xG_} (hI : xHI f)     (h : xRX m M0 M G)  {R : xG_}  (e : g336_25   f  G = some R) : xok (f336_25   f m M) (fun r => xRX m M0 r R) := by
  unfold g336_25 at e
  unfold f336_25
  refine xok_eqb (h.gi (o := 0) (c := 15) (k := 25) (n := 107) (by decide) rfl (by decide) (by decide)) ?_
  obtain ⟨M101, q102, h103⟩ := h.pi (v := xwr ((G (0) 25) + (1))) (o := 0) (c := 15) (k := 25) (n := 107) (by decide) rfl (by decide) (by decide) (xin_wr _)
  refine xok_eqb q102 ?_
  obtain ⟨G104, g1, e⟩ := xbnd e
  cases g1
  have h103_ : xRX m M0 M101 (xup2 G (0) 25 (xwr ((G (0) 25) + (1)))) := h103
  generalize hGG104 : (xup2 G (0) 25 (xwr ((G (0) 25) + (1)))) = G104 at e h103
  clear h103_ hGG104
  obtain ⟨R105, e106, e⟩ := xbnd e
  refine xok_eqb (h103.is (o := 0) (c := 15) (by decide) rfl) ?_
  refine xok_call (sg222 hI  h103 (show xin (40) by decide) e106) ?_
  intro M109 h107
  cases e
  exact ⟨_, rfl, h107⟩
theorem sg336 {m f : Nat} {M0 M : xj_M} {G : xG_} (hI : xHI f)   (h : xRX m M0 M G)  {R : xG_}  (e : g336  f  G = some R) : xok (f336  f m M) (fun r => xRX m M0 r R) := by
  unfold g336 at e
  unfold f336
  obtain ⟨R110, e111, e⟩ := xbnd e
  refine xok_eqb (h.is (o := 0) (c := 15) (by decide) rfl) ?_
  refine xok_call (sg220 hI  h (show xin (40) by decide) e111) ?_
  rintro ⟨v_, M114⟩ ⟨hv_, h112, hi113⟩
  cases hv_
  refine xok_ite (fun c115 => ?_) (fun c115 => ?_)
  · rw [if_pos c115] at e
    exact s336_25 hI   h112  e
  · rw [if_neg c115] at e
    refine xok_eqb (h112.gi (o := 0) (c := 15) (k := 25) (n := 107) (by decide) rfl (by decide) (by decide)) ?_
    refine xok_ite (fun c116 => ?_) (fun c116 => ?_)
    · rw [if_pos c116] at e
      exact s336_25 hI   h112  e
    · rw [if_neg c116] at e
      refine xok_eqb (h112.gi (o := 0) (c := 15) (k := 4) (n := 107) (by decide) rfl (by decide) (by decide)) ?_
      obtain ⟨R117, e118, e⟩ := xbnd e
      refine xok_eqb (h112.is (o := 0) (c := 15) (by decide) rfl) ?_
      refine xok_call (sg210 hI  h112 (h112.gin (o := 0) (c := 15) (k := 4) (n := 107) (by decide) rfl (by decide) (by decide)) e118) ?_
      intro M121 h119
      exact s336_25 hI   h119  e
-- ChangeHouseModel.close
theorem sg337 {m f : Nat} {M0 M : xj_M} {G : xG_} (hI : xHI f)   (h : xRX m M0 M G)  {R : xG_}  (e : g337  f  G = some R) : xok (f337  f m M) (fun r => xRX m M0 r R) := by
  unfold g337 at e
  unfold f337
  refine xok_eqb (h.gi (o := 0) (c := 15) (k := 25) (n := 107) (by decide) rfl (by decide) (by decide)) ?_
  obtain ⟨M101, q102, h103⟩ := h.pi (v := xwr ((G (0) 25) - (1))) (o := 0) (c := 15) (k := 25) (n := 107) (by decide) rfl (by decide) (by decide) (xin_wr _)
  refine xok_eqb q102 ?_
  obtain ⟨G104, g1, e⟩ := xbnd e
  cases g1
  have h103_ : xRX m M0 M101 (xup2 G (0) 25 (xwr ((G (0) 25) - (1)))) := h103
  generalize hGG104 : (xup2 G (0) 25 (xwr ((G (0) 25) - (1)))) = G104 at e h103
  clear h103_ hGG104
  obtain ⟨R105, e106, e⟩ := xbnd e
  refine xok_eqb (h103.is (o := 0) (c := 15) (by decide) rfl) ?_
  refine xok_call (sg222 hI  h103 (show xin (41) by decide) e106) ?_
  intro M109 h107
  cases e
  exact ⟨_, rfl, h107⟩
-- ChangeHouseModel.readIf
theorem sg339 {m f : Nat} {M0 M : xj_M} {G : xG_} (hI : xHI f) {q334 : xG_ → Option (Int × xG_)} {p334 : Nat → xj_M → Option (Int × xj_M)} (hq334 : ∀ {M : xj_M} {G : xG_}  {R : Int × xG_}, xRX m M0 M G → q334  G = some R → xok (p334 m M) (fun r => r.1 = R.1 ∧ xRX m M0 r.2 R.2 ∧ xin R.1)) (h : xRX m M0 M G)  {R : Int × xG_}  (e : g339 q334 f  G = some R) : xok (f339 p334 f m M) (fun r => r.1 = R.1 ∧ xRX m M0 r.2 R.2 ∧ xin R.1) := by
  unfold g339 at e
  unfold f339
  obtain ⟨R101, e102, e⟩ := xbnd e
  refine xok_eqb (h.is (o := 0) (c := 15) (by decide) rfl) ?_
  refine xok_call (sg213 hI  h  e102) ?_
  intro M105 h103
  obtain ⟨R106, e107, e⟩ := xbnd e
  refine xok_eqb (h103.is (o := 0) (c := 15) (by decide) rfl) ?_
  refine xok_call (sg336 hI  h103  e107) ?_
  intro M110 h108
  obtain ⟨R111, e112, e⟩ := xbnd e
  refine xok_eqb (h108.is (o := 0) (c := 15) (by decide) rfl) ?_
  refine xok_call (hq334 h108  e112) ?_
  rintro ⟨v_, M115⟩ ⟨hv_, h113, hi114⟩
  cases hv_
  obtain ⟨R116, e117, e⟩ := xbnd e
  refine xok_eqb (h113.is (o := 0) (c := 15) (by decide) rfl) ?_
  refine xok_call (sg222 hI  h113 (show xin (44) by decide) e117) ?_
  intro M120 h118
  obtain ⟨R121, e122, e⟩ := xbnd e
  refine xok_eqb (h118.is (o := 0) (c := 15) (by decide) rfl) ?_
  refine xok_call (hq334 h118  e122) ?_
  rintro ⟨v_, M125⟩ ⟨hv_, h123, hi124⟩
  cases hv_
  obtain ⟨R126, e127, e⟩ := xbnd e
  refine xok_eqb (h123.is (o := 0) (c := 15) (by decide) rfl) ?_
  refine xok_call (sg222 hI  h123 (show xin (44) by decide) e127) ?_
  intro M130 h128
  obtain ⟨R131, e132, e⟩ := xbnd e
  refine xok_eqb (h128.is (o := 0) (c := 15) (by decide) rfl) ?_
  refine xok_call (hq334 h128  e132) ?_
  rintro ⟨v_, M135⟩ ⟨hv_, h133, hi134⟩
  cases hv_
  obtain ⟨R136, e137, e⟩ := xbnd e
  refine xok_eqb (h133.is (o := 0) (c := 15) (by decide) rfl) ?_
  refine xok_call (sg337 hI  h133  e137) ?_
  intro M140 h138
  obtain ⟨R141, e142, e⟩ := xbnd e
  refine xok_eqb (h138.is (o := 0) (c := 15) (by decide) rfl) ?_
  refine xok_call (sg331 hI  h138 (show xin (10) by decide) hi114 hi124 hi134 (show xiN (0) by decide) e142) ?_
  rintro ⟨v_, M145⟩ ⟨hv_, h143, hi144⟩
  cases hv_
  cases e
  exact ⟨_, rfl, rfl, h143, hi144⟩
-- ChangeHouseModel.readOf
theorem s340_130 {m f : Nat} {M0 M : xj_M} {G : xG_} (hI : xHI f)     (h : xRX m M0 M G) {x3 : Int} {x5 : Int} {y0 : Int} {R : Int × xG_} (tx3 : xin x3) (tx5 : xin x5) (ty0 : xin y0) (e : g340_130   f x3 x5 y0 G = some R) : xok (f340_130   f x3 x5 y0 m M) (fun r => r.1 = R.1 ∧ xRX m M0 r.2 R.2 ∧ xin R.1) := by
  unfold g340_130 at e
  unfold f340_130
  obtain ⟨R101, e102, e⟩ := xbnd e
  refine xok_eqb (h.is (o := 0) (c := 15) (by decide) rfl) ?_
  refine xok_call (sg331 hI  h ty0 tx3 tx5 (show xin (0) by decide) (show xiN (0) by decide) e102) ?_
  rintro ⟨v_, M105⟩ ⟨hv_, h103, hi104⟩
  cases hv_
  cases e
  exact ⟨_, rfl, rfl, h103, hi104⟩
theorem s340_115 {m f : Nat} {M0 M : xj_M} {G : xG_} (hI : xHI f)     (h : xRX m M0 M G) {x1 : Int} {x3 : Int} {x5 : Int} {R : Int × xG_} (tx1 : xiN x1) (tx3 : xin x3) (tx5 : xin x5) (e : g340_115   f x1 x3 x5 G = some R) : xok (f340_115   f m x1 x3 x5 M) (fun r => r.1 = R.1 ∧ xRX m M0 r.2 R.2 ∧ xin R.1) := by
  unfold g340_115 at e
  unfold f340_115
  refine xok_eqb (h.gl (o := 0) (c := 15) (k := 17) (n := 107) (by decide) rfl (by decide) (by decide)) ?_
  refine xok_ite (fun c106 => ?_) (fun c106 => ?_)
  · rw [if_pos c106] at e
    exact s340_130 hI   h tx3 tx5 (show xin (5) by decide) e
  · rw [if_neg c106] at e
    exact s340_130 hI   h tx3 tx5 (show xin (4) by decide) e
theorem s340_111 {m f : Nat} {M0 M : xj_M} {G : xG_} (hI : xHI f)     (h : xRX m M0 M G) {x1 : Int} {x3 : Int} {x5 : Int} {R : Int × xG_} (tx1 : xiN x1) (tx3 : xin x3) (tx5 : xin x5) (e : g340_111   f x1 x3 x5 G = some R) : xok (f340_111   f m x1 x3 x5 M) (fun r => r.1 = R.1 ∧ xRX m M0 r.2 R.2 ∧ xin R.1) := by
  unfold g340_111 at e
  unfold f340_111
  obtain ⟨R107, e108, e⟩ := xbnd e
  refine xok_eqb (h.is (o := 0) (c := 15) (by decide) rfl) ?_
  refine xok_call (sg337 hI  h  e108) ?_
  intro M111 h109
  exact s340_115 hI   h109 tx1 tx3 tx5 e
theorem s340_94 {m f : Nat} {M0 M : xj_M} {G : xG_} (hI : xHI f)     (h : xRX m M0 M G) {x1 : Int} {x3 : Int} {x4 : Int} {x5 : Int} {R : Int × xG_} (tx1 : xiN x1) (tx3 : xin x3) (tx4 : xin x4) (tx5 : xin x5) (e : g340_94   f x1 x3 x4 x5 G = some R) : xok (f340_94   f m x1 x3 x4 x5 M) (fun r => r.1 = R.1 ∧ xRX m M0 r.2 R.2 ∧ xin R.1) := by
  unfold g340_94 at e
  unfold f340_94
  refine xok_eqb (h.gi (o := 0) (c := 15) (k := 7) (n := 107) (by decide) rfl (by decide) (by decide)) ?_
  refine xok_ite (fun c112 => ?_) (fun c112 => ?_)
  · rw [if_pos c112] at e
    exact s340_111 hI   h tx1 tx3 tx5 e
  · rw [if_neg c112] at e
    refine xok_eqb (h.gi (o := 0) (c := 15) (k := 7) (n := 107) (by decide) rfl (by decide) (by decide)) ?_
    refine xok_ite (fun c113 => ?_) (fun c113 => ?_)
    · rw [if_pos c113] at e
      exact s340_115 hI   h tx1 tx3 tx5 e
    · rw [if_neg c113] at e
      exact s340_111 hI   h tx1 tx3 tx5 e
theorem s340_88 {m f : Nat} {M0 M : xj_M} {G : xG_} (hI : xHI f)     (h : xRX m M0 M G) {x1 : Int} {x3 : Int} {x4 : Int} {x5 : Int} {R : Int × xG_} (tx1 : xiN x1) (tx3 : xin x3) (tx4 : xin x4) (tx5 : xin x5) (e : g340_88   f x1 x3 x4 x5 G = some R) : xok (f340_88   f m x1 x3 x4 x5 M) (fun r => r.1 = R.1 ∧ xRX m M0 r.2 R.2 ∧ xin R.1) := by
  unfold g340_88 at e
  unfold f340_88
  obtain ⟨R114, e115, e⟩ := xbnd e
  refine xok_eqb (h.is (o := 0) (c := 15) (by decide) rfl) ?_
  refine xok_call (sg210 hI  h tx4 e115) ?_
  intro M118 h116
  exact s340_94 hI   h116 tx1 tx3 tx4 tx5 e
theorem s340_240 {m f : Nat} {M0 M : xj_M} {G : xG_} (hI : xHI f)     (h : xRX m M0 M G) {x3 : Int} {x5 : Int} {y0 : Int} {R : Int × xG_} (tx3 : xiN x3) (tx5 : xin x5) (ty0 : xin y0) (e : g340_240   f x3 x5 y0 G = some R) : xok (f340_240   f x3 x5 y0 m M) (fun r => r.1 = R.1 ∧ xRX m M0 r.2 R.2 ∧ xin R.1) := by
  unfold g340_240 at e
  unfold f340_240
  obtain ⟨R119, e120, e⟩ := xbnd e
  refine xok_eqb (h.is (o := 0) (c := 15) (by decide) rfl) ?_
  refine xok_call (sg331 hI  h ty0 tx5 (show xin (0) by decide) (show xin (0) by decide) tx3 e120) ?_
  rintro ⟨v_, M123⟩ ⟨hv_, h121, hi122⟩
  cases hv_
  cases e
  exact ⟨_, rfl, rfl, h121, hi122⟩
theorem s340_191 {m f : Nat} {M0 M : xj_M} {G : xG_} (hI : xHI f)     (h : xRX m M0 M G) {x1 : Int} {x3 : Int} {x5 : Int} {R : Int × xG_} (tx1 : xiN x1) (tx3 : xiN x3) (tx5 : xin x5) (e : g340_191   f x1 x3 x5 G = some R) : xok (f340_191   f m x1 x3 x5 M) (fun r => r.1 = R.1 ∧ xRX m M0 r.2 R.2 ∧ xin R.1) := by
  unfold g340_191 at e
  unfold f340_191
  obtain ⟨R124, e125, e⟩ := xbnd e
  refine xok_eqb (h.is (o := 0) (c := 15) (by decide) rfl) ?_
  refine xok_call (sg337 hI  h  e125) ?_
  intro M128 h126
  refine xok_eqb (h126.gl (o := 0) (c := 15) (k := 16) (n := 107) (by decide) rfl (by decide) (by decide)) ?_
  refine xok_ite (fun c129 => ?_) (fun c129 => ?_)
  · rw [if_pos c129] at e
    refine xok_eqb (h126.gl (o := 0) (c := 15) (k := 17) (n := 107) (by decide) rfl (by decide) (by decide)) ?_
    refine xok_ite (fun c130 => ?_) (fun c130 => ?_)
    · rw [if_pos c130] at e
      refine xok_eqb (h126.gl (o := 0) (c := 15) (k := 18) (n := 107) (by decide) rfl (by decide) (by decide)) ?_
      refine xok_ite (fun c131 => ?_) (fun c131 => ?_)
      · rw [if_pos c131] at e
        exact s340_240 hI   h126 tx3 tx5 (show xin (9) by decide) e
      · rw [if_neg c131] at e
        exact s340_240 hI   h126 tx3 tx5 (show xin (8) by decide) e
    · rw [if_neg c130] at e
      exact s340_240 hI   h126 tx3 tx5 (show xin (7) by decide) e
  · rw [if_neg c129] at e
    exact s340_240 hI   h126 tx3 tx5 (show xin (6) by decide) e
theorem s340_139 {m f : Nat} {M0 M : xj_M} {G : xG_} (hI : xHI f)     (h : xRX m M0 M G) {x1 : Int} {R : Int × xG_} (tx1 : xiN x1) (e : g340_139   f x1 G = some R) : xok (f340_139   f m x1 M) (fun r => r.1 = R.1 ∧ xRX m M0 r.2 R.2 ∧ xin R.1) := by
  unfold g340_139 at e
  unfold f340_139
  obtain ⟨R132, e133, e⟩ := xbnd e
  refine xok_eqb (h.is (o := 0) (c := 15) (by decide) rfl) ?_
  refine xok_call (sg226 hI  h  e133) ?_
  rintro ⟨v_, M136⟩ ⟨hv_, h134, hi135⟩
  cases hv_
  refine xok_ite (fun c137 => ?_) (fun c137 => ?_)
  · rw [if_pos c137] at e
    refine xok_eqb (h134.gl (o := 0) (c := 15) (k := 9) (n := 107) (by decide) rfl (by decide) (by decide)) ?_
    obtain ⟨R138, e139, e⟩ := xbnd e
    refine xok_eqb (h134.is (o := 0) (c := 15) (by decide) rfl) ?_
    refine xok_call (sg213 hI  h134  e139) ?_
    intro M142 h140
    refine xok_eqb (h140.gl (o := 0) (c := 15) (k := 16) (n := 107) (by decide) rfl (by decide) (by decide)) ?_
    refine xok_ite (fun c143 => ?_) (fun c143 => ?_)
    · rw [if_pos c143] at e
      exact s340_191 hI   h140 tx1 (h134.gln (o := 0) (c := 15) (k := 9) (n := 107) (by decide) rfl (by decide) (by decide)) (show xin (0) by decide) e
    · rw [if_neg c143] at e
      obtain ⟨R144, e145, e⟩ := xbnd e
      refine xok_eqb (h140.is (o := 0) (c := 15) (by decide) rfl) ?_
      refine xok_call (sg222 hI  h140 (show xin (44) by decide) e145) ?_
      intro M148 h146
      obtain ⟨R149, e150, e⟩ := xbnd e
      refine xok_eqb (h146.is (o := 0) (c := 15) (by decide) rfl) ?_
      refine xok_call (sg233 hI  h146 (show xin (1) by decide) (show xin (4) by decide) e150) ?_
      rintro ⟨v_, M153⟩ ⟨hv_, h151, hi152⟩
      cases hv_
      exact s340_191 hI   h151 tx1 (h134.gln (o := 0) (c := 15) (k := 9) (n := 107) (by decide) rfl (by decide) (by decide)) hi152 e
  · rw [if_neg c137] at e
    refine xok_eqb (h134.gi (o := 0) (c := 15) (k := 4) (n := 107) (by decide) rfl (by decide) (by decide)) ?_
    obtain ⟨R154, e155, e⟩ := xbnd e
    refine xok_eqb (h134.is (o := 0) (c := 15) (by decide) rfl) ?_
    refine xok_call (sg210 hI  h134 (h134.gin (o := 0) (c := 15) (k := 4) (n := 107) (by decide) rfl (by decide) (by decide)) e155) ?_
    intro M158 h156
    cases e
    exact ⟨_, rfl, rfl, h156, (show xin (0) by decide)⟩
theorem s340_26 {m f : Nat} {M0 M : xj_M} {G : xG_} (hI : xHI f)     (h : xRX m M0 M G) {x1 : Int} {R : Int × xG_} (tx1 : xiN x1) (e : g340_26   f x1 G = some R) : xok (f340_26   f m x1 M) (fun r => r.1 = R.1 ∧ xRX m M0 r.2 R.2 ∧ xin R.1) := by
  unfold g340_26 at e
  unfold f340_26
  obtain ⟨R159, e160, e⟩ := xbnd e
  refine xok_eqb (h.is (o := 0) (c := 15) (by decide) rfl) ?_
  refine xok_call (sg221 hI  h (show xin (3) by decide) e160) ?_
  rintro ⟨v_, M163⟩ ⟨hv_, h161, hi162⟩
  cases hv_
  refine xok_ite (fun c164 => ?_) (fun c164 => ?_)
  · rw [if_pos c164] at e
    exact s340_139 hI   h161 tx1 e
  · rw [if_neg c164] at e
    obtain ⟨R165, e166, e⟩ := xbnd e
    refine xok_eqb (h161.is (o := 0) (c := 15) (by decide) rfl) ?_
    refine xok_call (sg332 hI  h161  e166) ?_
    rintro ⟨v_, M169⟩ ⟨hv_, h167, hi168⟩
    cases hv_
    obtain ⟨R170, e171, e⟩ := xbnd e
    refine xok_eqb (h167.is (o := 0) (c := 15) (by decide) rfl) ?_
    refine xok_call (sg222 hI  h167 (show xin (58) by decide) e171) ?_
    intro M174 h172
    refine xok_eqb (h172.gi (o := 0) (c := 15) (k := 4) (n := 107) (by decide) rfl (by decide) (by decide)) ?_
    obtain ⟨R175, e176, e⟩ := xbnd e
    refine xok_eqb (h172.is (o := 0) (c := 15) (by decide) rfl) ?_
    refine xok_call (sg332 hI  h172  e176) ?_
    rintro ⟨v_, M179⟩ ⟨hv_, h177, hi178⟩
    cases hv_
    obtain ⟨R180, e181, e⟩ := xbnd e
    refine xok_eqb (h177.is (o := 0) (c := 15) (by decide) rfl) ?_
    refine xok_call (sg211 hI  h177  e181) ?_
    rintro ⟨v_, M184⟩ ⟨hv_, h182, hi183⟩
    cases hv_
    refine xok_ite (fun c185 => ?_) (fun c185 => ?_)
    · rw [if_pos c185] at e
      exact s340_94 hI   h182 tx1 hi168 (h172.gin (o := 0) (c := 15) (k := 4) (n := 107) (by decide) rfl (by decide) (by decide)) hi178 e
    · rw [if_neg c185] at e
      refine xok_ite (fun c186 => ?_) (fun c186 => ?_)
      · rw [if_pos c186] at e
        exact s340_88 hI   h182 tx1 hi168 (h172.gin (o := 0) (c := 15) (k := 4) (n := 107) (by decide) rfl (by decide) (by decide)) hi178 e
      · rw [if_neg c186] at e
        refine xok_ite (fun c187 => ?_) (fun c187 => ?_)
        · rw [if_pos c187] at e
          exact s340_94 hI   h182 tx1 hi168 (h172.gin (o := 0) (c := 15) (k := 4) (n := 107) (by decide) rfl (by decide) (by decide)) hi178 e
        · rw [if_neg c187] at e
          exact s340_88 hI   h182 tx1 hi168 (h172.gin (o := 0) (c := 15) (k := 4) (n := 107) (by decide) rfl (by decide) (by decide)) hi178 e
theorem sg340 {m f : Nat} {M0 M : xj_M} {G : xG_} (hI : xHI f)   (h : xRX m M0 M G) {a1 : Int} {R : Int × xG_} (ta1 : xiN a1) (e : g340  f a1 G = some R) : xok (f340  f m a1 M) (fun r => r.1 = R.1 ∧ xRX m M0 r.2 R.2 ∧ xin R.1) := by
  unfold g340 at e
  unfold f340
  obtain ⟨R188, e189, e⟩ := xbnd e
  refine xok_eqb (h.is (o := 0) (c := 15) (by decide) rfl) ?_
  refine xok_call (sg213 hI  h  e189) ?_
  intro M192 h190
  obtain ⟨R193, e194, e⟩ := xbnd e
  refine xok_eqb (h190.is (o := 0) (c := 15) (by decide) rfl) ?_
  refine xok_call (sg336 hI  h190  e194) ?_
  intro M197 h195
  refine xok_eqb (h195.gl (o := 0) (c := 15) (k := 17) (n := 107) (by decide) rfl (by decide) (by decide)) ?_
  refine xok_ite (fun c198 => ?_) (fun c198 => ?_)
  · rw [if_pos c198] at e
    exact s340_26 hI   h195 ta1 e
  · rw [if_neg c198] at e
    refine xok_eqb (h195.gl (o := 0) (c := 15) (k := 16) (n := 107) (by decide) rfl (by decide) (by decide)) ?_
    refine xok_ite (fun c199 => ?_) (fun c199 => ?_)
    · rw [if_pos c199] at e
      exact s340_139 hI   h195 ta1 e
    · rw [if_neg c199] at e
      exact s340_26 hI   h195 ta1 e
-- ChangeHouseModel.worthOf
theorem s350_246 {m f : Nat} {M0 M : xj_M} {G : xG_} (hI : xHI f) {q350 : Nat → Int → xG_ → Option (Int × xG_)} {p350 : Nat → Nat → Int → xj_M → Option (Int × xj_M)}  (hq350 : ∀ {M : xj_M} {G : xG_} {a1 : Nat} {a2 : Int} {R : Int × xG_}, xRX m M0 M G → xoL a1 → xin a2 → q350 a1 a2 G = some R → xok (p350 m (m + a1) a2 M) (fun r => r.1 = R.1 ∧ xRX m M0 r.2 R.2 ∧ xiN R.1))  (h : xRX m M0 M G) {y0 : Int} {R : Int × xG_} (ty0 : xiN y0) (e : g350_246 q350  f y0 G = some R) : xok (f350_246 p350  f y0 M) (fun r => r.1 = R.1 ∧ xRX m M0 r.2 R.2 ∧ xiN R.1) := by
  unfold g350_246 at e
  unfold f350_246
  cases e
  exact ⟨_, rfl, rfl, h, ty0⟩
theorem s350_243 {m f : Nat} {M0 M : xj_M} {G : xG_} (hI : xHI f) {q350 : Nat → Int → xG_ → Option (Int × xG_)} {p350 : Nat → Nat → Int → xj_M → Option (Int × xj_M)}  (hq350 : ∀ {M : xj_M} {G : xG_} {a1 : Nat} {a2 : Int} {R : Int × xG_}, xRX m M0 M G → xoL a1 → xin a2 → q350 a1 a2 G = some R → xok (p350 m (m + a1) a2 M) (fun r => r.1 = R.1 ∧ xRX m M0 r.2 R.2 ∧ xiN R.1))  (h : xRX m M0 M G) {y0 : Int} {y1 : Nat} {R : Int × xG_} (ty0 : xin y0) (ty1 : xoL y1) (e : g350_243 q350  f y0 y1 G = some R) : xok (f350_243 p350  f y0 (m + y1) m M) (fun r => r.1 = R.1 ∧ xRX m M0 r.2 R.2 ∧ xiN R.1) := by
  unfold g350_243 at e
  unfold f350_243
  obtain ⟨R101, e102, e⟩ := xbnd e
  refine xok_eqb (h.is (o := 0) (c := 15) (by decide) rfl) ?_
  refine xok_call (hq350 h ty1 ty0 e102) ?_
  rintro ⟨v_, M105⟩ ⟨hv_, h103, hi104⟩
  cases hv_
  exact s350_246 hI hq350  h103 hi104 e
theorem s350_189 {m f : Nat} {M0 M : xj_M} {G : xG_} (hI : xHI f) {q350 : Nat → Int → xG_ → Option (Int × xG_)} {p350 : Nat → Nat → Int → xj_M → Option (Int × xj_M)}  (hq350 : ∀ {M : xj_M} {G : xG_} {a1 : Nat} {a2 : Int} {R : Int × xG_}, xRX m M0 M G → xoL a1 → xin a2 → q350 a1 a2 G = some R → xok (p350 m (m + a1) a2 M) (fun r => r.1 = R.1 ∧ xRX m M0 r.2 R.2 ∧ xiN R.1))  (h : xRX m M0 M G) {y0 : Int} {R : Int × xG_} (ty0 : xiN y0) (e : g350_189 q350  f y0 G = some R) : xok (f350_189 p350  f y0 M) (fun r => r.1 = R.1 ∧ xRX m M0 r.2 R.2 ∧ xiN R.1) := by
  unfold g350_189 at e
  unfold f350_189
  cases e
  exact ⟨_, rfl, rfl, h, ty0⟩
theorem s350_163 {m f : Nat} {M0 M : xj_M} {G : xG_} (hI : xHI f) {q350 : Nat → Int → xG_ → Option (Int × xG_)} {p350 : Nat → Nat → Int → xj_M → Option (Int × xj_M)}  (hq350 : ∀ {M : xj_M} {G : xG_} {a1 : Nat} {a2 : Int} {R : Int × xG_}, xRX m M0 M G → xoL a1 → xin a2 → q350 a1 a2 G = some R → xok (p350 m (m + a1) a2 M) (fun r => r.1 = R.1 ∧ xRX m M0 r.2 R.2 ∧ xiN R.1))  (h : xRX m M0 M G) {x2 : Int} {x3 : Int} {y0 : Int} {R : Int × xG_} (tx2 : xin x2) (tx3 : xiN x3) (ty0 : xiN y0) (e : g350_163 q350  f x2 x3 y0 G = some R) : xok (f350_163 p350  f m x2 x3 y0 M) (fun r => r.1 = R.1 ∧ xRX m M0 r.2 R.2 ∧ xiN R.1) := by
  unfold g350_163 at e
  unfold f350_163
  refine xok_eqb (h.gi (o := 0) (c := 15) (k := 91) (n := 107) (by decide) rfl (by decide) (by decide)) ?_
  refine xok_ite (fun c106 => ?_) (fun c106 => ?_)
  · rw [if_pos c106] at e
    exact s350_189 hI hq350  h (show xiN (0) by decide) e
  · rw [if_neg c106] at e
    refine xok_eqb (h.pt (o := 0) (c := 15) (k := 87) (t := 261) (n := 107) (by decide) rfl (by decide) (by decide +kernel)) ?_
    by_cases c107 : 0 ≤ (x2) ∧ (x2) < 140
    · skip
      rw [if_pos c107] at e
      refine xok_eqb (h.ai (o := 261) (n := 140) (by decide) rfl (by decide) c107.1 c107.2) ?_
      obtain ⟨R108, e109, e⟩ := xbnd e
      refine xok_eqb (h.is (o := 0) (c := 15) (by decide) rfl) ?_
      refine xok_call (sg351 hI  h (h.ain (o := 261) (n := 140) (by decide) rfl (by decide) c107.1 c107.2) tx3 ty0 e109) ?_
      rintro ⟨v_, M112⟩ ⟨hv_, h110, hi111⟩
      cases hv_
      exact s350_189 hI hq350  h110 hi111 e
    · rw [if_neg c107] at e; cases e
theorem s350_128 {m f : Nat} {M0 M : xj_M} {G : xG_} (hI : xHI f) {q350 : Nat → Int → xG_ → Option (Int × xG_)} {p350 : Nat → Nat → Int → xj_M → Option (Int × xj_M)}  (hq350 : ∀ {M : xj_M} {G : xG_} {a1 : Nat} {a2 : Int} {R : Int × xG_}, xRX m M0 M G → xoL a1 → xin a2 → q350 a1 a2 G = some R → xok (p350 m (m + a1) a2 M) (fun r => r.1 = R.1 ∧ xRX m M0 r.2 R.2 ∧ xiN R.1))  (h : xRX m M0 M G) {y0 : Int} {R : Int × xG_} (ty0 : xiN y0) (e : g350_128 q350  f y0 G = some R) : xok (f350_128 p350  f y0 M) (fun r => r.1 = R.1 ∧ xRX m M0 r.2 R.2 ∧ xiN R.1) := by
  unfold g350_128 at e
  unfold f350_128
  cases e
  exact ⟨_, rfl, rfl, h, ty0⟩
theorem s350_98 {m f : Nat} {M0 M : xj_M} {G : xG_} (hI : xHI f) {q350 : Nat → Int → xG_ → Option (Int × xG_)} {p350 : Nat → Nat → Int → xj_M → Option (Int × xj_M)}  (hq350 : ∀ {M : xj_M} {G : xG_} {a1 : Nat} {a2 : Int} {R : Int × xG_}, xRX m M0 M G → xoL a1 → xin a2 → q350 a1 a2 G = some R → xok (p350 m (m + a1) a2 M) (fun r => r.1 = R.1 ∧ xRX m M0 r.2 R.2 ∧ xiN R.1))  (h : xRX m M0 M G) {x1 : Nat} {x2 : Int} {R : Int × xG_} (tx1 : xoL x1) (tx2 : xin x2) (e : g350_98 q350  f x1 x2 G = some R) : xok (f350_98 p350  f m (m + x1) x2 M) (fun r => r.1 = R.1 ∧ xRX m M0 r.2 R.2 ∧ xiN R.1) := by
  unfold g350_98 at e
  unfold f350_98
  refine xok_eqb (h.pt (o := x1) (c := 13) (k := 20) (t := x1 + 17) (n := 37) (xoL_o tx1).1 (xoL_o tx1).2 (by decide) (xoL_all tx1 (Q := fun p => (p, 20, p + 17) ∈ xl_P) (by decide +kernel) (by decide +kernel) (by decide +kernel) (by decide +kernel))) ?_
  refine xok_eqb (h.pt (o := 0) (c := 15) (k := 85) (t := 259) (n := 107) (by decide) rfl (by decide) (by decide +kernel)) ?_
  by_cases c113 : 0 ≤ (x2) ∧ (x2) < 140
  · skip
    rw [if_pos c113] at e
    refine xok_eqb (h.ai (o := 259) (n := 140) (by decide) rfl (by decide) c113.1 c113.2) ?_
    by_cases c114 : 0 ≤ (G (259) (x2).toNat) ∧ (G (259) (x2).toNat) < 72
    · skip
      rw [if_pos c114] at e
      refine xok_eqb (h.ai (o := x1 + 17) (n := 72) (xoL_all tx1 (Q := fun p => p + 17 < 276) (by decide) (by decide) (by decide) (by decide)) (xoL_all tx1 (Q := fun p => xl_t (p + 17) = (2, 3, 72)) rfl rfl rfl rfl) (by decide) c114.1 c114.2) ?_
      refine xok_ite (fun c115 => ?_) (fun c115 => ?_)
      · rw [if_pos c115] at e
        exact s350_128 hI hq350  h (show xiN (0) by decide) e
      · rw [if_neg c115] at e
        refine xok_eqb (h.pt (o := x1) (c := 13) (k := 23) (t := x1 + 20) (n := 37) (xoL_o tx1).1 (xoL_o tx1).2 (by decide) (xoL_all tx1 (Q := fun p => (p, 23, p + 20) ∈ xl_P) (by decide +kernel) (by decide +kernel) (by decide +kernel) (by decide +kernel))) ?_
        refine xok_eqb (h.pt (o := 0) (c := 15) (k := 85) (t := 259) (n := 107) (by decide) rfl (by decide) (by decide +kernel)) ?_
        by_cases c116 : 0 ≤ (x2) ∧ (x2) < 140
        · skip
          rw [if_pos c116] at e
          refine xok_eqb (h.ai (o := 259) (n := 140) (by decide) rfl (by decide) c116.1 c116.2) ?_
          by_cases c117 : 0 ≤ (G (259) (x2).toNat) ∧ (G (259) (x2).toNat) < 72
          · skip
            rw [if_pos c117] at e
            refine xok_eqb (h.al (o := x1 + 20) (n := 72) (xoL_all tx1 (Q := fun p => p + 20 < 276) (by decide) (by decide) (by decide) (by decide)) (xoL_all tx1 (Q := fun p => xl_t (p + 20) = (2, 4, 72)) rfl rfl rfl rfl)  c117.1 c117.2) ?_
            exact s350_128 hI hq350  h (h.aln (o := x1 + 20) (n := 72) (xoL_all tx1 (Q := fun p => p + 20 < 276) (by decide) (by decide) (by decide) (by decide)) (xoL_all tx1 (Q := fun p => xl_t (p + 20) = (2, 4, 72)) rfl rfl rfl rfl)  c117.1 c117.2) e
          · rw [if_neg c117] at e; cases e
        · rw [if_neg c116] at e; cases e
    · rw [if_neg c114] at e; cases e
  · rw [if_neg c113] at e; cases e
theorem s350b {m f : Nat} {M0 M : xj_M} {G : xG_} (hI : xHI f) {q350 : Nat → Int → xG_ → Option (Int × xG_)} {p350 : Nat → Nat → Int → xj_M → Option (Int × xj_M)} (hq350 : ∀ {M : xj_M} {G : xG_} {a1 : Nat} {a2 : Int} {R : Int × xG_}, xRX m M0 M G → xoL a1 → xin a2 → q350 a1 a2 G = some R → xok (p350 m (m + a1) a2 M) (fun r => r.1 = R.1 ∧ xRX m M0 r.2 R.2 ∧ xiN R.1)) (h : xRX m M0 M G) {a1 : Nat} {a2 : Int} {R : Int × xG_} (ta1 : xoL a1) (ta2 : xin a2) (e : g350b q350 f a1 a2 G = some R) : xok (f350b p350 f m (m + a1) a2 M) (fun r => r.1 = R.1 ∧ xRX m M0 r.2 R.2 ∧ xiN R.1) := by
  unfold g350b at e
  unfold f350b
  refine xok_eqb (h.pt (o := 0) (c := 15) (k := 84) (t := 258) (n := 107) (by decide) rfl (by decide) (by decide +kernel)) ?_
  by_cases c118 : 0 ≤ (a2) ∧ (a2) < 140
  · skip
    rw [if_pos c118] at e
    refine xok_eqb (h.ai (o := 258) (n := 140) (by decide) rfl (by decide) c118.1 c118.2) ?_
    refine xok_ite (fun c119 => ?_) (fun c119 => ?_)
    · rw [if_pos c119] at e
      obtain ⟨R120, e121, e⟩ := xbnd e
      refine xok_eqb (h.is (o := 0) (c := 15) (by decide) rfl) ?_
      refine xok_call (sg353 hI  h ta2 e121) ?_
      rintro ⟨v_, M124⟩ ⟨hv_, h122, hi123⟩
      cases hv_
      cases e
      exact ⟨_, rfl, rfl, h122, hi123⟩
    · rw [if_neg c119] at e
      refine xok_ite (fun c125 => ?_) (fun c125 => ?_)
      · rw [if_pos c125] at e
        refine xok_eqb (h.pt (o := 0) (c := 15) (k := 88) (t := 262) (n := 107) (by decide) rfl (by decide) (by decide +kernel)) ?_
        by_cases c126 : 0 ≤ (a2) ∧ (a2) < 140
        · skip
          rw [if_pos c126] at e
          refine xok_eqb (h.al (o := 262) (n := 140) (by decide) rfl  c126.1 c126.2) ?_
          cases e
          exact ⟨_, rfl, rfl, h, (h.aln (o := 262) (n := 140) (by decide) rfl  c126.1 c126.2)⟩
        · rw [if_neg c126] at e; cases e
      · rw [if_neg c125] at e
        refine xok_ite (fun c127 => ?_) (fun c127 => ?_)
        · rw [if_pos c127] at e
          refine xok_eqb (h.pt (o := a1) (c := 13) (k := 20) (t := a1 + 17) (n := 37) (xoL_o ta1).1 (xoL_o ta1).2 (by decide) (xoL_all ta1 (Q := fun p => (p, 20, p + 17) ∈ xl_P) (by decide +kernel) (by decide +kernel) (by decide +kernel) (by decide +kernel))) ?_
          refine xok_eqb (h.pt (o := 0) (c := 15) (k := 85) (t := 259) (n := 107) (by decide) rfl (by decide) (by decide +kernel)) ?_
          by_cases c128 : 0 ≤ (a2) ∧ (a2) < 140
          · skip
            rw [if_pos c128] at e
            refine xok_eqb (h.ai (o := 259) (n := 140) (by decide) rfl (by decide) c128.1 c128.2) ?_
            by_cases c129 : 0 ≤ (G (259) (a2).toNat) ∧ (G (259) (a2).toNat) < 72
            · skip
              rw [if_pos c129] at e
              refine xok_eqb (h.ai (o := a1 + 17) (n := 72) (xoL_all ta1 (Q := fun p => p + 17 < 276) (by decide) (by decide) (by decide) (by decide)) (xoL_all ta1 (Q := fun p => xl_t (p + 17) = (2, 3, 72)) rfl rfl rfl rfl) (by decide) c129.1 c129.2) ?_
              refine xok_ite (fun c130 => ?_) (fun c130 => ?_)
              · rw [if_pos c130] at e
                exact s350_98 hI hq350  h ta1 ta2 e
              · rw [if_neg c130] at e
                refine xok_eqb (h.pt (o := a1) (c := 13) (k := 23) (t := a1 + 20) (n := 37) (xoL_o ta1).1 (xoL_o ta1).2 (by decide) (xoL_all ta1 (Q := fun p => (p, 23, p + 20) ∈ xl_P) (by decide +kernel) (by decide +kernel) (by decide +kernel) (by decide +kernel))) ?_
                refine xok_eqb (h.pt (o := 0) (c := 15) (k := 85) (t := 259) (n := 107) (by decide) rfl (by decide) (by decide +kernel)) ?_
                by_cases c131 : 0 ≤ (a2) ∧ (a2) < 140
                · skip
                  rw [if_pos c131] at e
                  refine xok_eqb (h.ai (o := 259) (n := 140) (by decide) rfl (by decide) c131.1 c131.2) ?_
                  by_cases c132 : 0 ≤ (G (259) (a2).toNat) ∧ (G (259) (a2).toNat) < 72
                  · skip
                    rw [if_pos c132] at e
                    refine xok_eqb (h.al (o := a1 + 20) (n := 72) (xoL_all ta1 (Q := fun p => p + 20 < 276) (by decide) (by decide) (by decide) (by decide)) (xoL_all ta1 (Q := fun p => xl_t (p + 20) = (2, 4, 72)) rfl rfl rfl rfl)  c132.1 c132.2) ?_
                    obtain ⟨M133, q134, h135⟩ := h.pi (v := xwr (G (a1 + 20) (G (259) (a2).toNat).toNat)) (o := 0) (c := 15) (k := 91) (n := 107) (by decide) rfl (by decide) (by decide) (xin_wr _)
                    refine xok_eqb q134 ?_
                    obtain ⟨G136, g1, e⟩ := xbnd e
                    cases g1
                    have h135_ : xRX m M0 M133 (xup2 G (0) 91 (xwr (G (a1 + 20) (G (259) (a2).toNat).toNat))) := h135
                    generalize hGG136 : (xup2 G (0) 91 (xwr (G (a1 + 20) (G (259) (a2).toNat).toNat))) = G136 at e h135
                    clear h135_ hGG136
                    exact s350_98 hI hq350  h135 ta1 ta2 e
                  · rw [if_neg c132] at e; cases e
                · rw [if_neg c131] at e; cases e
            · rw [if_neg c129] at e; cases e
          · rw [if_neg c128] at e; cases e
        · rw [if_neg c127] at e
          refine xok_ite (fun c137 => ?_) (fun c137 => ?_)
          · rw [if_pos c137] at e
            refine xok_eqb (h.pt (o := 0) (c := 15) (k := 85) (t := 259) (n := 107) (by decide) rfl (by decide) (by decide +kernel)) ?_
            by_cases c138 : 0 ≤ (a2) ∧ (a2) < 140
            · skip
              rw [if_pos c138] at e
              refine xok_eqb (h.ai (o := 259) (n := 140) (by decide) rfl (by decide) c138.1 c138.2) ?_
              obtain ⟨R139, e140, e⟩ := xbnd e
              refine xok_eqb (h.is (o := 0) (c := 15) (by decide) rfl) ?_
              refine xok_call (hq350 h ta1 (h.ain (o := 259) (n := 140) (by decide) rfl (by decide) c138.1 c138.2) e140) ?_
              rintro ⟨v_, M143⟩ ⟨hv_, h141, hi142⟩
              cases hv_
              refine xok_eqb (h141.gi (o := 0) (c := 15) (k := 91) (n := 107) (by decide) rfl (by decide) (by decide)) ?_
              refine xok_ite (fun c144 => ?_) (fun c144 => ?_)
              · rw [if_pos c144] at e
                exact s350_163 hI hq350  h141 ta2 hi142 (show xiN (0) by decide) e
              · rw [if_neg c144] at e
                refine xok_eqb (h141.pt (o := 0) (c := 15) (k := 86) (t := 260) (n := 107) (by decide) rfl (by decide) (by decide +kernel)) ?_
                by_cases c145 : 0 ≤ (a2) ∧ (a2) < 140
                · skip
                  rw [if_pos c145] at e
                  refine xok_eqb (h141.ai (o := 260) (n := 140) (by decide) rfl (by decide) c145.1 c145.2) ?_
                  obtain ⟨R146, e147, e⟩ := xbnd e
                  refine xok_eqb (h141.is (o := 0) (c := 15) (by decide) rfl) ?_
                  refine xok_call (hq350 h141 ta1 (h141.ain (o := 260) (n := 140) (by decide) rfl (by decide) c145.1 c145.2) e147) ?_
                  rintro ⟨v_, M150⟩ ⟨hv_, h148, hi149⟩
                  cases hv_
                  exact s350_163 hI hq350  h148 ta2 hi142 hi149 e
                · rw [if_neg c145] at e; cases e
            · rw [if_neg c138] at e; cases e
          · rw [if_neg c137] at e
            refine xok_ite (fun c151 => ?_) (fun c151 => ?_)
            · rw [if_pos c151] at e
              obtain ⟨R152, e153, e⟩ := xbnd e
              refine xok_eqb (h.is (o := 0) (c := 15) (by decide) rfl) ?_
              refine xok_call (sg352 hI  h ta1 ta2 e153) ?_
              rintro ⟨v_, M156⟩ ⟨hv_, h154, hi155⟩
              cases hv_
              cases e
              exact ⟨_, rfl, rfl, h154, hi155⟩
            · rw [if_neg c151] at e
              refine xok_ite (fun c157 => ?_) (fun c157 => ?_)
              · rw [if_pos c157] at e
                obtain ⟨R158, e159, e⟩ := xbnd e
                refine xok_eqb (h.is (o := 0) (c := 15) (by decide) rfl) ?_
                refine xok_call (sg352 hI  h ta1 ta2 e159) ?_
                rintro ⟨v_, M162⟩ ⟨hv_, h160, hi161⟩
                cases hv_
                cases e
                exact ⟨_, rfl, rfl, h160, hi161⟩
              · rw [if_neg c157] at e
                refine xok_ite (fun c163 => ?_) (fun c163 => ?_)
                · rw [if_pos c163] at e
                  obtain ⟨R164, e165, e⟩ := xbnd e
                  refine xok_eqb (h.is (o := 0) (c := 15) (by decide) rfl) ?_
                  refine xok_call (sg353 hI  h ta2 e165) ?_
                  rintro ⟨v_, M168⟩ ⟨hv_, h166, hi167⟩
                  cases hv_
                  cases e
                  exact ⟨_, rfl, rfl, h166, hi167⟩
                · rw [if_neg c163] at e
                  refine xok_ite (fun c169 => ?_) (fun c169 => ?_)
                  · rw [if_pos c169] at e
                    obtain ⟨R170, e171, e⟩ := xbnd e
                    refine xok_eqb (h.is (o := 0) (c := 15) (by decide) rfl) ?_
                    refine xok_call (sg353 hI  h ta2 e171) ?_
                    rintro ⟨v_, M174⟩ ⟨hv_, h172, hi173⟩
                    cases hv_
                    cases e
                    exact ⟨_, rfl, rfl, h172, hi173⟩
                  · rw [if_neg c169] at e
                    refine xok_ite (fun c175 => ?_) (fun c175 => ?_)
                    · rw [if_pos c175] at e
                      obtain ⟨R176, e177, e⟩ := xbnd e
                      refine xok_eqb (h.is (o := 0) (c := 15) (by decide) rfl) ?_
                      refine xok_call (sg353 hI  h ta2 e177) ?_
                      rintro ⟨v_, M180⟩ ⟨hv_, h178, hi179⟩
                      cases hv_
                      cases e
                      exact ⟨_, rfl, rfl, h178, hi179⟩
                    · rw [if_neg c175] at e
                      refine xok_ite (fun c181 => ?_) (fun c181 => ?_)
                      · rw [if_pos c181] at e
                        obtain ⟨R182, e183, e⟩ := xbnd e
                        refine xok_eqb (h.is (o := 0) (c := 15) (by decide) rfl) ?_
                        refine xok_call (sg353 hI  h ta2 e183) ?_
                        rintro ⟨v_, M186⟩ ⟨hv_, h184, hi185⟩
                        cases hv_
                        cases e
                        exact ⟨_, rfl, rfl, h184, hi185⟩
                      · rw [if_neg c181] at e
                        refine xok_eqb (h.pt (o := 0) (c := 15) (k := 85) (t := 259) (n := 107) (by decide) rfl (by decide) (by decide +kernel)) ?_
                        by_cases c187 : 0 ≤ (a2) ∧ (a2) < 140
                        · skip
                          rw [if_pos c187] at e
                          refine xok_eqb (h.ai (o := 259) (n := 140) (by decide) rfl (by decide) c187.1 c187.2) ?_
                          obtain ⟨R188, e189, e⟩ := xbnd e
                          refine xok_eqb (h.is (o := 0) (c := 15) (by decide) rfl) ?_
                          refine xok_call (hq350 h ta1 (h.ain (o := 259) (n := 140) (by decide) rfl (by decide) c187.1 c187.2) e189) ?_
                          rintro ⟨v_, M192⟩ ⟨hv_, h190, hi191⟩
                          cases hv_
                          refine xok_eqb (h190.gi (o := 0) (c := 15) (k := 91) (n := 107) (by decide) rfl (by decide) (by decide)) ?_
                          refine xok_ite (fun c193 => ?_) (fun c193 => ?_)
                          · rw [if_pos c193] at e
                            refine xok_ite (fun c194 => ?_) (fun c194 => ?_)
                            · rw [if_pos c194] at e
                              refine xok_eqb (h190.pt (o := 0) (c := 15) (k := 87) (t := 261) (n := 107) (by decide) rfl (by decide) (by decide +kernel)) ?_
                              by_cases c195 : 0 ≤ (a2) ∧ (a2) < 140
                              · skip
                                rw [if_pos c195] at e
                                refine xok_eqb (h190.ai (o := 261) (n := 140) (by decide) rfl (by decide) c195.1 c195.2) ?_
                                exact s350_243 hI hq350  h190 (h190.ain (o := 261) (n := 140) (by decide) rfl (by decide) c195.1 c195.2) ta1 e
                              · rw [if_neg c195] at e; cases e
                            · rw [if_neg c194] at e
                              refine xok_eqb (h190.pt (o := 0) (c := 15) (k := 86) (t := 260) (n := 107) (by decide) rfl (by decide) (by decide +kernel)) ?_
                              by_cases c196 : 0 ≤ (a2) ∧ (a2) < 140
                              · skip
                                rw [if_pos c196] at e
                                refine xok_eqb (h190.ai (o := 260) (n := 140) (by decide) rfl (by decide) c196.1 c196.2) ?_
                                exact s350_243 hI hq350  h190 (h190.ain (o := 260) (n := 140) (by decide) rfl (by decide) c196.1 c196.2) ta1 e
                              · rw [if_neg c196] at e; cases e
                          · rw [if_neg c193] at e
                            exact s350_246 hI hq350  h190 (show xiN (0) by decide) e
                        · rw [if_neg c187] at e; cases e
  · rw [if_neg c118] at e; cases e
theorem s350r {m f : Nat} {M0 : xj_M} (hI : xHI f) : ∀ {n : Nat} {M : xj_M} {G : xG_} {a1 : Nat} {a2 : Int} {R : Int × xG_}, xRX m M0 M G → xoL a1 → xin a2 → g350r f n a1 a2 G = some R → xok (f350r f n m (m + a1) a2 M) (fun r => r.1 = R.1 ∧ xRX m M0 r.2 R.2 ∧ xiN R.1) := by
  intro n
  induction n with
  | zero => intros; rename_i e; cases e
  | succ n ih =>
    intros
    rename_i h i0 i1 e
    exact s350b hI ih h i0 i1 e
theorem sg350 {m f : Nat} {M0 M : xj_M} {G : xG_} (hI : xHI f) (h : xRX m M0 M G) {a1 : Nat} {a2 : Int} {R : Int × xG_} (ta1 : xoL a1) (ta2 : xin a2) (e : g350 f a1 a2 G = some R) : xok (f350 f m (m + a1) a2 M) (fun r => r.1 = R.1 ∧ xRX m M0 r.2 R.2 ∧ xiN R.1) := s350r hI h ta1 ta2 e
-- ChangeHouseModel.readChange
theorem s366_94 {m f : Nat} {M0 M : xj_M} {G : xG_} (hI : xHI f)  {r40 : Int → Int → Int → xG_ → Option (xG_)} {o40 : Nat → Int → Int → Int → xj_M → Option (xj_M)}  (hr40 : ∀ {M : xj_M} {G : xG_} {x1 : Int} {x2 : Int} {x3 : Int} {R : xG_}, xRX m M0 M G → xin x1 → xin x2 → xin x3 → r40 x1 x2 x3 G = some R → xok (o40 m x1 x2 x3 M) (fun r => xRX m M0 r R)) (h : xRX m M0 M G) {x1 : Int} {x2 : Int} {y0 : Int} {R : xG_} (tx1 : xin x1) (tx2 : xin x2) (ty0 : xin y0) (e : g366_94  r40 f x1 x2 y0 G = some R) : xok (f366_94  o40 f m x1 x2 y0 M) (fun r => xRX m M0 r R) := by
  unfold g366_94 at e
  unfold f366_94
  refine xok_ite (fun c101 => ?_) (fun c101 => ?_)
  · rw [if_pos c101] at e
    exact hr40 h tx1 tx2 ty0 e
  · rw [if_neg c101] at e
    obtain ⟨R102, e103, e⟩ := xbnd e
    refine xok_eqb (h.is (o := 0) (c := 15) (by decide) rfl) ?_
    refine xok_call (sg213 hI  h  e103) ?_
    intro M106 h104
    exact hr40 h104 tx1 tx2 ty0 e
theorem s366_93 {m f : Nat} {M0 M : xj_M} {G : xG_} (hI : xHI f)  {r40 : Int → Int → Int → xG_ → Option (xG_)} {o40 : Nat → Int → Int → Int → xj_M → Option (xj_M)}  (hr40 : ∀ {M : xj_M} {G : xG_} {x1 : Int} {x2 : Int} {x3 : Int} {R : xG_}, xRX m M0 M G → xin x1 → xin x2 → xin x3 → r40 x1 x2 x3 G = some R → xok (o40 m x1 x2 x3 M) (fun r => xRX m M0 r R)) (h : xRX m M0 M G) {x1 : Int} {x2 : Int} {R : xG_} (tx1 : xin x1) (tx2 : xin x2) (e : g366_93  r40 f x1 x2 G = some R) : xok (f366_93  o40 f m x1 x2 M) (fun r => xRX m M0 r R) := by
  unfold g366_93 at e
  unfold f366_93
  exact s366_94 hI  hr40 h tx1 tx2 (show xin (0) by decide) e
theorem s366_106 {m f : Nat} {M0 M : xj_M} {G : xG_} (hI : xHI f)     (h : xRX m M0 M G) {x1 : Int} {x2 : Int} {R : xG_} (tx1 : xin x1) (tx2 : xin x2) (e : g366_106   f x1 x2 G = some R) : xok (f366_106   f m x1 x2 M) (fun r => xRX m M0 r R) := by
  unfold g366_106 at e
  unfold f366_106
  refine xok_eqb (h.pt (o := 0) (c := 15) (k := 101) (t := 272) (n := 107) (by decide) rfl (by decide) (by decide +kernel)) ?_
  by_cases c107 : 0 ≤ (x1) ∧ (x1) < 600
  · skip
    rw [if_pos c107] at e
    obtain ⟨M108, q109, h110⟩ := h.si (o := 272) (n := 600) (v := x2) (by decide) rfl c107.1 c107.2 tx2
    refine xok_eqb q109 ?_
    obtain ⟨G111, g1, e⟩ := xbnd e
    cases g1
    have h110_ : xRX m M0 M108 (xup2 G (272) (x1).toNat (x2)) := h110
    generalize hGG111 : (xup2 G (272) (x1).toNat (x2)) = G111 at e h110
    clear h110_ hGG111
    obtain ⟨R112, e113, e⟩ := xbnd e
    refine xok_eqb (h110.is (o := 0) (c := 15) (by decide) rfl) ?_
    refine xok_call (sg222 hI  h110 (show xin (41) by decide) e113) ?_
    intro M116 h114
    obtain ⟨R117, e118, e⟩ := xbnd e
    refine xok_eqb (h114.is (o := 0) (c := 15) (by decide) rfl) ?_
    refine xok_call (sg222 hI  h114 (show xin (46) by decide) e118) ?_
    intro M121 h119
    cases e
    exact ⟨_, rfl, h119⟩
  · rw [if_neg c107] at e; cases e
theorem s366_40b {m f : Nat} {M0 M : xj_M} {G : xG_} (hI : xHI f)  {r40 : Int → Int → Int → xG_ → Option (xG_)} {o40 : Nat → Int → Int → Int → xj_M → Option (xj_M)}  (hr40 : ∀ {M : xj_M} {G : xG_} {x1 : Int} {x2 : Int} {x3 : Int} {R : xG_}, xRX m M0 M G → xin x1 → xin x2 → xin x3 → r40 x1 x2 x3 G = some R → xok (o40 m x1 x2 x3 M) (fun r => xRX m M0 r R)) (h : xRX m M0 M G) {x1 : Int} {x2 : Int} {x3 : Int} {R : xG_} (tx1 : xin x1) (tx2 : xin x2) (tx3 : xin x3) (e : g366_40b  r40 f x1 x2 x3 G = some R) : xok (f366_40b  o40 f m x1 x2 x3 M) (fun r => xRX m M0 r R) := by
  unfold g366_40b at e
  unfold f366_40b
  refine xok_ite (fun c122 => ?_) (fun c122 => ?_)
  · rw [if_pos c122] at e
    exact s366_106 hI   h tx1 tx2 e
  · rw [if_neg c122] at e
    obtain ⟨R123, e124, e⟩ := xbnd e
    refine xok_eqb (h.is (o := 0) (c := 15) (by decide) rfl) ?_
    refine xok_call (sg211 hI  h  e124) ?_
    rintro ⟨v_, M127⟩ ⟨hv_, h125, hi126⟩
    cases hv_
    refine xok_ite (fun c128 => ?_) (fun c128 => ?_)
    · rw [if_pos c128] at e
      exact s366_106 hI   h125 tx1 tx2 e
    · rw [if_neg c128] at e
      obtain ⟨R129, e130, e⟩ := xbnd e
      refine xok_eqb (h125.is (o := 0) (c := 15) (by decide) rfl) ?_
      refine xok_call (sg227 hI  h125  e130) ?_
      rintro ⟨v_, M133⟩ ⟨hv_, h131, hi132⟩
      cases hv_
      refine xok_ite (fun c134 => ?_) (fun c134 => ?_)
      · rw [if_pos c134] at e
        exact s366_106 hI   h131 tx1 tx2 e
      · rw [if_neg c134] at e
        refine xok_eqb (h131.pt (o := 0) (c := 15) (k := 103) (t := 274) (n := 107) (by decide) rfl (by decide) (by decide +kernel)) ?_
        refine xok_eqb (h131.gl (o := 0) (c := 15) (k := 21) (n := 107) (by decide) rfl (by decide) (by decide)) ?_
        by_cases c135 : 0 ≤ (xwr ((xwr ((4) * (x1))) + (x2))) ∧ (xwr ((xwr ((4) * (x1))) + (x2))) < 2400
        · skip
          rw [if_pos c135] at e
          obtain ⟨M136, q137, h138⟩ := h131.sl (o := 274) (n := 2400) (v := R129.2 (0) 21) (by decide) rfl c135.1 c135.2 (h131.gln (o := 0) (c := 15) (k := 21) (n := 107) (by decide) rfl (by decide) (by decide))
          refine xok_eqb q137 ?_
          obtain ⟨G139, g1, e⟩ := xbnd e
          cases g1
          have h138_ : xRX m M0 M136 (xup2 R129.2 (274) (xwr ((xwr ((4) * (x1))) + (x2))).toNat (R129.2 (0) 21)) := h138
          generalize hGG139 : (xup2 R129.2 (274) (xwr ((xwr ((4) * (x1))) + (x2))).toNat (R129.2 (0) 21)) = G139 at e h138
          clear h138_ hGG139
          obtain ⟨R140, e141, e⟩ := xbnd e
          refine xok_eqb (h138.is (o := 0) (c := 15) (by decide) rfl) ?_
          refine xok_call (sg220 hI  h138 (show xin (44) by decide) e141) ?_
          rintro ⟨v_, M144⟩ ⟨hv_, h142, hi143⟩
          cases hv_
          refine xok_ite (fun c145 => ?_) (fun c145 => ?_)
          · rw [if_pos c145] at e
            exact s366_93 hI  hr40 h142 tx1 (xin_wr _) e
          · rw [if_neg c145] at e
            refine xok_ite (fun c146 => ?_) (fun c146 => ?_)
            · rw [if_pos c146] at e
              exact s366_93 hI  hr40 h142 tx1 (xin_wr _) e
            · rw [if_neg c146] at e
              exact s366_94 hI  hr40 h142 tx1 (xin_wr _) (show xin (1) by decide) e
        · rw [if_neg c135] at e; cases e
theorem s366_40 {m f : Nat} {M0 : xj_M} (hI : xHI f)     : ∀ {n : Nat} {M : xj_M} {G : xG_} {x1 : Int} {x2 : Int} {x3 : Int} {R : xG_}, xRX m M0 M G → xin x1 → xin x2 → xin x3 → g366_40   f n x1 x2 x3 G = some R → xok (f366_40   f n m x1 x2 x3 M) (fun r => xRX m M0 r R) := by
  intro n
  induction n with
  | zero => intros; rename_i e; cases e
  | succ n ih =>
    intros
    rename_i h i0 i1 i2 e
    exact s366_40b hI   ih h i0 i1 i2 e
theorem sg366 {m f : Nat} {M0 M : xj_M} {G : xG_} (hI : xHI f)   (h : xRX m M0 M G) {a1 : Int} {R : xG_} (ta1 : xin a1) (e : g366  f a1 G = some R) : xok (f366  f m a1 M) (fun r => xRX m M0 r R) := by
  unfold g366 at e
  unfold f366
  obtain ⟨R147, e148, e⟩ := xbnd e
  refine xok_eqb (h.is (o := 0) (c := 15) (by decide) rfl) ?_
  refine xok_call (sg226 hI  h  e148) ?_
  rintro ⟨v_, M151⟩ ⟨hv_, h149, hi150⟩
  cases hv_
  refine xok_ite (fun c152 => ?_) (fun c152 => ?_)
  · rw [if_pos c152] at e
    refine xok_eqb (h149.pt (o := 0) (c := 15) (k := 102) (t := 273) (n := 107) (by decide) rfl (by decide) (by decide +kernel)) ?_
    refine xok_eqb (h149.gl (o := 0) (c := 15) (k := 9) (n := 107) (by decide) rfl (by decide) (by decide)) ?_
    by_cases c153 : 0 ≤ (a1) ∧ (a1) < 600
    · skip
      rw [if_pos c153] at e
      obtain ⟨M154, q155, h156⟩ := h149.sl (o := 273) (n := 600) (v := R147.2 (0) 9) (by decide) rfl c153.1 c153.2 (h149.gln (o := 0) (c := 15) (k := 9) (n := 107) (by decide) rfl (by decide) (by decide))
      refine xok_eqb q155 ?_
      obtain ⟨G157, g1, e⟩ := xbnd e
      cases g1
      have h156_ : xRX m M0 M154 (xup2 R147.2 (273) (a1).toNat (R147.2 (0) 9)) := h156
      generalize hGG157 : (xup2 R147.2 (273) (a1).toNat (R147.2 (0) 9)) = G157 at e h156
      clear h156_ hGG157
      obtain ⟨R158, e159, e⟩ := xbnd e
      refine xok_eqb (h156.is (o := 0) (c := 15) (by decide) rfl) ?_
      refine xok_call (sg213 hI  h156  e159) ?_
      intro M162 h160
      obtain ⟨R163, e164, e⟩ := xbnd e
      refine xok_eqb (h160.is (o := 0) (c := 15) (by decide) rfl) ?_
      refine xok_call (sg222 hI  h160 (show xin (40) by decide) e164) ?_
      intro M167 h165
      exact s366_40 hI   h165 ta1 (show xin (0) by decide) (show xin (1) by decide) e
    · rw [if_neg c153] at e; cases e
  · rw [if_neg c152] at e
    refine xok_eqb (h149.gi (o := 0) (c := 15) (k := 4) (n := 107) (by decide) rfl (by decide) (by decide)) ?_
    obtain ⟨R168, e169, e⟩ := xbnd e
    refine xok_eqb (h149.is (o := 0) (c := 15) (by decide) rfl) ?_
    refine xok_call (sg210 hI  h149 (h149.gin (o := 0) (c := 15) (k := 4) (n := 107) (by decide) rfl (by decide) (by decide)) e169) ?_
    intro M172 h170
    cases e
    exact ⟨_, rfl, h170⟩
-- ChangeHouseModel.moreOf
theorem s244_4b {m f : Nat} {M0 M : xj_M} {G : xG_} (hI : xHI f) {q243 : xG_ → Option (xG_)} {p243 : Nat → xj_M → Option (xj_M)} {r4 : xG_ → Option (xG_)} {o4 : Nat → xj_M → Option (xj_M)} (hq243 : ∀ {M : xj_M} {G : xG_}  {R : xG_}, xRX m M0 M G → q243  G = some R → xok (p243 m M) (fun r => xRX m M0 r R)) (hr4 : ∀ {M : xj_M} {G : xG_}  {R : xG_}, xRX m M0 M G → r4  G = some R → xok (o4 m M) (fun r => xRX m M0 r R)) (h : xRX m M0 M G)  {R : xG_}  (e : g244_4b q243 r4 f  G = some R) : xok (f244_4b p243 o4 f m M) (fun r => xRX m M0 r R) := by
  unfold g244_4b at e
  unfold f244_4b
  obtain ⟨R101, e102, e⟩ := xbnd e
  refine xok_eqb (h.is (o := 0) (c := 15) (by decide) rfl) ?_
  refine xok_call (sg242 hI  h (show xin (0) by decide) e102) ?_
  rintro ⟨v_, M105⟩ ⟨hv_, h103, hi104⟩
  cases hv_
  refine xok_ite (fun c106 => ?_) (fun c106 => ?_)
  · rw [if_pos c106] at e
    cases e
    exact ⟨_, rfl, h103⟩
  · rw [if_neg c106] at e
    refine xok_eqb (h103.gi (o := 0) (c := 15) (k := 3) (n := 107) (by decide) rfl (by decide) (by decide)) ?_
    obtain ⟨R107, e108, e⟩ := xbnd e
    refine xok_eqb (h103.is (o := 0) (c := 15) (by decide) rfl) ?_
    refine xok_call (sg213 hI  h103  e108) ?_
    intro M111 h109
    obtain ⟨R112, e113, e⟩ := xbnd e
    refine xok_eqb (h109.is (o := 0) (c := 15) (by decide) rfl) ?_
    refine xok_call (sg241 hI hq243 h109  e113) ?_
    intro M116 h114
    obtain ⟨R117, e118, e⟩ := xbnd e
    refine xok_eqb (h114.is (o := 0) (c := 15) (by decide) rfl) ?_
    refine xok_call (sg245 hI hq243 h114  e118) ?_
    intro M121 h119
    obtain ⟨R122, e123, e⟩ := xbnd e
    refine xok_eqb (h119.is (o := 0) (c := 15) (by decide) rfl) ?_
    refine xok_call (sg240 hI  h119 (show xin (3) by decide) (xin_N (h103.gin (o := 0) (c := 15) (k := 3) (n := 107) (by decide) rfl (by decide) (by decide))) e123) ?_
    intro M126 h124
    exact hr4 h124  e
theorem s244_4 {m f : Nat} {M0 : xj_M} (hI : xHI f) {q243 : xG_ → Option (xG_)} {p243 : Nat → xj_M → Option (xj_M)}  (hq243 : ∀ {M : xj_M} {G : xG_}  {R : xG_}, xRX m M0 M G → q243  G = some R → xok (p243 m M) (fun r => xRX m M0 r R))  : ∀ {n : Nat} {M : xj_M} {G : xG_}  {R : xG_}, xRX m M0 M G → g244_4 q243  f n  G = some R → xok (f244_4 p243  f n m M) (fun r => xRX m M0 r R) := by
  intro n
  induction n with
  | zero => intros; rename_i e; cases e
  | succ n ih =>
    intros
    rename_i h  e
    exact s244_4b hI hq243  ih h  e
theorem sg244 {m f : Nat} {M0 M : xj_M} {G : xG_} (hI : xHI f) {q243 : xG_ → Option (xG_)} {p243 : Nat → xj_M → Option (xj_M)} (hq243 : ∀ {M : xj_M} {G : xG_}  {R : xG_}, xRX m M0 M G → q243  G = some R → xok (p243 m M) (fun r => xRX m M0 r R)) (h : xRX m M0 M G)  {R : xG_}  (e : g244 q243 f  G = some R) : xok (f244 p243 f m M) (fun r => xRX m M0 r R) := by
  unfold g244 at e
  unfold f244
  obtain ⟨R127, e128, e⟩ := xbnd e
  refine xok_eqb (h.is (o := 0) (c := 15) (by decide) rfl) ?_
  refine xok_call (sg245 hI hq243 h  e128) ?_
  intro M131 h129
  exact s244_4 hI hq243  h129  e
-- ChangeHouseModel.readAtom
theorem s249_146 {m f : Nat} {M0 M : xj_M} {G : xG_} (hI : xHI f)     (h : xRX m M0 M G)  {R : xG_}  (e : g249_146   f  G = some R) : xok (f249_146   f  M) (fun r => xRX m M0 r R) := by
  unfold g249_146 at e
  unfold f249_146
  cases e
  exact ⟨_, rfl, h⟩
theorem s249_111 {m f : Nat} {M0 M : xj_M} {G : xG_} (hI : xHI f)     (h : xRX m M0 M G) {x1 : Int} {x5 : Int} {x6 : Int} {x7 : Int} {R : xG_} (tx1 : xin x1) (tx5 : xin x5) (tx6 : xin x6) (tx7 : xin x7) (e : g249_111   f x1 x5 x6 x7 G = some R) : xok (f249_111   f m x1 x5 x6 x7 M) (fun r => xRX m M0 r R) := by
  unfold g249_111 at e
  unfold f249_111
  obtain ⟨R101, e102, e⟩ := xbnd e
  refine xok_eqb (h.is (o := 0) (c := 15) (by decide) rfl) ?_
  refine xok_call (sg222 hI  h (show xin (41) by decide) e102) ?_
  intro M105 h103
  by_cases c106 : R101 0 22 < 0
  · rw [if_pos c106] at e; cases e
  rw [if_neg c106] at e
  refine xok_eqb (h103.itp c106) ?_
  refine xok_eqb (h103.pt (o := (R101 0 22).toNat) (c := 14) (k := 29) (t := (R101 0 22).toNat + 27) (n := 38) (xoP_o (h103.itt c106)).1 (xoP_o (h103.itt c106)).2 (by decide) (xoP_all (h103.itt c106) (Q := fun p => (p, 29, p + 27) ∈ xl_P) (by decide +kernel) (by decide +kernel) (by decide +kernel))) ?_
  by_cases c107 : 0 ≤ (x1) ∧ (x1) < 200
  · skip
    rw [if_pos c107] at e
    obtain ⟨M108, q109, h110⟩ := h103.si (o := (R101 0 22).toNat + 27) (n := 200) (v := x7) (xoP_all (h103.itt c106) (Q := fun p => p + 27 < 276) (by decide) (by decide) (by decide)) (xoP_all (h103.itt c106) (Q := fun p => xl_t (p + 27) = (2, 3, 200)) rfl rfl rfl) c107.1 c107.2 tx7
    refine xok_eqb q109 ?_
    obtain ⟨G111, g1, e⟩ := xbnd e
    cases g1
    have h110_ : xRX m M0 M108 (xup2 R101 ((R101 0 22).toNat + 27) (x1).toNat (x7)) := h110
    generalize hGG111 : (xup2 R101 ((R101 0 22).toNat + 27) (x1).toNat (x7)) = G111 at e h110
    clear h110_ hGG111
    obtain ⟨R112, e113, e⟩ := xbnd e
    refine xok_eqb (h110.is (o := 0) (c := 15) (by decide) rfl) ?_
    refine xok_call (sg211 hI  h110  e113) ?_
    rintro ⟨v_, M116⟩ ⟨hv_, h114, hi115⟩
    cases hv_
    refine xok_ite (fun c117 => ?_) (fun c117 => ?_)
    · rw [if_pos c117] at e
      exact s249_146 hI   h114  e
    · rw [if_neg c117] at e
      obtain ⟨R118, e119, e⟩ := xbnd e
      refine xok_eqb (h114.is (o := 0) (c := 15) (by decide) rfl) ?_
      refine xok_call (sg229 hI  h114 tx6 tx5 tx7 (show xin (4) by decide) e119) ?_
      intro M122 h120
      exact s249_146 hI   h120  e
  · rw [if_neg c107] at e; cases e
theorem s249_79b {m f : Nat} {M0 M : xj_M} {G : xG_} (hI : xHI f)  {r79 : Int → Int → Int → Int → xG_ → Option (xG_)} {o79 : Nat → Int → Int → Int → Int → xj_M → Option (xj_M)}  (hr79 : ∀ {M : xj_M} {G : xG_} {x1 : Int} {x5 : Int} {x6 : Int} {x7 : Int} {R : xG_}, xRX m M0 M G → xin x1 → xin x5 → xin x6 → xin x7 → r79 x1 x5 x6 x7 G = some R → xok (o79 m x1 x5 x6 x7 M) (fun r => xRX m M0 r R)) (h : xRX m M0 M G) {x1 : Int} {x5 : Int} {x6 : Int} {x7 : Int} {R : xG_} (tx1 : xin x1) (tx5 : xin x5) (tx6 : xin x6) (tx7 : xin x7) (e : g249_79b  r79 f x1 x5 x6 x7 G = some R) : xok (f249_79b  o79 f m x1 x5 x6 x7 M) (fun r => xRX m M0 r R) := by
  unfold g249_79b at e
  unfold f249_79b
  obtain ⟨R123, e124, e⟩ := xbnd e
  refine xok_eqb (h.is (o := 0) (c := 15) (by decide) rfl) ?_
  refine xok_call (sg220 hI  h (show xin (44) by decide) e124) ?_
  rintro ⟨v_, M127⟩ ⟨hv_, h125, hi126⟩
  cases hv_
  refine xok_ite (fun c128 => ?_) (fun c128 => ?_)
  · rw [if_pos c128] at e
    exact s249_111 hI   h125 tx1 tx5 tx6 tx7 e
  · rw [if_neg c128] at e
    refine xok_ite (fun c129 => ?_) (fun c129 => ?_)
    · rw [if_pos c129] at e
      exact s249_111 hI   h125 tx1 tx5 tx6 tx7 e
    · rw [if_neg c129] at e
      obtain ⟨R130, e131, e⟩ := xbnd e
      refine xok_eqb (h125.is (o := 0) (c := 15) (by decide) rfl) ?_
      refine xok_call (sg213 hI  h125  e131) ?_
      intro M134 h132
      obtain ⟨R135, e136, e⟩ := xbnd e
      refine xok_eqb (h132.is (o := 0) (c := 15) (by decide) rfl) ?_
      refine xok_call (sg250 hI  h132 tx1 tx7 e136) ?_
      intro M139 h137
      exact hr79 h137 tx1 tx5 tx6 (xin_wr _) e
theorem s249_79 {m f : Nat} {M0 : xj_M} (hI : xHI f)     : ∀ {n : Nat} {M : xj_M} {G : xG_} {x1 : Int} {x5 : Int} {x6 : Int} {x7 : Int} {R : xG_}, xRX m M0 M G → xin x1 → xin x5 → xin x6 → xin x7 → g249_79   f n x1 x5 x6 x7 G = some R → xok (f249_79   f n m x1 x5 x6 x7 M) (fun r => xRX m M0 r R) := by
  intro n
  induction n with
  | zero => intros; rename_i e; cases e
  | succ n ih =>
    intros
    rename_i h i0 i1 i2 i3 e
    exact s249_79b hI   ih h i0 i1 i2 i3 e
theorem s249_48 {m f : Nat} {M0 M : xj_M} {G : xG_} (hI : xHI f)     (h : xRX m M0 M G) {x1 : Int} {x5 : Int} {y0 : Int} {R : xG_} (tx1 : xin x1) (tx5 : xin x5) (ty0 : xin y0) (e : g249_48   f x1 x5 y0 G = some R) : xok (f249_48   f m x1 x5 y0 M) (fun r => xRX m M0 r R) := by
  unfold g249_48 at e
  unfold f249_48
  by_cases c140 : G 0 22 < 0
  · rw [if_pos c140] at e; cases e
  rw [if_neg c140] at e
  refine xok_eqb (h.itp c140) ?_
  refine xok_eqb (h.pt (o := (G 0 22).toNat) (c := 14) (k := 28) (t := (G 0 22).toNat + 26) (n := 38) (xoP_o (h.itt c140)).1 (xoP_o (h.itt c140)).2 (by decide) (xoP_all (h.itt c140) (Q := fun p => (p, 28, p + 26) ∈ xl_P) (by decide +kernel) (by decide +kernel) (by decide +kernel))) ?_
  by_cases c141 : 0 ≤ (x1) ∧ (x1) < 200
  · skip
    rw [if_pos c141] at e
    obtain ⟨M142, q143, h144⟩ := h.si (o := (G 0 22).toNat + 26) (n := 200) (v := y0) (xoP_all (h.itt c140) (Q := fun p => p + 26 < 276) (by decide) (by decide) (by decide)) (xoP_all (h.itt c140) (Q := fun p => xl_t (p + 26) = (2, 3, 200)) rfl rfl rfl) c141.1 c141.2 ty0
    refine xok_eqb q143 ?_
    obtain ⟨G145, g1, e⟩ := xbnd e
    cases g1
    have h144_ : xRX m M0 M142 (xup2 G ((G 0 22).toNat + 26) (x1).toNat (y0)) := h144
    generalize hGG145 : (xup2 G ((G 0 22).toNat + 26) (x1).toNat (y0)) = G145 at e h144
    clear h144_ hGG145
    obtain ⟨R146, e147, e⟩ := xbnd e
    refine xok_eqb (h144.is (o := 0) (c := 15) (by decide) rfl) ?_
    refine xok_call (sg222 hI  h144 (show xin (40) by decide) e147) ?_
    intro M150 h148
    obtain ⟨R151, e152, e⟩ := xbnd e
    refine xok_eqb (h148.is (o := 0) (c := 15) (by decide) rfl) ?_
    refine xok_call (sg250 hI  h148 tx1 (show xin (0) by decide) e152) ?_
    intro M155 h153
    exact s249_79 hI   h153 tx1 tx5 ty0 (xin_wr _) e
  · rw [if_neg c141] at e; cases e
theorem sg249 {m f : Nat} {M0 M : xj_M} {G : xG_} (hI : xHI f)   (h : xRX m M0 M G) {a1 : Int} {a2 : Int} {a3 : Int} {a4 : Int} {R : xG_} (ta1 : xin a1) (ta2 : xin a2) (ta3 : xiN a3) (ta4 : xin a4) (e : g249  f a1 a2 a3 a4 G = some R) : xok (f249  f m a1 a2 a3 a4 M) (fun r => xRX m M0 r R) := by
  unfold g249 at e
  unfold f249
  by_cases c156 : G 0 22 < 0
  · rw [if_pos c156] at e; cases e
  rw [if_neg c156] at e
  refine xok_eqb (h.itp c156) ?_
  refine xok_eqb (h.pt (o := (G 0 22).toNat) (c := 14) (k := 27) (t := (G 0 22).toNat + 25) (n := 38) (xoP_o (h.itt c156)).1 (xoP_o (h.itt c156)).2 (by decide) (xoP_all (h.itt c156) (Q := fun p => (p, 27, p + 25) ∈ xl_P) (by decide +kernel) (by decide +kernel) (by decide +kernel))) ?_
  by_cases c157 : 0 ≤ (a1) ∧ (a1) < 200
  · skip
    rw [if_pos c157] at e
    obtain ⟨M158, q159, h160⟩ := h.si (o := (G 0 22).toNat + 25) (n := 200) (v := a2) (xoP_all (h.itt c156) (Q := fun p => p + 25 < 276) (by decide) (by decide) (by decide)) (xoP_all (h.itt c156) (Q := fun p => xl_t (p + 25) = (2, 3, 200)) rfl rfl rfl) c157.1 c157.2 ta2
    refine xok_eqb q159 ?_
    obtain ⟨G161, g1, e⟩ := xbnd e
    cases g1
    have h160_ : xRX m M0 M158 (xup2 G ((G 0 22).toNat + 25) (a1).toNat (a2)) := h160
    generalize hGG161 : (xup2 G ((G 0 22).toNat + 25) (a1).toNat (a2)) = G161 at e h160
    clear h160_ hGG161
    refine xok_eqb (h160.gi (o := 0) (c := 15) (k := 23) (n := 107) (by decide) rfl (by decide) (by decide)) ?_
    refine xok_ite (fun c162 => ?_) (fun c162 => ?_)
    · rw [if_pos c162] at e
      obtain ⟨R163, e164, e⟩ := xbnd e
      refine xok_eqb (h160.is (o := 0) (c := 15) (by decide) rfl) ?_
      refine xok_call (sg211 hI  h160  e164) ?_
      rintro ⟨v_, M167⟩ ⟨hv_, h165, hi166⟩
      cases hv_
      refine xok_ite (fun c168 => ?_) (fun c168 => ?_)
      · rw [if_pos c168] at e
        obtain ⟨R169, e170, e⟩ := xbnd e
        refine xok_eqb (h165.is (o := 0) (c := 15) (by decide) rfl) ?_
        refine xok_call (sg230 hI  h165 ta3 ta4 e170) ?_
        rintro ⟨v_, M173⟩ ⟨hv_, h171, hi172⟩
        cases hv_
        exact s249_48 hI   h171 ta1 ta4 hi172 e
      · rw [if_neg c168] at e
        exact s249_48 hI   h165 ta1 ta4 (show xin (-1) by decide) e
    · rw [if_neg c162] at e
      by_cases c174 : G161 0 22 < 0
      · rw [if_pos c174] at e; cases e
      rw [if_neg c174] at e
      refine xok_eqb (h160.itp c174) ?_
      obtain ⟨R175, e176, e⟩ := xbnd e
      refine xok_eqb (h160.is (o := (G161 0 22).toNat) (c := 14) (xoP_o (h160.itt c174)).1 (xoP_o (h160.itt c174)).2) ?_
      refine xok_call (sg205 hI  h160 (h160.itt c174) ta3 e176) ?_
      rintro ⟨v_, M179⟩ ⟨hv_, h177, hi178⟩
      cases hv_
      exact s249_48 hI   h177 ta1 ta4 hi178 e
  · rw [if_neg c157] at e; cases e
-- ChangeHouseModel.bindsAll
theorem s277_161 {m f : Nat} {M0 M : xj_M} {G : xG_} (hI : xHI f)  {r2 : Int → xG_ → Option (Int × xG_)} {o2 : Nat → Int → xj_M → Option (Int × xj_M)} {r17 : Int → Int → xG_ → Option (Int × xG_)} {o17 : Nat → Int → Int → xj_M → Option (Int × xj_M)}  (hr2 : ∀ {M : xj_M} {G : xG_} {x1 : Int} {R : Int × xG_}, xRX m M0 M G → xin x1 → r2 x1 G = some R → xok (o2 m x1 M) (fun r => r.1 = R.1 ∧ xRX m M0 r.2 R.2 ∧ xin R.1)) (hr17 : ∀ {M : xj_M} {G : xG_} {x1 : Int} {x2 : Int} {R : Int × xG_}, xRX m M0 M G → xin x1 → xin x2 → r17 x1 x2 G = some R → xok (o17 m x1 x2 M) (fun r => r.1 = R.1 ∧ xRX m M0 r.2 R.2 ∧ xin R.1)) (h : xRX m M0 M G) {x1 : Int} {x2 : Int} {R : Int × xG_} (tx1 : xin x1) (tx2 : xin x2) (e : g277_161  r2 r17 f x1 x2 G = some R) : xok (f277_161  o2 o17 f m x1 x2 M) (fun r => r.1 = R.1 ∧ xRX m M0 r.2 R.2 ∧ xin R.1) := by
  unfold g277_161 at e
  unfold f277_161
  exact hr17 h tx1 (xin_wr _) e
theorem s277_159 {m f : Nat} {M0 M : xj_M} {G : xG_} (hI : xHI f)     (h : xRX m M0 M G)  {R : Int × xG_}  (e : g277_159   f  G = some R) : xok (f277_159   f  M) (fun r => r.1 = R.1 ∧ xRX m M0 r.2 R.2 ∧ xin R.1) := by
  unfold g277_159 at e
  unfold f277_159
  cases e
  exact ⟨_, rfl, rfl, h, (show xin (0) by decide)⟩
theorem s277_17b {m f : Nat} {M0 M : xj_M} {G : xG_} (hI : xHI f)  {r2 : Int → xG_ → Option (Int × xG_)} {o2 : Nat → Int → xj_M → Option (Int × xj_M)} {r17 : Int → Int → xG_ → Option (Int × xG_)} {o17 : Nat → Int → Int → xj_M → Option (Int × xj_M)}  (hr2 : ∀ {M : xj_M} {G : xG_} {x1 : Int} {R : Int × xG_}, xRX m M0 M G → xin x1 → r2 x1 G = some R → xok (o2 m x1 M) (fun r => r.1 = R.1 ∧ xRX m M0 r.2 R.2 ∧ xin R.1)) (hr17 : ∀ {M : xj_M} {G : xG_} {x1 : Int} {x2 : Int} {R : Int × xG_}, xRX m M0 M G → xin x1 → xin x2 → r17 x1 x2 G = some R → xok (o17 m x1 x2 M) (fun r => r.1 = R.1 ∧ xRX m M0 r.2 R.2 ∧ xin R.1)) (h : xRX m M0 M G) {x1 : Int} {x2 : Int} {R : Int × xG_} (tx1 : xin x1) (tx2 : xin x2) (e : g277_17b  r2 r17 f x1 x2 G = some R) : xok (f277_17b  o2 o17 f m x1 x2 M) (fun r => r.1 = R.1 ∧ xRX m M0 r.2 R.2 ∧ xin R.1) := by
  unfold g277_17b at e
  unfold f277_17b
  refine xok_eqb (h.pt (o := 0) (c := 15) (k := 29) (t := 2) (n := 107) (by decide) rfl (by decide) (by decide +kernel)) ?_
  refine xok_eqb (h.pt (o := 2) (c := 14) (k := 21) (t := 2 + 19) (n := 38) (xoP_o (show xoP 2 by unfold xoP; omega)).1 (xoP_o (show xoP 2 by unfold xoP; omega)).2 (by decide) (xoP_all (show xoP 2 by unfold xoP; omega) (Q := fun p => (p, 21, p + 19) ∈ xl_P) (by decide +kernel) (by decide +kernel) (by decide +kernel))) ?_
  refine xok_eqb (h.gi (o := 0) (c := 15) (k := 39) (n := 107) (by decide) rfl (by decide) (by decide)) ?_
  by_cases c101 : 0 ≤ (G (0) 39) ∧ (G (0) 39) < 25
  · skip
    rw [if_pos c101] at e
    refine xok_eqb (h.ai (o := 2 + 19) (n := 25) (xoP_all (show xoP 2 by unfold xoP; omega) (Q := fun p => p + 19 < 276) (by decide) (by decide) (by decide)) (xoP_all (show xoP 2 by unfold xoP; omega) (Q := fun p => xl_t (p + 19) = (2, 3, 25)) rfl rfl rfl) (by decide) c101.1 c101.2) ?_
    refine xok_ite (fun c102 => ?_) (fun c102 => ?_)
    · rw [if_pos c102] at e
      exact hr2 h tx1 e
    · rw [if_neg c102] at e
      refine xok_eqb (h.gi (o := 0) (c := 15) (k := 39) (n := 107) (by decide) rfl (by decide) (by decide)) ?_
      refine xok_eqb (h.pt (o := 0) (c := 15) (k := 29) (t := 2) (n := 107) (by decide) rfl (by decide) (by decide +kernel)) ?_
      refine xok_eqb (h.pt (o := 2) (c := 14) (k := 27) (t := 2 + 25) (n := 38) (xoP_o (show xoP 2 by unfold xoP; omega)).1 (xoP_o (show xoP 2 by unfold xoP; omega)).2 (by decide) (xoP_all (show xoP 2 by unfold xoP; omega) (Q := fun p => (p, 27, p + 25) ∈ xl_P) (by decide +kernel) (by decide +kernel) (by decide +kernel))) ?_
      by_cases c103 : 0 ≤ (xwr ((xwr ((G (0) 39) * (8))) + (x2))) ∧ (xwr ((xwr ((G (0) 39) * (8))) + (x2))) < 200
      · skip
        rw [if_pos c103] at e
        refine xok_eqb (h.ai (o := 2 + 25) (n := 200) (xoP_all (show xoP 2 by unfold xoP; omega) (Q := fun p => p + 25 < 276) (by decide) (by decide) (by decide)) (xoP_all (show xoP 2 by unfold xoP; omega) (Q := fun p => xl_t (p + 25) = (2, 3, 200)) rfl rfl rfl) (by decide) c103.1 c103.2) ?_
        refine xok_ite (fun c104 => ?_) (fun c104 => ?_)
        · rw [if_pos c104] at e
          exact s277_161 hI  hr2 hr17 h tx1 tx2 e
        · rw [if_neg c104] at e
          refine xok_eqb (h.pt (o := 0) (c := 15) (k := 29) (t := 2) (n := 107) (by decide) rfl (by decide) (by decide +kernel)) ?_
          refine xok_eqb (h.pt (o := 2) (c := 14) (k := 28) (t := 2 + 26) (n := 38) (xoP_o (show xoP 2 by unfold xoP; omega)).1 (xoP_o (show xoP 2 by unfold xoP; omega)).2 (by decide) (xoP_all (show xoP 2 by unfold xoP; omega) (Q := fun p => (p, 28, p + 26) ∈ xl_P) (by decide +kernel) (by decide +kernel) (by decide +kernel))) ?_
          by_cases c105 : 0 ≤ (xwr ((xwr ((G (0) 39) * (8))) + (x2))) ∧ (xwr ((xwr ((G (0) 39) * (8))) + (x2))) < 200
          · skip
            rw [if_pos c105] at e
            refine xok_eqb (h.ai (o := 2 + 26) (n := 200) (xoP_all (show xoP 2 by unfold xoP; omega) (Q := fun p => p + 26 < 276) (by decide) (by decide) (by decide)) (xoP_all (show xoP 2 by unfold xoP; omega) (Q := fun p => xl_t (p + 26) = (2, 3, 200)) rfl rfl rfl) (by decide) c105.1 c105.2) ?_
            refine xok_ite (fun c106 => ?_) (fun c106 => ?_)
            · rw [if_pos c106] at e
              refine xok_eqb (h.pt (o := 0) (c := 15) (k := 29) (t := 2) (n := 107) (by decide) rfl (by decide) (by decide +kernel)) ?_
              refine xok_eqb (h.pt (o := 2) (c := 14) (k := 30) (t := 2 + 28) (n := 38) (xoP_o (show xoP 2 by unfold xoP; omega)).1 (xoP_o (show xoP 2 by unfold xoP; omega)).2 (by decide) (xoP_all (show xoP 2 by unfold xoP; omega) (Q := fun p => (p, 30, p + 28) ∈ xl_P) (by decide +kernel) (by decide +kernel) (by decide +kernel))) ?_
              by_cases c107 : 0 ≤ (xwr ((xwr ((G (0) 39) * (8))) + (x2))) ∧ (xwr ((xwr ((G (0) 39) * (8))) + (x2))) < 200
              · skip
                rw [if_pos c107] at e
                refine xok_eqb (h.ai (o := 2 + 28) (n := 200) (xoP_all (show xoP 2 by unfold xoP; omega) (Q := fun p => p + 28 < 276) (by decide) (by decide) (by decide)) (xoP_all (show xoP 2 by unfold xoP; omega) (Q := fun p => xl_t (p + 28) = (2, 3, 200)) rfl rfl rfl) (by decide) c107.1 c107.2) ?_
                refine xok_eqb (h.pt (o := 0) (c := 15) (k := 29) (t := 2) (n := 107) (by decide) rfl (by decide) (by decide +kernel)) ?_
                refine xok_eqb (h.pt (o := 2) (c := 14) (k := 31) (t := 2 + 29) (n := 38) (xoP_o (show xoP 2 by unfold xoP; omega)).1 (xoP_o (show xoP 2 by unfold xoP; omega)).2 (by decide) (xoP_all (show xoP 2 by unfold xoP; omega) (Q := fun p => (p, 31, p + 29) ∈ xl_P) (by decide +kernel) (by decide +kernel) (by decide +kernel))) ?_
                by_cases c108 : 0 ≤ (xwr ((xwr ((G (0) 39) * (8))) + (x2))) ∧ (xwr ((xwr ((G (0) 39) * (8))) + (x2))) < 200
                · skip
                  rw [if_pos c108] at e
                  refine xok_eqb (h.ai (o := 2 + 29) (n := 200) (xoP_all (show xoP 2 by unfold xoP; omega) (Q := fun p => p + 29 < 276) (by decide) (by decide) (by decide)) (xoP_all (show xoP 2 by unfold xoP; omega) (Q := fun p => xl_t (p + 29) = (2, 3, 200)) rfl rfl rfl) (by decide) c108.1 c108.2) ?_
                  refine xok_eqb (h.pt (o := 0) (c := 15) (k := 29) (t := 2) (n := 107) (by decide) rfl (by decide) (by decide +kernel)) ?_
                  refine xok_eqb (h.pt (o := 2) (c := 14) (k := 31) (t := 2 + 29) (n := 38) (xoP_o (show xoP 2 by unfold xoP; omega)).1 (xoP_o (show xoP 2 by unfold xoP; omega)).2 (by decide) (xoP_all (show xoP 2 by unfold xoP; omega) (Q := fun p => (p, 31, p + 29) ∈ xl_P) (by decide +kernel) (by decide +kernel) (by decide +kernel))) ?_
                  by_cases c109 : 0 ≤ (xwr ((xwr ((G (0) 39) * (8))) + (x2))) ∧ (xwr ((xwr ((G (0) 39) * (8))) + (x2))) < 200
                  · skip
                    rw [if_pos c109] at e
                    refine xok_eqb (h.ai (o := 2 + 29) (n := 200) (xoP_all (show xoP 2 by unfold xoP; omega) (Q := fun p => p + 29 < 276) (by decide) (by decide) (by decide)) (xoP_all (show xoP 2 by unfold xoP; omega) (Q := fun p => xl_t (p + 29) = (2, 3, 200)) rfl rfl rfl) (by decide) c109.1 c109.2) ?_
                    refine xok_eqb (h.pt (o := 0) (c := 15) (k := 29) (t := 2) (n := 107) (by decide) rfl (by decide) (by decide +kernel)) ?_
                    refine xok_eqb (h.pt (o := 2) (c := 14) (k := 32) (t := 2 + 30) (n := 38) (xoP_o (show xoP 2 by unfold xoP; omega)).1 (xoP_o (show xoP 2 by unfold xoP; omega)).2 (by decide) (xoP_all (show xoP 2 by unfold xoP; omega) (Q := fun p => (p, 32, p + 30) ∈ xl_P) (by decide +kernel) (by decide +kernel) (by decide +kernel))) ?_
                    by_cases c110 : 0 ≤ (xwr ((xwr ((G (0) 39) * (8))) + (x2))) ∧ (xwr ((xwr ((G (0) 39) * (8))) + (x2))) < 200
                    · skip
                      rw [if_pos c110] at e
                      refine xok_eqb (h.ai (o := 2 + 30) (n := 200) (xoP_all (show xoP 2 by unfold xoP; omega) (Q := fun p => p + 30 < 276) (by decide) (by decide) (by decide)) (xoP_all (show xoP 2 by unfold xoP; omega) (Q := fun p => xl_t (p + 30) = (2, 3, 200)) rfl rfl rfl) (by decide) c110.1 c110.2) ?_
                      obtain ⟨R111, e112, e⟩ := xbnd e
                      refine xok_eqb (h.is (o := 0) (c := 15) (by decide) rfl) ?_
                      refine xok_call (sg278 hI  h (h.ain (o := 2 + 28) (n := 200) (xoP_all (show xoP 2 by unfold xoP; omega) (Q := fun p => p + 28 < 276) (by decide) (by decide) (by decide)) (xoP_all (show xoP 2 by unfold xoP; omega) (Q := fun p => xl_t (p + 28) = (2, 3, 200)) rfl rfl rfl) (by decide) c107.1 c107.2) (h.ain (o := 2 + 29) (n := 200) (xoP_all (show xoP 2 by unfold xoP; omega) (Q := fun p => p + 29 < 276) (by decide) (by decide) (by decide)) (xoP_all (show xoP 2 by unfold xoP; omega) (Q := fun p => xl_t (p + 29) = (2, 3, 200)) rfl rfl rfl) (by decide) c108.1 c108.2) (h.ain (o := 2 + 29) (n := 200) (xoP_all (show xoP 2 by unfold xoP; omega) (Q := fun p => p + 29 < 276) (by decide) (by decide) (by decide)) (xoP_all (show xoP 2 by unfold xoP; omega) (Q := fun p => xl_t (p + 29) = (2, 3, 200)) rfl rfl rfl) (by decide) c109.1 c109.2) (h.ain (o := 2 + 30) (n := 200) (xoP_all (show xoP 2 by unfold xoP; omega) (Q := fun p => p + 30 < 276) (by decide) (by decide) (by decide)) (xoP_all (show xoP 2 by unfold xoP; omega) (Q := fun p => xl_t (p + 30) = (2, 3, 200)) rfl rfl rfl) (by decide) c110.1 c110.2) e112) ?_
                      rintro ⟨v_, M115⟩ ⟨hv_, h113, hi114⟩
                      cases hv_
                      refine xok_ite (fun c116 => ?_) (fun c116 => ?_)
                      · rw [if_pos c116] at e
                        exact s277_159 hI   h113  e
                      · rw [if_neg c116] at e
                        refine xok_eqb (h113.pt (o := 0) (c := 15) (k := 29) (t := 2) (n := 107) (by decide) rfl (by decide) (by decide +kernel)) ?_
                        refine xok_eqb (h113.pt (o := 2) (c := 14) (k := 31) (t := 2 + 29) (n := 38) (xoP_o (show xoP 2 by unfold xoP; omega)).1 (xoP_o (show xoP 2 by unfold xoP; omega)).2 (by decide) (xoP_all (show xoP 2 by unfold xoP; omega) (Q := fun p => (p, 31, p + 29) ∈ xl_P) (by decide +kernel) (by decide +kernel) (by decide +kernel))) ?_
                        by_cases c117 : 0 ≤ (xwr ((xwr ((G (0) 39) * (8))) + (x2))) ∧ (xwr ((xwr ((G (0) 39) * (8))) + (x2))) < 200
                        · skip
                          rw [if_pos c117] at e
                          refine xok_eqb (h113.ai (o := 2 + 29) (n := 200) (xoP_all (show xoP 2 by unfold xoP; omega) (Q := fun p => p + 29 < 276) (by decide) (by decide) (by decide)) (xoP_all (show xoP 2 by unfold xoP; omega) (Q := fun p => xl_t (p + 29) = (2, 3, 200)) rfl rfl rfl) (by decide) c117.1 c117.2) ?_
                          refine xok_eqb (h113.pt (o := 0) (c := 15) (k := 29) (t := 2) (n := 107) (by decide) rfl (by decide) (by decide +kernel)) ?_
                          refine xok_eqb (h113.pt (o := 2) (c := 14) (k := 32) (t := 2 + 30) (n := 38) (xoP_o (show xoP 2 by unfold xoP; omega)).1 (xoP_o (show xoP 2 by unfold xoP; omega)).2 (by decide) (xoP_all (show xoP 2 by unfold xoP; omega) (Q := fun p => (p, 32, p + 30) ∈ xl_P) (by decide +kernel) (by decide +kernel) (by decide +kernel))) ?_
                          by_cases c118 : 0 ≤ (xwr ((xwr ((G (0) 39) * (8))) + (x2))) ∧ (xwr ((xwr ((G (0) 39) * (8))) + (x2))) < 200
                          · skip
                            rw [if_pos c118] at e
                            refine xok_eqb (h113.ai (o := 2 + 30) (n := 200) (xoP_all (show xoP 2 by unfold xoP; omega) (Q := fun p => p + 30 < 276) (by decide) (by decide) (by decide)) (xoP_all (show xoP 2 by unfold xoP; omega) (Q := fun p => xl_t (p + 30) = (2, 3, 200)) rfl rfl rfl) (by decide) c118.1 c118.2) ?_
                            refine xok_eqb (h113.pt (o := 0) (c := 15) (k := 29) (t := 2) (n := 107) (by decide) rfl (by decide) (by decide +kernel)) ?_
                            refine xok_eqb (h113.pt (o := 2) (c := 14) (k := 30) (t := 2 + 28) (n := 38) (xoP_o (show xoP 2 by unfold xoP; omega)).1 (xoP_o (show xoP 2 by unfold xoP; omega)).2 (by decide) (xoP_all (show xoP 2 by unfold xoP; omega) (Q := fun p => (p, 30, p + 28) ∈ xl_P) (by decide +kernel) (by decide +kernel) (by decide +kernel))) ?_
                            by_cases c119 : 0 ≤ (xwr ((xwr ((G (0) 39) * (8))) + (x2))) ∧ (xwr ((xwr ((G (0) 39) * (8))) + (x2))) < 200
                            · skip
                              rw [if_pos c119] at e
                              refine xok_eqb (h113.ai (o := 2 + 28) (n := 200) (xoP_all (show xoP 2 by unfold xoP; omega) (Q := fun p => p + 28 < 276) (by decide) (by decide) (by decide)) (xoP_all (show xoP 2 by unfold xoP; omega) (Q := fun p => xl_t (p + 28) = (2, 3, 200)) rfl rfl rfl) (by decide) c119.1 c119.2) ?_
                              refine xok_eqb (h113.pt (o := 0) (c := 15) (k := 29) (t := 2) (n := 107) (by decide) rfl (by decide) (by decide +kernel)) ?_
                              refine xok_eqb (h113.pt (o := 2) (c := 14) (k := 31) (t := 2 + 29) (n := 38) (xoP_o (show xoP 2 by unfold xoP; omega)).1 (xoP_o (show xoP 2 by unfold xoP; omega)).2 (by decide) (xoP_all (show xoP 2 by unfold xoP; omega) (Q := fun p => (p, 31, p + 29) ∈ xl_P) (by decide +kernel) (by decide +kernel) (by decide +kernel))) ?_
                              by_cases c120 : 0 ≤ (xwr ((xwr ((G (0) 39) * (8))) + (x2))) ∧ (xwr ((xwr ((G (0) 39) * (8))) + (x2))) < 200
                              · skip
                                rw [if_pos c120] at e
                                refine xok_eqb (h113.ai (o := 2 + 29) (n := 200) (xoP_all (show xoP 2 by unfold xoP; omega) (Q := fun p => p + 29 < 276) (by decide) (by decide) (by decide)) (xoP_all (show xoP 2 by unfold xoP; omega) (Q := fun p => xl_t (p + 29) = (2, 3, 200)) rfl rfl rfl) (by decide) c120.1 c120.2) ?_
                                obtain ⟨R121, e122, e⟩ := xbnd e
                                refine xok_eqb (h113.is (o := 0) (c := 15) (by decide) rfl) ?_
                                refine xok_call (sg278 hI  h113 (h113.ain (o := 2 + 29) (n := 200) (xoP_all (show xoP 2 by unfold xoP; omega) (Q := fun p => p + 29 < 276) (by decide) (by decide) (by decide)) (xoP_all (show xoP 2 by unfold xoP; omega) (Q := fun p => xl_t (p + 29) = (2, 3, 200)) rfl rfl rfl) (by decide) c117.1 c117.2) (h113.ain (o := 2 + 30) (n := 200) (xoP_all (show xoP 2 by unfold xoP; omega) (Q := fun p => p + 30 < 276) (by decide) (by decide) (by decide)) (xoP_all (show xoP 2 by unfold xoP; omega) (Q := fun p => xl_t (p + 30) = (2, 3, 200)) rfl rfl rfl) (by decide) c118.1 c118.2) (h113.ain (o := 2 + 28) (n := 200) (xoP_all (show xoP 2 by unfold xoP; omega) (Q := fun p => p + 28 < 276) (by decide) (by decide) (by decide)) (xoP_all (show xoP 2 by unfold xoP; omega) (Q := fun p => xl_t (p + 28) = (2, 3, 200)) rfl rfl rfl) (by decide) c119.1 c119.2) (h113.ain (o := 2 + 29) (n := 200) (xoP_all (show xoP 2 by unfold xoP; omega) (Q := fun p => p + 29 < 276) (by decide) (by decide) (by decide)) (xoP_all (show xoP 2 by unfold xoP; omega) (Q := fun p => xl_t (p + 29) = (2, 3, 200)) rfl rfl rfl) (by decide) c120.1 c120.2) e122) ?_
                                rintro ⟨v_, M125⟩ ⟨hv_, h123, hi124⟩
                                cases hv_
                                refine xok_ite (fun c126 => ?_) (fun c126 => ?_)
                                · rw [if_pos c126] at e
                                  exact s277_161 hI  hr2 hr17 h123 tx1 tx2 e
                                · rw [if_neg c126] at e
                                  exact s277_159 hI   h123  e
                              · rw [if_neg c120] at e; cases e
                            · rw [if_neg c119] at e; cases e
                          · rw [if_neg c118] at e; cases e
                        · rw [if_neg c117] at e; cases e
                    · rw [if_neg c110] at e; cases e
                  · rw [if_neg c109] at e; cases e
                · rw [if_neg c108] at e; cases e
              · rw [if_neg c107] at e; cases e
            · rw [if_neg c106] at e
              exact s277_161 hI  hr2 hr17 h tx1 tx2 e
          · rw [if_neg c105] at e; cases e
      · rw [if_neg c103] at e; cases e
  · rw [if_neg c101] at e; cases e
theorem s277_17 {m f : Nat} {M0 : xj_M} (hI : xHI f)  {r2 : Int → xG_ → Option (Int × xG_)} {o2 : Nat → Int → xj_M → Option (Int × xj_M)}  (hr2 : ∀ {M : xj_M} {G : xG_} {x1 : Int} {R : Int × xG_}, xRX m M0 M G → xin x1 → r2 x1 G = some R → xok (o2 m x1 M) (fun r => r.1 = R.1 ∧ xRX m M0 r.2 R.2 ∧ xin R.1)) : ∀ {n : Nat} {M : xj_M} {G : xG_} {x1 : Int} {x2 : Int} {R : Int × xG_}, xRX m M0 M G → xin x1 → xin x2 → g277_17  r2 f n x1 x2 G = some R → xok (f277_17  o2 f n m x1 x2 M) (fun r => r.1 = R.1 ∧ xRX m M0 r.2 R.2 ∧ xin R.1) := by
  intro n
  induction n with
  | zero => intros; rename_i e; cases e
  | succ n ih =>
    intros
    rename_i h i0 i1 e
    exact s277_17b hI  hr2 ih h i0 i1 e
theorem s277_2b {m f : Nat} {M0 M : xj_M} {G : xG_} (hI : xHI f)  {r2 : Int → xG_ → Option (Int × xG_)} {o2 : Nat → Int → xj_M → Option (Int × xj_M)}  (hr2 : ∀ {M : xj_M} {G : xG_} {x1 : Int} {R : Int × xG_}, xRX m M0 M G → xin x1 → r2 x1 G = some R → xok (o2 m x1 M) (fun r => r.1 = R.1 ∧ xRX m M0 r.2 R.2 ∧ xin R.1)) (h : xRX m M0 M G) {x1 : Int} {R : Int × xG_} (tx1 : xin x1) (e : g277_2b  r2 f x1 G = some R) : xok (f277_2b  o2 f m x1 M) (fun r => r.1 = R.1 ∧ xRX m M0 r.2 R.2 ∧ xin R.1) := by
  unfold g277_2b at e
  unfold f277_2b
  refine xok_eqb (h.gi (o := 0) (c := 15) (k := 37) (n := 107) (by decide) rfl (by decide) (by decide)) ?_
  refine xok_ite (fun c127 => ?_) (fun c127 => ?_)
  · rw [if_pos c127] at e
    cases e
    exact ⟨_, rfl, rfl, h, (show xin (1) by decide)⟩
  · rw [if_neg c127] at e
    refine xok_eqb (h.gi (o := 0) (c := 15) (k := 37) (n := 107) (by decide) rfl (by decide) (by decide)) ?_
    exact s277_17 hI  hr2 h (h.gin (o := 0) (c := 15) (k := 37) (n := 107) (by decide) rfl (by decide) (by decide)) (show xin (0) by decide) e
theorem s277_2 {m f : Nat} {M0 : xj_M} (hI : xHI f)     : ∀ {n : Nat} {M : xj_M} {G : xG_} {x1 : Int} {R : Int × xG_}, xRX m M0 M G → xin x1 → g277_2   f n x1 G = some R → xok (f277_2   f n m x1 M) (fun r => r.1 = R.1 ∧ xRX m M0 r.2 R.2 ∧ xin R.1) := by
  intro n
  induction n with
  | zero => intros; rename_i e; cases e
  | succ n ih =>
    intros
    rename_i h i0 e
    exact s277_2b hI   ih h i0 e
theorem sg277 {m f : Nat} {M0 M : xj_M} {G : xG_} (hI : xHI f)   (h : xRX m M0 M G)  {R : Int × xG_}  (e : g277  f  G = some R) : xok (f277  f m M) (fun r => r.1 = R.1 ∧ xRX m M0 r.2 R.2 ∧ xin R.1) := by
  unfold g277 at e
  unfold f277
  exact s277_2 hI   h (show xin (-1) by decide) e
-- ChangeHouseModel.holds
theorem s279_74 {m f : Nat} {M0 M : xj_M} {G : xG_} (hI : xHI f)  {r2 : Int → xG_ → Option (Int × xG_)} {o2 : Nat → Int → xj_M → Option (Int × xj_M)}  (hr2 : ∀ {M : xj_M} {G : xG_} {x1 : Int} {R : Int × xG_}, xRX m M0 M G → xin x1 → r2 x1 G = some R → xok (o2 m x1 M) (fun r => r.1 = R.1 ∧ xRX m M0 r.2 R.2 ∧ xin R.1)) (h : xRX m M0 M G) {x1 : Int} {R : Int × xG_} (tx1 : xin x1) (e : g279_74  r2 f x1 G = some R) : xok (f279_74  o2 f m x1 M) (fun r => r.1 = R.1 ∧ xRX m M0 r.2 R.2 ∧ xin R.1) := by
  unfold g279_74 at e
  unfold f279_74
  exact hr2 h (xin_wr _) e
theorem s279_51 {m f : Nat} {M0 M : xj_M} {G : xG_} (hI : xHI f)  {r2 : Int → xG_ → Option (Int × xG_)} {o2 : Nat → Int → xj_M → Option (Int × xj_M)}  (hr2 : ∀ {M : xj_M} {G : xG_} {x1 : Int} {R : Int × xG_}, xRX m M0 M G → xin x1 → r2 x1 G = some R → xok (o2 m x1 M) (fun r => r.1 = R.1 ∧ xRX m M0 r.2 R.2 ∧ xin R.1)) (h : xRX m M0 M G) {x1 : Int} {x2 : Int} {R : Int × xG_} (tx1 : xin x1) (tx2 : xin x2) (e : g279_51  r2 f x1 x2 G = some R) : xok (f279_51  o2 f m x1 x2 M) (fun r => r.1 = R.1 ∧ xRX m M0 r.2 R.2 ∧ xin R.1) := by
  unfold g279_51 at e
  unfold f279_51
  refine xok_eqb (h.pt (o := 0) (c := 15) (k := 29) (t := 2) (n := 107) (by decide) rfl (by decide) (by decide +kernel)) ?_
  refine xok_eqb (h.pt (o := 2) (c := 14) (k := 27) (t := 2 + 25) (n := 38) (xoP_o (show xoP 2 by unfold xoP; omega)).1 (xoP_o (show xoP 2 by unfold xoP; omega)).2 (by decide) (xoP_all (show xoP 2 by unfold xoP; omega) (Q := fun p => (p, 27, p + 25) ∈ xl_P) (by decide +kernel) (by decide +kernel) (by decide +kernel))) ?_
  by_cases c101 : 0 ≤ (x2) ∧ (x2) < 200
  · skip
    rw [if_pos c101] at e
    refine xok_eqb (h.ai (o := 2 + 25) (n := 200) (xoP_all (show xoP 2 by unfold xoP; omega) (Q := fun p => p + 25 < 276) (by decide) (by decide) (by decide)) (xoP_all (show xoP 2 by unfold xoP; omega) (Q := fun p => xl_t (p + 25) = (2, 3, 200)) rfl rfl rfl) (by decide) c101.1 c101.2) ?_
    refine xok_ite (fun c102 => ?_) (fun c102 => ?_)
    · rw [if_pos c102] at e
      exact s279_74 hI  hr2 h tx1 e
    · rw [if_neg c102] at e
      obtain ⟨R103, e104, e⟩ := xbnd e
      refine xok_eqb (h.is (o := 0) (c := 15) (by decide) rfl) ?_
      refine xok_call (sg281 hI  h tx2 e104) ?_
      rintro ⟨v_, M107⟩ ⟨hv_, h105, hi106⟩
      cases hv_
      refine xok_ite (fun c108 => ?_) (fun c108 => ?_)
      · rw [if_pos c108] at e
        exact s279_74 hI  hr2 h105 tx1 e
      · rw [if_neg c108] at e
        cases e
        exact ⟨_, rfl, rfl, h105, (show xin (0) by decide)⟩
  · rw [if_neg c101] at e; cases e
theorem s279_2b {m f : Nat} {M0 M : xj_M} {G : xG_} (hI : xHI f)  {r2 : Int → xG_ → Option (Int × xG_)} {o2 : Nat → Int → xj_M → Option (Int × xj_M)}  (hr2 : ∀ {M : xj_M} {G : xG_} {x1 : Int} {R : Int × xG_}, xRX m M0 M G → xin x1 → r2 x1 G = some R → xok (o2 m x1 M) (fun r => r.1 = R.1 ∧ xRX m M0 r.2 R.2 ∧ xin R.1)) (h : xRX m M0 M G) {x1 : Int} {R : Int × xG_} (tx1 : xin x1) (e : g279_2b  r2 f x1 G = some R) : xok (f279_2b  o2 f m x1 M) (fun r => r.1 = R.1 ∧ xRX m M0 r.2 R.2 ∧ xin R.1) := by
  unfold g279_2b at e
  unfold f279_2b
  refine xok_eqb (h.pt (o := 0) (c := 15) (k := 29) (t := 2) (n := 107) (by decide) rfl (by decide) (by decide +kernel)) ?_
  refine xok_eqb (h.pt (o := 2) (c := 14) (k := 21) (t := 2 + 19) (n := 38) (xoP_o (show xoP 2 by unfold xoP; omega)).1 (xoP_o (show xoP 2 by unfold xoP; omega)).2 (by decide) (xoP_all (show xoP 2 by unfold xoP; omega) (Q := fun p => (p, 21, p + 19) ∈ xl_P) (by decide +kernel) (by decide +kernel) (by decide +kernel))) ?_
  refine xok_eqb (h.gi (o := 0) (c := 15) (k := 39) (n := 107) (by decide) rfl (by decide) (by decide)) ?_
  by_cases c109 : 0 ≤ (G (0) 39) ∧ (G (0) 39) < 25
  · skip
    rw [if_pos c109] at e
    refine xok_eqb (h.ai (o := 2 + 19) (n := 25) (xoP_all (show xoP 2 by unfold xoP; omega) (Q := fun p => p + 19 < 276) (by decide) (by decide) (by decide)) (xoP_all (show xoP 2 by unfold xoP; omega) (Q := fun p => xl_t (p + 19) = (2, 3, 25)) rfl rfl rfl) (by decide) c109.1 c109.2) ?_
    refine xok_ite (fun c110 => ?_) (fun c110 => ?_)
    · rw [if_pos c110] at e
      cases e
      exact ⟨_, rfl, rfl, h, (show xin (1) by decide)⟩
    · rw [if_neg c110] at e
      refine xok_eqb (h.gi (o := 0) (c := 15) (k := 39) (n := 107) (by decide) rfl (by decide) (by decide)) ?_
      refine xok_eqb (h.pt (o := 0) (c := 15) (k := 29) (t := 2) (n := 107) (by decide) rfl (by decide) (by decide +kernel)) ?_
      refine xok_eqb (h.pt (o := 2) (c := 14) (k := 27) (t := 2 + 25) (n := 38) (xoP_o (show xoP 2 by unfold xoP; omega)).1 (xoP_o (show xoP 2 by unfold xoP; omega)).2 (by decide) (xoP_all (show xoP 2 by unfold xoP; omega) (Q := fun p => (p, 27, p + 25) ∈ xl_P) (by decide +kernel) (by decide +kernel) (by decide +kernel))) ?_
      by_cases c111 : 0 ≤ (xwr ((xwr ((G (0) 39) * (8))) + (x1))) ∧ (xwr ((xwr ((G (0) 39) * (8))) + (x1))) < 200
      · skip
        rw [if_pos c111] at e
        refine xok_eqb (h.ai (o := 2 + 25) (n := 200) (xoP_all (show xoP 2 by unfold xoP; omega) (Q := fun p => p + 25 < 276) (by decide) (by decide) (by decide)) (xoP_all (show xoP 2 by unfold xoP; omega) (Q := fun p => xl_t (p + 25) = (2, 3, 200)) rfl rfl rfl) (by decide) c111.1 c111.2) ?_
        refine xok_ite (fun c112 => ?_) (fun c112 => ?_)
        · rw [if_pos c112] at e
          exact s279_51 hI  hr2 h tx1 (xin_wr _) e
        · rw [if_neg c112] at e
          obtain ⟨R113, e114, e⟩ := xbnd e
          refine xok_eqb (h.is (o := 0) (c := 15) (by decide) rfl) ?_
          refine xok_call (sg280 hI  h (xin_wr _) e114) ?_
          rintro ⟨v_, M117⟩ ⟨hv_, h115, hi116⟩
          cases hv_
          refine xok_ite (fun c118 => ?_) (fun c118 => ?_)
          · rw [if_pos c118] at e
            exact s279_51 hI  hr2 h115 tx1 (xin_wr _) e
          · rw [if_neg c118] at e
            cases e
            exact ⟨_, rfl, rfl, h115, (show xin (0) by decide)⟩
      · rw [if_neg c111] at e; cases e
  · rw [if_neg c109] at e; cases e
theorem s279_2 {m f : Nat} {M0 : xj_M} (hI : xHI f)     : ∀ {n : Nat} {M : xj_M} {G : xG_} {x1 : Int} {R : Int × xG_}, xRX m M0 M G → xin x1 → g279_2   f n x1 G = some R → xok (f279_2   f n m x1 M) (fun r => r.1 = R.1 ∧ xRX m M0 r.2 R.2 ∧ xin R.1) := by
  intro n
  induction n with
  | zero => intros; rename_i e; cases e
  | succ n ih =>
    intros
    rename_i h i0 e
    exact s279_2b hI   ih h i0 e
theorem sg279 {m f : Nat} {M0 M : xj_M} {G : xG_} (hI : xHI f)   (h : xRX m M0 M G)  {R : Int × xG_}  (e : g279  f  G = some R) : xok (f279  f m M) (fun r => r.1 = R.1 ∧ xRX m M0 r.2 R.2 ∧ xin R.1) := by
  unfold g279 at e
  unfold f279
  exact s279_2 hI   h (show xin (0) by decide) e
-- ChangeHouseModel.operand
theorem s338_116 {m f : Nat} {M0 M : xj_M} {G : xG_} (hI : xHI f) {q334 : xG_ → Option (Int × xG_)} {p334 : Nat → xj_M → Option (Int × xj_M)}  (hq334 : ∀ {M : xj_M} {G : xG_}  {R : Int × xG_}, xRX m M0 M G → q334  G = some R → xok (p334 m M) (fun r => r.1 = R.1 ∧ xRX m M0 r.2 R.2 ∧ xin R.1))  (h : xRX m M0 M G)  {R : Int × xG_}  (e : g338_116 q334  f  G = some R) : xok (f338_116 p334  f m M) (fun r => r.1 = R.1 ∧ xRX m M0 r.2 R.2 ∧ xin R.1) := by
  unfold g338_116 at e
  unfold f338_116
  refine xok_eqb (h.gl (o := 0) (c := 15) (k := 9) (n := 107) (by decide) rfl (by decide) (by decide)) ?_
  obtain ⟨R101, e102, e⟩ := xbnd e
  refine xok_eqb (h.is (o := 0) (c := 15) (by decide) rfl) ?_
  refine xok_call (sg340 hI  h (h.gln (o := 0) (c := 15) (k := 9) (n := 107) (by decide) rfl (by decide) (by decide)) e102) ?_
  rintro ⟨v_, M105⟩ ⟨hv_, h103, hi104⟩
  cases hv_
  cases e
  exact ⟨_, rfl, rfl, h103, hi104⟩
theorem s338_148 {m f : Nat} {M0 M : xj_M} {G : xG_} (hI : xHI f) {q334 : xG_ → Option (Int × xG_)} {p334 : Nat → xj_M → Option (Int × xj_M)}  (hq334 : ∀ {M : xj_M} {G : xG_}  {R : Int × xG_}, xRX m M0 M G → q334  G = some R → xok (p334 m M) (fun r => r.1 = R.1 ∧ xRX m M0 r.2 R.2 ∧ xin R.1))  (h : xRX m M0 M G) {y0 : Int} {R : Int × xG_} (ty0 : xin y0) (e : g338_148 q334  f y0 G = some R) : xok (f338_148 p334  f y0 M) (fun r => r.1 = R.1 ∧ xRX m M0 r.2 R.2 ∧ xin R.1) := by
  unfold g338_148 at e
  unfold f338_148
  cases e
  exact ⟨_, rfl, rfl, h, ty0⟩
theorem sg338 {m f : Nat} {M0 M : xj_M} {G : xG_} (hI : xHI f) {q334 : xG_ → Option (Int × xG_)} {p334 : Nat → xj_M → Option (Int × xj_M)} (hq334 : ∀ {M : xj_M} {G : xG_}  {R : Int × xG_}, xRX m M0 M G → q334  G = some R → xok (p334 m M) (fun r => r.1 = R.1 ∧ xRX m M0 r.2 R.2 ∧ xin R.1)) (h : xRX m M0 M G)  {R : Int × xG_}  (e : g338 q334 f  G = some R) : xok (f338 p334 f m M) (fun r => r.1 = R.1 ∧ xRX m M0 r.2 R.2 ∧ xin R.1) := by
  unfold g338 at e
  unfold f338
  obtain ⟨R106, e107, e⟩ := xbnd e
  refine xok_eqb (h.is (o := 0) (c := 15) (by decide) rfl) ?_
  refine xok_call (sg211 hI  h  e107) ?_
  rintro ⟨v_, M110⟩ ⟨hv_, h108, hi109⟩
  cases hv_
  refine xok_ite (fun c111 => ?_) (fun c111 => ?_)
  · rw [if_pos c111] at e
    obtain ⟨R112, e113, e⟩ := xbnd e
    refine xok_eqb (h108.is (o := 0) (c := 15) (by decide) rfl) ?_
    refine xok_call (sg221 hI  h108 (show xin (3) by decide) e113) ?_
    rintro ⟨v_, M116⟩ ⟨hv_, h114, hi115⟩
    cases hv_
    refine xok_ite (fun c117 => ?_) (fun c117 => ?_)
    · rw [if_pos c117] at e
      obtain ⟨R118, e119, e⟩ := xbnd e
      refine xok_eqb (h114.is (o := 0) (c := 15) (by decide) rfl) ?_
      refine xok_call (sg220 hI  h114 (show xin (40) by decide) e119) ?_
      rintro ⟨v_, M122⟩ ⟨hv_, h120, hi121⟩
      cases hv_
      refine xok_ite (fun c123 => ?_) (fun c123 => ?_)
      · rw [if_pos c123] at e
        refine xok_eqb (h120.gl (o := 0) (c := 15) (k := 20) (n := 107) (by decide) rfl (by decide) (by decide)) ?_
        obtain ⟨R124, e125, e⟩ := xbnd e
        refine xok_eqb (h120.is (o := 0) (c := 15) (by decide) rfl) ?_
        refine xok_call (sg225 hI  h120 (h120.gln (o := 0) (c := 15) (k := 20) (n := 107) (by decide) rfl (by decide) (by decide)) e125) ?_
        rintro ⟨v_, M128⟩ ⟨hv_, h126, hi127⟩
        cases hv_
        refine xok_ite (fun c129 => ?_) (fun c129 => ?_)
        · rw [if_pos c129] at e
          refine xok_eqb (h126.gl (o := 0) (c := 15) (k := 17) (n := 107) (by decide) rfl (by decide) (by decide)) ?_
          obtain ⟨R130, e131, e⟩ := xbnd e
          refine xok_eqb (h126.is (o := 0) (c := 15) (by decide) rfl) ?_
          refine xok_call (sg225 hI  h126 (h126.gln (o := 0) (c := 15) (k := 17) (n := 107) (by decide) rfl (by decide) (by decide)) e131) ?_
          rintro ⟨v_, M134⟩ ⟨hv_, h132, hi133⟩
          cases hv_
          refine xok_ite (fun c135 => ?_) (fun c135 => ?_)
          · rw [if_pos c135] at e
            exact s338_116 hI hq334  h132  e
          · rw [if_neg c135] at e
            refine xok_eqb (h132.gl (o := 0) (c := 15) (k := 16) (n := 107) (by decide) rfl (by decide) (by decide)) ?_
            obtain ⟨R136, e137, e⟩ := xbnd e
            refine xok_eqb (h132.is (o := 0) (c := 15) (by decide) rfl) ?_
            refine xok_call (sg225 hI  h132 (h132.gln (o := 0) (c := 15) (k := 16) (n := 107) (by decide) rfl (by decide) (by decide)) e137) ?_
            rintro ⟨v_, M140⟩ ⟨hv_, h138, hi139⟩
            cases hv_
            refine xok_ite (fun c141 => ?_) (fun c141 => ?_)
            · rw [if_pos c141] at e
              exact s338_116 hI hq334  h138  e
            · rw [if_neg c141] at e
              refine xok_eqb (h138.gl (o := 0) (c := 15) (k := 18) (n := 107) (by decide) rfl (by decide) (by decide)) ?_
              obtain ⟨R142, e143, e⟩ := xbnd e
              refine xok_eqb (h138.is (o := 0) (c := 15) (by decide) rfl) ?_
              refine xok_call (sg225 hI  h138 (h138.gln (o := 0) (c := 15) (k := 18) (n := 107) (by decide) rfl (by decide) (by decide)) e143) ?_
              rintro ⟨v_, M146⟩ ⟨hv_, h144, hi145⟩
              cases hv_
              refine xok_ite (fun c147 => ?_) (fun c147 => ?_)
              · rw [if_pos c147] at e
                exact s338_116 hI hq334  h144  e
              · rw [if_neg c147] at e
                refine xok_eqb (h144.gl (o := 0) (c := 15) (k := 19) (n := 107) (by decide) rfl (by decide) (by decide)) ?_
                obtain ⟨R148, e149, e⟩ := xbnd e
                refine xok_eqb (h144.is (o := 0) (c := 15) (by decide) rfl) ?_
                refine xok_call (sg225 hI  h144 (h144.gln (o := 0) (c := 15) (k := 19) (n := 107) (by decide) rfl (by decide) (by decide)) e149) ?_
                rintro ⟨v_, M152⟩ ⟨hv_, h150, hi151⟩
                cases hv_
                refine xok_ite (fun c153 => ?_) (fun c153 => ?_)
                · rw [if_pos c153] at e
                  obtain ⟨R154, e155, e⟩ := xbnd e
                  refine xok_eqb (h150.is (o := 0) (c := 15) (by decide) rfl) ?_
                  refine xok_call (sg227 hI  h150  e155) ?_
                  rintro ⟨v_, M158⟩ ⟨hv_, h156, hi157⟩
                  cases hv_
                  refine xok_ite (fun c159 => ?_) (fun c159 => ?_)
                  · rw [if_pos c159] at e
                    exact s338_148 hI hq334  h156 (show xin (0) by decide) e
                  · rw [if_neg c159] at e
                    refine xok_eqb (h156.gl (o := 0) (c := 15) (k := 21) (n := 107) (by decide) rfl (by decide) (by decide)) ?_
                    obtain ⟨R160, e161, e⟩ := xbnd e
                    refine xok_eqb (h156.is (o := 0) (c := 15) (by decide) rfl) ?_
                    refine xok_call (sg331 hI  h156 (show xin (1) by decide) (show xin (0) by decide) (show xin (0) by decide) (show xin (0) by decide) (h156.gln (o := 0) (c := 15) (k := 21) (n := 107) (by decide) rfl (by decide) (by decide)) e161) ?_
                    rintro ⟨v_, M164⟩ ⟨hv_, h162, hi163⟩
                    cases hv_
                    exact s338_148 hI hq334  h162 hi163 e
                · rw [if_neg c153] at e
                  exact s338_116 hI hq334  h150  e
        · rw [if_neg c129] at e
          obtain ⟨R165, e166, e⟩ := xbnd e
          refine xok_eqb (h126.is (o := 0) (c := 15) (by decide) rfl) ?_
          refine xok_call (sg339 hI hq334 h126  e166) ?_
          rintro ⟨v_, M169⟩ ⟨hv_, h167, hi168⟩
          cases hv_
          cases e
          exact ⟨_, rfl, rfl, h167, hi168⟩
      · rw [if_neg c123] at e
        obtain ⟨R170, e171, e⟩ := xbnd e
        refine xok_eqb (h120.is (o := 0) (c := 15) (by decide) rfl) ?_
        refine xok_call (sg336 hI  h120  e171) ?_
        intro M174 h172
        obtain ⟨R175, e176, e⟩ := xbnd e
        refine xok_eqb (h172.is (o := 0) (c := 15) (by decide) rfl) ?_
        refine xok_call (hq334 h172  e176) ?_
        rintro ⟨v_, M179⟩ ⟨hv_, h177, hi178⟩
        cases hv_
        obtain ⟨R180, e181, e⟩ := xbnd e
        refine xok_eqb (h177.is (o := 0) (c := 15) (by decide) rfl) ?_
        refine xok_call (sg337 hI  h177  e181) ?_
        intro M184 h182
        cases e
        exact ⟨_, rfl, rfl, h182, hi178⟩
    · rw [if_neg c117] at e
      obtain ⟨R185, e186, e⟩ := xbnd e
      refine xok_eqb (h114.is (o := 0) (c := 15) (by decide) rfl) ?_
      refine xok_call (sg332 hI  h114  e186) ?_
      rintro ⟨v_, M189⟩ ⟨hv_, h187, hi188⟩
      cases hv_
      obtain ⟨R190, e191, e⟩ := xbnd e
      refine xok_eqb (h187.is (o := 0) (c := 15) (by decide) rfl) ?_
      refine xok_call (sg331 hI  h187 (show xin (2) by decide) hi188 (show xin (0) by decide) (show xin (0) by decide) (show xiN (0) by decide) e191) ?_
      rintro ⟨v_, M194⟩ ⟨hv_, h192, hi193⟩
      cases hv_
      cases e
      exact ⟨_, rfl, rfl, h192, hi193⟩
  · rw [if_neg c111] at e
    cases e
    exact ⟨_, rfl, rfl, h108, (show xin (0) by decide)⟩
-- ChangeHouseModel.expression
theorem s243b {m f : Nat} {M0 M : xj_M} {G : xG_} (hI : xHI f) {q243 : xG_ → Option (xG_)} {p243 : Nat → xj_M → Option (xj_M)} (hq243 : ∀ {M : xj_M} {G : xG_}  {R : xG_}, xRX m M0 M G → q243  G = some R → xok (p243 m M) (fun r => xRX m M0 r R)) (h : xRX m M0 M G)  {R : xG_}  (e : g243b q243 f  G = some R) : xok (f243b p243 f m M) (fun r => xRX m M0 r R) := by
  unfold g243b at e
  unfold f243b
  obtain ⟨R101, e102, e⟩ := xbnd e
  refine xok_eqb (h.is (o := 0) (c := 15) (by decide) rfl) ?_
  refine xok_call (sg241 hI hq243 h  e102) ?_
  intro M105 h103
  obtain ⟨R106, e107, e⟩ := xbnd e
  refine xok_eqb (h103.is (o := 0) (c := 15) (by decide) rfl) ?_
  refine xok_call (sg244 hI hq243 h103  e107) ?_
  intro M110 h108
  cases e
  exact ⟨_, rfl, h108⟩
theorem s243r {m f : Nat} {M0 : xj_M} (hI : xHI f) : ∀ {n : Nat} {M : xj_M} {G : xG_}  {R : xG_}, xRX m M0 M G → g243r f n  G = some R → xok (f243r f n m M) (fun r => xRX m M0 r R) := by
  intro n
  induction n with
  | zero => intros; rename_i e; cases e
  | succ n ih =>
    intros
    rename_i h  e
    exact s243b hI ih h  e
theorem sg243 {m f : Nat} {M0 M : xj_M} {G : xG_} (hI : xHI f) (h : xRX m M0 M G)  {R : xG_}  (e : g243 f  G = some R) : xok (f243 f m M) (fun r => xRX m M0 r R) := s243r hI h  e
-- ChangeHouseModel.readCompare
theorem s248_92 {m f : Nat} {M0 M : xj_M} {G : xG_} (hI : xHI f)     (h : xRX m M0 M G) {x1 : Int} {R : xG_} (tx1 : xin x1) (e : g248_92   f x1 G = some R) : xok (f248_92   f m x1 M) (fun r => xRX m M0 r R) := by
  unfold g248_92 at e
  unfold f248_92
  by_cases c101 : G 0 22 < 0
  · rw [if_pos c101] at e; cases e
  rw [if_neg c101] at e
  refine xok_eqb (h.itp c101) ?_
  refine xok_eqb (h.pt (o := (G 0 22).toNat) (c := 14) (k := 28) (t := (G 0 22).toNat + 26) (n := 38) (xoP_o (h.itt c101)).1 (xoP_o (h.itt c101)).2 (by decide) (xoP_all (h.itt c101) (Q := fun p => (p, 28, p + 26) ∈ xl_P) (by decide +kernel) (by decide +kernel) (by decide +kernel))) ?_
  refine xok_eqb (h.gi (o := 0) (c := 15) (k := 3) (n := 107) (by decide) rfl (by decide) (by decide)) ?_
  by_cases c102 : 0 ≤ (x1) ∧ (x1) < 200
  · skip
    rw [if_pos c102] at e
    obtain ⟨M103, q104, h105⟩ := h.si (o := (G 0 22).toNat + 26) (n := 200) (v := G (0) 3) (xoP_all (h.itt c101) (Q := fun p => p + 26 < 276) (by decide) (by decide) (by decide)) (xoP_all (h.itt c101) (Q := fun p => xl_t (p + 26) = (2, 3, 200)) rfl rfl rfl) c102.1 c102.2 (h.gin (o := 0) (c := 15) (k := 3) (n := 107) (by decide) rfl (by decide) (by decide))
    refine xok_eqb q104 ?_
    obtain ⟨G106, g1, e⟩ := xbnd e
    cases g1
    have h105_ : xRX m M0 M103 (xup2 G ((G 0 22).toNat + 26) (x1).toNat (G (0) 3)) := h105
    generalize hGG106 : (xup2 G ((G 0 22).toNat + 26) (x1).toNat (G (0) 3)) = G106 at e h105
    clear h105_ hGG106
    obtain ⟨R107, e108, e⟩ := xbnd e
    refine xok_eqb (h105.is (o := 0) (c := 15) (by decide) rfl) ?_
    refine xok_call (sg213 hI  h105  e108) ?_
    intro M111 h109
    obtain ⟨R112, e113, e⟩ := xbnd e
    refine xok_eqb (h109.is (o := 0) (c := 15) (by decide) rfl) ?_
    refine xok_call (sg243 hI  h109  e113) ?_
    intro M116 h114
    by_cases c117 : R112 0 22 < 0
    · rw [if_pos c117] at e; cases e
    rw [if_neg c117] at e
    refine xok_eqb (h114.itp c117) ?_
    refine xok_eqb (h114.pt (o := (R112 0 22).toNat) (c := 14) (k := 32) (t := (R112 0 22).toNat + 30) (n := 38) (xoP_o (h114.itt c117)).1 (xoP_o (h114.itt c117)).2 (by decide) (xoP_all (h114.itt c117) (Q := fun p => (p, 32, p + 30) ∈ xl_P) (by decide +kernel) (by decide +kernel) (by decide +kernel))) ?_
    by_cases c118 : R112 0 22 < 0
    · rw [if_pos c118] at e; cases e
    rw [if_neg c118] at e
    refine xok_eqb (h114.itp c118) ?_
    refine xok_eqb (h114.gi (o := (R112 0 22).toNat) (c := 14) (k := 37) (n := 38) (xoP_o (h114.itt c118)).1 (xoP_o (h114.itt c118)).2 (by decide) (by decide)) ?_
    by_cases c119 : 0 ≤ (x1) ∧ (x1) < 200
    · skip
      rw [if_pos c119] at e
      obtain ⟨M120, q121, h122⟩ := h114.si (o := (R112 0 22).toNat + 30) (n := 200) (v := R112 ((R112 0 22).toNat) 37) (xoP_all (h114.itt c117) (Q := fun p => p + 30 < 276) (by decide) (by decide) (by decide)) (xoP_all (h114.itt c117) (Q := fun p => xl_t (p + 30) = (2, 3, 200)) rfl rfl rfl) c119.1 c119.2 (h114.gin (o := (R112 0 22).toNat) (c := 14) (k := 37) (n := 38) (xoP_o (h114.itt c118)).1 (xoP_o (h114.itt c118)).2 (by decide) (by decide))
      refine xok_eqb q121 ?_
      obtain ⟨G123, g1, e⟩ := xbnd e
      cases g1
      have h122_ : xRX m M0 M120 (xup2 R112 ((R112 0 22).toNat + 30) (x1).toNat (R112 ((R112 0 22).toNat) 37)) := h122
      generalize hGG123 : (xup2 R112 ((R112 0 22).toNat + 30) (x1).toNat (R112 ((R112 0 22).toNat) 37)) = G123 at e h122
      clear h122_ hGG123
      cases e
      exact ⟨_, rfl, h122⟩
    · rw [if_neg c119] at e; cases e
  · rw [if_neg c102] at e; cases e
theorem sg248 {m f : Nat} {M0 M : xj_M} {G : xG_} (hI : xHI f)   (h : xRX m M0 M G) {a1 : Int} {R : xG_} (ta1 : xin a1) (e : g248  f a1 G = some R) : xok (f248  f m a1 M) (fun r => xRX m M0 r R) := by
  unfold g248 at e
  unfold f248
  by_cases c124 : G 0 22 < 0
  · rw [if_pos c124] at e; cases e
  rw [if_neg c124] at e
  refine xok_eqb (h.itp c124) ?_
  refine xok_eqb (h.pt (o := (G 0 22).toNat) (c := 14) (k := 27) (t := (G 0 22).toNat + 25) (n := 38) (xoP_o (h.itt c124)).1 (xoP_o (h.itt c124)).2 (by decide) (xoP_all (h.itt c124) (Q := fun p => (p, 27, p + 25) ∈ xl_P) (by decide +kernel) (by decide +kernel) (by decide +kernel))) ?_
  by_cases c125 : 0 ≤ (a1) ∧ (a1) < 200
  · skip
    rw [if_pos c125] at e
    obtain ⟨M126, q127, h128⟩ := h.si (o := (G 0 22).toNat + 25) (n := 200) (v := 3) (xoP_all (h.itt c124) (Q := fun p => p + 25 < 276) (by decide) (by decide) (by decide)) (xoP_all (h.itt c124) (Q := fun p => xl_t (p + 25) = (2, 3, 200)) rfl rfl rfl) c125.1 c125.2 (show xin (3) by decide)
    refine xok_eqb q127 ?_
    obtain ⟨G129, g1, e⟩ := xbnd e
    cases g1
    have h128_ : xRX m M0 M126 (xup2 G ((G 0 22).toNat + 25) (a1).toNat (3)) := h128
    generalize hGG129 : (xup2 G ((G 0 22).toNat + 25) (a1).toNat (3)) = G129 at e h128
    clear h128_ hGG129
    by_cases c130 : G129 0 22 < 0
    · rw [if_pos c130] at e; cases e
    rw [if_neg c130] at e
    refine xok_eqb (h128.itp c130) ?_
    refine xok_eqb (h128.pt (o := (G129 0 22).toNat) (c := 14) (k := 31) (t := (G129 0 22).toNat + 29) (n := 38) (xoP_o (h128.itt c130)).1 (xoP_o (h128.itt c130)).2 (by decide) (xoP_all (h128.itt c130) (Q := fun p => (p, 31, p + 29) ∈ xl_P) (by decide +kernel) (by decide +kernel) (by decide +kernel))) ?_
    by_cases c131 : G129 0 22 < 0
    · rw [if_pos c131] at e; cases e
    rw [if_neg c131] at e
    refine xok_eqb (h128.itp c131) ?_
    refine xok_eqb (h128.gi (o := (G129 0 22).toNat) (c := 14) (k := 37) (n := 38) (xoP_o (h128.itt c131)).1 (xoP_o (h128.itt c131)).2 (by decide) (by decide)) ?_
    by_cases c132 : 0 ≤ (a1) ∧ (a1) < 200
    · skip
      rw [if_pos c132] at e
      obtain ⟨M133, q134, h135⟩ := h128.si (o := (G129 0 22).toNat + 29) (n := 200) (v := G129 ((G129 0 22).toNat) 37) (xoP_all (h128.itt c130) (Q := fun p => p + 29 < 276) (by decide) (by decide) (by decide)) (xoP_all (h128.itt c130) (Q := fun p => xl_t (p + 29) = (2, 3, 200)) rfl rfl rfl) c132.1 c132.2 (h128.gin (o := (G129 0 22).toNat) (c := 14) (k := 37) (n := 38) (xoP_o (h128.itt c131)).1 (xoP_o (h128.itt c131)).2 (by decide) (by decide))
      refine xok_eqb q134 ?_
      obtain ⟨G136, g1, e⟩ := xbnd e
      cases g1
      have h135_ : xRX m M0 M133 (xup2 G129 ((G129 0 22).toNat + 29) (a1).toNat (G129 ((G129 0 22).toNat) 37)) := h135
      generalize hGG136 : (xup2 G129 ((G129 0 22).toNat + 29) (a1).toNat (G129 ((G129 0 22).toNat) 37)) = G136 at e h135
      clear h135_ hGG136
      obtain ⟨R137, e138, e⟩ := xbnd e
      refine xok_eqb (h135.is (o := 0) (c := 15) (by decide) rfl) ?_
      refine xok_call (sg220 hI  h135 (show xin (61) by decide) e138) ?_
      rintro ⟨v_, M141⟩ ⟨hv_, h139, hi140⟩
      cases hv_
      refine xok_ite (fun c142 => ?_) (fun c142 => ?_)
      · rw [if_pos c142] at e
        exact s248_92 hI   h139 ta1 e
      · rw [if_neg c142] at e
        obtain ⟨R143, e144, e⟩ := xbnd e
        refine xok_eqb (h139.is (o := 0) (c := 15) (by decide) rfl) ?_
        refine xok_call (sg220 hI  h139 (show xin (301) by decide) e144) ?_
        rintro ⟨v_, M147⟩ ⟨hv_, h145, hi146⟩
        cases hv_
        refine xok_ite (fun c148 => ?_) (fun c148 => ?_)
        · rw [if_pos c148] at e
          exact s248_92 hI   h145 ta1 e
        · rw [if_neg c148] at e
          obtain ⟨R149, e150, e⟩ := xbnd e
          refine xok_eqb (h145.is (o := 0) (c := 15) (by decide) rfl) ?_
          refine xok_call (sg220 hI  h145 (show xin (60) by decide) e150) ?_
          rintro ⟨v_, M153⟩ ⟨hv_, h151, hi152⟩
          cases hv_
          refine xok_ite (fun c154 => ?_) (fun c154 => ?_)
          · rw [if_pos c154] at e
            exact s248_92 hI   h151 ta1 e
          · rw [if_neg c154] at e
            obtain ⟨R155, e156, e⟩ := xbnd e
            refine xok_eqb (h151.is (o := 0) (c := 15) (by decide) rfl) ?_
            refine xok_call (sg220 hI  h151 (show xin (302) by decide) e156) ?_
            rintro ⟨v_, M159⟩ ⟨hv_, h157, hi158⟩
            cases hv_
            refine xok_ite (fun c160 => ?_) (fun c160 => ?_)
            · rw [if_pos c160] at e
              exact s248_92 hI   h157 ta1 e
            · rw [if_neg c160] at e
              obtain ⟨R161, e162, e⟩ := xbnd e
              refine xok_eqb (h157.is (o := 0) (c := 15) (by decide) rfl) ?_
              refine xok_call (sg220 hI  h157 (show xin (62) by decide) e162) ?_
              rintro ⟨v_, M165⟩ ⟨hv_, h163, hi164⟩
              cases hv_
              refine xok_ite (fun c166 => ?_) (fun c166 => ?_)
              · rw [if_pos c166] at e
                exact s248_92 hI   h163 ta1 e
              · rw [if_neg c166] at e
                obtain ⟨R167, e168, e⟩ := xbnd e
                refine xok_eqb (h163.is (o := 0) (c := 15) (by decide) rfl) ?_
                refine xok_call (sg220 hI  h163 (show xin (303) by decide) e168) ?_
                rintro ⟨v_, M171⟩ ⟨hv_, h169, hi170⟩
                cases hv_
                refine xok_ite (fun c172 => ?_) (fun c172 => ?_)
                · rw [if_pos c172] at e
                  exact s248_92 hI   h169 ta1 e
                · rw [if_neg c172] at e
                  refine xok_eqb (h169.gi (o := 0) (c := 15) (k := 4) (n := 107) (by decide) rfl (by decide) (by decide)) ?_
                  obtain ⟨R173, e174, e⟩ := xbnd e
                  refine xok_eqb (h169.is (o := 0) (c := 15) (by decide) rfl) ?_
                  refine xok_call (sg210 hI  h169 (h169.gin (o := 0) (c := 15) (k := 4) (n := 107) (by decide) rfl (by decide) (by decide)) e174) ?_
                  intro M177 h175
                  cases e
                  exact ⟨_, rfl, h175⟩
    · rw [if_neg c132] at e; cases e
  · rw [if_neg c125] at e; cases e
-- ChangeHouseModel.finishWay
theorem s276_23 {m f : Nat} {M0 M : xj_M} {G : xG_} (hI : xHI f)     (h : xRX m M0 M G) {x1 : Int} {R : xG_} (tx1 : xin x1) (e : g276_23   f x1 G = some R) : xok (f276_23   f m x1 M) (fun r => xRX m M0 r R) := by
  unfold g276_23 at e
  unfold f276_23
  obtain ⟨M101, q102, h103⟩ := h.pi (v := x1) (o := 0) (c := 15) (k := 37) (n := 107) (by decide) rfl (by decide) (by decide) tx1
  refine xok_eqb q102 ?_
  obtain ⟨G104, g1, e⟩ := xbnd e
  cases g1
  have h103_ : xRX m M0 M101 (xup2 G (0) 37 (x1)) := h103
  generalize hGG104 : (xup2 G (0) 37 (x1)) = G104 at e h103
  clear h103_ hGG104
  cases e
  exact ⟨_, rfl, h103⟩
theorem sg276 {m f : Nat} {M0 M : xj_M} {G : xG_} (hI : xHI f)   (h : xRX m M0 M G)  {R : xG_}  (e : g276  f  G = some R) : xok (f276  f m M) (fun r => xRX m M0 r R) := by
  unfold g276 at e
  unfold f276
  refine xok_eqb (h.gi (o := 0) (c := 15) (k := 37) (n := 107) (by decide) rfl (by decide) (by decide)) ?_
  obtain ⟨R105, e106, e⟩ := xbnd e
  refine xok_eqb (h.is (o := 0) (c := 15) (by decide) rfl) ?_
  refine xok_call (sg277 hI  h  e106) ?_
  rintro ⟨v_, M109⟩ ⟨hv_, h107, hi108⟩
  cases hv_
  refine xok_ite (fun c110 => ?_) (fun c110 => ?_)
  · rw [if_pos c110] at e
    exact s276_23 hI   h107 (h.gin (o := 0) (c := 15) (k := 37) (n := 107) (by decide) rfl (by decide) (by decide)) e
  · rw [if_neg c110] at e
    obtain ⟨R111, e112, e⟩ := xbnd e
    refine xok_eqb (h107.is (o := 0) (c := 15) (by decide) rfl) ?_
    refine xok_call (sg279 hI  h107  e112) ?_
    rintro ⟨v_, M115⟩ ⟨hv_, h113, hi114⟩
    cases hv_
    refine xok_ite (fun c116 => ?_) (fun c116 => ?_)
    · rw [if_pos c116] at e
      exact s276_23 hI   h113 (h.gin (o := 0) (c := 15) (k := 37) (n := 107) (by decide) rfl (by decide) (by decide)) e
    · rw [if_neg c116] at e
      obtain ⟨R117, e118, e⟩ := xbnd e
      refine xok_eqb (h113.is (o := 0) (c := 15) (by decide) rfl) ?_
      refine xok_call (sg283 hI  h113  e118) ?_
      intro M121 h119
      exact s276_23 hI   h119 (h.gin (o := 0) (c := 15) (k := 37) (n := 107) (by decide) rfl (by decide) (by decide)) e
-- ChangeHouseModel.strong
theorem s335_5b {m f : Nat} {M0 M : xj_M} {G : xG_} (hI : xHI f) {q334 : xG_ → Option (Int × xG_)} {p334 : Nat → xj_M → Option (Int × xj_M)} {r5 : Int → xG_ → Option (Int × xG_)} {o5 : Nat → Int → xj_M → Option (Int × xj_M)} (hq334 : ∀ {M : xj_M} {G : xG_}  {R : Int × xG_}, xRX m M0 M G → q334  G = some R → xok (p334 m M) (fun r => r.1 = R.1 ∧ xRX m M0 r.2 R.2 ∧ xin R.1)) (hr5 : ∀ {M : xj_M} {G : xG_} {x1 : Int} {R : Int × xG_}, xRX m M0 M G → xin x1 → r5 x1 G = some R → xok (o5 m x1 M) (fun r => r.1 = R.1 ∧ xRX m M0 r.2 R.2 ∧ xin R.1)) (h : xRX m M0 M G) {x1 : Int} {R : Int × xG_} (tx1 : xin x1) (e : g335_5b q334 r5 f x1 G = some R) : xok (f335_5b p334 o5 f m x1 M) (fun r => r.1 = R.1 ∧ xRX m M0 r.2 R.2 ∧ xin R.1) := by
  unfold g335_5b at e
  unfold f335_5b
  obtain ⟨R101, e102, e⟩ := xbnd e
  refine xok_eqb (h.is (o := 0) (c := 15) (by decide) rfl) ?_
  refine xok_call (sg242 hI  h (show xin (1) by decide) e102) ?_
  rintro ⟨v_, M105⟩ ⟨hv_, h103, hi104⟩
  cases hv_
  refine xok_ite (fun c106 => ?_) (fun c106 => ?_)
  · rw [if_pos c106] at e
    cases e
    exact ⟨_, rfl, rfl, h103, tx1⟩
  · rw [if_neg c106] at e
    refine xok_eqb (h103.gi (o := 0) (c := 15) (k := 3) (n := 107) (by decide) rfl (by decide) (by decide)) ?_
    obtain ⟨R107, e108, e⟩ := xbnd e
    refine xok_eqb (h103.is (o := 0) (c := 15) (by decide) rfl) ?_
    refine xok_call (sg213 hI  h103  e108) ?_
    intro M111 h109
    obtain ⟨R112, e113, e⟩ := xbnd e
    refine xok_eqb (h109.is (o := 0) (c := 15) (by decide) rfl) ?_
    refine xok_call (sg338 hI hq334 h109  e113) ?_
    rintro ⟨v_, M116⟩ ⟨hv_, h114, hi115⟩
    cases hv_
    obtain ⟨R117, e118, e⟩ := xbnd e
    refine xok_eqb (h114.is (o := 0) (c := 15) (by decide) rfl) ?_
    refine xok_call (sg331 hI  h114 (show xin (3) by decide) tx1 hi115 (h103.gin (o := 0) (c := 15) (k := 3) (n := 107) (by decide) rfl (by decide) (by decide)) (show xiN (0) by decide) e118) ?_
    rintro ⟨v_, M121⟩ ⟨hv_, h119, hi120⟩
    cases hv_
    exact hr5 h119 hi120 e
theorem s335_5 {m f : Nat} {M0 : xj_M} (hI : xHI f) {q334 : xG_ → Option (Int × xG_)} {p334 : Nat → xj_M → Option (Int × xj_M)}  (hq334 : ∀ {M : xj_M} {G : xG_}  {R : Int × xG_}, xRX m M0 M G → q334  G = some R → xok (p334 m M) (fun r => r.1 = R.1 ∧ xRX m M0 r.2 R.2 ∧ xin R.1))  : ∀ {n : Nat} {M : xj_M} {G : xG_} {x1 : Int} {R : Int × xG_}, xRX m M0 M G → xin x1 → g335_5 q334  f n x1 G = some R → xok (f335_5 p334  f n m x1 M) (fun r => r.1 = R.1 ∧ xRX m M0 r.2 R.2 ∧ xin R.1) := by
  intro n
  induction n with
  | zero => intros; rename_i e; cases e
  | succ n ih =>
    intros
    rename_i h i0 e
    exact s335_5b hI hq334  ih h i0 e
theorem sg335 {m f : Nat} {M0 M : xj_M} {G : xG_} (hI : xHI f) {q334 : xG_ → Option (Int × xG_)} {p334 : Nat → xj_M → Option (Int × xj_M)} (hq334 : ∀ {M : xj_M} {G : xG_}  {R : Int × xG_}, xRX m M0 M G → q334  G = some R → xok (p334 m M) (fun r => r.1 = R.1 ∧ xRX m M0 r.2 R.2 ∧ xin R.1)) (h : xRX m M0 M G)  {R : Int × xG_}  (e : g335 q334 f  G = some R) : xok (f335 p334 f m M) (fun r => r.1 = R.1 ∧ xRX m M0 r.2 R.2 ∧ xin R.1) := by
  unfold g335 at e
  unfold f335
  obtain ⟨R122, e123, e⟩ := xbnd e
  refine xok_eqb (h.is (o := 0) (c := 15) (by decide) rfl) ?_
  refine xok_call (sg338 hI hq334 h  e123) ?_
  rintro ⟨v_, M126⟩ ⟨hv_, h124, hi125⟩
  cases hv_
  exact s335_5 hI hq334  h124 hi125 e
-- ChangeHouseModel.readItem
theorem s238_236 {m f : Nat} {M0 M : xj_M} {G : xG_} (hI : xHI f)     (h : xRX m M0 M G) {x1 : Int} {R : xG_} (tx1 : xin x1) (e : g238_236   f x1 G = some R) : xok (f238_236   f m x1 M) (fun r => xRX m M0 r R) := by
  unfold g238_236 at e
  unfold f238_236
  by_cases c101 : G 0 22 < 0
  · rw [if_pos c101] at e; cases e
  rw [if_neg c101] at e
  refine xok_eqb (h.itp c101) ?_
  refine xok_eqb (h.pt (o := (G 0 22).toNat) (c := 14) (k := 24) (t := (G 0 22).toNat + 22) (n := 38) (xoP_o (h.itt c101)).1 (xoP_o (h.itt c101)).2 (by decide) (xoP_all (h.itt c101) (Q := fun p => (p, 24, p + 22) ∈ xl_P) (by decide +kernel) (by decide +kernel) (by decide +kernel))) ?_
  by_cases c102 : G 0 22 < 0
  · rw [if_pos c102] at e; cases e
  rw [if_neg c102] at e
  refine xok_eqb (h.itp c102) ?_
  refine xok_eqb (h.gi (o := (G 0 22).toNat) (c := 14) (k := 37) (n := 38) (xoP_o (h.itt c102)).1 (xoP_o (h.itt c102)).2 (by decide) (by decide)) ?_
  by_cases c103 : 0 ≤ (x1) ∧ (x1) < 100
  · skip
    rw [if_pos c103] at e
    obtain ⟨M104, q105, h106⟩ := h.si (o := (G 0 22).toNat + 22) (n := 100) (v := G ((G 0 22).toNat) 37) (xoP_all (h.itt c101) (Q := fun p => p + 22 < 276) (by decide) (by decide) (by decide)) (xoP_all (h.itt c101) (Q := fun p => xl_t (p + 22) = (2, 3, 100)) rfl rfl rfl) c103.1 c103.2 (h.gin (o := (G 0 22).toNat) (c := 14) (k := 37) (n := 38) (xoP_o (h.itt c102)).1 (xoP_o (h.itt c102)).2 (by decide) (by decide))
    refine xok_eqb q105 ?_
    obtain ⟨G107, g1, e⟩ := xbnd e
    cases g1
    have h106_ : xRX m M0 M104 (xup2 G ((G 0 22).toNat + 22) (x1).toNat (G ((G 0 22).toNat) 37)) := h106
    generalize hGG107 : (xup2 G ((G 0 22).toNat + 22) (x1).toNat (G ((G 0 22).toNat) 37)) = G107 at e h106
    clear h106_ hGG107
    by_cases c108 : G107 0 22 < 0
    · rw [if_pos c108] at e; cases e
    rw [if_neg c108] at e
    refine xok_eqb (h106.itp c108) ?_
    refine xok_eqb (h106.pt (o := (G107 0 22).toNat) (c := 14) (k := 17) (t := (G107 0 22).toNat + 15) (n := 38) (xoP_o (h106.itt c108)).1 (xoP_o (h106.itt c108)).2 (by decide) (xoP_all (h106.itt c108) (Q := fun p => (p, 17, p + 15) ∈ xl_P) (by decide +kernel) (by decide +kernel) (by decide +kernel))) ?_
    refine xok_eqb (h106.gi (o := 0) (c := 15) (k := 23) (n := 107) (by decide) rfl (by decide) (by decide)) ?_
    by_cases c109 : 0 ≤ (G107 (0) 23) ∧ (G107 (0) 23) < 25
    · skip
      rw [if_pos c109] at e
      refine xok_eqb (h106.ai (o := (G107 0 22).toNat + 15) (n := 25) (xoP_all (h106.itt c108) (Q := fun p => p + 15 < 276) (by decide) (by decide) (by decide)) (xoP_all (h106.itt c108) (Q := fun p => xl_t (p + 15) = (2, 3, 25)) rfl rfl rfl) (by decide) c109.1 c109.2) ?_
      by_cases c110 : 0 ≤ (G107 (0) 23) ∧ (G107 (0) 23) < 25
      · skip
        rw [if_pos c110] at e
        obtain ⟨M111, q112, h113⟩ := h106.si (o := (G107 0 22).toNat + 15) (n := 25) (v := xwr ((G107 ((G107 0 22).toNat + 15) (G107 (0) 23).toNat) + (1))) (xoP_all (h106.itt c108) (Q := fun p => p + 15 < 276) (by decide) (by decide) (by decide)) (xoP_all (h106.itt c108) (Q := fun p => xl_t (p + 15) = (2, 3, 25)) rfl rfl rfl) c110.1 c110.2 (xin_wr _)
        refine xok_eqb q112 ?_
        obtain ⟨G114, g1, e⟩ := xbnd e
        cases g1
        have h113_ : xRX m M0 M111 (xup2 G107 ((G107 0 22).toNat + 15) (G107 (0) 23).toNat (xwr ((G107 ((G107 0 22).toNat + 15) (G107 (0) 23).toNat) + (1)))) := h113
        generalize hGG114 : (xup2 G107 ((G107 0 22).toNat + 15) (G107 (0) 23).toNat (xwr ((G107 ((G107 0 22).toNat + 15) (G107 (0) 23).toNat) + (1)))) = G114 at e h113
        clear h113_ hGG114
        cases e
        exact ⟨_, rfl, h113⟩
      · rw [if_neg c110] at e; cases e
    · rw [if_neg c109] at e; cases e
  · rw [if_neg c103] at e; cases e
theorem s238_230 {m f : Nat} {M0 M : xj_M} {G : xG_} (hI : xHI f)     (h : xRX m M0 M G) {x1 : Int} {R : xG_} (tx1 : xin x1) (e : g238_230   f x1 G = some R) : xok (f238_230   f m x1 M) (fun r => xRX m M0 r R) := by
  unfold g238_230 at e
  unfold f238_230
  obtain ⟨R115, e116, e⟩ := xbnd e
  refine xok_eqb (h.is (o := 0) (c := 15) (by decide) rfl) ?_
  refine xok_call (sg222 hI  h (show xin (41) by decide) e116) ?_
  intro M119 h117
  exact s238_236 hI   h117 tx1 e
theorem s238_89 {m f : Nat} {M0 M : xj_M} {G : xG_} (hI : xHI f)     (h : xRX m M0 M G) {x1 : Int} {y0 : Int} {R : xG_} (tx1 : xin x1) (ty0 : xin y0) (e : g238_89   f x1 y0 G = some R) : xok (f238_89   f m x1 y0 M) (fun r => xRX m M0 r R) := by
  unfold g238_89 at e
  unfold f238_89
  by_cases c120 : G 0 22 < 0
  · rw [if_pos c120] at e; cases e
  rw [if_neg c120] at e
  refine xok_eqb (h.itp c120) ?_
  refine xok_eqb (h.pt (o := (G 0 22).toNat) (c := 14) (k := 23) (t := (G 0 22).toNat + 21) (n := 38) (xoP_o (h.itt c120)).1 (xoP_o (h.itt c120)).2 (by decide) (xoP_all (h.itt c120) (Q := fun p => (p, 23, p + 21) ∈ xl_P) (by decide +kernel) (by decide +kernel) (by decide +kernel))) ?_
  by_cases c121 : G 0 22 < 0
  · rw [if_pos c121] at e; cases e
  rw [if_neg c121] at e
  refine xok_eqb (h.itp c121) ?_
  refine xok_eqb (h.gi (o := (G 0 22).toNat) (c := 14) (k := 37) (n := 38) (xoP_o (h.itt c121)).1 (xoP_o (h.itt c121)).2 (by decide) (by decide)) ?_
  by_cases c122 : 0 ≤ (x1) ∧ (x1) < 100
  · skip
    rw [if_pos c122] at e
    obtain ⟨M123, q124, h125⟩ := h.si (o := (G 0 22).toNat + 21) (n := 100) (v := G ((G 0 22).toNat) 37) (xoP_all (h.itt c120) (Q := fun p => p + 21 < 276) (by decide) (by decide) (by decide)) (xoP_all (h.itt c120) (Q := fun p => xl_t (p + 21) = (2, 3, 100)) rfl rfl rfl) c122.1 c122.2 (h.gin (o := (G 0 22).toNat) (c := 14) (k := 37) (n := 38) (xoP_o (h.itt c121)).1 (xoP_o (h.itt c121)).2 (by decide) (by decide))
    refine xok_eqb q124 ?_
    obtain ⟨G126, g1, e⟩ := xbnd e
    cases g1
    have h125_ : xRX m M0 M123 (xup2 G ((G 0 22).toNat + 21) (x1).toNat (G ((G 0 22).toNat) 37)) := h125
    generalize hGG126 : (xup2 G ((G 0 22).toNat + 21) (x1).toNat (G ((G 0 22).toNat) 37)) = G126 at e h125
    clear h125_ hGG126
    refine xok_ite (fun c127 => ?_) (fun c127 => ?_)
    · rw [if_pos c127] at e
      by_cases c128 : G126 0 22 < 0
      · rw [if_pos c128] at e; cases e
      rw [if_neg c128] at e
      refine xok_eqb (h125.itp c128) ?_
      refine xok_eqb (h125.pt (o := (G126 0 22).toNat) (c := 14) (k := 18) (t := (G126 0 22).toNat + 16) (n := 38) (xoP_o (h125.itt c128)).1 (xoP_o (h125.itt c128)).2 (by decide) (xoP_all (h125.itt c128) (Q := fun p => (p, 18, p + 16) ∈ xl_P) (by decide +kernel) (by decide +kernel) (by decide +kernel))) ?_
      refine xok_eqb (h125.gi (o := 0) (c := 15) (k := 23) (n := 107) (by decide) rfl (by decide) (by decide)) ?_
      by_cases c129 : 0 ≤ (G126 (0) 23) ∧ (G126 (0) 23) < 25
      · skip
        rw [if_pos c129] at e
        refine xok_eqb (h125.ai (o := (G126 0 22).toNat + 16) (n := 25) (xoP_all (h125.itt c128) (Q := fun p => p + 16 < 276) (by decide) (by decide) (by decide)) (xoP_all (h125.itt c128) (Q := fun p => xl_t (p + 16) = (2, 3, 25)) rfl rfl rfl) (by decide) c129.1 c129.2) ?_
        refine xok_ite (fun c130 => ?_) (fun c130 => ?_)
        · rw [if_pos c130] at e
          by_cases c131 : G126 0 22 < 0
          · rw [if_pos c131] at e; cases e
          rw [if_neg c131] at e
          refine xok_eqb (h125.itp c131) ?_
          refine xok_eqb (h125.pt (o := (G126 0 22).toNat) (c := 14) (k := 18) (t := (G126 0 22).toNat + 16) (n := 38) (xoP_o (h125.itt c131)).1 (xoP_o (h125.itt c131)).2 (by decide) (xoP_all (h125.itt c131) (Q := fun p => (p, 18, p + 16) ∈ xl_P) (by decide +kernel) (by decide +kernel) (by decide +kernel))) ?_
          refine xok_eqb (h125.gi (o := 0) (c := 15) (k := 23) (n := 107) (by decide) rfl (by decide) (by decide)) ?_
          by_cases c132 : 0 ≤ (G126 (0) 23) ∧ (G126 (0) 23) < 25
          · skip
            rw [if_pos c132] at e
            obtain ⟨M133, q134, h135⟩ := h125.si (o := (G126 0 22).toNat + 16) (n := 25) (v := y0) (xoP_all (h125.itt c131) (Q := fun p => p + 16 < 276) (by decide) (by decide) (by decide)) (xoP_all (h125.itt c131) (Q := fun p => xl_t (p + 16) = (2, 3, 25)) rfl rfl rfl) c132.1 c132.2 ty0
            refine xok_eqb q134 ?_
            obtain ⟨G136, g1, e⟩ := xbnd e
            cases g1
            have h135_ : xRX m M0 M133 (xup2 G126 ((G126 0 22).toNat + 16) (G126 (0) 23).toNat (y0)) := h135
            generalize hGG136 : (xup2 G126 ((G126 0 22).toNat + 16) (G126 (0) 23).toNat (y0)) = G136 at e h135
            clear h135_ hGG136
            by_cases c137 : G136 0 22 < 0
            · rw [if_pos c137] at e; cases e
            rw [if_neg c137] at e
            refine xok_eqb (h135.itp c137) ?_
            refine xok_eqb (h135.pt (o := (G136 0 22).toNat) (c := 14) (k := 19) (t := (G136 0 22).toNat + 17) (n := 38) (xoP_o (h135.itt c137)).1 (xoP_o (h135.itt c137)).2 (by decide) (xoP_all (h135.itt c137) (Q := fun p => (p, 19, p + 17) ∈ xl_P) (by decide +kernel) (by decide +kernel) (by decide +kernel))) ?_
            refine xok_eqb (h135.gi (o := 0) (c := 15) (k := 23) (n := 107) (by decide) rfl (by decide) (by decide)) ?_
            by_cases c138 : G136 0 22 < 0
            · rw [if_pos c138] at e; cases e
            rw [if_neg c138] at e
            refine xok_eqb (h135.itp c138) ?_
            refine xok_eqb (h135.pt (o := (G136 0 22).toNat) (c := 14) (k := 17) (t := (G136 0 22).toNat + 15) (n := 38) (xoP_o (h135.itt c138)).1 (xoP_o (h135.itt c138)).2 (by decide) (xoP_all (h135.itt c138) (Q := fun p => (p, 17, p + 15) ∈ xl_P) (by decide +kernel) (by decide +kernel) (by decide +kernel))) ?_
            refine xok_eqb (h135.gi (o := 0) (c := 15) (k := 23) (n := 107) (by decide) rfl (by decide) (by decide)) ?_
            by_cases c139 : 0 ≤ (G136 (0) 23) ∧ (G136 (0) 23) < 25
            · skip
              rw [if_pos c139] at e
              refine xok_eqb (h135.ai (o := (G136 0 22).toNat + 15) (n := 25) (xoP_all (h135.itt c138) (Q := fun p => p + 15 < 276) (by decide) (by decide) (by decide)) (xoP_all (h135.itt c138) (Q := fun p => xl_t (p + 15) = (2, 3, 25)) rfl rfl rfl) (by decide) c139.1 c139.2) ?_
              by_cases c140 : 0 ≤ (G136 (0) 23) ∧ (G136 (0) 23) < 25
              · skip
                rw [if_pos c140] at e
                obtain ⟨M141, q142, h143⟩ := h135.si (o := (G136 0 22).toNat + 17) (n := 25) (v := G136 ((G136 0 22).toNat + 15) (G136 (0) 23).toNat) (xoP_all (h135.itt c137) (Q := fun p => p + 17 < 276) (by decide) (by decide) (by decide)) (xoP_all (h135.itt c137) (Q := fun p => xl_t (p + 17) = (2, 3, 25)) rfl rfl rfl) c140.1 c140.2 (h135.ain (o := (G136 0 22).toNat + 15) (n := 25) (xoP_all (h135.itt c138) (Q := fun p => p + 15 < 276) (by decide) (by decide) (by decide)) (xoP_all (h135.itt c138) (Q := fun p => xl_t (p + 15) = (2, 3, 25)) rfl rfl rfl) (by decide) c139.1 c139.2)
                refine xok_eqb q142 ?_
                obtain ⟨G144, g1, e⟩ := xbnd e
                cases g1
                have h143_ : xRX m M0 M141 (xup2 G136 ((G136 0 22).toNat + 17) (G136 (0) 23).toNat (G136 ((G136 0 22).toNat + 15) (G136 (0) 23).toNat)) := h143
                generalize hGG144 : (xup2 G136 ((G136 0 22).toNat + 17) (G136 (0) 23).toNat (G136 ((G136 0 22).toNat + 15) (G136 (0) 23).toNat)) = G144 at e h143
                clear h143_ hGG144
                obtain ⟨R145, e146, e⟩ := xbnd e
                refine xok_eqb (h143.is (o := 0) (c := 15) (by decide) rfl) ?_
                refine xok_call (sg213 hI  h143  e146) ?_
                intro M149 h147
                obtain ⟨R150, e151, e⟩ := xbnd e
                refine xok_eqb (h147.is (o := 0) (c := 15) (by decide) rfl) ?_
                refine xok_call (sg222 hI  h147 (show xin (40) by decide) e151) ?_
                intro M154 h152
                refine xok_ite (fun c155 => ?_) (fun c155 => ?_)
                · rw [if_pos c155] at e
                  exact s238_230 hI   h152 tx1 e
                · rw [if_neg c155] at e
                  obtain ⟨R156, e157, e⟩ := xbnd e
                  refine xok_eqb (h152.is (o := 0) (c := 15) (by decide) rfl) ?_
                  refine xok_call (sg221 hI  h152 (show xin (3) by decide) e157) ?_
                  rintro ⟨v_, M160⟩ ⟨hv_, h158, hi159⟩
                  cases hv_
                  refine xok_ite (fun c161 => ?_) (fun c161 => ?_)
                  · rw [if_pos c161] at e
                    refine xok_eqb (h158.gi (o := 0) (c := 15) (k := 4) (n := 107) (by decide) rfl (by decide) (by decide)) ?_
                    obtain ⟨R162, e163, e⟩ := xbnd e
                    refine xok_eqb (h158.is (o := 0) (c := 15) (by decide) rfl) ?_
                    refine xok_call (sg210 hI  h158 (h158.gin (o := 0) (c := 15) (k := 4) (n := 107) (by decide) rfl (by decide) (by decide)) e163) ?_
                    intro M166 h164
                    exact s238_230 hI   h164 tx1 e
                  · rw [if_neg c161] at e
                    by_cases c167 : R156.2 0 22 < 0
                    · rw [if_pos c167] at e; cases e
                    rw [if_neg c167] at e
                    refine xok_eqb (h158.itp c167) ?_
                    refine xok_eqb (h158.pt (o := (R156.2 0 22).toNat) (c := 14) (k := 20) (t := (R156.2 0 22).toNat + 18) (n := 38) (xoP_o (h158.itt c167)).1 (xoP_o (h158.itt c167)).2 (by decide) (xoP_all (h158.itt c167) (Q := fun p => (p, 20, p + 18) ∈ xl_P) (by decide +kernel) (by decide +kernel) (by decide +kernel))) ?_
                    refine xok_eqb (h158.gi (o := 0) (c := 15) (k := 23) (n := 107) (by decide) rfl (by decide) (by decide)) ?_
                    obtain ⟨R168, e169, e⟩ := xbnd e
                    refine xok_eqb (h158.is (o := 0) (c := 15) (by decide) rfl) ?_
                    refine xok_call (sg239 hI  h158  e169) ?_
                    rintro ⟨v_, M172⟩ ⟨hv_, h170, hi171⟩
                    cases hv_
                    by_cases c173 : 0 ≤ (R156.2 (0) 23) ∧ (R156.2 (0) 23) < 25
                    · skip
                      rw [if_pos c173] at e
                      obtain ⟨M174, q175, h176⟩ := h170.si (o := (R156.2 0 22).toNat + 18) (n := 25) (v := R168.1) (xoP_all (h158.itt c167) (Q := fun p => p + 18 < 276) (by decide) (by decide) (by decide)) (xoP_all (h158.itt c167) (Q := fun p => xl_t (p + 18) = (2, 3, 25)) rfl rfl rfl) c173.1 c173.2 hi171
                      refine xok_eqb q175 ?_
                      obtain ⟨G177, g1, e⟩ := xbnd e
                      cases g1
                      have h176_ : xRX m M0 M174 (xup2 R168.2 ((R156.2 0 22).toNat + 18) (R156.2 (0) 23).toNat (R168.1)) := h176
                      generalize hGG177 : (xup2 R168.2 ((R156.2 0 22).toNat + 18) (R156.2 (0) 23).toNat (R168.1)) = G177 at e h176
                      clear h176_ hGG177
                      exact s238_230 hI   h176 tx1 e
                    · rw [if_neg c173] at e; cases e
              · rw [if_neg c140] at e; cases e
            · rw [if_neg c139] at e; cases e
          · rw [if_neg c132] at e; cases e
        · rw [if_neg c130] at e
          refine xok_eqb (h125.gi (o := 0) (c := 15) (k := 4) (n := 107) (by decide) rfl (by decide) (by decide)) ?_
          obtain ⟨R178, e179, e⟩ := xbnd e
          refine xok_eqb (h125.is (o := 0) (c := 15) (by decide) rfl) ?_
          refine xok_call (sg210 hI  h125 (h125.gin (o := 0) (c := 15) (k := 4) (n := 107) (by decide) rfl (by decide) (by decide)) e179) ?_
          intro M182 h180
          exact s238_236 hI   h180 tx1 e
      · rw [if_neg c129] at e; cases e
    · rw [if_neg c127] at e
      obtain ⟨R183, e184, e⟩ := xbnd e
      refine xok_eqb (h125.is (o := 0) (c := 15) (by decide) rfl) ?_
      refine xok_call (sg243 hI  h125  e184) ?_
      intro M187 h185
      exact s238_236 hI   h185 tx1 e
  · rw [if_neg c122] at e; cases e
theorem sg238 {m f : Nat} {M0 M : xj_M} {G : xG_} (hI : xHI f)   (h : xRX m M0 M G)  {R : xG_}  (e : g238  f  G = some R) : xok (f238  f m M) (fun r => xRX m M0 r R) := by
  unfold g238 at e
  unfold f238
  obtain ⟨R188, e189, e⟩ := xbnd e
  refine xok_eqb (h.is (o := 0) (c := 15) (by decide) rfl) ?_
  refine xok_call (sg211 hI  h  e189) ?_
  rintro ⟨v_, M192⟩ ⟨hv_, h190, hi191⟩
  cases hv_
  refine xok_ite (fun c193 => ?_) (fun c193 => ?_)
  · rw [if_pos c193] at e
    refine xok_eqb (h190.gi (o := 0) (c := 15) (k := 23) (n := 107) (by decide) rfl (by decide) (by decide)) ?_
    by_cases c194 : R188.2 0 22 < 0
    · rw [if_pos c194] at e; cases e
    rw [if_neg c194] at e
    refine xok_eqb (h190.itp c194) ?_
    refine xok_eqb (h190.pt (o := (R188.2 0 22).toNat) (c := 14) (k := 17) (t := (R188.2 0 22).toNat + 15) (n := 38) (xoP_o (h190.itt c194)).1 (xoP_o (h190.itt c194)).2 (by decide) (xoP_all (h190.itt c194) (Q := fun p => (p, 17, p + 15) ∈ xl_P) (by decide +kernel) (by decide +kernel) (by decide +kernel))) ?_
    refine xok_eqb (h190.gi (o := 0) (c := 15) (k := 23) (n := 107) (by decide) rfl (by decide) (by decide)) ?_
    by_cases c195 : 0 ≤ (R188.2 (0) 23) ∧ (R188.2 (0) 23) < 25
    · skip
      rw [if_pos c195] at e
      refine xok_eqb (h190.ai (o := (R188.2 0 22).toNat + 15) (n := 25) (xoP_all (h190.itt c194) (Q := fun p => p + 15 < 276) (by decide) (by decide) (by decide)) (xoP_all (h190.itt c194) (Q := fun p => xl_t (p + 15) = (2, 3, 25)) rfl rfl rfl) (by decide) c195.1 c195.2) ?_
      refine xok_eqb (h190.gl (o := 0) (c := 15) (k := 16) (n := 107) (by decide) rfl (by decide) (by decide)) ?_
      obtain ⟨R196, e197, e⟩ := xbnd e
      refine xok_eqb (h190.is (o := 0) (c := 15) (by decide) rfl) ?_
      refine xok_call (sg225 hI  h190 (h190.gln (o := 0) (c := 15) (k := 16) (n := 107) (by decide) rfl (by decide) (by decide)) e197) ?_
      rintro ⟨v_, M200⟩ ⟨hv_, h198, hi199⟩
      cases hv_
      refine xok_ite (fun c201 => ?_) (fun c201 => ?_)
      · rw [if_pos c201] at e
        refine xok_eqb (h198.gl (o := 0) (c := 15) (k := 17) (n := 107) (by decide) rfl (by decide) (by decide)) ?_
        obtain ⟨R202, e203, e⟩ := xbnd e
        refine xok_eqb (h198.is (o := 0) (c := 15) (by decide) rfl) ?_
        refine xok_call (sg225 hI  h198 (h198.gln (o := 0) (c := 15) (k := 17) (n := 107) (by decide) rfl (by decide) (by decide)) e203) ?_
        rintro ⟨v_, M206⟩ ⟨hv_, h204, hi205⟩
        cases hv_
        refine xok_ite (fun c207 => ?_) (fun c207 => ?_)
        · rw [if_pos c207] at e
          refine xok_eqb (h204.gl (o := 0) (c := 15) (k := 18) (n := 107) (by decide) rfl (by decide) (by decide)) ?_
          obtain ⟨R208, e209, e⟩ := xbnd e
          refine xok_eqb (h204.is (o := 0) (c := 15) (by decide) rfl) ?_
          refine xok_call (sg225 hI  h204 (h204.gln (o := 0) (c := 15) (k := 18) (n := 107) (by decide) rfl (by decide) (by decide)) e209) ?_
          rintro ⟨v_, M212⟩ ⟨hv_, h210, hi211⟩
          cases hv_
          refine xok_ite (fun c213 => ?_) (fun c213 => ?_)
          · rw [if_pos c213] at e
            refine xok_eqb (h210.gl (o := 0) (c := 15) (k := 19) (n := 107) (by decide) rfl (by decide) (by decide)) ?_
            obtain ⟨R214, e215, e⟩ := xbnd e
            refine xok_eqb (h210.is (o := 0) (c := 15) (by decide) rfl) ?_
            refine xok_call (sg225 hI  h210 (h210.gln (o := 0) (c := 15) (k := 19) (n := 107) (by decide) rfl (by decide) (by decide)) e215) ?_
            rintro ⟨v_, M218⟩ ⟨hv_, h216, hi217⟩
            cases hv_
            refine xok_ite (fun c219 => ?_) (fun c219 => ?_)
            · rw [if_pos c219] at e
              exact s238_89 hI   h216 (xin_wr _) (show xin (0) by decide) e
            · rw [if_neg c219] at e
              exact s238_89 hI   h216 (xin_wr _) (show xin (4) by decide) e
          · rw [if_neg c213] at e
            exact s238_89 hI   h210 (xin_wr _) (show xin (3) by decide) e
        · rw [if_neg c207] at e
          exact s238_89 hI   h204 (xin_wr _) (show xin (2) by decide) e
      · rw [if_neg c201] at e
        exact s238_89 hI   h198 (xin_wr _) (show xin (1) by decide) e
    · rw [if_neg c195] at e; cases e
  · rw [if_neg c193] at e
    cases e
    exact ⟨_, rfl, h190⟩
-- ChangeHouseModel.readLiteral
theorem s247_261 {m f : Nat} {M0 M : xj_M} {G : xG_} (hI : xHI f)     (h : xRX m M0 M G)  {R : xG_}  (e : g247_261   f  G = some R) : xok (f247_261   f m M) (fun r => xRX m M0 r R) := by
  unfold g247_261 at e
  unfold f247_261
  by_cases c101 : G 0 22 < 0
  · rw [if_pos c101] at e; cases e
  rw [if_neg c101] at e
  refine xok_eqb (h.itp c101) ?_
  refine xok_eqb (h.pt (o := (G 0 22).toNat) (c := 14) (k := 21) (t := (G 0 22).toNat + 19) (n := 38) (xoP_o (h.itt c101)).1 (xoP_o (h.itt c101)).2 (by decide) (xoP_all (h.itt c101) (Q := fun p => (p, 21, p + 19) ∈ xl_P) (by decide +kernel) (by decide +kernel) (by decide +kernel))) ?_
  refine xok_eqb (h.gi (o := 0) (c := 15) (k := 23) (n := 107) (by decide) rfl (by decide) (by decide)) ?_
  by_cases c102 : 0 ≤ (G (0) 23) ∧ (G (0) 23) < 25
  · skip
    rw [if_pos c102] at e
    refine xok_eqb (h.ai (o := (G 0 22).toNat + 19) (n := 25) (xoP_all (h.itt c101) (Q := fun p => p + 19 < 276) (by decide) (by decide) (by decide)) (xoP_all (h.itt c101) (Q := fun p => xl_t (p + 19) = (2, 3, 25)) rfl rfl rfl) (by decide) c102.1 c102.2) ?_
    by_cases c103 : 0 ≤ (G (0) 23) ∧ (G (0) 23) < 25
    · skip
      rw [if_pos c103] at e
      obtain ⟨M104, q105, h106⟩ := h.si (o := (G 0 22).toNat + 19) (n := 25) (v := xwr ((G ((G 0 22).toNat + 19) (G (0) 23).toNat) + (1))) (xoP_all (h.itt c101) (Q := fun p => p + 19 < 276) (by decide) (by decide) (by decide)) (xoP_all (h.itt c101) (Q := fun p => xl_t (p + 19) = (2, 3, 25)) rfl rfl rfl) c103.1 c103.2 (xin_wr _)
      refine xok_eqb q105 ?_
      obtain ⟨G107, g1, e⟩ := xbnd e
      cases g1
      have h106_ : xRX m M0 M104 (xup2 G ((G 0 22).toNat + 19) (G (0) 23).toNat (xwr ((G ((G 0 22).toNat + 19) (G (0) 23).toNat) + (1)))) := h106
      generalize hGG107 : (xup2 G ((G 0 22).toNat + 19) (G (0) 23).toNat (xwr ((G ((G 0 22).toNat + 19) (G (0) 23).toNat) + (1)))) = G107 at e h106
      clear h106_ hGG107
      cases e
      exact ⟨_, rfl, h106⟩
    · rw [if_neg c103] at e; cases e
  · rw [if_neg c102] at e; cases e
theorem s247_233 {m f : Nat} {M0 M : xj_M} {G : xG_} (hI : xHI f)     (h : xRX m M0 M G)  {R : xG_}  (e : g247_233   f  G = some R) : xok (f247_233   f m M) (fun r => xRX m M0 r R) := by
  unfold g247_233 at e
  unfold f247_233
  exact s247_261 hI   h  e
theorem s247_160 {m f : Nat} {M0 M : xj_M} {G : xG_} (hI : xHI f)     (h : xRX m M0 M G) {x1 : Int} {x2 : Int} {x3 : Int} {R : xG_} (tx1 : xin x1) (tx2 : xin x2) (tx3 : xiN x3) (e : g247_160   f x1 x2 x3 G = some R) : xok (f247_160   f m x1 x2 x3 M) (fun r => xRX m M0 r R) := by
  unfold g247_160 at e
  unfold f247_160
  refine xok_eqb (h.gi (o := 0) (c := 15) (k := 24) (n := 107) (by decide) rfl (by decide) (by decide)) ?_
  obtain ⟨M108, q109, h110⟩ := h.pi (v := xwr ((G (0) 24) + (1))) (o := 0) (c := 15) (k := 24) (n := 107) (by decide) rfl (by decide) (by decide) (xin_wr _)
  refine xok_eqb q109 ?_
  obtain ⟨G111, g1, e⟩ := xbnd e
  cases g1
  have h110_ : xRX m M0 M108 (xup2 G (0) 24 (xwr ((G (0) 24) + (1)))) := h110
  generalize hGG111 : (xup2 G (0) 24 (xwr ((G (0) 24) + (1)))) = G111 at e h110
  clear h110_ hGG111
  obtain ⟨R112, e113, e⟩ := xbnd e
  refine xok_eqb (h110.is (o := 0) (c := 15) (by decide) rfl) ?_
  refine xok_call (sg249 hI  h110 tx1 (show xin (1) by decide) tx3 tx2 e113) ?_
  intro M116 h114
  exact s247_233 hI   h114  e
theorem sg247 {m f : Nat} {M0 M : xj_M} {G : xG_} (hI : xHI f)   (h : xRX m M0 M G)  {R : xG_}  (e : g247  f  G = some R) : xok (f247  f m M) (fun r => xRX m M0 r R) := by
  unfold g247 at e
  unfold f247
  obtain ⟨R117, e118, e⟩ := xbnd e
  refine xok_eqb (h.is (o := 0) (c := 15) (by decide) rfl) ?_
  refine xok_call (sg211 hI  h  e118) ?_
  rintro ⟨v_, M121⟩ ⟨hv_, h119, hi120⟩
  cases hv_
  refine xok_ite (fun c122 => ?_) (fun c122 => ?_)
  · rw [if_pos c122] at e
    by_cases c123 : R117.2 0 22 < 0
    · rw [if_pos c123] at e; cases e
    rw [if_neg c123] at e
    refine xok_eqb (h119.itp c123) ?_
    refine xok_eqb (h119.pt (o := (R117.2 0 22).toNat) (c := 14) (k := 21) (t := (R117.2 0 22).toNat + 19) (n := 38) (xoP_o (h119.itt c123)).1 (xoP_o (h119.itt c123)).2 (by decide) (xoP_all (h119.itt c123) (Q := fun p => (p, 21, p + 19) ∈ xl_P) (by decide +kernel) (by decide +kernel) (by decide +kernel))) ?_
    refine xok_eqb (h119.gi (o := 0) (c := 15) (k := 23) (n := 107) (by decide) rfl (by decide) (by decide)) ?_
    by_cases c124 : 0 ≤ (R117.2 (0) 23) ∧ (R117.2 (0) 23) < 25
    · skip
      rw [if_pos c124] at e
      refine xok_eqb (h119.ai (o := (R117.2 0 22).toNat + 19) (n := 25) (xoP_all (h119.itt c123) (Q := fun p => p + 19 < 276) (by decide) (by decide) (by decide)) (xoP_all (h119.itt c123) (Q := fun p => xl_t (p + 19) = (2, 3, 25)) rfl rfl rfl) (by decide) c124.1 c124.2) ?_
      refine xok_ite (fun c125 => ?_) (fun c125 => ?_)
      · rw [if_pos c125] at e
        refine xok_eqb (h119.gi (o := 0) (c := 15) (k := 23) (n := 107) (by decide) rfl (by decide) (by decide)) ?_
        by_cases c126 : R117.2 0 22 < 0
        · rw [if_pos c126] at e; cases e
        rw [if_neg c126] at e
        refine xok_eqb (h119.itp c126) ?_
        refine xok_eqb (h119.pt (o := (R117.2 0 22).toNat) (c := 14) (k := 21) (t := (R117.2 0 22).toNat + 19) (n := 38) (xoP_o (h119.itt c126)).1 (xoP_o (h119.itt c126)).2 (by decide) (xoP_all (h119.itt c126) (Q := fun p => (p, 21, p + 19) ∈ xl_P) (by decide +kernel) (by decide +kernel) (by decide +kernel))) ?_
        refine xok_eqb (h119.gi (o := 0) (c := 15) (k := 23) (n := 107) (by decide) rfl (by decide) (by decide)) ?_
        by_cases c127 : 0 ≤ (R117.2 (0) 23) ∧ (R117.2 (0) 23) < 25
        · skip
          rw [if_pos c127] at e
          refine xok_eqb (h119.ai (o := (R117.2 0 22).toNat + 19) (n := 25) (xoP_all (h119.itt c126) (Q := fun p => p + 19 < 276) (by decide) (by decide) (by decide)) (xoP_all (h119.itt c126) (Q := fun p => xl_t (p + 19) = (2, 3, 25)) rfl rfl rfl) (by decide) c127.1 c127.2) ?_
          refine xok_eqb (h119.gi (o := 0) (c := 15) (k := 4) (n := 107) (by decide) rfl (by decide) (by decide)) ?_
          refine xok_eqb (h119.gl (o := 0) (c := 15) (k := 15) (n := 107) (by decide) rfl (by decide) (by decide)) ?_
          obtain ⟨R128, e129, e⟩ := xbnd e
          refine xok_eqb (h119.is (o := 0) (c := 15) (by decide) rfl) ?_
          refine xok_call (sg225 hI  h119 (h119.gln (o := 0) (c := 15) (k := 15) (n := 107) (by decide) rfl (by decide) (by decide)) e129) ?_
          rintro ⟨v_, M132⟩ ⟨hv_, h130, hi131⟩
          cases hv_
          refine xok_ite (fun c133 => ?_) (fun c133 => ?_)
          · rw [if_pos c133] at e
            obtain ⟨R134, e135, e⟩ := xbnd e
            refine xok_eqb (h130.is (o := 0) (c := 15) (by decide) rfl) ?_
            refine xok_call (sg226 hI  h130  e135) ?_
            rintro ⟨v_, M138⟩ ⟨hv_, h136, hi137⟩
            cases hv_
            refine xok_ite (fun c139 => ?_) (fun c139 => ?_)
            · rw [if_pos c139] at e
              by_cases c140 : R134.2 0 22 < 0
              · rw [if_pos c140] at e; cases e
              rw [if_neg c140] at e
              refine xok_eqb (h136.itp c140) ?_
              refine xok_eqb (h136.pt (o := (R134.2 0 22).toNat) (c := 14) (k := 30) (t := (R134.2 0 22).toNat + 28) (n := 38) (xoP_o (h136.itt c140)).1 (xoP_o (h136.itt c140)).2 (by decide) (xoP_all (h136.itt c140) (Q := fun p => (p, 30, p + 28) ∈ xl_P) (by decide +kernel) (by decide +kernel) (by decide +kernel))) ?_
              by_cases c141 : R134.2 0 22 < 0
              · rw [if_pos c141] at e; cases e
              rw [if_neg c141] at e
              refine xok_eqb (h136.itp c141) ?_
              refine xok_eqb (h136.gi (o := (R134.2 0 22).toNat) (c := 14) (k := 37) (n := 38) (xoP_o (h136.itt c141)).1 (xoP_o (h136.itt c141)).2 (by decide) (by decide)) ?_
              by_cases c142 : 0 ≤ (xwr ((xwr ((R117.2 (0) 23) * (8))) + (R117.2 ((R117.2 0 22).toNat + 19) (R117.2 (0) 23).toNat))) ∧ (xwr ((xwr ((R117.2 (0) 23) * (8))) + (R117.2 ((R117.2 0 22).toNat + 19) (R117.2 (0) 23).toNat))) < 200
              · skip
                rw [if_pos c142] at e
                obtain ⟨M143, q144, h145⟩ := h136.si (o := (R134.2 0 22).toNat + 28) (n := 200) (v := R134.2 ((R134.2 0 22).toNat) 37) (xoP_all (h136.itt c140) (Q := fun p => p + 28 < 276) (by decide) (by decide) (by decide)) (xoP_all (h136.itt c140) (Q := fun p => xl_t (p + 28) = (2, 3, 200)) rfl rfl rfl) c142.1 c142.2 (h136.gin (o := (R134.2 0 22).toNat) (c := 14) (k := 37) (n := 38) (xoP_o (h136.itt c141)).1 (xoP_o (h136.itt c141)).2 (by decide) (by decide))
                refine xok_eqb q144 ?_
                obtain ⟨G146, g1, e⟩ := xbnd e
                cases g1
                have h145_ : xRX m M0 M143 (xup2 R134.2 ((R134.2 0 22).toNat + 28) (xwr ((xwr ((R117.2 (0) 23) * (8))) + (R117.2 ((R117.2 0 22).toNat + 19) (R117.2 (0) 23).toNat))).toNat (R134.2 ((R134.2 0 22).toNat) 37)) := h145
                generalize hGG146 : (xup2 R134.2 ((R134.2 0 22).toNat + 28) (xwr ((xwr ((R117.2 (0) 23) * (8))) + (R117.2 ((R117.2 0 22).toNat + 19) (R117.2 (0) 23).toNat))).toNat (R134.2 ((R134.2 0 22).toNat) 37)) = G146 at e h145
                clear h145_ hGG146
                obtain ⟨R147, e148, e⟩ := xbnd e
                refine xok_eqb (h145.is (o := 0) (c := 15) (by decide) rfl) ?_
                refine xok_call (sg243 hI  h145  e148) ?_
                intro M151 h149
                obtain ⟨R152, e153, e⟩ := xbnd e
                refine xok_eqb (h149.is (o := 0) (c := 15) (by decide) rfl) ?_
                refine xok_call (sg248 hI  h149 (xin_wr _) e153) ?_
                intro M156 h154
                exact s247_261 hI   h154  e
              · rw [if_neg c142] at e; cases e
            · rw [if_neg c139] at e
              refine xok_eqb (h136.gl (o := 0) (c := 15) (k := 9) (n := 107) (by decide) rfl (by decide) (by decide)) ?_
              refine xok_eqb (h136.gl (o := 0) (c := 15) (k := 10) (n := 107) (by decide) rfl (by decide) (by decide)) ?_
              obtain ⟨R157, e158, e⟩ := xbnd e
              refine xok_eqb (h136.is (o := 0) (c := 15) (by decide) rfl) ?_
              refine xok_call (sg213 hI  h136  e158) ?_
              intro M161 h159
              obtain ⟨R162, e163, e⟩ := xbnd e
              refine xok_eqb (h159.is (o := 0) (c := 15) (by decide) rfl) ?_
              refine xok_call (sg220 hI  h159 (show xin (40) by decide) e163) ?_
              rintro ⟨v_, M166⟩ ⟨hv_, h164, hi165⟩
              cases hv_
              refine xok_ite (fun c167 => ?_) (fun c167 => ?_)
              · rw [if_pos c167] at e
                refine xok_ite (fun c168 => ?_) (fun c168 => ?_)
                · rw [if_pos c168] at e
                  by_cases c169 : R162.2 0 22 < 0
                  · rw [if_pos c169] at e; cases e
                  rw [if_neg c169] at e
                  refine xok_eqb (h164.itp c169) ?_
                  refine xok_eqb (h164.pt (o := (R162.2 0 22).toNat) (c := 14) (k := 30) (t := (R162.2 0 22).toNat + 28) (n := 38) (xoP_o (h164.itt c169)).1 (xoP_o (h164.itt c169)).2 (by decide) (xoP_all (h164.itt c169) (Q := fun p => (p, 30, p + 28) ∈ xl_P) (by decide +kernel) (by decide +kernel) (by decide +kernel))) ?_
                  by_cases c170 : R162.2 0 22 < 0
                  · rw [if_pos c170] at e; cases e
                  rw [if_neg c170] at e
                  refine xok_eqb (h164.itp c170) ?_
                  refine xok_eqb (h164.gi (o := (R162.2 0 22).toNat) (c := 14) (k := 37) (n := 38) (xoP_o (h164.itt c170)).1 (xoP_o (h164.itt c170)).2 (by decide) (by decide)) ?_
                  by_cases c171 : 0 ≤ (xwr ((xwr ((R117.2 (0) 23) * (8))) + (R117.2 ((R117.2 0 22).toNat + 19) (R117.2 (0) 23).toNat))) ∧ (xwr ((xwr ((R117.2 (0) 23) * (8))) + (R117.2 ((R117.2 0 22).toNat + 19) (R117.2 (0) 23).toNat))) < 200
                  · skip
                    rw [if_pos c171] at e
                    obtain ⟨M172, q173, h174⟩ := h164.si (o := (R162.2 0 22).toNat + 28) (n := 200) (v := R162.2 ((R162.2 0 22).toNat) 37) (xoP_all (h164.itt c169) (Q := fun p => p + 28 < 276) (by decide) (by decide) (by decide)) (xoP_all (h164.itt c169) (Q := fun p => xl_t (p + 28) = (2, 3, 200)) rfl rfl rfl) c171.1 c171.2 (h164.gin (o := (R162.2 0 22).toNat) (c := 14) (k := 37) (n := 38) (xoP_o (h164.itt c170)).1 (xoP_o (h164.itt c170)).2 (by decide) (by decide))
                    refine xok_eqb q173 ?_
                    obtain ⟨G175, g1, e⟩ := xbnd e
                    cases g1
                    have h174_ : xRX m M0 M172 (xup2 R162.2 ((R162.2 0 22).toNat + 28) (xwr ((xwr ((R117.2 (0) 23) * (8))) + (R117.2 ((R117.2 0 22).toNat + 19) (R117.2 (0) 23).toNat))).toNat (R162.2 ((R162.2 0 22).toNat) 37)) := h174
                    generalize hGG175 : (xup2 R162.2 ((R162.2 0 22).toNat + 28) (xwr ((xwr ((R117.2 (0) 23) * (8))) + (R117.2 ((R117.2 0 22).toNat + 19) (R117.2 (0) 23).toNat))).toNat (R162.2 ((R162.2 0 22).toNat) 37)) = G175 at e h174
                    clear h174_ hGG175
                    obtain ⟨R176, e177, e⟩ := xbnd e
                    refine xok_eqb (h174.is (o := 0) (c := 15) (by decide) rfl) ?_
                    refine xok_call (sg240 hI  h174 (show xin (1) by decide) (h136.gln (o := 0) (c := 15) (k := 10) (n := 107) (by decide) rfl (by decide) (by decide)) e177) ?_
                    intro M180 h178
                    obtain ⟨R181, e182, e⟩ := xbnd e
                    refine xok_eqb (h178.is (o := 0) (c := 15) (by decide) rfl) ?_
                    refine xok_call (sg244 hI (fun h => s243r hI h) h178  e182) ?_
                    intro M185 h183
                    obtain ⟨R186, e187, e⟩ := xbnd e
                    refine xok_eqb (h183.is (o := 0) (c := 15) (by decide) rfl) ?_
                    refine xok_call (sg248 hI  h183 (xin_wr _) e187) ?_
                    intro M190 h188
                    exact s247_233 hI   h188  e
                  · rw [if_neg c171] at e; cases e
                · rw [if_neg c168] at e
                  refine xok_eqb (h164.gi (o := 0) (c := 15) (k := 4) (n := 107) (by decide) rfl (by decide) (by decide)) ?_
                  obtain ⟨R191, e192, e⟩ := xbnd e
                  refine xok_eqb (h164.is (o := 0) (c := 15) (by decide) rfl) ?_
                  refine xok_call (sg210 hI  h164 (h164.gin (o := 0) (c := 15) (k := 4) (n := 107) (by decide) rfl (by decide) (by decide)) e192) ?_
                  intro M195 h193
                  exact s247_233 hI   h193  e
              · rw [if_neg c167] at e
                refine xok_eqb (h164.gi (o := 0) (c := 15) (k := 24) (n := 107) (by decide) rfl (by decide) (by decide)) ?_
                refine xok_ite (fun c196 => ?_) (fun c196 => ?_)
                · rw [if_pos c196] at e
                  exact s247_160 hI   h164 (xin_wr _) (h119.gin (o := 0) (c := 15) (k := 4) (n := 107) (by decide) rfl (by decide) (by decide)) (h136.gln (o := 0) (c := 15) (k := 9) (n := 107) (by decide) rfl (by decide) (by decide)) e
                · rw [if_neg c196] at e
                  obtain ⟨R197, e198, e⟩ := xbnd e
                  refine xok_eqb (h164.is (o := 0) (c := 15) (by decide) rfl) ?_
                  refine xok_call (sg210 hI  h164 (h119.gin (o := 0) (c := 15) (k := 4) (n := 107) (by decide) rfl (by decide) (by decide)) e198) ?_
                  intro M201 h199
                  exact s247_160 hI   h199 (xin_wr _) (h119.gin (o := 0) (c := 15) (k := 4) (n := 107) (by decide) rfl (by decide) (by decide)) (h136.gln (o := 0) (c := 15) (k := 9) (n := 107) (by decide) rfl (by decide) (by decide)) e
          · rw [if_neg c133] at e
            obtain ⟨R202, e203, e⟩ := xbnd e
            refine xok_eqb (h130.is (o := 0) (c := 15) (by decide) rfl) ?_
            refine xok_call (sg213 hI  h130  e203) ?_
            intro M206 h204
            obtain ⟨R207, e208, e⟩ := xbnd e
            refine xok_eqb (h204.is (o := 0) (c := 15) (by decide) rfl) ?_
            refine xok_call (sg226 hI  h204  e208) ?_
            rintro ⟨v_, M211⟩ ⟨hv_, h209, hi210⟩
            cases hv_
            refine xok_ite (fun c212 => ?_) (fun c212 => ?_)
            · rw [if_pos c212] at e
              refine xok_eqb (h209.gi (o := 0) (c := 15) (k := 4) (n := 107) (by decide) rfl (by decide) (by decide)) ?_
              refine xok_eqb (h209.gl (o := 0) (c := 15) (k := 9) (n := 107) (by decide) rfl (by decide) (by decide)) ?_
              obtain ⟨R213, e214, e⟩ := xbnd e
              refine xok_eqb (h209.is (o := 0) (c := 15) (by decide) rfl) ?_
              refine xok_call (sg213 hI  h209  e214) ?_
              intro M217 h215
              obtain ⟨R218, e219, e⟩ := xbnd e
              refine xok_eqb (h215.is (o := 0) (c := 15) (by decide) rfl) ?_
              refine xok_call (sg249 hI  h215 (xin_wr _) (show xin (2) by decide) (h209.gln (o := 0) (c := 15) (k := 9) (n := 107) (by decide) rfl (by decide) (by decide)) (h209.gin (o := 0) (c := 15) (k := 4) (n := 107) (by decide) rfl (by decide) (by decide)) e219) ?_
              intro M222 h220
              exact s247_261 hI   h220  e
            · rw [if_neg c212] at e
              refine xok_eqb (h209.gi (o := 0) (c := 15) (k := 4) (n := 107) (by decide) rfl (by decide) (by decide)) ?_
              obtain ⟨R223, e224, e⟩ := xbnd e
              refine xok_eqb (h209.is (o := 0) (c := 15) (by decide) rfl) ?_
              refine xok_call (sg210 hI  h209 (h209.gin (o := 0) (c := 15) (k := 4) (n := 107) (by decide) rfl (by decide) (by decide)) e224) ?_
              intro M227 h225
              cases e
              exact ⟨_, rfl, h225⟩
        · rw [if_neg c127] at e; cases e
      · rw [if_neg c125] at e
        refine xok_eqb (h119.gi (o := 0) (c := 15) (k := 4) (n := 107) (by decide) rfl (by decide) (by decide)) ?_
        obtain ⟨R228, e229, e⟩ := xbnd e
        refine xok_eqb (h119.is (o := 0) (c := 15) (by decide) rfl) ?_
        refine xok_call (sg210 hI  h119 (h119.gin (o := 0) (c := 15) (k := 4) (n := 107) (by decide) rfl (by decide) (by decide)) e229) ?_
        intro M232 h230
        cases e
        exact ⟨_, rfl, h230⟩
    · rw [if_neg c124] at e; cases e
  · rw [if_neg c122] at e
    cases e
    exact ⟨_, rfl, h119⟩
