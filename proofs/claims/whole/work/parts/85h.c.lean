/-! The class over its cells as functions (written by mk_c.py) -/
-- ChangeHouse$Sheet.settle
theorem t99_106 {m f : Nat} {M0 M : xj_M} {T : xT_} (hS : xHS f) {r27 : Nat → Nat → Nat → Nat → Int → Int → Int → xT_ → Option (xT_)} {o27 : Nat → Nat → Nat → Nat → Int → Int → Int → xj_M → Option (xj_M)} (hr27 : ∀ {M : xj_M} {T : xT_} {x0 : Nat} {x1 : Nat} {x2 : Nat} {x3 : Nat} {x4 : Int} {x5 : Int} {x6 : Int} {R : xT_}, xCX m M0 M T → xin x4 → xin x5 → xin x6 → r27 x0 x1 x2 x3 x4 x5 x6 T = some R → xok (o27 x0 x1 x2 x3 x4 x5 x6 M) (fun r => xCX m M0 r R)) (h : xCX m M0 M T) {x0 : Nat} {x1 : Nat} {x2 : Nat} {x3 : Nat} {x4 : Int} {x6 : Int} {y0 : Int} {y1 : Int} {R : xT_} (tx4 : xin x4) (tx6 : xin x6) (ty0 : xin y0) (ty1 : xin y1) (e : c99_106 r27 f x0 x1 x2 x3 x4 x6 y0 y1 T = some R) : xok (f99_106 o27 f x0 x1 x2 x3 x4 x6 y0 y1 M) (fun r => xCX m M0 r R) := by
  unfold c99_106 at e
  unfold f99_106
  exact hr27 h tx4 (xin_of _) (xin_wr _) e
theorem t99_89 {m f : Nat} {M0 M : xj_M} {T : xT_} (hS : xHS f) {r27 : Nat → Nat → Nat → Nat → Int → Int → Int → xT_ → Option (xT_)} {o27 : Nat → Nat → Nat → Nat → Int → Int → Int → xj_M → Option (xj_M)} (hr27 : ∀ {M : xj_M} {T : xT_} {x0 : Nat} {x1 : Nat} {x2 : Nat} {x3 : Nat} {x4 : Int} {x5 : Int} {x6 : Int} {R : xT_}, xCX m M0 M T → xin x4 → xin x5 → xin x6 → r27 x0 x1 x2 x3 x4 x5 x6 T = some R → xok (o27 x0 x1 x2 x3 x4 x5 x6 M) (fun r => xCX m M0 r R)) (h : xCX m M0 M T) {x0 : Nat} {x1 : Nat} {x2 : Nat} {x3 : Nat} {x4 : Int} {x5 : Int} {x6 : Int} {R : xT_} (tx4 : xin x4) (tx5 : xin x5) (tx6 : xin x6) (e : c99_89 r27 f x0 x1 x2 x3 x4 x5 x6 T = some R) : xok (f99_89 o27 f x0 x1 x2 x3 x4 x5 x6 M) (fun r => xCX m M0 r R) := by
  unfold c99_89 at e
  unfold f99_89
  obtain ⟨v101, q102, e⟩ := xbnd e
  refine xok_eqb (h.gr (by decide) (by decide) q102) ?_
  obtain ⟨v103, q104, e⟩ := xbnd e
  refine xok_eqb (h.ar q104) ?_
  refine xok_ite (fun c105 => ?_) (fun c105 => ?_)
  · rw [if_pos c105] at e
    exact t99_106 (r27 := r27) (o27 := o27) hS @hr27 h tx4 tx6 (show xin (0) by decide) tx5 e
  · rw [if_neg c105] at e
    exact t99_106 (r27 := r27) (o27 := o27) hS @hr27 h tx4 tx6 (show xin (1) by decide) tx5 e
theorem t99_65 {m f : Nat} {M0 M : xj_M} {T : xT_} (hS : xHS f) {r27 : Nat → Nat → Nat → Nat → Int → Int → Int → xT_ → Option (xT_)} {o27 : Nat → Nat → Nat → Nat → Int → Int → Int → xj_M → Option (xj_M)} (hr27 : ∀ {M : xj_M} {T : xT_} {x0 : Nat} {x1 : Nat} {x2 : Nat} {x3 : Nat} {x4 : Int} {x5 : Int} {x6 : Int} {R : xT_}, xCX m M0 M T → xin x4 → xin x5 → xin x6 → r27 x0 x1 x2 x3 x4 x5 x6 T = some R → xok (o27 x0 x1 x2 x3 x4 x5 x6 M) (fun r => xCX m M0 r R)) (h : xCX m M0 M T) {x0 : Nat} {x1 : Nat} {x2 : Nat} {x3 : Nat} {x4 : Int} {x5 : Int} {x6 : Int} {R : xT_} (tx4 : xin x4) (tx5 : xin x5) (tx6 : xin x6) (e : c99_65 r27 f x0 x1 x2 x3 x4 x5 x6 T = some R) : xok (f99_65 o27 f x0 x1 x2 x3 x4 x5 x6 M) (fun r => xCX m M0 r R) := by
  unfold c99_65 at e
  unfold f99_65
  obtain ⟨v106, q107, e⟩ := xbnd e
  refine xok_eqb (h.gr (by decide) (by decide) q107) ?_
  obtain ⟨v108, q109, e⟩ := xbnd e
  refine xok_eqb (h.gr (by decide) (by decide) q109) ?_
  obtain ⟨v110, q111, e⟩ := xbnd e
  refine xok_eqb (h.ar q111) ?_
  obtain ⟨T113, q112, e⟩ := xbnd e
  obtain ⟨M114, q115, h116⟩ := h.sr  q112
  refine xok_eqb q115 ?_
  obtain ⟨v117, q118, e⟩ := xbnd e
  refine xok_eqb (h116.gi (by decide) (by decide) q118).1 ?_
  obtain ⟨T120, q119, e⟩ := xbnd e
  obtain ⟨M121, q122, h123⟩ := h116.pi (by decide) (by decide) (xin_wr _) q119
  refine xok_eqb q122 ?_
  exact t99_89 (r27 := r27) (o27 := o27) hS @hr27 h123 tx4 tx5 tx6 e
theorem t99_172 {m f : Nat} {M0 M : xj_M} {T : xT_} (hS : xHS f)   (h : xCX m M0 M T)  {R : xT_}  (e : c99_172  f  T = some R) : xok (f99_172  f  M) (fun r => xCX m M0 r R) := by
  unfold c99_172 at e
  unfold f99_172
  cases e
  exact ⟨_, rfl, h⟩
theorem t99_140 {m f : Nat} {M0 M : xj_M} {T : xT_} (hS : xHS f)   (h : xCX m M0 M T) {x0 : Nat} {x1 : Nat} {x2 : Nat} {x3 : Nat} {x4 : Int} {R : xT_} (tx4 : xin x4) (e : c99_140  f x0 x1 x2 x3 x4 T = some R) : xok (f99_140  f x0 x1 x2 x3 x4 M) (fun r => xCX m M0 r R) := by
  unfold c99_140 at e
  unfold f99_140
  obtain ⟨p124, q125, e⟩ := xbnd e
  obtain ⟨M126, q127, h128⟩ := h.na (by decide) q125
  refine xok_eqb q127 ?_
  dsimp only
  obtain ⟨T130, q129, e⟩ := xbnd e
  obtain ⟨M131, q132, h133⟩ := h128.pr (by decide) (by decide)  q129
  refine xok_eqb q132 ?_
  obtain ⟨v134, q135, e⟩ := xbnd e
  refine xok_eqb (h133.gr (by decide) (by decide) q135) ?_
  obtain ⟨T137, q136, e⟩ := xbnd e
  obtain ⟨M138, q139, h140⟩ := h133.pr (by decide) (by decide)  q136
  refine xok_eqb q139 ?_
  obtain ⟨_, q146, e⟩ := xbnd e
  obtain ⟨R141, e142, e⟩ := xbnd e
  refine xok_eqb (h140.is q146) ?_
  refine xok_call (t100 hS h140  e142) ?_
  intro M143 h144
  obtain ⟨_, q152, e⟩ := xbnd e
  obtain ⟨R147, e148, e⟩ := xbnd e
  refine xok_eqb (h144.is q152) ?_
  refine xok_call (t102 hS h144  e148) ?_
  intro M149 h150
  obtain ⟨_, q158, e⟩ := xbnd e
  obtain ⟨R153, e154, e⟩ := xbnd e
  refine xok_eqb (h150.is q158) ?_
  refine xok_call (t103 hS h150 tx4 e154) ?_
  intro M155 h156
  exact t99_172  hS  h156  e
theorem t99_27b {m f : Nat} {M0 M : xj_M} {T : xT_} (hS : xHS f) {r27 : Nat → Nat → Nat → Nat → Int → Int → Int → xT_ → Option (xT_)} {o27 : Nat → Nat → Nat → Nat → Int → Int → Int → xj_M → Option (xj_M)} (hr27 : ∀ {M : xj_M} {T : xT_} {x0 : Nat} {x1 : Nat} {x2 : Nat} {x3 : Nat} {x4 : Int} {x5 : Int} {x6 : Int} {R : xT_}, xCX m M0 M T → xin x4 → xin x5 → xin x6 → r27 x0 x1 x2 x3 x4 x5 x6 T = some R → xok (o27 x0 x1 x2 x3 x4 x5 x6 M) (fun r => xCX m M0 r R)) (h : xCX m M0 M T) {x0 : Nat} {x1 : Nat} {x2 : Nat} {x3 : Nat} {x4 : Int} {x5 : Int} {x6 : Int} {R : xT_} (tx4 : xin x4) (tx5 : xin x5) (tx6 : xin x6) (e : c99_27b r27 f x0 x1 x2 x3 x4 x5 x6 T = some R) : xok (f99_27b o27 f x0 x1 x2 x3 x4 x5 x6 M) (fun r => xCX m M0 r R) := by
  unfold c99_27b at e
  unfold f99_27b
  refine xok_ite (fun c159 => ?_) (fun c159 => ?_)
  · rw [if_pos c159] at e
    obtain ⟨v160, q161, e⟩ := xbnd e
    refine xok_eqb (h.gi (by decide) (by decide) q161).1 ?_
    refine xok_ite (fun c162 => ?_) (fun c162 => ?_)
    · rw [if_pos c162] at e
      exact t99_140  hS  h tx4 e
    · rw [if_neg c162] at e
      refine xok_ite (fun c163 => ?_) (fun c163 => ?_)
      · rw [if_pos c163] at e
        exact t99_172  hS  h  e
      · rw [if_neg c163] at e
        refine xok_ite (fun c164 => ?_) (fun c164 => ?_)
        · rw [if_pos c164] at e
          exact t99_140  hS  h tx4 e
        · rw [if_neg c164] at e
          obtain ⟨v165, q166, e⟩ := xbnd e
          refine xok_eqb (h.gi (by decide) (by decide) q166).1 ?_
          refine xok_ite (fun c167 => ?_) (fun c167 => ?_)
          · rw [if_pos c167] at e
            exact t99_172  hS  h  e
          · rw [if_neg c167] at e
            exact t99_140  hS  h tx4 e
  · rw [if_neg c159] at e
    obtain ⟨v168, q169, e⟩ := xbnd e
    refine xok_eqb (h.gr (by decide) (by decide) q169) ?_
    obtain ⟨v170, q171, e⟩ := xbnd e
    refine xok_eqb (h.ab q171).1 ?_
    refine xok_ite (fun c172 => ?_) (fun c172 => ?_)
    · rw [if_pos c172] at e
      exact t99_89 (r27 := r27) (o27 := o27) hS @hr27 h tx4 tx5 tx6 e
    · rw [if_neg c172] at e
      obtain ⟨v173, q174, e⟩ := xbnd e
      refine xok_eqb (h.gi (by decide) (by decide) q174).1 ?_
      refine xok_ite (fun c175 => ?_) (fun c175 => ?_)
      · rw [if_pos c175] at e
        exact t99_65 (r27 := r27) (o27 := o27) hS @hr27 h tx4 tx5 tx6 e
      · rw [if_neg c175] at e
        obtain ⟨v176, q177, e⟩ := xbnd e
        refine xok_eqb (h.gr (by decide) (by decide) q177) ?_
        obtain ⟨p178, q179, e⟩ := xbnd e
        obtain ⟨M180, q181, h182⟩ := h.cl q179
        refine xok_eqb q181 ?_
        dsimp only
        obtain ⟨_, q183, e⟩ := xbnd e
        refine xok_eqb (h182.ca q183) ?_
        obtain ⟨T185, q184, e⟩ := xbnd e
        obtain ⟨M186, q187, h188⟩ := h182.pr (by decide) (by decide)  q184
        refine xok_eqb q187 ?_
        exact t99_65 (r27 := r27) (o27 := o27) hS @hr27 h188 tx4 tx5 tx6 e
theorem t99_27 {m f : Nat} {M0 : xj_M} (hS : xHS f)   : ∀ {n : Nat} {M : xj_M} {T : xT_} {x0 : Nat} {x1 : Nat} {x2 : Nat} {x3 : Nat} {x4 : Int} {x5 : Int} {x6 : Int} {R : xT_}, xCX m M0 M T → xin x4 → xin x5 → xin x6 → c99_27  f n x0 x1 x2 x3 x4 x5 x6 T = some R → xok (f99_27  f n x0 x1 x2 x3 x4 x5 x6 M) (fun r => xCX m M0 r R) := by
  intro n
  induction n with
  | zero => intros; rename_i e; cases e
  | succ n ih =>
    intros
    rename_i h i0 i1 i2 e
    exact t99_27b hS  @ih h i0 i1 i2 e
theorem t99 {m f : Nat} {M0 M : xj_M} {T : xT_} (hS : xHS f) (h : xCX m M0 M T) {a0 : Nat} {a1 : Nat} {a2 : Nat} {a3 : Nat} {a4 : Int} {R : xT_} (ta4 : xin a4) (e : c99 f a0 a1 a2 a3 a4 T = some R) : xok (f99 f a0 a1 a2 a3 a4 M) (fun r => xCX m M0 r R) := by
  unfold c99 at e
  unfold f99
  obtain ⟨T190, q189, e⟩ := xbnd e
  obtain ⟨M191, q192, h193⟩ := h.pr (by decide) (by decide)  q189
  refine xok_eqb q192 ?_
  obtain ⟨v194, q195, e⟩ := xbnd e
  refine xok_eqb (h193.gr (by decide) (by decide) q195) ?_
  obtain ⟨T197, q196, e⟩ := xbnd e
  obtain ⟨M198, q199, h200⟩ := h193.pr (by decide) (by decide)  q196
  refine xok_eqb q199 ?_
  obtain ⟨v201, q202, e⟩ := xbnd e
  refine xok_eqb (h200.gr (by decide) (by decide) q202) ?_
  obtain ⟨T204, q203, e⟩ := xbnd e
  obtain ⟨M205, q206, h207⟩ := h200.pr (by decide) (by decide)  q203
  refine xok_eqb q206 ?_
  exact t99_27  hS  h207 ta4 (show xin (0) by decide) (show xin (0) by decide) e
-- ChangeHouse.round
theorem t173_127 {m f : Nat} {M0 M : xj_M} {T : xT_} (hS : xHS f)   (h : xCX m M0 M T) {x0 : Nat} {x1 : Nat} {x2 : Nat} {x3 : Int} {x5 : Int} {R : Int × xT_} (tx3 : xin x3) (tx5 : xin x5) (e : c173_127  f x0 x1 x2 x3 x5 T = some R) : xok (f173_127  f x0 x1 x2 x3 x5 M) (fun r => r.1 = R.1 ∧ xCX m M0 r.2 R.2 ∧ xin R.1) := by
  unfold c173_127 at e
  unfold f173_127
  refine xok_ite (fun c101 => ?_) (fun c101 => ?_)
  · rw [if_pos c101] at e
    obtain ⟨v102, q103, e⟩ := xbnd e
    refine xok_eqb (h.gr (by decide) (by decide) q103) ?_
    obtain ⟨_, q109, e⟩ := xbnd e
    obtain ⟨R104, e105, e⟩ := xbnd e
    refine xok_eqb (h.is q109) ?_
    refine xok_call (t162 hS h tx3 e105) ?_
    rintro ⟨v_, M106⟩ ⟨hv_, h107⟩
    cases hv_
    obtain ⟨v110, q111, e⟩ := xbnd e
    refine xok_eqb (h107.gr (by decide) (by decide) q111) ?_
    obtain ⟨v112, q113, e⟩ := xbnd e
    refine xok_eqb (h107.gr (by decide) (by decide) q113) ?_
    obtain ⟨v114, q115, e⟩ := xbnd e
    refine xok_eqb (h107.gi (by decide) (by decide) q115).1 ?_
    obtain ⟨_, q121, e⟩ := xbnd e
    obtain ⟨R116, e117, e⟩ := xbnd e
    refine xok_eqb (h107.is q121) ?_
    refine xok_call (t99 hS h107 (h107.gi (by decide) (by decide) q115).2 e117) ?_
    intro M118 h119
    obtain ⟨v122, q123, e⟩ := xbnd e
    refine xok_eqb (h119.gr (by decide) (by decide) q123) ?_
    obtain ⟨v124, q125, e⟩ := xbnd e
    refine xok_eqb (h119.gi (by decide) (by decide) q125).1 ?_
    obtain ⟨_, q131, e⟩ := xbnd e
    obtain ⟨R126, e127, e⟩ := xbnd e
    refine xok_eqb (h119.is q131) ?_
    refine xok_call (t10 hS h119 (h119.gi (by decide) (by decide) q125).2 tx3 e127) ?_
    intro M128 h129
    obtain ⟨_, q137, e⟩ := xbnd e
    obtain ⟨R132, e133, e⟩ := xbnd e
    refine xok_eqb (h129.is q137) ?_
    refine xok_call (t11 hS h129  e133) ?_
    intro M134 h135
    obtain ⟨_, q143, e⟩ := xbnd e
    obtain ⟨R138, e139, e⟩ := xbnd e
    refine xok_eqb (h135.is q143) ?_
    refine xok_call (t7 hS h135  e139) ?_
    intro M140 h141
    obtain ⟨T145, q144, e⟩ := xbnd e
    obtain ⟨M146, q147, h148⟩ := h141.pr (by decide) (by decide)  q144
    refine xok_eqb q147 ?_
    obtain ⟨T150, q149, e⟩ := xbnd e
    obtain ⟨M151, q152, h153⟩ := h148.pr (by decide) (by decide)  q149
    refine xok_eqb q152 ?_
    obtain ⟨v154, q155, e⟩ := xbnd e
    refine xok_eqb (h153.gi (by decide) (by decide) q155).1 ?_
    cases e
    exact ⟨_, rfl, rfl, h153, (h153.gi (by decide) (by decide) q155).2⟩
  · rw [if_neg c101] at e
    obtain ⟨v156, q157, e⟩ := xbnd e
    refine xok_eqb (h.gi (by decide) (by decide) q157).1 ?_
    obtain ⟨T159, q158, e⟩ := xbnd e
    obtain ⟨M160, q161, h162⟩ := h.pi (by decide) (by decide) (xin_wr _) q158
    refine xok_eqb q161 ?_
    obtain ⟨_, q168, e⟩ := xbnd e
    obtain ⟨R163, e164, e⟩ := xbnd e
    refine xok_eqb (h162.is q168) ?_
    refine xok_call (t7 hS h162  e164) ?_
    intro M165 h166
    cases e
    exact ⟨_, rfl, rfl, h166, (show xin (-1) by decide)⟩
theorem t173_88b {m f : Nat} {M0 M : xj_M} {T : xT_} (hS : xHS f) {r88 : Nat → Nat → Nat → Int → Nat → Int → Int → xT_ → Option (Int × xT_)} {o88 : Nat → Nat → Nat → Int → Nat → Int → Int → xj_M → Option (Int × xj_M)} (hr88 : ∀ {M : xj_M} {T : xT_} {x0 : Nat} {x1 : Nat} {x2 : Nat} {x3 : Int} {x4 : Nat} {x5 : Int} {x6 : Int} {R : Int × xT_}, xCX m M0 M T → xin x3 → xin x5 → xin x6 → r88 x0 x1 x2 x3 x4 x5 x6 T = some R → xok (o88 x0 x1 x2 x3 x4 x5 x6 M) (fun r => r.1 = R.1 ∧ xCX m M0 r.2 R.2 ∧ xin R.1)) (h : xCX m M0 M T) {x0 : Nat} {x1 : Nat} {x2 : Nat} {x3 : Int} {x4 : Nat} {x5 : Int} {x6 : Int} {R : Int × xT_} (tx3 : xin x3) (tx5 : xin x5) (tx6 : xin x6) (e : c173_88b r88 f x0 x1 x2 x3 x4 x5 x6 T = some R) : xok (f173_88b o88 f x0 x1 x2 x3 x4 x5 x6 M) (fun r => r.1 = R.1 ∧ xCX m M0 r.2 R.2 ∧ xin R.1) := by
  unfold c173_88b at e
  unfold f173_88b
  refine xok_ite (fun c169 => ?_) (fun c169 => ?_)
  · rw [if_pos c169] at e
    exact t173_127  hS  h tx3 tx5 e
  · rw [if_neg c169] at e
    obtain ⟨v170, q171, e⟩ := xbnd e
    refine xok_eqb (h.gi (by decide) (by decide) q171).1 ?_
    refine xok_ite (fun c172 => ?_) (fun c172 => ?_)
    · rw [if_pos c172] at e
      exact t173_127  hS  h tx3 tx5 e
    · rw [if_neg c172] at e
      obtain ⟨v173, q174, e⟩ := xbnd e
      refine xok_eqb (h.gr (by decide) (by decide) q174) ?_
      obtain ⟨v175, q176, e⟩ := xbnd e
      refine xok_eqb (h.gr (by decide) (by decide) q176) ?_
      obtain ⟨v177, q178, e⟩ := xbnd e
      refine xok_eqb (h.ai (by decide) q178).1 ?_
      obtain ⟨_, q184, e⟩ := xbnd e
      obtain ⟨R179, e180, e⟩ := xbnd e
      refine xok_eqb (h.is q184) ?_
      refine xok_call (t149 hS h (h.ai (by decide) q178).2 tx3 e180) ?_
      rintro ⟨v_, M181⟩ ⟨hv_, h182, hi183⟩
      cases hv_
      exact hr88 h182 tx3 hi183 (xin_wr _) e
theorem t173_88 {m f : Nat} {M0 : xj_M} (hS : xHS f)   : ∀ {n : Nat} {M : xj_M} {T : xT_} {x0 : Nat} {x1 : Nat} {x2 : Nat} {x3 : Int} {x4 : Nat} {x5 : Int} {x6 : Int} {R : Int × xT_}, xCX m M0 M T → xin x3 → xin x5 → xin x6 → c173_88  f n x0 x1 x2 x3 x4 x5 x6 T = some R → xok (f173_88  f n x0 x1 x2 x3 x4 x5 x6 M) (fun r => r.1 = R.1 ∧ xCX m M0 r.2 R.2 ∧ xin R.1) := by
  intro n
  induction n with
  | zero => intros; rename_i e; cases e
  | succ n ih =>
    intros
    rename_i h i0 i1 i2 e
    exact t173_88b hS  @ih h i0 i1 i2 e
theorem t173_83 {m f : Nat} {M0 M : xj_M} {T : xT_} (hS : xHS f)   (h : xCX m M0 M T) {x0 : Nat} {x1 : Nat} {x2 : Nat} {x3 : Int} {x4 : Nat} {y0 : Int} {R : Int × xT_} (tx3 : xin x3) (ty0 : xin y0) (e : c173_83  f x0 x1 x2 x3 x4 y0 T = some R) : xok (f173_83  f x0 x1 x2 x3 x4 y0 M) (fun r => r.1 = R.1 ∧ xCX m M0 r.2 R.2 ∧ xin R.1) := by
  unfold c173_83 at e
  unfold f173_83
  exact t173_88  hS  h tx3 ty0 (show xin (0) by decide) e
theorem t173_82 {m f : Nat} {M0 M : xj_M} {T : xT_} (hS : xHS f)   (h : xCX m M0 M T) {x0 : Nat} {x1 : Nat} {x2 : Nat} {x3 : Int} {x4 : Nat} {R : Int × xT_} (tx3 : xin x3) (e : c173_82  f x0 x1 x2 x3 x4 T = some R) : xok (f173_82  f x0 x1 x2 x3 x4 M) (fun r => r.1 = R.1 ∧ xCX m M0 r.2 R.2 ∧ xin R.1) := by
  unfold c173_82 at e
  unfold f173_82
  exact t173_83  hS  h tx3 (show xin (0) by decide) e
theorem t173_43 {m f : Nat} {M0 M : xj_M} {T : xT_} (hS : xHS f)   (h : xCX m M0 M T) {x0 : Nat} {x1 : Nat} {x2 : Nat} {x3 : Int} {y0 : Nat} {R : Int × xT_} (tx3 : xin x3) (e : c173_43  f x0 x1 x2 x3 y0 T = some R) : xok (f173_43  f x0 x1 x2 x3 y0 M) (fun r => r.1 = R.1 ∧ xCX m M0 r.2 R.2 ∧ xin R.1) := by
  unfold c173_43 at e
  unfold f173_43
  obtain ⟨v185, q186, e⟩ := xbnd e
  refine xok_eqb (h.gr (by decide) (by decide) q186) ?_
  obtain ⟨_, q192, e⟩ := xbnd e
  obtain ⟨R187, e188, e⟩ := xbnd e
  refine xok_eqb (h.is q192) ?_
  refine xok_call (t145 hS h  e188) ?_
  intro M189 h190
  obtain ⟨v193, q194, e⟩ := xbnd e
  refine xok_eqb (h190.gi (by decide) (by decide) q194).1 ?_
  refine xok_ite (fun c195 => ?_) (fun c195 => ?_)
  · rw [if_pos c195] at e
    exact t173_82  hS  h190 tx3 e
  · rw [if_neg c195] at e
    obtain ⟨v196, q197, e⟩ := xbnd e
    refine xok_eqb (h190.gr (by decide) (by decide) q197) ?_
    obtain ⟨_, q203, e⟩ := xbnd e
    obtain ⟨R198, e199, e⟩ := xbnd e
    refine xok_eqb (h190.is q203) ?_
    refine xok_call (t146 hS h190  e199) ?_
    rintro ⟨v_, M200⟩ ⟨hv_, h201, hi202⟩
    cases hv_
    refine xok_ite (fun c204 => ?_) (fun c204 => ?_)
    · rw [if_pos c204] at e
      exact t173_82  hS  h201 tx3 e
    · rw [if_neg c204] at e
      exact t173_83  hS  h201 tx3 (show xin (1) by decide) e
theorem t173_27 {m f : Nat} {M0 M : xj_M} {T : xT_} (hS : xHS f)   (h : xCX m M0 M T) {x0 : Nat} {x1 : Nat} {x2 : Nat} {y0 : Int} {R : Int × xT_} (ty0 : xin y0) (e : c173_27  f x0 x1 x2 y0 T = some R) : xok (f173_27  f x0 x1 x2 y0 M) (fun r => r.1 = R.1 ∧ xCX m M0 r.2 R.2 ∧ xin R.1) := by
  unfold c173_27 at e
  unfold f173_27
  refine xok_ite (fun c205 => ?_) (fun c205 => ?_)
  · rw [if_pos c205] at e
    obtain ⟨v206, q207, e⟩ := xbnd e
    refine xok_eqb (h.gr (by decide) (by decide) q207) ?_
    exact t173_43  hS  h ty0 e
  · rw [if_neg c205] at e
    obtain ⟨v208, q209, e⟩ := xbnd e
    refine xok_eqb (h.gr (by decide) (by decide) q209) ?_
    exact t173_43  hS  h ty0 e
theorem t173 {m f : Nat} {M0 M : xj_M} {T : xT_} (hS : xHS f) (h : xCX m M0 M T) {a0 : Nat} {R : Int × xT_}  (e : c173 f a0 T = some R) : xok (f173 f a0 M) (fun r => r.1 = R.1 ∧ xCX m M0 r.2 R.2 ∧ xin R.1) := by
  unfold c173 at e
  unfold f173
  obtain ⟨v210, q211, e⟩ := xbnd e
  refine xok_eqb (h.gr (by decide) (by decide) q211) ?_
  obtain ⟨v212, q213, e⟩ := xbnd e
  refine xok_eqb (h.gi (by decide) (by decide) q213).1 ?_
  obtain ⟨v214, q215, e⟩ := xbnd e
  refine xok_eqb (h.ar q215) ?_
  obtain ⟨_, q221, e⟩ := xbnd e
  obtain ⟨R216, e217, e⟩ := xbnd e
  refine xok_eqb (h.is q221) ?_
  refine xok_call (t5 hS h  e217) ?_
  rintro ⟨v_, M218⟩ ⟨hv_, h219⟩
  cases hv_
  obtain ⟨v222, q223, e⟩ := xbnd e
  refine xok_eqb (h219.gr (by decide) (by decide) q223) ?_
  refine xok_ite (fun c224 => ?_) (fun c224 => ?_)
  · rw [if_pos c224] at e
    exact t173_27  hS  h219 (show xin (0) by decide) e
  · rw [if_neg c224] at e
    exact t173_27  hS  h219 (show xin (1) by decide) e
-- ChangeHouse.program
theorem t1000_50 {m f : Nat} {M0 M : xj_M} {T : xT_} (hS : xHS f)   (h : xCX m M0 M T) {x0 : Nat} {x1 : Nat} {x2 : Int} {R : Int × xT_} (tx2 : xin x2) (e : c1000_50  f x0 x1 x2 T = some R) : xok (f1000_50  f x0 x1 x2 M) (fun r => r.1 = R.1 ∧ xCX m M0 r.2 R.2 ∧ xin R.1) := by
  unfold c1000_50 at e
  unfold f1000_50
  obtain ⟨v101, q102, e⟩ := xbnd e
  refine xok_eqb (h.gr (by decide) (by decide) q102) ?_
  obtain ⟨T104, q103, e⟩ := xbnd e
  obtain ⟨M105, q106, h107⟩ := h.pi (by decide) (by decide) (show xin (0) by decide) q103
  refine xok_eqb q106 ?_
  refine xok_ite (fun c108 => ?_) (fun c108 => ?_)
  · rw [if_pos c108] at e
    obtain ⟨v109, q110, e⟩ := xbnd e
    refine xok_eqb (h107.gr (by decide) (by decide) q110) ?_
    obtain ⟨_, q116, e⟩ := xbnd e
    obtain ⟨R111, e112, e⟩ := xbnd e
    refine xok_eqb (h107.is q116) ?_
    refine xok_call (t62 hS h107  e112) ?_
    rintro ⟨v_, M113⟩ ⟨hv_, h114, hi115⟩
    cases hv_
    refine xok_ite (fun c117 => ?_) (fun c117 => ?_)
    · rw [if_pos c117] at e
      obtain ⟨v118, q119, e⟩ := xbnd e
      refine xok_eqb (h114.gr (by decide) (by decide) q119) ?_
      obtain ⟨v120, q121, e⟩ := xbnd e
      refine xok_eqb (h114.gi (by decide) (by decide) q121).1 ?_
      obtain ⟨v122, q123, e⟩ := xbnd e
      refine xok_eqb (h114.ar q123) ?_
      obtain ⟨T125, q124, e⟩ := xbnd e
      obtain ⟨M126, q127, h128⟩ := h114.pr (by decide) (by decide)  q124
      refine xok_eqb q127 ?_
      obtain ⟨T130, q129, e⟩ := xbnd e
      obtain ⟨M131, q132, h133⟩ := h128.pi (by decide) (by decide) (show xin (0) by decide) q129
      refine xok_eqb q132 ?_
      obtain ⟨v134, q135, e⟩ := xbnd e
      refine xok_eqb (h133.gi (by decide) (by decide) q135).1 ?_
      cases e
      exact ⟨_, rfl, rfl, h133, (h133.gi (by decide) (by decide) q135).2⟩
    · rw [if_neg c117] at e
      obtain ⟨v136, q137, e⟩ := xbnd e
      refine xok_eqb (h114.gr (by decide) (by decide) q137) ?_
      obtain ⟨v138, q139, e⟩ := xbnd e
      refine xok_eqb (h114.gi (by decide) (by decide) q139).1 ?_
      obtain ⟨T141, q140, e⟩ := xbnd e
      obtain ⟨M142, q143, h144⟩ := h114.pi (by decide) (by decide) (h114.gi (by decide) (by decide) q139).2 q140
      refine xok_eqb q143 ?_
      cases e
      exact ⟨_, rfl, rfl, h144, (xin_wr _)⟩
  · rw [if_neg c108] at e
    obtain ⟨v145, q146, e⟩ := xbnd e
    refine xok_eqb (h107.gr (by decide) (by decide) q146) ?_
    obtain ⟨v147, q148, e⟩ := xbnd e
    refine xok_eqb (h107.gi (by decide) (by decide) q148).1 ?_
    cases e
    exact ⟨_, rfl, rfl, h107, (xin_wr _)⟩
theorem t1000 {m f : Nat} {M0 M : xj_M} {T : xT_} (hS : xHS f) (h : xCX m M0 M T) {a0 : Nat} {R : Int × xT_}  (e : c1000 f a0 T = some R) : xok (f1000 f a0 M) (fun r => r.1 = R.1 ∧ xCX m M0 r.2 R.2 ∧ xin R.1) := by
  unfold c1000 at e
  unfold f1000
  obtain ⟨T150, q149, e⟩ := xbnd e
  obtain ⟨M151, q152, h153⟩ := h.pi (by decide) (by decide) (show xin (-1) by decide) q149
  refine xok_eqb q152 ?_
  obtain ⟨v154, q155, e⟩ := xbnd e
  refine xok_eqb (h153.gi (by decide) (by decide) q155).1 ?_
  obtain ⟨T157, q156, e⟩ := xbnd e
  obtain ⟨M158, q159, h160⟩ := h153.pi (by decide) (by decide) (xin_wr _) q156
  refine xok_eqb q159 ?_
  obtain ⟨p161, q162, e⟩ := xbnd e
  obtain ⟨M163, q164, h165⟩ := h160.nw (by decide +kernel) (by decide +kernel) q162
  refine xok_eqb q164 ?_
  dsimp only
  obtain ⟨v166, q167, e⟩ := xbnd e
  refine xok_eqb (h165.gi (by decide) (by decide) q167).1 ?_
  obtain ⟨R168, e169, e⟩ := xbnd e
  refine xok_call (t19 hS h165 (h165.gi (by decide) (by decide) q167).2 e169) ?_
  intro M170 h171
  obtain ⟨v173, q174, e⟩ := xbnd e
  refine xok_eqb (h171.gr (by decide) (by decide) q174) ?_
  obtain ⟨_, q180, e⟩ := xbnd e
  obtain ⟨R175, e176, e⟩ := xbnd e
  refine xok_eqb (h171.is q180) ?_
  refine xok_call (t112 hS h171  e176) ?_
  intro M177 h178
  obtain ⟨v181, q182, e⟩ := xbnd e
  refine xok_eqb (h178.gr (by decide) (by decide) q182) ?_
  obtain ⟨_, q188, e⟩ := xbnd e
  obtain ⟨R183, e184, e⟩ := xbnd e
  refine xok_eqb (h178.is q188) ?_
  refine xok_call (t30 hS h178  e184) ?_
  rintro ⟨v_, M185⟩ ⟨hv_, h186⟩
  cases hv_
  dsimp only
  cases g190 : R183.1 with
  | inl k_ =>
    obtain ⟨k2_, e⟩ := chd_l g190 e
    rw [xhd_e (by exact g190) k2_]
    exact t1000_50  hS  h186 (show xin (0) by decide) e
  | inr v189 =>
    rw [chd_r g190] at e
    rw [xhd_r (by exact g190)]
    exact t1000_50  hS  h186 (show xin (1) by decide) e
