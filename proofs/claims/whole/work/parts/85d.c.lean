/-! The class over its cells as functions (written by mk_c.py) -/
-- ChangeHouse$Line.goBack
theorem t12_46 {m f : Nat} {M0 M : xj_M} {T : xT_} (hS : xHS f)   (h : xCX m M0 M T) {x0 : Nat} {x1 : Int} {R : xT_} (tx1 : xin x1) (e : c12_46  f x0 x1 T = some R) : xok (f12_46  f x0 x1 M) (fun r => xCX m M0 r R) := by
  unfold c12_46 at e
  unfold f12_46
  obtain ⟨T102, q101, e⟩ := xbnd e
  obtain ⟨M103, q104, h105⟩ := h.pi (by decide) (by decide) tx1 q101
  refine xok_eqb q104 ?_
  obtain ⟨_, q111, e⟩ := xbnd e
  obtain ⟨R106, e107, e⟩ := xbnd e
  refine xok_eqb (h105.is q111) ?_
  refine xok_call (t7 hS h105  e107) ?_
  intro M108 h109
  cases e
  exact ⟨_, rfl, h109⟩
theorem t12_33 {m f : Nat} {M0 M : xj_M} {T : xT_} (hS : xHS f)   (h : xCX m M0 M T) {x0 : Nat} {x1 : Int} {R : xT_} (tx1 : xin x1) (e : c12_33  f x0 x1 T = some R) : xok (f12_33  f x0 x1 M) (fun r => xCX m M0 r R) := by
  unfold c12_33 at e
  unfold f12_33
  obtain ⟨v112, q113, e⟩ := xbnd e
  refine xok_eqb (h.gi (by decide) (by decide) q113).1 ?_
  refine xok_ite (fun c114 => ?_) (fun c114 => ?_)
  · rw [if_pos c114] at e
    exact t12_46  hS  h tx1 e
  · rw [if_neg c114] at e
    obtain ⟨T116, q115, e⟩ := xbnd e
    obtain ⟨M117, q118, h119⟩ := h.pi (by decide) (by decide) (show xin (-1) by decide) q115
    refine xok_eqb q118 ?_
    exact t12_46  hS  h119 tx1 e
theorem t12 {m f : Nat} {M0 M : xj_M} {T : xT_} (hS : xHS f) (h : xCX m M0 M T) {a0 : Nat} {a1 : Int} {R : xT_} (ta1 : xin a1) (e : c12 f a0 a1 T = some R) : xok (f12 f a0 a1 M) (fun r => xCX m M0 r R) := by
  unfold c12 at e
  unfold f12
  obtain ⟨v120, q121, e⟩ := xbnd e
  refine xok_eqb (h.gr (by decide) (by decide) q121) ?_
  obtain ⟨v122, q123, e⟩ := xbnd e
  refine xok_eqb (h.ar q123) ?_
  obtain ⟨v124, q125, e⟩ := xbnd e
  refine xok_eqb (h.gr (by decide) (by decide) q125) ?_
  obtain ⟨v126, q127, e⟩ := xbnd e
  refine xok_eqb (h.gi (by decide) (by decide) q127).1 ?_
  obtain ⟨_, q133, e⟩ := xbnd e
  obtain ⟨R128, e129, e⟩ := xbnd e
  refine xok_eqb (h.is q133) ?_
  refine xok_call (t5 hS h  e129) ?_
  rintro ⟨v_, M130⟩ ⟨hv_, h131⟩
  cases hv_
  obtain ⟨v134, q135, e⟩ := xbnd e
  refine xok_eqb (h131.gr (by decide) (by decide) q135) ?_
  obtain ⟨v136, q137, e⟩ := xbnd e
  refine xok_eqb (h131.gi (by decide) (by decide) q137).1 ?_
  refine xok_ite (fun c138 => ?_) (fun c138 => ?_)
  · rw [if_pos c138] at e
    exact t12_33  hS  h131 ta1 e
  · rw [if_neg c138] at e
    obtain ⟨v139, q140, e⟩ := xbnd e
    refine xok_eqb (h131.gr (by decide) (by decide) q140) ?_
    obtain ⟨R141, e142, e⟩ := xbnd e
    refine xok_call (t382 hS h131 (show xin (0) by decide) e142) ?_
    intro M143 h144
    exact t12_33  hS  h144 ta1 e
-- ChangeHouse$Line.become
theorem t13_5b {m f : Nat} {M0 M : xj_M} {T : xT_} (hS : xHS f) {r5 : Nat → Nat → Int → Int → xT_ → Option (xT_)} {o5 : Nat → Nat → Int → Int → xj_M → Option (xj_M)} (hr5 : ∀ {M : xj_M} {T : xT_} {x0 : Nat} {x1 : Nat} {x2 : Int} {x3 : Int} {R : xT_}, xCX m M0 M T → xin x2 → xin x3 → r5 x0 x1 x2 x3 T = some R → xok (o5 x0 x1 x2 x3 M) (fun r => xCX m M0 r R)) (h : xCX m M0 M T) {x0 : Nat} {x1 : Nat} {x2 : Int} {x3 : Int} {R : xT_} (tx2 : xin x2) (tx3 : xin x3) (e : c13_5b r5 f x0 x1 x2 x3 T = some R) : xok (f13_5b o5 f x0 x1 x2 x3 M) (fun r => xCX m M0 r R) := by
  unfold c13_5b at e
  unfold f13_5b
  refine xok_ite (fun c101 => ?_) (fun c101 => ?_)
  · rw [if_pos c101] at e
    obtain ⟨T103, q102, e⟩ := xbnd e
    obtain ⟨M104, q105, h106⟩ := h.pi (by decide) (by decide) tx2 q102
    refine xok_eqb q105 ?_
    obtain ⟨v107, q108, e⟩ := xbnd e
    refine xok_eqb (h106.gi (by decide) (by decide) q108).1 ?_
    obtain ⟨T110, q109, e⟩ := xbnd e
    obtain ⟨M111, q112, h113⟩ := h106.pi (by decide) (by decide) (h106.gi (by decide) (by decide) q108).2 q109
    refine xok_eqb q112 ?_
    obtain ⟨v114, q115, e⟩ := xbnd e
    refine xok_eqb (h113.gr (by decide) (by decide) q115) ?_
    obtain ⟨R116, e117, e⟩ := xbnd e
    refine xok_call (t382 hS h113 (show xin (0) by decide) e117) ?_
    intro M118 h119
    obtain ⟨v121, q122, e⟩ := xbnd e
    refine xok_eqb (h119.gr (by decide) (by decide) q122) ?_
    obtain ⟨R123, e124, e⟩ := xbnd e
    refine xok_call (t382 hS h119 (show xin (0) by decide) e124) ?_
    intro M125 h126
    obtain ⟨_, q133, e⟩ := xbnd e
    obtain ⟨R128, e129, e⟩ := xbnd e
    refine xok_eqb (h126.is q133) ?_
    refine xok_call (t7 hS h126  e129) ?_
    intro M130 h131
    cases e
    exact ⟨_, rfl, h131⟩
  · rw [if_neg c101] at e
    obtain ⟨v134, q135, e⟩ := xbnd e
    refine xok_eqb (h.gr (by decide) (by decide) q135) ?_
    obtain ⟨v136, q137, e⟩ := xbnd e
    refine xok_eqb (h.gr (by decide) (by decide) q137) ?_
    obtain ⟨v138, q139, e⟩ := xbnd e
    refine xok_eqb (h.ar q139) ?_
    obtain ⟨T141, q140, e⟩ := xbnd e
    obtain ⟨M142, q143, h144⟩ := h.sr  q140
    refine xok_eqb q143 ?_
    exact hr5 h144 tx2 (xin_wr _) e
theorem t13_5 {m f : Nat} {M0 : xj_M} (hS : xHS f)   : ∀ {n : Nat} {M : xj_M} {T : xT_} {x0 : Nat} {x1 : Nat} {x2 : Int} {x3 : Int} {R : xT_}, xCX m M0 M T → xin x2 → xin x3 → c13_5  f n x0 x1 x2 x3 T = some R → xok (f13_5  f n x0 x1 x2 x3 M) (fun r => xCX m M0 r R) := by
  intro n
  induction n with
  | zero => intros; rename_i e; cases e
  | succ n ih =>
    intros
    rename_i h i0 i1 e
    exact t13_5b hS  @ih h i0 i1 e
theorem t13 {m f : Nat} {M0 M : xj_M} {T : xT_} (hS : xHS f) (h : xCX m M0 M T) {a0 : Nat} {a1 : Nat} {a2 : Int} {R : xT_} (ta2 : xin a2) (e : c13 f a0 a1 a2 T = some R) : xok (f13 f a0 a1 a2 M) (fun r => xCX m M0 r R) := by
  unfold c13 at e
  unfold f13
  obtain ⟨v145, q146, e⟩ := xbnd e
  refine xok_eqb (h.gi (by decide) (by decide) q146).1 ?_
  exact t13_5  hS  h ta2 (h.gi (by decide) (by decide) q146).2 e
-- ChangeHouse$Moment.rowsAhead
theorem t17_44 {m f : Nat} {M0 M : xj_M} {T : xT_} (hS : xHS f)   (h : xCX m M0 M T) {y0 : Nat} {R : Nat × xT_}  (e : c17_44  f y0 T = some R) : xok (f17_44  f y0 M) (fun r => r.1 = R.1 ∧ xCX m M0 r.2 R.2) := by
  unfold c17_44 at e
  unfold f17_44
  cases e
  exact ⟨_, rfl, rfl, h⟩
theorem t17 {m f : Nat} {M0 M : xj_M} {T : xT_} (hS : xHS f) (h : xCX m M0 M T) {a0 : Nat} {a1 : Nat} {a2 : Int} {R : Nat × xT_} (ta2 : xin a2) (e : c17 f a0 a1 a2 T = some R) : xok (f17 f a0 a1 a2 M) (fun r => r.1 = R.1 ∧ xCX m M0 r.2 R.2) := by
  unfold c17 at e
  unfold f17
  obtain ⟨v101, q102, e⟩ := xbnd e
  refine xok_eqb (h.gr (by decide) (by decide) q102) ?_
  obtain ⟨v103, q104, e⟩ := xbnd e
  refine xok_eqb (h.gr (by decide) (by decide) q104) ?_
  obtain ⟨_, q110, e⟩ := xbnd e
  obtain ⟨R105, e106, e⟩ := xbnd e
  refine xok_eqb (h.is q110) ?_
  refine xok_call (t21 hS h ta2 e106) ?_
  rintro ⟨v_, M107⟩ ⟨hv_, h108, hi109⟩
  cases hv_
  refine xok_ite (fun c111 => ?_) (fun c111 => ?_)
  · rw [if_pos c111] at e
    obtain ⟨v112, q113, e⟩ := xbnd e
    refine xok_eqb (h108.gr (by decide) (by decide) q113) ?_
    obtain ⟨v114, q115, e⟩ := xbnd e
    refine xok_eqb (h108.ar q115) ?_
    exact t17_44  hS  h108  e
  · rw [if_neg c111] at e
    obtain ⟨p116, q117, e⟩ := xbnd e
    obtain ⟨M118, q119, h120⟩ := h108.nw (by decide +kernel) (by decide +kernel) q117
    refine xok_eqb q119 ?_
    dsimp only
    obtain ⟨v121, q122, e⟩ := xbnd e
    refine xok_eqb (h120.gr (by decide) (by decide) q122) ?_
    obtain ⟨v123, q124, e⟩ := xbnd e
    refine xok_eqb (h120.gr (by decide) (by decide) q124) ?_
    obtain ⟨v125, q126, e⟩ := xbnd e
    refine xok_eqb (h120.ai (by decide) q126).1 ?_
    obtain ⟨R127, e128, e⟩ := xbnd e
    refine xok_call (t68 hS h120 (h120.ai (by decide) q126).2 (show xin (0) by decide) e128) ?_
    intro M129 h130
    exact t17_44  hS  h130  e
-- ChangeHouse$Moment.differing
theorem t18_45 {m f : Nat} {M0 M : xj_M} {T : xT_} (hS : xHS f)   (h : xCX m M0 M T) {y0 : Int} {R : Int × xT_} (ty0 : xin y0) (e : c18_45  f y0 T = some R) : xok (f18_45  f y0 M) (fun r => r.1 = R.1 ∧ xCX m M0 r.2 R.2 ∧ xin R.1) := by
  unfold c18_45 at e
  unfold f18_45
  cases e
  exact ⟨_, rfl, rfl, h, ty0⟩
theorem t18 {m f : Nat} {M0 M : xj_M} {T : xT_} (hS : xHS f) (h : xCX m M0 M T) {a0 : Nat} {a1 : Nat} {a2 : Int} {R : Int × xT_} (ta2 : xin a2) (e : c18 f a0 a1 a2 T = some R) : xok (f18 f a0 a1 a2 M) (fun r => r.1 = R.1 ∧ xCX m M0 r.2 R.2 ∧ xin R.1) := by
  unfold c18 at e
  unfold f18
  obtain ⟨v101, q102, e⟩ := xbnd e
  refine xok_eqb (h.gr (by decide) (by decide) q102) ?_
  obtain ⟨v103, q104, e⟩ := xbnd e
  refine xok_eqb (h.gr (by decide) (by decide) q104) ?_
  obtain ⟨_, q110, e⟩ := xbnd e
  obtain ⟨R105, e106, e⟩ := xbnd e
  refine xok_eqb (h.is q110) ?_
  refine xok_call (t21 hS h ta2 e106) ?_
  rintro ⟨v_, M107⟩ ⟨hv_, h108, hi109⟩
  cases hv_
  refine xok_ite (fun c111 => ?_) (fun c111 => ?_)
  · rw [if_pos c111] at e
    obtain ⟨v112, q113, e⟩ := xbnd e
    refine xok_eqb (h108.gr (by decide) (by decide) q113) ?_
    obtain ⟨v114, q115, e⟩ := xbnd e
    refine xok_eqb (h108.ar q115) ?_
    obtain ⟨v116, q117, e⟩ := xbnd e
    refine xok_eqb (h108.gr (by decide) (by decide) q117) ?_
    obtain ⟨v118, q119, e⟩ := xbnd e
    refine xok_eqb (h108.ar q119) ?_
    obtain ⟨_, q125, e⟩ := xbnd e
    obtain ⟨R120, e121, e⟩ := xbnd e
    refine xok_eqb (h108.is q125) ?_
    refine xok_call (t83 hS h108  e121) ?_
    rintro ⟨v_, M122⟩ ⟨hv_, h123, hi124⟩
    cases hv_
    exact t18_45  hS  h123 hi124 e
  · rw [if_neg c111] at e
    obtain ⟨v126, q127, e⟩ := xbnd e
    refine xok_eqb (h108.gr (by decide) (by decide) q127) ?_
    obtain ⟨v128, q129, e⟩ := xbnd e
    refine xok_eqb (h108.ar q129) ?_
    obtain ⟨v130, q131, e⟩ := xbnd e
    refine xok_eqb (h108.gi (by decide) (by decide) q131).1 ?_
    exact t18_45  hS  h108 (h108.gi (by decide) (by decide) q131).2 e
-- ChangeHouse$Program.orderRings
theorem t25_92 {m f : Nat} {M0 M : xj_M} {T : xT_} (hS : xHS f) {r4 : Nat → Int → Int → xT_ → Option (xT_)} {o4 : Nat → Int → Int → xj_M → Option (xj_M)} {r14 : Nat → Int → Int → Int → xT_ → Option (xT_)} {o14 : Nat → Int → Int → Int → xj_M → Option (xj_M)} (hr4 : ∀ {M : xj_M} {T : xT_} {x0 : Nat} {x1 : Int} {x2 : Int} {R : xT_}, xCX m M0 M T → xin x1 → xin x2 → r4 x0 x1 x2 T = some R → xok (o4 x0 x1 x2 M) (fun r => xCX m M0 r R)) (hr14 : ∀ {M : xj_M} {T : xT_} {x0 : Nat} {x1 : Int} {x2 : Int} {x3 : Int} {R : xT_}, xCX m M0 M T → xin x1 → xin x2 → xin x3 → r14 x0 x1 x2 x3 T = some R → xok (o14 x0 x1 x2 x3 M) (fun r => xCX m M0 r R)) (h : xCX m M0 M T) {x0 : Nat} {x1 : Int} {x2 : Int} {x3 : Int} {R : xT_} (tx1 : xin x1) (tx2 : xin x2) (tx3 : xin x3) (e : c25_92 r4 r14 f x0 x1 x2 x3 T = some R) : xok (f25_92 o4 o14 f x0 x1 x2 x3 M) (fun r => xCX m M0 r R) := by
  unfold c25_92 at e
  unfold f25_92
  exact hr14 h tx1 tx2 (xin_wr _) e
theorem t25_45 {m f : Nat} {M0 M : xj_M} {T : xT_} (hS : xHS f) {r4 : Nat → Int → Int → xT_ → Option (xT_)} {o4 : Nat → Int → Int → xj_M → Option (xj_M)} {r14 : Nat → Int → Int → Int → xT_ → Option (xT_)} {o14 : Nat → Int → Int → Int → xj_M → Option (xj_M)} (hr4 : ∀ {M : xj_M} {T : xT_} {x0 : Nat} {x1 : Int} {x2 : Int} {R : xT_}, xCX m M0 M T → xin x1 → xin x2 → r4 x0 x1 x2 T = some R → xok (o4 x0 x1 x2 M) (fun r => xCX m M0 r R)) (hr14 : ∀ {M : xj_M} {T : xT_} {x0 : Nat} {x1 : Int} {x2 : Int} {x3 : Int} {R : xT_}, xCX m M0 M T → xin x1 → xin x2 → xin x3 → r14 x0 x1 x2 x3 T = some R → xok (o14 x0 x1 x2 x3 M) (fun r => xCX m M0 r R)) (h : xCX m M0 M T) {x0 : Nat} {x1 : Int} {x2 : Int} {x3 : Int} {y0 : Int} {R : xT_} (tx1 : xin x1) (tx2 : xin x2) (tx3 : xin x3) (ty0 : xin y0) (e : c25_45 r4 r14 f x0 x1 x2 x3 y0 T = some R) : xok (f25_45 o4 o14 f x0 x1 x2 x3 y0 M) (fun r => xCX m M0 r R) := by
  unfold c25_45 at e
  unfold f25_45
  refine xok_ite (fun c101 => ?_) (fun c101 => ?_)
  · rw [if_pos c101] at e
    exact t25_92 (r4 := r4) (o4 := o4) (r14 := r14) (o14 := o14) hS @hr4 @hr14 h tx1 tx2 tx3 e
  · rw [if_neg c101] at e
    obtain ⟨_, q107, e⟩ := xbnd e
    obtain ⟨R102, e103, e⟩ := xbnd e
    refine xok_eqb (h.is q107) ?_
    refine xok_call (t27 hS h tx3 e103) ?_
    rintro ⟨v_, M104⟩ ⟨hv_, h105, hi106⟩
    cases hv_
    refine xok_ite (fun c108 => ?_) (fun c108 => ?_)
    · rw [if_pos c108] at e
      exact t25_92 (r4 := r4) (o4 := o4) (r14 := r14) (o14 := o14) hS @hr4 @hr14 h105 tx1 tx2 tx3 e
    · rw [if_neg c108] at e
      obtain ⟨v109, q110, e⟩ := xbnd e
      refine xok_eqb (h105.gr (by decide) (by decide) q110) ?_
      obtain ⟨v111, q112, e⟩ := xbnd e
      refine xok_eqb (h105.gi (by decide) (by decide) q112).1 ?_
      obtain ⟨T114, q113, e⟩ := xbnd e
      obtain ⟨M115, q116, h117⟩ := h105.si tx3 q113
      refine xok_eqb q116 ?_
      obtain ⟨v118, q119, e⟩ := xbnd e
      refine xok_eqb (h117.gi (by decide) (by decide) q119).1 ?_
      obtain ⟨T121, q120, e⟩ := xbnd e
      obtain ⟨M122, q123, h124⟩ := h117.pi (by decide) (by decide) (xin_wr _) q120
      refine xok_eqb q123 ?_
      obtain ⟨_, q130, e⟩ := xbnd e
      obtain ⟨R125, e126, e⟩ := xbnd e
      refine xok_eqb (h124.is q130) ?_
      refine xok_call (t26 hS h124 tx3 e126) ?_
      rintro ⟨v_, M127⟩ ⟨hv_, h128, hi129⟩
      cases hv_
      exact t25_92 (r4 := r4) (o4 := o4) (r14 := r14) (o14 := o14) hS @hr4 @hr14 h128 (xin_of _) tx2 tx3 e
theorem t25_44 {m f : Nat} {M0 M : xj_M} {T : xT_} (hS : xHS f) {r4 : Nat → Int → Int → xT_ → Option (xT_)} {o4 : Nat → Int → Int → xj_M → Option (xj_M)} {r14 : Nat → Int → Int → Int → xT_ → Option (xT_)} {o14 : Nat → Int → Int → Int → xj_M → Option (xj_M)} (hr4 : ∀ {M : xj_M} {T : xT_} {x0 : Nat} {x1 : Int} {x2 : Int} {R : xT_}, xCX m M0 M T → xin x1 → xin x2 → r4 x0 x1 x2 T = some R → xok (o4 x0 x1 x2 M) (fun r => xCX m M0 r R)) (hr14 : ∀ {M : xj_M} {T : xT_} {x0 : Nat} {x1 : Int} {x2 : Int} {x3 : Int} {R : xT_}, xCX m M0 M T → xin x1 → xin x2 → xin x3 → r14 x0 x1 x2 x3 T = some R → xok (o14 x0 x1 x2 x3 M) (fun r => xCX m M0 r R)) (h : xCX m M0 M T) {x0 : Nat} {x1 : Int} {x2 : Int} {x3 : Int} {R : xT_} (tx1 : xin x1) (tx2 : xin x2) (tx3 : xin x3) (e : c25_44 r4 r14 f x0 x1 x2 x3 T = some R) : xok (f25_44 o4 o14 f x0 x1 x2 x3 M) (fun r => xCX m M0 r R) := by
  unfold c25_44 at e
  unfold f25_44
  exact t25_45 (r4 := r4) (o4 := o4) (r14 := r14) (o14 := o14) hS @hr4 @hr14 h tx1 tx2 tx3 (show xin (0) by decide) e
theorem t25_14b {m f : Nat} {M0 M : xj_M} {T : xT_} (hS : xHS f) {r4 : Nat → Int → Int → xT_ → Option (xT_)} {o4 : Nat → Int → Int → xj_M → Option (xj_M)} {r14 : Nat → Int → Int → Int → xT_ → Option (xT_)} {o14 : Nat → Int → Int → Int → xj_M → Option (xj_M)} (hr4 : ∀ {M : xj_M} {T : xT_} {x0 : Nat} {x1 : Int} {x2 : Int} {R : xT_}, xCX m M0 M T → xin x1 → xin x2 → r4 x0 x1 x2 T = some R → xok (o4 x0 x1 x2 M) (fun r => xCX m M0 r R)) (hr14 : ∀ {M : xj_M} {T : xT_} {x0 : Nat} {x1 : Int} {x2 : Int} {x3 : Int} {R : xT_}, xCX m M0 M T → xin x1 → xin x2 → xin x3 → r14 x0 x1 x2 x3 T = some R → xok (o14 x0 x1 x2 x3 M) (fun r => xCX m M0 r R)) (h : xCX m M0 M T) {x0 : Nat} {x1 : Int} {x2 : Int} {x3 : Int} {R : xT_} (tx1 : xin x1) (tx2 : xin x2) (tx3 : xin x3) (e : c25_14b r4 r14 f x0 x1 x2 x3 T = some R) : xok (f25_14b o4 o14 f x0 x1 x2 x3 M) (fun r => xCX m M0 r R) := by
  unfold c25_14b at e
  unfold f25_14b
  obtain ⟨v131, q132, e⟩ := xbnd e
  refine xok_eqb (h.gi (by decide) (by decide) q132).1 ?_
  refine xok_ite (fun c133 => ?_) (fun c133 => ?_)
  · rw [if_pos c133] at e
    exact hr4 h tx1 (xin_wr _) e
  · rw [if_neg c133] at e
    obtain ⟨v134, q135, e⟩ := xbnd e
    refine xok_eqb (h.gr (by decide) (by decide) q135) ?_
    obtain ⟨v136, q137, e⟩ := xbnd e
    refine xok_eqb (h.ai (by decide) q137).1 ?_
    refine xok_ite (fun c138 => ?_) (fun c138 => ?_)
    · rw [if_pos c138] at e
      exact t25_44 (r4 := r4) (o4 := o4) (r14 := r14) (o14 := o14) hS @hr4 @hr14 h tx1 tx2 tx3 e
    · rw [if_neg c138] at e
      refine xok_ite (fun c139 => ?_) (fun c139 => ?_)
      · rw [if_pos c139] at e
        exact t25_44 (r4 := r4) (o4 := o4) (r14 := r14) (o14 := o14) hS @hr4 @hr14 h tx1 tx2 tx3 e
      · rw [if_neg c139] at e
        exact t25_45 (r4 := r4) (o4 := o4) (r14 := r14) (o14 := o14) hS @hr4 @hr14 h tx1 tx2 tx3 (show xin (1) by decide) e
theorem t25_14 {m f : Nat} {M0 : xj_M} (hS : xHS f) {r4 : Nat → Int → Int → xT_ → Option (xT_)} {o4 : Nat → Int → Int → xj_M → Option (xj_M)} (hr4 : ∀ {M : xj_M} {T : xT_} {x0 : Nat} {x1 : Int} {x2 : Int} {R : xT_}, xCX m M0 M T → xin x1 → xin x2 → r4 x0 x1 x2 T = some R → xok (o4 x0 x1 x2 M) (fun r => xCX m M0 r R)) : ∀ {n : Nat} {M : xj_M} {T : xT_} {x0 : Nat} {x1 : Int} {x2 : Int} {x3 : Int} {R : xT_}, xCX m M0 M T → xin x1 → xin x2 → xin x3 → c25_14 r4 f n x0 x1 x2 x3 T = some R → xok (f25_14 o4 f n x0 x1 x2 x3 M) (fun r => xCX m M0 r R) := by
  intro n
  induction n with
  | zero => intros; rename_i e; cases e
  | succ n ih =>
    intros
    rename_i h i0 i1 i2 e
    exact t25_14b hS @hr4 @ih h i0 i1 i2 e
theorem t25_4b {m f : Nat} {M0 M : xj_M} {T : xT_} (hS : xHS f) {r4 : Nat → Int → Int → xT_ → Option (xT_)} {o4 : Nat → Int → Int → xj_M → Option (xj_M)} (hr4 : ∀ {M : xj_M} {T : xT_} {x0 : Nat} {x1 : Int} {x2 : Int} {R : xT_}, xCX m M0 M T → xin x1 → xin x2 → r4 x0 x1 x2 T = some R → xok (o4 x0 x1 x2 M) (fun r => xCX m M0 r R)) (h : xCX m M0 M T) {x0 : Nat} {x1 : Int} {x2 : Int} {R : xT_} (tx1 : xin x1) (tx2 : xin x2) (e : c25_4b r4 f x0 x1 x2 T = some R) : xok (f25_4b o4 f x0 x1 x2 M) (fun r => xCX m M0 r R) := by
  unfold c25_4b at e
  unfold f25_4b
  obtain ⟨v140, q141, e⟩ := xbnd e
  refine xok_eqb (h.gi (by decide) (by decide) q141).1 ?_
  refine xok_ite (fun c142 => ?_) (fun c142 => ?_)
  · rw [if_pos c142] at e
    cases e
    exact ⟨_, rfl, h⟩
  · rw [if_neg c142] at e
    exact t25_14 (r4 := r4) (o4 := o4) hS @hr4 h tx1 tx2 (show xin (0) by decide) e
theorem t25_4 {m f : Nat} {M0 : xj_M} (hS : xHS f)   : ∀ {n : Nat} {M : xj_M} {T : xT_} {x0 : Nat} {x1 : Int} {x2 : Int} {R : xT_}, xCX m M0 M T → xin x1 → xin x2 → c25_4  f n x0 x1 x2 T = some R → xok (f25_4  f n x0 x1 x2 M) (fun r => xCX m M0 r R) := by
  intro n
  induction n with
  | zero => intros; rename_i e; cases e
  | succ n ih =>
    intros
    rename_i h i0 i1 e
    exact t25_4b hS  @ih h i0 i1 e
theorem t25 {m f : Nat} {M0 M : xj_M} {T : xT_} (hS : xHS f) (h : xCX m M0 M T) {a0 : Nat} {R : xT_}  (e : c25 f a0 T = some R) : xok (f25 f a0 M) (fun r => xCX m M0 r R) := by
  unfold c25 at e
  unfold f25
  exact t25_4  hS  h (show xin (0) by decide) (show xin (0) by decide) e
-- ChangeHouse$Reader.beginRule
theorem t35 {m f : Nat} {M0 M : xj_M} {T : xT_} (hS : xHS f) (h : xCX m M0 M T) {a0 : Nat} {R : xT_}  (e : c35 f a0 T = some R) : xok (f35 f a0 M) (fun r => xCX m M0 r R) := by
  unfold c35 at e
  unfold f35
  obtain ⟨p101, q102, e⟩ := xbnd e
  obtain ⟨M103, q104, h105⟩ := h.nw (by decide +kernel) (by decide +kernel) q102
  refine xok_eqb q104 ?_
  dsimp only
  obtain ⟨R106, e107, e⟩ := xbnd e
  refine xok_call (t87 hS h105  e107) ?_
  intro M108 h109
  obtain ⟨T112, q111, e⟩ := xbnd e
  obtain ⟨M113, q114, h115⟩ := h109.pr (by decide) (by decide)  q111
  refine xok_eqb q114 ?_
  obtain ⟨T117, q116, e⟩ := xbnd e
  obtain ⟨M118, q119, h120⟩ := h115.pi (by decide) (by decide) (show xin (0) by decide) q116
  refine xok_eqb q119 ?_
  cases e
  exact ⟨_, rfl, h120⟩
-- ChangeHouse$Reader.readName
theorem t47_58 {m f : Nat} {M0 M : xj_M} {T : xT_} (hS : xHS f)   (h : xCX m M0 M T) {x0 : Nat} {R : (Nat ⊕ Int) × xT_}  (e : c47_58  f x0 T = some R) : xok (f47_58  f x0 M) (fun r => r.1 = R.1 ∧ xCX m M0 r.2 R.2 ∧ ∀ v, R.1 = .inr v → xiN v) := by
  unfold c47_58 at e
  unfold f47_58
  obtain ⟨v101, q102, e⟩ := xbnd e
  refine xok_eqb (h.gr (by decide) (by decide) q102) ?_
  obtain ⟨v103, q104, e⟩ := xbnd e
  refine xok_eqb (h.gr (by decide) (by decide) q104) ?_
  obtain ⟨v105, q106, e⟩ := xbnd e
  refine xok_eqb (h.gi (by decide) (by decide) q106).1 ?_
  obtain ⟨v107, q108, e⟩ := xbnd e
  refine xok_eqb (h.al q108).1 ?_
  obtain ⟨_, q114, e⟩ := xbnd e
  obtain ⟨R109, e110, e⟩ := xbnd e
  refine xok_eqb (h.is q114) ?_
  refine xok_call (t37 hS h  e110) ?_
  intro M111 h112
  cases e
  exact ⟨_, rfl, rfl, h112, fun v hv => by cases hv; exact (h.al q108).2⟩
theorem t47_34 {m f : Nat} {M0 M : xj_M} {T : xT_} (hS : xHS f)   (h : xCX m M0 M T) {x0 : Nat} {x1 : Int} {R : (Nat ⊕ Int) × xT_} (tx1 : xin x1) (e : c47_34  f x0 x1 T = some R) : xok (f47_34  f x0 x1 M) (fun r => r.1 = R.1 ∧ xCX m M0 r.2 R.2 ∧ ∀ v, R.1 = .inr v → xiN v) := by
  unfold c47_34 at e
  unfold f47_34
  obtain ⟨v115, q116, e⟩ := xbnd e
  refine xok_eqb (h.gr (by decide) (by decide) q116) ?_
  obtain ⟨v117, q118, e⟩ := xbnd e
  refine xok_eqb (h.gi (by decide) (by decide) q118).1 ?_
  obtain ⟨_, q124, e⟩ := xbnd e
  obtain ⟨R119, e120, e⟩ := xbnd e
  refine xok_eqb (h.is q124) ?_
  refine xok_call (t124 hS h (h.gi (by decide) (by decide) q118).2 e120) ?_
  rintro ⟨v_, M121⟩ ⟨hv_, h122, hi123⟩
  cases hv_
  refine xok_ite (fun c125 => ?_) (fun c125 => ?_)
  · rw [if_pos c125] at e
    exact t47_58  hS  h122  e
  · rw [if_neg c125] at e
    obtain ⟨_, q131, e⟩ := xbnd e
    obtain ⟨R126, e127, e⟩ := xbnd e
    refine xok_eqb (h122.is q131) ?_
    refine xok_call (t36 hS h122 (xin_wr _) e127) ?_
    rintro ⟨v_, M128⟩ ⟨hv_, h129⟩
    cases hv_
    dsimp only
    cases g133 : R126.1 with
    | inl k_ =>
      rw [cth_l g133] at e; cases e
      rw [xth_l (by exact g133)]
      exact ⟨_, rfl, rfl, h129, fun v hv => by cases hv⟩
    | inr v132 =>
      rw [cth_r g133] at e
      rw [xth_r (by exact g133)]
      exact t47_58  hS  h129  e
theorem t47 {m f : Nat} {M0 M : xj_M} {T : xT_} (hS : xHS f) (h : xCX m M0 M T) {a0 : Nat} {R : (Nat ⊕ Int) × xT_}  (e : c47 f a0 T = some R) : xok (f47 f a0 M) (fun r => r.1 = R.1 ∧ xCX m M0 r.2 R.2 ∧ ∀ v, R.1 = .inr v → xiN v) := by
  unfold c47 at e
  unfold f47
  obtain ⟨v134, q135, e⟩ := xbnd e
  refine xok_eqb (h.gr (by decide) (by decide) q135) ?_
  obtain ⟨v136, q137, e⟩ := xbnd e
  refine xok_eqb (h.gr (by decide) (by decide) q137) ?_
  obtain ⟨v138, q139, e⟩ := xbnd e
  refine xok_eqb (h.gi (by decide) (by decide) q139).1 ?_
  obtain ⟨v140, q141, e⟩ := xbnd e
  refine xok_eqb (h.ai (by decide) q141).1 ?_
  obtain ⟨v142, q143, e⟩ := xbnd e
  refine xok_eqb (h.gr (by decide) (by decide) q143) ?_
  obtain ⟨v144, q145, e⟩ := xbnd e
  refine xok_eqb (h.gr (by decide) (by decide) q145) ?_
  obtain ⟨v146, q147, e⟩ := xbnd e
  refine xok_eqb (h.gi (by decide) (by decide) q147).1 ?_
  obtain ⟨v148, q149, e⟩ := xbnd e
  refine xok_eqb (h.ai (by decide) q149).1 ?_
  refine xok_ite (fun c150 => ?_) (fun c150 => ?_)
  · rw [if_pos c150] at e
    exact t47_34  hS  h (h.ai (by decide) q141).2 e
  · rw [if_neg c150] at e
    obtain ⟨_, q156, e⟩ := xbnd e
    obtain ⟨R151, e152, e⟩ := xbnd e
    refine xok_eqb (h.is q156) ?_
    refine xok_call (t36 hS h (h.ai (by decide) q141).2 e152) ?_
    rintro ⟨v_, M153⟩ ⟨hv_, h154⟩
    cases hv_
    dsimp only
    cases g158 : R151.1 with
    | inl k_ =>
      rw [cth_l g158] at e; cases e
      rw [xth_l (by exact g158)]
      exact ⟨_, rfl, rfl, h154, fun v hv => by cases hv⟩
    | inr v157 =>
      rw [cth_r g158] at e
      rw [xth_r (by exact g158)]
      exact t47_34  hS  h154 (h.ai (by decide) q141).2 e
-- ChangeHouse$Reader.readVariable
theorem t49_160 {m f : Nat} {M0 M : xj_M} {T : xT_} (hS : xHS f)   (h : xCX m M0 M T) {x0 : Nat} {x4 : Int} {R : (Nat ⊕ Int) × xT_} (tx4 : xin x4) (e : c49_160  f x0 x4 T = some R) : xok (f49_160  f x0 x4 M) (fun r => r.1 = R.1 ∧ xCX m M0 r.2 R.2 ∧ ∀ v, R.1 = .inr v → xin v) := by
  unfold c49_160 at e
  unfold f49_160
  obtain ⟨_, q106, e⟩ := xbnd e
  obtain ⟨R101, e102, e⟩ := xbnd e
  refine xok_eqb (h.is q106) ?_
  refine xok_call (t37 hS h  e102) ?_
  intro M103 h104
  cases e
  exact ⟨_, rfl, rfl, h104, fun v hv => by cases hv; exact tx4⟩
theorem t49_128 {m f : Nat} {M0 M : xj_M} {T : xT_} (hS : xHS f)   (h : xCX m M0 M T) {x0 : Nat} {x1 : Int} {x2 : Int} {x4 : Int} {R : (Nat ⊕ Int) × xT_} (tx1 : xin x1) (tx2 : xiN x2) (tx4 : xin x4) (e : c49_128  f x0 x1 x2 x4 T = some R) : xok (f49_128  f x0 x1 x2 x4 M) (fun r => r.1 = R.1 ∧ xCX m M0 r.2 R.2 ∧ ∀ v, R.1 = .inr v → xin v) := by
  unfold c49_128 at e
  unfold f49_128
  obtain ⟨v107, q108, e⟩ := xbnd e
  refine xok_eqb (h.gr (by decide) (by decide) q108) ?_
  obtain ⟨T110, q109, e⟩ := xbnd e
  obtain ⟨M111, q112, h113⟩ := h.sl tx2 q109
  refine xok_eqb q112 ?_
  obtain ⟨v114, q115, e⟩ := xbnd e
  refine xok_eqb (h113.gr (by decide) (by decide) q115) ?_
  obtain ⟨v116, q117, e⟩ := xbnd e
  refine xok_eqb (h113.gr (by decide) (by decide) q117) ?_
  obtain ⟨T119, q118, e⟩ := xbnd e
  obtain ⟨M120, q121, h122⟩ := h113.si tx1 q118
  refine xok_eqb q121 ?_
  obtain ⟨v123, q124, e⟩ := xbnd e
  refine xok_eqb (h122.gr (by decide) (by decide) q124) ?_
  obtain ⟨v125, q126, e⟩ := xbnd e
  refine xok_eqb (h122.gi (by decide) (by decide) q126).1 ?_
  obtain ⟨T128, q127, e⟩ := xbnd e
  obtain ⟨M129, q130, h131⟩ := h122.pi (by decide) (by decide) (xin_wr _) q127
  refine xok_eqb q130 ?_
  exact t49_160  hS  h131 tx4 e
theorem t49_104 {m f : Nat} {M0 M : xj_M} {T : xT_} (hS : xHS f)   (h : xCX m M0 M T) {x0 : Nat} {x1 : Int} {x2 : Int} {x4 : Int} {R : (Nat ⊕ Int) × xT_} (tx1 : xin x1) (tx2 : xiN x2) (tx4 : xin x4) (e : c49_104  f x0 x1 x2 x4 T = some R) : xok (f49_104  f x0 x1 x2 x4 M) (fun r => r.1 = R.1 ∧ xCX m M0 r.2 R.2 ∧ ∀ v, R.1 = .inr v → xin v) := by
  unfold c49_104 at e
  unfold f49_104
  obtain ⟨v132, q133, e⟩ := xbnd e
  refine xok_eqb (h.gr (by decide) (by decide) q133) ?_
  obtain ⟨v134, q135, e⟩ := xbnd e
  refine xok_eqb (h.gi (by decide) (by decide) q135).1 ?_
  refine xok_ite (fun c136 => ?_) (fun c136 => ?_)
  · rw [if_pos c136] at e
    exact t49_160  hS  h tx4 e
  · rw [if_neg c136] at e
    refine xok_ite (fun c137 => ?_) (fun c137 => ?_)
    · rw [if_pos c137] at e
      exact t49_128  hS  h tx1 tx2 tx4 e
    · rw [if_neg c137] at e
      obtain ⟨_, q143, e⟩ := xbnd e
      obtain ⟨R138, e139, e⟩ := xbnd e
      refine xok_eqb (h.is q143) ?_
      refine xok_call (t36 hS h tx1 e139) ?_
      rintro ⟨v_, M140⟩ ⟨hv_, h141⟩
      cases hv_
      dsimp only
      cases g145 : R138.1 with
      | inl k_ =>
        rw [cth_l g145] at e; cases e
        rw [xth_l (by exact g145)]
        exact ⟨_, rfl, rfl, h141, fun v hv => by cases hv⟩
      | inr v144 =>
        rw [cth_r g145] at e
        rw [xth_r (by exact g145)]
        exact t49_128  hS  h141 tx1 tx2 tx4 e
theorem t49_74b {m f : Nat} {M0 M : xj_M} {T : xT_} (hS : xHS f) {r74 : Nat → Int → Int → Int → xT_ → Option ((Nat ⊕ Int) × xT_)} {o74 : Nat → Int → Int → Int → xj_M → Option ((Nat ⊕ Int) × xj_M)} (hr74 : ∀ {M : xj_M} {T : xT_} {x0 : Nat} {x1 : Int} {x2 : Int} {x4 : Int} {R : (Nat ⊕ Int) × xT_}, xCX m M0 M T → xin x1 → xiN x2 → xin x4 → r74 x0 x1 x2 x4 T = some R → xok (o74 x0 x1 x2 x4 M) (fun r => r.1 = R.1 ∧ xCX m M0 r.2 R.2 ∧ ∀ v, R.1 = .inr v → xin v)) (h : xCX m M0 M T) {x0 : Nat} {x1 : Int} {x2 : Int} {x4 : Int} {R : (Nat ⊕ Int) × xT_} (tx1 : xin x1) (tx2 : xiN x2) (tx4 : xin x4) (e : c49_74b r74 f x0 x1 x2 x4 T = some R) : xok (f49_74b o74 f x0 x1 x2 x4 M) (fun r => r.1 = R.1 ∧ xCX m M0 r.2 R.2 ∧ ∀ v, R.1 = .inr v → xin v) := by
  unfold c49_74b at e
  unfold f49_74b
  obtain ⟨v146, q147, e⟩ := xbnd e
  refine xok_eqb (h.gr (by decide) (by decide) q147) ?_
  obtain ⟨v148, q149, e⟩ := xbnd e
  refine xok_eqb (h.gi (by decide) (by decide) q149).1 ?_
  refine xok_ite (fun c150 => ?_) (fun c150 => ?_)
  · rw [if_pos c150] at e
    exact t49_104  hS  h tx1 tx2 tx4 e
  · rw [if_neg c150] at e
    obtain ⟨v151, q152, e⟩ := xbnd e
    refine xok_eqb (h.gr (by decide) (by decide) q152) ?_
    obtain ⟨v153, q154, e⟩ := xbnd e
    refine xok_eqb (h.al q154).1 ?_
    refine xok_ite (fun c155 => ?_) (fun c155 => ?_)
    · rw [if_pos c155] at e
      exact t49_104  hS  h tx1 tx2 tx4 e
    · rw [if_neg c155] at e
      exact hr74 h tx1 tx2 (xin_wr _) e
theorem t49_74 {m f : Nat} {M0 : xj_M} (hS : xHS f)   : ∀ {n : Nat} {M : xj_M} {T : xT_} {x0 : Nat} {x1 : Int} {x2 : Int} {x4 : Int} {R : (Nat ⊕ Int) × xT_}, xCX m M0 M T → xin x1 → xiN x2 → xin x4 → c49_74  f n x0 x1 x2 x4 T = some R → xok (f49_74  f n x0 x1 x2 x4 M) (fun r => r.1 = R.1 ∧ xCX m M0 r.2 R.2 ∧ ∀ v, R.1 = .inr v → xin v) := by
  intro n
  induction n with
  | zero => intros; rename_i e; cases e
  | succ n ih =>
    intros
    rename_i h i0 i1 i2 e
    exact t49_74b hS  @ih h i0 i1 i2 e
theorem t49_58 {m f : Nat} {M0 M : xj_M} {T : xT_} (hS : xHS f)   (h : xCX m M0 M T) {x0 : Nat} {x1 : Int} {R : (Nat ⊕ Int) × xT_} (tx1 : xin x1) (e : c49_58  f x0 x1 T = some R) : xok (f49_58  f x0 x1 M) (fun r => r.1 = R.1 ∧ xCX m M0 r.2 R.2 ∧ ∀ v, R.1 = .inr v → xin v) := by
  unfold c49_58 at e
  unfold f49_58
  obtain ⟨v156, q157, e⟩ := xbnd e
  refine xok_eqb (h.gr (by decide) (by decide) q157) ?_
  obtain ⟨v158, q159, e⟩ := xbnd e
  refine xok_eqb (h.gr (by decide) (by decide) q159) ?_
  obtain ⟨v160, q161, e⟩ := xbnd e
  refine xok_eqb (h.gi (by decide) (by decide) q161).1 ?_
  obtain ⟨v162, q163, e⟩ := xbnd e
  refine xok_eqb (h.al q163).1 ?_
  exact t49_74  hS  h tx1 (h.al q163).2 (show xin (0) by decide) e
theorem t49_34 {m f : Nat} {M0 M : xj_M} {T : xT_} (hS : xHS f)   (h : xCX m M0 M T) {x0 : Nat} {x1 : Int} {R : (Nat ⊕ Int) × xT_} (tx1 : xin x1) (e : c49_34  f x0 x1 T = some R) : xok (f49_34  f x0 x1 M) (fun r => r.1 = R.1 ∧ xCX m M0 r.2 R.2 ∧ ∀ v, R.1 = .inr v → xin v) := by
  unfold c49_34 at e
  unfold f49_34
  obtain ⟨v164, q165, e⟩ := xbnd e
  refine xok_eqb (h.gr (by decide) (by decide) q165) ?_
  obtain ⟨v166, q167, e⟩ := xbnd e
  refine xok_eqb (h.gi (by decide) (by decide) q167).1 ?_
  obtain ⟨_, q173, e⟩ := xbnd e
  obtain ⟨R168, e169, e⟩ := xbnd e
  refine xok_eqb (h.is q173) ?_
  refine xok_call (t124 hS h (h.gi (by decide) (by decide) q167).2 e169) ?_
  rintro ⟨v_, M170⟩ ⟨hv_, h171, hi172⟩
  cases hv_
  refine xok_ite (fun c174 => ?_) (fun c174 => ?_)
  · rw [if_pos c174] at e
    exact t49_58  hS  h171 tx1 e
  · rw [if_neg c174] at e
    obtain ⟨_, q180, e⟩ := xbnd e
    obtain ⟨R175, e176, e⟩ := xbnd e
    refine xok_eqb (h171.is q180) ?_
    refine xok_call (t36 hS h171 (xin_wr _) e176) ?_
    rintro ⟨v_, M177⟩ ⟨hv_, h178⟩
    cases hv_
    dsimp only
    cases g182 : R175.1 with
    | inl k_ =>
      rw [cth_l g182] at e; cases e
      rw [xth_l (by exact g182)]
      exact ⟨_, rfl, rfl, h178, fun v hv => by cases hv⟩
    | inr v181 =>
      rw [cth_r g182] at e
      rw [xth_r (by exact g182)]
      exact t49_58  hS  h178 tx1 e
theorem t49 {m f : Nat} {M0 M : xj_M} {T : xT_} (hS : xHS f) (h : xCX m M0 M T) {a0 : Nat} {R : (Nat ⊕ Int) × xT_}  (e : c49 f a0 T = some R) : xok (f49 f a0 M) (fun r => r.1 = R.1 ∧ xCX m M0 r.2 R.2 ∧ ∀ v, R.1 = .inr v → xin v) := by
  unfold c49 at e
  unfold f49
  obtain ⟨v183, q184, e⟩ := xbnd e
  refine xok_eqb (h.gr (by decide) (by decide) q184) ?_
  obtain ⟨v185, q186, e⟩ := xbnd e
  refine xok_eqb (h.gr (by decide) (by decide) q186) ?_
  obtain ⟨v187, q188, e⟩ := xbnd e
  refine xok_eqb (h.gi (by decide) (by decide) q188).1 ?_
  obtain ⟨v189, q190, e⟩ := xbnd e
  refine xok_eqb (h.ai (by decide) q190).1 ?_
  obtain ⟨v191, q192, e⟩ := xbnd e
  refine xok_eqb (h.gr (by decide) (by decide) q192) ?_
  obtain ⟨v193, q194, e⟩ := xbnd e
  refine xok_eqb (h.gr (by decide) (by decide) q194) ?_
  obtain ⟨v195, q196, e⟩ := xbnd e
  refine xok_eqb (h.gi (by decide) (by decide) q196).1 ?_
  obtain ⟨v197, q198, e⟩ := xbnd e
  refine xok_eqb (h.ai (by decide) q198).1 ?_
  refine xok_ite (fun c199 => ?_) (fun c199 => ?_)
  · rw [if_pos c199] at e
    exact t49_34  hS  h (h.ai (by decide) q190).2 e
  · rw [if_neg c199] at e
    obtain ⟨_, q205, e⟩ := xbnd e
    obtain ⟨R200, e201, e⟩ := xbnd e
    refine xok_eqb (h.is q205) ?_
    refine xok_call (t36 hS h (h.ai (by decide) q190).2 e201) ?_
    rintro ⟨v_, M202⟩ ⟨hv_, h203⟩
    cases hv_
    dsimp only
    cases g207 : R200.1 with
    | inl k_ =>
      rw [cth_l g207] at e; cases e
      rw [xth_l (by exact g207)]
      exact ⟨_, rfl, rfl, h203, fun v hv => by cases hv⟩
    | inr v206 =>
      rw [cth_r g207] at e
      rw [xth_r (by exact g207)]
      exact t49_34  hS  h203 (h.ai (by decide) q190).2 e
-- ChangeHouse$Reader.readValue
theorem t51_187 {m f : Nat} {M0 M : xj_M} {T : xT_} (hS : xHS f)   (h : xCX m M0 M T) {y0 : Int} {R : (Nat ⊕ Int) × xT_} (ty0 : xiN y0) (e : c51_187  f y0 T = some R) : xok (f51_187  f y0 M) (fun r => r.1 = R.1 ∧ xCX m M0 r.2 R.2 ∧ ∀ v, R.1 = .inr v → xiN v) := by
  unfold c51_187 at e
  unfold f51_187
  cases e
  exact ⟨_, rfl, rfl, h, fun v hv => by cases hv; exact ty0⟩
theorem t51_172 {m f : Nat} {M0 M : xj_M} {T : xT_} (hS : xHS f)   (h : xCX m M0 M T) {x0 : Nat} {x2 : Int} {y0 : Int} {R : (Nat ⊕ Int) × xT_} (tx2 : xin x2) (ty0 : xiN y0) (e : c51_172  f x0 x2 y0 T = some R) : xok (f51_172  f x0 x2 y0 M) (fun r => r.1 = R.1 ∧ xCX m M0 r.2 R.2 ∧ ∀ v, R.1 = .inr v → xiN v) := by
  unfold c51_172 at e
  unfold f51_172
  obtain ⟨_, q106, e⟩ := xbnd e
  obtain ⟨R101, e102, e⟩ := xbnd e
  refine xok_eqb (h.is q106) ?_
  refine xok_call (t37 hS h  e102) ?_
  intro M103 h104
  refine xok_ite (fun c107 => ?_) (fun c107 => ?_)
  · rw [if_pos c107] at e
    exact t51_187  hS  h104 ty0 e
  · rw [if_neg c107] at e
    exact t51_187  hS  h104 (xiN_of _) e
theorem t51_141 {m f : Nat} {M0 M : xj_M} {T : xT_} (hS : xHS f)   (h : xCX m M0 M T) {x0 : Nat} {x1 : Int} {x2 : Int} {R : (Nat ⊕ Int) × xT_} (tx1 : xin x1) (tx2 : xin x2) (e : c51_141  f x0 x1 x2 T = some R) : xok (f51_141  f x0 x1 x2 M) (fun r => r.1 = R.1 ∧ xCX m M0 r.2 R.2 ∧ ∀ v, R.1 = .inr v → xiN v) := by
  unfold c51_141 at e
  unfold f51_141
  refine xok_ite (fun c108 => ?_) (fun c108 => ?_)
  · rw [if_pos c108] at e
    obtain ⟨v109, q110, e⟩ := xbnd e
    refine xok_eqb (h.gr (by decide) (by decide) q110) ?_
    obtain ⟨v111, q112, e⟩ := xbnd e
    refine xok_eqb (h.gr (by decide) (by decide) q112) ?_
    obtain ⟨v113, q114, e⟩ := xbnd e
    refine xok_eqb (h.gi (by decide) (by decide) q114).1 ?_
    obtain ⟨v115, q116, e⟩ := xbnd e
    refine xok_eqb (h.al q116).1 ?_
    exact t51_172  hS  h tx2 (h.al q116).2 e
  · rw [if_neg c108] at e
    obtain ⟨v117, q118, e⟩ := xbnd e
    refine xok_eqb (h.gr (by decide) (by decide) q118) ?_
    obtain ⟨v119, q120, e⟩ := xbnd e
    refine xok_eqb (h.gr (by decide) (by decide) q120) ?_
    obtain ⟨v121, q122, e⟩ := xbnd e
    refine xok_eqb (h.gi (by decide) (by decide) q122).1 ?_
    obtain ⟨v123, q124, e⟩ := xbnd e
    refine xok_eqb (h.al q124).1 ?_
    exact t51_172  hS  h tx2 (h.al q124).2 e
theorem t51_125 {m f : Nat} {M0 M : xj_M} {T : xT_} (hS : xHS f)   (h : xCX m M0 M T) {x0 : Nat} {x1 : Int} {x2 : Int} {R : (Nat ⊕ Int) × xT_} (tx1 : xin x1) (tx2 : xin x2) (e : c51_125  f x0 x1 x2 T = some R) : xok (f51_125  f x0 x1 x2 M) (fun r => r.1 = R.1 ∧ xCX m M0 r.2 R.2 ∧ ∀ v, R.1 = .inr v → xiN v) := by
  unfold c51_125 at e
  unfold f51_125
  obtain ⟨v125, q126, e⟩ := xbnd e
  refine xok_eqb (h.gr (by decide) (by decide) q126) ?_
  obtain ⟨v127, q128, e⟩ := xbnd e
  refine xok_eqb (h.gr (by decide) (by decide) q128) ?_
  obtain ⟨v129, q130, e⟩ := xbnd e
  refine xok_eqb (h.gi (by decide) (by decide) q130).1 ?_
  obtain ⟨v131, q132, e⟩ := xbnd e
  refine xok_eqb (h.ai (by decide) q132).1 ?_
  obtain ⟨_, q138, e⟩ := xbnd e
  obtain ⟨R133, e134, e⟩ := xbnd e
  refine xok_eqb (h.is q138) ?_
  refine xok_call (t36 hS h (h.ai (by decide) q132).2 e134) ?_
  rintro ⟨v_, M135⟩ ⟨hv_, h136⟩
  cases hv_
  dsimp only
  cases g140 : R133.1 with
  | inl k_ =>
    rw [cth_l g140] at e; cases e
    rw [xth_l (by exact g140)]
    exact ⟨_, rfl, rfl, h136, fun v hv => by cases hv⟩
  | inr v139 =>
    rw [cth_r g140] at e
    rw [xth_r (by exact g140)]
    exact t51_141  hS  h136 tx1 tx2 e
theorem t51_86 {m f : Nat} {M0 M : xj_M} {T : xT_} (hS : xHS f)   (h : xCX m M0 M T) {x0 : Nat} {x1 : Int} {x2 : Int} {R : (Nat ⊕ Int) × xT_} (tx1 : xin x1) (tx2 : xin x2) (e : c51_86  f x0 x1 x2 T = some R) : xok (f51_86  f x0 x1 x2 M) (fun r => r.1 = R.1 ∧ xCX m M0 r.2 R.2 ∧ ∀ v, R.1 = .inr v → xiN v) := by
  unfold c51_86 at e
  unfold f51_86
  refine xok_ite (fun c141 => ?_) (fun c141 => ?_)
  · rw [if_pos c141] at e
    exact t51_141  hS  h tx1 tx2 e
  · rw [if_neg c141] at e
    obtain ⟨v142, q143, e⟩ := xbnd e
    refine xok_eqb (h.gr (by decide) (by decide) q143) ?_
    obtain ⟨v144, q145, e⟩ := xbnd e
    refine xok_eqb (h.gr (by decide) (by decide) q145) ?_
    obtain ⟨v146, q147, e⟩ := xbnd e
    refine xok_eqb (h.gi (by decide) (by decide) q147).1 ?_
    obtain ⟨v148, q149, e⟩ := xbnd e
    refine xok_eqb (h.ai (by decide) q149).1 ?_
    refine xok_ite (fun c150 => ?_) (fun c150 => ?_)
    · rw [if_pos c150] at e
      exact t51_125  hS  h tx1 tx2 e
    · rw [if_neg c150] at e
      obtain ⟨v151, q152, e⟩ := xbnd e
      refine xok_eqb (h.gr (by decide) (by decide) q152) ?_
      obtain ⟨v153, q154, e⟩ := xbnd e
      refine xok_eqb (h.gr (by decide) (by decide) q154) ?_
      obtain ⟨v155, q156, e⟩ := xbnd e
      refine xok_eqb (h.gi (by decide) (by decide) q156).1 ?_
      obtain ⟨v157, q158, e⟩ := xbnd e
      refine xok_eqb (h.al q158).1 ?_
      refine xok_ite (fun c159 => ?_) (fun c159 => ?_)
      · rw [if_pos c159] at e
        exact t51_141  hS  h tx1 tx2 e
      · rw [if_neg c159] at e
        exact t51_125  hS  h tx1 tx2 e
theorem t51_77 {m f : Nat} {M0 M : xj_M} {T : xT_} (hS : xHS f)   (h : xCX m M0 M T) {x0 : Nat} {x1 : Int} {y0 : Int} {R : (Nat ⊕ Int) × xT_} (tx1 : xin x1) (ty0 : xin y0) (e : c51_77  f x0 x1 y0 T = some R) : xok (f51_77  f x0 x1 y0 M) (fun r => r.1 = R.1 ∧ xCX m M0 r.2 R.2 ∧ ∀ v, R.1 = .inr v → xiN v) := by
  unfold c51_77 at e
  unfold f51_77
  refine xok_ite (fun c160 => ?_) (fun c160 => ?_)
  · rw [if_pos c160] at e
    exact t51_86  hS  h tx1 ty0 e
  · rw [if_neg c160] at e
    obtain ⟨_, q166, e⟩ := xbnd e
    obtain ⟨R161, e162, e⟩ := xbnd e
    refine xok_eqb (h.is q166) ?_
    refine xok_call (t37 hS h  e162) ?_
    intro M163 h164
    exact t51_86  hS  h164 tx1 ty0 e
theorem t51_76 {m f : Nat} {M0 M : xj_M} {T : xT_} (hS : xHS f)   (h : xCX m M0 M T) {x0 : Nat} {x1 : Int} {R : (Nat ⊕ Int) × xT_} (tx1 : xin x1) (e : c51_76  f x0 x1 T = some R) : xok (f51_76  f x0 x1 M) (fun r => r.1 = R.1 ∧ xCX m M0 r.2 R.2 ∧ ∀ v, R.1 = .inr v → xiN v) := by
  unfold c51_76 at e
  unfold f51_76
  exact t51_77  hS  h tx1 (show xin (0) by decide) e
theorem t51_40 {m f : Nat} {M0 M : xj_M} {T : xT_} (hS : xHS f)   (h : xCX m M0 M T) {x0 : Nat} {y0 : Int} {R : (Nat ⊕ Int) × xT_} (ty0 : xin y0) (e : c51_40  f x0 y0 T = some R) : xok (f51_40  f x0 y0 M) (fun r => r.1 = R.1 ∧ xCX m M0 r.2 R.2 ∧ ∀ v, R.1 = .inr v → xiN v) := by
  unfold c51_40 at e
  unfold f51_40
  obtain ⟨v167, q168, e⟩ := xbnd e
  refine xok_eqb (h.gr (by decide) (by decide) q168) ?_
  obtain ⟨v169, q170, e⟩ := xbnd e
  refine xok_eqb (h.gr (by decide) (by decide) q170) ?_
  obtain ⟨v171, q172, e⟩ := xbnd e
  refine xok_eqb (h.gi (by decide) (by decide) q172).1 ?_
  obtain ⟨v173, q174, e⟩ := xbnd e
  refine xok_eqb (h.ai (by decide) q174).1 ?_
  refine xok_ite (fun c175 => ?_) (fun c175 => ?_)
  · rw [if_pos c175] at e
    exact t51_76  hS  h ty0 e
  · rw [if_neg c175] at e
    obtain ⟨v176, q177, e⟩ := xbnd e
    refine xok_eqb (h.gr (by decide) (by decide) q177) ?_
    obtain ⟨v178, q179, e⟩ := xbnd e
    refine xok_eqb (h.gi (by decide) (by decide) q179).1 ?_
    obtain ⟨_, q185, e⟩ := xbnd e
    obtain ⟨R180, e181, e⟩ := xbnd e
    refine xok_eqb (h.is q185) ?_
    refine xok_call (t126 hS h (h.gi (by decide) (by decide) q179).2 e181) ?_
    rintro ⟨v_, M182⟩ ⟨hv_, h183, hi184⟩
    cases hv_
    refine xok_ite (fun c186 => ?_) (fun c186 => ?_)
    · rw [if_pos c186] at e
      exact t51_76  hS  h183 ty0 e
    · rw [if_neg c186] at e
      exact t51_77  hS  h183 ty0 (show xin (1) by decide) e
theorem t51_39 {m f : Nat} {M0 M : xj_M} {T : xT_} (hS : xHS f)   (h : xCX m M0 M T) {x0 : Nat} {R : (Nat ⊕ Int) × xT_}  (e : c51_39  f x0 T = some R) : xok (f51_39  f x0 M) (fun r => r.1 = R.1 ∧ xCX m M0 r.2 R.2 ∧ ∀ v, R.1 = .inr v → xiN v) := by
  unfold c51_39 at e
  unfold f51_39
  exact t51_40  hS  h (show xin (0) by decide) e
theorem t51 {m f : Nat} {M0 M : xj_M} {T : xT_} (hS : xHS f) (h : xCX m M0 M T) {a0 : Nat} {R : (Nat ⊕ Int) × xT_}  (e : c51 f a0 T = some R) : xok (f51 f a0 M) (fun r => r.1 = R.1 ∧ xCX m M0 r.2 R.2 ∧ ∀ v, R.1 = .inr v → xiN v) := by
  unfold c51 at e
  unfold f51
  obtain ⟨v187, q188, e⟩ := xbnd e
  refine xok_eqb (h.gr (by decide) (by decide) q188) ?_
  obtain ⟨v189, q190, e⟩ := xbnd e
  refine xok_eqb (h.gr (by decide) (by decide) q190) ?_
  obtain ⟨v191, q192, e⟩ := xbnd e
  refine xok_eqb (h.gi (by decide) (by decide) q192).1 ?_
  obtain ⟨v193, q194, e⟩ := xbnd e
  refine xok_eqb (h.ai (by decide) q194).1 ?_
  refine xok_ite (fun c195 => ?_) (fun c195 => ?_)
  · rw [if_pos c195] at e
    exact t51_39  hS  h  e
  · rw [if_neg c195] at e
    obtain ⟨v196, q197, e⟩ := xbnd e
    refine xok_eqb (h.gr (by decide) (by decide) q197) ?_
    obtain ⟨v198, q199, e⟩ := xbnd e
    refine xok_eqb (h.gr (by decide) (by decide) q199) ?_
    obtain ⟨v200, q201, e⟩ := xbnd e
    refine xok_eqb (h.gi (by decide) (by decide) q201).1 ?_
    obtain ⟨v202, q203, e⟩ := xbnd e
    refine xok_eqb (h.al q203).1 ?_
    refine xok_ite (fun c204 => ?_) (fun c204 => ?_)
    · rw [if_pos c204] at e
      exact t51_39  hS  h  e
    · rw [if_neg c204] at e
      exact t51_40  hS  h (show xin (1) by decide) e
-- ChangeHouse$Reader.readGathering
theorem t54_186 {m f : Nat} {M0 M : xj_M} {T : xT_} (hS : xHS f)   (h : xCX m M0 M T) {x0 : Nat} {R : (Nat ⊕ Unit) × xT_}  (e : c54_186  f x0 T = some R) : xok (f54_186  f x0 M) (fun r => r.1 = R.1 ∧ xCX m M0 r.2 R.2) := by
  unfold c54_186 at e
  unfold f54_186
  obtain ⟨_, q106, e⟩ := xbnd e
  obtain ⟨R101, e102, e⟩ := xbnd e
  refine xok_eqb (h.is q106) ?_
  refine xok_call (t38 hS h (show xin (41) by decide) e102) ?_
  rintro ⟨v_, M103⟩ ⟨hv_, h104⟩
  cases hv_
  dsimp only
  cases g108 : R101.1 with
  | inl k_ =>
    rw [cth_l g108] at e; cases e
    rw [xth_l (by exact g108)]
    exact ⟨_, rfl, rfl, h104⟩
  | inr v107 =>
    rw [cth_r g108] at e
    rw [xth_r (by exact g108)]
    cases e
    exact ⟨_, rfl, rfl, h104⟩
theorem t54_133 {m f : Nat} {M0 M : xj_M} {T : xT_} (hS : xHS f)   (h : xCX m M0 M T) {x0 : Nat} {x2 : Int} {x4 : Int} {y0 : Int} {y1 : Nat} {R : (Nat ⊕ Unit) × xT_} (tx2 : xin x2) (tx4 : xin x4) (ty0 : xin y0) (e : c54_133  f x0 x2 x4 y0 y1 T = some R) : xok (f54_133  f x0 x2 x4 y0 y1 M) (fun r => r.1 = R.1 ∧ xCX m M0 r.2 R.2) := by
  unfold c54_133 at e
  unfold f54_133
  obtain ⟨_, q114, e⟩ := xbnd e
  obtain ⟨R109, e110, e⟩ := xbnd e
  refine xok_eqb (h.is q114) ?_
  refine xok_call (t56 hS h ty0 (xin_N (xin_wr _)) e110) ?_
  intro M111 h112
  exact t54_186  hS  h112  e
theorem t54_121 {m f : Nat} {M0 M : xj_M} {T : xT_} (hS : xHS f)   (h : xCX m M0 M T) {x0 : Nat} {x1 : Int} {x2 : Int} {x4 : Int} {R : (Nat ⊕ Unit) × xT_} (tx1 : xin x1) (tx2 : xin x2) (tx4 : xin x4) (e : c54_121  f x0 x1 x2 x4 T = some R) : xok (f54_121  f x0 x1 x2 x4 M) (fun r => r.1 = R.1 ∧ xCX m M0 r.2 R.2) := by
  unfold c54_121 at e
  unfold f54_121
  refine xok_ite (fun c115 => ?_) (fun c115 => ?_)
  · rw [if_pos c115] at e
    exact t54_133  hS  h tx2 tx4 (show xin (4) by decide) e
  · rw [if_neg c115] at e
    exact t54_133  hS  h tx2 tx4 (show xin (3) by decide) e
theorem t54_116 {m f : Nat} {M0 M : xj_M} {T : xT_} (hS : xHS f)   (h : xCX m M0 M T) {x0 : Nat} {x1 : Int} {x2 : Int} {x3 : Int} {x4 : Int} {R : (Nat ⊕ Unit) × xT_} (tx1 : xin x1) (tx2 : xin x2) (tx3 : xin x3) (tx4 : xin x4) (e : c54_116  f x0 x1 x2 x3 x4 T = some R) : xok (f54_116  f x0 x1 x2 x3 x4 M) (fun r => r.1 = R.1 ∧ xCX m M0 r.2 R.2) := by
  unfold c54_116 at e
  unfold f54_116
  obtain ⟨_, q121, e⟩ := xbnd e
  obtain ⟨R116, e117, e⟩ := xbnd e
  refine xok_eqb (h.is q121) ?_
  refine xok_call (t36 hS h tx3 e117) ?_
  rintro ⟨v_, M118⟩ ⟨hv_, h119⟩
  cases hv_
  dsimp only
  cases g123 : R116.1 with
  | inl k_ =>
    rw [cth_l g123] at e; cases e
    rw [xth_l (by exact g123)]
    exact ⟨_, rfl, rfl, h119⟩
  | inr v122 =>
    rw [cth_r g123] at e
    rw [xth_r (by exact g123)]
    exact t54_121  hS  h119 tx1 tx2 tx4 e
theorem t54_62 {m f : Nat} {M0 M : xj_M} {T : xT_} (hS : xHS f)   (h : xCX m M0 M T) {x0 : Nat} {x1 : Int} {R : (Nat ⊕ Unit) × xT_} (tx1 : xin x1) (e : c54_62  f x0 x1 T = some R) : xok (f54_62  f x0 x1 M) (fun r => r.1 = R.1 ∧ xCX m M0 r.2 R.2) := by
  unfold c54_62 at e
  unfold f54_62
  obtain ⟨_, q129, e⟩ := xbnd e
  obtain ⟨R124, e125, e⟩ := xbnd e
  refine xok_eqb (h.is q129) ?_
  refine xok_call (t52 hS h  e125) ?_
  rintro ⟨v_, M126⟩ ⟨hv_, h127, hi128⟩
  cases hv_
  dsimp only
  cases g131 : R124.1 with
  | inl k_ =>
    rw [cth_l g131] at e; cases e
    rw [xth_l (by exact g131)]
    exact ⟨_, rfl, rfl, h127⟩
  | inr v130 =>
    rw [cth_r g131] at e
    rw [xth_r (by exact g131)]
    obtain ⟨_, q137, e⟩ := xbnd e
    obtain ⟨R132, e133, e⟩ := xbnd e
    refine xok_eqb (h127.is q137) ?_
    refine xok_call (t38 hS h127 (show xin (58) by decide) e133) ?_
    rintro ⟨v_, M134⟩ ⟨hv_, h135⟩
    cases hv_
    dsimp only
    cases g139 : R132.1 with
    | inl k_ =>
      rw [cth_l g139] at e; cases e
      rw [xth_l (by exact g139)]
      exact ⟨_, rfl, rfl, h135⟩
    | inr v138 =>
      rw [cth_r g139] at e
      rw [xth_r (by exact g139)]
      obtain ⟨v140, q141, e⟩ := xbnd e
      refine xok_eqb (h135.gr (by decide) (by decide) q141) ?_
      obtain ⟨v142, q143, e⟩ := xbnd e
      refine xok_eqb (h135.gr (by decide) (by decide) q143) ?_
      obtain ⟨v144, q145, e⟩ := xbnd e
      refine xok_eqb (h135.gi (by decide) (by decide) q145).1 ?_
      obtain ⟨v146, q147, e⟩ := xbnd e
      refine xok_eqb (h135.ai (by decide) q147).1 ?_
      obtain ⟨_, q153, e⟩ := xbnd e
      obtain ⟨R148, e149, e⟩ := xbnd e
      refine xok_eqb (h135.is q153) ?_
      refine xok_call (t52 hS h135  e149) ?_
      rintro ⟨v_, M150⟩ ⟨hv_, h151, hi152⟩
      cases hv_
      dsimp only
      cases g155 : R148.1 with
      | inl k_ =>
        rw [cth_l g155] at e; cases e
        rw [xth_l (by exact g155)]
        exact ⟨_, rfl, rfl, h151⟩
      | inr v154 =>
        rw [cth_r g155] at e
        rw [xth_r (by exact g155)]
        refine xok_ite (fun c156 => ?_) (fun c156 => ?_)
        · rw [if_pos c156] at e
          exact t54_116  hS  h151 tx1 (hi128 _ g131) (h135.ai (by decide) q147).2 (hi152 _ g155) e
        · rw [if_neg c156] at e
          refine xok_ite (fun c157 => ?_) (fun c157 => ?_)
          · rw [if_pos c157] at e
            exact t54_121  hS  h151 tx1 (hi128 _ g131) (hi152 _ g155) e
          · rw [if_neg c157] at e
            exact t54_116  hS  h151 tx1 (hi128 _ g131) (h135.ai (by decide) q147).2 (hi152 _ g155) e
theorem t54_174 {m f : Nat} {M0 M : xj_M} {T : xT_} (hS : xHS f)   (h : xCX m M0 M T) {x0 : Nat} {x1 : Int} {x2 : Int} {x4 : Int} {R : (Nat ⊕ Unit) × xT_} (tx1 : xin x1) (tx2 : xiN x2) (tx4 : xin x4) (e : c54_174  f x0 x1 x2 x4 T = some R) : xok (f54_174  f x0 x1 x2 x4 M) (fun r => r.1 = R.1 ∧ xCX m M0 r.2 R.2) := by
  unfold c54_174 at e
  unfold f54_174
  obtain ⟨_, q163, e⟩ := xbnd e
  obtain ⟨R158, e159, e⟩ := xbnd e
  refine xok_eqb (h.is q163) ?_
  refine xok_call (t56 hS h (xin_of _) tx2 e159) ?_
  intro M160 h161
  exact t54_186  hS  h161  e
theorem t54_147 {m f : Nat} {M0 M : xj_M} {T : xT_} (hS : xHS f)   (h : xCX m M0 M T) {x0 : Nat} {x1 : Int} {R : (Nat ⊕ Unit) × xT_} (tx1 : xin x1) (e : c54_147  f x0 x1 T = some R) : xok (f54_147  f x0 x1 M) (fun r => r.1 = R.1 ∧ xCX m M0 r.2 R.2) := by
  unfold c54_147 at e
  unfold f54_147
  obtain ⟨_, q169, e⟩ := xbnd e
  obtain ⟨R164, e165, e⟩ := xbnd e
  refine xok_eqb (h.is q169) ?_
  refine xok_call (t47 hS h  e165) ?_
  rintro ⟨v_, M166⟩ ⟨hv_, h167, hi168⟩
  cases hv_
  dsimp only
  cases g171 : R164.1 with
  | inl k_ =>
    rw [cth_l g171] at e; cases e
    rw [xth_l (by exact g171)]
    exact ⟨_, rfl, rfl, h167⟩
  | inr v170 =>
    rw [cth_r g171] at e
    rw [xth_r (by exact g171)]
    refine xok_ite (fun c172 => ?_) (fun c172 => ?_)
    · rw [if_pos c172] at e
      exact t54_174  hS  h167 tx1 (hi168 _ g171) (show xin (0) by decide) e
    · rw [if_neg c172] at e
      obtain ⟨_, q178, e⟩ := xbnd e
      obtain ⟨R173, e174, e⟩ := xbnd e
      refine xok_eqb (h167.is q178) ?_
      refine xok_call (t38 hS h167 (show xin (44) by decide) e174) ?_
      rintro ⟨v_, M175⟩ ⟨hv_, h176⟩
      cases hv_
      dsimp only
      cases g180 : R173.1 with
      | inl k_ =>
        rw [cth_l g180] at e; cases e
        rw [xth_l (by exact g180)]
        exact ⟨_, rfl, rfl, h176⟩
      | inr v179 =>
        rw [cth_r g180] at e
        rw [xth_r (by exact g180)]
        obtain ⟨_, q186, e⟩ := xbnd e
        obtain ⟨R181, e182, e⟩ := xbnd e
        refine xok_eqb (h176.is q186) ?_
        refine xok_call (t50 hS h176 (show xin (4) by decide) e182) ?_
        rintro ⟨v_, M183⟩ ⟨hv_, h184, hi185⟩
        cases hv_
        dsimp only
        cases g188 : R181.1 with
        | inl k_ =>
          rw [cth_l g188] at e; cases e
          rw [xth_l (by exact g188)]
          exact ⟨_, rfl, rfl, h184⟩
        | inr v187 =>
          rw [cth_r g188] at e
          rw [xth_r (by exact g188)]
          exact t54_174  hS  h184 tx1 (hi168 _ g171) (hi185 _ g188) e
theorem t54_28 {m f : Nat} {M0 M : xj_M} {T : xT_} (hS : xHS f)   (h : xCX m M0 M T) {x0 : Nat} {x1 : Int} {R : (Nat ⊕ Unit) × xT_} (tx1 : xin x1) (e : c54_28  f x0 x1 T = some R) : xok (f54_28  f x0 x1 M) (fun r => r.1 = R.1 ∧ xCX m M0 r.2 R.2) := by
  unfold c54_28 at e
  unfold f54_28
  obtain ⟨_, q194, e⟩ := xbnd e
  obtain ⟨R189, e190, e⟩ := xbnd e
  refine xok_eqb (h.is q194) ?_
  refine xok_call (t38 hS h (show xin (40) by decide) e190) ?_
  rintro ⟨v_, M191⟩ ⟨hv_, h192⟩
  cases hv_
  dsimp only
  cases g196 : R189.1 with
  | inl k_ =>
    rw [cth_l g196] at e; cases e
    rw [xth_l (by exact g196)]
    exact ⟨_, rfl, rfl, h192⟩
  | inr v195 =>
    rw [cth_r g196] at e
    rw [xth_r (by exact g196)]
    obtain ⟨v197, q198, e⟩ := xbnd e
    refine xok_eqb (h192.gr (by decide) (by decide) q198) ?_
    obtain ⟨v199, q200, e⟩ := xbnd e
    refine xok_eqb (h192.gr (by decide) (by decide) q200) ?_
    obtain ⟨v201, q202, e⟩ := xbnd e
    refine xok_eqb (h192.gi (by decide) (by decide) q202).1 ?_
    obtain ⟨v203, q204, e⟩ := xbnd e
    refine xok_eqb (h192.ai (by decide) q204).1 ?_
    refine xok_ite (fun c205 => ?_) (fun c205 => ?_)
    · rw [if_pos c205] at e
      exact t54_147  hS  h192 tx1 e
    · rw [if_neg c205] at e
      refine xok_ite (fun c206 => ?_) (fun c206 => ?_)
      · rw [if_pos c206] at e
        exact t54_62  hS  h192 tx1 e
      · rw [if_neg c206] at e
        refine xok_ite (fun c207 => ?_) (fun c207 => ?_)
        · rw [if_pos c207] at e
          exact t54_147  hS  h192 tx1 e
        · rw [if_neg c207] at e
          exact t54_62  hS  h192 tx1 e
theorem t54 {m f : Nat} {M0 M : xj_M} {T : xT_} (hS : xHS f) (h : xCX m M0 M T) {a0 : Nat} {a1 : Int} {R : (Nat ⊕ Unit) × xT_} (ta1 : xin a1) (e : c54 f a0 a1 T = some R) : xok (f54 f a0 a1 M) (fun r => r.1 = R.1 ∧ xCX m M0 r.2 R.2) := by
  unfold c54 at e
  unfold f54
  obtain ⟨_, q213, e⟩ := xbnd e
  obtain ⟨R208, e209, e⟩ := xbnd e
  refine xok_eqb (h.is q213) ?_
  refine xok_call (t37 hS h  e209) ?_
  intro M210 h211
  obtain ⟨_, q219, e⟩ := xbnd e
  obtain ⟨R214, e215, e⟩ := xbnd e
  refine xok_eqb (h211.is q219) ?_
  refine xok_call (t58 hS h211  e215) ?_
  rintro ⟨v_, M216⟩ ⟨hv_, h217, hi218⟩
  cases hv_
  refine xok_ite (fun c220 => ?_) (fun c220 => ?_)
  · rw [if_pos c220] at e
    exact t54_28  hS  h217 ta1 e
  · rw [if_neg c220] at e
    obtain ⟨v221, q222, e⟩ := xbnd e
    refine xok_eqb (h217.gr (by decide) (by decide) q222) ?_
    obtain ⟨v223, q224, e⟩ := xbnd e
    refine xok_eqb (h217.gr (by decide) (by decide) q224) ?_
    obtain ⟨v225, q226, e⟩ := xbnd e
    refine xok_eqb (h217.gi (by decide) (by decide) q226).1 ?_
    obtain ⟨v227, q228, e⟩ := xbnd e
    refine xok_eqb (h217.ai (by decide) q228).1 ?_
    obtain ⟨_, q234, e⟩ := xbnd e
    obtain ⟨R229, e230, e⟩ := xbnd e
    refine xok_eqb (h217.is q234) ?_
    refine xok_call (t36 hS h217 (h217.ai (by decide) q228).2 e230) ?_
    rintro ⟨v_, M231⟩ ⟨hv_, h232⟩
    cases hv_
    dsimp only
    cases g236 : R229.1 with
    | inl k_ =>
      rw [cth_l g236] at e; cases e
      rw [xth_l (by exact g236)]
      exact ⟨_, rfl, rfl, h232⟩
    | inr v235 =>
      rw [cth_r g236] at e
      rw [xth_r (by exact g236)]
      exact t54_28  hS  h232 ta1 e
-- ChangeHouse$Reader.queryFault
theorem t63_60 {m f : Nat} {M0 M : xj_M} {T : xT_} (hS : xHS f)   (h : xCX m M0 M T) {y0 : Int} {R : Int × xT_} (ty0 : xin y0) (e : c63_60  f y0 T = some R) : xok (f63_60  f y0 M) (fun r => r.1 = R.1 ∧ xCX m M0 r.2 R.2 ∧ xin R.1) := by
  unfold c63_60 at e
  unfold f63_60
  cases e
  exact ⟨_, rfl, rfl, h, ty0⟩
theorem t63 {m f : Nat} {M0 M : xj_M} {T : xT_} (hS : xHS f) (h : xCX m M0 M T) {a0 : Nat} {R : Int × xT_}  (e : c63 f a0 T = some R) : xok (f63 f a0 M) (fun r => r.1 = R.1 ∧ xCX m M0 r.2 R.2 ∧ xin R.1) := by
  unfold c63 at e
  unfold f63
  obtain ⟨_, q106, e⟩ := xbnd e
  obtain ⟨R101, e102, e⟩ := xbnd e
  refine xok_eqb (h.is q106) ?_
  refine xok_call (t66 hS h  e102) ?_
  rintro ⟨v_, M103⟩ ⟨hv_, h104, hi105⟩
  cases hv_
  obtain ⟨T108, q107, e⟩ := xbnd e
  obtain ⟨M109, q110, h111⟩ := h104.pi (by decide) (by decide) hi105 q107
  refine xok_eqb q110 ?_
  obtain ⟨v112, q113, e⟩ := xbnd e
  refine xok_eqb (h111.gi (by decide) (by decide) q113).1 ?_
  refine xok_ite (fun c114 => ?_) (fun c114 => ?_)
  · rw [if_pos c114] at e
    obtain ⟨_, q120, e⟩ := xbnd e
    obtain ⟨R115, e116, e⟩ := xbnd e
    refine xok_eqb (h111.is q120) ?_
    refine xok_call (t67 hS h111  e116) ?_
    rintro ⟨v_, M117⟩ ⟨hv_, h118, hi119⟩
    cases hv_
    obtain ⟨T122, q121, e⟩ := xbnd e
    obtain ⟨M123, q124, h125⟩ := h118.pi (by decide) (by decide) hi119 q121
    refine xok_eqb q124 ?_
    obtain ⟨v126, q127, e⟩ := xbnd e
    refine xok_eqb (h125.gi (by decide) (by decide) q127).1 ?_
    refine xok_ite (fun c128 => ?_) (fun c128 => ?_)
    · rw [if_pos c128] at e
      obtain ⟨v129, q130, e⟩ := xbnd e
      refine xok_eqb (h125.gr (by decide) (by decide) q130) ?_
      obtain ⟨_, q136, e⟩ := xbnd e
      obtain ⟨R131, e132, e⟩ := xbnd e
      refine xok_eqb (h125.is q136) ?_
      refine xok_call (t95 hS h125  e132) ?_
      rintro ⟨v_, M133⟩ ⟨hv_, h134, hi135⟩
      cases hv_
      obtain ⟨T138, q137, e⟩ := xbnd e
      obtain ⟨M139, q140, h141⟩ := h134.pi (by decide) (by decide) hi135 q137
      refine xok_eqb q140 ?_
      obtain ⟨v142, q143, e⟩ := xbnd e
      refine xok_eqb (h141.gi (by decide) (by decide) q143).1 ?_
      refine xok_ite (fun c144 => ?_) (fun c144 => ?_)
      · rw [if_pos c144] at e
        exact t63_60  hS  h141 (show xin (0) by decide) e
      · rw [if_neg c144] at e
        exact t63_60  hS  h141 (show xin (4) by decide) e
    · rw [if_neg c128] at e
      cases e
      exact ⟨_, rfl, rfl, h125, (show xin (3) by decide)⟩
  · rw [if_neg c114] at e
    cases e
    exact ⟨_, rfl, rfl, h111, (show xin (2) by decide)⟩
-- ChangeHouse$Rows.meeting
theorem t85_182 {m f : Nat} {M0 M : xj_M} {T : xT_} (hS : xHS f)   (h : xCX m M0 M T) {y0 : Int} {R : Int × xT_} (ty0 : xin y0) (e : c85_182  f y0 T = some R) : xok (f85_182  f y0 M) (fun r => r.1 = R.1 ∧ xCX m M0 r.2 R.2 ∧ xin R.1) := by
  unfold c85_182 at e
  unfold f85_182
  cases e
  exact ⟨_, rfl, rfl, h, ty0⟩
theorem t85_210 {m f : Nat} {M0 M : xj_M} {T : xT_} (hS : xHS f) {r11 : Nat → Nat → Nat → Int → Nat → Int → Int → xT_ → Option (Int × xT_)} {o11 : Nat → Nat → Nat → Int → Nat → Int → Int → xj_M → Option (Int × xj_M)} (hr11 : ∀ {M : xj_M} {T : xT_} {x0 : Nat} {x1 : Nat} {x2 : Nat} {x3 : Int} {x4 : Nat} {x5 : Int} {x6 : Int} {R : Int × xT_}, xCX m M0 M T → xin x3 → xin x5 → xin x6 → r11 x0 x1 x2 x3 x4 x5 x6 T = some R → xok (o11 x0 x1 x2 x3 x4 x5 x6 M) (fun r => r.1 = R.1 ∧ xCX m M0 r.2 R.2 ∧ xin R.1)) (h : xCX m M0 M T) {x0 : Nat} {x1 : Nat} {x2 : Nat} {x3 : Int} {x4 : Nat} {x5 : Int} {y0 : Int} {y1 : Int} {R : Int × xT_} (tx3 : xin x3) (tx5 : xin x5) (ty0 : xin y0) (ty1 : xin y1) (e : c85_210 r11 f x0 x1 x2 x3 x4 x5 y0 y1 T = some R) : xok (f85_210 o11 f x0 x1 x2 x3 x4 x5 y0 y1 M) (fun r => r.1 = R.1 ∧ xCX m M0 r.2 R.2 ∧ xin R.1) := by
  unfold c85_210 at e
  unfold f85_210
  exact hr11 h tx3 tx5 (xin_wr _) e
theorem t85_195 {m f : Nat} {M0 M : xj_M} {T : xT_} (hS : xHS f) {r11 : Nat → Nat → Nat → Int → Nat → Int → Int → xT_ → Option (Int × xT_)} {o11 : Nat → Nat → Nat → Int → Nat → Int → Int → xj_M → Option (Int × xj_M)} (hr11 : ∀ {M : xj_M} {T : xT_} {x0 : Nat} {x1 : Nat} {x2 : Nat} {x3 : Int} {x4 : Nat} {x5 : Int} {x6 : Int} {R : Int × xT_}, xCX m M0 M T → xin x3 → xin x5 → xin x6 → r11 x0 x1 x2 x3 x4 x5 x6 T = some R → xok (o11 x0 x1 x2 x3 x4 x5 x6 M) (fun r => r.1 = R.1 ∧ xCX m M0 r.2 R.2 ∧ xin R.1)) (h : xCX m M0 M T) {x0 : Nat} {x1 : Nat} {x2 : Nat} {x3 : Int} {x4 : Nat} {x6 : Int} {x7 : Int} {y0 : Int} {y1 : Int} {R : Int × xT_} (tx3 : xin x3) (tx6 : xin x6) (tx7 : xin x7) (ty0 : xin y0) (ty1 : xin y1) (e : c85_195 r11 f x0 x1 x2 x3 x4 x6 x7 y0 y1 T = some R) : xok (f85_195 o11 f x0 x1 x2 x3 x4 x6 x7 y0 y1 M) (fun r => r.1 = R.1 ∧ xCX m M0 r.2 R.2 ∧ xin R.1) := by
  unfold c85_195 at e
  unfold f85_195
  refine xok_ite (fun c101 => ?_) (fun c101 => ?_)
  · rw [if_pos c101] at e
    exact t85_210 (r11 := r11) (o11 := o11) hS @hr11 h tx3 (xin_wr _) (show xin (0) by decide) tx6 e
  · rw [if_neg c101] at e
    exact t85_210 (r11 := r11) (o11 := o11) hS @hr11 h tx3 (xin_wr _) (show xin (1) by decide) tx6 e
theorem t85_183 {m f : Nat} {M0 M : xj_M} {T : xT_} (hS : xHS f) {r11 : Nat → Nat → Nat → Int → Nat → Int → Int → xT_ → Option (Int × xT_)} {o11 : Nat → Nat → Nat → Int → Nat → Int → Int → xj_M → Option (Int × xj_M)} (hr11 : ∀ {M : xj_M} {T : xT_} {x0 : Nat} {x1 : Nat} {x2 : Nat} {x3 : Int} {x4 : Nat} {x5 : Int} {x6 : Int} {R : Int × xT_}, xCX m M0 M T → xin x3 → xin x5 → xin x6 → r11 x0 x1 x2 x3 x4 x5 x6 T = some R → xok (o11 x0 x1 x2 x3 x4 x5 x6 M) (fun r => r.1 = R.1 ∧ xCX m M0 r.2 R.2 ∧ xin R.1)) (h : xCX m M0 M T) {x0 : Nat} {x1 : Nat} {x2 : Nat} {x3 : Int} {x4 : Nat} {x5 : Int} {x6 : Int} {x7 : Int} {R : Int × xT_} (tx3 : xin x3) (tx5 : xin x5) (tx6 : xin x6) (tx7 : xin x7) (e : c85_183 r11 f x0 x1 x2 x3 x4 x5 x6 x7 T = some R) : xok (f85_183 o11 f x0 x1 x2 x3 x4 x5 x6 x7 M) (fun r => r.1 = R.1 ∧ xCX m M0 r.2 R.2 ∧ xin R.1) := by
  unfold c85_183 at e
  unfold f85_183
  refine xok_ite (fun c102 => ?_) (fun c102 => ?_)
  · rw [if_pos c102] at e
    exact t85_195 (r11 := r11) (o11 := o11) hS @hr11 h tx3 tx6 tx7 (show xin (0) by decide) tx5 e
  · rw [if_neg c102] at e
    exact t85_195 (r11 := r11) (o11 := o11) hS @hr11 h tx3 tx6 tx7 (show xin (1) by decide) tx5 e
theorem t85_118 {m f : Nat} {M0 M : xj_M} {T : xT_} (hS : xHS f) {r11 : Nat → Nat → Nat → Int → Nat → Int → Int → xT_ → Option (Int × xT_)} {o11 : Nat → Nat → Nat → Int → Nat → Int → Int → xj_M → Option (Int × xj_M)} (hr11 : ∀ {M : xj_M} {T : xT_} {x0 : Nat} {x1 : Nat} {x2 : Nat} {x3 : Int} {x4 : Nat} {x5 : Int} {x6 : Int} {R : Int × xT_}, xCX m M0 M T → xin x3 → xin x5 → xin x6 → r11 x0 x1 x2 x3 x4 x5 x6 T = some R → xok (o11 x0 x1 x2 x3 x4 x5 x6 M) (fun r => r.1 = R.1 ∧ xCX m M0 r.2 R.2 ∧ xin R.1)) (h : xCX m M0 M T) {x0 : Nat} {x1 : Nat} {x2 : Nat} {x3 : Int} {x4 : Nat} {x5 : Int} {x6 : Int} {x7 : Int} {x8 : Int} {x9 : Int} {R : Int × xT_} (tx3 : xin x3) (tx5 : xin x5) (tx6 : xin x6) (tx7 : xin x7) (tx8 : xin x8) (tx9 : xin x9) (e : c85_118 r11 f x0 x1 x2 x3 x4 x5 x6 x7 x8 x9 T = some R) : xok (f85_118 o11 f x0 x1 x2 x3 x4 x5 x6 x7 x8 x9 M) (fun r => r.1 = R.1 ∧ xCX m M0 r.2 R.2 ∧ xin R.1) := by
  unfold c85_118 at e
  unfold f85_118
  obtain ⟨_, q108, e⟩ := xbnd e
  obtain ⟨R103, e104, e⟩ := xbnd e
  refine xok_eqb (h.is q108) ?_
  refine xok_call (t75 hS h tx3 e104) ?_
  rintro ⟨v_, M105⟩ ⟨hv_, h106, hi107⟩
  cases hv_
  obtain ⟨_, q114, e⟩ := xbnd e
  obtain ⟨R109, e110, e⟩ := xbnd e
  refine xok_eqb (h106.is q114) ?_
  refine xok_call (t86 hS h106 tx8 tx9 e110) ?_
  rintro ⟨v_, M111⟩ ⟨hv_, h112, hi113⟩
  cases hv_
  refine xok_ite (fun c115 => ?_) (fun c115 => ?_)
  · rw [if_pos c115] at e
    exact t85_183 (r11 := r11) (o11 := o11) hS @hr11 h112 tx3 tx5 tx6 tx7 e
  · rw [if_neg c115] at e
    obtain ⟨_, q121, e⟩ := xbnd e
    obtain ⟨R116, e117, e⟩ := xbnd e
    refine xok_eqb (h112.is q121) ?_
    refine xok_call (t86 hS h112 hi107 tx9 e117) ?_
    rintro ⟨v_, M118⟩ ⟨hv_, h119, hi120⟩
    cases hv_
    refine xok_ite (fun c122 => ?_) (fun c122 => ?_)
    · rw [if_pos c122] at e
      exact t85_183 (r11 := r11) (o11 := o11) hS @hr11 h119 tx3 tx5 tx6 tx7 e
    · rw [if_neg c122] at e
      obtain ⟨_, q128, e⟩ := xbnd e
      obtain ⟨R123, e124, e⟩ := xbnd e
      refine xok_eqb (h119.is q128) ?_
      refine xok_call (t86 hS h119 tx8 hi107 e124) ?_
      rintro ⟨v_, M125⟩ ⟨hv_, h126, hi127⟩
      cases hv_
      refine xok_ite (fun c129 => ?_) (fun c129 => ?_)
      · rw [if_pos c129] at e
        exact t85_183 (r11 := r11) (o11 := o11) hS @hr11 h126 tx3 tx5 tx6 tx7 e
      · rw [if_neg c129] at e
        refine xok_ite (fun c130 => ?_) (fun c130 => ?_)
        · rw [if_pos c130] at e
          exact t85_182  hS  h126 (xin_wr _) e
        · rw [if_neg c130] at e
          exact t85_182  hS  h126 (xin_wr _) e
theorem t85_91 {m f : Nat} {M0 M : xj_M} {T : xT_} (hS : xHS f) {r11 : Nat → Nat → Nat → Int → Nat → Int → Int → xT_ → Option (Int × xT_)} {o11 : Nat → Nat → Nat → Int → Nat → Int → Int → xj_M → Option (Int × xj_M)} (hr11 : ∀ {M : xj_M} {T : xT_} {x0 : Nat} {x1 : Nat} {x2 : Nat} {x3 : Int} {x4 : Nat} {x5 : Int} {x6 : Int} {R : Int × xT_}, xCX m M0 M T → xin x3 → xin x5 → xin x6 → r11 x0 x1 x2 x3 x4 x5 x6 T = some R → xok (o11 x0 x1 x2 x3 x4 x5 x6 M) (fun r => r.1 = R.1 ∧ xCX m M0 r.2 R.2 ∧ xin R.1)) (h : xCX m M0 M T) {x0 : Nat} {x1 : Nat} {x2 : Nat} {x3 : Int} {x4 : Nat} {x5 : Int} {x6 : Int} {x7 : Int} {x8 : Int} {y0 : Int} {R : Int × xT_} (tx3 : xin x3) (tx5 : xin x5) (tx6 : xin x6) (tx7 : xin x7) (tx8 : xin x8) (ty0 : xin y0) (e : c85_91 r11 f x0 x1 x2 x3 x4 x5 x6 x7 x8 y0 T = some R) : xok (f85_91 o11 f x0 x1 x2 x3 x4 x5 x6 x7 x8 y0 M) (fun r => r.1 = R.1 ∧ xCX m M0 r.2 R.2 ∧ xin R.1) := by
  unfold c85_91 at e
  unfold f85_91
  refine xok_ite (fun c131 => ?_) (fun c131 => ?_)
  · rw [if_pos c131] at e
    obtain ⟨_, q137, e⟩ := xbnd e
    obtain ⟨R132, e133, e⟩ := xbnd e
    refine xok_eqb (h.is q137) ?_
    refine xok_call (t78 hS h ty0 e133) ?_
    intro M134 h135
    exact t85_118 (r11 := r11) (o11 := o11) hS @hr11 h135 tx3 tx5 tx6 tx7 tx8 ty0 e
  · rw [if_neg c131] at e
    obtain ⟨_, q143, e⟩ := xbnd e
    obtain ⟨R138, e139, e⟩ := xbnd e
    refine xok_eqb (h.is q143) ?_
    refine xok_call (t78 hS h tx8 e139) ?_
    intro M140 h141
    exact t85_118 (r11 := r11) (o11 := o11) hS @hr11 h141 tx3 tx5 tx6 tx7 tx8 ty0 e
theorem t85_78 {m f : Nat} {M0 M : xj_M} {T : xT_} (hS : xHS f) {r11 : Nat → Nat → Nat → Int → Nat → Int → Int → xT_ → Option (Int × xT_)} {o11 : Nat → Nat → Nat → Int → Nat → Int → Int → xj_M → Option (Int × xj_M)} (hr11 : ∀ {M : xj_M} {T : xT_} {x0 : Nat} {x1 : Nat} {x2 : Nat} {x3 : Int} {x4 : Nat} {x5 : Int} {x6 : Int} {R : Int × xT_}, xCX m M0 M T → xin x3 → xin x5 → xin x6 → r11 x0 x1 x2 x3 x4 x5 x6 T = some R → xok (o11 x0 x1 x2 x3 x4 x5 x6 M) (fun r => r.1 = R.1 ∧ xCX m M0 r.2 R.2 ∧ xin R.1)) (h : xCX m M0 M T) {x0 : Nat} {x1 : Nat} {x2 : Nat} {x3 : Int} {x4 : Nat} {x5 : Int} {x6 : Int} {x7 : Int} {y0 : Int} {R : Int × xT_} (tx3 : xin x3) (tx5 : xin x5) (tx6 : xin x6) (tx7 : xin x7) (ty0 : xin y0) (e : c85_78 r11 f x0 x1 x2 x3 x4 x5 x6 x7 y0 T = some R) : xok (f85_78 o11 f x0 x1 x2 x3 x4 x5 x6 x7 y0 M) (fun r => r.1 = R.1 ∧ xCX m M0 r.2 R.2 ∧ xin R.1) := by
  unfold c85_78 at e
  unfold f85_78
  refine xok_ite (fun c144 => ?_) (fun c144 => ?_)
  · rw [if_pos c144] at e
    exact t85_91 (r11 := r11) (o11 := o11) hS @hr11 h tx3 tx5 tx6 tx7 ty0 (show xin (-1) by decide) e
  · rw [if_neg c144] at e
    exact t85_91 (r11 := r11) (o11 := o11) hS @hr11 h tx3 tx5 tx6 tx7 ty0 tx6 e
theorem t85_65 {m f : Nat} {M0 M : xj_M} {T : xT_} (hS : xHS f) {r11 : Nat → Nat → Nat → Int → Nat → Int → Int → xT_ → Option (Int × xT_)} {o11 : Nat → Nat → Nat → Int → Nat → Int → Int → xj_M → Option (Int × xj_M)} (hr11 : ∀ {M : xj_M} {T : xT_} {x0 : Nat} {x1 : Nat} {x2 : Nat} {x3 : Int} {x4 : Nat} {x5 : Int} {x6 : Int} {R : Int × xT_}, xCX m M0 M T → xin x3 → xin x5 → xin x6 → r11 x0 x1 x2 x3 x4 x5 x6 T = some R → xok (o11 x0 x1 x2 x3 x4 x5 x6 M) (fun r => r.1 = R.1 ∧ xCX m M0 r.2 R.2 ∧ xin R.1)) (h : xCX m M0 M T) {x0 : Nat} {x1 : Nat} {x2 : Nat} {x3 : Int} {x4 : Nat} {x5 : Int} {x6 : Int} {y0 : Int} {R : Int × xT_} (tx3 : xin x3) (tx5 : xin x5) (tx6 : xin x6) (ty0 : xin y0) (e : c85_65 r11 f x0 x1 x2 x3 x4 x5 x6 y0 T = some R) : xok (f85_65 o11 f x0 x1 x2 x3 x4 x5 x6 y0 M) (fun r => r.1 = R.1 ∧ xCX m M0 r.2 R.2 ∧ xin R.1) := by
  unfold c85_65 at e
  unfold f85_65
  refine xok_ite (fun c145 => ?_) (fun c145 => ?_)
  · rw [if_pos c145] at e
    exact t85_78 (r11 := r11) (o11 := o11) hS @hr11 h tx3 tx5 tx6 ty0 (show xin (-1) by decide) e
  · rw [if_neg c145] at e
    exact t85_78 (r11 := r11) (o11 := o11) hS @hr11 h tx3 tx5 tx6 ty0 tx5 e
theorem t85_29 {m f : Nat} {M0 M : xj_M} {T : xT_} (hS : xHS f) {r11 : Nat → Nat → Nat → Int → Nat → Int → Int → xT_ → Option (Int × xT_)} {o11 : Nat → Nat → Nat → Int → Nat → Int → Int → xj_M → Option (Int × xj_M)} (hr11 : ∀ {M : xj_M} {T : xT_} {x0 : Nat} {x1 : Nat} {x2 : Nat} {x3 : Int} {x4 : Nat} {x5 : Int} {x6 : Int} {R : Int × xT_}, xCX m M0 M T → xin x3 → xin x5 → xin x6 → r11 x0 x1 x2 x3 x4 x5 x6 T = some R → xok (o11 x0 x1 x2 x3 x4 x5 x6 M) (fun r => r.1 = R.1 ∧ xCX m M0 r.2 R.2 ∧ xin R.1)) (h : xCX m M0 M T) {x0 : Nat} {x1 : Nat} {x2 : Nat} {x3 : Int} {x4 : Nat} {x5 : Int} {x6 : Int} {R : Int × xT_} (tx3 : xin x3) (tx5 : xin x5) (tx6 : xin x6) (e : c85_29 r11 f x0 x1 x2 x3 x4 x5 x6 T = some R) : xok (f85_29 o11 f x0 x1 x2 x3 x4 x5 x6 M) (fun r => r.1 = R.1 ∧ xCX m M0 r.2 R.2 ∧ xin R.1) := by
  unfold c85_29 at e
  unfold f85_29
  obtain ⟨v146, q147, e⟩ := xbnd e
  refine xok_eqb (h.gi (by decide) (by decide) q147).1 ?_
  refine xok_ite (fun c148 => ?_) (fun c148 => ?_)
  · rw [if_pos c148] at e
    obtain ⟨v149, q150, e⟩ := xbnd e
    refine xok_eqb (h.gi (by decide) (by decide) q150).1 ?_
    refine xok_ite (fun c151 => ?_) (fun c151 => ?_)
    · rw [if_pos c151] at e
      obtain ⟨_, q157, e⟩ := xbnd e
      obtain ⟨R152, e153, e⟩ := xbnd e
      refine xok_eqb (h.is q157) ?_
      refine xok_call (t72 hS h tx5 tx6 tx3 e153) ?_
      rintro ⟨v_, M154⟩ ⟨hv_, h155, hi156⟩
      cases hv_
      exact t85_65 (r11 := r11) (o11 := o11) hS @hr11 h155 tx3 tx5 tx6 hi156 e
    · rw [if_neg c151] at e
      exact t85_65 (r11 := r11) (o11 := o11) hS @hr11 h tx3 tx5 tx6 (show xin (-1) by decide) e
  · rw [if_neg c148] at e
    exact t85_65 (r11 := r11) (o11 := o11) hS @hr11 h tx3 tx5 tx6 (show xin (1) by decide) e
theorem t85_11b {m f : Nat} {M0 M : xj_M} {T : xT_} (hS : xHS f) {r11 : Nat → Nat → Nat → Int → Nat → Int → Int → xT_ → Option (Int × xT_)} {o11 : Nat → Nat → Nat → Int → Nat → Int → Int → xj_M → Option (Int × xj_M)} (hr11 : ∀ {M : xj_M} {T : xT_} {x0 : Nat} {x1 : Nat} {x2 : Nat} {x3 : Int} {x4 : Nat} {x5 : Int} {x6 : Int} {R : Int × xT_}, xCX m M0 M T → xin x3 → xin x5 → xin x6 → r11 x0 x1 x2 x3 x4 x5 x6 T = some R → xok (o11 x0 x1 x2 x3 x4 x5 x6 M) (fun r => r.1 = R.1 ∧ xCX m M0 r.2 R.2 ∧ xin R.1)) (h : xCX m M0 M T) {x0 : Nat} {x1 : Nat} {x2 : Nat} {x3 : Int} {x4 : Nat} {x5 : Int} {x6 : Int} {R : Int × xT_} (tx3 : xin x3) (tx5 : xin x5) (tx6 : xin x6) (e : c85_11b r11 f x0 x1 x2 x3 x4 x5 x6 T = some R) : xok (f85_11b o11 f x0 x1 x2 x3 x4 x5 x6 M) (fun r => r.1 = R.1 ∧ xCX m M0 r.2 R.2 ∧ xin R.1) := by
  unfold c85_11b at e
  unfold f85_11b
  obtain ⟨v158, q159, e⟩ := xbnd e
  refine xok_eqb (h.gi (by decide) (by decide) q159).1 ?_
  refine xok_ite (fun c160 => ?_) (fun c160 => ?_)
  · rw [if_pos c160] at e
    exact t85_29 (r11 := r11) (o11 := o11) hS @hr11 h tx3 tx5 tx6 e
  · rw [if_neg c160] at e
    obtain ⟨v161, q162, e⟩ := xbnd e
    refine xok_eqb (h.gi (by decide) (by decide) q162).1 ?_
    refine xok_ite (fun c163 => ?_) (fun c163 => ?_)
    · rw [if_pos c163] at e
      cases e
      exact ⟨_, rfl, rfl, h, (show xin (-1) by decide)⟩
    · rw [if_neg c163] at e
      exact t85_29 (r11 := r11) (o11 := o11) hS @hr11 h tx3 tx5 tx6 e
theorem t85_11 {m f : Nat} {M0 : xj_M} (hS : xHS f)   : ∀ {n : Nat} {M : xj_M} {T : xT_} {x0 : Nat} {x1 : Nat} {x2 : Nat} {x3 : Int} {x4 : Nat} {x5 : Int} {x6 : Int} {R : Int × xT_}, xCX m M0 M T → xin x3 → xin x5 → xin x6 → c85_11  f n x0 x1 x2 x3 x4 x5 x6 T = some R → xok (f85_11  f n x0 x1 x2 x3 x4 x5 x6 M) (fun r => r.1 = R.1 ∧ xCX m M0 r.2 R.2 ∧ xin R.1) := by
  intro n
  induction n with
  | zero => intros; rename_i e; cases e
  | succ n ih =>
    intros
    rename_i h i0 i1 i2 e
    exact t85_11b hS  @ih h i0 i1 i2 e
theorem t85 {m f : Nat} {M0 M : xj_M} {T : xT_} (hS : xHS f) (h : xCX m M0 M T) {a0 : Nat} {a1 : Nat} {a2 : Nat} {a3 : Int} {R : Int × xT_} (ta3 : xin a3) (e : c85 f a0 a1 a2 a3 T = some R) : xok (f85 f a0 a1 a2 a3 M) (fun r => r.1 = R.1 ∧ xCX m M0 r.2 R.2 ∧ xin R.1) := by
  unfold c85 at e
  unfold f85
  obtain ⟨p164, q165, e⟩ := xbnd e
  obtain ⟨M166, q167, h168⟩ := h.na (by decide) q165
  refine xok_eqb q167 ?_
  dsimp only
  exact t85_11  hS  h168 ta3 (show xin (0) by decide) (show xin (0) by decide) e
-- ChangeHouse$Rule.makePlan
theorem t96_92 {m f : Nat} {M0 M : xj_M} {T : xT_} (hS : xHS f) {r6 : Nat → Int → Int → Int → xT_ → Option (xT_)} {o6 : Nat → Int → Int → Int → xj_M → Option (xj_M)} {r23 : Nat → Int → Int → Int → Int → Int → Int → xT_ → Option (xT_)} {o23 : Nat → Int → Int → Int → Int → Int → Int → xj_M → Option (xj_M)} (hr6 : ∀ {M : xj_M} {T : xT_} {x0 : Nat} {x1 : Int} {x2 : Int} {x3 : Int} {R : xT_}, xCX m M0 M T → xin x1 → xin x2 → xin x3 → r6 x0 x1 x2 x3 T = some R → xok (o6 x0 x1 x2 x3 M) (fun r => xCX m M0 r R)) (hr23 : ∀ {M : xj_M} {T : xT_} {x0 : Nat} {x1 : Int} {x2 : Int} {x3 : Int} {x4 : Int} {x5 : Int} {x6 : Int} {R : xT_}, xCX m M0 M T → xin x1 → xin x2 → xin x3 → xin x4 → xin x5 → xin x6 → r23 x0 x1 x2 x3 x4 x5 x6 T = some R → xok (o23 x0 x1 x2 x3 x4 x5 x6 M) (fun r => xCX m M0 r R)) (h : xCX m M0 M T) {x0 : Nat} {x1 : Int} {x2 : Int} {x3 : Int} {x4 : Int} {x5 : Int} {x6 : Int} {R : xT_} (tx1 : xin x1) (tx2 : xin x2) (tx3 : xin x3) (tx4 : xin x4) (tx5 : xin x5) (tx6 : xin x6) (e : c96_92 r6 r23 f x0 x1 x2 x3 x4 x5 x6 T = some R) : xok (f96_92 o6 o23 f x0 x1 x2 x3 x4 x5 x6 M) (fun r => xCX m M0 r R) := by
  unfold c96_92 at e
  unfold f96_92
  exact hr23 h tx1 tx2 tx3 tx4 tx5 (xin_wr _) e
theorem t96_75 {m f : Nat} {M0 M : xj_M} {T : xT_} (hS : xHS f) {r6 : Nat → Int → Int → Int → xT_ → Option (xT_)} {o6 : Nat → Int → Int → Int → xj_M → Option (xj_M)} {r23 : Nat → Int → Int → Int → Int → Int → Int → xT_ → Option (xT_)} {o23 : Nat → Int → Int → Int → Int → Int → Int → xj_M → Option (xj_M)} (hr6 : ∀ {M : xj_M} {T : xT_} {x0 : Nat} {x1 : Int} {x2 : Int} {x3 : Int} {R : xT_}, xCX m M0 M T → xin x1 → xin x2 → xin x3 → r6 x0 x1 x2 x3 T = some R → xok (o6 x0 x1 x2 x3 M) (fun r => xCX m M0 r R)) (hr23 : ∀ {M : xj_M} {T : xT_} {x0 : Nat} {x1 : Int} {x2 : Int} {x3 : Int} {x4 : Int} {x5 : Int} {x6 : Int} {R : xT_}, xCX m M0 M T → xin x1 → xin x2 → xin x3 → xin x4 → xin x5 → xin x6 → r23 x0 x1 x2 x3 x4 x5 x6 T = some R → xok (o23 x0 x1 x2 x3 x4 x5 x6 M) (fun r => xCX m M0 r R)) (h : xCX m M0 M T) {x0 : Nat} {x1 : Int} {x2 : Int} {x3 : Int} {x4 : Int} {x5 : Int} {x6 : Int} {y0 : Int} {R : xT_} (tx1 : xin x1) (tx2 : xin x2) (tx3 : xin x3) (tx4 : xin x4) (tx5 : xin x5) (tx6 : xin x6) (ty0 : xin y0) (e : c96_75 r6 r23 f x0 x1 x2 x3 x4 x5 x6 y0 T = some R) : xok (f96_75 o6 o23 f x0 x1 x2 x3 x4 x5 x6 y0 M) (fun r => xCX m M0 r R) := by
  unfold c96_75 at e
  unfold f96_75
  refine xok_ite (fun c101 => ?_) (fun c101 => ?_)
  · rw [if_pos c101] at e
    exact t96_92 (r6 := r6) (o6 := o6) (r23 := r23) (o23 := o23) hS @hr6 @hr23 h tx1 tx2 tx3 tx4 tx5 tx6 e
  · rw [if_neg c101] at e
    exact t96_92 (r6 := r6) (o6 := o6) (r23 := r23) (o23 := o23) hS @hr6 @hr23 h tx1 tx2 tx3 tx6 ty0 tx6 e
theorem t96_127 {m f : Nat} {M0 M : xj_M} {T : xT_} (hS : xHS f) {r6 : Nat → Int → Int → Int → xT_ → Option (xT_)} {o6 : Nat → Int → Int → Int → xj_M → Option (xj_M)} (hr6 : ∀ {M : xj_M} {T : xT_} {x0 : Nat} {x1 : Int} {x2 : Int} {x3 : Int} {R : xT_}, xCX m M0 M T → xin x1 → xin x2 → xin x3 → r6 x0 x1 x2 x3 T = some R → xok (o6 x0 x1 x2 x3 M) (fun r => xCX m M0 r R)) (h : xCX m M0 M T) {x0 : Nat} {x1 : Int} {x2 : Int} {x3 : Int} {R : xT_} (tx1 : xin x1) (tx2 : xin x2) (tx3 : xin x3) (e : c96_127 r6 f x0 x1 x2 x3 T = some R) : xok (f96_127 o6 f x0 x1 x2 x3 M) (fun r => xCX m M0 r R) := by
  unfold c96_127 at e
  unfold f96_127
  exact hr6 h tx1 tx2 (xin_wr _) e
theorem t96_23b {m f : Nat} {M0 M : xj_M} {T : xT_} (hS : xHS f) {r6 : Nat → Int → Int → Int → xT_ → Option (xT_)} {o6 : Nat → Int → Int → Int → xj_M → Option (xj_M)} {r23 : Nat → Int → Int → Int → Int → Int → Int → xT_ → Option (xT_)} {o23 : Nat → Int → Int → Int → Int → Int → Int → xj_M → Option (xj_M)} (hr6 : ∀ {M : xj_M} {T : xT_} {x0 : Nat} {x1 : Int} {x2 : Int} {x3 : Int} {R : xT_}, xCX m M0 M T → xin x1 → xin x2 → xin x3 → r6 x0 x1 x2 x3 T = some R → xok (o6 x0 x1 x2 x3 M) (fun r => xCX m M0 r R)) (hr23 : ∀ {M : xj_M} {T : xT_} {x0 : Nat} {x1 : Int} {x2 : Int} {x3 : Int} {x4 : Int} {x5 : Int} {x6 : Int} {R : xT_}, xCX m M0 M T → xin x1 → xin x2 → xin x3 → xin x4 → xin x5 → xin x6 → r23 x0 x1 x2 x3 x4 x5 x6 T = some R → xok (o23 x0 x1 x2 x3 x4 x5 x6 M) (fun r => xCX m M0 r R)) (h : xCX m M0 M T) {x0 : Nat} {x1 : Int} {x2 : Int} {x3 : Int} {x4 : Int} {x5 : Int} {x6 : Int} {R : xT_} (tx1 : xin x1) (tx2 : xin x2) (tx3 : xin x3) (tx4 : xin x4) (tx5 : xin x5) (tx6 : xin x6) (e : c96_23b r6 r23 f x0 x1 x2 x3 x4 x5 x6 T = some R) : xok (f96_23b o6 o23 f x0 x1 x2 x3 x4 x5 x6 M) (fun r => xCX m M0 r R) := by
  unfold c96_23b at e
  unfold f96_23b
  obtain ⟨v102, q103, e⟩ := xbnd e
  refine xok_eqb (h.gi (by decide) (by decide) q103).1 ?_
  refine xok_ite (fun c104 => ?_) (fun c104 => ?_)
  · rw [if_pos c104] at e
    refine xok_ite (fun c105 => ?_) (fun c105 => ?_)
    · rw [if_pos c105] at e
      exact t96_127 (r6 := r6) (o6 := o6) hS @hr6 h tx1 tx2 tx3 e
    · rw [if_neg c105] at e
      obtain ⟨v106, q107, e⟩ := xbnd e
      refine xok_eqb (h.gr (by decide) (by decide) q107) ?_
      obtain ⟨T109, q108, e⟩ := xbnd e
      obtain ⟨M110, q111, h112⟩ := h.si tx4 q108
      refine xok_eqb q111 ?_
      obtain ⟨_, q118, e⟩ := xbnd e
      obtain ⟨R113, e114, e⟩ := xbnd e
      refine xok_eqb (h112.is q118) ?_
      refine xok_call (t94 hS h112 tx4 tx2 e114) ?_
      rintro ⟨v_, M115⟩ ⟨hv_, h116, hi117⟩
      cases hv_
      exact t96_127 (r6 := r6) (o6 := o6) hS @hr6 h116 (xin_of _) hi117 tx3 e
  · rw [if_neg c104] at e
    refine xok_ite (fun c119 => ?_) (fun c119 => ?_)
    · rw [if_pos c119] at e
      exact t96_92 (r6 := r6) (o6 := o6) (r23 := r23) (o23 := o23) hS @hr6 @hr23 h tx1 tx2 tx3 tx4 tx5 tx6 e
    · rw [if_neg c119] at e
      obtain ⟨_, q125, e⟩ := xbnd e
      obtain ⟨R120, e121, e⟩ := xbnd e
      refine xok_eqb (h.is q125) ?_
      refine xok_call (t94 hS h tx6 tx2 e121) ?_
      rintro ⟨v_, M122⟩ ⟨hv_, h123, hi124⟩
      cases hv_
      refine xok_ite (fun c126 => ?_) (fun c126 => ?_)
      · rw [if_pos c126] at e
        exact t96_92 (r6 := r6) (o6 := o6) (r23 := r23) (o23 := o23) hS @hr6 @hr23 h123 tx1 tx2 tx3 tx4 tx5 tx6 e
      · rw [if_neg c126] at e
        obtain ⟨v127, q128, e⟩ := xbnd e
        refine xok_eqb (h123.gr (by decide) (by decide) q128) ?_
        obtain ⟨v129, q130, e⟩ := xbnd e
        refine xok_eqb (h123.ai (by decide) q130).1 ?_
        refine xok_ite (fun c131 => ?_) (fun c131 => ?_)
        · rw [if_pos c131] at e
          exact t96_75 (r6 := r6) (o6 := o6) (r23 := r23) (o23 := o23) hS @hr6 @hr23 h123 tx1 tx2 tx3 tx4 tx5 tx6 (show xin (5) by decide) e
        · rw [if_neg c131] at e
          obtain ⟨_, q137, e⟩ := xbnd e
          obtain ⟨R132, e133, e⟩ := xbnd e
          refine xok_eqb (h123.is q137) ?_
          refine xok_call (t97 hS h123 tx6 tx2 e133) ?_
          rintro ⟨v_, M134⟩ ⟨hv_, h135, hi136⟩
          cases hv_
          exact t96_75 (r6 := r6) (o6 := o6) (r23 := r23) (o23 := o23) hS @hr6 @hr23 h135 tx1 tx2 tx3 tx4 tx5 tx6 hi136 e
theorem t96_23 {m f : Nat} {M0 : xj_M} (hS : xHS f) {r6 : Nat → Int → Int → Int → xT_ → Option (xT_)} {o6 : Nat → Int → Int → Int → xj_M → Option (xj_M)} (hr6 : ∀ {M : xj_M} {T : xT_} {x0 : Nat} {x1 : Int} {x2 : Int} {x3 : Int} {R : xT_}, xCX m M0 M T → xin x1 → xin x2 → xin x3 → r6 x0 x1 x2 x3 T = some R → xok (o6 x0 x1 x2 x3 M) (fun r => xCX m M0 r R)) : ∀ {n : Nat} {M : xj_M} {T : xT_} {x0 : Nat} {x1 : Int} {x2 : Int} {x3 : Int} {x4 : Int} {x5 : Int} {x6 : Int} {R : xT_}, xCX m M0 M T → xin x1 → xin x2 → xin x3 → xin x4 → xin x5 → xin x6 → c96_23 r6 f n x0 x1 x2 x3 x4 x5 x6 T = some R → xok (f96_23 o6 f n x0 x1 x2 x3 x4 x5 x6 M) (fun r => xCX m M0 r R) := by
  intro n
  induction n with
  | zero => intros; rename_i e; cases e
  | succ n ih =>
    intros
    rename_i h i0 i1 i2 i3 i4 i5 e
    exact t96_23b hS @hr6 @ih h i0 i1 i2 i3 i4 i5 e
theorem t96_170b {m f : Nat} {M0 M : xj_M} {T : xT_} (hS : xHS f) {r170 : Nat → Int → Int → xT_ → Option (xT_)} {o170 : Nat → Int → Int → xj_M → Option (xj_M)} (hr170 : ∀ {M : xj_M} {T : xT_} {x0 : Nat} {x3 : Int} {x4 : Int} {R : xT_}, xCX m M0 M T → xin x3 → xin x4 → r170 x0 x3 x4 T = some R → xok (o170 x0 x3 x4 M) (fun r => xCX m M0 r R)) (h : xCX m M0 M T) {x0 : Nat} {x3 : Int} {x4 : Int} {R : xT_} (tx3 : xin x3) (tx4 : xin x4) (e : c96_170b r170 f x0 x3 x4 T = some R) : xok (f96_170b o170 f x0 x3 x4 M) (fun r => xCX m M0 r R) := by
  unfold c96_170b at e
  unfold f96_170b
  refine xok_ite (fun c138 => ?_) (fun c138 => ?_)
  · rw [if_pos c138] at e
    cases e
    exact ⟨_, rfl, h⟩
  · rw [if_neg c138] at e
    obtain ⟨v139, q140, e⟩ := xbnd e
    refine xok_eqb (h.gr (by decide) (by decide) q140) ?_
    obtain ⟨T142, q141, e⟩ := xbnd e
    obtain ⟨M143, q144, h145⟩ := h.si tx3 q141
    refine xok_eqb q144 ?_
    obtain ⟨v146, q147, e⟩ := xbnd e
    refine xok_eqb (h145.gr (by decide) (by decide) q147) ?_
    obtain ⟨v148, q149, e⟩ := xbnd e
    refine xok_eqb (h145.ai (by decide) q149).1 ?_
    obtain ⟨_, q155, e⟩ := xbnd e
    obtain ⟨R150, e151, e⟩ := xbnd e
    refine xok_eqb (h145.is q155) ?_
    refine xok_call (t93 hS h145 (h145.ai (by decide) q149).2 e151) ?_
    rintro ⟨v_, M152⟩ ⟨hv_, h153, hi154⟩
    cases hv_
    exact hr170 h153 (xin_of _) (xin_wr _) e
theorem t96_170 {m f : Nat} {M0 : xj_M} (hS : xHS f)   : ∀ {n : Nat} {M : xj_M} {T : xT_} {x0 : Nat} {x3 : Int} {x4 : Int} {R : xT_}, xCX m M0 M T → xin x3 → xin x4 → c96_170  f n x0 x3 x4 T = some R → xok (f96_170  f n x0 x3 x4 M) (fun r => xCX m M0 r R) := by
  intro n
  induction n with
  | zero => intros; rename_i e; cases e
  | succ n ih =>
    intros
    rename_i h i0 i1 e
    exact t96_170b hS  @ih h i0 i1 e
theorem t96_138b {m f : Nat} {M0 M : xj_M} {T : xT_} (hS : xHS f) {r138 : Nat → Int → Int → xT_ → Option (xT_)} {o138 : Nat → Int → Int → xj_M → Option (xj_M)} (hr138 : ∀ {M : xj_M} {T : xT_} {x0 : Nat} {x3 : Int} {x4 : Int} {R : xT_}, xCX m M0 M T → xin x3 → xin x4 → r138 x0 x3 x4 T = some R → xok (o138 x0 x3 x4 M) (fun r => xCX m M0 r R)) (h : xCX m M0 M T) {x0 : Nat} {x3 : Int} {x4 : Int} {R : xT_} (tx3 : xin x3) (tx4 : xin x4) (e : c96_138b r138 f x0 x3 x4 T = some R) : xok (f96_138b o138 f x0 x3 x4 M) (fun r => xCX m M0 r R) := by
  unfold c96_138b at e
  unfold f96_138b
  obtain ⟨v156, q157, e⟩ := xbnd e
  refine xok_eqb (h.gi (by decide) (by decide) q157).1 ?_
  refine xok_ite (fun c158 => ?_) (fun c158 => ?_)
  · rw [if_pos c158] at e
    obtain ⟨v159, q160, e⟩ := xbnd e
    refine xok_eqb (h.gi (by decide) (by decide) q160).1 ?_
    exact t96_170  hS  h tx3 (xin_wr _) e
  · rw [if_neg c158] at e
    obtain ⟨_, q166, e⟩ := xbnd e
    obtain ⟨R161, e162, e⟩ := xbnd e
    refine xok_eqb (h.is q166) ?_
    refine xok_call (t92 hS h tx4 e162) ?_
    rintro ⟨v_, M163⟩ ⟨hv_, h164, hi165⟩
    cases hv_
    exact hr138 h164 (xin_of _) (xin_wr _) e
theorem t96_138 {m f : Nat} {M0 : xj_M} (hS : xHS f)   : ∀ {n : Nat} {M : xj_M} {T : xT_} {x0 : Nat} {x3 : Int} {x4 : Int} {R : xT_}, xCX m M0 M T → xin x3 → xin x4 → c96_138  f n x0 x3 x4 T = some R → xok (f96_138  f n x0 x3 x4 M) (fun r => xCX m M0 r R) := by
  intro n
  induction n with
  | zero => intros; rename_i e; cases e
  | succ n ih =>
    intros
    rename_i h i0 i1 e
    exact t96_138b hS  @ih h i0 i1 e
theorem t96_6b {m f : Nat} {M0 M : xj_M} {T : xT_} (hS : xHS f) {r6 : Nat → Int → Int → Int → xT_ → Option (xT_)} {o6 : Nat → Int → Int → Int → xj_M → Option (xj_M)} (hr6 : ∀ {M : xj_M} {T : xT_} {x0 : Nat} {x1 : Int} {x2 : Int} {x3 : Int} {R : xT_}, xCX m M0 M T → xin x1 → xin x2 → xin x3 → r6 x0 x1 x2 x3 T = some R → xok (o6 x0 x1 x2 x3 M) (fun r => xCX m M0 r R)) (h : xCX m M0 M T) {x0 : Nat} {x1 : Int} {x2 : Int} {x3 : Int} {R : xT_} (tx1 : xin x1) (tx2 : xin x2) (tx3 : xin x3) (e : c96_6b r6 f x0 x1 x2 x3 T = some R) : xok (f96_6b o6 f x0 x1 x2 x3 M) (fun r => xCX m M0 r R) := by
  unfold c96_6b at e
  unfold f96_6b
  obtain ⟨v167, q168, e⟩ := xbnd e
  refine xok_eqb (h.gi (by decide) (by decide) q168).1 ?_
  refine xok_ite (fun c169 => ?_) (fun c169 => ?_)
  · rw [if_pos c169] at e
    exact t96_138  hS  h (show xin (0) by decide) (show xin (0) by decide) e
  · rw [if_neg c169] at e
    exact t96_23 (r6 := r6) (o6 := o6) hS @hr6 h tx1 tx2 tx3 (show xin (-1) by decide) (show xin (-1) by decide) (show xin (0) by decide) e
theorem t96_6 {m f : Nat} {M0 : xj_M} (hS : xHS f)   : ∀ {n : Nat} {M : xj_M} {T : xT_} {x0 : Nat} {x1 : Int} {x2 : Int} {x3 : Int} {R : xT_}, xCX m M0 M T → xin x1 → xin x2 → xin x3 → c96_6  f n x0 x1 x2 x3 T = some R → xok (f96_6  f n x0 x1 x2 x3 M) (fun r => xCX m M0 r R) := by
  intro n
  induction n with
  | zero => intros; rename_i e; cases e
  | succ n ih =>
    intros
    rename_i h i0 i1 i2 e
    exact t96_6b hS  @ih h i0 i1 i2 e
theorem t96 {m f : Nat} {M0 M : xj_M} {T : xT_} (hS : xHS f) (h : xCX m M0 M T) {a0 : Nat} {R : xT_}  (e : c96 f a0 T = some R) : xok (f96 f a0 M) (fun r => xCX m M0 r R) := by
  unfold c96 at e
  unfold f96
  exact t96_6  hS  h (show xin (0) by decide) (show xin (0) by decide) (show xin (0) by decide) e
-- ChangeHouse$Sheet.findRings
theorem t100_53 {m f : Nat} {M0 M : xj_M} {T : xT_} (hS : xHS f) {r2 : Nat → Int → xT_ → Option (xT_)} {o2 : Nat → Int → xj_M → Option (xj_M)} (hr2 : ∀ {M : xj_M} {T : xT_} {x0 : Nat} {x1 : Int} {R : xT_}, xCX m M0 M T → xin x1 → r2 x0 x1 T = some R → xok (o2 x0 x1 M) (fun r => xCX m M0 r R)) (h : xCX m M0 M T) {x0 : Nat} {x1 : Int} {y0 : Int} {y1 : Int} {y2 : Nat} {R : xT_} (tx1 : xin x1) (ty0 : xiN y0) (ty1 : xin y1) (e : c100_53 r2 f x0 x1 y0 y1 y2 T = some R) : xok (f100_53 o2 f x0 x1 y0 y1 y2 M) (fun r => xCX m M0 r R) := by
  unfold c100_53 at e
  unfold f100_53
  obtain ⟨T102, q101, e⟩ := xbnd e
  obtain ⟨M103, q104, h105⟩ := h.sl ty0 q101
  refine xok_eqb q104 ?_
  exact hr2 h105 (xin_wr _) e
theorem t100_35 {m f : Nat} {M0 M : xj_M} {T : xT_} (hS : xHS f) {r2 : Nat → Int → xT_ → Option (xT_)} {o2 : Nat → Int → xj_M → Option (xj_M)} (hr2 : ∀ {M : xj_M} {T : xT_} {x0 : Nat} {x1 : Int} {R : xT_}, xCX m M0 M T → xin x1 → r2 x0 x1 T = some R → xok (o2 x0 x1 M) (fun r => xCX m M0 r R)) (h : xCX m M0 M T) {x0 : Nat} {x1 : Int} {x2 : Nat} {y0 : Int} {y1 : Int} {y2 : Nat} {R : xT_} (tx1 : xin x1) (ty0 : xiN y0) (ty1 : xin y1) (e : c100_35 r2 f x0 x1 x2 y0 y1 y2 T = some R) : xok (f100_35 o2 f x0 x1 x2 y0 y1 y2 M) (fun r => xCX m M0 r R) := by
  unfold c100_35 at e
  unfold f100_35
  obtain ⟨T107, q106, e⟩ := xbnd e
  obtain ⟨M108, q109, h110⟩ := h.sl ty0 q106
  refine xok_eqb q109 ?_
  obtain ⟨v111, q112, e⟩ := xbnd e
  refine xok_eqb (h110.gr (by decide) (by decide) q112) ?_
  refine xok_ite (fun c113 => ?_) (fun c113 => ?_)
  · rw [if_pos c113] at e
    exact t100_53 (r2 := r2) (o2 := o2) hS @hr2 h110 tx1 (show xiN (0) by decide) tx1 e
  · rw [if_neg c113] at e
    obtain ⟨v114, q115, e⟩ := xbnd e
    refine xok_eqb (h110.gl (by decide) (by decide) q115).1 ?_
    exact t100_53 (r2 := r2) (o2 := o2) hS @hr2 h110 tx1 (h110.gl (by decide) (by decide) q115).2 tx1 e
theorem t100_157 {m f : Nat} {M0 M : xj_M} {T : xT_} (hS : xHS f) {r62 : Nat → Int → xT_ → Option (xT_)} {o62 : Nat → Int → xj_M → Option (xj_M)} {r98 : Nat → Int → Int → Int → xT_ → Option (xT_)} {o98 : Nat → Int → Int → Int → xj_M → Option (xj_M)} (hr62 : ∀ {M : xj_M} {T : xT_} {x0 : Nat} {x1 : Int} {R : xT_}, xCX m M0 M T → xin x1 → r62 x0 x1 T = some R → xok (o62 x0 x1 M) (fun r => xCX m M0 r R)) (hr98 : ∀ {M : xj_M} {T : xT_} {x0 : Nat} {x1 : Int} {x2 : Int} {x3 : Int} {R : xT_}, xCX m M0 M T → xin x1 → xin x2 → xin x3 → r98 x0 x1 x2 x3 T = some R → xok (o98 x0 x1 x2 x3 M) (fun r => xCX m M0 r R)) (h : xCX m M0 M T) {x0 : Nat} {x1 : Int} {x2 : Int} {x3 : Int} {R : xT_} (tx1 : xin x1) (tx2 : xin x2) (tx3 : xin x3) (e : c100_157 r62 r98 f x0 x1 x2 x3 T = some R) : xok (f100_157 o62 o98 f x0 x1 x2 x3 M) (fun r => xCX m M0 r R) := by
  unfold c100_157 at e
  unfold f100_157
  exact hr98 h tx1 tx2 (xin_wr _) e
theorem t100_163 {m f : Nat} {M0 M : xj_M} {T : xT_} (hS : xHS f) {r62 : Nat → Int → xT_ → Option (xT_)} {o62 : Nat → Int → xj_M → Option (xj_M)} (hr62 : ∀ {M : xj_M} {T : xT_} {x0 : Nat} {x1 : Int} {R : xT_}, xCX m M0 M T → xin x1 → r62 x0 x1 T = some R → xok (o62 x0 x1 M) (fun r => xCX m M0 r R)) (h : xCX m M0 M T) {x0 : Nat} {x1 : Int} {R : xT_} (tx1 : xin x1) (e : c100_163 r62 f x0 x1 T = some R) : xok (f100_163 o62 f x0 x1 M) (fun r => xCX m M0 r R) := by
  unfold c100_163 at e
  unfold f100_163
  exact hr62 h (xin_wr _) e
theorem t100_98b {m f : Nat} {M0 M : xj_M} {T : xT_} (hS : xHS f) {r62 : Nat → Int → xT_ → Option (xT_)} {o62 : Nat → Int → xj_M → Option (xj_M)} {r98 : Nat → Int → Int → Int → xT_ → Option (xT_)} {o98 : Nat → Int → Int → Int → xj_M → Option (xj_M)} (hr62 : ∀ {M : xj_M} {T : xT_} {x0 : Nat} {x1 : Int} {R : xT_}, xCX m M0 M T → xin x1 → r62 x0 x1 T = some R → xok (o62 x0 x1 M) (fun r => xCX m M0 r R)) (hr98 : ∀ {M : xj_M} {T : xT_} {x0 : Nat} {x1 : Int} {x2 : Int} {x3 : Int} {R : xT_}, xCX m M0 M T → xin x1 → xin x2 → xin x3 → r98 x0 x1 x2 x3 T = some R → xok (o98 x0 x1 x2 x3 M) (fun r => xCX m M0 r R)) (h : xCX m M0 M T) {x0 : Nat} {x1 : Int} {x2 : Int} {x3 : Int} {R : xT_} (tx1 : xin x1) (tx2 : xin x2) (tx3 : xin x3) (e : c100_98b r62 r98 f x0 x1 x2 x3 T = some R) : xok (f100_98b o62 o98 f x0 x1 x2 x3 M) (fun r => xCX m M0 r R) := by
  unfold c100_98b at e
  unfold f100_98b
  refine xok_ite (fun c116 => ?_) (fun c116 => ?_)
  · rw [if_pos c116] at e
    exact t100_163 (r62 := r62) (o62 := o62) hS @hr62 h tx1 e
  · rw [if_neg c116] at e
    refine xok_ite (fun c117 => ?_) (fun c117 => ?_)
    · rw [if_pos c117] at e
      exact t100_163 (r62 := r62) (o62 := o62) hS @hr62 h tx1 e
    · rw [if_neg c117] at e
      obtain ⟨v118, q119, e⟩ := xbnd e
      refine xok_eqb (h.gr (by decide) (by decide) q119) ?_
      obtain ⟨v120, q121, e⟩ := xbnd e
      refine xok_eqb (h.al q121).1 ?_
      obtain ⟨v122, q123, e⟩ := xbnd e
      refine xok_eqb (h.gr (by decide) (by decide) q123) ?_
      obtain ⟨v124, q125, e⟩ := xbnd e
      refine xok_eqb (h.al q125).1 ?_
      obtain ⟨R126, e127, e⟩ := xbnd e
      refine xok_call (t101 hS h tx1 (h.al q121).2 (h.al q125).2 e127) ?_
      rintro ⟨v_, M128⟩ ⟨hv_, h129, hi130⟩
      cases hv_
      refine xok_ite (fun c131 => ?_) (fun c131 => ?_)
      · rw [if_pos c131] at e
        exact t100_157 (r62 := r62) (o62 := o62) (r98 := r98) (o98 := o98) hS @hr62 @hr98 h129 tx1 tx2 tx3 e
      · rw [if_neg c131] at e
        obtain ⟨v132, q133, e⟩ := xbnd e
        refine xok_eqb (h129.gr (by decide) (by decide) q133) ?_
        obtain ⟨v134, q135, e⟩ := xbnd e
        refine xok_eqb (h129.al q135).1 ?_
        obtain ⟨v136, q137, e⟩ := xbnd e
        refine xok_eqb (h129.gr (by decide) (by decide) q137) ?_
        obtain ⟨v138, q139, e⟩ := xbnd e
        refine xok_eqb (h129.al q139).1 ?_
        obtain ⟨T141, q140, e⟩ := xbnd e
        obtain ⟨M142, q143, h144⟩ := h129.sl (xiN_of _) q140
        refine xok_eqb q143 ?_
        obtain ⟨v145, q146, e⟩ := xbnd e
        refine xok_eqb (h144.gr (by decide) (by decide) q146) ?_
        obtain ⟨v147, q148, e⟩ := xbnd e
        refine xok_eqb (h144.al q148).1 ?_
        obtain ⟨v149, q150, e⟩ := xbnd e
        refine xok_eqb (h144.gr (by decide) (by decide) q150) ?_
        obtain ⟨v151, q152, e⟩ := xbnd e
        refine xok_eqb (h144.al q152).1 ?_
        obtain ⟨T154, q153, e⟩ := xbnd e
        obtain ⟨M155, q156, h157⟩ := h144.sl (xiN_of _) q153
        refine xok_eqb q156 ?_
        exact t100_157 (r62 := r62) (o62 := o62) (r98 := r98) (o98 := o98) hS @hr62 @hr98 h157 tx1 tx2 tx3 e
theorem t100_98 {m f : Nat} {M0 : xj_M} (hS : xHS f) {r62 : Nat → Int → xT_ → Option (xT_)} {o62 : Nat → Int → xj_M → Option (xj_M)} (hr62 : ∀ {M : xj_M} {T : xT_} {x0 : Nat} {x1 : Int} {R : xT_}, xCX m M0 M T → xin x1 → r62 x0 x1 T = some R → xok (o62 x0 x1 M) (fun r => xCX m M0 r R)) : ∀ {n : Nat} {M : xj_M} {T : xT_} {x0 : Nat} {x1 : Int} {x2 : Int} {x3 : Int} {R : xT_}, xCX m M0 M T → xin x1 → xin x2 → xin x3 → c100_98 r62 f n x0 x1 x2 x3 T = some R → xok (f100_98 o62 f n x0 x1 x2 x3 M) (fun r => xCX m M0 r R) := by
  intro n
  induction n with
  | zero => intros; rename_i e; cases e
  | succ n ih =>
    intros
    rename_i h i0 i1 i2 e
    exact t100_98b hS @hr62 @ih h i0 i1 i2 e
theorem t100_95 {m f : Nat} {M0 M : xj_M} {T : xT_} (hS : xHS f) {r62 : Nat → Int → xT_ → Option (xT_)} {o62 : Nat → Int → xj_M → Option (xj_M)} (hr62 : ∀ {M : xj_M} {T : xT_} {x0 : Nat} {x1 : Int} {R : xT_}, xCX m M0 M T → xin x1 → r62 x0 x1 T = some R → xok (o62 x0 x1 M) (fun r => xCX m M0 r R)) (h : xCX m M0 M T) {x0 : Nat} {x1 : Int} {y0 : Int} {R : xT_} (tx1 : xin x1) (ty0 : xin y0) (e : c100_95 r62 f x0 x1 y0 T = some R) : xok (f100_95 o62 f x0 x1 y0 M) (fun r => xCX m M0 r R) := by
  unfold c100_95 at e
  unfold f100_95
  exact t100_98 (r62 := r62) (o62 := o62) hS @hr62 h tx1 ty0 (show xin (0) by decide) e
theorem t100_90 {m f : Nat} {M0 M : xj_M} {T : xT_} (hS : xHS f) {r62 : Nat → Int → xT_ → Option (xT_)} {o62 : Nat → Int → xj_M → Option (xj_M)} (hr62 : ∀ {M : xj_M} {T : xT_} {x0 : Nat} {x1 : Int} {R : xT_}, xCX m M0 M T → xin x1 → r62 x0 x1 T = some R → xok (o62 x0 x1 M) (fun r => xCX m M0 r R)) (h : xCX m M0 M T) {x0 : Nat} {x1 : Int} {R : xT_} (tx1 : xin x1) (e : c100_90 r62 f x0 x1 T = some R) : xok (f100_90 o62 f x0 x1 M) (fun r => xCX m M0 r R) := by
  unfold c100_90 at e
  unfold f100_90
  exact t100_95 (r62 := r62) (o62 := o62) hS @hr62 h tx1 (show xin (1) by decide) e
theorem t100_62b {m f : Nat} {M0 M : xj_M} {T : xT_} (hS : xHS f) {r62 : Nat → Int → xT_ → Option (xT_)} {o62 : Nat → Int → xj_M → Option (xj_M)} (hr62 : ∀ {M : xj_M} {T : xT_} {x0 : Nat} {x1 : Int} {R : xT_}, xCX m M0 M T → xin x1 → r62 x0 x1 T = some R → xok (o62 x0 x1 M) (fun r => xCX m M0 r R)) (h : xCX m M0 M T) {x0 : Nat} {x1 : Int} {R : xT_} (tx1 : xin x1) (e : c100_62b r62 f x0 x1 T = some R) : xok (f100_62b o62 f x0 x1 M) (fun r => xCX m M0 r R) := by
  unfold c100_62b at e
  unfold f100_62b
  refine xok_ite (fun c158 => ?_) (fun c158 => ?_)
  · rw [if_pos c158] at e
    cases e
    exact ⟨_, rfl, h⟩
  · rw [if_neg c158] at e
    obtain ⟨v159, q160, e⟩ := xbnd e
    refine xok_eqb (h.gr (by decide) (by decide) q160) ?_
    obtain ⟨v161, q162, e⟩ := xbnd e
    refine xok_eqb (h.al q162).1 ?_
    refine xok_ite (fun c163 => ?_) (fun c163 => ?_)
    · rw [if_pos c163] at e
      exact t100_90 (r62 := r62) (o62 := o62) hS @hr62 h tx1 e
    · rw [if_neg c163] at e
      obtain ⟨v164, q165, e⟩ := xbnd e
      refine xok_eqb (h.gr (by decide) (by decide) q165) ?_
      obtain ⟨v166, q167, e⟩ := xbnd e
      refine xok_eqb (h.al q167).1 ?_
      refine xok_ite (fun c168 => ?_) (fun c168 => ?_)
      · rw [if_pos c168] at e
        exact t100_95 (r62 := r62) (o62 := o62) hS @hr62 h tx1 (show xin (0) by decide) e
      · rw [if_neg c168] at e
        exact t100_90 (r62 := r62) (o62 := o62) hS @hr62 h tx1 e
theorem t100_62 {m f : Nat} {M0 : xj_M} (hS : xHS f)   : ∀ {n : Nat} {M : xj_M} {T : xT_} {x0 : Nat} {x1 : Int} {R : xT_}, xCX m M0 M T → xin x1 → c100_62  f n x0 x1 T = some R → xok (f100_62  f n x0 x1 M) (fun r => xCX m M0 r R) := by
  intro n
  induction n with
  | zero => intros; rename_i e; cases e
  | succ n ih =>
    intros
    rename_i h i0 e
    exact t100_62b hS  @ih h i0 e
theorem t100_2b {m f : Nat} {M0 M : xj_M} {T : xT_} (hS : xHS f) {r2 : Nat → Int → xT_ → Option (xT_)} {o2 : Nat → Int → xj_M → Option (xj_M)} (hr2 : ∀ {M : xj_M} {T : xT_} {x0 : Nat} {x1 : Int} {R : xT_}, xCX m M0 M T → xin x1 → r2 x0 x1 T = some R → xok (o2 x0 x1 M) (fun r => xCX m M0 r R)) (h : xCX m M0 M T) {x0 : Nat} {x1 : Int} {R : xT_} (tx1 : xin x1) (e : c100_2b r2 f x0 x1 T = some R) : xok (f100_2b o2 f x0 x1 M) (fun r => xCX m M0 r R) := by
  unfold c100_2b at e
  unfold f100_2b
  refine xok_ite (fun c169 => ?_) (fun c169 => ?_)
  · rw [if_pos c169] at e
    exact t100_62  hS  h (show xin (0) by decide) e
  · rw [if_neg c169] at e
    obtain ⟨v170, q171, e⟩ := xbnd e
    refine xok_eqb (h.gr (by decide) (by decide) q171) ?_
    obtain ⟨v172, q173, e⟩ := xbnd e
    refine xok_eqb (h.gr (by decide) (by decide) q173) ?_
    obtain ⟨v174, q175, e⟩ := xbnd e
    refine xok_eqb (h.ar q175) ?_
    obtain ⟨v176, q177, e⟩ := xbnd e
    refine xok_eqb (h.gr (by decide) (by decide) q177) ?_
    refine xok_ite (fun c178 => ?_) (fun c178 => ?_)
    · rw [if_pos c178] at e
      exact t100_35 (r2 := r2) (o2 := o2) hS @hr2 h tx1 (show xiN (0) by decide) tx1 e
    · rw [if_neg c178] at e
      obtain ⟨v179, q180, e⟩ := xbnd e
      refine xok_eqb (h.gl (by decide) (by decide) q180).1 ?_
      exact t100_35 (r2 := r2) (o2 := o2) hS @hr2 h tx1 (h.gl (by decide) (by decide) q180).2 tx1 e
theorem t100_2 {m f : Nat} {M0 : xj_M} (hS : xHS f)   : ∀ {n : Nat} {M : xj_M} {T : xT_} {x0 : Nat} {x1 : Int} {R : xT_}, xCX m M0 M T → xin x1 → c100_2  f n x0 x1 T = some R → xok (f100_2  f n x0 x1 M) (fun r => xCX m M0 r R) := by
  intro n
  induction n with
  | zero => intros; rename_i e; cases e
  | succ n ih =>
    intros
    rename_i h i0 e
    exact t100_2b hS  @ih h i0 e
theorem t100 {m f : Nat} {M0 M : xj_M} {T : xT_} (hS : xHS f) (h : xCX m M0 M T) {a0 : Nat} {R : xT_}  (e : c100 f a0 T = some R) : xok (f100 f a0 M) (fun r => xCX m M0 r R) := by
  unfold c100 at e
  unfold f100
  exact t100_2  hS  h (show xin (0) by decide) e
-- ChangeHouse$Sheet.countWorked
theorem t103_91 {m f : Nat} {M0 M : xj_M} {T : xT_} (hS : xHS f) {r9 : Nat → Nat → Nat → Int → Int → Int → Int → xT_ → Option (xT_)} {o9 : Nat → Nat → Nat → Int → Int → Int → Int → xj_M → Option (xj_M)} (hr9 : ∀ {M : xj_M} {T : xT_} {x0 : Nat} {x1 : Nat} {x2 : Nat} {x3 : Int} {x4 : Int} {x6 : Int} {x8 : Int} {R : xT_}, xCX m M0 M T → xin x3 → xiN x4 → xiN x6 → xin x8 → r9 x0 x1 x2 x3 x4 x6 x8 T = some R → xok (o9 x0 x1 x2 x3 x4 x6 x8 M) (fun r => xCX m M0 r R)) (h : xCX m M0 M T) {x0 : Nat} {x1 : Nat} {x2 : Nat} {x3 : Int} {x4 : Int} {x8 : Int} {y0 : Int} {y1 : Int} {R : xT_} (tx3 : xin x3) (tx4 : xiN x4) (tx8 : xin x8) (ty0 : xiN y0) (ty1 : xiN y1) (e : c103_91 r9 f x0 x1 x2 x3 x4 x8 y0 y1 T = some R) : xok (f103_91 o9 f x0 x1 x2 x3 x4 x8 y0 y1 M) (fun r => xCX m M0 r R) := by
  unfold c103_91 at e
  unfold f103_91
  exact hr9 h tx3 tx4 (xiN_of _) (xin_wr _) e
theorem t103_90 {m f : Nat} {M0 M : xj_M} {T : xT_} (hS : xHS f) {r9 : Nat → Nat → Nat → Int → Int → Int → Int → xT_ → Option (xT_)} {o9 : Nat → Nat → Nat → Int → Int → Int → Int → xj_M → Option (xj_M)} (hr9 : ∀ {M : xj_M} {T : xT_} {x0 : Nat} {x1 : Nat} {x2 : Nat} {x3 : Int} {x4 : Int} {x6 : Int} {x8 : Int} {R : xT_}, xCX m M0 M T → xin x3 → xiN x4 → xiN x6 → xin x8 → r9 x0 x1 x2 x3 x4 x6 x8 T = some R → xok (o9 x0 x1 x2 x3 x4 x6 x8 M) (fun r => xCX m M0 r R)) (h : xCX m M0 M T) {x0 : Nat} {x1 : Nat} {x2 : Nat} {x3 : Int} {x4 : Int} {x8 : Int} {y0 : Int} {R : xT_} (tx3 : xin x3) (tx4 : xiN x4) (tx8 : xin x8) (ty0 : xiN y0) (e : c103_90 r9 f x0 x1 x2 x3 x4 x8 y0 T = some R) : xok (f103_90 o9 f x0 x1 x2 x3 x4 x8 y0 M) (fun r => xCX m M0 r R) := by
  unfold c103_90 at e
  unfold f103_90
  exact t103_91 (r9 := r9) (o9 := o9) hS @hr9 h tx3 tx4 tx8 (show xiN (0) by decide) ty0 e
theorem t103_63 {m f : Nat} {M0 M : xj_M} {T : xT_} (hS : xHS f) {r9 : Nat → Nat → Nat → Int → Int → Int → Int → xT_ → Option (xT_)} {o9 : Nat → Nat → Nat → Int → Int → Int → Int → xj_M → Option (xj_M)} (hr9 : ∀ {M : xj_M} {T : xT_} {x0 : Nat} {x1 : Nat} {x2 : Nat} {x3 : Int} {x4 : Int} {x6 : Int} {x8 : Int} {R : xT_}, xCX m M0 M T → xin x3 → xiN x4 → xiN x6 → xin x8 → r9 x0 x1 x2 x3 x4 x6 x8 T = some R → xok (o9 x0 x1 x2 x3 x4 x6 x8 M) (fun r => xCX m M0 r R)) (h : xCX m M0 M T) {x0 : Nat} {x1 : Nat} {x2 : Nat} {x3 : Int} {x6 : Int} {x8 : Int} {x9 : Int} {y0 : Int} {y1 : Int} {R : xT_} (tx3 : xin x3) (tx6 : xiN x6) (tx8 : xin x8) (tx9 : xin x9) (ty0 : xiN y0) (ty1 : xiN y1) (e : c103_63 r9 f x0 x1 x2 x3 x6 x8 x9 y0 y1 T = some R) : xok (f103_63 o9 f x0 x1 x2 x3 x6 x8 x9 y0 y1 M) (fun r => xCX m M0 r R) := by
  unfold c103_63 at e
  unfold f103_63
  refine xok_ite (fun c101 => ?_) (fun c101 => ?_)
  · rw [if_pos c101] at e
    exact t103_90 (r9 := r9) (o9 := o9) hS @hr9 h tx3 (xiN_of _) tx8 tx6 e
  · rw [if_neg c101] at e
    refine xok_ite (fun c102 => ?_) (fun c102 => ?_)
    · rw [if_pos c102] at e
      exact t103_90 (r9 := r9) (o9 := o9) hS @hr9 h tx3 (xiN_of _) tx8 tx6 e
    · rw [if_neg c102] at e
      exact t103_91 (r9 := r9) (o9 := o9) hS @hr9 h tx3 (xiN_of _) tx8 (xiN_of _) tx6 e
theorem t103_62 {m f : Nat} {M0 M : xj_M} {T : xT_} (hS : xHS f) {r9 : Nat → Nat → Nat → Int → Int → Int → Int → xT_ → Option (xT_)} {o9 : Nat → Nat → Nat → Int → Int → Int → Int → xj_M → Option (xj_M)} (hr9 : ∀ {M : xj_M} {T : xT_} {x0 : Nat} {x1 : Nat} {x2 : Nat} {x3 : Int} {x4 : Int} {x6 : Int} {x8 : Int} {R : xT_}, xCX m M0 M T → xin x3 → xiN x4 → xiN x6 → xin x8 → r9 x0 x1 x2 x3 x4 x6 x8 T = some R → xok (o9 x0 x1 x2 x3 x4 x6 x8 M) (fun r => xCX m M0 r R)) (h : xCX m M0 M T) {x0 : Nat} {x1 : Nat} {x2 : Nat} {x3 : Int} {x6 : Int} {x8 : Int} {x9 : Int} {y0 : Int} {R : xT_} (tx3 : xin x3) (tx6 : xiN x6) (tx8 : xin x8) (tx9 : xin x9) (ty0 : xiN y0) (e : c103_62 r9 f x0 x1 x2 x3 x6 x8 x9 y0 T = some R) : xok (f103_62 o9 f x0 x1 x2 x3 x6 x8 x9 y0 M) (fun r => xCX m M0 r R) := by
  unfold c103_62 at e
  unfold f103_62
  exact t103_63 (r9 := r9) (o9 := o9) hS @hr9 h tx3 tx6 tx8 tx9 (show xiN (0) by decide) ty0 e
theorem t103_39 {m f : Nat} {M0 M : xj_M} {T : xT_} (hS : xHS f) {r9 : Nat → Nat → Nat → Int → Int → Int → Int → xT_ → Option (xT_)} {o9 : Nat → Nat → Nat → Int → Int → Int → Int → xj_M → Option (xj_M)} (hr9 : ∀ {M : xj_M} {T : xT_} {x0 : Nat} {x1 : Nat} {x2 : Nat} {x3 : Int} {x4 : Int} {x6 : Int} {x8 : Int} {R : xT_}, xCX m M0 M T → xin x3 → xiN x4 → xiN x6 → xin x8 → r9 x0 x1 x2 x3 x4 x6 x8 T = some R → xok (o9 x0 x1 x2 x3 x4 x6 x8 M) (fun r => xCX m M0 r R)) (h : xCX m M0 M T) {x0 : Nat} {x1 : Nat} {x2 : Nat} {x3 : Int} {x4 : Int} {x6 : Int} {x8 : Int} {y0 : Int} {R : xT_} (tx3 : xin x3) (tx4 : xiN x4) (tx6 : xiN x6) (tx8 : xin x8) (ty0 : xin y0) (e : c103_39 r9 f x0 x1 x2 x3 x4 x6 x8 y0 T = some R) : xok (f103_39 o9 f x0 x1 x2 x3 x4 x6 x8 y0 M) (fun r => xCX m M0 r R) := by
  unfold c103_39 at e
  unfold f103_39
  refine xok_ite (fun c103 => ?_) (fun c103 => ?_)
  · rw [if_pos c103] at e
    exact t103_62 (r9 := r9) (o9 := o9) hS @hr9 h tx3 tx6 tx8 ty0 tx4 e
  · rw [if_neg c103] at e
    refine xok_ite (fun c104 => ?_) (fun c104 => ?_)
    · rw [if_pos c104] at e
      exact t103_62 (r9 := r9) (o9 := o9) hS @hr9 h tx3 tx6 tx8 ty0 tx4 e
    · rw [if_neg c104] at e
      exact t103_63 (r9 := r9) (o9 := o9) hS @hr9 h tx3 tx6 tx8 ty0 (xiN_of _) tx4 e
theorem t103_170 {m f : Nat} {M0 M : xj_M} {T : xT_} (hS : xHS f) {r103 : Nat → Nat → Int → Int → Int → Int → xT_ → Option (xT_)} {o103 : Nat → Nat → Int → Int → Int → Int → xj_M → Option (xj_M)} (hr103 : ∀ {M : xj_M} {T : xT_} {x0 : Nat} {x2 : Nat} {x3 : Int} {x4 : Int} {x6 : Int} {x8 : Int} {R : xT_}, xCX m M0 M T → xin x3 → xiN x4 → xiN x6 → xin x8 → r103 x0 x2 x3 x4 x6 x8 T = some R → xok (o103 x0 x2 x3 x4 x6 x8 M) (fun r => xCX m M0 r R)) (h : xCX m M0 M T) {x0 : Nat} {x2 : Nat} {x3 : Int} {x4 : Int} {x6 : Int} {x8 : Int} {R : xT_} (tx3 : xin x3) (tx4 : xiN x4) (tx6 : xiN x6) (tx8 : xin x8) (e : c103_170 r103 f x0 x2 x3 x4 x6 x8 T = some R) : xok (f103_170 o103 f x0 x2 x3 x4 x6 x8 M) (fun r => xCX m M0 r R) := by
  unfold c103_170 at e
  unfold f103_170
  exact hr103 h tx3 tx4 tx6 (xin_wr _) e
theorem t103_159 {m f : Nat} {M0 M : xj_M} {T : xT_} (hS : xHS f) {r103 : Nat → Nat → Int → Int → Int → Int → xT_ → Option (xT_)} {o103 : Nat → Nat → Int → Int → Int → Int → xj_M → Option (xj_M)} (hr103 : ∀ {M : xj_M} {T : xT_} {x0 : Nat} {x2 : Nat} {x3 : Int} {x4 : Int} {x6 : Int} {x8 : Int} {R : xT_}, xCX m M0 M T → xin x3 → xiN x4 → xiN x6 → xin x8 → r103 x0 x2 x3 x4 x6 x8 T = some R → xok (o103 x0 x2 x3 x4 x6 x8 M) (fun r => xCX m M0 r R)) (h : xCX m M0 M T) {x0 : Nat} {x2 : Nat} {x3 : Int} {x4 : Int} {x6 : Int} {x8 : Int} {R : xT_} (tx3 : xin x3) (tx4 : xiN x4) (tx6 : xiN x6) (tx8 : xin x8) (e : c103_159 r103 f x0 x2 x3 x4 x6 x8 T = some R) : xok (f103_159 o103 f x0 x2 x3 x4 x6 x8 M) (fun r => xCX m M0 r R) := by
  unfold c103_159 at e
  unfold f103_159
  obtain ⟨v105, q106, e⟩ := xbnd e
  refine xok_eqb (h.gr (by decide) (by decide) q106) ?_
  obtain ⟨v107, q108, e⟩ := xbnd e
  refine xok_eqb (h.ai (by decide) q108).1 ?_
  obtain ⟨T110, q109, e⟩ := xbnd e
  obtain ⟨M111, q112, h113⟩ := h.si (xin_wr _) q109
  refine xok_eqb q112 ?_
  exact t103_170 (r103 := r103) (o103 := o103) hS @hr103 h113 tx3 tx4 tx6 tx8 e
theorem t103_103b {m f : Nat} {M0 M : xj_M} {T : xT_} (hS : xHS f) {r103 : Nat → Nat → Int → Int → Int → Int → xT_ → Option (xT_)} {o103 : Nat → Nat → Int → Int → Int → Int → xj_M → Option (xj_M)} (hr103 : ∀ {M : xj_M} {T : xT_} {x0 : Nat} {x2 : Nat} {x3 : Int} {x4 : Int} {x6 : Int} {x8 : Int} {R : xT_}, xCX m M0 M T → xin x3 → xiN x4 → xiN x6 → xin x8 → r103 x0 x2 x3 x4 x6 x8 T = some R → xok (o103 x0 x2 x3 x4 x6 x8 M) (fun r => xCX m M0 r R)) (h : xCX m M0 M T) {x0 : Nat} {x2 : Nat} {x3 : Int} {x4 : Int} {x6 : Int} {x8 : Int} {R : xT_} (tx3 : xin x3) (tx4 : xiN x4) (tx6 : xiN x6) (tx8 : xin x8) (e : c103_103b r103 f x0 x2 x3 x4 x6 x8 T = some R) : xok (f103_103b o103 f x0 x2 x3 x4 x6 x8 M) (fun r => xCX m M0 r R) := by
  unfold c103_103b at e
  unfold f103_103b
  refine xok_ite (fun c114 => ?_) (fun c114 => ?_)
  · rw [if_pos c114] at e
    cases e
    exact ⟨_, rfl, h⟩
  · rw [if_neg c114] at e
    obtain ⟨v115, q116, e⟩ := xbnd e
    refine xok_eqb (h.gr (by decide) (by decide) q116) ?_
    obtain ⟨v117, q118, e⟩ := xbnd e
    refine xok_eqb (h.gr (by decide) (by decide) q118) ?_
    obtain ⟨v119, q120, e⟩ := xbnd e
    refine xok_eqb (h.ar q120) ?_
    refine xok_ite (fun c121 => ?_) (fun c121 => ?_)
    · rw [if_pos c121] at e
      exact t103_170 (r103 := r103) (o103 := o103) hS @hr103 h tx3 tx4 tx6 tx8 e
    · rw [if_neg c121] at e
      obtain ⟨v122, q123, e⟩ := xbnd e
      refine xok_eqb (h.gr (by decide) (by decide) q123) ?_
      obtain ⟨v124, q125, e⟩ := xbnd e
      refine xok_eqb (h.ab q125).1 ?_
      refine xok_ite (fun c126 => ?_) (fun c126 => ?_)
      · rw [if_pos c126] at e
        exact t103_159 (r103 := r103) (o103 := o103) hS @hr103 h tx3 tx4 tx6 tx8 e
      · rw [if_neg c126] at e
        obtain ⟨_, q132, e⟩ := xbnd e
        obtain ⟨R127, e128, e⟩ := xbnd e
        refine xok_eqb (h.is q132) ?_
        refine xok_call (t3 hS h tx4 tx6 e128) ?_
        rintro ⟨v_, M129⟩ ⟨hv_, h130, hi131⟩
        cases hv_
        refine xok_ite (fun c133 => ?_) (fun c133 => ?_)
        · rw [if_pos c133] at e
          exact t103_159 (r103 := r103) (o103 := o103) hS @hr103 h130 tx3 tx4 tx6 tx8 e
        · rw [if_neg c133] at e
          obtain ⟨_, q139, e⟩ := xbnd e
          obtain ⟨R134, e135, e⟩ := xbnd e
          refine xok_eqb (h130.is q139) ?_
          refine xok_call (t104 hS h130 tx3 e135) ?_
          rintro ⟨v_, M136⟩ ⟨hv_, h137, hi138⟩
          cases hv_
          refine xok_ite (fun c140 => ?_) (fun c140 => ?_)
          · rw [if_pos c140] at e
            exact t103_170 (r103 := r103) (o103 := o103) hS @hr103 h137 tx3 tx4 tx6 tx8 e
          · rw [if_neg c140] at e
            exact t103_159 (r103 := r103) (o103 := o103) hS @hr103 h137 tx3 tx4 tx6 tx8 e
theorem t103_103 {m f : Nat} {M0 : xj_M} (hS : xHS f)   : ∀ {n : Nat} {M : xj_M} {T : xT_} {x0 : Nat} {x2 : Nat} {x3 : Int} {x4 : Int} {x6 : Int} {x8 : Int} {R : xT_}, xCX m M0 M T → xin x3 → xiN x4 → xiN x6 → xin x8 → c103_103  f n x0 x2 x3 x4 x6 x8 T = some R → xok (f103_103  f n x0 x2 x3 x4 x6 x8 M) (fun r => xCX m M0 r R) := by
  intro n
  induction n with
  | zero => intros; rename_i e; cases e
  | succ n ih =>
    intros
    rename_i h i0 i1 i2 i3 e
    exact t103_103b hS  @ih h i0 i1 i2 i3 e
theorem t103_9b {m f : Nat} {M0 M : xj_M} {T : xT_} (hS : xHS f) {r9 : Nat → Nat → Nat → Int → Int → Int → Int → xT_ → Option (xT_)} {o9 : Nat → Nat → Nat → Int → Int → Int → Int → xj_M → Option (xj_M)} (hr9 : ∀ {M : xj_M} {T : xT_} {x0 : Nat} {x1 : Nat} {x2 : Nat} {x3 : Int} {x4 : Int} {x6 : Int} {x8 : Int} {R : xT_}, xCX m M0 M T → xin x3 → xiN x4 → xiN x6 → xin x8 → r9 x0 x1 x2 x3 x4 x6 x8 T = some R → xok (o9 x0 x1 x2 x3 x4 x6 x8 M) (fun r => xCX m M0 r R)) (h : xCX m M0 M T) {x0 : Nat} {x1 : Nat} {x2 : Nat} {x3 : Int} {x4 : Int} {x6 : Int} {x8 : Int} {R : xT_} (tx3 : xin x3) (tx4 : xiN x4) (tx6 : xiN x6) (tx8 : xin x8) (e : c103_9b r9 f x0 x1 x2 x3 x4 x6 x8 T = some R) : xok (f103_9b o9 f x0 x1 x2 x3 x4 x6 x8 M) (fun r => xCX m M0 r R) := by
  unfold c103_9b at e
  unfold f103_9b
  refine xok_ite (fun c141 => ?_) (fun c141 => ?_)
  · rw [if_pos c141] at e
    exact t103_103  hS  h tx3 tx4 tx6 (show xin (0) by decide) e
  · rw [if_neg c141] at e
    obtain ⟨v142, q143, e⟩ := xbnd e
    refine xok_eqb (h.gr (by decide) (by decide) q143) ?_
    obtain ⟨v144, q145, e⟩ := xbnd e
    refine xok_eqb (h.al q145).1 ?_
    obtain ⟨v146, q147, e⟩ := xbnd e
    refine xok_eqb (h.gr (by decide) (by decide) q147) ?_
    obtain ⟨v148, q149, e⟩ := xbnd e
    refine xok_eqb (h.al q149).1 ?_
    refine xok_ite (fun c150 => ?_) (fun c150 => ?_)
    · rw [if_pos c150] at e
      exact t103_39 (r9 := r9) (o9 := o9) hS @hr9 h tx3 tx4 tx6 tx8 (show xin (0) by decide) e
    · rw [if_neg c150] at e
      exact t103_39 (r9 := r9) (o9 := o9) hS @hr9 h tx3 tx4 tx6 tx8 (show xin (1) by decide) e
theorem t103_9 {m f : Nat} {M0 : xj_M} (hS : xHS f)   : ∀ {n : Nat} {M : xj_M} {T : xT_} {x0 : Nat} {x1 : Nat} {x2 : Nat} {x3 : Int} {x4 : Int} {x6 : Int} {x8 : Int} {R : xT_}, xCX m M0 M T → xin x3 → xiN x4 → xiN x6 → xin x8 → c103_9  f n x0 x1 x2 x3 x4 x6 x8 T = some R → xok (f103_9  f n x0 x1 x2 x3 x4 x6 x8 M) (fun r => xCX m M0 r R) := by
  intro n
  induction n with
  | zero => intros; rename_i e; cases e
  | succ n ih =>
    intros
    rename_i h i0 i1 i2 i3 e
    exact t103_9b hS  @ih h i0 i1 i2 i3 e
theorem t103 {m f : Nat} {M0 M : xj_M} {T : xT_} (hS : xHS f) (h : xCX m M0 M T) {a0 : Nat} {a1 : Nat} {a2 : Nat} {a3 : Int} {R : xT_} (ta3 : xin a3) (e : c103 f a0 a1 a2 a3 T = some R) : xok (f103 f a0 a1 a2 a3 M) (fun r => xCX m M0 r R) := by
  unfold c103 at e
  unfold f103
  exact t103_9  hS  h ta3 (show xiN (0) by decide) (show xiN (0) by decide) (show xin (0) by decide) e
-- ChangeHouse$Sheet.overCells
theorem t107_120 {m f : Nat} {M0 M : xj_M} {T : xT_} (hS : xHS f) {r9 : Nat → Int → Int → Int → Int → Int → Int → xT_ → Option (Int × xT_)} {o9 : Nat → Int → Int → Int → Int → Int → Int → xj_M → Option (Int × xj_M)} (hr9 : ∀ {M : xj_M} {T : xT_} {x0 : Nat} {x1 : Int} {x2 : Int} {x3 : Int} {x4 : Int} {x6 : Int} {x7 : Int} {R : Int × xT_}, xCX m M0 M T → xin x1 → xin x2 → xin x3 → xiN x4 → xin x6 → xin x7 → r9 x0 x1 x2 x3 x4 x6 x7 T = some R → xok (o9 x0 x1 x2 x3 x4 x6 x7 M) (fun r => r.1 = R.1 ∧ xCX m M0 r.2 R.2 ∧ xiN R.1)) (h : xCX m M0 M T) {x0 : Nat} {x1 : Int} {x2 : Int} {x3 : Int} {x4 : Int} {x6 : Int} {x7 : Int} {R : Int × xT_} (tx1 : xin x1) (tx2 : xin x2) (tx3 : xin x3) (tx4 : xiN x4) (tx6 : xin x6) (tx7 : xin x7) (e : c107_120 r9 f x0 x1 x2 x3 x4 x6 x7 T = some R) : xok (f107_120 o9 f x0 x1 x2 x3 x4 x6 x7 M) (fun r => r.1 = R.1 ∧ xCX m M0 r.2 R.2 ∧ xiN R.1) := by
  unfold c107_120 at e
  unfold f107_120
  exact hr9 h tx1 tx2 tx3 tx4 tx6 (xin_wr _) e
theorem t107_114 {m f : Nat} {M0 M : xj_M} {T : xT_} (hS : xHS f) {r9 : Nat → Int → Int → Int → Int → Int → Int → xT_ → Option (Int × xT_)} {o9 : Nat → Int → Int → Int → Int → Int → Int → xj_M → Option (Int × xj_M)} (hr9 : ∀ {M : xj_M} {T : xT_} {x0 : Nat} {x1 : Int} {x2 : Int} {x3 : Int} {x4 : Int} {x6 : Int} {x7 : Int} {R : Int × xT_}, xCX m M0 M T → xin x1 → xin x2 → xin x3 → xiN x4 → xin x6 → xin x7 → r9 x0 x1 x2 x3 x4 x6 x7 T = some R → xok (o9 x0 x1 x2 x3 x4 x6 x7 M) (fun r => r.1 = R.1 ∧ xCX m M0 r.2 R.2 ∧ xiN R.1)) (h : xCX m M0 M T) {x0 : Nat} {x1 : Int} {x2 : Int} {x3 : Int} {x6 : Int} {x7 : Int} {y0 : Int} {y1 : Int} {R : Int × xT_} (tx1 : xin x1) (tx2 : xin x2) (tx3 : xin x3) (tx6 : xin x6) (tx7 : xin x7) (ty0 : xiN y0) (ty1 : xiN y1) (e : c107_114 r9 f x0 x1 x2 x3 x6 x7 y0 y1 T = some R) : xok (f107_114 o9 f x0 x1 x2 x3 x6 x7 y0 y1 M) (fun r => r.1 = R.1 ∧ xCX m M0 r.2 R.2 ∧ xiN R.1) := by
  unfold c107_114 at e
  unfold f107_114
  exact t107_120 (r9 := r9) (o9 := o9) hS @hr9 h tx1 tx2 tx3 (xiN_wl _) (xin_wr _) tx7 e
theorem t107_44 {m f : Nat} {M0 M : xj_M} {T : xT_} (hS : xHS f) {r9 : Nat → Int → Int → Int → Int → Int → Int → xT_ → Option (Int × xT_)} {o9 : Nat → Int → Int → Int → Int → Int → Int → xj_M → Option (Int × xj_M)} (hr9 : ∀ {M : xj_M} {T : xT_} {x0 : Nat} {x1 : Int} {x2 : Int} {x3 : Int} {x4 : Int} {x6 : Int} {x7 : Int} {R : Int × xT_}, xCX m M0 M T → xin x1 → xin x2 → xin x3 → xiN x4 → xin x6 → xin x7 → r9 x0 x1 x2 x3 x4 x6 x7 T = some R → xok (o9 x0 x1 x2 x3 x4 x6 x7 M) (fun r => r.1 = R.1 ∧ xCX m M0 r.2 R.2 ∧ xiN R.1)) (h : xCX m M0 M T) {x0 : Nat} {x1 : Int} {x2 : Int} {x3 : Int} {x4 : Int} {x6 : Int} {x7 : Int} {y0 : Int} {R : Int × xT_} (tx1 : xin x1) (tx2 : xin x2) (tx3 : xin x3) (tx4 : xiN x4) (tx6 : xin x6) (tx7 : xin x7) (ty0 : xin y0) (e : c107_44 r9 f x0 x1 x2 x3 x4 x6 x7 y0 T = some R) : xok (f107_44 o9 f x0 x1 x2 x3 x4 x6 x7 y0 M) (fun r => r.1 = R.1 ∧ xCX m M0 r.2 R.2 ∧ xiN R.1) := by
  unfold c107_44 at e
  unfold f107_44
  refine xok_ite (fun c101 => ?_) (fun c101 => ?_)
  · rw [if_pos c101] at e
    exact t107_120 (r9 := r9) (o9 := o9) hS @hr9 h tx1 tx2 tx3 tx4 tx6 tx7 e
  · rw [if_neg c101] at e
    obtain ⟨v102, q103, e⟩ := xbnd e
    refine xok_eqb (h.gr (by decide) (by decide) q103) ?_
    obtain ⟨v104, q105, e⟩ := xbnd e
    refine xok_eqb (h.al q105).1 ?_
    refine xok_ite (fun c106 => ?_) (fun c106 => ?_)
    · rw [if_pos c106] at e
      exact t107_120 (r9 := r9) (o9 := o9) hS @hr9 h tx1 tx2 tx3 tx4 tx6 tx7 e
    · rw [if_neg c106] at e
      obtain ⟨v107, q108, e⟩ := xbnd e
      refine xok_eqb (h.gr (by decide) (by decide) q108) ?_
      obtain ⟨v109, q110, e⟩ := xbnd e
      refine xok_eqb (h.al q110).1 ?_
      refine xok_ite (fun c111 => ?_) (fun c111 => ?_)
      · rw [if_pos c111] at e
        obtain ⟨v112, q113, e⟩ := xbnd e
        refine xok_eqb (h.gr (by decide) (by decide) q113) ?_
        obtain ⟨v114, q115, e⟩ := xbnd e
        refine xok_eqb (h.al q115).1 ?_
        refine xok_ite (fun c116 => ?_) (fun c116 => ?_)
        · rw [if_pos c116] at e
          obtain ⟨v117, q118, e⟩ := xbnd e
          refine xok_eqb (h.gr (by decide) (by decide) q118) ?_
          obtain ⟨v119, q120, e⟩ := xbnd e
          refine xok_eqb (h.al q120).1 ?_
          exact t107_114 (r9 := r9) (o9 := o9) hS @hr9 h tx1 tx2 tx3 tx6 tx7 (h.al q120).2 tx4 e
        · rw [if_neg c116] at e
          exact t107_114 (r9 := r9) (o9 := o9) hS @hr9 h tx1 tx2 tx3 tx6 tx7 (show xiN (0) by decide) tx4 e
      · rw [if_neg c111] at e
        obtain ⟨v121, q122, e⟩ := xbnd e
        refine xok_eqb (h.gr (by decide) (by decide) q122) ?_
        obtain ⟨v123, q124, e⟩ := xbnd e
        refine xok_eqb (h.al q124).1 ?_
        cases e
        exact ⟨_, rfl, rfl, h, (h.al q124).2⟩
theorem t107_43 {m f : Nat} {M0 M : xj_M} {T : xT_} (hS : xHS f) {r9 : Nat → Int → Int → Int → Int → Int → Int → xT_ → Option (Int × xT_)} {o9 : Nat → Int → Int → Int → Int → Int → Int → xj_M → Option (Int × xj_M)} (hr9 : ∀ {M : xj_M} {T : xT_} {x0 : Nat} {x1 : Int} {x2 : Int} {x3 : Int} {x4 : Int} {x6 : Int} {x7 : Int} {R : Int × xT_}, xCX m M0 M T → xin x1 → xin x2 → xin x3 → xiN x4 → xin x6 → xin x7 → r9 x0 x1 x2 x3 x4 x6 x7 T = some R → xok (o9 x0 x1 x2 x3 x4 x6 x7 M) (fun r => r.1 = R.1 ∧ xCX m M0 r.2 R.2 ∧ xiN R.1)) (h : xCX m M0 M T) {x0 : Nat} {x1 : Int} {x2 : Int} {x3 : Int} {x4 : Int} {x6 : Int} {x7 : Int} {R : Int × xT_} (tx1 : xin x1) (tx2 : xin x2) (tx3 : xin x3) (tx4 : xiN x4) (tx6 : xin x6) (tx7 : xin x7) (e : c107_43 r9 f x0 x1 x2 x3 x4 x6 x7 T = some R) : xok (f107_43 o9 f x0 x1 x2 x3 x4 x6 x7 M) (fun r => r.1 = R.1 ∧ xCX m M0 r.2 R.2 ∧ xiN R.1) := by
  unfold c107_43 at e
  unfold f107_43
  exact t107_44 (r9 := r9) (o9 := o9) hS @hr9 h tx1 tx2 tx3 tx4 tx6 tx7 (show xin (0) by decide) e
theorem t107_141 {m f : Nat} {M0 M : xj_M} {T : xT_} (hS : xHS f)   (h : xCX m M0 M T) {y0 : Int} {R : Int × xT_} (ty0 : xiN y0) (e : c107_141  f y0 T = some R) : xok (f107_141  f y0 M) (fun r => r.1 = R.1 ∧ xCX m M0 r.2 R.2 ∧ xiN R.1) := by
  unfold c107_141 at e
  unfold f107_141
  cases e
  exact ⟨_, rfl, rfl, h, ty0⟩
theorem t107_9b {m f : Nat} {M0 M : xj_M} {T : xT_} (hS : xHS f) {r9 : Nat → Int → Int → Int → Int → Int → Int → xT_ → Option (Int × xT_)} {o9 : Nat → Int → Int → Int → Int → Int → Int → xj_M → Option (Int × xj_M)} (hr9 : ∀ {M : xj_M} {T : xT_} {x0 : Nat} {x1 : Int} {x2 : Int} {x3 : Int} {x4 : Int} {x6 : Int} {x7 : Int} {R : Int × xT_}, xCX m M0 M T → xin x1 → xin x2 → xin x3 → xiN x4 → xin x6 → xin x7 → r9 x0 x1 x2 x3 x4 x6 x7 T = some R → xok (o9 x0 x1 x2 x3 x4 x6 x7 M) (fun r => r.1 = R.1 ∧ xCX m M0 r.2 R.2 ∧ xiN R.1)) (h : xCX m M0 M T) {x0 : Nat} {x1 : Int} {x2 : Int} {x3 : Int} {x4 : Int} {x6 : Int} {x7 : Int} {R : Int × xT_} (tx1 : xin x1) (tx2 : xin x2) (tx3 : xin x3) (tx4 : xiN x4) (tx6 : xin x6) (tx7 : xin x7) (e : c107_9b r9 f x0 x1 x2 x3 x4 x6 x7 T = some R) : xok (f107_9b o9 f x0 x1 x2 x3 x4 x6 x7 M) (fun r => r.1 = R.1 ∧ xCX m M0 r.2 R.2 ∧ xiN R.1) := by
  unfold c107_9b at e
  unfold f107_9b
  refine xok_ite (fun c125 => ?_) (fun c125 => ?_)
  · rw [if_pos c125] at e
    refine xok_ite (fun c126 => ?_) (fun c126 => ?_)
    · rw [if_pos c126] at e
      exact t107_141  hS  h (xin_N tx6) e
    · rw [if_neg c126] at e
      obtain ⟨R127, e128, e⟩ := xbnd e
      refine xok_call (t108 hS h tx4 e128) ?_
      rintro ⟨v_, M129⟩ ⟨hv_, h130, hi131⟩
      cases hv_
      exact t107_141  hS  h130 hi131 e
  · rw [if_neg c125] at e
    refine xok_ite (fun c132 => ?_) (fun c132 => ?_)
    · rw [if_pos c132] at e
      exact t107_43 (r9 := r9) (o9 := o9) hS @hr9 h tx1 tx2 tx3 tx4 tx6 tx7 e
    · rw [if_neg c132] at e
      refine xok_ite (fun c133 => ?_) (fun c133 => ?_)
      · rw [if_pos c133] at e
        exact t107_43 (r9 := r9) (o9 := o9) hS @hr9 h tx1 tx2 tx3 tx4 tx6 tx7 e
      · rw [if_neg c133] at e
        exact t107_44 (r9 := r9) (o9 := o9) hS @hr9 h tx1 tx2 tx3 tx4 tx6 tx7 (show xin (1) by decide) e
theorem t107_9 {m f : Nat} {M0 : xj_M} (hS : xHS f)   : ∀ {n : Nat} {M : xj_M} {T : xT_} {x0 : Nat} {x1 : Int} {x2 : Int} {x3 : Int} {x4 : Int} {x6 : Int} {x7 : Int} {R : Int × xT_}, xCX m M0 M T → xin x1 → xin x2 → xin x3 → xiN x4 → xin x6 → xin x7 → c107_9  f n x0 x1 x2 x3 x4 x6 x7 T = some R → xok (f107_9  f n x0 x1 x2 x3 x4 x6 x7 M) (fun r => r.1 = R.1 ∧ xCX m M0 r.2 R.2 ∧ xiN R.1) := by
  intro n
  induction n with
  | zero => intros; rename_i e; cases e
  | succ n ih =>
    intros
    rename_i h i0 i1 i2 i3 i4 i5 e
    exact t107_9b hS  @ih h i0 i1 i2 i3 i4 i5 e
theorem t107 {m f : Nat} {M0 M : xj_M} {T : xT_} (hS : xHS f) (h : xCX m M0 M T) {a0 : Nat} {a1 : Int} {a2 : Int} {a3 : Int} {R : Int × xT_} (ta1 : xin a1) (ta2 : xin a2) (ta3 : xin a3) (e : c107 f a0 a1 a2 a3 T = some R) : xok (f107 f a0 a1 a2 a3 M) (fun r => r.1 = R.1 ∧ xCX m M0 r.2 R.2 ∧ xiN R.1) := by
  unfold c107 at e
  unfold f107
  exact t107_9  hS  h ta1 ta2 ta3 (show xiN (0) by decide) (show xin (0) by decide) ta2 e
-- ChangeHouse$Tape.nameKind
theorem t115_129 {m f : Nat} {M0 M : xj_M} {T : xT_} (hS : xHS f)   (h : xCX m M0 M T) {y0 : Int} {R : Int × xT_} (ty0 : xin y0) (e : c115_129  f y0 T = some R) : xok (f115_129  f y0 M) (fun r => r.1 = R.1 ∧ xCX m M0 r.2 R.2 ∧ xin R.1) := by
  unfold c115_129 at e
  unfold f115_129
  cases e
  exact ⟨_, rfl, rfl, h, ty0⟩
theorem t115 {m f : Nat} {M0 M : xj_M} {T : xT_} (hS : xHS f) (h : xCX m M0 M T) {a0 : Nat} {a1 : Int} {a2 : Int} {R : Int × xT_} (ta1 : xin a1) (ta2 : xin a2) (e : c115 f a0 a1 a2 T = some R) : xok (f115 f a0 a1 a2 M) (fun r => r.1 = R.1 ∧ xCX m M0 r.2 R.2 ∧ xin R.1) := by
  unfold c115 at e
  unfold f115
  obtain ⟨_, q106, e⟩ := xbnd e
  obtain ⟨R101, e102, e⟩ := xbnd e
  refine xok_eqb (h.is q106) ?_
  refine xok_call (t116 hS h ta1 ta2 e102) ?_
  rintro ⟨v_, M103⟩ ⟨hv_, h104, hi105⟩
  cases hv_
  refine xok_ite (fun c107 => ?_) (fun c107 => ?_)
  · rw [if_pos c107] at e
    obtain ⟨_, q113, e⟩ := xbnd e
    obtain ⟨R108, e109, e⟩ := xbnd e
    refine xok_eqb (h104.is q113) ?_
    refine xok_call (t116 hS h104 ta1 ta2 e109) ?_
    rintro ⟨v_, M110⟩ ⟨hv_, h111, hi112⟩
    cases hv_
    refine xok_ite (fun c114 => ?_) (fun c114 => ?_)
    · rw [if_pos c114] at e
      obtain ⟨_, q120, e⟩ := xbnd e
      obtain ⟨R115, e116, e⟩ := xbnd e
      refine xok_eqb (h111.is q120) ?_
      refine xok_call (t116 hS h111 ta1 ta2 e116) ?_
      rintro ⟨v_, M117⟩ ⟨hv_, h118, hi119⟩
      cases hv_
      refine xok_ite (fun c121 => ?_) (fun c121 => ?_)
      · rw [if_pos c121] at e
        obtain ⟨_, q127, e⟩ := xbnd e
        obtain ⟨R122, e123, e⟩ := xbnd e
        refine xok_eqb (h118.is q127) ?_
        refine xok_call (t116 hS h118 ta1 ta2 e123) ?_
        rintro ⟨v_, M124⟩ ⟨hv_, h125, hi126⟩
        cases hv_
        refine xok_ite (fun c128 => ?_) (fun c128 => ?_)
        · rw [if_pos c128] at e
          obtain ⟨_, q134, e⟩ := xbnd e
          obtain ⟨R129, e130, e⟩ := xbnd e
          refine xok_eqb (h125.is q134) ?_
          refine xok_call (t116 hS h125 ta1 ta2 e130) ?_
          rintro ⟨v_, M131⟩ ⟨hv_, h132, hi133⟩
          cases hv_
          refine xok_ite (fun c135 => ?_) (fun c135 => ?_)
          · rw [if_pos c135] at e
            obtain ⟨_, q141, e⟩ := xbnd e
            obtain ⟨R136, e137, e⟩ := xbnd e
            refine xok_eqb (h132.is q141) ?_
            refine xok_call (t116 hS h132 ta1 ta2 e137) ?_
            rintro ⟨v_, M138⟩ ⟨hv_, h139, hi140⟩
            cases hv_
            refine xok_ite (fun c142 => ?_) (fun c142 => ?_)
            · rw [if_pos c142] at e
              obtain ⟨_, q148, e⟩ := xbnd e
              obtain ⟨R143, e144, e⟩ := xbnd e
              refine xok_eqb (h139.is q148) ?_
              refine xok_call (t116 hS h139 ta1 ta2 e144) ?_
              rintro ⟨v_, M145⟩ ⟨hv_, h146, hi147⟩
              cases hv_
              refine xok_ite (fun c149 => ?_) (fun c149 => ?_)
              · rw [if_pos c149] at e
                obtain ⟨_, q155, e⟩ := xbnd e
                obtain ⟨R150, e151, e⟩ := xbnd e
                refine xok_eqb (h146.is q155) ?_
                refine xok_call (t116 hS h146 ta1 ta2 e151) ?_
                rintro ⟨v_, M152⟩ ⟨hv_, h153, hi154⟩
                cases hv_
                refine xok_ite (fun c156 => ?_) (fun c156 => ?_)
                · rw [if_pos c156] at e
                  exact t115_129  hS  h153 (show xin (1) by decide) e
                · rw [if_neg c156] at e
                  exact t115_129  hS  h153 (show xin (13) by decide) e
              · rw [if_neg c149] at e
                exact t115_129  hS  h146 (show xin (12) by decide) e
            · rw [if_neg c142] at e
              exact t115_129  hS  h139 (show xin (11) by decide) e
          · rw [if_neg c135] at e
            exact t115_129  hS  h132 (show xin (10) by decide) e
        · rw [if_neg c128] at e
          exact t115_129  hS  h125 (show xin (9) by decide) e
      · rw [if_neg c121] at e
        exact t115_129  hS  h118 (show xin (8) by decide) e
    · rw [if_neg c114] at e
      exact t115_129  hS  h111 (show xin (7) by decide) e
  · rw [if_neg c107] at e
    exact t115_129  hS  h104 (show xin (6) by decide) e
-- ChangeHouse$Tape.addVariable
theorem t117_119 {m f : Nat} {M0 M : xj_M} {T : xT_} (hS : xHS f)   (h : xCX m M0 M T) {x0 : Nat} {x1 : Int} {x2 : Int} {x4 : Int} {R : Int × xT_} (tx1 : xin x1) (tx2 : xiN x2) (tx4 : xin x4) (e : c117_119  f x0 x1 x2 x4 T = some R) : xok (f117_119  f x0 x1 x2 x4 M) (fun r => r.1 = R.1 ∧ xCX m M0 r.2 R.2 ∧ xin R.1) := by
  unfold c117_119 at e
  unfold f117_119
  obtain ⟨v101, q102, e⟩ := xbnd e
  refine xok_eqb (h.gr (by decide) (by decide) q102) ?_
  obtain ⟨v103, q104, e⟩ := xbnd e
  refine xok_eqb (h.gi (by decide) (by decide) q104).1 ?_
  obtain ⟨_, q110, e⟩ := xbnd e
  obtain ⟨R105, e106, e⟩ := xbnd e
  refine xok_eqb (h.is q110) ?_
  refine xok_call (t128 hS h tx1 (xin_wr _) e106) ?_
  rintro ⟨v_, M107⟩ ⟨hv_, h108, hi109⟩
  cases hv_
  obtain ⟨T112, q111, e⟩ := xbnd e
  obtain ⟨M113, q114, h115⟩ := h108.sl (xin_N hi109) q111
  refine xok_eqb q114 ?_
  obtain ⟨_, q121, e⟩ := xbnd e
  obtain ⟨R116, e117, e⟩ := xbnd e
  refine xok_eqb (h115.is q121) ?_
  refine xok_call (t120 hS h115 (show xin (2) by decide) tx1 tx4 tx2 e117) ?_
  intro M118 h119
  cases e
  exact ⟨_, rfl, rfl, h119, tx4⟩
theorem t117_112 {m f : Nat} {M0 M : xj_M} {T : xT_} (hS : xHS f) {r5 : Nat → Int → Int → Int → xT_ → Option (Int × xT_)} {o5 : Nat → Int → Int → Int → xj_M → Option (Int × xj_M)} (hr5 : ∀ {M : xj_M} {T : xT_} {x0 : Nat} {x1 : Int} {x2 : Int} {x4 : Int} {R : Int × xT_}, xCX m M0 M T → xin x1 → xiN x2 → xin x4 → r5 x0 x1 x2 x4 T = some R → xok (o5 x0 x1 x2 x4 M) (fun r => r.1 = R.1 ∧ xCX m M0 r.2 R.2 ∧ xin R.1)) (h : xCX m M0 M T) {x0 : Nat} {x1 : Int} {x4 : Int} {y0 : Int} {R : Int × xT_} (tx1 : xin x1) (tx4 : xin x4) (ty0 : xiN y0) (e : c117_112 r5 f x0 x1 x4 y0 T = some R) : xok (f117_112 o5 f x0 x1 x4 y0 M) (fun r => r.1 = R.1 ∧ xCX m M0 r.2 R.2 ∧ xin R.1) := by
  unfold c117_112 at e
  unfold f117_112
  exact hr5 h tx1 ty0 (xin_wr _) e
theorem t117_80 {m f : Nat} {M0 M : xj_M} {T : xT_} (hS : xHS f) {r5 : Nat → Int → Int → Int → xT_ → Option (Int × xT_)} {o5 : Nat → Int → Int → Int → xj_M → Option (Int × xj_M)} (hr5 : ∀ {M : xj_M} {T : xT_} {x0 : Nat} {x1 : Int} {x2 : Int} {x4 : Int} {R : Int × xT_}, xCX m M0 M T → xin x1 → xiN x2 → xin x4 → r5 x0 x1 x2 x4 T = some R → xok (o5 x0 x1 x2 x4 M) (fun r => r.1 = R.1 ∧ xCX m M0 r.2 R.2 ∧ xin R.1)) (h : xCX m M0 M T) {x0 : Nat} {x1 : Int} {x2 : Int} {x4 : Int} {y0 : Int} {R : Int × xT_} (tx1 : xin x1) (tx2 : xiN x2) (tx4 : xin x4) (ty0 : xin y0) (e : c117_80 r5 f x0 x1 x2 x4 y0 T = some R) : xok (f117_80 o5 f x0 x1 x2 x4 y0 M) (fun r => r.1 = R.1 ∧ xCX m M0 r.2 R.2 ∧ xin R.1) := by
  unfold c117_80 at e
  unfold f117_80
  refine xok_ite (fun c122 => ?_) (fun c122 => ?_)
  · rw [if_pos c122] at e
    refine xok_ite (fun c123 => ?_) (fun c123 => ?_)
    · rw [if_pos c123] at e
      exact t117_112 (r5 := r5) (o5 := o5) hS @hr5 h tx1 tx4 tx2 e
    · rw [if_neg c123] at e
      exact t117_112 (r5 := r5) (o5 := o5) hS @hr5 h tx1 tx4 (xiN_wl _) e
  · rw [if_neg c122] at e
    exact t117_119  hS  h tx1 tx2 tx4 e
theorem t117_5b {m f : Nat} {M0 M : xj_M} {T : xT_} (hS : xHS f) {r5 : Nat → Int → Int → Int → xT_ → Option (Int × xT_)} {o5 : Nat → Int → Int → Int → xj_M → Option (Int × xj_M)} (hr5 : ∀ {M : xj_M} {T : xT_} {x0 : Nat} {x1 : Int} {x2 : Int} {x4 : Int} {R : Int × xT_}, xCX m M0 M T → xin x1 → xiN x2 → xin x4 → r5 x0 x1 x2 x4 T = some R → xok (o5 x0 x1 x2 x4 M) (fun r => r.1 = R.1 ∧ xCX m M0 r.2 R.2 ∧ xin R.1)) (h : xCX m M0 M T) {x0 : Nat} {x1 : Int} {x2 : Int} {x4 : Int} {R : Int × xT_} (tx1 : xin x1) (tx2 : xiN x2) (tx4 : xin x4) (e : c117_5b r5 f x0 x1 x2 x4 T = some R) : xok (f117_5b o5 f x0 x1 x2 x4 M) (fun r => r.1 = R.1 ∧ xCX m M0 r.2 R.2 ∧ xin R.1) := by
  unfold c117_5b at e
  unfold f117_5b
  obtain ⟨v124, q125, e⟩ := xbnd e
  refine xok_eqb (h.gi (by decide) (by decide) q125).1 ?_
  refine xok_ite (fun c126 => ?_) (fun c126 => ?_)
  · rw [if_pos c126] at e
    exact t117_119  hS  h tx1 tx2 tx4 e
  · rw [if_neg c126] at e
    obtain ⟨v127, q128, e⟩ := xbnd e
    refine xok_eqb (h.gr (by decide) (by decide) q128) ?_
    obtain ⟨v129, q130, e⟩ := xbnd e
    refine xok_eqb (h.ai (by decide) q130).1 ?_
    obtain ⟨R131, e132, e⟩ := xbnd e
    refine xok_call (t122 hS h (h.ai (by decide) q130).2 e132) ?_
    rintro ⟨v_, M133⟩ ⟨hv_, h134, hi135⟩
    cases hv_
    refine xok_ite (fun c136 => ?_) (fun c136 => ?_)
    · rw [if_pos c136] at e
      obtain ⟨R137, e138, e⟩ := xbnd e
      refine xok_call (t121 hS h134 (h.ai (by decide) q130).2 e138) ?_
      rintro ⟨v_, M139⟩ ⟨hv_, h140, hi141⟩
      cases hv_
      refine xok_ite (fun c142 => ?_) (fun c142 => ?_)
      · rw [if_pos c142] at e
        obtain ⟨R143, e144, e⟩ := xbnd e
        refine xok_call (t123 hS h140 (h.ai (by decide) q130).2 e144) ?_
        rintro ⟨v_, M145⟩ ⟨hv_, h146, hi147⟩
        cases hv_
        refine xok_ite (fun c148 => ?_) (fun c148 => ?_)
        · rw [if_pos c148] at e
          exact t117_80 (r5 := r5) (o5 := o5) hS @hr5 h146 tx1 tx2 tx4 (show xin (0) by decide) e
        · rw [if_neg c148] at e
          exact t117_80 (r5 := r5) (o5 := o5) hS @hr5 h146 tx1 tx2 tx4 (xin_wr _) e
      · rw [if_neg c142] at e
        exact t117_80 (r5 := r5) (o5 := o5) hS @hr5 h140 tx1 tx2 tx4 (xin_wr _) e
    · rw [if_neg c136] at e
      exact t117_80 (r5 := r5) (o5 := o5) hS @hr5 h134 tx1 tx2 tx4 (xin_wr _) e
theorem t117_5 {m f : Nat} {M0 : xj_M} (hS : xHS f)   : ∀ {n : Nat} {M : xj_M} {T : xT_} {x0 : Nat} {x1 : Int} {x2 : Int} {x4 : Int} {R : Int × xT_}, xCX m M0 M T → xin x1 → xiN x2 → xin x4 → c117_5  f n x0 x1 x2 x4 T = some R → xok (f117_5  f n x0 x1 x2 x4 M) (fun r => r.1 = R.1 ∧ xCX m M0 r.2 R.2 ∧ xin R.1) := by
  intro n
  induction n with
  | zero => intros; rename_i e; cases e
  | succ n ih =>
    intros
    rename_i h i0 i1 i2 e
    exact t117_5b hS  @ih h i0 i1 i2 e
theorem t117 {m f : Nat} {M0 M : xj_M} {T : xT_} (hS : xHS f) (h : xCX m M0 M T) {a0 : Nat} {a1 : Int} {R : Int × xT_} (ta1 : xin a1) (e : c117 f a0 a1 T = some R) : xok (f117 f a0 a1 M) (fun r => r.1 = R.1 ∧ xCX m M0 r.2 R.2 ∧ xin R.1) := by
  unfold c117 at e
  unfold f117
  exact t117_5  hS  h ta1 (show xiN (0) by decide) ta1 e
-- ChangeHouse$Tape.addNumber
theorem t118_75 {m f : Nat} {M0 M : xj_M} {T : xT_} (hS : xHS f)   (h : xCX m M0 M T) {x0 : Nat} {x1 : Int} {x2 : Int} {x4 : Int} {R : Int × xT_} (tx1 : xin x1) (tx2 : xiN x2) (tx4 : xin x4) (e : c118_75  f x0 x1 x2 x4 T = some R) : xok (f118_75  f x0 x1 x2 x4 M) (fun r => r.1 = R.1 ∧ xCX m M0 r.2 R.2 ∧ xin R.1) := by
  unfold c118_75 at e
  unfold f118_75
  obtain ⟨_, q106, e⟩ := xbnd e
  obtain ⟨R101, e102, e⟩ := xbnd e
  refine xok_eqb (h.is q106) ?_
  refine xok_call (t120 hS h (show xin (4) by decide) tx1 tx4 tx2 e102) ?_
  intro M103 h104
  cases e
  exact ⟨_, rfl, rfl, h104, tx4⟩
theorem t118_16b {m f : Nat} {M0 M : xj_M} {T : xT_} (hS : xHS f) {r16 : Nat → Int → Int → Int → xT_ → Option (Int × xT_)} {o16 : Nat → Int → Int → Int → xj_M → Option (Int × xj_M)} (hr16 : ∀ {M : xj_M} {T : xT_} {x0 : Nat} {x1 : Int} {x2 : Int} {x4 : Int} {R : Int × xT_}, xCX m M0 M T → xin x1 → xiN x2 → xin x4 → r16 x0 x1 x2 x4 T = some R → xok (o16 x0 x1 x2 x4 M) (fun r => r.1 = R.1 ∧ xCX m M0 r.2 R.2 ∧ xin R.1)) (h : xCX m M0 M T) {x0 : Nat} {x1 : Int} {x2 : Int} {x4 : Int} {R : Int × xT_} (tx1 : xin x1) (tx2 : xiN x2) (tx4 : xin x4) (e : c118_16b r16 f x0 x1 x2 x4 T = some R) : xok (f118_16b o16 f x0 x1 x2 x4 M) (fun r => r.1 = R.1 ∧ xCX m M0 r.2 R.2 ∧ xin R.1) := by
  unfold c118_16b at e
  unfold f118_16b
  refine xok_ite (fun c107 => ?_) (fun c107 => ?_)
  · rw [if_pos c107] at e
    exact t118_75  hS  h tx1 tx2 tx4 e
  · rw [if_neg c107] at e
    obtain ⟨v108, q109, e⟩ := xbnd e
    refine xok_eqb (h.gi (by decide) (by decide) q109).1 ?_
    refine xok_ite (fun c110 => ?_) (fun c110 => ?_)
    · rw [if_pos c110] at e
      exact t118_75  hS  h tx1 tx2 tx4 e
    · rw [if_neg c110] at e
      obtain ⟨v111, q112, e⟩ := xbnd e
      refine xok_eqb (h.gr (by decide) (by decide) q112) ?_
      obtain ⟨v113, q114, e⟩ := xbnd e
      refine xok_eqb (h.ai (by decide) q114).1 ?_
      obtain ⟨R115, e116, e⟩ := xbnd e
      refine xok_call (t123 hS h (h.ai (by decide) q114).2 e116) ?_
      rintro ⟨v_, M117⟩ ⟨hv_, h118, hi119⟩
      cases hv_
      refine xok_ite (fun c120 => ?_) (fun c120 => ?_)
      · rw [if_pos c120] at e
        exact t118_75  hS  h118 tx1 tx2 tx4 e
      · rw [if_neg c120] at e
        obtain ⟨v121, q122, e⟩ := xbnd e
        refine xok_eqb (h118.gr (by decide) (by decide) q122) ?_
        obtain ⟨v123, q124, e⟩ := xbnd e
        refine xok_eqb (h118.ai (by decide) q124).1 ?_
        exact hr16 h118 tx1 (xmin_iN (xiN_wl _) (show xiN (1000000000001) by decide)) (xin_wr _) e
theorem t118_16 {m f : Nat} {M0 : xj_M} (hS : xHS f)   : ∀ {n : Nat} {M : xj_M} {T : xT_} {x0 : Nat} {x1 : Int} {x2 : Int} {x4 : Int} {R : Int × xT_}, xCX m M0 M T → xin x1 → xiN x2 → xin x4 → c118_16  f n x0 x1 x2 x4 T = some R → xok (f118_16  f n x0 x1 x2 x4 M) (fun r => r.1 = R.1 ∧ xCX m M0 r.2 R.2 ∧ xin R.1) := by
  intro n
  induction n with
  | zero => intros; rename_i e; cases e
  | succ n ih =>
    intros
    rename_i h i0 i1 i2 e
    exact t118_16b hS  @ih h i0 i1 i2 e
theorem t118 {m f : Nat} {M0 M : xj_M} {T : xT_} (hS : xHS f) (h : xCX m M0 M T) {a0 : Nat} {a1 : Int} {R : Int × xT_} (ta1 : xin a1) (e : c118 f a0 a1 T = some R) : xok (f118 f a0 a1 M) (fun r => r.1 = R.1 ∧ xCX m M0 r.2 R.2 ∧ xin R.1) := by
  unfold c118 at e
  unfold f118
  obtain ⟨v125, q126, e⟩ := xbnd e
  refine xok_eqb (h.gr (by decide) (by decide) q126) ?_
  obtain ⟨v127, q128, e⟩ := xbnd e
  refine xok_eqb (h.ai (by decide) q128).1 ?_
  exact t118_16  hS  h ta1 (xin_N (xin_wr _)) (xin_wr _) e
-- ChangeHouse$Tape.addSign
theorem t119_167 {m f : Nat} {M0 M : xj_M} {T : xT_} (hS : xHS f)   (h : xCX m M0 M T) {x1 : Int} {y0 : Int} {y1 : Nat} {R : Int × xT_} (tx1 : xin x1) (ty0 : xin y0) (e : c119_167  f x1 y0 y1 T = some R) : xok (f119_167  f x1 y0 y1 M) (fun r => r.1 = R.1 ∧ xCX m M0 r.2 R.2 ∧ xin R.1) := by
  unfold c119_167 at e
  unfold f119_167
  obtain ⟨_, q106, e⟩ := xbnd e
  obtain ⟨R101, e102, e⟩ := xbnd e
  refine xok_eqb (h.is q106) ?_
  refine xok_call (t120 hS h ty0 tx1 (xin_wr _) (show xiN (0) by decide) e102) ?_
  intro M103 h104
  cases e
  exact ⟨_, rfl, rfl, h104, (xin_wr _)⟩
theorem t119_144 {m f : Nat} {M0 M : xj_M} {T : xT_} (hS : xHS f)   (h : xCX m M0 M T) {x0 : Nat} {x1 : Int} {x2 : Int} {y0 : Int} {R : Int × xT_} (tx1 : xin x1) (tx2 : xin x2) (ty0 : xin y0) (e : c119_144  f x0 x1 x2 y0 T = some R) : xok (f119_144  f x0 x1 x2 y0 M) (fun r => r.1 = R.1 ∧ xCX m M0 r.2 R.2 ∧ xin R.1) := by
  unfold c119_144 at e
  unfold f119_144
  refine xok_ite (fun c107 => ?_) (fun c107 => ?_)
  · rw [if_pos c107] at e
    refine xok_ite (fun c108 => ?_) (fun c108 => ?_)
    · rw [if_pos c108] at e
      exact t119_167  hS  h tx1 (show xin (5) by decide) e
    · rw [if_neg c108] at e
      exact t119_167  hS  h tx1 tx2 e
  · rw [if_neg c107] at e
    exact t119_167  hS  h tx1 (show xin (3) by decide) e
theorem t119_143 {m f : Nat} {M0 M : xj_M} {T : xT_} (hS : xHS f)   (h : xCX m M0 M T) {x0 : Nat} {x1 : Int} {x2 : Int} {R : Int × xT_} (tx1 : xin x1) (tx2 : xin x2) (e : c119_143  f x0 x1 x2 T = some R) : xok (f119_143  f x0 x1 x2 M) (fun r => r.1 = R.1 ∧ xCX m M0 r.2 R.2 ∧ xin R.1) := by
  unfold c119_143 at e
  unfold f119_143
  exact t119_144  hS  h tx1 tx2 (show xin (0) by decide) e
theorem t119_103 {m f : Nat} {M0 M : xj_M} {T : xT_} (hS : xHS f)   (h : xCX m M0 M T) {x0 : Nat} {x1 : Int} {x2 : Int} {y0 : Int} {R : Int × xT_} (tx1 : xin x1) (tx2 : xin x2) (ty0 : xin y0) (e : c119_103  f x0 x1 x2 y0 T = some R) : xok (f119_103  f x0 x1 x2 y0 M) (fun r => r.1 = R.1 ∧ xCX m M0 r.2 R.2 ∧ xin R.1) := by
  unfold c119_103 at e
  unfold f119_103
  refine xok_ite (fun c109 => ?_) (fun c109 => ?_)
  · rw [if_pos c109] at e
    refine xok_ite (fun c110 => ?_) (fun c110 => ?_)
    · rw [if_pos c110] at e
      exact t119_143  hS  h tx1 tx2 e
    · rw [if_neg c110] at e
      obtain ⟨_, q116, e⟩ := xbnd e
      obtain ⟨R111, e112, e⟩ := xbnd e
      refine xok_eqb q116 ?_
      refine xok_eqb (hS.xcsx tx2 _ e112).1 ?_
      dsimp only
      refine xok_ite (fun c117 => ?_) (fun c117 => ?_)
      · rw [if_pos c117] at e
        exact t119_143  hS  h tx1 tx2 e
      · rw [if_neg c117] at e
        exact t119_144  hS  h tx1 tx2 (show xin (1) by decide) e
  · rw [if_neg c109] at e
    obtain ⟨_, q123, e⟩ := xbnd e
    obtain ⟨R118, e119, e⟩ := xbnd e
    refine xok_eqb (h.is q123) ?_
    refine xok_call (t120 hS h ty0 tx1 (xin_wr _) (show xiN (0) by decide) e119) ?_
    intro M120 h121
    cases e
    exact ⟨_, rfl, rfl, h121, (xin_wr _)⟩
theorem t119_102 {m f : Nat} {M0 M : xj_M} {T : xT_} (hS : xHS f)   (h : xCX m M0 M T) {x0 : Nat} {x1 : Int} {x2 : Int} {R : Int × xT_} (tx1 : xin x1) (tx2 : xin x2) (e : c119_102  f x0 x1 x2 T = some R) : xok (f119_102  f x0 x1 x2 M) (fun r => r.1 = R.1 ∧ xCX m M0 r.2 R.2 ∧ xin R.1) := by
  unfold c119_102 at e
  unfold f119_102
  exact t119_103  hS  h tx1 tx2 (show xin (-1) by decide) e
theorem t119_84 {m f : Nat} {M0 M : xj_M} {T : xT_} (hS : xHS f)   (h : xCX m M0 M T) {x0 : Nat} {x1 : Int} {x2 : Int} {x3 : Int} {R : Int × xT_} (tx1 : xin x1) (tx2 : xin x2) (tx3 : xin x3) (e : c119_84  f x0 x1 x2 x3 T = some R) : xok (f119_84  f x0 x1 x2 x3 M) (fun r => r.1 = R.1 ∧ xCX m M0 r.2 R.2 ∧ xin R.1) := by
  unfold c119_84 at e
  unfold f119_84
  refine xok_ite (fun c124 => ?_) (fun c124 => ?_)
  · rw [if_pos c124] at e
    exact t119_102  hS  h tx1 tx2 e
  · rw [if_neg c124] at e
    refine xok_ite (fun c125 => ?_) (fun c125 => ?_)
    · rw [if_pos c125] at e
      exact t119_102  hS  h tx1 tx2 e
    · rw [if_neg c125] at e
      exact t119_103  hS  h tx1 tx2 (show xin (259) by decide) e
theorem t119_66 {m f : Nat} {M0 M : xj_M} {T : xT_} (hS : xHS f)   (h : xCX m M0 M T) {x0 : Nat} {x1 : Int} {x2 : Int} {x3 : Int} {R : Int × xT_} (tx1 : xin x1) (tx2 : xin x2) (tx3 : xin x3) (e : c119_66  f x0 x1 x2 x3 T = some R) : xok (f119_66  f x0 x1 x2 x3 M) (fun r => r.1 = R.1 ∧ xCX m M0 r.2 R.2 ∧ xin R.1) := by
  unfold c119_66 at e
  unfold f119_66
  refine xok_ite (fun c126 => ?_) (fun c126 => ?_)
  · rw [if_pos c126] at e
    exact t119_84  hS  h tx1 tx2 tx3 e
  · rw [if_neg c126] at e
    refine xok_ite (fun c127 => ?_) (fun c127 => ?_)
    · rw [if_pos c127] at e
      exact t119_84  hS  h tx1 tx2 tx3 e
    · rw [if_neg c127] at e
      exact t119_103  hS  h tx1 tx2 (show xin (258) by decide) e
theorem t119_48 {m f : Nat} {M0 M : xj_M} {T : xT_} (hS : xHS f)   (h : xCX m M0 M T) {x0 : Nat} {x1 : Int} {x2 : Int} {x3 : Int} {R : Int × xT_} (tx1 : xin x1) (tx2 : xin x2) (tx3 : xin x3) (e : c119_48  f x0 x1 x2 x3 T = some R) : xok (f119_48  f x0 x1 x2 x3 M) (fun r => r.1 = R.1 ∧ xCX m M0 r.2 R.2 ∧ xin R.1) := by
  unfold c119_48 at e
  unfold f119_48
  refine xok_ite (fun c128 => ?_) (fun c128 => ?_)
  · rw [if_pos c128] at e
    exact t119_66  hS  h tx1 tx2 tx3 e
  · rw [if_neg c128] at e
    refine xok_ite (fun c129 => ?_) (fun c129 => ?_)
    · rw [if_pos c129] at e
      exact t119_66  hS  h tx1 tx2 tx3 e
    · rw [if_neg c129] at e
      exact t119_103  hS  h tx1 tx2 (show xin (257) by decide) e
theorem t119_29 {m f : Nat} {M0 M : xj_M} {T : xT_} (hS : xHS f)   (h : xCX m M0 M T) {x0 : Nat} {x1 : Int} {x2 : Int} {y0 : Int} {R : Int × xT_} (tx1 : xin x1) (tx2 : xin x2) (ty0 : xin y0) (e : c119_29  f x0 x1 x2 y0 T = some R) : xok (f119_29  f x0 x1 x2 y0 M) (fun r => r.1 = R.1 ∧ xCX m M0 r.2 R.2 ∧ xin R.1) := by
  unfold c119_29 at e
  unfold f119_29
  refine xok_ite (fun c130 => ?_) (fun c130 => ?_)
  · rw [if_pos c130] at e
    exact t119_48  hS  h tx1 tx2 ty0 e
  · rw [if_neg c130] at e
    refine xok_ite (fun c131 => ?_) (fun c131 => ?_)
    · rw [if_pos c131] at e
      exact t119_48  hS  h tx1 tx2 ty0 e
    · rw [if_neg c131] at e
      exact t119_103  hS  h tx1 tx2 (show xin (256) by decide) e
theorem t119 {m f : Nat} {M0 M : xj_M} {T : xT_} (hS : xHS f) (h : xCX m M0 M T) {a0 : Nat} {a1 : Int} {R : Int × xT_} (ta1 : xin a1) (e : c119 f a0 a1 T = some R) : xok (f119 f a0 a1 M) (fun r => r.1 = R.1 ∧ xCX m M0 r.2 R.2 ∧ xin R.1) := by
  unfold c119 at e
  unfold f119
  obtain ⟨v132, q133, e⟩ := xbnd e
  refine xok_eqb (h.gr (by decide) (by decide) q133) ?_
  obtain ⟨v134, q135, e⟩ := xbnd e
  refine xok_eqb (h.ai (by decide) q135).1 ?_
  obtain ⟨v136, q137, e⟩ := xbnd e
  refine xok_eqb (h.gi (by decide) (by decide) q137).1 ?_
  refine xok_ite (fun c138 => ?_) (fun c138 => ?_)
  · rw [if_pos c138] at e
    exact t119_29  hS  h ta1 (h.ai (by decide) q135).2 (show xin (0) by decide) e
  · rw [if_neg c138] at e
    obtain ⟨v139, q140, e⟩ := xbnd e
    refine xok_eqb (h.gr (by decide) (by decide) q140) ?_
    obtain ⟨v141, q142, e⟩ := xbnd e
    refine xok_eqb (h.ai (by decide) q142).1 ?_
    exact t119_29  hS  h ta1 (h.ai (by decide) q135).2 (h.ai (by decide) q142).2 e
-- ChangeHouse$Ways.open
theorem t130 {m f : Nat} {M0 M : xj_M} {T : xT_} (hS : xHS f) (h : xCX m M0 M T) {a0 : Nat} {a1 : Nat} {a2 : Nat} {a3 : Int} {R : xT_} (ta3 : xin a3) (e : c130 f a0 a1 a2 a3 T = some R) : xok (f130 f a0 a1 a2 a3 M) (fun r => xCX m M0 r R) := by
  unfold c130 at e
  unfold f130
  obtain ⟨T102, q101, e⟩ := xbnd e
  obtain ⟨M103, q104, h105⟩ := h.pr (by decide) (by decide)  q101
  refine xok_eqb q104 ?_
  obtain ⟨T107, q106, e⟩ := xbnd e
  obtain ⟨M108, q109, h110⟩ := h105.pr (by decide) (by decide)  q106
  refine xok_eqb q109 ?_
  obtain ⟨T112, q111, e⟩ := xbnd e
  obtain ⟨M113, q114, h115⟩ := h110.pb (by decide) (by decide)  q111
  refine xok_eqb q114 ?_
  obtain ⟨T117, q116, e⟩ := xbnd e
  obtain ⟨M118, q119, h120⟩ := h115.pi (by decide) (by decide) (show xin (0) by decide) q116
  refine xok_eqb q119 ?_
  obtain ⟨T122, q121, e⟩ := xbnd e
  obtain ⟨M123, q124, h125⟩ := h120.pb (by decide) (by decide)  q121
  refine xok_eqb q124 ?_
  obtain ⟨v126, q127, e⟩ := xbnd e
  refine xok_eqb (h125.gr (by decide) (by decide) q127) ?_
  obtain ⟨T129, q128, e⟩ := xbnd e
  obtain ⟨M130, q131, h132⟩ := h125.si (show xin (0) by decide) q128
  refine xok_eqb q131 ?_
  obtain ⟨v133, q134, e⟩ := xbnd e
  refine xok_eqb (h132.gr (by decide) (by decide) q134) ?_
  obtain ⟨R135, e136, e⟩ := xbnd e
  refine xok_call (t382 hS h132 (show xin (0) by decide) e136) ?_
  intro M137 h138
  obtain ⟨v140, q141, e⟩ := xbnd e
  refine xok_eqb (h138.gr (by decide) (by decide) q141) ?_
  obtain ⟨R142, e143, e⟩ := xbnd e
  refine xok_call (t382 hS h138 (show xin (1700) by decide) e143) ?_
  intro M144 h145
  cases e
  exact ⟨_, rfl, h145⟩
-- ChangeHouse$Ways.nextRow
theorem t135_84 {m f : Nat} {M0 M : xj_M} {T : xT_} (hS : xHS f)   (h : xCX m M0 M T) {x0 : Nat} {x3 : Int} {x4 : Int} {R : Int × xT_} (tx3 : xin x3) (tx4 : xin x4) (e : c135_84  f x0 x3 x4 T = some R) : xok (f135_84  f x0 x3 x4 M) (fun r => r.1 = R.1 ∧ xCX m M0 r.2 R.2 ∧ xin R.1) := by
  unfold c135_84 at e
  unfold f135_84
  obtain ⟨v101, q102, e⟩ := xbnd e
  refine xok_eqb (h.gr (by decide) (by decide) q102) ?_
  obtain ⟨v103, q104, e⟩ := xbnd e
  refine xok_eqb (h.gi (by decide) (by decide) q104).1 ?_
  obtain ⟨T106, q105, e⟩ := xbnd e
  obtain ⟨M107, q108, h109⟩ := h.si (xin_wr _) q105
  refine xok_eqb q108 ?_
  obtain ⟨v110, q111, e⟩ := xbnd e
  refine xok_eqb (h109.gr (by decide) (by decide) q111) ?_
  obtain ⟨v112, q113, e⟩ := xbnd e
  refine xok_eqb (h109.gi (by decide) (by decide) q113).1 ?_
  obtain ⟨T115, q114, e⟩ := xbnd e
  obtain ⟨M116, q117, h118⟩ := h109.si tx4 q114
  refine xok_eqb q117 ?_
  cases e
  exact ⟨_, rfl, rfl, h118, (show xin (1) by decide)⟩
theorem t135_111 {m f : Nat} {M0 M : xj_M} {T : xT_} (hS : xHS f) {r25 : Nat → Int → Nat → Int → xT_ → Option (Int × xT_)} {o25 : Nat → Int → Nat → Int → xj_M → Option (Int × xj_M)} (hr25 : ∀ {M : xj_M} {T : xT_} {x0 : Nat} {x1 : Int} {x2 : Nat} {x3 : Int} {R : Int × xT_}, xCX m M0 M T → xin x1 → xin x3 → r25 x0 x1 x2 x3 T = some R → xok (o25 x0 x1 x2 x3 M) (fun r => r.1 = R.1 ∧ xCX m M0 r.2 R.2 ∧ xin R.1)) (h : xCX m M0 M T) {x0 : Nat} {x1 : Int} {x2 : Nat} {x3 : Int} {R : Int × xT_} (tx1 : xin x1) (tx3 : xin x3) (e : c135_111 r25 f x0 x1 x2 x3 T = some R) : xok (f135_111 o25 f x0 x1 x2 x3 M) (fun r => r.1 = R.1 ∧ xCX m M0 r.2 R.2 ∧ xin R.1) := by
  unfold c135_111 at e
  unfold f135_111
  exact hr25 h tx1 (xin_wr _) e
theorem t135_25b {m f : Nat} {M0 M : xj_M} {T : xT_} (hS : xHS f) {r25 : Nat → Int → Nat → Int → xT_ → Option (Int × xT_)} {o25 : Nat → Int → Nat → Int → xj_M → Option (Int × xj_M)} (hr25 : ∀ {M : xj_M} {T : xT_} {x0 : Nat} {x1 : Int} {x2 : Nat} {x3 : Int} {R : Int × xT_}, xCX m M0 M T → xin x1 → xin x3 → r25 x0 x1 x2 x3 T = some R → xok (o25 x0 x1 x2 x3 M) (fun r => r.1 = R.1 ∧ xCX m M0 r.2 R.2 ∧ xin R.1)) (h : xCX m M0 M T) {x0 : Nat} {x1 : Int} {x2 : Nat} {x3 : Int} {R : Int × xT_} (tx1 : xin x1) (tx3 : xin x3) (e : c135_25b r25 f x0 x1 x2 x3 T = some R) : xok (f135_25b o25 f x0 x1 x2 x3 M) (fun r => r.1 = R.1 ∧ xCX m M0 r.2 R.2 ∧ xin R.1) := by
  unfold c135_25b at e
  unfold f135_25b
  obtain ⟨v119, q120, e⟩ := xbnd e
  refine xok_eqb (h.gr (by decide) (by decide) q120) ?_
  obtain ⟨v121, q122, e⟩ := xbnd e
  refine xok_eqb (h.gi (by decide) (by decide) q122).1 ?_
  obtain ⟨v123, q124, e⟩ := xbnd e
  refine xok_eqb (h.ai (by decide) q124).1 ?_
  refine xok_ite (fun c125 => ?_) (fun c125 => ?_)
  · rw [if_pos c125] at e
    cases e
    exact ⟨_, rfl, rfl, h, (show xin (0) by decide)⟩
  · rw [if_neg c125] at e
    obtain ⟨_, q131, e⟩ := xbnd e
    obtain ⟨R126, e127, e⟩ := xbnd e
    refine xok_eqb (h.is q131) ?_
    refine xok_call (t136 hS h tx1 tx3 e127) ?_
    rintro ⟨v_, M128⟩ ⟨hv_, h129, hi130⟩
    cases hv_
    refine xok_ite (fun c132 => ?_) (fun c132 => ?_)
    · rw [if_pos c132] at e
      exact t135_111 (r25 := r25) (o25 := o25) hS @hr25 h129 tx1 tx3 e
    · rw [if_neg c132] at e
      obtain ⟨v133, q134, e⟩ := xbnd e
      refine xok_eqb (h129.gi (by decide) (by decide) q134).1 ?_
      refine xok_ite (fun c135 => ?_) (fun c135 => ?_)
      · rw [if_pos c135] at e
        exact t135_84  hS  h129 tx3 hi130 e
      · rw [if_neg c135] at e
        obtain ⟨v136, q137, e⟩ := xbnd e
        refine xok_eqb (h129.gr (by decide) (by decide) q137) ?_
        obtain ⟨v138, q139, e⟩ := xbnd e
        refine xok_eqb (h129.gi (by decide) (by decide) q139).1 ?_
        obtain ⟨v140, q141, e⟩ := xbnd e
        refine xok_eqb (h129.ai (by decide) q141).1 ?_
        refine xok_ite (fun c142 => ?_) (fun c142 => ?_)
        · rw [if_pos c142] at e
          exact t135_84  hS  h129 tx3 hi130 e
        · rw [if_neg c142] at e
          obtain ⟨_, q148, e⟩ := xbnd e
          obtain ⟨R143, e144, e⟩ := xbnd e
          refine xok_eqb (h129.is q148) ?_
          refine xok_call (t137 hS h129 tx1 tx3 e144) ?_
          rintro ⟨v_, M145⟩ ⟨hv_, h146, hi147⟩
          cases hv_
          refine xok_ite (fun c149 => ?_) (fun c149 => ?_)
          · rw [if_pos c149] at e
            exact t135_111 (r25 := r25) (o25 := o25) hS @hr25 h146 tx1 tx3 e
          · rw [if_neg c149] at e
            exact t135_84  hS  h146 tx3 hi130 e
theorem t135_25 {m f : Nat} {M0 : xj_M} (hS : xHS f)   : ∀ {n : Nat} {M : xj_M} {T : xT_} {x0 : Nat} {x1 : Int} {x2 : Nat} {x3 : Int} {R : Int × xT_}, xCX m M0 M T → xin x1 → xin x3 → c135_25  f n x0 x1 x2 x3 T = some R → xok (f135_25  f n x0 x1 x2 x3 M) (fun r => r.1 = R.1 ∧ xCX m M0 r.2 R.2 ∧ xin R.1) := by
  intro n
  induction n with
  | zero => intros; rename_i e; cases e
  | succ n ih =>
    intros
    rename_i h i0 i1 e
    exact t135_25b hS  @ih h i0 i1 e
theorem t135 {m f : Nat} {M0 M : xj_M} {T : xT_} (hS : xHS f) (h : xCX m M0 M T) {a0 : Nat} {a1 : Int} {R : Int × xT_} (ta1 : xin a1) (e : c135 f a0 a1 T = some R) : xok (f135 f a0 a1 M) (fun r => r.1 = R.1 ∧ xCX m M0 r.2 R.2 ∧ xin R.1) := by
  unfold c135 at e
  unfold f135
  obtain ⟨v150, q151, e⟩ := xbnd e
  refine xok_eqb (h.gr (by decide) (by decide) q151) ?_
  obtain ⟨v152, q153, e⟩ := xbnd e
  refine xok_eqb (h.gr (by decide) (by decide) q153) ?_
  obtain ⟨v154, q155, e⟩ := xbnd e
  refine xok_eqb (h.gr (by decide) (by decide) q155) ?_
  obtain ⟨v156, q157, e⟩ := xbnd e
  refine xok_eqb (h.ai (by decide) q157).1 ?_
  obtain ⟨v158, q159, e⟩ := xbnd e
  refine xok_eqb (h.ar q159) ?_
  obtain ⟨v160, q161, e⟩ := xbnd e
  refine xok_eqb (h.gr (by decide) (by decide) q161) ?_
  obtain ⟨v162, q163, e⟩ := xbnd e
  refine xok_eqb (h.gi (by decide) (by decide) q163).1 ?_
  obtain ⟨v164, q165, e⟩ := xbnd e
  refine xok_eqb (h.ai (by decide) q165).1 ?_
  exact t135_25  hS  h ta1 (h.ai (by decide) q165).2 e
