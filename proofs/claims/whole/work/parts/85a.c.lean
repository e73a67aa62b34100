/-! The class over its cells as functions (written by mk_c.py) -/
-- ChangeHouse$Formula.addRead
theorem t2_36 {m f : Nat} {M0 M : xj_M} {T : xT_} (hS : xHS f)   (h : xCX m M0 M T)  {R : xT_}  (e : c2_36  f  T = some R) : xok (f2_36  f  M) (fun r => xCX m M0 r R) := by
  unfold c2_36 at e
  unfold f2_36
  cases e
  exact ⟨_, rfl, h⟩
theorem t2 {m f : Nat} {M0 M : xj_M} {T : xT_} (hS : xHS f) (h : xCX m M0 M T) {a0 : Nat} {a1 : Int} {R : xT_} (ta1 : xin a1) (e : c2 f a0 a1 T = some R) : xok (f2 f a0 a1 M) (fun r => xCX m M0 r R) := by
  unfold c2 at e
  unfold f2
  refine xok_ite (fun c101 => ?_) (fun c101 => ?_)
  · rw [if_pos c101] at e
    obtain ⟨v102, q103, e⟩ := xbnd e
    refine xok_eqb (h.gl (by decide) (by decide) q103).1 ?_
    obtain ⟨T105, q104, e⟩ := xbnd e
    obtain ⟨M106, q107, h108⟩ := h.pl (by decide) (by decide) (xiN_of _) q104
    refine xok_eqb q107 ?_
    exact t2_36  hS  h108  e
  · rw [if_neg c101] at e
    obtain ⟨v109, q110, e⟩ := xbnd e
    refine xok_eqb (h.gl (by decide) (by decide) q110).1 ?_
    obtain ⟨T112, q111, e⟩ := xbnd e
    obtain ⟨M113, q114, h115⟩ := h.pl (by decide) (by decide) (xiN_of _) q111
    refine xok_eqb q114 ?_
    exact t2_36  hS  h115  e
-- ChangeHouse$Formula.readsAny
theorem t3_27 {m f : Nat} {M0 M : xj_M} {T : xT_} (hS : xHS f)   (h : xCX m M0 M T) {y0 : Int} {R : Int × xT_} (ty0 : xin y0) (e : c3_27  f y0 T = some R) : xok (f3_27  f y0 M) (fun r => r.1 = R.1 ∧ xCX m M0 r.2 R.2 ∧ xin R.1) := by
  unfold c3_27 at e
  unfold f3_27
  refine xok_ite (fun c101 => ?_) (fun c101 => ?_)
  · rw [if_pos c101] at e; cases e; exact ⟨_, rfl, rfl, h, ty0⟩
  · rw [if_neg c101] at e; cases e
theorem t3_22 {m f : Nat} {M0 M : xj_M} {T : xT_} (hS : xHS f)   (h : xCX m M0 M T)  {R : Int × xT_}  (e : c3_22  f  T = some R) : xok (f3_22  f  M) (fun r => r.1 = R.1 ∧ xCX m M0 r.2 R.2 ∧ xin R.1) := by
  unfold c3_22 at e
  unfold f3_22
  exact t3_27  hS  h (show xin (1) by decide) e
theorem t3 {m f : Nat} {M0 M : xj_M} {T : xT_} (hS : xHS f) (h : xCX m M0 M T) {a0 : Nat} {a1 : Int} {a2 : Int} {R : Int × xT_} (ta1 : xiN a1) (ta2 : xiN a2) (e : c3 f a0 a1 a2 T = some R) : xok (f3 f a0 a1 a2 M) (fun r => r.1 = R.1 ∧ xCX m M0 r.2 R.2 ∧ xin R.1) := by
  unfold c3 at e
  unfold f3
  obtain ⟨v102, q103, e⟩ := xbnd e
  refine xok_eqb (h.gl (by decide) (by decide) q103).1 ?_
  refine xok_ite (fun c104 => ?_) (fun c104 => ?_)
  · rw [if_pos c104] at e
    exact t3_22  hS  h  e
  · rw [if_neg c104] at e
    obtain ⟨v105, q106, e⟩ := xbnd e
    refine xok_eqb (h.gl (by decide) (by decide) q106).1 ?_
    refine xok_ite (fun c107 => ?_) (fun c107 => ?_)
    · rw [if_pos c107] at e
      exact t3_27  hS  h (show xin (0) by decide) e
    · rw [if_neg c107] at e
      exact t3_22  hS  h  e
-- ChangeHouse$Line.<init>
theorem t4 {m f : Nat} {M0 M : xj_M} {T : xT_} (hS : xHS f) (h : xCX m M0 M T) {a0 : Nat} {a1 : Nat} {R : xT_}  (e : c4 f a0 a1 T = some R) : xok (f4 f a0 a1 M) (fun r => xCX m M0 r R) := by
  unfold c4 at e
  unfold f4
  obtain ⟨_, q101, e⟩ := xbnd e
  refine xok_eqb q101 ?_
  obtain ⟨p102, q103, e⟩ := xbnd e
  obtain ⟨M104, q105, h106⟩ := h.an q103
  refine xok_eqb q105 ?_
  dsimp only
  obtain ⟨T108, q107, e⟩ := xbnd e
  obtain ⟨M109, q110, h111⟩ := h106.pr (by decide) (by decide)  q107
  refine xok_eqb q110 ?_
  obtain ⟨T113, q112, e⟩ := xbnd e
  obtain ⟨M114, q115, h116⟩ := h111.pi (by decide) (by decide) (show xin (-1) by decide) q112
  refine xok_eqb q115 ?_
  obtain ⟨p117, q118, e⟩ := xbnd e
  obtain ⟨M119, q120, h121⟩ := h116.na (by decide) q118
  refine xok_eqb q120 ?_
  dsimp only
  obtain ⟨T123, q122, e⟩ := xbnd e
  obtain ⟨M124, q125, h126⟩ := h121.pr (by decide) (by decide)  q122
  refine xok_eqb q125 ?_
  obtain ⟨p127, q128, e⟩ := xbnd e
  obtain ⟨M129, q130, h131⟩ := h126.na (by decide) q128
  refine xok_eqb q130 ?_
  dsimp only
  obtain ⟨T133, q132, e⟩ := xbnd e
  obtain ⟨M134, q135, h136⟩ := h131.pr (by decide) (by decide)  q132
  refine xok_eqb q135 ?_
  obtain ⟨p137, q138, e⟩ := xbnd e
  obtain ⟨M139, q140, h141⟩ := h136.na (by decide) q138
  refine xok_eqb q140 ?_
  dsimp only
  obtain ⟨T143, q142, e⟩ := xbnd e
  obtain ⟨M144, q145, h146⟩ := h141.pr (by decide) (by decide)  q142
  refine xok_eqb q145 ?_
  obtain ⟨p147, q148, e⟩ := xbnd e
  obtain ⟨M149, q150, h151⟩ := h146.na (by decide) q148
  refine xok_eqb q150 ?_
  dsimp only
  obtain ⟨T153, q152, e⟩ := xbnd e
  obtain ⟨M154, q155, h156⟩ := h151.pr (by decide) (by decide)  q152
  refine xok_eqb q155 ?_
  obtain ⟨p157, q158, e⟩ := xbnd e
  obtain ⟨M159, q160, h161⟩ := h156.na (by decide) q158
  refine xok_eqb q160 ?_
  dsimp only
  obtain ⟨T163, q162, e⟩ := xbnd e
  obtain ⟨M164, q165, h166⟩ := h161.pr (by decide) (by decide)  q162
  refine xok_eqb q165 ?_
  obtain ⟨p167, q168, e⟩ := xbnd e
  obtain ⟨M169, q170, h171⟩ := h166.na (by decide) q168
  refine xok_eqb q170 ?_
  dsimp only
  obtain ⟨T173, q172, e⟩ := xbnd e
  obtain ⟨M174, q175, h176⟩ := h171.pr (by decide) (by decide)  q172
  refine xok_eqb q175 ?_
  obtain ⟨p177, q178, e⟩ := xbnd e
  obtain ⟨M179, q180, h181⟩ := h176.an q178
  refine xok_eqb q180 ?_
  dsimp only
  obtain ⟨T183, q182, e⟩ := xbnd e
  obtain ⟨M184, q185, h186⟩ := h181.pr (by decide) (by decide)  q182
  refine xok_eqb q185 ?_
  obtain ⟨v187, q188, e⟩ := xbnd e
  refine xok_eqb (h186.gr (by decide) (by decide) q188) ?_
  obtain ⟨T190, q189, e⟩ := xbnd e
  obtain ⟨M191, q192, h193⟩ := h186.sr  q189
  refine xok_eqb q192 ?_
  cases e
  exact ⟨_, rfl, h193⟩
-- ChangeHouse$Line.present
theorem t5 {m f : Nat} {M0 M : xj_M} {T : xT_} (hS : xHS f) (h : xCX m M0 M T) {a0 : Nat} {R : Nat × xT_}  (e : c5 f a0 T = some R) : xok (f5 f a0 M) (fun r => r.1 = R.1 ∧ xCX m M0 r.2 R.2) := by
  unfold c5 at e
  unfold f5
  obtain ⟨v101, q102, e⟩ := xbnd e
  refine xok_eqb (h.gr (by decide) (by decide) q102) ?_
  obtain ⟨v103, q104, e⟩ := xbnd e
  refine xok_eqb (h.gi (by decide) (by decide) q104).1 ?_
  obtain ⟨v105, q106, e⟩ := xbnd e
  refine xok_eqb (h.ar q106) ?_
  cases e
  exact ⟨_, rfl, rfl, h⟩
-- ChangeHouse$Line.isPast
theorem t6_21 {m f : Nat} {M0 M : xj_M} {T : xT_} (hS : xHS f)   (h : xCX m M0 M T) {y0 : Int} {R : Int × xT_} (ty0 : xin y0) (e : c6_21  f y0 T = some R) : xok (f6_21  f y0 M) (fun r => r.1 = R.1 ∧ xCX m M0 r.2 R.2 ∧ xin R.1) := by
  unfold c6_21 at e
  unfold f6_21
  refine xok_ite (fun c101 => ?_) (fun c101 => ?_)
  · rw [if_pos c101] at e; cases e; exact ⟨_, rfl, rfl, h, ty0⟩
  · rw [if_neg c101] at e; cases e
theorem t6_20 {m f : Nat} {M0 M : xj_M} {T : xT_} (hS : xHS f)   (h : xCX m M0 M T)  {R : Int × xT_}  (e : c6_20  f  T = some R) : xok (f6_20  f  M) (fun r => r.1 = R.1 ∧ xCX m M0 r.2 R.2 ∧ xin R.1) := by
  unfold c6_20 at e
  unfold f6_20
  exact t6_21  hS  h (show xin (0) by decide) e
theorem t6 {m f : Nat} {M0 M : xj_M} {T : xT_} (hS : xHS f) (h : xCX m M0 M T) {a0 : Nat} {a1 : Int} {R : Int × xT_} (ta1 : xin a1) (e : c6 f a0 a1 T = some R) : xok (f6 f a0 a1 M) (fun r => r.1 = R.1 ∧ xCX m M0 r.2 R.2 ∧ xin R.1) := by
  unfold c6 at e
  unfold f6
  obtain ⟨v102, q103, e⟩ := xbnd e
  refine xok_eqb (h.gi (by decide) (by decide) q103).1 ?_
  refine xok_ite (fun c104 => ?_) (fun c104 => ?_)
  · rw [if_pos c104] at e
    exact t6_20  hS  h  e
  · rw [if_neg c104] at e
    obtain ⟨v105, q106, e⟩ := xbnd e
    refine xok_eqb (h.gi (by decide) (by decide) q106).1 ?_
    refine xok_ite (fun c107 => ?_) (fun c107 => ?_)
    · rw [if_pos c107] at e
      exact t6_20  hS  h  e
    · rw [if_neg c107] at e
      exact t6_21  hS  h (show xin (1) by decide) e
-- ChangeHouse$Line.emptyPending
theorem t7_12b {m f : Nat} {M0 M : xj_M} {T : xT_} (hS : xHS f) {r12 : Nat → Int → xT_ → Option (xT_)} {o12 : Nat → Int → xj_M → Option (xj_M)} (hr12 : ∀ {M : xj_M} {T : xT_} {x0 : Nat} {x1 : Int} {R : xT_}, xCX m M0 M T → xin x1 → r12 x0 x1 T = some R → xok (o12 x0 x1 M) (fun r => xCX m M0 r R)) (h : xCX m M0 M T) {x0 : Nat} {x1 : Int} {R : xT_} (tx1 : xin x1) (e : c7_12b r12 f x0 x1 T = some R) : xok (f7_12b o12 f x0 x1 M) (fun r => xCX m M0 r R) := by
  unfold c7_12b at e
  unfold f7_12b
  refine xok_ite (fun c101 => ?_) (fun c101 => ?_)
  · rw [if_pos c101] at e
    cases e
    exact ⟨_, rfl, h⟩
  · rw [if_neg c101] at e
    obtain ⟨v102, q103, e⟩ := xbnd e
    refine xok_eqb (h.gr (by decide) (by decide) q103) ?_
    obtain ⟨T105, q104, e⟩ := xbnd e
    obtain ⟨M106, q107, h108⟩ := h.sb  q104
    refine xok_eqb q107 ?_
    obtain ⟨v109, q110, e⟩ := xbnd e
    refine xok_eqb (h108.gr (by decide) (by decide) q110) ?_
    obtain ⟨T112, q111, e⟩ := xbnd e
    obtain ⟨M113, q114, h115⟩ := h108.sr  q111
    refine xok_eqb q114 ?_
    exact hr12 h115 (xin_wr _) e
theorem t7_12 {m f : Nat} {M0 : xj_M} (hS : xHS f)   : ∀ {n : Nat} {M : xj_M} {T : xT_} {x0 : Nat} {x1 : Int} {R : xT_}, xCX m M0 M T → xin x1 → c7_12  f n x0 x1 T = some R → xok (f7_12  f n x0 x1 M) (fun r => xCX m M0 r R) := by
  intro n
  induction n with
  | zero => intros; rename_i e; cases e
  | succ n ih =>
    intros
    rename_i h i0 e
    exact t7_12b hS  @ih h i0 e
theorem t7 {m f : Nat} {M0 M : xj_M} {T : xT_} (hS : xHS f) (h : xCX m M0 M T) {a0 : Nat} {R : xT_}  (e : c7 f a0 T = some R) : xok (f7 f a0 M) (fun r => xCX m M0 r R) := by
  unfold c7 at e
  unfold f7
  obtain ⟨T117, q116, e⟩ := xbnd e
  obtain ⟨M118, q119, h120⟩ := h.pr (by decide) (by decide)  q116
  refine xok_eqb q119 ?_
  obtain ⟨T122, q121, e⟩ := xbnd e
  obtain ⟨M123, q124, h125⟩ := h120.pi (by decide) (by decide) (show xin (0) by decide) q121
  refine xok_eqb q124 ?_
  exact t7_12  hS  h125 (show xin (0) by decide) e
-- ChangeHouse$Line.addChange
theorem t8_58 {m f : Nat} {M0 M : xj_M} {T : xT_} (hS : xHS f)   (h : xCX m M0 M T)  {R : xT_}  (e : c8_58  f  T = some R) : xok (f8_58  f  M) (fun r => xCX m M0 r R) := by
  unfold c8_58 at e
  unfold f8_58
  cases e
  exact ⟨_, rfl, h⟩
theorem t8 {m f : Nat} {M0 M : xj_M} {T : xT_} (hS : xHS f) (h : xCX m M0 M T) {a0 : Nat} {a1 : Int} {a2 : Int} {a3 : Nat} {a4 : Int} {a5 : Int} {R : xT_} (ta1 : xin a1) (ta2 : xin a2) (ta4 : xin a4) (ta5 : xin a5) (e : c8 f a0 a1 a2 a3 a4 a5 T = some R) : xok (f8 f a0 a1 a2 a3 a4 a5 M) (fun r => xCX m M0 r R) := by
  unfold c8 at e
  unfold f8
  obtain ⟨v101, q102, e⟩ := xbnd e
  refine xok_eqb (h.gi (by decide) (by decide) q102).1 ?_
  refine xok_ite (fun c103 => ?_) (fun c103 => ?_)
  · rw [if_pos c103] at e
    exact t8_58  hS  h  e
  · rw [if_neg c103] at e
    obtain ⟨v104, q105, e⟩ := xbnd e
    refine xok_eqb (h.gr (by decide) (by decide) q105) ?_
    obtain ⟨v106, q107, e⟩ := xbnd e
    refine xok_eqb (h.gi (by decide) (by decide) q107).1 ?_
    obtain ⟨T109, q108, e⟩ := xbnd e
    obtain ⟨M110, q111, h112⟩ := h.si ta1 q108
    refine xok_eqb q111 ?_
    obtain ⟨v113, q114, e⟩ := xbnd e
    refine xok_eqb (h112.gr (by decide) (by decide) q114) ?_
    obtain ⟨v115, q116, e⟩ := xbnd e
    refine xok_eqb (h112.gi (by decide) (by decide) q116).1 ?_
    obtain ⟨T118, q117, e⟩ := xbnd e
    obtain ⟨M119, q120, h121⟩ := h112.sb  q117
    refine xok_eqb q120 ?_
    obtain ⟨v122, q123, e⟩ := xbnd e
    refine xok_eqb (h121.gr (by decide) (by decide) q123) ?_
    obtain ⟨v124, q125, e⟩ := xbnd e
    refine xok_eqb (h121.gi (by decide) (by decide) q125).1 ?_
    obtain ⟨T127, q126, e⟩ := xbnd e
    obtain ⟨M128, q129, h130⟩ := h121.cp q126
    refine xok_eqb q129 ?_
    obtain ⟨v131, q132, e⟩ := xbnd e
    refine xok_eqb (h130.gi (by decide) (by decide) q132).1 ?_
    obtain ⟨T134, q133, e⟩ := xbnd e
    obtain ⟨M135, q136, h137⟩ := h130.pi (by decide) (by decide) (xin_wr _) q133
    refine xok_eqb q136 ?_
    exact t8_58  hS  h137  e
-- ChangeHouse$Line.countWorked
theorem t10_27 {m f : Nat} {M0 M : xj_M} {T : xT_} (hS : xHS f) {r2 : Nat → Int → Int → Int → xT_ → Option (xT_)} {o2 : Nat → Int → Int → Int → xj_M → Option (xj_M)} (hr2 : ∀ {M : xj_M} {T : xT_} {x0 : Nat} {x1 : Int} {x2 : Int} {x3 : Int} {R : xT_}, xCX m M0 M T → xin x1 → xin x2 → xin x3 → r2 x0 x1 x2 x3 T = some R → xok (o2 x0 x1 x2 x3 M) (fun r => xCX m M0 r R)) (h : xCX m M0 M T) {x0 : Nat} {x1 : Int} {x2 : Int} {x3 : Int} {y0 : Int} {y1 : Int} {y2 : Nat} {R : xT_} (tx1 : xin x1) (tx2 : xin x2) (tx3 : xin x3) (ty0 : xin y0) (ty1 : xin y1) (e : c10_27 r2 f x0 x1 x2 x3 y0 y1 y2 T = some R) : xok (f10_27 o2 f x0 x1 x2 x3 y0 y1 y2 M) (fun r => xCX m M0 r R) := by
  unfold c10_27 at e
  unfold f10_27
  obtain ⟨T102, q101, e⟩ := xbnd e
  obtain ⟨M103, q104, h105⟩ := h.si (xin_wr _) q101
  refine xok_eqb q104 ?_
  exact hr2 h105 tx1 tx2 (xin_wr _) e
theorem t10_2b {m f : Nat} {M0 M : xj_M} {T : xT_} (hS : xHS f) {r2 : Nat → Int → Int → Int → xT_ → Option (xT_)} {o2 : Nat → Int → Int → Int → xj_M → Option (xj_M)} (hr2 : ∀ {M : xj_M} {T : xT_} {x0 : Nat} {x1 : Int} {x2 : Int} {x3 : Int} {R : xT_}, xCX m M0 M T → xin x1 → xin x2 → xin x3 → r2 x0 x1 x2 x3 T = some R → xok (o2 x0 x1 x2 x3 M) (fun r => xCX m M0 r R)) (h : xCX m M0 M T) {x0 : Nat} {x1 : Int} {x2 : Int} {x3 : Int} {R : xT_} (tx1 : xin x1) (tx2 : xin x2) (tx3 : xin x3) (e : c10_2b r2 f x0 x1 x2 x3 T = some R) : xok (f10_2b o2 f x0 x1 x2 x3 M) (fun r => xCX m M0 r R) := by
  unfold c10_2b at e
  unfold f10_2b
  refine xok_ite (fun c106 => ?_) (fun c106 => ?_)
  · rw [if_pos c106] at e
    cases e
    exact ⟨_, rfl, h⟩
  · rw [if_neg c106] at e
    obtain ⟨v107, q108, e⟩ := xbnd e
    refine xok_eqb (h.gr (by decide) (by decide) q108) ?_
    refine xok_ite (fun c109 => ?_) (fun c109 => ?_)
    · rw [if_pos c109] at e
      obtain ⟨v110, q111, e⟩ := xbnd e
      refine xok_eqb (h.gr (by decide) (by decide) q111) ?_
      obtain ⟨v112, q113, e⟩ := xbnd e
      refine xok_eqb (h.ai (by decide) q113).1 ?_
      exact t10_27 (r2 := r2) (o2 := o2) hS @hr2 h tx1 tx2 tx3 (h.ai (by decide) q113).2 tx3 e
    · rw [if_neg c109] at e
      exact t10_27 (r2 := r2) (o2 := o2) hS @hr2 h tx1 tx2 tx3 (show xin (0) by decide) tx3 e
theorem t10_2 {m f : Nat} {M0 : xj_M} (hS : xHS f)   : ∀ {n : Nat} {M : xj_M} {T : xT_} {x0 : Nat} {x1 : Int} {x2 : Int} {x3 : Int} {R : xT_}, xCX m M0 M T → xin x1 → xin x2 → xin x3 → c10_2  f n x0 x1 x2 x3 T = some R → xok (f10_2  f n x0 x1 x2 x3 M) (fun r => xCX m M0 r R) := by
  intro n
  induction n with
  | zero => intros; rename_i e; cases e
  | succ n ih =>
    intros
    rename_i h i0 i1 i2 e
    exact t10_2b hS  @ih h i0 i1 i2 e
theorem t10 {m f : Nat} {M0 M : xj_M} {T : xT_} (hS : xHS f) (h : xCX m M0 M T) {a0 : Nat} {a1 : Int} {a2 : Int} {R : xT_} (ta1 : xin a1) (ta2 : xin a2) (e : c10 f a0 a1 a2 T = some R) : xok (f10 f a0 a1 a2 M) (fun r => xCX m M0 r R) := by
  unfold c10 at e
  unfold f10
  exact t10_2  hS  h ta1 ta2 (show xin (0) by decide) e
-- ChangeHouse$Line.append
theorem t11_124 {m f : Nat} {M0 M : xj_M} {T : xT_} (hS : xHS f)   (h : xCX m M0 M T) {x0 : Nat} {x5 : Int} {R : xT_} (tx5 : xin x5) (e : c11_124  f x0 x5 T = some R) : xok (f11_124  f x0 x5 M) (fun r => xCX m M0 r R) := by
  unfold c11_124 at e
  unfold f11_124
  obtain ⟨T102, q101, e⟩ := xbnd e
  obtain ⟨M103, q104, h105⟩ := h.pi (by decide) (by decide) tx5 q101
  refine xok_eqb q104 ?_
  cases e
  exact ⟨_, rfl, h105⟩
theorem t11_39b {m f : Nat} {M0 M : xj_M} {T : xT_} (hS : xHS f) {r39 : Nat → Int → Int → Int → Int → Int → xT_ → Option (xT_)} {o39 : Nat → Int → Int → Int → Int → Int → xj_M → Option (xj_M)} (hr39 : ∀ {M : xj_M} {T : xT_} {x0 : Nat} {x2 : Int} {x3 : Int} {x4 : Int} {x5 : Int} {x6 : Int} {R : xT_}, xCX m M0 M T → xin x2 → xin x3 → xin x4 → xin x5 → xin x6 → r39 x0 x2 x3 x4 x5 x6 T = some R → xok (o39 x0 x2 x3 x4 x5 x6 M) (fun r => xCX m M0 r R)) (h : xCX m M0 M T) {x0 : Nat} {x2 : Int} {x3 : Int} {x4 : Int} {x5 : Int} {x6 : Int} {R : xT_} (tx2 : xin x2) (tx3 : xin x3) (tx4 : xin x4) (tx5 : xin x5) (tx6 : xin x6) (e : c11_39b r39 f x0 x2 x3 x4 x5 x6 T = some R) : xok (f11_39b o39 f x0 x2 x3 x4 x5 x6 M) (fun r => xCX m M0 r R) := by
  unfold c11_39b at e
  unfold f11_39b
  obtain ⟨v106, q107, e⟩ := xbnd e
  refine xok_eqb (h.gi (by decide) (by decide) q107).1 ?_
  refine xok_ite (fun c108 => ?_) (fun c108 => ?_)
  · rw [if_pos c108] at e
    exact t11_124  hS  h tx5 e
  · rw [if_neg c108] at e
    obtain ⟨v109, q110, e⟩ := xbnd e
    refine xok_eqb (h.gr (by decide) (by decide) q110) ?_
    obtain ⟨v111, q112, e⟩ := xbnd e
    refine xok_eqb (h.ar q112) ?_
    obtain ⟨v113, q114, e⟩ := xbnd e
    refine xok_eqb (h.gi (by decide) (by decide) q114).1 ?_
    obtain ⟨v115, q116, e⟩ := xbnd e
    refine xok_eqb (h.gr (by decide) (by decide) q116) ?_
    obtain ⟨v117, q118, e⟩ := xbnd e
    refine xok_eqb (h.ar q118) ?_
    obtain ⟨v119, q120, e⟩ := xbnd e
    refine xok_eqb (h.gi (by decide) (by decide) q120).1 ?_
    obtain ⟨v121, q122, e⟩ := xbnd e
    refine xok_eqb (h.gr (by decide) (by decide) q122) ?_
    obtain ⟨v123, q124, e⟩ := xbnd e
    refine xok_eqb (h.ar q124) ?_
    obtain ⟨v125, q126, e⟩ := xbnd e
    refine xok_eqb (h.gi (by decide) (by decide) q126).1 ?_
    refine xok_ite (fun c127 => ?_) (fun c127 => ?_)
    · rw [if_pos c127] at e
      exact t11_124  hS  h tx5 e
    · rw [if_neg c127] at e
      refine xok_ite (fun c128 => ?_) (fun c128 => ?_)
      · rw [if_pos c128] at e
        exact t11_124  hS  h tx5 e
      · rw [if_neg c128] at e
        refine xok_ite (fun c129 => ?_) (fun c129 => ?_)
        · rw [if_pos c129] at e
          exact hr39 h (xin_wr _) (xin_wr _) (xin_wr _) (xin_wr _) (xin_wr _) e
        · rw [if_neg c129] at e
          exact t11_124  hS  h tx5 e
theorem t11_39 {m f : Nat} {M0 : xj_M} (hS : xHS f)   : ∀ {n : Nat} {M : xj_M} {T : xT_} {x0 : Nat} {x2 : Int} {x3 : Int} {x4 : Int} {x5 : Int} {x6 : Int} {R : xT_}, xCX m M0 M T → xin x2 → xin x3 → xin x4 → xin x5 → xin x6 → c11_39  f n x0 x2 x3 x4 x5 x6 T = some R → xok (f11_39  f n x0 x2 x3 x4 x5 x6 M) (fun r => xCX m M0 r R) := by
  intro n
  induction n with
  | zero => intros; rename_i e; cases e
  | succ n ih =>
    intros
    rename_i h i0 i1 i2 i3 i4 e
    exact t11_39b hS  @ih h i0 i1 i2 i3 i4 e
theorem t11 {m f : Nat} {M0 M : xj_M} {T : xT_} (hS : xHS f) (h : xCX m M0 M T) {a0 : Nat} {a1 : Nat} {R : xT_}  (e : c11 f a0 a1 T = some R) : xok (f11 f a0 a1 M) (fun r => xCX m M0 r R) := by
  unfold c11 at e
  unfold f11
  obtain ⟨v130, q131, e⟩ := xbnd e
  refine xok_eqb (h.gi (by decide) (by decide) q131).1 ?_
  obtain ⟨T133, q132, e⟩ := xbnd e
  obtain ⟨M134, q135, h136⟩ := h.pi (by decide) (by decide) (xin_wr _) q132
  refine xok_eqb q135 ?_
  obtain ⟨v137, q138, e⟩ := xbnd e
  refine xok_eqb (h136.gr (by decide) (by decide) q138) ?_
  obtain ⟨v139, q140, e⟩ := xbnd e
  refine xok_eqb (h136.gi (by decide) (by decide) q140).1 ?_
  obtain ⟨T142, q141, e⟩ := xbnd e
  obtain ⟨M143, q144, h145⟩ := h136.sr  q141
  refine xok_eqb q144 ?_
  obtain ⟨v146, q147, e⟩ := xbnd e
  refine xok_eqb (h145.gi (by decide) (by decide) q147).1 ?_
  obtain ⟨v148, q149, e⟩ := xbnd e
  refine xok_eqb (h145.gi (by decide) (by decide) q149).1 ?_
  exact t11_39  hS  h145 (show xin (0) by decide) (show xin (0) by decide) (show xin (0) by decide) (h145.gi (by decide) (by decide) q147).2 (h145.gi (by decide) (by decide) q149).2 e
-- ChangeHouse$Moment.<init>
theorem t14 {m f : Nat} {M0 M : xj_M} {T : xT_} (hS : xHS f) (h : xCX m M0 M T) {a0 : Nat} {a1 : Nat} {a2 : Nat} {R : xT_}  (e : c14 f a0 a1 a2 T = some R) : xok (f14 f a0 a1 a2 M) (fun r => xCX m M0 r R) := by
  unfold c14 at e
  unfold f14
  obtain ⟨_, q101, e⟩ := xbnd e
  refine xok_eqb q101 ?_
  obtain ⟨T103, q102, e⟩ := xbnd e
  obtain ⟨M104, q105, h106⟩ := h.pr (by decide) (by decide)  q102
  refine xok_eqb q105 ?_
  obtain ⟨T108, q107, e⟩ := xbnd e
  obtain ⟨M109, q110, h111⟩ := h106.pr (by decide) (by decide)  q107
  refine xok_eqb q110 ?_
  cases e
  exact ⟨_, rfl, h111⟩
-- ChangeHouse$Moment.has
theorem t15_54 {m f : Nat} {M0 M : xj_M} {T : xT_} (hS : xHS f)   (h : xCX m M0 M T) {y0 : Int} {R : Int × xT_} (ty0 : xin y0) (e : c15_54  f y0 T = some R) : xok (f15_54  f y0 M) (fun r => r.1 = R.1 ∧ xCX m M0 r.2 R.2 ∧ xin R.1) := by
  unfold c15_54 at e
  unfold f15_54
  refine xok_ite (fun c101 => ?_) (fun c101 => ?_)
  · rw [if_pos c101] at e; cases e; exact ⟨_, rfl, rfl, h, ty0⟩
  · rw [if_neg c101] at e; cases e
theorem t15_53 {m f : Nat} {M0 M : xj_M} {T : xT_} (hS : xHS f)   (h : xCX m M0 M T)  {R : Int × xT_}  (e : c15_53  f  T = some R) : xok (f15_53  f  M) (fun r => r.1 = R.1 ∧ xCX m M0 r.2 R.2 ∧ xin R.1) := by
  unfold c15_53 at e
  unfold f15_53
  exact t15_54  hS  h (show xin (0) by decide) e
theorem t15 {m f : Nat} {M0 M : xj_M} {T : xT_} (hS : xHS f) (h : xCX m M0 M T) {a0 : Nat} {a1 : Int} {a2 : Int} {a3 : Int} {R : Int × xT_} (ta1 : xin a1) (ta2 : xin a2) (ta3 : xin a3) (e : c15 f a0 a1 a2 a3 T = some R) : xok (f15 f a0 a1 a2 a3 M) (fun r => r.1 = R.1 ∧ xCX m M0 r.2 R.2 ∧ xin R.1) := by
  unfold c15 at e
  unfold f15
  refine xok_ite (fun c102 => ?_) (fun c102 => ?_)
  · rw [if_pos c102] at e
    exact t15_53  hS  h  e
  · rw [if_neg c102] at e
    obtain ⟨v103, q104, e⟩ := xbnd e
    refine xok_eqb (h.gr (by decide) (by decide) q104) ?_
    obtain ⟨v105, q106, e⟩ := xbnd e
    refine xok_eqb (h.gi (by decide) (by decide) q106).1 ?_
    refine xok_ite (fun c107 => ?_) (fun c107 => ?_)
    · rw [if_pos c107] at e
      exact t15_53  hS  h  e
    · rw [if_neg c107] at e
      refine xok_ite (fun c108 => ?_) (fun c108 => ?_)
      · rw [if_pos c108] at e
        exact t15_53  hS  h  e
      · rw [if_neg c108] at e
        obtain ⟨v109, q110, e⟩ := xbnd e
        refine xok_eqb (h.gr (by decide) (by decide) q110) ?_
        obtain ⟨v111, q112, e⟩ := xbnd e
        refine xok_eqb (h.ar q112) ?_
        obtain ⟨v113, q114, e⟩ := xbnd e
        refine xok_eqb (h.gi (by decide) (by decide) q114).1 ?_
        refine xok_ite (fun c115 => ?_) (fun c115 => ?_)
        · rw [if_pos c115] at e
          exact t15_53  hS  h  e
        · rw [if_neg c115] at e
          refine xok_ite (fun c116 => ?_) (fun c116 => ?_)
          · rw [if_pos c116] at e
            exact t15_53  hS  h  e
          · rw [if_neg c116] at e
            obtain ⟨v117, q118, e⟩ := xbnd e
            refine xok_eqb (h.gr (by decide) (by decide) q118) ?_
            obtain ⟨v119, q120, e⟩ := xbnd e
            refine xok_eqb (h.gr (by decide) (by decide) q120) ?_
            obtain ⟨v121, q122, e⟩ := xbnd e
            refine xok_eqb (h.ai (by decide) q122).1 ?_
            refine xok_ite (fun c123 => ?_) (fun c123 => ?_)
            · rw [if_pos c123] at e
              exact t15_53  hS  h  e
            · rw [if_neg c123] at e
              exact t15_54  hS  h (show xin (1) by decide) e
-- ChangeHouse$Moment.rowsOfAll
theorem t16_4b {m f : Nat} {M0 M : xj_M} {T : xT_} (hS : xHS f) {r4 : Nat → Int → Int → xT_ → Option (Int × xT_)} {o4 : Nat → Int → Int → xj_M → Option (Int × xj_M)} (hr4 : ∀ {M : xj_M} {T : xT_} {x0 : Nat} {x1 : Int} {x2 : Int} {R : Int × xT_}, xCX m M0 M T → xin x1 → xin x2 → r4 x0 x1 x2 T = some R → xok (o4 x0 x1 x2 M) (fun r => r.1 = R.1 ∧ xCX m M0 r.2 R.2 ∧ xin R.1)) (h : xCX m M0 M T) {x0 : Nat} {x1 : Int} {x2 : Int} {R : Int × xT_} (tx1 : xin x1) (tx2 : xin x2) (e : c16_4b r4 f x0 x1 x2 T = some R) : xok (f16_4b o4 f x0 x1 x2 M) (fun r => r.1 = R.1 ∧ xCX m M0 r.2 R.2 ∧ xin R.1) := by
  unfold c16_4b at e
  unfold f16_4b
  obtain ⟨v101, q102, e⟩ := xbnd e
  refine xok_eqb (h.gr (by decide) (by decide) q102) ?_
  obtain ⟨v103, q104, e⟩ := xbnd e
  refine xok_eqb (h.gi (by decide) (by decide) q104).1 ?_
  refine xok_ite (fun c105 => ?_) (fun c105 => ?_)
  · rw [if_pos c105] at e
    cases e
    exact ⟨_, rfl, rfl, h, tx1⟩
  · rw [if_neg c105] at e
    obtain ⟨v106, q107, e⟩ := xbnd e
    refine xok_eqb (h.gr (by decide) (by decide) q107) ?_
    obtain ⟨v108, q109, e⟩ := xbnd e
    refine xok_eqb (h.ar q109) ?_
    obtain ⟨v110, q111, e⟩ := xbnd e
    refine xok_eqb (h.gi (by decide) (by decide) q111).1 ?_
    exact hr4 h (xin_wr _) (xin_wr _) e
theorem t16_4 {m f : Nat} {M0 : xj_M} (hS : xHS f)   : ∀ {n : Nat} {M : xj_M} {T : xT_} {x0 : Nat} {x1 : Int} {x2 : Int} {R : Int × xT_}, xCX m M0 M T → xin x1 → xin x2 → c16_4  f n x0 x1 x2 T = some R → xok (f16_4  f n x0 x1 x2 M) (fun r => r.1 = R.1 ∧ xCX m M0 r.2 R.2 ∧ xin R.1) := by
  intro n
  induction n with
  | zero => intros; rename_i e; cases e
  | succ n ih =>
    intros
    rename_i h i0 i1 e
    exact t16_4b hS  @ih h i0 i1 e
theorem t16 {m f : Nat} {M0 M : xj_M} {T : xT_} (hS : xHS f) (h : xCX m M0 M T) {a0 : Nat} {R : Int × xT_}  (e : c16 f a0 T = some R) : xok (f16 f a0 M) (fun r => r.1 = R.1 ∧ xCX m M0 r.2 R.2 ∧ xin R.1) := by
  unfold c16 at e
  unfold f16
  exact t16_4  hS  h (show xin (0) by decide) (show xin (0) by decide) e
-- ChangeHouse$Program.<init>
theorem t19 {m f : Nat} {M0 M : xj_M} {T : xT_} (hS : xHS f) (h : xCX m M0 M T) {a0 : Nat} {a1 : Int} {R : xT_} (ta1 : xin a1) (e : c19 f a0 a1 T = some R) : xok (f19 f a0 a1 M) (fun r => xCX m M0 r R) := by
  unfold c19 at e
  unfold f19
  obtain ⟨_, q101, e⟩ := xbnd e
  refine xok_eqb q101 ?_
  obtain ⟨p102, q103, e⟩ := xbnd e
  obtain ⟨M104, q105, h106⟩ := h.na (by decide) q103
  refine xok_eqb q105 ?_
  dsimp only
  obtain ⟨T108, q107, e⟩ := xbnd e
  obtain ⟨M109, q110, h111⟩ := h106.pr (by decide) (by decide)  q107
  refine xok_eqb q110 ?_
  obtain ⟨p112, q113, e⟩ := xbnd e
  obtain ⟨M114, q115, h116⟩ := h111.na (by decide) q113
  refine xok_eqb q115 ?_
  dsimp only
  obtain ⟨T118, q117, e⟩ := xbnd e
  obtain ⟨M119, q120, h121⟩ := h116.pr (by decide) (by decide)  q117
  refine xok_eqb q120 ?_
  obtain ⟨p122, q123, e⟩ := xbnd e
  obtain ⟨M124, q125, h126⟩ := h121.na (by decide) q123
  refine xok_eqb q125 ?_
  dsimp only
  obtain ⟨T128, q127, e⟩ := xbnd e
  obtain ⟨M129, q130, h131⟩ := h126.pr (by decide) (by decide)  q127
  refine xok_eqb q130 ?_
  obtain ⟨p132, q133, e⟩ := xbnd e
  obtain ⟨M134, q135, h136⟩ := h131.na (by decide) q133
  refine xok_eqb q135 ?_
  dsimp only
  obtain ⟨T138, q137, e⟩ := xbnd e
  obtain ⟨M139, q140, h141⟩ := h136.pr (by decide) (by decide)  q137
  refine xok_eqb q140 ?_
  obtain ⟨p142, q143, e⟩ := xbnd e
  obtain ⟨M144, q145, h146⟩ := h141.na (by decide) q143
  refine xok_eqb q145 ?_
  dsimp only
  obtain ⟨T148, q147, e⟩ := xbnd e
  obtain ⟨M149, q150, h151⟩ := h146.pr (by decide) (by decide)  q147
  refine xok_eqb q150 ?_
  obtain ⟨p152, q153, e⟩ := xbnd e
  obtain ⟨M154, q155, h156⟩ := h151.na (by decide) q153
  refine xok_eqb q155 ?_
  dsimp only
  obtain ⟨T158, q157, e⟩ := xbnd e
  obtain ⟨M159, q160, h161⟩ := h156.pr (by decide) (by decide)  q157
  refine xok_eqb q160 ?_
  obtain ⟨p162, q163, e⟩ := xbnd e
  obtain ⟨M164, q165, h166⟩ := h161.an q163
  refine xok_eqb q165 ?_
  dsimp only
  obtain ⟨T168, q167, e⟩ := xbnd e
  obtain ⟨M169, q170, h171⟩ := h166.pr (by decide) (by decide)  q167
  refine xok_eqb q170 ?_
  obtain ⟨p172, q173, e⟩ := xbnd e
  obtain ⟨M174, q175, h176⟩ := h171.na (by decide) q173
  refine xok_eqb q175 ?_
  dsimp only
  obtain ⟨T178, q177, e⟩ := xbnd e
  obtain ⟨M179, q180, h181⟩ := h176.pr (by decide) (by decide)  q177
  refine xok_eqb q180 ?_
  obtain ⟨p182, q183, e⟩ := xbnd e
  obtain ⟨M184, q185, h186⟩ := h181.na (by decide) q183
  refine xok_eqb q185 ?_
  dsimp only
  obtain ⟨T188, q187, e⟩ := xbnd e
  obtain ⟨M189, q190, h191⟩ := h186.pr (by decide) (by decide)  q187
  refine xok_eqb q190 ?_
  obtain ⟨p192, q193, e⟩ := xbnd e
  obtain ⟨M194, q195, h196⟩ := h191.na (by decide) q193
  refine xok_eqb q195 ?_
  dsimp only
  obtain ⟨T198, q197, e⟩ := xbnd e
  obtain ⟨M199, q200, h201⟩ := h196.pr (by decide) (by decide)  q197
  refine xok_eqb q200 ?_
  obtain ⟨T203, q202, e⟩ := xbnd e
  obtain ⟨M204, q205, h206⟩ := h201.pi (by decide) (by decide) ta1 q202
  refine xok_eqb q205 ?_
  cases e
  exact ⟨_, rfl, h206⟩
-- ChangeHouse$Program.find
theorem t20_2b {m f : Nat} {M0 M : xj_M} {T : xT_} (hS : xHS f) {r2 : Nat → Int → Int → xT_ → Option (Int × xT_)} {o2 : Nat → Int → Int → xj_M → Option (Int × xj_M)} (hr2 : ∀ {M : xj_M} {T : xT_} {x0 : Nat} {x1 : Int} {x3 : Int} {R : Int × xT_}, xCX m M0 M T → xiN x1 → xin x3 → r2 x0 x1 x3 T = some R → xok (o2 x0 x1 x3 M) (fun r => r.1 = R.1 ∧ xCX m M0 r.2 R.2 ∧ xin R.1)) (h : xCX m M0 M T) {x0 : Nat} {x1 : Int} {x3 : Int} {R : Int × xT_} (tx1 : xiN x1) (tx3 : xin x3) (e : c20_2b r2 f x0 x1 x3 T = some R) : xok (f20_2b o2 f x0 x1 x3 M) (fun r => r.1 = R.1 ∧ xCX m M0 r.2 R.2 ∧ xin R.1) := by
  unfold c20_2b at e
  unfold f20_2b
  obtain ⟨v101, q102, e⟩ := xbnd e
  refine xok_eqb (h.gi (by decide) (by decide) q102).1 ?_
  refine xok_ite (fun c103 => ?_) (fun c103 => ?_)
  · rw [if_pos c103] at e
    cases e
    exact ⟨_, rfl, rfl, h, (show xin (-1) by decide)⟩
  · rw [if_neg c103] at e
    obtain ⟨v104, q105, e⟩ := xbnd e
    refine xok_eqb (h.gr (by decide) (by decide) q105) ?_
    obtain ⟨v106, q107, e⟩ := xbnd e
    refine xok_eqb (h.al q107).1 ?_
    refine xok_ite (fun c108 => ?_) (fun c108 => ?_)
    · rw [if_pos c108] at e
      exact hr2 h tx1 (xin_wr _) e
    · rw [if_neg c108] at e
      cases e
      exact ⟨_, rfl, rfl, h, tx3⟩
theorem t20_2 {m f : Nat} {M0 : xj_M} (hS : xHS f)   : ∀ {n : Nat} {M : xj_M} {T : xT_} {x0 : Nat} {x1 : Int} {x3 : Int} {R : Int × xT_}, xCX m M0 M T → xiN x1 → xin x3 → c20_2  f n x0 x1 x3 T = some R → xok (f20_2  f n x0 x1 x3 M) (fun r => r.1 = R.1 ∧ xCX m M0 r.2 R.2 ∧ xin R.1) := by
  intro n
  induction n with
  | zero => intros; rename_i e; cases e
  | succ n ih =>
    intros
    rename_i h i0 i1 e
    exact t20_2b hS  @ih h i0 i1 e
theorem t20 {m f : Nat} {M0 M : xj_M} {T : xT_} (hS : xHS f) (h : xCX m M0 M T) {a0 : Nat} {a1 : Int} {R : Int × xT_} (ta1 : xiN a1) (e : c20 f a0 a1 T = some R) : xok (f20 f a0 a1 M) (fun r => r.1 = R.1 ∧ xCX m M0 r.2 R.2 ∧ xin R.1) := by
  unfold c20 at e
  unfold f20
  exact t20_2  hS  h ta1 (show xin (0) by decide) e
-- ChangeHouse$Program.like
theorem t21_36 {m f : Nat} {M0 M : xj_M} {T : xT_} (hS : xHS f)   (h : xCX m M0 M T) {y0 : Int} {R : Int × xT_} (ty0 : xin y0) (e : c21_36  f y0 T = some R) : xok (f21_36  f y0 M) (fun r => r.1 = R.1 ∧ xCX m M0 r.2 R.2 ∧ xin R.1) := by
  unfold c21_36 at e
  unfold f21_36
  cases e
  exact ⟨_, rfl, rfl, h, ty0⟩
theorem t21_35 {m f : Nat} {M0 M : xj_M} {T : xT_} (hS : xHS f)   (h : xCX m M0 M T)  {R : Int × xT_}  (e : c21_35  f  T = some R) : xok (f21_35  f  M) (fun r => r.1 = R.1 ∧ xCX m M0 r.2 R.2 ∧ xin R.1) := by
  unfold c21_35 at e
  unfold f21_35
  exact t21_36  hS  h (show xin (-1) by decide) e
theorem t21 {m f : Nat} {M0 M : xj_M} {T : xT_} (hS : xHS f) (h : xCX m M0 M T) {a0 : Nat} {a1 : Nat} {a2 : Int} {R : Int × xT_} (ta2 : xin a2) (e : c21 f a0 a1 a2 T = some R) : xok (f21 f a0 a1 a2 M) (fun r => r.1 = R.1 ∧ xCX m M0 r.2 R.2 ∧ xin R.1) := by
  unfold c21 at e
  unfold f21
  obtain ⟨v101, q102, e⟩ := xbnd e
  refine xok_eqb (h.gr (by decide) (by decide) q102) ?_
  obtain ⟨v103, q104, e⟩ := xbnd e
  refine xok_eqb (h.al q104).1 ?_
  obtain ⟨_, q110, e⟩ := xbnd e
  obtain ⟨R105, e106, e⟩ := xbnd e
  refine xok_eqb (h.is q110) ?_
  refine xok_call (t20 hS h (h.al q104).2 e106) ?_
  rintro ⟨v_, M107⟩ ⟨hv_, h108, hi109⟩
  cases hv_
  refine xok_ite (fun c111 => ?_) (fun c111 => ?_)
  · rw [if_pos c111] at e
    exact t21_35  hS  h108  e
  · rw [if_neg c111] at e
    obtain ⟨v112, q113, e⟩ := xbnd e
    refine xok_eqb (h108.gr (by decide) (by decide) q113) ?_
    obtain ⟨v114, q115, e⟩ := xbnd e
    refine xok_eqb (h108.ai (by decide) q115).1 ?_
    obtain ⟨v116, q117, e⟩ := xbnd e
    refine xok_eqb (h108.gr (by decide) (by decide) q117) ?_
    obtain ⟨v118, q119, e⟩ := xbnd e
    refine xok_eqb (h108.ai (by decide) q119).1 ?_
    refine xok_ite (fun c120 => ?_) (fun c120 => ?_)
    · rw [if_pos c120] at e
      exact t21_35  hS  h108  e
    · rw [if_neg c120] at e
      exact t21_36  hS  h108 hi109 e
-- ChangeHouse$Program.inputLike
theorem t22_26 {m f : Nat} {M0 M : xj_M} {T : xT_} (hS : xHS f)   (h : xCX m M0 M T) {y0 : Int} {R : Int × xT_} (ty0 : xin y0) (e : c22_26  f y0 T = some R) : xok (f22_26  f y0 M) (fun r => r.1 = R.1 ∧ xCX m M0 r.2 R.2 ∧ xin R.1) := by
  unfold c22_26 at e
  unfold f22_26
  cases e
  exact ⟨_, rfl, rfl, h, ty0⟩
theorem t22_25 {m f : Nat} {M0 M : xj_M} {T : xT_} (hS : xHS f)   (h : xCX m M0 M T)  {R : Int × xT_}  (e : c22_25  f  T = some R) : xok (f22_25  f  M) (fun r => r.1 = R.1 ∧ xCX m M0 r.2 R.2 ∧ xin R.1) := by
  unfold c22_25 at e
  unfold f22_25
  exact t22_26  hS  h (show xin (-1) by decide) e
theorem t22 {m f : Nat} {M0 M : xj_M} {T : xT_} (hS : xHS f) (h : xCX m M0 M T) {a0 : Nat} {a1 : Nat} {a2 : Int} {R : Int × xT_} (ta2 : xin a2) (e : c22 f a0 a1 a2 T = some R) : xok (f22 f a0 a1 a2 M) (fun r => r.1 = R.1 ∧ xCX m M0 r.2 R.2 ∧ xin R.1) := by
  unfold c22 at e
  unfold f22
  obtain ⟨_, q106, e⟩ := xbnd e
  obtain ⟨R101, e102, e⟩ := xbnd e
  refine xok_eqb (h.is q106) ?_
  refine xok_call (t21 hS h ta2 e102) ?_
  rintro ⟨v_, M103⟩ ⟨hv_, h104, hi105⟩
  cases hv_
  refine xok_ite (fun c107 => ?_) (fun c107 => ?_)
  · rw [if_pos c107] at e
    exact t22_25  hS  h104  e
  · rw [if_neg c107] at e
    obtain ⟨v108, q109, e⟩ := xbnd e
    refine xok_eqb (h104.gr (by decide) (by decide) q109) ?_
    obtain ⟨v110, q111, e⟩ := xbnd e
    refine xok_eqb (h104.ab q111).1 ?_
    refine xok_ite (fun c112 => ?_) (fun c112 => ?_)
    · rw [if_pos c112] at e
      exact t22_25  hS  h104  e
    · rw [if_neg c112] at e
      exact t22_26  hS  h104 hi105 e
-- ChangeHouse$Program.tellWidth
theorem t23_16 {m f : Nat} {M0 M : xj_M} {T : xT_} (hS : xHS f)   (h : xCX m M0 M T)  {R : xT_}  (e : c23_16  f  T = some R) : xok (f23_16  f  M) (fun r => xCX m M0 r R) := by
  unfold c23_16 at e
  unfold f23_16
  cases e
  exact ⟨_, rfl, h⟩
theorem t23 {m f : Nat} {M0 M : xj_M} {T : xT_} (hS : xHS f) (h : xCX m M0 M T) {a0 : Nat} {a1 : Int} {a2 : Int} {R : xT_} (ta1 : xin a1) (ta2 : xin a2) (e : c23 f a0 a1 a2 T = some R) : xok (f23 f a0 a1 a2 M) (fun r => xCX m M0 r R) := by
  unfold c23 at e
  unfold f23
  obtain ⟨v101, q102, e⟩ := xbnd e
  refine xok_eqb (h.gr (by decide) (by decide) q102) ?_
  obtain ⟨v103, q104, e⟩ := xbnd e
  refine xok_eqb (h.ai (by decide) q104).1 ?_
  refine xok_ite (fun c105 => ?_) (fun c105 => ?_)
  · rw [if_pos c105] at e
    exact t23_16  hS  h  e
  · rw [if_neg c105] at e
    obtain ⟨v106, q107, e⟩ := xbnd e
    refine xok_eqb (h.gr (by decide) (by decide) q107) ?_
    obtain ⟨T109, q108, e⟩ := xbnd e
    obtain ⟨M110, q111, h112⟩ := h.si ta2 q108
    refine xok_eqb q111 ?_
    exact t23_16  hS  h112  e
-- ChangeHouse$Program.membersOf
theorem t26_30 {m f : Nat} {M0 M : xj_M} {T : xT_} (hS : xHS f) {r4 : Nat → Int → Int → Int → xT_ → Option (Int × xT_)} {o4 : Nat → Int → Int → Int → xj_M → Option (Int × xj_M)} (hr4 : ∀ {M : xj_M} {T : xT_} {x0 : Nat} {x1 : Int} {x2 : Int} {x3 : Int} {R : Int × xT_}, xCX m M0 M T → xin x1 → xin x2 → xin x3 → r4 x0 x1 x2 x3 T = some R → xok (o4 x0 x1 x2 x3 M) (fun r => r.1 = R.1 ∧ xCX m M0 r.2 R.2 ∧ xin R.1)) (h : xCX m M0 M T) {x0 : Nat} {x1 : Int} {x3 : Int} {y0 : Int} {y1 : Int} {R : Int × xT_} (tx1 : xin x1) (tx3 : xin x3) (ty0 : xin y0) (ty1 : xin y1) (e : c26_30 r4 f x0 x1 x3 y0 y1 T = some R) : xok (f26_30 o4 f x0 x1 x3 y0 y1 M) (fun r => r.1 = R.1 ∧ xCX m M0 r.2 R.2 ∧ xin R.1) := by
  unfold c26_30 at e
  unfold f26_30
  exact hr4 h tx1 (xin_of _) (xin_wr _) e
theorem t26_4b {m f : Nat} {M0 M : xj_M} {T : xT_} (hS : xHS f) {r4 : Nat → Int → Int → Int → xT_ → Option (Int × xT_)} {o4 : Nat → Int → Int → Int → xj_M → Option (Int × xj_M)} (hr4 : ∀ {M : xj_M} {T : xT_} {x0 : Nat} {x1 : Int} {x2 : Int} {x3 : Int} {R : Int × xT_}, xCX m M0 M T → xin x1 → xin x2 → xin x3 → r4 x0 x1 x2 x3 T = some R → xok (o4 x0 x1 x2 x3 M) (fun r => r.1 = R.1 ∧ xCX m M0 r.2 R.2 ∧ xin R.1)) (h : xCX m M0 M T) {x0 : Nat} {x1 : Int} {x2 : Int} {x3 : Int} {R : Int × xT_} (tx1 : xin x1) (tx2 : xin x2) (tx3 : xin x3) (e : c26_4b r4 f x0 x1 x2 x3 T = some R) : xok (f26_4b o4 f x0 x1 x2 x3 M) (fun r => r.1 = R.1 ∧ xCX m M0 r.2 R.2 ∧ xin R.1) := by
  unfold c26_4b at e
  unfold f26_4b
  obtain ⟨v101, q102, e⟩ := xbnd e
  refine xok_eqb (h.gi (by decide) (by decide) q102).1 ?_
  refine xok_ite (fun c103 => ?_) (fun c103 => ?_)
  · rw [if_pos c103] at e
    cases e
    exact ⟨_, rfl, rfl, h, tx2⟩
  · rw [if_neg c103] at e
    obtain ⟨v104, q105, e⟩ := xbnd e
    refine xok_eqb (h.gr (by decide) (by decide) q105) ?_
    obtain ⟨v106, q107, e⟩ := xbnd e
    refine xok_eqb (h.ai (by decide) q107).1 ?_
    refine xok_ite (fun c108 => ?_) (fun c108 => ?_)
    · rw [if_pos c108] at e
      exact t26_30 (r4 := r4) (o4 := o4) hS @hr4 h tx1 tx3 (show xin (0) by decide) tx2 e
    · rw [if_neg c108] at e
      exact t26_30 (r4 := r4) (o4 := o4) hS @hr4 h tx1 tx3 (xin_of _) tx2 e
theorem t26_4 {m f : Nat} {M0 : xj_M} (hS : xHS f)   : ∀ {n : Nat} {M : xj_M} {T : xT_} {x0 : Nat} {x1 : Int} {x2 : Int} {x3 : Int} {R : Int × xT_}, xCX m M0 M T → xin x1 → xin x2 → xin x3 → c26_4  f n x0 x1 x2 x3 T = some R → xok (f26_4  f n x0 x1 x2 x3 M) (fun r => r.1 = R.1 ∧ xCX m M0 r.2 R.2 ∧ xin R.1) := by
  intro n
  induction n with
  | zero => intros; rename_i e; cases e
  | succ n ih =>
    intros
    rename_i h i0 i1 i2 e
    exact t26_4b hS  @ih h i0 i1 i2 e
theorem t26 {m f : Nat} {M0 M : xj_M} {T : xT_} (hS : xHS f) (h : xCX m M0 M T) {a0 : Nat} {a1 : Int} {R : Int × xT_} (ta1 : xin a1) (e : c26 f a0 a1 T = some R) : xok (f26 f a0 a1 M) (fun r => r.1 = R.1 ∧ xCX m M0 r.2 R.2 ∧ xin R.1) := by
  unfold c26 at e
  unfold f26
  exact t26_4  hS  h ta1 (show xin (0) by decide) (show xin (0) by decide) e
-- ChangeHouse$Program.readsOf
theorem t27_33 {m f : Nat} {M0 M : xj_M} {T : xT_} (hS : xHS f) {r4 : Nat → Int → Int → Int → xT_ → Option (Int × xT_)} {o4 : Nat → Int → Int → Int → xj_M → Option (Int × xj_M)} (hr4 : ∀ {M : xj_M} {T : xT_} {x0 : Nat} {x1 : Int} {x2 : Int} {x3 : Int} {R : Int × xT_}, xCX m M0 M T → xin x1 → xin x2 → xin x3 → r4 x0 x1 x2 x3 T = some R → xok (o4 x0 x1 x2 x3 M) (fun r => r.1 = R.1 ∧ xCX m M0 r.2 R.2 ∧ xin R.1)) (h : xCX m M0 M T) {x0 : Nat} {x1 : Int} {x3 : Int} {y0 : Int} {y1 : Int} {R : Int × xT_} (tx1 : xin x1) (tx3 : xin x3) (ty0 : xin y0) (ty1 : xin y1) (e : c27_33 r4 f x0 x1 x3 y0 y1 T = some R) : xok (f27_33 o4 f x0 x1 x3 y0 y1 M) (fun r => r.1 = R.1 ∧ xCX m M0 r.2 R.2 ∧ xin R.1) := by
  unfold c27_33 at e
  unfold f27_33
  exact hr4 h tx1 (xin_of _) (xin_wr _) e
theorem t27_4b {m f : Nat} {M0 M : xj_M} {T : xT_} (hS : xHS f) {r4 : Nat → Int → Int → Int → xT_ → Option (Int × xT_)} {o4 : Nat → Int → Int → Int → xj_M → Option (Int × xj_M)} (hr4 : ∀ {M : xj_M} {T : xT_} {x0 : Nat} {x1 : Int} {x2 : Int} {x3 : Int} {R : Int × xT_}, xCX m M0 M T → xin x1 → xin x2 → xin x3 → r4 x0 x1 x2 x3 T = some R → xok (o4 x0 x1 x2 x3 M) (fun r => r.1 = R.1 ∧ xCX m M0 r.2 R.2 ∧ xin R.1)) (h : xCX m M0 M T) {x0 : Nat} {x1 : Int} {x2 : Int} {x3 : Int} {R : Int × xT_} (tx1 : xin x1) (tx2 : xin x2) (tx3 : xin x3) (e : c27_4b r4 f x0 x1 x2 x3 T = some R) : xok (f27_4b o4 f x0 x1 x2 x3 M) (fun r => r.1 = R.1 ∧ xCX m M0 r.2 R.2 ∧ xin R.1) := by
  unfold c27_4b at e
  unfold f27_4b
  obtain ⟨v101, q102, e⟩ := xbnd e
  refine xok_eqb (h.gi (by decide) (by decide) q102).1 ?_
  refine xok_ite (fun c103 => ?_) (fun c103 => ?_)
  · rw [if_pos c103] at e
    obtain ⟨_, q109, e⟩ := xbnd e
    obtain ⟨R104, e105, e⟩ := xbnd e
    refine xok_eqb (h.is q109) ?_
    refine xok_call (t26 hS h tx1 e105) ?_
    rintro ⟨v_, M106⟩ ⟨hv_, h107, hi108⟩
    cases hv_
    cases e
    exact ⟨_, rfl, rfl, h107, (xin_of _)⟩
  · rw [if_neg c103] at e
    obtain ⟨v110, q111, e⟩ := xbnd e
    refine xok_eqb (h.gr (by decide) (by decide) q111) ?_
    obtain ⟨v112, q113, e⟩ := xbnd e
    refine xok_eqb (h.ai (by decide) q113).1 ?_
    refine xok_ite (fun c114 => ?_) (fun c114 => ?_)
    · rw [if_pos c114] at e
      exact t27_33 (r4 := r4) (o4 := o4) hS @hr4 h tx1 tx3 (show xin (0) by decide) tx2 e
    · rw [if_neg c114] at e
      obtain ⟨v115, q116, e⟩ := xbnd e
      refine xok_eqb (h.gr (by decide) (by decide) q116) ?_
      obtain ⟨v117, q118, e⟩ := xbnd e
      refine xok_eqb (h.ai (by decide) q118).1 ?_
      exact t27_33 (r4 := r4) (o4 := o4) hS @hr4 h tx1 tx3 (h.ai (by decide) q118).2 tx2 e
theorem t27_4 {m f : Nat} {M0 : xj_M} (hS : xHS f)   : ∀ {n : Nat} {M : xj_M} {T : xT_} {x0 : Nat} {x1 : Int} {x2 : Int} {x3 : Int} {R : Int × xT_}, xCX m M0 M T → xin x1 → xin x2 → xin x3 → c27_4  f n x0 x1 x2 x3 T = some R → xok (f27_4  f n x0 x1 x2 x3 M) (fun r => r.1 = R.1 ∧ xCX m M0 r.2 R.2 ∧ xin R.1) := by
  intro n
  induction n with
  | zero => intros; rename_i e; cases e
  | succ n ih =>
    intros
    rename_i h i0 i1 i2 e
    exact t27_4b hS  @ih h i0 i1 i2 e
theorem t27 {m f : Nat} {M0 M : xj_M} {T : xT_} (hS : xHS f) (h : xCX m M0 M T) {a0 : Nat} {a1 : Int} {R : Int × xT_} (ta1 : xin a1) (e : c27 f a0 a1 T = some R) : xok (f27 f a0 a1 M) (fun r => r.1 = R.1 ∧ xCX m M0 r.2 R.2 ∧ xin R.1) := by
  unfold c27 at e
  unfold f27
  exact t27_4  hS  h ta1 (show xin (0) by decide) (show xin (0) by decide) e
-- ChangeHouse$Program.ringFault
theorem t28_97 {m f : Nat} {M0 M : xj_M} {T : xT_} (hS : xHS f) {r2 : Nat → Int → xT_ → Option (Int × xT_)} {o2 : Nat → Int → xj_M → Option (Int × xj_M)} {r19 : Nat → Int → Nat → Int → xT_ → Option (Int × xT_)} {o19 : Nat → Int → Nat → Int → xj_M → Option (Int × xj_M)} (hr2 : ∀ {M : xj_M} {T : xT_} {x0 : Nat} {x1 : Int} {R : Int × xT_}, xCX m M0 M T → xin x1 → r2 x0 x1 T = some R → xok (o2 x0 x1 M) (fun r => r.1 = R.1 ∧ xCX m M0 r.2 R.2 ∧ xin R.1)) (hr19 : ∀ {M : xj_M} {T : xT_} {x0 : Nat} {x1 : Int} {x2 : Nat} {x3 : Int} {R : Int × xT_}, xCX m M0 M T → xin x1 → xin x3 → r19 x0 x1 x2 x3 T = some R → xok (o19 x0 x1 x2 x3 M) (fun r => r.1 = R.1 ∧ xCX m M0 r.2 R.2 ∧ xin R.1)) (h : xCX m M0 M T) {x0 : Nat} {x1 : Int} {x2 : Nat} {x3 : Int} {R : Int × xT_} (tx1 : xin x1) (tx3 : xin x3) (e : c28_97 r2 r19 f x0 x1 x2 x3 T = some R) : xok (f28_97 o2 o19 f x0 x1 x2 x3 M) (fun r => r.1 = R.1 ∧ xCX m M0 r.2 R.2 ∧ xin R.1) := by
  unfold c28_97 at e
  unfold f28_97
  exact hr19 h tx1 (xin_wr _) e
theorem t28_62 {m f : Nat} {M0 M : xj_M} {T : xT_} (hS : xHS f) {r2 : Nat → Int → xT_ → Option (Int × xT_)} {o2 : Nat → Int → xj_M → Option (Int × xj_M)} {r19 : Nat → Int → Nat → Int → xT_ → Option (Int × xT_)} {o19 : Nat → Int → Nat → Int → xj_M → Option (Int × xj_M)} (hr2 : ∀ {M : xj_M} {T : xT_} {x0 : Nat} {x1 : Int} {R : Int × xT_}, xCX m M0 M T → xin x1 → r2 x0 x1 T = some R → xok (o2 x0 x1 M) (fun r => r.1 = R.1 ∧ xCX m M0 r.2 R.2 ∧ xin R.1)) (hr19 : ∀ {M : xj_M} {T : xT_} {x0 : Nat} {x1 : Int} {x2 : Nat} {x3 : Int} {R : Int × xT_}, xCX m M0 M T → xin x1 → xin x3 → r19 x0 x1 x2 x3 T = some R → xok (o19 x0 x1 x2 x3 M) (fun r => r.1 = R.1 ∧ xCX m M0 r.2 R.2 ∧ xin R.1)) (h : xCX m M0 M T) {x0 : Nat} {x1 : Int} {x2 : Nat} {x3 : Int} {y0 : Int} {R : Int × xT_} (tx1 : xin x1) (tx3 : xin x3) (ty0 : xin y0) (e : c28_62 r2 r19 f x0 x1 x2 x3 y0 T = some R) : xok (f28_62 o2 o19 f x0 x1 x2 x3 y0 M) (fun r => r.1 = R.1 ∧ xCX m M0 r.2 R.2 ∧ xin R.1) := by
  unfold c28_62 at e
  unfold f28_62
  refine xok_ite (fun c101 => ?_) (fun c101 => ?_)
  · rw [if_pos c101] at e
    exact t28_97 (r2 := r2) (o2 := o2) (r19 := r19) (o19 := o19) hS @hr2 @hr19 h tx1 tx3 e
  · rw [if_neg c101] at e
    obtain ⟨v102, q103, e⟩ := xbnd e
    refine xok_eqb (h.gr (by decide) (by decide) q103) ?_
    obtain ⟨v104, q105, e⟩ := xbnd e
    refine xok_eqb (h.gr (by decide) (by decide) q105) ?_
    obtain ⟨v106, q107, e⟩ := xbnd e
    refine xok_eqb (h.ai (by decide) q107).1 ?_
    obtain ⟨v108, q109, e⟩ := xbnd e
    refine xok_eqb (h.ai (by decide) q109).1 ?_
    obtain ⟨v110, q111, e⟩ := xbnd e
    refine xok_eqb (h.gr (by decide) (by decide) q111) ?_
    obtain ⟨v112, q113, e⟩ := xbnd e
    refine xok_eqb (h.gi (by decide) (by decide) q113).1 ?_
    obtain ⟨v114, q115, e⟩ := xbnd e
    refine xok_eqb (h.ai (by decide) q115).1 ?_
    refine xok_ite (fun c116 => ?_) (fun c116 => ?_)
    · rw [if_pos c116] at e
      exact t28_97 (r2 := r2) (o2 := o2) (r19 := r19) (o19 := o19) hS @hr2 @hr19 h tx1 tx3 e
    · rw [if_neg c116] at e
      obtain ⟨v117, q118, e⟩ := xbnd e
      refine xok_eqb (h.gi (by decide) (by decide) q118).1 ?_
      cases e
      exact ⟨_, rfl, rfl, h, (h.gi (by decide) (by decide) q118).2⟩
theorem t28_57 {m f : Nat} {M0 M : xj_M} {T : xT_} (hS : xHS f) {r2 : Nat → Int → xT_ → Option (Int × xT_)} {o2 : Nat → Int → xj_M → Option (Int × xj_M)} {r19 : Nat → Int → Nat → Int → xT_ → Option (Int × xT_)} {o19 : Nat → Int → Nat → Int → xj_M → Option (Int × xj_M)} (hr2 : ∀ {M : xj_M} {T : xT_} {x0 : Nat} {x1 : Int} {R : Int × xT_}, xCX m M0 M T → xin x1 → r2 x0 x1 T = some R → xok (o2 x0 x1 M) (fun r => r.1 = R.1 ∧ xCX m M0 r.2 R.2 ∧ xin R.1)) (hr19 : ∀ {M : xj_M} {T : xT_} {x0 : Nat} {x1 : Int} {x2 : Nat} {x3 : Int} {R : Int × xT_}, xCX m M0 M T → xin x1 → xin x3 → r19 x0 x1 x2 x3 T = some R → xok (o19 x0 x1 x2 x3 M) (fun r => r.1 = R.1 ∧ xCX m M0 r.2 R.2 ∧ xin R.1)) (h : xCX m M0 M T) {x0 : Nat} {x1 : Int} {x2 : Nat} {x3 : Int} {R : Int × xT_} (tx1 : xin x1) (tx3 : xin x3) (e : c28_57 r2 r19 f x0 x1 x2 x3 T = some R) : xok (f28_57 o2 o19 f x0 x1 x2 x3 M) (fun r => r.1 = R.1 ∧ xCX m M0 r.2 R.2 ∧ xin R.1) := by
  unfold c28_57 at e
  unfold f28_57
  exact t28_62 (r2 := r2) (o2 := o2) (r19 := r19) (o19 := o19) hS @hr2 @hr19 h tx1 tx3 (show xin (1) by decide) e
theorem t28_61 {m f : Nat} {M0 M : xj_M} {T : xT_} (hS : xHS f) {r2 : Nat → Int → xT_ → Option (Int × xT_)} {o2 : Nat → Int → xj_M → Option (Int × xj_M)} {r19 : Nat → Int → Nat → Int → xT_ → Option (Int × xT_)} {o19 : Nat → Int → Nat → Int → xj_M → Option (Int × xj_M)} (hr2 : ∀ {M : xj_M} {T : xT_} {x0 : Nat} {x1 : Int} {R : Int × xT_}, xCX m M0 M T → xin x1 → r2 x0 x1 T = some R → xok (o2 x0 x1 M) (fun r => r.1 = R.1 ∧ xCX m M0 r.2 R.2 ∧ xin R.1)) (hr19 : ∀ {M : xj_M} {T : xT_} {x0 : Nat} {x1 : Int} {x2 : Nat} {x3 : Int} {R : Int × xT_}, xCX m M0 M T → xin x1 → xin x3 → r19 x0 x1 x2 x3 T = some R → xok (o19 x0 x1 x2 x3 M) (fun r => r.1 = R.1 ∧ xCX m M0 r.2 R.2 ∧ xin R.1)) (h : xCX m M0 M T) {x0 : Nat} {x1 : Int} {x2 : Nat} {x3 : Int} {R : Int × xT_} (tx1 : xin x1) (tx3 : xin x3) (e : c28_61 r2 r19 f x0 x1 x2 x3 T = some R) : xok (f28_61 o2 o19 f x0 x1 x2 x3 M) (fun r => r.1 = R.1 ∧ xCX m M0 r.2 R.2 ∧ xin R.1) := by
  unfold c28_61 at e
  unfold f28_61
  exact t28_62 (r2 := r2) (o2 := o2) (r19 := r19) (o19 := o19) hS @hr2 @hr19 h tx1 tx3 (show xin (0) by decide) e
theorem t28_19b {m f : Nat} {M0 M : xj_M} {T : xT_} (hS : xHS f) {r2 : Nat → Int → xT_ → Option (Int × xT_)} {o2 : Nat → Int → xj_M → Option (Int × xj_M)} {r19 : Nat → Int → Nat → Int → xT_ → Option (Int × xT_)} {o19 : Nat → Int → Nat → Int → xj_M → Option (Int × xj_M)} (hr2 : ∀ {M : xj_M} {T : xT_} {x0 : Nat} {x1 : Int} {R : Int × xT_}, xCX m M0 M T → xin x1 → r2 x0 x1 T = some R → xok (o2 x0 x1 M) (fun r => r.1 = R.1 ∧ xCX m M0 r.2 R.2 ∧ xin R.1)) (hr19 : ∀ {M : xj_M} {T : xT_} {x0 : Nat} {x1 : Int} {x2 : Nat} {x3 : Int} {R : Int × xT_}, xCX m M0 M T → xin x1 → xin x3 → r19 x0 x1 x2 x3 T = some R → xok (o19 x0 x1 x2 x3 M) (fun r => r.1 = R.1 ∧ xCX m M0 r.2 R.2 ∧ xin R.1)) (h : xCX m M0 M T) {x0 : Nat} {x1 : Int} {x2 : Nat} {x3 : Int} {R : Int × xT_} (tx1 : xin x1) (tx3 : xin x3) (e : c28_19b r2 r19 f x0 x1 x2 x3 T = some R) : xok (f28_19b o2 o19 f x0 x1 x2 x3 M) (fun r => r.1 = R.1 ∧ xCX m M0 r.2 R.2 ∧ xin R.1) := by
  unfold c28_19b at e
  unfold f28_19b
  obtain ⟨v119, q120, e⟩ := xbnd e
  refine xok_eqb (h.gi (by decide) (by decide) q120).1 ?_
  refine xok_ite (fun c121 => ?_) (fun c121 => ?_)
  · rw [if_pos c121] at e
    exact hr2 h (xin_wr _) e
  · rw [if_neg c121] at e
    obtain ⟨v122, q123, e⟩ := xbnd e
    refine xok_eqb (h.gr (by decide) (by decide) q123) ?_
    obtain ⟨v124, q125, e⟩ := xbnd e
    refine xok_eqb (h.ai (by decide) q125).1 ?_
    refine xok_ite (fun c126 => ?_) (fun c126 => ?_)
    · rw [if_pos c126] at e
      exact t28_57 (r2 := r2) (o2 := o2) (r19 := r19) (o19 := o19) hS @hr2 @hr19 h tx1 tx3 e
    · rw [if_neg c126] at e
      obtain ⟨v127, q128, e⟩ := xbnd e
      refine xok_eqb (h.gr (by decide) (by decide) q128) ?_
      obtain ⟨v129, q130, e⟩ := xbnd e
      refine xok_eqb (h.ai (by decide) q130).1 ?_
      refine xok_ite (fun c131 => ?_) (fun c131 => ?_)
      · rw [if_pos c131] at e
        exact t28_61 (r2 := r2) (o2 := o2) (r19 := r19) (o19 := o19) hS @hr2 @hr19 h tx1 tx3 e
      · rw [if_neg c131] at e
        obtain ⟨v132, q133, e⟩ := xbnd e
        refine xok_eqb (h.gi (by decide) (by decide) q133).1 ?_
        refine xok_ite (fun c134 => ?_) (fun c134 => ?_)
        · rw [if_pos c134] at e
          exact t28_61 (r2 := r2) (o2 := o2) (r19 := r19) (o19 := o19) hS @hr2 @hr19 h tx1 tx3 e
        · rw [if_neg c134] at e
          exact t28_57 (r2 := r2) (o2 := o2) (r19 := r19) (o19 := o19) hS @hr2 @hr19 h tx1 tx3 e
theorem t28_19 {m f : Nat} {M0 : xj_M} (hS : xHS f) {r2 : Nat → Int → xT_ → Option (Int × xT_)} {o2 : Nat → Int → xj_M → Option (Int × xj_M)} (hr2 : ∀ {M : xj_M} {T : xT_} {x0 : Nat} {x1 : Int} {R : Int × xT_}, xCX m M0 M T → xin x1 → r2 x0 x1 T = some R → xok (o2 x0 x1 M) (fun r => r.1 = R.1 ∧ xCX m M0 r.2 R.2 ∧ xin R.1)) : ∀ {n : Nat} {M : xj_M} {T : xT_} {x0 : Nat} {x1 : Int} {x2 : Nat} {x3 : Int} {R : Int × xT_}, xCX m M0 M T → xin x1 → xin x3 → c28_19 r2 f n x0 x1 x2 x3 T = some R → xok (f28_19 o2 f n x0 x1 x2 x3 M) (fun r => r.1 = R.1 ∧ xCX m M0 r.2 R.2 ∧ xin R.1) := by
  intro n
  induction n with
  | zero => intros; rename_i e; cases e
  | succ n ih =>
    intros
    rename_i h i0 i1 e
    exact t28_19b hS @hr2 @ih h i0 i1 e
theorem t28_2b {m f : Nat} {M0 M : xj_M} {T : xT_} (hS : xHS f) {r2 : Nat → Int → xT_ → Option (Int × xT_)} {o2 : Nat → Int → xj_M → Option (Int × xj_M)} (hr2 : ∀ {M : xj_M} {T : xT_} {x0 : Nat} {x1 : Int} {R : Int × xT_}, xCX m M0 M T → xin x1 → r2 x0 x1 T = some R → xok (o2 x0 x1 M) (fun r => r.1 = R.1 ∧ xCX m M0 r.2 R.2 ∧ xin R.1)) (h : xCX m M0 M T) {x0 : Nat} {x1 : Int} {R : Int × xT_} (tx1 : xin x1) (e : c28_2b r2 f x0 x1 T = some R) : xok (f28_2b o2 f x0 x1 M) (fun r => r.1 = R.1 ∧ xCX m M0 r.2 R.2 ∧ xin R.1) := by
  unfold c28_2b at e
  unfold f28_2b
  obtain ⟨v135, q136, e⟩ := xbnd e
  refine xok_eqb (h.gi (by decide) (by decide) q136).1 ?_
  refine xok_ite (fun c137 => ?_) (fun c137 => ?_)
  · rw [if_pos c137] at e
    cases e
    exact ⟨_, rfl, rfl, h, (show xin (-1) by decide)⟩
  · rw [if_neg c137] at e
    obtain ⟨v138, q139, e⟩ := xbnd e
    refine xok_eqb (h.gr (by decide) (by decide) q139) ?_
    obtain ⟨v140, q141, e⟩ := xbnd e
    refine xok_eqb (h.ar q141) ?_
    exact t28_19 (r2 := r2) (o2 := o2) hS @hr2 h tx1 (show xin (0) by decide) e
theorem t28_2 {m f : Nat} {M0 : xj_M} (hS : xHS f)   : ∀ {n : Nat} {M : xj_M} {T : xT_} {x0 : Nat} {x1 : Int} {R : Int × xT_}, xCX m M0 M T → xin x1 → c28_2  f n x0 x1 T = some R → xok (f28_2  f n x0 x1 M) (fun r => r.1 = R.1 ∧ xCX m M0 r.2 R.2 ∧ xin R.1) := by
  intro n
  induction n with
  | zero => intros; rename_i e; cases e
  | succ n ih =>
    intros
    rename_i h i0 e
    exact t28_2b hS  @ih h i0 e
theorem t28 {m f : Nat} {M0 M : xj_M} {T : xT_} (hS : xHS f) (h : xCX m M0 M T) {a0 : Nat} {R : Int × xT_}  (e : c28 f a0 T = some R) : xok (f28 f a0 M) (fun r => r.1 = R.1 ∧ xCX m M0 r.2 R.2 ∧ xin R.1) := by
  unfold c28 at e
  unfold f28
  exact t28_2  hS  h (show xin (0) by decide) e
-- ChangeHouse$Reader.<init>
theorem t29 {m f : Nat} {M0 M : xj_M} {T : xT_} (hS : xHS f) (h : xCX m M0 M T) {a0 : Nat} {a1 : Nat} {R : xT_}  (e : c29 f a0 a1 T = some R) : xok (f29 f a0 a1 M) (fun r => xCX m M0 r R) := by
  unfold c29 at e
  unfold f29
  obtain ⟨_, q101, e⟩ := xbnd e
  refine xok_eqb q101 ?_
  obtain ⟨p102, q103, e⟩ := xbnd e
  obtain ⟨M104, q105, h106⟩ := h.na (by decide) q103
  refine xok_eqb q105 ?_
  dsimp only
  obtain ⟨T108, q107, e⟩ := xbnd e
  obtain ⟨M109, q110, h111⟩ := h106.pr (by decide) (by decide)  q107
  refine xok_eqb q110 ?_
  obtain ⟨p112, q113, e⟩ := xbnd e
  obtain ⟨M114, q115, h116⟩ := h111.na (by decide) q113
  refine xok_eqb q115 ?_
  dsimp only
  obtain ⟨T118, q117, e⟩ := xbnd e
  obtain ⟨M119, q120, h121⟩ := h116.pr (by decide) (by decide)  q117
  refine xok_eqb q120 ?_
  obtain ⟨p122, q123, e⟩ := xbnd e
  obtain ⟨M124, q125, h126⟩ := h121.na (by decide) q123
  refine xok_eqb q125 ?_
  dsimp only
  obtain ⟨T128, q127, e⟩ := xbnd e
  obtain ⟨M129, q130, h131⟩ := h126.pr (by decide) (by decide)  q127
  refine xok_eqb q130 ?_
  obtain ⟨p132, q133, e⟩ := xbnd e
  obtain ⟨M134, q135, h136⟩ := h131.na (by decide) q133
  refine xok_eqb q135 ?_
  dsimp only
  obtain ⟨T138, q137, e⟩ := xbnd e
  obtain ⟨M139, q140, h141⟩ := h136.pr (by decide) (by decide)  q137
  refine xok_eqb q140 ?_
  obtain ⟨p142, q143, e⟩ := xbnd e
  obtain ⟨M144, q145, h146⟩ := h141.na (by decide) q143
  refine xok_eqb q145 ?_
  dsimp only
  obtain ⟨T148, q147, e⟩ := xbnd e
  obtain ⟨M149, q150, h151⟩ := h146.pr (by decide) (by decide)  q147
  refine xok_eqb q150 ?_
  obtain ⟨p152, q153, e⟩ := xbnd e
  obtain ⟨M154, q155, h156⟩ := h151.na (by decide) q153
  refine xok_eqb q155 ?_
  dsimp only
  obtain ⟨T158, q157, e⟩ := xbnd e
  obtain ⟨M159, q160, h161⟩ := h156.pr (by decide) (by decide)  q157
  refine xok_eqb q160 ?_
  obtain ⟨p162, q163, e⟩ := xbnd e
  obtain ⟨M164, q165, h166⟩ := h161.na (by decide) q163
  refine xok_eqb q165 ?_
  dsimp only
  obtain ⟨T168, q167, e⟩ := xbnd e
  obtain ⟨M169, q170, h171⟩ := h166.pr (by decide) (by decide)  q167
  refine xok_eqb q170 ?_
  obtain ⟨p172, q173, e⟩ := xbnd e
  obtain ⟨M174, q175, h176⟩ := h171.na (by decide) q173
  refine xok_eqb q175 ?_
  dsimp only
  obtain ⟨T178, q177, e⟩ := xbnd e
  obtain ⟨M179, q180, h181⟩ := h176.pr (by decide) (by decide)  q177
  refine xok_eqb q180 ?_
  obtain ⟨p182, q183, e⟩ := xbnd e
  obtain ⟨M184, q185, h186⟩ := h181.na (by decide) q183
  refine xok_eqb q185 ?_
  dsimp only
  obtain ⟨T188, q187, e⟩ := xbnd e
  obtain ⟨M189, q190, h191⟩ := h186.pr (by decide) (by decide)  q187
  refine xok_eqb q190 ?_
  obtain ⟨p192, q193, e⟩ := xbnd e
  obtain ⟨M194, q195, h196⟩ := h191.na (by decide) q193
  refine xok_eqb q195 ?_
  dsimp only
  obtain ⟨T198, q197, e⟩ := xbnd e
  obtain ⟨M199, q200, h201⟩ := h196.pr (by decide) (by decide)  q197
  refine xok_eqb q200 ?_
  obtain ⟨T203, q202, e⟩ := xbnd e
  obtain ⟨M204, q205, h206⟩ := h201.pr (by decide) (by decide)  q202
  refine xok_eqb q205 ?_
  cases e
  exact ⟨_, rfl, h206⟩
-- ChangeHouse$Reader.begin
theorem t34 {m f : Nat} {M0 M : xj_M} {T : xT_} (hS : xHS f) (h : xCX m M0 M T) {a0 : Nat} {a1 : Nat} {a2 : Int} {R : xT_} (ta2 : xin a2) (e : c34 f a0 a1 a2 T = some R) : xok (f34 f a0 a1 a2 M) (fun r => xCX m M0 r R) := by
  unfold c34 at e
  unfold f34
  obtain ⟨T102, q101, e⟩ := xbnd e
  obtain ⟨M103, q104, h105⟩ := h.pr (by decide) (by decide)  q101
  refine xok_eqb q104 ?_
  obtain ⟨T107, q106, e⟩ := xbnd e
  obtain ⟨M108, q109, h110⟩ := h105.pb (by decide) (by decide)  q106
  refine xok_eqb q109 ?_
  obtain ⟨T112, q111, e⟩ := xbnd e
  obtain ⟨M113, q114, h115⟩ := h110.pi (by decide) (by decide) (show xin (0) by decide) q111
  refine xok_eqb q114 ?_
  obtain ⟨T117, q116, e⟩ := xbnd e
  obtain ⟨M118, q119, h120⟩ := h115.pi (by decide) (by decide) (show xin (0) by decide) q116
  refine xok_eqb q119 ?_
  obtain ⟨T122, q121, e⟩ := xbnd e
  obtain ⟨M123, q124, h125⟩ := h120.pi (by decide) (by decide) (show xin (0) by decide) q121
  refine xok_eqb q124 ?_
  cases e
  exact ⟨_, rfl, h125⟩
-- ChangeHouse$Reader.wrongAt
theorem t36 {m f : Nat} {M0 M : xj_M} {T : xT_} (hS : xHS f) (h : xCX m M0 M T) {a0 : Nat} {a1 : Int} {R : (Nat ⊕ Unit) × xT_} (ta1 : xin a1) (e : c36 f a0 a1 T = some R) : xok (f36 f a0 a1 M) (fun r => r.1 = R.1 ∧ xCX m M0 r.2 R.2) := by
  unfold c36 at e
  unfold f36
  obtain ⟨T102, q101, e⟩ := xbnd e
  obtain ⟨M103, q104, h105⟩ := h.pi (by decide) (by decide) ta1 q101
  refine xok_eqb q104 ?_
  cases e
  exact ⟨_, rfl, rfl, h105.ex⟩
-- ChangeHouse$Reader.advance
theorem t37_26 {m f : Nat} {M0 M : xj_M} {T : xT_} (hS : xHS f)   (h : xCX m M0 M T)  {R : xT_}  (e : c37_26  f  T = some R) : xok (f37_26  f  M) (fun r => xCX m M0 r R) := by
  unfold c37_26 at e
  unfold f37_26
  cases e
  exact ⟨_, rfl, h⟩
theorem t37 {m f : Nat} {M0 M : xj_M} {T : xT_} (hS : xHS f) (h : xCX m M0 M T) {a0 : Nat} {R : xT_}  (e : c37 f a0 T = some R) : xok (f37 f a0 M) (fun r => xCX m M0 r R) := by
  unfold c37 at e
  unfold f37
  obtain ⟨v101, q102, e⟩ := xbnd e
  refine xok_eqb (h.gi (by decide) (by decide) q102).1 ?_
  obtain ⟨v103, q104, e⟩ := xbnd e
  refine xok_eqb (h.gr (by decide) (by decide) q104) ?_
  obtain ⟨v105, q106, e⟩ := xbnd e
  refine xok_eqb (h.gi (by decide) (by decide) q106).1 ?_
  refine xok_ite (fun c107 => ?_) (fun c107 => ?_)
  · rw [if_pos c107] at e
    exact t37_26  hS  h  e
  · rw [if_neg c107] at e
    obtain ⟨v108, q109, e⟩ := xbnd e
    refine xok_eqb (h.gi (by decide) (by decide) q109).1 ?_
    obtain ⟨T111, q110, e⟩ := xbnd e
    obtain ⟨M112, q113, h114⟩ := h.pi (by decide) (by decide) (xin_wr _) q110
    refine xok_eqb q113 ?_
    exact t37_26  hS  h114  e
-- ChangeHouse$Reader.need
theorem t38_32 {m f : Nat} {M0 M : xj_M} {T : xT_} (hS : xHS f)   (h : xCX m M0 M T) {x0 : Nat} {R : (Nat ⊕ Unit) × xT_}  (e : c38_32  f x0 T = some R) : xok (f38_32  f x0 M) (fun r => r.1 = R.1 ∧ xCX m M0 r.2 R.2) := by
  unfold c38_32 at e
  unfold f38_32
  obtain ⟨_, q106, e⟩ := xbnd e
  obtain ⟨R101, e102, e⟩ := xbnd e
  refine xok_eqb (h.is q106) ?_
  refine xok_call (t37 hS h  e102) ?_
  intro M103 h104
  cases e
  exact ⟨_, rfl, rfl, h104⟩
theorem t38 {m f : Nat} {M0 M : xj_M} {T : xT_} (hS : xHS f) (h : xCX m M0 M T) {a0 : Nat} {a1 : Int} {R : (Nat ⊕ Unit) × xT_} (ta1 : xin a1) (e : c38 f a0 a1 T = some R) : xok (f38 f a0 a1 M) (fun r => r.1 = R.1 ∧ xCX m M0 r.2 R.2) := by
  unfold c38 at e
  unfold f38
  obtain ⟨v107, q108, e⟩ := xbnd e
  refine xok_eqb (h.gr (by decide) (by decide) q108) ?_
  obtain ⟨v109, q110, e⟩ := xbnd e
  refine xok_eqb (h.gr (by decide) (by decide) q110) ?_
  obtain ⟨v111, q112, e⟩ := xbnd e
  refine xok_eqb (h.gi (by decide) (by decide) q112).1 ?_
  obtain ⟨v113, q114, e⟩ := xbnd e
  refine xok_eqb (h.ai (by decide) q114).1 ?_
  refine xok_ite (fun c115 => ?_) (fun c115 => ?_)
  · rw [if_pos c115] at e
    exact t38_32  hS  h  e
  · rw [if_neg c115] at e
    obtain ⟨v116, q117, e⟩ := xbnd e
    refine xok_eqb (h.gr (by decide) (by decide) q117) ?_
    obtain ⟨v118, q119, e⟩ := xbnd e
    refine xok_eqb (h.gr (by decide) (by decide) q119) ?_
    obtain ⟨v120, q121, e⟩ := xbnd e
    refine xok_eqb (h.gi (by decide) (by decide) q121).1 ?_
    obtain ⟨v122, q123, e⟩ := xbnd e
    refine xok_eqb (h.ai (by decide) q123).1 ?_
    obtain ⟨_, q129, e⟩ := xbnd e
    obtain ⟨R124, e125, e⟩ := xbnd e
    refine xok_eqb (h.is q129) ?_
    refine xok_call (t36 hS h (h.ai (by decide) q123).2 e125) ?_
    rintro ⟨v_, M126⟩ ⟨hv_, h127⟩
    cases hv_
    dsimp only
    cases g131 : R124.1 with
    | inl k_ =>
      rw [cth_l g131] at e; cases e
      rw [xth_l (by exact g131)]
      exact ⟨_, rfl, rfl, h127⟩
    | inr v130 =>
      rw [cth_r g131] at e
      rw [xth_r (by exact g131)]
      exact t38_32  hS  h127  e
-- ChangeHouse$Reader.goesOn
theorem t39_31 {m f : Nat} {M0 M : xj_M} {T : xT_} (hS : xHS f)   (h : xCX m M0 M T) {x1 : Int} {R : Int × xT_} (tx1 : xin x1) (e : c39_31  f x1 T = some R) : xok (f39_31  f x1 M) (fun r => r.1 = R.1 ∧ xCX m M0 r.2 R.2 ∧ xin R.1) := by
  unfold c39_31 at e
  unfold f39_31
  refine xok_ite (fun c101 => ?_) (fun c101 => ?_)
  · rw [if_pos c101] at e; cases e; exact ⟨_, rfl, rfl, h, tx1⟩
  · rw [if_neg c101] at e; cases e
theorem t39_22 {m f : Nat} {M0 M : xj_M} {T : xT_} (hS : xHS f)   (h : xCX m M0 M T) {x0 : Nat} {y0 : Int} {R : Int × xT_} (ty0 : xin y0) (e : c39_22  f x0 y0 T = some R) : xok (f39_22  f x0 y0 M) (fun r => r.1 = R.1 ∧ xCX m M0 r.2 R.2 ∧ xin R.1) := by
  unfold c39_22 at e
  unfold f39_22
  refine xok_ite (fun c102 => ?_) (fun c102 => ?_)
  · rw [if_pos c102] at e
    exact t39_31  hS  h ty0 e
  · rw [if_neg c102] at e
    obtain ⟨_, q108, e⟩ := xbnd e
    obtain ⟨R103, e104, e⟩ := xbnd e
    refine xok_eqb (h.is q108) ?_
    refine xok_call (t37 hS h  e104) ?_
    intro M105 h106
    exact t39_31  hS  h106 ty0 e
theorem t39 {m f : Nat} {M0 M : xj_M} {T : xT_} (hS : xHS f) (h : xCX m M0 M T) {a0 : Nat} {R : Int × xT_}  (e : c39 f a0 T = some R) : xok (f39 f a0 M) (fun r => r.1 = R.1 ∧ xCX m M0 r.2 R.2 ∧ xin R.1) := by
  unfold c39 at e
  unfold f39
  obtain ⟨v109, q110, e⟩ := xbnd e
  refine xok_eqb (h.gr (by decide) (by decide) q110) ?_
  obtain ⟨v111, q112, e⟩ := xbnd e
  refine xok_eqb (h.gr (by decide) (by decide) q112) ?_
  obtain ⟨v113, q114, e⟩ := xbnd e
  refine xok_eqb (h.gi (by decide) (by decide) q114).1 ?_
  obtain ⟨v115, q116, e⟩ := xbnd e
  refine xok_eqb (h.ai (by decide) q116).1 ?_
  refine xok_ite (fun c117 => ?_) (fun c117 => ?_)
  · rw [if_pos c117] at e
    exact t39_22  hS  h (show xin (0) by decide) e
  · rw [if_neg c117] at e
    exact t39_22  hS  h (show xin (1) by decide) e
-- ChangeHouse$Reader.mention
theorem t40_61 {m f : Nat} {M0 M : xj_M} {T : xT_} (hS : xHS f)   (h : xCX m M0 M T)  {R : xT_}  (e : c40_61  f  T = some R) : xok (f40_61  f  M) (fun r => xCX m M0 r R) := by
  unfold c40_61 at e
  unfold f40_61
  cases e
  exact ⟨_, rfl, h⟩
theorem t40 {m f : Nat} {M0 M : xj_M} {T : xT_} (hS : xHS f) (h : xCX m M0 M T) {a0 : Nat} {a1 : Int} {a2 : Int} {a3 : Int} {a4 : Int} {R : xT_} (ta1 : xin a1) (ta2 : xin a2) (ta3 : xin a3) (ta4 : xin a4) (e : c40 f a0 a1 a2 a3 a4 T = some R) : xok (f40 f a0 a1 a2 a3 a4 M) (fun r => xCX m M0 r R) := by
  unfold c40 at e
  unfold f40
  obtain ⟨v101, q102, e⟩ := xbnd e
  refine xok_eqb (h.gi (by decide) (by decide) q102).1 ?_
  refine xok_ite (fun c103 => ?_) (fun c103 => ?_)
  · rw [if_pos c103] at e
    exact t40_61  hS  h  e
  · rw [if_neg c103] at e
    obtain ⟨v104, q105, e⟩ := xbnd e
    refine xok_eqb (h.gr (by decide) (by decide) q105) ?_
    obtain ⟨v106, q107, e⟩ := xbnd e
    refine xok_eqb (h.gi (by decide) (by decide) q107).1 ?_
    obtain ⟨T109, q108, e⟩ := xbnd e
    obtain ⟨M110, q111, h112⟩ := h.si ta1 q108
    refine xok_eqb q111 ?_
    obtain ⟨v113, q114, e⟩ := xbnd e
    refine xok_eqb (h112.gr (by decide) (by decide) q114) ?_
    obtain ⟨v115, q116, e⟩ := xbnd e
    refine xok_eqb (h112.gi (by decide) (by decide) q116).1 ?_
    obtain ⟨T118, q117, e⟩ := xbnd e
    obtain ⟨M119, q120, h121⟩ := h112.si ta2 q117
    refine xok_eqb q120 ?_
    obtain ⟨v122, q123, e⟩ := xbnd e
    refine xok_eqb (h121.gr (by decide) (by decide) q123) ?_
    obtain ⟨v124, q125, e⟩ := xbnd e
    refine xok_eqb (h121.gi (by decide) (by decide) q125).1 ?_
    obtain ⟨T127, q126, e⟩ := xbnd e
    obtain ⟨M128, q129, h130⟩ := h121.si ta3 q126
    refine xok_eqb q129 ?_
    obtain ⟨v131, q132, e⟩ := xbnd e
    refine xok_eqb (h130.gr (by decide) (by decide) q132) ?_
    obtain ⟨v133, q134, e⟩ := xbnd e
    refine xok_eqb (h130.gi (by decide) (by decide) q134).1 ?_
    obtain ⟨T136, q135, e⟩ := xbnd e
    obtain ⟨M137, q138, h139⟩ := h130.si ta4 q135
    refine xok_eqb q138 ?_
    obtain ⟨v140, q141, e⟩ := xbnd e
    refine xok_eqb (h139.gi (by decide) (by decide) q141).1 ?_
    obtain ⟨T143, q142, e⟩ := xbnd e
    obtain ⟨M144, q145, h146⟩ := h139.pi (by decide) (by decide) (xin_wr _) q142
    refine xok_eqb q145 ?_
    exact t40_61  hS  h146  e
-- ChangeHouse$Reader.predicateOf
theorem t48_73 {m f : Nat} {M0 M : xj_M} {T : xT_} (hS : xHS f)   (h : xCX m M0 M T) {x4 : Int} {R : (Nat ⊕ Int) × xT_} (tx4 : xin x4) (e : c48_73  f x4 T = some R) : xok (f48_73  f x4 M) (fun r => r.1 = R.1 ∧ xCX m M0 r.2 R.2 ∧ ∀ v, R.1 = .inr v → xin v) := by
  unfold c48_73 at e
  unfold f48_73
  cases e
  exact ⟨_, rfl, rfl, h, fun v hv => by cases hv; exact tx4⟩
theorem t48_40 {m f : Nat} {M0 M : xj_M} {T : xT_} (hS : xHS f)   (h : xCX m M0 M T) {x0 : Nat} {x1 : Int} {R : (Nat ⊕ Int) × xT_} (tx1 : xiN x1) (e : c48_40  f x0 x1 T = some R) : xok (f48_40  f x0 x1 M) (fun r => r.1 = R.1 ∧ xCX m M0 r.2 R.2 ∧ ∀ v, R.1 = .inr v → xin v) := by
  unfold c48_40 at e
  unfold f48_40
  obtain ⟨v101, q102, e⟩ := xbnd e
  refine xok_eqb (h.gr (by decide) (by decide) q102) ?_
  obtain ⟨v103, q104, e⟩ := xbnd e
  refine xok_eqb (h.gi (by decide) (by decide) q104).1 ?_
  obtain ⟨v105, q106, e⟩ := xbnd e
  refine xok_eqb (h.gr (by decide) (by decide) q106) ?_
  obtain ⟨v107, q108, e⟩ := xbnd e
  refine xok_eqb (h.gr (by decide) (by decide) q108) ?_
  obtain ⟨T110, q109, e⟩ := xbnd e
  obtain ⟨M111, q112, h113⟩ := h.sl tx1 q109
  refine xok_eqb q112 ?_
  obtain ⟨v114, q115, e⟩ := xbnd e
  refine xok_eqb (h113.gr (by decide) (by decide) q115) ?_
  obtain ⟨v116, q117, e⟩ := xbnd e
  refine xok_eqb (h113.gi (by decide) (by decide) q117).1 ?_
  obtain ⟨T119, q118, e⟩ := xbnd e
  obtain ⟨M120, q121, h122⟩ := h113.pi (by decide) (by decide) (xin_wr _) q118
  refine xok_eqb q121 ?_
  exact t48_73  hS  h122 (h.gi (by decide) (by decide) q104).2 e
theorem t48 {m f : Nat} {M0 M : xj_M} {T : xT_} (hS : xHS f) (h : xCX m M0 M T) {a0 : Nat} {a1 : Int} {a2 : Int} {R : (Nat ⊕ Int) × xT_} (ta1 : xiN a1) (ta2 : xin a2) (e : c48 f a0 a1 a2 T = some R) : xok (f48 f a0 a1 a2 M) (fun r => r.1 = R.1 ∧ xCX m M0 r.2 R.2 ∧ ∀ v, R.1 = .inr v → xin v) := by
  unfold c48 at e
  unfold f48
  obtain ⟨v123, q124, e⟩ := xbnd e
  refine xok_eqb (h.gr (by decide) (by decide) q124) ?_
  obtain ⟨_, q130, e⟩ := xbnd e
  obtain ⟨R125, e126, e⟩ := xbnd e
  refine xok_eqb (h.is q130) ?_
  refine xok_call (t20 hS h ta1 e126) ?_
  rintro ⟨v_, M127⟩ ⟨hv_, h128, hi129⟩
  cases hv_
  refine xok_ite (fun c131 => ?_) (fun c131 => ?_)
  · rw [if_pos c131] at e
    exact t48_73  hS  h128 hi129 e
  · rw [if_neg c131] at e
    obtain ⟨v132, q133, e⟩ := xbnd e
    refine xok_eqb (h128.gi (by decide) (by decide) q133).1 ?_
    refine xok_ite (fun c134 => ?_) (fun c134 => ?_)
    · rw [if_pos c134] at e
      exact t48_73  hS  h128 hi129 e
    · rw [if_neg c134] at e
      obtain ⟨v135, q136, e⟩ := xbnd e
      refine xok_eqb (h128.gr (by decide) (by decide) q136) ?_
      obtain ⟨v137, q138, e⟩ := xbnd e
      refine xok_eqb (h128.gi (by decide) (by decide) q138).1 ?_
      refine xok_ite (fun c139 => ?_) (fun c139 => ?_)
      · rw [if_pos c139] at e
        exact t48_40  hS  h128 ta1 e
      · rw [if_neg c139] at e
        obtain ⟨_, q145, e⟩ := xbnd e
        obtain ⟨R140, e141, e⟩ := xbnd e
        refine xok_eqb (h128.is q145) ?_
        refine xok_call (t36 hS h128 ta2 e141) ?_
        rintro ⟨v_, M142⟩ ⟨hv_, h143⟩
        cases hv_
        dsimp only
        cases g147 : R140.1 with
        | inl k_ =>
          rw [cth_l g147] at e; cases e
          rw [xth_l (by exact g147)]
          exact ⟨_, rfl, rfl, h143, fun v hv => by cases hv⟩
        | inr v146 =>
          rw [cth_r g147] at e
          rw [xth_r (by exact g147)]
          exact t48_40  hS  h143 ta1 e
-- ChangeHouse$Reader.readNumber
theorem t50_67 {m f : Nat} {M0 M : xj_M} {T : xT_} (hS : xHS f)   (h : xCX m M0 M T) {x0 : Nat} {R : (Nat ⊕ Int) × xT_}  (e : c50_67  f x0 T = some R) : xok (f50_67  f x0 M) (fun r => r.1 = R.1 ∧ xCX m M0 r.2 R.2 ∧ ∀ v, R.1 = .inr v → xin v) := by
  unfold c50_67 at e
  unfold f50_67
  obtain ⟨v101, q102, e⟩ := xbnd e
  refine xok_eqb (h.gr (by decide) (by decide) q102) ?_
  obtain ⟨v103, q104, e⟩ := xbnd e
  refine xok_eqb (h.gr (by decide) (by decide) q104) ?_
  obtain ⟨v105, q106, e⟩ := xbnd e
  refine xok_eqb (h.gi (by decide) (by decide) q106).1 ?_
  obtain ⟨v107, q108, e⟩ := xbnd e
  refine xok_eqb (h.al q108).1 ?_
  obtain ⟨_, q114, e⟩ := xbnd e
  obtain ⟨R109, e110, e⟩ := xbnd e
  refine xok_eqb (h.is q114) ?_
  refine xok_call (t37 hS h  e110) ?_
  intro M111 h112
  cases e
  exact ⟨_, rfl, rfl, h112, fun v hv => by cases hv; exact (xin_wr _)⟩
theorem t50_51 {m f : Nat} {M0 M : xj_M} {T : xT_} (hS : xHS f)   (h : xCX m M0 M T) {x0 : Nat} {R : (Nat ⊕ Int) × xT_}  (e : c50_51  f x0 T = some R) : xok (f50_51  f x0 M) (fun r => r.1 = R.1 ∧ xCX m M0 r.2 R.2 ∧ ∀ v, R.1 = .inr v → xin v) := by
  unfold c50_51 at e
  unfold f50_51
  obtain ⟨v115, q116, e⟩ := xbnd e
  refine xok_eqb (h.gr (by decide) (by decide) q116) ?_
  obtain ⟨v117, q118, e⟩ := xbnd e
  refine xok_eqb (h.gr (by decide) (by decide) q118) ?_
  obtain ⟨v119, q120, e⟩ := xbnd e
  refine xok_eqb (h.gi (by decide) (by decide) q120).1 ?_
  obtain ⟨v121, q122, e⟩ := xbnd e
  refine xok_eqb (h.ai (by decide) q122).1 ?_
  obtain ⟨_, q128, e⟩ := xbnd e
  obtain ⟨R123, e124, e⟩ := xbnd e
  refine xok_eqb (h.is q128) ?_
  refine xok_call (t36 hS h (h.ai (by decide) q122).2 e124) ?_
  rintro ⟨v_, M125⟩ ⟨hv_, h126⟩
  cases hv_
  dsimp only
  cases g130 : R123.1 with
  | inl k_ =>
    rw [cth_l g130] at e; cases e
    rw [xth_l (by exact g130)]
    exact ⟨_, rfl, rfl, h126, fun v hv => by cases hv⟩
  | inr v129 =>
    rw [cth_r g130] at e
    rw [xth_r (by exact g130)]
    exact t50_67  hS  h126  e
theorem t50 {m f : Nat} {M0 M : xj_M} {T : xT_} (hS : xHS f) (h : xCX m M0 M T) {a0 : Nat} {a1 : Int} {R : (Nat ⊕ Int) × xT_} (ta1 : xin a1) (e : c50 f a0 a1 T = some R) : xok (f50 f a0 a1 M) (fun r => r.1 = R.1 ∧ xCX m M0 r.2 R.2 ∧ ∀ v, R.1 = .inr v → xin v) := by
  unfold c50 at e
  unfold f50
  obtain ⟨v131, q132, e⟩ := xbnd e
  refine xok_eqb (h.gr (by decide) (by decide) q132) ?_
  obtain ⟨v133, q134, e⟩ := xbnd e
  refine xok_eqb (h.gr (by decide) (by decide) q134) ?_
  obtain ⟨v135, q136, e⟩ := xbnd e
  refine xok_eqb (h.gi (by decide) (by decide) q136).1 ?_
  obtain ⟨v137, q138, e⟩ := xbnd e
  refine xok_eqb (h.ai (by decide) q138).1 ?_
  refine xok_ite (fun c139 => ?_) (fun c139 => ?_)
  · rw [if_pos c139] at e
    exact t50_51  hS  h  e
  · rw [if_neg c139] at e
    obtain ⟨v140, q141, e⟩ := xbnd e
    refine xok_eqb (h.gr (by decide) (by decide) q141) ?_
    obtain ⟨v142, q143, e⟩ := xbnd e
    refine xok_eqb (h.gr (by decide) (by decide) q143) ?_
    obtain ⟨v144, q145, e⟩ := xbnd e
    refine xok_eqb (h.gi (by decide) (by decide) q145).1 ?_
    obtain ⟨v146, q147, e⟩ := xbnd e
    refine xok_eqb (h.al q147).1 ?_
    refine xok_ite (fun c148 => ?_) (fun c148 => ?_)
    · rw [if_pos c148] at e
      exact t50_51  hS  h  e
    · rw [if_neg c148] at e
      obtain ⟨v149, q150, e⟩ := xbnd e
      refine xok_eqb (h.gr (by decide) (by decide) q150) ?_
      obtain ⟨v151, q152, e⟩ := xbnd e
      refine xok_eqb (h.gr (by decide) (by decide) q152) ?_
      obtain ⟨v153, q154, e⟩ := xbnd e
      refine xok_eqb (h.gi (by decide) (by decide) q154).1 ?_
      obtain ⟨v155, q156, e⟩ := xbnd e
      refine xok_eqb (h.al q156).1 ?_
      refine xok_ite (fun c157 => ?_) (fun c157 => ?_)
      · rw [if_pos c157] at e
        exact t50_67  hS  h  e
      · rw [if_neg c157] at e
        exact t50_51  hS  h  e
-- ChangeHouse$Reader.readCellName
theorem t52_51 {m f : Nat} {M0 M : xj_M} {T : xT_} (hS : xHS f)   (h : xCX m M0 M T) {x0 : Nat} {R : (Nat ⊕ Int) × xT_}  (e : c52_51  f x0 T = some R) : xok (f52_51  f x0 M) (fun r => r.1 = R.1 ∧ xCX m M0 r.2 R.2 ∧ ∀ v, R.1 = .inr v → xin v) := by
  unfold c52_51 at e
  unfold f52_51
  obtain ⟨v101, q102, e⟩ := xbnd e
  refine xok_eqb (h.gr (by decide) (by decide) q102) ?_
  obtain ⟨v103, q104, e⟩ := xbnd e
  refine xok_eqb (h.gr (by decide) (by decide) q104) ?_
  obtain ⟨v105, q106, e⟩ := xbnd e
  refine xok_eqb (h.gi (by decide) (by decide) q106).1 ?_
  obtain ⟨v107, q108, e⟩ := xbnd e
  refine xok_eqb (h.al q108).1 ?_
  obtain ⟨_, q114, e⟩ := xbnd e
  obtain ⟨R109, e110, e⟩ := xbnd e
  refine xok_eqb (h.is q114) ?_
  refine xok_call (t37 hS h  e110) ?_
  intro M111 h112
  cases e
  exact ⟨_, rfl, rfl, h112, fun v hv => by cases hv; exact (xin_wr _)⟩
theorem t52_35 {m f : Nat} {M0 M : xj_M} {T : xT_} (hS : xHS f)   (h : xCX m M0 M T) {x0 : Nat} {R : (Nat ⊕ Int) × xT_}  (e : c52_35  f x0 T = some R) : xok (f52_35  f x0 M) (fun r => r.1 = R.1 ∧ xCX m M0 r.2 R.2 ∧ ∀ v, R.1 = .inr v → xin v) := by
  unfold c52_35 at e
  unfold f52_35
  obtain ⟨v115, q116, e⟩ := xbnd e
  refine xok_eqb (h.gr (by decide) (by decide) q116) ?_
  obtain ⟨v117, q118, e⟩ := xbnd e
  refine xok_eqb (h.gr (by decide) (by decide) q118) ?_
  obtain ⟨v119, q120, e⟩ := xbnd e
  refine xok_eqb (h.gi (by decide) (by decide) q120).1 ?_
  obtain ⟨v121, q122, e⟩ := xbnd e
  refine xok_eqb (h.ai (by decide) q122).1 ?_
  obtain ⟨_, q128, e⟩ := xbnd e
  obtain ⟨R123, e124, e⟩ := xbnd e
  refine xok_eqb (h.is q128) ?_
  refine xok_call (t36 hS h (h.ai (by decide) q122).2 e124) ?_
  rintro ⟨v_, M125⟩ ⟨hv_, h126⟩
  cases hv_
  dsimp only
  cases g130 : R123.1 with
  | inl k_ =>
    rw [cth_l g130] at e; cases e
    rw [xth_l (by exact g130)]
    exact ⟨_, rfl, rfl, h126, fun v hv => by cases hv⟩
  | inr v129 =>
    rw [cth_r g130] at e
    rw [xth_r (by exact g130)]
    exact t52_51  hS  h126  e
theorem t52 {m f : Nat} {M0 M : xj_M} {T : xT_} (hS : xHS f) (h : xCX m M0 M T) {a0 : Nat} {R : (Nat ⊕ Int) × xT_}  (e : c52 f a0 T = some R) : xok (f52 f a0 M) (fun r => r.1 = R.1 ∧ xCX m M0 r.2 R.2 ∧ ∀ v, R.1 = .inr v → xin v) := by
  unfold c52 at e
  unfold f52
  obtain ⟨v131, q132, e⟩ := xbnd e
  refine xok_eqb (h.gr (by decide) (by decide) q132) ?_
  obtain ⟨v133, q134, e⟩ := xbnd e
  refine xok_eqb (h.gr (by decide) (by decide) q134) ?_
  obtain ⟨v135, q136, e⟩ := xbnd e
  refine xok_eqb (h.gi (by decide) (by decide) q136).1 ?_
  obtain ⟨v137, q138, e⟩ := xbnd e
  refine xok_eqb (h.ai (by decide) q138).1 ?_
  refine xok_ite (fun c139 => ?_) (fun c139 => ?_)
  · rw [if_pos c139] at e
    exact t52_35  hS  h  e
  · rw [if_neg c139] at e
    obtain ⟨v140, q141, e⟩ := xbnd e
    refine xok_eqb (h.gr (by decide) (by decide) q141) ?_
    obtain ⟨v142, q143, e⟩ := xbnd e
    refine xok_eqb (h.gr (by decide) (by decide) q143) ?_
    obtain ⟨v144, q145, e⟩ := xbnd e
    refine xok_eqb (h.gi (by decide) (by decide) q145).1 ?_
    obtain ⟨v146, q147, e⟩ := xbnd e
    refine xok_eqb (h.al q147).1 ?_
    refine xok_ite (fun c148 => ?_) (fun c148 => ?_)
    · rw [if_pos c148] at e
      exact t52_51  hS  h  e
    · rw [if_neg c148] at e
      exact t52_35  hS  h  e
-- ChangeHouse$Reader.strength
theorem t55_18 {m f : Nat} {M0 M : xj_M} {T : xT_} (hS : xHS f)   (h : xCX m M0 M T)  {R : Int × xT_}  (e : c55_18  f  T = some R) : xok (f55_18  f  M) (fun r => r.1 = R.1 ∧ xCX m M0 r.2 R.2 ∧ xin R.1) := by
  unfold c55_18 at e
  unfold f55_18
  cases e
  exact ⟨_, rfl, rfl, h, (show xin (2) by decide)⟩
theorem t55_37 {m f : Nat} {M0 M : xj_M} {T : xT_} (hS : xHS f)   (h : xCX m M0 M T) {y0 : Int} {R : Int × xT_} (ty0 : xin y0) (e : c55_37  f y0 T = some R) : xok (f55_37  f y0 M) (fun r => r.1 = R.1 ∧ xCX m M0 r.2 R.2 ∧ xin R.1) := by
  unfold c55_37 at e
  unfold f55_37
  cases e
  exact ⟨_, rfl, rfl, h, ty0⟩
theorem t55_32 {m f : Nat} {M0 M : xj_M} {T : xT_} (hS : xHS f)   (h : xCX m M0 M T)  {R : Int × xT_}  (e : c55_32  f  T = some R) : xok (f55_32  f  M) (fun r => r.1 = R.1 ∧ xCX m M0 r.2 R.2 ∧ xin R.1) := by
  unfold c55_32 at e
  unfold f55_32
  exact t55_37  hS  h (show xin (1) by decide) e
theorem t55 {m f : Nat} {M0 M : xj_M} {T : xT_} (hS : xHS f) (h : xCX m M0 M T) {a0 : Int} {R : Int × xT_} (ta0 : xin a0) (e : c55 f a0 T = some R) : xok (f55 f a0 M) (fun r => r.1 = R.1 ∧ xCX m M0 r.2 R.2 ∧ xin R.1) := by
  unfold c55 at e
  unfold f55
  refine xok_ite (fun c101 => ?_) (fun c101 => ?_)
  · rw [if_pos c101] at e
    exact t55_18  hS  h  e
  · rw [if_neg c101] at e
    refine xok_ite (fun c102 => ?_) (fun c102 => ?_)
    · rw [if_pos c102] at e
      exact t55_18  hS  h  e
    · rw [if_neg c102] at e
      refine xok_ite (fun c103 => ?_) (fun c103 => ?_)
      · rw [if_pos c103] at e
        refine xok_ite (fun c104 => ?_) (fun c104 => ?_)
        · rw [if_pos c104] at e
          exact t55_32  hS  h  e
        · rw [if_neg c104] at e
          refine xok_ite (fun c105 => ?_) (fun c105 => ?_)
          · rw [if_pos c105] at e
            exact t55_37  hS  h (show xin (0) by decide) e
          · rw [if_neg c105] at e
            exact t55_32  hS  h  e
      · rw [if_neg c103] at e
        exact t55_18  hS  h  e
-- ChangeHouse$Reader.emit
theorem t56_42 {m f : Nat} {M0 M : xj_M} {T : xT_} (hS : xHS f)   (h : xCX m M0 M T)  {R : xT_}  (e : c56_42  f  T = some R) : xok (f56_42  f  M) (fun r => xCX m M0 r R) := by
  unfold c56_42 at e
  unfold f56_42
  cases e
  exact ⟨_, rfl, h⟩
theorem t56 {m f : Nat} {M0 M : xj_M} {T : xT_} (hS : xHS f) (h : xCX m M0 M T) {a0 : Nat} {a1 : Int} {a2 : Int} {R : xT_} (ta1 : xin a1) (ta2 : xiN a2) (e : c56 f a0 a1 a2 T = some R) : xok (f56 f a0 a1 a2 M) (fun r => xCX m M0 r R) := by
  unfold c56 at e
  unfold f56
  obtain ⟨v101, q102, e⟩ := xbnd e
  refine xok_eqb (h.gi (by decide) (by decide) q102).1 ?_
  obtain ⟨v103, q104, e⟩ := xbnd e
  refine xok_eqb (h.gr (by decide) (by decide) q104) ?_
  obtain ⟨v105, q106, e⟩ := xbnd e
  refine xok_eqb (h.ln q106).1 ?_
  refine xok_ite (fun c107 => ?_) (fun c107 => ?_)
  · rw [if_pos c107] at e
    exact t56_42  hS  h  e
  · rw [if_neg c107] at e
    obtain ⟨v108, q109, e⟩ := xbnd e
    refine xok_eqb (h.gr (by decide) (by decide) q109) ?_
    obtain ⟨v110, q111, e⟩ := xbnd e
    refine xok_eqb (h.gi (by decide) (by decide) q111).1 ?_
    obtain ⟨T113, q112, e⟩ := xbnd e
    obtain ⟨M114, q115, h116⟩ := h.si ta1 q112
    refine xok_eqb q115 ?_
    obtain ⟨v117, q118, e⟩ := xbnd e
    refine xok_eqb (h116.gr (by decide) (by decide) q118) ?_
    obtain ⟨v119, q120, e⟩ := xbnd e
    refine xok_eqb (h116.gi (by decide) (by decide) q120).1 ?_
    obtain ⟨T122, q121, e⟩ := xbnd e
    obtain ⟨M123, q124, h125⟩ := h116.sl ta2 q121
    refine xok_eqb q124 ?_
    obtain ⟨v126, q127, e⟩ := xbnd e
    refine xok_eqb (h125.gi (by decide) (by decide) q127).1 ?_
    obtain ⟨T129, q128, e⟩ := xbnd e
    obtain ⟨M130, q131, h132⟩ := h125.pi (by decide) (by decide) (xin_wr _) q128
    refine xok_eqb q131 ?_
    exact t56_42  hS  h132  e
-- ChangeHouse$Reader.push
theorem t57_29 {m f : Nat} {M0 M : xj_M} {T : xT_} (hS : xHS f)   (h : xCX m M0 M T)  {R : xT_}  (e : c57_29  f  T = some R) : xok (f57_29  f  M) (fun r => xCX m M0 r R) := by
  unfold c57_29 at e
  unfold f57_29
  cases e
  exact ⟨_, rfl, h⟩
theorem t57 {m f : Nat} {M0 M : xj_M} {T : xT_} (hS : xHS f) (h : xCX m M0 M T) {a0 : Nat} {a1 : Int} {R : xT_} (ta1 : xin a1) (e : c57 f a0 a1 T = some R) : xok (f57 f a0 a1 M) (fun r => xCX m M0 r R) := by
  unfold c57 at e
  unfold f57
  obtain ⟨v101, q102, e⟩ := xbnd e
  refine xok_eqb (h.gi (by decide) (by decide) q102).1 ?_
  refine xok_ite (fun c103 => ?_) (fun c103 => ?_)
  · rw [if_pos c103] at e
    exact t57_29  hS  h  e
  · rw [if_neg c103] at e
    obtain ⟨v104, q105, e⟩ := xbnd e
    refine xok_eqb (h.gr (by decide) (by decide) q105) ?_
    obtain ⟨v106, q107, e⟩ := xbnd e
    refine xok_eqb (h.gi (by decide) (by decide) q107).1 ?_
    obtain ⟨T109, q108, e⟩ := xbnd e
    obtain ⟨M110, q111, h112⟩ := h.si ta1 q108
    refine xok_eqb q111 ?_
    obtain ⟨v113, q114, e⟩ := xbnd e
    refine xok_eqb (h112.gi (by decide) (by decide) q114).1 ?_
    obtain ⟨T116, q115, e⟩ := xbnd e
    obtain ⟨M117, q118, h119⟩ := h112.pi (by decide) (by decide) (xin_wr _) q115
    refine xok_eqb q118 ?_
    exact t57_29  hS  h119  e
-- ChangeHouse$Reader.countBrackets
theorem t58_30 {m f : Nat} {M0 M : xj_M} {T : xT_} (hS : xHS f) {r4 : Nat → Int → Int → xT_ → Option (Int × xT_)} {o4 : Nat → Int → Int → xj_M → Option (Int × xj_M)} (hr4 : ∀ {M : xj_M} {T : xT_} {x0 : Nat} {x1 : Int} {x2 : Int} {R : Int × xT_}, xCX m M0 M T → xin x1 → xin x2 → r4 x0 x1 x2 T = some R → xok (o4 x0 x1 x2 M) (fun r => r.1 = R.1 ∧ xCX m M0 r.2 R.2 ∧ xin R.1)) (h : xCX m M0 M T) {x0 : Nat} {x2 : Int} {y0 : Int} {y1 : Int} {R : Int × xT_} (tx2 : xin x2) (ty0 : xin y0) (ty1 : xin y1) (e : c58_30 r4 f x0 x2 y0 y1 T = some R) : xok (f58_30 o4 f x0 x2 y0 y1 M) (fun r => r.1 = R.1 ∧ xCX m M0 r.2 R.2 ∧ xin R.1) := by
  unfold c58_30 at e
  unfold f58_30
  exact hr4 h (xin_wr _) (xin_wr _) e
theorem t58_4b {m f : Nat} {M0 M : xj_M} {T : xT_} (hS : xHS f) {r4 : Nat → Int → Int → xT_ → Option (Int × xT_)} {o4 : Nat → Int → Int → xj_M → Option (Int × xj_M)} (hr4 : ∀ {M : xj_M} {T : xT_} {x0 : Nat} {x1 : Int} {x2 : Int} {R : Int × xT_}, xCX m M0 M T → xin x1 → xin x2 → r4 x0 x1 x2 T = some R → xok (o4 x0 x1 x2 M) (fun r => r.1 = R.1 ∧ xCX m M0 r.2 R.2 ∧ xin R.1)) (h : xCX m M0 M T) {x0 : Nat} {x1 : Int} {x2 : Int} {R : Int × xT_} (tx1 : xin x1) (tx2 : xin x2) (e : c58_4b r4 f x0 x1 x2 T = some R) : xok (f58_4b o4 f x0 x1 x2 M) (fun r => r.1 = R.1 ∧ xCX m M0 r.2 R.2 ∧ xin R.1) := by
  unfold c58_4b at e
  unfold f58_4b
  obtain ⟨v101, q102, e⟩ := xbnd e
  refine xok_eqb (h.gi (by decide) (by decide) q102).1 ?_
  refine xok_ite (fun c103 => ?_) (fun c103 => ?_)
  · rw [if_pos c103] at e
    cases e
    exact ⟨_, rfl, rfl, h, tx1⟩
  · rw [if_neg c103] at e
    obtain ⟨v104, q105, e⟩ := xbnd e
    refine xok_eqb (h.gr (by decide) (by decide) q105) ?_
    obtain ⟨v106, q107, e⟩ := xbnd e
    refine xok_eqb (h.ai (by decide) q107).1 ?_
    obtain ⟨R108, e109, e⟩ := xbnd e
    refine xok_call (t55 hS h (h.ai (by decide) q107).2 e109) ?_
    rintro ⟨v_, M110⟩ ⟨hv_, h111, hi112⟩
    cases hv_
    refine xok_ite (fun c113 => ?_) (fun c113 => ?_)
    · rw [if_pos c113] at e
      exact t58_30 (r4 := r4) (o4 := o4) hS @hr4 h111 tx2 (show xin (0) by decide) tx1 e
    · rw [if_neg c113] at e
      exact t58_30 (r4 := r4) (o4 := o4) hS @hr4 h111 tx2 (show xin (1) by decide) tx1 e
theorem t58_4 {m f : Nat} {M0 : xj_M} (hS : xHS f)   : ∀ {n : Nat} {M : xj_M} {T : xT_} {x0 : Nat} {x1 : Int} {x2 : Int} {R : Int × xT_}, xCX m M0 M T → xin x1 → xin x2 → c58_4  f n x0 x1 x2 T = some R → xok (f58_4  f n x0 x1 x2 M) (fun r => r.1 = R.1 ∧ xCX m M0 r.2 R.2 ∧ xin R.1) := by
  intro n
  induction n with
  | zero => intros; rename_i e; cases e
  | succ n ih =>
    intros
    rename_i h i0 i1 e
    exact t58_4b hS  @ih h i0 i1 e
theorem t58 {m f : Nat} {M0 M : xj_M} {T : xT_} (hS : xHS f) (h : xCX m M0 M T) {a0 : Nat} {R : Int × xT_}  (e : c58 f a0 T = some R) : xok (f58 f a0 M) (fun r => r.1 = R.1 ∧ xCX m M0 r.2 R.2 ∧ xin R.1) := by
  unfold c58 at e
  unfold f58
  exact t58_4  hS  h (show xin (0) by decide) (show xin (0) by decide) e
-- ChangeHouse$Reader.settleSigns
theorem t59_52 {m f : Nat} {M0 M : xj_M} {T : xT_} (hS : xHS f)   (h : xCX m M0 M T)  {R : xT_}  (e : c59_52  f  T = some R) : xok (f59_52  f  M) (fun r => xCX m M0 r R) := by
  unfold c59_52 at e
  unfold f59_52
  cases e
  exact ⟨_, rfl, h⟩
theorem t59_0b {m f : Nat} {M0 M : xj_M} {T : xT_} (hS : xHS f) {r0 : Nat → Int → xT_ → Option (xT_)} {o0 : Nat → Int → xj_M → Option (xj_M)} (hr0 : ∀ {M : xj_M} {T : xT_} {x0 : Nat} {x1 : Int} {R : xT_}, xCX m M0 M T → xin x1 → r0 x0 x1 T = some R → xok (o0 x0 x1 M) (fun r => xCX m M0 r R)) (h : xCX m M0 M T) {x0 : Nat} {x1 : Int} {R : xT_} (tx1 : xin x1) (e : c59_0b r0 f x0 x1 T = some R) : xok (f59_0b o0 f x0 x1 M) (fun r => xCX m M0 r R) := by
  unfold c59_0b at e
  unfold f59_0b
  obtain ⟨v101, q102, e⟩ := xbnd e
  refine xok_eqb (h.gi (by decide) (by decide) q102).1 ?_
  refine xok_ite (fun c103 => ?_) (fun c103 => ?_)
  · rw [if_pos c103] at e
    exact t59_52  hS  h  e
  · rw [if_neg c103] at e
    obtain ⟨v104, q105, e⟩ := xbnd e
    refine xok_eqb (h.gr (by decide) (by decide) q105) ?_
    obtain ⟨v106, q107, e⟩ := xbnd e
    refine xok_eqb (h.gi (by decide) (by decide) q107).1 ?_
    obtain ⟨v108, q109, e⟩ := xbnd e
    refine xok_eqb (h.ai (by decide) q109).1 ?_
    obtain ⟨R110, e111, e⟩ := xbnd e
    refine xok_call (t55 hS h (h.ai (by decide) q109).2 e111) ?_
    rintro ⟨v_, M112⟩ ⟨hv_, h113, hi114⟩
    cases hv_
    refine xok_ite (fun c115 => ?_) (fun c115 => ?_)
    · rw [if_pos c115] at e
      exact t59_52  hS  h113  e
    · rw [if_neg c115] at e
      obtain ⟨v116, q117, e⟩ := xbnd e
      refine xok_eqb (h113.gi (by decide) (by decide) q117).1 ?_
      obtain ⟨T119, q118, e⟩ := xbnd e
      obtain ⟨M120, q121, h122⟩ := h113.pi (by decide) (by decide) (xin_wr _) q118
      refine xok_eqb q121 ?_
      obtain ⟨v123, q124, e⟩ := xbnd e
      refine xok_eqb (h122.gr (by decide) (by decide) q124) ?_
      obtain ⟨v125, q126, e⟩ := xbnd e
      refine xok_eqb (h122.gi (by decide) (by decide) q126).1 ?_
      obtain ⟨v127, q128, e⟩ := xbnd e
      refine xok_eqb (h122.ai (by decide) q128).1 ?_
      obtain ⟨_, q134, e⟩ := xbnd e
      obtain ⟨R129, e130, e⟩ := xbnd e
      refine xok_eqb (h122.is q134) ?_
      refine xok_call (t56 hS h122 (h122.ai (by decide) q128).2 (show xiN (0) by decide) e130) ?_
      intro M131 h132
      exact hr0 h132 tx1 e
theorem t59_0 {m f : Nat} {M0 : xj_M} (hS : xHS f)   : ∀ {n : Nat} {M : xj_M} {T : xT_} {x0 : Nat} {x1 : Int} {R : xT_}, xCX m M0 M T → xin x1 → c59_0  f n x0 x1 T = some R → xok (f59_0  f n x0 x1 M) (fun r => xCX m M0 r R) := by
  intro n
  induction n with
  | zero => intros; rename_i e; cases e
  | succ n ih =>
    intros
    rename_i h i0 e
    exact t59_0b hS  @ih h i0 e
theorem t59 {m f : Nat} {M0 M : xj_M} {T : xT_} (hS : xHS f) (h : xCX m M0 M T) {a0 : Nat} {a1 : Int} {R : xT_} (ta1 : xin a1) (e : c59 f a0 a1 T = some R) : xok (f59 f a0 a1 M) (fun r => xCX m M0 r R) := by
  unfold c59 at e
  unfold f59
  exact t59_0  hS  h ta1 e
-- ChangeHouse$Reader.openBracket
theorem t60_75 {m f : Nat} {M0 M : xj_M} {T : xT_} (hS : xHS f)   (h : xCX m M0 M T) {y0 : Int} {y1 : Nat} {R : (Nat ⊕ Unit) × xT_} (ty0 : xin y0) (e : c60_75  f y0 y1 T = some R) : xok (f60_75  f y0 y1 M) (fun r => r.1 = R.1 ∧ xCX m M0 r.2 R.2) := by
  unfold c60_75 at e
  unfold f60_75
  obtain ⟨_, q106, e⟩ := xbnd e
  obtain ⟨R101, e102, e⟩ := xbnd e
  refine xok_eqb (h.is q106) ?_
  refine xok_call (t57 hS h ty0 e102) ?_
  intro M103 h104
  cases e
  exact ⟨_, rfl, rfl, h104⟩
theorem t60_61 {m f : Nat} {M0 M : xj_M} {T : xT_} (hS : xHS f)   (h : xCX m M0 M T) {x0 : Nat} {x2 : Int} {R : (Nat ⊕ Unit) × xT_} (tx2 : xin x2) (e : c60_61  f x0 x2 T = some R) : xok (f60_61  f x0 x2 M) (fun r => r.1 = R.1 ∧ xCX m M0 r.2 R.2) := by
  unfold c60_61 at e
  unfold f60_61
  obtain ⟨_, q112, e⟩ := xbnd e
  obtain ⟨R107, e108, e⟩ := xbnd e
  refine xok_eqb (h.is q112) ?_
  refine xok_call (t37 hS h  e108) ?_
  intro M109 h110
  refine xok_ite (fun c113 => ?_) (fun c113 => ?_)
  · rw [if_pos c113] at e
    exact t60_75  hS  h110 (show xin (2) by decide) e
  · rw [if_neg c113] at e
    exact t60_75  hS  h110 (show xin (1) by decide) e
theorem t60_45 {m f : Nat} {M0 M : xj_M} {T : xT_} (hS : xHS f)   (h : xCX m M0 M T) {x0 : Nat} {x2 : Int} {R : (Nat ⊕ Unit) × xT_} (tx2 : xin x2) (e : c60_45  f x0 x2 T = some R) : xok (f60_45  f x0 x2 M) (fun r => r.1 = R.1 ∧ xCX m M0 r.2 R.2) := by
  unfold c60_45 at e
  unfold f60_45
  obtain ⟨v114, q115, e⟩ := xbnd e
  refine xok_eqb (h.gr (by decide) (by decide) q115) ?_
  obtain ⟨v116, q117, e⟩ := xbnd e
  refine xok_eqb (h.gr (by decide) (by decide) q117) ?_
  obtain ⟨v118, q119, e⟩ := xbnd e
  refine xok_eqb (h.gi (by decide) (by decide) q119).1 ?_
  obtain ⟨v120, q121, e⟩ := xbnd e
  refine xok_eqb (h.ai (by decide) q121).1 ?_
  obtain ⟨_, q127, e⟩ := xbnd e
  obtain ⟨R122, e123, e⟩ := xbnd e
  refine xok_eqb (h.is q127) ?_
  refine xok_call (t36 hS h (h.ai (by decide) q121).2 e123) ?_
  rintro ⟨v_, M124⟩ ⟨hv_, h125⟩
  cases hv_
  dsimp only
  cases g129 : R122.1 with
  | inl k_ =>
    rw [cth_l g129] at e; cases e
    rw [xth_l (by exact g129)]
    exact ⟨_, rfl, rfl, h125⟩
  | inr v128 =>
    rw [cth_r g129] at e
    rw [xth_r (by exact g129)]
    exact t60_61  hS  h125 tx2 e
theorem t60_20 {m f : Nat} {M0 M : xj_M} {T : xT_} (hS : xHS f)   (h : xCX m M0 M T) {x0 : Nat} {x2 : Int} {R : (Nat ⊕ Unit) × xT_} (tx2 : xin x2) (e : c60_20  f x0 x2 T = some R) : xok (f60_20  f x0 x2 M) (fun r => r.1 = R.1 ∧ xCX m M0 r.2 R.2) := by
  unfold c60_20 at e
  unfold f60_20
  obtain ⟨v130, q131, e⟩ := xbnd e
  refine xok_eqb (h.gr (by decide) (by decide) q131) ?_
  obtain ⟨v132, q133, e⟩ := xbnd e
  refine xok_eqb (h.gr (by decide) (by decide) q133) ?_
  obtain ⟨v134, q135, e⟩ := xbnd e
  refine xok_eqb (h.gi (by decide) (by decide) q135).1 ?_
  obtain ⟨v136, q137, e⟩ := xbnd e
  refine xok_eqb (h.ai (by decide) q137).1 ?_
  refine xok_ite (fun c138 => ?_) (fun c138 => ?_)
  · rw [if_pos c138] at e
    exact t60_45  hS  h tx2 e
  · rw [if_neg c138] at e
    obtain ⟨_, q144, e⟩ := xbnd e
    obtain ⟨R139, e140, e⟩ := xbnd e
    refine xok_eqb (h.is q144) ?_
    refine xok_call (t58 hS h  e140) ?_
    rintro ⟨v_, M141⟩ ⟨hv_, h142, hi143⟩
    cases hv_
    refine xok_ite (fun c145 => ?_) (fun c145 => ?_)
    · rw [if_pos c145] at e
      exact t60_61  hS  h142 tx2 e
    · rw [if_neg c145] at e
      exact t60_45  hS  h142 tx2 e
theorem t60_11 {m f : Nat} {M0 M : xj_M} {T : xT_} (hS : xHS f)   (h : xCX m M0 M T) {x0 : Nat} {y0 : Int} {R : (Nat ⊕ Unit) × xT_} (ty0 : xin y0) (e : c60_11  f x0 y0 T = some R) : xok (f60_11  f x0 y0 M) (fun r => r.1 = R.1 ∧ xCX m M0 r.2 R.2) := by
  unfold c60_11 at e
  unfold f60_11
  refine xok_ite (fun c146 => ?_) (fun c146 => ?_)
  · rw [if_pos c146] at e
    exact t60_20  hS  h ty0 e
  · rw [if_neg c146] at e
    obtain ⟨_, q152, e⟩ := xbnd e
    obtain ⟨R147, e148, e⟩ := xbnd e
    refine xok_eqb (h.is q152) ?_
    refine xok_call (t37 hS h  e148) ?_
    intro M149 h150
    exact t60_20  hS  h150 ty0 e
theorem t60 {m f : Nat} {M0 M : xj_M} {T : xT_} (hS : xHS f) (h : xCX m M0 M T) {a0 : Nat} {a1 : Int} {R : (Nat ⊕ Unit) × xT_} (ta1 : xin a1) (e : c60 f a0 a1 T = some R) : xok (f60 f a0 a1 M) (fun r => r.1 = R.1 ∧ xCX m M0 r.2 R.2) := by
  unfold c60 at e
  unfold f60
  refine xok_ite (fun c153 => ?_) (fun c153 => ?_)
  · rw [if_pos c153] at e
    exact t60_11  hS  h (show xin (0) by decide) e
  · rw [if_neg c153] at e
    exact t60_11  hS  h (show xin (1) by decide) e
-- ChangeHouse$Reader.passPart
theorem t61_197 {m f : Nat} {M0 M : xj_M} {T : xT_} (hS : xHS f)   (h : xCX m M0 M T) {y0 : Int} {R : (Nat ⊕ Int) × xT_} (ty0 : xin y0) (e : c61_197  f y0 T = some R) : xok (f61_197  f y0 M) (fun r => r.1 = R.1 ∧ xCX m M0 r.2 R.2 ∧ ∀ v, R.1 = .inr v → xin v) := by
  unfold c61_197 at e
  unfold f61_197
  refine xok_ite (fun c101 => ?_) (fun c101 => ?_)
  · rw [if_pos c101] at e; cases e; exact ⟨_, rfl, rfl, h, fun v hv => by cases hv; exact ty0⟩
  · rw [if_neg c101] at e; cases e
theorem t61_187 {m f : Nat} {M0 M : xj_M} {T : xT_} (hS : xHS f)   (h : xCX m M0 M T) {x4 : Int} {R : (Nat ⊕ Int) × xT_} (tx4 : xin x4) (e : c61_187  f x4 T = some R) : xok (f61_187  f x4 M) (fun r => r.1 = R.1 ∧ xCX m M0 r.2 R.2 ∧ ∀ v, R.1 = .inr v → xin v) := by
  unfold c61_187 at e
  unfold f61_187
  refine xok_ite (fun c102 => ?_) (fun c102 => ?_)
  · rw [if_pos c102] at e
    exact t61_197  hS  h (show xin (0) by decide) e
  · rw [if_neg c102] at e
    exact t61_197  hS  h (show xin (1) by decide) e
theorem t61_160 {m f : Nat} {M0 M : xj_M} {T : xT_} (hS : xHS f)   (h : xCX m M0 M T) {x0 : Nat} {x2 : Int} {x3 : Int} {x4 : Int} {R : (Nat ⊕ Int) × xT_} (tx2 : xin x2) (tx3 : xin x3) (tx4 : xin x4) (e : c61_160  f x0 x2 x3 x4 T = some R) : xok (f61_160  f x0 x2 x3 x4 M) (fun r => r.1 = R.1 ∧ xCX m M0 r.2 R.2 ∧ ∀ v, R.1 = .inr v → xin v) := by
  unfold c61_160 at e
  unfold f61_160
  refine xok_ite (fun c103 => ?_) (fun c103 => ?_)
  · rw [if_pos c103] at e
    obtain ⟨v104, q105, e⟩ := xbnd e
    refine xok_eqb (h.gr (by decide) (by decide) q105) ?_
    obtain ⟨T107, q106, e⟩ := xbnd e
    obtain ⟨M108, q109, h110⟩ := h.si (xin_wr _) q106
    refine xok_eqb q109 ?_
    exact t61_187  hS  h110 tx4 e
  · rw [if_neg c103] at e
    obtain ⟨v111, q112, e⟩ := xbnd e
    refine xok_eqb (h.gi (by decide) (by decide) q112).1 ?_
    obtain ⟨T114, q113, e⟩ := xbnd e
    obtain ⟨M115, q116, h117⟩ := h.pi (by decide) (by decide) (xin_wr _) q113
    refine xok_eqb q116 ?_
    exact t61_187  hS  h117 tx4 e
theorem t61_71 {m f : Nat} {M0 M : xj_M} {T : xT_} (hS : xHS f)   (h : xCX m M0 M T) {x0 : Nat} {x2 : Int} {x3 : Int} {x4 : Int} {R : (Nat ⊕ Int) × xT_} (tx2 : xin x2) (tx3 : xin x3) (tx4 : xin x4) (e : c61_71  f x0 x2 x3 x4 T = some R) : xok (f61_71  f x0 x2 x3 x4 M) (fun r => r.1 = R.1 ∧ xCX m M0 r.2 R.2 ∧ ∀ v, R.1 = .inr v → xin v) := by
  unfold c61_71 at e
  unfold f61_71
  refine xok_ite (fun c118 => ?_) (fun c118 => ?_)
  · rw [if_pos c118] at e
    refine xok_ite (fun c119 => ?_) (fun c119 => ?_)
    · rw [if_pos c119] at e
      refine xok_ite (fun c120 => ?_) (fun c120 => ?_)
      · rw [if_pos c120] at e
        exact t61_160  hS  h tx2 tx3 tx4 e
      · rw [if_neg c120] at e
        obtain ⟨v121, q122, e⟩ := xbnd e
        refine xok_eqb (h.gr (by decide) (by decide) q122) ?_
        obtain ⟨v123, q124, e⟩ := xbnd e
        refine xok_eqb (h.gr (by decide) (by decide) q124) ?_
        obtain ⟨v125, q126, e⟩ := xbnd e
        refine xok_eqb (h.ai (by decide) q126).1 ?_
        obtain ⟨v127, q128, e⟩ := xbnd e
        refine xok_eqb (h.gi (by decide) (by decide) q128).1 ?_
        obtain ⟨T130, q129, e⟩ := xbnd e
        obtain ⟨M131, q132, h133⟩ := h.sl (xin_N (h.gi (by decide) (by decide) q128).2) q129
        refine xok_eqb q132 ?_
        exact t61_160  hS  h133 tx2 tx3 tx4 e
    · rw [if_neg c119] at e
      obtain ⟨v134, q135, e⟩ := xbnd e
      refine xok_eqb (h.gr (by decide) (by decide) q135) ?_
      obtain ⟨v136, q137, e⟩ := xbnd e
      refine xok_eqb (h.gr (by decide) (by decide) q137) ?_
      obtain ⟨v138, q139, e⟩ := xbnd e
      refine xok_eqb (h.ai (by decide) q139).1 ?_
      obtain ⟨v140, q141, e⟩ := xbnd e
      refine xok_eqb (h.gi (by decide) (by decide) q141).1 ?_
      obtain ⟨T143, q142, e⟩ := xbnd e
      obtain ⟨M144, q145, h146⟩ := h.sl (xin_N (xin_wr _)) q142
      refine xok_eqb q145 ?_
      obtain ⟨v147, q148, e⟩ := xbnd e
      refine xok_eqb (h146.gr (by decide) (by decide) q148) ?_
      obtain ⟨v149, q150, e⟩ := xbnd e
      refine xok_eqb (h146.gi (by decide) (by decide) q150).1 ?_
      obtain ⟨T152, q151, e⟩ := xbnd e
      obtain ⟨M153, q154, h155⟩ := h146.si (h146.gi (by decide) (by decide) q150).2 q151
      refine xok_eqb q154 ?_
      obtain ⟨_, q161, e⟩ := xbnd e
      obtain ⟨R156, e157, e⟩ := xbnd e
      refine xok_eqb (h155.is q161) ?_
      refine xok_call (t56 hS h155 (show xin (15) by decide) (show xiN (0) by decide) e157) ?_
      intro M158 h159
      exact t61_160  hS  h159 tx2 tx3 tx4 e
  · rw [if_neg c118] at e
    obtain ⟨v162, q163, e⟩ := xbnd e
    refine xok_eqb (h.gr (by decide) (by decide) q163) ?_
    obtain ⟨v164, q165, e⟩ := xbnd e
    refine xok_eqb (h.gi (by decide) (by decide) q165).1 ?_
    obtain ⟨T167, q166, e⟩ := xbnd e
    obtain ⟨M168, q169, h170⟩ := h.si (h.gi (by decide) (by decide) q165).2 q166
    refine xok_eqb q169 ?_
    obtain ⟨_, q176, e⟩ := xbnd e
    obtain ⟨R171, e172, e⟩ := xbnd e
    refine xok_eqb (h170.is q176) ?_
    refine xok_call (t56 hS h170 (show xin (14) by decide) (show xiN (0) by decide) e172) ?_
    intro M173 h174
    exact t61_160  hS  h174 tx2 tx3 tx4 e
theorem t61_52 {m f : Nat} {M0 M : xj_M} {T : xT_} (hS : xHS f)   (h : xCX m M0 M T) {x0 : Nat} {x2 : Int} {x3 : Int} {x4 : Int} {y0 : Int} {y1 : Int} {R : (Nat ⊕ Int) × xT_} (tx2 : xin x2) (tx3 : xin x3) (tx4 : xin x4) (ty0 : xin y0) (ty1 : xin y1) (e : c61_52  f x0 x2 x3 x4 y0 y1 T = some R) : xok (f61_52  f x0 x2 x3 x4 y0 y1 M) (fun r => r.1 = R.1 ∧ xCX m M0 r.2 R.2 ∧ ∀ v, R.1 = .inr v → xin v) := by
  unfold c61_52 at e
  unfold f61_52
  refine xok_ite (fun c177 => ?_) (fun c177 => ?_)
  · rw [if_pos c177] at e
    exact t61_71  hS  h tx2 tx3 tx4 e
  · rw [if_neg c177] at e
    obtain ⟨v178, q179, e⟩ := xbnd e
    refine xok_eqb (h.gr (by decide) (by decide) q179) ?_
    obtain ⟨v180, q181, e⟩ := xbnd e
    refine xok_eqb (h.gr (by decide) (by decide) q181) ?_
    obtain ⟨v182, q183, e⟩ := xbnd e
    refine xok_eqb (h.gi (by decide) (by decide) q183).1 ?_
    obtain ⟨v184, q185, e⟩ := xbnd e
    refine xok_eqb (h.ai (by decide) q185).1 ?_
    obtain ⟨_, q191, e⟩ := xbnd e
    obtain ⟨R186, e187, e⟩ := xbnd e
    refine xok_eqb (h.is q191) ?_
    refine xok_call (t36 hS h (h.ai (by decide) q185).2 e187) ?_
    rintro ⟨v_, M188⟩ ⟨hv_, h189⟩
    cases hv_
    dsimp only
    cases g193 : R186.1 with
    | inl k_ =>
      rw [cth_l g193] at e; cases e
      rw [xth_l (by exact g193)]
      exact ⟨_, rfl, rfl, h189, fun v hv => by cases hv⟩
    | inr v192 =>
      rw [cth_r g193] at e
      rw [xth_r (by exact g193)]
      exact t61_71  hS  h189 tx2 tx3 tx4 e
theorem t61_37 {m f : Nat} {M0 M : xj_M} {T : xT_} (hS : xHS f)   (h : xCX m M0 M T) {x0 : Nat} {x1 : Int} {x2 : Int} {x3 : Int} {y0 : Int} {R : (Nat ⊕ Int) × xT_} (tx1 : xin x1) (tx2 : xin x2) (tx3 : xin x3) (ty0 : xin y0) (e : c61_37  f x0 x1 x2 x3 y0 T = some R) : xok (f61_37  f x0 x1 x2 x3 y0 M) (fun r => r.1 = R.1 ∧ xCX m M0 r.2 R.2 ∧ ∀ v, R.1 = .inr v → xin v) := by
  unfold c61_37 at e
  unfold f61_37
  refine xok_ite (fun c194 => ?_) (fun c194 => ?_)
  · rw [if_pos c194] at e
    exact t61_52  hS  h tx2 tx3 ty0 (show xin (44) by decide) tx1 e
  · rw [if_neg c194] at e
    exact t61_52  hS  h tx2 tx3 ty0 (show xin (41) by decide) tx1 e
theorem t61_32 {m f : Nat} {M0 M : xj_M} {T : xT_} (hS : xHS f)   (h : xCX m M0 M T) {x0 : Nat} {x1 : Int} {x2 : Int} {x3 : Int} {R : (Nat ⊕ Int) × xT_} (tx1 : xin x1) (tx2 : xin x2) (tx3 : xin x3) (e : c61_32  f x0 x1 x2 x3 T = some R) : xok (f61_32  f x0 x1 x2 x3 M) (fun r => r.1 = R.1 ∧ xCX m M0 r.2 R.2 ∧ ∀ v, R.1 = .inr v → xin v) := by
  unfold c61_32 at e
  unfold f61_32
  exact t61_37  hS  h tx1 tx2 tx3 (show xin (1) by decide) e
theorem t61_21 {m f : Nat} {M0 M : xj_M} {T : xT_} (hS : xHS f)   (h : xCX m M0 M T) {x0 : Nat} {x1 : Int} {x2 : Int} {y0 : Int} {R : (Nat ⊕ Int) × xT_} (tx1 : xin x1) (tx2 : xin x2) (ty0 : xin y0) (e : c61_21  f x0 x1 x2 y0 T = some R) : xok (f61_21  f x0 x1 x2 y0 M) (fun r => r.1 = R.1 ∧ xCX m M0 r.2 R.2 ∧ ∀ v, R.1 = .inr v → xin v) := by
  unfold c61_21 at e
  unfold f61_21
  refine xok_ite (fun c195 => ?_) (fun c195 => ?_)
  · rw [if_pos c195] at e
    exact t61_32  hS  h tx1 tx2 ty0 e
  · rw [if_neg c195] at e
    refine xok_ite (fun c196 => ?_) (fun c196 => ?_)
    · rw [if_pos c196] at e
      exact t61_37  hS  h tx1 tx2 ty0 (show xin (0) by decide) e
    · rw [if_neg c196] at e
      exact t61_32  hS  h tx1 tx2 ty0 e
theorem t61 {m f : Nat} {M0 M : xj_M} {T : xT_} (hS : xHS f) (h : xCX m M0 M T) {a0 : Nat} {a1 : Int} {R : (Nat ⊕ Int) × xT_} (ta1 : xin a1) (e : c61 f a0 a1 T = some R) : xok (f61 f a0 a1 M) (fun r => r.1 = R.1 ∧ xCX m M0 r.2 R.2 ∧ ∀ v, R.1 = .inr v → xin v) := by
  unfold c61 at e
  unfold f61
  obtain ⟨v197, q198, e⟩ := xbnd e
  refine xok_eqb (h.gi (by decide) (by decide) q198).1 ?_
  refine xok_ite (fun c199 => ?_) (fun c199 => ?_)
  · rw [if_pos c199] at e
    exact t61_21  hS  h ta1 (xin_wr _) (show xin (0) by decide) e
  · rw [if_neg c199] at e
    obtain ⟨v200, q201, e⟩ := xbnd e
    refine xok_eqb (h.gr (by decide) (by decide) q201) ?_
    obtain ⟨v202, q203, e⟩ := xbnd e
    refine xok_eqb (h.ai (by decide) q203).1 ?_
    exact t61_21  hS  h ta1 (xin_wr _) (h.ai (by decide) q203).2 e
-- ChangeHouse$Reader.changesFault
theorem t64_44 {m f : Nat} {M0 M : xj_M} {T : xT_} (hS : xHS f)   (h : xCX m M0 M T)  {R : Int × xT_}  (e : c64_44  f  T = some R) : xok (f64_44  f  M) (fun r => r.1 = R.1 ∧ xCX m M0 r.2 R.2 ∧ xin R.1) := by
  unfold c64_44 at e
  unfold f64_44
  cases e
  exact ⟨_, rfl, rfl, h, (show xin (2) by decide)⟩
theorem t64_2b {m f : Nat} {M0 M : xj_M} {T : xT_} (hS : xHS f) {r2 : Nat → Int → xT_ → Option (Int × xT_)} {o2 : Nat → Int → xj_M → Option (Int × xj_M)} (hr2 : ∀ {M : xj_M} {T : xT_} {x0 : Nat} {x1 : Int} {R : Int × xT_}, xCX m M0 M T → xin x1 → r2 x0 x1 T = some R → xok (o2 x0 x1 M) (fun r => r.1 = R.1 ∧ xCX m M0 r.2 R.2 ∧ xin R.1)) (h : xCX m M0 M T) {x0 : Nat} {x1 : Int} {R : Int × xT_} (tx1 : xin x1) (e : c64_2b r2 f x0 x1 T = some R) : xok (f64_2b o2 f x0 x1 M) (fun r => r.1 = R.1 ∧ xCX m M0 r.2 R.2 ∧ xin R.1) := by
  unfold c64_2b at e
  unfold f64_2b
  obtain ⟨v101, q102, e⟩ := xbnd e
  refine xok_eqb (h.gi (by decide) (by decide) q102).1 ?_
  refine xok_ite (fun c103 => ?_) (fun c103 => ?_)
  · rw [if_pos c103] at e
    cases e
    exact ⟨_, rfl, rfl, h, (show xin (0) by decide)⟩
  · rw [if_neg c103] at e
    obtain ⟨v104, q105, e⟩ := xbnd e
    refine xok_eqb (h.gr (by decide) (by decide) q105) ?_
    obtain ⟨v106, q107, e⟩ := xbnd e
    refine xok_eqb (h.ai (by decide) q107).1 ?_
    obtain ⟨v108, q109, e⟩ := xbnd e
    refine xok_eqb (h.gr (by decide) (by decide) q109) ?_
    obtain ⟨v110, q111, e⟩ := xbnd e
    refine xok_eqb (h.ai (by decide) q111).1 ?_
    obtain ⟨T113, q112, e⟩ := xbnd e
    obtain ⟨M114, q115, h116⟩ := h.pi (by decide) (by decide) (h.ai (by decide) q111).2 q112
    refine xok_eqb q115 ?_
    refine xok_ite (fun c117 => ?_) (fun c117 => ?_)
    · rw [if_pos c117] at e
      exact t64_44  hS  h116  e
    · rw [if_neg c117] at e
      obtain ⟨v118, q119, e⟩ := xbnd e
      refine xok_eqb (h116.gr (by decide) (by decide) q119) ?_
      obtain ⟨v120, q121, e⟩ := xbnd e
      refine xok_eqb (h116.gr (by decide) (by decide) q121) ?_
      obtain ⟨v122, q123, e⟩ := xbnd e
      refine xok_eqb (h116.ab q123).1 ?_
      refine xok_ite (fun c124 => ?_) (fun c124 => ?_)
      · rw [if_pos c124] at e
        obtain ⟨v125, q126, e⟩ := xbnd e
        refine xok_eqb (h116.gr (by decide) (by decide) q126) ?_
        obtain ⟨v127, q128, e⟩ := xbnd e
        refine xok_eqb (h116.gr (by decide) (by decide) q128) ?_
        obtain ⟨v129, q130, e⟩ := xbnd e
        refine xok_eqb (h116.ai (by decide) q130).1 ?_
        obtain ⟨v131, q132, e⟩ := xbnd e
        refine xok_eqb (h116.gr (by decide) (by decide) q132) ?_
        obtain ⟨v133, q134, e⟩ := xbnd e
        refine xok_eqb (h116.ai (by decide) q134).1 ?_
        refine xok_ite (fun c135 => ?_) (fun c135 => ?_)
        · rw [if_pos c135] at e
          exact hr2 h116 (xin_wr _) e
        · rw [if_neg c135] at e
          cases e
          exact ⟨_, rfl, rfl, h116, (show xin (3) by decide)⟩
      · rw [if_neg c124] at e
        exact t64_44  hS  h116  e
theorem t64_2 {m f : Nat} {M0 : xj_M} (hS : xHS f)   : ∀ {n : Nat} {M : xj_M} {T : xT_} {x0 : Nat} {x1 : Int} {R : Int × xT_}, xCX m M0 M T → xin x1 → c64_2  f n x0 x1 T = some R → xok (f64_2  f n x0 x1 M) (fun r => r.1 = R.1 ∧ xCX m M0 r.2 R.2 ∧ xin R.1) := by
  intro n
  induction n with
  | zero => intros; rename_i e; cases e
  | succ n ih =>
    intros
    rename_i h i0 e
    exact t64_2b hS  @ih h i0 e
theorem t64 {m f : Nat} {M0 M : xj_M} {T : xT_} (hS : xHS f) (h : xCX m M0 M T) {a0 : Nat} {R : Int × xT_}  (e : c64 f a0 T = some R) : xok (f64 f a0 M) (fun r => r.1 = R.1 ∧ xCX m M0 r.2 R.2 ∧ xin R.1) := by
  unfold c64 at e
  unfold f64
  exact t64_2  hS  h (show xin (0) by decide) e
-- ChangeHouse$Reader.toldTwice
theorem t65_58 {m f : Nat} {M0 M : xj_M} {T : xT_} (hS : xHS f) {r7 : Nat → Nat → Int → xT_ → Option (Int × xT_)} {o7 : Nat → Nat → Int → xj_M → Option (Int × xj_M)} (hr7 : ∀ {M : xj_M} {T : xT_} {x0 : Nat} {x1 : Nat} {x2 : Int} {R : Int × xT_}, xCX m M0 M T → xin x2 → r7 x0 x1 x2 T = some R → xok (o7 x0 x1 x2 M) (fun r => r.1 = R.1 ∧ xCX m M0 r.2 R.2 ∧ xin R.1)) (h : xCX m M0 M T) {x0 : Nat} {x1 : Nat} {x2 : Int} {x3 : Int} {y0 : Int} {R : Int × xT_} (tx2 : xin x2) (tx3 : xin x3) (ty0 : xin y0) (e : c65_58 r7 f x0 x1 x2 x3 y0 T = some R) : xok (f65_58 o7 f x0 x1 x2 x3 y0 M) (fun r => r.1 = R.1 ∧ xCX m M0 r.2 R.2 ∧ xin R.1) := by
  unfold c65_58 at e
  unfold f65_58
  obtain ⟨v101, q102, e⟩ := xbnd e
  refine xok_eqb (h.gr (by decide) (by decide) q102) ?_
  obtain ⟨v103, q104, e⟩ := xbnd e
  refine xok_eqb (h.ai (by decide) q104).1 ?_
  obtain ⟨v105, q106, e⟩ := xbnd e
  refine xok_eqb (h.ai (by decide) q106).1 ?_
  refine xok_ite (fun c107 => ?_) (fun c107 => ?_)
  · rw [if_pos c107] at e
    obtain ⟨v108, q109, e⟩ := xbnd e
    refine xok_eqb (h.gr (by decide) (by decide) q109) ?_
    obtain ⟨v110, q111, e⟩ := xbnd e
    refine xok_eqb (h.ai (by decide) q111).1 ?_
    obtain ⟨v112, q113, e⟩ := xbnd e
    refine xok_eqb (h.ai (by decide) q113).1 ?_
    obtain ⟨T115, q114, e⟩ := xbnd e
    obtain ⟨M116, q117, h118⟩ := h.si (xin_of _) q114
    refine xok_eqb q117 ?_
    exact hr7 h118 (xin_wr _) e
  · rw [if_neg c107] at e
    obtain ⟨v119, q120, e⟩ := xbnd e
    refine xok_eqb (h.gr (by decide) (by decide) q120) ?_
    obtain ⟨v121, q122, e⟩ := xbnd e
    refine xok_eqb (h.ai (by decide) q122).1 ?_
    cases e
    exact ⟨_, rfl, rfl, h, (h.ai (by decide) q122).2⟩
theorem t65_7b {m f : Nat} {M0 M : xj_M} {T : xT_} (hS : xHS f) {r7 : Nat → Nat → Int → xT_ → Option (Int × xT_)} {o7 : Nat → Nat → Int → xj_M → Option (Int × xj_M)} (hr7 : ∀ {M : xj_M} {T : xT_} {x0 : Nat} {x1 : Nat} {x2 : Int} {R : Int × xT_}, xCX m M0 M T → xin x2 → r7 x0 x1 x2 T = some R → xok (o7 x0 x1 x2 M) (fun r => r.1 = R.1 ∧ xCX m M0 r.2 R.2 ∧ xin R.1)) (h : xCX m M0 M T) {x0 : Nat} {x1 : Nat} {x2 : Int} {R : Int × xT_} (tx2 : xin x2) (e : c65_7b r7 f x0 x1 x2 T = some R) : xok (f65_7b o7 f x0 x1 x2 M) (fun r => r.1 = R.1 ∧ xCX m M0 r.2 R.2 ∧ xin R.1) := by
  unfold c65_7b at e
  unfold f65_7b
  obtain ⟨v123, q124, e⟩ := xbnd e
  refine xok_eqb (h.gi (by decide) (by decide) q124).1 ?_
  refine xok_ite (fun c125 => ?_) (fun c125 => ?_)
  · rw [if_pos c125] at e
    cases e
    exact ⟨_, rfl, rfl, h, (show xin (-1) by decide)⟩
  · rw [if_neg c125] at e
    obtain ⟨v126, q127, e⟩ := xbnd e
    refine xok_eqb (h.gr (by decide) (by decide) q127) ?_
    obtain ⟨v128, q129, e⟩ := xbnd e
    refine xok_eqb (h.ai (by decide) q129).1 ?_
    refine xok_ite (fun c130 => ?_) (fun c130 => ?_)
    · rw [if_pos c130] at e
      refine xok_ite (fun c131 => ?_) (fun c131 => ?_)
      · rw [if_pos c131] at e
        refine xok_ite (fun c132 => ?_) (fun c132 => ?_)
        · rw [if_pos c132] at e
          exact t65_58 (r7 := r7) (o7 := o7) hS @hr7 h tx2 (h.ai (by decide) q129).2 (show xin (0) by decide) e
        · rw [if_neg c132] at e
          exact t65_58 (r7 := r7) (o7 := o7) hS @hr7 h tx2 (h.ai (by decide) q129).2 (show xin (64) by decide) e
      · rw [if_neg c131] at e
        exact t65_58 (r7 := r7) (o7 := o7) hS @hr7 h tx2 (h.ai (by decide) q129).2 (show xin (128) by decide) e
    · rw [if_neg c130] at e
      exact t65_58 (r7 := r7) (o7 := o7) hS @hr7 h tx2 (h.ai (by decide) q129).2 (show xin (16448) by decide) e
theorem t65_7 {m f : Nat} {M0 : xj_M} (hS : xHS f)   : ∀ {n : Nat} {M : xj_M} {T : xT_} {x0 : Nat} {x1 : Nat} {x2 : Int} {R : Int × xT_}, xCX m M0 M T → xin x2 → c65_7  f n x0 x1 x2 T = some R → xok (f65_7  f n x0 x1 x2 M) (fun r => r.1 = R.1 ∧ xCX m M0 r.2 R.2 ∧ xin R.1) := by
  intro n
  induction n with
  | zero => intros; rename_i e; cases e
  | succ n ih =>
    intros
    rename_i h i0 e
    exact t65_7b hS  @ih h i0 e
theorem t65 {m f : Nat} {M0 M : xj_M} {T : xT_} (hS : xHS f) (h : xCX m M0 M T) {a0 : Nat} {R : Int × xT_}  (e : c65 f a0 T = some R) : xok (f65 f a0 M) (fun r => r.1 = R.1 ∧ xCX m M0 r.2 R.2 ∧ xin R.1) := by
  unfold c65 at e
  unfold f65
  obtain ⟨p133, q134, e⟩ := xbnd e
  obtain ⟨M135, q136, h137⟩ := h.na (by decide) q134
  refine xok_eqb q136 ?_
  dsimp only
  exact t65_7  hS  h137 (show xin (0) by decide) e
-- ChangeHouse$Reader.unknownName
theorem t66_46 {m f : Nat} {M0 M : xj_M} {T : xT_} (hS : xHS f)   (h : xCX m M0 M T) {x0 : Nat} {x1 : Int} {R : Int × xT_} (tx1 : xin x1) (e : c66_46  f x0 x1 T = some R) : xok (f66_46  f x0 x1 M) (fun r => r.1 = R.1 ∧ xCX m M0 r.2 R.2 ∧ xin R.1) := by
  unfold c66_46 at e
  unfold f66_46
  obtain ⟨v101, q102, e⟩ := xbnd e
  refine xok_eqb (h.gr (by decide) (by decide) q102) ?_
  obtain ⟨v103, q104, e⟩ := xbnd e
  refine xok_eqb (h.ai (by decide) q104).1 ?_
  cases e
  exact ⟨_, rfl, rfl, h, (h.ai (by decide) q104).2⟩
theorem t66_53 {m f : Nat} {M0 M : xj_M} {T : xT_} (hS : xHS f) {r2 : Nat → Int → xT_ → Option (Int × xT_)} {o2 : Nat → Int → xj_M → Option (Int × xj_M)} (hr2 : ∀ {M : xj_M} {T : xT_} {x0 : Nat} {x1 : Int} {R : Int × xT_}, xCX m M0 M T → xin x1 → r2 x0 x1 T = some R → xok (o2 x0 x1 M) (fun r => r.1 = R.1 ∧ xCX m M0 r.2 R.2 ∧ xin R.1)) (h : xCX m M0 M T) {x0 : Nat} {x1 : Int} {R : Int × xT_} (tx1 : xin x1) (e : c66_53 r2 f x0 x1 T = some R) : xok (f66_53 o2 f x0 x1 M) (fun r => r.1 = R.1 ∧ xCX m M0 r.2 R.2 ∧ xin R.1) := by
  unfold c66_53 at e
  unfold f66_53
  exact hr2 h (xin_wr _) e
theorem t66_2b {m f : Nat} {M0 M : xj_M} {T : xT_} (hS : xHS f) {r2 : Nat → Int → xT_ → Option (Int × xT_)} {o2 : Nat → Int → xj_M → Option (Int × xj_M)} (hr2 : ∀ {M : xj_M} {T : xT_} {x0 : Nat} {x1 : Int} {R : Int × xT_}, xCX m M0 M T → xin x1 → r2 x0 x1 T = some R → xok (o2 x0 x1 M) (fun r => r.1 = R.1 ∧ xCX m M0 r.2 R.2 ∧ xin R.1)) (h : xCX m M0 M T) {x0 : Nat} {x1 : Int} {R : Int × xT_} (tx1 : xin x1) (e : c66_2b r2 f x0 x1 T = some R) : xok (f66_2b o2 f x0 x1 M) (fun r => r.1 = R.1 ∧ xCX m M0 r.2 R.2 ∧ xin R.1) := by
  unfold c66_2b at e
  unfold f66_2b
  obtain ⟨v105, q106, e⟩ := xbnd e
  refine xok_eqb (h.gi (by decide) (by decide) q106).1 ?_
  refine xok_ite (fun c107 => ?_) (fun c107 => ?_)
  · rw [if_pos c107] at e
    cases e
    exact ⟨_, rfl, rfl, h, (show xin (-1) by decide)⟩
  · rw [if_neg c107] at e
    obtain ⟨v108, q109, e⟩ := xbnd e
    refine xok_eqb (h.gr (by decide) (by decide) q109) ?_
    obtain ⟨v110, q111, e⟩ := xbnd e
    refine xok_eqb (h.ai (by decide) q111).1 ?_
    refine xok_ite (fun c112 => ?_) (fun c112 => ?_)
    · rw [if_pos c112] at e
      exact t66_46  hS  h tx1 e
    · rw [if_neg c112] at e
      obtain ⟨v113, q114, e⟩ := xbnd e
      refine xok_eqb (h.gr (by decide) (by decide) q114) ?_
      obtain ⟨v115, q116, e⟩ := xbnd e
      refine xok_eqb (h.gr (by decide) (by decide) q116) ?_
      obtain ⟨v117, q118, e⟩ := xbnd e
      refine xok_eqb (h.ab q118).1 ?_
      refine xok_ite (fun c119 => ?_) (fun c119 => ?_)
      · rw [if_pos c119] at e
        exact t66_53 (r2 := r2) (o2 := o2) hS @hr2 h tx1 e
      · rw [if_neg c119] at e
        obtain ⟨v120, q121, e⟩ := xbnd e
        refine xok_eqb (h.gr (by decide) (by decide) q121) ?_
        obtain ⟨v122, q123, e⟩ := xbnd e
        refine xok_eqb (h.gr (by decide) (by decide) q123) ?_
        obtain ⟨v124, q125, e⟩ := xbnd e
        refine xok_eqb (h.ab q125).1 ?_
        refine xok_ite (fun c126 => ?_) (fun c126 => ?_)
        · rw [if_pos c126] at e
          exact t66_53 (r2 := r2) (o2 := o2) hS @hr2 h tx1 e
        · rw [if_neg c126] at e
          exact t66_46  hS  h tx1 e
theorem t66_2 {m f : Nat} {M0 : xj_M} (hS : xHS f)   : ∀ {n : Nat} {M : xj_M} {T : xT_} {x0 : Nat} {x1 : Int} {R : Int × xT_}, xCX m M0 M T → xin x1 → c66_2  f n x0 x1 T = some R → xok (f66_2  f n x0 x1 M) (fun r => r.1 = R.1 ∧ xCX m M0 r.2 R.2 ∧ xin R.1) := by
  intro n
  induction n with
  | zero => intros; rename_i e; cases e
  | succ n ih =>
    intros
    rename_i h i0 e
    exact t66_2b hS  @ih h i0 e
theorem t66 {m f : Nat} {M0 M : xj_M} {T : xT_} (hS : xHS f) (h : xCX m M0 M T) {a0 : Nat} {R : Int × xT_}  (e : c66 f a0 T = some R) : xok (f66 f a0 M) (fun r => r.1 = R.1 ∧ xCX m M0 r.2 R.2 ∧ xin R.1) := by
  unfold c66 at e
  unfold f66
  exact t66_2  hS  h (show xin (0) by decide) e
-- ChangeHouse$Reader.otherWidth
theorem t67_51 {m f : Nat} {M0 M : xj_M} {T : xT_} (hS : xHS f) {r2 : Nat → Int → xT_ → Option (Int × xT_)} {o2 : Nat → Int → xj_M → Option (Int × xj_M)} (hr2 : ∀ {M : xj_M} {T : xT_} {x0 : Nat} {x1 : Int} {R : Int × xT_}, xCX m M0 M T → xin x1 → r2 x0 x1 T = some R → xok (o2 x0 x1 M) (fun r => r.1 = R.1 ∧ xCX m M0 r.2 R.2 ∧ xin R.1)) (h : xCX m M0 M T) {x0 : Nat} {x1 : Int} {R : Int × xT_} (tx1 : xin x1) (e : c67_51 r2 f x0 x1 T = some R) : xok (f67_51 o2 f x0 x1 M) (fun r => r.1 = R.1 ∧ xCX m M0 r.2 R.2 ∧ xin R.1) := by
  unfold c67_51 at e
  unfold f67_51
  exact hr2 h (xin_wr _) e
theorem t67_2b {m f : Nat} {M0 M : xj_M} {T : xT_} (hS : xHS f) {r2 : Nat → Int → xT_ → Option (Int × xT_)} {o2 : Nat → Int → xj_M → Option (Int × xj_M)} (hr2 : ∀ {M : xj_M} {T : xT_} {x0 : Nat} {x1 : Int} {R : Int × xT_}, xCX m M0 M T → xin x1 → r2 x0 x1 T = some R → xok (o2 x0 x1 M) (fun r => r.1 = R.1 ∧ xCX m M0 r.2 R.2 ∧ xin R.1)) (h : xCX m M0 M T) {x0 : Nat} {x1 : Int} {R : Int × xT_} (tx1 : xin x1) (e : c67_2b r2 f x0 x1 T = some R) : xok (f67_2b o2 f x0 x1 M) (fun r => r.1 = R.1 ∧ xCX m M0 r.2 R.2 ∧ xin R.1) := by
  unfold c67_2b at e
  unfold f67_2b
  obtain ⟨v101, q102, e⟩ := xbnd e
  refine xok_eqb (h.gi (by decide) (by decide) q102).1 ?_
  refine xok_ite (fun c103 => ?_) (fun c103 => ?_)
  · rw [if_pos c103] at e
    cases e
    exact ⟨_, rfl, rfl, h, (show xin (-1) by decide)⟩
  · rw [if_neg c103] at e
    obtain ⟨v104, q105, e⟩ := xbnd e
    refine xok_eqb (h.gr (by decide) (by decide) q105) ?_
    obtain ⟨v106, q107, e⟩ := xbnd e
    refine xok_eqb (h.ai (by decide) q107).1 ?_
    refine xok_ite (fun c108 => ?_) (fun c108 => ?_)
    · rw [if_pos c108] at e
      exact t67_51 (r2 := r2) (o2 := o2) hS @hr2 h tx1 e
    · rw [if_neg c108] at e
      obtain ⟨v109, q110, e⟩ := xbnd e
      refine xok_eqb (h.gr (by decide) (by decide) q110) ?_
      obtain ⟨v111, q112, e⟩ := xbnd e
      refine xok_eqb (h.ai (by decide) q112).1 ?_
      obtain ⟨v113, q114, e⟩ := xbnd e
      refine xok_eqb (h.gr (by decide) (by decide) q114) ?_
      obtain ⟨v115, q116, e⟩ := xbnd e
      refine xok_eqb (h.gr (by decide) (by decide) q116) ?_
      obtain ⟨v117, q118, e⟩ := xbnd e
      refine xok_eqb (h.gr (by decide) (by decide) q118) ?_
      obtain ⟨v119, q120, e⟩ := xbnd e
      refine xok_eqb (h.ai (by decide) q120).1 ?_
      obtain ⟨v121, q122, e⟩ := xbnd e
      refine xok_eqb (h.ai (by decide) q122).1 ?_
      refine xok_ite (fun c123 => ?_) (fun c123 => ?_)
      · rw [if_pos c123] at e
        exact t67_51 (r2 := r2) (o2 := o2) hS @hr2 h tx1 e
      · rw [if_neg c123] at e
        obtain ⟨v124, q125, e⟩ := xbnd e
        refine xok_eqb (h.gr (by decide) (by decide) q125) ?_
        obtain ⟨v126, q127, e⟩ := xbnd e
        refine xok_eqb (h.ai (by decide) q127).1 ?_
        cases e
        exact ⟨_, rfl, rfl, h, (h.ai (by decide) q127).2⟩
theorem t67_2 {m f : Nat} {M0 : xj_M} (hS : xHS f)   : ∀ {n : Nat} {M : xj_M} {T : xT_} {x0 : Nat} {x1 : Int} {R : Int × xT_}, xCX m M0 M T → xin x1 → c67_2  f n x0 x1 T = some R → xok (f67_2  f n x0 x1 M) (fun r => r.1 = R.1 ∧ xCX m M0 r.2 R.2 ∧ xin R.1) := by
  intro n
  induction n with
  | zero => intros; rename_i e; cases e
  | succ n ih =>
    intros
    rename_i h i0 e
    exact t67_2b hS  @ih h i0 e
theorem t67 {m f : Nat} {M0 M : xj_M} {T : xT_} (hS : xHS f) (h : xCX m M0 M T) {a0 : Nat} {R : Int × xT_}  (e : c67 f a0 T = some R) : xok (f67 f a0 M) (fun r => r.1 = R.1 ∧ xCX m M0 r.2 R.2 ∧ xin R.1) := by
  unfold c67 at e
  unfold f67
  exact t67_2  hS  h (show xin (0) by decide) e
-- ChangeHouse$Rows.<init>
theorem t68 {m f : Nat} {M0 M : xj_M} {T : xT_} (hS : xHS f) (h : xCX m M0 M T) {a0 : Nat} {a1 : Int} {a2 : Int} {R : xT_} (ta1 : xin a1) (ta2 : xin a2) (e : c68 f a0 a1 a2 T = some R) : xok (f68 f a0 a1 a2 M) (fun r => xCX m M0 r R) := by
  unfold c68 at e
  unfold f68
  obtain ⟨_, q101, e⟩ := xbnd e
  refine xok_eqb q101 ?_
  obtain ⟨T103, q102, e⟩ := xbnd e
  obtain ⟨M104, q105, h106⟩ := h.pi (by decide) (by decide) ta1 q102
  refine xok_eqb q105 ?_
  obtain ⟨p107, q108, e⟩ := xbnd e
  obtain ⟨M109, q110, h111⟩ := h106.na (by decide) q108
  refine xok_eqb q110 ?_
  dsimp only
  obtain ⟨T113, q112, e⟩ := xbnd e
  obtain ⟨M114, q115, h116⟩ := h111.pr (by decide) (by decide)  q112
  refine xok_eqb q115 ?_
  obtain ⟨p117, q118, e⟩ := xbnd e
  obtain ⟨M119, q120, h121⟩ := h116.na (by decide) q118
  refine xok_eqb q120 ?_
  dsimp only
  obtain ⟨T123, q122, e⟩ := xbnd e
  obtain ⟨M124, q125, h126⟩ := h121.pr (by decide) (by decide)  q122
  refine xok_eqb q125 ?_
  cases e
  exact ⟨_, rfl, h126⟩
-- ChangeHouse$Rows.start
theorem t69 {m f : Nat} {M0 M : xj_M} {T : xT_} (hS : xHS f) (h : xCX m M0 M T) {a0 : Nat} {a1 : Int} {R : xT_} (ta1 : xin a1) (e : c69 f a0 a1 T = some R) : xok (f69 f a0 a1 M) (fun r => xCX m M0 r R) := by
  unfold c69 at e
  unfold f69
  obtain ⟨T102, q101, e⟩ := xbnd e
  obtain ⟨M103, q104, h105⟩ := h.pi (by decide) (by decide) ta1 q101
  refine xok_eqb q104 ?_
  obtain ⟨T107, q106, e⟩ := xbnd e
  obtain ⟨M108, q109, h110⟩ := h105.pi (by decide) (by decide) (show xin (0) by decide) q106
  refine xok_eqb q109 ?_
  cases e
  exact ⟨_, rfl, h110⟩
-- ChangeHouse$Rows.at
theorem t70 {m f : Nat} {M0 M : xj_M} {T : xT_} (hS : xHS f) (h : xCX m M0 M T) {a0 : Nat} {a1 : Int} {a2 : Int} {R : Int × xT_} (ta1 : xin a1) (ta2 : xin a2) (e : c70 f a0 a1 a2 T = some R) : xok (f70 f a0 a1 a2 M) (fun r => r.1 = R.1 ∧ xCX m M0 r.2 R.2 ∧ xiN R.1) := by
  unfold c70 at e
  unfold f70
  obtain ⟨v101, q102, e⟩ := xbnd e
  refine xok_eqb (h.gr (by decide) (by decide) q102) ?_
  obtain ⟨v103, q104, e⟩ := xbnd e
  refine xok_eqb (h.gi (by decide) (by decide) q104).1 ?_
  obtain ⟨v105, q106, e⟩ := xbnd e
  refine xok_eqb (h.al q106).1 ?_
  cases e
  exact ⟨_, rfl, rfl, h, (h.al q106).2⟩
-- ChangeHouse$Rows.compare
theorem t71_50 {m f : Nat} {M0 M : xj_M} {T : xT_} (hS : xHS f)   (h : xCX m M0 M T) {y0 : Int} {R : Int × xT_} (ty0 : xin y0) (e : c71_50  f y0 T = some R) : xok (f71_50  f y0 M) (fun r => r.1 = R.1 ∧ xCX m M0 r.2 R.2 ∧ xin R.1) := by
  unfold c71_50 at e
  unfold f71_50
  cases e
  exact ⟨_, rfl, rfl, h, ty0⟩
theorem t71_3b {m f : Nat} {M0 M : xj_M} {T : xT_} (hS : xHS f) {r3 : Nat → Int → Nat → Int → Int → xT_ → Option (Int × xT_)} {o3 : Nat → Int → Nat → Int → Int → xj_M → Option (Int × xj_M)} (hr3 : ∀ {M : xj_M} {T : xT_} {x0 : Nat} {x1 : Int} {x2 : Nat} {x3 : Int} {x4 : Int} {R : Int × xT_}, xCX m M0 M T → xin x1 → xin x3 → xin x4 → r3 x0 x1 x2 x3 x4 T = some R → xok (o3 x0 x1 x2 x3 x4 M) (fun r => r.1 = R.1 ∧ xCX m M0 r.2 R.2 ∧ xin R.1)) (h : xCX m M0 M T) {x0 : Nat} {x1 : Int} {x2 : Nat} {x3 : Int} {x4 : Int} {R : Int × xT_} (tx1 : xin x1) (tx3 : xin x3) (tx4 : xin x4) (e : c71_3b r3 f x0 x1 x2 x3 x4 T = some R) : xok (f71_3b o3 f x0 x1 x2 x3 x4 M) (fun r => r.1 = R.1 ∧ xCX m M0 r.2 R.2 ∧ xin R.1) := by
  unfold c71_3b at e
  unfold f71_3b
  refine xok_ite (fun c101 => ?_) (fun c101 => ?_)
  · rw [if_pos c101] at e
    cases e
    exact ⟨_, rfl, rfl, h, (show xin (0) by decide)⟩
  · rw [if_neg c101] at e
    obtain ⟨v102, q103, e⟩ := xbnd e
    refine xok_eqb (h.gr (by decide) (by decide) q103) ?_
    obtain ⟨v104, q105, e⟩ := xbnd e
    refine xok_eqb (h.gi (by decide) (by decide) q105).1 ?_
    obtain ⟨v106, q107, e⟩ := xbnd e
    refine xok_eqb (h.al q107).1 ?_
    obtain ⟨v108, q109, e⟩ := xbnd e
    refine xok_eqb (h.al q109).1 ?_
    refine xok_ite (fun c110 => ?_) (fun c110 => ?_)
    · rw [if_pos c110] at e
      exact hr3 h tx1 tx3 (xin_wr _) e
    · rw [if_neg c110] at e
      obtain ⟨v111, q112, e⟩ := xbnd e
      refine xok_eqb (h.al q112).1 ?_
      refine xok_ite (fun c113 => ?_) (fun c113 => ?_)
      · rw [if_pos c113] at e
        exact t71_50  hS  h (show xin (1) by decide) e
      · rw [if_neg c113] at e
        exact t71_50  hS  h (show xin (-1) by decide) e
theorem t71_3 {m f : Nat} {M0 : xj_M} (hS : xHS f)   : ∀ {n : Nat} {M : xj_M} {T : xT_} {x0 : Nat} {x1 : Int} {x2 : Nat} {x3 : Int} {x4 : Int} {R : Int × xT_}, xCX m M0 M T → xin x1 → xin x3 → xin x4 → c71_3  f n x0 x1 x2 x3 x4 T = some R → xok (f71_3  f n x0 x1 x2 x3 x4 M) (fun r => r.1 = R.1 ∧ xCX m M0 r.2 R.2 ∧ xin R.1) := by
  intro n
  induction n with
  | zero => intros; rename_i e; cases e
  | succ n ih =>
    intros
    rename_i h i0 i1 i2 e
    exact t71_3b hS  @ih h i0 i1 i2 e
theorem t71 {m f : Nat} {M0 M : xj_M} {T : xT_} (hS : xHS f) (h : xCX m M0 M T) {a0 : Nat} {a1 : Int} {a2 : Nat} {a3 : Int} {R : Int × xT_} (ta1 : xin a1) (ta3 : xin a3) (e : c71 f a0 a1 a2 a3 T = some R) : xok (f71 f a0 a1 a2 a3 M) (fun r => r.1 = R.1 ∧ xCX m M0 r.2 R.2 ∧ xin R.1) := by
  unfold c71 at e
  unfold f71
  exact t71_3  hS  h ta1 ta3 (show xin (0) by decide) e
-- ChangeHouse$Rows.compareRow
theorem t72_63 {m f : Nat} {M0 M : xj_M} {T : xT_} (hS : xHS f)   (h : xCX m M0 M T) {y0 : Int} {R : Int × xT_} (ty0 : xin y0) (e : c72_63  f y0 T = some R) : xok (f72_63  f y0 M) (fun r => r.1 = R.1 ∧ xCX m M0 r.2 R.2 ∧ xin R.1) := by
  unfold c72_63 at e
  unfold f72_63
  cases e
  exact ⟨_, rfl, rfl, h, ty0⟩
theorem t72_3b {m f : Nat} {M0 M : xj_M} {T : xT_} (hS : xHS f) {r3 : Nat → Int → Nat → Int → Int → Int → xT_ → Option (Int × xT_)} {o3 : Nat → Int → Nat → Int → Int → Int → xj_M → Option (Int × xj_M)} (hr3 : ∀ {M : xj_M} {T : xT_} {x0 : Nat} {x1 : Int} {x2 : Nat} {x3 : Int} {x4 : Int} {x5 : Int} {R : Int × xT_}, xCX m M0 M T → xin x1 → xin x3 → xin x4 → xin x5 → r3 x0 x1 x2 x3 x4 x5 T = some R → xok (o3 x0 x1 x2 x3 x4 x5 M) (fun r => r.1 = R.1 ∧ xCX m M0 r.2 R.2 ∧ xin R.1)) (h : xCX m M0 M T) {x0 : Nat} {x1 : Int} {x2 : Nat} {x3 : Int} {x4 : Int} {x5 : Int} {R : Int × xT_} (tx1 : xin x1) (tx3 : xin x3) (tx4 : xin x4) (tx5 : xin x5) (e : c72_3b r3 f x0 x1 x2 x3 x4 x5 T = some R) : xok (f72_3b o3 f x0 x1 x2 x3 x4 x5 M) (fun r => r.1 = R.1 ∧ xCX m M0 r.2 R.2 ∧ xin R.1) := by
  unfold c72_3b at e
  unfold f72_3b
  refine xok_ite (fun c101 => ?_) (fun c101 => ?_)
  · rw [if_pos c101] at e
    cases e
    exact ⟨_, rfl, rfl, h, (show xin (0) by decide)⟩
  · rw [if_neg c101] at e
    obtain ⟨v102, q103, e⟩ := xbnd e
    refine xok_eqb (h.gr (by decide) (by decide) q103) ?_
    obtain ⟨v104, q105, e⟩ := xbnd e
    refine xok_eqb (h.gi (by decide) (by decide) q105).1 ?_
    obtain ⟨v106, q107, e⟩ := xbnd e
    refine xok_eqb (h.al q107).1 ?_
    obtain ⟨v108, q109, e⟩ := xbnd e
    refine xok_eqb (h.gr (by decide) (by decide) q109) ?_
    obtain ⟨v110, q111, e⟩ := xbnd e
    refine xok_eqb (h.gi (by decide) (by decide) q111).1 ?_
    obtain ⟨v112, q113, e⟩ := xbnd e
    refine xok_eqb (h.al q113).1 ?_
    refine xok_ite (fun c114 => ?_) (fun c114 => ?_)
    · rw [if_pos c114] at e
      exact hr3 h tx1 tx3 tx4 (xin_wr _) e
    · rw [if_neg c114] at e
      refine xok_ite (fun c115 => ?_) (fun c115 => ?_)
      · rw [if_pos c115] at e
        exact t72_63  hS  h (show xin (1) by decide) e
      · rw [if_neg c115] at e
        exact t72_63  hS  h (show xin (-1) by decide) e
theorem t72_3 {m f : Nat} {M0 : xj_M} (hS : xHS f)   : ∀ {n : Nat} {M : xj_M} {T : xT_} {x0 : Nat} {x1 : Int} {x2 : Nat} {x3 : Int} {x4 : Int} {x5 : Int} {R : Int × xT_}, xCX m M0 M T → xin x1 → xin x3 → xin x4 → xin x5 → c72_3  f n x0 x1 x2 x3 x4 x5 T = some R → xok (f72_3  f n x0 x1 x2 x3 x4 x5 M) (fun r => r.1 = R.1 ∧ xCX m M0 r.2 R.2 ∧ xin R.1) := by
  intro n
  induction n with
  | zero => intros; rename_i e; cases e
  | succ n ih =>
    intros
    rename_i h i0 i1 i2 i3 e
    exact t72_3b hS  @ih h i0 i1 i2 i3 e
theorem t72 {m f : Nat} {M0 M : xj_M} {T : xT_} (hS : xHS f) (h : xCX m M0 M T) {a0 : Nat} {a1 : Int} {a2 : Nat} {a3 : Int} {a4 : Int} {R : Int × xT_} (ta1 : xin a1) (ta3 : xin a3) (ta4 : xin a4) (e : c72 f a0 a1 a2 a3 a4 T = some R) : xok (f72 f a0 a1 a2 a3 a4 M) (fun r => r.1 = R.1 ∧ xCX m M0 r.2 R.2 ∧ xin R.1) := by
  unfold c72 at e
  unfold f72
  exact t72_3  hS  h ta1 ta3 ta4 (show xin (0) by decide) e
-- ChangeHouse$Rows.search
theorem t73_50 {m f : Nat} {M0 M : xj_M} {T : xT_} (hS : xHS f) {r9 : Nat → Nat → Int → Int → Int → Int → xT_ → Option (Int × xT_)} {o9 : Nat → Nat → Int → Int → Int → Int → xj_M → Option (Int × xj_M)} (hr9 : ∀ {M : xj_M} {T : xT_} {x0 : Nat} {x1 : Nat} {x2 : Int} {x3 : Int} {x4 : Int} {x5 : Int} {R : Int × xT_}, xCX m M0 M T → xin x2 → xin x3 → xin x4 → xin x5 → r9 x0 x1 x2 x3 x4 x5 T = some R → xok (o9 x0 x1 x2 x3 x4 x5 M) (fun r => r.1 = R.1 ∧ xCX m M0 r.2 R.2 ∧ xin R.1)) (h : xCX m M0 M T) {x0 : Nat} {x1 : Nat} {x2 : Int} {x3 : Int} {x4 : Int} {x5 : Int} {R : Int × xT_} (tx2 : xin x2) (tx3 : xin x3) (tx4 : xin x4) (tx5 : xin x5) (e : c73_50 r9 f x0 x1 x2 x3 x4 x5 T = some R) : xok (f73_50 o9 f x0 x1 x2 x3 x4 x5 M) (fun r => r.1 = R.1 ∧ xCX m M0 r.2 R.2 ∧ xin R.1) := by
  unfold c73_50 at e
  unfold f73_50
  exact hr9 h tx2 tx3 tx4 tx5 e
theorem t73_9b {m f : Nat} {M0 M : xj_M} {T : xT_} (hS : xHS f) {r9 : Nat → Nat → Int → Int → Int → Int → xT_ → Option (Int × xT_)} {o9 : Nat → Nat → Int → Int → Int → Int → xj_M → Option (Int × xj_M)} (hr9 : ∀ {M : xj_M} {T : xT_} {x0 : Nat} {x1 : Nat} {x2 : Int} {x3 : Int} {x4 : Int} {x5 : Int} {R : Int × xT_}, xCX m M0 M T → xin x2 → xin x3 → xin x4 → xin x5 → r9 x0 x1 x2 x3 x4 x5 T = some R → xok (o9 x0 x1 x2 x3 x4 x5 M) (fun r => r.1 = R.1 ∧ xCX m M0 r.2 R.2 ∧ xin R.1)) (h : xCX m M0 M T) {x0 : Nat} {x1 : Nat} {x2 : Int} {x3 : Int} {x4 : Int} {x5 : Int} {R : Int × xT_} (tx2 : xin x2) (tx3 : xin x3) (tx4 : xin x4) (tx5 : xin x5) (e : c73_9b r9 f x0 x1 x2 x3 x4 x5 T = some R) : xok (f73_9b o9 f x0 x1 x2 x3 x4 x5 M) (fun r => r.1 = R.1 ∧ xCX m M0 r.2 R.2 ∧ xin R.1) := by
  unfold c73_9b at e
  unfold f73_9b
  refine xok_ite (fun c101 => ?_) (fun c101 => ?_)
  · rw [if_pos c101] at e
    cases e
    exact ⟨_, rfl, rfl, h, tx4⟩
  · rw [if_neg c101] at e
    obtain ⟨_, q107, e⟩ := xbnd e
    obtain ⟨R102, e103, e⟩ := xbnd e
    refine xok_eqb (h.is q107) ?_
    refine xok_call (t71 hS h (xin_of _) tx2 e103) ?_
    rintro ⟨v_, M104⟩ ⟨hv_, h105, hi106⟩
    cases hv_
    refine xok_ite (fun c108 => ?_) (fun c108 => ?_)
    · rw [if_pos c108] at e
      exact t73_50 (r9 := r9) (o9 := o9) hS @hr9 h105 tx2 tx3 tx4 (xin_of _) e
    · rw [if_neg c108] at e
      exact t73_50 (r9 := r9) (o9 := o9) hS @hr9 h105 tx2 tx3 (xin_wr _) tx5 e
theorem t73_9 {m f : Nat} {M0 : xj_M} (hS : xHS f)   : ∀ {n : Nat} {M : xj_M} {T : xT_} {x0 : Nat} {x1 : Nat} {x2 : Int} {x3 : Int} {x4 : Int} {x5 : Int} {R : Int × xT_}, xCX m M0 M T → xin x2 → xin x3 → xin x4 → xin x5 → c73_9  f n x0 x1 x2 x3 x4 x5 T = some R → xok (f73_9  f n x0 x1 x2 x3 x4 x5 M) (fun r => r.1 = R.1 ∧ xCX m M0 r.2 R.2 ∧ xin R.1) := by
  intro n
  induction n with
  | zero => intros; rename_i e; cases e
  | succ n ih =>
    intros
    rename_i h i0 i1 i2 i3 e
    exact t73_9b hS  @ih h i0 i1 i2 i3 e
theorem t73 {m f : Nat} {M0 M : xj_M} {T : xT_} (hS : xHS f) (h : xCX m M0 M T) {a0 : Nat} {a1 : Nat} {a2 : Int} {a3 : Int} {R : Int × xT_} (ta2 : xin a2) (ta3 : xin a3) (e : c73 f a0 a1 a2 a3 T = some R) : xok (f73 f a0 a1 a2 a3 M) (fun r => r.1 = R.1 ∧ xCX m M0 r.2 R.2 ∧ xin R.1) := by
  unfold c73 at e
  unfold f73
  obtain ⟨v109, q110, e⟩ := xbnd e
  refine xok_eqb (h.gi (by decide) (by decide) q110).1 ?_
  exact t73_9  hS  h ta2 ta3 (show xin (0) by decide) (h.gi (by decide) (by decide) q110).2 e
-- ChangeHouse$Rows.find
theorem t74_39 {m f : Nat} {M0 M : xj_M} {T : xT_} (hS : xHS f)   (h : xCX m M0 M T) {y0 : Int} {R : Int × xT_} (ty0 : xin y0) (e : c74_39  f y0 T = some R) : xok (f74_39  f y0 M) (fun r => r.1 = R.1 ∧ xCX m M0 r.2 R.2 ∧ xin R.1) := by
  unfold c74_39 at e
  unfold f74_39
  cases e
  exact ⟨_, rfl, rfl, h, ty0⟩
theorem t74_36 {m f : Nat} {M0 M : xj_M} {T : xT_} (hS : xHS f)   (h : xCX m M0 M T) {x2 : Int} {R : Int × xT_} (tx2 : xin x2) (e : c74_36  f x2 T = some R) : xok (f74_36  f x2 M) (fun r => r.1 = R.1 ∧ xCX m M0 r.2 R.2 ∧ xin R.1) := by
  unfold c74_36 at e
  unfold f74_36
  exact t74_39  hS  h (xin_wr _) e
theorem t74 {m f : Nat} {M0 M : xj_M} {T : xT_} (hS : xHS f) (h : xCX m M0 M T) {a0 : Nat} {a1 : Nat} {R : Int × xT_}  (e : c74 f a0 a1 T = some R) : xok (f74 f a0 a1 M) (fun r => r.1 = R.1 ∧ xCX m M0 r.2 R.2 ∧ xin R.1) := by
  unfold c74 at e
  unfold f74
  obtain ⟨v101, q102, e⟩ := xbnd e
  refine xok_eqb (h.gi (by decide) (by decide) q102).1 ?_
  obtain ⟨_, q108, e⟩ := xbnd e
  obtain ⟨R103, e104, e⟩ := xbnd e
  refine xok_eqb (h.is q108) ?_
  refine xok_call (t73 hS h (h.gi (by decide) (by decide) q102).2 (show xin (0) by decide) e104) ?_
  rintro ⟨v_, M105⟩ ⟨hv_, h106, hi107⟩
  cases hv_
  obtain ⟨v109, q110, e⟩ := xbnd e
  refine xok_eqb (h106.gi (by decide) (by decide) q110).1 ?_
  refine xok_ite (fun c111 => ?_) (fun c111 => ?_)
  · rw [if_pos c111] at e
    exact t74_36  hS  h106 hi107 e
  · rw [if_neg c111] at e
    obtain ⟨v112, q113, e⟩ := xbnd e
    refine xok_eqb (h106.gi (by decide) (by decide) q113).1 ?_
    obtain ⟨_, q119, e⟩ := xbnd e
    obtain ⟨R114, e115, e⟩ := xbnd e
    refine xok_eqb (h106.is q119) ?_
    refine xok_call (t71 hS h106 hi107 (h106.gi (by decide) (by decide) q113).2 e115) ?_
    rintro ⟨v_, M116⟩ ⟨hv_, h117, hi118⟩
    cases hv_
    refine xok_ite (fun c120 => ?_) (fun c120 => ?_)
    · rw [if_pos c120] at e
      exact t74_36  hS  h117 hi107 e
    · rw [if_neg c120] at e
      exact t74_39  hS  h117 hi107 e
-- ChangeHouse$Rows.findKey
theorem t75_31 {m f : Nat} {M0 M : xj_M} {T : xT_} (hS : xHS f)   (h : xCX m M0 M T) {y0 : Int} {R : Int × xT_} (ty0 : xin y0) (e : c75_31  f y0 T = some R) : xok (f75_31  f y0 M) (fun r => r.1 = R.1 ∧ xCX m M0 r.2 R.2 ∧ xin R.1) := by
  unfold c75_31 at e
  unfold f75_31
  cases e
  exact ⟨_, rfl, rfl, h, ty0⟩
theorem t75_30 {m f : Nat} {M0 M : xj_M} {T : xT_} (hS : xHS f)   (h : xCX m M0 M T)  {R : Int × xT_}  (e : c75_30  f  T = some R) : xok (f75_30  f  M) (fun r => r.1 = R.1 ∧ xCX m M0 r.2 R.2 ∧ xin R.1) := by
  unfold c75_30 at e
  unfold f75_30
  exact t75_31  hS  h (show xin (-1) by decide) e
theorem t75 {m f : Nat} {M0 M : xj_M} {T : xT_} (hS : xHS f) (h : xCX m M0 M T) {a0 : Nat} {a1 : Nat} {a2 : Int} {R : Int × xT_} (ta2 : xin a2) (e : c75 f a0 a1 a2 T = some R) : xok (f75 f a0 a1 a2 M) (fun r => r.1 = R.1 ∧ xCX m M0 r.2 R.2 ∧ xin R.1) := by
  unfold c75 at e
  unfold f75
  obtain ⟨_, q106, e⟩ := xbnd e
  obtain ⟨R101, e102, e⟩ := xbnd e
  refine xok_eqb (h.is q106) ?_
  refine xok_call (t73 hS h ta2 (show xin (0) by decide) e102) ?_
  rintro ⟨v_, M103⟩ ⟨hv_, h104, hi105⟩
  cases hv_
  obtain ⟨v107, q108, e⟩ := xbnd e
  refine xok_eqb (h104.gi (by decide) (by decide) q108).1 ?_
  refine xok_ite (fun c109 => ?_) (fun c109 => ?_)
  · rw [if_pos c109] at e
    exact t75_30  hS  h104  e
  · rw [if_neg c109] at e
    obtain ⟨_, q115, e⟩ := xbnd e
    obtain ⟨R110, e111, e⟩ := xbnd e
    refine xok_eqb (h104.is q115) ?_
    refine xok_call (t71 hS h104 hi105 ta2 e111) ?_
    rintro ⟨v_, M112⟩ ⟨hv_, h113, hi114⟩
    cases hv_
    refine xok_ite (fun c116 => ?_) (fun c116 => ?_)
    · rw [if_pos c116] at e
      exact t75_30  hS  h113  e
    · rw [if_neg c116] at e
      exact t75_31  hS  h113 hi105 e
-- ChangeHouse$Rows.insert
theorem t76_24 {m f : Nat} {M0 M : xj_M} {T : xT_} (hS : xHS f)   (h : xCX m M0 M T)  {R : xT_}  (e : c76_24  f  T = some R) : xok (f76_24  f  M) (fun r => xCX m M0 r R) := by
  unfold c76_24 at e
  unfold f76_24
  cases e
  exact ⟨_, rfl, h⟩
theorem t76 {m f : Nat} {M0 M : xj_M} {T : xT_} (hS : xHS f) (h : xCX m M0 M T) {a0 : Nat} {a1 : Int} {a2 : Nat} {a3 : Int} {R : xT_} (ta1 : xin a1) (ta3 : xin a3) (e : c76 f a0 a1 a2 a3 T = some R) : xok (f76 f a0 a1 a2 a3 M) (fun r => xCX m M0 r R) := by
  unfold c76 at e
  unfold f76
  obtain ⟨v101, q102, e⟩ := xbnd e
  refine xok_eqb (h.gi (by decide) (by decide) q102).1 ?_
  obtain ⟨v103, q104, e⟩ := xbnd e
  refine xok_eqb (h.gr (by decide) (by decide) q104) ?_
  obtain ⟨v105, q106, e⟩ := xbnd e
  refine xok_eqb (h.ln q106).1 ?_
  refine xok_ite (fun c107 => ?_) (fun c107 => ?_)
  · rw [if_pos c107] at e
    exact t76_24  hS  h  e
  · rw [if_neg c107] at e
    refine xok_ite (fun c108 => ?_) (fun c108 => ?_)
    · rw [if_pos c108] at e
      exact t76_24  hS  h  e
    · rw [if_neg c108] at e
      obtain ⟨v109, q110, e⟩ := xbnd e
      refine xok_eqb (h.gi (by decide) (by decide) q110).1 ?_
      refine xok_ite (fun c111 => ?_) (fun c111 => ?_)
      · rw [if_pos c111] at e
        obtain ⟨v112, q113, e⟩ := xbnd e
        refine xok_eqb (h.gr (by decide) (by decide) q113) ?_
        obtain ⟨v114, q115, e⟩ := xbnd e
        refine xok_eqb (h.gi (by decide) (by decide) q115).1 ?_
        obtain ⟨v116, q117, e⟩ := xbnd e
        refine xok_eqb (h.gr (by decide) (by decide) q117) ?_
        obtain ⟨v118, q119, e⟩ := xbnd e
        refine xok_eqb (h.gi (by decide) (by decide) q119).1 ?_
        obtain ⟨v120, q121, e⟩ := xbnd e
        refine xok_eqb (h.gi (by decide) (by decide) q121).1 ?_
        obtain ⟨v122, q123, e⟩ := xbnd e
        refine xok_eqb (h.gi (by decide) (by decide) q123).1 ?_
        obtain ⟨T125, q124, e⟩ := xbnd e
        obtain ⟨M126, q127, h128⟩ := h.cp q124
        refine xok_eqb q127 ?_
        obtain ⟨v129, q130, e⟩ := xbnd e
        refine xok_eqb (h128.gr (by decide) (by decide) q130) ?_
        obtain ⟨v131, q132, e⟩ := xbnd e
        refine xok_eqb (h128.gr (by decide) (by decide) q132) ?_
        obtain ⟨v133, q134, e⟩ := xbnd e
        refine xok_eqb (h128.gi (by decide) (by decide) q134).1 ?_
        obtain ⟨T136, q135, e⟩ := xbnd e
        obtain ⟨M137, q138, h139⟩ := h128.cp q135
        refine xok_eqb q138 ?_
        obtain ⟨v140, q141, e⟩ := xbnd e
        refine xok_eqb (h139.gr (by decide) (by decide) q141) ?_
        obtain ⟨v142, q143, e⟩ := xbnd e
        refine xok_eqb (h139.gi (by decide) (by decide) q143).1 ?_
        obtain ⟨v144, q145, e⟩ := xbnd e
        refine xok_eqb (h139.gi (by decide) (by decide) q145).1 ?_
        obtain ⟨T147, q146, e⟩ := xbnd e
        obtain ⟨M148, q149, h150⟩ := h139.cp q146
        refine xok_eqb q149 ?_
        obtain ⟨v151, q152, e⟩ := xbnd e
        refine xok_eqb (h150.gr (by decide) (by decide) q152) ?_
        obtain ⟨T154, q153, e⟩ := xbnd e
        obtain ⟨M155, q156, h157⟩ := h150.si ta3 q153
        refine xok_eqb q156 ?_
        obtain ⟨v158, q159, e⟩ := xbnd e
        refine xok_eqb (h157.gi (by decide) (by decide) q159).1 ?_
        obtain ⟨T161, q160, e⟩ := xbnd e
        obtain ⟨M162, q163, h164⟩ := h157.pi (by decide) (by decide) (xin_wr _) q160
        refine xok_eqb q163 ?_
        cases e
        exact ⟨_, rfl, h164⟩
      · rw [if_neg c111] at e
        exact t76_24  hS  h  e
-- ChangeHouse$Rows.remove
theorem t77_12 {m f : Nat} {M0 M : xj_M} {T : xT_} (hS : xHS f)   (h : xCX m M0 M T)  {R : xT_}  (e : c77_12  f  T = some R) : xok (f77_12  f  M) (fun r => xCX m M0 r R) := by
  unfold c77_12 at e
  unfold f77_12
  cases e
  exact ⟨_, rfl, h⟩
theorem t77 {m f : Nat} {M0 M : xj_M} {T : xT_} (hS : xHS f) (h : xCX m M0 M T) {a0 : Nat} {a1 : Int} {R : xT_} (ta1 : xin a1) (e : c77 f a0 a1 T = some R) : xok (f77 f a0 a1 M) (fun r => xCX m M0 r R) := by
  unfold c77 at e
  unfold f77
  refine xok_ite (fun c101 => ?_) (fun c101 => ?_)
  · rw [if_pos c101] at e
    exact t77_12  hS  h  e
  · rw [if_neg c101] at e
    obtain ⟨v102, q103, e⟩ := xbnd e
    refine xok_eqb (h.gi (by decide) (by decide) q103).1 ?_
    refine xok_ite (fun c104 => ?_) (fun c104 => ?_)
    · rw [if_pos c104] at e
      obtain ⟨v105, q106, e⟩ := xbnd e
      refine xok_eqb (h.gi (by decide) (by decide) q106).1 ?_
      obtain ⟨v107, q108, e⟩ := xbnd e
      refine xok_eqb (h.gr (by decide) (by decide) q108) ?_
      obtain ⟨v109, q110, e⟩ := xbnd e
      refine xok_eqb (h.gi (by decide) (by decide) q110).1 ?_
      obtain ⟨v111, q112, e⟩ := xbnd e
      refine xok_eqb (h.gr (by decide) (by decide) q112) ?_
      obtain ⟨v113, q114, e⟩ := xbnd e
      refine xok_eqb (h.gi (by decide) (by decide) q114).1 ?_
      obtain ⟨v115, q116, e⟩ := xbnd e
      refine xok_eqb (h.gi (by decide) (by decide) q116).1 ?_
      obtain ⟨T118, q117, e⟩ := xbnd e
      obtain ⟨M119, q120, h121⟩ := h.cp q117
      refine xok_eqb q120 ?_
      obtain ⟨v122, q123, e⟩ := xbnd e
      refine xok_eqb (h121.gr (by decide) (by decide) q123) ?_
      obtain ⟨v124, q125, e⟩ := xbnd e
      refine xok_eqb (h121.gr (by decide) (by decide) q125) ?_
      obtain ⟨T127, q126, e⟩ := xbnd e
      obtain ⟨M128, q129, h130⟩ := h121.cp q126
      refine xok_eqb q129 ?_
      obtain ⟨v131, q132, e⟩ := xbnd e
      refine xok_eqb (h130.gi (by decide) (by decide) q132).1 ?_
      obtain ⟨T134, q133, e⟩ := xbnd e
      obtain ⟨M135, q136, h137⟩ := h130.pi (by decide) (by decide) (xin_wr _) q133
      refine xok_eqb q136 ?_
      cases e
      exact ⟨_, rfl, h137⟩
    · rw [if_neg c104] at e
      exact t77_12  hS  h  e
-- ChangeHouse$Rows.read
theorem t78 {m f : Nat} {M0 M : xj_M} {T : xT_} (hS : xHS f) (h : xCX m M0 M T) {a0 : Nat} {a1 : Int} {a2 : Nat} {R : xT_} (ta1 : xin a1) (e : c78 f a0 a1 a2 T = some R) : xok (f78 f a0 a1 a2 M) (fun r => xCX m M0 r R) := by
  unfold c78 at e
  unfold f78
  obtain ⟨v101, q102, e⟩ := xbnd e
  refine xok_eqb (h.gr (by decide) (by decide) q102) ?_
  obtain ⟨v103, q104, e⟩ := xbnd e
  refine xok_eqb (h.gi (by decide) (by decide) q104).1 ?_
  obtain ⟨v105, q106, e⟩ := xbnd e
  refine xok_eqb (h.gi (by decide) (by decide) q106).1 ?_
  obtain ⟨T108, q107, e⟩ := xbnd e
  obtain ⟨M109, q110, h111⟩ := h.cp q107
  refine xok_eqb q110 ?_
  cases e
  exact ⟨_, rfl, h111⟩
-- ChangeHouse$Rows.copyFrom
theorem t79 {m f : Nat} {M0 M : xj_M} {T : xT_} (hS : xHS f) (h : xCX m M0 M T) {a0 : Nat} {a1 : Nat} {R : xT_}  (e : c79 f a0 a1 T = some R) : xok (f79 f a0 a1 M) (fun r => xCX m M0 r R) := by
  unfold c79 at e
  unfold f79
  obtain ⟨v101, q102, e⟩ := xbnd e
  refine xok_eqb (h.gi (by decide) (by decide) q102).1 ?_
  obtain ⟨_, q108, e⟩ := xbnd e
  obtain ⟨R103, e104, e⟩ := xbnd e
  refine xok_eqb (h.is q108) ?_
  refine xok_call (t69 hS h (h.gi (by decide) (by decide) q102).2 e104) ?_
  intro M105 h106
  obtain ⟨v109, q110, e⟩ := xbnd e
  refine xok_eqb (h106.gi (by decide) (by decide) q110).1 ?_
  obtain ⟨v111, q112, e⟩ := xbnd e
  refine xok_eqb (h106.gr (by decide) (by decide) q112) ?_
  obtain ⟨v113, q114, e⟩ := xbnd e
  refine xok_eqb (h106.ln q114).1 ?_
  obtain ⟨T116, q115, e⟩ := xbnd e
  obtain ⟨M117, q118, h119⟩ := h106.pi (by decide) (by decide) (xmin_in (h106.gi (by decide) (by decide) q110).2 (h106.ln q114).2) q115
  refine xok_eqb q118 ?_
  obtain ⟨v120, q121, e⟩ := xbnd e
  refine xok_eqb (h119.gr (by decide) (by decide) q121) ?_
  obtain ⟨v122, q123, e⟩ := xbnd e
  refine xok_eqb (h119.gr (by decide) (by decide) q123) ?_
  obtain ⟨v124, q125, e⟩ := xbnd e
  refine xok_eqb (h119.gi (by decide) (by decide) q125).1 ?_
  obtain ⟨v126, q127, e⟩ := xbnd e
  refine xok_eqb (h119.gi (by decide) (by decide) q127).1 ?_
  obtain ⟨T129, q128, e⟩ := xbnd e
  obtain ⟨M130, q131, h132⟩ := h119.cp q128
  refine xok_eqb q131 ?_
  obtain ⟨v133, q134, e⟩ := xbnd e
  refine xok_eqb (h132.gr (by decide) (by decide) q134) ?_
  obtain ⟨v135, q136, e⟩ := xbnd e
  refine xok_eqb (h132.gr (by decide) (by decide) q136) ?_
  obtain ⟨v137, q138, e⟩ := xbnd e
  refine xok_eqb (h132.gi (by decide) (by decide) q138).1 ?_
  obtain ⟨T140, q139, e⟩ := xbnd e
  obtain ⟨M141, q142, h143⟩ := h132.cp q139
  refine xok_eqb q142 ?_
  cases e
  exact ⟨_, rfl, h143⟩
-- ChangeHouse$Rows.frozen
theorem t80 {m f : Nat} {M0 M : xj_M} {T : xT_} (hS : xHS f) (h : xCX m M0 M T) {a0 : Nat} {R : Nat × xT_}  (e : c80 f a0 T = some R) : xok (f80 f a0 M) (fun r => r.1 = R.1 ∧ xCX m M0 r.2 R.2) := by
  unfold c80 at e
  unfold f80
  obtain ⟨p101, q102, e⟩ := xbnd e
  obtain ⟨M103, q104, h105⟩ := h.nw (by decide +kernel) (by decide +kernel) q102
  refine xok_eqb q104 ?_
  dsimp only
  obtain ⟨v106, q107, e⟩ := xbnd e
  refine xok_eqb (h105.gi (by decide) (by decide) q107).1 ?_
  obtain ⟨v108, q109, e⟩ := xbnd e
  refine xok_eqb (h105.gi (by decide) (by decide) q109).1 ?_
  obtain ⟨R110, e111, e⟩ := xbnd e
  refine xok_call (t68 hS h105 (h105.gi (by decide) (by decide) q107).2 (h105.gi (by decide) (by decide) q109).2 e111) ?_
  intro M112 h113
  obtain ⟨_, q120, e⟩ := xbnd e
  obtain ⟨R115, e116, e⟩ := xbnd e
  refine xok_eqb (h113.is q120) ?_
  refine xok_call (t79 hS h113  e116) ?_
  intro M117 h118
  cases e
  exact ⟨_, rfl, rfl, h118⟩
-- ChangeHouse$Rows.sameRows
theorem t81_15b {m f : Nat} {M0 M : xj_M} {T : xT_} (hS : xHS f) {r15 : Nat → Nat → Int → xT_ → Option (Int × xT_)} {o15 : Nat → Nat → Int → xj_M → Option (Int × xj_M)} (hr15 : ∀ {M : xj_M} {T : xT_} {x0 : Nat} {x1 : Nat} {x2 : Int} {R : Int × xT_}, xCX m M0 M T → xin x2 → r15 x0 x1 x2 T = some R → xok (o15 x0 x1 x2 M) (fun r => r.1 = R.1 ∧ xCX m M0 r.2 R.2 ∧ xin R.1)) (h : xCX m M0 M T) {x0 : Nat} {x1 : Nat} {x2 : Int} {R : Int × xT_} (tx2 : xin x2) (e : c81_15b r15 f x0 x1 x2 T = some R) : xok (f81_15b o15 f x0 x1 x2 M) (fun r => r.1 = R.1 ∧ xCX m M0 r.2 R.2 ∧ xin R.1) := by
  unfold c81_15b at e
  unfold f81_15b
  obtain ⟨v101, q102, e⟩ := xbnd e
  refine xok_eqb (h.gi (by decide) (by decide) q102).1 ?_
  refine xok_ite (fun c103 => ?_) (fun c103 => ?_)
  · rw [if_pos c103] at e
    cases e
    exact ⟨_, rfl, rfl, h, (show xin (1) by decide)⟩
  · rw [if_neg c103] at e
    obtain ⟨v104, q105, e⟩ := xbnd e
    refine xok_eqb (h.gi (by decide) (by decide) q105).1 ?_
    obtain ⟨_, q111, e⟩ := xbnd e
    obtain ⟨R106, e107, e⟩ := xbnd e
    refine xok_eqb (h.is q111) ?_
    refine xok_call (t72 hS h tx2 tx2 (h.gi (by decide) (by decide) q105).2 e107) ?_
    rintro ⟨v_, M108⟩ ⟨hv_, h109, hi110⟩
    cases hv_
    refine xok_ite (fun c112 => ?_) (fun c112 => ?_)
    · rw [if_pos c112] at e
      exact hr15 h109 (xin_wr _) e
    · rw [if_neg c112] at e
      cases e
      exact ⟨_, rfl, rfl, h109, (show xin (0) by decide)⟩
theorem t81_15 {m f : Nat} {M0 : xj_M} (hS : xHS f)   : ∀ {n : Nat} {M : xj_M} {T : xT_} {x0 : Nat} {x1 : Nat} {x2 : Int} {R : Int × xT_}, xCX m M0 M T → xin x2 → c81_15  f n x0 x1 x2 T = some R → xok (f81_15  f n x0 x1 x2 M) (fun r => r.1 = R.1 ∧ xCX m M0 r.2 R.2 ∧ xin R.1) := by
  intro n
  induction n with
  | zero => intros; rename_i e; cases e
  | succ n ih =>
    intros
    rename_i h i0 e
    exact t81_15b hS  @ih h i0 e
theorem t81 {m f : Nat} {M0 M : xj_M} {T : xT_} (hS : xHS f) (h : xCX m M0 M T) {a0 : Nat} {a1 : Nat} {R : Int × xT_}  (e : c81 f a0 a1 T = some R) : xok (f81 f a0 a1 M) (fun r => r.1 = R.1 ∧ xCX m M0 r.2 R.2 ∧ xin R.1) := by
  unfold c81 at e
  unfold f81
  obtain ⟨v113, q114, e⟩ := xbnd e
  refine xok_eqb (h.gi (by decide) (by decide) q114).1 ?_
  obtain ⟨v115, q116, e⟩ := xbnd e
  refine xok_eqb (h.gi (by decide) (by decide) q116).1 ?_
  refine xok_ite (fun c117 => ?_) (fun c117 => ?_)
  · rw [if_pos c117] at e
    exact t81_15  hS  h (show xin (0) by decide) e
  · rw [if_neg c117] at e
    cases e
    exact ⟨_, rfl, rfl, h, (show xin (0) by decide)⟩
-- ChangeHouse$Rows.sameRanks
theorem t82_33 {m f : Nat} {M0 M : xj_M} {T : xT_} (hS : xHS f)   (h : xCX m M0 M T)  {R : Int × xT_}  (e : c82_33  f  T = some R) : xok (f82_33  f  M) (fun r => r.1 = R.1 ∧ xCX m M0 r.2 R.2 ∧ xin R.1) := by
  unfold c82_33 at e
  unfold f82_33
  cases e
  exact ⟨_, rfl, rfl, h, (show xin (0) by decide)⟩
theorem t82_2b {m f : Nat} {M0 M : xj_M} {T : xT_} (hS : xHS f) {r2 : Nat → Nat → Int → xT_ → Option (Int × xT_)} {o2 : Nat → Nat → Int → xj_M → Option (Int × xj_M)} (hr2 : ∀ {M : xj_M} {T : xT_} {x0 : Nat} {x1 : Nat} {x2 : Int} {R : Int × xT_}, xCX m M0 M T → xin x2 → r2 x0 x1 x2 T = some R → xok (o2 x0 x1 x2 M) (fun r => r.1 = R.1 ∧ xCX m M0 r.2 R.2 ∧ xin R.1)) (h : xCX m M0 M T) {x0 : Nat} {x1 : Nat} {x2 : Int} {R : Int × xT_} (tx2 : xin x2) (e : c82_2b r2 f x0 x1 x2 T = some R) : xok (f82_2b o2 f x0 x1 x2 M) (fun r => r.1 = R.1 ∧ xCX m M0 r.2 R.2 ∧ xin R.1) := by
  unfold c82_2b at e
  unfold f82_2b
  obtain ⟨v101, q102, e⟩ := xbnd e
  refine xok_eqb (h.gi (by decide) (by decide) q102).1 ?_
  refine xok_ite (fun c103 => ?_) (fun c103 => ?_)
  · rw [if_pos c103] at e
    cases e
    exact ⟨_, rfl, rfl, h, (show xin (1) by decide)⟩
  · rw [if_neg c103] at e
    obtain ⟨v104, q105, e⟩ := xbnd e
    refine xok_eqb (h.gi (by decide) (by decide) q105).1 ?_
    refine xok_ite (fun c106 => ?_) (fun c106 => ?_)
    · rw [if_pos c106] at e
      exact t82_33  hS  h  e
    · rw [if_neg c106] at e
      obtain ⟨v107, q108, e⟩ := xbnd e
      refine xok_eqb (h.gr (by decide) (by decide) q108) ?_
      obtain ⟨v109, q110, e⟩ := xbnd e
      refine xok_eqb (h.ai (by decide) q110).1 ?_
      obtain ⟨v111, q112, e⟩ := xbnd e
      refine xok_eqb (h.gr (by decide) (by decide) q112) ?_
      obtain ⟨v113, q114, e⟩ := xbnd e
      refine xok_eqb (h.ai (by decide) q114).1 ?_
      refine xok_ite (fun c115 => ?_) (fun c115 => ?_)
      · rw [if_pos c115] at e
        exact hr2 h (xin_wr _) e
      · rw [if_neg c115] at e
        exact t82_33  hS  h  e
theorem t82_2 {m f : Nat} {M0 : xj_M} (hS : xHS f)   : ∀ {n : Nat} {M : xj_M} {T : xT_} {x0 : Nat} {x1 : Nat} {x2 : Int} {R : Int × xT_}, xCX m M0 M T → xin x2 → c82_2  f n x0 x1 x2 T = some R → xok (f82_2  f n x0 x1 x2 M) (fun r => r.1 = R.1 ∧ xCX m M0 r.2 R.2 ∧ xin R.1) := by
  intro n
  induction n with
  | zero => intros; rename_i e; cases e
  | succ n ih =>
    intros
    rename_i h i0 e
    exact t82_2b hS  @ih h i0 e
theorem t82 {m f : Nat} {M0 M : xj_M} {T : xT_} (hS : xHS f) (h : xCX m M0 M T) {a0 : Nat} {a1 : Nat} {R : Int × xT_}  (e : c82 f a0 a1 T = some R) : xok (f82 f a0 a1 M) (fun r => r.1 = R.1 ∧ xCX m M0 r.2 R.2 ∧ xin R.1) := by
  unfold c82 at e
  unfold f82
  exact t82_2  hS  h (show xin (0) by decide) e
