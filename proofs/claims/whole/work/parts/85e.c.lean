/-! The class over its cells as functions (written by mk_c.py) -/
-- ChangeHouse$Ways.worth
theorem t141_134 {m f : Nat} {M0 M : xj_M} {T : xT_} (hS : xHS f) {r12 : Nat → Int → Int → Int → xT_ → Option (Int × xT_)} {o12 : Nat → Int → Int → Int → xj_M → Option (Int × xj_M)} (hr12 : ∀ {M : xj_M} {T : xT_} {x0 : Nat} {x1 : Int} {x2 : Int} {x3 : Int} {R : Int × xT_}, xCX m M0 M T → xin x1 → xin x2 → xin x3 → r12 x0 x1 x2 x3 T = some R → xok (o12 x0 x1 x2 x3 M) (fun r => r.1 = R.1 ∧ xCX m M0 r.2 R.2 ∧ xiN R.1)) (h : xCX m M0 M T) {x0 : Nat} {x1 : Int} {x2 : Int} {x3 : Int} {R : Int × xT_} (tx1 : xin x1) (tx2 : xin x2) (tx3 : xin x3) (e : c141_134 r12 f x0 x1 x2 x3 T = some R) : xok (f141_134 o12 f x0 x1 x2 x3 M) (fun r => r.1 = R.1 ∧ xCX m M0 r.2 R.2 ∧ xiN R.1) := by
  unfold c141_134 at e
  unfold f141_134
  exact hr12 h tx1 tx2 (xin_wr _) e
theorem t141_92 {m f : Nat} {M0 M : xj_M} {T : xT_} (hS : xHS f) {r12 : Nat → Int → Int → Int → xT_ → Option (Int × xT_)} {o12 : Nat → Int → Int → Int → xj_M → Option (Int × xj_M)} (hr12 : ∀ {M : xj_M} {T : xT_} {x0 : Nat} {x1 : Int} {x2 : Int} {x3 : Int} {R : Int × xT_}, xCX m M0 M T → xin x1 → xin x2 → xin x3 → r12 x0 x1 x2 x3 T = some R → xok (o12 x0 x1 x2 x3 M) (fun r => r.1 = R.1 ∧ xCX m M0 r.2 R.2 ∧ xiN R.1)) (h : xCX m M0 M T) {x0 : Nat} {x1 : Int} {x2 : Int} {x3 : Int} {y0 : Int} {y1 : Int} {y2 : Nat} {R : Int × xT_} (tx1 : xin x1) (tx2 : xin x2) (tx3 : xin x3) (ty0 : xiN y0) (ty1 : xin y1) (e : c141_92 r12 f x0 x1 x2 x3 y0 y1 y2 T = some R) : xok (f141_92 o12 f x0 x1 x2 x3 y0 y1 y2 M) (fun r => r.1 = R.1 ∧ xCX m M0 r.2 R.2 ∧ xiN R.1) := by
  unfold c141_92 at e
  unfold f141_92
  obtain ⟨T102, q101, e⟩ := xbnd e
  obtain ⟨M103, q104, h105⟩ := h.sl ty0 q101
  refine xok_eqb q104 ?_
  exact t141_134 (r12 := r12) (o12 := o12) hS @hr12 h105 tx1 (xin_wr _) tx3 e
theorem t141_48 {m f : Nat} {M0 M : xj_M} {T : xT_} (hS : xHS f) {r12 : Nat → Int → Int → Int → xT_ → Option (Int × xT_)} {o12 : Nat → Int → Int → Int → xj_M → Option (Int × xj_M)} (hr12 : ∀ {M : xj_M} {T : xT_} {x0 : Nat} {x1 : Int} {x2 : Int} {x3 : Int} {R : Int × xT_}, xCX m M0 M T → xin x1 → xin x2 → xin x3 → r12 x0 x1 x2 x3 T = some R → xok (o12 x0 x1 x2 x3 M) (fun r => r.1 = R.1 ∧ xCX m M0 r.2 R.2 ∧ xiN R.1)) (h : xCX m M0 M T) {x0 : Nat} {x1 : Int} {x2 : Int} {x3 : Int} {x4 : Int} {R : Int × xT_} (tx1 : xin x1) (tx2 : xin x2) (tx3 : xin x3) (tx4 : xin x4) (e : c141_48 r12 f x0 x1 x2 x3 x4 T = some R) : xok (f141_48 o12 f x0 x1 x2 x3 x4 M) (fun r => r.1 = R.1 ∧ xCX m M0 r.2 R.2 ∧ xiN R.1) := by
  unfold c141_48 at e
  unfold f141_48
  refine xok_ite (fun c106 => ?_) (fun c106 => ?_)
  · rw [if_pos c106] at e
    exact t141_134 (r12 := r12) (o12 := o12) hS @hr12 h tx1 tx2 tx3 e
  · rw [if_neg c106] at e
    obtain ⟨v107, q108, e⟩ := xbnd e
    refine xok_eqb (h.gr (by decide) (by decide) q108) ?_
    refine xok_ite (fun c109 => ?_) (fun c109 => ?_)
    · rw [if_pos c109] at e
      obtain ⟨v110, q111, e⟩ := xbnd e
      refine xok_eqb (h.gr (by decide) (by decide) q111) ?_
      obtain ⟨v112, q113, e⟩ := xbnd e
      refine xok_eqb (h.gr (by decide) (by decide) q113) ?_
      obtain ⟨v114, q115, e⟩ := xbnd e
      refine xok_eqb (h.gr (by decide) (by decide) q115) ?_
      obtain ⟨v116, q117, e⟩ := xbnd e
      refine xok_eqb (h.al q117).1 ?_
      obtain ⟨v118, q119, e⟩ := xbnd e
      refine xok_eqb (h.al q119).1 ?_
      exact t141_92 (r12 := r12) (o12 := o12) hS @hr12 h tx1 tx2 tx3 (h.al q119).2 tx2 e
    · rw [if_neg c109] at e
      obtain ⟨v120, q121, e⟩ := xbnd e
      refine xok_eqb (h.gr (by decide) (by decide) q121) ?_
      obtain ⟨v122, q123, e⟩ := xbnd e
      refine xok_eqb (h.gr (by decide) (by decide) q123) ?_
      obtain ⟨v124, q125, e⟩ := xbnd e
      refine xok_eqb (h.al q125).1 ?_
      exact t141_92 (r12 := r12) (o12 := o12) hS @hr12 h tx1 tx2 tx3 (h.al q125).2 tx2 e
theorem t141_12b {m f : Nat} {M0 M : xj_M} {T : xT_} (hS : xHS f) {r12 : Nat → Int → Int → Int → xT_ → Option (Int × xT_)} {o12 : Nat → Int → Int → Int → xj_M → Option (Int × xj_M)} (hr12 : ∀ {M : xj_M} {T : xT_} {x0 : Nat} {x1 : Int} {x2 : Int} {x3 : Int} {R : Int × xT_}, xCX m M0 M T → xin x1 → xin x2 → xin x3 → r12 x0 x1 x2 x3 T = some R → xok (o12 x0 x1 x2 x3 M) (fun r => r.1 = R.1 ∧ xCX m M0 r.2 R.2 ∧ xiN R.1)) (h : xCX m M0 M T) {x0 : Nat} {x1 : Int} {x2 : Int} {x3 : Int} {R : Int × xT_} (tx1 : xin x1) (tx2 : xin x2) (tx3 : xin x3) (e : c141_12b r12 f x0 x1 x2 x3 T = some R) : xok (f141_12b o12 f x0 x1 x2 x3 M) (fun r => r.1 = R.1 ∧ xCX m M0 r.2 R.2 ∧ xiN R.1) := by
  unfold c141_12b at e
  unfold f141_12b
  obtain ⟨v126, q127, e⟩ := xbnd e
  refine xok_eqb (h.gr (by decide) (by decide) q127) ?_
  obtain ⟨v128, q129, e⟩ := xbnd e
  refine xok_eqb (h.gr (by decide) (by decide) q129) ?_
  obtain ⟨v130, q131, e⟩ := xbnd e
  refine xok_eqb (h.ai (by decide) q131).1 ?_
  refine xok_ite (fun c132 => ?_) (fun c132 => ?_)
  · rw [if_pos c132] at e
    obtain ⟨v133, q134, e⟩ := xbnd e
    refine xok_eqb (h.gr (by decide) (by decide) q134) ?_
    obtain ⟨v135, q136, e⟩ := xbnd e
    refine xok_eqb (h.al q136).1 ?_
    cases e
    exact ⟨_, rfl, rfl, h, (h.al q136).2⟩
  · rw [if_neg c132] at e
    obtain ⟨v137, q138, e⟩ := xbnd e
    refine xok_eqb (h.gr (by decide) (by decide) q138) ?_
    obtain ⟨v139, q140, e⟩ := xbnd e
    refine xok_eqb (h.gr (by decide) (by decide) q140) ?_
    obtain ⟨v141, q142, e⟩ := xbnd e
    refine xok_eqb (h.ai (by decide) q142).1 ?_
    refine xok_ite (fun c143 => ?_) (fun c143 => ?_)
    · rw [if_pos c143] at e
      exact t141_48 (r12 := r12) (o12 := o12) hS @hr12 h tx1 tx2 tx3 (h.ai (by decide) q142).2 e
    · rw [if_neg c143] at e
      refine xok_ite (fun c144 => ?_) (fun c144 => ?_)
      · rw [if_pos c144] at e
        refine xok_ite (fun c145 => ?_) (fun c145 => ?_)
        · rw [if_pos c145] at e
          exact t141_134 (r12 := r12) (o12 := o12) hS @hr12 h tx1 tx2 tx3 e
        · rw [if_neg c145] at e
          obtain ⟨v146, q147, e⟩ := xbnd e
          refine xok_eqb (h.gr (by decide) (by decide) q147) ?_
          obtain ⟨v148, q149, e⟩ := xbnd e
          refine xok_eqb (h.gr (by decide) (by decide) q149) ?_
          obtain ⟨v150, q151, e⟩ := xbnd e
          refine xok_eqb (h.al q151).1 ?_
          obtain ⟨v152, q153, e⟩ := xbnd e
          refine xok_eqb (h.gr (by decide) (by decide) q153) ?_
          obtain ⟨v154, q155, e⟩ := xbnd e
          refine xok_eqb (h.al q155).1 ?_
          obtain ⟨R156, e157, e⟩ := xbnd e
          refine xok_call (t192 hS h (h.ai (by decide) q142).2 (h.al q151).2 (h.al q155).2 e157) ?_
          rintro ⟨v_, M158⟩ ⟨hv_, h159, hi160⟩
          cases hv_
          obtain ⟨T162, q161, e⟩ := xbnd e
          obtain ⟨M163, q164, h165⟩ := h159.sl hi160 q161
          refine xok_eqb q164 ?_
          exact t141_134 (r12 := r12) (o12 := o12) hS @hr12 h165 tx1 (xin_wr _) tx3 e
      · rw [if_neg c144] at e
        exact t141_48 (r12 := r12) (o12 := o12) hS @hr12 h tx1 tx2 tx3 (h.ai (by decide) q142).2 e
theorem t141_12 {m f : Nat} {M0 : xj_M} (hS : xHS f)   : ∀ {n : Nat} {M : xj_M} {T : xT_} {x0 : Nat} {x1 : Int} {x2 : Int} {x3 : Int} {R : Int × xT_}, xCX m M0 M T → xin x1 → xin x2 → xin x3 → c141_12  f n x0 x1 x2 x3 T = some R → xok (f141_12  f n x0 x1 x2 x3 M) (fun r => r.1 = R.1 ∧ xCX m M0 r.2 R.2 ∧ xiN R.1) := by
  intro n
  induction n with
  | zero => intros; rename_i e; cases e
  | succ n ih =>
    intros
    rename_i h i0 i1 i2 e
    exact t141_12b hS  @ih h i0 i1 i2 e
theorem t141 {m f : Nat} {M0 M : xj_M} {T : xT_} (hS : xHS f) (h : xCX m M0 M T) {a0 : Nat} {a1 : Int} {R : Int × xT_} (ta1 : xin a1) (e : c141 f a0 a1 T = some R) : xok (f141 f a0 a1 M) (fun r => r.1 = R.1 ∧ xCX m M0 r.2 R.2 ∧ xiN R.1) := by
  unfold c141 at e
  unfold f141
  obtain ⟨v166, q167, e⟩ := xbnd e
  refine xok_eqb (h.gr (by decide) (by decide) q167) ?_
  obtain ⟨v168, q169, e⟩ := xbnd e
  refine xok_eqb (h.gr (by decide) (by decide) q169) ?_
  obtain ⟨v170, q171, e⟩ := xbnd e
  refine xok_eqb (h.ai (by decide) q171).1 ?_
  exact t141_12  hS  h ta1 (show xin (0) by decide) (h.ai (by decide) q171).2 e
-- ChangeHouse$Ways.headRow
theorem t142_35 {m f : Nat} {M0 M : xj_M} {T : xT_} (hS : xHS f) {r2 : Nat → Nat → Int → xT_ → Option (Int × xT_)} {o2 : Nat → Nat → Int → xj_M → Option (Int × xj_M)} (hr2 : ∀ {M : xj_M} {T : xT_} {x0 : Nat} {x1 : Nat} {x2 : Int} {R : Int × xT_}, xCX m M0 M T → xin x2 → r2 x0 x1 x2 T = some R → xok (o2 x0 x1 x2 M) (fun r => r.1 = R.1 ∧ xCX m M0 r.2 R.2 ∧ xin R.1)) (h : xCX m M0 M T) {x0 : Nat} {x1 : Nat} {x2 : Int} {y0 : Int} {y1 : Int} {y2 : Nat} {R : Int × xT_} (tx2 : xin x2) (ty0 : xiN y0) (ty1 : xin y1) (e : c142_35 r2 f x0 x1 x2 y0 y1 y2 T = some R) : xok (f142_35 o2 f x0 x1 x2 y0 y1 y2 M) (fun r => r.1 = R.1 ∧ xCX m M0 r.2 R.2 ∧ xin R.1) := by
  unfold c142_35 at e
  unfold f142_35
  obtain ⟨T102, q101, e⟩ := xbnd e
  obtain ⟨M103, q104, h105⟩ := h.sl ty0 q101
  refine xok_eqb q104 ?_
  obtain ⟨v106, q107, e⟩ := xbnd e
  refine xok_eqb (h105.al q107).1 ?_
  refine xok_ite (fun c108 => ?_) (fun c108 => ?_)
  · rw [if_pos c108] at e
    exact hr2 h105 (xin_wr _) e
  · rw [if_neg c108] at e
    cases e
    exact ⟨_, rfl, rfl, h105, (show xin (0) by decide)⟩
theorem t142_2b {m f : Nat} {M0 M : xj_M} {T : xT_} (hS : xHS f) {r2 : Nat → Nat → Int → xT_ → Option (Int × xT_)} {o2 : Nat → Nat → Int → xj_M → Option (Int × xj_M)} (hr2 : ∀ {M : xj_M} {T : xT_} {x0 : Nat} {x1 : Nat} {x2 : Int} {R : Int × xT_}, xCX m M0 M T → xin x2 → r2 x0 x1 x2 T = some R → xok (o2 x0 x1 x2 M) (fun r => r.1 = R.1 ∧ xCX m M0 r.2 R.2 ∧ xin R.1)) (h : xCX m M0 M T) {x0 : Nat} {x1 : Nat} {x2 : Int} {R : Int × xT_} (tx2 : xin x2) (e : c142_2b r2 f x0 x1 x2 T = some R) : xok (f142_2b o2 f x0 x1 x2 M) (fun r => r.1 = R.1 ∧ xCX m M0 r.2 R.2 ∧ xin R.1) := by
  unfold c142_2b at e
  unfold f142_2b
  obtain ⟨v109, q110, e⟩ := xbnd e
  refine xok_eqb (h.gr (by decide) (by decide) q110) ?_
  obtain ⟨v111, q112, e⟩ := xbnd e
  refine xok_eqb (h.gi (by decide) (by decide) q112).1 ?_
  refine xok_ite (fun c113 => ?_) (fun c113 => ?_)
  · rw [if_pos c113] at e
    cases e
    exact ⟨_, rfl, rfl, h, (show xin (1) by decide)⟩
  · rw [if_neg c113] at e
    obtain ⟨v114, q115, e⟩ := xbnd e
    refine xok_eqb (h.gr (by decide) (by decide) q115) ?_
    obtain ⟨v116, q117, e⟩ := xbnd e
    refine xok_eqb (h.gi (by decide) (by decide) q117).1 ?_
    refine xok_ite (fun c118 => ?_) (fun c118 => ?_)
    · rw [if_pos c118] at e
      obtain ⟨_, q124, e⟩ := xbnd e
      obtain ⟨R119, e120, e⟩ := xbnd e
      refine xok_eqb (h.is q124) ?_
      refine xok_call (t141 hS h tx2 e120) ?_
      rintro ⟨v_, M121⟩ ⟨hv_, h122, hi123⟩
      cases hv_
      exact t142_35 (r2 := r2) (o2 := o2) hS @hr2 h122 tx2 hi123 tx2 e
    · rw [if_neg c118] at e
      exact t142_35 (r2 := r2) (o2 := o2) hS @hr2 h tx2 (show xiN (0) by decide) tx2 e
theorem t142_2 {m f : Nat} {M0 : xj_M} (hS : xHS f)   : ∀ {n : Nat} {M : xj_M} {T : xT_} {x0 : Nat} {x1 : Nat} {x2 : Int} {R : Int × xT_}, xCX m M0 M T → xin x2 → c142_2  f n x0 x1 x2 T = some R → xok (f142_2  f n x0 x1 x2 M) (fun r => r.1 = R.1 ∧ xCX m M0 r.2 R.2 ∧ xin R.1) := by
  intro n
  induction n with
  | zero => intros; rename_i e; cases e
  | succ n ih =>
    intros
    rename_i h i0 e
    exact t142_2b hS  @ih h i0 e
theorem t142 {m f : Nat} {M0 M : xj_M} {T : xT_} (hS : xHS f) (h : xCX m M0 M T) {a0 : Nat} {a1 : Nat} {R : Int × xT_}  (e : c142 f a0 a1 T = some R) : xok (f142 f a0 a1 M) (fun r => r.1 = R.1 ∧ xCX m M0 r.2 R.2 ∧ xin R.1) := by
  unfold c142 at e
  unfold f142
  exact t142_2  hS  h (show xin (0) by decide) e
-- ChangeHouse$Works.tell
theorem t146_94 {m f : Nat} {M0 M : xj_M} {T : xT_} (hS : xHS f) {r2 : Nat → Nat → Int → xT_ → Option (Int × xT_)} {o2 : Nat → Nat → Int → xj_M → Option (Int × xj_M)} {r18 : Nat → Nat → Int → Int → Int → xT_ → Option (Int × xT_)} {o18 : Nat → Nat → Int → Int → Int → xj_M → Option (Int × xj_M)} (hr2 : ∀ {M : xj_M} {T : xT_} {x0 : Nat} {x1 : Nat} {x2 : Int} {R : Int × xT_}, xCX m M0 M T → xin x2 → r2 x0 x1 x2 T = some R → xok (o2 x0 x1 x2 M) (fun r => r.1 = R.1 ∧ xCX m M0 r.2 R.2 ∧ xin R.1)) (hr18 : ∀ {M : xj_M} {T : xT_} {x0 : Nat} {x1 : Nat} {x2 : Int} {x3 : Int} {x4 : Int} {R : Int × xT_}, xCX m M0 M T → xin x2 → xin x3 → xin x4 → r18 x0 x1 x2 x3 x4 T = some R → xok (o18 x0 x1 x2 x3 x4 M) (fun r => r.1 = R.1 ∧ xCX m M0 r.2 R.2 ∧ xin R.1)) (h : xCX m M0 M T) {x0 : Nat} {x1 : Nat} {x2 : Int} {x3 : Int} {x4 : Int} {R : Int × xT_} (tx2 : xin x2) (tx3 : xin x3) (tx4 : xin x4) (e : c146_94 r2 r18 f x0 x1 x2 x3 x4 T = some R) : xok (f146_94 o2 o18 f x0 x1 x2 x3 x4 M) (fun r => r.1 = R.1 ∧ xCX m M0 r.2 R.2 ∧ xin R.1) := by
  unfold c146_94 at e
  unfold f146_94
  exact hr18 h tx2 tx3 (xin_wr _) e
theorem t146_57 {m f : Nat} {M0 M : xj_M} {T : xT_} (hS : xHS f) {r2 : Nat → Nat → Int → xT_ → Option (Int × xT_)} {o2 : Nat → Nat → Int → xj_M → Option (Int × xj_M)} {r18 : Nat → Nat → Int → Int → Int → xT_ → Option (Int × xT_)} {o18 : Nat → Nat → Int → Int → Int → xj_M → Option (Int × xj_M)} (hr2 : ∀ {M : xj_M} {T : xT_} {x0 : Nat} {x1 : Nat} {x2 : Int} {R : Int × xT_}, xCX m M0 M T → xin x2 → r2 x0 x1 x2 T = some R → xok (o2 x0 x1 x2 M) (fun r => r.1 = R.1 ∧ xCX m M0 r.2 R.2 ∧ xin R.1)) (hr18 : ∀ {M : xj_M} {T : xT_} {x0 : Nat} {x1 : Nat} {x2 : Int} {x3 : Int} {x4 : Int} {R : Int × xT_}, xCX m M0 M T → xin x2 → xin x3 → xin x4 → r18 x0 x1 x2 x3 x4 T = some R → xok (o18 x0 x1 x2 x3 x4 M) (fun r => r.1 = R.1 ∧ xCX m M0 r.2 R.2 ∧ xin R.1)) (h : xCX m M0 M T) {x0 : Nat} {x1 : Nat} {x2 : Int} {x3 : Int} {x4 : Int} {R : Int × xT_} (tx2 : xin x2) (tx3 : xin x3) (tx4 : xin x4) (e : c146_57 r2 r18 f x0 x1 x2 x3 x4 T = some R) : xok (f146_57 o2 o18 f x0 x1 x2 x3 x4 M) (fun r => r.1 = R.1 ∧ xCX m M0 r.2 R.2 ∧ xin R.1) := by
  unfold c146_57 at e
  unfold f146_57
  obtain ⟨v101, q102, e⟩ := xbnd e
  refine xok_eqb (h.gr (by decide) (by decide) q102) ?_
  obtain ⟨v103, q104, e⟩ := xbnd e
  refine xok_eqb (h.gr (by decide) (by decide) q104) ?_
  obtain ⟨T106, q105, e⟩ := xbnd e
  obtain ⟨M107, q108, h109⟩ := h.cp q105
  refine xok_eqb q108 ?_
  obtain ⟨v110, q111, e⟩ := xbnd e
  refine xok_eqb (h109.gr (by decide) (by decide) q111) ?_
  obtain ⟨v112, q113, e⟩ := xbnd e
  refine xok_eqb (h109.ab q113).1 ?_
  obtain ⟨v114, q115, e⟩ := xbnd e
  refine xok_eqb (h109.gr (by decide) (by decide) q115) ?_
  obtain ⟨v116, q117, e⟩ := xbnd e
  refine xok_eqb (h109.gr (by decide) (by decide) q117) ?_
  obtain ⟨v118, q119, e⟩ := xbnd e
  refine xok_eqb (h109.ai (by decide) q119).1 ?_
  obtain ⟨_, q125, e⟩ := xbnd e
  obtain ⟨R120, e121, e⟩ := xbnd e
  refine xok_eqb (h109.is q125) ?_
  refine xok_call (t147 hS h109 (h109.ab q113).2 (h109.ai (by decide) q119).2 e121) ?_
  intro M122 h123
  exact t146_94 (r2 := r2) (o2 := o2) (r18 := r18) (o18 := o18) hS @hr2 @hr18 h123 tx2 tx3 tx4 e
theorem t146_160 {m f : Nat} {M0 M : xj_M} {T : xT_} (hS : xHS f) {r2 : Nat → Nat → Int → xT_ → Option (Int × xT_)} {o2 : Nat → Nat → Int → xj_M → Option (Int × xj_M)} (hr2 : ∀ {M : xj_M} {T : xT_} {x0 : Nat} {x1 : Nat} {x2 : Int} {R : Int × xT_}, xCX m M0 M T → xin x2 → r2 x0 x1 x2 T = some R → xok (o2 x0 x1 x2 M) (fun r => r.1 = R.1 ∧ xCX m M0 r.2 R.2 ∧ xin R.1)) (h : xCX m M0 M T) {x0 : Nat} {x1 : Nat} {x2 : Int} {R : Int × xT_} (tx2 : xin x2) (e : c146_160 r2 f x0 x1 x2 T = some R) : xok (f146_160 o2 f x0 x1 x2 M) (fun r => r.1 = R.1 ∧ xCX m M0 r.2 R.2 ∧ xin R.1) := by
  unfold c146_160 at e
  unfold f146_160
  exact hr2 h (xin_wr _) e
theorem t146_143 {m f : Nat} {M0 M : xj_M} {T : xT_} (hS : xHS f) {r2 : Nat → Nat → Int → xT_ → Option (Int × xT_)} {o2 : Nat → Nat → Int → xj_M → Option (Int × xj_M)} (hr2 : ∀ {M : xj_M} {T : xT_} {x0 : Nat} {x1 : Nat} {x2 : Int} {R : Int × xT_}, xCX m M0 M T → xin x2 → r2 x0 x1 x2 T = some R → xok (o2 x0 x1 x2 M) (fun r => r.1 = R.1 ∧ xCX m M0 r.2 R.2 ∧ xin R.1)) (h : xCX m M0 M T) {x0 : Nat} {x1 : Nat} {x2 : Int} {R : Int × xT_} (tx2 : xin x2) (e : c146_143 r2 f x0 x1 x2 T = some R) : xok (f146_143 o2 f x0 x1 x2 M) (fun r => r.1 = R.1 ∧ xCX m M0 r.2 R.2 ∧ xin R.1) := by
  unfold c146_143 at e
  unfold f146_143
  obtain ⟨v126, q127, e⟩ := xbnd e
  refine xok_eqb (h.gr (by decide) (by decide) q127) ?_
  obtain ⟨v128, q129, e⟩ := xbnd e
  refine xok_eqb (h.gr (by decide) (by decide) q129) ?_
  obtain ⟨v130, q131, e⟩ := xbnd e
  refine xok_eqb (h.ab q131).1 ?_
  refine xok_ite (fun c132 => ?_) (fun c132 => ?_)
  · rw [if_pos c132] at e
    exact t146_160 (r2 := r2) (o2 := o2) hS @hr2 h tx2 e
  · rw [if_neg c132] at e
    obtain ⟨_, q138, e⟩ := xbnd e
    obtain ⟨R133, e134, e⟩ := xbnd e
    refine xok_eqb (h.is q138) ?_
    refine xok_call (t148 hS h tx2 e134) ?_
    intro M135 h136
    exact t146_160 (r2 := r2) (o2 := o2) hS @hr2 h136 tx2 e
theorem t146_18b {m f : Nat} {M0 M : xj_M} {T : xT_} (hS : xHS f) {r2 : Nat → Nat → Int → xT_ → Option (Int × xT_)} {o2 : Nat → Nat → Int → xj_M → Option (Int × xj_M)} {r18 : Nat → Nat → Int → Int → Int → xT_ → Option (Int × xT_)} {o18 : Nat → Nat → Int → Int → Int → xj_M → Option (Int × xj_M)} (hr2 : ∀ {M : xj_M} {T : xT_} {x0 : Nat} {x1 : Nat} {x2 : Int} {R : Int × xT_}, xCX m M0 M T → xin x2 → r2 x0 x1 x2 T = some R → xok (o2 x0 x1 x2 M) (fun r => r.1 = R.1 ∧ xCX m M0 r.2 R.2 ∧ xin R.1)) (hr18 : ∀ {M : xj_M} {T : xT_} {x0 : Nat} {x1 : Nat} {x2 : Int} {x3 : Int} {x4 : Int} {R : Int × xT_}, xCX m M0 M T → xin x2 → xin x3 → xin x4 → r18 x0 x1 x2 x3 x4 T = some R → xok (o18 x0 x1 x2 x3 x4 M) (fun r => r.1 = R.1 ∧ xCX m M0 r.2 R.2 ∧ xin R.1)) (h : xCX m M0 M T) {x0 : Nat} {x1 : Nat} {x2 : Int} {x3 : Int} {x4 : Int} {R : Int × xT_} (tx2 : xin x2) (tx3 : xin x3) (tx4 : xin x4) (e : c146_18b r2 r18 f x0 x1 x2 x3 x4 T = some R) : xok (f146_18b o2 o18 f x0 x1 x2 x3 x4 M) (fun r => r.1 = R.1 ∧ xCX m M0 r.2 R.2 ∧ xin R.1) := by
  unfold c146_18b at e
  unfold f146_18b
  obtain ⟨v139, q140, e⟩ := xbnd e
  refine xok_eqb (h.gi (by decide) (by decide) q140).1 ?_
  refine xok_ite (fun c141 => ?_) (fun c141 => ?_)
  · rw [if_pos c141] at e
    refine xok_ite (fun c142 => ?_) (fun c142 => ?_)
    · rw [if_pos c142] at e
      exact t146_143 (r2 := r2) (o2 := o2) hS @hr2 h tx2 e
    · rw [if_neg c142] at e
      obtain ⟨v143, q144, e⟩ := xbnd e
      refine xok_eqb (h.gr (by decide) (by decide) q144) ?_
      obtain ⟨v145, q146, e⟩ := xbnd e
      refine xok_eqb (h.gi (by decide) (by decide) q146).1 ?_
      refine xok_ite (fun c147 => ?_) (fun c147 => ?_)
      · rw [if_pos c147] at e
        obtain ⟨v148, q149, e⟩ := xbnd e
        refine xok_eqb (h.gr (by decide) (by decide) q149) ?_
        obtain ⟨v150, q151, e⟩ := xbnd e
        refine xok_eqb (h.ar q151) ?_
        obtain ⟨v152, q153, e⟩ := xbnd e
        refine xok_eqb (h.gr (by decide) (by decide) q153) ?_
        obtain ⟨_, q159, e⟩ := xbnd e
        obtain ⟨R154, e155, e⟩ := xbnd e
        refine xok_eqb (h.is q159) ?_
        refine xok_call (t79 hS h  e155) ?_
        intro M156 h157
        obtain ⟨v160, q161, e⟩ := xbnd e
        refine xok_eqb (h157.gr (by decide) (by decide) q161) ?_
        obtain ⟨v162, q163, e⟩ := xbnd e
        refine xok_eqb (h157.gr (by decide) (by decide) q163) ?_
        obtain ⟨v164, q165, e⟩ := xbnd e
        refine xok_eqb (h157.ar q165) ?_
        obtain ⟨T167, q166, e⟩ := xbnd e
        obtain ⟨M168, q169, h170⟩ := h157.sr  q166
        refine xok_eqb q169 ?_
        exact t146_143 (r2 := r2) (o2 := o2) hS @hr2 h170 tx2 e
      · rw [if_neg c147] at e
        cases e
        exact ⟨_, rfl, rfl, h, (show xin (0) by decide)⟩
  · rw [if_neg c141] at e
    obtain ⟨v171, q172, e⟩ := xbnd e
    refine xok_eqb (h.gr (by decide) (by decide) q172) ?_
    obtain ⟨v173, q174, e⟩ := xbnd e
    refine xok_eqb (h.ai (by decide) q174).1 ?_
    refine xok_ite (fun c175 => ?_) (fun c175 => ?_)
    · rw [if_pos c175] at e
      exact t146_94 (r2 := r2) (o2 := o2) (r18 := r18) (o18 := o18) hS @hr2 @hr18 h tx2 tx3 tx4 e
    · rw [if_neg c175] at e
      refine xok_ite (fun c176 => ?_) (fun c176 => ?_)
      · rw [if_pos c176] at e
        exact t146_57 (r2 := r2) (o2 := o2) (r18 := r18) (o18 := o18) hS @hr2 @hr18 h tx2 tx3 tx4 e
      · rw [if_neg c176] at e
        obtain ⟨v177, q178, e⟩ := xbnd e
        refine xok_eqb (h.gr (by decide) (by decide) q178) ?_
        obtain ⟨v179, q180, e⟩ := xbnd e
        refine xok_eqb (h.gr (by decide) (by decide) q180) ?_
        obtain ⟨v181, q182, e⟩ := xbnd e
        refine xok_eqb (h.ar q182) ?_
        obtain ⟨_, q188, e⟩ := xbnd e
        obtain ⟨R183, e184, e⟩ := xbnd e
        refine xok_eqb (h.is q188) ?_
        refine xok_call (t79 hS h  e184) ?_
        intro M185 h186
        exact t146_57 (r2 := r2) (o2 := o2) (r18 := r18) (o18 := o18) hS @hr2 @hr18 h186 tx2 (show xin (1) by decide) tx4 e
theorem t146_18 {m f : Nat} {M0 : xj_M} (hS : xHS f) {r2 : Nat → Nat → Int → xT_ → Option (Int × xT_)} {o2 : Nat → Nat → Int → xj_M → Option (Int × xj_M)} (hr2 : ∀ {M : xj_M} {T : xT_} {x0 : Nat} {x1 : Nat} {x2 : Int} {R : Int × xT_}, xCX m M0 M T → xin x2 → r2 x0 x1 x2 T = some R → xok (o2 x0 x1 x2 M) (fun r => r.1 = R.1 ∧ xCX m M0 r.2 R.2 ∧ xin R.1)) : ∀ {n : Nat} {M : xj_M} {T : xT_} {x0 : Nat} {x1 : Nat} {x2 : Int} {x3 : Int} {x4 : Int} {R : Int × xT_}, xCX m M0 M T → xin x2 → xin x3 → xin x4 → c146_18 r2 f n x0 x1 x2 x3 x4 T = some R → xok (f146_18 o2 f n x0 x1 x2 x3 x4 M) (fun r => r.1 = R.1 ∧ xCX m M0 r.2 R.2 ∧ xin R.1) := by
  intro n
  induction n with
  | zero => intros; rename_i e; cases e
  | succ n ih =>
    intros
    rename_i h i0 i1 i2 e
    exact t146_18b hS @hr2 @ih h i0 i1 i2 e
theorem t146_2b {m f : Nat} {M0 M : xj_M} {T : xT_} (hS : xHS f) {r2 : Nat → Nat → Int → xT_ → Option (Int × xT_)} {o2 : Nat → Nat → Int → xj_M → Option (Int × xj_M)} (hr2 : ∀ {M : xj_M} {T : xT_} {x0 : Nat} {x1 : Nat} {x2 : Int} {R : Int × xT_}, xCX m M0 M T → xin x2 → r2 x0 x1 x2 T = some R → xok (o2 x0 x1 x2 M) (fun r => r.1 = R.1 ∧ xCX m M0 r.2 R.2 ∧ xin R.1)) (h : xCX m M0 M T) {x0 : Nat} {x1 : Nat} {x2 : Int} {R : Int × xT_} (tx2 : xin x2) (e : c146_2b r2 f x0 x1 x2 T = some R) : xok (f146_2b o2 f x0 x1 x2 M) (fun r => r.1 = R.1 ∧ xCX m M0 r.2 R.2 ∧ xin R.1) := by
  unfold c146_2b at e
  unfold f146_2b
  obtain ⟨v189, q190, e⟩ := xbnd e
  refine xok_eqb (h.gr (by decide) (by decide) q190) ?_
  obtain ⟨v191, q192, e⟩ := xbnd e
  refine xok_eqb (h.gi (by decide) (by decide) q192).1 ?_
  refine xok_ite (fun c193 => ?_) (fun c193 => ?_)
  · rw [if_pos c193] at e
    cases e
    exact ⟨_, rfl, rfl, h, (show xin (1) by decide)⟩
  · rw [if_neg c193] at e
    exact t146_18 (r2 := r2) (o2 := o2) hS @hr2 h tx2 (show xin (0) by decide) (show xin (0) by decide) e
theorem t146_2 {m f : Nat} {M0 : xj_M} (hS : xHS f)   : ∀ {n : Nat} {M : xj_M} {T : xT_} {x0 : Nat} {x1 : Nat} {x2 : Int} {R : Int × xT_}, xCX m M0 M T → xin x2 → c146_2  f n x0 x1 x2 T = some R → xok (f146_2  f n x0 x1 x2 M) (fun r => r.1 = R.1 ∧ xCX m M0 r.2 R.2 ∧ xin R.1) := by
  intro n
  induction n with
  | zero => intros; rename_i e; cases e
  | succ n ih =>
    intros
    rename_i h i0 e
    exact t146_2b hS  @ih h i0 e
theorem t146 {m f : Nat} {M0 M : xj_M} {T : xT_} (hS : xHS f) (h : xCX m M0 M T) {a0 : Nat} {a1 : Nat} {R : Int × xT_}  (e : c146 f a0 a1 T = some R) : xok (f146 f a0 a1 M) (fun r => r.1 = R.1 ∧ xCX m M0 r.2 R.2 ∧ xin R.1) := by
  unfold c146 at e
  unfold f146
  exact t146_2  hS  h (show xin (0) by decide) e
-- ChangeHouse$Works.leadersOf
theorem t151_35 {m f : Nat} {M0 M : xj_M} {T : xT_} (hS : xHS f) {r6 : Nat → Int → Int → Int → Int → xT_ → Option (Int × xT_)} {o6 : Nat → Int → Int → Int → Int → xj_M → Option (Int × xj_M)} (hr6 : ∀ {M : xj_M} {T : xT_} {x1 : Nat} {x2 : Int} {x3 : Int} {x4 : Int} {x5 : Int} {R : Int × xT_}, xCX m M0 M T → xin x2 → xin x3 → xin x4 → xin x5 → r6 x1 x2 x3 x4 x5 T = some R → xok (o6 x1 x2 x3 x4 x5 M) (fun r => r.1 = R.1 ∧ xCX m M0 r.2 R.2 ∧ xin R.1)) (h : xCX m M0 M T) {x1 : Nat} {x2 : Int} {x3 : Int} {x5 : Int} {y0 : Int} {y1 : Int} {R : Int × xT_} (tx2 : xin x2) (tx3 : xin x3) (tx5 : xin x5) (ty0 : xin y0) (ty1 : xin y1) (e : c151_35 r6 f x1 x2 x3 x5 y0 y1 T = some R) : xok (f151_35 o6 f x1 x2 x3 x5 y0 y1 M) (fun r => r.1 = R.1 ∧ xCX m M0 r.2 R.2 ∧ xin R.1) := by
  unfold c151_35 at e
  unfold f151_35
  exact hr6 h tx2 tx3 (xin_of _) (xin_wr _) e
theorem t151_59 {m f : Nat} {M0 M : xj_M} {T : xT_} (hS : xHS f)   (h : xCX m M0 M T) {y0 : Int} {R : Int × xT_} (ty0 : xin y0) (e : c151_59  f y0 T = some R) : xok (f151_59  f y0 M) (fun r => r.1 = R.1 ∧ xCX m M0 r.2 R.2 ∧ xin R.1) := by
  unfold c151_59 at e
  unfold f151_59
  cases e
  exact ⟨_, rfl, rfl, h, ty0⟩
theorem t151_71 {m f : Nat} {M0 M : xj_M} {T : xT_} (hS : xHS f)   (h : xCX m M0 M T) {y0 : Int} {R : Int × xT_} (ty0 : xin y0) (e : c151_71  f y0 T = some R) : xok (f151_71  f y0 M) (fun r => r.1 = R.1 ∧ xCX m M0 r.2 R.2 ∧ xin R.1) := by
  unfold c151_71 at e
  unfold f151_71
  cases e
  exact ⟨_, rfl, rfl, h, ty0⟩
theorem t151_6b {m f : Nat} {M0 M : xj_M} {T : xT_} (hS : xHS f) {r6 : Nat → Int → Int → Int → Int → xT_ → Option (Int × xT_)} {o6 : Nat → Int → Int → Int → Int → xj_M → Option (Int × xj_M)} (hr6 : ∀ {M : xj_M} {T : xT_} {x1 : Nat} {x2 : Int} {x3 : Int} {x4 : Int} {x5 : Int} {R : Int × xT_}, xCX m M0 M T → xin x2 → xin x3 → xin x4 → xin x5 → r6 x1 x2 x3 x4 x5 T = some R → xok (o6 x1 x2 x3 x4 x5 M) (fun r => r.1 = R.1 ∧ xCX m M0 r.2 R.2 ∧ xin R.1)) (h : xCX m M0 M T) {x1 : Nat} {x2 : Int} {x3 : Int} {x4 : Int} {x5 : Int} {R : Int × xT_} (tx2 : xin x2) (tx3 : xin x3) (tx4 : xin x4) (tx5 : xin x5) (e : c151_6b r6 f x1 x2 x3 x4 x5 T = some R) : xok (f151_6b o6 f x1 x2 x3 x4 x5 M) (fun r => r.1 = R.1 ∧ xCX m M0 r.2 R.2 ∧ xin R.1) := by
  unfold c151_6b at e
  unfold f151_6b
  obtain ⟨v101, q102, e⟩ := xbnd e
  refine xok_eqb (h.gi (by decide) (by decide) q102).1 ?_
  refine xok_ite (fun c103 => ?_) (fun c103 => ?_)
  · rw [if_pos c103] at e
    refine xok_ite (fun c104 => ?_) (fun c104 => ?_)
    · rw [if_pos c104] at e
      refine xok_ite (fun c105 => ?_) (fun c105 => ?_)
      · rw [if_pos c105] at e
        exact t151_71  hS  h tx4 e
      · rw [if_neg c105] at e
        exact t151_71  hS  h (show xin (0) by decide) e
    · rw [if_neg c104] at e
      refine xok_ite (fun c106 => ?_) (fun c106 => ?_)
      · rw [if_pos c106] at e
        exact t151_59  hS  h (show xin (0) by decide) e
      · rw [if_neg c106] at e
        exact t151_59  hS  h (show xin (1) by decide) e
  · rw [if_neg c103] at e
    obtain ⟨R107, e108, e⟩ := xbnd e
    refine xok_call (t152 hS h tx5 tx2 e108) ?_
    rintro ⟨v_, M109⟩ ⟨hv_, h110, hi111⟩
    cases hv_
    refine xok_ite (fun c112 => ?_) (fun c112 => ?_)
    · rw [if_pos c112] at e
      exact t151_35 (r6 := r6) (o6 := o6) hS @hr6 h110 tx2 tx3 tx5 (show xin (0) by decide) tx4 e
    · rw [if_neg c112] at e
      exact t151_35 (r6 := r6) (o6 := o6) hS @hr6 h110 tx2 tx3 tx5 (xin_of _) tx4 e
theorem t151_6 {m f : Nat} {M0 : xj_M} (hS : xHS f)   : ∀ {n : Nat} {M : xj_M} {T : xT_} {x1 : Nat} {x2 : Int} {x3 : Int} {x4 : Int} {x5 : Int} {R : Int × xT_}, xCX m M0 M T → xin x2 → xin x3 → xin x4 → xin x5 → c151_6  f n x1 x2 x3 x4 x5 T = some R → xok (f151_6  f n x1 x2 x3 x4 x5 M) (fun r => r.1 = R.1 ∧ xCX m M0 r.2 R.2 ∧ xin R.1) := by
  intro n
  induction n with
  | zero => intros; rename_i e; cases e
  | succ n ih =>
    intros
    rename_i h i0 i1 i2 i3 e
    exact t151_6b hS  @ih h i0 i1 i2 i3 e
theorem t151 {m f : Nat} {M0 M : xj_M} {T : xT_} (hS : xHS f) (h : xCX m M0 M T) {a0 : Nat} {a1 : Nat} {a2 : Int} {a3 : Int} {R : Int × xT_} (ta2 : xin a2) (ta3 : xin a3) (e : c151 f a0 a1 a2 a3 T = some R) : xok (f151 f a0 a1 a2 a3 M) (fun r => r.1 = R.1 ∧ xCX m M0 r.2 R.2 ∧ xin R.1) := by
  unfold c151 at e
  unfold f151
  exact t151_6  hS  h ta2 ta3 (show xin (0) by decide) (show xin (0) by decide) e
-- ChangeHouse$Works.openLevel
theorem t153_85 {m f : Nat} {M0 M : xj_M} {T : xT_} (hS : xHS f) {r16 : Nat → Nat → Int → Int → Int → Int → xT_ → Option (xT_)} {o16 : Nat → Nat → Int → Int → Int → Int → xj_M → Option (xj_M)} (hr16 : ∀ {M : xj_M} {T : xT_} {x0 : Nat} {x1 : Nat} {x2 : Int} {x3 : Int} {x4 : Int} {x5 : Int} {R : xT_}, xCX m M0 M T → xin x2 → xin x3 → xin x4 → xin x5 → r16 x0 x1 x2 x3 x4 x5 T = some R → xok (o16 x0 x1 x2 x3 x4 x5 M) (fun r => xCX m M0 r R)) (h : xCX m M0 M T) {x0 : Nat} {x1 : Nat} {x2 : Int} {x3 : Int} {x4 : Int} {x5 : Int} {R : xT_} (tx2 : xin x2) (tx3 : xin x3) (tx4 : xin x4) (tx5 : xin x5) (e : c153_85 r16 f x0 x1 x2 x3 x4 x5 T = some R) : xok (f153_85 o16 f x0 x1 x2 x3 x4 x5 M) (fun r => xCX m M0 r R) := by
  unfold c153_85 at e
  unfold f153_85
  exact hr16 h tx2 tx3 tx4 (xin_wr _) e
theorem t153_84 {m f : Nat} {M0 M : xj_M} {T : xT_} (hS : xHS f) {r16 : Nat → Nat → Int → Int → Int → Int → xT_ → Option (xT_)} {o16 : Nat → Nat → Int → Int → Int → Int → xj_M → Option (xj_M)} (hr16 : ∀ {M : xj_M} {T : xT_} {x0 : Nat} {x1 : Nat} {x2 : Int} {x3 : Int} {x4 : Int} {x5 : Int} {R : xT_}, xCX m M0 M T → xin x2 → xin x3 → xin x4 → xin x5 → r16 x0 x1 x2 x3 x4 x5 T = some R → xok (o16 x0 x1 x2 x3 x4 x5 M) (fun r => xCX m M0 r R)) (h : xCX m M0 M T) {x0 : Nat} {x1 : Nat} {x2 : Int} {x3 : Int} {x4 : Int} {x5 : Int} {y0 : Int} {y1 : Int} {y2 : Nat} {R : xT_} (tx2 : xin x2) (tx3 : xin x3) (tx4 : xin x4) (tx5 : xin x5) (ty0 : xin y0) (ty1 : xin y1) (e : c153_84 r16 f x0 x1 x2 x3 x4 x5 y0 y1 y2 T = some R) : xok (f153_84 o16 f x0 x1 x2 x3 x4 x5 y0 y1 y2 M) (fun r => xCX m M0 r R) := by
  unfold c153_84 at e
  unfold f153_84
  obtain ⟨T102, q101, e⟩ := xbnd e
  obtain ⟨M103, q104, h105⟩ := h.si ty0 q101
  refine xok_eqb q104 ?_
  exact t153_85 (r16 := r16) (o16 := o16) hS @hr16 h105 tx2 tx3 tx4 tx5 e
theorem t153_58 {m f : Nat} {M0 M : xj_M} {T : xT_} (hS : xHS f) {r16 : Nat → Nat → Int → Int → Int → Int → xT_ → Option (xT_)} {o16 : Nat → Nat → Int → Int → Int → Int → xj_M → Option (xj_M)} (hr16 : ∀ {M : xj_M} {T : xT_} {x0 : Nat} {x1 : Nat} {x2 : Int} {x3 : Int} {x4 : Int} {x5 : Int} {R : xT_}, xCX m M0 M T → xin x2 → xin x3 → xin x4 → xin x5 → r16 x0 x1 x2 x3 x4 x5 T = some R → xok (o16 x0 x1 x2 x3 x4 x5 M) (fun r => xCX m M0 r R)) (h : xCX m M0 M T) {x0 : Nat} {x1 : Nat} {x2 : Int} {x3 : Int} {x4 : Int} {x5 : Int} {y0 : Int} {y1 : Int} {y2 : Nat} {R : xT_} (tx2 : xin x2) (tx3 : xin x3) (tx4 : xin x4) (tx5 : xin x5) (ty0 : xin y0) (ty1 : xin y1) (e : c153_58 r16 f x0 x1 x2 x3 x4 x5 y0 y1 y2 T = some R) : xok (f153_58 o16 f x0 x1 x2 x3 x4 x5 y0 y1 y2 M) (fun r => xCX m M0 r R) := by
  unfold c153_58 at e
  unfold f153_58
  obtain ⟨T107, q106, e⟩ := xbnd e
  obtain ⟨M108, q109, h110⟩ := h.si ty0 q106
  refine xok_eqb q109 ?_
  obtain ⟨v111, q112, e⟩ := xbnd e
  refine xok_eqb (h110.gr (by decide) (by decide) q112) ?_
  obtain ⟨v113, q114, e⟩ := xbnd e
  refine xok_eqb (h110.gr (by decide) (by decide) q114) ?_
  refine xok_ite (fun c115 => ?_) (fun c115 => ?_)
  · rw [if_pos c115] at e
    exact t153_84 (r16 := r16) (o16 := o16) hS @hr16 h110 tx2 tx3 tx4 tx5 (xin_wr _) tx5 e
  · rw [if_neg c115] at e
    exact t153_84 (r16 := r16) (o16 := o16) hS @hr16 h110 tx2 tx3 tx4 tx5 (xin_wr _) tx5 e
theorem t153_16b {m f : Nat} {M0 M : xj_M} {T : xT_} (hS : xHS f) {r16 : Nat → Nat → Int → Int → Int → Int → xT_ → Option (xT_)} {o16 : Nat → Nat → Int → Int → Int → Int → xj_M → Option (xj_M)} (hr16 : ∀ {M : xj_M} {T : xT_} {x0 : Nat} {x1 : Nat} {x2 : Int} {x3 : Int} {x4 : Int} {x5 : Int} {R : xT_}, xCX m M0 M T → xin x2 → xin x3 → xin x4 → xin x5 → r16 x0 x1 x2 x3 x4 x5 T = some R → xok (o16 x0 x1 x2 x3 x4 x5 M) (fun r => xCX m M0 r R)) (h : xCX m M0 M T) {x0 : Nat} {x1 : Nat} {x2 : Int} {x3 : Int} {x4 : Int} {x5 : Int} {R : xT_} (tx2 : xin x2) (tx3 : xin x3) (tx4 : xin x4) (tx5 : xin x5) (e : c153_16b r16 f x0 x1 x2 x3 x4 x5 T = some R) : xok (f153_16b o16 f x0 x1 x2 x3 x4 x5 M) (fun r => xCX m M0 r R) := by
  unfold c153_16b at e
  unfold f153_16b
  obtain ⟨v116, q117, e⟩ := xbnd e
  refine xok_eqb (h.gi (by decide) (by decide) q117).1 ?_
  refine xok_ite (fun c118 => ?_) (fun c118 => ?_)
  · rw [if_pos c118] at e
    cases e
    exact ⟨_, rfl, h⟩
  · rw [if_neg c118] at e
    obtain ⟨R119, e120, e⟩ := xbnd e
    refine xok_call (t152 hS h tx5 tx2 e120) ?_
    rintro ⟨v_, M121⟩ ⟨hv_, h122, hi123⟩
    cases hv_
    refine xok_ite (fun c124 => ?_) (fun c124 => ?_)
    · rw [if_pos c124] at e
      exact t153_85 (r16 := r16) (o16 := o16) hS @hr16 h122 tx2 tx3 tx4 tx5 e
    · rw [if_neg c124] at e
      obtain ⟨v125, q126, e⟩ := xbnd e
      refine xok_eqb (h122.gr (by decide) (by decide) q126) ?_
      obtain ⟨v127, q128, e⟩ := xbnd e
      refine xok_eqb (h122.gr (by decide) (by decide) q128) ?_
      refine xok_ite (fun c129 => ?_) (fun c129 => ?_)
      · rw [if_pos c129] at e
        exact t153_58 (r16 := r16) (o16 := o16) hS @hr16 h122 tx2 tx3 tx4 tx5 (show xin (0) by decide) tx5 e
      · rw [if_neg c129] at e
        exact t153_58 (r16 := r16) (o16 := o16) hS @hr16 h122 tx2 tx3 tx4 tx5 (xin_wr _) tx5 e
theorem t153_16 {m f : Nat} {M0 : xj_M} (hS : xHS f)   : ∀ {n : Nat} {M : xj_M} {T : xT_} {x0 : Nat} {x1 : Nat} {x2 : Int} {x3 : Int} {x4 : Int} {x5 : Int} {R : xT_}, xCX m M0 M T → xin x2 → xin x3 → xin x4 → xin x5 → c153_16  f n x0 x1 x2 x3 x4 x5 T = some R → xok (f153_16  f n x0 x1 x2 x3 x4 x5 M) (fun r => xCX m M0 r R) := by
  intro n
  induction n with
  | zero => intros; rename_i e; cases e
  | succ n ih =>
    intros
    rename_i h i0 i1 i2 i3 e
    exact t153_16b hS  @ih h i0 i1 i2 i3 e
theorem t153 {m f : Nat} {M0 M : xj_M} {T : xT_} (hS : xHS f) (h : xCX m M0 M T) {a0 : Nat} {a1 : Nat} {a2 : Int} {a3 : Int} {a4 : Int} {R : xT_} (ta2 : xin a2) (ta3 : xin a3) (ta4 : xin a4) (e : c153 f a0 a1 a2 a3 a4 T = some R) : xok (f153 f a0 a1 a2 a3 a4 M) (fun r => xCX m M0 r R) := by
  unfold c153 at e
  unfold f153
  obtain ⟨v130, q131, e⟩ := xbnd e
  refine xok_eqb (h.gr (by decide) (by decide) q131) ?_
  obtain ⟨v132, q133, e⟩ := xbnd e
  refine xok_eqb (h.gr (by decide) (by decide) q133) ?_
  obtain ⟨_, q139, e⟩ := xbnd e
  obtain ⟨R134, e135, e⟩ := xbnd e
  refine xok_eqb (h.is q139) ?_
  refine xok_call (t130 hS h (show xin (1) by decide) e135) ?_
  intro M136 h137
  exact t153_16  hS  h137 ta2 ta3 ta4 (show xin (0) by decide) e
-- ChangeHouse$Works.addToGroup
theorem t159_187 {m f : Nat} {M0 M : xj_M} {T : xT_} (hS : xHS f)   (h : xCX m M0 M T) {y0 : Int} {R : Int × xT_} (ty0 : xin y0) (e : c159_187  f y0 T = some R) : xok (f159_187  f y0 M) (fun r => r.1 = R.1 ∧ xCX m M0 r.2 R.2 ∧ xin R.1) := by
  unfold c159_187 at e
  unfold f159_187
  refine xok_ite (fun c101 => ?_) (fun c101 => ?_)
  · rw [if_pos c101] at e; cases e; exact ⟨_, rfl, rfl, h, ty0⟩
  · rw [if_neg c101] at e; cases e
theorem t159_154 {m f : Nat} {M0 M : xj_M} {T : xT_} (hS : xHS f)   (h : xCX m M0 M T) {x0 : Nat} {x2 : Int} {x4 : Int} {x5 : Int} {x6 : Int} {R : Int × xT_} (tx2 : xiN x2) (tx4 : xin x4) (tx5 : xin x5) (tx6 : xin x6) (e : c159_154  f x0 x2 x4 x5 x6 T = some R) : xok (f159_154  f x0 x2 x4 x5 x6 M) (fun r => r.1 = R.1 ∧ xCX m M0 r.2 R.2 ∧ xin R.1) := by
  unfold c159_154 at e
  unfold f159_154
  obtain ⟨v102, q103, e⟩ := xbnd e
  refine xok_eqb (h.gr (by decide) (by decide) q103) ?_
  obtain ⟨v104, q105, e⟩ := xbnd e
  refine xok_eqb (h.gr (by decide) (by decide) q105) ?_
  obtain ⟨_, q111, e⟩ := xbnd e
  obtain ⟨R106, e107, e⟩ := xbnd e
  refine xok_eqb (h.is q111) ?_
  refine xok_call (t76 hS h tx4 tx6 e107) ?_
  intro M108 h109
  obtain ⟨v112, q113, e⟩ := xbnd e
  refine xok_eqb (h109.gr (by decide) (by decide) q113) ?_
  obtain ⟨T115, q114, e⟩ := xbnd e
  obtain ⟨M116, q117, h118⟩ := h109.sl tx2 q114
  refine xok_eqb q117 ?_
  refine xok_ite (fun c119 => ?_) (fun c119 => ?_)
  · rw [if_pos c119] at e
    exact t159_187  hS  h118 (show xin (0) by decide) e
  · rw [if_neg c119] at e
    exact t159_187  hS  h118 (show xin (1) by decide) e
theorem t159_131 {m f : Nat} {M0 M : xj_M} {T : xT_} (hS : xHS f)   (h : xCX m M0 M T) {x0 : Nat} {x2 : Int} {x4 : Int} {x5 : Int} {y0 : Int} {R : Int × xT_} (tx2 : xiN x2) (tx4 : xin x4) (tx5 : xin x5) (ty0 : xin y0) (e : c159_131  f x0 x2 x4 x5 y0 T = some R) : xok (f159_131  f x0 x2 x4 x5 y0 M) (fun r => r.1 = R.1 ∧ xCX m M0 r.2 R.2 ∧ xin R.1) := by
  unfold c159_131 at e
  unfold f159_131
  refine xok_ite (fun c120 => ?_) (fun c120 => ?_)
  · rw [if_pos c120] at e
    exact t159_154  hS  h tx2 tx4 tx5 ty0 e
  · rw [if_neg c120] at e
    obtain ⟨v121, q122, e⟩ := xbnd e
    refine xok_eqb (h.gr (by decide) (by decide) q122) ?_
    obtain ⟨v123, q124, e⟩ := xbnd e
    refine xok_eqb (h.gr (by decide) (by decide) q124) ?_
    obtain ⟨v125, q126, e⟩ := xbnd e
    refine xok_eqb (h.gi (by decide) (by decide) q126).1 ?_
    obtain ⟨_, q132, e⟩ := xbnd e
    obtain ⟨R127, e128, e⟩ := xbnd e
    refine xok_eqb (h.is q132) ?_
    refine xok_call (t77 hS h (xin_wr _) e128) ?_
    intro M129 h130
    exact t159_154  hS  h130 tx2 tx4 tx5 ty0 e
theorem t159_99 {m f : Nat} {M0 M : xj_M} {T : xT_} (hS : xHS f)   (h : xCX m M0 M T) {x0 : Nat} {x2 : Int} {x4 : Int} {x5 : Int} {R : Int × xT_} (tx2 : xiN x2) (tx4 : xin x4) (tx5 : xin x5) (e : c159_99  f x0 x2 x4 x5 T = some R) : xok (f159_99  f x0 x2 x4 x5 M) (fun r => r.1 = R.1 ∧ xCX m M0 r.2 R.2 ∧ xin R.1) := by
  unfold c159_99 at e
  unfold f159_99
  refine xok_ite (fun c133 => ?_) (fun c133 => ?_)
  · rw [if_pos c133] at e
    obtain ⟨v134, q135, e⟩ := xbnd e
    refine xok_eqb (h.gr (by decide) (by decide) q135) ?_
    obtain ⟨v136, q137, e⟩ := xbnd e
    refine xok_eqb (h.gi (by decide) (by decide) q137).1 ?_
    exact t159_131  hS  h tx2 tx4 tx5 (h.gi (by decide) (by decide) q137).2 e
  · rw [if_neg c133] at e
    obtain ⟨v138, q139, e⟩ := xbnd e
    refine xok_eqb (h.gr (by decide) (by decide) q139) ?_
    obtain ⟨v140, q141, e⟩ := xbnd e
    refine xok_eqb (h.gr (by decide) (by decide) q141) ?_
    obtain ⟨v142, q143, e⟩ := xbnd e
    refine xok_eqb (h.gr (by decide) (by decide) q143) ?_
    obtain ⟨v144, q145, e⟩ := xbnd e
    refine xok_eqb (h.gi (by decide) (by decide) q145).1 ?_
    obtain ⟨v146, q147, e⟩ := xbnd e
    refine xok_eqb (h.ai (by decide) q147).1 ?_
    exact t159_131  hS  h tx2 tx4 tx5 (h.ai (by decide) q147).2 e
theorem t159_78 {m f : Nat} {M0 M : xj_M} {T : xT_} (hS : xHS f)   (h : xCX m M0 M T) {x0 : Nat} {x2 : Int} {x4 : Int} {y0 : Int} {R : Int × xT_} (tx2 : xiN x2) (tx4 : xin x4) (ty0 : xin y0) (e : c159_78  f x0 x2 x4 y0 T = some R) : xok (f159_78  f x0 x2 x4 y0 M) (fun r => r.1 = R.1 ∧ xCX m M0 r.2 R.2 ∧ xin R.1) := by
  unfold c159_78 at e
  unfold f159_78
  refine xok_ite (fun c148 => ?_) (fun c148 => ?_)
  · rw [if_pos c148] at e
    exact t159_99  hS  h tx2 tx4 ty0 e
  · rw [if_neg c148] at e
    obtain ⟨v149, q150, e⟩ := xbnd e
    refine xok_eqb (h.gr (by decide) (by decide) q150) ?_
    obtain ⟨v151, q152, e⟩ := xbnd e
    refine xok_eqb (h.gi (by decide) (by decide) q152).1 ?_
    refine xok_ite (fun c153 => ?_) (fun c153 => ?_)
    · rw [if_pos c153] at e
      exact t159_99  hS  h tx2 tx4 ty0 e
    · rw [if_neg c153] at e
      cases e
      exact ⟨_, rfl, rfl, h, (show xin (0) by decide)⟩
theorem t159 {m f : Nat} {M0 M : xj_M} {T : xT_} (hS : xHS f) (h : xCX m M0 M T) {a0 : Nat} {a1 : Nat} {a2 : Int} {R : Int × xT_} (ta2 : xiN a2) (e : c159 f a0 a1 a2 T = some R) : xok (f159 f a0 a1 a2 M) (fun r => r.1 = R.1 ∧ xCX m M0 r.2 R.2 ∧ xin R.1) := by
  unfold c159 at e
  unfold f159
  obtain ⟨v154, q155, e⟩ := xbnd e
  refine xok_eqb (h.gr (by decide) (by decide) q155) ?_
  obtain ⟨v156, q157, e⟩ := xbnd e
  refine xok_eqb (h.gr (by decide) (by decide) q157) ?_
  obtain ⟨_, q163, e⟩ := xbnd e
  obtain ⟨R158, e159, e⟩ := xbnd e
  refine xok_eqb (h.is q163) ?_
  refine xok_call (t74 hS h  e159) ?_
  rintro ⟨v_, M160⟩ ⟨hv_, h161, hi162⟩
  cases hv_
  refine xok_ite (fun c164 => ?_) (fun c164 => ?_)
  · rw [if_pos c164] at e
    obtain ⟨v165, q166, e⟩ := xbnd e
    refine xok_eqb (h161.gr (by decide) (by decide) q166) ?_
    obtain ⟨v167, q168, e⟩ := xbnd e
    refine xok_eqb (h161.gi (by decide) (by decide) q168).1 ?_
    refine xok_ite (fun c169 => ?_) (fun c169 => ?_)
    · rw [if_pos c169] at e
      exact t159_78  hS  h161 ta2 (xin_wr _) (show xin (0) by decide) e
    · rw [if_neg c169] at e
      exact t159_78  hS  h161 ta2 (xin_wr _) (show xin (1) by decide) e
  · rw [if_neg c164] at e
    obtain ⟨v170, q171, e⟩ := xbnd e
    refine xok_eqb (h161.gr (by decide) (by decide) q171) ?_
    obtain ⟨v172, q173, e⟩ := xbnd e
    refine xok_eqb (h161.gr (by decide) (by decide) q173) ?_
    obtain ⟨v174, q175, e⟩ := xbnd e
    refine xok_eqb (h161.ai (by decide) q175).1 ?_
    obtain ⟨v176, q177, e⟩ := xbnd e
    refine xok_eqb (h161.gr (by decide) (by decide) q177) ?_
    obtain ⟨v178, q179, e⟩ := xbnd e
    refine xok_eqb (h161.gi (by decide) (by decide) q179).1 ?_
    obtain ⟨v180, q181, e⟩ := xbnd e
    refine xok_eqb (h161.gr (by decide) (by decide) q181) ?_
    obtain ⟨v182, q183, e⟩ := xbnd e
    refine xok_eqb (h161.al q183).1 ?_
    obtain ⟨R184, e185, e⟩ := xbnd e
    refine xok_call (t160 hS h161 (h161.gi (by decide) (by decide) q179).2 (h161.al q183).2 ta2 e185) ?_
    rintro ⟨v_, M186⟩ ⟨hv_, h187, hi188⟩
    cases hv_
    obtain ⟨T190, q189, e⟩ := xbnd e
    obtain ⟨M191, q192, h193⟩ := h187.sl hi188 q189
    refine xok_eqb q192 ?_
    cases e
    exact ⟨_, rfl, rfl, h193, (show xin (1) by decide)⟩
-- ChangeHouse$Works.giveGroups
theorem t161_93 {m f : Nat} {M0 M : xj_M} {T : xT_} (hS : xHS f) {r2 : Nat → Nat → Int → xT_ → Option (Int × xT_)} {o2 : Nat → Nat → Int → xj_M → Option (Int × xj_M)} (hr2 : ∀ {M : xj_M} {T : xT_} {x0 : Nat} {x1 : Nat} {x2 : Int} {R : Int × xT_}, xCX m M0 M T → xin x2 → r2 x0 x1 x2 T = some R → xok (o2 x0 x1 x2 M) (fun r => r.1 = R.1 ∧ xCX m M0 r.2 R.2 ∧ xin R.1)) (h : xCX m M0 M T) {x0 : Nat} {x1 : Nat} {x2 : Int} {R : Int × xT_} (tx2 : xin x2) (e : c161_93 r2 f x0 x1 x2 T = some R) : xok (f161_93 o2 f x0 x1 x2 M) (fun r => r.1 = R.1 ∧ xCX m M0 r.2 R.2 ∧ xin R.1) := by
  unfold c161_93 at e
  unfold f161_93
  exact hr2 h (xin_wr _) e
theorem t161_2b {m f : Nat} {M0 M : xj_M} {T : xT_} (hS : xHS f) {r2 : Nat → Nat → Int → xT_ → Option (Int × xT_)} {o2 : Nat → Nat → Int → xj_M → Option (Int × xj_M)} (hr2 : ∀ {M : xj_M} {T : xT_} {x0 : Nat} {x1 : Nat} {x2 : Int} {R : Int × xT_}, xCX m M0 M T → xin x2 → r2 x0 x1 x2 T = some R → xok (o2 x0 x1 x2 M) (fun r => r.1 = R.1 ∧ xCX m M0 r.2 R.2 ∧ xin R.1)) (h : xCX m M0 M T) {x0 : Nat} {x1 : Nat} {x2 : Int} {R : Int × xT_} (tx2 : xin x2) (e : c161_2b r2 f x0 x1 x2 T = some R) : xok (f161_2b o2 f x0 x1 x2 M) (fun r => r.1 = R.1 ∧ xCX m M0 r.2 R.2 ∧ xin R.1) := by
  unfold c161_2b at e
  unfold f161_2b
  obtain ⟨v101, q102, e⟩ := xbnd e
  refine xok_eqb (h.gr (by decide) (by decide) q102) ?_
  obtain ⟨v103, q104, e⟩ := xbnd e
  refine xok_eqb (h.gi (by decide) (by decide) q104).1 ?_
  refine xok_ite (fun c105 => ?_) (fun c105 => ?_)
  · rw [if_pos c105] at e
    cases e
    exact ⟨_, rfl, rfl, h, (show xin (1) by decide)⟩
  · rw [if_neg c105] at e
    obtain ⟨v106, q107, e⟩ := xbnd e
    refine xok_eqb (h.gr (by decide) (by decide) q107) ?_
    obtain ⟨v108, q109, e⟩ := xbnd e
    refine xok_eqb (h.gr (by decide) (by decide) q109) ?_
    obtain ⟨_, q115, e⟩ := xbnd e
    obtain ⟨R110, e111, e⟩ := xbnd e
    refine xok_eqb (h.is q115) ?_
    refine xok_call (t78 hS h tx2 e111) ?_
    intro M112 h113
    obtain ⟨v116, q117, e⟩ := xbnd e
    refine xok_eqb (h113.gr (by decide) (by decide) q117) ?_
    obtain ⟨v118, q119, e⟩ := xbnd e
    refine xok_eqb (h113.gr (by decide) (by decide) q119) ?_
    obtain ⟨_, q125, e⟩ := xbnd e
    obtain ⟨R120, e121, e⟩ := xbnd e
    refine xok_eqb (h113.is q125) ?_
    refine xok_call (t78 hS h113 tx2 e121) ?_
    intro M122 h123
    obtain ⟨v126, q127, e⟩ := xbnd e
    refine xok_eqb (h123.gr (by decide) (by decide) q127) ?_
    obtain ⟨v128, q129, e⟩ := xbnd e
    refine xok_eqb (h123.gi (by decide) (by decide) q129).1 ?_
    obtain ⟨v130, q131, e⟩ := xbnd e
    refine xok_eqb (h123.gr (by decide) (by decide) q131) ?_
    obtain ⟨v132, q133, e⟩ := xbnd e
    refine xok_eqb (h123.gr (by decide) (by decide) q133) ?_
    obtain ⟨v134, q135, e⟩ := xbnd e
    refine xok_eqb (h123.gr (by decide) (by decide) q135) ?_
    obtain ⟨v136, q137, e⟩ := xbnd e
    refine xok_eqb (h123.ai (by decide) q137).1 ?_
    obtain ⟨v138, q139, e⟩ := xbnd e
    refine xok_eqb (h123.al q139).1 ?_
    obtain ⟨T141, q140, e⟩ := xbnd e
    obtain ⟨M142, q143, h144⟩ := h123.sl (h123.al q139).2 q140
    refine xok_eqb q143 ?_
    obtain ⟨v145, q146, e⟩ := xbnd e
    refine xok_eqb (h144.gr (by decide) (by decide) q146) ?_
    obtain ⟨v147, q148, e⟩ := xbnd e
    refine xok_eqb (h144.gi (by decide) (by decide) q148).1 ?_
    obtain ⟨v149, q150, e⟩ := xbnd e
    refine xok_eqb (h144.al q150).1 ?_
    obtain ⟨R151, e152, e⟩ := xbnd e
    refine xok_call (t397 hS h144 (h144.al q150).2 e152) ?_
    rintro ⟨v_, M153⟩ ⟨hv_, h154, hi155⟩
    cases hv_
    refine xok_ite (fun c156 => ?_) (fun c156 => ?_)
    · rw [if_pos c156] at e
      exact t161_93 (r2 := r2) (o2 := o2) hS @hr2 h154 tx2 e
    · rw [if_neg c156] at e
      obtain ⟨v157, q158, e⟩ := xbnd e
      refine xok_eqb (h154.gi (by decide) (by decide) q158).1 ?_
      obtain ⟨v159, q160, e⟩ := xbnd e
      refine xok_eqb (h154.gr (by decide) (by decide) q160) ?_
      obtain ⟨_, q166, e⟩ := xbnd e
      obtain ⟨R161, e162, e⟩ := xbnd e
      refine xok_eqb (h154.is q166) ?_
      refine xok_call (t156 hS h154 (h154.gi (by decide) (by decide) q158).2 e162) ?_
      rintro ⟨v_, M163⟩ ⟨hv_, h164, hi165⟩
      cases hv_
      refine xok_ite (fun c167 => ?_) (fun c167 => ?_)
      · rw [if_pos c167] at e
        exact t161_93 (r2 := r2) (o2 := o2) hS @hr2 h164 tx2 e
      · rw [if_neg c167] at e
        cases e
        exact ⟨_, rfl, rfl, h164, (show xin (0) by decide)⟩
theorem t161_2 {m f : Nat} {M0 : xj_M} (hS : xHS f)   : ∀ {n : Nat} {M : xj_M} {T : xT_} {x0 : Nat} {x1 : Nat} {x2 : Int} {R : Int × xT_}, xCX m M0 M T → xin x2 → c161_2  f n x0 x1 x2 T = some R → xok (f161_2  f n x0 x1 x2 M) (fun r => r.1 = R.1 ∧ xCX m M0 r.2 R.2 ∧ xin R.1) := by
  intro n
  induction n with
  | zero => intros; rename_i e; cases e
  | succ n ih =>
    intros
    rename_i h i0 e
    exact t161_2b hS  @ih h i0 e
theorem t161 {m f : Nat} {M0 M : xj_M} {T : xT_} (hS : xHS f) (h : xCX m M0 M T) {a0 : Nat} {a1 : Nat} {R : Int × xT_}  (e : c161 f a0 a1 T = some R) : xok (f161 f a0 a1 M) (fun r => r.1 = R.1 ∧ xCX m M0 r.2 R.2 ∧ xin R.1) := by
  unfold c161 at e
  unfold f161
  exact t161_2  hS  h (show xin (0) by decide) e
-- ChangeHouse.<init>
theorem t168_173b {m f : Nat} {M0 M : xj_M} {T : xT_} (hS : xHS f) {r173 : Nat → Nat → Int → xT_ → Option (xT_)} {o173 : Nat → Nat → Int → xj_M → Option (xj_M)} (hr173 : ∀ {M : xj_M} {T : xT_} {x0 : Nat} {x1 : Nat} {x2 : Int} {R : xT_}, xCX m M0 M T → xin x2 → r173 x0 x1 x2 T = some R → xok (o173 x0 x1 x2 M) (fun r => xCX m M0 r R)) (h : xCX m M0 M T) {x0 : Nat} {x1 : Nat} {x2 : Int} {R : xT_} (tx2 : xin x2) (e : c168_173b r173 f x0 x1 x2 T = some R) : xok (f168_173b o173 f x0 x1 x2 M) (fun r => xCX m M0 r R) := by
  unfold c168_173b at e
  unfold f168_173b
  refine xok_ite (fun c101 => ?_) (fun c101 => ?_)
  · rw [if_pos c101] at e
    cases e
    exact ⟨_, rfl, h⟩
  · rw [if_neg c101] at e
    obtain ⟨v102, q103, e⟩ := xbnd e
    refine xok_eqb (h.gr (by decide) (by decide) q103) ?_
    obtain ⟨p104, q105, e⟩ := xbnd e
    obtain ⟨M106, q107, h108⟩ := h.nw (by decide +kernel) (by decide +kernel) q105
    refine xok_eqb q107 ?_
    dsimp only
    obtain ⟨R109, e110, e⟩ := xbnd e
    refine xok_call (t4 hS h108  e110) ?_
    intro M111 h112
    obtain ⟨T115, q114, e⟩ := xbnd e
    obtain ⟨M116, q117, h118⟩ := h112.sr  q114
    refine xok_eqb q117 ?_
    exact hr173 h118 (xin_wr _) e
theorem t168_173 {m f : Nat} {M0 : xj_M} (hS : xHS f)   : ∀ {n : Nat} {M : xj_M} {T : xT_} {x0 : Nat} {x1 : Nat} {x2 : Int} {R : xT_}, xCX m M0 M T → xin x2 → c168_173  f n x0 x1 x2 T = some R → xok (f168_173  f n x0 x1 x2 M) (fun r => xCX m M0 r R) := by
  intro n
  induction n with
  | zero => intros; rename_i e; cases e
  | succ n ih =>
    intros
    rename_i h i0 e
    exact t168_173b hS  @ih h i0 e
theorem t168 {m f : Nat} {M0 M : xj_M} {T : xT_} (hS : xHS f) (h : xCX m M0 M T) {a0 : Nat} {R : xT_}  (e : c168 f a0 T = some R) : xok (f168 f a0 M) (fun r => xCX m M0 r R) := by
  unfold c168 at e
  unfold f168
  obtain ⟨_, q119, e⟩ := xbnd e
  refine xok_eqb q119 ?_
  obtain ⟨p120, q121, e⟩ := xbnd e
  obtain ⟨M122, q123, h124⟩ := h.nw (by decide +kernel) (by decide +kernel) q121
  refine xok_eqb q123 ?_
  dsimp only
  obtain ⟨R125, e126, e⟩ := xbnd e
  refine xok_call (t110 hS h124  e126) ?_
  intro M127 h128
  obtain ⟨T131, q130, e⟩ := xbnd e
  obtain ⟨M132, q133, h134⟩ := h128.pr (by decide) (by decide)  q130
  refine xok_eqb q133 ?_
  obtain ⟨p135, q136, e⟩ := xbnd e
  obtain ⟨M137, q138, h139⟩ := h134.nw (by decide +kernel) (by decide +kernel) q136
  refine xok_eqb q138 ?_
  dsimp only
  obtain ⟨v140, q141, e⟩ := xbnd e
  refine xok_eqb (h139.gr (by decide) (by decide) q141) ?_
  obtain ⟨R142, e143, e⟩ := xbnd e
  refine xok_call (t29 hS h139  e143) ?_
  intro M144 h145
  obtain ⟨T148, q147, e⟩ := xbnd e
  obtain ⟨M149, q150, h151⟩ := h145.pr (by decide) (by decide)  q147
  refine xok_eqb q150 ?_
  obtain ⟨p152, q153, e⟩ := xbnd e
  obtain ⟨M154, q155, h156⟩ := h151.nw (by decide +kernel) (by decide +kernel) q153
  refine xok_eqb q155 ?_
  dsimp only
  obtain ⟨R157, e158, e⟩ := xbnd e
  refine xok_call (t129 hS h156  e158) ?_
  intro M159 h160
  obtain ⟨T163, q162, e⟩ := xbnd e
  obtain ⟨M164, q165, h166⟩ := h160.pr (by decide) (by decide)  q162
  refine xok_eqb q165 ?_
  obtain ⟨p167, q168, e⟩ := xbnd e
  obtain ⟨M169, q170, h171⟩ := h166.nw (by decide +kernel) (by decide +kernel) q168
  refine xok_eqb q170 ?_
  dsimp only
  obtain ⟨v172, q173, e⟩ := xbnd e
  refine xok_eqb (h171.gr (by decide) (by decide) q173) ?_
  obtain ⟨R174, e175, e⟩ := xbnd e
  refine xok_call (t144 hS h171  e175) ?_
  intro M176 h177
  obtain ⟨T180, q179, e⟩ := xbnd e
  obtain ⟨M181, q182, h183⟩ := h177.pr (by decide) (by decide)  q179
  refine xok_eqb q182 ?_
  obtain ⟨p184, q185, e⟩ := xbnd e
  obtain ⟨M186, q187, h188⟩ := h183.nw (by decide +kernel) (by decide +kernel) q185
  refine xok_eqb q187 ?_
  dsimp only
  obtain ⟨R189, e190, e⟩ := xbnd e
  refine xok_call (t98 hS h188  e190) ?_
  intro M191 h192
  obtain ⟨T195, q194, e⟩ := xbnd e
  obtain ⟨M196, q197, h198⟩ := h192.pr (by decide) (by decide)  q194
  refine xok_eqb q197 ?_
  obtain ⟨p199, q200, e⟩ := xbnd e
  obtain ⟨M201, q202, h203⟩ := h198.an q200
  refine xok_eqb q202 ?_
  dsimp only
  obtain ⟨T205, q204, e⟩ := xbnd e
  obtain ⟨M206, q207, h208⟩ := h203.pr (by decide) (by decide)  q204
  refine xok_eqb q207 ?_
  obtain ⟨T210, q209, e⟩ := xbnd e
  obtain ⟨M211, q212, h213⟩ := h208.pi (by decide) (by decide) (show xin (-1) by decide) q209
  refine xok_eqb q212 ?_
  obtain ⟨p214, q215, e⟩ := xbnd e
  obtain ⟨M216, q217, h218⟩ := h213.nw (by decide +kernel) (by decide +kernel) q215
  refine xok_eqb q217 ?_
  dsimp only
  obtain ⟨R219, e220, e⟩ := xbnd e
  refine xok_call (t68 hS h218 (show xin (8) by decide) (show xin (500) by decide) e220) ?_
  intro M221 h222
  obtain ⟨T225, q224, e⟩ := xbnd e
  obtain ⟨M226, q227, h228⟩ := h222.pr (by decide) (by decide)  q224
  refine xok_eqb q227 ?_
  obtain ⟨p229, q230, e⟩ := xbnd e
  obtain ⟨M231, q232, h233⟩ := h228.nw (by decide +kernel) (by decide +kernel) q230
  refine xok_eqb q232 ?_
  dsimp only
  obtain ⟨R234, e235, e⟩ := xbnd e
  refine xok_call (t68 hS h233 (show xin (8) by decide) (show xin (500) by decide) e235) ?_
  intro M236 h237
  obtain ⟨T240, q239, e⟩ := xbnd e
  obtain ⟨M241, q242, h243⟩ := h237.pr (by decide) (by decide)  q239
  refine xok_eqb q242 ?_
  obtain ⟨p244, q245, e⟩ := xbnd e
  obtain ⟨M246, q247, h248⟩ := h243.na (by decide) q245
  refine xok_eqb q247 ?_
  dsimp only
  obtain ⟨T250, q249, e⟩ := xbnd e
  obtain ⟨M251, q252, h253⟩ := h248.pr (by decide) (by decide)  q249
  refine xok_eqb q252 ?_
  obtain ⟨T255, q254, e⟩ := xbnd e
  obtain ⟨M256, q257, h258⟩ := h253.pi (by decide) (by decide) (show xin (-1) by decide) q254
  refine xok_eqb q257 ?_
  obtain ⟨p259, q260, e⟩ := xbnd e
  obtain ⟨M261, q262, h263⟩ := h258.nw (by decide +kernel) (by decide +kernel) q260
  refine xok_eqb q262 ?_
  dsimp only
  obtain ⟨p264, q265, e⟩ := xbnd e
  obtain ⟨M266, q267, h268⟩ := h263.nw (by decide +kernel) (by decide +kernel) q265
  refine xok_eqb q267 ?_
  dsimp only
  obtain ⟨R269, e270, e⟩ := xbnd e
  refine xok_call (t19 hS h268 (show xin (0) by decide) e270) ?_
  intro M271 h272
  obtain ⟨p274, q275, e⟩ := xbnd e
  obtain ⟨M276, q277, h278⟩ := h272.an q275
  refine xok_eqb q277 ?_
  dsimp only
  obtain ⟨R279, e280, e⟩ := xbnd e
  refine xok_call (t14 hS h278  e280) ?_
  intro M281 h282
  obtain ⟨p284, q285, e⟩ := xbnd e
  obtain ⟨M286, q287, h288⟩ := h282.an q285
  refine xok_eqb q287 ?_
  dsimp only
  obtain ⟨T290, q289, e⟩ := xbnd e
  obtain ⟨M291, q292, h293⟩ := h288.pr (by decide) (by decide)  q289
  refine xok_eqb q292 ?_
  obtain ⟨p294, q295, e⟩ := xbnd e
  obtain ⟨M296, q297, h298⟩ := h293.na (by decide) q295
  refine xok_eqb q297 ?_
  dsimp only
  obtain ⟨T300, q299, e⟩ := xbnd e
  obtain ⟨M301, q302, h303⟩ := h298.pr (by decide) (by decide)  q299
  refine xok_eqb q302 ?_
  obtain ⟨v304, q305, e⟩ := xbnd e
  refine xok_eqb (h303.gr (by decide) (by decide) q305) ?_
  obtain ⟨R306, e307, e⟩ := xbnd e
  refine xok_call (t381 hS h303 (show xiN (9000000000000000000) by decide) e307) ?_
  intro M308 h309
  exact t168_173  hS  h309 (show xin (0) by decide) e
-- ChangeHouse.predicate
theorem t175_36 {m f : Nat} {M0 M : xj_M} {T : xT_} (hS : xHS f)   (h : xCX m M0 M T)  {R : (Nat ⊕ Int) × xT_}  (e : c175_36  f  T = some R) : xok (f175_36  f  M) (fun r => r.1 = R.1 ∧ xCX m M0 r.2 R.2 ∧ ∀ v, R.1 = .inr v → xin v) := by
  unfold c175_36 at e
  unfold f175_36
  cases e
  exact ⟨_, rfl, rfl, h.ex, fun v hv => by cases hv⟩
theorem t175_193 {m f : Nat} {M0 M : xj_M} {T : xT_} (hS : xHS f)   (h : xCX m M0 M T) {y0 : Int} {R : (Nat ⊕ Int) × xT_} (ty0 : xin y0) (e : c175_193  f y0 T = some R) : xok (f175_193  f y0 M) (fun r => r.1 = R.1 ∧ xCX m M0 r.2 R.2 ∧ ∀ v, R.1 = .inr v → xin v) := by
  unfold c175_193 at e
  unfold f175_193
  cases e
  exact ⟨_, rfl, rfl, h, fun v hv => by cases hv; exact ty0⟩
theorem t175_192 {m f : Nat} {M0 M : xj_M} {T : xT_} (hS : xHS f)   (h : xCX m M0 M T)  {R : (Nat ⊕ Int) × xT_}  (e : c175_192  f  T = some R) : xok (f175_192  f  M) (fun r => r.1 = R.1 ∧ xCX m M0 r.2 R.2 ∧ ∀ v, R.1 = .inr v → xin v) := by
  unfold c175_192 at e
  unfold f175_192
  exact t175_193  hS  h (show xin (0) by decide) e
theorem t175_139 {m f : Nat} {M0 M : xj_M} {T : xT_} (hS : xHS f)   (h : xCX m M0 M T) {y0 : Int} {R : (Nat ⊕ Int) × xT_} (ty0 : xin y0) (e : c175_139  f y0 T = some R) : xok (f175_139  f y0 M) (fun r => r.1 = R.1 ∧ xCX m M0 r.2 R.2 ∧ ∀ v, R.1 = .inr v → xin v) := by
  unfold c175_139 at e
  unfold f175_139
  cases e
  exact ⟨_, rfl, rfl, h, fun v hv => by cases hv; exact ty0⟩
theorem t175_123 {m f : Nat} {M0 M : xj_M} {T : xT_} (hS : xHS f)   (h : xCX m M0 M T) {y0 : Int} {R : (Nat ⊕ Int) × xT_} (ty0 : xin y0) (e : c175_123  f y0 T = some R) : xok (f175_123  f y0 M) (fun r => r.1 = R.1 ∧ xCX m M0 r.2 R.2 ∧ ∀ v, R.1 = .inr v → xin v) := by
  unfold c175_123 at e
  unfold f175_123
  cases e
  exact ⟨_, rfl, rfl, h, fun v hv => by cases hv; exact ty0⟩
theorem t175 {m f : Nat} {M0 M : xj_M} {T : xT_} (hS : xHS f) (h : xCX m M0 M T) {a0 : Nat} {a1 : Int} {a2 : Int} {R : (Nat ⊕ Int) × xT_} (ta1 : xin a1) (ta2 : xin a2) (e : c175 f a0 a1 a2 T = some R) : xok (f175 f a0 a1 a2 M) (fun r => r.1 = R.1 ∧ xCX m M0 r.2 R.2 ∧ ∀ v, R.1 = .inr v → xin v) := by
  unfold c175 at e
  unfold f175
  obtain ⟨v101, q102, e⟩ := xbnd e
  refine xok_eqb (h.gr (by decide) (by decide) q102) ?_
  obtain ⟨v103, q104, e⟩ := xbnd e
  refine xok_eqb (h.gi (by decide) (by decide) q104).1 ?_
  obtain ⟨v105, q106, e⟩ := xbnd e
  refine xok_eqb (h.ar q106) ?_
  obtain ⟨_, q112, e⟩ := xbnd e
  obtain ⟨R107, e108, e⟩ := xbnd e
  refine xok_eqb (h.is q112) ?_
  refine xok_call (t5 hS h  e108) ?_
  rintro ⟨v_, M109⟩ ⟨hv_, h110⟩
  cases hv_
  obtain ⟨v113, q114, e⟩ := xbnd e
  refine xok_eqb (h110.gr (by decide) (by decide) q114) ?_
  refine xok_ite (fun c115 => ?_) (fun c115 => ?_)
  · rw [if_pos c115] at e
    exact t175_36  hS  h110  e
  · rw [if_neg c115] at e
    obtain ⟨v116, q117, e⟩ := xbnd e
    refine xok_eqb (h110.gi (by decide) (by decide) q117).1 ?_
    refine xok_ite (fun c118 => ?_) (fun c118 => ?_)
    · rw [if_pos c118] at e
      refine xok_ite (fun c119 => ?_) (fun c119 => ?_)
      · rw [if_pos c119] at e
        cases e
        exact ⟨_, rfl, rfl, h110, fun v hv => by cases hv; exact (show xin (-1) by decide)⟩
      · rw [if_neg c119] at e
        refine xok_ite (fun c120 => ?_) (fun c120 => ?_)
        · rw [if_pos c120] at e
          obtain ⟨v121, q122, e⟩ := xbnd e
          refine xok_eqb (h110.gr (by decide) (by decide) q122) ?_
          obtain ⟨v123, q124, e⟩ := xbnd e
          refine xok_eqb (h110.ai (by decide) q124).1 ?_
          cases e
          exact ⟨_, rfl, rfl, h110, fun v hv => by cases hv; exact (h110.ai (by decide) q124).2⟩
        · rw [if_neg c120] at e
          refine xok_ite (fun c125 => ?_) (fun c125 => ?_)
          · rw [if_pos c125] at e
            obtain ⟨v126, q127, e⟩ := xbnd e
            refine xok_eqb (h110.gr (by decide) (by decide) q127) ?_
            obtain ⟨v128, q129, e⟩ := xbnd e
            refine xok_eqb (h110.ai (by decide) q129).1 ?_
            cases e
            exact ⟨_, rfl, rfl, h110, fun v hv => by cases hv; exact (h110.ai (by decide) q129).2⟩
          · rw [if_neg c125] at e
            refine xok_ite (fun c130 => ?_) (fun c130 => ?_)
            · rw [if_pos c130] at e
              obtain ⟨v131, q132, e⟩ := xbnd e
              refine xok_eqb (h110.gr (by decide) (by decide) q132) ?_
              obtain ⟨v133, q134, e⟩ := xbnd e
              refine xok_eqb (h110.ab q134).1 ?_
              refine xok_ite (fun c135 => ?_) (fun c135 => ?_)
              · rw [if_pos c135] at e
                exact t175_123  hS  h110 (show xin (0) by decide) e
              · rw [if_neg c135] at e
                exact t175_123  hS  h110 (show xin (1) by decide) e
            · rw [if_neg c130] at e
              refine xok_ite (fun c136 => ?_) (fun c136 => ?_)
              · rw [if_pos c136] at e
                obtain ⟨v137, q138, e⟩ := xbnd e
                refine xok_eqb (h110.gr (by decide) (by decide) q138) ?_
                obtain ⟨v139, q140, e⟩ := xbnd e
                refine xok_eqb (h110.ab q140).1 ?_
                refine xok_ite (fun c141 => ?_) (fun c141 => ?_)
                · rw [if_pos c141] at e
                  exact t175_139  hS  h110 (show xin (0) by decide) e
                · rw [if_neg c141] at e
                  exact t175_139  hS  h110 (show xin (1) by decide) e
              · rw [if_neg c136] at e
                refine xok_ite (fun c142 => ?_) (fun c142 => ?_)
                · rw [if_pos c142] at e
                  obtain ⟨v143, q144, e⟩ := xbnd e
                  refine xok_eqb (h110.gr (by decide) (by decide) q144) ?_
                  obtain ⟨v145, q146, e⟩ := xbnd e
                  refine xok_eqb (h110.ai (by decide) q146).1 ?_
                  cases e
                  exact ⟨_, rfl, rfl, h110, fun v hv => by cases hv; exact (h110.ai (by decide) q146).2⟩
                · rw [if_neg c142] at e
                  refine xok_ite (fun c147 => ?_) (fun c147 => ?_)
                  · rw [if_pos c147] at e
                    obtain ⟨v148, q149, e⟩ := xbnd e
                    refine xok_eqb (h110.gr (by decide) (by decide) q149) ?_
                    obtain ⟨v150, q151, e⟩ := xbnd e
                    refine xok_eqb (h110.ai (by decide) q151).1 ?_
                    cases e
                    exact ⟨_, rfl, rfl, h110, fun v hv => by cases hv; exact (h110.ai (by decide) q151).2⟩
                  · rw [if_neg c147] at e
                    refine xok_ite (fun c152 => ?_) (fun c152 => ?_)
                    · rw [if_pos c152] at e
                      obtain ⟨v153, q154, e⟩ := xbnd e
                      refine xok_eqb (h110.gr (by decide) (by decide) q154) ?_
                      obtain ⟨v155, q156, e⟩ := xbnd e
                      refine xok_eqb (h110.ar q156) ?_
                      obtain ⟨v157, q158, e⟩ := xbnd e
                      refine xok_eqb (h110.gi (by decide) (by decide) q158).1 ?_
                      cases e
                      exact ⟨_, rfl, rfl, h110, fun v hv => by cases hv; exact (h110.gi (by decide) (by decide) q158).2⟩
                    · rw [if_neg c152] at e
                      obtain ⟨v159, q160, e⟩ := xbnd e
                      refine xok_eqb (h110.gr (by decide) (by decide) q160) ?_
                      refine xok_ite (fun c161 => ?_) (fun c161 => ?_)
                      · rw [if_pos c161] at e
                        exact t175_192  hS  h110  e
                      · rw [if_neg c161] at e
                        obtain ⟨v162, q163, e⟩ := xbnd e
                        refine xok_eqb (h110.gr (by decide) (by decide) q163) ?_
                        obtain ⟨v164, q165, e⟩ := xbnd e
                        refine xok_eqb (h110.gr (by decide) (by decide) q165) ?_
                        obtain ⟨_, q171, e⟩ := xbnd e
                        obtain ⟨R166, e167, e⟩ := xbnd e
                        refine xok_eqb (h110.is q171) ?_
                        refine xok_call (t18 hS h110 ta1 e167) ?_
                        rintro ⟨v_, M168⟩ ⟨hv_, h169, hi170⟩
                        cases hv_
                        refine xok_ite (fun c172 => ?_) (fun c172 => ?_)
                        · rw [if_pos c172] at e
                          exact t175_192  hS  h169  e
                        · rw [if_neg c172] at e
                          exact t175_193  hS  h169 (show xin (1) by decide) e
    · rw [if_neg c118] at e
      exact t175_36  hS  h110  e
-- ChangeHouse.edits
theorem t177_51 {m f : Nat} {M0 M : xj_M} {T : xT_} (hS : xHS f) {r19 : Nat → Int → Nat → Int → xT_ → Option (Int × xT_)} {o19 : Nat → Int → Nat → Int → xj_M → Option (Int × xj_M)} (hr19 : ∀ {M : xj_M} {T : xT_} {x0 : Nat} {x1 : Int} {x2 : Nat} {x3 : Int} {R : Int × xT_}, xCX m M0 M T → xin x1 → xin x3 → r19 x0 x1 x2 x3 T = some R → xok (o19 x0 x1 x2 x3 M) (fun r => r.1 = R.1 ∧ xCX m M0 r.2 R.2 ∧ xin R.1)) (h : xCX m M0 M T) {x0 : Nat} {x1 : Int} {x2 : Nat} {x3 : Int} {R : Int × xT_} (tx1 : xin x1) (tx3 : xin x3) (e : c177_51 r19 f x0 x1 x2 x3 T = some R) : xok (f177_51 o19 f x0 x1 x2 x3 M) (fun r => r.1 = R.1 ∧ xCX m M0 r.2 R.2 ∧ xin R.1) := by
  unfold c177_51 at e
  unfold f177_51
  exact hr19 h tx1 (xin_wr _) e
theorem t177_57 {m f : Nat} {M0 M : xj_M} {T : xT_} (hS : xHS f)   (h : xCX m M0 M T) {x1 : Int} {R : Int × xT_} (tx1 : xin x1) (e : c177_57  f x1 T = some R) : xok (f177_57  f x1 M) (fun r => r.1 = R.1 ∧ xCX m M0 r.2 R.2 ∧ xin R.1) := by
  unfold c177_57 at e
  unfold f177_57
  cases e
  exact ⟨_, rfl, rfl, h, tx1⟩
theorem t177_19b {m f : Nat} {M0 M : xj_M} {T : xT_} (hS : xHS f) {r19 : Nat → Int → Nat → Int → xT_ → Option (Int × xT_)} {o19 : Nat → Int → Nat → Int → xj_M → Option (Int × xj_M)} (hr19 : ∀ {M : xj_M} {T : xT_} {x0 : Nat} {x1 : Int} {x2 : Nat} {x3 : Int} {R : Int × xT_}, xCX m M0 M T → xin x1 → xin x3 → r19 x0 x1 x2 x3 T = some R → xok (o19 x0 x1 x2 x3 M) (fun r => r.1 = R.1 ∧ xCX m M0 r.2 R.2 ∧ xin R.1)) (h : xCX m M0 M T) {x0 : Nat} {x1 : Int} {x2 : Nat} {x3 : Int} {R : Int × xT_} (tx1 : xin x1) (tx3 : xin x3) (e : c177_19b r19 f x0 x1 x2 x3 T = some R) : xok (f177_19b o19 f x0 x1 x2 x3 M) (fun r => r.1 = R.1 ∧ xCX m M0 r.2 R.2 ∧ xin R.1) := by
  unfold c177_19b at e
  unfold f177_19b
  obtain ⟨v101, q102, e⟩ := xbnd e
  refine xok_eqb (h.gi (by decide) (by decide) q102).1 ?_
  refine xok_ite (fun c103 => ?_) (fun c103 => ?_)
  · rw [if_pos c103] at e
    exact t177_57  hS  h tx1 e
  · rw [if_neg c103] at e
    obtain ⟨v104, q105, e⟩ := xbnd e
    refine xok_eqb (h.gr (by decide) (by decide) q105) ?_
    obtain ⟨v106, q107, e⟩ := xbnd e
    refine xok_eqb (h.ab q107).1 ?_
    refine xok_ite (fun c108 => ?_) (fun c108 => ?_)
    · rw [if_pos c108] at e
      exact t177_51 (r19 := r19) (o19 := o19) hS @hr19 h tx1 tx3 e
    · rw [if_neg c108] at e
      obtain ⟨v109, q110, e⟩ := xbnd e
      refine xok_eqb (h.gr (by decide) (by decide) q110) ?_
      obtain ⟨v111, q112, e⟩ := xbnd e
      refine xok_eqb (h.gr (by decide) (by decide) q112) ?_
      obtain ⟨_, q118, e⟩ := xbnd e
      obtain ⟨R113, e114, e⟩ := xbnd e
      refine xok_eqb (h.is q118) ?_
      refine xok_call (t18 hS h tx3 e114) ?_
      rintro ⟨v_, M115⟩ ⟨hv_, h116, hi117⟩
      cases hv_
      exact t177_51 (r19 := r19) (o19 := o19) hS @hr19 h116 (xin_wr _) tx3 e
theorem t177_19 {m f : Nat} {M0 : xj_M} (hS : xHS f)   : ∀ {n : Nat} {M : xj_M} {T : xT_} {x0 : Nat} {x1 : Int} {x2 : Nat} {x3 : Int} {R : Int × xT_}, xCX m M0 M T → xin x1 → xin x3 → c177_19  f n x0 x1 x2 x3 T = some R → xok (f177_19  f n x0 x1 x2 x3 M) (fun r => r.1 = R.1 ∧ xCX m M0 r.2 R.2 ∧ xin R.1) := by
  intro n
  induction n with
  | zero => intros; rename_i e; cases e
  | succ n ih =>
    intros
    rename_i h i0 i1 e
    exact t177_19b hS  @ih h i0 i1 e
theorem t177 {m f : Nat} {M0 M : xj_M} {T : xT_} (hS : xHS f) (h : xCX m M0 M T) {a0 : Nat} {R : Int × xT_}  (e : c177 f a0 T = some R) : xok (f177 f a0 M) (fun r => r.1 = R.1 ∧ xCX m M0 r.2 R.2 ∧ xin R.1) := by
  unfold c177 at e
  unfold f177
  obtain ⟨v119, q120, e⟩ := xbnd e
  refine xok_eqb (h.gr (by decide) (by decide) q120) ?_
  refine xok_ite (fun c121 => ?_) (fun c121 => ?_)
  · rw [if_pos c121] at e
    exact t177_57  hS  h (show xin (0) by decide) e
  · rw [if_neg c121] at e
    obtain ⟨v122, q123, e⟩ := xbnd e
    refine xok_eqb (h.gr (by decide) (by decide) q123) ?_
    obtain ⟨v124, q125, e⟩ := xbnd e
    refine xok_eqb (h.gr (by decide) (by decide) q125) ?_
    exact t177_19  hS  h (show xin (0) by decide) (show xin (0) by decide) e
-- ChangeHouse.edit
theorem t178_124 {m f : Nat} {M0 M : xj_M} {T : xT_} (hS : xHS f)   (h : xCX m M0 M T)  {R : (Nat ⊕ Int) × xT_}  (e : c178_124  f  T = some R) : xok (f178_124  f  M) (fun r => r.1 = R.1 ∧ xCX m M0 r.2 R.2 ∧ ∀ v, R.1 = .inr v → xiN v) := by
  unfold c178_124 at e
  unfold f178_124
  cases e
  exact ⟨_, rfl, rfl, h.ex, fun v hv => by cases hv⟩
theorem t178_237 {m f : Nat} {M0 M : xj_M} {T : xT_} (hS : xHS f)   (h : xCX m M0 M T) {y0 : Int} {R : (Nat ⊕ Int) × xT_} (ty0 : xiN y0) (e : c178_237  f y0 T = some R) : xok (f178_237  f y0 M) (fun r => r.1 = R.1 ∧ xCX m M0 r.2 R.2 ∧ ∀ v, R.1 = .inr v → xiN v) := by
  unfold c178_237 at e
  unfold f178_237
  cases e
  exact ⟨_, rfl, rfl, h, fun v hv => by cases hv; exact ty0⟩
theorem t178_90 {m f : Nat} {M0 M : xj_M} {T : xT_} (hS : xHS f)   (h : xCX m M0 M T) {x0 : Nat} {x1 : Int} {x2 : Int} {x3 : Int} {x4 : Int} {x5 : Int} {R : (Nat ⊕ Int) × xT_} (tx1 : xin x1) (tx2 : xin x2) (tx3 : xin x3) (tx4 : xin x4) (tx5 : xin x5) (e : c178_90  f x0 x1 x2 x3 x4 x5 T = some R) : xok (f178_90  f x0 x1 x2 x3 x4 x5 M) (fun r => r.1 = R.1 ∧ xCX m M0 r.2 R.2 ∧ ∀ v, R.1 = .inr v → xiN v) := by
  unfold c178_90 at e
  unfold f178_90
  refine xok_ite (fun c101 => ?_) (fun c101 => ?_)
  · rw [if_pos c101] at e
    exact t178_124  hS  h  e
  · rw [if_neg c101] at e
    refine xok_ite (fun c102 => ?_) (fun c102 => ?_)
    · rw [if_pos c102] at e
      exact t178_124  hS  h  e
    · rw [if_neg c102] at e
      refine xok_ite (fun c103 => ?_) (fun c103 => ?_)
      · rw [if_pos c103] at e
        exact t178_124  hS  h  e
      · rw [if_neg c103] at e
        obtain ⟨v104, q105, e⟩ := xbnd e
        refine xok_eqb (h.gr (by decide) (by decide) q105) ?_
        obtain ⟨v106, q107, e⟩ := xbnd e
        refine xok_eqb (h.gr (by decide) (by decide) q107) ?_
        obtain ⟨v108, q109, e⟩ := xbnd e
        refine xok_eqb (h.gr (by decide) (by decide) q109) ?_
        obtain ⟨v110, q111, e⟩ := xbnd e
        refine xok_eqb (h.ai (by decide) q111).1 ?_
        refine xok_ite (fun c112 => ?_) (fun c112 => ?_)
        · rw [if_pos c112] at e
          refine xok_ite (fun c113 => ?_) (fun c113 => ?_)
          · rw [if_pos c113] at e
            obtain ⟨v114, q115, e⟩ := xbnd e
            refine xok_eqb (h.gr (by decide) (by decide) q115) ?_
            obtain ⟨v116, q117, e⟩ := xbnd e
            refine xok_eqb (h.gr (by decide) (by decide) q117) ?_
            obtain ⟨_, q123, e⟩ := xbnd e
            obtain ⟨R118, e119, e⟩ := xbnd e
            refine xok_eqb (h.is q123) ?_
            refine xok_call (t17 hS h tx4 e119) ?_
            rintro ⟨v_, M120⟩ ⟨hv_, h121⟩
            cases hv_
            obtain ⟨v124, q125, e⟩ := xbnd e
            refine xok_eqb (h121.gr (by decide) (by decide) q125) ?_
            obtain ⟨v126, q127, e⟩ := xbnd e
            refine xok_eqb (h121.gr (by decide) (by decide) q127) ?_
            obtain ⟨v128, q129, e⟩ := xbnd e
            refine xok_eqb (h121.ar q129) ?_
            obtain ⟨_, q135, e⟩ := xbnd e
            obtain ⟨R130, e131, e⟩ := xbnd e
            refine xok_eqb (h121.is q135) ?_
            refine xok_call (t84 hS h121 tx3 e131) ?_
            rintro ⟨v_, M132⟩ ⟨hv_, h133, hi134⟩
            cases hv_
            refine xok_ite (fun c136 => ?_) (fun c136 => ?_)
            · rw [if_pos c136] at e
              refine xok_ite (fun c137 => ?_) (fun c137 => ?_)
              · rw [if_pos c137] at e
                refine xok_ite (fun c138 => ?_) (fun c138 => ?_)
                · rw [if_pos c138] at e
                  obtain ⟨_, q144, e⟩ := xbnd e
                  obtain ⟨R139, e140, e⟩ := xbnd e
                  refine xok_eqb (h133.is q144) ?_
                  refine xok_call (t70 hS h133 (xin_of _) (xin_wr _) e140) ?_
                  rintro ⟨v_, M141⟩ ⟨hv_, h142, hi143⟩
                  cases hv_
                  exact t178_237  hS  h142 hi143 e
                · rw [if_neg c138] at e
                  obtain ⟨_, q150, e⟩ := xbnd e
                  obtain ⟨R145, e146, e⟩ := xbnd e
                  refine xok_eqb (h133.is q150) ?_
                  refine xok_call (t70 hS h133 (xin_of _) (xin_wr _) e146) ?_
                  rintro ⟨v_, M147⟩ ⟨hv_, h148, hi149⟩
                  cases hv_
                  exact t178_237  hS  h148 hi149 e
              · rw [if_neg c137] at e
                cases e
                exact ⟨_, rfl, rfl, h133, fun v hv => by cases hv; exact (xin_N (xin_of _))⟩
            · rw [if_neg c136] at e
              cases e
              exact ⟨_, rfl, rfl, h133.ex, fun v hv => by cases hv⟩
          · rw [if_neg c113] at e
            cases e
            exact ⟨_, rfl, rfl, h, fun v hv => by cases hv; exact (xin_N tx4)⟩
        · rw [if_neg c112] at e
          exact t178_124  hS  h  e
theorem t178_68 {m f : Nat} {M0 M : xj_M} {T : xT_} (hS : xHS f) {r28 : Nat → Int → Int → Int → Int → Int → xT_ → Option ((Nat ⊕ Int) × xT_)} {o28 : Nat → Int → Int → Int → Int → Int → xj_M → Option ((Nat ⊕ Int) × xj_M)} (hr28 : ∀ {M : xj_M} {T : xT_} {x0 : Nat} {x1 : Int} {x2 : Int} {x3 : Int} {x4 : Int} {x5 : Int} {R : (Nat ⊕ Int) × xT_}, xCX m M0 M T → xin x1 → xin x2 → xin x3 → xin x4 → xin x5 → r28 x0 x1 x2 x3 x4 x5 T = some R → xok (o28 x0 x1 x2 x3 x4 x5 M) (fun r => r.1 = R.1 ∧ xCX m M0 r.2 R.2 ∧ ∀ v, R.1 = .inr v → xiN v)) (h : xCX m M0 M T) {x0 : Nat} {x1 : Int} {x2 : Int} {x3 : Int} {x4 : Int} {x5 : Int} {y0 : Int} {R : (Nat ⊕ Int) × xT_} (tx1 : xin x1) (tx2 : xin x2) (tx3 : xin x3) (tx4 : xin x4) (tx5 : xin x5) (ty0 : xin y0) (e : c178_68 r28 f x0 x1 x2 x3 x4 x5 y0 T = some R) : xok (f178_68 o28 f x0 x1 x2 x3 x4 x5 y0 M) (fun r => r.1 = R.1 ∧ xCX m M0 r.2 R.2 ∧ ∀ v, R.1 = .inr v → xiN v) := by
  unfold c178_68 at e
  unfold f178_68
  refine xok_ite (fun c151 => ?_) (fun c151 => ?_)
  · rw [if_pos c151] at e
    exact hr28 h tx1 tx2 (xin_wr _) (xin_wr _) tx5 e
  · rw [if_neg c151] at e
    exact t178_90  hS  h tx1 tx2 tx3 tx4 tx5 e
theorem t178_28b {m f : Nat} {M0 M : xj_M} {T : xT_} (hS : xHS f) {r28 : Nat → Int → Int → Int → Int → Int → xT_ → Option ((Nat ⊕ Int) × xT_)} {o28 : Nat → Int → Int → Int → Int → Int → xj_M → Option ((Nat ⊕ Int) × xj_M)} (hr28 : ∀ {M : xj_M} {T : xT_} {x0 : Nat} {x1 : Int} {x2 : Int} {x3 : Int} {x4 : Int} {x5 : Int} {R : (Nat ⊕ Int) × xT_}, xCX m M0 M T → xin x1 → xin x2 → xin x3 → xin x4 → xin x5 → r28 x0 x1 x2 x3 x4 x5 T = some R → xok (o28 x0 x1 x2 x3 x4 x5 M) (fun r => r.1 = R.1 ∧ xCX m M0 r.2 R.2 ∧ ∀ v, R.1 = .inr v → xiN v)) (h : xCX m M0 M T) {x0 : Nat} {x1 : Int} {x2 : Int} {x3 : Int} {x4 : Int} {x5 : Int} {R : (Nat ⊕ Int) × xT_} (tx1 : xin x1) (tx2 : xin x2) (tx3 : xin x3) (tx4 : xin x4) (tx5 : xin x5) (e : c178_28b r28 f x0 x1 x2 x3 x4 x5 T = some R) : xok (f178_28b o28 f x0 x1 x2 x3 x4 x5 M) (fun r => r.1 = R.1 ∧ xCX m M0 r.2 R.2 ∧ ∀ v, R.1 = .inr v → xiN v) := by
  unfold c178_28b at e
  unfold f178_28b
  refine xok_ite (fun c152 => ?_) (fun c152 => ?_)
  · rw [if_pos c152] at e
    exact t178_90  hS  h tx1 tx2 tx3 tx4 tx5 e
  · rw [if_neg c152] at e
    obtain ⟨v153, q154, e⟩ := xbnd e
    refine xok_eqb (h.gr (by decide) (by decide) q154) ?_
    obtain ⟨v155, q156, e⟩ := xbnd e
    refine xok_eqb (h.gr (by decide) (by decide) q156) ?_
    obtain ⟨v157, q158, e⟩ := xbnd e
    refine xok_eqb (h.gr (by decide) (by decide) q158) ?_
    obtain ⟨v159, q160, e⟩ := xbnd e
    refine xok_eqb (h.ab q160).1 ?_
    refine xok_ite (fun c161 => ?_) (fun c161 => ?_)
    · rw [if_pos c161] at e
      exact t178_68 (r28 := r28) (o28 := o28) hS @hr28 h tx1 tx2 tx3 tx4 tx5 (show xin (0) by decide) e
    · rw [if_neg c161] at e
      obtain ⟨v162, q163, e⟩ := xbnd e
      refine xok_eqb (h.gr (by decide) (by decide) q163) ?_
      obtain ⟨v164, q165, e⟩ := xbnd e
      refine xok_eqb (h.gr (by decide) (by decide) q165) ?_
      obtain ⟨_, q171, e⟩ := xbnd e
      obtain ⟨R166, e167, e⟩ := xbnd e
      refine xok_eqb (h.is q171) ?_
      refine xok_call (t18 hS h tx4 e167) ?_
      rintro ⟨v_, M168⟩ ⟨hv_, h169, hi170⟩
      cases hv_
      exact t178_68 (r28 := r28) (o28 := o28) hS @hr28 h169 tx1 tx2 tx3 tx4 tx5 hi170 e
theorem t178_28 {m f : Nat} {M0 : xj_M} (hS : xHS f)   : ∀ {n : Nat} {M : xj_M} {T : xT_} {x0 : Nat} {x1 : Int} {x2 : Int} {x3 : Int} {x4 : Int} {x5 : Int} {R : (Nat ⊕ Int) × xT_}, xCX m M0 M T → xin x1 → xin x2 → xin x3 → xin x4 → xin x5 → c178_28  f n x0 x1 x2 x3 x4 x5 T = some R → xok (f178_28  f n x0 x1 x2 x3 x4 x5 M) (fun r => r.1 = R.1 ∧ xCX m M0 r.2 R.2 ∧ ∀ v, R.1 = .inr v → xiN v) := by
  intro n
  induction n with
  | zero => intros; rename_i e; cases e
  | succ n ih =>
    intros
    rename_i h i0 i1 i2 i3 i4 e
    exact t178_28b hS  @ih h i0 i1 i2 i3 i4 e
theorem t178_26 {m f : Nat} {M0 M : xj_M} {T : xT_} (hS : xHS f)   (h : xCX m M0 M T) {x0 : Nat} {x1 : Int} {x2 : Int} {x3 : Int} {x4 : Int} {y0 : Int} {R : (Nat ⊕ Int) × xT_} (tx1 : xin x1) (tx2 : xin x2) (tx3 : xin x3) (tx4 : xin x4) (ty0 : xin y0) (e : c178_26  f x0 x1 x2 x3 x4 y0 T = some R) : xok (f178_26  f x0 x1 x2 x3 x4 y0 M) (fun r => r.1 = R.1 ∧ xCX m M0 r.2 R.2 ∧ ∀ v, R.1 = .inr v → xiN v) := by
  unfold c178_26 at e
  unfold f178_26
  exact t178_28  hS  h tx1 tx2 tx3 tx4 ty0 e
theorem t178 {m f : Nat} {M0 M : xj_M} {T : xT_} (hS : xHS f) (h : xCX m M0 M T) {a0 : Nat} {a1 : Int} {a2 : Int} {R : (Nat ⊕ Int) × xT_} (ta1 : xin a1) (ta2 : xin a2) (e : c178 f a0 a1 a2 T = some R) : xok (f178 f a0 a1 a2 M) (fun r => r.1 = R.1 ∧ xCX m M0 r.2 R.2 ∧ ∀ v, R.1 = .inr v → xiN v) := by
  unfold c178 at e
  unfold f178
  obtain ⟨v172, q173, e⟩ := xbnd e
  refine xok_eqb (h.gr (by decide) (by decide) q173) ?_
  refine xok_ite (fun c174 => ?_) (fun c174 => ?_)
  · rw [if_pos c174] at e
    exact t178_26  hS  h ta1 ta2 ta1 (show xin (0) by decide) (show xin (0) by decide) e
  · rw [if_neg c174] at e
    obtain ⟨v175, q176, e⟩ := xbnd e
    refine xok_eqb (h.gr (by decide) (by decide) q176) ?_
    obtain ⟨v177, q178, e⟩ := xbnd e
    refine xok_eqb (h.gr (by decide) (by decide) q178) ?_
    obtain ⟨v179, q180, e⟩ := xbnd e
    refine xok_eqb (h.gi (by decide) (by decide) q180).1 ?_
    exact t178_26  hS  h ta1 ta2 ta1 (show xin (0) by decide) (h.gi (by decide) (by decide) q180).2 e
-- ChangeHouse.back
theorem t186_83 {m f : Nat} {M0 M : xj_M} {T : xT_} (hS : xHS f) {r35 : Nat → Int → Int → Int → xT_ → Option (Int × xT_)} {o35 : Nat → Int → Int → Int → xj_M → Option (Int × xj_M)} (hr35 : ∀ {M : xj_M} {T : xT_} {x0 : Nat} {x1 : Int} {x3 : Int} {x4 : Int} {R : Int × xT_}, xCX m M0 M T → xin x1 → xin x3 → xin x4 → r35 x0 x1 x3 x4 T = some R → xok (o35 x0 x1 x3 x4 M) (fun r => r.1 = R.1 ∧ xCX m M0 r.2 R.2 ∧ xin R.1)) (h : xCX m M0 M T) {x0 : Nat} {x1 : Int} {x3 : Int} {x4 : Int} {R : Int × xT_} (tx1 : xin x1) (tx3 : xin x3) (tx4 : xin x4) (e : c186_83 r35 f x0 x1 x3 x4 T = some R) : xok (f186_83 o35 f x0 x1 x3 x4 M) (fun r => r.1 = R.1 ∧ xCX m M0 r.2 R.2 ∧ xin R.1) := by
  unfold c186_83 at e
  unfold f186_83
  exact hr35 h tx1 tx3 (xin_wr _) e
theorem t186_35b {m f : Nat} {M0 M : xj_M} {T : xT_} (hS : xHS f) {r35 : Nat → Int → Int → Int → xT_ → Option (Int × xT_)} {o35 : Nat → Int → Int → Int → xj_M → Option (Int × xj_M)} (hr35 : ∀ {M : xj_M} {T : xT_} {x0 : Nat} {x1 : Int} {x3 : Int} {x4 : Int} {R : Int × xT_}, xCX m M0 M T → xin x1 → xin x3 → xin x4 → r35 x0 x1 x3 x4 T = some R → xok (o35 x0 x1 x3 x4 M) (fun r => r.1 = R.1 ∧ xCX m M0 r.2 R.2 ∧ xin R.1)) (h : xCX m M0 M T) {x0 : Nat} {x1 : Int} {x3 : Int} {x4 : Int} {R : Int × xT_} (tx1 : xin x1) (tx3 : xin x3) (tx4 : xin x4) (e : c186_35b r35 f x0 x1 x3 x4 T = some R) : xok (f186_35b o35 f x0 x1 x3 x4 M) (fun r => r.1 = R.1 ∧ xCX m M0 r.2 R.2 ∧ xin R.1) := by
  unfold c186_35b at e
  unfold f186_35b
  refine xok_ite (fun c101 => ?_) (fun c101 => ?_)
  · rw [if_pos c101] at e
    obtain ⟨T103, q102, e⟩ := xbnd e
    obtain ⟨M104, q105, h106⟩ := h.pr (by decide) (by decide)  q102
    refine xok_eqb q105 ?_
    cases e
    exact ⟨_, rfl, rfl, h106, tx3⟩
  · rw [if_neg c101] at e
    obtain ⟨v107, q108, e⟩ := xbnd e
    refine xok_eqb (h.gr (by decide) (by decide) q108) ?_
    obtain ⟨v109, q110, e⟩ := xbnd e
    refine xok_eqb (h.ar q110) ?_
    obtain ⟨v111, q112, e⟩ := xbnd e
    refine xok_eqb (h.gi (by decide) (by decide) q112).1 ?_
    obtain ⟨v113, q114, e⟩ := xbnd e
    refine xok_eqb (h.gi (by decide) (by decide) q114).1 ?_
    refine xok_ite (fun c115 => ?_) (fun c115 => ?_)
    · rw [if_pos c115] at e
      exact t186_83 (r35 := r35) (o35 := o35) hS @hr35 h tx1 tx3 tx4 e
    · rw [if_neg c115] at e
      obtain ⟨v116, q117, e⟩ := xbnd e
      refine xok_eqb (h.gr (by decide) (by decide) q117) ?_
      obtain ⟨v118, q119, e⟩ := xbnd e
      refine xok_eqb (h.ar q119) ?_
      obtain ⟨v120, q121, e⟩ := xbnd e
      refine xok_eqb (h.gi (by decide) (by decide) q121).1 ?_
      refine xok_ite (fun c122 => ?_) (fun c122 => ?_)
      · rw [if_pos c122] at e
        exact t186_83 (r35 := r35) (o35 := o35) hS @hr35 h tx1 tx3 tx4 e
      · rw [if_neg c122] at e
        obtain ⟨v123, q124, e⟩ := xbnd e
        refine xok_eqb (h.gr (by decide) (by decide) q124) ?_
        obtain ⟨v125, q126, e⟩ := xbnd e
        refine xok_eqb (h.ar q126) ?_
        obtain ⟨T128, q127, e⟩ := xbnd e
        obtain ⟨M129, q130, h131⟩ := h.pi (by decide) (by decide) (show xin (-1) by decide) q127
        refine xok_eqb q130 ?_
        exact t186_83 (r35 := r35) (o35 := o35) hS @hr35 h131 tx1 tx3 tx4 e
theorem t186_35 {m f : Nat} {M0 : xj_M} (hS : xHS f)   : ∀ {n : Nat} {M : xj_M} {T : xT_} {x0 : Nat} {x1 : Int} {x3 : Int} {x4 : Int} {R : Int × xT_}, xCX m M0 M T → xin x1 → xin x3 → xin x4 → c186_35  f n x0 x1 x3 x4 T = some R → xok (f186_35  f n x0 x1 x3 x4 M) (fun r => r.1 = R.1 ∧ xCX m M0 r.2 R.2 ∧ xin R.1) := by
  intro n
  induction n with
  | zero => intros; rename_i e; cases e
  | succ n ih =>
    intros
    rename_i h i0 i1 i2 e
    exact t186_35b hS  @ih h i0 i1 i2 e
theorem t186 {m f : Nat} {M0 M : xj_M} {T : xT_} (hS : xHS f) (h : xCX m M0 M T) {a0 : Nat} {a1 : Int} {R : Int × xT_} (ta1 : xin a1) (e : c186 f a0 a1 T = some R) : xok (f186 f a0 a1 M) (fun r => r.1 = R.1 ∧ xCX m M0 r.2 R.2 ∧ xin R.1) := by
  unfold c186 at e
  unfold f186
  obtain ⟨v132, q133, e⟩ := xbnd e
  refine xok_eqb (h.gr (by decide) (by decide) q133) ?_
  obtain ⟨v134, q135, e⟩ := xbnd e
  refine xok_eqb (h.gi (by decide) (by decide) q135).1 ?_
  obtain ⟨v136, q137, e⟩ := xbnd e
  refine xok_eqb (h.ar q137) ?_
  obtain ⟨_, q143, e⟩ := xbnd e
  obtain ⟨R138, e139, e⟩ := xbnd e
  refine xok_eqb (h.is q143) ?_
  refine xok_call (t6 hS h ta1 e139) ?_
  rintro ⟨v_, M140⟩ ⟨hv_, h141, hi142⟩
  cases hv_
  refine xok_ite (fun c144 => ?_) (fun c144 => ?_)
  · rw [if_pos c144] at e
    obtain ⟨v145, q146, e⟩ := xbnd e
    refine xok_eqb (h141.gi (by decide) (by decide) q146).1 ?_
    obtain ⟨_, q152, e⟩ := xbnd e
    obtain ⟨R147, e148, e⟩ := xbnd e
    refine xok_eqb (h141.is q152) ?_
    refine xok_call (t12 hS h141 ta1 e148) ?_
    intro M149 h150
    exact t186_35  hS  h150 ta1 (xin_wr _) (show xin (0) by decide) e
  · rw [if_neg c144] at e
    cases e
    exact ⟨_, rfl, rfl, h141, (show xin (-1) by decide)⟩
-- ChangeHouse.branch
theorem t187_35 {m f : Nat} {M0 M : xj_M} {T : xT_} (hS : xHS f)   (h : xCX m M0 M T)  {R : Int × xT_}  (e : c187_35  f  T = some R) : xok (f187_35  f  M) (fun r => r.1 = R.1 ∧ xCX m M0 r.2 R.2 ∧ xin R.1) := by
  unfold c187_35 at e
  unfold f187_35
  cases e
  exact ⟨_, rfl, rfl, h, (show xin (-1) by decide)⟩
theorem t187_82 {m f : Nat} {M0 M : xj_M} {T : xT_} (hS : xHS f) {r51 : Nat → Int → Int → Int → xT_ → Option (Int × xT_)} {o51 : Nat → Int → Int → Int → xj_M → Option (Int × xj_M)} (hr51 : ∀ {M : xj_M} {T : xT_} {x0 : Nat} {x1 : Int} {x2 : Int} {x4 : Int} {R : Int × xT_}, xCX m M0 M T → xin x1 → xin x2 → xin x4 → r51 x0 x1 x2 x4 T = some R → xok (o51 x0 x1 x2 x4 M) (fun r => r.1 = R.1 ∧ xCX m M0 r.2 R.2 ∧ xin R.1)) (h : xCX m M0 M T) {x0 : Nat} {x1 : Int} {x2 : Int} {x4 : Int} {R : Int × xT_} (tx1 : xin x1) (tx2 : xin x2) (tx4 : xin x4) (e : c187_82 r51 f x0 x1 x2 x4 T = some R) : xok (f187_82 o51 f x0 x1 x2 x4 M) (fun r => r.1 = R.1 ∧ xCX m M0 r.2 R.2 ∧ xin R.1) := by
  unfold c187_82 at e
  unfold f187_82
  exact hr51 h tx1 tx2 (xin_wr _) e
theorem t187_51b {m f : Nat} {M0 M : xj_M} {T : xT_} (hS : xHS f) {r51 : Nat → Int → Int → Int → xT_ → Option (Int × xT_)} {o51 : Nat → Int → Int → Int → xj_M → Option (Int × xj_M)} (hr51 : ∀ {M : xj_M} {T : xT_} {x0 : Nat} {x1 : Int} {x2 : Int} {x4 : Int} {R : Int × xT_}, xCX m M0 M T → xin x1 → xin x2 → xin x4 → r51 x0 x1 x2 x4 T = some R → xok (o51 x0 x1 x2 x4 M) (fun r => r.1 = R.1 ∧ xCX m M0 r.2 R.2 ∧ xin R.1)) (h : xCX m M0 M T) {x0 : Nat} {x1 : Int} {x2 : Int} {x4 : Int} {R : Int × xT_} (tx1 : xin x1) (tx2 : xin x2) (tx4 : xin x4) (e : c187_51b r51 f x0 x1 x2 x4 T = some R) : xok (f187_51b o51 f x0 x1 x2 x4 M) (fun r => r.1 = R.1 ∧ xCX m M0 r.2 R.2 ∧ xin R.1) := by
  unfold c187_51b at e
  unfold f187_51b
  refine xok_ite (fun c101 => ?_) (fun c101 => ?_)
  · rw [if_pos c101] at e
    obtain ⟨v102, q103, e⟩ := xbnd e
    refine xok_eqb (h.gr (by decide) (by decide) q103) ?_
    obtain ⟨v104, q105, e⟩ := xbnd e
    refine xok_eqb (h.ar q105) ?_
    obtain ⟨v106, q107, e⟩ := xbnd e
    refine xok_eqb (h.gi (by decide) (by decide) q107).1 ?_
    obtain ⟨T109, q108, e⟩ := xbnd e
    obtain ⟨M110, q111, h112⟩ := h.pi (by decide) (by decide) (h.gi (by decide) (by decide) q107).2 q108
    refine xok_eqb q111 ?_
    obtain ⟨v113, q114, e⟩ := xbnd e
    refine xok_eqb (h112.gr (by decide) (by decide) q114) ?_
    obtain ⟨v115, q116, e⟩ := xbnd e
    refine xok_eqb (h112.ar q116) ?_
    obtain ⟨T118, q117, e⟩ := xbnd e
    obtain ⟨M119, q120, h121⟩ := h112.pi (by decide) (by decide) tx2 q117
    refine xok_eqb q120 ?_
    cases e
    exact ⟨_, rfl, rfl, h121, tx2⟩
  · rw [if_neg c101] at e
    obtain ⟨v122, q123, e⟩ := xbnd e
    refine xok_eqb (h.gr (by decide) (by decide) q123) ?_
    obtain ⟨v124, q125, e⟩ := xbnd e
    refine xok_eqb (h.ar q125) ?_
    obtain ⟨v126, q127, e⟩ := xbnd e
    refine xok_eqb (h.gi (by decide) (by decide) q127).1 ?_
    refine xok_ite (fun c128 => ?_) (fun c128 => ?_)
    · rw [if_pos c128] at e
      exact t187_82 (r51 := r51) (o51 := o51) hS @hr51 h tx1 tx2 tx4 e
    · rw [if_neg c128] at e
      obtain ⟨v129, q130, e⟩ := xbnd e
      refine xok_eqb (h.gr (by decide) (by decide) q130) ?_
      obtain ⟨v131, q132, e⟩ := xbnd e
      refine xok_eqb (h.ar q132) ?_
      obtain ⟨T134, q133, e⟩ := xbnd e
      obtain ⟨M135, q136, h137⟩ := h.pi (by decide) (by decide) (show xin (-1) by decide) q133
      refine xok_eqb q136 ?_
      exact t187_82 (r51 := r51) (o51 := o51) hS @hr51 h137 tx1 tx2 tx4 e
theorem t187_51 {m f : Nat} {M0 : xj_M} (hS : xHS f)   : ∀ {n : Nat} {M : xj_M} {T : xT_} {x0 : Nat} {x1 : Int} {x2 : Int} {x4 : Int} {R : Int × xT_}, xCX m M0 M T → xin x1 → xin x2 → xin x4 → c187_51  f n x0 x1 x2 x4 T = some R → xok (f187_51  f n x0 x1 x2 x4 M) (fun r => r.1 = R.1 ∧ xCX m M0 r.2 R.2 ∧ xin R.1) := by
  intro n
  induction n with
  | zero => intros; rename_i e; cases e
  | succ n ih =>
    intros
    rename_i h i0 i1 i2 e
    exact t187_51b hS  @ih h i0 i1 i2 e
theorem t187 {m f : Nat} {M0 M : xj_M} {T : xT_} (hS : xHS f) (h : xCX m M0 M T) {a0 : Nat} {a1 : Int} {a2 : Int} {R : Int × xT_} (ta1 : xin a1) (ta2 : xin a2) (e : c187 f a0 a1 a2 T = some R) : xok (f187 f a0 a1 a2 M) (fun r => r.1 = R.1 ∧ xCX m M0 r.2 R.2 ∧ xin R.1) := by
  unfold c187 at e
  unfold f187
  obtain ⟨v138, q139, e⟩ := xbnd e
  refine xok_eqb (h.gr (by decide) (by decide) q139) ?_
  obtain ⟨v140, q141, e⟩ := xbnd e
  refine xok_eqb (h.gi (by decide) (by decide) q141).1 ?_
  obtain ⟨v142, q143, e⟩ := xbnd e
  refine xok_eqb (h.ar q143) ?_
  refine xok_ite (fun c144 => ?_) (fun c144 => ?_)
  · rw [if_pos c144] at e
    exact t187_35  hS  h  e
  · rw [if_neg c144] at e
    refine xok_ite (fun c145 => ?_) (fun c145 => ?_)
    · rw [if_pos c145] at e
      exact t187_35  hS  h  e
    · rw [if_neg c145] at e
      obtain ⟨v146, q147, e⟩ := xbnd e
      refine xok_eqb (h.gi (by decide) (by decide) q147).1 ?_
      refine xok_ite (fun c148 => ?_) (fun c148 => ?_)
      · rw [if_pos c148] at e
        exact t187_35  hS  h  e
      · rw [if_neg c148] at e
        obtain ⟨_, q154, e⟩ := xbnd e
        obtain ⟨R149, e150, e⟩ := xbnd e
        refine xok_eqb (h.is q154) ?_
        refine xok_call (t6 hS h ta2 e150) ?_
        rintro ⟨v_, M151⟩ ⟨hv_, h152, hi153⟩
        cases hv_
        refine xok_ite (fun c155 => ?_) (fun c155 => ?_)
        · rw [if_pos c155] at e
          obtain ⟨v156, q157, e⟩ := xbnd e
          refine xok_eqb (h152.gr (by decide) (by decide) q157) ?_
          obtain ⟨v158, q159, e⟩ := xbnd e
          refine xok_eqb (h152.ar q159) ?_
          obtain ⟨_, q165, e⟩ := xbnd e
          obtain ⟨R160, e161, e⟩ := xbnd e
          refine xok_eqb (h152.is q165) ?_
          refine xok_call (t13 hS h152 ta2 e161) ?_
          intro M162 h163
          exact t187_51  hS  h163 ta1 ta2 (show xin (0) by decide) e
        · rw [if_neg c155] at e
          exact t187_35  hS  h152  e
-- ChangeHouse.meet
theorem t190_97 {m f : Nat} {M0 M : xj_M} {T : xT_} (hS : xHS f)   (h : xCX m M0 M T) {x0 : Nat} {x5 : Int} {x6 : Int} {x7 : Int} {y0 : Nat} {R : Int × xT_} (tx5 : xin x5) (tx6 : xin x6) (tx7 : xin x7) (e : c190_97  f x0 x5 x6 x7 y0 T = some R) : xok (f190_97  f x0 x5 x6 x7 y0 M) (fun r => r.1 = R.1 ∧ xCX m M0 r.2 R.2 ∧ xin R.1) := by
  unfold c190_97 at e
  unfold f190_97
  obtain ⟨v101, q102, e⟩ := xbnd e
  refine xok_eqb (h.gr (by decide) (by decide) q102) ?_
  obtain ⟨_, q108, e⟩ := xbnd e
  obtain ⟨R103, e104, e⟩ := xbnd e
  refine xok_eqb (h.is q108) ?_
  refine xok_call (t78 hS h (xin_of _) e104) ?_
  intro M105 h106
  obtain ⟨T110, q109, e⟩ := xbnd e
  obtain ⟨M111, q112, h113⟩ := h106.pi (by decide) (by decide) tx5 q109
  refine xok_eqb q112 ?_
  obtain ⟨T115, q114, e⟩ := xbnd e
  obtain ⟨M116, q117, h118⟩ := h113.pi (by decide) (by decide) tx6 q114
  refine xok_eqb q117 ?_
  cases e
  exact ⟨_, rfl, rfl, h118, (show xin (1) by decide)⟩
theorem t190_64 {m f : Nat} {M0 M : xj_M} {T : xT_} (hS : xHS f) {r9 : Nat → Nat → Nat → Nat → Nat → Int → xT_ → Option (Int × xT_)} {o9 : Nat → Nat → Nat → Nat → Nat → Int → xj_M → Option (Int × xj_M)} (hr9 : ∀ {M : xj_M} {T : xT_} {x0 : Nat} {x1 : Nat} {x2 : Nat} {x3 : Nat} {x4 : Nat} {x5 : Int} {R : Int × xT_}, xCX m M0 M T → xin x5 → r9 x0 x1 x2 x3 x4 x5 T = some R → xok (o9 x0 x1 x2 x3 x4 x5 M) (fun r => r.1 = R.1 ∧ xCX m M0 r.2 R.2 ∧ xin R.1)) (h : xCX m M0 M T) {x0 : Nat} {x1 : Nat} {x2 : Nat} {x3 : Nat} {x4 : Nat} {x5 : Int} {x6 : Int} {y0 : Int} {R : Int × xT_} (tx5 : xin x5) (tx6 : xin x6) (ty0 : xin y0) (e : c190_64 r9 f x0 x1 x2 x3 x4 x5 x6 y0 T = some R) : xok (f190_64 o9 f x0 x1 x2 x3 x4 x5 x6 y0 M) (fun r => r.1 = R.1 ∧ xCX m M0 r.2 R.2 ∧ xin R.1) := by
  unfold c190_64 at e
  unfold f190_64
  refine xok_ite (fun c119 => ?_) (fun c119 => ?_)
  · rw [if_pos c119] at e
    exact hr9 h (xin_wr _) e
  · rw [if_neg c119] at e
    refine xok_ite (fun c120 => ?_) (fun c120 => ?_)
    · rw [if_pos c120] at e
      obtain ⟨v121, q122, e⟩ := xbnd e
      refine xok_eqb (h.gr (by decide) (by decide) q122) ?_
      obtain ⟨v123, q124, e⟩ := xbnd e
      refine xok_eqb (h.ar q124) ?_
      exact t190_97  hS  h tx5 tx6 ty0 e
    · rw [if_neg c120] at e
      obtain ⟨v125, q126, e⟩ := xbnd e
      refine xok_eqb (h.gr (by decide) (by decide) q126) ?_
      obtain ⟨v127, q128, e⟩ := xbnd e
      refine xok_eqb (h.ar q128) ?_
      exact t190_97  hS  h tx5 tx6 ty0 e
theorem t190_9b {m f : Nat} {M0 M : xj_M} {T : xT_} (hS : xHS f) {r9 : Nat → Nat → Nat → Nat → Nat → Int → xT_ → Option (Int × xT_)} {o9 : Nat → Nat → Nat → Nat → Nat → Int → xj_M → Option (Int × xj_M)} (hr9 : ∀ {M : xj_M} {T : xT_} {x0 : Nat} {x1 : Nat} {x2 : Nat} {x3 : Nat} {x4 : Nat} {x5 : Int} {R : Int × xT_}, xCX m M0 M T → xin x5 → r9 x0 x1 x2 x3 x4 x5 T = some R → xok (o9 x0 x1 x2 x3 x4 x5 M) (fun r => r.1 = R.1 ∧ xCX m M0 r.2 R.2 ∧ xin R.1)) (h : xCX m M0 M T) {x0 : Nat} {x1 : Nat} {x2 : Nat} {x3 : Nat} {x4 : Nat} {x5 : Int} {R : Int × xT_} (tx5 : xin x5) (e : c190_9b r9 f x0 x1 x2 x3 x4 x5 T = some R) : xok (f190_9b o9 f x0 x1 x2 x3 x4 x5 M) (fun r => r.1 = R.1 ∧ xCX m M0 r.2 R.2 ∧ xin R.1) := by
  unfold c190_9b at e
  unfold f190_9b
  obtain ⟨v129, q130, e⟩ := xbnd e
  refine xok_eqb (h.gi (by decide) (by decide) q130).1 ?_
  refine xok_ite (fun c131 => ?_) (fun c131 => ?_)
  · rw [if_pos c131] at e
    cases e
    exact ⟨_, rfl, rfl, h, (show xin (0) by decide)⟩
  · rw [if_neg c131] at e
    obtain ⟨v132, q133, e⟩ := xbnd e
    refine xok_eqb (h.gr (by decide) (by decide) q133) ?_
    obtain ⟨v134, q135, e⟩ := xbnd e
    refine xok_eqb (h.ai (by decide) q135).1 ?_
    refine xok_ite (fun c136 => ?_) (fun c136 => ?_)
    · rw [if_pos c136] at e
      exact t190_64 (r9 := r9) (o9 := o9) hS @hr9 h tx5 (h.ai (by decide) q135).2 (show xin (-1) by decide) e
    · rw [if_neg c136] at e
      obtain ⟨v137, q138, e⟩ := xbnd e
      refine xok_eqb (h.gr (by decide) (by decide) q138) ?_
      obtain ⟨v139, q140, e⟩ := xbnd e
      refine xok_eqb (h.ar q140) ?_
      obtain ⟨v141, q142, e⟩ := xbnd e
      refine xok_eqb (h.gr (by decide) (by decide) q142) ?_
      obtain ⟨v143, q144, e⟩ := xbnd e
      refine xok_eqb (h.ar q144) ?_
      obtain ⟨v145, q146, e⟩ := xbnd e
      refine xok_eqb (h.gr (by decide) (by decide) q146) ?_
      obtain ⟨v147, q148, e⟩ := xbnd e
      refine xok_eqb (h.ar q148) ?_
      obtain ⟨_, q154, e⟩ := xbnd e
      obtain ⟨R149, e150, e⟩ := xbnd e
      refine xok_eqb (h.is q154) ?_
      refine xok_call (t85 hS h (h.ai (by decide) q135).2 e150) ?_
      rintro ⟨v_, M151⟩ ⟨hv_, h152, hi153⟩
      cases hv_
      exact t190_64 (r9 := r9) (o9 := o9) hS @hr9 h152 tx5 (h.ai (by decide) q135).2 hi153 e
theorem t190_9 {m f : Nat} {M0 : xj_M} (hS : xHS f)   : ∀ {n : Nat} {M : xj_M} {T : xT_} {x0 : Nat} {x1 : Nat} {x2 : Nat} {x3 : Nat} {x4 : Nat} {x5 : Int} {R : Int × xT_}, xCX m M0 M T → xin x5 → c190_9  f n x0 x1 x2 x3 x4 x5 T = some R → xok (f190_9  f n x0 x1 x2 x3 x4 x5 M) (fun r => r.1 = R.1 ∧ xCX m M0 r.2 R.2 ∧ xin R.1) := by
  intro n
  induction n with
  | zero => intros; rename_i e; cases e
  | succ n ih =>
    intros
    rename_i h i0 e
    exact t190_9b hS  @ih h i0 e
theorem t190 {m f : Nat} {M0 M : xj_M} {T : xT_} (hS : xHS f) (h : xCX m M0 M T) {a0 : Nat} {a1 : Nat} {a2 : Nat} {a3 : Nat} {R : Int × xT_}  (e : c190 f a0 a1 a2 a3 T = some R) : xok (f190 f a0 a1 a2 a3 M) (fun r => r.1 = R.1 ∧ xCX m M0 r.2 R.2 ∧ xin R.1) := by
  unfold c190 at e
  unfold f190
  obtain ⟨v155, q156, e⟩ := xbnd e
  refine xok_eqb (h.gr (by decide) (by decide) q156) ?_
  exact t190_9  hS  h (show xin (0) by decide) e
-- ChangeHouseLaw.predicate
theorem t1004 {m f : Nat} {M0 M : xj_M} {T : xT_} (hS : xHS f) (h : xCX m M0 M T) {a0 : Nat} {a1 : Int} {a2 : Int} {a3 : Nat} {R : Int × xT_} (ta1 : xin a1) (ta2 : xin a2) (e : c1004 f a0 a1 a2 a3 T = some R) : xok (f1004 f a0 a1 a2 a3 M) (fun r => r.1 = R.1 ∧ xCX m M0 r.2 R.2 ∧ xin R.1) := by
  unfold c1004 at e
  unfold f1004
  obtain ⟨_, q106, e⟩ := xbnd e
  obtain ⟨R101, e102, e⟩ := xbnd e
  refine xok_eqb (h.is q106) ?_
  refine xok_call (t175 hS h ta1 ta2 e102) ?_
  rintro ⟨v_, M103⟩ ⟨hv_, h104, hi105⟩
  cases hv_
  dsimp only
  cases g108 : R101.1 with
  | inl k_ =>
    obtain ⟨k2_, e⟩ := chd_l g108 e
    rw [xhd_e (by exact g108) k2_]
    cases e
    exact ⟨_, rfl, rfl, h104, (show xin (1) by decide)⟩
  | inr v107 =>
    rw [chd_r g108] at e
    rw [xhd_r (by exact g108)]
    obtain ⟨T110, q109, e⟩ := xbnd e
    obtain ⟨M111, q112, h113⟩ := h104.sl (xin_N (hi105 _ g108)) q109
    refine xok_eqb q112 ?_
    cases e
    exact ⟨_, rfl, rfl, h113, (show xin (0) by decide)⟩
-- ChangeHouseLaw.edit
theorem t1006 {m f : Nat} {M0 M : xj_M} {T : xT_} (hS : xHS f) (h : xCX m M0 M T) {a0 : Nat} {a1 : Int} {a2 : Int} {a3 : Nat} {R : Int × xT_} (ta1 : xin a1) (ta2 : xin a2) (e : c1006 f a0 a1 a2 a3 T = some R) : xok (f1006 f a0 a1 a2 a3 M) (fun r => r.1 = R.1 ∧ xCX m M0 r.2 R.2 ∧ xin R.1) := by
  unfold c1006 at e
  unfold f1006
  obtain ⟨_, q106, e⟩ := xbnd e
  obtain ⟨R101, e102, e⟩ := xbnd e
  refine xok_eqb (h.is q106) ?_
  refine xok_call (t178 hS h ta1 ta2 e102) ?_
  rintro ⟨v_, M103⟩ ⟨hv_, h104, hi105⟩
  cases hv_
  dsimp only
  cases g108 : R101.1 with
  | inl k_ =>
    obtain ⟨k2_, e⟩ := chd_l g108 e
    rw [xhd_e (by exact g108) k2_]
    cases e
    exact ⟨_, rfl, rfl, h104, (show xin (1) by decide)⟩
  | inr v107 =>
    rw [chd_r g108] at e
    rw [xhd_r (by exact g108)]
    obtain ⟨T110, q109, e⟩ := xbnd e
    obtain ⟨M111, q112, h113⟩ := h104.sl (hi105 _ g108) q109
    refine xok_eqb q112 ?_
    cases e
    exact ⟨_, rfl, rfl, h113, (show xin (0) by decide)⟩
-- ChangeHouse$Formula.<init>
theorem t0_100 {m f : Nat} {M0 M : xj_M} {T : xT_} (hS : xHS f) {r16 : Nat → Nat → Nat → Int → xT_ → Option (xT_)} {o16 : Nat → Nat → Nat → Int → xj_M → Option (xj_M)} (hr16 : ∀ {M : xj_M} {T : xT_} {x0 : Nat} {x1 : Nat} {x2 : Nat} {x3 : Int} {R : xT_}, xCX m M0 M T → xin x3 → r16 x0 x1 x2 x3 T = some R → xok (o16 x0 x1 x2 x3 M) (fun r => xCX m M0 r R)) (h : xCX m M0 M T) {x0 : Nat} {x1 : Nat} {x2 : Nat} {x3 : Int} {R : xT_} (tx3 : xin x3) (e : c0_100 r16 f x0 x1 x2 x3 T = some R) : xok (f0_100 o16 f x0 x1 x2 x3 M) (fun r => xCX m M0 r R) := by
  unfold c0_100 at e
  unfold f0_100
  exact hr16 h (xin_wr _) e
theorem t0_60 {m f : Nat} {M0 M : xj_M} {T : xT_} (hS : xHS f) {r16 : Nat → Nat → Nat → Int → xT_ → Option (xT_)} {o16 : Nat → Nat → Nat → Int → xj_M → Option (xj_M)} (hr16 : ∀ {M : xj_M} {T : xT_} {x0 : Nat} {x1 : Nat} {x2 : Nat} {x3 : Int} {R : xT_}, xCX m M0 M T → xin x3 → r16 x0 x1 x2 x3 T = some R → xok (o16 x0 x1 x2 x3 M) (fun r => xCX m M0 r R)) (h : xCX m M0 M T) {x0 : Nat} {x1 : Nat} {x2 : Nat} {x3 : Int} {R : xT_} (tx3 : xin x3) (e : c0_60 r16 f x0 x1 x2 x3 T = some R) : xok (f0_60 o16 f x0 x1 x2 x3 M) (fun r => xCX m M0 r R) := by
  unfold c0_60 at e
  unfold f0_60
  obtain ⟨v101, q102, e⟩ := xbnd e
  refine xok_eqb (h.al q102).1 ?_
  obtain ⟨v103, q104, e⟩ := xbnd e
  refine xok_eqb (h.al q104).1 ?_
  obtain ⟨_, q110, e⟩ := xbnd e
  obtain ⟨R105, e106, e⟩ := xbnd e
  refine xok_eqb (h.is q110) ?_
  refine xok_call (t1 hS h (xin_of _) (xin_of _) e106) ?_
  intro M107 h108
  exact t0_100 (r16 := r16) (o16 := o16) hS @hr16 h108 tx3 e
theorem t0_16b {m f : Nat} {M0 M : xj_M} {T : xT_} (hS : xHS f) {r16 : Nat → Nat → Nat → Int → xT_ → Option (xT_)} {o16 : Nat → Nat → Nat → Int → xj_M → Option (xj_M)} (hr16 : ∀ {M : xj_M} {T : xT_} {x0 : Nat} {x1 : Nat} {x2 : Nat} {x3 : Int} {R : xT_}, xCX m M0 M T → xin x3 → r16 x0 x1 x2 x3 T = some R → xok (o16 x0 x1 x2 x3 M) (fun r => xCX m M0 r R)) (h : xCX m M0 M T) {x0 : Nat} {x1 : Nat} {x2 : Nat} {x3 : Int} {R : xT_} (tx3 : xin x3) (e : c0_16b r16 f x0 x1 x2 x3 T = some R) : xok (f0_16b o16 f x0 x1 x2 x3 M) (fun r => xCX m M0 r R) := by
  unfold c0_16b at e
  unfold f0_16b
  obtain ⟨v111, q112, e⟩ := xbnd e
  refine xok_eqb (h.ln q112).1 ?_
  refine xok_ite (fun c113 => ?_) (fun c113 => ?_)
  · rw [if_pos c113] at e
    cases e
    exact ⟨_, rfl, h⟩
  · rw [if_neg c113] at e
    obtain ⟨v114, q115, e⟩ := xbnd e
    refine xok_eqb (h.ai (by decide) q115).1 ?_
    refine xok_ite (fun c116 => ?_) (fun c116 => ?_)
    · rw [if_pos c116] at e
      refine xok_ite (fun c117 => ?_) (fun c117 => ?_)
      · rw [if_pos c117] at e
        exact t0_60 (r16 := r16) (o16 := o16) hS @hr16 h tx3 e
      · rw [if_neg c117] at e
        refine xok_ite (fun c118 => ?_) (fun c118 => ?_)
        · rw [if_pos c118] at e
          refine xok_ite (fun c119 => ?_) (fun c119 => ?_)
          · rw [if_pos c119] at e
            exact t0_100 (r16 := r16) (o16 := o16) hS @hr16 h tx3 e
          · rw [if_neg c119] at e
            refine xok_ite (fun c120 => ?_) (fun c120 => ?_)
            · rw [if_pos c120] at e
              exact t0_100 (r16 := r16) (o16 := o16) hS @hr16 h tx3 e
            · rw [if_neg c120] at e
              obtain ⟨T122, q121, e⟩ := xbnd e
              obtain ⟨M123, q124, h125⟩ := h.pb (by decide) (by decide)  q121
              refine xok_eqb q124 ?_
              exact t0_100 (r16 := r16) (o16 := o16) hS @hr16 h125 tx3 e
        · rw [if_neg c118] at e
          exact t0_60 (r16 := r16) (o16 := o16) hS @hr16 h tx3 e
    · rw [if_neg c116] at e
      obtain ⟨v126, q127, e⟩ := xbnd e
      refine xok_eqb (h.al q127).1 ?_
      obtain ⟨_, q133, e⟩ := xbnd e
      obtain ⟨R128, e129, e⟩ := xbnd e
      refine xok_eqb (h.is q133) ?_
      refine xok_call (t2 hS h (xin_wr _) e129) ?_
      intro M130 h131
      exact t0_100 (r16 := r16) (o16 := o16) hS @hr16 h131 tx3 e
theorem t0_16 {m f : Nat} {M0 : xj_M} (hS : xHS f)   : ∀ {n : Nat} {M : xj_M} {T : xT_} {x0 : Nat} {x1 : Nat} {x2 : Nat} {x3 : Int} {R : xT_}, xCX m M0 M T → xin x3 → c0_16  f n x0 x1 x2 x3 T = some R → xok (f0_16  f n x0 x1 x2 x3 M) (fun r => xCX m M0 r R) := by
  intro n
  induction n with
  | zero => intros; rename_i e; cases e
  | succ n ih =>
    intros
    rename_i h i0 e
    exact t0_16b hS  @ih h i0 e
theorem t0 {m f : Nat} {M0 M : xj_M} {T : xT_} (hS : xHS f) (h : xCX m M0 M T) {a0 : Nat} {a1 : Nat} {a2 : Nat} {R : xT_}  (e : c0 f a0 a1 a2 T = some R) : xok (f0 f a0 a1 a2 M) (fun r => xCX m M0 r R) := by
  unfold c0 at e
  unfold f0
  obtain ⟨_, q134, e⟩ := xbnd e
  refine xok_eqb q134 ?_
  obtain ⟨T136, q135, e⟩ := xbnd e
  obtain ⟨M137, q138, h139⟩ := h.pr (by decide) (by decide)  q135
  refine xok_eqb q138 ?_
  obtain ⟨T141, q140, e⟩ := xbnd e
  obtain ⟨M142, q143, h144⟩ := h139.pr (by decide) (by decide)  q140
  refine xok_eqb q143 ?_
  exact t0_16  hS  h144 (show xin (0) by decide) e
-- ChangeHouse$Program.arrange
theorem t24_55 {m f : Nat} {M0 M : xj_M} {T : xT_} (hS : xHS f) {r2 : Nat → Int → xT_ → Option (xT_)} {o2 : Nat → Int → xj_M → Option (xj_M)} {r19 : Nat → Int → Nat → Int → xT_ → Option (xT_)} {o19 : Nat → Int → Nat → Int → xj_M → Option (xj_M)} (hr2 : ∀ {M : xj_M} {T : xT_} {x0 : Nat} {x1 : Int} {R : xT_}, xCX m M0 M T → xin x1 → r2 x0 x1 T = some R → xok (o2 x0 x1 M) (fun r => xCX m M0 r R)) (hr19 : ∀ {M : xj_M} {T : xT_} {x0 : Nat} {x1 : Int} {x2 : Nat} {x3 : Int} {R : xT_}, xCX m M0 M T → xin x1 → xin x3 → r19 x0 x1 x2 x3 T = some R → xok (o19 x0 x1 x2 x3 M) (fun r => xCX m M0 r R)) (h : xCX m M0 M T) {x0 : Nat} {x1 : Int} {x2 : Nat} {x3 : Int} {R : xT_} (tx1 : xin x1) (tx3 : xin x3) (e : c24_55 r2 r19 f x0 x1 x2 x3 T = some R) : xok (f24_55 o2 o19 f x0 x1 x2 x3 M) (fun r => xCX m M0 r R) := by
  unfold c24_55 at e
  unfold f24_55
  exact hr19 h tx1 (xin_wr _) e
theorem t24_19b {m f : Nat} {M0 M : xj_M} {T : xT_} (hS : xHS f) {r2 : Nat → Int → xT_ → Option (xT_)} {o2 : Nat → Int → xj_M → Option (xj_M)} {r19 : Nat → Int → Nat → Int → xT_ → Option (xT_)} {o19 : Nat → Int → Nat → Int → xj_M → Option (xj_M)} (hr2 : ∀ {M : xj_M} {T : xT_} {x0 : Nat} {x1 : Int} {R : xT_}, xCX m M0 M T → xin x1 → r2 x0 x1 T = some R → xok (o2 x0 x1 M) (fun r => xCX m M0 r R)) (hr19 : ∀ {M : xj_M} {T : xT_} {x0 : Nat} {x1 : Int} {x2 : Nat} {x3 : Int} {R : xT_}, xCX m M0 M T → xin x1 → xin x3 → r19 x0 x1 x2 x3 T = some R → xok (o19 x0 x1 x2 x3 M) (fun r => xCX m M0 r R)) (h : xCX m M0 M T) {x0 : Nat} {x1 : Int} {x2 : Nat} {x3 : Int} {R : xT_} (tx1 : xin x1) (tx3 : xin x3) (e : c24_19b r2 r19 f x0 x1 x2 x3 T = some R) : xok (f24_19b o2 o19 f x0 x1 x2 x3 M) (fun r => xCX m M0 r R) := by
  unfold c24_19b at e
  unfold f24_19b
  obtain ⟨v101, q102, e⟩ := xbnd e
  refine xok_eqb (h.gi (by decide) (by decide) q102).1 ?_
  refine xok_ite (fun c103 => ?_) (fun c103 => ?_)
  · rw [if_pos c103] at e
    exact hr2 h (xin_wr _) e
  · rw [if_neg c103] at e
    obtain ⟨_, q109, e⟩ := xbnd e
    obtain ⟨R104, e105, e⟩ := xbnd e
    refine xok_eqb (h.is q109) ?_
    refine xok_call (t90 hS h tx3 e105) ?_
    rintro ⟨v_, M106⟩ ⟨hv_, h107, hi108⟩
    cases hv_
    refine xok_ite (fun c110 => ?_) (fun c110 => ?_)
    · rw [if_pos c110] at e
      exact t24_55 (r2 := r2) (o2 := o2) (r19 := r19) (o19 := o19) hS @hr2 @hr19 h107 tx1 tx3 e
    · rw [if_neg c110] at e
      obtain ⟨v111, q112, e⟩ := xbnd e
      refine xok_eqb (h107.gr (by decide) (by decide) q112) ?_
      obtain ⟨v113, q114, e⟩ := xbnd e
      refine xok_eqb (h107.gi (by decide) (by decide) q114).1 ?_
      obtain ⟨v115, q116, e⟩ := xbnd e
      refine xok_eqb (h107.ai (by decide) q116).1 ?_
      obtain ⟨v117, q118, e⟩ := xbnd e
      refine xok_eqb (h107.gr (by decide) (by decide) q118) ?_
      obtain ⟨v119, q120, e⟩ := xbnd e
      refine xok_eqb (h107.ai (by decide) q120).1 ?_
      obtain ⟨T122, q121, e⟩ := xbnd e
      obtain ⟨M123, q124, h125⟩ := h107.si (xin_of _) q121
      refine xok_eqb q124 ?_
      exact t24_55 (r2 := r2) (o2 := o2) (r19 := r19) (o19 := o19) hS @hr2 @hr19 h125 tx1 tx3 e
theorem t24_19 {m f : Nat} {M0 : xj_M} (hS : xHS f) {r2 : Nat → Int → xT_ → Option (xT_)} {o2 : Nat → Int → xj_M → Option (xj_M)} (hr2 : ∀ {M : xj_M} {T : xT_} {x0 : Nat} {x1 : Int} {R : xT_}, xCX m M0 M T → xin x1 → r2 x0 x1 T = some R → xok (o2 x0 x1 M) (fun r => xCX m M0 r R)) : ∀ {n : Nat} {M : xj_M} {T : xT_} {x0 : Nat} {x1 : Int} {x2 : Nat} {x3 : Int} {R : xT_}, xCX m M0 M T → xin x1 → xin x3 → c24_19 r2 f n x0 x1 x2 x3 T = some R → xok (f24_19 o2 f n x0 x1 x2 x3 M) (fun r => xCX m M0 r R) := by
  intro n
  induction n with
  | zero => intros; rename_i e; cases e
  | succ n ih =>
    intros
    rename_i h i0 i1 e
    exact t24_19b hS @hr2 @ih h i0 i1 e
theorem t24_118 {m f : Nat} {M0 M : xj_M} {T : xT_} (hS : xHS f) {r80 : Nat → Nat → Int → xT_ → Option (xT_)} {o80 : Nat → Nat → Int → xj_M → Option (xj_M)} {r90 : Nat → Nat → Int → Int → xT_ → Option (xT_)} {o90 : Nat → Nat → Int → Int → xj_M → Option (xj_M)} (hr80 : ∀ {M : xj_M} {T : xT_} {x0 : Nat} {x1 : Nat} {x2 : Int} {R : xT_}, xCX m M0 M T → xin x2 → r80 x0 x1 x2 T = some R → xok (o80 x0 x1 x2 M) (fun r => xCX m M0 r R)) (hr90 : ∀ {M : xj_M} {T : xT_} {x0 : Nat} {x1 : Nat} {x2 : Int} {x3 : Int} {R : xT_}, xCX m M0 M T → xin x2 → xin x3 → r90 x0 x1 x2 x3 T = some R → xok (o90 x0 x1 x2 x3 M) (fun r => xCX m M0 r R)) (h : xCX m M0 M T) {x0 : Nat} {x1 : Nat} {x2 : Int} {x3 : Int} {R : xT_} (tx2 : xin x2) (tx3 : xin x3) (e : c24_118 r80 r90 f x0 x1 x2 x3 T = some R) : xok (f24_118 o80 o90 f x0 x1 x2 x3 M) (fun r => xCX m M0 r R) := by
  unfold c24_118 at e
  unfold f24_118
  exact hr90 h tx2 (xin_wr _) e
theorem t24_90b {m f : Nat} {M0 M : xj_M} {T : xT_} (hS : xHS f) {r80 : Nat → Nat → Int → xT_ → Option (xT_)} {o80 : Nat → Nat → Int → xj_M → Option (xj_M)} {r90 : Nat → Nat → Int → Int → xT_ → Option (xT_)} {o90 : Nat → Nat → Int → Int → xj_M → Option (xj_M)} (hr80 : ∀ {M : xj_M} {T : xT_} {x0 : Nat} {x1 : Nat} {x2 : Int} {R : xT_}, xCX m M0 M T → xin x2 → r80 x0 x1 x2 T = some R → xok (o80 x0 x1 x2 M) (fun r => xCX m M0 r R)) (hr90 : ∀ {M : xj_M} {T : xT_} {x0 : Nat} {x1 : Nat} {x2 : Int} {x3 : Int} {R : xT_}, xCX m M0 M T → xin x2 → xin x3 → r90 x0 x1 x2 x3 T = some R → xok (o90 x0 x1 x2 x3 M) (fun r => xCX m M0 r R)) (h : xCX m M0 M T) {x0 : Nat} {x1 : Nat} {x2 : Int} {x3 : Int} {R : xT_} (tx2 : xin x2) (tx3 : xin x3) (e : c24_90b r80 r90 f x0 x1 x2 x3 T = some R) : xok (f24_90b o80 o90 f x0 x1 x2 x3 M) (fun r => xCX m M0 r R) := by
  unfold c24_90b at e
  unfold f24_90b
  obtain ⟨v126, q127, e⟩ := xbnd e
  refine xok_eqb (h.gi (by decide) (by decide) q127).1 ?_
  refine xok_ite (fun c128 => ?_) (fun c128 => ?_)
  · rw [if_pos c128] at e
    exact hr80 h (xin_wr _) e
  · rw [if_neg c128] at e
    obtain ⟨v129, q130, e⟩ := xbnd e
    refine xok_eqb (h.ai (by decide) q130).1 ?_
    refine xok_ite (fun c131 => ?_) (fun c131 => ?_)
    · rw [if_pos c131] at e
      exact t24_118 (r80 := r80) (o80 := o80) (r90 := r90) (o90 := o90) hS @hr80 @hr90 h tx2 tx3 e
    · rw [if_neg c131] at e
      obtain ⟨v132, q133, e⟩ := xbnd e
      refine xok_eqb (h.ai (by decide) q133).1 ?_
      obtain ⟨v134, q135, e⟩ := xbnd e
      refine xok_eqb (h.ai (by decide) q135).1 ?_
      obtain ⟨T137, q136, e⟩ := xbnd e
      obtain ⟨M138, q139, h140⟩ := h.si (xin_of _) q136
      refine xok_eqb q139 ?_
      exact t24_118 (r80 := r80) (o80 := o80) (r90 := r90) (o90 := o90) hS @hr80 @hr90 h140 tx2 tx3 e
theorem t24_90 {m f : Nat} {M0 : xj_M} (hS : xHS f) {r80 : Nat → Nat → Int → xT_ → Option (xT_)} {o80 : Nat → Nat → Int → xj_M → Option (xj_M)} (hr80 : ∀ {M : xj_M} {T : xT_} {x0 : Nat} {x1 : Nat} {x2 : Int} {R : xT_}, xCX m M0 M T → xin x2 → r80 x0 x1 x2 T = some R → xok (o80 x0 x1 x2 M) (fun r => xCX m M0 r R)) : ∀ {n : Nat} {M : xj_M} {T : xT_} {x0 : Nat} {x1 : Nat} {x2 : Int} {x3 : Int} {R : xT_}, xCX m M0 M T → xin x2 → xin x3 → c24_90 r80 f n x0 x1 x2 x3 T = some R → xok (f24_90 o80 f n x0 x1 x2 x3 M) (fun r => xCX m M0 r R) := by
  intro n
  induction n with
  | zero => intros; rename_i e; cases e
  | succ n ih =>
    intros
    rename_i h i0 i1 e
    exact t24_90b hS @hr80 @ih h i0 i1 e
theorem t24_184 {m f : Nat} {M0 M : xj_M} {T : xT_} (hS : xHS f) {r132 : Nat → Nat → Int → xT_ → Option (xT_)} {o132 : Nat → Nat → Int → xj_M → Option (xj_M)} {r151 : Nat → Nat → Int → Int → xT_ → Option (xT_)} {o151 : Nat → Nat → Int → Int → xj_M → Option (xj_M)} (hr132 : ∀ {M : xj_M} {T : xT_} {x0 : Nat} {x1 : Nat} {x2 : Int} {R : xT_}, xCX m M0 M T → xin x2 → r132 x0 x1 x2 T = some R → xok (o132 x0 x1 x2 M) (fun r => xCX m M0 r R)) (hr151 : ∀ {M : xj_M} {T : xT_} {x0 : Nat} {x1 : Nat} {x2 : Int} {x3 : Int} {R : xT_}, xCX m M0 M T → xin x2 → xin x3 → r151 x0 x1 x2 x3 T = some R → xok (o151 x0 x1 x2 x3 M) (fun r => xCX m M0 r R)) (h : xCX m M0 M T) {x0 : Nat} {x1 : Nat} {x2 : Int} {x3 : Int} {R : xT_} (tx2 : xin x2) (tx3 : xin x3) (e : c24_184 r132 r151 f x0 x1 x2 x3 T = some R) : xok (f24_184 o132 o151 f x0 x1 x2 x3 M) (fun r => xCX m M0 r R) := by
  unfold c24_184 at e
  unfold f24_184
  exact hr151 h tx2 (xin_wr _) e
theorem t24_151b {m f : Nat} {M0 M : xj_M} {T : xT_} (hS : xHS f) {r132 : Nat → Nat → Int → xT_ → Option (xT_)} {o132 : Nat → Nat → Int → xj_M → Option (xj_M)} {r151 : Nat → Nat → Int → Int → xT_ → Option (xT_)} {o151 : Nat → Nat → Int → Int → xj_M → Option (xj_M)} (hr132 : ∀ {M : xj_M} {T : xT_} {x0 : Nat} {x1 : Nat} {x2 : Int} {R : xT_}, xCX m M0 M T → xin x2 → r132 x0 x1 x2 T = some R → xok (o132 x0 x1 x2 M) (fun r => xCX m M0 r R)) (hr151 : ∀ {M : xj_M} {T : xT_} {x0 : Nat} {x1 : Nat} {x2 : Int} {x3 : Int} {R : xT_}, xCX m M0 M T → xin x2 → xin x3 → r151 x0 x1 x2 x3 T = some R → xok (o151 x0 x1 x2 x3 M) (fun r => xCX m M0 r R)) (h : xCX m M0 M T) {x0 : Nat} {x1 : Nat} {x2 : Int} {x3 : Int} {R : xT_} (tx2 : xin x2) (tx3 : xin x3) (e : c24_151b r132 r151 f x0 x1 x2 x3 T = some R) : xok (f24_151b o132 o151 f x0 x1 x2 x3 M) (fun r => xCX m M0 r R) := by
  unfold c24_151b at e
  unfold f24_151b
  refine xok_ite (fun c141 => ?_) (fun c141 => ?_)
  · rw [if_pos c141] at e
    exact hr132 h (xin_wr _) e
  · rw [if_neg c141] at e
    obtain ⟨v142, q143, e⟩ := xbnd e
    refine xok_eqb (h.ai (by decide) q143).1 ?_
    refine xok_ite (fun c144 => ?_) (fun c144 => ?_)
    · rw [if_pos c144] at e
      exact t24_184 (r132 := r132) (o132 := o132) (r151 := r151) (o151 := o151) hS @hr132 @hr151 h tx2 tx3 e
    · rw [if_neg c144] at e
      obtain ⟨v145, q146, e⟩ := xbnd e
      refine xok_eqb (h.ai (by decide) q146).1 ?_
      refine xok_ite (fun c147 => ?_) (fun c147 => ?_)
      · rw [if_pos c147] at e
        exact t24_184 (r132 := r132) (o132 := o132) (r151 := r151) (o151 := o151) hS @hr132 @hr151 h tx2 tx3 e
      · rw [if_neg c147] at e
        obtain ⟨v148, q149, e⟩ := xbnd e
        refine xok_eqb (h.gr (by decide) (by decide) q149) ?_
        obtain ⟨T151, q150, e⟩ := xbnd e
        obtain ⟨M152, q153, h154⟩ := h.si tx3 q150
        refine xok_eqb q153 ?_
        exact t24_184 (r132 := r132) (o132 := o132) (r151 := r151) (o151 := o151) hS @hr132 @hr151 h154 tx2 tx3 e
theorem t24_151 {m f : Nat} {M0 : xj_M} (hS : xHS f) {r132 : Nat → Nat → Int → xT_ → Option (xT_)} {o132 : Nat → Nat → Int → xj_M → Option (xj_M)} (hr132 : ∀ {M : xj_M} {T : xT_} {x0 : Nat} {x1 : Nat} {x2 : Int} {R : xT_}, xCX m M0 M T → xin x2 → r132 x0 x1 x2 T = some R → xok (o132 x0 x1 x2 M) (fun r => xCX m M0 r R)) : ∀ {n : Nat} {M : xj_M} {T : xT_} {x0 : Nat} {x1 : Nat} {x2 : Int} {x3 : Int} {R : xT_}, xCX m M0 M T → xin x2 → xin x3 → c24_151 r132 f n x0 x1 x2 x3 T = some R → xok (f24_151 o132 f n x0 x1 x2 x3 M) (fun r => xCX m M0 r R) := by
  intro n
  induction n with
  | zero => intros; rename_i e; cases e
  | succ n ih =>
    intros
    rename_i h i0 i1 e
    exact t24_151b hS @hr132 @ih h i0 i1 e
theorem t24_132b {m f : Nat} {M0 M : xj_M} {T : xT_} (hS : xHS f) {r132 : Nat → Nat → Int → xT_ → Option (xT_)} {o132 : Nat → Nat → Int → xj_M → Option (xj_M)} (hr132 : ∀ {M : xj_M} {T : xT_} {x0 : Nat} {x1 : Nat} {x2 : Int} {R : xT_}, xCX m M0 M T → xin x2 → r132 x0 x1 x2 T = some R → xok (o132 x0 x1 x2 M) (fun r => xCX m M0 r R)) (h : xCX m M0 M T) {x0 : Nat} {x1 : Nat} {x2 : Int} {R : xT_} (tx2 : xin x2) (e : c24_132b r132 f x0 x1 x2 T = some R) : xok (f24_132b o132 f x0 x1 x2 M) (fun r => xCX m M0 r R) := by
  unfold c24_132b at e
  unfold f24_132b
  obtain ⟨v155, q156, e⟩ := xbnd e
  refine xok_eqb (h.gi (by decide) (by decide) q156).1 ?_
  refine xok_ite (fun c157 => ?_) (fun c157 => ?_)
  · rw [if_pos c157] at e
    obtain ⟨_, q163, e⟩ := xbnd e
    obtain ⟨R158, e159, e⟩ := xbnd e
    refine xok_eqb (h.is q163) ?_
    refine xok_call (t25 hS h  e159) ?_
    intro M160 h161
    cases e
    exact ⟨_, rfl, h161⟩
  · rw [if_neg c157] at e
    obtain ⟨v164, q165, e⟩ := xbnd e
    refine xok_eqb (h.gr (by decide) (by decide) q165) ?_
    obtain ⟨T167, q166, e⟩ := xbnd e
    obtain ⟨M168, q169, h170⟩ := h.si tx2 q166
    refine xok_eqb q169 ?_
    exact t24_151 (r132 := r132) (o132 := o132) hS @hr132 h170 tx2 (xin_wr _) e
theorem t24_132 {m f : Nat} {M0 : xj_M} (hS : xHS f)   : ∀ {n : Nat} {M : xj_M} {T : xT_} {x0 : Nat} {x1 : Nat} {x2 : Int} {R : xT_}, xCX m M0 M T → xin x2 → c24_132  f n x0 x1 x2 T = some R → xok (f24_132  f n x0 x1 x2 M) (fun r => xCX m M0 r R) := by
  intro n
  induction n with
  | zero => intros; rename_i e; cases e
  | succ n ih =>
    intros
    rename_i h i0 e
    exact t24_132b hS  @ih h i0 e
theorem t24_80b {m f : Nat} {M0 M : xj_M} {T : xT_} (hS : xHS f) {r80 : Nat → Nat → Int → xT_ → Option (xT_)} {o80 : Nat → Nat → Int → xj_M → Option (xj_M)} (hr80 : ∀ {M : xj_M} {T : xT_} {x0 : Nat} {x1 : Nat} {x2 : Int} {R : xT_}, xCX m M0 M T → xin x2 → r80 x0 x1 x2 T = some R → xok (o80 x0 x1 x2 M) (fun r => xCX m M0 r R)) (h : xCX m M0 M T) {x0 : Nat} {x1 : Nat} {x2 : Int} {R : xT_} (tx2 : xin x2) (e : c24_80b r80 f x0 x1 x2 T = some R) : xok (f24_80b o80 f x0 x1 x2 M) (fun r => xCX m M0 r R) := by
  unfold c24_80b at e
  unfold f24_80b
  obtain ⟨v171, q172, e⟩ := xbnd e
  refine xok_eqb (h.gi (by decide) (by decide) q172).1 ?_
  refine xok_ite (fun c173 => ?_) (fun c173 => ?_)
  · rw [if_pos c173] at e
    exact t24_132  hS  h (show xin (0) by decide) e
  · rw [if_neg c173] at e
    exact t24_90 (r80 := r80) (o80 := o80) hS @hr80 h tx2 (show xin (0) by decide) e
theorem t24_80 {m f : Nat} {M0 : xj_M} (hS : xHS f)   : ∀ {n : Nat} {M : xj_M} {T : xT_} {x0 : Nat} {x1 : Nat} {x2 : Int} {R : xT_}, xCX m M0 M T → xin x2 → c24_80  f n x0 x1 x2 T = some R → xok (f24_80  f n x0 x1 x2 M) (fun r => xCX m M0 r R) := by
  intro n
  induction n with
  | zero => intros; rename_i e; cases e
  | succ n ih =>
    intros
    rename_i h i0 e
    exact t24_80b hS  @ih h i0 e
theorem t24_2b {m f : Nat} {M0 M : xj_M} {T : xT_} (hS : xHS f) {r2 : Nat → Int → xT_ → Option (xT_)} {o2 : Nat → Int → xj_M → Option (xj_M)} (hr2 : ∀ {M : xj_M} {T : xT_} {x0 : Nat} {x1 : Int} {R : xT_}, xCX m M0 M T → xin x1 → r2 x0 x1 T = some R → xok (o2 x0 x1 M) (fun r => xCX m M0 r R)) (h : xCX m M0 M T) {x0 : Nat} {x1 : Int} {R : xT_} (tx1 : xin x1) (e : c24_2b r2 f x0 x1 T = some R) : xok (f24_2b o2 f x0 x1 M) (fun r => xCX m M0 r R) := by
  unfold c24_2b at e
  unfold f24_2b
  obtain ⟨v174, q175, e⟩ := xbnd e
  refine xok_eqb (h.gi (by decide) (by decide) q175).1 ?_
  refine xok_ite (fun c176 => ?_) (fun c176 => ?_)
  · rw [if_pos c176] at e
    obtain ⟨v177, q178, e⟩ := xbnd e
    refine xok_eqb (h.gr (by decide) (by decide) q178) ?_
    obtain ⟨p179, q180, e⟩ := xbnd e
    obtain ⟨M181, q182, h183⟩ := h.cl q180
    refine xok_eqb q182 ?_
    dsimp only
    obtain ⟨_, q184, e⟩ := xbnd e
    refine xok_eqb (h183.ca q184) ?_
    exact t24_80  hS  h183 (show xin (0) by decide) e
  · rw [if_neg c176] at e
    obtain ⟨v185, q186, e⟩ := xbnd e
    refine xok_eqb (h.gr (by decide) (by decide) q186) ?_
    obtain ⟨v187, q188, e⟩ := xbnd e
    refine xok_eqb (h.ar q188) ?_
    exact t24_19 (r2 := r2) (o2 := o2) hS @hr2 h tx1 (show xin (0) by decide) e
theorem t24_2 {m f : Nat} {M0 : xj_M} (hS : xHS f)   : ∀ {n : Nat} {M : xj_M} {T : xT_} {x0 : Nat} {x1 : Int} {R : xT_}, xCX m M0 M T → xin x1 → c24_2  f n x0 x1 T = some R → xok (f24_2  f n x0 x1 M) (fun r => xCX m M0 r R) := by
  intro n
  induction n with
  | zero => intros; rename_i e; cases e
  | succ n ih =>
    intros
    rename_i h i0 e
    exact t24_2b hS  @ih h i0 e
theorem t24 {m f : Nat} {M0 M : xj_M} {T : xT_} (hS : xHS f) (h : xCX m M0 M T) {a0 : Nat} {R : xT_}  (e : c24 f a0 T = some R) : xok (f24 f a0 M) (fun r => xCX m M0 r R) := by
  unfold c24 at e
  unfold f24
  exact t24_2  hS  h (show xin (0) by decide) e
-- ChangeHouse$Reader.readChanges
theorem t32_141 {m f : Nat} {M0 M : xj_M} {T : xT_} (hS : xHS f) {r8 : Nat → Int → xT_ → Option ((Nat ⊕ Unit) × xT_)} {o8 : Nat → Int → xj_M → Option ((Nat ⊕ Unit) × xj_M)} (hr8 : ∀ {M : xj_M} {T : xT_} {x0 : Nat} {x2 : Int} {R : (Nat ⊕ Unit) × xT_}, xCX m M0 M T → xin x2 → r8 x0 x2 T = some R → xok (o8 x0 x2 M) (fun r => r.1 = R.1 ∧ xCX m M0 r.2 R.2)) (h : xCX m M0 M T) {x0 : Nat} {x2 : Int} {x3 : Int} {x4 : Int} {x5 : Int} {x6 : Int} {R : (Nat ⊕ Unit) × xT_} (tx2 : xin x2) (tx3 : xin x3) (tx4 : xin x4) (tx5 : xin x5) (tx6 : xin x6) (e : c32_141 r8 f x0 x2 x3 x4 x5 x6 T = some R) : xok (f32_141 o8 f x0 x2 x3 x4 x5 x6 M) (fun r => r.1 = R.1 ∧ xCX m M0 r.2 R.2) := by
  unfold c32_141 at e
  unfold f32_141
  obtain ⟨_, q106, e⟩ := xbnd e
  obtain ⟨R101, e102, e⟩ := xbnd e
  refine xok_eqb (h.is q106) ?_
  refine xok_call (t38 hS h (show xin (41) by decide) e102) ?_
  rintro ⟨v_, M103⟩ ⟨hv_, h104⟩
  cases hv_
  dsimp only
  cases g108 : R101.1 with
  | inl k_ =>
    rw [cth_l g108] at e; cases e
    rw [xth_l (by exact g108)]
    exact ⟨_, rfl, rfl, h104⟩
  | inr v107 =>
    rw [cth_r g108] at e
    rw [xth_r (by exact g108)]
    obtain ⟨_, q114, e⟩ := xbnd e
    obtain ⟨R109, e110, e⟩ := xbnd e
    refine xok_eqb (h104.is q114) ?_
    refine xok_call (t38 hS h104 (show xin (46) by decide) e110) ?_
    rintro ⟨v_, M111⟩ ⟨hv_, h112⟩
    cases hv_
    dsimp only
    cases g116 : R109.1 with
    | inl k_ =>
      rw [cth_l g116] at e; cases e
      rw [xth_l (by exact g116)]
      exact ⟨_, rfl, rfl, h112⟩
    | inr v115 =>
      rw [cth_r g116] at e
      rw [xth_r (by exact g116)]
      obtain ⟨_, q122, e⟩ := xbnd e
      obtain ⟨R117, e118, e⟩ := xbnd e
      refine xok_eqb (h112.is q122) ?_
      refine xok_call (t40 hS h112 tx3 tx5 tx4 tx6 e118) ?_
      intro M119 h120
      exact hr8 h120 (xin_wr _) e
theorem t32_110b {m f : Nat} {M0 M : xj_M} {T : xT_} (hS : xHS f) {r8 : Nat → Int → xT_ → Option ((Nat ⊕ Unit) × xT_)} {o8 : Nat → Int → xj_M → Option ((Nat ⊕ Unit) × xj_M)} {r110 : Nat → Int → Int → Int → Int → Int → xT_ → Option ((Nat ⊕ Unit) × xT_)} {o110 : Nat → Int → Int → Int → Int → Int → xj_M → Option ((Nat ⊕ Unit) × xj_M)} (hr8 : ∀ {M : xj_M} {T : xT_} {x0 : Nat} {x2 : Int} {R : (Nat ⊕ Unit) × xT_}, xCX m M0 M T → xin x2 → r8 x0 x2 T = some R → xok (o8 x0 x2 M) (fun r => r.1 = R.1 ∧ xCX m M0 r.2 R.2)) (hr110 : ∀ {M : xj_M} {T : xT_} {x0 : Nat} {x2 : Int} {x3 : Int} {x4 : Int} {x5 : Int} {x6 : Int} {R : (Nat ⊕ Unit) × xT_}, xCX m M0 M T → xin x2 → xin x3 → xin x4 → xin x5 → xin x6 → r110 x0 x2 x3 x4 x5 x6 T = some R → xok (o110 x0 x2 x3 x4 x5 x6 M) (fun r => r.1 = R.1 ∧ xCX m M0 r.2 R.2)) (h : xCX m M0 M T) {x0 : Nat} {x2 : Int} {x3 : Int} {x4 : Int} {x5 : Int} {x6 : Int} {R : (Nat ⊕ Unit) × xT_} (tx2 : xin x2) (tx3 : xin x3) (tx4 : xin x4) (tx5 : xin x5) (tx6 : xin x6) (e : c32_110b r8 r110 f x0 x2 x3 x4 x5 x6 T = some R) : xok (f32_110b o8 o110 f x0 x2 x3 x4 x5 x6 M) (fun r => r.1 = R.1 ∧ xCX m M0 r.2 R.2) := by
  unfold c32_110b at e
  unfold f32_110b
  obtain ⟨v123, q124, e⟩ := xbnd e
  refine xok_eqb (h.gr (by decide) (by decide) q124) ?_
  obtain ⟨_, q130, e⟩ := xbnd e
  obtain ⟨R125, e126, e⟩ := xbnd e
  refine xok_eqb (h.is q130) ?_
  refine xok_call (t51 hS h  e126) ?_
  rintro ⟨v_, M127⟩ ⟨hv_, h128, hi129⟩
  cases hv_
  dsimp only
  cases g132 : R125.1 with
  | inl k_ =>
    rw [cth_l g132] at e; cases e
    rw [xth_l (by exact g132)]
    exact ⟨_, rfl, rfl, h128⟩
  | inr v131 =>
    rw [cth_r g132] at e
    rw [xth_r (by exact g132)]
    obtain ⟨T134, q133, e⟩ := xbnd e
    obtain ⟨M135, q136, h137⟩ := h128.sl (hi129 _ g132) q133
    refine xok_eqb q136 ?_
    refine xok_ite (fun c138 => ?_) (fun c138 => ?_)
    · rw [if_pos c138] at e
      exact t32_141 (r8 := r8) (o8 := o8) hS @hr8 h137 tx2 tx3 tx4 tx5 (xin_wr _) e
    · rw [if_neg c138] at e
      obtain ⟨_, q144, e⟩ := xbnd e
      obtain ⟨R139, e140, e⟩ := xbnd e
      refine xok_eqb (h137.is q144) ?_
      refine xok_call (t39 hS h137  e140) ?_
      rintro ⟨v_, M141⟩ ⟨hv_, h142, hi143⟩
      cases hv_
      refine xok_ite (fun c145 => ?_) (fun c145 => ?_)
      · rw [if_pos c145] at e
        exact hr110 h142 tx2 tx3 tx4 tx5 (xin_wr _) e
      · rw [if_neg c145] at e
        exact t32_141 (r8 := r8) (o8 := o8) hS @hr8 h142 tx2 tx3 tx4 tx5 (xin_wr _) e
theorem t32_110 {m f : Nat} {M0 : xj_M} (hS : xHS f) {r8 : Nat → Int → xT_ → Option ((Nat ⊕ Unit) × xT_)} {o8 : Nat → Int → xj_M → Option ((Nat ⊕ Unit) × xj_M)} (hr8 : ∀ {M : xj_M} {T : xT_} {x0 : Nat} {x2 : Int} {R : (Nat ⊕ Unit) × xT_}, xCX m M0 M T → xin x2 → r8 x0 x2 T = some R → xok (o8 x0 x2 M) (fun r => r.1 = R.1 ∧ xCX m M0 r.2 R.2)) : ∀ {n : Nat} {M : xj_M} {T : xT_} {x0 : Nat} {x2 : Int} {x3 : Int} {x4 : Int} {x5 : Int} {x6 : Int} {R : (Nat ⊕ Unit) × xT_}, xCX m M0 M T → xin x2 → xin x3 → xin x4 → xin x5 → xin x6 → c32_110 r8 f n x0 x2 x3 x4 x5 x6 T = some R → xok (f32_110 o8 f n x0 x2 x3 x4 x5 x6 M) (fun r => r.1 = R.1 ∧ xCX m M0 r.2 R.2) := by
  intro n
  induction n with
  | zero => intros; rename_i e; cases e
  | succ n ih =>
    intros
    rename_i h i0 i1 i2 i3 i4 e
    exact t32_110b hS @hr8 @ih h i0 i1 i2 i3 i4 e
theorem t32_71 {m f : Nat} {M0 M : xj_M} {T : xT_} (hS : xHS f) {r8 : Nat → Int → xT_ → Option ((Nat ⊕ Unit) × xT_)} {o8 : Nat → Int → xj_M → Option ((Nat ⊕ Unit) × xj_M)} (hr8 : ∀ {M : xj_M} {T : xT_} {x0 : Nat} {x2 : Int} {R : (Nat ⊕ Unit) × xT_}, xCX m M0 M T → xin x2 → r8 x0 x2 T = some R → xok (o8 x0 x2 M) (fun r => r.1 = R.1 ∧ xCX m M0 r.2 R.2)) (h : xCX m M0 M T) {x0 : Nat} {x2 : Int} {x3 : Int} {R : (Nat ⊕ Unit) × xT_} (tx2 : xin x2) (tx3 : xin x3) (e : c32_71 r8 f x0 x2 x3 T = some R) : xok (f32_71 o8 f x0 x2 x3 M) (fun r => r.1 = R.1 ∧ xCX m M0 r.2 R.2) := by
  unfold c32_71 at e
  unfold f32_71
  obtain ⟨_, q151, e⟩ := xbnd e
  obtain ⟨R146, e147, e⟩ := xbnd e
  refine xok_eqb (h.is q151) ?_
  refine xok_call (t37 hS h  e147) ?_
  intro M148 h149
  obtain ⟨v152, q153, e⟩ := xbnd e
  refine xok_eqb (h149.gr (by decide) (by decide) q153) ?_
  obtain ⟨v154, q155, e⟩ := xbnd e
  refine xok_eqb (h149.gr (by decide) (by decide) q155) ?_
  obtain ⟨v156, q157, e⟩ := xbnd e
  refine xok_eqb (h149.gi (by decide) (by decide) q157).1 ?_
  obtain ⟨v158, q159, e⟩ := xbnd e
  refine xok_eqb (h149.ai (by decide) q159).1 ?_
  obtain ⟨_, q165, e⟩ := xbnd e
  obtain ⟨R160, e161, e⟩ := xbnd e
  refine xok_eqb (h149.is q165) ?_
  refine xok_call (t47 hS h149  e161) ?_
  rintro ⟨v_, M162⟩ ⟨hv_, h163, hi164⟩
  cases hv_
  dsimp only
  cases g167 : R160.1 with
  | inl k_ =>
    rw [cth_l g167] at e; cases e
    rw [xth_l (by exact g167)]
    exact ⟨_, rfl, rfl, h163⟩
  | inr v166 =>
    rw [cth_r g167] at e
    rw [xth_r (by exact g167)]
    obtain ⟨_, q173, e⟩ := xbnd e
    obtain ⟨R168, e169, e⟩ := xbnd e
    refine xok_eqb (h163.is q173) ?_
    refine xok_call (t48 hS h163 (hi164 _ g167) (h149.ai (by decide) q159).2 e169) ?_
    rintro ⟨v_, M170⟩ ⟨hv_, h171, hi172⟩
    cases hv_
    dsimp only
    cases g175 : R168.1 with
    | inl k_ =>
      rw [cth_l g175] at e; cases e
      rw [xth_l (by exact g175)]
      exact ⟨_, rfl, rfl, h171⟩
    | inr v174 =>
      rw [cth_r g175] at e
      rw [xth_r (by exact g175)]
      obtain ⟨_, q181, e⟩ := xbnd e
      obtain ⟨R176, e177, e⟩ := xbnd e
      refine xok_eqb (h171.is q181) ?_
      refine xok_call (t38 hS h171 (show xin (40) by decide) e177) ?_
      rintro ⟨v_, M178⟩ ⟨hv_, h179⟩
      cases hv_
      dsimp only
      cases g183 : R176.1 with
      | inl k_ =>
        rw [cth_l g183] at e; cases e
        rw [xth_l (by exact g183)]
        exact ⟨_, rfl, rfl, h179⟩
      | inr v182 =>
        rw [cth_r g183] at e
        rw [xth_r (by exact g183)]
        exact t32_110 (r8 := r8) (o8 := o8) hS @hr8 h179 tx2 tx3 (h149.ai (by decide) q159).2 (hi172 _ g175) (show xin (0) by decide) e
theorem t32_170 {m f : Nat} {M0 M : xj_M} {T : xT_} (hS : xHS f)   (h : xCX m M0 M T)  {R : (Nat ⊕ Unit) × xT_}  (e : c32_170  f  T = some R) : xok (f32_170  f  M) (fun r => r.1 = R.1 ∧ xCX m M0 r.2 R.2) := by
  unfold c32_170 at e
  unfold f32_170
  cases e
  exact ⟨_, rfl, rfl, h⟩
theorem t32_8b {m f : Nat} {M0 M : xj_M} {T : xT_} (hS : xHS f) {r8 : Nat → Int → xT_ → Option ((Nat ⊕ Unit) × xT_)} {o8 : Nat → Int → xj_M → Option ((Nat ⊕ Unit) × xj_M)} (hr8 : ∀ {M : xj_M} {T : xT_} {x0 : Nat} {x2 : Int} {R : (Nat ⊕ Unit) × xT_}, xCX m M0 M T → xin x2 → r8 x0 x2 T = some R → xok (o8 x0 x2 M) (fun r => r.1 = R.1 ∧ xCX m M0 r.2 R.2)) (h : xCX m M0 M T) {x0 : Nat} {x2 : Int} {R : (Nat ⊕ Unit) × xT_} (tx2 : xin x2) (e : c32_8b r8 f x0 x2 T = some R) : xok (f32_8b o8 f x0 x2 M) (fun r => r.1 = R.1 ∧ xCX m M0 r.2 R.2) := by
  unfold c32_8b at e
  unfold f32_8b
  refine xok_ite (fun c184 => ?_) (fun c184 => ?_)
  · rw [if_pos c184] at e
    exact t32_170  hS  h  e
  · rw [if_neg c184] at e
    obtain ⟨v185, q186, e⟩ := xbnd e
    refine xok_eqb (h.gr (by decide) (by decide) q186) ?_
    obtain ⟨v187, q188, e⟩ := xbnd e
    refine xok_eqb (h.gr (by decide) (by decide) q188) ?_
    obtain ⟨v189, q190, e⟩ := xbnd e
    refine xok_eqb (h.gi (by decide) (by decide) q190).1 ?_
    obtain ⟨v191, q192, e⟩ := xbnd e
    refine xok_eqb (h.ai (by decide) q192).1 ?_
    refine xok_ite (fun c193 => ?_) (fun c193 => ?_)
    · rw [if_pos c193] at e
      exact t32_170  hS  h  e
    · rw [if_neg c193] at e
      obtain ⟨v194, q195, e⟩ := xbnd e
      refine xok_eqb (h.gr (by decide) (by decide) q195) ?_
      obtain ⟨v196, q197, e⟩ := xbnd e
      refine xok_eqb (h.gr (by decide) (by decide) q197) ?_
      obtain ⟨v198, q199, e⟩ := xbnd e
      refine xok_eqb (h.gi (by decide) (by decide) q199).1 ?_
      obtain ⟨v200, q201, e⟩ := xbnd e
      refine xok_eqb (h.ai (by decide) q201).1 ?_
      refine xok_ite (fun c202 => ?_) (fun c202 => ?_)
      · rw [if_pos c202] at e
        exact t32_71 (r8 := r8) (o8 := o8) hS @hr8 h tx2 (h.ai (by decide) q201).2 e
      · rw [if_neg c202] at e
        refine xok_ite (fun c203 => ?_) (fun c203 => ?_)
        · rw [if_pos c203] at e
          exact t32_71 (r8 := r8) (o8 := o8) hS @hr8 h tx2 (h.ai (by decide) q201).2 e
        · rw [if_neg c203] at e
          obtain ⟨v204, q205, e⟩ := xbnd e
          refine xok_eqb (h.gr (by decide) (by decide) q205) ?_
          obtain ⟨v206, q207, e⟩ := xbnd e
          refine xok_eqb (h.gr (by decide) (by decide) q207) ?_
          obtain ⟨v208, q209, e⟩ := xbnd e
          refine xok_eqb (h.gi (by decide) (by decide) q209).1 ?_
          obtain ⟨v210, q211, e⟩ := xbnd e
          refine xok_eqb (h.ai (by decide) q211).1 ?_
          obtain ⟨_, q217, e⟩ := xbnd e
          obtain ⟨R212, e213, e⟩ := xbnd e
          refine xok_eqb (h.is q217) ?_
          refine xok_call (t36 hS h (h.ai (by decide) q211).2 e213) ?_
          rintro ⟨v_, M214⟩ ⟨hv_, h215⟩
          cases hv_
          dsimp only
          cases g219 : R212.1 with
          | inl k_ =>
            rw [cth_l g219] at e; cases e
            rw [xth_l (by exact g219)]
            exact ⟨_, rfl, rfl, h215⟩
          | inr v218 =>
            rw [cth_r g219] at e
            rw [xth_r (by exact g219)]
            exact t32_71 (r8 := r8) (o8 := o8) hS @hr8 h215 tx2 (h.ai (by decide) q201).2 e
theorem t32_8 {m f : Nat} {M0 : xj_M} (hS : xHS f)   : ∀ {n : Nat} {M : xj_M} {T : xT_} {x0 : Nat} {x2 : Int} {R : (Nat ⊕ Unit) × xT_}, xCX m M0 M T → xin x2 → c32_8  f n x0 x2 T = some R → xok (f32_8  f n x0 x2 M) (fun r => r.1 = R.1 ∧ xCX m M0 r.2 R.2) := by
  intro n
  induction n with
  | zero => intros; rename_i e; cases e
  | succ n ih =>
    intros
    rename_i h i0 e
    exact t32_8b hS  @ih h i0 e
theorem t32 {m f : Nat} {M0 M : xj_M} {T : xT_} (hS : xHS f) (h : xCX m M0 M T) {a0 : Nat} {a1 : Nat} {R : (Nat ⊕ Unit) × xT_}  (e : c32 f a0 a1 T = some R) : xok (f32 f a0 a1 M) (fun r => r.1 = R.1 ∧ xCX m M0 r.2 R.2) := by
  unfold c32 at e
  unfold f32
  obtain ⟨_, q225, e⟩ := xbnd e
  obtain ⟨R220, e221, e⟩ := xbnd e
  refine xok_eqb (h.is q225) ?_
  refine xok_call (t34 hS h (show xin (0) by decide) e221) ?_
  intro M222 h223
  exact t32_8  hS  h223 (show xin (0) by decide) e
-- ChangeHouse$Reader.readInput
theorem t41_72 {m f : Nat} {M0 M : xj_M} {T : xT_} (hS : xHS f)   (h : xCX m M0 M T) {x0 : Nat} {x1 : Int} {x2 : Int} {x3 : Int} {x4 : Int} {R : (Nat ⊕ Unit) × xT_} (tx1 : xin x1) (tx2 : xin x2) (tx3 : xin x3) (tx4 : xin x4) (e : c41_72  f x0 x1 x2 x3 x4 T = some R) : xok (f41_72  f x0 x1 x2 x3 x4 M) (fun r => r.1 = R.1 ∧ xCX m M0 r.2 R.2) := by
  unfold c41_72 at e
  unfold f41_72
  obtain ⟨_, q106, e⟩ := xbnd e
  obtain ⟨R101, e102, e⟩ := xbnd e
  refine xok_eqb (h.is q106) ?_
  refine xok_call (t38 hS h (show xin (46) by decide) e102) ?_
  rintro ⟨v_, M103⟩ ⟨hv_, h104⟩
  cases hv_
  dsimp only
  cases g108 : R101.1 with
  | inl k_ =>
    rw [cth_l g108] at e; cases e
    rw [xth_l (by exact g108)]
    exact ⟨_, rfl, rfl, h104⟩
  | inr v107 =>
    rw [cth_r g108] at e
    rw [xth_r (by exact g108)]
    obtain ⟨_, q114, e⟩ := xbnd e
    obtain ⟨R109, e110, e⟩ := xbnd e
    refine xok_eqb (h104.is q114) ?_
    refine xok_call (t40 hS h104 (show xin (6) by decide) tx2 tx1 tx3 e110) ?_
    intro M111 h112
    obtain ⟨v115, q116, e⟩ := xbnd e
    refine xok_eqb (h112.gr (by decide) (by decide) q116) ?_
    obtain ⟨v117, q118, e⟩ := xbnd e
    refine xok_eqb (h112.gr (by decide) (by decide) q118) ?_
    obtain ⟨T120, q119, e⟩ := xbnd e
    obtain ⟨M121, q122, h123⟩ := h112.sb  q119
    refine xok_eqb q122 ?_
    obtain ⟨v124, q125, e⟩ := xbnd e
    refine xok_eqb (h123.gr (by decide) (by decide) q125) ?_
    obtain ⟨v126, q127, e⟩ := xbnd e
    refine xok_eqb (h123.gr (by decide) (by decide) q127) ?_
    obtain ⟨T129, q128, e⟩ := xbnd e
    obtain ⟨M130, q131, h132⟩ := h123.si tx4 q128
    refine xok_eqb q131 ?_
    obtain ⟨v133, q134, e⟩ := xbnd e
    refine xok_eqb (h132.gr (by decide) (by decide) q134) ?_
    obtain ⟨_, q140, e⟩ := xbnd e
    obtain ⟨R135, e136, e⟩ := xbnd e
    refine xok_eqb (h132.is q140) ?_
    refine xok_call (t23 hS h132 tx2 tx3 e136) ?_
    intro M137 h138
    cases e
    exact ⟨_, rfl, rfl, h138⟩
theorem t41 {m f : Nat} {M0 M : xj_M} {T : xT_} (hS : xHS f) (h : xCX m M0 M T) {a0 : Nat} {R : (Nat ⊕ Unit) × xT_}  (e : c41 f a0 T = some R) : xok (f41 f a0 M) (fun r => r.1 = R.1 ∧ xCX m M0 r.2 R.2) := by
  unfold c41 at e
  unfold f41
  obtain ⟨_, q146, e⟩ := xbnd e
  obtain ⟨R141, e142, e⟩ := xbnd e
  refine xok_eqb (h.is q146) ?_
  refine xok_call (t37 hS h  e142) ?_
  intro M143 h144
  obtain ⟨v147, q148, e⟩ := xbnd e
  refine xok_eqb (h144.gr (by decide) (by decide) q148) ?_
  obtain ⟨v149, q150, e⟩ := xbnd e
  refine xok_eqb (h144.gr (by decide) (by decide) q150) ?_
  obtain ⟨v151, q152, e⟩ := xbnd e
  refine xok_eqb (h144.gi (by decide) (by decide) q152).1 ?_
  obtain ⟨v153, q154, e⟩ := xbnd e
  refine xok_eqb (h144.ai (by decide) q154).1 ?_
  obtain ⟨_, q160, e⟩ := xbnd e
  obtain ⟨R155, e156, e⟩ := xbnd e
  refine xok_eqb (h144.is q160) ?_
  refine xok_call (t47 hS h144  e156) ?_
  rintro ⟨v_, M157⟩ ⟨hv_, h158, hi159⟩
  cases hv_
  dsimp only
  cases g162 : R155.1 with
  | inl k_ =>
    rw [cth_l g162] at e; cases e
    rw [xth_l (by exact g162)]
    exact ⟨_, rfl, rfl, h158⟩
  | inr v161 =>
    rw [cth_r g162] at e
    rw [xth_r (by exact g162)]
    obtain ⟨_, q168, e⟩ := xbnd e
    obtain ⟨R163, e164, e⟩ := xbnd e
    refine xok_eqb (h158.is q168) ?_
    refine xok_call (t48 hS h158 (hi159 _ g162) (h144.ai (by decide) q154).2 e164) ?_
    rintro ⟨v_, M165⟩ ⟨hv_, h166, hi167⟩
    cases hv_
    dsimp only
    cases g170 : R163.1 with
    | inl k_ =>
      rw [cth_l g170] at e; cases e
      rw [xth_l (by exact g170)]
      exact ⟨_, rfl, rfl, h166⟩
    | inr v169 =>
      rw [cth_r g170] at e
      rw [xth_r (by exact g170)]
      obtain ⟨_, q176, e⟩ := xbnd e
      obtain ⟨R171, e172, e⟩ := xbnd e
      refine xok_eqb (h166.is q176) ?_
      refine xok_call (t38 hS h166 (show xin (47) by decide) e172) ?_
      rintro ⟨v_, M173⟩ ⟨hv_, h174⟩
      cases hv_
      dsimp only
      cases g178 : R171.1 with
      | inl k_ =>
        rw [cth_l g178] at e; cases e
        rw [xth_l (by exact g178)]
        exact ⟨_, rfl, rfl, h174⟩
      | inr v177 =>
        rw [cth_r g178] at e
        rw [xth_r (by exact g178)]
        obtain ⟨_, q184, e⟩ := xbnd e
        obtain ⟨R179, e180, e⟩ := xbnd e
        refine xok_eqb (h174.is q184) ?_
        refine xok_call (t50 hS h174 (show xin (4) by decide) e180) ?_
        rintro ⟨v_, M181⟩ ⟨hv_, h182, hi183⟩
        cases hv_
        dsimp only
        cases g186 : R179.1 with
        | inl k_ =>
          rw [cth_l g186] at e; cases e
          rw [xth_l (by exact g186)]
          exact ⟨_, rfl, rfl, h182⟩
        | inr v185 =>
          rw [cth_r g186] at e
          rw [xth_r (by exact g186)]
          obtain ⟨v187, q188, e⟩ := xbnd e
          refine xok_eqb (h182.gr (by decide) (by decide) q188) ?_
          obtain ⟨v189, q190, e⟩ := xbnd e
          refine xok_eqb (h182.gr (by decide) (by decide) q190) ?_
          obtain ⟨v191, q192, e⟩ := xbnd e
          refine xok_eqb (h182.gi (by decide) (by decide) q192).1 ?_
          obtain ⟨v193, q194, e⟩ := xbnd e
          refine xok_eqb (h182.ai (by decide) q194).1 ?_
          refine xok_ite (fun c195 => ?_) (fun c195 => ?_)
          · rw [if_pos c195] at e
            exact t41_72  hS  h182 (h144.ai (by decide) q154).2 (hi167 _ g170) (hi183 _ g186) (show xin (0) by decide) e
          · rw [if_neg c195] at e
            obtain ⟨_, q201, e⟩ := xbnd e
            obtain ⟨R196, e197, e⟩ := xbnd e
            refine xok_eqb (h182.is q201) ?_
            refine xok_call (t37 hS h182  e197) ?_
            intro M198 h199
            obtain ⟨_, q207, e⟩ := xbnd e
            obtain ⟨R202, e203, e⟩ := xbnd e
            refine xok_eqb (h199.is q207) ?_
            refine xok_call (t50 hS h199 (xin_wr _) e203) ?_
            rintro ⟨v_, M204⟩ ⟨hv_, h205, hi206⟩
            cases hv_
            dsimp only
            cases g209 : R202.1 with
            | inl k_ =>
              rw [cth_l g209] at e; cases e
              rw [xth_l (by exact g209)]
              exact ⟨_, rfl, rfl, h205⟩
            | inr v208 =>
              rw [cth_r g209] at e
              rw [xth_r (by exact g209)]
              exact t41_72  hS  h205 (h144.ai (by decide) q154).2 (hi167 _ g170) (hi183 _ g186) (hi206 _ g209) e
-- ChangeHouse$Reader.readOutput
theorem t42 {m f : Nat} {M0 M : xj_M} {T : xT_} (hS : xHS f) (h : xCX m M0 M T) {a0 : Nat} {R : (Nat ⊕ Unit) × xT_}  (e : c42 f a0 T = some R) : xok (f42 f a0 M) (fun r => r.1 = R.1 ∧ xCX m M0 r.2 R.2) := by
  unfold c42 at e
  unfold f42
  obtain ⟨_, q106, e⟩ := xbnd e
  obtain ⟨R101, e102, e⟩ := xbnd e
  refine xok_eqb (h.is q106) ?_
  refine xok_call (t37 hS h  e102) ?_
  intro M103 h104
  obtain ⟨v107, q108, e⟩ := xbnd e
  refine xok_eqb (h104.gr (by decide) (by decide) q108) ?_
  obtain ⟨v109, q110, e⟩ := xbnd e
  refine xok_eqb (h104.gr (by decide) (by decide) q110) ?_
  obtain ⟨v111, q112, e⟩ := xbnd e
  refine xok_eqb (h104.gi (by decide) (by decide) q112).1 ?_
  obtain ⟨v113, q114, e⟩ := xbnd e
  refine xok_eqb (h104.ai (by decide) q114).1 ?_
  obtain ⟨_, q120, e⟩ := xbnd e
  obtain ⟨R115, e116, e⟩ := xbnd e
  refine xok_eqb (h104.is q120) ?_
  refine xok_call (t47 hS h104  e116) ?_
  rintro ⟨v_, M117⟩ ⟨hv_, h118, hi119⟩
  cases hv_
  dsimp only
  cases g122 : R115.1 with
  | inl k_ =>
    rw [cth_l g122] at e; cases e
    rw [xth_l (by exact g122)]
    exact ⟨_, rfl, rfl, h118⟩
  | inr v121 =>
    rw [cth_r g122] at e
    rw [xth_r (by exact g122)]
    obtain ⟨_, q128, e⟩ := xbnd e
    obtain ⟨R123, e124, e⟩ := xbnd e
    refine xok_eqb (h118.is q128) ?_
    refine xok_call (t48 hS h118 (hi119 _ g122) (h104.ai (by decide) q114).2 e124) ?_
    rintro ⟨v_, M125⟩ ⟨hv_, h126, hi127⟩
    cases hv_
    dsimp only
    cases g130 : R123.1 with
    | inl k_ =>
      rw [cth_l g130] at e; cases e
      rw [xth_l (by exact g130)]
      exact ⟨_, rfl, rfl, h126⟩
    | inr v129 =>
      rw [cth_r g130] at e
      rw [xth_r (by exact g130)]
      obtain ⟨_, q136, e⟩ := xbnd e
      obtain ⟨R131, e132, e⟩ := xbnd e
      refine xok_eqb (h126.is q136) ?_
      refine xok_call (t38 hS h126 (show xin (46) by decide) e132) ?_
      rintro ⟨v_, M133⟩ ⟨hv_, h134⟩
      cases hv_
      dsimp only
      cases g138 : R131.1 with
      | inl k_ =>
        rw [cth_l g138] at e; cases e
        rw [xth_l (by exact g138)]
        exact ⟨_, rfl, rfl, h134⟩
      | inr v137 =>
        rw [cth_r g138] at e
        rw [xth_r (by exact g138)]
        obtain ⟨_, q144, e⟩ := xbnd e
        obtain ⟨R139, e140, e⟩ := xbnd e
        refine xok_eqb (h134.is q144) ?_
        refine xok_call (t40 hS h134 (show xin (7) by decide) (hi127 _ g130) (h104.ai (by decide) q114).2 (show xin (0) by decide) e140) ?_
        intro M141 h142
        obtain ⟨v145, q146, e⟩ := xbnd e
        refine xok_eqb (h142.gr (by decide) (by decide) q146) ?_
        obtain ⟨v147, q148, e⟩ := xbnd e
        refine xok_eqb (h142.gr (by decide) (by decide) q148) ?_
        obtain ⟨T150, q149, e⟩ := xbnd e
        obtain ⟨M151, q152, h153⟩ := h142.sb  q149
        refine xok_eqb q152 ?_
        cases e
        exact ⟨_, rfl, rfl, h153⟩
