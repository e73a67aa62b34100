/-! The class over its cells as functions (written by mk_c.py) -/
-- ChangeHouse$Ways.isRepeated
theorem t137_45 {m f : Nat} {M0 M : xj_M} {T : xT_} (hS : xHS f) {r6 : Nat → Int → Nat → Int → Int → Int → xT_ → Option (Int × xT_)} {o6 : Nat → Int → Nat → Int → Int → Int → xj_M → Option (Int × xj_M)} (hr6 : ∀ {M : xj_M} {T : xT_} {x0 : Nat} {x1 : Int} {x2 : Nat} {x3 : Int} {x4 : Int} {x5 : Int} {R : Int × xT_}, xCX m M0 M T → xin x1 → xin x3 → xin x4 → xin x5 → r6 x0 x1 x2 x3 x4 x5 T = some R → xok (o6 x0 x1 x2 x3 x4 x5 M) (fun r => r.1 = R.1 ∧ xCX m M0 r.2 R.2 ∧ xin R.1)) (h : xCX m M0 M T) {x0 : Nat} {x1 : Int} {x2 : Nat} {x3 : Int} {x5 : Int} {y0 : Int} {y1 : Int} {R : Int × xT_} (tx1 : xin x1) (tx3 : xin x3) (tx5 : xin x5) (ty0 : xin y0) (ty1 : xin y1) (e : c137_45 r6 f x0 x1 x2 x3 x5 y0 y1 T = some R) : xok (f137_45 o6 f x0 x1 x2 x3 x5 y0 y1 M) (fun r => r.1 = R.1 ∧ xCX m M0 r.2 R.2 ∧ xin R.1) := by
  unfold c137_45 at e
  unfold f137_45
  exact hr6 h tx1 tx3 (xin_of _) (xin_wr _) e
theorem t137_181 {m f : Nat} {M0 M : xj_M} {T : xT_} (hS : xHS f) {r59 : Nat → Int → Nat → Int → Int → Int → xT_ → Option (Int × xT_)} {o59 : Nat → Int → Nat → Int → Int → Int → xj_M → Option (Int × xj_M)} {r120 : Nat → Int → Nat → Int → Int → Int → Int → Int → xT_ → Option (Int × xT_)} {o120 : Nat → Int → Nat → Int → Int → Int → Int → Int → xj_M → Option (Int × xj_M)} (hr59 : ∀ {M : xj_M} {T : xT_} {x0 : Nat} {x1 : Int} {x2 : Nat} {x3 : Int} {x4 : Int} {x5 : Int} {R : Int × xT_}, xCX m M0 M T → xin x1 → xin x3 → xin x4 → xin x5 → r59 x0 x1 x2 x3 x4 x5 T = some R → xok (o59 x0 x1 x2 x3 x4 x5 M) (fun r => r.1 = R.1 ∧ xCX m M0 r.2 R.2 ∧ xin R.1)) (hr120 : ∀ {M : xj_M} {T : xT_} {x0 : Nat} {x1 : Int} {x2 : Nat} {x3 : Int} {x4 : Int} {x5 : Int} {x6 : Int} {x7 : Int} {R : Int × xT_}, xCX m M0 M T → xin x1 → xin x3 → xin x4 → xin x5 → xin x6 → xin x7 → r120 x0 x1 x2 x3 x4 x5 x6 x7 T = some R → xok (o120 x0 x1 x2 x3 x4 x5 x6 x7 M) (fun r => r.1 = R.1 ∧ xCX m M0 r.2 R.2 ∧ xin R.1)) (h : xCX m M0 M T) {x0 : Nat} {x1 : Int} {x2 : Nat} {x3 : Int} {x4 : Int} {x5 : Int} {x7 : Int} {y0 : Int} {R : Int × xT_} (tx1 : xin x1) (tx3 : xin x3) (tx4 : xin x4) (tx5 : xin x5) (tx7 : xin x7) (ty0 : xin y0) (e : c137_181 r59 r120 f x0 x1 x2 x3 x4 x5 x7 y0 T = some R) : xok (f137_181 o59 o120 f x0 x1 x2 x3 x4 x5 x7 y0 M) (fun r => r.1 = R.1 ∧ xCX m M0 r.2 R.2 ∧ xin R.1) := by
  unfold c137_181 at e
  unfold f137_181
  exact hr120 h tx1 tx3 tx4 tx5 ty0 (xin_wr _) e
theorem t137_176 {m f : Nat} {M0 M : xj_M} {T : xT_} (hS : xHS f) {r59 : Nat → Int → Nat → Int → Int → Int → xT_ → Option (Int × xT_)} {o59 : Nat → Int → Nat → Int → Int → Int → xj_M → Option (Int × xj_M)} {r120 : Nat → Int → Nat → Int → Int → Int → Int → Int → xT_ → Option (Int × xT_)} {o120 : Nat → Int → Nat → Int → Int → Int → Int → Int → xj_M → Option (Int × xj_M)} (hr59 : ∀ {M : xj_M} {T : xT_} {x0 : Nat} {x1 : Int} {x2 : Nat} {x3 : Int} {x4 : Int} {x5 : Int} {R : Int × xT_}, xCX m M0 M T → xin x1 → xin x3 → xin x4 → xin x5 → r59 x0 x1 x2 x3 x4 x5 T = some R → xok (o59 x0 x1 x2 x3 x4 x5 M) (fun r => r.1 = R.1 ∧ xCX m M0 r.2 R.2 ∧ xin R.1)) (hr120 : ∀ {M : xj_M} {T : xT_} {x0 : Nat} {x1 : Int} {x2 : Nat} {x3 : Int} {x4 : Int} {x5 : Int} {x6 : Int} {x7 : Int} {R : Int × xT_}, xCX m M0 M T → xin x1 → xin x3 → xin x4 → xin x5 → xin x6 → xin x7 → r120 x0 x1 x2 x3 x4 x5 x6 x7 T = some R → xok (o120 x0 x1 x2 x3 x4 x5 x6 x7 M) (fun r => r.1 = R.1 ∧ xCX m M0 r.2 R.2 ∧ xin R.1)) (h : xCX m M0 M T) {x0 : Nat} {x1 : Int} {x2 : Nat} {x3 : Int} {x4 : Int} {x5 : Int} {x7 : Int} {R : Int × xT_} (tx1 : xin x1) (tx3 : xin x3) (tx4 : xin x4) (tx5 : xin x5) (tx7 : xin x7) (e : c137_176 r59 r120 f x0 x1 x2 x3 x4 x5 x7 T = some R) : xok (f137_176 o59 o120 f x0 x1 x2 x3 x4 x5 x7 M) (fun r => r.1 = R.1 ∧ xCX m M0 r.2 R.2 ∧ xin R.1) := by
  unfold c137_176 at e
  unfold f137_176
  exact t137_181 (r59 := r59) (o59 := o59) (r120 := r120) (o120 := o120) hS @hr59 @hr120 h tx1 tx3 tx4 tx5 tx7 (show xin (1) by decide) e
theorem t137_189 {m f : Nat} {M0 M : xj_M} {T : xT_} (hS : xHS f) {r59 : Nat → Int → Nat → Int → Int → Int → xT_ → Option (Int × xT_)} {o59 : Nat → Int → Nat → Int → Int → Int → xj_M → Option (Int × xj_M)} (hr59 : ∀ {M : xj_M} {T : xT_} {x0 : Nat} {x1 : Int} {x2 : Nat} {x3 : Int} {x4 : Int} {x5 : Int} {R : Int × xT_}, xCX m M0 M T → xin x1 → xin x3 → xin x4 → xin x5 → r59 x0 x1 x2 x3 x4 x5 T = some R → xok (o59 x0 x1 x2 x3 x4 x5 M) (fun r => r.1 = R.1 ∧ xCX m M0 r.2 R.2 ∧ xin R.1)) (h : xCX m M0 M T) {x0 : Nat} {x1 : Int} {x2 : Nat} {x3 : Int} {x4 : Int} {x5 : Int} {x6 : Int} {R : Int × xT_} (tx1 : xin x1) (tx3 : xin x3) (tx4 : xin x4) (tx5 : xin x5) (tx6 : xin x6) (e : c137_189 r59 f x0 x1 x2 x3 x4 x5 x6 T = some R) : xok (f137_189 o59 f x0 x1 x2 x3 x4 x5 x6 M) (fun r => r.1 = R.1 ∧ xCX m M0 r.2 R.2 ∧ xin R.1) := by
  unfold c137_189 at e
  unfold f137_189
  refine xok_ite (fun c101 => ?_) (fun c101 => ?_)
  · rw [if_pos c101] at e
    exact hr59 h tx1 tx3 tx4 (xin_wr _) e
  · rw [if_neg c101] at e
    cases e
    exact ⟨_, rfl, rfl, h, (show xin (1) by decide)⟩
theorem t137_120b {m f : Nat} {M0 M : xj_M} {T : xT_} (hS : xHS f) {r59 : Nat → Int → Nat → Int → Int → Int → xT_ → Option (Int × xT_)} {o59 : Nat → Int → Nat → Int → Int → Int → xj_M → Option (Int × xj_M)} {r120 : Nat → Int → Nat → Int → Int → Int → Int → Int → xT_ → Option (Int × xT_)} {o120 : Nat → Int → Nat → Int → Int → Int → Int → Int → xj_M → Option (Int × xj_M)} (hr59 : ∀ {M : xj_M} {T : xT_} {x0 : Nat} {x1 : Int} {x2 : Nat} {x3 : Int} {x4 : Int} {x5 : Int} {R : Int × xT_}, xCX m M0 M T → xin x1 → xin x3 → xin x4 → xin x5 → r59 x0 x1 x2 x3 x4 x5 T = some R → xok (o59 x0 x1 x2 x3 x4 x5 M) (fun r => r.1 = R.1 ∧ xCX m M0 r.2 R.2 ∧ xin R.1)) (hr120 : ∀ {M : xj_M} {T : xT_} {x0 : Nat} {x1 : Int} {x2 : Nat} {x3 : Int} {x4 : Int} {x5 : Int} {x6 : Int} {x7 : Int} {R : Int × xT_}, xCX m M0 M T → xin x1 → xin x3 → xin x4 → xin x5 → xin x6 → xin x7 → r120 x0 x1 x2 x3 x4 x5 x6 x7 T = some R → xok (o120 x0 x1 x2 x3 x4 x5 x6 x7 M) (fun r => r.1 = R.1 ∧ xCX m M0 r.2 R.2 ∧ xin R.1)) (h : xCX m M0 M T) {x0 : Nat} {x1 : Int} {x2 : Nat} {x3 : Int} {x4 : Int} {x5 : Int} {x6 : Int} {x7 : Int} {R : Int × xT_} (tx1 : xin x1) (tx3 : xin x3) (tx4 : xin x4) (tx5 : xin x5) (tx6 : xin x6) (tx7 : xin x7) (e : c137_120b r59 r120 f x0 x1 x2 x3 x4 x5 x6 x7 T = some R) : xok (f137_120b o59 o120 f x0 x1 x2 x3 x4 x5 x6 x7 M) (fun r => r.1 = R.1 ∧ xCX m M0 r.2 R.2 ∧ xin R.1) := by
  unfold c137_120b at e
  unfold f137_120b
  refine xok_ite (fun c102 => ?_) (fun c102 => ?_)
  · rw [if_pos c102] at e
    exact t137_189 (r59 := r59) (o59 := o59) hS @hr59 h tx1 tx3 tx4 tx5 tx6 e
  · rw [if_neg c102] at e
    obtain ⟨v103, q104, e⟩ := xbnd e
    refine xok_eqb (h.gr (by decide) (by decide) q104) ?_
    obtain ⟨v105, q106, e⟩ := xbnd e
    refine xok_eqb (h.gr (by decide) (by decide) q106) ?_
    obtain ⟨v107, q108, e⟩ := xbnd e
    refine xok_eqb (h.ai (by decide) q108).1 ?_
    refine xok_ite (fun c109 => ?_) (fun c109 => ?_)
    · rw [if_pos c109] at e
      exact t137_189 (r59 := r59) (o59 := o59) hS @hr59 h tx1 tx3 tx4 tx5 tx6 e
    · rw [if_neg c109] at e
      obtain ⟨v110, q111, e⟩ := xbnd e
      refine xok_eqb (h.gr (by decide) (by decide) q111) ?_
      obtain ⟨v112, q113, e⟩ := xbnd e
      refine xok_eqb (h.gr (by decide) (by decide) q113) ?_
      obtain ⟨v114, q115, e⟩ := xbnd e
      refine xok_eqb (h.ai (by decide) q115).1 ?_
      refine xok_ite (fun c116 => ?_) (fun c116 => ?_)
      · rw [if_pos c116] at e
        exact t137_176 (r59 := r59) (o59 := o59) (r120 := r120) (o120 := o120) hS @hr59 @hr120 h tx1 tx3 tx4 tx5 tx7 e
      · rw [if_neg c116] at e
        obtain ⟨_, q122, e⟩ := xbnd e
        obtain ⟨R117, e118, e⟩ := xbnd e
        refine xok_eqb (h.is q122) ?_
        refine xok_call (t70 hS h tx3 tx7 e118) ?_
        rintro ⟨v_, M119⟩ ⟨hv_, h120, hi121⟩
        cases hv_
        obtain ⟨_, q128, e⟩ := xbnd e
        obtain ⟨R123, e124, e⟩ := xbnd e
        refine xok_eqb (h120.is q128) ?_
        refine xok_call (t70 hS h120 tx5 tx7 e124) ?_
        rintro ⟨v_, M125⟩ ⟨hv_, h126, hi127⟩
        cases hv_
        refine xok_ite (fun c129 => ?_) (fun c129 => ?_)
        · rw [if_pos c129] at e
          exact t137_181 (r59 := r59) (o59 := o59) (r120 := r120) (o120 := o120) hS @hr59 @hr120 h126 tx1 tx3 tx4 tx5 tx7 (show xin (0) by decide) e
        · rw [if_neg c129] at e
          exact t137_176 (r59 := r59) (o59 := o59) (r120 := r120) (o120 := o120) hS @hr59 @hr120 h126 tx1 tx3 tx4 tx5 tx7 e
theorem t137_120 {m f : Nat} {M0 : xj_M} (hS : xHS f) {r59 : Nat → Int → Nat → Int → Int → Int → xT_ → Option (Int × xT_)} {o59 : Nat → Int → Nat → Int → Int → Int → xj_M → Option (Int × xj_M)} (hr59 : ∀ {M : xj_M} {T : xT_} {x0 : Nat} {x1 : Int} {x2 : Nat} {x3 : Int} {x4 : Int} {x5 : Int} {R : Int × xT_}, xCX m M0 M T → xin x1 → xin x3 → xin x4 → xin x5 → r59 x0 x1 x2 x3 x4 x5 T = some R → xok (o59 x0 x1 x2 x3 x4 x5 M) (fun r => r.1 = R.1 ∧ xCX m M0 r.2 R.2 ∧ xin R.1)) : ∀ {n : Nat} {M : xj_M} {T : xT_} {x0 : Nat} {x1 : Int} {x2 : Nat} {x3 : Int} {x4 : Int} {x5 : Int} {x6 : Int} {x7 : Int} {R : Int × xT_}, xCX m M0 M T → xin x1 → xin x3 → xin x4 → xin x5 → xin x6 → xin x7 → c137_120 r59 f n x0 x1 x2 x3 x4 x5 x6 x7 T = some R → xok (f137_120 o59 f n x0 x1 x2 x3 x4 x5 x6 x7 M) (fun r => r.1 = R.1 ∧ xCX m M0 r.2 R.2 ∧ xin R.1) := by
  intro n
  induction n with
  | zero => intros; rename_i e; cases e
  | succ n ih =>
    intros
    rename_i h i0 i1 i2 i3 i4 i5 e
    exact t137_120b hS @hr59 @ih h i0 i1 i2 i3 i4 i5 e
theorem t137_115 {m f : Nat} {M0 M : xj_M} {T : xT_} (hS : xHS f) {r59 : Nat → Int → Nat → Int → Int → Int → xT_ → Option (Int × xT_)} {o59 : Nat → Int → Nat → Int → Int → Int → xj_M → Option (Int × xj_M)} (hr59 : ∀ {M : xj_M} {T : xT_} {x0 : Nat} {x1 : Int} {x2 : Nat} {x3 : Int} {x4 : Int} {x5 : Int} {R : Int × xT_}, xCX m M0 M T → xin x1 → xin x3 → xin x4 → xin x5 → r59 x0 x1 x2 x3 x4 x5 T = some R → xok (o59 x0 x1 x2 x3 x4 x5 M) (fun r => r.1 = R.1 ∧ xCX m M0 r.2 R.2 ∧ xin R.1)) (h : xCX m M0 M T) {x0 : Nat} {x1 : Int} {x2 : Nat} {x3 : Int} {x4 : Int} {x5 : Int} {y0 : Int} {R : Int × xT_} (tx1 : xin x1) (tx3 : xin x3) (tx4 : xin x4) (tx5 : xin x5) (ty0 : xin y0) (e : c137_115 r59 f x0 x1 x2 x3 x4 x5 y0 T = some R) : xok (f137_115 o59 f x0 x1 x2 x3 x4 x5 y0 M) (fun r => r.1 = R.1 ∧ xCX m M0 r.2 R.2 ∧ xin R.1) := by
  unfold c137_115 at e
  unfold f137_115
  exact t137_120 (r59 := r59) (o59 := o59) hS @hr59 h tx1 tx3 tx4 tx5 ty0 (show xin (0) by decide) e
theorem t137_114 {m f : Nat} {M0 M : xj_M} {T : xT_} (hS : xHS f) {r59 : Nat → Int → Nat → Int → Int → Int → xT_ → Option (Int × xT_)} {o59 : Nat → Int → Nat → Int → Int → Int → xj_M → Option (Int × xj_M)} (hr59 : ∀ {M : xj_M} {T : xT_} {x0 : Nat} {x1 : Int} {x2 : Nat} {x3 : Int} {x4 : Int} {x5 : Int} {R : Int × xT_}, xCX m M0 M T → xin x1 → xin x3 → xin x4 → xin x5 → r59 x0 x1 x2 x3 x4 x5 T = some R → xok (o59 x0 x1 x2 x3 x4 x5 M) (fun r => r.1 = R.1 ∧ xCX m M0 r.2 R.2 ∧ xin R.1)) (h : xCX m M0 M T) {x0 : Nat} {x1 : Int} {x2 : Nat} {x3 : Int} {x4 : Int} {x5 : Int} {R : Int × xT_} (tx1 : xin x1) (tx3 : xin x3) (tx4 : xin x4) (tx5 : xin x5) (e : c137_114 r59 f x0 x1 x2 x3 x4 x5 T = some R) : xok (f137_114 o59 f x0 x1 x2 x3 x4 x5 M) (fun r => r.1 = R.1 ∧ xCX m M0 r.2 R.2 ∧ xin R.1) := by
  unfold c137_114 at e
  unfold f137_114
  exact t137_115 (r59 := r59) (o59 := o59) hS @hr59 h tx1 tx3 tx4 tx5 (show xin (0) by decide) e
theorem t137_202 {m f : Nat} {M0 M : xj_M} {T : xT_} (hS : xHS f)   (h : xCX m M0 M T)  {R : Int × xT_}  (e : c137_202  f  T = some R) : xok (f137_202  f  M) (fun r => r.1 = R.1 ∧ xCX m M0 r.2 R.2 ∧ xin R.1) := by
  unfold c137_202 at e
  unfold f137_202
  cases e
  exact ⟨_, rfl, rfl, h, (show xin (0) by decide)⟩
theorem t137_59b {m f : Nat} {M0 M : xj_M} {T : xT_} (hS : xHS f) {r59 : Nat → Int → Nat → Int → Int → Int → xT_ → Option (Int × xT_)} {o59 : Nat → Int → Nat → Int → Int → Int → xj_M → Option (Int × xj_M)} (hr59 : ∀ {M : xj_M} {T : xT_} {x0 : Nat} {x1 : Int} {x2 : Nat} {x3 : Int} {x4 : Int} {x5 : Int} {R : Int × xT_}, xCX m M0 M T → xin x1 → xin x3 → xin x4 → xin x5 → r59 x0 x1 x2 x3 x4 x5 T = some R → xok (o59 x0 x1 x2 x3 x4 x5 M) (fun r => r.1 = R.1 ∧ xCX m M0 r.2 R.2 ∧ xin R.1)) (h : xCX m M0 M T) {x0 : Nat} {x1 : Int} {x2 : Nat} {x3 : Int} {x4 : Int} {x5 : Int} {R : Int × xT_} (tx1 : xin x1) (tx3 : xin x3) (tx4 : xin x4) (tx5 : xin x5) (e : c137_59b r59 f x0 x1 x2 x3 x4 x5 T = some R) : xok (f137_59b o59 f x0 x1 x2 x3 x4 x5 M) (fun r => r.1 = R.1 ∧ xCX m M0 r.2 R.2 ∧ xin R.1) := by
  unfold c137_59b at e
  unfold f137_59b
  refine xok_ite (fun c130 => ?_) (fun c130 => ?_)
  · rw [if_pos c130] at e
    exact t137_202  hS  h  e
  · rw [if_neg c130] at e
    obtain ⟨v131, q132, e⟩ := xbnd e
    refine xok_eqb (h.gr (by decide) (by decide) q132) ?_
    obtain ⟨v133, q134, e⟩ := xbnd e
    refine xok_eqb (h.gi (by decide) (by decide) q134).1 ?_
    obtain ⟨v135, q136, e⟩ := xbnd e
    refine xok_eqb (h.ai (by decide) q136).1 ?_
    refine xok_ite (fun c137 => ?_) (fun c137 => ?_)
    · rw [if_pos c137] at e
      exact t137_202  hS  h  e
    · rw [if_neg c137] at e
      obtain ⟨v138, q139, e⟩ := xbnd e
      refine xok_eqb (h.gr (by decide) (by decide) q139) ?_
      obtain ⟨v140, q141, e⟩ := xbnd e
      refine xok_eqb (h.ai (by decide) q141).1 ?_
      obtain ⟨v142, q143, e⟩ := xbnd e
      refine xok_eqb (h.gr (by decide) (by decide) q143) ?_
      obtain ⟨v144, q145, e⟩ := xbnd e
      refine xok_eqb (h.ai (by decide) q145).1 ?_
      refine xok_ite (fun c146 => ?_) (fun c146 => ?_)
      · rw [if_pos c146] at e
        exact t137_114 (r59 := r59) (o59 := o59) hS @hr59 h tx1 tx3 tx4 tx5 e
      · rw [if_neg c146] at e
        obtain ⟨v147, q148, e⟩ := xbnd e
        refine xok_eqb (h.gr (by decide) (by decide) q148) ?_
        obtain ⟨v149, q150, e⟩ := xbnd e
        refine xok_eqb (h.ai (by decide) q150).1 ?_
        obtain ⟨v151, q152, e⟩ := xbnd e
        refine xok_eqb (h.gr (by decide) (by decide) q152) ?_
        obtain ⟨v153, q154, e⟩ := xbnd e
        refine xok_eqb (h.ai (by decide) q154).1 ?_
        refine xok_ite (fun c155 => ?_) (fun c155 => ?_)
        · rw [if_pos c155] at e
          exact t137_114 (r59 := r59) (o59 := o59) hS @hr59 h tx1 tx3 tx4 tx5 e
        · rw [if_neg c155] at e
          exact t137_115 (r59 := r59) (o59 := o59) hS @hr59 h tx1 tx3 tx4 tx5 (show xin (1) by decide) e
theorem t137_59 {m f : Nat} {M0 : xj_M} (hS : xHS f)   : ∀ {n : Nat} {M : xj_M} {T : xT_} {x0 : Nat} {x1 : Int} {x2 : Nat} {x3 : Int} {x4 : Int} {x5 : Int} {R : Int × xT_}, xCX m M0 M T → xin x1 → xin x3 → xin x4 → xin x5 → c137_59  f n x0 x1 x2 x3 x4 x5 T = some R → xok (f137_59  f n x0 x1 x2 x3 x4 x5 M) (fun r => r.1 = R.1 ∧ xCX m M0 r.2 R.2 ∧ xin R.1) := by
  intro n
  induction n with
  | zero => intros; rename_i e; cases e
  | succ n ih =>
    intros
    rename_i h i0 i1 i2 i3 e
    exact t137_59b hS  @ih h i0 i1 i2 i3 e
theorem t137_6b {m f : Nat} {M0 M : xj_M} {T : xT_} (hS : xHS f) {r6 : Nat → Int → Nat → Int → Int → Int → xT_ → Option (Int × xT_)} {o6 : Nat → Int → Nat → Int → Int → Int → xj_M → Option (Int × xj_M)} (hr6 : ∀ {M : xj_M} {T : xT_} {x0 : Nat} {x1 : Int} {x2 : Nat} {x3 : Int} {x4 : Int} {x5 : Int} {R : Int × xT_}, xCX m M0 M T → xin x1 → xin x3 → xin x4 → xin x5 → r6 x0 x1 x2 x3 x4 x5 T = some R → xok (o6 x0 x1 x2 x3 x4 x5 M) (fun r => r.1 = R.1 ∧ xCX m M0 r.2 R.2 ∧ xin R.1)) (h : xCX m M0 M T) {x0 : Nat} {x1 : Int} {x2 : Nat} {x3 : Int} {x4 : Int} {x5 : Int} {R : Int × xT_} (tx1 : xin x1) (tx3 : xin x3) (tx4 : xin x4) (tx5 : xin x5) (e : c137_6b r6 f x0 x1 x2 x3 x4 x5 T = some R) : xok (f137_6b o6 f x0 x1 x2 x3 x4 x5 M) (fun r => r.1 = R.1 ∧ xCX m M0 r.2 R.2 ∧ xin R.1) := by
  unfold c137_6b at e
  unfold f137_6b
  obtain ⟨v156, q157, e⟩ := xbnd e
  refine xok_eqb (h.gr (by decide) (by decide) q157) ?_
  obtain ⟨v158, q159, e⟩ := xbnd e
  refine xok_eqb (h.gr (by decide) (by decide) q159) ?_
  obtain ⟨v160, q161, e⟩ := xbnd e
  refine xok_eqb (h.ai (by decide) q161).1 ?_
  refine xok_ite (fun c162 => ?_) (fun c162 => ?_)
  · rw [if_pos c162] at e
    exact t137_59  hS  h tx1 tx3 tx4 (xin_wr _) e
  · rw [if_neg c162] at e
    obtain ⟨v163, q164, e⟩ := xbnd e
    refine xok_eqb (h.gr (by decide) (by decide) q164) ?_
    obtain ⟨v165, q166, e⟩ := xbnd e
    refine xok_eqb (h.gr (by decide) (by decide) q166) ?_
    obtain ⟨v167, q168, e⟩ := xbnd e
    refine xok_eqb (h.ai (by decide) q168).1 ?_
    refine xok_ite (fun c169 => ?_) (fun c169 => ?_)
    · rw [if_pos c169] at e
      exact t137_45 (r6 := r6) (o6 := o6) hS @hr6 h tx1 tx3 tx5 (show xin (0) by decide) tx4 e
    · rw [if_neg c169] at e
      exact t137_45 (r6 := r6) (o6 := o6) hS @hr6 h tx1 tx3 tx5 (show xin (1) by decide) tx4 e
theorem t137_6 {m f : Nat} {M0 : xj_M} (hS : xHS f)   : ∀ {n : Nat} {M : xj_M} {T : xT_} {x0 : Nat} {x1 : Int} {x2 : Nat} {x3 : Int} {x4 : Int} {x5 : Int} {R : Int × xT_}, xCX m M0 M T → xin x1 → xin x3 → xin x4 → xin x5 → c137_6  f n x0 x1 x2 x3 x4 x5 T = some R → xok (f137_6  f n x0 x1 x2 x3 x4 x5 M) (fun r => r.1 = R.1 ∧ xCX m M0 r.2 R.2 ∧ xin R.1) := by
  intro n
  induction n with
  | zero => intros; rename_i e; cases e
  | succ n ih =>
    intros
    rename_i h i0 i1 i2 i3 e
    exact t137_6b hS  @ih h i0 i1 i2 i3 e
theorem t137 {m f : Nat} {M0 M : xj_M} {T : xT_} (hS : xHS f) (h : xCX m M0 M T) {a0 : Nat} {a1 : Int} {a2 : Nat} {a3 : Int} {R : Int × xT_} (ta1 : xin a1) (ta3 : xin a3) (e : c137 f a0 a1 a2 a3 T = some R) : xok (f137 f a0 a1 a2 a3 M) (fun r => r.1 = R.1 ∧ xCX m M0 r.2 R.2 ∧ xin R.1) := by
  unfold c137 at e
  unfold f137
  exact t137_6  hS  h ta1 ta3 (show xin (0) by decide) (show xin (0) by decide) e
-- ChangeHouse$Ways.hasNone
theorem t138_30b {m f : Nat} {M0 M : xj_M} {T : xT_} (hS : xHS f) {r30 : Nat → Int → Nat → Int → xT_ → Option (Int × xT_)} {o30 : Nat → Int → Nat → Int → xj_M → Option (Int × xj_M)} (hr30 : ∀ {M : xj_M} {T : xT_} {x0 : Nat} {x1 : Int} {x2 : Nat} {x3 : Int} {R : Int × xT_}, xCX m M0 M T → xin x1 → xin x3 → r30 x0 x1 x2 x3 T = some R → xok (o30 x0 x1 x2 x3 M) (fun r => r.1 = R.1 ∧ xCX m M0 r.2 R.2 ∧ xin R.1)) (h : xCX m M0 M T) {x0 : Nat} {x1 : Int} {x2 : Nat} {x3 : Int} {R : Int × xT_} (tx1 : xin x1) (tx3 : xin x3) (e : c138_30b r30 f x0 x1 x2 x3 T = some R) : xok (f138_30b o30 f x0 x1 x2 x3 M) (fun r => r.1 = R.1 ∧ xCX m M0 r.2 R.2 ∧ xin R.1) := by
  unfold c138_30b at e
  unfold f138_30b
  obtain ⟨v101, q102, e⟩ := xbnd e
  refine xok_eqb (h.gr (by decide) (by decide) q102) ?_
  obtain ⟨v103, q104, e⟩ := xbnd e
  refine xok_eqb (h.gi (by decide) (by decide) q104).1 ?_
  obtain ⟨v105, q106, e⟩ := xbnd e
  refine xok_eqb (h.ai (by decide) q106).1 ?_
  refine xok_ite (fun c107 => ?_) (fun c107 => ?_)
  · rw [if_pos c107] at e
    cases e
    exact ⟨_, rfl, rfl, h, (show xin (1) by decide)⟩
  · rw [if_neg c107] at e
    obtain ⟨_, q113, e⟩ := xbnd e
    obtain ⟨R108, e109, e⟩ := xbnd e
    refine xok_eqb (h.is q113) ?_
    refine xok_call (t136 hS h tx1 tx3 e109) ?_
    rintro ⟨v_, M110⟩ ⟨hv_, h111, hi112⟩
    cases hv_
    refine xok_ite (fun c114 => ?_) (fun c114 => ?_)
    · rw [if_pos c114] at e
      exact hr30 h111 tx1 (xin_wr _) e
    · rw [if_neg c114] at e
      cases e
      exact ⟨_, rfl, rfl, h111, (show xin (0) by decide)⟩
theorem t138_30 {m f : Nat} {M0 : xj_M} (hS : xHS f)   : ∀ {n : Nat} {M : xj_M} {T : xT_} {x0 : Nat} {x1 : Int} {x2 : Nat} {x3 : Int} {R : Int × xT_}, xCX m M0 M T → xin x1 → xin x3 → c138_30  f n x0 x1 x2 x3 T = some R → xok (f138_30  f n x0 x1 x2 x3 M) (fun r => r.1 = R.1 ∧ xCX m M0 r.2 R.2 ∧ xin R.1) := by
  intro n
  induction n with
  | zero => intros; rename_i e; cases e
  | succ n ih =>
    intros
    rename_i h i0 i1 e
    exact t138_30b hS  @ih h i0 i1 e
theorem t138 {m f : Nat} {M0 M : xj_M} {T : xT_} (hS : xHS f) (h : xCX m M0 M T) {a0 : Nat} {a1 : Int} {R : Int × xT_} (ta1 : xin a1) (e : c138 f a0 a1 T = some R) : xok (f138 f a0 a1 M) (fun r => r.1 = R.1 ∧ xCX m M0 r.2 R.2 ∧ xin R.1) := by
  unfold c138 at e
  unfold f138
  obtain ⟨_, q120, e⟩ := xbnd e
  obtain ⟨R115, e116, e⟩ := xbnd e
  refine xok_eqb (h.is q120) ?_
  refine xok_call (t134 hS h ta1 e116) ?_
  intro M117 h118
  obtain ⟨v121, q122, e⟩ := xbnd e
  refine xok_eqb (h118.gr (by decide) (by decide) q122) ?_
  obtain ⟨v123, q124, e⟩ := xbnd e
  refine xok_eqb (h118.gr (by decide) (by decide) q124) ?_
  obtain ⟨v125, q126, e⟩ := xbnd e
  refine xok_eqb (h118.gr (by decide) (by decide) q126) ?_
  obtain ⟨v127, q128, e⟩ := xbnd e
  refine xok_eqb (h118.ai (by decide) q128).1 ?_
  obtain ⟨v129, q130, e⟩ := xbnd e
  refine xok_eqb (h118.ar q130) ?_
  obtain ⟨v131, q132, e⟩ := xbnd e
  refine xok_eqb (h118.gr (by decide) (by decide) q132) ?_
  obtain ⟨v133, q134, e⟩ := xbnd e
  refine xok_eqb (h118.gi (by decide) (by decide) q134).1 ?_
  obtain ⟨v135, q136, e⟩ := xbnd e
  refine xok_eqb (h118.ai (by decide) q136).1 ?_
  exact t138_30  hS  h118 ta1 (h118.ai (by decide) q136).2 e
-- ChangeHouse$Ways.openVariable
theorem t140_35 {m f : Nat} {M0 M : xj_M} {T : xT_} (hS : xHS f)   (h : xCX m M0 M T) {y0 : Int} {R : Int × xT_} (ty0 : xin y0) (e : c140_35  f y0 T = some R) : xok (f140_35  f y0 M) (fun r => r.1 = R.1 ∧ xCX m M0 r.2 R.2 ∧ xin R.1) := by
  unfold c140_35 at e
  unfold f140_35
  cases e
  exact ⟨_, rfl, rfl, h, ty0⟩
theorem t140_34 {m f : Nat} {M0 M : xj_M} {T : xT_} (hS : xHS f)   (h : xCX m M0 M T)  {R : Int × xT_}  (e : c140_34  f  T = some R) : xok (f140_34  f  M) (fun r => r.1 = R.1 ∧ xCX m M0 r.2 R.2 ∧ xin R.1) := by
  unfold c140_34 at e
  unfold f140_34
  exact t140_35  hS  h (show xin (-1) by decide) e
theorem t140 {m f : Nat} {M0 M : xj_M} {T : xT_} (hS : xHS f) (h : xCX m M0 M T) {a0 : Nat} {a1 : Int} {R : Int × xT_} (ta1 : xin a1) (e : c140 f a0 a1 T = some R) : xok (f140 f a0 a1 M) (fun r => r.1 = R.1 ∧ xCX m M0 r.2 R.2 ∧ xin R.1) := by
  unfold c140 at e
  unfold f140
  obtain ⟨v101, q102, e⟩ := xbnd e
  refine xok_eqb (h.gr (by decide) (by decide) q102) ?_
  obtain ⟨_, q108, e⟩ := xbnd e
  obtain ⟨R103, e104, e⟩ := xbnd e
  refine xok_eqb (h.is q108) ?_
  refine xok_call (t91 hS h ta1 e104) ?_
  rintro ⟨v_, M105⟩ ⟨hv_, h106, hi107⟩
  cases hv_
  refine xok_ite (fun c109 => ?_) (fun c109 => ?_)
  · rw [if_pos c109] at e
    exact t140_34  hS  h106  e
  · rw [if_neg c109] at e
    obtain ⟨v110, q111, e⟩ := xbnd e
    refine xok_eqb (h106.gr (by decide) (by decide) q111) ?_
    obtain ⟨v112, q113, e⟩ := xbnd e
    refine xok_eqb (h106.gi (by decide) (by decide) q113).1 ?_
    obtain ⟨v114, q115, e⟩ := xbnd e
    refine xok_eqb (h106.ai (by decide) q115).1 ?_
    refine xok_ite (fun c116 => ?_) (fun c116 => ?_)
    · rw [if_pos c116] at e
      exact t140_34  hS  h106  e
    · rw [if_neg c116] at e
      exact t140_35  hS  h106 hi107 e
-- ChangeHouse$Ways.rowOf
theorem t143_54b {m f : Nat} {M0 M : xj_M} {T : xT_} (hS : xHS f) {r54 : Nat → Int → Nat → Int → xT_ → Option (Int × xT_)} {o54 : Nat → Int → Nat → Int → xj_M → Option (Int × xj_M)} (hr54 : ∀ {M : xj_M} {T : xT_} {x0 : Nat} {x1 : Int} {x3 : Nat} {x4 : Int} {R : Int × xT_}, xCX m M0 M T → xin x1 → xin x4 → r54 x0 x1 x3 x4 T = some R → xok (o54 x0 x1 x3 x4 M) (fun r => r.1 = R.1 ∧ xCX m M0 r.2 R.2 ∧ xin R.1)) (h : xCX m M0 M T) {x0 : Nat} {x1 : Int} {x3 : Nat} {x4 : Int} {R : Int × xT_} (tx1 : xin x1) (tx4 : xin x4) (e : c143_54b r54 f x0 x1 x3 x4 T = some R) : xok (f143_54b o54 f x0 x1 x3 x4 M) (fun r => r.1 = R.1 ∧ xCX m M0 r.2 R.2 ∧ xin R.1) := by
  unfold c143_54b at e
  unfold f143_54b
  obtain ⟨v101, q102, e⟩ := xbnd e
  refine xok_eqb (h.gr (by decide) (by decide) q102) ?_
  obtain ⟨v103, q104, e⟩ := xbnd e
  refine xok_eqb (h.ai (by decide) q104).1 ?_
  refine xok_ite (fun c105 => ?_) (fun c105 => ?_)
  · rw [if_pos c105] at e
    cases e
    exact ⟨_, rfl, rfl, h, (show xin (-1) by decide)⟩
  · rw [if_neg c105] at e
    obtain ⟨_, q111, e⟩ := xbnd e
    obtain ⟨R106, e107, e⟩ := xbnd e
    refine xok_eqb (h.is q111) ?_
    refine xok_call (t136 hS h tx1 tx4 e107) ?_
    rintro ⟨v_, M108⟩ ⟨hv_, h109, hi110⟩
    cases hv_
    refine xok_ite (fun c112 => ?_) (fun c112 => ?_)
    · rw [if_pos c112] at e
      exact hr54 h109 tx1 (xin_wr _) e
    · rw [if_neg c112] at e
      cases e
      exact ⟨_, rfl, rfl, h109, tx4⟩
theorem t143_54 {m f : Nat} {M0 : xj_M} (hS : xHS f)   : ∀ {n : Nat} {M : xj_M} {T : xT_} {x0 : Nat} {x1 : Int} {x3 : Nat} {x4 : Int} {R : Int × xT_}, xCX m M0 M T → xin x1 → xin x4 → c143_54  f n x0 x1 x3 x4 T = some R → xok (f143_54  f n x0 x1 x3 x4 M) (fun r => r.1 = R.1 ∧ xCX m M0 r.2 R.2 ∧ xin R.1) := by
  intro n
  induction n with
  | zero => intros; rename_i e; cases e
  | succ n ih =>
    intros
    rename_i h i0 i1 e
    exact t143_54b hS  @ih h i0 i1 e
theorem t143 {m f : Nat} {M0 M : xj_M} {T : xT_} (hS : xHS f) (h : xCX m M0 M T) {a0 : Nat} {a1 : Int} {a2 : Nat} {R : Int × xT_} (ta1 : xin a1) (e : c143 f a0 a1 a2 T = some R) : xok (f143 f a0 a1 a2 M) (fun r => r.1 = R.1 ∧ xCX m M0 r.2 R.2 ∧ xin R.1) := by
  unfold c143 at e
  unfold f143
  obtain ⟨T114, q113, e⟩ := xbnd e
  obtain ⟨M115, q116, h117⟩ := h.pi (by decide) (by decide) (show xin (0) by decide) q113
  refine xok_eqb q116 ?_
  obtain ⟨v118, q119, e⟩ := xbnd e
  refine xok_eqb (h117.gr (by decide) (by decide) q119) ?_
  obtain ⟨T121, q120, e⟩ := xbnd e
  obtain ⟨M122, q123, h124⟩ := h117.si (show xin (255) by decide) q120
  refine xok_eqb q123 ?_
  obtain ⟨v125, q126, e⟩ := xbnd e
  refine xok_eqb (h124.gr (by decide) (by decide) q126) ?_
  obtain ⟨T128, q127, e⟩ := xbnd e
  obtain ⟨M129, q130, h131⟩ := h124.cp q127
  refine xok_eqb q130 ?_
  obtain ⟨_, q137, e⟩ := xbnd e
  obtain ⟨R132, e133, e⟩ := xbnd e
  refine xok_eqb (h131.is q137) ?_
  refine xok_call (t134 hS h131 ta1 e133) ?_
  intro M134 h135
  obtain ⟨v138, q139, e⟩ := xbnd e
  refine xok_eqb (h135.gr (by decide) (by decide) q139) ?_
  obtain ⟨v140, q141, e⟩ := xbnd e
  refine xok_eqb (h135.gr (by decide) (by decide) q141) ?_
  obtain ⟨v142, q143, e⟩ := xbnd e
  refine xok_eqb (h135.gr (by decide) (by decide) q143) ?_
  obtain ⟨v144, q145, e⟩ := xbnd e
  refine xok_eqb (h135.ai (by decide) q145).1 ?_
  obtain ⟨v146, q147, e⟩ := xbnd e
  refine xok_eqb (h135.ar q147) ?_
  obtain ⟨v148, q149, e⟩ := xbnd e
  refine xok_eqb (h135.gr (by decide) (by decide) q149) ?_
  obtain ⟨v150, q151, e⟩ := xbnd e
  refine xok_eqb (h135.ai (by decide) q151).1 ?_
  exact t143_54  hS  h135 ta1 (h135.ai (by decide) q151).2 e
-- ChangeHouse$Works.<init>
theorem t144_161b {m f : Nat} {M0 M : xj_M} {T : xT_} (hS : xHS f) {r161 : Nat → Int → xT_ → Option (xT_)} {o161 : Nat → Int → xj_M → Option (xj_M)} (hr161 : ∀ {M : xj_M} {T : xT_} {x0 : Nat} {x2 : Int} {R : xT_}, xCX m M0 M T → xin x2 → r161 x0 x2 T = some R → xok (o161 x0 x2 M) (fun r => xCX m M0 r R)) (h : xCX m M0 M T) {x0 : Nat} {x2 : Int} {R : xT_} (tx2 : xin x2) (e : c144_161b r161 f x0 x2 T = some R) : xok (f144_161b o161 f x0 x2 M) (fun r => xCX m M0 r R) := by
  unfold c144_161b at e
  unfold f144_161b
  refine xok_ite (fun c101 => ?_) (fun c101 => ?_)
  · rw [if_pos c101] at e
    cases e
    exact ⟨_, rfl, h⟩
  · rw [if_neg c101] at e
    obtain ⟨v102, q103, e⟩ := xbnd e
    refine xok_eqb (h.gr (by decide) (by decide) q103) ?_
    obtain ⟨p104, q105, e⟩ := xbnd e
    obtain ⟨M106, q107, h108⟩ := h.nw (by decide +kernel) (by decide +kernel) q105
    refine xok_eqb q107 ?_
    dsimp only
    obtain ⟨R109, e110, e⟩ := xbnd e
    refine xok_call (t68 hS h108 tx2 (show xin (0) by decide) e110) ?_
    intro M111 h112
    obtain ⟨T115, q114, e⟩ := xbnd e
    obtain ⟨M116, q117, h118⟩ := h112.sr  q114
    refine xok_eqb q117 ?_
    exact hr161 h118 (xin_wr _) e
theorem t144_161 {m f : Nat} {M0 : xj_M} (hS : xHS f)   : ∀ {n : Nat} {M : xj_M} {T : xT_} {x0 : Nat} {x2 : Int} {R : xT_}, xCX m M0 M T → xin x2 → c144_161  f n x0 x2 T = some R → xok (f144_161  f n x0 x2 M) (fun r => xCX m M0 r R) := by
  intro n
  induction n with
  | zero => intros; rename_i e; cases e
  | succ n ih =>
    intros
    rename_i h i0 e
    exact t144_161b hS  @ih h i0 e
theorem t144_115b {m f : Nat} {M0 M : xj_M} {T : xT_} (hS : xHS f) {r115 : Nat → Int → xT_ → Option (xT_)} {o115 : Nat → Int → xj_M → Option (xj_M)} (hr115 : ∀ {M : xj_M} {T : xT_} {x0 : Nat} {x2 : Int} {R : xT_}, xCX m M0 M T → xin x2 → r115 x0 x2 T = some R → xok (o115 x0 x2 M) (fun r => xCX m M0 r R)) (h : xCX m M0 M T) {x0 : Nat} {x2 : Int} {R : xT_} (tx2 : xin x2) (e : c144_115b r115 f x0 x2 T = some R) : xok (f144_115b o115 f x0 x2 M) (fun r => xCX m M0 r R) := by
  unfold c144_115b at e
  unfold f144_115b
  refine xok_ite (fun c119 => ?_) (fun c119 => ?_)
  · rw [if_pos c119] at e
    exact t144_161  hS  h (show xin (1) by decide) e
  · rw [if_neg c119] at e
    obtain ⟨v120, q121, e⟩ := xbnd e
    refine xok_eqb (h.gr (by decide) (by decide) q121) ?_
    obtain ⟨p122, q123, e⟩ := xbnd e
    obtain ⟨M124, q125, h126⟩ := h.nw (by decide +kernel) (by decide +kernel) q123
    refine xok_eqb q125 ?_
    dsimp only
    obtain ⟨R127, e128, e⟩ := xbnd e
    refine xok_call (t68 hS h126 (show xin (4) by decide) (show xin (100) by decide) e128) ?_
    intro M129 h130
    obtain ⟨T133, q132, e⟩ := xbnd e
    obtain ⟨M134, q135, h136⟩ := h130.sr  q132
    refine xok_eqb q135 ?_
    obtain ⟨v137, q138, e⟩ := xbnd e
    refine xok_eqb (h136.gr (by decide) (by decide) q138) ?_
    obtain ⟨p139, q140, e⟩ := xbnd e
    obtain ⟨M141, q142, h143⟩ := h136.nw (by decide +kernel) (by decide +kernel) q140
    refine xok_eqb q142 ?_
    dsimp only
    obtain ⟨R144, e145, e⟩ := xbnd e
    refine xok_call (t68 hS h143 (show xin (4) by decide) (show xin (100) by decide) e145) ?_
    intro M146 h147
    obtain ⟨T150, q149, e⟩ := xbnd e
    obtain ⟨M151, q152, h153⟩ := h147.sr  q149
    refine xok_eqb q152 ?_
    exact hr115 h153 (xin_wr _) e
theorem t144_115 {m f : Nat} {M0 : xj_M} (hS : xHS f)   : ∀ {n : Nat} {M : xj_M} {T : xT_} {x0 : Nat} {x2 : Int} {R : xT_}, xCX m M0 M T → xin x2 → c144_115  f n x0 x2 T = some R → xok (f144_115  f n x0 x2 M) (fun r => xCX m M0 r R) := by
  intro n
  induction n with
  | zero => intros; rename_i e; cases e
  | succ n ih =>
    intros
    rename_i h i0 e
    exact t144_115b hS  @ih h i0 e
theorem t144 {m f : Nat} {M0 M : xj_M} {T : xT_} (hS : xHS f) (h : xCX m M0 M T) {a0 : Nat} {a1 : Nat} {R : xT_}  (e : c144 f a0 a1 T = some R) : xok (f144 f a0 a1 M) (fun r => xCX m M0 r R) := by
  unfold c144 at e
  unfold f144
  obtain ⟨_, q154, e⟩ := xbnd e
  refine xok_eqb q154 ?_
  obtain ⟨p155, q156, e⟩ := xbnd e
  obtain ⟨M157, q158, h159⟩ := h.an q156
  refine xok_eqb q158 ?_
  dsimp only
  obtain ⟨T161, q160, e⟩ := xbnd e
  obtain ⟨M162, q163, h164⟩ := h159.pr (by decide) (by decide)  q160
  refine xok_eqb q163 ?_
  obtain ⟨p165, q166, e⟩ := xbnd e
  obtain ⟨M167, q168, h169⟩ := h164.an q166
  refine xok_eqb q168 ?_
  dsimp only
  obtain ⟨T171, q170, e⟩ := xbnd e
  obtain ⟨M172, q173, h174⟩ := h169.pr (by decide) (by decide)  q170
  refine xok_eqb q173 ?_
  obtain ⟨p175, q176, e⟩ := xbnd e
  obtain ⟨M177, q178, h179⟩ := h174.an q176
  refine xok_eqb q178 ?_
  dsimp only
  obtain ⟨T181, q180, e⟩ := xbnd e
  obtain ⟨M182, q183, h184⟩ := h179.pr (by decide) (by decide)  q180
  refine xok_eqb q183 ?_
  obtain ⟨p185, q186, e⟩ := xbnd e
  obtain ⟨M187, q188, h189⟩ := h184.an q186
  refine xok_eqb q188 ?_
  dsimp only
  obtain ⟨T191, q190, e⟩ := xbnd e
  obtain ⟨M192, q193, h194⟩ := h189.pr (by decide) (by decide)  q190
  refine xok_eqb q193 ?_
  obtain ⟨p195, q196, e⟩ := xbnd e
  obtain ⟨M197, q198, h199⟩ := h194.an q196
  refine xok_eqb q198 ?_
  dsimp only
  obtain ⟨T201, q200, e⟩ := xbnd e
  obtain ⟨M202, q203, h204⟩ := h199.pr (by decide) (by decide)  q200
  refine xok_eqb q203 ?_
  obtain ⟨p205, q206, e⟩ := xbnd e
  obtain ⟨M207, q208, h209⟩ := h204.nw (by decide +kernel) (by decide +kernel) q206
  refine xok_eqb q208 ?_
  dsimp only
  obtain ⟨R210, e211, e⟩ := xbnd e
  refine xok_call (t68 hS h209 (show xin (4) by decide) (show xin (512) by decide) e211) ?_
  intro M212 h213
  obtain ⟨T216, q215, e⟩ := xbnd e
  obtain ⟨M217, q218, h219⟩ := h213.pr (by decide) (by decide)  q215
  refine xok_eqb q218 ?_
  obtain ⟨p220, q221, e⟩ := xbnd e
  obtain ⟨M222, q223, h224⟩ := h219.na (by decide) q221
  refine xok_eqb q223 ?_
  dsimp only
  obtain ⟨T226, q225, e⟩ := xbnd e
  obtain ⟨M227, q228, h229⟩ := h224.pr (by decide) (by decide)  q225
  refine xok_eqb q228 ?_
  obtain ⟨p230, q231, e⟩ := xbnd e
  obtain ⟨M232, q233, h234⟩ := h229.na (by decide) q231
  refine xok_eqb q233 ?_
  dsimp only
  obtain ⟨T236, q235, e⟩ := xbnd e
  obtain ⟨M237, q238, h239⟩ := h234.pr (by decide) (by decide)  q235
  refine xok_eqb q238 ?_
  obtain ⟨p240, q241, e⟩ := xbnd e
  obtain ⟨M242, q243, h244⟩ := h239.na (by decide) q241
  refine xok_eqb q243 ?_
  dsimp only
  obtain ⟨T246, q245, e⟩ := xbnd e
  obtain ⟨M247, q248, h249⟩ := h244.pr (by decide) (by decide)  q245
  refine xok_eqb q248 ?_
  obtain ⟨p250, q251, e⟩ := xbnd e
  obtain ⟨M252, q253, h254⟩ := h249.na (by decide) q251
  refine xok_eqb q253 ?_
  dsimp only
  obtain ⟨T256, q255, e⟩ := xbnd e
  obtain ⟨M257, q258, h259⟩ := h254.pr (by decide) (by decide)  q255
  refine xok_eqb q258 ?_
  obtain ⟨p260, q261, e⟩ := xbnd e
  obtain ⟨M262, q263, h264⟩ := h259.na (by decide) q261
  refine xok_eqb q263 ?_
  dsimp only
  obtain ⟨T266, q265, e⟩ := xbnd e
  obtain ⟨M267, q268, h269⟩ := h264.pr (by decide) (by decide)  q265
  refine xok_eqb q268 ?_
  obtain ⟨p270, q271, e⟩ := xbnd e
  obtain ⟨M272, q273, h274⟩ := h269.na (by decide) q271
  refine xok_eqb q273 ?_
  dsimp only
  obtain ⟨T276, q275, e⟩ := xbnd e
  obtain ⟨M277, q278, h279⟩ := h274.pr (by decide) (by decide)  q275
  refine xok_eqb q278 ?_
  obtain ⟨T281, q280, e⟩ := xbnd e
  obtain ⟨M282, q283, h284⟩ := h279.pr (by decide) (by decide)  q280
  refine xok_eqb q283 ?_
  exact t144_115  hS  h284 (show xin (0) by decide) e
-- ChangeHouse$Works.begin
theorem t145_190 {m f : Nat} {M0 M : xj_M} {T : xT_} (hS : xHS f) {r38 : Nat → Nat → Nat → Int → Int → xT_ → Option (xT_)} {o38 : Nat → Nat → Nat → Int → Int → xj_M → Option (xj_M)} (hr38 : ∀ {M : xj_M} {T : xT_} {x0 : Nat} {x1 : Nat} {x2 : Nat} {x3 : Int} {x4 : Int} {R : xT_}, xCX m M0 M T → xin x3 → xin x4 → r38 x0 x1 x2 x3 x4 T = some R → xok (o38 x0 x1 x2 x3 x4 M) (fun r => xCX m M0 r R)) (h : xCX m M0 M T) {x0 : Nat} {x1 : Nat} {x2 : Nat} {x3 : Int} {x4 : Int} {y0 : Nat} {y1 : Int} {y2 : Nat} {R : xT_} (tx3 : xin x3) (tx4 : xin x4) (ty1 : xin y1) (e : c145_190 r38 f x0 x1 x2 x3 x4 y0 y1 y2 T = some R) : xok (f145_190 o38 f x0 x1 x2 x3 x4 y0 y1 y2 M) (fun r => xCX m M0 r R) := by
  unfold c145_190 at e
  unfold f145_190
  obtain ⟨T102, q101, e⟩ := xbnd e
  obtain ⟨M103, q104, h105⟩ := h.sr  q101
  refine xok_eqb q104 ?_
  exact hr38 h105 tx3 (xin_wr _) e
theorem t145_165 {m f : Nat} {M0 M : xj_M} {T : xT_} (hS : xHS f) {r38 : Nat → Nat → Nat → Int → Int → xT_ → Option (xT_)} {o38 : Nat → Nat → Nat → Int → Int → xj_M → Option (xj_M)} (hr38 : ∀ {M : xj_M} {T : xT_} {x0 : Nat} {x1 : Nat} {x2 : Nat} {x3 : Int} {x4 : Int} {R : xT_}, xCX m M0 M T → xin x3 → xin x4 → r38 x0 x1 x2 x3 x4 T = some R → xok (o38 x0 x1 x2 x3 x4 M) (fun r => xCX m M0 r R)) (h : xCX m M0 M T) {x0 : Nat} {x1 : Nat} {x2 : Nat} {x3 : Int} {x4 : Int} {x6 : Nat} {y0 : Int} {R : xT_} (tx3 : xin x3) (tx4 : xin x4) (ty0 : xin y0) (e : c145_165 r38 f x0 x1 x2 x3 x4 x6 y0 T = some R) : xok (f145_165 o38 f x0 x1 x2 x3 x4 x6 y0 M) (fun r => xCX m M0 r R) := by
  unfold c145_165 at e
  unfold f145_165
  obtain ⟨v106, q107, e⟩ := xbnd e
  refine xok_eqb (h.gr (by decide) (by decide) q107) ?_
  refine xok_ite (fun c108 => ?_) (fun c108 => ?_)
  · rw [if_pos c108] at e
    exact t145_190 (r38 := r38) (o38 := o38) hS @hr38 h tx3 tx4 tx4 e
  · rw [if_neg c108] at e
    obtain ⟨v109, q110, e⟩ := xbnd e
    refine xok_eqb (h.gr (by decide) (by decide) q110) ?_
    obtain ⟨v111, q112, e⟩ := xbnd e
    refine xok_eqb (h.ar q112) ?_
    exact t145_190 (r38 := r38) (o38 := o38) hS @hr38 h tx3 tx4 tx4 e
theorem t145_160 {m f : Nat} {M0 M : xj_M} {T : xT_} (hS : xHS f) {r38 : Nat → Nat → Nat → Int → Int → xT_ → Option (xT_)} {o38 : Nat → Nat → Nat → Int → Int → xj_M → Option (xj_M)} (hr38 : ∀ {M : xj_M} {T : xT_} {x0 : Nat} {x1 : Nat} {x2 : Nat} {x3 : Int} {x4 : Int} {R : xT_}, xCX m M0 M T → xin x3 → xin x4 → r38 x0 x1 x2 x3 x4 T = some R → xok (o38 x0 x1 x2 x3 x4 M) (fun r => xCX m M0 r R)) (h : xCX m M0 M T) {x0 : Nat} {x1 : Nat} {x2 : Nat} {x3 : Int} {x4 : Int} {x6 : Nat} {R : xT_} (tx3 : xin x3) (tx4 : xin x4) (e : c145_160 r38 f x0 x1 x2 x3 x4 x6 T = some R) : xok (f145_160 o38 f x0 x1 x2 x3 x4 x6 M) (fun r => xCX m M0 r R) := by
  unfold c145_160 at e
  unfold f145_160
  exact t145_165 (r38 := r38) (o38 := o38) hS @hr38 h tx3 tx4 (show xin (1) by decide) e
theorem t145_164 {m f : Nat} {M0 M : xj_M} {T : xT_} (hS : xHS f) {r38 : Nat → Nat → Nat → Int → Int → xT_ → Option (xT_)} {o38 : Nat → Nat → Nat → Int → Int → xj_M → Option (xj_M)} (hr38 : ∀ {M : xj_M} {T : xT_} {x0 : Nat} {x1 : Nat} {x2 : Nat} {x3 : Int} {x4 : Int} {R : xT_}, xCX m M0 M T → xin x3 → xin x4 → r38 x0 x1 x2 x3 x4 T = some R → xok (o38 x0 x1 x2 x3 x4 M) (fun r => xCX m M0 r R)) (h : xCX m M0 M T) {x0 : Nat} {x1 : Nat} {x2 : Nat} {x3 : Int} {x4 : Int} {x6 : Nat} {R : xT_} (tx3 : xin x3) (tx4 : xin x4) (e : c145_164 r38 f x0 x1 x2 x3 x4 x6 T = some R) : xok (f145_164 o38 f x0 x1 x2 x3 x4 x6 M) (fun r => xCX m M0 r R) := by
  unfold c145_164 at e
  unfold f145_164
  exact t145_165 (r38 := r38) (o38 := o38) hS @hr38 h tx3 tx4 (show xin (0) by decide) e
theorem t145_106 {m f : Nat} {M0 M : xj_M} {T : xT_} (hS : xHS f) {r38 : Nat → Nat → Nat → Int → Int → xT_ → Option (xT_)} {o38 : Nat → Nat → Nat → Int → Int → xj_M → Option (xj_M)} (hr38 : ∀ {M : xj_M} {T : xT_} {x0 : Nat} {x1 : Nat} {x2 : Nat} {x3 : Int} {x4 : Int} {R : xT_}, xCX m M0 M T → xin x3 → xin x4 → r38 x0 x1 x2 x3 x4 T = some R → xok (o38 x0 x1 x2 x3 x4 M) (fun r => xCX m M0 r R)) (h : xCX m M0 M T) {x0 : Nat} {x1 : Nat} {x2 : Nat} {x3 : Int} {x4 : Int} {x5 : Int} {x6 : Nat} {y0 : Nat} {y1 : Int} {y2 : Nat} {R : xT_} (tx3 : xin x3) (tx4 : xin x4) (tx5 : xin x5) (ty1 : xin y1) (e : c145_106 r38 f x0 x1 x2 x3 x4 x5 x6 y0 y1 y2 T = some R) : xok (f145_106 o38 f x0 x1 x2 x3 x4 x5 x6 y0 y1 y2 M) (fun r => xCX m M0 r R) := by
  unfold c145_106 at e
  unfold f145_106
  obtain ⟨T114, q113, e⟩ := xbnd e
  obtain ⟨M115, q116, h117⟩ := h.sr  q113
  refine xok_eqb q116 ?_
  refine xok_ite (fun c118 => ?_) (fun c118 => ?_)
  · rw [if_pos c118] at e
    exact t145_160 (r38 := r38) (o38 := o38) hS @hr38 h117 tx3 tx4 e
  · rw [if_neg c118] at e
    refine xok_ite (fun c119 => ?_) (fun c119 => ?_)
    · rw [if_pos c119] at e
      exact t145_164 (r38 := r38) (o38 := o38) hS @hr38 h117 tx3 tx4 e
    · rw [if_neg c119] at e
      obtain ⟨v120, q121, e⟩ := xbnd e
      refine xok_eqb (h117.gr (by decide) (by decide) q121) ?_
      obtain ⟨v122, q123, e⟩ := xbnd e
      refine xok_eqb (h117.ab q123).1 ?_
      refine xok_ite (fun c124 => ?_) (fun c124 => ?_)
      · rw [if_pos c124] at e
        exact t145_164 (r38 := r38) (o38 := o38) hS @hr38 h117 tx3 tx4 e
      · rw [if_neg c124] at e
        obtain ⟨v125, q126, e⟩ := xbnd e
        refine xok_eqb (h117.gr (by decide) (by decide) q126) ?_
        obtain ⟨v127, q128, e⟩ := xbnd e
        refine xok_eqb (h117.gr (by decide) (by decide) q128) ?_
        obtain ⟨v129, q130, e⟩ := xbnd e
        refine xok_eqb (h117.ab q130).1 ?_
        refine xok_ite (fun c131 => ?_) (fun c131 => ?_)
        · rw [if_pos c131] at e
          exact t145_164 (r38 := r38) (o38 := o38) hS @hr38 h117 tx3 tx4 e
        · rw [if_neg c131] at e
          obtain ⟨v132, q133, e⟩ := xbnd e
          refine xok_eqb (h117.gr (by decide) (by decide) q133) ?_
          obtain ⟨v134, q135, e⟩ := xbnd e
          refine xok_eqb (h117.ai (by decide) q135).1 ?_
          obtain ⟨v136, q137, e⟩ := xbnd e
          refine xok_eqb (h117.gr (by decide) (by decide) q137) ?_
          obtain ⟨v138, q139, e⟩ := xbnd e
          refine xok_eqb (h117.gr (by decide) (by decide) q139) ?_
          obtain ⟨v140, q141, e⟩ := xbnd e
          refine xok_eqb (h117.ai (by decide) q141).1 ?_
          refine xok_ite (fun c142 => ?_) (fun c142 => ?_)
          · rw [if_pos c142] at e
            exact t145_164 (r38 := r38) (o38 := o38) hS @hr38 h117 tx3 tx4 e
          · rw [if_neg c142] at e
            exact t145_160 (r38 := r38) (o38 := o38) hS @hr38 h117 tx3 tx4 e
theorem t145_66 {m f : Nat} {M0 M : xj_M} {T : xT_} (hS : xHS f) {r38 : Nat → Nat → Nat → Int → Int → xT_ → Option (xT_)} {o38 : Nat → Nat → Nat → Int → Int → xj_M → Option (xj_M)} (hr38 : ∀ {M : xj_M} {T : xT_} {x0 : Nat} {x1 : Nat} {x2 : Nat} {x3 : Int} {x4 : Int} {R : xT_}, xCX m M0 M T → xin x3 → xin x4 → r38 x0 x1 x2 x3 x4 T = some R → xok (o38 x0 x1 x2 x3 x4 M) (fun r => xCX m M0 r R)) (h : xCX m M0 M T) {x0 : Nat} {x1 : Nat} {x2 : Nat} {x3 : Int} {x4 : Int} {y0 : Int} {R : xT_} (tx3 : xin x3) (tx4 : xin x4) (ty0 : xin y0) (e : c145_66 r38 f x0 x1 x2 x3 x4 y0 T = some R) : xok (f145_66 o38 f x0 x1 x2 x3 x4 y0 M) (fun r => xCX m M0 r R) := by
  unfold c145_66 at e
  unfold f145_66
  obtain ⟨v143, q144, e⟩ := xbnd e
  refine xok_eqb (h.gr (by decide) (by decide) q144) ?_
  obtain ⟨v145, q146, e⟩ := xbnd e
  refine xok_eqb (h.gr (by decide) (by decide) q146) ?_
  obtain ⟨v147, q148, e⟩ := xbnd e
  refine xok_eqb (h.ai (by decide) q148).1 ?_
  obtain ⟨v149, q150, e⟩ := xbnd e
  refine xok_eqb (h.ar q150) ?_
  obtain ⟨v151, q152, e⟩ := xbnd e
  refine xok_eqb (h.gr (by decide) (by decide) q152) ?_
  refine xok_ite (fun c153 => ?_) (fun c153 => ?_)
  · rw [if_pos c153] at e
    obtain ⟨v154, q155, e⟩ := xbnd e
    refine xok_eqb (h.gr (by decide) (by decide) q155) ?_
    obtain ⟨v156, q157, e⟩ := xbnd e
    refine xok_eqb (h.ar q157) ?_
    exact t145_106 (r38 := r38) (o38 := o38) hS @hr38 h tx3 tx4 ty0 tx4 e
  · rw [if_neg c153] at e
    exact t145_106 (r38 := r38) (o38 := o38) hS @hr38 h tx3 tx4 ty0 tx4 e
theorem t145_38b {m f : Nat} {M0 M : xj_M} {T : xT_} (hS : xHS f) {r38 : Nat → Nat → Nat → Int → Int → xT_ → Option (xT_)} {o38 : Nat → Nat → Nat → Int → Int → xj_M → Option (xj_M)} (hr38 : ∀ {M : xj_M} {T : xT_} {x0 : Nat} {x1 : Nat} {x2 : Nat} {x3 : Int} {x4 : Int} {R : xT_}, xCX m M0 M T → xin x3 → xin x4 → r38 x0 x1 x2 x3 x4 T = some R → xok (o38 x0 x1 x2 x3 x4 M) (fun r => xCX m M0 r R)) (h : xCX m M0 M T) {x0 : Nat} {x1 : Nat} {x2 : Nat} {x3 : Int} {x4 : Int} {R : xT_} (tx3 : xin x3) (tx4 : xin x4) (e : c145_38b r38 f x0 x1 x2 x3 x4 T = some R) : xok (f145_38b o38 f x0 x1 x2 x3 x4 M) (fun r => xCX m M0 r R) := by
  unfold c145_38b at e
  unfold f145_38b
  obtain ⟨v158, q159, e⟩ := xbnd e
  refine xok_eqb (h.gi (by decide) (by decide) q159).1 ?_
  refine xok_ite (fun c160 => ?_) (fun c160 => ?_)
  · rw [if_pos c160] at e
    cases e
    exact ⟨_, rfl, h⟩
  · rw [if_neg c160] at e
    refine xok_ite (fun c161 => ?_) (fun c161 => ?_)
    · rw [if_pos c161] at e
      exact t145_66 (r38 := r38) (o38 := o38) hS @hr38 h tx3 tx4 tx4 e
    · rw [if_neg c161] at e
      obtain ⟨v162, q163, e⟩ := xbnd e
      refine xok_eqb (h.gr (by decide) (by decide) q163) ?_
      obtain ⟨_, q169, e⟩ := xbnd e
      obtain ⟨R164, e165, e⟩ := xbnd e
      refine xok_eqb (h.is q169) ?_
      refine xok_call (t21 hS h tx4 e165) ?_
      rintro ⟨v_, M166⟩ ⟨hv_, h167, hi168⟩
      cases hv_
      exact t145_66 (r38 := r38) (o38 := o38) hS @hr38 h167 tx3 tx4 hi168 e
theorem t145_38 {m f : Nat} {M0 : xj_M} (hS : xHS f)   : ∀ {n : Nat} {M : xj_M} {T : xT_} {x0 : Nat} {x1 : Nat} {x2 : Nat} {x3 : Int} {x4 : Int} {R : xT_}, xCX m M0 M T → xin x3 → xin x4 → c145_38  f n x0 x1 x2 x3 x4 T = some R → xok (f145_38  f n x0 x1 x2 x3 x4 M) (fun r => xCX m M0 r R) := by
  intro n
  induction n with
  | zero => intros; rename_i e; cases e
  | succ n ih =>
    intros
    rename_i h i0 i1 e
    exact t145_38b hS  @ih h i0 i1 e
theorem t145_34 {m f : Nat} {M0 M : xj_M} {T : xT_} (hS : xHS f)   (h : xCX m M0 M T) {x0 : Nat} {x1 : Nat} {x2 : Nat} {y0 : Int} {R : xT_} (ty0 : xin y0) (e : c145_34  f x0 x1 x2 y0 T = some R) : xok (f145_34  f x0 x1 x2 y0 M) (fun r => xCX m M0 r R) := by
  unfold c145_34 at e
  unfold f145_34
  exact t145_38  hS  h ty0 (show xin (0) by decide) e
theorem t145 {m f : Nat} {M0 M : xj_M} {T : xT_} (hS : xHS f) (h : xCX m M0 M T) {a0 : Nat} {a1 : Nat} {a2 : Nat} {R : xT_}  (e : c145 f a0 a1 a2 T = some R) : xok (f145 f a0 a1 a2 M) (fun r => xCX m M0 r R) := by
  unfold c145 at e
  unfold f145
  obtain ⟨T171, q170, e⟩ := xbnd e
  obtain ⟨M172, q173, h174⟩ := h.pr (by decide) (by decide)  q170
  refine xok_eqb q173 ?_
  obtain ⟨T176, q175, e⟩ := xbnd e
  obtain ⟨M177, q178, h179⟩ := h174.pi (by decide) (by decide) (show xin (0) by decide) q175
  refine xok_eqb q178 ?_
  obtain ⟨T181, q180, e⟩ := xbnd e
  obtain ⟨M182, q183, h184⟩ := h179.pi (by decide) (by decide) (show xin (0) by decide) q180
  refine xok_eqb q183 ?_
  obtain ⟨v185, q186, e⟩ := xbnd e
  refine xok_eqb (h184.gi (by decide) (by decide) q186).1 ?_
  obtain ⟨v187, q188, e⟩ := xbnd e
  refine xok_eqb (h184.gr (by decide) (by decide) q188) ?_
  obtain ⟨v189, q190, e⟩ := xbnd e
  refine xok_eqb (h184.gi (by decide) (by decide) q190).1 ?_
  refine xok_ite (fun c191 => ?_) (fun c191 => ?_)
  · rw [if_pos c191] at e
    exact t145_34  hS  h184 (show xin (0) by decide) e
  · rw [if_neg c191] at e
    exact t145_34  hS  h184 (show xin (1) by decide) e
-- ChangeHouse$Works.changeLoose
theorem t147_83 {m f : Nat} {M0 M : xj_M} {T : xT_} (hS : xHS f)   (h : xCX m M0 M T)  {R : xT_}  (e : c147_83  f  T = some R) : xok (f147_83  f  M) (fun r => xCX m M0 r R) := by
  unfold c147_83 at e
  unfold f147_83
  cases e
  exact ⟨_, rfl, h⟩
theorem t147_64 {m f : Nat} {M0 M : xj_M} {T : xT_} (hS : xHS f)   (h : xCX m M0 M T) {x0 : Nat} {x3 : Int} {R : xT_} (tx3 : xin x3) (e : c147_64  f x0 x3 T = some R) : xok (f147_64  f x0 x3 M) (fun r => xCX m M0 r R) := by
  unfold c147_64 at e
  unfold f147_64
  refine xok_ite (fun c101 => ?_) (fun c101 => ?_)
  · rw [if_pos c101] at e
    exact t147_83  hS  h  e
  · rw [if_neg c101] at e
    obtain ⟨v102, q103, e⟩ := xbnd e
    refine xok_eqb (h.gr (by decide) (by decide) q103) ?_
    obtain ⟨v104, q105, e⟩ := xbnd e
    refine xok_eqb (h.gr (by decide) (by decide) q105) ?_
    obtain ⟨_, q111, e⟩ := xbnd e
    obtain ⟨R106, e107, e⟩ := xbnd e
    refine xok_eqb (h.is q111) ?_
    refine xok_call (t76 hS h (xin_wr _) (show xin (0) by decide) e107) ?_
    intro M108 h109
    exact t147_83  hS  h109  e
theorem t147 {m f : Nat} {M0 M : xj_M} {T : xT_} (hS : xHS f) (h : xCX m M0 M T) {a0 : Nat} {a1 : Int} {a2 : Int} {R : xT_} (ta1 : xin a1) (ta2 : xin a2) (e : c147 f a0 a1 a2 T = some R) : xok (f147 f a0 a1 a2 M) (fun r => xCX m M0 r R) := by
  unfold c147 at e
  unfold f147
  obtain ⟨v112, q113, e⟩ := xbnd e
  refine xok_eqb (h.gr (by decide) (by decide) q113) ?_
  obtain ⟨v114, q115, e⟩ := xbnd e
  refine xok_eqb (h.gr (by decide) (by decide) q115) ?_
  obtain ⟨_, q121, e⟩ := xbnd e
  obtain ⟨R116, e117, e⟩ := xbnd e
  refine xok_eqb (h.is q121) ?_
  refine xok_call (t74 hS h  e117) ?_
  rintro ⟨v_, M118⟩ ⟨hv_, h119, hi120⟩
  cases hv_
  refine xok_ite (fun c122 => ?_) (fun c122 => ?_)
  · rw [if_pos c122] at e
    refine xok_ite (fun c123 => ?_) (fun c123 => ?_)
    · rw [if_pos c123] at e
      exact t147_64  hS  h119 hi120 e
    · rw [if_neg c123] at e
      refine xok_ite (fun c124 => ?_) (fun c124 => ?_)
      · rw [if_pos c124] at e
        exact t147_64  hS  h119 hi120 e
      · rw [if_neg c124] at e
        obtain ⟨v125, q126, e⟩ := xbnd e
        refine xok_eqb (h119.gr (by decide) (by decide) q126) ?_
        obtain ⟨v127, q128, e⟩ := xbnd e
        refine xok_eqb (h119.gr (by decide) (by decide) q128) ?_
        obtain ⟨v129, q130, e⟩ := xbnd e
        refine xok_eqb (h119.gr (by decide) (by decide) q130) ?_
        obtain ⟨_, q136, e⟩ := xbnd e
        obtain ⟨R131, e132, e⟩ := xbnd e
        refine xok_eqb (h119.is q136) ?_
        refine xok_call (t75 hS h119 ta2 e132) ?_
        rintro ⟨v_, M133⟩ ⟨hv_, h134, hi135⟩
        cases hv_
        obtain ⟨_, q142, e⟩ := xbnd e
        obtain ⟨R137, e138, e⟩ := xbnd e
        refine xok_eqb (h134.is q142) ?_
        refine xok_call (t77 hS h134 hi135 e138) ?_
        intro M139 h140
        obtain ⟨v143, q144, e⟩ := xbnd e
        refine xok_eqb (h140.gr (by decide) (by decide) q144) ?_
        obtain ⟨v145, q146, e⟩ := xbnd e
        refine xok_eqb (h140.gr (by decide) (by decide) q146) ?_
        obtain ⟨_, q152, e⟩ := xbnd e
        obtain ⟨R147, e148, e⟩ := xbnd e
        refine xok_eqb (h140.is q152) ?_
        refine xok_call (t74 hS h140  e148) ?_
        rintro ⟨v_, M149⟩ ⟨hv_, h150, hi151⟩
        cases hv_
        exact t147_64  hS  h150 hi151 e
  · rw [if_neg c122] at e
    obtain ⟨v153, q154, e⟩ := xbnd e
    refine xok_eqb (h119.gr (by decide) (by decide) q154) ?_
    obtain ⟨_, q160, e⟩ := xbnd e
    obtain ⟨R155, e156, e⟩ := xbnd e
    refine xok_eqb (h119.is q160) ?_
    refine xok_call (t77 hS h119 hi120 e156) ?_
    intro M157 h158
    cases e
    exact ⟨_, rfl, h158⟩
-- ChangeHouse$Works.noteChanged
theorem t148_30 {m f : Nat} {M0 M : xj_M} {T : xT_} (hS : xHS f)   (h : xCX m M0 M T) {y0 : Int} {y1 : Int} {y2 : Nat} {R : xT_} (ty0 : xin y0) (ty1 : xin y1) (e : c148_30  f y0 y1 y2 T = some R) : xok (f148_30  f y0 y1 y2 M) (fun r => xCX m M0 r R) := by
  unfold c148_30 at e
  unfold f148_30
  obtain ⟨T102, q101, e⟩ := xbnd e
  obtain ⟨M103, q104, h105⟩ := h.pi (by decide) (by decide) (xin_of _) q101
  refine xok_eqb q104 ?_
  cases e
  exact ⟨_, rfl, h105⟩
theorem t148 {m f : Nat} {M0 M : xj_M} {T : xT_} (hS : xHS f) (h : xCX m M0 M T) {a0 : Nat} {a1 : Int} {R : xT_} (ta1 : xin a1) (e : c148 f a0 a1 T = some R) : xok (f148 f a0 a1 M) (fun r => xCX m M0 r R) := by
  unfold c148 at e
  unfold f148
  obtain ⟨v106, q107, e⟩ := xbnd e
  refine xok_eqb (h.gi (by decide) (by decide) q107).1 ?_
  obtain ⟨v108, q109, e⟩ := xbnd e
  refine xok_eqb (h.gr (by decide) (by decide) q109) ?_
  obtain ⟨v110, q111, e⟩ := xbnd e
  refine xok_eqb (h.ar q111) ?_
  obtain ⟨v112, q113, e⟩ := xbnd e
  refine xok_eqb (h.gr (by decide) (by decide) q113) ?_
  obtain ⟨v114, q115, e⟩ := xbnd e
  refine xok_eqb (h.ar q115) ?_
  obtain ⟨_, q121, e⟩ := xbnd e
  obtain ⟨R116, e117, e⟩ := xbnd e
  refine xok_eqb (h.is q121) ?_
  refine xok_call (t81 hS h  e117) ?_
  rintro ⟨v_, M118⟩ ⟨hv_, h119, hi120⟩
  cases hv_
  refine xok_ite (fun c122 => ?_) (fun c122 => ?_)
  · rw [if_pos c122] at e
    exact t148_30  hS  h119 (xin_of _) (h.gi (by decide) (by decide) q107).2 e
  · rw [if_neg c122] at e
    exact t148_30  hS  h119 (show xin (0) by decide) (h.gi (by decide) (by decide) q107).2 e
-- ChangeHouse$Works.startRing
theorem t150_74 {m f : Nat} {M0 M : xj_M} {T : xT_} (hS : xHS f) {r2 : Nat → Int → Int → xT_ → Option (xT_)} {o2 : Nat → Int → Int → xj_M → Option (xj_M)} (hr2 : ∀ {M : xj_M} {T : xT_} {x0 : Nat} {x1 : Int} {x2 : Int} {R : xT_}, xCX m M0 M T → xin x1 → xin x2 → r2 x0 x1 x2 T = some R → xok (o2 x0 x1 x2 M) (fun r => xCX m M0 r R)) (h : xCX m M0 M T) {x0 : Nat} {x1 : Int} {x2 : Int} {R : xT_} (tx1 : xin x1) (tx2 : xin x2) (e : c150_74 r2 f x0 x1 x2 T = some R) : xok (f150_74 o2 f x0 x1 x2 M) (fun r => xCX m M0 r R) := by
  unfold c150_74 at e
  unfold f150_74
  exact hr2 h tx1 (xin_wr _) e
theorem t150_2b {m f : Nat} {M0 M : xj_M} {T : xT_} (hS : xHS f) {r2 : Nat → Int → Int → xT_ → Option (xT_)} {o2 : Nat → Int → Int → xj_M → Option (xj_M)} (hr2 : ∀ {M : xj_M} {T : xT_} {x0 : Nat} {x1 : Int} {x2 : Int} {R : xT_}, xCX m M0 M T → xin x1 → xin x2 → r2 x0 x1 x2 T = some R → xok (o2 x0 x1 x2 M) (fun r => xCX m M0 r R)) (h : xCX m M0 M T) {x0 : Nat} {x1 : Int} {x2 : Int} {R : xT_} (tx1 : xin x1) (tx2 : xin x2) (e : c150_2b r2 f x0 x1 x2 T = some R) : xok (f150_2b o2 f x0 x1 x2 M) (fun r => xCX m M0 r R) := by
  unfold c150_2b at e
  unfold f150_2b
  obtain ⟨v101, q102, e⟩ := xbnd e
  refine xok_eqb (h.gr (by decide) (by decide) q102) ?_
  obtain ⟨v103, q104, e⟩ := xbnd e
  refine xok_eqb (h.gi (by decide) (by decide) q104).1 ?_
  refine xok_ite (fun c105 => ?_) (fun c105 => ?_)
  · rw [if_pos c105] at e
    cases e
    exact ⟨_, rfl, h⟩
  · rw [if_neg c105] at e
    obtain ⟨v106, q107, e⟩ := xbnd e
    refine xok_eqb (h.gr (by decide) (by decide) q107) ?_
    obtain ⟨v108, q109, e⟩ := xbnd e
    refine xok_eqb (h.gr (by decide) (by decide) q109) ?_
    obtain ⟨v110, q111, e⟩ := xbnd e
    refine xok_eqb (h.ai (by decide) q111).1 ?_
    refine xok_ite (fun c112 => ?_) (fun c112 => ?_)
    · rw [if_pos c112] at e
      exact t150_74 (r2 := r2) (o2 := o2) hS @hr2 h tx1 tx2 e
    · rw [if_neg c112] at e
      obtain ⟨v113, q114, e⟩ := xbnd e
      refine xok_eqb (h.gr (by decide) (by decide) q114) ?_
      obtain ⟨v115, q116, e⟩ := xbnd e
      refine xok_eqb (h.ar q116) ?_
      obtain ⟨v117, q118, e⟩ := xbnd e
      refine xok_eqb (h.gr (by decide) (by decide) q118) ?_
      obtain ⟨v119, q120, e⟩ := xbnd e
      refine xok_eqb (h.gr (by decide) (by decide) q120) ?_
      obtain ⟨v121, q122, e⟩ := xbnd e
      refine xok_eqb (h.ai (by decide) q122).1 ?_
      obtain ⟨_, q128, e⟩ := xbnd e
      obtain ⟨R123, e124, e⟩ := xbnd e
      refine xok_eqb (h.is q128) ?_
      refine xok_call (t69 hS h (h.ai (by decide) q122).2 e124) ?_
      intro M125 h126
      obtain ⟨v129, q130, e⟩ := xbnd e
      refine xok_eqb (h126.gr (by decide) (by decide) q130) ?_
      obtain ⟨v131, q132, e⟩ := xbnd e
      refine xok_eqb (h126.ar q132) ?_
      obtain ⟨v133, q134, e⟩ := xbnd e
      refine xok_eqb (h126.gr (by decide) (by decide) q134) ?_
      obtain ⟨v135, q136, e⟩ := xbnd e
      refine xok_eqb (h126.gr (by decide) (by decide) q136) ?_
      obtain ⟨v137, q138, e⟩ := xbnd e
      refine xok_eqb (h126.ai (by decide) q138).1 ?_
      obtain ⟨_, q144, e⟩ := xbnd e
      obtain ⟨R139, e140, e⟩ := xbnd e
      refine xok_eqb (h126.is q144) ?_
      refine xok_call (t69 hS h126 (h126.ai (by decide) q138).2 e140) ?_
      intro M141 h142
      obtain ⟨v145, q146, e⟩ := xbnd e
      refine xok_eqb (h142.gr (by decide) (by decide) q146) ?_
      obtain ⟨v147, q148, e⟩ := xbnd e
      refine xok_eqb (h142.gr (by decide) (by decide) q148) ?_
      obtain ⟨v149, q150, e⟩ := xbnd e
      refine xok_eqb (h142.ar q150) ?_
      obtain ⟨T152, q151, e⟩ := xbnd e
      obtain ⟨M153, q154, h155⟩ := h142.sr  q151
      refine xok_eqb q154 ?_
      exact t150_74 (r2 := r2) (o2 := o2) hS @hr2 h155 tx1 tx2 e
theorem t150_2 {m f : Nat} {M0 : xj_M} (hS : xHS f)   : ∀ {n : Nat} {M : xj_M} {T : xT_} {x0 : Nat} {x1 : Int} {x2 : Int} {R : xT_}, xCX m M0 M T → xin x1 → xin x2 → c150_2  f n x0 x1 x2 T = some R → xok (f150_2  f n x0 x1 x2 M) (fun r => xCX m M0 r R) := by
  intro n
  induction n with
  | zero => intros; rename_i e; cases e
  | succ n ih =>
    intros
    rename_i h i0 i1 e
    exact t150_2b hS  @ih h i0 i1 e
theorem t150 {m f : Nat} {M0 M : xj_M} {T : xT_} (hS : xHS f) (h : xCX m M0 M T) {a0 : Nat} {a1 : Int} {R : xT_} (ta1 : xin a1) (e : c150 f a0 a1 T = some R) : xok (f150 f a0 a1 M) (fun r => xCX m M0 r R) := by
  unfold c150 at e
  unfold f150
  exact t150_2  hS  h ta1 (show xin (0) by decide) e
-- ChangeHouse$Works.isOwn
theorem t152_30 {m f : Nat} {M0 M : xj_M} {T : xT_} (hS : xHS f)   (h : xCX m M0 M T) {y0 : Int} {R : Int × xT_} (ty0 : xin y0) (e : c152_30  f y0 T = some R) : xok (f152_30  f y0 M) (fun r => r.1 = R.1 ∧ xCX m M0 r.2 R.2 ∧ xin R.1) := by
  unfold c152_30 at e
  unfold f152_30
  refine xok_ite (fun c101 => ?_) (fun c101 => ?_)
  · rw [if_pos c101] at e; cases e; exact ⟨_, rfl, rfl, h, ty0⟩
  · rw [if_neg c101] at e; cases e
theorem t152_29 {m f : Nat} {M0 M : xj_M} {T : xT_} (hS : xHS f)   (h : xCX m M0 M T)  {R : Int × xT_}  (e : c152_29  f  T = some R) : xok (f152_29  f  M) (fun r => r.1 = R.1 ∧ xCX m M0 r.2 R.2 ∧ xin R.1) := by
  unfold c152_29 at e
  unfold f152_29
  exact t152_30  hS  h (show xin (0) by decide) e
theorem t152 {m f : Nat} {M0 M : xj_M} {T : xT_} (hS : xHS f) (h : xCX m M0 M T) {a0 : Nat} {a1 : Int} {a2 : Int} {R : Int × xT_} (ta1 : xin a1) (ta2 : xin a2) (e : c152 f a0 a1 a2 T = some R) : xok (f152 f a0 a1 a2 M) (fun r => r.1 = R.1 ∧ xCX m M0 r.2 R.2 ∧ xin R.1) := by
  unfold c152 at e
  unfold f152
  obtain ⟨v102, q103, e⟩ := xbnd e
  refine xok_eqb (h.gr (by decide) (by decide) q103) ?_
  obtain ⟨v104, q105, e⟩ := xbnd e
  refine xok_eqb (h.ai (by decide) q105).1 ?_
  refine xok_ite (fun c106 => ?_) (fun c106 => ?_)
  · rw [if_pos c106] at e
    exact t152_29  hS  h  e
  · rw [if_neg c106] at e
    obtain ⟨v107, q108, e⟩ := xbnd e
    refine xok_eqb (h.gr (by decide) (by decide) q108) ?_
    obtain ⟨v109, q110, e⟩ := xbnd e
    refine xok_eqb (h.ai (by decide) q110).1 ?_
    refine xok_ite (fun c111 => ?_) (fun c111 => ?_)
    · rw [if_pos c111] at e
      exact t152_29  hS  h  e
    · rw [if_neg c111] at e
      exact t152_30  hS  h (show xin (1) by decide) e
-- ChangeHouse$Works.takeFresh
theorem t154_103 {m f : Nat} {M0 M : xj_M} {T : xT_} (hS : xHS f) {r2 : Nat → Int → Int → Int → xT_ → Option (xT_)} {o2 : Nat → Int → Int → Int → xj_M → Option (xj_M)} (hr2 : ∀ {M : xj_M} {T : xT_} {x0 : Nat} {x1 : Int} {x2 : Int} {x3 : Int} {R : xT_}, xCX m M0 M T → xin x1 → xin x2 → xin x3 → r2 x0 x1 x2 x3 T = some R → xok (o2 x0 x1 x2 x3 M) (fun r => xCX m M0 r R)) (h : xCX m M0 M T) {x0 : Nat} {x1 : Int} {x2 : Int} {x3 : Int} {R : xT_} (tx1 : xin x1) (tx2 : xin x2) (tx3 : xin x3) (e : c154_103 r2 f x0 x1 x2 x3 T = some R) : xok (f154_103 o2 f x0 x1 x2 x3 M) (fun r => xCX m M0 r R) := by
  unfold c154_103 at e
  unfold f154_103
  exact hr2 h tx1 tx2 (xin_wr _) e
theorem t154_29b {m f : Nat} {M0 M : xj_M} {T : xT_} (hS : xHS f) {r2 : Nat → Int → Int → Int → xT_ → Option (xT_)} {o2 : Nat → Int → Int → Int → xj_M → Option (xj_M)} {r29 : Nat → Int → Int → Int → Int → xT_ → Option (xT_)} {o29 : Nat → Int → Int → Int → Int → xj_M → Option (xj_M)} (hr2 : ∀ {M : xj_M} {T : xT_} {x0 : Nat} {x1 : Int} {x2 : Int} {x3 : Int} {R : xT_}, xCX m M0 M T → xin x1 → xin x2 → xin x3 → r2 x0 x1 x2 x3 T = some R → xok (o2 x0 x1 x2 x3 M) (fun r => xCX m M0 r R)) (hr29 : ∀ {M : xj_M} {T : xT_} {x0 : Nat} {x1 : Int} {x2 : Int} {x3 : Int} {x4 : Int} {R : xT_}, xCX m M0 M T → xin x1 → xin x2 → xin x3 → xin x4 → r29 x0 x1 x2 x3 x4 T = some R → xok (o29 x0 x1 x2 x3 x4 M) (fun r => xCX m M0 r R)) (h : xCX m M0 M T) {x0 : Nat} {x1 : Int} {x2 : Int} {x3 : Int} {x4 : Int} {R : xT_} (tx1 : xin x1) (tx2 : xin x2) (tx3 : xin x3) (tx4 : xin x4) (e : c154_29b r2 r29 f x0 x1 x2 x3 x4 T = some R) : xok (f154_29b o2 o29 f x0 x1 x2 x3 x4 M) (fun r => xCX m M0 r R) := by
  unfold c154_29b at e
  unfold f154_29b
  obtain ⟨v101, q102, e⟩ := xbnd e
  refine xok_eqb (h.gr (by decide) (by decide) q102) ?_
  obtain ⟨v103, q104, e⟩ := xbnd e
  refine xok_eqb (h.ar q104) ?_
  obtain ⟨v105, q106, e⟩ := xbnd e
  refine xok_eqb (h.gi (by decide) (by decide) q106).1 ?_
  refine xok_ite (fun c107 => ?_) (fun c107 => ?_)
  · rw [if_pos c107] at e
    obtain ⟨v108, q109, e⟩ := xbnd e
    refine xok_eqb (h.gr (by decide) (by decide) q109) ?_
    obtain ⟨v110, q111, e⟩ := xbnd e
    refine xok_eqb (h.ar q111) ?_
    obtain ⟨T113, q112, e⟩ := xbnd e
    obtain ⟨M114, q115, h116⟩ := h.pi (by decide) (by decide) (show xin (0) by decide) q112
    refine xok_eqb q115 ?_
    exact t154_103 (r2 := r2) (o2 := o2) hS @hr2 h116 tx1 tx2 tx3 e
  · rw [if_neg c107] at e
    obtain ⟨v117, q118, e⟩ := xbnd e
    refine xok_eqb (h.gr (by decide) (by decide) q118) ?_
    obtain ⟨v119, q120, e⟩ := xbnd e
    refine xok_eqb (h.ar q120) ?_
    obtain ⟨v121, q122, e⟩ := xbnd e
    refine xok_eqb (h.gr (by decide) (by decide) q122) ?_
    obtain ⟨_, q128, e⟩ := xbnd e
    obtain ⟨R123, e124, e⟩ := xbnd e
    refine xok_eqb (h.is q128) ?_
    refine xok_call (t78 hS h tx4 e124) ?_
    intro M125 h126
    obtain ⟨v129, q130, e⟩ := xbnd e
    refine xok_eqb (h126.gr (by decide) (by decide) q130) ?_
    obtain ⟨v131, q132, e⟩ := xbnd e
    refine xok_eqb (h126.ar q132) ?_
    obtain ⟨v133, q134, e⟩ := xbnd e
    refine xok_eqb (h126.gr (by decide) (by decide) q134) ?_
    obtain ⟨v135, q136, e⟩ := xbnd e
    refine xok_eqb (h126.ar q136) ?_
    obtain ⟨v137, q138, e⟩ := xbnd e
    refine xok_eqb (h126.gr (by decide) (by decide) q138) ?_
    obtain ⟨_, q144, e⟩ := xbnd e
    obtain ⟨R139, e140, e⟩ := xbnd e
    refine xok_eqb (h126.is q144) ?_
    refine xok_call (t74 hS h126  e140) ?_
    rintro ⟨v_, M141⟩ ⟨hv_, h142, hi143⟩
    cases hv_
    obtain ⟨v145, q146, e⟩ := xbnd e
    refine xok_eqb (h142.gr (by decide) (by decide) q146) ?_
    obtain ⟨_, q152, e⟩ := xbnd e
    obtain ⟨R147, e148, e⟩ := xbnd e
    refine xok_eqb (h142.is q152) ?_
    refine xok_call (t76 hS h142 (xin_wr _) tx2 e148) ?_
    intro M149 h150
    exact hr29 h150 tx1 tx2 tx3 (xin_wr _) e
theorem t154_29 {m f : Nat} {M0 : xj_M} (hS : xHS f) {r2 : Nat → Int → Int → Int → xT_ → Option (xT_)} {o2 : Nat → Int → Int → Int → xj_M → Option (xj_M)} (hr2 : ∀ {M : xj_M} {T : xT_} {x0 : Nat} {x1 : Int} {x2 : Int} {x3 : Int} {R : xT_}, xCX m M0 M T → xin x1 → xin x2 → xin x3 → r2 x0 x1 x2 x3 T = some R → xok (o2 x0 x1 x2 x3 M) (fun r => xCX m M0 r R)) : ∀ {n : Nat} {M : xj_M} {T : xT_} {x0 : Nat} {x1 : Int} {x2 : Int} {x3 : Int} {x4 : Int} {R : xT_}, xCX m M0 M T → xin x1 → xin x2 → xin x3 → xin x4 → c154_29 r2 f n x0 x1 x2 x3 x4 T = some R → xok (f154_29 o2 f n x0 x1 x2 x3 x4 M) (fun r => xCX m M0 r R) := by
  intro n
  induction n with
  | zero => intros; rename_i e; cases e
  | succ n ih =>
    intros
    rename_i h i0 i1 i2 i3 e
    exact t154_29b hS @hr2 @ih h i0 i1 i2 i3 e
theorem t154_2b {m f : Nat} {M0 M : xj_M} {T : xT_} (hS : xHS f) {r2 : Nat → Int → Int → Int → xT_ → Option (xT_)} {o2 : Nat → Int → Int → Int → xj_M → Option (xj_M)} (hr2 : ∀ {M : xj_M} {T : xT_} {x0 : Nat} {x1 : Int} {x2 : Int} {x3 : Int} {R : xT_}, xCX m M0 M T → xin x1 → xin x2 → xin x3 → r2 x0 x1 x2 x3 T = some R → xok (o2 x0 x1 x2 x3 M) (fun r => xCX m M0 r R)) (h : xCX m M0 M T) {x0 : Nat} {x1 : Int} {x2 : Int} {x3 : Int} {R : xT_} (tx1 : xin x1) (tx2 : xin x2) (tx3 : xin x3) (e : c154_2b r2 f x0 x1 x2 x3 T = some R) : xok (f154_2b o2 f x0 x1 x2 x3 M) (fun r => xCX m M0 r R) := by
  unfold c154_2b at e
  unfold f154_2b
  obtain ⟨v153, q154, e⟩ := xbnd e
  refine xok_eqb (h.gr (by decide) (by decide) q154) ?_
  obtain ⟨v155, q156, e⟩ := xbnd e
  refine xok_eqb (h.gi (by decide) (by decide) q156).1 ?_
  refine xok_ite (fun c157 => ?_) (fun c157 => ?_)
  · rw [if_pos c157] at e
    cases e
    exact ⟨_, rfl, h⟩
  · rw [if_neg c157] at e
    obtain ⟨v158, q159, e⟩ := xbnd e
    refine xok_eqb (h.gr (by decide) (by decide) q159) ?_
    obtain ⟨v160, q161, e⟩ := xbnd e
    refine xok_eqb (h.gr (by decide) (by decide) q161) ?_
    obtain ⟨v162, q163, e⟩ := xbnd e
    refine xok_eqb (h.ai (by decide) q163).1 ?_
    refine xok_ite (fun c164 => ?_) (fun c164 => ?_)
    · rw [if_pos c164] at e
      exact t154_103 (r2 := r2) (o2 := o2) hS @hr2 h tx1 tx2 tx3 e
    · rw [if_neg c164] at e
      exact t154_29 (r2 := r2) (o2 := o2) hS @hr2 h tx1 tx2 tx3 (show xin (0) by decide) e
theorem t154_2 {m f : Nat} {M0 : xj_M} (hS : xHS f)   : ∀ {n : Nat} {M : xj_M} {T : xT_} {x0 : Nat} {x1 : Int} {x2 : Int} {x3 : Int} {R : xT_}, xCX m M0 M T → xin x1 → xin x2 → xin x3 → c154_2  f n x0 x1 x2 x3 T = some R → xok (f154_2  f n x0 x1 x2 x3 M) (fun r => xCX m M0 r R) := by
  intro n
  induction n with
  | zero => intros; rename_i e; cases e
  | succ n ih =>
    intros
    rename_i h i0 i1 i2 e
    exact t154_2b hS  @ih h i0 i1 i2 e
theorem t154 {m f : Nat} {M0 M : xj_M} {T : xT_} (hS : xHS f) (h : xCX m M0 M T) {a0 : Nat} {a1 : Int} {a2 : Int} {R : xT_} (ta1 : xin a1) (ta2 : xin a2) (e : c154 f a0 a1 a2 T = some R) : xok (f154 f a0 a1 a2 M) (fun r => xCX m M0 r R) := by
  unfold c154 at e
  unfold f154
  exact t154_2  hS  h ta1 ta2 (show xin (0) by decide) e
-- ChangeHouse$Works.give
theorem t156_28 {m f : Nat} {M0 M : xj_M} {T : xT_} (hS : xHS f)   (h : xCX m M0 M T)  {R : Int × xT_}  (e : c156_28  f  T = some R) : xok (f156_28  f  M) (fun r => r.1 = R.1 ∧ xCX m M0 r.2 R.2 ∧ xin R.1) := by
  unfold c156_28 at e
  unfold f156_28
  cases e
  exact ⟨_, rfl, rfl, h, (show xin (1) by decide)⟩
theorem t156 {m f : Nat} {M0 M : xj_M} {T : xT_} (hS : xHS f) (h : xCX m M0 M T) {a0 : Nat} {a1 : Int} {a2 : Nat} {R : Int × xT_} (ta1 : xin a1) (e : c156 f a0 a1 a2 T = some R) : xok (f156 f a0 a1 a2 M) (fun r => r.1 = R.1 ∧ xCX m M0 r.2 R.2 ∧ xin R.1) := by
  unfold c156 at e
  unfold f156
  obtain ⟨v101, q102, e⟩ := xbnd e
  refine xok_eqb (h.gr (by decide) (by decide) q102) ?_
  obtain ⟨v103, q104, e⟩ := xbnd e
  refine xok_eqb (h.ar q104) ?_
  obtain ⟨_, q110, e⟩ := xbnd e
  obtain ⟨R105, e106, e⟩ := xbnd e
  refine xok_eqb (h.is q110) ?_
  refine xok_call (t74 hS h  e106) ?_
  rintro ⟨v_, M107⟩ ⟨hv_, h108, hi109⟩
  cases hv_
  refine xok_ite (fun c111 => ?_) (fun c111 => ?_)
  · rw [if_pos c111] at e
    exact t156_28  hS  h108  e
  · rw [if_neg c111] at e
    obtain ⟨v112, q113, e⟩ := xbnd e
    refine xok_eqb (h108.gr (by decide) (by decide) q113) ?_
    obtain ⟨v114, q115, e⟩ := xbnd e
    refine xok_eqb (h108.ar q115) ?_
    obtain ⟨_, q121, e⟩ := xbnd e
    obtain ⟨R116, e117, e⟩ := xbnd e
    refine xok_eqb (h108.is q121) ?_
    refine xok_call (t74 hS h108  e117) ?_
    rintro ⟨v_, M118⟩ ⟨hv_, h119, hi120⟩
    cases hv_
    refine xok_ite (fun c122 => ?_) (fun c122 => ?_)
    · rw [if_pos c122] at e
      obtain ⟨v123, q124, e⟩ := xbnd e
      refine xok_eqb (h119.gr (by decide) (by decide) q124) ?_
      obtain ⟨v125, q126, e⟩ := xbnd e
      refine xok_eqb (h119.ar q126) ?_
      obtain ⟨v127, q128, e⟩ := xbnd e
      refine xok_eqb (h119.gi (by decide) (by decide) q128).1 ?_
      obtain ⟨v129, q130, e⟩ := xbnd e
      refine xok_eqb (h119.gr (by decide) (by decide) q130) ?_
      obtain ⟨v131, q132, e⟩ := xbnd e
      refine xok_eqb (h119.ar q132) ?_
      obtain ⟨v133, q134, e⟩ := xbnd e
      refine xok_eqb (h119.gi (by decide) (by decide) q134).1 ?_
      refine xok_ite (fun c135 => ?_) (fun c135 => ?_)
      · rw [if_pos c135] at e
        obtain ⟨v136, q137, e⟩ := xbnd e
        refine xok_eqb (h119.gr (by decide) (by decide) q137) ?_
        obtain ⟨v138, q139, e⟩ := xbnd e
        refine xok_eqb (h119.ar q139) ?_
        obtain ⟨_, q145, e⟩ := xbnd e
        obtain ⟨R140, e141, e⟩ := xbnd e
        refine xok_eqb (h119.is q145) ?_
        refine xok_call (t76 hS h119 (xin_wr _) (show xin (0) by decide) e141) ?_
        intro M142 h143
        obtain ⟨v146, q147, e⟩ := xbnd e
        refine xok_eqb (h143.gi (by decide) (by decide) q147).1 ?_
        obtain ⟨T149, q148, e⟩ := xbnd e
        obtain ⟨M150, q151, h152⟩ := h143.pi (by decide) (by decide) (xin_wr _) q148
        refine xok_eqb q151 ?_
        cases e
        exact ⟨_, rfl, rfl, h152, (show xin (1) by decide)⟩
      · rw [if_neg c135] at e
        cases e
        exact ⟨_, rfl, rfl, h119, (show xin (0) by decide)⟩
    · rw [if_neg c122] at e
      exact t156_28  hS  h119  e
-- ChangeHouse$Works.isAboveFloor
theorem t158_44 {m f : Nat} {M0 M : xj_M} {T : xT_} (hS : xHS f)   (h : xCX m M0 M T) {y0 : Int} {R : Int × xT_} (ty0 : xin y0) (e : c158_44  f y0 T = some R) : xok (f158_44  f y0 M) (fun r => r.1 = R.1 ∧ xCX m M0 r.2 R.2 ∧ xin R.1) := by
  unfold c158_44 at e
  unfold f158_44
  refine xok_ite (fun c101 => ?_) (fun c101 => ?_)
  · rw [if_pos c101] at e; cases e; exact ⟨_, rfl, rfl, h, ty0⟩
  · rw [if_neg c101] at e; cases e
theorem t158_2b {m f : Nat} {M0 M : xj_M} {T : xT_} (hS : xHS f) {r2 : Nat → Int → Int → xT_ → Option (Int × xT_)} {o2 : Nat → Int → Int → xj_M → Option (Int × xj_M)} (hr2 : ∀ {M : xj_M} {T : xT_} {x0 : Nat} {x1 : Int} {x2 : Int} {R : Int × xT_}, xCX m M0 M T → xin x1 → xin x2 → r2 x0 x1 x2 T = some R → xok (o2 x0 x1 x2 M) (fun r => r.1 = R.1 ∧ xCX m M0 r.2 R.2 ∧ xin R.1)) (h : xCX m M0 M T) {x0 : Nat} {x1 : Int} {x2 : Int} {R : Int × xT_} (tx1 : xin x1) (tx2 : xin x2) (e : c158_2b r2 f x0 x1 x2 T = some R) : xok (f158_2b o2 f x0 x1 x2 M) (fun r => r.1 = R.1 ∧ xCX m M0 r.2 R.2 ∧ xin R.1) := by
  unfold c158_2b at e
  unfold f158_2b
  refine xok_ite (fun c102 => ?_) (fun c102 => ?_)
  · rw [if_pos c102] at e
    cases e
    exact ⟨_, rfl, rfl, h, (show xin (0) by decide)⟩
  · rw [if_neg c102] at e
    obtain ⟨v103, q104, e⟩ := xbnd e
    refine xok_eqb (h.gr (by decide) (by decide) q104) ?_
    obtain ⟨v105, q106, e⟩ := xbnd e
    refine xok_eqb (h.al q106).1 ?_
    obtain ⟨v107, q108, e⟩ := xbnd e
    refine xok_eqb (h.gr (by decide) (by decide) q108) ?_
    obtain ⟨v109, q110, e⟩ := xbnd e
    refine xok_eqb (h.al q110).1 ?_
    refine xok_ite (fun c111 => ?_) (fun c111 => ?_)
    · rw [if_pos c111] at e
      exact hr2 h tx1 (xin_wr _) e
    · rw [if_neg c111] at e
      obtain ⟨v112, q113, e⟩ := xbnd e
      refine xok_eqb (h.gr (by decide) (by decide) q113) ?_
      obtain ⟨v114, q115, e⟩ := xbnd e
      refine xok_eqb (h.al q115).1 ?_
      obtain ⟨v116, q117, e⟩ := xbnd e
      refine xok_eqb (h.gr (by decide) (by decide) q117) ?_
      obtain ⟨v118, q119, e⟩ := xbnd e
      refine xok_eqb (h.al q119).1 ?_
      refine xok_ite (fun c120 => ?_) (fun c120 => ?_)
      · rw [if_pos c120] at e
        exact t158_44  hS  h (show xin (0) by decide) e
      · rw [if_neg c120] at e
        exact t158_44  hS  h (show xin (1) by decide) e
theorem t158_2 {m f : Nat} {M0 : xj_M} (hS : xHS f)   : ∀ {n : Nat} {M : xj_M} {T : xT_} {x0 : Nat} {x1 : Int} {x2 : Int} {R : Int × xT_}, xCX m M0 M T → xin x1 → xin x2 → c158_2  f n x0 x1 x2 T = some R → xok (f158_2  f n x0 x1 x2 M) (fun r => r.1 = R.1 ∧ xCX m M0 r.2 R.2 ∧ xin R.1) := by
  intro n
  induction n with
  | zero => intros; rename_i e; cases e
  | succ n ih =>
    intros
    rename_i h i0 i1 e
    exact t158_2b hS  @ih h i0 i1 e
theorem t158 {m f : Nat} {M0 M : xj_M} {T : xT_} (hS : xHS f) (h : xCX m M0 M T) {a0 : Nat} {a1 : Int} {R : Int × xT_} (ta1 : xin a1) (e : c158 f a0 a1 T = some R) : xok (f158 f a0 a1 M) (fun r => r.1 = R.1 ∧ xCX m M0 r.2 R.2 ∧ xin R.1) := by
  unfold c158 at e
  unfold f158
  exact t158_2  hS  h ta1 (show xin (0) by decide) e
-- ChangeHouse$Works.gatherTwo
theorem t160_31 {m f : Nat} {M0 M : xj_M} {T : xT_} (hS : xHS f)   (h : xCX m M0 M T) {y0 : Int} {R : Int × xT_} (ty0 : xiN y0) (e : c160_31  f y0 T = some R) : xok (f160_31  f y0 M) (fun r => r.1 = R.1 ∧ xCX m M0 r.2 R.2 ∧ xiN R.1) := by
  unfold c160_31 at e
  unfold f160_31
  cases e
  exact ⟨_, rfl, rfl, h, ty0⟩
theorem t160 {m f : Nat} {M0 M : xj_M} {T : xT_} (hS : xHS f) (h : xCX m M0 M T) {a0 : Int} {a1 : Int} {a2 : Int} {R : Int × xT_} (ta0 : xin a0) (ta1 : xiN a1) (ta2 : xiN a2) (e : c160 f a0 a1 a2 T = some R) : xok (f160 f a0 a1 a2 M) (fun r => r.1 = R.1 ∧ xCX m M0 r.2 R.2 ∧ xiN R.1) := by
  unfold c160 at e
  unfold f160
  refine xok_ite (fun c101 => ?_) (fun c101 => ?_)
  · rw [if_pos c101] at e
    refine xok_ite (fun c102 => ?_) (fun c102 => ?_)
    · rw [if_pos c102] at e
      exact t160_31  hS  h (xiN_wl _) e
    · rw [if_neg c102] at e
      exact t160_31  hS  h (xmax_iN ta1 ta2) e
  · rw [if_neg c101] at e
    exact t160_31  hS  h (xmin_iN ta1 ta2) e
-- ChangeHouse$Works.outcome
theorem t162_149 {m f : Nat} {M0 M : xj_M} {T : xT_} (hS : xHS f) {r17 : Nat → Nat → Int → Nat → Int → Int → xT_ → Option (Nat × xT_)} {o17 : Nat → Nat → Int → Nat → Int → Int → xj_M → Option (Nat × xj_M)} (hr17 : ∀ {M : xj_M} {T : xT_} {x0 : Nat} {x1 : Nat} {x2 : Int} {x3 : Nat} {x4 : Int} {x5 : Int} {R : Nat × xT_}, xCX m M0 M T → xin x2 → xin x4 → xin x5 → r17 x0 x1 x2 x3 x4 x5 T = some R → xok (o17 x0 x1 x2 x3 x4 x5 M) (fun r => r.1 = R.1 ∧ xCX m M0 r.2 R.2)) (h : xCX m M0 M T) {x0 : Nat} {x1 : Nat} {x2 : Int} {x3 : Nat} {x5 : Int} {y0 : Int} {y1 : Int} {R : Nat × xT_} (tx2 : xin x2) (tx5 : xin x5) (ty0 : xin y0) (ty1 : xin y1) (e : c162_149 r17 f x0 x1 x2 x3 x5 y0 y1 T = some R) : xok (f162_149 o17 f x0 x1 x2 x3 x5 y0 y1 M) (fun r => r.1 = R.1 ∧ xCX m M0 r.2 R.2) := by
  unfold c162_149 at e
  unfold f162_149
  exact hr17 h tx2 (xin_wr _) (xin_wr _) e
theorem t162_123 {m f : Nat} {M0 M : xj_M} {T : xT_} (hS : xHS f) {r17 : Nat → Nat → Int → Nat → Int → Int → xT_ → Option (Nat × xT_)} {o17 : Nat → Nat → Int → Nat → Int → Int → xj_M → Option (Nat × xj_M)} (hr17 : ∀ {M : xj_M} {T : xT_} {x0 : Nat} {x1 : Nat} {x2 : Int} {x3 : Nat} {x4 : Int} {x5 : Int} {R : Nat × xT_}, xCX m M0 M T → xin x2 → xin x4 → xin x5 → r17 x0 x1 x2 x3 x4 x5 T = some R → xok (o17 x0 x1 x2 x3 x4 x5 M) (fun r => r.1 = R.1 ∧ xCX m M0 r.2 R.2)) (h : xCX m M0 M T) {x0 : Nat} {x1 : Nat} {x2 : Int} {x3 : Nat} {x4 : Int} {x5 : Int} {x6 : Int} {y0 : Nat} {y1 : Int} {y2 : Nat} {R : Nat × xT_} (tx2 : xin x2) (tx4 : xin x4) (tx5 : xin x5) (tx6 : xin x6) (ty1 : xin y1) (e : c162_123 r17 f x0 x1 x2 x3 x4 x5 x6 y0 y1 y2 T = some R) : xok (f162_123 o17 f x0 x1 x2 x3 x4 x5 x6 y0 y1 y2 M) (fun r => r.1 = R.1 ∧ xCX m M0 r.2 R.2) := by
  unfold c162_123 at e
  unfold f162_123
  obtain ⟨T102, q101, e⟩ := xbnd e
  obtain ⟨M103, q104, h105⟩ := h.sr  q101
  refine xok_eqb q104 ?_
  refine xok_ite (fun c106 => ?_) (fun c106 => ?_)
  · rw [if_pos c106] at e
    obtain ⟨v107, q108, e⟩ := xbnd e
    refine xok_eqb (h105.ar q108) ?_
    obtain ⟨v109, q110, e⟩ := xbnd e
    refine xok_eqb (h105.gr (by decide) (by decide) q110) ?_
    obtain ⟨v111, q112, e⟩ := xbnd e
    refine xok_eqb (h105.ar q112) ?_
    obtain ⟨_, q118, e⟩ := xbnd e
    obtain ⟨R113, e114, e⟩ := xbnd e
    refine xok_eqb (h105.is q118) ?_
    refine xok_call (t83 hS h105  e114) ?_
    rintro ⟨v_, M115⟩ ⟨hv_, h116, hi117⟩
    cases hv_
    exact t162_149 (r17 := r17) (o17 := o17) hS @hr17 h116 tx2 tx5 hi117 tx4 e
  · rw [if_neg c106] at e
    exact t162_149 (r17 := r17) (o17 := o17) hS @hr17 h105 tx2 tx5 (show xin (0) by decide) tx4 e
theorem t162_66 {m f : Nat} {M0 M : xj_M} {T : xT_} (hS : xHS f) {r17 : Nat → Nat → Int → Nat → Int → Int → xT_ → Option (Nat × xT_)} {o17 : Nat → Nat → Int → Nat → Int → Int → xj_M → Option (Nat × xj_M)} (hr17 : ∀ {M : xj_M} {T : xT_} {x0 : Nat} {x1 : Nat} {x2 : Int} {x3 : Nat} {x4 : Int} {x5 : Int} {R : Nat × xT_}, xCX m M0 M T → xin x2 → xin x4 → xin x5 → r17 x0 x1 x2 x3 x4 x5 T = some R → xok (o17 x0 x1 x2 x3 x4 x5 M) (fun r => r.1 = R.1 ∧ xCX m M0 r.2 R.2)) (h : xCX m M0 M T) {x0 : Nat} {x1 : Nat} {x2 : Int} {x3 : Nat} {x4 : Int} {x5 : Int} {y0 : Int} {R : Nat × xT_} (tx2 : xin x2) (tx4 : xin x4) (tx5 : xin x5) (ty0 : xin y0) (e : c162_66 r17 f x0 x1 x2 x3 x4 x5 y0 T = some R) : xok (f162_66 o17 f x0 x1 x2 x3 x4 x5 y0 M) (fun r => r.1 = R.1 ∧ xCX m M0 r.2 R.2) := by
  unfold c162_66 at e
  unfold f162_66
  refine xok_ite (fun c119 => ?_) (fun c119 => ?_)
  · rw [if_pos c119] at e
    obtain ⟨v120, q121, e⟩ := xbnd e
    refine xok_eqb (h.gr (by decide) (by decide) q121) ?_
    obtain ⟨v122, q123, e⟩ := xbnd e
    refine xok_eqb (h.ar q123) ?_
    obtain ⟨v124, q125, e⟩ := xbnd e
    refine xok_eqb (h.gr (by decide) (by decide) q125) ?_
    obtain ⟨v126, q127, e⟩ := xbnd e
    refine xok_eqb (h.ar q127) ?_
    refine xok_ite (fun c129 => ?_) (fun c129 => ?_)
    · rw [if_pos c129] at e
      refine xok_ite (fun c128 => ?_) (fun c128 => ?_)
      · rw [if_pos c128] at e
        obtain ⟨v130, q131, e⟩ := xbnd e
        refine xok_eqb (h.gr (by decide) (by decide) q131) ?_
        obtain ⟨v132, q133, e⟩ := xbnd e
        refine xok_eqb (h.ar q133) ?_
        obtain ⟨_, q139, e⟩ := xbnd e
        obtain ⟨R134, e135, e⟩ := xbnd e
        refine xok_eqb (h.is q139) ?_
        refine xok_call (t80 hS h  e135) ?_
        rintro ⟨v_, M136⟩ ⟨hv_, h137⟩
        cases hv_
        exact t162_123 (r17 := r17) (o17 := o17) hS @hr17 h137 tx2 tx4 tx5 ty0 tx5 e
      · rw [if_neg c128] at e
        obtain ⟨v140, q141, e⟩ := xbnd e
        refine xok_eqb (h.gr (by decide) (by decide) q141) ?_
        obtain ⟨v142, q143, e⟩ := xbnd e
        refine xok_eqb (h.ar q143) ?_
        exact t162_123 (r17 := r17) (o17 := o17) hS @hr17 h tx2 tx4 tx5 ty0 tx5 e
    · rw [if_neg c129] at e; cases e
  · rw [if_neg c119] at e
    obtain ⟨v144, q145, e⟩ := xbnd e
    refine xok_eqb (h.gr (by decide) (by decide) q145) ?_
    obtain ⟨v146, q147, e⟩ := xbnd e
    refine xok_eqb (h.ar q147) ?_
    exact t162_123 (r17 := r17) (o17 := o17) hS @hr17 h tx2 tx4 tx5 ty0 tx5 e
theorem t162_65 {m f : Nat} {M0 M : xj_M} {T : xT_} (hS : xHS f) {r17 : Nat → Nat → Int → Nat → Int → Int → xT_ → Option (Nat × xT_)} {o17 : Nat → Nat → Int → Nat → Int → Int → xj_M → Option (Nat × xj_M)} (hr17 : ∀ {M : xj_M} {T : xT_} {x0 : Nat} {x1 : Nat} {x2 : Int} {x3 : Nat} {x4 : Int} {x5 : Int} {R : Nat × xT_}, xCX m M0 M T → xin x2 → xin x4 → xin x5 → r17 x0 x1 x2 x3 x4 x5 T = some R → xok (o17 x0 x1 x2 x3 x4 x5 M) (fun r => r.1 = R.1 ∧ xCX m M0 r.2 R.2)) (h : xCX m M0 M T) {x0 : Nat} {x1 : Nat} {x2 : Int} {x3 : Nat} {x4 : Int} {x5 : Int} {R : Nat × xT_} (tx2 : xin x2) (tx4 : xin x4) (tx5 : xin x5) (e : c162_65 r17 f x0 x1 x2 x3 x4 x5 T = some R) : xok (f162_65 o17 f x0 x1 x2 x3 x4 x5 M) (fun r => r.1 = R.1 ∧ xCX m M0 r.2 R.2) := by
  unfold c162_65 at e
  unfold f162_65
  exact t162_66 (r17 := r17) (o17 := o17) hS @hr17 h tx2 tx4 tx5 (show xin (0) by decide) e
theorem t162_210 {m f : Nat} {M0 M : xj_M} {T : xT_} (hS : xHS f) {r161 : Nat → Nat → Int → Nat → Int → Int → xT_ → Option (Nat × xT_)} {o161 : Nat → Nat → Int → Nat → Int → Int → xj_M → Option (Nat × xj_M)} (hr161 : ∀ {M : xj_M} {T : xT_} {x0 : Nat} {x1 : Nat} {x2 : Int} {x3 : Nat} {x4 : Int} {x5 : Int} {R : Nat × xT_}, xCX m M0 M T → xin x2 → xin x4 → xin x5 → r161 x0 x1 x2 x3 x4 x5 T = some R → xok (o161 x0 x1 x2 x3 x4 x5 M) (fun r => r.1 = R.1 ∧ xCX m M0 r.2 R.2)) (h : xCX m M0 M T) {x0 : Nat} {x1 : Nat} {x2 : Int} {x3 : Nat} {x5 : Int} {y0 : Int} {y1 : Int} {R : Nat × xT_} (tx2 : xin x2) (tx5 : xin x5) (ty0 : xin y0) (ty1 : xin y1) (e : c162_210 r161 f x0 x1 x2 x3 x5 y0 y1 T = some R) : xok (f162_210 o161 f x0 x1 x2 x3 x5 y0 y1 M) (fun r => r.1 = R.1 ∧ xCX m M0 r.2 R.2) := by
  unfold c162_210 at e
  unfold f162_210
  exact hr161 h tx2 (xin_wr _) (xin_wr _) e
theorem t162_251 {m f : Nat} {M0 M : xj_M} {T : xT_} (hS : xHS f)   (h : xCX m M0 M T) {x1 : Nat} {x5 : Nat} {y0 : Int} {y1 : Nat} {R : Nat × xT_} (ty0 : xin y0) (e : c162_251  f x1 x5 y0 y1 T = some R) : xok (f162_251  f x1 x5 y0 y1 M) (fun r => r.1 = R.1 ∧ xCX m M0 r.2 R.2) := by
  unfold c162_251 at e
  unfold f162_251
  obtain ⟨T149, q148, e⟩ := xbnd e
  obtain ⟨M150, q151, h152⟩ := h.pi (by decide) (by decide) ty0 q148
  refine xok_eqb q151 ?_
  obtain ⟨v153, q154, e⟩ := xbnd e
  refine xok_eqb (h152.gi (by decide) (by decide) q154).1 ?_
  obtain ⟨v155, q156, e⟩ := xbnd e
  refine xok_eqb (h152.gi (by decide) (by decide) q156).1 ?_
  obtain ⟨T158, q157, e⟩ := xbnd e
  obtain ⟨M159, q160, h161⟩ := h152.pi (by decide) (by decide) (xin_wr _) q157
  refine xok_eqb q160 ?_
  cases e
  exact ⟨_, rfl, rfl, h161⟩
theorem t162_219 {m f : Nat} {M0 M : xj_M} {T : xT_} (hS : xHS f)   (h : xCX m M0 M T) {x0 : Nat} {x1 : Nat} {x2 : Int} {x3 : Nat} {x4 : Int} {R : Nat × xT_} (tx2 : xin x2) (tx4 : xin x4) (e : c162_219  f x0 x1 x2 x3 x4 T = some R) : xok (f162_219  f x0 x1 x2 x3 x4 M) (fun r => r.1 = R.1 ∧ xCX m M0 r.2 R.2) := by
  unfold c162_219 at e
  unfold f162_219
  obtain ⟨p162, q163, e⟩ := xbnd e
  obtain ⟨M164, q165, h166⟩ := h.nw (by decide +kernel) (by decide +kernel) q163
  refine xok_eqb q165 ?_
  dsimp only
  obtain ⟨v167, q168, e⟩ := xbnd e
  refine xok_eqb (h166.gr (by decide) (by decide) q168) ?_
  obtain ⟨R169, e170, e⟩ := xbnd e
  refine xok_call (t14 hS h166  e170) ?_
  intro M171 h172
  obtain ⟨T175, q174, e⟩ := xbnd e
  obtain ⟨M176, q177, h178⟩ := h172.pi (by decide) (by decide) tx4 q174
  refine xok_eqb q177 ?_
  refine xok_ite (fun c179 => ?_) (fun c179 => ?_)
  · rw [if_pos c179] at e
    exact t162_251  hS  h178 (show xin (0) by decide) e
  · rw [if_neg c179] at e
    exact t162_251  hS  h178 (show xin (1) by decide) e
theorem t162_161b {m f : Nat} {M0 M : xj_M} {T : xT_} (hS : xHS f) {r161 : Nat → Nat → Int → Nat → Int → Int → xT_ → Option (Nat × xT_)} {o161 : Nat → Nat → Int → Nat → Int → Int → xj_M → Option (Nat × xj_M)} (hr161 : ∀ {M : xj_M} {T : xT_} {x0 : Nat} {x1 : Nat} {x2 : Int} {x3 : Nat} {x4 : Int} {x5 : Int} {R : Nat × xT_}, xCX m M0 M T → xin x2 → xin x4 → xin x5 → r161 x0 x1 x2 x3 x4 x5 T = some R → xok (o161 x0 x1 x2 x3 x4 x5 M) (fun r => r.1 = R.1 ∧ xCX m M0 r.2 R.2)) (h : xCX m M0 M T) {x0 : Nat} {x1 : Nat} {x2 : Int} {x3 : Nat} {x4 : Int} {x5 : Int} {R : Nat × xT_} (tx2 : xin x2) (tx4 : xin x4) (tx5 : xin x5) (e : c162_161b r161 f x0 x1 x2 x3 x4 x5 T = some R) : xok (f162_161b o161 f x0 x1 x2 x3 x4 x5 M) (fun r => r.1 = R.1 ∧ xCX m M0 r.2 R.2) := by
  unfold c162_161b at e
  unfold f162_161b
  refine xok_ite (fun c180 => ?_) (fun c180 => ?_)
  · rw [if_pos c180] at e
    exact t162_219  hS  h tx2 tx4 e
  · rw [if_neg c180] at e
    obtain ⟨v181, q182, e⟩ := xbnd e
    refine xok_eqb (h.gr (by decide) (by decide) q182) ?_
    obtain ⟨v183, q184, e⟩ := xbnd e
    refine xok_eqb (h.gi (by decide) (by decide) q184).1 ?_
    refine xok_ite (fun c185 => ?_) (fun c185 => ?_)
    · rw [if_pos c185] at e
      exact t162_219  hS  h tx2 tx4 e
    · rw [if_neg c185] at e
      obtain ⟨v186, q187, e⟩ := xbnd e
      refine xok_eqb (h.gr (by decide) (by decide) q187) ?_
      obtain ⟨v188, q189, e⟩ := xbnd e
      refine xok_eqb (h.gr (by decide) (by decide) q189) ?_
      obtain ⟨_, q195, e⟩ := xbnd e
      obtain ⟨R190, e191, e⟩ := xbnd e
      refine xok_eqb (h.is q195) ?_
      refine xok_call (t21 hS h tx5 e191) ?_
      rintro ⟨v_, M192⟩ ⟨hv_, h193, hi194⟩
      cases hv_
      refine xok_ite (fun c196 => ?_) (fun c196 => ?_)
      · rw [if_pos c196] at e
        exact t162_210 (r161 := r161) (o161 := o161) hS @hr161 h193 tx2 tx5 (show xin (0) by decide) tx4 e
      · rw [if_neg c196] at e
        obtain ⟨v197, q198, e⟩ := xbnd e
        refine xok_eqb (h193.gr (by decide) (by decide) q198) ?_
        obtain ⟨v199, q200, e⟩ := xbnd e
        refine xok_eqb (h193.ar q200) ?_
        obtain ⟨v201, q202, e⟩ := xbnd e
        refine xok_eqb (h193.gi (by decide) (by decide) q202).1 ?_
        exact t162_210 (r161 := r161) (o161 := o161) hS @hr161 h193 tx2 tx5 (h193.gi (by decide) (by decide) q202).2 tx4 e
theorem t162_161 {m f : Nat} {M0 : xj_M} (hS : xHS f)   : ∀ {n : Nat} {M : xj_M} {T : xT_} {x0 : Nat} {x1 : Nat} {x2 : Int} {x3 : Nat} {x4 : Int} {x5 : Int} {R : Nat × xT_}, xCX m M0 M T → xin x2 → xin x4 → xin x5 → c162_161  f n x0 x1 x2 x3 x4 x5 T = some R → xok (f162_161  f n x0 x1 x2 x3 x4 x5 M) (fun r => r.1 = R.1 ∧ xCX m M0 r.2 R.2) := by
  intro n
  induction n with
  | zero => intros; rename_i e; cases e
  | succ n ih =>
    intros
    rename_i h i0 i1 i2 e
    exact t162_161b hS  @ih h i0 i1 i2 e
theorem t162_17b {m f : Nat} {M0 M : xj_M} {T : xT_} (hS : xHS f) {r17 : Nat → Nat → Int → Nat → Int → Int → xT_ → Option (Nat × xT_)} {o17 : Nat → Nat → Int → Nat → Int → Int → xj_M → Option (Nat × xj_M)} (hr17 : ∀ {M : xj_M} {T : xT_} {x0 : Nat} {x1 : Nat} {x2 : Int} {x3 : Nat} {x4 : Int} {x5 : Int} {R : Nat × xT_}, xCX m M0 M T → xin x2 → xin x4 → xin x5 → r17 x0 x1 x2 x3 x4 x5 T = some R → xok (o17 x0 x1 x2 x3 x4 x5 M) (fun r => r.1 = R.1 ∧ xCX m M0 r.2 R.2)) (h : xCX m M0 M T) {x0 : Nat} {x1 : Nat} {x2 : Int} {x3 : Nat} {x4 : Int} {x5 : Int} {R : Nat × xT_} (tx2 : xin x2) (tx4 : xin x4) (tx5 : xin x5) (e : c162_17b r17 f x0 x1 x2 x3 x4 x5 T = some R) : xok (f162_17b o17 f x0 x1 x2 x3 x4 x5 M) (fun r => r.1 = R.1 ∧ xCX m M0 r.2 R.2) := by
  unfold c162_17b at e
  unfold f162_17b
  obtain ⟨v203, q204, e⟩ := xbnd e
  refine xok_eqb (h.gr (by decide) (by decide) q204) ?_
  obtain ⟨v205, q206, e⟩ := xbnd e
  refine xok_eqb (h.gi (by decide) (by decide) q206).1 ?_
  refine xok_ite (fun c207 => ?_) (fun c207 => ?_)
  · rw [if_pos c207] at e
    exact t162_161  hS  h tx2 tx4 (show xin (0) by decide) e
  · rw [if_neg c207] at e
    obtain ⟨v208, q209, e⟩ := xbnd e
    refine xok_eqb (h.gi (by decide) (by decide) q209).1 ?_
    refine xok_ite (fun c210 => ?_) (fun c210 => ?_)
    · rw [if_pos c210] at e
      exact t162_65 (r17 := r17) (o17 := o17) hS @hr17 h tx2 tx4 tx5 e
    · rw [if_neg c210] at e
      obtain ⟨v211, q212, e⟩ := xbnd e
      refine xok_eqb (h.gr (by decide) (by decide) q212) ?_
      obtain ⟨v213, q214, e⟩ := xbnd e
      refine xok_eqb (h.ar q214) ?_
      obtain ⟨v215, q216, e⟩ := xbnd e
      refine xok_eqb (h.gr (by decide) (by decide) q216) ?_
      obtain ⟨v217, q218, e⟩ := xbnd e
      refine xok_eqb (h.ar q218) ?_
      obtain ⟨_, q224, e⟩ := xbnd e
      obtain ⟨R219, e220, e⟩ := xbnd e
      refine xok_eqb (h.is q224) ?_
      refine xok_call (t82 hS h  e220) ?_
      rintro ⟨v_, M221⟩ ⟨hv_, h222, hi223⟩
      cases hv_
      refine xok_ite (fun c225 => ?_) (fun c225 => ?_)
      · rw [if_pos c225] at e
        exact t162_65 (r17 := r17) (o17 := o17) hS @hr17 h222 tx2 tx4 tx5 e
      · rw [if_neg c225] at e
        exact t162_66 (r17 := r17) (o17 := o17) hS @hr17 h222 tx2 tx4 tx5 (show xin (1) by decide) e
theorem t162_17 {m f : Nat} {M0 : xj_M} (hS : xHS f)   : ∀ {n : Nat} {M : xj_M} {T : xT_} {x0 : Nat} {x1 : Nat} {x2 : Int} {x3 : Nat} {x4 : Int} {x5 : Int} {R : Nat × xT_}, xCX m M0 M T → xin x2 → xin x4 → xin x5 → c162_17  f n x0 x1 x2 x3 x4 x5 T = some R → xok (f162_17  f n x0 x1 x2 x3 x4 x5 M) (fun r => r.1 = R.1 ∧ xCX m M0 r.2 R.2) := by
  intro n
  induction n with
  | zero => intros; rename_i e; cases e
  | succ n ih =>
    intros
    rename_i h i0 i1 i2 e
    exact t162_17b hS  @ih h i0 i1 i2 e
theorem t162 {m f : Nat} {M0 M : xj_M} {T : xT_} (hS : xHS f) (h : xCX m M0 M T) {a0 : Nat} {a1 : Nat} {a2 : Int} {R : Nat × xT_} (ta2 : xin a2) (e : c162 f a0 a1 a2 T = some R) : xok (f162 f a0 a1 a2 M) (fun r => r.1 = R.1 ∧ xCX m M0 r.2 R.2) := by
  unfold c162 at e
  unfold f162
  obtain ⟨v226, q227, e⟩ := xbnd e
  refine xok_eqb (h.gr (by decide) (by decide) q227) ?_
  obtain ⟨v228, q229, e⟩ := xbnd e
  refine xok_eqb (h.gi (by decide) (by decide) q229).1 ?_
  obtain ⟨p230, q231, e⟩ := xbnd e
  obtain ⟨M232, q233, h234⟩ := h.an q231
  refine xok_eqb q233 ?_
  dsimp only
  exact t162_17  hS  h234 ta2 (show xin (0) by decide) (show xin (0) by decide) e
-- ChangeHouse$Works.isGiven
theorem t165_36 {m f : Nat} {M0 M : xj_M} {T : xT_} (hS : xHS f) {r2 : Nat → Nat → Int → xT_ → Option (Int × xT_)} {o2 : Nat → Nat → Int → xj_M → Option (Int × xj_M)} (hr2 : ∀ {M : xj_M} {T : xT_} {x0 : Nat} {x1 : Nat} {x2 : Int} {R : Int × xT_}, xCX m M0 M T → xin x2 → r2 x0 x1 x2 T = some R → xok (o2 x0 x1 x2 M) (fun r => r.1 = R.1 ∧ xCX m M0 r.2 R.2 ∧ xin R.1)) (h : xCX m M0 M T) {x0 : Nat} {x1 : Nat} {x2 : Int} {R : Int × xT_} (tx2 : xin x2) (e : c165_36 r2 f x0 x1 x2 T = some R) : xok (f165_36 o2 f x0 x1 x2 M) (fun r => r.1 = R.1 ∧ xCX m M0 r.2 R.2 ∧ xin R.1) := by
  unfold c165_36 at e
  unfold f165_36
  exact hr2 h (xin_wr _) e
theorem t165_2b {m f : Nat} {M0 M : xj_M} {T : xT_} (hS : xHS f) {r2 : Nat → Nat → Int → xT_ → Option (Int × xT_)} {o2 : Nat → Nat → Int → xj_M → Option (Int × xj_M)} (hr2 : ∀ {M : xj_M} {T : xT_} {x0 : Nat} {x1 : Nat} {x2 : Int} {R : Int × xT_}, xCX m M0 M T → xin x2 → r2 x0 x1 x2 T = some R → xok (o2 x0 x1 x2 M) (fun r => r.1 = R.1 ∧ xCX m M0 r.2 R.2 ∧ xin R.1)) (h : xCX m M0 M T) {x0 : Nat} {x1 : Nat} {x2 : Int} {R : Int × xT_} (tx2 : xin x2) (e : c165_2b r2 f x0 x1 x2 T = some R) : xok (f165_2b o2 f x0 x1 x2 M) (fun r => r.1 = R.1 ∧ xCX m M0 r.2 R.2 ∧ xin R.1) := by
  unfold c165_2b at e
  unfold f165_2b
  obtain ⟨v101, q102, e⟩ := xbnd e
  refine xok_eqb (h.gi (by decide) (by decide) q102).1 ?_
  refine xok_ite (fun c103 => ?_) (fun c103 => ?_)
  · rw [if_pos c103] at e
    cases e
    exact ⟨_, rfl, rfl, h, (show xin (1) by decide)⟩
  · rw [if_neg c103] at e
    obtain ⟨v104, q105, e⟩ := xbnd e
    refine xok_eqb (h.gi (by decide) (by decide) q105).1 ?_
    refine xok_ite (fun c106 => ?_) (fun c106 => ?_)
    · rw [if_pos c106] at e
      exact t165_36 (r2 := r2) (o2 := o2) hS @hr2 h tx2 e
    · rw [if_neg c106] at e
      obtain ⟨v107, q108, e⟩ := xbnd e
      refine xok_eqb (h.gr (by decide) (by decide) q108) ?_
      obtain ⟨v109, q110, e⟩ := xbnd e
      refine xok_eqb (h.al q110).1 ?_
      obtain ⟨v111, q112, e⟩ := xbnd e
      refine xok_eqb (h.gr (by decide) (by decide) q112) ?_
      obtain ⟨v113, q114, e⟩ := xbnd e
      refine xok_eqb (h.al q114).1 ?_
      refine xok_ite (fun c115 => ?_) (fun c115 => ?_)
      · rw [if_pos c115] at e
        exact t165_36 (r2 := r2) (o2 := o2) hS @hr2 h tx2 e
      · rw [if_neg c115] at e
        cases e
        exact ⟨_, rfl, rfl, h, (show xin (0) by decide)⟩
theorem t165_2 {m f : Nat} {M0 : xj_M} (hS : xHS f)   : ∀ {n : Nat} {M : xj_M} {T : xT_} {x0 : Nat} {x1 : Nat} {x2 : Int} {R : Int × xT_}, xCX m M0 M T → xin x2 → c165_2  f n x0 x1 x2 T = some R → xok (f165_2  f n x0 x1 x2 M) (fun r => r.1 = R.1 ∧ xCX m M0 r.2 R.2 ∧ xin R.1) := by
  intro n
  induction n with
  | zero => intros; rename_i e; cases e
  | succ n ih =>
    intros
    rename_i h i0 e
    exact t165_2b hS  @ih h i0 e
theorem t165 {m f : Nat} {M0 M : xj_M} {T : xT_} (hS : xHS f) (h : xCX m M0 M T) {a0 : Nat} {a1 : Nat} {R : Int × xT_}  (e : c165 f a0 a1 T = some R) : xok (f165 f a0 a1 M) (fun r => r.1 = R.1 ∧ xCX m M0 r.2 R.2 ∧ xin R.1) := by
  unfold c165 at e
  unfold f165
  exact t165_2  hS  h (show xin (0) by decide) e
-- ChangeHouse$Works.isBelowBest
theorem t166_50 {m f : Nat} {M0 M : xj_M} {T : xT_} (hS : xHS f)   (h : xCX m M0 M T) {y0 : Int} {R : Int × xT_} (ty0 : xin y0) (e : c166_50  f y0 T = some R) : xok (f166_50  f y0 M) (fun r => r.1 = R.1 ∧ xCX m M0 r.2 R.2 ∧ xin R.1) := by
  unfold c166_50 at e
  unfold f166_50
  refine xok_ite (fun c101 => ?_) (fun c101 => ?_)
  · rw [if_pos c101] at e; cases e; exact ⟨_, rfl, rfl, h, ty0⟩
  · rw [if_neg c101] at e; cases e
theorem t166_2b {m f : Nat} {M0 M : xj_M} {T : xT_} (hS : xHS f) {r2 : Nat → Int → Int → xT_ → Option (Int × xT_)} {o2 : Nat → Int → Int → xj_M → Option (Int × xj_M)} (hr2 : ∀ {M : xj_M} {T : xT_} {x0 : Nat} {x1 : Int} {x2 : Int} {R : Int × xT_}, xCX m M0 M T → xin x1 → xin x2 → r2 x0 x1 x2 T = some R → xok (o2 x0 x1 x2 M) (fun r => r.1 = R.1 ∧ xCX m M0 r.2 R.2 ∧ xin R.1)) (h : xCX m M0 M T) {x0 : Nat} {x1 : Int} {x2 : Int} {R : Int × xT_} (tx1 : xin x1) (tx2 : xin x2) (e : c166_2b r2 f x0 x1 x2 T = some R) : xok (f166_2b o2 f x0 x1 x2 M) (fun r => r.1 = R.1 ∧ xCX m M0 r.2 R.2 ∧ xin R.1) := by
  unfold c166_2b at e
  unfold f166_2b
  refine xok_ite (fun c102 => ?_) (fun c102 => ?_)
  · rw [if_pos c102] at e
    cases e
    exact ⟨_, rfl, rfl, h, (show xin (0) by decide)⟩
  · rw [if_neg c102] at e
    obtain ⟨v103, q104, e⟩ := xbnd e
    refine xok_eqb (h.gr (by decide) (by decide) q104) ?_
    obtain ⟨v105, q106, e⟩ := xbnd e
    refine xok_eqb (h.gr (by decide) (by decide) q106) ?_
    obtain ⟨v107, q108, e⟩ := xbnd e
    refine xok_eqb (h.al q108).1 ?_
    obtain ⟨v109, q110, e⟩ := xbnd e
    refine xok_eqb (h.gr (by decide) (by decide) q110) ?_
    obtain ⟨v111, q112, e⟩ := xbnd e
    refine xok_eqb (h.al q112).1 ?_
    refine xok_ite (fun c113 => ?_) (fun c113 => ?_)
    · rw [if_pos c113] at e
      exact hr2 h tx1 (xin_wr _) e
    · rw [if_neg c113] at e
      obtain ⟨v114, q115, e⟩ := xbnd e
      refine xok_eqb (h.gr (by decide) (by decide) q115) ?_
      obtain ⟨v116, q117, e⟩ := xbnd e
      refine xok_eqb (h.gr (by decide) (by decide) q117) ?_
      obtain ⟨v118, q119, e⟩ := xbnd e
      refine xok_eqb (h.al q119).1 ?_
      obtain ⟨v120, q121, e⟩ := xbnd e
      refine xok_eqb (h.gr (by decide) (by decide) q121) ?_
      obtain ⟨v122, q123, e⟩ := xbnd e
      refine xok_eqb (h.al q123).1 ?_
      refine xok_ite (fun c124 => ?_) (fun c124 => ?_)
      · rw [if_pos c124] at e
        exact t166_50  hS  h (show xin (0) by decide) e
      · rw [if_neg c124] at e
        exact t166_50  hS  h (show xin (1) by decide) e
theorem t166_2 {m f : Nat} {M0 : xj_M} (hS : xHS f)   : ∀ {n : Nat} {M : xj_M} {T : xT_} {x0 : Nat} {x1 : Int} {x2 : Int} {R : Int × xT_}, xCX m M0 M T → xin x1 → xin x2 → c166_2  f n x0 x1 x2 T = some R → xok (f166_2  f n x0 x1 x2 M) (fun r => r.1 = R.1 ∧ xCX m M0 r.2 R.2 ∧ xin R.1) := by
  intro n
  induction n with
  | zero => intros; rename_i e; cases e
  | succ n ih =>
    intros
    rename_i h i0 i1 e
    exact t166_2b hS  @ih h i0 i1 e
theorem t166 {m f : Nat} {M0 M : xj_M} {T : xT_} (hS : xHS f) (h : xCX m M0 M T) {a0 : Nat} {a1 : Int} {R : Int × xT_} (ta1 : xin a1) (e : c166 f a0 a1 T = some R) : xok (f166 f a0 a1 M) (fun r => r.1 = R.1 ∧ xCX m M0 r.2 R.2 ∧ xin R.1) := by
  unfold c166 at e
  unfold f166
  exact t166_2  hS  h ta1 (show xin (0) by decide) e
-- ChangeHouse.feed
theorem t169 {m f : Nat} {M0 M : xj_M} {T : xT_} (hS : xHS f) (h : xCX m M0 M T) {a0 : Nat} {a1 : Int} {a2 : Int} {a3 : Int} {a4 : Int} {a5 : Int} {R : Int × xT_} (ta1 : xin a1) (ta2 : xin a2) (ta3 : xin a3) (ta4 : xin a4) (ta5 : xin a5) (e : c169 f a0 a1 a2 a3 a4 a5 T = some R) : xok (f169 f a0 a1 a2 a3 a4 a5 M) (fun r => r.1 = R.1 ∧ xCX m M0 r.2 R.2 ∧ xin R.1) := by
  unfold c169 at e
  unfold f169
  obtain ⟨v101, q102, e⟩ := xbnd e
  refine xok_eqb (h.gr (by decide) (by decide) q102) ?_
  obtain ⟨v103, q104, e⟩ := xbnd e
  refine xok_eqb (h.gi (by decide) (by decide) q104).1 ?_
  refine xok_ite (fun c105 => ?_) (fun c105 => ?_)
  · rw [if_pos c105] at e
    obtain ⟨v106, q107, e⟩ := xbnd e
    refine xok_eqb (h.gr (by decide) (by decide) q107) ?_
    obtain ⟨_, q113, e⟩ := xbnd e
    obtain ⟨R108, e109, e⟩ := xbnd e
    refine xok_eqb (h.is q113) ?_
    refine xok_call (t111 hS h ta1 e109) ?_
    intro M110 h111
    obtain ⟨v114, q115, e⟩ := xbnd e
    refine xok_eqb (h111.gr (by decide) (by decide) q115) ?_
    obtain ⟨_, q121, e⟩ := xbnd e
    obtain ⟨R116, e117, e⟩ := xbnd e
    refine xok_eqb (h111.is q121) ?_
    refine xok_call (t111 hS h111 ta2 e117) ?_
    intro M118 h119
    obtain ⟨v122, q123, e⟩ := xbnd e
    refine xok_eqb (h119.gr (by decide) (by decide) q123) ?_
    obtain ⟨_, q129, e⟩ := xbnd e
    obtain ⟨R124, e125, e⟩ := xbnd e
    refine xok_eqb (h119.is q129) ?_
    refine xok_call (t111 hS h119 ta3 e125) ?_
    intro M126 h127
    obtain ⟨v130, q131, e⟩ := xbnd e
    refine xok_eqb (h127.gr (by decide) (by decide) q131) ?_
    obtain ⟨_, q137, e⟩ := xbnd e
    obtain ⟨R132, e133, e⟩ := xbnd e
    refine xok_eqb (h127.is q137) ?_
    refine xok_call (t111 hS h127 ta4 e133) ?_
    intro M134 h135
    obtain ⟨v138, q139, e⟩ := xbnd e
    refine xok_eqb (h135.gr (by decide) (by decide) q139) ?_
    obtain ⟨_, q145, e⟩ := xbnd e
    obtain ⟨R140, e141, e⟩ := xbnd e
    refine xok_eqb (h135.is q145) ?_
    refine xok_call (t111 hS h135 ta5 e141) ?_
    intro M142 h143
    cases e
    exact ⟨_, rfl, rfl, h143, (show xin (1) by decide)⟩
  · rw [if_neg c105] at e
    cases e
    exact ⟨_, rfl, rfl, h, (show xin (0) by decide)⟩
-- ChangeHouse.end
theorem t170_15 {m f : Nat} {M0 M : xj_M} {T : xT_} (hS : xHS f)   (h : xCX m M0 M T)  {R : Int × xT_}  (e : c170_15  f  T = some R) : xok (f170_15  f  M) (fun r => r.1 = R.1 ∧ xCX m M0 r.2 R.2 ∧ xin R.1) := by
  unfold c170_15 at e
  unfold f170_15
  cases e
  exact ⟨_, rfl, rfl, h, (show xin (0) by decide)⟩
theorem t170 {m f : Nat} {M0 M : xj_M} {T : xT_} (hS : xHS f) (h : xCX m M0 M T) {a0 : Nat} {a1 : Int} {R : Int × xT_} (ta1 : xin a1) (e : c170 f a0 a1 T = some R) : xok (f170 f a0 a1 M) (fun r => r.1 = R.1 ∧ xCX m M0 r.2 R.2 ∧ xin R.1) := by
  unfold c170 at e
  unfold f170
  refine xok_ite (fun c101 => ?_) (fun c101 => ?_)
  · rw [if_pos c101] at e
    exact t170_15  hS  h  e
  · rw [if_neg c101] at e
    obtain ⟨v102, q103, e⟩ := xbnd e
    refine xok_eqb (h.gr (by decide) (by decide) q103) ?_
    obtain ⟨v104, q105, e⟩ := xbnd e
    refine xok_eqb (h.gi (by decide) (by decide) q105).1 ?_
    refine xok_ite (fun c106 => ?_) (fun c106 => ?_)
    · rw [if_pos c106] at e
      obtain ⟨v107, q108, e⟩ := xbnd e
      refine xok_eqb (h.gr (by decide) (by decide) q108) ?_
      obtain ⟨T110, q109, e⟩ := xbnd e
      obtain ⟨M111, q112, h113⟩ := h.pi (by decide) (by decide) ta1 q109
      refine xok_eqb q112 ?_
      cases e
      exact ⟨_, rfl, rfl, h113, (show xin (1) by decide)⟩
    · rw [if_neg c106] at e
      exact t170_15  hS  h  e
-- ChangeHouse.place
theorem t171 {m f : Nat} {M0 M : xj_M} {T : xT_} (hS : xHS f) (h : xCX m M0 M T) {a0 : Nat} {R : Int × xT_}  (e : c171 f a0 T = some R) : xok (f171 f a0 M) (fun r => r.1 = R.1 ∧ xCX m M0 r.2 R.2 ∧ xin R.1) := by
  unfold c171 at e
  unfold f171
  obtain ⟨v101, q102, e⟩ := xbnd e
  refine xok_eqb (h.gi (by decide) (by decide) q102).1 ?_
  cases e
  exact ⟨_, rfl, rfl, h, (h.gi (by decide) (by decide) q102).2⟩
-- ChangeHouse.forget
theorem t172 {m f : Nat} {M0 M : xj_M} {T : xT_} (hS : xHS f) (h : xCX m M0 M T) {a0 : Nat} {R : Int × xT_}  (e : c172 f a0 T = some R) : xok (f172 f a0 M) (fun r => r.1 = R.1 ∧ xCX m M0 r.2 R.2 ∧ xin R.1) := by
  unfold c172 at e
  unfold f172
  obtain ⟨v101, q102, e⟩ := xbnd e
  refine xok_eqb (h.gr (by decide) (by decide) q102) ?_
  obtain ⟨v103, q104, e⟩ := xbnd e
  refine xok_eqb (h.gi (by decide) (by decide) q104).1 ?_
  obtain ⟨v105, q106, e⟩ := xbnd e
  refine xok_eqb (h.ar q106) ?_
  obtain ⟨v107, q108, e⟩ := xbnd e
  refine xok_eqb (h.gi (by decide) (by decide) q108).1 ?_
  obtain ⟨v109, q110, e⟩ := xbnd e
  refine xok_eqb (h.gr (by decide) (by decide) q110) ?_
  obtain ⟨v111, q112, e⟩ := xbnd e
  refine xok_eqb (h.gi (by decide) (by decide) q112).1 ?_
  obtain ⟨v113, q114, e⟩ := xbnd e
  refine xok_eqb (h.ar q114) ?_
  obtain ⟨_, q120, e⟩ := xbnd e
  obtain ⟨R115, e116, e⟩ := xbnd e
  refine xok_eqb (h.is q120) ?_
  refine xok_call (t7 hS h  e116) ?_
  intro M117 h118
  cases e
  exact ⟨_, rfl, rfl, h118, (h.gi (by decide) (by decide) q108).2⟩
-- ChangeHouse.count
theorem t174 {m f : Nat} {M0 M : xj_M} {T : xT_} (hS : xHS f) (h : xCX m M0 M T) {a0 : Nat} {a1 : Int} {R : Int × xT_} (ta1 : xin a1) (e : c174 f a0 a1 T = some R) : xok (f174 f a0 a1 M) (fun r => r.1 = R.1 ∧ xCX m M0 r.2 R.2 ∧ xin R.1) := by
  unfold c174 at e
  unfold f174
  obtain ⟨v101, q102, e⟩ := xbnd e
  refine xok_eqb (h.gr (by decide) (by decide) q102) ?_
  obtain ⟨v103, q104, e⟩ := xbnd e
  refine xok_eqb (h.gi (by decide) (by decide) q104).1 ?_
  obtain ⟨v105, q106, e⟩ := xbnd e
  refine xok_eqb (h.ar q106) ?_
  obtain ⟨_, q112, e⟩ := xbnd e
  obtain ⟨R107, e108, e⟩ := xbnd e
  refine xok_eqb (h.is q112) ?_
  refine xok_call (t5 hS h  e108) ?_
  rintro ⟨v_, M109⟩ ⟨hv_, h110⟩
  cases hv_
  refine xok_ite (fun c113 => ?_) (fun c113 => ?_)
  · rw [if_pos c113] at e
    cases e
    exact ⟨_, rfl, rfl, h110, (show xin (-1) by decide)⟩
  · rw [if_neg c113] at e
    refine xok_ite (fun c114 => ?_) (fun c114 => ?_)
    · rw [if_pos c114] at e
      obtain ⟨v115, q116, e⟩ := xbnd e
      refine xok_eqb (h110.gi (by decide) (by decide) q116).1 ?_
      cases e
      exact ⟨_, rfl, rfl, h110, (h110.gi (by decide) (by decide) q116).2⟩
    · rw [if_neg c114] at e
      refine xok_ite (fun c117 => ?_) (fun c117 => ?_)
      · rw [if_pos c117] at e
        obtain ⟨v118, q119, e⟩ := xbnd e
        refine xok_eqb (h110.gi (by decide) (by decide) q119).1 ?_
        cases e
        exact ⟨_, rfl, rfl, h110, (h110.gi (by decide) (by decide) q119).2⟩
      · rw [if_neg c117] at e
        refine xok_ite (fun c120 => ?_) (fun c120 => ?_)
        · rw [if_pos c120] at e
          obtain ⟨v121, q122, e⟩ := xbnd e
          refine xok_eqb (h110.gr (by decide) (by decide) q122) ?_
          obtain ⟨v123, q124, e⟩ := xbnd e
          refine xok_eqb (h110.gi (by decide) (by decide) q124).1 ?_
          cases e
          exact ⟨_, rfl, rfl, h110, (h110.gi (by decide) (by decide) q124).2⟩
        · rw [if_neg c120] at e
          refine xok_ite (fun c125 => ?_) (fun c125 => ?_)
          · rw [if_pos c125] at e
            obtain ⟨v126, q127, e⟩ := xbnd e
            refine xok_eqb (h110.gr (by decide) (by decide) q127) ?_
            obtain ⟨v128, q129, e⟩ := xbnd e
            refine xok_eqb (h110.gi (by decide) (by decide) q129).1 ?_
            cases e
            exact ⟨_, rfl, rfl, h110, (h110.gi (by decide) (by decide) q129).2⟩
          · rw [if_neg c125] at e
            refine xok_ite (fun c130 => ?_) (fun c130 => ?_)
            · rw [if_pos c130] at e
              obtain ⟨v131, q132, e⟩ := xbnd e
              refine xok_eqb (h110.gi (by decide) (by decide) q132).1 ?_
              cases e
              exact ⟨_, rfl, rfl, h110, (h110.gi (by decide) (by decide) q132).2⟩
            · rw [if_neg c130] at e
              refine xok_ite (fun c133 => ?_) (fun c133 => ?_)
              · rw [if_pos c133] at e
                obtain ⟨v134, q135, e⟩ := xbnd e
                refine xok_eqb (h110.gi (by decide) (by decide) q135).1 ?_
                cases e
                exact ⟨_, rfl, rfl, h110, (h110.gi (by decide) (by decide) q135).2⟩
              · rw [if_neg c133] at e
                refine xok_ite (fun c136 => ?_) (fun c136 => ?_)
                · rw [if_pos c136] at e
                  obtain ⟨_, q142, e⟩ := xbnd e
                  obtain ⟨R137, e138, e⟩ := xbnd e
                  refine xok_eqb (h110.is q142) ?_
                  refine xok_call (t16 hS h110  e138) ?_
                  rintro ⟨v_, M139⟩ ⟨hv_, h140, hi141⟩
                  cases hv_
                  cases e
                  exact ⟨_, rfl, rfl, h140, hi141⟩
                · rw [if_neg c136] at e
                  refine xok_ite (fun c143 => ?_) (fun c143 => ?_)
                  · rw [if_pos c143] at e
                    obtain ⟨v144, q145, e⟩ := xbnd e
                    refine xok_eqb (h110.gi (by decide) (by decide) q145).1 ?_
                    cases e
                    exact ⟨_, rfl, rfl, h110, (h110.gi (by decide) (by decide) q145).2⟩
                  · rw [if_neg c143] at e
                    refine xok_ite (fun c146 => ?_) (fun c146 => ?_)
                    · rw [if_pos c146] at e
                      obtain ⟨v147, q148, e⟩ := xbnd e
                      refine xok_eqb (h110.gi (by decide) (by decide) q148).1 ?_
                      cases e
                      exact ⟨_, rfl, rfl, h110, (h110.gi (by decide) (by decide) q148).2⟩
                    · rw [if_neg c146] at e
                      obtain ⟨v149, q150, e⟩ := xbnd e
                      refine xok_eqb (h110.gr (by decide) (by decide) q150) ?_
                      obtain ⟨v151, q152, e⟩ := xbnd e
                      refine xok_eqb (h110.gi (by decide) (by decide) q152).1 ?_
                      cases e
                      exact ⟨_, rfl, rfl, h110, (h110.gi (by decide) (by decide) q152).2⟩
-- ChangeHouse.value
theorem t176 {m f : Nat} {M0 M : xj_M} {T : xT_} (hS : xHS f) (h : xCX m M0 M T) {a0 : Nat} {a1 : Int} {a2 : Int} {a3 : Int} {R : (Nat ⊕ Int) × xT_} (ta1 : xin a1) (ta2 : xin a2) (ta3 : xin a3) (e : c176 f a0 a1 a2 a3 T = some R) : xok (f176 f a0 a1 a2 a3 M) (fun r => r.1 = R.1 ∧ xCX m M0 r.2 R.2 ∧ ∀ v, R.1 = .inr v → xiN v) := by
  unfold c176 at e
  unfold f176
  obtain ⟨v101, q102, e⟩ := xbnd e
  refine xok_eqb (h.gr (by decide) (by decide) q102) ?_
  obtain ⟨v103, q104, e⟩ := xbnd e
  refine xok_eqb (h.gi (by decide) (by decide) q104).1 ?_
  obtain ⟨v105, q106, e⟩ := xbnd e
  refine xok_eqb (h.ar q106) ?_
  obtain ⟨_, q112, e⟩ := xbnd e
  obtain ⟨R107, e108, e⟩ := xbnd e
  refine xok_eqb (h.is q112) ?_
  refine xok_call (t5 hS h  e108) ?_
  rintro ⟨v_, M109⟩ ⟨hv_, h110⟩
  cases hv_
  obtain ⟨_, q118, e⟩ := xbnd e
  obtain ⟨R113, e114, e⟩ := xbnd e
  refine xok_eqb (h110.is q118) ?_
  refine xok_call (t15 hS h110 ta1 ta2 ta3 e114) ?_
  rintro ⟨v_, M115⟩ ⟨hv_, h116, hi117⟩
  cases hv_
  refine xok_ite (fun c119 => ?_) (fun c119 => ?_)
  · rw [if_pos c119] at e
    obtain ⟨v120, q121, e⟩ := xbnd e
    refine xok_eqb (h116.gr (by decide) (by decide) q121) ?_
    obtain ⟨v122, q123, e⟩ := xbnd e
    refine xok_eqb (h116.ar q123) ?_
    obtain ⟨_, q129, e⟩ := xbnd e
    obtain ⟨R124, e125, e⟩ := xbnd e
    refine xok_eqb (h116.is q129) ?_
    refine xok_call (t70 hS h116 ta2 ta3 e125) ?_
    rintro ⟨v_, M126⟩ ⟨hv_, h127, hi128⟩
    cases hv_
    cases e
    exact ⟨_, rfl, rfl, h127, fun v hv => by cases hv; exact hi128⟩
  · rw [if_neg c119] at e
    cases e
    exact ⟨_, rfl, rfl, h116.ex, fun v hv => by cases hv⟩
-- ChangeHouse.answer
theorem t180_30 {m f : Nat} {M0 M : xj_M} {T : xT_} (hS : xHS f)   (h : xCX m M0 M T)  {R : (Nat ⊕ Int) × xT_}  (e : c180_30  f  T = some R) : xok (f180_30  f  M) (fun r => r.1 = R.1 ∧ xCX m M0 r.2 R.2 ∧ ∀ v, R.1 = .inr v → xiN v) := by
  unfold c180_30 at e
  unfold f180_30
  cases e
  exact ⟨_, rfl, rfl, h.ex, fun v hv => by cases hv⟩
theorem t180 {m f : Nat} {M0 M : xj_M} {T : xT_} (hS : xHS f) (h : xCX m M0 M T) {a0 : Nat} {a1 : Int} {a2 : Int} {R : (Nat ⊕ Int) × xT_} (ta1 : xin a1) (ta2 : xin a2) (e : c180 f a0 a1 a2 T = some R) : xok (f180 f a0 a1 a2 M) (fun r => r.1 = R.1 ∧ xCX m M0 r.2 R.2 ∧ ∀ v, R.1 = .inr v → xiN v) := by
  unfold c180 at e
  unfold f180
  refine xok_ite (fun c101 => ?_) (fun c101 => ?_)
  · rw [if_pos c101] at e
    exact t180_30  hS  h  e
  · rw [if_neg c101] at e
    obtain ⟨v102, q103, e⟩ := xbnd e
    refine xok_eqb (h.gr (by decide) (by decide) q103) ?_
    obtain ⟨v104, q105, e⟩ := xbnd e
    refine xok_eqb (h.gi (by decide) (by decide) q105).1 ?_
    refine xok_ite (fun c106 => ?_) (fun c106 => ?_)
    · rw [if_pos c106] at e
      exact t180_30  hS  h  e
    · rw [if_neg c106] at e
      refine xok_ite (fun c107 => ?_) (fun c107 => ?_)
      · rw [if_pos c107] at e
        exact t180_30  hS  h  e
      · rw [if_neg c107] at e
        obtain ⟨v108, q109, e⟩ := xbnd e
        refine xok_eqb (h.gr (by decide) (by decide) q109) ?_
        obtain ⟨v110, q111, e⟩ := xbnd e
        refine xok_eqb (h.gi (by decide) (by decide) q111).1 ?_
        refine xok_ite (fun c112 => ?_) (fun c112 => ?_)
        · rw [if_pos c112] at e
          obtain ⟨v113, q114, e⟩ := xbnd e
          refine xok_eqb (h.gr (by decide) (by decide) q114) ?_
          obtain ⟨_, q120, e⟩ := xbnd e
          obtain ⟨R115, e116, e⟩ := xbnd e
          refine xok_eqb (h.is q120) ?_
          refine xok_call (t70 hS h ta1 ta2 e116) ?_
          rintro ⟨v_, M117⟩ ⟨hv_, h118, hi119⟩
          cases hv_
          cases e
          exact ⟨_, rfl, rfl, h118, fun v hv => by cases hv; exact hi119⟩
        · rw [if_neg c112] at e
          exact t180_30  hS  h  e
-- ChangeHouse.rank
theorem t181 {m f : Nat} {M0 M : xj_M} {T : xT_} (hS : xHS f) (h : xCX m M0 M T) {a0 : Nat} {a1 : Int} {a2 : Int} {R : (Nat ⊕ Int) × xT_} (ta1 : xin a1) (ta2 : xin a2) (e : c181 f a0 a1 a2 T = some R) : xok (f181 f a0 a1 a2 M) (fun r => r.1 = R.1 ∧ xCX m M0 r.2 R.2 ∧ ∀ v, R.1 = .inr v → xin v) := by
  unfold c181 at e
  unfold f181
  obtain ⟨v101, q102, e⟩ := xbnd e
  refine xok_eqb (h.gr (by decide) (by decide) q102) ?_
  obtain ⟨v103, q104, e⟩ := xbnd e
  refine xok_eqb (h.gi (by decide) (by decide) q104).1 ?_
  obtain ⟨v105, q106, e⟩ := xbnd e
  refine xok_eqb (h.ar q106) ?_
  obtain ⟨_, q112, e⟩ := xbnd e
  obtain ⟨R107, e108, e⟩ := xbnd e
  refine xok_eqb (h.is q112) ?_
  refine xok_call (t5 hS h  e108) ?_
  rintro ⟨v_, M109⟩ ⟨hv_, h110⟩
  cases hv_
  obtain ⟨_, q118, e⟩ := xbnd e
  obtain ⟨R113, e114, e⟩ := xbnd e
  refine xok_eqb (h110.is q118) ?_
  refine xok_call (t15 hS h110 ta1 ta2 (show xin (0) by decide) e114) ?_
  rintro ⟨v_, M115⟩ ⟨hv_, h116, hi117⟩
  cases hv_
  refine xok_ite (fun c119 => ?_) (fun c119 => ?_)
  · rw [if_pos c119] at e
    obtain ⟨v120, q121, e⟩ := xbnd e
    refine xok_eqb (h116.gr (by decide) (by decide) q121) ?_
    obtain ⟨v122, q123, e⟩ := xbnd e
    refine xok_eqb (h116.ar q123) ?_
    obtain ⟨v124, q125, e⟩ := xbnd e
    refine xok_eqb (h116.gr (by decide) (by decide) q125) ?_
    obtain ⟨v126, q127, e⟩ := xbnd e
    refine xok_eqb (h116.ai (by decide) q127).1 ?_
    cases e
    exact ⟨_, rfl, rfl, h116, fun v hv => by cases hv; exact (h116.ai (by decide) q127).2⟩
  · rw [if_neg c119] at e
    cases e
    exact ⟨_, rfl, rfl, h116.ex, fun v hv => by cases hv⟩
-- ChangeHouse.sheet
theorem t183_20 {m f : Nat} {M0 M : xj_M} {T : xT_} (hS : xHS f)   (h : xCX m M0 M T)  {R : (Nat ⊕ Int) × xT_}  (e : c183_20  f  T = some R) : xok (f183_20  f  M) (fun r => r.1 = R.1 ∧ xCX m M0 r.2 R.2 ∧ ∀ v, R.1 = .inr v → xiN v) := by
  unfold c183_20 at e
  unfold f183_20
  cases e
  exact ⟨_, rfl, rfl, h.ex, fun v hv => by cases hv⟩
theorem t183_155 {m f : Nat} {M0 M : xj_M} {T : xT_} (hS : xHS f)   (h : xCX m M0 M T) {y0 : Int} {R : (Nat ⊕ Int) × xT_} (ty0 : xiN y0) (e : c183_155  f y0 T = some R) : xok (f183_155  f y0 M) (fun r => r.1 = R.1 ∧ xCX m M0 r.2 R.2 ∧ ∀ v, R.1 = .inr v → xiN v) := by
  unfold c183_155 at e
  unfold f183_155
  cases e
  exact ⟨_, rfl, rfl, h, fun v hv => by cases hv; exact ty0⟩
theorem t183_125 {m f : Nat} {M0 M : xj_M} {T : xT_} (hS : xHS f)   (h : xCX m M0 M T) {y0 : Int} {R : (Nat ⊕ Int) × xT_} (ty0 : xiN y0) (e : c183_125  f y0 T = some R) : xok (f183_125  f y0 M) (fun r => r.1 = R.1 ∧ xCX m M0 r.2 R.2 ∧ ∀ v, R.1 = .inr v → xiN v) := by
  unfold c183_125 at e
  unfold f183_125
  cases e
  exact ⟨_, rfl, rfl, h, fun v hv => by cases hv; exact ty0⟩
theorem t183_70 {m f : Nat} {M0 M : xj_M} {T : xT_} (hS : xHS f)   (h : xCX m M0 M T) {x0 : Nat} {x3 : Int} {x4 : Int} {x5 : Int} {y0 : Int} {R : (Nat ⊕ Int) × xT_} (tx3 : xin x3) (tx4 : xin x4) (tx5 : xiN x5) (ty0 : xin y0) (e : c183_70  f x0 x3 x4 x5 y0 T = some R) : xok (f183_70  f x0 x3 x4 x5 y0 M) (fun r => r.1 = R.1 ∧ xCX m M0 r.2 R.2 ∧ ∀ v, R.1 = .inr v → xiN v) := by
  unfold c183_70 at e
  unfold f183_70
  refine xok_ite (fun c101 => ?_) (fun c101 => ?_)
  · rw [if_pos c101] at e
    cases e
    exact ⟨_, rfl, rfl, h, fun v hv => by cases hv; exact (show xiN (-1) by decide)⟩
  · rw [if_neg c101] at e
    refine xok_ite (fun c102 => ?_) (fun c102 => ?_)
    · rw [if_pos c102] at e
      refine xok_ite (fun c103 => ?_) (fun c103 => ?_)
      · rw [if_pos c103] at e
        refine xok_ite (fun c104 => ?_) (fun c104 => ?_)
        · rw [if_pos c104] at e
          exact t183_125  hS  h (show xiN (1) by decide) e
        · rw [if_neg c104] at e
          exact t183_125  hS  h (show xiN (2) by decide) e
      · rw [if_neg c103] at e
        exact t183_125  hS  h (show xiN (0) by decide) e
    · rw [if_neg c102] at e
      refine xok_ite (fun c105 => ?_) (fun c105 => ?_)
      · rw [if_pos c105] at e
        refine xok_ite (fun c106 => ?_) (fun c106 => ?_)
        · rw [if_pos c106] at e
          refine xok_ite (fun c107 => ?_) (fun c107 => ?_)
          · rw [if_pos c107] at e
            exact t183_155  hS  h tx5 e
          · rw [if_neg c107] at e
            exact t183_155  hS  h (xiN_wl _) e
        · rw [if_neg c106] at e
          exact t183_155  hS  h (show xiN (0) by decide) e
      · rw [if_neg c105] at e
        obtain ⟨v108, q109, e⟩ := xbnd e
        refine xok_eqb (h.gr (by decide) (by decide) q109) ?_
        obtain ⟨v110, q111, e⟩ := xbnd e
        refine xok_eqb (h.gi (by decide) (by decide) q111).1 ?_
        obtain ⟨v112, q113, e⟩ := xbnd e
        refine xok_eqb (h.ar q113) ?_
        obtain ⟨v114, q115, e⟩ := xbnd e
        refine xok_eqb (h.gr (by decide) (by decide) q115) ?_
        obtain ⟨v116, q117, e⟩ := xbnd e
        refine xok_eqb (h.ai (by decide) q117).1 ?_
        cases e
        exact ⟨_, rfl, rfl, h, fun v hv => by cases hv; exact (xin_N (h.ai (by decide) q117).2)⟩
theorem t183 {m f : Nat} {M0 M : xj_M} {T : xT_} (hS : xHS f) (h : xCX m M0 M T) {a0 : Nat} {a1 : Int} {a2 : Int} {a3 : Int} {R : (Nat ⊕ Int) × xT_} (ta1 : xin a1) (ta2 : xin a2) (ta3 : xin a3) (e : c183 f a0 a1 a2 a3 T = some R) : xok (f183 f a0 a1 a2 a3 M) (fun r => r.1 = R.1 ∧ xCX m M0 r.2 R.2 ∧ ∀ v, R.1 = .inr v → xiN v) := by
  unfold c183 at e
  unfold f183
  refine xok_ite (fun c118 => ?_) (fun c118 => ?_)
  · rw [if_pos c118] at e
    exact t183_20  hS  h  e
  · rw [if_neg c118] at e
    refine xok_ite (fun c119 => ?_) (fun c119 => ?_)
    · rw [if_pos c119] at e
      exact t183_20  hS  h  e
    · rw [if_neg c119] at e
      refine xok_ite (fun c120 => ?_) (fun c120 => ?_)
      · rw [if_pos c120] at e
        exact t183_20  hS  h  e
      · rw [if_neg c120] at e
        refine xok_ite (fun c121 => ?_) (fun c121 => ?_)
        · rw [if_pos c121] at e
          obtain ⟨v122, q123, e⟩ := xbnd e
          refine xok_eqb (h.gr (by decide) (by decide) q123) ?_
          obtain ⟨v124, q125, e⟩ := xbnd e
          refine xok_eqb (h.gi (by decide) (by decide) q125).1 ?_
          obtain ⟨v126, q127, e⟩ := xbnd e
          refine xok_eqb (h.ar q127) ?_
          obtain ⟨_, q133, e⟩ := xbnd e
          obtain ⟨R128, e129, e⟩ := xbnd e
          refine xok_eqb (h.is q133) ?_
          refine xok_call (t5 hS h  e129) ?_
          rintro ⟨v_, M130⟩ ⟨hv_, h131⟩
          cases hv_
          obtain ⟨v134, q135, e⟩ := xbnd e
          refine xok_eqb (h131.gr (by decide) (by decide) q135) ?_
          obtain ⟨v136, q137, e⟩ := xbnd e
          refine xok_eqb (h131.al q137).1 ?_
          refine xok_ite (fun c138 => ?_) (fun c138 => ?_)
          · rw [if_pos c138] at e
            exact t183_70  hS  h131 ta3 (xin_wr _) (h131.al q137).2 (show xin (0) by decide) e
          · rw [if_neg c138] at e
            exact t183_70  hS  h131 ta3 (xin_wr _) (h131.al q137).2 (show xin (1) by decide) e
        · rw [if_neg c121] at e
          exact t183_20  hS  h  e
-- ChangeHouse.past
theorem t184_38 {m f : Nat} {M0 M : xj_M} {T : xT_} (hS : xHS f)   (h : xCX m M0 M T)  {R : Int × xT_}  (e : c184_38  f  T = some R) : xok (f184_38  f  M) (fun r => r.1 = R.1 ∧ xCX m M0 r.2 R.2 ∧ xin R.1) := by
  unfold c184_38 at e
  unfold f184_38
  cases e
  exact ⟨_, rfl, rfl, h, (show xin (-1) by decide)⟩
theorem t184 {m f : Nat} {M0 M : xj_M} {T : xT_} (hS : xHS f) (h : xCX m M0 M T) {a0 : Nat} {a1 : Int} {a2 : Int} {R : Int × xT_} (ta1 : xin a1) (ta2 : xin a2) (e : c184 f a0 a1 a2 T = some R) : xok (f184 f a0 a1 a2 M) (fun r => r.1 = R.1 ∧ xCX m M0 r.2 R.2 ∧ xin R.1) := by
  unfold c184 at e
  unfold f184
  obtain ⟨v101, q102, e⟩ := xbnd e
  refine xok_eqb (h.gr (by decide) (by decide) q102) ?_
  obtain ⟨v103, q104, e⟩ := xbnd e
  refine xok_eqb (h.gi (by decide) (by decide) q104).1 ?_
  obtain ⟨v105, q106, e⟩ := xbnd e
  refine xok_eqb (h.ar q106) ?_
  obtain ⟨_, q112, e⟩ := xbnd e
  obtain ⟨R107, e108, e⟩ := xbnd e
  refine xok_eqb (h.is q112) ?_
  refine xok_call (t6 hS h ta1 e108) ?_
  rintro ⟨v_, M109⟩ ⟨hv_, h110, hi111⟩
  cases hv_
  refine xok_ite (fun c113 => ?_) (fun c113 => ?_)
  · rw [if_pos c113] at e
    exact t184_38  hS  h110  e
  · rw [if_neg c113] at e
    refine xok_ite (fun c114 => ?_) (fun c114 => ?_)
    · rw [if_pos c114] at e
      exact t184_38  hS  h110  e
    · rw [if_neg c114] at e
      obtain ⟨v115, q116, e⟩ := xbnd e
      refine xok_eqb (h110.gr (by decide) (by decide) q116) ?_
      obtain ⟨v117, q118, e⟩ := xbnd e
      refine xok_eqb (h110.ar q118) ?_
      obtain ⟨v119, q120, e⟩ := xbnd e
      refine xok_eqb (h110.gr (by decide) (by decide) q120) ?_
      obtain ⟨v121, q122, e⟩ := xbnd e
      refine xok_eqb (h110.gi (by decide) (by decide) q122).1 ?_
      refine xok_ite (fun c123 => ?_) (fun c123 => ?_)
      · rw [if_pos c123] at e
        obtain ⟨v124, q125, e⟩ := xbnd e
        refine xok_eqb (h110.gr (by decide) (by decide) q125) ?_
        obtain ⟨v126, q127, e⟩ := xbnd e
        refine xok_eqb (h110.ar q127) ?_
        obtain ⟨v128, q129, e⟩ := xbnd e
        refine xok_eqb (h110.gr (by decide) (by decide) q129) ?_
        obtain ⟨v130, q131, e⟩ := xbnd e
        refine xok_eqb (h110.ar q131) ?_
        obtain ⟨v132, q133, e⟩ := xbnd e
        refine xok_eqb (h110.gi (by decide) (by decide) q133).1 ?_
        cases e
        exact ⟨_, rfl, rfl, h110, (h110.gi (by decide) (by decide) q133).2⟩
      · rw [if_neg c123] at e
        exact t184_38  hS  h110  e
-- ChangeHouse.pastValue
theorem t185_37 {m f : Nat} {M0 M : xj_M} {T : xT_} (hS : xHS f)   (h : xCX m M0 M T)  {R : (Nat ⊕ Int) × xT_}  (e : c185_37  f  T = some R) : xok (f185_37  f  M) (fun r => r.1 = R.1 ∧ xCX m M0 r.2 R.2 ∧ ∀ v, R.1 = .inr v → xiN v) := by
  unfold c185_37 at e
  unfold f185_37
  cases e
  exact ⟨_, rfl, rfl, h.ex, fun v hv => by cases hv⟩
theorem t185 {m f : Nat} {M0 M : xj_M} {T : xT_} (hS : xHS f) (h : xCX m M0 M T) {a0 : Nat} {a1 : Int} {a2 : Int} {a3 : Int} {a4 : Int} {R : (Nat ⊕ Int) × xT_} (ta1 : xin a1) (ta2 : xin a2) (ta3 : xin a3) (ta4 : xin a4) (e : c185 f a0 a1 a2 a3 a4 T = some R) : xok (f185 f a0 a1 a2 a3 a4 M) (fun r => r.1 = R.1 ∧ xCX m M0 r.2 R.2 ∧ ∀ v, R.1 = .inr v → xiN v) := by
  unfold c185 at e
  unfold f185
  obtain ⟨v101, q102, e⟩ := xbnd e
  refine xok_eqb (h.gr (by decide) (by decide) q102) ?_
  obtain ⟨v103, q104, e⟩ := xbnd e
  refine xok_eqb (h.gi (by decide) (by decide) q104).1 ?_
  obtain ⟨v105, q106, e⟩ := xbnd e
  refine xok_eqb (h.ar q106) ?_
  obtain ⟨_, q112, e⟩ := xbnd e
  obtain ⟨R107, e108, e⟩ := xbnd e
  refine xok_eqb (h.is q112) ?_
  refine xok_call (t6 hS h ta1 e108) ?_
  rintro ⟨v_, M109⟩ ⟨hv_, h110, hi111⟩
  cases hv_
  refine xok_ite (fun c113 => ?_) (fun c113 => ?_)
  · rw [if_pos c113] at e
    exact t185_37  hS  h110  e
  · rw [if_neg c113] at e
    obtain ⟨v114, q115, e⟩ := xbnd e
    refine xok_eqb (h110.gr (by decide) (by decide) q115) ?_
    obtain ⟨v116, q117, e⟩ := xbnd e
    refine xok_eqb (h110.ar q117) ?_
    obtain ⟨_, q123, e⟩ := xbnd e
    obtain ⟨R118, e119, e⟩ := xbnd e
    refine xok_eqb (h110.is q123) ?_
    refine xok_call (t15 hS h110 ta2 ta3 ta4 e119) ?_
    rintro ⟨v_, M120⟩ ⟨hv_, h121, hi122⟩
    cases hv_
    refine xok_ite (fun c124 => ?_) (fun c124 => ?_)
    · rw [if_pos c124] at e
      obtain ⟨v125, q126, e⟩ := xbnd e
      refine xok_eqb (h121.gr (by decide) (by decide) q126) ?_
      obtain ⟨v127, q128, e⟩ := xbnd e
      refine xok_eqb (h121.ar q128) ?_
      obtain ⟨v129, q130, e⟩ := xbnd e
      refine xok_eqb (h121.gr (by decide) (by decide) q130) ?_
      obtain ⟨v131, q132, e⟩ := xbnd e
      refine xok_eqb (h121.ar q132) ?_
      obtain ⟨_, q138, e⟩ := xbnd e
      obtain ⟨R133, e134, e⟩ := xbnd e
      refine xok_eqb (h121.is q138) ?_
      refine xok_call (t70 hS h121 ta3 ta4 e134) ?_
      rintro ⟨v_, M135⟩ ⟨hv_, h136, hi137⟩
      cases hv_
      cases e
      exact ⟨_, rfl, rfl, h136, fun v hv => by cases hv; exact hi137⟩
    · rw [if_neg c124] at e
      exact t185_37  hS  h121  e
-- ChangeHouse.line
theorem t188_9 {m f : Nat} {M0 M : xj_M} {T : xT_} (hS : xHS f)   (h : xCX m M0 M T)  {R : Int × xT_}  (e : c188_9  f  T = some R) : xok (f188_9  f  M) (fun r => r.1 = R.1 ∧ xCX m M0 r.2 R.2 ∧ xin R.1) := by
  unfold c188_9 at e
  unfold f188_9
  cases e
  exact ⟨_, rfl, rfl, h, (show xin (-1) by decide)⟩
theorem t188 {m f : Nat} {M0 M : xj_M} {T : xT_} (hS : xHS f) (h : xCX m M0 M T) {a0 : Nat} {a1 : Int} {R : Int × xT_} (ta1 : xin a1) (e : c188 f a0 a1 T = some R) : xok (f188 f a0 a1 M) (fun r => r.1 = R.1 ∧ xCX m M0 r.2 R.2 ∧ xin R.1) := by
  unfold c188 at e
  unfold f188
  refine xok_ite (fun c101 => ?_) (fun c101 => ?_)
  · rw [if_pos c101] at e
    exact t188_9  hS  h  e
  · rw [if_neg c101] at e
    refine xok_ite (fun c102 => ?_) (fun c102 => ?_)
    · rw [if_pos c102] at e
      obtain ⟨v103, q104, e⟩ := xbnd e
      refine xok_eqb (h.gi (by decide) (by decide) q104).1 ?_
      obtain ⟨T106, q105, e⟩ := xbnd e
      obtain ⟨M107, q108, h109⟩ := h.pi (by decide) (by decide) ta1 q105
      refine xok_eqb q108 ?_
      obtain ⟨T111, q110, e⟩ := xbnd e
      obtain ⟨M112, q113, h114⟩ := h109.pr (by decide) (by decide)  q110
      refine xok_eqb q113 ?_
      cases e
      exact ⟨_, rfl, rfl, h114, (h.gi (by decide) (by decide) q104).2⟩
    · rw [if_neg c102] at e
      exact t188_9  hS  h  e
-- ChangeHouse.met
theorem t191_20 {m f : Nat} {M0 M : xj_M} {T : xT_} (hS : xHS f)   (h : xCX m M0 M T)  {R : (Nat ⊕ Int) × xT_}  (e : c191_20  f  T = some R) : xok (f191_20  f  M) (fun r => r.1 = R.1 ∧ xCX m M0 r.2 R.2 ∧ ∀ v, R.1 = .inr v → xiN v) := by
  unfold c191_20 at e
  unfold f191_20
  cases e
  exact ⟨_, rfl, rfl, h.ex, fun v hv => by cases hv⟩
theorem t191_48 {m f : Nat} {M0 M : xj_M} {T : xT_} (hS : xHS f)   (h : xCX m M0 M T) {y0 : Int} {R : (Nat ⊕ Int) × xT_} (ty0 : xiN y0) (e : c191_48  f y0 T = some R) : xok (f191_48  f y0 M) (fun r => r.1 = R.1 ∧ xCX m M0 r.2 R.2 ∧ ∀ v, R.1 = .inr v → xiN v) := by
  unfold c191_48 at e
  unfold f191_48
  cases e
  exact ⟨_, rfl, rfl, h, fun v hv => by cases hv; exact ty0⟩
theorem t191 {m f : Nat} {M0 M : xj_M} {T : xT_} (hS : xHS f) (h : xCX m M0 M T) {a0 : Nat} {a1 : Int} {R : (Nat ⊕ Int) × xT_} (ta1 : xin a1) (e : c191 f a0 a1 T = some R) : xok (f191 f a0 a1 M) (fun r => r.1 = R.1 ∧ xCX m M0 r.2 R.2 ∧ ∀ v, R.1 = .inr v → xiN v) := by
  unfold c191 at e
  unfold f191
  obtain ⟨v101, q102, e⟩ := xbnd e
  refine xok_eqb (h.gi (by decide) (by decide) q102).1 ?_
  refine xok_ite (fun c103 => ?_) (fun c103 => ?_)
  · rw [if_pos c103] at e
    exact t191_20  hS  h  e
  · rw [if_neg c103] at e
    refine xok_ite (fun c104 => ?_) (fun c104 => ?_)
    · rw [if_pos c104] at e
      exact t191_20  hS  h  e
    · rw [if_neg c104] at e
      obtain ⟨v105, q106, e⟩ := xbnd e
      refine xok_eqb (h.gi (by decide) (by decide) q106).1 ?_
      refine xok_ite (fun c107 => ?_) (fun c107 => ?_)
      · rw [if_pos c107] at e
        refine xok_ite (fun c108 => ?_) (fun c108 => ?_)
        · rw [if_pos c108] at e
          obtain ⟨v109, q110, e⟩ := xbnd e
          refine xok_eqb (h.gr (by decide) (by decide) q110) ?_
          obtain ⟨v111, q112, e⟩ := xbnd e
          refine xok_eqb (h.al q112).1 ?_
          exact t191_48  hS  h (h.al q112).2 e
        · rw [if_neg c108] at e
          obtain ⟨v113, q114, e⟩ := xbnd e
          refine xok_eqb (h.gi (by decide) (by decide) q114).1 ?_
          exact t191_48  hS  h (xin_N (h.gi (by decide) (by decide) q114).2) e
      · rw [if_neg c107] at e
        exact t191_20  hS  h  e
-- ChangeHouse.reckon
theorem t192_36 {m f : Nat} {M0 M : xj_M} {T : xT_} (hS : xHS f)   (h : xCX m M0 M T)  {R : Int × xT_}  (e : c192_36  f  T = some R) : xok (f192_36  f  M) (fun r => r.1 = R.1 ∧ xCX m M0 r.2 R.2 ∧ xiN R.1) := by
  unfold c192_36 at e
  unfold f192_36
  cases e
  exact ⟨_, rfl, rfl, h, (show xiN (-8999999999999999998) by decide)⟩
theorem t192_164 {m f : Nat} {M0 M : xj_M} {T : xT_} (hS : xHS f)   (h : xCX m M0 M T) {y0 : Int} {R : Int × xT_} (ty0 : xiN y0) (e : c192_164  f y0 T = some R) : xok (f192_164  f y0 M) (fun r => r.1 = R.1 ∧ xCX m M0 r.2 R.2 ∧ xiN R.1) := by
  unfold c192_164 at e
  unfold f192_164
  cases e
  exact ⟨_, rfl, rfl, h, ty0⟩
theorem t192_156 {m f : Nat} {M0 M : xj_M} {T : xT_} (hS : xHS f)   (h : xCX m M0 M T)  {R : Int × xT_}  (e : c192_156  f  T = some R) : xok (f192_156  f  M) (fun r => r.1 = R.1 ∧ xCX m M0 r.2 R.2 ∧ xiN R.1) := by
  unfold c192_156 at e
  unfold f192_156
  exact t192_164  hS  h (show xiN (-8999999999999999997) by decide) e
theorem t192_138 {m f : Nat} {M0 M : xj_M} {T : xT_} (hS : xHS f)   (h : xCX m M0 M T) {x5 : Int} {R : Int × xT_} (tx5 : xiN x5) (e : c192_138  f x5 T = some R) : xok (f192_138  f x5 M) (fun r => r.1 = R.1 ∧ xCX m M0 r.2 R.2 ∧ xiN R.1) := by
  unfold c192_138 at e
  unfold f192_138
  refine xok_ite (fun c101 => ?_) (fun c101 => ?_)
  · rw [if_pos c101] at e
    exact t192_156  hS  h  e
  · rw [if_neg c101] at e
    refine xok_ite (fun c102 => ?_) (fun c102 => ?_)
    · rw [if_pos c102] at e
      exact t192_164  hS  h tx5 e
    · rw [if_neg c102] at e
      exact t192_156  hS  h  e
theorem t192_103 {m f : Nat} {M0 M : xj_M} {T : xT_} (hS : xHS f)   (h : xCX m M0 M T) {x1 : Int} {x3 : Int} {R : Int × xT_} (tx1 : xiN x1) (tx3 : xiN x3) (e : c192_103  f x1 x3 T = some R) : xok (f192_103  f x1 x3 M) (fun r => r.1 = R.1 ∧ xCX m M0 r.2 R.2 ∧ xiN R.1) := by
  unfold c192_103 at e
  unfold f192_103
  exact t192_138  hS  h (xiN_wl _) e
theorem t192_136 {m f : Nat} {M0 M : xj_M} {T : xT_} (hS : xHS f)   (h : xCX m M0 M T) {y0 : Int} {R : Int × xT_} (ty0 : xiN y0) (e : c192_136  f y0 T = some R) : xok (f192_136  f y0 M) (fun r => r.1 = R.1 ∧ xCX m M0 r.2 R.2 ∧ xiN R.1) := by
  unfold c192_136 at e
  unfold f192_136
  exact t192_138  hS  h ty0 e
theorem t192 {m f : Nat} {M0 M : xj_M} {T : xT_} (hS : xHS f) (h : xCX m M0 M T) {a0 : Int} {a1 : Int} {a2 : Int} {R : Int × xT_} (ta0 : xin a0) (ta1 : xiN a1) (ta2 : xiN a2) (e : c192 f a0 a1 a2 T = some R) : xok (f192 f a0 a1 a2 M) (fun r => r.1 = R.1 ∧ xCX m M0 r.2 R.2 ∧ xiN R.1) := by
  unfold c192 at e
  unfold f192
  refine xok_ite (fun c103 => ?_) (fun c103 => ?_)
  · rw [if_pos c103] at e
    refine xok_ite (fun c104 => ?_) (fun c104 => ?_)
    · rw [if_pos c104] at e
      refine xok_ite (fun c105 => ?_) (fun c105 => ?_)
      · rw [if_pos c105] at e
        exact t192_36  hS  h  e
      · rw [if_neg c105] at e
        refine xok_ite (fun c106 => ?_) (fun c106 => ?_)
        · rw [if_pos c106] at e
          refine xok_ite (fun c107 => ?_) (fun c107 => ?_)
          · rw [if_pos c107] at e
            refine xok_ite (fun c108 => ?_) (fun c108 => ?_)
            · rw [if_pos c108] at e
              refine xok_ite (fun c109 => ?_) (fun c109 => ?_)
              · rw [if_pos c109] at e
                refine xok_ite (fun c110 => ?_) (fun c110 => ?_)
                · rw [if_pos c110] at e
                  refine xok_ite (fun c111 => ?_) (fun c111 => ?_)
                  · rw [if_pos c111] at e
                    refine xok_ite (fun c112 => ?_) (fun c112 => ?_)
                    · rw [if_pos c112] at e; cases e
                    rw [if_neg c112] at e
                    exact t192_136  hS  h (xiN_of _) e
                  · rw [if_neg c111] at e
                    refine xok_ite (fun c113 => ?_) (fun c113 => ?_)
                    · rw [if_pos c113] at e; cases e
                    rw [if_neg c113] at e
                    exact t192_136  hS  h (xiN_of _) e
                · rw [if_neg c110] at e
                  cases e
                  exact ⟨_, rfl, rfl, h, (show xiN (-8999999999999999997) by decide)⟩
              · rw [if_neg c109] at e
                refine xok_ite (fun c114 => ?_) (fun c114 => ?_)
                · rw [if_pos c114] at e
                  exact t192_103  hS  h ta1 ta2 e
                · rw [if_neg c114] at e
                  refine xok_ite (fun c115 => ?_) (fun c115 => ?_)
                  · rw [if_pos c115] at e; cases e
                  rw [if_neg c115] at e
                  refine xok_ite (fun c116 => ?_) (fun c116 => ?_)
                  · rw [if_pos c116] at e
                    exact t192_103  hS  h ta1 ta2 e
                  · rw [if_neg c116] at e
                    cases e
                    exact ⟨_, rfl, rfl, h, (show xiN (-8999999999999999997) by decide)⟩
            · rw [if_neg c108] at e
              exact t192_138  hS  h (xiN_wl _) e
          · rw [if_neg c107] at e
            exact t192_138  hS  h (xiN_wl _) e
        · rw [if_neg c106] at e
          exact t192_36  hS  h  e
    · rw [if_neg c104] at e
      cases e
      exact ⟨_, rfl, rfl, h, ta2⟩
  · rw [if_neg c103] at e
    cases e
    exact ⟨_, rfl, rfl, h, ta1⟩
/-- Arrays.fill -/
theorem t381_6b {m f : Nat} {M0 M : xj_M} {T : xT_} (hS : xHS f) {r6 : Nat → Int → Int → Int → xT_ → Option (xT_)} {o6 : Nat → Int → Int → Int → xj_M → Option (xj_M)} (hr6 : ∀ {M : xj_M} {T : xT_} {x0 : Nat} {x1 : Int} {x3 : Int} {x4 : Int} {R : xT_}, xCX m M0 M T → xiN x1 → xin x3 → xin x4 → r6 x0 x1 x3 x4 T = some R → xok (o6 x0 x1 x3 x4 M) (fun r => xCX m M0 r R)) (h : xCX m M0 M T) {x0 : Nat} {x1 : Int} {x3 : Int} {x4 : Int} {R : xT_} (tx1 : xiN x1) (tx3 : xin x3) (tx4 : xin x4) (e : c381_6b r6 f x0 x1 x3 x4 T = some R) : xok (f381_6b o6 f x0 x1 x3 x4 M) (fun r => xCX m M0 r R) := by
  unfold c381_6b at e
  unfold f381_6b
  refine xok_ite (fun c101 => ?_) (fun c101 => ?_)
  · rw [if_pos c101] at e
    cases e
    exact ⟨_, rfl, h⟩
  · rw [if_neg c101] at e
    obtain ⟨T103, q102, e⟩ := xbnd e
    obtain ⟨M104, q105, h106⟩ := h.sl tx1 q102
    refine xok_eqb q105 ?_
    exact hr6 h106 tx1 (xin_wr _) tx4 e
theorem t381_6 {m f : Nat} {M0 : xj_M} (hS : xHS f)   : ∀ {n : Nat} {M : xj_M} {T : xT_} {x0 : Nat} {x1 : Int} {x3 : Int} {x4 : Int} {R : xT_}, xCX m M0 M T → xiN x1 → xin x3 → xin x4 → c381_6  f n x0 x1 x3 x4 T = some R → xok (f381_6  f n x0 x1 x3 x4 M) (fun r => xCX m M0 r R) := by
  intro n
  induction n with
  | zero => intros; rename_i e; cases e
  | succ n ih =>
    intros
    rename_i h i0 i1 i2 e
    exact t381_6b hS  @ih h i0 i1 i2 e
theorem t381 {m f : Nat} {M0 M : xj_M} {T : xT_} (hS : xHS f) (h : xCX m M0 M T) {a0 : Nat} {a1 : Int} {R : xT_} (ta1 : xiN a1) (e : c381 f a0 a1 T = some R) : xok (f381 f a0 a1 M) (fun r => xCX m M0 r R) := by
  unfold c381 at e
  unfold f381
  obtain ⟨v107, q108, e⟩ := xbnd e
  refine xok_eqb (h.ln q108).1 ?_
  exact t381_6  hS  h ta1 (show xin (0) by decide) (h.ln q108).2 e
/-- Arrays.fill -/
theorem t382_5b {m f : Nat} {M0 M : xj_M} {T : xT_} (hS : xHS f) {r5 : Nat → Int → Int → Int → xT_ → Option (xT_)} {o5 : Nat → Int → Int → Int → xj_M → Option (xj_M)} (hr5 : ∀ {M : xj_M} {T : xT_} {x0 : Nat} {x1 : Int} {x2 : Int} {x3 : Int} {R : xT_}, xCX m M0 M T → xin x1 → xin x2 → xin x3 → r5 x0 x1 x2 x3 T = some R → xok (o5 x0 x1 x2 x3 M) (fun r => xCX m M0 r R)) (h : xCX m M0 M T) {x0 : Nat} {x1 : Int} {x2 : Int} {x3 : Int} {R : xT_} (tx1 : xin x1) (tx2 : xin x2) (tx3 : xin x3) (e : c382_5b r5 f x0 x1 x2 x3 T = some R) : xok (f382_5b o5 f x0 x1 x2 x3 M) (fun r => xCX m M0 r R) := by
  unfold c382_5b at e
  unfold f382_5b
  refine xok_ite (fun c101 => ?_) (fun c101 => ?_)
  · rw [if_pos c101] at e
    cases e
    exact ⟨_, rfl, h⟩
  · rw [if_neg c101] at e
    obtain ⟨T103, q102, e⟩ := xbnd e
    obtain ⟨M104, q105, h106⟩ := h.si tx1 q102
    refine xok_eqb q105 ?_
    exact hr5 h106 tx1 (xin_wr _) tx3 e
theorem t382_5 {m f : Nat} {M0 : xj_M} (hS : xHS f)   : ∀ {n : Nat} {M : xj_M} {T : xT_} {x0 : Nat} {x1 : Int} {x2 : Int} {x3 : Int} {R : xT_}, xCX m M0 M T → xin x1 → xin x2 → xin x3 → c382_5  f n x0 x1 x2 x3 T = some R → xok (f382_5  f n x0 x1 x2 x3 M) (fun r => xCX m M0 r R) := by
  intro n
  induction n with
  | zero => intros; rename_i e; cases e
  | succ n ih =>
    intros
    rename_i h i0 i1 i2 e
    exact t382_5b hS  @ih h i0 i1 i2 e
theorem t382 {m f : Nat} {M0 M : xj_M} {T : xT_} (hS : xHS f) (h : xCX m M0 M T) {a0 : Nat} {a1 : Int} {R : xT_} (ta1 : xin a1) (e : c382 f a0 a1 T = some R) : xok (f382 f a0 a1 M) (fun r => xCX m M0 r R) := by
  unfold c382 at e
  unfold f382
  obtain ⟨v107, q108, e⟩ := xbnd e
  refine xok_eqb (h.ln q108).1 ?_
  exact t382_5  hS  h ta1 (show xin (0) by decide) (h.ln q108).2 e
/-- Arrays.copyOf -/
theorem t383 {m f : Nat} {M0 M : xj_M} {T : xT_} (hS : xHS f) (h : xCX m M0 M T) {a0 : Nat} {a1 : Int} {R : Nat × xT_} (ta1 : xin a1) (e : c383 f a0 a1 T = some R) : xok (f383 f a0 a1 M) (fun r => r.1 = R.1 ∧ xCX m M0 r.2 R.2) := by
  unfold c383 at e
  unfold f383
  obtain ⟨v101, q102, e⟩ := xbnd e
  refine xok_eqb (h.ln q102).1 ?_
  refine xok_ite (fun c103 => ?_) (fun c103 => ?_)
  · rw [if_pos c103] at e
    obtain ⟨p104, q105, e⟩ := xbnd e
    obtain ⟨M106, q107, h108⟩ := h.na (by decide) q105
    refine xok_eqb q107 ?_
    dsimp only
    obtain ⟨v109, q110, e⟩ := xbnd e
    refine xok_eqb (h108.ln q110).1 ?_
    obtain ⟨T112, q111, e⟩ := xbnd e
    obtain ⟨M113, q114, h115⟩ := h108.cp q111
    refine xok_eqb q114 ?_
    cases e
    exact ⟨_, rfl, rfl, h115⟩
  · rw [if_neg c103] at e
    obtain ⟨p116, q117, e⟩ := xbnd e
    obtain ⟨M118, q119, h120⟩ := h.cl q117
    refine xok_eqb q119 ?_
    dsimp only
    obtain ⟨_, q121, e⟩ := xbnd e
    refine xok_eqb (h120.ca q121) ?_
    cases e
    exact ⟨_, rfl, rfl, h120⟩
/-- Arrays.copyOf -/
theorem t384 {m f : Nat} {M0 M : xj_M} {T : xT_} (hS : xHS f) (h : xCX m M0 M T) {a0 : Nat} {a1 : Int} {R : Nat × xT_} (ta1 : xin a1) (e : c384 f a0 a1 T = some R) : xok (f384 f a0 a1 M) (fun r => r.1 = R.1 ∧ xCX m M0 r.2 R.2) := by
  unfold c384 at e
  unfold f384
  obtain ⟨v101, q102, e⟩ := xbnd e
  refine xok_eqb (h.ln q102).1 ?_
  refine xok_ite (fun c103 => ?_) (fun c103 => ?_)
  · rw [if_pos c103] at e
    obtain ⟨p104, q105, e⟩ := xbnd e
    obtain ⟨M106, q107, h108⟩ := h.na (by decide) q105
    refine xok_eqb q107 ?_
    dsimp only
    obtain ⟨v109, q110, e⟩ := xbnd e
    refine xok_eqb (h108.ln q110).1 ?_
    obtain ⟨T112, q111, e⟩ := xbnd e
    obtain ⟨M113, q114, h115⟩ := h108.cp q111
    refine xok_eqb q114 ?_
    cases e
    exact ⟨_, rfl, rfl, h115⟩
  · rw [if_neg c103] at e
    obtain ⟨p116, q117, e⟩ := xbnd e
    obtain ⟨M118, q119, h120⟩ := h.cl q117
    refine xok_eqb q119 ?_
    dsimp only
    obtain ⟨_, q121, e⟩ := xbnd e
    refine xok_eqb (h120.ca q121) ?_
    cases e
    exact ⟨_, rfl, rfl, h120⟩
-- ChangeHouse$Works.isInBounds
theorem t397_30 {m f : Nat} {M0 M : xj_M} {T : xT_} (hS : xHS f)   (h : xCX m M0 M T) {y0 : Int} {R : Int × xT_} (ty0 : xin y0) (e : c397_30  f y0 T = some R) : xok (f397_30  f y0 M) (fun r => r.1 = R.1 ∧ xCX m M0 r.2 R.2 ∧ xin R.1) := by
  unfold c397_30 at e
  unfold f397_30
  refine xok_ite (fun c101 => ?_) (fun c101 => ?_)
  · rw [if_pos c101] at e; cases e; exact ⟨_, rfl, rfl, h, ty0⟩
  · rw [if_neg c101] at e; cases e
theorem t397_25 {m f : Nat} {M0 M : xj_M} {T : xT_} (hS : xHS f)   (h : xCX m M0 M T)  {R : Int × xT_}  (e : c397_25  f  T = some R) : xok (f397_25  f  M) (fun r => r.1 = R.1 ∧ xCX m M0 r.2 R.2 ∧ xin R.1) := by
  unfold c397_25 at e
  unfold f397_25
  exact t397_30  hS  h (show xin (1) by decide) e
theorem t397_29 {m f : Nat} {M0 M : xj_M} {T : xT_} (hS : xHS f)   (h : xCX m M0 M T)  {R : Int × xT_}  (e : c397_29  f  T = some R) : xok (f397_29  f  M) (fun r => r.1 = R.1 ∧ xCX m M0 r.2 R.2 ∧ xin R.1) := by
  unfold c397_29 at e
  unfold f397_29
  exact t397_30  hS  h (show xin (0) by decide) e
theorem t397 {m f : Nat} {M0 M : xj_M} {T : xT_} (hS : xHS f) (h : xCX m M0 M T) {a0 : Nat} {a1 : Int} {R : Int × xT_} (ta1 : xiN a1) (e : c397 f a0 a1 T = some R) : xok (f397 f a0 a1 M) (fun r => r.1 = R.1 ∧ xCX m M0 r.2 R.2 ∧ xin R.1) := by
  unfold c397 at e
  unfold f397
  obtain ⟨v102, q103, e⟩ := xbnd e
  refine xok_eqb (h.gi (by decide) (by decide) q103).1 ?_
  refine xok_ite (fun c104 => ?_) (fun c104 => ?_)
  · rw [if_pos c104] at e
    exact t397_25  hS  h  e
  · rw [if_neg c104] at e
    refine xok_ite (fun c105 => ?_) (fun c105 => ?_)
    · rw [if_pos c105] at e
      exact t397_29  hS  h  e
    · rw [if_neg c105] at e
      refine xok_ite (fun c106 => ?_) (fun c106 => ?_)
      · rw [if_pos c106] at e
        exact t397_29  hS  h  e
      · rw [if_neg c106] at e
        exact t397_25  hS  h  e
-- ChangeHouseLaw.value
theorem t1005 {m f : Nat} {M0 M : xj_M} {T : xT_} (hS : xHS f) (h : xCX m M0 M T) {a0 : Nat} {a1 : Int} {a2 : Int} {a3 : Int} {a4 : Nat} {R : Int × xT_} (ta1 : xin a1) (ta2 : xin a2) (ta3 : xin a3) (e : c1005 f a0 a1 a2 a3 a4 T = some R) : xok (f1005 f a0 a1 a2 a3 a4 M) (fun r => r.1 = R.1 ∧ xCX m M0 r.2 R.2 ∧ xin R.1) := by
  unfold c1005 at e
  unfold f1005
  obtain ⟨_, q106, e⟩ := xbnd e
  obtain ⟨R101, e102, e⟩ := xbnd e
  refine xok_eqb (h.is q106) ?_
  refine xok_call (t176 hS h ta1 ta2 ta3 e102) ?_
  rintro ⟨v_, M103⟩ ⟨hv_, h104, hi105⟩
  cases hv_
  dsimp only
  cases g108 : R101.1 with
  | inl k_ =>
    obtain ⟨k2_, e⟩ := chd_l g108 e
    rw [xhd_e (by exact g108) k2_]
    cases e
    exact ⟨_, rfl, rfl, h104, (show xin (1) by decide)⟩
  | inr v107 =>
    rw [chd_r g108] at e
    rw [xhd_r (by exact g108)]
    obtain ⟨T110, q109, e⟩ := xbnd e
    obtain ⟨M111, q112, h113⟩ := h104.sl (hi105 _ g108) q109
    refine xok_eqb q112 ?_
    cases e
    exact ⟨_, rfl, rfl, h113, (show xin (0) by decide)⟩
-- ChangeHouseLaw.answer
theorem t1007 {m f : Nat} {M0 M : xj_M} {T : xT_} (hS : xHS f) (h : xCX m M0 M T) {a0 : Nat} {a1 : Int} {a2 : Int} {a3 : Nat} {R : Int × xT_} (ta1 : xin a1) (ta2 : xin a2) (e : c1007 f a0 a1 a2 a3 T = some R) : xok (f1007 f a0 a1 a2 a3 M) (fun r => r.1 = R.1 ∧ xCX m M0 r.2 R.2 ∧ xin R.1) := by
  unfold c1007 at e
  unfold f1007
  obtain ⟨_, q106, e⟩ := xbnd e
  obtain ⟨R101, e102, e⟩ := xbnd e
  refine xok_eqb (h.is q106) ?_
  refine xok_call (t180 hS h ta1 ta2 e102) ?_
  rintro ⟨v_, M103⟩ ⟨hv_, h104, hi105⟩
  cases hv_
  dsimp only
  cases g108 : R101.1 with
  | inl k_ =>
    obtain ⟨k2_, e⟩ := chd_l g108 e
    rw [xhd_e (by exact g108) k2_]
    cases e
    exact ⟨_, rfl, rfl, h104, (show xin (1) by decide)⟩
  | inr v107 =>
    rw [chd_r g108] at e
    rw [xhd_r (by exact g108)]
    obtain ⟨T110, q109, e⟩ := xbnd e
    obtain ⟨M111, q112, h113⟩ := h104.sl (hi105 _ g108) q109
    refine xok_eqb q112 ?_
    cases e
    exact ⟨_, rfl, rfl, h113, (show xin (0) by decide)⟩
-- ChangeHouseLaw.rank
theorem t1008 {m f : Nat} {M0 M : xj_M} {T : xT_} (hS : xHS f) (h : xCX m M0 M T) {a0 : Nat} {a1 : Int} {a2 : Int} {a3 : Nat} {R : Int × xT_} (ta1 : xin a1) (ta2 : xin a2) (e : c1008 f a0 a1 a2 a3 T = some R) : xok (f1008 f a0 a1 a2 a3 M) (fun r => r.1 = R.1 ∧ xCX m M0 r.2 R.2 ∧ xin R.1) := by
  unfold c1008 at e
  unfold f1008
  obtain ⟨_, q106, e⟩ := xbnd e
  obtain ⟨R101, e102, e⟩ := xbnd e
  refine xok_eqb (h.is q106) ?_
  refine xok_call (t181 hS h ta1 ta2 e102) ?_
  rintro ⟨v_, M103⟩ ⟨hv_, h104, hi105⟩
  cases hv_
  dsimp only
  cases g108 : R101.1 with
  | inl k_ =>
    obtain ⟨k2_, e⟩ := chd_l g108 e
    rw [xhd_e (by exact g108) k2_]
    cases e
    exact ⟨_, rfl, rfl, h104, (show xin (1) by decide)⟩
  | inr v107 =>
    rw [chd_r g108] at e
    rw [xhd_r (by exact g108)]
    obtain ⟨T110, q109, e⟩ := xbnd e
    obtain ⟨M111, q112, h113⟩ := h104.sl (xin_N (hi105 _ g108)) q109
    refine xok_eqb q112 ?_
    cases e
    exact ⟨_, rfl, rfl, h113, (show xin (0) by decide)⟩
-- ChangeHouseLaw.sheet
theorem t1010 {m f : Nat} {M0 M : xj_M} {T : xT_} (hS : xHS f) (h : xCX m M0 M T) {a0 : Nat} {a1 : Int} {a2 : Int} {a3 : Int} {a4 : Nat} {R : Int × xT_} (ta1 : xin a1) (ta2 : xin a2) (ta3 : xin a3) (e : c1010 f a0 a1 a2 a3 a4 T = some R) : xok (f1010 f a0 a1 a2 a3 a4 M) (fun r => r.1 = R.1 ∧ xCX m M0 r.2 R.2 ∧ xin R.1) := by
  unfold c1010 at e
  unfold f1010
  obtain ⟨_, q106, e⟩ := xbnd e
  obtain ⟨R101, e102, e⟩ := xbnd e
  refine xok_eqb (h.is q106) ?_
  refine xok_call (t183 hS h ta1 ta2 ta3 e102) ?_
  rintro ⟨v_, M103⟩ ⟨hv_, h104, hi105⟩
  cases hv_
  dsimp only
  cases g108 : R101.1 with
  | inl k_ =>
    obtain ⟨k2_, e⟩ := chd_l g108 e
    rw [xhd_e (by exact g108) k2_]
    cases e
    exact ⟨_, rfl, rfl, h104, (show xin (1) by decide)⟩
  | inr v107 =>
    rw [chd_r g108] at e
    rw [xhd_r (by exact g108)]
    obtain ⟨T110, q109, e⟩ := xbnd e
    obtain ⟨M111, q112, h113⟩ := h104.sl (hi105 _ g108) q109
    refine xok_eqb q112 ?_
    cases e
    exact ⟨_, rfl, rfl, h113, (show xin (0) by decide)⟩
-- ChangeHouseLaw.pastValue
theorem t1011 {m f : Nat} {M0 M : xj_M} {T : xT_} (hS : xHS f) (h : xCX m M0 M T) {a0 : Nat} {a1 : Int} {a2 : Int} {a3 : Int} {a4 : Int} {a5 : Nat} {R : Int × xT_} (ta1 : xin a1) (ta2 : xin a2) (ta3 : xin a3) (ta4 : xin a4) (e : c1011 f a0 a1 a2 a3 a4 a5 T = some R) : xok (f1011 f a0 a1 a2 a3 a4 a5 M) (fun r => r.1 = R.1 ∧ xCX m M0 r.2 R.2 ∧ xin R.1) := by
  unfold c1011 at e
  unfold f1011
  obtain ⟨_, q106, e⟩ := xbnd e
  obtain ⟨R101, e102, e⟩ := xbnd e
  refine xok_eqb (h.is q106) ?_
  refine xok_call (t185 hS h ta1 ta2 ta3 ta4 e102) ?_
  rintro ⟨v_, M103⟩ ⟨hv_, h104, hi105⟩
  cases hv_
  dsimp only
  cases g108 : R101.1 with
  | inl k_ =>
    obtain ⟨k2_, e⟩ := chd_l g108 e
    rw [xhd_e (by exact g108) k2_]
    cases e
    exact ⟨_, rfl, rfl, h104, (show xin (1) by decide)⟩
  | inr v107 =>
    rw [chd_r g108] at e
    rw [xhd_r (by exact g108)]
    obtain ⟨T110, q109, e⟩ := xbnd e
    obtain ⟨M111, q112, h113⟩ := h104.sl (hi105 _ g108) q109
    refine xok_eqb q112 ?_
    cases e
    exact ⟨_, rfl, rfl, h113, (show xin (0) by decide)⟩
-- ChangeHouseLaw.met
theorem t1012 {m f : Nat} {M0 M : xj_M} {T : xT_} (hS : xHS f) (h : xCX m M0 M T) {a0 : Nat} {a1 : Int} {a2 : Nat} {R : Int × xT_} (ta1 : xin a1) (e : c1012 f a0 a1 a2 T = some R) : xok (f1012 f a0 a1 a2 M) (fun r => r.1 = R.1 ∧ xCX m M0 r.2 R.2 ∧ xin R.1) := by
  unfold c1012 at e
  unfold f1012
  obtain ⟨_, q106, e⟩ := xbnd e
  obtain ⟨R101, e102, e⟩ := xbnd e
  refine xok_eqb (h.is q106) ?_
  refine xok_call (t191 hS h ta1 e102) ?_
  rintro ⟨v_, M103⟩ ⟨hv_, h104, hi105⟩
  cases hv_
  dsimp only
  cases g108 : R101.1 with
  | inl k_ =>
    obtain ⟨k2_, e⟩ := chd_l g108 e
    rw [xhd_e (by exact g108) k2_]
    cases e
    exact ⟨_, rfl, rfl, h104, (show xin (1) by decide)⟩
  | inr v107 =>
    rw [chd_r g108] at e
    rw [xhd_r (by exact g108)]
    obtain ⟨T110, q109, e⟩ := xbnd e
    obtain ⟨M111, q112, h113⟩ := h104.sl (hi105 _ g108) q109
    refine xok_eqb q112 ?_
    cases e
    exact ⟨_, rfl, rfl, h113, (show xin (0) by decide)⟩
-- ChangeHouse$Formula.addReads
theorem t1_34 {m f : Nat} {M0 M : xj_M} {T : xT_} (hS : xHS f) {r2 : Nat → Int → Int → Int → xT_ → Option (xT_)} {o2 : Nat → Int → Int → Int → xj_M → Option (xj_M)} (hr2 : ∀ {M : xj_M} {T : xT_} {x0 : Nat} {x1 : Int} {x2 : Int} {x3 : Int} {R : xT_}, xCX m M0 M T → xin x1 → xin x2 → xin x3 → r2 x0 x1 x2 x3 T = some R → xok (o2 x0 x1 x2 x3 M) (fun r => xCX m M0 r R)) (h : xCX m M0 M T) {x0 : Nat} {x1 : Int} {x2 : Int} {x3 : Int} {R : xT_} (tx1 : xin x1) (tx2 : xin x2) (tx3 : xin x3) (e : c1_34 r2 f x0 x1 x2 x3 T = some R) : xok (f1_34 o2 f x0 x1 x2 x3 M) (fun r => xCX m M0 r R) := by
  unfold c1_34 at e
  unfold f1_34
  exact hr2 h tx1 tx2 (xin_wr _) e
theorem t1_2b {m f : Nat} {M0 M : xj_M} {T : xT_} (hS : xHS f) {r2 : Nat → Int → Int → Int → xT_ → Option (xT_)} {o2 : Nat → Int → Int → Int → xj_M → Option (xj_M)} (hr2 : ∀ {M : xj_M} {T : xT_} {x0 : Nat} {x1 : Int} {x2 : Int} {x3 : Int} {R : xT_}, xCX m M0 M T → xin x1 → xin x2 → xin x3 → r2 x0 x1 x2 x3 T = some R → xok (o2 x0 x1 x2 x3 M) (fun r => xCX m M0 r R)) (h : xCX m M0 M T) {x0 : Nat} {x1 : Int} {x2 : Int} {x3 : Int} {R : xT_} (tx1 : xin x1) (tx2 : xin x2) (tx3 : xin x3) (e : c1_2b r2 f x0 x1 x2 x3 T = some R) : xok (f1_2b o2 f x0 x1 x2 x3 M) (fun r => xCX m M0 r R) := by
  unfold c1_2b at e
  unfold f1_2b
  refine xok_ite (fun c101 => ?_) (fun c101 => ?_)
  · rw [if_pos c101] at e
    cases e
    exact ⟨_, rfl, h⟩
  · rw [if_neg c101] at e
    refine xok_ite (fun c102 => ?_) (fun c102 => ?_)
    · rw [if_pos c102] at e
      exact t1_34 (r2 := r2) (o2 := o2) hS @hr2 h tx1 tx2 tx3 e
    · rw [if_neg c102] at e
      refine xok_ite (fun c103 => ?_) (fun c103 => ?_)
      · rw [if_pos c103] at e
        exact t1_34 (r2 := r2) (o2 := o2) hS @hr2 h tx1 tx2 tx3 e
      · rw [if_neg c103] at e
        obtain ⟨_, q109, e⟩ := xbnd e
        obtain ⟨R104, e105, e⟩ := xbnd e
        refine xok_eqb (h.is q109) ?_
        refine xok_call (t2 hS h tx3 e105) ?_
        intro M106 h107
        exact t1_34 (r2 := r2) (o2 := o2) hS @hr2 h107 tx1 tx2 tx3 e
theorem t1_2 {m f : Nat} {M0 : xj_M} (hS : xHS f)   : ∀ {n : Nat} {M : xj_M} {T : xT_} {x0 : Nat} {x1 : Int} {x2 : Int} {x3 : Int} {R : xT_}, xCX m M0 M T → xin x1 → xin x2 → xin x3 → c1_2  f n x0 x1 x2 x3 T = some R → xok (f1_2  f n x0 x1 x2 x3 M) (fun r => xCX m M0 r R) := by
  intro n
  induction n with
  | zero => intros; rename_i e; cases e
  | succ n ih =>
    intros
    rename_i h i0 i1 i2 e
    exact t1_2b hS  @ih h i0 i1 i2 e
theorem t1 {m f : Nat} {M0 M : xj_M} {T : xT_} (hS : xHS f) (h : xCX m M0 M T) {a0 : Nat} {a1 : Int} {a2 : Int} {R : xT_} (ta1 : xin a1) (ta2 : xin a2) (e : c1 f a0 a1 a2 T = some R) : xok (f1 f a0 a1 a2 M) (fun r => xCX m M0 r R) := by
  unfold c1 at e
  unfold f1
  exact t1_2  hS  h ta1 ta2 ta1 e
-- ChangeHouse$Line.addMissing
theorem t9_48 {m f : Nat} {M0 M : xj_M} {T : xT_} (hS : xHS f) {r8 : Nat → Int → Int → Nat → Nat → Nat → Int → xT_ → Option (xT_)} {o8 : Nat → Int → Int → Nat → Nat → Nat → Int → xj_M → Option (xj_M)} (hr8 : ∀ {M : xj_M} {T : xT_} {x0 : Nat} {x1 : Int} {x2 : Int} {x3 : Nat} {x4 : Nat} {x5 : Nat} {x6 : Int} {R : xT_}, xCX m M0 M T → xin x1 → xin x2 → xin x6 → r8 x0 x1 x2 x3 x4 x5 x6 T = some R → xok (o8 x0 x1 x2 x3 x4 x5 x6 M) (fun r => xCX m M0 r R)) (h : xCX m M0 M T) {x0 : Nat} {x1 : Int} {x2 : Int} {x3 : Nat} {x4 : Nat} {x5 : Nat} {x6 : Int} {R : xT_} (tx1 : xin x1) (tx2 : xin x2) (tx6 : xin x6) (e : c9_48 r8 f x0 x1 x2 x3 x4 x5 x6 T = some R) : xok (f9_48 o8 f x0 x1 x2 x3 x4 x5 x6 M) (fun r => xCX m M0 r R) := by
  unfold c9_48 at e
  unfold f9_48
  exact hr8 h tx1 tx2 (xin_wr _) e
theorem t9_8b {m f : Nat} {M0 M : xj_M} {T : xT_} (hS : xHS f) {r8 : Nat → Int → Int → Nat → Nat → Nat → Int → xT_ → Option (xT_)} {o8 : Nat → Int → Int → Nat → Nat → Nat → Int → xj_M → Option (xj_M)} (hr8 : ∀ {M : xj_M} {T : xT_} {x0 : Nat} {x1 : Int} {x2 : Int} {x3 : Nat} {x4 : Nat} {x5 : Nat} {x6 : Int} {R : xT_}, xCX m M0 M T → xin x1 → xin x2 → xin x6 → r8 x0 x1 x2 x3 x4 x5 x6 T = some R → xok (o8 x0 x1 x2 x3 x4 x5 x6 M) (fun r => xCX m M0 r R)) (h : xCX m M0 M T) {x0 : Nat} {x1 : Int} {x2 : Int} {x3 : Nat} {x4 : Nat} {x5 : Nat} {x6 : Int} {R : xT_} (tx1 : xin x1) (tx2 : xin x2) (tx6 : xin x6) (e : c9_8b r8 f x0 x1 x2 x3 x4 x5 x6 T = some R) : xok (f9_8b o8 f x0 x1 x2 x3 x4 x5 x6 M) (fun r => xCX m M0 r R) := by
  unfold c9_8b at e
  unfold f9_8b
  obtain ⟨v101, q102, e⟩ := xbnd e
  refine xok_eqb (h.gi (by decide) (by decide) q102).1 ?_
  refine xok_ite (fun c103 => ?_) (fun c103 => ?_)
  · rw [if_pos c103] at e
    cases e
    exact ⟨_, rfl, h⟩
  · rw [if_neg c103] at e
    obtain ⟨_, q109, e⟩ := xbnd e
    obtain ⟨R104, e105, e⟩ := xbnd e
    refine xok_eqb (h.is q109) ?_
    refine xok_call (t78 hS h tx6 e105) ?_
    intro M106 h107
    obtain ⟨_, q115, e⟩ := xbnd e
    obtain ⟨R110, e111, e⟩ := xbnd e
    refine xok_eqb (h107.is q115) ?_
    refine xok_call (t74 hS h107  e111) ?_
    rintro ⟨v_, M112⟩ ⟨hv_, h113, hi114⟩
    cases hv_
    refine xok_ite (fun c116 => ?_) (fun c116 => ?_)
    · rw [if_pos c116] at e
      exact t9_48 (r8 := r8) (o8 := o8) hS @hr8 h113 tx1 tx2 tx6 e
    · rw [if_neg c116] at e
      obtain ⟨v117, q118, e⟩ := xbnd e
      refine xok_eqb (h113.gi (by decide) (by decide) q118).1 ?_
      obtain ⟨_, q124, e⟩ := xbnd e
      obtain ⟨R119, e120, e⟩ := xbnd e
      refine xok_eqb (h113.is q124) ?_
      refine xok_call (t8 hS h113 tx1 tx2 (show xin (0) by decide) (h113.gi (by decide) (by decide) q118).2 e120) ?_
      intro M121 h122
      exact t9_48 (r8 := r8) (o8 := o8) hS @hr8 h122 tx1 tx2 tx6 e
theorem t9_8 {m f : Nat} {M0 : xj_M} (hS : xHS f)   : ∀ {n : Nat} {M : xj_M} {T : xT_} {x0 : Nat} {x1 : Int} {x2 : Int} {x3 : Nat} {x4 : Nat} {x5 : Nat} {x6 : Int} {R : xT_}, xCX m M0 M T → xin x1 → xin x2 → xin x6 → c9_8  f n x0 x1 x2 x3 x4 x5 x6 T = some R → xok (f9_8  f n x0 x1 x2 x3 x4 x5 x6 M) (fun r => xCX m M0 r R) := by
  intro n
  induction n with
  | zero => intros; rename_i e; cases e
  | succ n ih =>
    intros
    rename_i h i0 i1 i2 e
    exact t9_8b hS  @ih h i0 i1 i2 e
theorem t9 {m f : Nat} {M0 M : xj_M} {T : xT_} (hS : xHS f) (h : xCX m M0 M T) {a0 : Nat} {a1 : Int} {a2 : Int} {a3 : Nat} {a4 : Nat} {R : xT_} (ta1 : xin a1) (ta2 : xin a2) (e : c9 f a0 a1 a2 a3 a4 T = some R) : xok (f9 f a0 a1 a2 a3 a4 M) (fun r => xCX m M0 r R) := by
  unfold c9 at e
  unfold f9
  obtain ⟨p125, q126, e⟩ := xbnd e
  obtain ⟨M127, q128, h129⟩ := h.na (by decide) q126
  refine xok_eqb q128 ?_
  dsimp only
  exact t9_8  hS  h129 ta1 ta2 (show xin (0) by decide) e
