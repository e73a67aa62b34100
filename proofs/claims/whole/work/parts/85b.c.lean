/-! The class over its cells as functions (written by mk_c.py) -/
-- ChangeHouse$Rows.differing
theorem t83_74 {m f : Nat} {M0 M : xj_M} {T : xT_} (hS : xHS f) {r7 : Nat → Nat → Int → Int → Int → xT_ → Option (Int × xT_)} {o7 : Nat → Nat → Int → Int → Int → xj_M → Option (Int × xj_M)} (hr7 : ∀ {M : xj_M} {T : xT_} {x0 : Nat} {x1 : Nat} {x2 : Int} {x3 : Int} {x4 : Int} {R : Int × xT_}, xCX m M0 M T → xin x2 → xin x3 → xin x4 → r7 x0 x1 x2 x3 x4 T = some R → xok (o7 x0 x1 x2 x3 x4 M) (fun r => r.1 = R.1 ∧ xCX m M0 r.2 R.2 ∧ xin R.1)) (h : xCX m M0 M T) {x0 : Nat} {x1 : Nat} {x3 : Int} {x4 : Int} {y0 : Int} {y1 : Int} {R : Int × xT_} (tx3 : xin x3) (tx4 : xin x4) (ty0 : xin y0) (ty1 : xin y1) (e : c83_74 r7 f x0 x1 x3 x4 y0 y1 T = some R) : xok (f83_74 o7 f x0 x1 x3 x4 y0 y1 M) (fun r => r.1 = R.1 ∧ xCX m M0 r.2 R.2 ∧ xin R.1) := by
  unfold c83_74 at e
  unfold f83_74
  exact hr7 h (xin_wr _) tx3 (xin_wr _) e
theorem t83_73 {m f : Nat} {M0 M : xj_M} {T : xT_} (hS : xHS f) {r7 : Nat → Nat → Int → Int → Int → xT_ → Option (Int × xT_)} {o7 : Nat → Nat → Int → Int → Int → xj_M → Option (Int × xj_M)} (hr7 : ∀ {M : xj_M} {T : xT_} {x0 : Nat} {x1 : Nat} {x2 : Int} {x3 : Int} {x4 : Int} {R : Int × xT_}, xCX m M0 M T → xin x2 → xin x3 → xin x4 → r7 x0 x1 x2 x3 x4 T = some R → xok (o7 x0 x1 x2 x3 x4 M) (fun r => r.1 = R.1 ∧ xCX m M0 r.2 R.2 ∧ xin R.1)) (h : xCX m M0 M T) {x0 : Nat} {x1 : Nat} {x3 : Int} {x4 : Int} {y0 : Int} {R : Int × xT_} (tx3 : xin x3) (tx4 : xin x4) (ty0 : xin y0) (e : c83_73 r7 f x0 x1 x3 x4 y0 T = some R) : xok (f83_73 o7 f x0 x1 x3 x4 y0 M) (fun r => r.1 = R.1 ∧ xCX m M0 r.2 R.2 ∧ xin R.1) := by
  unfold c83_73 at e
  unfold f83_73
  exact t83_74 (r7 := r7) (o7 := o7) hS @hr7 h tx3 tx4 (show xin (0) by decide) ty0 e
theorem t83_45 {m f : Nat} {M0 M : xj_M} {T : xT_} (hS : xHS f) {r7 : Nat → Nat → Int → Int → Int → xT_ → Option (Int × xT_)} {o7 : Nat → Nat → Int → Int → Int → xj_M → Option (Int × xj_M)} (hr7 : ∀ {M : xj_M} {T : xT_} {x0 : Nat} {x1 : Nat} {x2 : Int} {x3 : Int} {x4 : Int} {R : Int × xT_}, xCX m M0 M T → xin x2 → xin x3 → xin x4 → r7 x0 x1 x2 x3 x4 T = some R → xok (o7 x0 x1 x2 x3 x4 M) (fun r => r.1 = R.1 ∧ xCX m M0 r.2 R.2 ∧ xin R.1)) (h : xCX m M0 M T) {x0 : Nat} {x1 : Nat} {x2 : Int} {x3 : Int} {x4 : Int} {R : Int × xT_} (tx2 : xin x2) (tx3 : xin x3) (tx4 : xin x4) (e : c83_45 r7 f x0 x1 x2 x3 x4 T = some R) : xok (f83_45 o7 f x0 x1 x2 x3 x4 M) (fun r => r.1 = R.1 ∧ xCX m M0 r.2 R.2 ∧ xin R.1) := by
  unfold c83_45 at e
  unfold f83_45
  obtain ⟨v101, q102, e⟩ := xbnd e
  refine xok_eqb (h.gi (by decide) (by decide) q102).1 ?_
  refine xok_ite (fun c103 => ?_) (fun c103 => ?_)
  · rw [if_pos c103] at e
    exact t83_73 (r7 := r7) (o7 := o7) hS @hr7 h tx3 tx4 tx2 e
  · rw [if_neg c103] at e
    obtain ⟨v104, q105, e⟩ := xbnd e
    refine xok_eqb (h.gi (by decide) (by decide) q105).1 ?_
    obtain ⟨_, q111, e⟩ := xbnd e
    obtain ⟨R106, e107, e⟩ := xbnd e
    refine xok_eqb (h.is q111) ?_
    refine xok_call (t72 hS h tx3 tx4 (h.gi (by decide) (by decide) q105).2 e107) ?_
    rintro ⟨v_, M108⟩ ⟨hv_, h109, hi110⟩
    cases hv_
    refine xok_ite (fun c112 => ?_) (fun c112 => ?_)
    · rw [if_pos c112] at e
      exact t83_73 (r7 := r7) (o7 := o7) hS @hr7 h109 tx3 tx4 tx2 e
    · rw [if_neg c112] at e
      exact t83_74 (r7 := r7) (o7 := o7) hS @hr7 h109 tx3 tx4 (show xin (1) by decide) tx2 e
theorem t83_16b {m f : Nat} {M0 M : xj_M} {T : xT_} (hS : xHS f) {r7 : Nat → Nat → Int → Int → Int → xT_ → Option (Int × xT_)} {o7 : Nat → Nat → Int → Int → Int → xj_M → Option (Int × xj_M)} {r16 : Nat → Nat → Int → Int → Int → xT_ → Option (Int × xT_)} {o16 : Nat → Nat → Int → Int → Int → xj_M → Option (Int × xj_M)} (hr7 : ∀ {M : xj_M} {T : xT_} {x0 : Nat} {x1 : Nat} {x2 : Int} {x3 : Int} {x4 : Int} {R : Int × xT_}, xCX m M0 M T → xin x2 → xin x3 → xin x4 → r7 x0 x1 x2 x3 x4 T = some R → xok (o7 x0 x1 x2 x3 x4 M) (fun r => r.1 = R.1 ∧ xCX m M0 r.2 R.2 ∧ xin R.1)) (hr16 : ∀ {M : xj_M} {T : xT_} {x0 : Nat} {x1 : Nat} {x2 : Int} {x3 : Int} {x4 : Int} {R : Int × xT_}, xCX m M0 M T → xin x2 → xin x3 → xin x4 → r16 x0 x1 x2 x3 x4 T = some R → xok (o16 x0 x1 x2 x3 x4 M) (fun r => r.1 = R.1 ∧ xCX m M0 r.2 R.2 ∧ xin R.1)) (h : xCX m M0 M T) {x0 : Nat} {x1 : Nat} {x2 : Int} {x3 : Int} {x4 : Int} {R : Int × xT_} (tx2 : xin x2) (tx3 : xin x3) (tx4 : xin x4) (e : c83_16b r7 r16 f x0 x1 x2 x3 x4 T = some R) : xok (f83_16b o7 o16 f x0 x1 x2 x3 x4 M) (fun r => r.1 = R.1 ∧ xCX m M0 r.2 R.2 ∧ xin R.1) := by
  unfold c83_16b at e
  unfold f83_16b
  obtain ⟨v113, q114, e⟩ := xbnd e
  refine xok_eqb (h.gi (by decide) (by decide) q114).1 ?_
  refine xok_ite (fun c115 => ?_) (fun c115 => ?_)
  · rw [if_pos c115] at e
    exact t83_45 (r7 := r7) (o7 := o7) hS @hr7 h tx2 tx3 tx4 e
  · rw [if_neg c115] at e
    obtain ⟨v116, q117, e⟩ := xbnd e
    refine xok_eqb (h.gi (by decide) (by decide) q117).1 ?_
    obtain ⟨_, q123, e⟩ := xbnd e
    obtain ⟨R118, e119, e⟩ := xbnd e
    refine xok_eqb (h.is q123) ?_
    refine xok_call (t72 hS h tx3 tx4 (h.gi (by decide) (by decide) q117).2 e119) ?_
    rintro ⟨v_, M120⟩ ⟨hv_, h121, hi122⟩
    cases hv_
    refine xok_ite (fun c124 => ?_) (fun c124 => ?_)
    · rw [if_pos c124] at e
      exact t83_45 (r7 := r7) (o7 := o7) hS @hr7 h121 tx2 tx3 tx4 e
    · rw [if_neg c124] at e
      exact hr16 h121 tx2 (xin_wr _) tx4 e
theorem t83_16 {m f : Nat} {M0 : xj_M} (hS : xHS f) {r7 : Nat → Nat → Int → Int → Int → xT_ → Option (Int × xT_)} {o7 : Nat → Nat → Int → Int → Int → xj_M → Option (Int × xj_M)} (hr7 : ∀ {M : xj_M} {T : xT_} {x0 : Nat} {x1 : Nat} {x2 : Int} {x3 : Int} {x4 : Int} {R : Int × xT_}, xCX m M0 M T → xin x2 → xin x3 → xin x4 → r7 x0 x1 x2 x3 x4 T = some R → xok (o7 x0 x1 x2 x3 x4 M) (fun r => r.1 = R.1 ∧ xCX m M0 r.2 R.2 ∧ xin R.1)) : ∀ {n : Nat} {M : xj_M} {T : xT_} {x0 : Nat} {x1 : Nat} {x2 : Int} {x3 : Int} {x4 : Int} {R : Int × xT_}, xCX m M0 M T → xin x2 → xin x3 → xin x4 → c83_16 r7 f n x0 x1 x2 x3 x4 T = some R → xok (f83_16 o7 f n x0 x1 x2 x3 x4 M) (fun r => r.1 = R.1 ∧ xCX m M0 r.2 R.2 ∧ xin R.1) := by
  intro n
  induction n with
  | zero => intros; rename_i e; cases e
  | succ n ih =>
    intros
    rename_i h i0 i1 i2 e
    exact t83_16b hS @hr7 @ih h i0 i1 i2 e
theorem t83_7b {m f : Nat} {M0 M : xj_M} {T : xT_} (hS : xHS f) {r7 : Nat → Nat → Int → Int → Int → xT_ → Option (Int × xT_)} {o7 : Nat → Nat → Int → Int → Int → xj_M → Option (Int × xj_M)} (hr7 : ∀ {M : xj_M} {T : xT_} {x0 : Nat} {x1 : Nat} {x2 : Int} {x3 : Int} {x4 : Int} {R : Int × xT_}, xCX m M0 M T → xin x2 → xin x3 → xin x4 → r7 x0 x1 x2 x3 x4 T = some R → xok (o7 x0 x1 x2 x3 x4 M) (fun r => r.1 = R.1 ∧ xCX m M0 r.2 R.2 ∧ xin R.1)) (h : xCX m M0 M T) {x0 : Nat} {x1 : Nat} {x2 : Int} {x3 : Int} {x4 : Int} {R : Int × xT_} (tx2 : xin x2) (tx3 : xin x3) (tx4 : xin x4) (e : c83_7b r7 f x0 x1 x2 x3 x4 T = some R) : xok (f83_7b o7 f x0 x1 x2 x3 x4 M) (fun r => r.1 = R.1 ∧ xCX m M0 r.2 R.2 ∧ xin R.1) := by
  unfold c83_7b at e
  unfold f83_7b
  obtain ⟨v125, q126, e⟩ := xbnd e
  refine xok_eqb (h.gi (by decide) (by decide) q126).1 ?_
  refine xok_ite (fun c127 => ?_) (fun c127 => ?_)
  · rw [if_pos c127] at e
    obtain ⟨v128, q129, e⟩ := xbnd e
    refine xok_eqb (h.gi (by decide) (by decide) q129).1 ?_
    obtain ⟨v130, q131, e⟩ := xbnd e
    refine xok_eqb (h.gi (by decide) (by decide) q131).1 ?_
    cases e
    exact ⟨_, rfl, rfl, h, (xin_wr _)⟩
  · rw [if_neg c127] at e
    exact t83_16 (r7 := r7) (o7 := o7) hS @hr7 h tx2 tx3 tx4 e
theorem t83_7 {m f : Nat} {M0 : xj_M} (hS : xHS f)   : ∀ {n : Nat} {M : xj_M} {T : xT_} {x0 : Nat} {x1 : Nat} {x2 : Int} {x3 : Int} {x4 : Int} {R : Int × xT_}, xCX m M0 M T → xin x2 → xin x3 → xin x4 → c83_7  f n x0 x1 x2 x3 x4 T = some R → xok (f83_7  f n x0 x1 x2 x3 x4 M) (fun r => r.1 = R.1 ∧ xCX m M0 r.2 R.2 ∧ xin R.1) := by
  intro n
  induction n with
  | zero => intros; rename_i e; cases e
  | succ n ih =>
    intros
    rename_i h i0 i1 i2 e
    exact t83_7b hS  @ih h i0 i1 i2 e
theorem t83 {m f : Nat} {M0 M : xj_M} {T : xT_} (hS : xHS f) (h : xCX m M0 M T) {a0 : Nat} {a1 : Nat} {R : Int × xT_}  (e : c83 f a0 a1 T = some R) : xok (f83 f a0 a1 M) (fun r => r.1 = R.1 ∧ xCX m M0 r.2 R.2 ∧ xin R.1) := by
  unfold c83 at e
  unfold f83
  exact t83_7  hS  h (show xin (0) by decide) (show xin (0) by decide) (show xin (0) by decide) e
-- ChangeHouse$Rows.difference
theorem t84_94 {m f : Nat} {M0 M : xj_M} {T : xT_} (hS : xHS f)   (h : xCX m M0 M T) {y0 : Int} {R : Int × xT_} (ty0 : xin y0) (e : c84_94  f y0 T = some R) : xok (f84_94  f y0 M) (fun r => r.1 = R.1 ∧ xCX m M0 r.2 R.2 ∧ xin R.1) := by
  unfold c84_94 at e
  unfold f84_94
  cases e
  exact ⟨_, rfl, rfl, h, ty0⟩
theorem t84_135 {m f : Nat} {M0 M : xj_M} {T : xT_} (hS : xHS f) {r8 : Nat → Nat → Int → Int → Int → xT_ → Option (Int × xT_)} {o8 : Nat → Nat → Int → Int → Int → xj_M → Option (Int × xj_M)} (hr8 : ∀ {M : xj_M} {T : xT_} {x0 : Nat} {x1 : Nat} {x3 : Int} {x4 : Int} {x5 : Int} {R : Int × xT_}, xCX m M0 M T → xin x3 → xin x4 → xin x5 → r8 x0 x1 x3 x4 x5 T = some R → xok (o8 x0 x1 x3 x4 x5 M) (fun r => r.1 = R.1 ∧ xCX m M0 r.2 R.2 ∧ xin R.1)) (h : xCX m M0 M T) {x0 : Nat} {x1 : Nat} {x3 : Int} {x4 : Int} {y0 : Int} {y1 : Int} {R : Int × xT_} (tx3 : xin x3) (tx4 : xin x4) (ty0 : xin y0) (ty1 : xin y1) (e : c84_135 r8 f x0 x1 x3 x4 y0 y1 T = some R) : xok (f84_135 o8 f x0 x1 x3 x4 y0 y1 M) (fun r => r.1 = R.1 ∧ xCX m M0 r.2 R.2 ∧ xin R.1) := by
  unfold c84_135 at e
  unfold f84_135
  exact hr8 h tx3 tx4 (xin_wr _) e
theorem t84_120 {m f : Nat} {M0 M : xj_M} {T : xT_} (hS : xHS f) {r8 : Nat → Nat → Int → Int → Int → xT_ → Option (Int × xT_)} {o8 : Nat → Nat → Int → Int → Int → xj_M → Option (Int × xj_M)} (hr8 : ∀ {M : xj_M} {T : xT_} {x0 : Nat} {x1 : Nat} {x3 : Int} {x4 : Int} {x5 : Int} {R : Int × xT_}, xCX m M0 M T → xin x3 → xin x4 → xin x5 → r8 x0 x1 x3 x4 x5 T = some R → xok (o8 x0 x1 x3 x4 x5 M) (fun r => r.1 = R.1 ∧ xCX m M0 r.2 R.2 ∧ xin R.1)) (h : xCX m M0 M T) {x0 : Nat} {x1 : Nat} {x3 : Int} {x5 : Int} {x6 : Int} {y0 : Int} {y1 : Int} {R : Int × xT_} (tx3 : xin x3) (tx5 : xin x5) (tx6 : xin x6) (ty0 : xin y0) (ty1 : xin y1) (e : c84_120 r8 f x0 x1 x3 x5 x6 y0 y1 T = some R) : xok (f84_120 o8 f x0 x1 x3 x5 x6 y0 y1 M) (fun r => r.1 = R.1 ∧ xCX m M0 r.2 R.2 ∧ xin R.1) := by
  unfold c84_120 at e
  unfold f84_120
  refine xok_ite (fun c101 => ?_) (fun c101 => ?_)
  · rw [if_pos c101] at e
    exact t84_135 (r8 := r8) (o8 := o8) hS @hr8 h tx3 (xin_wr _) (show xin (0) by decide) tx5 e
  · rw [if_neg c101] at e
    exact t84_135 (r8 := r8) (o8 := o8) hS @hr8 h tx3 (xin_wr _) (show xin (1) by decide) tx5 e
theorem t84_106 {m f : Nat} {M0 M : xj_M} {T : xT_} (hS : xHS f) {r8 : Nat → Nat → Int → Int → Int → xT_ → Option (Int × xT_)} {o8 : Nat → Nat → Int → Int → Int → xj_M → Option (Int × xj_M)} (hr8 : ∀ {M : xj_M} {T : xT_} {x0 : Nat} {x1 : Nat} {x3 : Int} {x4 : Int} {x5 : Int} {R : Int × xT_}, xCX m M0 M T → xin x3 → xin x4 → xin x5 → r8 x0 x1 x3 x4 x5 T = some R → xok (o8 x0 x1 x3 x4 x5 M) (fun r => r.1 = R.1 ∧ xCX m M0 r.2 R.2 ∧ xin R.1)) (h : xCX m M0 M T) {x0 : Nat} {x1 : Nat} {x4 : Int} {x5 : Int} {x6 : Int} {y0 : Int} {y1 : Int} {R : Int × xT_} (tx4 : xin x4) (tx5 : xin x5) (tx6 : xin x6) (ty0 : xin y0) (ty1 : xin y1) (e : c84_106 r8 f x0 x1 x4 x5 x6 y0 y1 T = some R) : xok (f84_106 o8 f x0 x1 x4 x5 x6 y0 y1 M) (fun r => r.1 = R.1 ∧ xCX m M0 r.2 R.2 ∧ xin R.1) := by
  unfold c84_106 at e
  unfold f84_106
  refine xok_ite (fun c102 => ?_) (fun c102 => ?_)
  · rw [if_pos c102] at e
    exact t84_120 (r8 := r8) (o8 := o8) hS @hr8 h (xin_wr _) tx5 tx6 (show xin (0) by decide) tx4 e
  · rw [if_neg c102] at e
    exact t84_120 (r8 := r8) (o8 := o8) hS @hr8 h (xin_wr _) tx5 tx6 (show xin (1) by decide) tx4 e
theorem t84_95 {m f : Nat} {M0 M : xj_M} {T : xT_} (hS : xHS f) {r8 : Nat → Nat → Int → Int → Int → xT_ → Option (Int × xT_)} {o8 : Nat → Nat → Int → Int → Int → xj_M → Option (Int × xj_M)} (hr8 : ∀ {M : xj_M} {T : xT_} {x0 : Nat} {x1 : Nat} {x3 : Int} {x4 : Int} {x5 : Int} {R : Int × xT_}, xCX m M0 M T → xin x3 → xin x4 → xin x5 → r8 x0 x1 x3 x4 x5 T = some R → xok (o8 x0 x1 x3 x4 x5 M) (fun r => r.1 = R.1 ∧ xCX m M0 r.2 R.2 ∧ xin R.1)) (h : xCX m M0 M T) {x0 : Nat} {x1 : Nat} {x3 : Int} {x4 : Int} {x5 : Int} {x6 : Int} {R : Int × xT_} (tx3 : xin x3) (tx4 : xin x4) (tx5 : xin x5) (tx6 : xin x6) (e : c84_95 r8 f x0 x1 x3 x4 x5 x6 T = some R) : xok (f84_95 o8 f x0 x1 x3 x4 x5 x6 M) (fun r => r.1 = R.1 ∧ xCX m M0 r.2 R.2 ∧ xin R.1) := by
  unfold c84_95 at e
  unfold f84_95
  refine xok_ite (fun c103 => ?_) (fun c103 => ?_)
  · rw [if_pos c103] at e
    exact t84_106 (r8 := r8) (o8 := o8) hS @hr8 h tx4 tx5 tx6 (show xin (0) by decide) tx3 e
  · rw [if_neg c103] at e
    exact t84_106 (r8 := r8) (o8 := o8) hS @hr8 h tx4 tx5 tx6 (show xin (1) by decide) tx3 e
theorem t84_65 {m f : Nat} {M0 M : xj_M} {T : xT_} (hS : xHS f) {r8 : Nat → Nat → Int → Int → Int → xT_ → Option (Int × xT_)} {o8 : Nat → Nat → Int → Int → Int → xj_M → Option (Int × xj_M)} (hr8 : ∀ {M : xj_M} {T : xT_} {x0 : Nat} {x1 : Nat} {x3 : Int} {x4 : Int} {x5 : Int} {R : Int × xT_}, xCX m M0 M T → xin x3 → xin x4 → xin x5 → r8 x0 x1 x3 x4 x5 T = some R → xok (o8 x0 x1 x3 x4 x5 M) (fun r => r.1 = R.1 ∧ xCX m M0 r.2 R.2 ∧ xin R.1)) (h : xCX m M0 M T) {x0 : Nat} {x1 : Nat} {x3 : Int} {x4 : Int} {x5 : Int} {y0 : Int} {R : Int × xT_} (tx3 : xin x3) (tx4 : xin x4) (tx5 : xin x5) (ty0 : xin y0) (e : c84_65 r8 f x0 x1 x3 x4 x5 y0 T = some R) : xok (f84_65 o8 f x0 x1 x3 x4 x5 y0 M) (fun r => r.1 = R.1 ∧ xCX m M0 r.2 R.2 ∧ xin R.1) := by
  unfold c84_65 at e
  unfold f84_65
  refine xok_ite (fun c104 => ?_) (fun c104 => ?_)
  · rw [if_pos c104] at e
    exact t84_95 (r8 := r8) (o8 := o8) hS @hr8 h tx3 tx4 tx5 ty0 e
  · rw [if_neg c104] at e
    refine xok_ite (fun c105 => ?_) (fun c105 => ?_)
    · rw [if_pos c105] at e
      exact t84_95 (r8 := r8) (o8 := o8) hS @hr8 h tx3 tx4 tx5 ty0 e
    · rw [if_neg c105] at e
      refine xok_ite (fun c106 => ?_) (fun c106 => ?_)
      · rw [if_pos c106] at e
        exact t84_94  hS  h (xin_wr _) e
      · rw [if_neg c106] at e
        exact t84_94  hS  h (xin_wr _) e
theorem t84_26 {m f : Nat} {M0 M : xj_M} {T : xT_} (hS : xHS f) {r8 : Nat → Nat → Int → Int → Int → xT_ → Option (Int × xT_)} {o8 : Nat → Nat → Int → Int → Int → xj_M → Option (Int × xj_M)} (hr8 : ∀ {M : xj_M} {T : xT_} {x0 : Nat} {x1 : Nat} {x3 : Int} {x4 : Int} {x5 : Int} {R : Int × xT_}, xCX m M0 M T → xin x3 → xin x4 → xin x5 → r8 x0 x1 x3 x4 x5 T = some R → xok (o8 x0 x1 x3 x4 x5 M) (fun r => r.1 = R.1 ∧ xCX m M0 r.2 R.2 ∧ xin R.1)) (h : xCX m M0 M T) {x0 : Nat} {x1 : Nat} {x3 : Int} {x4 : Int} {x5 : Int} {R : Int × xT_} (tx3 : xin x3) (tx4 : xin x4) (tx5 : xin x5) (e : c84_26 r8 f x0 x1 x3 x4 x5 T = some R) : xok (f84_26 o8 f x0 x1 x3 x4 x5 M) (fun r => r.1 = R.1 ∧ xCX m M0 r.2 R.2 ∧ xin R.1) := by
  unfold c84_26 at e
  unfold f84_26
  obtain ⟨v107, q108, e⟩ := xbnd e
  refine xok_eqb (h.gi (by decide) (by decide) q108).1 ?_
  refine xok_ite (fun c109 => ?_) (fun c109 => ?_)
  · rw [if_pos c109] at e
    obtain ⟨v110, q111, e⟩ := xbnd e
    refine xok_eqb (h.gi (by decide) (by decide) q111).1 ?_
    refine xok_ite (fun c112 => ?_) (fun c112 => ?_)
    · rw [if_pos c112] at e
      obtain ⟨v113, q114, e⟩ := xbnd e
      refine xok_eqb (h.gi (by decide) (by decide) q114).1 ?_
      obtain ⟨_, q120, e⟩ := xbnd e
      obtain ⟨R115, e116, e⟩ := xbnd e
      refine xok_eqb (h.is q120) ?_
      refine xok_call (t72 hS h tx4 tx5 (h.gi (by decide) (by decide) q114).2 e116) ?_
      rintro ⟨v_, M117⟩ ⟨hv_, h118, hi119⟩
      cases hv_
      exact t84_65 (r8 := r8) (o8 := o8) hS @hr8 h118 tx3 tx4 tx5 hi119 e
    · rw [if_neg c112] at e
      exact t84_65 (r8 := r8) (o8 := o8) hS @hr8 h tx3 tx4 tx5 (show xin (-1) by decide) e
  · rw [if_neg c109] at e
    exact t84_65 (r8 := r8) (o8 := o8) hS @hr8 h tx3 tx4 tx5 (show xin (1) by decide) e
theorem t84_8b {m f : Nat} {M0 M : xj_M} {T : xT_} (hS : xHS f) {r8 : Nat → Nat → Int → Int → Int → xT_ → Option (Int × xT_)} {o8 : Nat → Nat → Int → Int → Int → xj_M → Option (Int × xj_M)} (hr8 : ∀ {M : xj_M} {T : xT_} {x0 : Nat} {x1 : Nat} {x3 : Int} {x4 : Int} {x5 : Int} {R : Int × xT_}, xCX m M0 M T → xin x3 → xin x4 → xin x5 → r8 x0 x1 x3 x4 x5 T = some R → xok (o8 x0 x1 x3 x4 x5 M) (fun r => r.1 = R.1 ∧ xCX m M0 r.2 R.2 ∧ xin R.1)) (h : xCX m M0 M T) {x0 : Nat} {x1 : Nat} {x3 : Int} {x4 : Int} {x5 : Int} {R : Int × xT_} (tx3 : xin x3) (tx4 : xin x4) (tx5 : xin x5) (e : c84_8b r8 f x0 x1 x3 x4 x5 T = some R) : xok (f84_8b o8 f x0 x1 x3 x4 x5 M) (fun r => r.1 = R.1 ∧ xCX m M0 r.2 R.2 ∧ xin R.1) := by
  unfold c84_8b at e
  unfold f84_8b
  obtain ⟨v121, q122, e⟩ := xbnd e
  refine xok_eqb (h.gi (by decide) (by decide) q122).1 ?_
  refine xok_ite (fun c123 => ?_) (fun c123 => ?_)
  · rw [if_pos c123] at e
    exact t84_26 (r8 := r8) (o8 := o8) hS @hr8 h tx3 tx4 tx5 e
  · rw [if_neg c123] at e
    obtain ⟨v124, q125, e⟩ := xbnd e
    refine xok_eqb (h.gi (by decide) (by decide) q125).1 ?_
    refine xok_ite (fun c126 => ?_) (fun c126 => ?_)
    · rw [if_pos c126] at e
      cases e
      exact ⟨_, rfl, rfl, h, (show xin (-1) by decide)⟩
    · rw [if_neg c126] at e
      exact t84_26 (r8 := r8) (o8 := o8) hS @hr8 h tx3 tx4 tx5 e
theorem t84_8 {m f : Nat} {M0 : xj_M} (hS : xHS f)   : ∀ {n : Nat} {M : xj_M} {T : xT_} {x0 : Nat} {x1 : Nat} {x3 : Int} {x4 : Int} {x5 : Int} {R : Int × xT_}, xCX m M0 M T → xin x3 → xin x4 → xin x5 → c84_8  f n x0 x1 x3 x4 x5 T = some R → xok (f84_8  f n x0 x1 x3 x4 x5 M) (fun r => r.1 = R.1 ∧ xCX m M0 r.2 R.2 ∧ xin R.1) := by
  intro n
  induction n with
  | zero => intros; rename_i e; cases e
  | succ n ih =>
    intros
    rename_i h i0 i1 i2 e
    exact t84_8b hS  @ih h i0 i1 i2 e
theorem t84 {m f : Nat} {M0 M : xj_M} {T : xT_} (hS : xHS f) (h : xCX m M0 M T) {a0 : Nat} {a1 : Nat} {a2 : Int} {R : Int × xT_} (ta2 : xin a2) (e : c84 f a0 a1 a2 T = some R) : xok (f84 f a0 a1 a2 M) (fun r => r.1 = R.1 ∧ xCX m M0 r.2 R.2 ∧ xin R.1) := by
  unfold c84 at e
  unfold f84
  exact t84_8  hS  h ta2 (show xin (0) by decide) (show xin (0) by decide) e
-- ChangeHouse$Rows.isRow
theorem t86_20 {m f : Nat} {M0 M : xj_M} {T : xT_} (hS : xHS f)   (h : xCX m M0 M T) {y0 : Int} {R : Int × xT_} (ty0 : xin y0) (e : c86_20  f y0 T = some R) : xok (f86_20  f y0 M) (fun r => r.1 = R.1 ∧ xCX m M0 r.2 R.2 ∧ xin R.1) := by
  unfold c86_20 at e
  unfold f86_20
  refine xok_ite (fun c101 => ?_) (fun c101 => ?_)
  · rw [if_pos c101] at e; cases e; exact ⟨_, rfl, rfl, h, ty0⟩
  · rw [if_neg c101] at e; cases e
theorem t86_10 {m f : Nat} {M0 M : xj_M} {T : xT_} (hS : xHS f)   (h : xCX m M0 M T) {x1 : Int} {x3 : Int} {R : Int × xT_} (tx1 : xin x1) (tx3 : xin x3) (e : c86_10  f x1 x3 T = some R) : xok (f86_10  f x1 x3 M) (fun r => r.1 = R.1 ∧ xCX m M0 r.2 R.2 ∧ xin R.1) := by
  unfold c86_10 at e
  unfold f86_10
  refine xok_ite (fun c102 => ?_) (fun c102 => ?_)
  · rw [if_pos c102] at e
    exact t86_20  hS  h (show xin (0) by decide) e
  · rw [if_neg c102] at e
    exact t86_20  hS  h (show xin (1) by decide) e
theorem t86_40 {m f : Nat} {M0 M : xj_M} {T : xT_} (hS : xHS f)   (h : xCX m M0 M T) {y0 : Int} {R : Int × xT_} (ty0 : xin y0) (e : c86_40  f y0 T = some R) : xok (f86_40  f y0 M) (fun r => r.1 = R.1 ∧ xCX m M0 r.2 R.2 ∧ xin R.1) := by
  unfold c86_40 at e
  unfold f86_40
  refine xok_ite (fun c103 => ?_) (fun c103 => ?_)
  · rw [if_pos c103] at e; cases e; exact ⟨_, rfl, rfl, h, ty0⟩
  · rw [if_neg c103] at e; cases e
theorem t86 {m f : Nat} {M0 M : xj_M} {T : xT_} (hS : xHS f) (h : xCX m M0 M T) {a0 : Nat} {a1 : Int} {a2 : Nat} {a3 : Int} {R : Int × xT_} (ta1 : xin a1) (ta3 : xin a3) (e : c86 f a0 a1 a2 a3 T = some R) : xok (f86 f a0 a1 a2 a3 M) (fun r => r.1 = R.1 ∧ xCX m M0 r.2 R.2 ∧ xin R.1) := by
  unfold c86 at e
  unfold f86
  refine xok_ite (fun c104 => ?_) (fun c104 => ?_)
  · rw [if_pos c104] at e
    exact t86_10  hS  h ta1 ta3 e
  · rw [if_neg c104] at e
    refine xok_ite (fun c105 => ?_) (fun c105 => ?_)
    · rw [if_pos c105] at e
      obtain ⟨v106, q107, e⟩ := xbnd e
      refine xok_eqb (h.gi (by decide) (by decide) q107).1 ?_
      obtain ⟨_, q113, e⟩ := xbnd e
      obtain ⟨R108, e109, e⟩ := xbnd e
      refine xok_eqb (h.is q113) ?_
      refine xok_call (t72 hS h ta1 ta3 (h.gi (by decide) (by decide) q107).2 e109) ?_
      rintro ⟨v_, M110⟩ ⟨hv_, h111, hi112⟩
      cases hv_
      refine xok_ite (fun c114 => ?_) (fun c114 => ?_)
      · rw [if_pos c114] at e
        exact t86_40  hS  h111 (show xin (0) by decide) e
      · rw [if_neg c114] at e
        exact t86_40  hS  h111 (show xin (1) by decide) e
    · rw [if_neg c105] at e
      exact t86_10  hS  h ta1 ta3 e
-- ChangeHouse$Rule.<init>
theorem t87 {m f : Nat} {M0 M : xj_M} {T : xT_} (hS : xHS f) (h : xCX m M0 M T) {a0 : Nat} {R : xT_}  (e : c87 f a0 T = some R) : xok (f87 f a0 M) (fun r => xCX m M0 r R) := by
  unfold c87 at e
  unfold f87
  obtain ⟨_, q101, e⟩ := xbnd e
  refine xok_eqb q101 ?_
  obtain ⟨T103, q102, e⟩ := xbnd e
  obtain ⟨M104, q105, h106⟩ := h.pi (by decide) (by decide) (show xin (-1) by decide) q102
  refine xok_eqb q105 ?_
  obtain ⟨T108, q107, e⟩ := xbnd e
  obtain ⟨M109, q110, h111⟩ := h106.pi (by decide) (by decide) (show xin (-1) by decide) q107
  refine xok_eqb q110 ?_
  obtain ⟨p112, q113, e⟩ := xbnd e
  obtain ⟨M114, q115, h116⟩ := h111.na (by decide) q113
  refine xok_eqb q115 ?_
  dsimp only
  obtain ⟨T118, q117, e⟩ := xbnd e
  obtain ⟨M119, q120, h121⟩ := h116.pr (by decide) (by decide)  q117
  refine xok_eqb q120 ?_
  obtain ⟨p122, q123, e⟩ := xbnd e
  obtain ⟨M124, q125, h126⟩ := h121.na (by decide) q123
  refine xok_eqb q125 ?_
  dsimp only
  obtain ⟨T128, q127, e⟩ := xbnd e
  obtain ⟨M129, q130, h131⟩ := h126.pr (by decide) (by decide)  q127
  refine xok_eqb q130 ?_
  obtain ⟨p132, q133, e⟩ := xbnd e
  obtain ⟨M134, q135, h136⟩ := h131.na (by decide) q133
  refine xok_eqb q135 ?_
  dsimp only
  obtain ⟨T138, q137, e⟩ := xbnd e
  obtain ⟨M139, q140, h141⟩ := h136.pr (by decide) (by decide)  q137
  refine xok_eqb q140 ?_
  obtain ⟨p142, q143, e⟩ := xbnd e
  obtain ⟨M144, q145, h146⟩ := h141.na (by decide) q143
  refine xok_eqb q145 ?_
  dsimp only
  obtain ⟨T148, q147, e⟩ := xbnd e
  obtain ⟨M149, q150, h151⟩ := h146.pr (by decide) (by decide)  q147
  refine xok_eqb q150 ?_
  obtain ⟨p152, q153, e⟩ := xbnd e
  obtain ⟨M154, q155, h156⟩ := h151.na (by decide) q153
  refine xok_eqb q155 ?_
  dsimp only
  obtain ⟨T158, q157, e⟩ := xbnd e
  obtain ⟨M159, q160, h161⟩ := h156.pr (by decide) (by decide)  q157
  refine xok_eqb q160 ?_
  obtain ⟨p162, q163, e⟩ := xbnd e
  obtain ⟨M164, q165, h166⟩ := h161.na (by decide) q163
  refine xok_eqb q165 ?_
  dsimp only
  obtain ⟨T168, q167, e⟩ := xbnd e
  obtain ⟨M169, q170, h171⟩ := h166.pr (by decide) (by decide)  q167
  refine xok_eqb q170 ?_
  obtain ⟨p172, q173, e⟩ := xbnd e
  obtain ⟨M174, q175, h176⟩ := h171.na (by decide) q173
  refine xok_eqb q175 ?_
  dsimp only
  obtain ⟨T178, q177, e⟩ := xbnd e
  obtain ⟨M179, q180, h181⟩ := h176.pr (by decide) (by decide)  q177
  refine xok_eqb q180 ?_
  obtain ⟨p182, q183, e⟩ := xbnd e
  obtain ⟨M184, q185, h186⟩ := h181.na (by decide) q183
  refine xok_eqb q185 ?_
  dsimp only
  obtain ⟨T188, q187, e⟩ := xbnd e
  obtain ⟨M189, q190, h191⟩ := h186.pr (by decide) (by decide)  q187
  refine xok_eqb q190 ?_
  obtain ⟨p192, q193, e⟩ := xbnd e
  obtain ⟨M194, q195, h196⟩ := h191.na (by decide) q193
  refine xok_eqb q195 ?_
  dsimp only
  obtain ⟨T198, q197, e⟩ := xbnd e
  obtain ⟨M199, q200, h201⟩ := h196.pr (by decide) (by decide)  q197
  refine xok_eqb q200 ?_
  obtain ⟨p202, q203, e⟩ := xbnd e
  obtain ⟨M204, q205, h206⟩ := h201.na (by decide) q203
  refine xok_eqb q205 ?_
  dsimp only
  obtain ⟨T208, q207, e⟩ := xbnd e
  obtain ⟨M209, q210, h211⟩ := h206.pr (by decide) (by decide)  q207
  refine xok_eqb q210 ?_
  cases e
  exact ⟨_, rfl, h211⟩
-- ChangeHouse$Rule.countAtoms
theorem t89_29 {m f : Nat} {M0 M : xj_M} {T : xT_} (hS : xHS f) {r4 : Nat → Int → Int → xT_ → Option (Int × xT_)} {o4 : Nat → Int → Int → xj_M → Option (Int × xj_M)} (hr4 : ∀ {M : xj_M} {T : xT_} {x0 : Nat} {x1 : Int} {x2 : Int} {R : Int × xT_}, xCX m M0 M T → xin x1 → xin x2 → r4 x0 x1 x2 T = some R → xok (o4 x0 x1 x2 M) (fun r => r.1 = R.1 ∧ xCX m M0 r.2 R.2 ∧ xin R.1)) (h : xCX m M0 M T) {x0 : Nat} {x2 : Int} {y0 : Int} {y1 : Int} {R : Int × xT_} (tx2 : xin x2) (ty0 : xin y0) (ty1 : xin y1) (e : c89_29 r4 f x0 x2 y0 y1 T = some R) : xok (f89_29 o4 f x0 x2 y0 y1 M) (fun r => r.1 = R.1 ∧ xCX m M0 r.2 R.2 ∧ xin R.1) := by
  unfold c89_29 at e
  unfold f89_29
  exact hr4 h (xin_wr _) (xin_wr _) e
theorem t89_4b {m f : Nat} {M0 M : xj_M} {T : xT_} (hS : xHS f) {r4 : Nat → Int → Int → xT_ → Option (Int × xT_)} {o4 : Nat → Int → Int → xj_M → Option (Int × xj_M)} (hr4 : ∀ {M : xj_M} {T : xT_} {x0 : Nat} {x1 : Int} {x2 : Int} {R : Int × xT_}, xCX m M0 M T → xin x1 → xin x2 → r4 x0 x1 x2 T = some R → xok (o4 x0 x1 x2 M) (fun r => r.1 = R.1 ∧ xCX m M0 r.2 R.2 ∧ xin R.1)) (h : xCX m M0 M T) {x0 : Nat} {x1 : Int} {x2 : Int} {R : Int × xT_} (tx1 : xin x1) (tx2 : xin x2) (e : c89_4b r4 f x0 x1 x2 T = some R) : xok (f89_4b o4 f x0 x1 x2 M) (fun r => r.1 = R.1 ∧ xCX m M0 r.2 R.2 ∧ xin R.1) := by
  unfold c89_4b at e
  unfold f89_4b
  obtain ⟨v101, q102, e⟩ := xbnd e
  refine xok_eqb (h.gi (by decide) (by decide) q102).1 ?_
  refine xok_ite (fun c103 => ?_) (fun c103 => ?_)
  · rw [if_pos c103] at e
    cases e
    exact ⟨_, rfl, rfl, h, tx1⟩
  · rw [if_neg c103] at e
    obtain ⟨v104, q105, e⟩ := xbnd e
    refine xok_eqb (h.gr (by decide) (by decide) q105) ?_
    obtain ⟨v106, q107, e⟩ := xbnd e
    refine xok_eqb (h.ai (by decide) q107).1 ?_
    refine xok_ite (fun c108 => ?_) (fun c108 => ?_)
    · rw [if_pos c108] at e
      exact t89_29 (r4 := r4) (o4 := o4) hS @hr4 h tx2 (show xin (0) by decide) tx1 e
    · rw [if_neg c108] at e
      exact t89_29 (r4 := r4) (o4 := o4) hS @hr4 h tx2 (show xin (1) by decide) tx1 e
theorem t89_4 {m f : Nat} {M0 : xj_M} (hS : xHS f)   : ∀ {n : Nat} {M : xj_M} {T : xT_} {x0 : Nat} {x1 : Int} {x2 : Int} {R : Int × xT_}, xCX m M0 M T → xin x1 → xin x2 → c89_4  f n x0 x1 x2 T = some R → xok (f89_4  f n x0 x1 x2 M) (fun r => r.1 = R.1 ∧ xCX m M0 r.2 R.2 ∧ xin R.1) := by
  intro n
  induction n with
  | zero => intros; rename_i e; cases e
  | succ n ih =>
    intros
    rename_i h i0 i1 e
    exact t89_4b hS  @ih h i0 i1 e
theorem t89 {m f : Nat} {M0 M : xj_M} {T : xT_} (hS : xHS f) (h : xCX m M0 M T) {a0 : Nat} {R : Int × xT_}  (e : c89 f a0 T = some R) : xok (f89 f a0 M) (fun r => r.1 = R.1 ∧ xCX m M0 r.2 R.2 ∧ xin R.1) := by
  unfold c89 at e
  unfold f89
  exact t89_4  hS  h (show xin (0) by decide) (show xin (0) by decide) e
-- ChangeHouse$Rule.isAtom
theorem t90_27 {m f : Nat} {M0 M : xj_M} {T : xT_} (hS : xHS f)   (h : xCX m M0 M T) {y0 : Int} {R : Int × xT_} (ty0 : xin y0) (e : c90_27  f y0 T = some R) : xok (f90_27  f y0 M) (fun r => r.1 = R.1 ∧ xCX m M0 r.2 R.2 ∧ xin R.1) := by
  unfold c90_27 at e
  unfold f90_27
  refine xok_ite (fun c101 => ?_) (fun c101 => ?_)
  · rw [if_pos c101] at e; cases e; exact ⟨_, rfl, rfl, h, ty0⟩
  · rw [if_neg c101] at e; cases e
theorem t90_22 {m f : Nat} {M0 M : xj_M} {T : xT_} (hS : xHS f)   (h : xCX m M0 M T)  {R : Int × xT_}  (e : c90_22  f  T = some R) : xok (f90_22  f  M) (fun r => r.1 = R.1 ∧ xCX m M0 r.2 R.2 ∧ xin R.1) := by
  unfold c90_22 at e
  unfold f90_22
  exact t90_27  hS  h (show xin (1) by decide) e
theorem t90 {m f : Nat} {M0 M : xj_M} {T : xT_} (hS : xHS f) (h : xCX m M0 M T) {a0 : Nat} {a1 : Int} {R : Int × xT_} (ta1 : xin a1) (e : c90 f a0 a1 T = some R) : xok (f90 f a0 a1 M) (fun r => r.1 = R.1 ∧ xCX m M0 r.2 R.2 ∧ xin R.1) := by
  unfold c90 at e
  unfold f90
  obtain ⟨v102, q103, e⟩ := xbnd e
  refine xok_eqb (h.gr (by decide) (by decide) q103) ?_
  obtain ⟨v104, q105, e⟩ := xbnd e
  refine xok_eqb (h.ai (by decide) q105).1 ?_
  refine xok_ite (fun c106 => ?_) (fun c106 => ?_)
  · rw [if_pos c106] at e
    exact t90_22  hS  h  e
  · rw [if_neg c106] at e
    obtain ⟨v107, q108, e⟩ := xbnd e
    refine xok_eqb (h.gr (by decide) (by decide) q108) ?_
    obtain ⟨v109, q110, e⟩ := xbnd e
    refine xok_eqb (h.ai (by decide) q110).1 ?_
    refine xok_ite (fun c111 => ?_) (fun c111 => ?_)
    · rw [if_pos c111] at e
      exact t90_27  hS  h (show xin (0) by decide) e
    · rw [if_neg c111] at e
      exact t90_22  hS  h  e
-- ChangeHouse$Rule.loneVariable
theorem t91_58 {m f : Nat} {M0 M : xj_M} {T : xT_} (hS : xHS f)   (h : xCX m M0 M T) {y0 : Int} {R : Int × xT_} (ty0 : xin y0) (e : c91_58  f y0 T = some R) : xok (f91_58  f y0 M) (fun r => r.1 = R.1 ∧ xCX m M0 r.2 R.2 ∧ xin R.1) := by
  unfold c91_58 at e
  unfold f91_58
  cases e
  exact ⟨_, rfl, rfl, h, ty0⟩
theorem t91_37 {m f : Nat} {M0 M : xj_M} {T : xT_} (hS : xHS f)   (h : xCX m M0 M T) {x0 : Nat} {x1 : Int} {y0 : Int} {R : Int × xT_} (tx1 : xin x1) (ty0 : xin y0) (e : c91_37  f x0 x1 y0 T = some R) : xok (f91_37  f x0 x1 y0 M) (fun r => r.1 = R.1 ∧ xCX m M0 r.2 R.2 ∧ xin R.1) := by
  unfold c91_37 at e
  unfold f91_37
  refine xok_ite (fun c101 => ?_) (fun c101 => ?_)
  · rw [if_pos c101] at e
    exact t91_58  hS  h (show xin (-1) by decide) e
  · rw [if_neg c101] at e
    obtain ⟨v102, q103, e⟩ := xbnd e
    refine xok_eqb (h.gr (by decide) (by decide) q103) ?_
    obtain ⟨v104, q105, e⟩ := xbnd e
    refine xok_eqb (h.gr (by decide) (by decide) q105) ?_
    obtain ⟨v106, q107, e⟩ := xbnd e
    refine xok_eqb (h.ai (by decide) q107).1 ?_
    obtain ⟨v108, q109, e⟩ := xbnd e
    refine xok_eqb (h.al q109).1 ?_
    exact t91_58  hS  h (xin_wr _) e
theorem t91_36 {m f : Nat} {M0 M : xj_M} {T : xT_} (hS : xHS f)   (h : xCX m M0 M T) {x0 : Nat} {x1 : Int} {R : Int × xT_} (tx1 : xin x1) (e : c91_36  f x0 x1 T = some R) : xok (f91_36  f x0 x1 M) (fun r => r.1 = R.1 ∧ xCX m M0 r.2 R.2 ∧ xin R.1) := by
  unfold c91_36 at e
  unfold f91_36
  exact t91_37  hS  h tx1 (show xin (0) by decide) e
theorem t91 {m f : Nat} {M0 M : xj_M} {T : xT_} (hS : xHS f) (h : xCX m M0 M T) {a0 : Nat} {a1 : Int} {R : Int × xT_} (ta1 : xin a1) (e : c91 f a0 a1 T = some R) : xok (f91 f a0 a1 M) (fun r => r.1 = R.1 ∧ xCX m M0 r.2 R.2 ∧ xin R.1) := by
  unfold c91 at e
  unfold f91
  obtain ⟨v110, q111, e⟩ := xbnd e
  refine xok_eqb (h.gr (by decide) (by decide) q111) ?_
  obtain ⟨v112, q113, e⟩ := xbnd e
  refine xok_eqb (h.ai (by decide) q113).1 ?_
  obtain ⟨v114, q115, e⟩ := xbnd e
  refine xok_eqb (h.gr (by decide) (by decide) q115) ?_
  obtain ⟨v116, q117, e⟩ := xbnd e
  refine xok_eqb (h.ai (by decide) q117).1 ?_
  refine xok_ite (fun c118 => ?_) (fun c118 => ?_)
  · rw [if_pos c118] at e
    exact t91_36  hS  h ta1 e
  · rw [if_neg c118] at e
    obtain ⟨v119, q120, e⟩ := xbnd e
    refine xok_eqb (h.gr (by decide) (by decide) q120) ?_
    obtain ⟨v121, q122, e⟩ := xbnd e
    refine xok_eqb (h.gr (by decide) (by decide) q122) ?_
    obtain ⟨v123, q124, e⟩ := xbnd e
    refine xok_eqb (h.ai (by decide) q124).1 ?_
    obtain ⟨v125, q126, e⟩ := xbnd e
    refine xok_eqb (h.ai (by decide) q126).1 ?_
    refine xok_ite (fun c127 => ?_) (fun c127 => ?_)
    · rw [if_pos c127] at e
      exact t91_36  hS  h ta1 e
    · rw [if_neg c127] at e
      exact t91_37  hS  h ta1 (show xin (1) by decide) e
-- ChangeHouse$Rule.variablesOf
theorem t92_41 {m f : Nat} {M0 M : xj_M} {T : xT_} (hS : xHS f) {r9 : Nat → Int → Int → Int → xT_ → Option (Int × xT_)} {o9 : Nat → Int → Int → Int → xj_M → Option (Int × xj_M)} (hr9 : ∀ {M : xj_M} {T : xT_} {x0 : Nat} {x1 : Int} {x2 : Int} {x3 : Int} {R : Int × xT_}, xCX m M0 M T → xin x1 → xin x2 → xin x3 → r9 x0 x1 x2 x3 T = some R → xok (o9 x0 x1 x2 x3 M) (fun r => r.1 = R.1 ∧ xCX m M0 r.2 R.2 ∧ xin R.1)) (h : xCX m M0 M T) {x0 : Nat} {x1 : Int} {x2 : Int} {x3 : Int} {R : Int × xT_} (tx1 : xin x1) (tx2 : xin x2) (tx3 : xin x3) (e : c92_41 r9 f x0 x1 x2 x3 T = some R) : xok (f92_41 o9 f x0 x1 x2 x3 M) (fun r => r.1 = R.1 ∧ xCX m M0 r.2 R.2 ∧ xin R.1) := by
  unfold c92_41 at e
  unfold f92_41
  exact hr9 h tx1 tx2 (xin_wr _) e
theorem t92_9b {m f : Nat} {M0 M : xj_M} {T : xT_} (hS : xHS f) {r9 : Nat → Int → Int → Int → xT_ → Option (Int × xT_)} {o9 : Nat → Int → Int → Int → xj_M → Option (Int × xj_M)} (hr9 : ∀ {M : xj_M} {T : xT_} {x0 : Nat} {x1 : Int} {x2 : Int} {x3 : Int} {R : Int × xT_}, xCX m M0 M T → xin x1 → xin x2 → xin x3 → r9 x0 x1 x2 x3 T = some R → xok (o9 x0 x1 x2 x3 M) (fun r => r.1 = R.1 ∧ xCX m M0 r.2 R.2 ∧ xin R.1)) (h : xCX m M0 M T) {x0 : Nat} {x1 : Int} {x2 : Int} {x3 : Int} {R : Int × xT_} (tx1 : xin x1) (tx2 : xin x2) (tx3 : xin x3) (e : c92_9b r9 f x0 x1 x2 x3 T = some R) : xok (f92_9b o9 f x0 x1 x2 x3 M) (fun r => r.1 = R.1 ∧ xCX m M0 r.2 R.2 ∧ xin R.1) := by
  unfold c92_9b at e
  unfold f92_9b
  obtain ⟨v101, q102, e⟩ := xbnd e
  refine xok_eqb (h.gr (by decide) (by decide) q102) ?_
  obtain ⟨v103, q104, e⟩ := xbnd e
  refine xok_eqb (h.ai (by decide) q104).1 ?_
  refine xok_ite (fun c105 => ?_) (fun c105 => ?_)
  · rw [if_pos c105] at e
    cases e
    exact ⟨_, rfl, rfl, h, tx2⟩
  · rw [if_neg c105] at e
    obtain ⟨v106, q107, e⟩ := xbnd e
    refine xok_eqb (h.gr (by decide) (by decide) q107) ?_
    obtain ⟨v108, q109, e⟩ := xbnd e
    refine xok_eqb (h.ai (by decide) q109).1 ?_
    refine xok_ite (fun c110 => ?_) (fun c110 => ?_)
    · rw [if_pos c110] at e
      exact t92_41 (r9 := r9) (o9 := o9) hS @hr9 h tx1 tx2 tx3 e
    · rw [if_neg c110] at e
      obtain ⟨v111, q112, e⟩ := xbnd e
      refine xok_eqb (h.gr (by decide) (by decide) q112) ?_
      obtain ⟨v113, q114, e⟩ := xbnd e
      refine xok_eqb (h.al q114).1 ?_
      exact t92_41 (r9 := r9) (o9 := o9) hS @hr9 h tx1 (xin_of _) tx3 e
theorem t92_9 {m f : Nat} {M0 : xj_M} (hS : xHS f)   : ∀ {n : Nat} {M : xj_M} {T : xT_} {x0 : Nat} {x1 : Int} {x2 : Int} {x3 : Int} {R : Int × xT_}, xCX m M0 M T → xin x1 → xin x2 → xin x3 → c92_9  f n x0 x1 x2 x3 T = some R → xok (f92_9  f n x0 x1 x2 x3 M) (fun r => r.1 = R.1 ∧ xCX m M0 r.2 R.2 ∧ xin R.1) := by
  intro n
  induction n with
  | zero => intros; rename_i e; cases e
  | succ n ih =>
    intros
    rename_i h i0 i1 i2 e
    exact t92_9b hS  @ih h i0 i1 i2 e
theorem t92 {m f : Nat} {M0 M : xj_M} {T : xT_} (hS : xHS f) (h : xCX m M0 M T) {a0 : Nat} {a1 : Int} {R : Int × xT_} (ta1 : xin a1) (e : c92 f a0 a1 T = some R) : xok (f92 f a0 a1 M) (fun r => r.1 = R.1 ∧ xCX m M0 r.2 R.2 ∧ xin R.1) := by
  unfold c92 at e
  unfold f92
  obtain ⟨v115, q116, e⟩ := xbnd e
  refine xok_eqb (h.gr (by decide) (by decide) q116) ?_
  obtain ⟨v117, q118, e⟩ := xbnd e
  refine xok_eqb (h.ai (by decide) q118).1 ?_
  exact t92_9  hS  h ta1 (show xin (0) by decide) (h.ai (by decide) q118).2 e
-- ChangeHouse$Rule.variablesIn
theorem t93_74 {m f : Nat} {M0 M : xj_M} {T : xT_} (hS : xHS f) {r34 : Nat → Int → Int → Int → xT_ → Option (Int × xT_)} {o34 : Nat → Int → Int → Int → xj_M → Option (Int × xj_M)} (hr34 : ∀ {M : xj_M} {T : xT_} {x0 : Nat} {x1 : Int} {x2 : Int} {x3 : Int} {R : Int × xT_}, xCX m M0 M T → xin x1 → xin x2 → xin x3 → r34 x0 x1 x2 x3 T = some R → xok (o34 x0 x1 x2 x3 M) (fun r => r.1 = R.1 ∧ xCX m M0 r.2 R.2 ∧ xin R.1)) (h : xCX m M0 M T) {x0 : Nat} {x1 : Int} {x2 : Int} {x3 : Int} {R : Int × xT_} (tx1 : xin x1) (tx2 : xin x2) (tx3 : xin x3) (e : c93_74 r34 f x0 x1 x2 x3 T = some R) : xok (f93_74 o34 f x0 x1 x2 x3 M) (fun r => r.1 = R.1 ∧ xCX m M0 r.2 R.2 ∧ xin R.1) := by
  unfold c93_74 at e
  unfold f93_74
  exact hr34 h tx1 tx2 (xin_wr _) e
theorem t93_34b {m f : Nat} {M0 M : xj_M} {T : xT_} (hS : xHS f) {r34 : Nat → Int → Int → Int → xT_ → Option (Int × xT_)} {o34 : Nat → Int → Int → Int → xj_M → Option (Int × xj_M)} (hr34 : ∀ {M : xj_M} {T : xT_} {x0 : Nat} {x1 : Int} {x2 : Int} {x3 : Int} {R : Int × xT_}, xCX m M0 M T → xin x1 → xin x2 → xin x3 → r34 x0 x1 x2 x3 T = some R → xok (o34 x0 x1 x2 x3 M) (fun r => r.1 = R.1 ∧ xCX m M0 r.2 R.2 ∧ xin R.1)) (h : xCX m M0 M T) {x0 : Nat} {x1 : Int} {x2 : Int} {x3 : Int} {R : Int × xT_} (tx1 : xin x1) (tx2 : xin x2) (tx3 : xin x3) (e : c93_34b r34 f x0 x1 x2 x3 T = some R) : xok (f93_34b o34 f x0 x1 x2 x3 M) (fun r => r.1 = R.1 ∧ xCX m M0 r.2 R.2 ∧ xin R.1) := by
  unfold c93_34b at e
  unfold f93_34b
  obtain ⟨v101, q102, e⟩ := xbnd e
  refine xok_eqb (h.gr (by decide) (by decide) q102) ?_
  obtain ⟨v103, q104, e⟩ := xbnd e
  refine xok_eqb (h.ai (by decide) q104).1 ?_
  refine xok_ite (fun c105 => ?_) (fun c105 => ?_)
  · rw [if_pos c105] at e
    cases e
    exact ⟨_, rfl, rfl, h, tx2⟩
  · rw [if_neg c105] at e
    obtain ⟨v106, q107, e⟩ := xbnd e
    refine xok_eqb (h.gr (by decide) (by decide) q107) ?_
    obtain ⟨v108, q109, e⟩ := xbnd e
    refine xok_eqb (h.ai (by decide) q109).1 ?_
    refine xok_ite (fun c110 => ?_) (fun c110 => ?_)
    · rw [if_pos c110] at e
      exact t93_74 (r34 := r34) (o34 := o34) hS @hr34 h tx1 tx2 tx3 e
    · rw [if_neg c110] at e
      obtain ⟨v111, q112, e⟩ := xbnd e
      refine xok_eqb (h.gr (by decide) (by decide) q112) ?_
      obtain ⟨v113, q114, e⟩ := xbnd e
      refine xok_eqb (h.al q114).1 ?_
      exact t93_74 (r34 := r34) (o34 := o34) hS @hr34 h tx1 (xin_of _) tx3 e
theorem t93_34 {m f : Nat} {M0 : xj_M} (hS : xHS f)   : ∀ {n : Nat} {M : xj_M} {T : xT_} {x0 : Nat} {x1 : Int} {x2 : Int} {x3 : Int} {R : Int × xT_}, xCX m M0 M T → xin x1 → xin x2 → xin x3 → c93_34  f n x0 x1 x2 x3 T = some R → xok (f93_34  f n x0 x1 x2 x3 M) (fun r => r.1 = R.1 ∧ xCX m M0 r.2 R.2 ∧ xin R.1) := by
  intro n
  induction n with
  | zero => intros; rename_i e; cases e
  | succ n ih =>
    intros
    rename_i h i0 i1 i2 e
    exact t93_34b hS  @ih h i0 i1 i2 e
theorem t93 {m f : Nat} {M0 M : xj_M} {T : xT_} (hS : xHS f) (h : xCX m M0 M T) {a0 : Nat} {a1 : Int} {R : Int × xT_} (ta1 : xin a1) (e : c93 f a0 a1 T = some R) : xok (f93 f a0 a1 M) (fun r => r.1 = R.1 ∧ xCX m M0 r.2 R.2 ∧ xin R.1) := by
  unfold c93 at e
  unfold f93
  obtain ⟨_, q120, e⟩ := xbnd e
  obtain ⟨R115, e116, e⟩ := xbnd e
  refine xok_eqb (h.is q120) ?_
  refine xok_call (t90 hS h ta1 e116) ?_
  rintro ⟨v_, M117⟩ ⟨hv_, h118, hi119⟩
  cases hv_
  refine xok_ite (fun c121 => ?_) (fun c121 => ?_)
  · rw [if_pos c121] at e
    exact t93_34  hS  h118 ta1 (show xin (0) by decide) (show xin (0) by decide) e
  · rw [if_neg c121] at e
    obtain ⟨_, q127, e⟩ := xbnd e
    obtain ⟨R122, e123, e⟩ := xbnd e
    refine xok_eqb (h118.is q127) ?_
    refine xok_call (t92 hS h118 (xin_wr _) e123) ?_
    rintro ⟨v_, M124⟩ ⟨hv_, h125, hi126⟩
    cases hv_
    obtain ⟨_, q133, e⟩ := xbnd e
    obtain ⟨R128, e129, e⟩ := xbnd e
    refine xok_eqb (h125.is q133) ?_
    refine xok_call (t92 hS h125 (xin_wr _) e129) ?_
    rintro ⟨v_, M130⟩ ⟨hv_, h131, hi132⟩
    cases hv_
    cases e
    exact ⟨_, rfl, rfl, h131, (xin_of _)⟩
-- ChangeHouse$Rule.boundBehind
theorem t94_25 {m f : Nat} {M0 M : xj_M} {T : xT_} (hS : xHS f)   (h : xCX m M0 M T) {x2 : Int} {x3 : Int} {R : Int × xT_} (tx2 : xin x2) (tx3 : xin x3) (e : c94_25  f x2 x3 T = some R) : xok (f94_25  f x2 x3 M) (fun r => r.1 = R.1 ∧ xCX m M0 r.2 R.2 ∧ xin R.1) := by
  unfold c94_25 at e
  unfold f94_25
  cases e
  exact ⟨_, rfl, rfl, h, (xin_of _)⟩
theorem t94_120 {m f : Nat} {M0 M : xj_M} {T : xT_} (hS : xHS f)   (h : xCX m M0 M T) {y0 : Int} {R : Int × xT_} (ty0 : xin y0) (e : c94_120  f y0 T = some R) : xok (f94_120  f y0 M) (fun r => r.1 = R.1 ∧ xCX m M0 r.2 R.2 ∧ xin R.1) := by
  unfold c94_120 at e
  unfold f94_120
  cases e
  exact ⟨_, rfl, rfl, h, ty0⟩
theorem t94_106 {m f : Nat} {M0 M : xj_M} {T : xT_} (hS : xHS f)   (h : xCX m M0 M T) {x2 : Int} {x3 : Int} {y0 : Int} {R : Int × xT_} (tx2 : xin x2) (tx3 : xin x3) (ty0 : xin y0) (e : c94_106  f x2 x3 y0 T = some R) : xok (f94_106  f x2 x3 y0 M) (fun r => r.1 = R.1 ∧ xCX m M0 r.2 R.2 ∧ xin R.1) := by
  unfold c94_106 at e
  unfold f94_106
  refine xok_ite (fun c101 => ?_) (fun c101 => ?_)
  · rw [if_pos c101] at e
    exact t94_120  hS  h (show xin (-1) by decide) e
  · rw [if_neg c101] at e
    exact t94_120  hS  h (xin_of _) e
theorem t94_101 {m f : Nat} {M0 M : xj_M} {T : xT_} (hS : xHS f)   (h : xCX m M0 M T) {x2 : Int} {x3 : Int} {R : Int × xT_} (tx2 : xin x2) (tx3 : xin x3) (e : c94_101  f x2 x3 T = some R) : xok (f94_101  f x2 x3 M) (fun r => r.1 = R.1 ∧ xCX m M0 r.2 R.2 ∧ xin R.1) := by
  unfold c94_101 at e
  unfold f94_101
  exact t94_106  hS  h tx2 tx3 (show xin (1) by decide) e
theorem t94_105 {m f : Nat} {M0 M : xj_M} {T : xT_} (hS : xHS f)   (h : xCX m M0 M T) {x2 : Int} {x3 : Int} {R : Int × xT_} (tx2 : xin x2) (tx3 : xin x3) (e : c94_105  f x2 x3 T = some R) : xok (f94_105  f x2 x3 M) (fun r => r.1 = R.1 ∧ xCX m M0 r.2 R.2 ∧ xin R.1) := by
  unfold c94_105 at e
  unfold f94_105
  exact t94_106  hS  h tx2 tx3 (show xin (0) by decide) e
theorem t94_78 {m f : Nat} {M0 M : xj_M} {T : xT_} (hS : xHS f)   (h : xCX m M0 M T) {x0 : Nat} {x2 : Int} {x3 : Int} {x4 : Int} {x5 : Int} {R : Int × xT_} (tx2 : xin x2) (tx3 : xin x3) (tx4 : xin x4) (tx5 : xin x5) (e : c94_78  f x0 x2 x3 x4 x5 T = some R) : xok (f94_78  f x0 x2 x3 x4 x5 M) (fun r => r.1 = R.1 ∧ xCX m M0 r.2 R.2 ∧ xin R.1) := by
  unfold c94_78 at e
  unfold f94_78
  obtain ⟨_, q107, e⟩ := xbnd e
  obtain ⟨R102, e103, e⟩ := xbnd e
  refine xok_eqb (h.is q107) ?_
  refine xok_call (t91 hS h tx5 e103) ?_
  rintro ⟨v_, M104⟩ ⟨hv_, h105, hi106⟩
  cases hv_
  refine xok_ite (fun c108 => ?_) (fun c108 => ?_)
  · rw [if_pos c108] at e
    exact t94_105  hS  h105 tx2 tx3 e
  · rw [if_neg c108] at e
    obtain ⟨_, q114, e⟩ := xbnd e
    obtain ⟨R109, e110, e⟩ := xbnd e
    refine xok_eqb (h105.is q114) ?_
    refine xok_call (t92 hS h105 tx4 e110) ?_
    rintro ⟨v_, M111⟩ ⟨hv_, h112, hi113⟩
    cases hv_
    refine xok_ite (fun c115 => ?_) (fun c115 => ?_)
    · rw [if_pos c115] at e
      exact t94_105  hS  h112 tx2 tx3 e
    · rw [if_neg c115] at e
      exact t94_101  hS  h112 tx2 tx3 e
theorem t94 {m f : Nat} {M0 M : xj_M} {T : xT_} (hS : xHS f) (h : xCX m M0 M T) {a0 : Nat} {a1 : Int} {a2 : Int} {R : Int × xT_} (ta1 : xin a1) (ta2 : xin a2) (e : c94 f a0 a1 a2 T = some R) : xok (f94 f a0 a1 a2 M) (fun r => r.1 = R.1 ∧ xCX m M0 r.2 R.2 ∧ xin R.1) := by
  unfold c94 at e
  unfold f94
  obtain ⟨_, q121, e⟩ := xbnd e
  obtain ⟨R116, e117, e⟩ := xbnd e
  refine xok_eqb (h.is q121) ?_
  refine xok_call (t93 hS h ta1 e117) ?_
  rintro ⟨v_, M118⟩ ⟨hv_, h119, hi120⟩
  cases hv_
  obtain ⟨v122, q123, e⟩ := xbnd e
  refine xok_eqb (h119.gr (by decide) (by decide) q123) ?_
  obtain ⟨v124, q125, e⟩ := xbnd e
  refine xok_eqb (h119.ai (by decide) q125).1 ?_
  refine xok_ite (fun c126 => ?_) (fun c126 => ?_)
  · rw [if_pos c126] at e
    exact t94_25  hS  h119 ta2 hi120 e
  · rw [if_neg c126] at e
    refine xok_ite (fun c127 => ?_) (fun c127 => ?_)
    · rw [if_pos c127] at e
      obtain ⟨v128, q129, e⟩ := xbnd e
      refine xok_eqb (h119.gr (by decide) (by decide) q129) ?_
      obtain ⟨v130, q131, e⟩ := xbnd e
      refine xok_eqb (h119.ai (by decide) q131).1 ?_
      refine xok_ite (fun c132 => ?_) (fun c132 => ?_)
      · rw [if_pos c132] at e
        obtain ⟨_, q138, e⟩ := xbnd e
        obtain ⟨R133, e134, e⟩ := xbnd e
        refine xok_eqb (h119.is q138) ?_
        refine xok_call (t91 hS h119 (xin_wr _) e134) ?_
        rintro ⟨v_, M135⟩ ⟨hv_, h136, hi137⟩
        cases hv_
        refine xok_ite (fun c139 => ?_) (fun c139 => ?_)
        · rw [if_pos c139] at e
          exact t94_78  hS  h136 ta2 hi120 (xin_wr _) (xin_wr _) e
        · rw [if_neg c139] at e
          obtain ⟨_, q145, e⟩ := xbnd e
          obtain ⟨R140, e141, e⟩ := xbnd e
          refine xok_eqb (h136.is q145) ?_
          refine xok_call (t92 hS h136 (xin_wr _) e141) ?_
          rintro ⟨v_, M142⟩ ⟨hv_, h143, hi144⟩
          cases hv_
          refine xok_ite (fun c146 => ?_) (fun c146 => ?_)
          · rw [if_pos c146] at e
            exact t94_101  hS  h143 ta2 hi120 e
          · rw [if_neg c146] at e
            exact t94_78  hS  h143 ta2 hi120 (xin_wr _) (xin_wr _) e
      · rw [if_neg c132] at e
        cases e
        exact ⟨_, rfl, rfl, h119, (show xin (-1) by decide)⟩
    · rw [if_neg c127] at e
      exact t94_25  hS  h119 ta2 hi120 e
-- ChangeHouse$Rule.unsafePlace
theorem t95_40 {m f : Nat} {M0 M : xj_M} {T : xT_} (hS : xHS f) {r4 : Nat → Int → Int → xT_ → Option (Int × xT_)} {o4 : Nat → Int → Int → xj_M → Option (Int × xj_M)} {r12 : Nat → Int → Int → Int → xT_ → Option (Int × xT_)} {o12 : Nat → Int → Int → Int → xj_M → Option (Int × xj_M)} (hr4 : ∀ {M : xj_M} {T : xT_} {x0 : Nat} {x1 : Int} {x2 : Int} {R : Int × xT_}, xCX m M0 M T → xin x1 → xin x2 → r4 x0 x1 x2 T = some R → xok (o4 x0 x1 x2 M) (fun r => r.1 = R.1 ∧ xCX m M0 r.2 R.2 ∧ xin R.1)) (hr12 : ∀ {M : xj_M} {T : xT_} {x0 : Nat} {x1 : Int} {x2 : Int} {x3 : Int} {R : Int × xT_}, xCX m M0 M T → xin x1 → xin x2 → xin x3 → r12 x0 x1 x2 x3 T = some R → xok (o12 x0 x1 x2 x3 M) (fun r => r.1 = R.1 ∧ xCX m M0 r.2 R.2 ∧ xin R.1)) (h : xCX m M0 M T) {x0 : Nat} {x2 : Int} {x3 : Int} {y0 : Int} {R : Int × xT_} (tx2 : xin x2) (tx3 : xin x3) (ty0 : xin y0) (e : c95_40 r4 r12 f x0 x2 x3 y0 T = some R) : xok (f95_40 o4 o12 f x0 x2 x3 y0 M) (fun r => r.1 = R.1 ∧ xCX m M0 r.2 R.2 ∧ xin R.1) := by
  unfold c95_40 at e
  unfold f95_40
  exact hr12 h ty0 tx2 (xin_wr _) e
theorem t95_12b {m f : Nat} {M0 M : xj_M} {T : xT_} (hS : xHS f) {r4 : Nat → Int → Int → xT_ → Option (Int × xT_)} {o4 : Nat → Int → Int → xj_M → Option (Int × xj_M)} {r12 : Nat → Int → Int → Int → xT_ → Option (Int × xT_)} {o12 : Nat → Int → Int → Int → xj_M → Option (Int × xj_M)} (hr4 : ∀ {M : xj_M} {T : xT_} {x0 : Nat} {x1 : Int} {x2 : Int} {R : Int × xT_}, xCX m M0 M T → xin x1 → xin x2 → r4 x0 x1 x2 T = some R → xok (o4 x0 x1 x2 M) (fun r => r.1 = R.1 ∧ xCX m M0 r.2 R.2 ∧ xin R.1)) (hr12 : ∀ {M : xj_M} {T : xT_} {x0 : Nat} {x1 : Int} {x2 : Int} {x3 : Int} {R : Int × xT_}, xCX m M0 M T → xin x1 → xin x2 → xin x3 → r12 x0 x1 x2 x3 T = some R → xok (o12 x0 x1 x2 x3 M) (fun r => r.1 = R.1 ∧ xCX m M0 r.2 R.2 ∧ xin R.1)) (h : xCX m M0 M T) {x0 : Nat} {x1 : Int} {x2 : Int} {x3 : Int} {R : Int × xT_} (tx1 : xin x1) (tx2 : xin x2) (tx3 : xin x3) (e : c95_12b r4 r12 f x0 x1 x2 x3 T = some R) : xok (f95_12b o4 o12 f x0 x1 x2 x3 M) (fun r => r.1 = R.1 ∧ xCX m M0 r.2 R.2 ∧ xin R.1) := by
  unfold c95_12b at e
  unfold f95_12b
  obtain ⟨v101, q102, e⟩ := xbnd e
  refine xok_eqb (h.gi (by decide) (by decide) q102).1 ?_
  refine xok_ite (fun c103 => ?_) (fun c103 => ?_)
  · rw [if_pos c103] at e
    exact hr4 h tx1 (xin_wr _) e
  · rw [if_neg c103] at e
    obtain ⟨_, q109, e⟩ := xbnd e
    obtain ⟨R104, e105, e⟩ := xbnd e
    refine xok_eqb (h.is q109) ?_
    refine xok_call (t94 hS h tx3 tx1 e105) ?_
    rintro ⟨v_, M106⟩ ⟨hv_, h107, hi108⟩
    cases hv_
    refine xok_ite (fun c110 => ?_) (fun c110 => ?_)
    · rw [if_pos c110] at e
      exact t95_40 (r4 := r4) (o4 := o4) (r12 := r12) (o12 := o12) hS @hr4 @hr12 h107 tx2 tx3 hi108 e
    · rw [if_neg c110] at e
      exact t95_40 (r4 := r4) (o4 := o4) (r12 := r12) (o12 := o12) hS @hr4 @hr12 h107 tx2 tx3 tx1 e
theorem t95_12 {m f : Nat} {M0 : xj_M} (hS : xHS f) {r4 : Nat → Int → Int → xT_ → Option (Int × xT_)} {o4 : Nat → Int → Int → xj_M → Option (Int × xj_M)} (hr4 : ∀ {M : xj_M} {T : xT_} {x0 : Nat} {x1 : Int} {x2 : Int} {R : Int × xT_}, xCX m M0 M T → xin x1 → xin x2 → r4 x0 x1 x2 T = some R → xok (o4 x0 x1 x2 M) (fun r => r.1 = R.1 ∧ xCX m M0 r.2 R.2 ∧ xin R.1)) : ∀ {n : Nat} {M : xj_M} {T : xT_} {x0 : Nat} {x1 : Int} {x2 : Int} {x3 : Int} {R : Int × xT_}, xCX m M0 M T → xin x1 → xin x2 → xin x3 → c95_12 r4 f n x0 x1 x2 x3 T = some R → xok (f95_12 o4 f n x0 x1 x2 x3 M) (fun r => r.1 = R.1 ∧ xCX m M0 r.2 R.2 ∧ xin R.1) := by
  intro n
  induction n with
  | zero => intros; rename_i e; cases e
  | succ n ih =>
    intros
    rename_i h i0 i1 i2 e
    exact t95_12b hS @hr4 @ih h i0 i1 i2 e
theorem t95_55b {m f : Nat} {M0 M : xj_M} {T : xT_} (hS : xHS f) {r55 : Nat → Int → Int → xT_ → Option (Int × xT_)} {o55 : Nat → Int → Int → xj_M → Option (Int × xj_M)} (hr55 : ∀ {M : xj_M} {T : xT_} {x0 : Nat} {x1 : Int} {x2 : Int} {R : Int × xT_}, xCX m M0 M T → xin x1 → xin x2 → r55 x0 x1 x2 T = some R → xok (o55 x0 x1 x2 M) (fun r => r.1 = R.1 ∧ xCX m M0 r.2 R.2 ∧ xin R.1)) (h : xCX m M0 M T) {x0 : Nat} {x1 : Int} {x2 : Int} {R : Int × xT_} (tx1 : xin x1) (tx2 : xin x2) (e : c95_55b r55 f x0 x1 x2 T = some R) : xok (f95_55b o55 f x0 x1 x2 M) (fun r => r.1 = R.1 ∧ xCX m M0 r.2 R.2 ∧ xin R.1) := by
  unfold c95_55b at e
  unfold f95_55b
  obtain ⟨v111, q112, e⟩ := xbnd e
  refine xok_eqb (h.gi (by decide) (by decide) q112).1 ?_
  refine xok_ite (fun c113 => ?_) (fun c113 => ?_)
  · rw [if_pos c113] at e
    cases e
    exact ⟨_, rfl, rfl, h, (show xin (-1) by decide)⟩
  · rw [if_neg c113] at e
    refine xok_ite (fun c114 => ?_) (fun c114 => ?_)
    · rw [if_pos c114] at e
      exact hr55 h tx1 (xin_wr _) e
    · rw [if_neg c114] at e
      obtain ⟨v115, q116, e⟩ := xbnd e
      refine xok_eqb (h.gr (by decide) (by decide) q116) ?_
      obtain ⟨v117, q118, e⟩ := xbnd e
      refine xok_eqb (h.ai (by decide) q118).1 ?_
      cases e
      exact ⟨_, rfl, rfl, h, (h.ai (by decide) q118).2⟩
theorem t95_55 {m f : Nat} {M0 : xj_M} (hS : xHS f)   : ∀ {n : Nat} {M : xj_M} {T : xT_} {x0 : Nat} {x1 : Int} {x2 : Int} {R : Int × xT_}, xCX m M0 M T → xin x1 → xin x2 → c95_55  f n x0 x1 x2 T = some R → xok (f95_55  f n x0 x1 x2 M) (fun r => r.1 = R.1 ∧ xCX m M0 r.2 R.2 ∧ xin R.1) := by
  intro n
  induction n with
  | zero => intros; rename_i e; cases e
  | succ n ih =>
    intros
    rename_i h i0 i1 e
    exact t95_55b hS  @ih h i0 i1 e
theorem t95_4b {m f : Nat} {M0 M : xj_M} {T : xT_} (hS : xHS f) {r4 : Nat → Int → Int → xT_ → Option (Int × xT_)} {o4 : Nat → Int → Int → xj_M → Option (Int × xj_M)} (hr4 : ∀ {M : xj_M} {T : xT_} {x0 : Nat} {x1 : Int} {x2 : Int} {R : Int × xT_}, xCX m M0 M T → xin x1 → xin x2 → r4 x0 x1 x2 T = some R → xok (o4 x0 x1 x2 M) (fun r => r.1 = R.1 ∧ xCX m M0 r.2 R.2 ∧ xin R.1)) (h : xCX m M0 M T) {x0 : Nat} {x1 : Int} {x2 : Int} {R : Int × xT_} (tx1 : xin x1) (tx2 : xin x2) (e : c95_4b r4 f x0 x1 x2 T = some R) : xok (f95_4b o4 f x0 x1 x2 M) (fun r => r.1 = R.1 ∧ xCX m M0 r.2 R.2 ∧ xin R.1) := by
  unfold c95_4b at e
  unfold f95_4b
  refine xok_ite (fun c119 => ?_) (fun c119 => ?_)
  · rw [if_pos c119] at e
    exact t95_55  hS  h tx1 (show xin (0) by decide) e
  · rw [if_neg c119] at e
    exact t95_12 (r4 := r4) (o4 := o4) hS @hr4 h tx1 tx2 (show xin (0) by decide) e
theorem t95_4 {m f : Nat} {M0 : xj_M} (hS : xHS f)   : ∀ {n : Nat} {M : xj_M} {T : xT_} {x0 : Nat} {x1 : Int} {x2 : Int} {R : Int × xT_}, xCX m M0 M T → xin x1 → xin x2 → c95_4  f n x0 x1 x2 T = some R → xok (f95_4  f n x0 x1 x2 M) (fun r => r.1 = R.1 ∧ xCX m M0 r.2 R.2 ∧ xin R.1) := by
  intro n
  induction n with
  | zero => intros; rename_i e; cases e
  | succ n ih =>
    intros
    rename_i h i0 i1 e
    exact t95_4b hS  @ih h i0 i1 e
theorem t95 {m f : Nat} {M0 M : xj_M} {T : xT_} (hS : xHS f) (h : xCX m M0 M T) {a0 : Nat} {R : Int × xT_}  (e : c95 f a0 T = some R) : xok (f95 f a0 M) (fun r => r.1 = R.1 ∧ xCX m M0 r.2 R.2 ∧ xin R.1) := by
  unfold c95 at e
  unfold f95
  exact t95_4  hS  h (show xin (0) by decide) (show xin (0) by decide) e
-- ChangeHouse$Rule.columnsBound
theorem t97_72 {m f : Nat} {M0 M : xj_M} {T : xT_} (hS : xHS f)   (h : xCX m M0 M T) {x3 : Int} {R : Int × xT_} (tx3 : xin x3) (e : c97_72  f x3 T = some R) : xok (f97_72  f x3 M) (fun r => r.1 = R.1 ∧ xCX m M0 r.2 R.2 ∧ xin R.1) := by
  unfold c97_72 at e
  unfold f97_72
  cases e
  exact ⟨_, rfl, rfl, h, tx3⟩
theorem t97_63 {m f : Nat} {M0 M : xj_M} {T : xT_} (hS : xHS f) {r5 : Nat → Int → Int → Int → Int → xT_ → Option (Int × xT_)} {o5 : Nat → Int → Int → Int → Int → xj_M → Option (Int × xj_M)} (hr5 : ∀ {M : xj_M} {T : xT_} {x0 : Nat} {x1 : Int} {x2 : Int} {x3 : Int} {x4 : Int} {R : Int × xT_}, xCX m M0 M T → xin x1 → xin x2 → xin x3 → xin x4 → r5 x0 x1 x2 x3 x4 T = some R → xok (o5 x0 x1 x2 x3 x4 M) (fun r => r.1 = R.1 ∧ xCX m M0 r.2 R.2 ∧ xin R.1)) (h : xCX m M0 M T) {x0 : Nat} {x1 : Int} {x2 : Int} {x3 : Int} {x4 : Int} {R : Int × xT_} (tx1 : xin x1) (tx2 : xin x2) (tx3 : xin x3) (tx4 : xin x4) (e : c97_63 r5 f x0 x1 x2 x3 x4 T = some R) : xok (f97_63 o5 f x0 x1 x2 x3 x4 M) (fun r => r.1 = R.1 ∧ xCX m M0 r.2 R.2 ∧ xin R.1) := by
  unfold c97_63 at e
  unfold f97_63
  exact hr5 h tx1 tx2 (xin_wr _) (xin_wr _) e
theorem t97_5b {m f : Nat} {M0 M : xj_M} {T : xT_} (hS : xHS f) {r5 : Nat → Int → Int → Int → Int → xT_ → Option (Int × xT_)} {o5 : Nat → Int → Int → Int → Int → xj_M → Option (Int × xj_M)} (hr5 : ∀ {M : xj_M} {T : xT_} {x0 : Nat} {x1 : Int} {x2 : Int} {x3 : Int} {x4 : Int} {R : Int × xT_}, xCX m M0 M T → xin x1 → xin x2 → xin x3 → xin x4 → r5 x0 x1 x2 x3 x4 T = some R → xok (o5 x0 x1 x2 x3 x4 M) (fun r => r.1 = R.1 ∧ xCX m M0 r.2 R.2 ∧ xin R.1)) (h : xCX m M0 M T) {x0 : Nat} {x1 : Int} {x2 : Int} {x3 : Int} {x4 : Int} {R : Int × xT_} (tx1 : xin x1) (tx2 : xin x2) (tx3 : xin x3) (tx4 : xin x4) (e : c97_5b r5 f x0 x1 x2 x3 x4 T = some R) : xok (f97_5b o5 f x0 x1 x2 x3 x4 M) (fun r => r.1 = R.1 ∧ xCX m M0 r.2 R.2 ∧ xin R.1) := by
  unfold c97_5b at e
  unfold f97_5b
  obtain ⟨v101, q102, e⟩ := xbnd e
  refine xok_eqb (h.gr (by decide) (by decide) q102) ?_
  obtain ⟨v103, q104, e⟩ := xbnd e
  refine xok_eqb (h.ai (by decide) q104).1 ?_
  refine xok_ite (fun c105 => ?_) (fun c105 => ?_)
  · rw [if_pos c105] at e
    exact t97_72  hS  h tx3 e
  · rw [if_neg c105] at e
    obtain ⟨v106, q107, e⟩ := xbnd e
    refine xok_eqb (h.gr (by decide) (by decide) q107) ?_
    obtain ⟨v108, q109, e⟩ := xbnd e
    refine xok_eqb (h.ai (by decide) q109).1 ?_
    refine xok_ite (fun c110 => ?_) (fun c110 => ?_)
    · rw [if_pos c110] at e
      exact t97_72  hS  h tx3 e
    · rw [if_neg c110] at e
      refine xok_ite (fun c111 => ?_) (fun c111 => ?_)
      · rw [if_pos c111] at e
        exact t97_63 (r5 := r5) (o5 := o5) hS @hr5 h tx1 tx2 tx3 tx4 e
      · rw [if_neg c111] at e
        obtain ⟨v112, q113, e⟩ := xbnd e
        refine xok_eqb (h.gr (by decide) (by decide) q113) ?_
        obtain ⟨v114, q115, e⟩ := xbnd e
        refine xok_eqb (h.al q115).1 ?_
        refine xok_ite (fun c116 => ?_) (fun c116 => ?_)
        · rw [if_pos c116] at e
          exact t97_63 (r5 := r5) (o5 := o5) hS @hr5 h tx1 tx2 tx3 tx4 e
        · rw [if_neg c116] at e
          exact t97_72  hS  h tx3 e
theorem t97_5 {m f : Nat} {M0 : xj_M} (hS : xHS f)   : ∀ {n : Nat} {M : xj_M} {T : xT_} {x0 : Nat} {x1 : Int} {x2 : Int} {x3 : Int} {x4 : Int} {R : Int × xT_}, xCX m M0 M T → xin x1 → xin x2 → xin x3 → xin x4 → c97_5  f n x0 x1 x2 x3 x4 T = some R → xok (f97_5  f n x0 x1 x2 x3 x4 M) (fun r => r.1 = R.1 ∧ xCX m M0 r.2 R.2 ∧ xin R.1) := by
  intro n
  induction n with
  | zero => intros; rename_i e; cases e
  | succ n ih =>
    intros
    rename_i h i0 i1 i2 i3 e
    exact t97_5b hS  @ih h i0 i1 i2 i3 e
theorem t97 {m f : Nat} {M0 M : xj_M} {T : xT_} (hS : xHS f) (h : xCX m M0 M T) {a0 : Nat} {a1 : Int} {a2 : Int} {R : Int × xT_} (ta1 : xin a1) (ta2 : xin a2) (e : c97 f a0 a1 a2 T = some R) : xok (f97 f a0 a1 a2 M) (fun r => r.1 = R.1 ∧ xCX m M0 r.2 R.2 ∧ xin R.1) := by
  unfold c97 at e
  unfold f97
  exact t97_5  hS  h ta1 ta2 (show xin (0) by decide) (show xin (0) by decide) e
-- ChangeHouse$Sheet.<init>
theorem t98 {m f : Nat} {M0 M : xj_M} {T : xT_} (hS : xHS f) (h : xCX m M0 M T) {a0 : Nat} {R : xT_}  (e : c98 f a0 T = some R) : xok (f98 f a0 M) (fun r => xCX m M0 r R) := by
  unfold c98 at e
  unfold f98
  obtain ⟨_, q101, e⟩ := xbnd e
  refine xok_eqb q101 ?_
  obtain ⟨p102, q103, e⟩ := xbnd e
  obtain ⟨M104, q105, h106⟩ := h.na (by decide) q103
  refine xok_eqb q105 ?_
  dsimp only
  obtain ⟨T108, q107, e⟩ := xbnd e
  obtain ⟨M109, q110, h111⟩ := h106.pr (by decide) (by decide)  q107
  refine xok_eqb q110 ?_
  obtain ⟨p112, q113, e⟩ := xbnd e
  obtain ⟨M114, q115, h116⟩ := h111.na (by decide) q113
  refine xok_eqb q115 ?_
  dsimp only
  obtain ⟨T118, q117, e⟩ := xbnd e
  obtain ⟨M119, q120, h121⟩ := h116.pr (by decide) (by decide)  q117
  refine xok_eqb q120 ?_
  obtain ⟨p122, q123, e⟩ := xbnd e
  obtain ⟨M124, q125, h126⟩ := h121.na (by decide) q123
  refine xok_eqb q125 ?_
  dsimp only
  obtain ⟨T128, q127, e⟩ := xbnd e
  obtain ⟨M129, q130, h131⟩ := h126.pr (by decide) (by decide)  q127
  refine xok_eqb q130 ?_
  cases e
  exact ⟨_, rfl, h131⟩
-- ChangeHouse$Sheet.isIn
theorem t101_30 {m f : Nat} {M0 M : xj_M} {T : xT_} (hS : xHS f)   (h : xCX m M0 M T) {y0 : Int} {R : Int × xT_} (ty0 : xin y0) (e : c101_30  f y0 T = some R) : xok (f101_30  f y0 M) (fun r => r.1 = R.1 ∧ xCX m M0 r.2 R.2 ∧ xin R.1) := by
  unfold c101_30 at e
  unfold f101_30
  refine xok_ite (fun c101 => ?_) (fun c101 => ?_)
  · rw [if_pos c101] at e; cases e; exact ⟨_, rfl, rfl, h, ty0⟩
  · rw [if_neg c101] at e; cases e
theorem t101_18 {m f : Nat} {M0 M : xj_M} {T : xT_} (hS : xHS f)   (h : xCX m M0 M T) {y0 : Int} {R : Int × xT_} (ty0 : xiN y0) (e : c101_18  f y0 T = some R) : xok (f101_18  f y0 M) (fun r => r.1 = R.1 ∧ xCX m M0 r.2 R.2 ∧ xin R.1) := by
  unfold c101_18 at e
  unfold f101_18
  refine xok_ite (fun c102 => ?_) (fun c102 => ?_)
  · rw [if_pos c102] at e
    exact t101_30  hS  h (show xin (0) by decide) e
  · rw [if_neg c102] at e
    exact t101_30  hS  h (show xin (1) by decide) e
theorem t101 {m f : Nat} {M0 M : xj_M} {T : xT_} (hS : xHS f) (h : xCX m M0 M T) {a0 : Int} {a1 : Int} {a2 : Int} {R : Int × xT_} (ta0 : xin a0) (ta1 : xiN a1) (ta2 : xiN a2) (e : c101 f a0 a1 a2 T = some R) : xok (f101 f a0 a1 a2 M) (fun r => r.1 = R.1 ∧ xCX m M0 r.2 R.2 ∧ xin R.1) := by
  unfold c101 at e
  unfold f101
  refine xok_ite (fun c103 => ?_) (fun c103 => ?_)
  · rw [if_pos c103] at e
    exact t101_18  hS  h (xiN_of _) e
  · rw [if_neg c103] at e
    exact t101_18  hS  h (xiN_of _) e
-- ChangeHouse$Sheet.readsChanged
theorem t104_18 {m f : Nat} {M0 M : xj_M} {T : xT_} (hS : xHS f)   (h : xCX m M0 M T) {x1 : Nat} {R : Int × xT_}  (e : c104_18  f x1 T = some R) : xok (f104_18  f x1 M) (fun r => r.1 = R.1 ∧ xCX m M0 r.2 R.2 ∧ xin R.1) := by
  unfold c104_18 at e
  unfold f104_18
  obtain ⟨v101, q102, e⟩ := xbnd e
  refine xok_eqb (h.gi (by decide) (by decide) q102).1 ?_
  refine xok_ite (fun c103 => ?_) (fun c103 => ?_)
  · rw [if_pos c103] at e; cases e; exact ⟨_, rfl, rfl, h, (h.gi (by decide) (by decide) q102).2⟩
  · rw [if_neg c103] at e; cases e
theorem t104_96 {m f : Nat} {M0 M : xj_M} {T : xT_} (hS : xHS f) {r25 : Nat → Nat → Int → Int → xT_ → Option (Int × xT_)} {o25 : Nat → Nat → Int → Int → xj_M → Option (Int × xj_M)} (hr25 : ∀ {M : xj_M} {T : xT_} {x0 : Nat} {x1 : Nat} {x2 : Int} {x3 : Int} {R : Int × xT_}, xCX m M0 M T → xin x2 → xin x3 → r25 x0 x1 x2 x3 T = some R → xok (o25 x0 x1 x2 x3 M) (fun r => r.1 = R.1 ∧ xCX m M0 r.2 R.2 ∧ xin R.1)) (h : xCX m M0 M T) {x0 : Nat} {x1 : Nat} {x2 : Int} {x3 : Int} {R : Int × xT_} (tx2 : xin x2) (tx3 : xin x3) (e : c104_96 r25 f x0 x1 x2 x3 T = some R) : xok (f104_96 o25 f x0 x1 x2 x3 M) (fun r => r.1 = R.1 ∧ xCX m M0 r.2 R.2 ∧ xin R.1) := by
  unfold c104_96 at e
  unfold f104_96
  exact hr25 h tx2 (xin_wr _) e
theorem t104_25b {m f : Nat} {M0 M : xj_M} {T : xT_} (hS : xHS f) {r25 : Nat → Nat → Int → Int → xT_ → Option (Int × xT_)} {o25 : Nat → Nat → Int → Int → xj_M → Option (Int × xj_M)} (hr25 : ∀ {M : xj_M} {T : xT_} {x0 : Nat} {x1 : Nat} {x2 : Int} {x3 : Int} {R : Int × xT_}, xCX m M0 M T → xin x2 → xin x3 → r25 x0 x1 x2 x3 T = some R → xok (o25 x0 x1 x2 x3 M) (fun r => r.1 = R.1 ∧ xCX m M0 r.2 R.2 ∧ xin R.1)) (h : xCX m M0 M T) {x0 : Nat} {x1 : Nat} {x2 : Int} {x3 : Int} {R : Int × xT_} (tx2 : xin x2) (tx3 : xin x3) (e : c104_25b r25 f x0 x1 x2 x3 T = some R) : xok (f104_25b o25 f x0 x1 x2 x3 M) (fun r => r.1 = R.1 ∧ xCX m M0 r.2 R.2 ∧ xin R.1) := by
  unfold c104_25b at e
  unfold f104_25b
  obtain ⟨v104, q105, e⟩ := xbnd e
  refine xok_eqb (h.gr (by decide) (by decide) q105) ?_
  obtain ⟨v106, q107, e⟩ := xbnd e
  refine xok_eqb (h.ln q107).1 ?_
  refine xok_ite (fun c108 => ?_) (fun c108 => ?_)
  · rw [if_pos c108] at e
    cases e
    exact ⟨_, rfl, rfl, h, (show xin (0) by decide)⟩
  · rw [if_neg c108] at e
    obtain ⟨v109, q110, e⟩ := xbnd e
    refine xok_eqb (h.gr (by decide) (by decide) q110) ?_
    obtain ⟨v111, q112, e⟩ := xbnd e
    refine xok_eqb (h.ai (by decide) q112).1 ?_
    refine xok_ite (fun c113 => ?_) (fun c113 => ?_)
    · rw [if_pos c113] at e
      exact t104_96 (r25 := r25) (o25 := o25) hS @hr25 h tx2 tx3 e
    · rw [if_neg c113] at e
      refine xok_ite (fun c114 => ?_) (fun c114 => ?_)
      · rw [if_pos c114] at e
        exact t104_96 (r25 := r25) (o25 := o25) hS @hr25 h tx2 tx3 e
      · rw [if_neg c114] at e
        obtain ⟨v115, q116, e⟩ := xbnd e
        refine xok_eqb (h.gr (by decide) (by decide) q116) ?_
        obtain ⟨v117, q118, e⟩ := xbnd e
        refine xok_eqb (h.gr (by decide) (by decide) q118) ?_
        obtain ⟨v119, q120, e⟩ := xbnd e
        refine xok_eqb (h.gr (by decide) (by decide) q120) ?_
        obtain ⟨v121, q122, e⟩ := xbnd e
        refine xok_eqb (h.al q122).1 ?_
        obtain ⟨_, q128, e⟩ := xbnd e
        obtain ⟨R123, e124, e⟩ := xbnd e
        refine xok_eqb (h.is q128) ?_
        refine xok_call (t20 hS h (h.al q122).2 e124) ?_
        rintro ⟨v_, M125⟩ ⟨hv_, h126, hi127⟩
        cases hv_
        refine xok_ite (fun c129 => ?_) (fun c129 => ?_)
        · rw [if_pos c129] at e
          exact t104_96 (r25 := r25) (o25 := o25) hS @hr25 h126 tx2 tx3 e
        · rw [if_neg c129] at e
          refine xok_ite (fun c130 => ?_) (fun c130 => ?_)
          · rw [if_pos c130] at e
            exact t104_96 (r25 := r25) (o25 := o25) hS @hr25 h126 tx2 tx3 e
          · rw [if_neg c130] at e
            cases e
            exact ⟨_, rfl, rfl, h126, (show xin (1) by decide)⟩
theorem t104_25 {m f : Nat} {M0 : xj_M} (hS : xHS f)   : ∀ {n : Nat} {M : xj_M} {T : xT_} {x0 : Nat} {x1 : Nat} {x2 : Int} {x3 : Int} {R : Int × xT_}, xCX m M0 M T → xin x2 → xin x3 → c104_25  f n x0 x1 x2 x3 T = some R → xok (f104_25  f n x0 x1 x2 x3 M) (fun r => r.1 = R.1 ∧ xCX m M0 r.2 R.2 ∧ xin R.1) := by
  intro n
  induction n with
  | zero => intros; rename_i e; cases e
  | succ n ih =>
    intros
    rename_i h i0 i1 e
    exact t104_25b hS  @ih h i0 i1 e
theorem t104 {m f : Nat} {M0 M : xj_M} {T : xT_} (hS : xHS f) (h : xCX m M0 M T) {a0 : Nat} {a1 : Nat} {a2 : Int} {R : Int × xT_} (ta2 : xin a2) (e : c104 f a0 a1 a2 T = some R) : xok (f104 f a0 a1 a2 M) (fun r => r.1 = R.1 ∧ xCX m M0 r.2 R.2 ∧ xin R.1) := by
  unfold c104 at e
  unfold f104
  obtain ⟨v131, q132, e⟩ := xbnd e
  refine xok_eqb (h.gi (by decide) (by decide) q132).1 ?_
  refine xok_ite (fun c133 => ?_) (fun c133 => ?_)
  · rw [if_pos c133] at e
    exact t104_18  hS  h  e
  · rw [if_neg c133] at e
    obtain ⟨v134, q135, e⟩ := xbnd e
    refine xok_eqb (h.gr (by decide) (by decide) q135) ?_
    obtain ⟨v136, q137, e⟩ := xbnd e
    refine xok_eqb (h.gi (by decide) (by decide) q137).1 ?_
    refine xok_ite (fun c138 => ?_) (fun c138 => ?_)
    · rw [if_pos c138] at e
      exact t104_25  hS  h ta2 (show xin (0) by decide) e
    · rw [if_neg c138] at e
      exact t104_18  hS  h  e
-- ChangeHouse$Sheet.bounded
theorem t108_23 {m f : Nat} {M0 M : xj_M} {T : xT_} (hS : xHS f)   (h : xCX m M0 M T) {y0 : Int} {R : Int × xT_} (ty0 : xiN y0) (e : c108_23  f y0 T = some R) : xok (f108_23  f y0 M) (fun r => r.1 = R.1 ∧ xCX m M0 r.2 R.2 ∧ xiN R.1) := by
  unfold c108_23 at e
  unfold f108_23
  cases e
  exact ⟨_, rfl, rfl, h, ty0⟩
theorem t108_16 {m f : Nat} {M0 M : xj_M} {T : xT_} (hS : xHS f)   (h : xCX m M0 M T)  {R : Int × xT_}  (e : c108_16  f  T = some R) : xok (f108_16  f  M) (fun r => r.1 = R.1 ∧ xCX m M0 r.2 R.2 ∧ xiN R.1) := by
  unfold c108_16 at e
  unfold f108_16
  exact t108_23  hS  h (show xiN (-8999999999999999997) by decide) e
theorem t108 {m f : Nat} {M0 M : xj_M} {T : xT_} (hS : xHS f) (h : xCX m M0 M T) {a0 : Int} {R : Int × xT_} (ta0 : xiN a0) (e : c108 f a0 T = some R) : xok (f108 f a0 M) (fun r => r.1 = R.1 ∧ xCX m M0 r.2 R.2 ∧ xiN R.1) := by
  unfold c108 at e
  unfold f108
  refine xok_ite (fun c101 => ?_) (fun c101 => ?_)
  · rw [if_pos c101] at e
    exact t108_16  hS  h  e
  · rw [if_neg c101] at e
    refine xok_ite (fun c102 => ?_) (fun c102 => ?_)
    · rw [if_pos c102] at e
      exact t108_23  hS  h ta0 e
    · rw [if_neg c102] at e
      exact t108_16  hS  h  e
-- ChangeHouse$Sheet.overRows
theorem t109_36 {m f : Nat} {M0 M : xj_M} {T : xT_} (hS : xHS f)   (h : xCX m M0 M T)  {R : Int × xT_}  (e : c109_36  f  T = some R) : xok (f109_36  f  M) (fun r => r.1 = R.1 ∧ xCX m M0 r.2 R.2 ∧ xiN R.1) := by
  unfold c109_36 at e
  unfold f109_36
  cases e
  exact ⟨_, rfl, rfl, h, (show xiN (-8999999999999999996) by decide)⟩
theorem t109_157 {m f : Nat} {M0 M : xj_M} {T : xT_} (hS : xHS f) {r71 : Int → Int → Nat → Int → Int → xT_ → Option (Int × xT_)} {o71 : Int → Int → Nat → Int → Int → xj_M → Option (Int × xj_M)} (hr71 : ∀ {M : xj_M} {T : xT_} {x1 : Int} {x2 : Int} {x6 : Nat} {x7 : Int} {x9 : Int} {R : Int × xT_}, xCX m M0 M T → xin x1 → xin x2 → xiN x7 → xin x9 → r71 x1 x2 x6 x7 x9 T = some R → xok (o71 x1 x2 x6 x7 x9 M) (fun r => r.1 = R.1 ∧ xCX m M0 r.2 R.2 ∧ xiN R.1)) (h : xCX m M0 M T) {x1 : Int} {x2 : Int} {x6 : Nat} {x7 : Int} {x9 : Int} {R : Int × xT_} (tx1 : xin x1) (tx2 : xin x2) (tx7 : xiN x7) (tx9 : xin x9) (e : c109_157 r71 f x1 x2 x6 x7 x9 T = some R) : xok (f109_157 o71 f x1 x2 x6 x7 x9 M) (fun r => r.1 = R.1 ∧ xCX m M0 r.2 R.2 ∧ xiN R.1) := by
  unfold c109_157 at e
  unfold f109_157
  exact hr71 h tx1 tx2 tx7 (xin_wr _) e
theorem t109_114 {m f : Nat} {M0 M : xj_M} {T : xT_} (hS : xHS f) {r71 : Int → Int → Nat → Int → Int → xT_ → Option (Int × xT_)} {o71 : Int → Int → Nat → Int → Int → xj_M → Option (Int × xj_M)} (hr71 : ∀ {M : xj_M} {T : xT_} {x1 : Int} {x2 : Int} {x6 : Nat} {x7 : Int} {x9 : Int} {R : Int × xT_}, xCX m M0 M T → xin x1 → xin x2 → xiN x7 → xin x9 → r71 x1 x2 x6 x7 x9 T = some R → xok (o71 x1 x2 x6 x7 x9 M) (fun r => r.1 = R.1 ∧ xCX m M0 r.2 R.2 ∧ xiN R.1)) (h : xCX m M0 M T) {x1 : Int} {x2 : Int} {x6 : Nat} {x9 : Int} {y0 : Int} {y1 : Int} {R : Int × xT_} (tx1 : xin x1) (tx2 : xin x2) (tx9 : xin x9) (ty0 : xiN y0) (ty1 : xiN y1) (e : c109_114 r71 f x1 x2 x6 x9 y0 y1 T = some R) : xok (f109_114 o71 f x1 x2 x6 x9 y0 y1 M) (fun r => r.1 = R.1 ∧ xCX m M0 r.2 R.2 ∧ xiN R.1) := by
  unfold c109_114 at e
  unfold f109_114
  exact t109_157 (r71 := r71) (o71 := o71) hS @hr71 h tx1 tx2 (xiN_wl _) tx9 e
theorem t109_155 {m f : Nat} {M0 M : xj_M} {T : xT_} (hS : xHS f) {r71 : Int → Int → Nat → Int → Int → xT_ → Option (Int × xT_)} {o71 : Int → Int → Nat → Int → Int → xj_M → Option (Int × xj_M)} (hr71 : ∀ {M : xj_M} {T : xT_} {x1 : Int} {x2 : Int} {x6 : Nat} {x7 : Int} {x9 : Int} {R : Int × xT_}, xCX m M0 M T → xin x1 → xin x2 → xiN x7 → xin x9 → r71 x1 x2 x6 x7 x9 T = some R → xok (o71 x1 x2 x6 x7 x9 M) (fun r => r.1 = R.1 ∧ xCX m M0 r.2 R.2 ∧ xiN R.1)) (h : xCX m M0 M T) {x1 : Int} {x2 : Int} {x6 : Nat} {x9 : Int} {y0 : Int} {R : Int × xT_} (tx1 : xin x1) (tx2 : xin x2) (tx9 : xin x9) (ty0 : xiN y0) (e : c109_155 r71 f x1 x2 x6 x9 y0 T = some R) : xok (f109_155 o71 f x1 x2 x6 x9 y0 M) (fun r => r.1 = R.1 ∧ xCX m M0 r.2 R.2 ∧ xiN R.1) := by
  unfold c109_155 at e
  unfold f109_155
  exact t109_157 (r71 := r71) (o71 := o71) hS @hr71 h tx1 tx2 ty0 tx9 e
theorem t109_179 {m f : Nat} {M0 M : xj_M} {T : xT_} (hS : xHS f)   (h : xCX m M0 M T) {y0 : Int} {R : Int × xT_} (ty0 : xiN y0) (e : c109_179  f y0 T = some R) : xok (f109_179  f y0 M) (fun r => r.1 = R.1 ∧ xCX m M0 r.2 R.2 ∧ xiN R.1) := by
  unfold c109_179 at e
  unfold f109_179
  cases e
  exact ⟨_, rfl, rfl, h, ty0⟩
theorem t109_71b {m f : Nat} {M0 M : xj_M} {T : xT_} (hS : xHS f) {r71 : Int → Int → Nat → Int → Int → xT_ → Option (Int × xT_)} {o71 : Int → Int → Nat → Int → Int → xj_M → Option (Int × xj_M)} (hr71 : ∀ {M : xj_M} {T : xT_} {x1 : Int} {x2 : Int} {x6 : Nat} {x7 : Int} {x9 : Int} {R : Int × xT_}, xCX m M0 M T → xin x1 → xin x2 → xiN x7 → xin x9 → r71 x1 x2 x6 x7 x9 T = some R → xok (o71 x1 x2 x6 x7 x9 M) (fun r => r.1 = R.1 ∧ xCX m M0 r.2 R.2 ∧ xiN R.1)) (h : xCX m M0 M T) {x1 : Int} {x2 : Int} {x6 : Nat} {x7 : Int} {x9 : Int} {R : Int × xT_} (tx1 : xin x1) (tx2 : xin x2) (tx7 : xiN x7) (tx9 : xin x9) (e : c109_71b r71 f x1 x2 x6 x7 x9 T = some R) : xok (f109_71b o71 f x1 x2 x6 x7 x9 M) (fun r => r.1 = R.1 ∧ xCX m M0 r.2 R.2 ∧ xiN R.1) := by
  unfold c109_71b at e
  unfold f109_71b
  obtain ⟨v101, q102, e⟩ := xbnd e
  refine xok_eqb (h.gi (by decide) (by decide) q102).1 ?_
  refine xok_ite (fun c103 => ?_) (fun c103 => ?_)
  · rw [if_pos c103] at e
    refine xok_ite (fun c104 => ?_) (fun c104 => ?_)
    · rw [if_pos c104] at e
      exact t109_179  hS  h tx7 e
    · rw [if_neg c104] at e
      obtain ⟨R105, e106, e⟩ := xbnd e
      refine xok_call (t108 hS h tx7 e106) ?_
      rintro ⟨v_, M107⟩ ⟨hv_, h108, hi109⟩
      cases hv_
      exact t109_179  hS  h108 hi109 e
  · rw [if_neg c103] at e
    obtain ⟨_, q115, e⟩ := xbnd e
    obtain ⟨R110, e111, e⟩ := xbnd e
    refine xok_eqb (h.is q115) ?_
    refine xok_call (t70 hS h tx9 tx2 e111) ?_
    rintro ⟨v_, M112⟩ ⟨hv_, h113, hi114⟩
    cases hv_
    refine xok_ite (fun c116 => ?_) (fun c116 => ?_)
    · rw [if_pos c116] at e
      refine xok_ite (fun c117 => ?_) (fun c117 => ?_)
      · rw [if_pos c117] at e
        refine xok_ite (fun c118 => ?_) (fun c118 => ?_)
        · rw [if_pos c118] at e
          exact t109_155 (r71 := r71) (o71 := o71) hS @hr71 h113 tx1 tx2 tx9 (xmax_iN tx7 hi114) e
        · rw [if_neg c118] at e
          exact t109_155 (r71 := r71) (o71 := o71) hS @hr71 h113 tx1 tx2 tx9 (xmin_iN tx7 hi114) e
      · rw [if_neg c117] at e
        exact t109_157 (r71 := r71) (o71 := o71) hS @hr71 h113 tx1 tx2 hi114 tx9 e
    · rw [if_neg c116] at e
      refine xok_ite (fun c119 => ?_) (fun c119 => ?_)
      · rw [if_pos c119] at e
        exact t109_114 (r71 := r71) (o71 := o71) hS @hr71 h113 tx1 tx2 tx9 hi114 tx7 e
      · rw [if_neg c119] at e
        exact t109_114 (r71 := r71) (o71 := o71) hS @hr71 h113 tx1 tx2 tx9 (show xiN (0) by decide) tx7 e
theorem t109_71 {m f : Nat} {M0 : xj_M} (hS : xHS f)   : ∀ {n : Nat} {M : xj_M} {T : xT_} {x1 : Int} {x2 : Int} {x6 : Nat} {x7 : Int} {x9 : Int} {R : Int × xT_}, xCX m M0 M T → xin x1 → xin x2 → xiN x7 → xin x9 → c109_71  f n x1 x2 x6 x7 x9 T = some R → xok (f109_71  f n x1 x2 x6 x7 x9 M) (fun r => r.1 = R.1 ∧ xCX m M0 r.2 R.2 ∧ xiN R.1) := by
  intro n
  induction n with
  | zero => intros; rename_i e; cases e
  | succ n ih =>
    intros
    rename_i h i0 i1 i2 i3 e
    exact t109_71b hS  @ih h i0 i1 i2 i3 e
theorem t109 {m f : Nat} {M0 M : xj_M} {T : xT_} (hS : xHS f) (h : xCX m M0 M T) {a0 : Nat} {a1 : Int} {a2 : Int} {a3 : Int} {R : Int × xT_} (ta1 : xin a1) (ta2 : xin a2) (ta3 : xiN a3) (e : c109 f a0 a1 a2 a3 T = some R) : xok (f109 f a0 a1 a2 a3 M) (fun r => r.1 = R.1 ∧ xCX m M0 r.2 R.2 ∧ xiN R.1) := by
  unfold c109 at e
  unfold f109
  obtain ⟨v120, q121, e⟩ := xbnd e
  refine xok_eqb (h.gr (by decide) (by decide) q121) ?_
  obtain ⟨v122, q123, e⟩ := xbnd e
  refine xok_eqb (h.gr (by decide) (by decide) q123) ?_
  obtain ⟨_, q129, e⟩ := xbnd e
  obtain ⟨R124, e125, e⟩ := xbnd e
  refine xok_eqb (h.is q129) ?_
  refine xok_call (t20 hS h ta3 e125) ?_
  rintro ⟨v_, M126⟩ ⟨hv_, h127, hi128⟩
  cases hv_
  refine xok_ite (fun c130 => ?_) (fun c130 => ?_)
  · rw [if_pos c130] at e
    exact t109_36  hS  h127  e
  · rw [if_neg c130] at e
    obtain ⟨v131, q132, e⟩ := xbnd e
    refine xok_eqb (h127.gr (by decide) (by decide) q132) ?_
    obtain ⟨v133, q134, e⟩ := xbnd e
    refine xok_eqb (h127.gr (by decide) (by decide) q134) ?_
    obtain ⟨v135, q136, e⟩ := xbnd e
    refine xok_eqb (h127.gr (by decide) (by decide) q136) ?_
    obtain ⟨v137, q138, e⟩ := xbnd e
    refine xok_eqb (h127.ai (by decide) q138).1 ?_
    refine xok_ite (fun c139 => ?_) (fun c139 => ?_)
    · rw [if_pos c139] at e
      obtain ⟨v140, q141, e⟩ := xbnd e
      refine xok_eqb (h127.gr (by decide) (by decide) q141) ?_
      obtain ⟨v142, q143, e⟩ := xbnd e
      refine xok_eqb (h127.gr (by decide) (by decide) q143) ?_
      obtain ⟨v144, q145, e⟩ := xbnd e
      refine xok_eqb (h127.ar q145) ?_
      refine xok_ite (fun c146 => ?_) (fun c146 => ?_)
      · rw [if_pos c146] at e
        exact t109_71  hS  h127 ta1 ta2 (show xiN (0) by decide) (show xin (0) by decide) e
      · rw [if_neg c146] at e
        obtain ⟨v147, q148, e⟩ := xbnd e
        refine xok_eqb (h127.gi (by decide) (by decide) q148).1 ?_
        cases e
        exact ⟨_, rfl, rfl, h127, (xin_N (h127.gi (by decide) (by decide) q148).2)⟩
    · rw [if_neg c139] at e
      exact t109_36  hS  h127  e
-- ChangeHouse$Tape.<init>
theorem t110 {m f : Nat} {M0 M : xj_M} {T : xT_} (hS : xHS f) (h : xCX m M0 M T) {a0 : Nat} {R : xT_}  (e : c110 f a0 T = some R) : xok (f110 f a0 M) (fun r => xCX m M0 r R) := by
  unfold c110 at e
  unfold f110
  obtain ⟨_, q101, e⟩ := xbnd e
  refine xok_eqb q101 ?_
  obtain ⟨p102, q103, e⟩ := xbnd e
  obtain ⟨M104, q105, h106⟩ := h.na (by decide) q103
  refine xok_eqb q105 ?_
  dsimp only
  obtain ⟨T108, q107, e⟩ := xbnd e
  obtain ⟨M109, q110, h111⟩ := h106.pr (by decide) (by decide)  q107
  refine xok_eqb q110 ?_
  obtain ⟨p112, q113, e⟩ := xbnd e
  obtain ⟨M114, q115, h116⟩ := h111.na (by decide) q113
  refine xok_eqb q115 ?_
  dsimp only
  obtain ⟨T118, q117, e⟩ := xbnd e
  obtain ⟨M119, q120, h121⟩ := h116.pr (by decide) (by decide)  q117
  refine xok_eqb q120 ?_
  obtain ⟨p122, q123, e⟩ := xbnd e
  obtain ⟨M124, q125, h126⟩ := h121.na (by decide) q123
  refine xok_eqb q125 ?_
  dsimp only
  obtain ⟨T128, q127, e⟩ := xbnd e
  obtain ⟨M129, q130, h131⟩ := h126.pr (by decide) (by decide)  q127
  refine xok_eqb q130 ?_
  obtain ⟨p132, q133, e⟩ := xbnd e
  obtain ⟨M134, q135, h136⟩ := h131.na (by decide) q133
  refine xok_eqb q135 ?_
  dsimp only
  obtain ⟨T138, q137, e⟩ := xbnd e
  obtain ⟨M139, q140, h141⟩ := h136.pr (by decide) (by decide)  q137
  refine xok_eqb q140 ?_
  obtain ⟨p142, q143, e⟩ := xbnd e
  obtain ⟨M144, q145, h146⟩ := h141.na (by decide) q143
  refine xok_eqb q145 ?_
  dsimp only
  obtain ⟨T148, q147, e⟩ := xbnd e
  obtain ⟨M149, q150, h151⟩ := h146.pr (by decide) (by decide)  q147
  refine xok_eqb q150 ?_
  obtain ⟨p152, q153, e⟩ := xbnd e
  obtain ⟨M154, q155, h156⟩ := h151.na (by decide) q153
  refine xok_eqb q155 ?_
  dsimp only
  obtain ⟨T158, q157, e⟩ := xbnd e
  obtain ⟨M159, q160, h161⟩ := h156.pr (by decide) (by decide)  q157
  refine xok_eqb q160 ?_
  cases e
  exact ⟨_, rfl, h161⟩
-- ChangeHouse$Tape.add
theorem t111_44 {m f : Nat} {M0 M : xj_M} {T : xT_} (hS : xHS f) {r3 : Nat → Int → Int → xT_ → Option (xT_)} {o3 : Nat → Int → Int → xj_M → Option (xj_M)} (hr3 : ∀ {M : xj_M} {T : xT_} {x0 : Nat} {x1 : Int} {x2 : Int} {R : xT_}, xCX m M0 M T → xin x1 → xin x2 → r3 x0 x1 x2 T = some R → xok (o3 x0 x1 x2 M) (fun r => xCX m M0 r R)) (h : xCX m M0 M T) {x0 : Nat} {x1 : Int} {x2 : Int} {R : xT_} (tx1 : xin x1) (tx2 : xin x2) (e : c111_44 r3 f x0 x1 x2 T = some R) : xok (f111_44 o3 f x0 x1 x2 M) (fun r => xCX m M0 r R) := by
  unfold c111_44 at e
  unfold f111_44
  exact hr3 h tx1 (xin_wr _) e
theorem t111_3b {m f : Nat} {M0 M : xj_M} {T : xT_} (hS : xHS f) {r3 : Nat → Int → Int → xT_ → Option (xT_)} {o3 : Nat → Int → Int → xj_M → Option (xj_M)} (hr3 : ∀ {M : xj_M} {T : xT_} {x0 : Nat} {x1 : Int} {x2 : Int} {R : xT_}, xCX m M0 M T → xin x1 → xin x2 → r3 x0 x1 x2 T = some R → xok (o3 x0 x1 x2 M) (fun r => xCX m M0 r R)) (h : xCX m M0 M T) {x0 : Nat} {x1 : Int} {x2 : Int} {R : xT_} (tx1 : xin x1) (tx2 : xin x2) (e : c111_3b r3 f x0 x1 x2 T = some R) : xok (f111_3b o3 f x0 x1 x2 M) (fun r => xCX m M0 r R) := by
  unfold c111_3b at e
  unfold f111_3b
  refine xok_ite (fun c101 => ?_) (fun c101 => ?_)
  · rw [if_pos c101] at e
    cases e
    exact ⟨_, rfl, h⟩
  · rw [if_neg c101] at e
    obtain ⟨v102, q103, e⟩ := xbnd e
    refine xok_eqb (h.gi (by decide) (by decide) q103).1 ?_
    refine xok_ite (fun c104 => ?_) (fun c104 => ?_)
    · rw [if_pos c104] at e
      exact t111_44 (r3 := r3) (o3 := o3) hS @hr3 h tx1 tx2 e
    · rw [if_neg c104] at e
      obtain ⟨v105, q106, e⟩ := xbnd e
      refine xok_eqb (h.gr (by decide) (by decide) q106) ?_
      obtain ⟨v107, q108, e⟩ := xbnd e
      refine xok_eqb (h.gi (by decide) (by decide) q108).1 ?_
      obtain ⟨T110, q109, e⟩ := xbnd e
      obtain ⟨M111, q112, h113⟩ := h.sc  q109
      refine xok_eqb q112 ?_
      obtain ⟨v114, q115, e⟩ := xbnd e
      refine xok_eqb (h113.gi (by decide) (by decide) q115).1 ?_
      obtain ⟨T117, q116, e⟩ := xbnd e
      obtain ⟨M118, q119, h120⟩ := h113.pi (by decide) (by decide) (xin_wr _) q116
      refine xok_eqb q119 ?_
      exact t111_44 (r3 := r3) (o3 := o3) hS @hr3 h120 tx1 tx2 e
theorem t111_3 {m f : Nat} {M0 : xj_M} (hS : xHS f)   : ∀ {n : Nat} {M : xj_M} {T : xT_} {x0 : Nat} {x1 : Int} {x2 : Int} {R : xT_}, xCX m M0 M T → xin x1 → xin x2 → c111_3  f n x0 x1 x2 T = some R → xok (f111_3  f n x0 x1 x2 M) (fun r => xCX m M0 r R) := by
  intro n
  induction n with
  | zero => intros; rename_i e; cases e
  | succ n ih =>
    intros
    rename_i h i0 i1 e
    exact t111_3b hS  @ih h i0 i1 e
theorem t111 {m f : Nat} {M0 M : xj_M} {T : xT_} (hS : xHS f) (h : xCX m M0 M T) {a0 : Nat} {a1 : Int} {R : xT_} (ta1 : xin a1) (e : c111 f a0 a1 T = some R) : xok (f111 f a0 a1 M) (fun r => xCX m M0 r R) := by
  unfold c111 at e
  unfold f111
  exact t111_3  hS  h ta1 (show xin (24) by decide) e
-- ChangeHouse$Tape.skipBlanks
theorem t113_90 {m f : Nat} {M0 M : xj_M} {T : xT_} (hS : xHS f) {r4 : Nat → Int → Int → xT_ → Option (Int × xT_)} {o4 : Nat → Int → Int → xj_M → Option (Int × xj_M)} (hr4 : ∀ {M : xj_M} {T : xT_} {x0 : Nat} {x2 : Int} {x3 : Int} {R : Int × xT_}, xCX m M0 M T → xin x2 → xin x3 → r4 x0 x2 x3 T = some R → xok (o4 x0 x2 x3 M) (fun r => r.1 = R.1 ∧ xCX m M0 r.2 R.2 ∧ xin R.1)) (h : xCX m M0 M T) {x0 : Nat} {x2 : Int} {x3 : Int} {R : Int × xT_} (tx2 : xin x2) (tx3 : xin x3) (e : c113_90 r4 f x0 x2 x3 T = some R) : xok (f113_90 o4 f x0 x2 x3 M) (fun r => r.1 = R.1 ∧ xCX m M0 r.2 R.2 ∧ xin R.1) := by
  unfold c113_90 at e
  unfold f113_90
  exact hr4 h tx2 (xin_wr _) e
theorem t113_78 {m f : Nat} {M0 M : xj_M} {T : xT_} (hS : xHS f) {r4 : Nat → Int → Int → xT_ → Option (Int × xT_)} {o4 : Nat → Int → Int → xj_M → Option (Int × xj_M)} (hr4 : ∀ {M : xj_M} {T : xT_} {x0 : Nat} {x2 : Int} {x3 : Int} {R : Int × xT_}, xCX m M0 M T → xin x2 → xin x3 → r4 x0 x2 x3 T = some R → xok (o4 x0 x2 x3 M) (fun r => r.1 = R.1 ∧ xCX m M0 r.2 R.2 ∧ xin R.1)) (h : xCX m M0 M T) {x0 : Nat} {x3 : Int} {x5 : Int} {y0 : Int} {R : Int × xT_} (tx3 : xin x3) (tx5 : xin x5) (ty0 : xin y0) (e : c113_78 r4 f x0 x3 x5 y0 T = some R) : xok (f113_78 o4 f x0 x3 x5 y0 M) (fun r => r.1 = R.1 ∧ xCX m M0 r.2 R.2 ∧ xin R.1) := by
  unfold c113_78 at e
  unfold f113_78
  refine xok_ite (fun c101 => ?_) (fun c101 => ?_)
  · rw [if_pos c101] at e
    exact t113_90 (r4 := r4) (o4 := o4) hS @hr4 h ty0 tx3 e
  · rw [if_neg c101] at e
    refine xok_ite (fun c102 => ?_) (fun c102 => ?_)
    · rw [if_pos c102] at e
      exact t113_90 (r4 := r4) (o4 := o4) hS @hr4 h ty0 tx3 e
    · rw [if_neg c102] at e
      cases e
      exact ⟨_, rfl, rfl, h, tx3⟩
theorem t113_73 {m f : Nat} {M0 M : xj_M} {T : xT_} (hS : xHS f) {r4 : Nat → Int → Int → xT_ → Option (Int × xT_)} {o4 : Nat → Int → Int → xj_M → Option (Int × xj_M)} (hr4 : ∀ {M : xj_M} {T : xT_} {x0 : Nat} {x2 : Int} {x3 : Int} {R : Int × xT_}, xCX m M0 M T → xin x2 → xin x3 → r4 x0 x2 x3 T = some R → xok (o4 x0 x2 x3 M) (fun r => r.1 = R.1 ∧ xCX m M0 r.2 R.2 ∧ xin R.1)) (h : xCX m M0 M T) {x0 : Nat} {x3 : Int} {x5 : Int} {R : Int × xT_} (tx3 : xin x3) (tx5 : xin x5) (e : c113_73 r4 f x0 x3 x5 T = some R) : xok (f113_73 o4 f x0 x3 x5 M) (fun r => r.1 = R.1 ∧ xCX m M0 r.2 R.2 ∧ xin R.1) := by
  unfold c113_73 at e
  unfold f113_73
  exact t113_78 (r4 := r4) (o4 := o4) hS @hr4 h tx3 tx5 (show xin (1) by decide) e
theorem t113_77 {m f : Nat} {M0 M : xj_M} {T : xT_} (hS : xHS f) {r4 : Nat → Int → Int → xT_ → Option (Int × xT_)} {o4 : Nat → Int → Int → xj_M → Option (Int × xj_M)} (hr4 : ∀ {M : xj_M} {T : xT_} {x0 : Nat} {x2 : Int} {x3 : Int} {R : Int × xT_}, xCX m M0 M T → xin x2 → xin x3 → r4 x0 x2 x3 T = some R → xok (o4 x0 x2 x3 M) (fun r => r.1 = R.1 ∧ xCX m M0 r.2 R.2 ∧ xin R.1)) (h : xCX m M0 M T) {x0 : Nat} {x3 : Int} {x5 : Int} {R : Int × xT_} (tx3 : xin x3) (tx5 : xin x5) (e : c113_77 r4 f x0 x3 x5 T = some R) : xok (f113_77 o4 f x0 x3 x5 M) (fun r => r.1 = R.1 ∧ xCX m M0 r.2 R.2 ∧ xin R.1) := by
  unfold c113_77 at e
  unfold f113_77
  exact t113_78 (r4 := r4) (o4 := o4) hS @hr4 h tx3 tx5 (show xin (0) by decide) e
theorem t113_53 {m f : Nat} {M0 M : xj_M} {T : xT_} (hS : xHS f) {r4 : Nat → Int → Int → xT_ → Option (Int × xT_)} {o4 : Nat → Int → Int → xj_M → Option (Int × xj_M)} (hr4 : ∀ {M : xj_M} {T : xT_} {x0 : Nat} {x2 : Int} {x3 : Int} {R : Int × xT_}, xCX m M0 M T → xin x2 → xin x3 → r4 x0 x2 x3 T = some R → xok (o4 x0 x2 x3 M) (fun r => r.1 = R.1 ∧ xCX m M0 r.2 R.2 ∧ xin R.1)) (h : xCX m M0 M T) {x0 : Nat} {x2 : Int} {x3 : Int} {x4 : Int} {y0 : Int} {R : Int × xT_} (tx2 : xin x2) (tx3 : xin x3) (tx4 : xin x4) (ty0 : xin y0) (e : c113_53 r4 f x0 x2 x3 x4 y0 T = some R) : xok (f113_53 o4 f x0 x2 x3 x4 y0 M) (fun r => r.1 = R.1 ∧ xCX m M0 r.2 R.2 ∧ xin R.1) := by
  unfold c113_53 at e
  unfold f113_53
  refine xok_ite (fun c103 => ?_) (fun c103 => ?_)
  · rw [if_pos c103] at e
    exact t113_77 (r4 := r4) (o4 := o4) hS @hr4 h tx3 ty0 e
  · rw [if_neg c103] at e
    refine xok_ite (fun c104 => ?_) (fun c104 => ?_)
    · rw [if_pos c104] at e
      exact t113_73 (r4 := r4) (o4 := o4) hS @hr4 h tx3 ty0 e
    · rw [if_neg c104] at e
      refine xok_ite (fun c105 => ?_) (fun c105 => ?_)
      · rw [if_pos c105] at e
        exact t113_77 (r4 := r4) (o4 := o4) hS @hr4 h tx3 ty0 e
      · rw [if_neg c105] at e
        exact t113_73 (r4 := r4) (o4 := o4) hS @hr4 h tx3 ty0 e
theorem t113_48 {m f : Nat} {M0 M : xj_M} {T : xT_} (hS : xHS f) {r4 : Nat → Int → Int → xT_ → Option (Int × xT_)} {o4 : Nat → Int → Int → xj_M → Option (Int × xj_M)} (hr4 : ∀ {M : xj_M} {T : xT_} {x0 : Nat} {x2 : Int} {x3 : Int} {R : Int × xT_}, xCX m M0 M T → xin x2 → xin x3 → r4 x0 x2 x3 T = some R → xok (o4 x0 x2 x3 M) (fun r => r.1 = R.1 ∧ xCX m M0 r.2 R.2 ∧ xin R.1)) (h : xCX m M0 M T) {x0 : Nat} {x2 : Int} {x3 : Int} {x4 : Int} {R : Int × xT_} (tx2 : xin x2) (tx3 : xin x3) (tx4 : xin x4) (e : c113_48 r4 f x0 x2 x3 x4 T = some R) : xok (f113_48 o4 f x0 x2 x3 x4 M) (fun r => r.1 = R.1 ∧ xCX m M0 r.2 R.2 ∧ xin R.1) := by
  unfold c113_48 at e
  unfold f113_48
  exact t113_53 (r4 := r4) (o4 := o4) hS @hr4 h tx2 tx3 tx4 (show xin (1) by decide) e
theorem t113_4b {m f : Nat} {M0 M : xj_M} {T : xT_} (hS : xHS f) {r4 : Nat → Int → Int → xT_ → Option (Int × xT_)} {o4 : Nat → Int → Int → xj_M → Option (Int × xj_M)} (hr4 : ∀ {M : xj_M} {T : xT_} {x0 : Nat} {x2 : Int} {x3 : Int} {R : Int × xT_}, xCX m M0 M T → xin x2 → xin x3 → r4 x0 x2 x3 T = some R → xok (o4 x0 x2 x3 M) (fun r => r.1 = R.1 ∧ xCX m M0 r.2 R.2 ∧ xin R.1)) (h : xCX m M0 M T) {x0 : Nat} {x2 : Int} {x3 : Int} {R : Int × xT_} (tx2 : xin x2) (tx3 : xin x3) (e : c113_4b r4 f x0 x2 x3 T = some R) : xok (f113_4b o4 f x0 x2 x3 M) (fun r => r.1 = R.1 ∧ xCX m M0 r.2 R.2 ∧ xin R.1) := by
  unfold c113_4b at e
  unfold f113_4b
  obtain ⟨v106, q107, e⟩ := xbnd e
  refine xok_eqb (h.gi (by decide) (by decide) q107).1 ?_
  refine xok_ite (fun c108 => ?_) (fun c108 => ?_)
  · rw [if_pos c108] at e
    obtain ⟨v109, q110, e⟩ := xbnd e
    refine xok_eqb (h.gi (by decide) (by decide) q110).1 ?_
    cases e
    exact ⟨_, rfl, rfl, h, (h.gi (by decide) (by decide) q110).2⟩
  · rw [if_neg c108] at e
    obtain ⟨v111, q112, e⟩ := xbnd e
    refine xok_eqb (h.gr (by decide) (by decide) q112) ?_
    obtain ⟨v113, q114, e⟩ := xbnd e
    refine xok_eqb (h.ai (by decide) q114).1 ?_
    refine xok_ite (fun c115 => ?_) (fun c115 => ?_)
    · rw [if_pos c115] at e
      exact t113_48 (r4 := r4) (o4 := o4) hS @hr4 h tx2 tx3 (h.ai (by decide) q114).2 e
    · rw [if_neg c115] at e
      refine xok_ite (fun c116 => ?_) (fun c116 => ?_)
      · rw [if_pos c116] at e
        exact t113_48 (r4 := r4) (o4 := o4) hS @hr4 h tx2 tx3 (h.ai (by decide) q114).2 e
      · rw [if_neg c116] at e
        refine xok_ite (fun c117 => ?_) (fun c117 => ?_)
        · rw [if_pos c117] at e
          exact t113_48 (r4 := r4) (o4 := o4) hS @hr4 h tx2 tx3 (h.ai (by decide) q114).2 e
        · rw [if_neg c117] at e
          refine xok_ite (fun c118 => ?_) (fun c118 => ?_)
          · rw [if_pos c118] at e
            exact t113_53 (r4 := r4) (o4 := o4) hS @hr4 h tx2 tx3 (h.ai (by decide) q114).2 (show xin (0) by decide) e
          · rw [if_neg c118] at e
            exact t113_48 (r4 := r4) (o4 := o4) hS @hr4 h tx2 tx3 (h.ai (by decide) q114).2 e
theorem t113_4 {m f : Nat} {M0 : xj_M} (hS : xHS f)   : ∀ {n : Nat} {M : xj_M} {T : xT_} {x0 : Nat} {x2 : Int} {x3 : Int} {R : Int × xT_}, xCX m M0 M T → xin x2 → xin x3 → c113_4  f n x0 x2 x3 T = some R → xok (f113_4  f n x0 x2 x3 M) (fun r => r.1 = R.1 ∧ xCX m M0 r.2 R.2 ∧ xin R.1) := by
  intro n
  induction n with
  | zero => intros; rename_i e; cases e
  | succ n ih =>
    intros
    rename_i h i0 i1 e
    exact t113_4b hS  @ih h i0 i1 e
theorem t113 {m f : Nat} {M0 M : xj_M} {T : xT_} (hS : xHS f) (h : xCX m M0 M T) {a0 : Nat} {a1 : Int} {R : Int × xT_} (ta1 : xin a1) (e : c113 f a0 a1 T = some R) : xok (f113 f a0 a1 M) (fun r => r.1 = R.1 ∧ xCX m M0 r.2 R.2 ∧ xin R.1) := by
  unfold c113 at e
  unfold f113
  exact t113_4  hS  h (show xin (0) by decide) ta1 e
-- ChangeHouse$Tape.spells
theorem t116_15b {m f : Nat} {M0 M : xj_M} {T : xT_} (hS : xHS f) {r15 : Nat → Int → Nat → Int → xT_ → Option (Int × xT_)} {o15 : Nat → Int → Nat → Int → xj_M → Option (Int × xj_M)} (hr15 : ∀ {M : xj_M} {T : xT_} {x0 : Nat} {x1 : Int} {x3 : Nat} {x4 : Int} {R : Int × xT_}, xCX m M0 M T → xin x1 → xin x4 → r15 x0 x1 x3 x4 T = some R → xok (o15 x0 x1 x3 x4 M) (fun r => r.1 = R.1 ∧ xCX m M0 r.2 R.2 ∧ xin R.1)) (h : xCX m M0 M T) {x0 : Nat} {x1 : Int} {x3 : Nat} {x4 : Int} {R : Int × xT_} (tx1 : xin x1) (tx4 : xin x4) (e : c116_15b r15 f x0 x1 x3 x4 T = some R) : xok (f116_15b o15 f x0 x1 x3 x4 M) (fun r => r.1 = R.1 ∧ xCX m M0 r.2 R.2 ∧ xin R.1) := by
  unfold c116_15b at e
  unfold f116_15b
  obtain ⟨_, q106, e⟩ := xbnd e
  obtain ⟨R101, e102, e⟩ := xbnd e
  refine xok_eqb q106 ?_
  refine xok_eqb (hS.xcsl  _ e102).1 ?_
  dsimp only
  refine xok_ite (fun c107 => ?_) (fun c107 => ?_)
  · rw [if_pos c107] at e
    cases e
    exact ⟨_, rfl, rfl, h, (show xin (1) by decide)⟩
  · rw [if_neg c107] at e
    obtain ⟨v108, q109, e⟩ := xbnd e
    refine xok_eqb (h.gr (by decide) (by decide) q109) ?_
    obtain ⟨v110, q111, e⟩ := xbnd e
    refine xok_eqb (h.ai (by decide) q111).1 ?_
    obtain ⟨_, q117, e⟩ := xbnd e
    obtain ⟨R112, e113, e⟩ := xbnd e
    refine xok_eqb q117 ?_
    refine xok_eqb (hS.xcsa tx4 _ e113).1 ?_
    dsimp only
    refine xok_ite (fun c118 => ?_) (fun c118 => ?_)
    · rw [if_pos c118] at e
      exact hr15 h tx1 (xin_wr _) e
    · rw [if_neg c118] at e
      cases e
      exact ⟨_, rfl, rfl, h, (show xin (0) by decide)⟩
theorem t116_15 {m f : Nat} {M0 : xj_M} (hS : xHS f)   : ∀ {n : Nat} {M : xj_M} {T : xT_} {x0 : Nat} {x1 : Int} {x3 : Nat} {x4 : Int} {R : Int × xT_}, xCX m M0 M T → xin x1 → xin x4 → c116_15  f n x0 x1 x3 x4 T = some R → xok (f116_15  f n x0 x1 x3 x4 M) (fun r => r.1 = R.1 ∧ xCX m M0 r.2 R.2 ∧ xin R.1) := by
  intro n
  induction n with
  | zero => intros; rename_i e; cases e
  | succ n ih =>
    intros
    rename_i h i0 i1 e
    exact t116_15b hS  @ih h i0 i1 e
theorem t116 {m f : Nat} {M0 M : xj_M} {T : xT_} (hS : xHS f) (h : xCX m M0 M T) {a0 : Nat} {a1 : Int} {a2 : Int} {a3 : Nat} {R : Int × xT_} (ta1 : xin a1) (ta2 : xin a2) (e : c116 f a0 a1 a2 a3 T = some R) : xok (f116 f a0 a1 a2 a3 M) (fun r => r.1 = R.1 ∧ xCX m M0 r.2 R.2 ∧ xin R.1) := by
  unfold c116 at e
  unfold f116
  obtain ⟨_, q124, e⟩ := xbnd e
  obtain ⟨R119, e120, e⟩ := xbnd e
  refine xok_eqb q124 ?_
  refine xok_eqb (hS.xcsl  _ e120).1 ?_
  dsimp only
  refine xok_ite (fun c125 => ?_) (fun c125 => ?_)
  · rw [if_pos c125] at e
    exact t116_15  hS  h ta1 (show xin (0) by decide) e
  · rw [if_neg c125] at e
    cases e
    exact ⟨_, rfl, rfl, h, (show xin (0) by decide)⟩
-- ChangeHouse$Tape.put
theorem t120 {m f : Nat} {M0 M : xj_M} {T : xT_} (hS : xHS f) (h : xCX m M0 M T) {a0 : Nat} {a1 : Int} {a2 : Int} {a3 : Int} {a4 : Int} {R : xT_} (ta1 : xin a1) (ta2 : xin a2) (ta3 : xin a3) (ta4 : xiN a4) (e : c120 f a0 a1 a2 a3 a4 T = some R) : xok (f120 f a0 a1 a2 a3 a4 M) (fun r => xCX m M0 r R) := by
  unfold c120 at e
  unfold f120
  obtain ⟨v101, q102, e⟩ := xbnd e
  refine xok_eqb (h.gr (by decide) (by decide) q102) ?_
  obtain ⟨v103, q104, e⟩ := xbnd e
  refine xok_eqb (h.gi (by decide) (by decide) q104).1 ?_
  obtain ⟨T106, q105, e⟩ := xbnd e
  obtain ⟨M107, q108, h109⟩ := h.si ta1 q105
  refine xok_eqb q108 ?_
  obtain ⟨v110, q111, e⟩ := xbnd e
  refine xok_eqb (h109.gr (by decide) (by decide) q111) ?_
  obtain ⟨v112, q113, e⟩ := xbnd e
  refine xok_eqb (h109.gi (by decide) (by decide) q113).1 ?_
  obtain ⟨T115, q114, e⟩ := xbnd e
  obtain ⟨M116, q117, h118⟩ := h109.si ta2 q114
  refine xok_eqb q117 ?_
  obtain ⟨v119, q120, e⟩ := xbnd e
  refine xok_eqb (h118.gr (by decide) (by decide) q120) ?_
  obtain ⟨v121, q122, e⟩ := xbnd e
  refine xok_eqb (h118.gi (by decide) (by decide) q122).1 ?_
  obtain ⟨T124, q123, e⟩ := xbnd e
  obtain ⟨M125, q126, h127⟩ := h118.si ta3 q123
  refine xok_eqb q126 ?_
  obtain ⟨v128, q129, e⟩ := xbnd e
  refine xok_eqb (h127.gr (by decide) (by decide) q129) ?_
  obtain ⟨v130, q131, e⟩ := xbnd e
  refine xok_eqb (h127.gi (by decide) (by decide) q131).1 ?_
  obtain ⟨T133, q132, e⟩ := xbnd e
  obtain ⟨M134, q135, h136⟩ := h127.sl ta4 q132
  refine xok_eqb q135 ?_
  obtain ⟨v137, q138, e⟩ := xbnd e
  refine xok_eqb (h136.gi (by decide) (by decide) q138).1 ?_
  obtain ⟨T140, q139, e⟩ := xbnd e
  obtain ⟨M141, q142, h143⟩ := h136.pi (by decide) (by decide) (xin_wr _) q139
  refine xok_eqb q142 ?_
  cases e
  exact ⟨_, rfl, h143⟩
-- ChangeHouse$Tape.isSmall
theorem t121_17 {m f : Nat} {M0 M : xj_M} {T : xT_} (hS : xHS f)   (h : xCX m M0 M T) {y0 : Int} {R : Int × xT_} (ty0 : xin y0) (e : c121_17  f y0 T = some R) : xok (f121_17  f y0 M) (fun r => r.1 = R.1 ∧ xCX m M0 r.2 R.2 ∧ xin R.1) := by
  unfold c121_17 at e
  unfold f121_17
  refine xok_ite (fun c101 => ?_) (fun c101 => ?_)
  · rw [if_pos c101] at e; cases e; exact ⟨_, rfl, rfl, h, ty0⟩
  · rw [if_neg c101] at e; cases e
theorem t121_16 {m f : Nat} {M0 M : xj_M} {T : xT_} (hS : xHS f)   (h : xCX m M0 M T)  {R : Int × xT_}  (e : c121_16  f  T = some R) : xok (f121_16  f  M) (fun r => r.1 = R.1 ∧ xCX m M0 r.2 R.2 ∧ xin R.1) := by
  unfold c121_16 at e
  unfold f121_16
  exact t121_17  hS  h (show xin (0) by decide) e
theorem t121 {m f : Nat} {M0 M : xj_M} {T : xT_} (hS : xHS f) (h : xCX m M0 M T) {a0 : Int} {R : Int × xT_} (ta0 : xin a0) (e : c121 f a0 T = some R) : xok (f121 f a0 M) (fun r => r.1 = R.1 ∧ xCX m M0 r.2 R.2 ∧ xin R.1) := by
  unfold c121 at e
  unfold f121
  refine xok_ite (fun c102 => ?_) (fun c102 => ?_)
  · rw [if_pos c102] at e
    exact t121_16  hS  h  e
  · rw [if_neg c102] at e
    refine xok_ite (fun c103 => ?_) (fun c103 => ?_)
    · rw [if_pos c103] at e
      exact t121_16  hS  h  e
    · rw [if_neg c103] at e
      exact t121_17  hS  h (show xin (1) by decide) e
-- ChangeHouse$Tape.isGreat
theorem t122_17 {m f : Nat} {M0 M : xj_M} {T : xT_} (hS : xHS f)   (h : xCX m M0 M T) {y0 : Int} {R : Int × xT_} (ty0 : xin y0) (e : c122_17  f y0 T = some R) : xok (f122_17  f y0 M) (fun r => r.1 = R.1 ∧ xCX m M0 r.2 R.2 ∧ xin R.1) := by
  unfold c122_17 at e
  unfold f122_17
  refine xok_ite (fun c101 => ?_) (fun c101 => ?_)
  · rw [if_pos c101] at e; cases e; exact ⟨_, rfl, rfl, h, ty0⟩
  · rw [if_neg c101] at e; cases e
theorem t122_16 {m f : Nat} {M0 M : xj_M} {T : xT_} (hS : xHS f)   (h : xCX m M0 M T)  {R : Int × xT_}  (e : c122_16  f  T = some R) : xok (f122_16  f  M) (fun r => r.1 = R.1 ∧ xCX m M0 r.2 R.2 ∧ xin R.1) := by
  unfold c122_16 at e
  unfold f122_16
  exact t122_17  hS  h (show xin (0) by decide) e
theorem t122 {m f : Nat} {M0 M : xj_M} {T : xT_} (hS : xHS f) (h : xCX m M0 M T) {a0 : Int} {R : Int × xT_} (ta0 : xin a0) (e : c122 f a0 T = some R) : xok (f122 f a0 M) (fun r => r.1 = R.1 ∧ xCX m M0 r.2 R.2 ∧ xin R.1) := by
  unfold c122 at e
  unfold f122
  refine xok_ite (fun c102 => ?_) (fun c102 => ?_)
  · rw [if_pos c102] at e
    exact t122_16  hS  h  e
  · rw [if_neg c102] at e
    refine xok_ite (fun c103 => ?_) (fun c103 => ?_)
    · rw [if_pos c103] at e
      exact t122_16  hS  h  e
    · rw [if_neg c103] at e
      exact t122_17  hS  h (show xin (1) by decide) e
-- ChangeHouse$Tape.isDigit
theorem t123_17 {m f : Nat} {M0 M : xj_M} {T : xT_} (hS : xHS f)   (h : xCX m M0 M T) {y0 : Int} {R : Int × xT_} (ty0 : xin y0) (e : c123_17  f y0 T = some R) : xok (f123_17  f y0 M) (fun r => r.1 = R.1 ∧ xCX m M0 r.2 R.2 ∧ xin R.1) := by
  unfold c123_17 at e
  unfold f123_17
  refine xok_ite (fun c101 => ?_) (fun c101 => ?_)
  · rw [if_pos c101] at e; cases e; exact ⟨_, rfl, rfl, h, ty0⟩
  · rw [if_neg c101] at e; cases e
theorem t123_16 {m f : Nat} {M0 M : xj_M} {T : xT_} (hS : xHS f)   (h : xCX m M0 M T)  {R : Int × xT_}  (e : c123_16  f  T = some R) : xok (f123_16  f  M) (fun r => r.1 = R.1 ∧ xCX m M0 r.2 R.2 ∧ xin R.1) := by
  unfold c123_16 at e
  unfold f123_16
  exact t123_17  hS  h (show xin (0) by decide) e
theorem t123 {m f : Nat} {M0 M : xj_M} {T : xT_} (hS : xHS f) (h : xCX m M0 M T) {a0 : Int} {R : Int × xT_} (ta0 : xin a0) (e : c123 f a0 T = some R) : xok (f123 f a0 M) (fun r => r.1 = R.1 ∧ xCX m M0 r.2 R.2 ∧ xin R.1) := by
  unfold c123 at e
  unfold f123
  refine xok_ite (fun c102 => ?_) (fun c102 => ?_)
  · rw [if_pos c102] at e
    exact t123_16  hS  h  e
  · rw [if_neg c102] at e
    refine xok_ite (fun c103 => ?_) (fun c103 => ?_)
    · rw [if_pos c103] at e
      exact t123_16  hS  h  e
    · rw [if_neg c103] at e
      exact t123_17  hS  h (show xin (1) by decide) e
-- ChangeHouse$Tape.lengthOf
theorem t124 {m f : Nat} {M0 M : xj_M} {T : xT_} (hS : xHS f) (h : xCX m M0 M T) {a0 : Nat} {a1 : Int} {R : Int × xT_} (ta1 : xin a1) (e : c124 f a0 a1 T = some R) : xok (f124 f a0 a1 M) (fun r => r.1 = R.1 ∧ xCX m M0 r.2 R.2 ∧ xin R.1) := by
  unfold c124 at e
  unfold f124
  obtain ⟨v101, q102, e⟩ := xbnd e
  refine xok_eqb (h.gr (by decide) (by decide) q102) ?_
  obtain ⟨v103, q104, e⟩ := xbnd e
  refine xok_eqb (h.ai (by decide) q104).1 ?_
  obtain ⟨v105, q106, e⟩ := xbnd e
  refine xok_eqb (h.gr (by decide) (by decide) q106) ?_
  obtain ⟨v107, q108, e⟩ := xbnd e
  refine xok_eqb (h.ai (by decide) q108).1 ?_
  cases e
  exact ⟨_, rfl, rfl, h, (xin_wr _)⟩
-- ChangeHouse$Tape.isIf
theorem t125_36 {m f : Nat} {M0 M : xj_M} {T : xT_} (hS : xHS f)   (h : xCX m M0 M T) {y0 : Int} {R : Int × xT_} (ty0 : xin y0) (e : c125_36  f y0 T = some R) : xok (f125_36  f y0 M) (fun r => r.1 = R.1 ∧ xCX m M0 r.2 R.2 ∧ xin R.1) := by
  unfold c125_36 at e
  unfold f125_36
  refine xok_ite (fun c101 => ?_) (fun c101 => ?_)
  · rw [if_pos c101] at e; cases e; exact ⟨_, rfl, rfl, h, ty0⟩
  · rw [if_neg c101] at e; cases e
theorem t125_35 {m f : Nat} {M0 M : xj_M} {T : xT_} (hS : xHS f)   (h : xCX m M0 M T)  {R : Int × xT_}  (e : c125_35  f  T = some R) : xok (f125_35  f  M) (fun r => r.1 = R.1 ∧ xCX m M0 r.2 R.2 ∧ xin R.1) := by
  unfold c125_35 at e
  unfold f125_35
  exact t125_36  hS  h (show xin (0) by decide) e
theorem t125 {m f : Nat} {M0 M : xj_M} {T : xT_} (hS : xHS f) (h : xCX m M0 M T) {a0 : Nat} {a1 : Int} {R : Int × xT_} (ta1 : xin a1) (e : c125 f a0 a1 T = some R) : xok (f125 f a0 a1 M) (fun r => r.1 = R.1 ∧ xCX m M0 r.2 R.2 ∧ xin R.1) := by
  unfold c125 at e
  unfold f125
  obtain ⟨v102, q103, e⟩ := xbnd e
  refine xok_eqb (h.gr (by decide) (by decide) q103) ?_
  obtain ⟨v104, q105, e⟩ := xbnd e
  refine xok_eqb (h.ai (by decide) q105).1 ?_
  refine xok_ite (fun c106 => ?_) (fun c106 => ?_)
  · rw [if_pos c106] at e
    exact t125_35  hS  h  e
  · rw [if_neg c106] at e
    obtain ⟨v107, q108, e⟩ := xbnd e
    refine xok_eqb (h.gr (by decide) (by decide) q108) ?_
    obtain ⟨v109, q110, e⟩ := xbnd e
    refine xok_eqb (h.ai (by decide) q110).1 ?_
    obtain ⟨v111, q112, e⟩ := xbnd e
    refine xok_eqb (h.gr (by decide) (by decide) q112) ?_
    obtain ⟨v113, q114, e⟩ := xbnd e
    refine xok_eqb (h.ai (by decide) q114).1 ?_
    obtain ⟨_, q120, e⟩ := xbnd e
    obtain ⟨R115, e116, e⟩ := xbnd e
    refine xok_eqb (h.is q120) ?_
    refine xok_call (t116 hS h (h.ai (by decide) q110).2 (h.ai (by decide) q114).2 e116) ?_
    rintro ⟨v_, M117⟩ ⟨hv_, h118, hi119⟩
    cases hv_
    refine xok_ite (fun c121 => ?_) (fun c121 => ?_)
    · rw [if_pos c121] at e
      exact t125_35  hS  h118  e
    · rw [if_neg c121] at e
      exact t125_36  hS  h118 (show xin (1) by decide) e
-- ChangeHouse$Tape.digitBehind
theorem t126_42 {m f : Nat} {M0 M : xj_M} {T : xT_} (hS : xHS f)   (h : xCX m M0 M T) {y0 : Int} {R : Int × xT_} (ty0 : xin y0) (e : c126_42  f y0 T = some R) : xok (f126_42  f y0 M) (fun r => r.1 = R.1 ∧ xCX m M0 r.2 R.2 ∧ xin R.1) := by
  unfold c126_42 at e
  unfold f126_42
  refine xok_ite (fun c101 => ?_) (fun c101 => ?_)
  · rw [if_pos c101] at e; cases e; exact ⟨_, rfl, rfl, h, ty0⟩
  · rw [if_neg c101] at e; cases e
theorem t126_41 {m f : Nat} {M0 M : xj_M} {T : xT_} (hS : xHS f)   (h : xCX m M0 M T)  {R : Int × xT_}  (e : c126_41  f  T = some R) : xok (f126_41  f  M) (fun r => r.1 = R.1 ∧ xCX m M0 r.2 R.2 ∧ xin R.1) := by
  unfold c126_41 at e
  unfold f126_41
  exact t126_42  hS  h (show xin (0) by decide) e
theorem t126 {m f : Nat} {M0 M : xj_M} {T : xT_} (hS : xHS f) (h : xCX m M0 M T) {a0 : Nat} {a1 : Int} {R : Int × xT_} (ta1 : xin a1) (e : c126 f a0 a1 T = some R) : xok (f126 f a0 a1 M) (fun r => r.1 = R.1 ∧ xCX m M0 r.2 R.2 ∧ xin R.1) := by
  unfold c126 at e
  unfold f126
  obtain ⟨v102, q103, e⟩ := xbnd e
  refine xok_eqb (h.gr (by decide) (by decide) q103) ?_
  obtain ⟨v104, q105, e⟩ := xbnd e
  refine xok_eqb (h.ai (by decide) q105).1 ?_
  obtain ⟨v106, q107, e⟩ := xbnd e
  refine xok_eqb (h.gi (by decide) (by decide) q107).1 ?_
  refine xok_ite (fun c108 => ?_) (fun c108 => ?_)
  · rw [if_pos c108] at e
    exact t126_41  hS  h  e
  · rw [if_neg c108] at e
    obtain ⟨v109, q110, e⟩ := xbnd e
    refine xok_eqb (h.gr (by decide) (by decide) q110) ?_
    obtain ⟨v111, q112, e⟩ := xbnd e
    refine xok_eqb (h.ai (by decide) q112).1 ?_
    refine xok_ite (fun c113 => ?_) (fun c113 => ?_)
    · rw [if_pos c113] at e
      exact t126_41  hS  h  e
    · rw [if_neg c113] at e
      obtain ⟨v114, q115, e⟩ := xbnd e
      refine xok_eqb (h.gr (by decide) (by decide) q115) ?_
      obtain ⟨v116, q117, e⟩ := xbnd e
      refine xok_eqb (h.ai (by decide) q117).1 ?_
      refine xok_ite (fun c118 => ?_) (fun c118 => ?_)
      · rw [if_pos c118] at e
        exact t126_41  hS  h  e
      · rw [if_neg c118] at e
        exact t126_42  hS  h (show xin (1) by decide) e
-- ChangeHouse$Tape.wordOf
theorem t127_71 {m f : Nat} {M0 M : xj_M} {T : xT_} (hS : xHS f) {r5 : Nat → Int → Int → Int → Int → xT_ → Option (Int × xT_)} {o5 : Nat → Int → Int → Int → Int → xj_M → Option (Int × xj_M)} (hr5 : ∀ {M : xj_M} {T : xT_} {x0 : Nat} {x1 : Int} {x2 : Int} {x3 : Int} {x5 : Int} {R : Int × xT_}, xCX m M0 M T → xin x1 → xin x2 → xiN x3 → xin x5 → r5 x0 x1 x2 x3 x5 T = some R → xok (o5 x0 x1 x2 x3 x5 M) (fun r => r.1 = R.1 ∧ xCX m M0 r.2 R.2 ∧ xiN R.1)) (h : xCX m M0 M T) {x0 : Nat} {x1 : Int} {x2 : Int} {x5 : Int} {y0 : Int} {y1 : Int} {R : Int × xT_} (tx1 : xin x1) (tx2 : xin x2) (tx5 : xin x5) (ty0 : xin y0) (ty1 : xiN y1) (e : c127_71 r5 f x0 x1 x2 x5 y0 y1 T = some R) : xok (f127_71 o5 f x0 x1 x2 x5 y0 y1 M) (fun r => r.1 = R.1 ∧ xCX m M0 r.2 R.2 ∧ xiN R.1) := by
  unfold c127_71 at e
  unfold f127_71
  exact hr5 h tx1 tx2 (xiN_wl _) (xin_wr _) e
theorem t127_50 {m f : Nat} {M0 M : xj_M} {T : xT_} (hS : xHS f) {r5 : Nat → Int → Int → Int → Int → xT_ → Option (Int × xT_)} {o5 : Nat → Int → Int → Int → Int → xj_M → Option (Int × xj_M)} (hr5 : ∀ {M : xj_M} {T : xT_} {x0 : Nat} {x1 : Int} {x2 : Int} {x3 : Int} {x5 : Int} {R : Int × xT_}, xCX m M0 M T → xin x1 → xin x2 → xiN x3 → xin x5 → r5 x0 x1 x2 x3 x5 T = some R → xok (o5 x0 x1 x2 x3 x5 M) (fun r => r.1 = R.1 ∧ xCX m M0 r.2 R.2 ∧ xiN R.1)) (h : xCX m M0 M T) {x0 : Nat} {x1 : Int} {x2 : Int} {x3 : Int} {x5 : Int} {x6 : Int} {R : Int × xT_} (tx1 : xin x1) (tx2 : xin x2) (tx3 : xiN x3) (tx5 : xin x5) (tx6 : xin x6) (e : c127_50 r5 f x0 x1 x2 x3 x5 x6 T = some R) : xok (f127_50 o5 f x0 x1 x2 x3 x5 x6 M) (fun r => r.1 = R.1 ∧ xCX m M0 r.2 R.2 ∧ xiN R.1) := by
  unfold c127_50 at e
  unfold f127_50
  refine xok_ite (fun c101 => ?_) (fun c101 => ?_)
  · rw [if_pos c101] at e
    exact t127_71 (r5 := r5) (o5 := o5) hS @hr5 h tx1 tx2 tx5 (xin_wr _) (xiN_wl _) e
  · rw [if_neg c101] at e
    exact t127_71 (r5 := r5) (o5 := o5) hS @hr5 h tx1 tx2 tx5 (show xin (0) by decide) (xiN_wl _) e
theorem t127_31 {m f : Nat} {M0 M : xj_M} {T : xT_} (hS : xHS f) {r5 : Nat → Int → Int → Int → Int → xT_ → Option (Int × xT_)} {o5 : Nat → Int → Int → Int → Int → xj_M → Option (Int × xj_M)} (hr5 : ∀ {M : xj_M} {T : xT_} {x0 : Nat} {x1 : Int} {x2 : Int} {x3 : Int} {x5 : Int} {R : Int × xT_}, xCX m M0 M T → xin x1 → xin x2 → xiN x3 → xin x5 → r5 x0 x1 x2 x3 x5 T = some R → xok (o5 x0 x1 x2 x3 x5 M) (fun r => r.1 = R.1 ∧ xCX m M0 r.2 R.2 ∧ xiN R.1)) (h : xCX m M0 M T) {x0 : Nat} {x1 : Int} {x2 : Int} {x3 : Int} {x5 : Int} {y0 : Int} {R : Int × xT_} (tx1 : xin x1) (tx2 : xin x2) (tx3 : xiN x3) (tx5 : xin x5) (ty0 : xin y0) (e : c127_31 r5 f x0 x1 x2 x3 x5 y0 T = some R) : xok (f127_31 o5 f x0 x1 x2 x3 x5 y0 M) (fun r => r.1 = R.1 ∧ xCX m M0 r.2 R.2 ∧ xiN R.1) := by
  unfold c127_31 at e
  unfold f127_31
  refine xok_ite (fun c102 => ?_) (fun c102 => ?_)
  · rw [if_pos c102] at e
    exact t127_50 (r5 := r5) (o5 := o5) hS @hr5 h tx1 tx2 tx3 tx5 ty0 e
  · rw [if_neg c102] at e
    obtain ⟨R103, e104, e⟩ := xbnd e
    refine xok_call (t121 hS h ty0 e104) ?_
    rintro ⟨v_, M105⟩ ⟨hv_, h106, hi107⟩
    cases hv_
    refine xok_ite (fun c108 => ?_) (fun c108 => ?_)
    · rw [if_pos c108] at e
      exact t127_50 (r5 := r5) (o5 := o5) hS @hr5 h106 tx1 tx2 tx3 tx5 ty0 e
    · rw [if_neg c108] at e
      cases e
      exact ⟨_, rfl, rfl, h106, (show xiN (-1) by decide)⟩
theorem t127_97 {m f : Nat} {M0 M : xj_M} {T : xT_} (hS : xHS f)   (h : xCX m M0 M T) {y0 : Int} {R : Int × xT_} (ty0 : xiN y0) (e : c127_97  f y0 T = some R) : xok (f127_97  f y0 M) (fun r => r.1 = R.1 ∧ xCX m M0 r.2 R.2 ∧ xiN R.1) := by
  unfold c127_97 at e
  unfold f127_97
  cases e
  exact ⟨_, rfl, rfl, h, ty0⟩
theorem t127_5b {m f : Nat} {M0 M : xj_M} {T : xT_} (hS : xHS f) {r5 : Nat → Int → Int → Int → Int → xT_ → Option (Int × xT_)} {o5 : Nat → Int → Int → Int → Int → xj_M → Option (Int × xj_M)} (hr5 : ∀ {M : xj_M} {T : xT_} {x0 : Nat} {x1 : Int} {x2 : Int} {x3 : Int} {x5 : Int} {R : Int × xT_}, xCX m M0 M T → xin x1 → xin x2 → xiN x3 → xin x5 → r5 x0 x1 x2 x3 x5 T = some R → xok (o5 x0 x1 x2 x3 x5 M) (fun r => r.1 = R.1 ∧ xCX m M0 r.2 R.2 ∧ xiN R.1)) (h : xCX m M0 M T) {x0 : Nat} {x1 : Int} {x2 : Int} {x3 : Int} {x5 : Int} {R : Int × xT_} (tx1 : xin x1) (tx2 : xin x2) (tx3 : xiN x3) (tx5 : xin x5) (e : c127_5b r5 f x0 x1 x2 x3 x5 T = some R) : xok (f127_5b o5 f x0 x1 x2 x3 x5 M) (fun r => r.1 = R.1 ∧ xCX m M0 r.2 R.2 ∧ xiN R.1) := by
  unfold c127_5b at e
  unfold f127_5b
  refine xok_ite (fun c109 => ?_) (fun c109 => ?_)
  · rw [if_pos c109] at e
    refine xok_ite (fun c110 => ?_) (fun c110 => ?_)
    · rw [if_pos c110] at e
      exact t127_97  hS  h (xiN_wl _) e
    · rw [if_neg c110] at e
      exact t127_97  hS  h (show xiN (-1) by decide) e
  · rw [if_neg c109] at e
    refine xok_ite (fun c111 => ?_) (fun c111 => ?_)
    · rw [if_pos c111] at e
      exact t127_31 (r5 := r5) (o5 := o5) hS @hr5 h tx1 tx2 tx3 tx5 (show xin (0) by decide) e
    · rw [if_neg c111] at e
      obtain ⟨v112, q113, e⟩ := xbnd e
      refine xok_eqb (h.gr (by decide) (by decide) q113) ?_
      obtain ⟨v114, q115, e⟩ := xbnd e
      refine xok_eqb (h.ai (by decide) q115).1 ?_
      exact t127_31 (r5 := r5) (o5 := o5) hS @hr5 h tx1 tx2 tx3 tx5 (h.ai (by decide) q115).2 e
theorem t127_5 {m f : Nat} {M0 : xj_M} (hS : xHS f)   : ∀ {n : Nat} {M : xj_M} {T : xT_} {x0 : Nat} {x1 : Int} {x2 : Int} {x3 : Int} {x5 : Int} {R : Int × xT_}, xCX m M0 M T → xin x1 → xin x2 → xiN x3 → xin x5 → c127_5  f n x0 x1 x2 x3 x5 T = some R → xok (f127_5  f n x0 x1 x2 x3 x5 M) (fun r => r.1 = R.1 ∧ xCX m M0 r.2 R.2 ∧ xiN R.1) := by
  intro n
  induction n with
  | zero => intros; rename_i e; cases e
  | succ n ih =>
    intros
    rename_i h i0 i1 i2 i3 e
    exact t127_5b hS  @ih h i0 i1 i2 i3 e
theorem t127 {m f : Nat} {M0 M : xj_M} {T : xT_} (hS : xHS f) (h : xCX m M0 M T) {a0 : Nat} {a1 : Int} {a2 : Int} {R : Int × xT_} (ta1 : xin a1) (ta2 : xin a2) (e : c127 f a0 a1 a2 T = some R) : xok (f127 f a0 a1 a2 M) (fun r => r.1 = R.1 ∧ xCX m M0 r.2 R.2 ∧ xiN R.1) := by
  unfold c127 at e
  unfold f127
  exact t127_5  hS  h ta1 ta2 (show xiN (0) by decide) (show xin (0) by decide) e
-- ChangeHouse$Tape.cellOf
theorem t128_39 {m f : Nat} {M0 M : xj_M} {T : xT_} (hS : xHS f)   (h : xCX m M0 M T)  {R : Int × xT_}  (e : c128_39  f  T = some R) : xok (f128_39  f  M) (fun r => r.1 = R.1 ∧ xCX m M0 r.2 R.2 ∧ xin R.1) := by
  unfold c128_39 at e
  unfold f128_39
  cases e
  exact ⟨_, rfl, rfl, h, (show xin (-1) by decide)⟩
theorem t128_116 {m f : Nat} {M0 M : xj_M} {T : xT_} (hS : xHS f)   (h : xCX m M0 M T) {y0 : Int} {R : Int × xT_} (ty0 : xin y0) (e : c128_116  f y0 T = some R) : xok (f128_116  f y0 M) (fun r => r.1 = R.1 ∧ xCX m M0 r.2 R.2 ∧ xin R.1) := by
  unfold c128_116 at e
  unfold f128_116
  cases e
  exact ⟨_, rfl, rfl, h, ty0⟩
theorem t128_47b {m f : Nat} {M0 M : xj_M} {T : xT_} (hS : xHS f) {r47 : Nat → Int → Int → Int → Int → Int → xT_ → Option (Int × xT_)} {o47 : Nat → Int → Int → Int → Int → Int → xj_M → Option (Int × xj_M)} (hr47 : ∀ {M : xj_M} {T : xT_} {x0 : Nat} {x1 : Int} {x2 : Int} {x3 : Int} {x4 : Int} {x5 : Int} {R : Int × xT_}, xCX m M0 M T → xin x1 → xin x2 → xin x3 → xin x4 → xin x5 → r47 x0 x1 x2 x3 x4 x5 T = some R → xok (o47 x0 x1 x2 x3 x4 x5 M) (fun r => r.1 = R.1 ∧ xCX m M0 r.2 R.2 ∧ xin R.1)) (h : xCX m M0 M T) {x0 : Nat} {x1 : Int} {x2 : Int} {x3 : Int} {x4 : Int} {x5 : Int} {R : Int × xT_} (tx1 : xin x1) (tx2 : xin x2) (tx3 : xin x3) (tx4 : xin x4) (tx5 : xin x5) (e : c128_47b r47 f x0 x1 x2 x3 x4 x5 T = some R) : xok (f128_47b o47 f x0 x1 x2 x3 x4 x5 M) (fun r => r.1 = R.1 ∧ xCX m M0 r.2 R.2 ∧ xin R.1) := by
  unfold c128_47b at e
  unfold f128_47b
  refine xok_ite (fun c101 => ?_) (fun c101 => ?_)
  · rw [if_pos c101] at e
    refine xok_ite (fun c102 => ?_) (fun c102 => ?_)
    · rw [if_pos c102] at e
      exact t128_116  hS  h (xin_wr _) e
    · rw [if_neg c102] at e
      exact t128_116  hS  h (show xin (-1) by decide) e
  · rw [if_neg c101] at e
    obtain ⟨v103, q104, e⟩ := xbnd e
    refine xok_eqb (h.gr (by decide) (by decide) q104) ?_
    obtain ⟨v105, q106, e⟩ := xbnd e
    refine xok_eqb (h.ai (by decide) q106).1 ?_
    obtain ⟨R107, e108, e⟩ := xbnd e
    refine xok_call (t123 hS h (h.ai (by decide) q106).2 e108) ?_
    rintro ⟨v_, M109⟩ ⟨hv_, h110, hi111⟩
    cases hv_
    refine xok_ite (fun c112 => ?_) (fun c112 => ?_)
    · rw [if_pos c112] at e
      obtain ⟨v113, q114, e⟩ := xbnd e
      refine xok_eqb (h110.gr (by decide) (by decide) q114) ?_
      obtain ⟨v115, q116, e⟩ := xbnd e
      refine xok_eqb (h110.ai (by decide) q116).1 ?_
      exact hr47 h110 tx1 tx2 tx3 (xin_wr _) (xin_wr _) e
    · rw [if_neg c112] at e
      cases e
      exact ⟨_, rfl, rfl, h110, (show xin (-1) by decide)⟩
theorem t128_47 {m f : Nat} {M0 : xj_M} (hS : xHS f)   : ∀ {n : Nat} {M : xj_M} {T : xT_} {x0 : Nat} {x1 : Int} {x2 : Int} {x3 : Int} {x4 : Int} {x5 : Int} {R : Int × xT_}, xCX m M0 M T → xin x1 → xin x2 → xin x3 → xin x4 → xin x5 → c128_47  f n x0 x1 x2 x3 x4 x5 T = some R → xok (f128_47  f n x0 x1 x2 x3 x4 x5 M) (fun r => r.1 = R.1 ∧ xCX m M0 r.2 R.2 ∧ xin R.1) := by
  intro n
  induction n with
  | zero => intros; rename_i e; cases e
  | succ n ih =>
    intros
    rename_i h i0 i1 i2 i3 i4 e
    exact t128_47b hS  @ih h i0 i1 i2 i3 i4 e
theorem t128 {m f : Nat} {M0 M : xj_M} {T : xT_} (hS : xHS f) (h : xCX m M0 M T) {a0 : Nat} {a1 : Int} {a2 : Int} {R : Int × xT_} (ta1 : xin a1) (ta2 : xin a2) (e : c128 f a0 a1 a2 T = some R) : xok (f128 f a0 a1 a2 M) (fun r => r.1 = R.1 ∧ xCX m M0 r.2 R.2 ∧ xin R.1) := by
  unfold c128 at e
  unfold f128
  obtain ⟨v117, q118, e⟩ := xbnd e
  refine xok_eqb (h.gr (by decide) (by decide) q118) ?_
  obtain ⟨v119, q120, e⟩ := xbnd e
  refine xok_eqb (h.ai (by decide) q120).1 ?_
  refine xok_ite (fun c121 => ?_) (fun c121 => ?_)
  · rw [if_pos c121] at e
    exact t128_39  hS  h  e
  · rw [if_neg c121] at e
    refine xok_ite (fun c122 => ?_) (fun c122 => ?_)
    · rw [if_pos c122] at e
      exact t128_39  hS  h  e
    · rw [if_neg c122] at e
      refine xok_ite (fun c123 => ?_) (fun c123 => ?_)
      · rw [if_pos c123] at e
        exact t128_39  hS  h  e
      · rw [if_neg c123] at e
        obtain ⟨v124, q125, e⟩ := xbnd e
        refine xok_eqb (h.gr (by decide) (by decide) q125) ?_
        obtain ⟨v126, q127, e⟩ := xbnd e
        refine xok_eqb (h.ai (by decide) q127).1 ?_
        refine xok_ite (fun c128 => ?_) (fun c128 => ?_)
        · rw [if_pos c128] at e
          exact t128_47  hS  h ta1 ta2 (xin_wr _) (show xin (0) by decide) (show xin (1) by decide) e
        · rw [if_neg c128] at e
          exact t128_39  hS  h  e
-- ChangeHouse$Ways.<init>
theorem t129 {m f : Nat} {M0 M : xj_M} {T : xT_} (hS : xHS f) (h : xCX m M0 M T) {a0 : Nat} {R : xT_}  (e : c129 f a0 T = some R) : xok (f129 f a0 M) (fun r => xCX m M0 r R) := by
  unfold c129 at e
  unfold f129
  obtain ⟨_, q101, e⟩ := xbnd e
  refine xok_eqb q101 ?_
  obtain ⟨p102, q103, e⟩ := xbnd e
  obtain ⟨M104, q105, h106⟩ := h.na (by decide) q103
  refine xok_eqb q105 ?_
  dsimp only
  obtain ⟨T108, q107, e⟩ := xbnd e
  obtain ⟨M109, q110, h111⟩ := h106.pr (by decide) (by decide)  q107
  refine xok_eqb q110 ?_
  obtain ⟨p112, q113, e⟩ := xbnd e
  obtain ⟨M114, q115, h116⟩ := h111.na (by decide) q113
  refine xok_eqb q115 ?_
  dsimp only
  obtain ⟨T118, q117, e⟩ := xbnd e
  obtain ⟨M119, q120, h121⟩ := h116.pr (by decide) (by decide)  q117
  refine xok_eqb q120 ?_
  obtain ⟨p122, q123, e⟩ := xbnd e
  obtain ⟨M124, q125, h126⟩ := h121.na (by decide) q123
  refine xok_eqb q125 ?_
  dsimp only
  obtain ⟨T128, q127, e⟩ := xbnd e
  obtain ⟨M129, q130, h131⟩ := h126.pr (by decide) (by decide)  q127
  refine xok_eqb q130 ?_
  obtain ⟨p132, q133, e⟩ := xbnd e
  obtain ⟨M134, q135, h136⟩ := h131.na (by decide) q133
  refine xok_eqb q135 ?_
  dsimp only
  obtain ⟨T138, q137, e⟩ := xbnd e
  obtain ⟨M139, q140, h141⟩ := h136.pr (by decide) (by decide)  q137
  refine xok_eqb q140 ?_
  obtain ⟨p142, q143, e⟩ := xbnd e
  obtain ⟨M144, q145, h146⟩ := h141.na (by decide) q143
  refine xok_eqb q145 ?_
  dsimp only
  obtain ⟨T148, q147, e⟩ := xbnd e
  obtain ⟨M149, q150, h151⟩ := h146.pr (by decide) (by decide)  q147
  refine xok_eqb q150 ?_
  obtain ⟨p152, q153, e⟩ := xbnd e
  obtain ⟨M154, q155, h156⟩ := h151.na (by decide) q153
  refine xok_eqb q155 ?_
  dsimp only
  obtain ⟨T158, q157, e⟩ := xbnd e
  obtain ⟨M159, q160, h161⟩ := h156.pr (by decide) (by decide)  q157
  refine xok_eqb q160 ?_
  obtain ⟨p162, q163, e⟩ := xbnd e
  obtain ⟨M164, q165, h166⟩ := h161.na (by decide) q163
  refine xok_eqb q165 ?_
  dsimp only
  obtain ⟨T168, q167, e⟩ := xbnd e
  obtain ⟨M169, q170, h171⟩ := h166.pr (by decide) (by decide)  q167
  refine xok_eqb q170 ?_
  obtain ⟨p172, q173, e⟩ := xbnd e
  obtain ⟨M174, q175, h176⟩ := h171.na (by decide) q173
  refine xok_eqb q175 ?_
  dsimp only
  obtain ⟨T178, q177, e⟩ := xbnd e
  obtain ⟨M179, q180, h181⟩ := h176.pr (by decide) (by decide)  q177
  refine xok_eqb q180 ?_
  obtain ⟨p182, q183, e⟩ := xbnd e
  obtain ⟨M184, q185, h186⟩ := h181.na (by decide) q183
  refine xok_eqb q185 ?_
  dsimp only
  obtain ⟨T188, q187, e⟩ := xbnd e
  obtain ⟨M189, q190, h191⟩ := h186.pr (by decide) (by decide)  q187
  refine xok_eqb q190 ?_
  cases e
  exact ⟨_, rfl, h191⟩
-- ChangeHouse$Ways.fix
theorem t131_30 {m f : Nat} {M0 M : xj_M} {T : xT_} (hS : xHS f)   (h : xCX m M0 M T) {y0 : Int} {R : Int × xT_} (ty0 : xin y0) (e : c131_30  f y0 T = some R) : xok (f131_30  f y0 M) (fun r => r.1 = R.1 ∧ xCX m M0 r.2 R.2 ∧ xin R.1) := by
  unfold c131_30 at e
  unfold f131_30
  refine xok_ite (fun c101 => ?_) (fun c101 => ?_)
  · rw [if_pos c101] at e; cases e; exact ⟨_, rfl, rfl, h, ty0⟩
  · rw [if_neg c101] at e; cases e
theorem t131 {m f : Nat} {M0 M : xj_M} {T : xT_} (hS : xHS f) (h : xCX m M0 M T) {a0 : Nat} {a1 : Int} {a2 : Int} {R : Int × xT_} (ta1 : xin a1) (ta2 : xiN a2) (e : c131 f a0 a1 a2 T = some R) : xok (f131 f a0 a1 a2 M) (fun r => r.1 = R.1 ∧ xCX m M0 r.2 R.2 ∧ xin R.1) := by
  unfold c131 at e
  unfold f131
  obtain ⟨v102, q103, e⟩ := xbnd e
  refine xok_eqb (h.gr (by decide) (by decide) q103) ?_
  obtain ⟨v104, q105, e⟩ := xbnd e
  refine xok_eqb (h.ai (by decide) q105).1 ?_
  refine xok_ite (fun c106 => ?_) (fun c106 => ?_)
  · rw [if_pos c106] at e
    obtain ⟨v107, q108, e⟩ := xbnd e
    refine xok_eqb (h.gr (by decide) (by decide) q108) ?_
    obtain ⟨T110, q109, e⟩ := xbnd e
    obtain ⟨M111, q112, h113⟩ := h.sl ta2 q109
    refine xok_eqb q112 ?_
    obtain ⟨v114, q115, e⟩ := xbnd e
    refine xok_eqb (h113.gr (by decide) (by decide) q115) ?_
    obtain ⟨v116, q117, e⟩ := xbnd e
    refine xok_eqb (h113.ai (by decide) q117).1 ?_
    obtain ⟨T119, q118, e⟩ := xbnd e
    obtain ⟨M120, q121, h122⟩ := h113.si (xin_of _) q118
    refine xok_eqb q121 ?_
    cases e
    exact ⟨_, rfl, rfl, h122, (show xin (1) by decide)⟩
  · rw [if_neg c106] at e
    obtain ⟨v123, q124, e⟩ := xbnd e
    refine xok_eqb (h.gr (by decide) (by decide) q124) ?_
    obtain ⟨v125, q126, e⟩ := xbnd e
    refine xok_eqb (h.al q126).1 ?_
    refine xok_ite (fun c127 => ?_) (fun c127 => ?_)
    · rw [if_pos c127] at e
      exact t131_30  hS  h (show xin (0) by decide) e
    · rw [if_neg c127] at e
      exact t131_30  hS  h (show xin (1) by decide) e
-- ChangeHouse$Ways.hasMore
theorem t133_57 {m f : Nat} {M0 M : xj_M} {T : xT_} (hS : xHS f)   (h : xCX m M0 M T) {y0 : Int} {R : Int × xT_} (ty0 : xin y0) (e : c133_57  f y0 T = some R) : xok (f133_57  f y0 M) (fun r => r.1 = R.1 ∧ xCX m M0 r.2 R.2 ∧ xin R.1) := by
  unfold c133_57 at e
  unfold f133_57
  refine xok_ite (fun c101 => ?_) (fun c101 => ?_)
  · rw [if_pos c101] at e; cases e; exact ⟨_, rfl, rfl, h, ty0⟩
  · rw [if_neg c101] at e; cases e
theorem t133_49 {m f : Nat} {M0 M : xj_M} {T : xT_} (hS : xHS f)   (h : xCX m M0 M T) {y0 : Int} {R : Int × xT_} (ty0 : xin y0) (e : c133_49  f y0 T = some R) : xok (f133_49  f y0 M) (fun r => r.1 = R.1 ∧ xCX m M0 r.2 R.2 ∧ xin R.1) := by
  unfold c133_49 at e
  unfold f133_49
  refine xok_ite (fun c102 => ?_) (fun c102 => ?_)
  · rw [if_pos c102] at e
    exact t133_57  hS  h (show xin (0) by decide) e
  · rw [if_neg c102] at e
    exact t133_57  hS  h (show xin (1) by decide) e
theorem t133 {m f : Nat} {M0 M : xj_M} {T : xT_} (hS : xHS f) (h : xCX m M0 M T) {a0 : Nat} {R : Int × xT_}  (e : c133 f a0 T = some R) : xok (f133 f a0 M) (fun r => r.1 = R.1 ∧ xCX m M0 r.2 R.2 ∧ xin R.1) := by
  unfold c133 at e
  unfold f133
  obtain ⟨v103, q104, e⟩ := xbnd e
  refine xok_eqb (h.gr (by decide) (by decide) q104) ?_
  obtain ⟨v105, q106, e⟩ := xbnd e
  refine xok_eqb (h.gi (by decide) (by decide) q106).1 ?_
  obtain ⟨v107, q108, e⟩ := xbnd e
  refine xok_eqb (h.ai (by decide) q108).1 ?_
  obtain ⟨v109, q110, e⟩ := xbnd e
  refine xok_eqb (h.gr (by decide) (by decide) q110) ?_
  obtain ⟨v111, q112, e⟩ := xbnd e
  refine xok_eqb (h.gi (by decide) (by decide) q112).1 ?_
  obtain ⟨v113, q114, e⟩ := xbnd e
  refine xok_eqb (h.ai (by decide) q114).1 ?_
  obtain ⟨v115, q116, e⟩ := xbnd e
  refine xok_eqb (h.gi (by decide) (by decide) q116).1 ?_
  refine xok_ite (fun c117 => ?_) (fun c117 => ?_)
  · rw [if_pos c117] at e
    exact t133_49  hS  h (xin_of _) e
  · rw [if_neg c117] at e
    obtain ⟨v118, q119, e⟩ := xbnd e
    refine xok_eqb (h.gr (by decide) (by decide) q119) ?_
    obtain ⟨v120, q121, e⟩ := xbnd e
    refine xok_eqb (h.gr (by decide) (by decide) q121) ?_
    obtain ⟨v122, q123, e⟩ := xbnd e
    refine xok_eqb (h.gi (by decide) (by decide) q123).1 ?_
    obtain ⟨v124, q125, e⟩ := xbnd e
    refine xok_eqb (h.ai (by decide) q125).1 ?_
    exact t133_49  hS  h (xin_of _) e
-- ChangeHouse$Ways.findRange
theorem t134_129 {m f : Nat} {M0 M : xj_M} {T : xT_} (hS : xHS f)   (h : xCX m M0 M T) {x0 : Nat} {x1 : Int} {x2 : Int} {R : xT_} (tx1 : xin x1) (tx2 : xin x2) (e : c134_129  f x0 x1 x2 T = some R) : xok (f134_129  f x0 x1 x2 M) (fun r => xCX m M0 r R) := by
  unfold c134_129 at e
  unfold f134_129
  obtain ⟨v101, q102, e⟩ := xbnd e
  refine xok_eqb (h.gr (by decide) (by decide) q102) ?_
  obtain ⟨v103, q104, e⟩ := xbnd e
  refine xok_eqb (h.gr (by decide) (by decide) q104) ?_
  obtain ⟨v105, q106, e⟩ := xbnd e
  refine xok_eqb (h.gr (by decide) (by decide) q106) ?_
  obtain ⟨v107, q108, e⟩ := xbnd e
  refine xok_eqb (h.ai (by decide) q108).1 ?_
  obtain ⟨v109, q110, e⟩ := xbnd e
  refine xok_eqb (h.ar q110) ?_
  obtain ⟨v111, q112, e⟩ := xbnd e
  refine xok_eqb (h.gr (by decide) (by decide) q112) ?_
  obtain ⟨v113, q114, e⟩ := xbnd e
  refine xok_eqb (h.gi (by decide) (by decide) q114).1 ?_
  obtain ⟨v115, q116, e⟩ := xbnd e
  refine xok_eqb (h.gr (by decide) (by decide) q116) ?_
  obtain ⟨_, q122, e⟩ := xbnd e
  obtain ⟨R117, e118, e⟩ := xbnd e
  refine xok_eqb (h.is q122) ?_
  refine xok_call (t73 hS h tx2 (show xin (0) by decide) e118) ?_
  rintro ⟨v_, M119⟩ ⟨hv_, h120, hi121⟩
  cases hv_
  obtain ⟨T124, q123, e⟩ := xbnd e
  obtain ⟨M125, q126, h127⟩ := h120.si hi121 q123
  refine xok_eqb q126 ?_
  obtain ⟨v128, q129, e⟩ := xbnd e
  refine xok_eqb (h127.gr (by decide) (by decide) q129) ?_
  obtain ⟨v130, q131, e⟩ := xbnd e
  refine xok_eqb (h127.gi (by decide) (by decide) q131).1 ?_
  obtain ⟨v132, q133, e⟩ := xbnd e
  refine xok_eqb (h127.gr (by decide) (by decide) q133) ?_
  obtain ⟨_, q139, e⟩ := xbnd e
  obtain ⟨R134, e135, e⟩ := xbnd e
  refine xok_eqb (h127.is q139) ?_
  refine xok_call (t73 hS h127 tx2 (show xin (1) by decide) e135) ?_
  rintro ⟨v_, M136⟩ ⟨hv_, h137, hi138⟩
  cases hv_
  obtain ⟨T141, q140, e⟩ := xbnd e
  obtain ⟨M142, q143, h144⟩ := h137.si hi138 q140
  refine xok_eqb q143 ?_
  obtain ⟨v145, q146, e⟩ := xbnd e
  refine xok_eqb (h144.gr (by decide) (by decide) q146) ?_
  obtain ⟨v147, q148, e⟩ := xbnd e
  refine xok_eqb (h144.gi (by decide) (by decide) q148).1 ?_
  obtain ⟨v149, q150, e⟩ := xbnd e
  refine xok_eqb (h144.gr (by decide) (by decide) q150) ?_
  obtain ⟨v151, q152, e⟩ := xbnd e
  refine xok_eqb (h144.gi (by decide) (by decide) q152).1 ?_
  obtain ⟨v153, q154, e⟩ := xbnd e
  refine xok_eqb (h144.ai (by decide) q154).1 ?_
  obtain ⟨T156, q155, e⟩ := xbnd e
  obtain ⟨M157, q158, h159⟩ := h144.si (h144.ai (by decide) q154).2 q155
  refine xok_eqb q158 ?_
  cases e
  exact ⟨_, rfl, h159⟩
theorem t134_122 {m f : Nat} {M0 M : xj_M} {T : xT_} (hS : xHS f) {r2 : Nat → Int → Int → xT_ → Option (xT_)} {o2 : Nat → Int → Int → xj_M → Option (xj_M)} (hr2 : ∀ {M : xj_M} {T : xT_} {x0 : Nat} {x1 : Int} {x2 : Int} {R : xT_}, xCX m M0 M T → xin x1 → xin x2 → r2 x0 x1 x2 T = some R → xok (o2 x0 x1 x2 M) (fun r => xCX m M0 r R)) (h : xCX m M0 M T) {x0 : Nat} {x1 : Int} {x2 : Int} {y0 : Int} {y1 : Int} {y2 : Nat} {R : xT_} (tx1 : xin x1) (tx2 : xin x2) (ty0 : xiN y0) (ty1 : xin y1) (e : c134_122 r2 f x0 x1 x2 y0 y1 y2 T = some R) : xok (f134_122 o2 f x0 x1 x2 y0 y1 y2 M) (fun r => xCX m M0 r R) := by
  unfold c134_122 at e
  unfold f134_122
  obtain ⟨T161, q160, e⟩ := xbnd e
  obtain ⟨M162, q163, h164⟩ := h.sl ty0 q160
  refine xok_eqb q163 ?_
  exact hr2 h164 tx1 (xin_wr _) e
theorem t134_68 {m f : Nat} {M0 M : xj_M} {T : xT_} (hS : xHS f) {r2 : Nat → Int → Int → xT_ → Option (xT_)} {o2 : Nat → Int → Int → xj_M → Option (xj_M)} (hr2 : ∀ {M : xj_M} {T : xT_} {x0 : Nat} {x1 : Int} {x2 : Int} {R : xT_}, xCX m M0 M T → xin x1 → xin x2 → r2 x0 x1 x2 T = some R → xok (o2 x0 x1 x2 M) (fun r => xCX m M0 r R)) (h : xCX m M0 M T) {x0 : Nat} {x1 : Int} {x2 : Int} {x3 : Int} {x4 : Int} {y0 : Int} {R : xT_} (tx1 : xin x1) (tx2 : xin x2) (tx3 : xin x3) (tx4 : xin x4) (ty0 : xin y0) (e : c134_68 r2 f x0 x1 x2 x3 x4 y0 T = some R) : xok (f134_68 o2 f x0 x1 x2 x3 x4 y0 M) (fun r => xCX m M0 r R) := by
  unfold c134_68 at e
  unfold f134_68
  refine xok_ite (fun c165 => ?_) (fun c165 => ?_)
  · rw [if_pos c165] at e
    exact t134_129  hS  h tx1 tx2 e
  · rw [if_neg c165] at e
    refine xok_ite (fun c166 => ?_) (fun c166 => ?_)
    · rw [if_pos c166] at e
      obtain ⟨v167, q168, e⟩ := xbnd e
      refine xok_eqb (h.gr (by decide) (by decide) q168) ?_
      refine xok_ite (fun c169 => ?_) (fun c169 => ?_)
      · rw [if_pos c169] at e
        obtain ⟨v170, q171, e⟩ := xbnd e
        refine xok_eqb (h.gr (by decide) (by decide) q171) ?_
        obtain ⟨v172, q173, e⟩ := xbnd e
        refine xok_eqb (h.gr (by decide) (by decide) q173) ?_
        obtain ⟨v174, q175, e⟩ := xbnd e
        refine xok_eqb (h.al q175).1 ?_
        exact t134_122 (r2 := r2) (o2 := o2) hS @hr2 h tx1 tx2 (h.al q175).2 tx2 e
      · rw [if_neg c169] at e
        obtain ⟨v176, q177, e⟩ := xbnd e
        refine xok_eqb (h.gr (by decide) (by decide) q177) ?_
        obtain ⟨v178, q179, e⟩ := xbnd e
        refine xok_eqb (h.gr (by decide) (by decide) q179) ?_
        obtain ⟨v180, q181, e⟩ := xbnd e
        refine xok_eqb (h.gr (by decide) (by decide) q181) ?_
        obtain ⟨v182, q183, e⟩ := xbnd e
        refine xok_eqb (h.al q183).1 ?_
        obtain ⟨v184, q185, e⟩ := xbnd e
        refine xok_eqb (h.al q185).1 ?_
        exact t134_122 (r2 := r2) (o2 := o2) hS @hr2 h tx1 tx2 (h.al q185).2 tx2 e
    · rw [if_neg c166] at e
      exact t134_129  hS  h tx1 tx2 e
theorem t134_67 {m f : Nat} {M0 M : xj_M} {T : xT_} (hS : xHS f) {r2 : Nat → Int → Int → xT_ → Option (xT_)} {o2 : Nat → Int → Int → xj_M → Option (xj_M)} (hr2 : ∀ {M : xj_M} {T : xT_} {x0 : Nat} {x1 : Int} {x2 : Int} {R : xT_}, xCX m M0 M T → xin x1 → xin x2 → r2 x0 x1 x2 T = some R → xok (o2 x0 x1 x2 M) (fun r => xCX m M0 r R)) (h : xCX m M0 M T) {x0 : Nat} {x1 : Int} {x2 : Int} {x3 : Int} {x4 : Int} {R : xT_} (tx1 : xin x1) (tx2 : xin x2) (tx3 : xin x3) (tx4 : xin x4) (e : c134_67 r2 f x0 x1 x2 x3 x4 T = some R) : xok (f134_67 o2 f x0 x1 x2 x3 x4 M) (fun r => xCX m M0 r R) := by
  unfold c134_67 at e
  unfold f134_67
  exact t134_68 (r2 := r2) (o2 := o2) hS @hr2 h tx1 tx2 tx3 tx4 (show xin (0) by decide) e
theorem t134_2b {m f : Nat} {M0 M : xj_M} {T : xT_} (hS : xHS f) {r2 : Nat → Int → Int → xT_ → Option (xT_)} {o2 : Nat → Int → Int → xj_M → Option (xj_M)} (hr2 : ∀ {M : xj_M} {T : xT_} {x0 : Nat} {x1 : Int} {x2 : Int} {R : xT_}, xCX m M0 M T → xin x1 → xin x2 → r2 x0 x1 x2 T = some R → xok (o2 x0 x1 x2 M) (fun r => xCX m M0 r R)) (h : xCX m M0 M T) {x0 : Nat} {x1 : Int} {x2 : Int} {R : xT_} (tx1 : xin x1) (tx2 : xin x2) (e : c134_2b r2 f x0 x1 x2 T = some R) : xok (f134_2b o2 f x0 x1 x2 M) (fun r => xCX m M0 r R) := by
  unfold c134_2b at e
  unfold f134_2b
  obtain ⟨v186, q187, e⟩ := xbnd e
  refine xok_eqb (h.gr (by decide) (by decide) q187) ?_
  obtain ⟨v188, q189, e⟩ := xbnd e
  refine xok_eqb (h.gr (by decide) (by decide) q189) ?_
  obtain ⟨v190, q191, e⟩ := xbnd e
  refine xok_eqb (h.ai (by decide) q191).1 ?_
  refine xok_ite (fun c192 => ?_) (fun c192 => ?_)
  · rw [if_pos c192] at e
    exact t134_129  hS  h tx1 tx2 e
  · rw [if_neg c192] at e
    obtain ⟨v193, q194, e⟩ := xbnd e
    refine xok_eqb (h.gr (by decide) (by decide) q194) ?_
    obtain ⟨v195, q196, e⟩ := xbnd e
    refine xok_eqb (h.gr (by decide) (by decide) q196) ?_
    obtain ⟨v197, q198, e⟩ := xbnd e
    refine xok_eqb (h.ai (by decide) q198).1 ?_
    refine xok_ite (fun c199 => ?_) (fun c199 => ?_)
    · rw [if_pos c199] at e
      exact t134_67 (r2 := r2) (o2 := o2) hS @hr2 h tx1 tx2 (xin_wr _) (h.ai (by decide) q198).2 e
    · rw [if_neg c199] at e
      obtain ⟨v200, q201, e⟩ := xbnd e
      refine xok_eqb (h.gr (by decide) (by decide) q201) ?_
      obtain ⟨v202, q203, e⟩ := xbnd e
      refine xok_eqb (h.gi (by decide) (by decide) q203).1 ?_
      obtain ⟨v204, q205, e⟩ := xbnd e
      refine xok_eqb (h.ai (by decide) q205).1 ?_
      obtain ⟨v206, q207, e⟩ := xbnd e
      refine xok_eqb (h.gr (by decide) (by decide) q207) ?_
      obtain ⟨v208, q209, e⟩ := xbnd e
      refine xok_eqb (h.gr (by decide) (by decide) q209) ?_
      obtain ⟨v210, q211, e⟩ := xbnd e
      refine xok_eqb (h.al q211).1 ?_
      refine xok_ite (fun c212 => ?_) (fun c212 => ?_)
      · rw [if_pos c212] at e
        exact t134_67 (r2 := r2) (o2 := o2) hS @hr2 h tx1 tx2 (xin_wr _) (h.ai (by decide) q198).2 e
      · rw [if_neg c212] at e
        exact t134_68 (r2 := r2) (o2 := o2) hS @hr2 h tx1 tx2 (xin_wr _) (h.ai (by decide) q198).2 (show xin (1) by decide) e
theorem t134_2 {m f : Nat} {M0 : xj_M} (hS : xHS f)   : ∀ {n : Nat} {M : xj_M} {T : xT_} {x0 : Nat} {x1 : Int} {x2 : Int} {R : xT_}, xCX m M0 M T → xin x1 → xin x2 → c134_2  f n x0 x1 x2 T = some R → xok (f134_2  f n x0 x1 x2 M) (fun r => xCX m M0 r R) := by
  intro n
  induction n with
  | zero => intros; rename_i e; cases e
  | succ n ih =>
    intros
    rename_i h i0 i1 e
    exact t134_2b hS  @ih h i0 i1 e
theorem t134 {m f : Nat} {M0 M : xj_M} {T : xT_} (hS : xHS f) (h : xCX m M0 M T) {a0 : Nat} {a1 : Int} {R : xT_} (ta1 : xin a1) (e : c134 f a0 a1 T = some R) : xok (f134 f a0 a1 M) (fun r => xCX m M0 r R) := by
  unfold c134 at e
  unfold f134
  exact t134_2  hS  h ta1 (show xin (0) by decide) e
-- ChangeHouse$Ways.match
theorem t136_41 {m f : Nat} {M0 M : xj_M} {T : xT_} (hS : xHS f)   (h : xCX m M0 M T)  {R : Int × xT_}  (e : c136_41  f  T = some R) : xok (f136_41  f  M) (fun r => r.1 = R.1 ∧ xCX m M0 r.2 R.2 ∧ xin R.1) := by
  unfold c136_41 at e
  unfold f136_41
  cases e
  exact ⟨_, rfl, rfl, h, (show xin (-1) by decide)⟩
theorem t136_172 {m f : Nat} {M0 M : xj_M} {T : xT_} (hS : xHS f) {r46 : Nat → Int → Nat → Int → Int → Int → xT_ → Option (Int × xT_)} {o46 : Nat → Int → Nat → Int → Int → Int → xj_M → Option (Int × xj_M)} (hr46 : ∀ {M : xj_M} {T : xT_} {x0 : Nat} {x1 : Int} {x2 : Nat} {x3 : Int} {x4 : Int} {x5 : Int} {R : Int × xT_}, xCX m M0 M T → xin x1 → xin x3 → xin x4 → xin x5 → r46 x0 x1 x2 x3 x4 x5 T = some R → xok (o46 x0 x1 x2 x3 x4 x5 M) (fun r => r.1 = R.1 ∧ xCX m M0 r.2 R.2 ∧ xin R.1)) (h : xCX m M0 M T) {x0 : Nat} {x1 : Int} {x2 : Nat} {x3 : Int} {x4 : Int} {x5 : Int} {R : Int × xT_} (tx1 : xin x1) (tx3 : xin x3) (tx4 : xin x4) (tx5 : xin x5) (e : c136_172 r46 f x0 x1 x2 x3 x4 x5 T = some R) : xok (f136_172 o46 f x0 x1 x2 x3 x4 x5 M) (fun r => r.1 = R.1 ∧ xCX m M0 r.2 R.2 ∧ xin R.1) := by
  unfold c136_172 at e
  unfold f136_172
  exact hr46 h tx1 tx3 tx4 (xin_wr _) e
theorem t136_154 {m f : Nat} {M0 M : xj_M} {T : xT_} (hS : xHS f) {r46 : Nat → Int → Nat → Int → Int → Int → xT_ → Option (Int × xT_)} {o46 : Nat → Int → Nat → Int → Int → Int → xj_M → Option (Int × xj_M)} (hr46 : ∀ {M : xj_M} {T : xT_} {x0 : Nat} {x1 : Int} {x2 : Nat} {x3 : Int} {x4 : Int} {x5 : Int} {R : Int × xT_}, xCX m M0 M T → xin x1 → xin x3 → xin x4 → xin x5 → r46 x0 x1 x2 x3 x4 x5 T = some R → xok (o46 x0 x1 x2 x3 x4 x5 M) (fun r => r.1 = R.1 ∧ xCX m M0 r.2 R.2 ∧ xin R.1)) (h : xCX m M0 M T) {x0 : Nat} {x1 : Int} {x2 : Nat} {x3 : Int} {x4 : Int} {x5 : Int} {x9 : Int} {x11 : Int} {R : Int × xT_} (tx1 : xin x1) (tx3 : xin x3) (tx4 : xin x4) (tx5 : xin x5) (tx9 : xiN x9) (tx11 : xin x11) (e : c136_154 r46 f x0 x1 x2 x3 x4 x5 x9 x11 T = some R) : xok (f136_154 o46 f x0 x1 x2 x3 x4 x5 x9 x11 M) (fun r => r.1 = R.1 ∧ xCX m M0 r.2 R.2 ∧ xin R.1) := by
  unfold c136_154 at e
  unfold f136_154
  obtain ⟨v101, q102, e⟩ := xbnd e
  refine xok_eqb (h.gr (by decide) (by decide) q102) ?_
  obtain ⟨T104, q103, e⟩ := xbnd e
  obtain ⟨M105, q106, h107⟩ := h.sl tx9 q103
  refine xok_eqb q106 ?_
  exact t136_172 (r46 := r46) (o46 := o46) hS @hr46 h107 tx1 tx3 (xin_of _) tx5 e
theorem t136_117 {m f : Nat} {M0 M : xj_M} {T : xT_} (hS : xHS f) {r46 : Nat → Int → Nat → Int → Int → Int → xT_ → Option (Int × xT_)} {o46 : Nat → Int → Nat → Int → Int → Int → xj_M → Option (Int × xj_M)} (hr46 : ∀ {M : xj_M} {T : xT_} {x0 : Nat} {x1 : Int} {x2 : Nat} {x3 : Int} {x4 : Int} {x5 : Int} {R : Int × xT_}, xCX m M0 M T → xin x1 → xin x3 → xin x4 → xin x5 → r46 x0 x1 x2 x3 x4 x5 T = some R → xok (o46 x0 x1 x2 x3 x4 x5 M) (fun r => r.1 = R.1 ∧ xCX m M0 r.2 R.2 ∧ xin R.1)) (h : xCX m M0 M T) {x0 : Nat} {x1 : Int} {x2 : Nat} {x3 : Int} {x4 : Int} {x5 : Int} {x6 : Int} {x7 : Int} {x9 : Int} {R : Int × xT_} (tx1 : xin x1) (tx3 : xin x3) (tx4 : xin x4) (tx5 : xin x5) (tx6 : xin x6) (tx7 : xiN x7) (tx9 : xiN x9) (e : c136_117 r46 f x0 x1 x2 x3 x4 x5 x6 x7 x9 T = some R) : xok (f136_117 o46 f x0 x1 x2 x3 x4 x5 x6 x7 x9 M) (fun r => r.1 = R.1 ∧ xCX m M0 r.2 R.2 ∧ xin R.1) := by
  unfold c136_117 at e
  unfold f136_117
  refine xok_ite (fun c108 => ?_) (fun c108 => ?_)
  · rw [if_pos c108] at e
    exact t136_172 (r46 := r46) (o46 := o46) hS @hr46 h tx1 tx3 tx4 tx5 e
  · rw [if_neg c108] at e
    refine xok_ite (fun c109 => ?_) (fun c109 => ?_)
    · rw [if_pos c109] at e
      exact t136_154 (r46 := r46) (o46 := o46) hS @hr46 h tx1 tx3 tx4 tx5 tx9 (xin_wr _) e
    · rw [if_neg c109] at e
      obtain ⟨v110, q111, e⟩ := xbnd e
      refine xok_eqb (h.gr (by decide) (by decide) q111) ?_
      obtain ⟨v112, q113, e⟩ := xbnd e
      refine xok_eqb (h.al q113).1 ?_
      refine xok_ite (fun c114 => ?_) (fun c114 => ?_)
      · rw [if_pos c114] at e
        exact t136_154 (r46 := r46) (o46 := o46) hS @hr46 h tx1 tx3 tx4 tx5 tx9 (xin_wr _) e
      · rw [if_neg c114] at e
        cases e
        exact ⟨_, rfl, rfl, h, (show xin (-1) by decide)⟩
theorem t136_46b {m f : Nat} {M0 M : xj_M} {T : xT_} (hS : xHS f) {r46 : Nat → Int → Nat → Int → Int → Int → xT_ → Option (Int × xT_)} {o46 : Nat → Int → Nat → Int → Int → Int → xj_M → Option (Int × xj_M)} (hr46 : ∀ {M : xj_M} {T : xT_} {x0 : Nat} {x1 : Int} {x2 : Nat} {x3 : Int} {x4 : Int} {x5 : Int} {R : Int × xT_}, xCX m M0 M T → xin x1 → xin x3 → xin x4 → xin x5 → r46 x0 x1 x2 x3 x4 x5 T = some R → xok (o46 x0 x1 x2 x3 x4 x5 M) (fun r => r.1 = R.1 ∧ xCX m M0 r.2 R.2 ∧ xin R.1)) (h : xCX m M0 M T) {x0 : Nat} {x1 : Int} {x2 : Nat} {x3 : Int} {x4 : Int} {x5 : Int} {R : Int × xT_} (tx1 : xin x1) (tx3 : xin x3) (tx4 : xin x4) (tx5 : xin x5) (e : c136_46b r46 f x0 x1 x2 x3 x4 x5 T = some R) : xok (f136_46b o46 f x0 x1 x2 x3 x4 x5 M) (fun r => r.1 = R.1 ∧ xCX m M0 r.2 R.2 ∧ xin R.1) := by
  unfold c136_46b at e
  unfold f136_46b
  obtain ⟨v115, q116, e⟩ := xbnd e
  refine xok_eqb (h.gr (by decide) (by decide) q116) ?_
  obtain ⟨v117, q118, e⟩ := xbnd e
  refine xok_eqb (h.gr (by decide) (by decide) q118) ?_
  obtain ⟨v119, q120, e⟩ := xbnd e
  refine xok_eqb (h.ai (by decide) q120).1 ?_
  refine xok_ite (fun c121 => ?_) (fun c121 => ?_)
  · rw [if_pos c121] at e
    cases e
    exact ⟨_, rfl, rfl, h, tx4⟩
  · rw [if_neg c121] at e
    obtain ⟨v122, q123, e⟩ := xbnd e
    refine xok_eqb (h.gr (by decide) (by decide) q123) ?_
    obtain ⟨v124, q125, e⟩ := xbnd e
    refine xok_eqb (h.gr (by decide) (by decide) q125) ?_
    obtain ⟨v126, q127, e⟩ := xbnd e
    refine xok_eqb (h.ai (by decide) q127).1 ?_
    obtain ⟨v128, q129, e⟩ := xbnd e
    refine xok_eqb (h.gr (by decide) (by decide) q129) ?_
    obtain ⟨v130, q131, e⟩ := xbnd e
    refine xok_eqb (h.gr (by decide) (by decide) q131) ?_
    obtain ⟨v132, q133, e⟩ := xbnd e
    refine xok_eqb (h.al q133).1 ?_
    obtain ⟨_, q139, e⟩ := xbnd e
    obtain ⟨R134, e135, e⟩ := xbnd e
    refine xok_eqb (h.is q139) ?_
    refine xok_call (t70 hS h tx3 tx5 e135) ?_
    rintro ⟨v_, M136⟩ ⟨hv_, h137, hi138⟩
    cases hv_
    refine xok_ite (fun c140 => ?_) (fun c140 => ?_)
    · rw [if_pos c140] at e
      exact t136_117 (r46 := r46) (o46 := o46) hS @hr46 h137 tx1 tx3 tx4 tx5 (h.ai (by decide) q127).2 (h.al q133).2 hi138 e
    · rw [if_neg c140] at e
      refine xok_ite (fun c141 => ?_) (fun c141 => ?_)
      · rw [if_pos c141] at e
        exact t136_117 (r46 := r46) (o46 := o46) hS @hr46 h137 tx1 tx3 tx4 tx5 (h.ai (by decide) q127).2 (h.al q133).2 hi138 e
      · rw [if_neg c141] at e
        cases e
        exact ⟨_, rfl, rfl, h137, (show xin (-1) by decide)⟩
theorem t136_46 {m f : Nat} {M0 : xj_M} (hS : xHS f)   : ∀ {n : Nat} {M : xj_M} {T : xT_} {x0 : Nat} {x1 : Int} {x2 : Nat} {x3 : Int} {x4 : Int} {x5 : Int} {R : Int × xT_}, xCX m M0 M T → xin x1 → xin x3 → xin x4 → xin x5 → c136_46  f n x0 x1 x2 x3 x4 x5 T = some R → xok (f136_46  f n x0 x1 x2 x3 x4 x5 M) (fun r => r.1 = R.1 ∧ xCX m M0 r.2 R.2 ∧ xin R.1) := by
  intro n
  induction n with
  | zero => intros; rename_i e; cases e
  | succ n ih =>
    intros
    rename_i h i0 i1 i2 i3 e
    exact t136_46b hS  @ih h i0 i1 i2 i3 e
theorem t136 {m f : Nat} {M0 M : xj_M} {T : xT_} (hS : xHS f) (h : xCX m M0 M T) {a0 : Nat} {a1 : Int} {a2 : Nat} {a3 : Int} {R : Int × xT_} (ta1 : xin a1) (ta3 : xin a3) (e : c136 f a0 a1 a2 a3 T = some R) : xok (f136 f a0 a1 a2 a3 M) (fun r => r.1 = R.1 ∧ xCX m M0 r.2 R.2 ∧ xin R.1) := by
  unfold c136 at e
  unfold f136
  obtain ⟨v142, q143, e⟩ := xbnd e
  refine xok_eqb (h.gr (by decide) (by decide) q143) ?_
  obtain ⟨v144, q145, e⟩ := xbnd e
  refine xok_eqb (h.gi (by decide) (by decide) q145).1 ?_
  obtain ⟨v146, q147, e⟩ := xbnd e
  refine xok_eqb (h.ai (by decide) q147).1 ?_
  obtain ⟨v148, q149, e⟩ := xbnd e
  refine xok_eqb (h.gr (by decide) (by decide) q149) ?_
  obtain ⟨v150, q151, e⟩ := xbnd e
  refine xok_eqb (h.ai (by decide) q151).1 ?_
  obtain ⟨v152, q153, e⟩ := xbnd e
  refine xok_eqb (h.gr (by decide) (by decide) q153) ?_
  obtain ⟨v154, q155, e⟩ := xbnd e
  refine xok_eqb (h.ai (by decide) q155).1 ?_
  refine xok_ite (fun c156 => ?_) (fun c156 => ?_)
  · rw [if_pos c156] at e
    exact t136_41  hS  h  e
  · rw [if_neg c156] at e
    obtain ⟨v157, q158, e⟩ := xbnd e
    refine xok_eqb (h.gr (by decide) (by decide) q158) ?_
    obtain ⟨v159, q160, e⟩ := xbnd e
    refine xok_eqb (h.ai (by decide) q160).1 ?_
    obtain ⟨v161, q162, e⟩ := xbnd e
    refine xok_eqb (h.gr (by decide) (by decide) q162) ?_
    obtain ⟨v163, q164, e⟩ := xbnd e
    refine xok_eqb (h.ai (by decide) q164).1 ?_
    refine xok_ite (fun c165 => ?_) (fun c165 => ?_)
    · rw [if_pos c165] at e
      exact t136_46  hS  h ta1 ta3 (h.ai (by decide) q147).2 (show xin (0) by decide) e
    · rw [if_neg c165] at e
      exact t136_41  hS  h  e
