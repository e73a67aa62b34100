/-! The class over its cells as functions (written by mk_c.py) -/
-- ChangeHouse$Works.gather
theorem t157_179 {m f : Nat} {M0 M : xj_M} {T : xT_} (hS : xHS f) {r4 : Nat → Nat → Int → Int → xT_ → Option (Int × xT_)} {o4 : Nat → Nat → Int → Int → xj_M → Option (Int × xj_M)} {r43 : Nat → Nat → Int → Int → Int → xT_ → Option (Int × xT_)} {o43 : Nat → Nat → Int → Int → Int → xj_M → Option (Int × xj_M)} (hr4 : ∀ {M : xj_M} {T : xT_} {x0 : Nat} {x1 : Nat} {x2 : Int} {x3 : Int} {R : Int × xT_}, xCX m M0 M T → xin x2 → xin x3 → r4 x0 x1 x2 x3 T = some R → xok (o4 x0 x1 x2 x3 M) (fun r => r.1 = R.1 ∧ xCX m M0 r.2 R.2 ∧ xin R.1)) (hr43 : ∀ {M : xj_M} {T : xT_} {x0 : Nat} {x1 : Nat} {x2 : Int} {x3 : Int} {x4 : Int} {R : Int × xT_}, xCX m M0 M T → xin x2 → xin x3 → xin x4 → r43 x0 x1 x2 x3 x4 T = some R → xok (o43 x0 x1 x2 x3 x4 M) (fun r => r.1 = R.1 ∧ xCX m M0 r.2 R.2 ∧ xin R.1)) (h : xCX m M0 M T) {x0 : Nat} {x1 : Nat} {x2 : Int} {x3 : Int} {x4 : Int} {R : Int × xT_} (tx2 : xin x2) (tx3 : xin x3) (tx4 : xin x4) (e : c157_179 r4 r43 f x0 x1 x2 x3 x4 T = some R) : xok (f157_179 o4 o43 f x0 x1 x2 x3 x4 M) (fun r => r.1 = R.1 ∧ xCX m M0 r.2 R.2 ∧ xin R.1) := by
  unfold c157_179 at e
  unfold f157_179
  exact hr43 h tx2 tx3 (xin_wr _) e
theorem t157_162 {m f : Nat} {M0 M : xj_M} {T : xT_} (hS : xHS f) {r4 : Nat → Nat → Int → Int → xT_ → Option (Int × xT_)} {o4 : Nat → Nat → Int → Int → xj_M → Option (Int × xj_M)} {r43 : Nat → Nat → Int → Int → Int → xT_ → Option (Int × xT_)} {o43 : Nat → Nat → Int → Int → Int → xj_M → Option (Int × xj_M)} (hr4 : ∀ {M : xj_M} {T : xT_} {x0 : Nat} {x1 : Nat} {x2 : Int} {x3 : Int} {R : Int × xT_}, xCX m M0 M T → xin x2 → xin x3 → r4 x0 x1 x2 x3 T = some R → xok (o4 x0 x1 x2 x3 M) (fun r => r.1 = R.1 ∧ xCX m M0 r.2 R.2 ∧ xin R.1)) (hr43 : ∀ {M : xj_M} {T : xT_} {x0 : Nat} {x1 : Nat} {x2 : Int} {x3 : Int} {x4 : Int} {R : Int × xT_}, xCX m M0 M T → xin x2 → xin x3 → xin x4 → r43 x0 x1 x2 x3 x4 T = some R → xok (o43 x0 x1 x2 x3 x4 M) (fun r => r.1 = R.1 ∧ xCX m M0 r.2 R.2 ∧ xin R.1)) (h : xCX m M0 M T) {x0 : Nat} {x1 : Nat} {x3 : Int} {x4 : Int} {y0 : Int} {y1 : Int} {R : Int × xT_} (tx3 : xin x3) (tx4 : xin x4) (ty0 : xin y0) (ty1 : xin y1) (e : c157_162 r4 r43 f x0 x1 x3 x4 y0 y1 T = some R) : xok (f157_162 o4 o43 f x0 x1 x3 x4 y0 y1 M) (fun r => r.1 = R.1 ∧ xCX m M0 r.2 R.2 ∧ xin R.1) := by
  unfold c157_162 at e
  unfold f157_162
  refine xok_ite (fun c101 => ?_) (fun c101 => ?_)
  · rw [if_pos c101] at e
    exact t157_179 (r4 := r4) (o4 := o4) (r43 := r43) (o43 := o43) hS @hr4 @hr43 h (xin_of _) tx3 tx4 e
  · rw [if_neg c101] at e
    obtain ⟨v102, q103, e⟩ := xbnd e
    refine xok_eqb (h.gi (by decide) (by decide) q103).1 ?_
    refine xok_ite (fun c104 => ?_) (fun c104 => ?_)
    · rw [if_pos c104] at e
      exact t157_179 (r4 := r4) (o4 := o4) (r43 := r43) (o43 := o43) hS @hr4 @hr43 h (xin_of _) tx3 tx4 e
    · rw [if_neg c104] at e
      cases e
      exact ⟨_, rfl, rfl, h, (show xin (0) by decide)⟩
theorem t157_146 {m f : Nat} {M0 M : xj_M} {T : xT_} (hS : xHS f) {r4 : Nat → Nat → Int → Int → xT_ → Option (Int × xT_)} {o4 : Nat → Nat → Int → Int → xj_M → Option (Int × xj_M)} {r43 : Nat → Nat → Int → Int → Int → xT_ → Option (Int × xT_)} {o43 : Nat → Nat → Int → Int → Int → xj_M → Option (Int × xj_M)} (hr4 : ∀ {M : xj_M} {T : xT_} {x0 : Nat} {x1 : Nat} {x2 : Int} {x3 : Int} {R : Int × xT_}, xCX m M0 M T → xin x2 → xin x3 → r4 x0 x1 x2 x3 T = some R → xok (o4 x0 x1 x2 x3 M) (fun r => r.1 = R.1 ∧ xCX m M0 r.2 R.2 ∧ xin R.1)) (hr43 : ∀ {M : xj_M} {T : xT_} {x0 : Nat} {x1 : Nat} {x2 : Int} {x3 : Int} {x4 : Int} {R : Int × xT_}, xCX m M0 M T → xin x2 → xin x3 → xin x4 → r43 x0 x1 x2 x3 x4 T = some R → xok (o43 x0 x1 x2 x3 x4 M) (fun r => r.1 = R.1 ∧ xCX m M0 r.2 R.2 ∧ xin R.1)) (h : xCX m M0 M T) {x0 : Nat} {x1 : Nat} {x2 : Int} {x3 : Int} {x4 : Int} {x5 : Int} {R : Int × xT_} (tx2 : xin x2) (tx3 : xin x3) (tx4 : xin x4) (tx5 : xiN x5) (e : c157_146 r4 r43 f x0 x1 x2 x3 x4 x5 T = some R) : xok (f157_146 o4 o43 f x0 x1 x2 x3 x4 x5 M) (fun r => r.1 = R.1 ∧ xCX m M0 r.2 R.2 ∧ xin R.1) := by
  unfold c157_146 at e
  unfold f157_146
  obtain ⟨_, q110, e⟩ := xbnd e
  obtain ⟨R105, e106, e⟩ := xbnd e
  refine xok_eqb (h.is q110) ?_
  refine xok_call (t159 hS h tx5 e106) ?_
  rintro ⟨v_, M107⟩ ⟨hv_, h108, hi109⟩
  cases hv_
  refine xok_ite (fun c111 => ?_) (fun c111 => ?_)
  · rw [if_pos c111] at e
    exact t157_162 (r4 := r4) (o4 := o4) (r43 := r43) (o43 := o43) hS @hr4 @hr43 h108 tx3 tx4 (show xin (0) by decide) tx2 e
  · rw [if_neg c111] at e
    exact t157_162 (r4 := r4) (o4 := o4) (r43 := r43) (o43 := o43) hS @hr4 @hr43 h108 tx3 tx4 (show xin (1) by decide) tx2 e
theorem t157_110 {m f : Nat} {M0 M : xj_M} {T : xT_} (hS : xHS f) {r4 : Nat → Nat → Int → Int → xT_ → Option (Int × xT_)} {o4 : Nat → Nat → Int → Int → xj_M → Option (Int × xj_M)} {r43 : Nat → Nat → Int → Int → Int → xT_ → Option (Int × xT_)} {o43 : Nat → Nat → Int → Int → Int → xj_M → Option (Int × xj_M)} (hr4 : ∀ {M : xj_M} {T : xT_} {x0 : Nat} {x1 : Nat} {x2 : Int} {x3 : Int} {R : Int × xT_}, xCX m M0 M T → xin x2 → xin x3 → r4 x0 x1 x2 x3 T = some R → xok (o4 x0 x1 x2 x3 M) (fun r => r.1 = R.1 ∧ xCX m M0 r.2 R.2 ∧ xin R.1)) (hr43 : ∀ {M : xj_M} {T : xT_} {x0 : Nat} {x1 : Nat} {x2 : Int} {x3 : Int} {x4 : Int} {R : Int × xT_}, xCX m M0 M T → xin x2 → xin x3 → xin x4 → r43 x0 x1 x2 x3 x4 T = some R → xok (o43 x0 x1 x2 x3 x4 M) (fun r => r.1 = R.1 ∧ xCX m M0 r.2 R.2 ∧ xin R.1)) (h : xCX m M0 M T) {x0 : Nat} {x1 : Nat} {x2 : Int} {x3 : Int} {x4 : Int} {x5 : Int} {y0 : Int} {R : Int × xT_} (tx2 : xin x2) (tx3 : xin x3) (tx4 : xin x4) (tx5 : xiN x5) (ty0 : xin y0) (e : c157_110 r4 r43 f x0 x1 x2 x3 x4 x5 y0 T = some R) : xok (f157_110 o4 o43 f x0 x1 x2 x3 x4 x5 y0 M) (fun r => r.1 = R.1 ∧ xCX m M0 r.2 R.2 ∧ xin R.1) := by
  unfold c157_110 at e
  unfold f157_110
  refine xok_ite (fun c112 => ?_) (fun c112 => ?_)
  · rw [if_pos c112] at e
    exact t157_179 (r4 := r4) (o4 := o4) (r43 := r43) (o43 := o43) hS @hr4 @hr43 h tx2 tx3 tx4 e
  · rw [if_neg c112] at e
    obtain ⟨v113, q114, e⟩ := xbnd e
    refine xok_eqb (h.gr (by decide) (by decide) q114) ?_
    obtain ⟨v115, q116, e⟩ := xbnd e
    refine xok_eqb (h.gr (by decide) (by decide) q116) ?_
    obtain ⟨_, q122, e⟩ := xbnd e
    obtain ⟨R117, e118, e⟩ := xbnd e
    refine xok_eqb (h.is q122) ?_
    refine xok_call (t142 hS h  e118) ?_
    rintro ⟨v_, M119⟩ ⟨hv_, h120, hi121⟩
    cases hv_
    refine xok_ite (fun c123 => ?_) (fun c123 => ?_)
    · rw [if_pos c123] at e
      exact t157_179 (r4 := r4) (o4 := o4) (r43 := r43) (o43 := o43) hS @hr4 @hr43 h120 tx2 tx3 tx4 e
    · rw [if_neg c123] at e
      refine xok_ite (fun c124 => ?_) (fun c124 => ?_)
      · rw [if_pos c124] at e
        exact t157_146 (r4 := r4) (o4 := o4) (r43 := r43) (o43 := o43) hS @hr4 @hr43 h120 tx2 tx3 tx4 tx5 e
      · rw [if_neg c124] at e
        obtain ⟨v125, q126, e⟩ := xbnd e
        refine xok_eqb (h120.gi (by decide) (by decide) q126).1 ?_
        obtain ⟨_, q132, e⟩ := xbnd e
        obtain ⟨R127, e128, e⟩ := xbnd e
        refine xok_eqb (h120.is q132) ?_
        refine xok_call (t158 hS h120 (h120.gi (by decide) (by decide) q126).2 e128) ?_
        rintro ⟨v_, M129⟩ ⟨hv_, h130, hi131⟩
        cases hv_
        refine xok_ite (fun c133 => ?_) (fun c133 => ?_)
        · rw [if_pos c133] at e
          exact t157_179 (r4 := r4) (o4 := o4) (r43 := r43) (o43 := o43) hS @hr4 @hr43 h130 tx2 tx3 tx4 e
        · rw [if_neg c133] at e
          exact t157_146 (r4 := r4) (o4 := o4) (r43 := r43) (o43 := o43) hS @hr4 @hr43 h130 tx2 tx3 tx4 tx5 e
theorem t157_109 {m f : Nat} {M0 M : xj_M} {T : xT_} (hS : xHS f) {r4 : Nat → Nat → Int → Int → xT_ → Option (Int × xT_)} {o4 : Nat → Nat → Int → Int → xj_M → Option (Int × xj_M)} {r43 : Nat → Nat → Int → Int → Int → xT_ → Option (Int × xT_)} {o43 : Nat → Nat → Int → Int → Int → xj_M → Option (Int × xj_M)} (hr4 : ∀ {M : xj_M} {T : xT_} {x0 : Nat} {x1 : Nat} {x2 : Int} {x3 : Int} {R : Int × xT_}, xCX m M0 M T → xin x2 → xin x3 → r4 x0 x1 x2 x3 T = some R → xok (o4 x0 x1 x2 x3 M) (fun r => r.1 = R.1 ∧ xCX m M0 r.2 R.2 ∧ xin R.1)) (hr43 : ∀ {M : xj_M} {T : xT_} {x0 : Nat} {x1 : Nat} {x2 : Int} {x3 : Int} {x4 : Int} {R : Int × xT_}, xCX m M0 M T → xin x2 → xin x3 → xin x4 → r43 x0 x1 x2 x3 x4 T = some R → xok (o43 x0 x1 x2 x3 x4 M) (fun r => r.1 = R.1 ∧ xCX m M0 r.2 R.2 ∧ xin R.1)) (h : xCX m M0 M T) {x0 : Nat} {x1 : Nat} {x2 : Int} {x3 : Int} {x4 : Int} {x5 : Int} {R : Int × xT_} (tx2 : xin x2) (tx3 : xin x3) (tx4 : xin x4) (tx5 : xiN x5) (e : c157_109 r4 r43 f x0 x1 x2 x3 x4 x5 T = some R) : xok (f157_109 o4 o43 f x0 x1 x2 x3 x4 x5 M) (fun r => r.1 = R.1 ∧ xCX m M0 r.2 R.2 ∧ xin R.1) := by
  unfold c157_109 at e
  unfold f157_109
  exact t157_110 (r4 := r4) (o4 := o4) (r43 := r43) (o43 := o43) hS @hr4 @hr43 h tx2 tx3 tx4 tx5 (show xin (0) by decide) e
theorem t157_85 {m f : Nat} {M0 M : xj_M} {T : xT_} (hS : xHS f) {r4 : Nat → Nat → Int → Int → xT_ → Option (Int × xT_)} {o4 : Nat → Nat → Int → Int → xj_M → Option (Int × xj_M)} {r43 : Nat → Nat → Int → Int → Int → xT_ → Option (Int × xT_)} {o43 : Nat → Nat → Int → Int → Int → xj_M → Option (Int × xj_M)} (hr4 : ∀ {M : xj_M} {T : xT_} {x0 : Nat} {x1 : Nat} {x2 : Int} {x3 : Int} {R : Int × xT_}, xCX m M0 M T → xin x2 → xin x3 → r4 x0 x1 x2 x3 T = some R → xok (o4 x0 x1 x2 x3 M) (fun r => r.1 = R.1 ∧ xCX m M0 r.2 R.2 ∧ xin R.1)) (hr43 : ∀ {M : xj_M} {T : xT_} {x0 : Nat} {x1 : Nat} {x2 : Int} {x3 : Int} {x4 : Int} {R : Int × xT_}, xCX m M0 M T → xin x2 → xin x3 → xin x4 → r43 x0 x1 x2 x3 x4 T = some R → xok (o43 x0 x1 x2 x3 x4 M) (fun r => r.1 = R.1 ∧ xCX m M0 r.2 R.2 ∧ xin R.1)) (h : xCX m M0 M T) {x0 : Nat} {x1 : Nat} {x2 : Int} {x3 : Int} {x4 : Int} {y0 : Int} {R : Int × xT_} (tx2 : xin x2) (tx3 : xin x3) (tx4 : xin x4) (ty0 : xiN y0) (e : c157_85 r4 r43 f x0 x1 x2 x3 x4 y0 T = some R) : xok (f157_85 o4 o43 f x0 x1 x2 x3 x4 y0 M) (fun r => r.1 = R.1 ∧ xCX m M0 r.2 R.2 ∧ xin R.1) := by
  unfold c157_85 at e
  unfold f157_85
  obtain ⟨v134, q135, e⟩ := xbnd e
  refine xok_eqb (h.gi (by decide) (by decide) q135).1 ?_
  refine xok_ite (fun c136 => ?_) (fun c136 => ?_)
  · rw [if_pos c136] at e
    exact t157_109 (r4 := r4) (o4 := o4) (r43 := r43) (o43 := o43) hS @hr4 @hr43 h tx2 tx3 tx4 ty0 e
  · rw [if_neg c136] at e
    refine xok_ite (fun c137 => ?_) (fun c137 => ?_)
    · rw [if_pos c137] at e
      exact t157_109 (r4 := r4) (o4 := o4) (r43 := r43) (o43 := o43) hS @hr4 @hr43 h tx2 tx3 tx4 ty0 e
    · rw [if_neg c137] at e
      exact t157_110 (r4 := r4) (o4 := o4) (r43 := r43) (o43 := o43) hS @hr4 @hr43 h tx2 tx3 tx4 ty0 (show xin (1) by decide) e
theorem t157_185 {m f : Nat} {M0 M : xj_M} {T : xT_} (hS : xHS f) {r4 : Nat → Nat → Int → Int → xT_ → Option (Int × xT_)} {o4 : Nat → Nat → Int → Int → xj_M → Option (Int × xj_M)} (hr4 : ∀ {M : xj_M} {T : xT_} {x0 : Nat} {x1 : Nat} {x2 : Int} {x3 : Int} {R : Int × xT_}, xCX m M0 M T → xin x2 → xin x3 → r4 x0 x1 x2 x3 T = some R → xok (o4 x0 x1 x2 x3 M) (fun r => r.1 = R.1 ∧ xCX m M0 r.2 R.2 ∧ xin R.1)) (h : xCX m M0 M T) {x0 : Nat} {x1 : Nat} {x2 : Int} {x3 : Int} {R : Int × xT_} (tx2 : xin x2) (tx3 : xin x3) (e : c157_185 r4 f x0 x1 x2 x3 T = some R) : xok (f157_185 o4 f x0 x1 x2 x3 M) (fun r => r.1 = R.1 ∧ xCX m M0 r.2 R.2 ∧ xin R.1) := by
  unfold c157_185 at e
  unfold f157_185
  obtain ⟨_, q143, e⟩ := xbnd e
  obtain ⟨R138, e139, e⟩ := xbnd e
  refine xok_eqb (h.is q143) ?_
  refine xok_call (t161 hS h  e139) ?_
  rintro ⟨v_, M140⟩ ⟨hv_, h141, hi142⟩
  cases hv_
  refine xok_ite (fun c144 => ?_) (fun c144 => ?_)
  · rw [if_pos c144] at e
    exact hr4 h141 tx2 (xin_wr _) e
  · rw [if_neg c144] at e
    cases e
    exact ⟨_, rfl, rfl, h141, (show xin (0) by decide)⟩
theorem t157_43b {m f : Nat} {M0 M : xj_M} {T : xT_} (hS : xHS f) {r4 : Nat → Nat → Int → Int → xT_ → Option (Int × xT_)} {o4 : Nat → Nat → Int → Int → xj_M → Option (Int × xj_M)} {r43 : Nat → Nat → Int → Int → Int → xT_ → Option (Int × xT_)} {o43 : Nat → Nat → Int → Int → Int → xj_M → Option (Int × xj_M)} (hr4 : ∀ {M : xj_M} {T : xT_} {x0 : Nat} {x1 : Nat} {x2 : Int} {x3 : Int} {R : Int × xT_}, xCX m M0 M T → xin x2 → xin x3 → r4 x0 x1 x2 x3 T = some R → xok (o4 x0 x1 x2 x3 M) (fun r => r.1 = R.1 ∧ xCX m M0 r.2 R.2 ∧ xin R.1)) (hr43 : ∀ {M : xj_M} {T : xT_} {x0 : Nat} {x1 : Nat} {x2 : Int} {x3 : Int} {x4 : Int} {R : Int × xT_}, xCX m M0 M T → xin x2 → xin x3 → xin x4 → r43 x0 x1 x2 x3 x4 T = some R → xok (o43 x0 x1 x2 x3 x4 M) (fun r => r.1 = R.1 ∧ xCX m M0 r.2 R.2 ∧ xin R.1)) (h : xCX m M0 M T) {x0 : Nat} {x1 : Nat} {x2 : Int} {x3 : Int} {x4 : Int} {R : Int × xT_} (tx2 : xin x2) (tx3 : xin x3) (tx4 : xin x4) (e : c157_43b r4 r43 f x0 x1 x2 x3 x4 T = some R) : xok (f157_43b o4 o43 f x0 x1 x2 x3 x4 M) (fun r => r.1 = R.1 ∧ xCX m M0 r.2 R.2 ∧ xin R.1) := by
  unfold c157_43b at e
  unfold f157_43b
  refine xok_ite (fun c145 => ?_) (fun c145 => ?_)
  · rw [if_pos c145] at e
    exact t157_185 (r4 := r4) (o4 := o4) hS @hr4 h tx2 tx3 e
  · rw [if_neg c145] at e
    obtain ⟨v146, q147, e⟩ := xbnd e
    refine xok_eqb (h.gr (by decide) (by decide) q147) ?_
    obtain ⟨_, q153, e⟩ := xbnd e
    obtain ⟨R148, e149, e⟩ := xbnd e
    refine xok_eqb (h.is q153) ?_
    refine xok_call (t132 hS h  e149) ?_
    rintro ⟨v_, M150⟩ ⟨hv_, h151, hi152⟩
    cases hv_
    refine xok_ite (fun c154 => ?_) (fun c154 => ?_)
    · rw [if_pos c154] at e
      exact t157_185 (r4 := r4) (o4 := o4) hS @hr4 h151 tx2 tx3 e
    · rw [if_neg c154] at e
      obtain ⟨v155, q156, e⟩ := xbnd e
      refine xok_eqb (h151.gi (by decide) (by decide) q156).1 ?_
      refine xok_ite (fun c157 => ?_) (fun c157 => ?_)
      · rw [if_pos c157] at e
        obtain ⟨v158, q159, e⟩ := xbnd e
        refine xok_eqb (h151.gr (by decide) (by decide) q159) ?_
        obtain ⟨v160, q161, e⟩ := xbnd e
        refine xok_eqb (h151.gr (by decide) (by decide) q161) ?_
        obtain ⟨v162, q163, e⟩ := xbnd e
        refine xok_eqb (h151.gi (by decide) (by decide) q163).1 ?_
        obtain ⟨v164, q165, e⟩ := xbnd e
        refine xok_eqb (h151.al q165).1 ?_
        exact t157_85 (r4 := r4) (o4 := o4) (r43 := r43) (o43 := o43) hS @hr4 @hr43 h151 tx2 tx3 tx4 (h151.al q165).2 e
      · rw [if_neg c157] at e
        exact t157_85 (r4 := r4) (o4 := o4) (r43 := r43) (o43 := o43) hS @hr4 @hr43 h151 tx2 tx3 tx4 (show xiN (1) by decide) e
theorem t157_43 {m f : Nat} {M0 : xj_M} (hS : xHS f) {r4 : Nat → Nat → Int → Int → xT_ → Option (Int × xT_)} {o4 : Nat → Nat → Int → Int → xj_M → Option (Int × xj_M)} (hr4 : ∀ {M : xj_M} {T : xT_} {x0 : Nat} {x1 : Nat} {x2 : Int} {x3 : Int} {R : Int × xT_}, xCX m M0 M T → xin x2 → xin x3 → r4 x0 x1 x2 x3 T = some R → xok (o4 x0 x1 x2 x3 M) (fun r => r.1 = R.1 ∧ xCX m M0 r.2 R.2 ∧ xin R.1)) : ∀ {n : Nat} {M : xj_M} {T : xT_} {x0 : Nat} {x1 : Nat} {x2 : Int} {x3 : Int} {x4 : Int} {R : Int × xT_}, xCX m M0 M T → xin x2 → xin x3 → xin x4 → c157_43 r4 f n x0 x1 x2 x3 x4 T = some R → xok (f157_43 o4 f n x0 x1 x2 x3 x4 M) (fun r => r.1 = R.1 ∧ xCX m M0 r.2 R.2 ∧ xin R.1) := by
  intro n
  induction n with
  | zero => intros; rename_i e; cases e
  | succ n ih =>
    intros
    rename_i h i0 i1 i2 e
    exact t157_43b hS @hr4 @ih h i0 i1 i2 e
theorem t157_201 {m f : Nat} {M0 M : xj_M} {T : xT_} (hS : xHS f)   (h : xCX m M0 M T)  {R : Int × xT_}  (e : c157_201  f  T = some R) : xok (f157_201  f  M) (fun r => r.1 = R.1 ∧ xCX m M0 r.2 R.2 ∧ xin R.1) := by
  unfold c157_201 at e
  unfold f157_201
  cases e
  exact ⟨_, rfl, rfl, h, (show xin (1) by decide)⟩
theorem t157_4b {m f : Nat} {M0 M : xj_M} {T : xT_} (hS : xHS f) {r4 : Nat → Nat → Int → Int → xT_ → Option (Int × xT_)} {o4 : Nat → Nat → Int → Int → xj_M → Option (Int × xj_M)} (hr4 : ∀ {M : xj_M} {T : xT_} {x0 : Nat} {x1 : Nat} {x2 : Int} {x3 : Int} {R : Int × xT_}, xCX m M0 M T → xin x2 → xin x3 → r4 x0 x1 x2 x3 T = some R → xok (o4 x0 x1 x2 x3 M) (fun r => r.1 = R.1 ∧ xCX m M0 r.2 R.2 ∧ xin R.1)) (h : xCX m M0 M T) {x0 : Nat} {x1 : Nat} {x2 : Int} {x3 : Int} {R : Int × xT_} (tx2 : xin x2) (tx3 : xin x3) (e : c157_4b r4 f x0 x1 x2 x3 T = some R) : xok (f157_4b o4 f x0 x1 x2 x3 M) (fun r => r.1 = R.1 ∧ xCX m M0 r.2 R.2 ∧ xin R.1) := by
  unfold c157_4b at e
  unfold f157_4b
  refine xok_ite (fun c166 => ?_) (fun c166 => ?_)
  · rw [if_pos c166] at e
    exact t157_201  hS  h  e
  · rw [if_neg c166] at e
    refine xok_ite (fun c167 => ?_) (fun c167 => ?_)
    · rw [if_pos c167] at e
      exact t157_201  hS  h  e
    · rw [if_neg c167] at e
      obtain ⟨v168, q169, e⟩ := xbnd e
      refine xok_eqb (h.gr (by decide) (by decide) q169) ?_
      obtain ⟨v170, q171, e⟩ := xbnd e
      refine xok_eqb (h.gi (by decide) (by decide) q171).1 ?_
      obtain ⟨_, q177, e⟩ := xbnd e
      obtain ⟨R172, e173, e⟩ := xbnd e
      refine xok_eqb (h.is q177) ?_
      refine xok_call (t69 hS h (h.gi (by decide) (by decide) q171).2 e173) ?_
      intro M174 h175
      obtain ⟨v178, q179, e⟩ := xbnd e
      refine xok_eqb (h175.gr (by decide) (by decide) q179) ?_
      obtain ⟨v180, q181, e⟩ := xbnd e
      refine xok_eqb (h175.gr (by decide) (by decide) q181) ?_
      obtain ⟨_, q187, e⟩ := xbnd e
      obtain ⟨R182, e183, e⟩ := xbnd e
      refine xok_eqb (h175.is q187) ?_
      refine xok_call (t130 hS h175 (show xin (0) by decide) e183) ?_
      intro M184 h185
      exact t157_43 (r4 := r4) (o4 := o4) hS @hr4 h185 (show xin (0) by decide) tx3 (show xin (0) by decide) e
theorem t157_4 {m f : Nat} {M0 : xj_M} (hS : xHS f)   : ∀ {n : Nat} {M : xj_M} {T : xT_} {x0 : Nat} {x1 : Nat} {x2 : Int} {x3 : Int} {R : Int × xT_}, xCX m M0 M T → xin x2 → xin x3 → c157_4  f n x0 x1 x2 x3 T = some R → xok (f157_4  f n x0 x1 x2 x3 M) (fun r => r.1 = R.1 ∧ xCX m M0 r.2 R.2 ∧ xin R.1) := by
  intro n
  induction n with
  | zero => intros; rename_i e; cases e
  | succ n ih =>
    intros
    rename_i h i0 i1 e
    exact t157_4b hS  @ih h i0 i1 e
theorem t157 {m f : Nat} {M0 M : xj_M} {T : xT_} (hS : xHS f) (h : xCX m M0 M T) {a0 : Nat} {a1 : Nat} {R : Int × xT_}  (e : c157 f a0 a1 T = some R) : xok (f157 f a0 a1 M) (fun r => r.1 = R.1 ∧ xCX m M0 r.2 R.2 ∧ xin R.1) := by
  unfold c157 at e
  unfold f157
  exact t157_4  hS  h (show xin (1) by decide) (show xin (0) by decide) e
-- ChangeHouse$Works.findWay
theorem t164_72 {m f : Nat} {M0 M : xj_M} {T : xT_} (hS : xHS f) {r34 : Nat → Nat → Int → Int → Int → xT_ → Option (Int × xT_)} {o34 : Nat → Nat → Int → Int → Int → xj_M → Option (Int × xj_M)} (hr34 : ∀ {M : xj_M} {T : xT_} {x0 : Nat} {x1 : Nat} {x3 : Int} {x4 : Int} {x5 : Int} {R : Int × xT_}, xCX m M0 M T → xin x3 → xin x4 → xin x5 → r34 x0 x1 x3 x4 x5 T = some R → xok (o34 x0 x1 x3 x4 x5 M) (fun r => r.1 = R.1 ∧ xCX m M0 r.2 R.2 ∧ xin R.1)) (h : xCX m M0 M T) {x0 : Nat} {x1 : Nat} {x3 : Int} {x4 : Int} {x5 : Int} {y0 : Int} {y1 : Int} {y2 : Nat} {R : Int × xT_} (tx3 : xin x3) (tx4 : xin x4) (tx5 : xin x5) (ty0 : xin y0) (ty1 : xin y1) (e : c164_72 r34 f x0 x1 x3 x4 x5 y0 y1 y2 T = some R) : xok (f164_72 o34 f x0 x1 x3 x4 x5 y0 y1 y2 M) (fun r => r.1 = R.1 ∧ xCX m M0 r.2 R.2 ∧ xin R.1) := by
  unfold c164_72 at e
  unfold f164_72
  obtain ⟨T102, q101, e⟩ := xbnd e
  obtain ⟨M103, q104, h105⟩ := h.si ty0 q101
  refine xok_eqb q104 ?_
  exact hr34 h105 tx3 tx4 (xin_wr _) e
theorem t164_126 {m f : Nat} {M0 M : xj_M} {T : xT_} (hS : xHS f) {r82 : Nat → Nat → Int → xT_ → Option (Int × xT_)} {o82 : Nat → Nat → Int → xj_M → Option (Int × xj_M)} (hr82 : ∀ {M : xj_M} {T : xT_} {x0 : Nat} {x1 : Nat} {x5 : Int} {R : Int × xT_}, xCX m M0 M T → xin x5 → r82 x0 x1 x5 T = some R → xok (o82 x0 x1 x5 M) (fun r => r.1 = R.1 ∧ xCX m M0 r.2 R.2 ∧ xin R.1)) (h : xCX m M0 M T) {x0 : Nat} {x1 : Nat} {x5 : Int} {R : Int × xT_} (tx5 : xin x5) (e : c164_126 r82 f x0 x1 x5 T = some R) : xok (f164_126 o82 f x0 x1 x5 M) (fun r => r.1 = R.1 ∧ xCX m M0 r.2 R.2 ∧ xin R.1) := by
  unfold c164_126 at e
  unfold f164_126
  exact hr82 h (xin_wr _) e
theorem t164_214 {m f : Nat} {M0 M : xj_M} {T : xT_} (hS : xHS f) {r138 : Nat → Nat → Int → Int → xT_ → Option (Int × xT_)} {o138 : Nat → Nat → Int → Int → xj_M → Option (Int × xj_M)} (hr138 : ∀ {M : xj_M} {T : xT_} {x0 : Nat} {x1 : Nat} {x5 : Int} {x6 : Int} {R : Int × xT_}, xCX m M0 M T → xin x5 → xin x6 → r138 x0 x1 x5 x6 T = some R → xok (o138 x0 x1 x5 x6 M) (fun r => r.1 = R.1 ∧ xCX m M0 r.2 R.2 ∧ xin R.1)) (h : xCX m M0 M T) {x0 : Nat} {x1 : Nat} {x5 : Int} {x6 : Int} {R : Int × xT_} (tx5 : xin x5) (tx6 : xin x6) (e : c164_214 r138 f x0 x1 x5 x6 T = some R) : xok (f164_214 o138 f x0 x1 x5 x6 M) (fun r => r.1 = R.1 ∧ xCX m M0 r.2 R.2 ∧ xin R.1) := by
  unfold c164_214 at e
  unfold f164_214
  exact hr138 h tx5 (xin_wr _) e
theorem t164_193 {m f : Nat} {M0 M : xj_M} {T : xT_} (hS : xHS f) {r138 : Nat → Nat → Int → Int → xT_ → Option (Int × xT_)} {o138 : Nat → Nat → Int → Int → xj_M → Option (Int × xj_M)} (hr138 : ∀ {M : xj_M} {T : xT_} {x0 : Nat} {x1 : Nat} {x5 : Int} {x6 : Int} {R : Int × xT_}, xCX m M0 M T → xin x5 → xin x6 → r138 x0 x1 x5 x6 T = some R → xok (o138 x0 x1 x5 x6 M) (fun r => r.1 = R.1 ∧ xCX m M0 r.2 R.2 ∧ xin R.1)) (h : xCX m M0 M T) {x0 : Nat} {x1 : Nat} {x6 : Int} {R : Int × xT_} (tx6 : xin x6) (e : c164_193 r138 f x0 x1 x6 T = some R) : xok (f164_193 o138 f x0 x1 x6 M) (fun r => r.1 = R.1 ∧ xCX m M0 r.2 R.2 ∧ xin R.1) := by
  unfold c164_193 at e
  unfold f164_193
  obtain ⟨v106, q107, e⟩ := xbnd e
  refine xok_eqb (h.gr (by decide) (by decide) q107) ?_
  obtain ⟨v108, q109, e⟩ := xbnd e
  refine xok_eqb (h.gr (by decide) (by decide) q109) ?_
  obtain ⟨v110, q111, e⟩ := xbnd e
  refine xok_eqb (h.gr (by decide) (by decide) q111) ?_
  obtain ⟨T113, q112, e⟩ := xbnd e
  obtain ⟨M114, q115, h116⟩ := h.cp q112
  refine xok_eqb q115 ?_
  exact t164_214 (r138 := r138) (o138 := o138) hS @hr138 h116 (show xin (1) by decide) tx6 e
theorem t164_275 {m f : Nat} {M0 M : xj_M} {T : xT_} (hS : xHS f) {r226 : Nat → Nat → Int → Int → Int → xT_ → Option (Int × xT_)} {o226 : Nat → Nat → Int → Int → Int → xj_M → Option (Int × xj_M)} (hr226 : ∀ {M : xj_M} {T : xT_} {x0 : Nat} {x1 : Nat} {x5 : Int} {x6 : Int} {x7 : Int} {R : Int × xT_}, xCX m M0 M T → xin x5 → xin x6 → xin x7 → r226 x0 x1 x5 x6 x7 T = some R → xok (o226 x0 x1 x5 x6 x7 M) (fun r => r.1 = R.1 ∧ xCX m M0 r.2 R.2 ∧ xin R.1)) (h : xCX m M0 M T) {x0 : Nat} {x1 : Nat} {x5 : Int} {x6 : Int} {x7 : Int} {R : Int × xT_} (tx5 : xin x5) (tx6 : xin x6) (tx7 : xin x7) (e : c164_275 r226 f x0 x1 x5 x6 x7 T = some R) : xok (f164_275 o226 f x0 x1 x5 x6 x7 M) (fun r => r.1 = R.1 ∧ xCX m M0 r.2 R.2 ∧ xin R.1) := by
  unfold c164_275 at e
  unfold f164_275
  exact hr226 h tx5 tx6 (xin_wr _) e
theorem t164_281 {m f : Nat} {M0 M : xj_M} {T : xT_} (hS : xHS f)   (h : xCX m M0 M T) {x5 : Int} {R : Int × xT_} (tx5 : xin x5) (e : c164_281  f x5 T = some R) : xok (f164_281  f x5 M) (fun r => r.1 = R.1 ∧ xCX m M0 r.2 R.2 ∧ xin R.1) := by
  unfold c164_281 at e
  unfold f164_281
  refine xok_ite (fun c117 => ?_) (fun c117 => ?_)
  · rw [if_pos c117] at e; cases e; exact ⟨_, rfl, rfl, h, tx5⟩
  · rw [if_neg c117] at e; cases e
theorem t164_226b {m f : Nat} {M0 M : xj_M} {T : xT_} (hS : xHS f) {r226 : Nat → Nat → Int → Int → Int → xT_ → Option (Int × xT_)} {o226 : Nat → Nat → Int → Int → Int → xj_M → Option (Int × xj_M)} (hr226 : ∀ {M : xj_M} {T : xT_} {x0 : Nat} {x1 : Nat} {x5 : Int} {x6 : Int} {x7 : Int} {R : Int × xT_}, xCX m M0 M T → xin x5 → xin x6 → xin x7 → r226 x0 x1 x5 x6 x7 T = some R → xok (o226 x0 x1 x5 x6 x7 M) (fun r => r.1 = R.1 ∧ xCX m M0 r.2 R.2 ∧ xin R.1)) (h : xCX m M0 M T) {x0 : Nat} {x1 : Nat} {x5 : Int} {x6 : Int} {x7 : Int} {R : Int × xT_} (tx5 : xin x5) (tx6 : xin x6) (tx7 : xin x7) (e : c164_226b r226 f x0 x1 x5 x6 x7 T = some R) : xok (f164_226b o226 f x0 x1 x5 x6 x7 M) (fun r => r.1 = R.1 ∧ xCX m M0 r.2 R.2 ∧ xin R.1) := by
  unfold c164_226b at e
  unfold f164_226b
  refine xok_ite (fun c118 => ?_) (fun c118 => ?_)
  · rw [if_pos c118] at e
    exact t164_281  hS  h tx5 e
  · rw [if_neg c118] at e
    obtain ⟨v119, q120, e⟩ := xbnd e
    refine xok_eqb (h.gi (by decide) (by decide) q120).1 ?_
    refine xok_ite (fun c121 => ?_) (fun c121 => ?_)
    · rw [if_pos c121] at e
      exact t164_281  hS  h tx5 e
    · rw [if_neg c121] at e
      obtain ⟨v122, q123, e⟩ := xbnd e
      refine xok_eqb (h.gr (by decide) (by decide) q123) ?_
      obtain ⟨v124, q125, e⟩ := xbnd e
      refine xok_eqb (h.ai (by decide) q125).1 ?_
      refine xok_ite (fun c126 => ?_) (fun c126 => ?_)
      · rw [if_pos c126] at e
        exact t164_275 (r226 := r226) (o226 := o226) hS @hr226 h tx5 tx6 tx7 e
      · rw [if_neg c126] at e
        obtain ⟨v127, q128, e⟩ := xbnd e
        refine xok_eqb (h.gr (by decide) (by decide) q128) ?_
        obtain ⟨v129, q130, e⟩ := xbnd e
        refine xok_eqb (h.gr (by decide) (by decide) q130) ?_
        obtain ⟨v131, q132, e⟩ := xbnd e
        refine xok_eqb (h.gr (by decide) (by decide) q132) ?_
        obtain ⟨_, q138, e⟩ := xbnd e
        obtain ⟨R133, e134, e⟩ := xbnd e
        refine xok_eqb (h.is q138) ?_
        refine xok_call (t143 hS h tx7 e134) ?_
        rintro ⟨v_, M135⟩ ⟨hv_, h136, hi137⟩
        cases hv_
        obtain ⟨T140, q139, e⟩ := xbnd e
        obtain ⟨M141, q142, h143⟩ := h136.si hi137 q139
        refine xok_eqb q142 ?_
        exact t164_275 (r226 := r226) (o226 := o226) hS @hr226 h143 tx5 (xin_wr _) tx7 e
theorem t164_226 {m f : Nat} {M0 : xj_M} (hS : xHS f)   : ∀ {n : Nat} {M : xj_M} {T : xT_} {x0 : Nat} {x1 : Nat} {x5 : Int} {x6 : Int} {x7 : Int} {R : Int × xT_}, xCX m M0 M T → xin x5 → xin x6 → xin x7 → c164_226  f n x0 x1 x5 x6 x7 T = some R → xok (f164_226  f n x0 x1 x5 x6 x7 M) (fun r => r.1 = R.1 ∧ xCX m M0 r.2 R.2 ∧ xin R.1) := by
  intro n
  induction n with
  | zero => intros; rename_i e; cases e
  | succ n ih =>
    intros
    rename_i h i0 i1 i2 e
    exact t164_226b hS  @ih h i0 i1 i2 e
theorem t164_220 {m f : Nat} {M0 M : xj_M} {T : xT_} (hS : xHS f)   (h : xCX m M0 M T) {x0 : Nat} {x1 : Nat} {x5 : Int} {R : Int × xT_} (tx5 : xin x5) (e : c164_220  f x0 x1 x5 T = some R) : xok (f164_220  f x0 x1 x5 M) (fun r => r.1 = R.1 ∧ xCX m M0 r.2 R.2 ∧ xin R.1) := by
  unfold c164_220 at e
  unfold f164_220
  exact t164_226  hS  h tx5 (show xin (0) by decide) (show xin (0) by decide) e
theorem t164_138b {m f : Nat} {M0 M : xj_M} {T : xT_} (hS : xHS f) {r138 : Nat → Nat → Int → Int → xT_ → Option (Int × xT_)} {o138 : Nat → Nat → Int → Int → xj_M → Option (Int × xj_M)} (hr138 : ∀ {M : xj_M} {T : xT_} {x0 : Nat} {x1 : Nat} {x5 : Int} {x6 : Int} {R : Int × xT_}, xCX m M0 M T → xin x5 → xin x6 → r138 x0 x1 x5 x6 T = some R → xok (o138 x0 x1 x5 x6 M) (fun r => r.1 = R.1 ∧ xCX m M0 r.2 R.2 ∧ xin R.1)) (h : xCX m M0 M T) {x0 : Nat} {x1 : Nat} {x5 : Int} {x6 : Int} {R : Int × xT_} (tx5 : xin x5) (tx6 : xin x6) (e : c164_138b r138 f x0 x1 x5 x6 T = some R) : xok (f164_138b o138 f x0 x1 x5 x6 M) (fun r => r.1 = R.1 ∧ xCX m M0 r.2 R.2 ∧ xin R.1) := by
  unfold c164_138b at e
  unfold f164_138b
  refine xok_ite (fun c144 => ?_) (fun c144 => ?_)
  · rw [if_pos c144] at e
    exact t164_220  hS  h tx5 e
  · rw [if_neg c144] at e
    obtain ⟨v145, q146, e⟩ := xbnd e
    refine xok_eqb (h.gr (by decide) (by decide) q146) ?_
    obtain ⟨_, q152, e⟩ := xbnd e
    obtain ⟨R147, e148, e⟩ := xbnd e
    refine xok_eqb (h.is q152) ?_
    refine xok_call (t132 hS h  e148) ?_
    rintro ⟨v_, M149⟩ ⟨hv_, h150, hi151⟩
    cases hv_
    refine xok_ite (fun c153 => ?_) (fun c153 => ?_)
    · rw [if_pos c153] at e
      exact t164_220  hS  h150 tx5 e
    · rw [if_neg c153] at e
      obtain ⟨v154, q155, e⟩ := xbnd e
      refine xok_eqb (h150.gr (by decide) (by decide) q155) ?_
      obtain ⟨v156, q157, e⟩ := xbnd e
      refine xok_eqb (h150.gr (by decide) (by decide) q157) ?_
      obtain ⟨_, q163, e⟩ := xbnd e
      obtain ⟨R158, e159, e⟩ := xbnd e
      refine xok_eqb (h150.is q163) ?_
      refine xok_call (t142 hS h150  e159) ?_
      rintro ⟨v_, M160⟩ ⟨hv_, h161, hi162⟩
      cases hv_
      refine xok_ite (fun c164 => ?_) (fun c164 => ?_)
      · rw [if_pos c164] at e
        exact t164_214 (r138 := r138) (o138 := o138) hS @hr138 h161 tx5 tx6 e
      · rw [if_neg c164] at e
        obtain ⟨_, q170, e⟩ := xbnd e
        obtain ⟨R165, e166, e⟩ := xbnd e
        refine xok_eqb (h161.is q170) ?_
        refine xok_call (t165 hS h161  e166) ?_
        rintro ⟨v_, M167⟩ ⟨hv_, h168, hi169⟩
        cases hv_
        refine xok_ite (fun c171 => ?_) (fun c171 => ?_)
        · rw [if_pos c171] at e
          exact t164_214 (r138 := r138) (o138 := o138) hS @hr138 h168 tx5 tx6 e
        · rw [if_neg c171] at e
          refine xok_ite (fun c172 => ?_) (fun c172 => ?_)
          · rw [if_pos c172] at e
            exact t164_193 (r138 := r138) (o138 := o138) hS @hr138 h168 tx6 e
          · rw [if_neg c172] at e
            obtain ⟨v173, q174, e⟩ := xbnd e
            refine xok_eqb (h168.gi (by decide) (by decide) q174).1 ?_
            obtain ⟨_, q180, e⟩ := xbnd e
            obtain ⟨R175, e176, e⟩ := xbnd e
            refine xok_eqb (h168.is q180) ?_
            refine xok_call (t166 hS h168 (h168.gi (by decide) (by decide) q174).2 e176) ?_
            rintro ⟨v_, M177⟩ ⟨hv_, h178, hi179⟩
            cases hv_
            refine xok_ite (fun c181 => ?_) (fun c181 => ?_)
            · rw [if_pos c181] at e
              exact t164_214 (r138 := r138) (o138 := o138) hS @hr138 h178 tx5 tx6 e
            · rw [if_neg c181] at e
              exact t164_193 (r138 := r138) (o138 := o138) hS @hr138 h178 tx6 e
theorem t164_138 {m f : Nat} {M0 : xj_M} (hS : xHS f)   : ∀ {n : Nat} {M : xj_M} {T : xT_} {x0 : Nat} {x1 : Nat} {x5 : Int} {x6 : Int} {R : Int × xT_}, xCX m M0 M T → xin x5 → xin x6 → c164_138  f n x0 x1 x5 x6 T = some R → xok (f164_138  f n x0 x1 x5 x6 M) (fun r => r.1 = R.1 ∧ xCX m M0 r.2 R.2 ∧ xin R.1) := by
  intro n
  induction n with
  | zero => intros; rename_i e; cases e
  | succ n ih =>
    intros
    rename_i h i0 i1 e
    exact t164_138b hS  @ih h i0 i1 e
theorem t164_82b {m f : Nat} {M0 M : xj_M} {T : xT_} (hS : xHS f) {r82 : Nat → Nat → Int → xT_ → Option (Int × xT_)} {o82 : Nat → Nat → Int → xj_M → Option (Int × xj_M)} (hr82 : ∀ {M : xj_M} {T : xT_} {x0 : Nat} {x1 : Nat} {x5 : Int} {R : Int × xT_}, xCX m M0 M T → xin x5 → r82 x0 x1 x5 T = some R → xok (o82 x0 x1 x5 M) (fun r => r.1 = R.1 ∧ xCX m M0 r.2 R.2 ∧ xin R.1)) (h : xCX m M0 M T) {x0 : Nat} {x1 : Nat} {x5 : Int} {R : Int × xT_} (tx5 : xin x5) (e : c164_82b r82 f x0 x1 x5 T = some R) : xok (f164_82b o82 f x0 x1 x5 M) (fun r => r.1 = R.1 ∧ xCX m M0 r.2 R.2 ∧ xin R.1) := by
  unfold c164_82b at e
  unfold f164_82b
  obtain ⟨v182, q183, e⟩ := xbnd e
  refine xok_eqb (h.gi (by decide) (by decide) q183).1 ?_
  refine xok_ite (fun c184 => ?_) (fun c184 => ?_)
  · rw [if_pos c184] at e
    exact t164_138  hS  h (show xin (0) by decide) (show xin (0) by decide) e
  · rw [if_neg c184] at e
    obtain ⟨_, q190, e⟩ := xbnd e
    obtain ⟨R185, e186, e⟩ := xbnd e
    refine xok_eqb (h.is q190) ?_
    refine xok_call (t91 hS h tx5 e186) ?_
    rintro ⟨v_, M187⟩ ⟨hv_, h188, hi189⟩
    cases hv_
    refine xok_ite (fun c191 => ?_) (fun c191 => ?_)
    · rw [if_pos c191] at e
      exact t164_126 (r82 := r82) (o82 := o82) hS @hr82 h188 tx5 e
    · rw [if_neg c191] at e
      obtain ⟨v192, q193, e⟩ := xbnd e
      refine xok_eqb (h188.gr (by decide) (by decide) q193) ?_
      obtain ⟨v194, q195, e⟩ := xbnd e
      refine xok_eqb (h188.gr (by decide) (by decide) q195) ?_
      obtain ⟨v196, q197, e⟩ := xbnd e
      refine xok_eqb (h188.al q197).1 ?_
      obtain ⟨_, q203, e⟩ := xbnd e
      obtain ⟨R198, e199, e⟩ := xbnd e
      refine xok_eqb (h188.is q203) ?_
      refine xok_call (t131 hS h188 hi189 (h188.al q197).2 e199) ?_
      rintro ⟨v_, M200⟩ ⟨hv_, h201, hi202⟩
      cases hv_
      refine xok_ite (fun c204 => ?_) (fun c204 => ?_)
      · rw [if_pos c204] at e
        exact t164_126 (r82 := r82) (o82 := o82) hS @hr82 h201 tx5 e
      · rw [if_neg c204] at e
        cases e
        exact ⟨_, rfl, rfl, h201, (show xin (0) by decide)⟩
theorem t164_82 {m f : Nat} {M0 : xj_M} (hS : xHS f)   : ∀ {n : Nat} {M : xj_M} {T : xT_} {x0 : Nat} {x1 : Nat} {x5 : Int} {R : Int × xT_}, xCX m M0 M T → xin x5 → c164_82  f n x0 x1 x5 T = some R → xok (f164_82  f n x0 x1 x5 M) (fun r => r.1 = R.1 ∧ xCX m M0 r.2 R.2 ∧ xin R.1) := by
  intro n
  induction n with
  | zero => intros; rename_i e; cases e
  | succ n ih =>
    intros
    rename_i h i0 e
    exact t164_82b hS  @ih h i0 e
theorem t164_34b {m f : Nat} {M0 M : xj_M} {T : xT_} (hS : xHS f) {r34 : Nat → Nat → Int → Int → Int → xT_ → Option (Int × xT_)} {o34 : Nat → Nat → Int → Int → Int → xj_M → Option (Int × xj_M)} (hr34 : ∀ {M : xj_M} {T : xT_} {x0 : Nat} {x1 : Nat} {x3 : Int} {x4 : Int} {x5 : Int} {R : Int × xT_}, xCX m M0 M T → xin x3 → xin x4 → xin x5 → r34 x0 x1 x3 x4 x5 T = some R → xok (o34 x0 x1 x3 x4 x5 M) (fun r => r.1 = R.1 ∧ xCX m M0 r.2 R.2 ∧ xin R.1)) (h : xCX m M0 M T) {x0 : Nat} {x1 : Nat} {x3 : Int} {x4 : Int} {x5 : Int} {R : Int × xT_} (tx3 : xin x3) (tx4 : xin x4) (tx5 : xin x5) (e : c164_34b r34 f x0 x1 x3 x4 x5 T = some R) : xok (f164_34b o34 f x0 x1 x3 x4 x5 M) (fun r => r.1 = R.1 ∧ xCX m M0 r.2 R.2 ∧ xin R.1) := by
  unfold c164_34b at e
  unfold f164_34b
  obtain ⟨v205, q206, e⟩ := xbnd e
  refine xok_eqb (h.gi (by decide) (by decide) q206).1 ?_
  refine xok_ite (fun c207 => ?_) (fun c207 => ?_)
  · rw [if_pos c207] at e
    exact t164_82  hS  h (show xin (0) by decide) e
  · rw [if_neg c207] at e
    obtain ⟨v208, q209, e⟩ := xbnd e
    refine xok_eqb (h.gr (by decide) (by decide) q209) ?_
    obtain ⟨v210, q211, e⟩ := xbnd e
    refine xok_eqb (h.gr (by decide) (by decide) q211) ?_
    obtain ⟨R212, e213, e⟩ := xbnd e
    refine xok_call (t152 hS h tx5 tx4 e213) ?_
    rintro ⟨v_, M214⟩ ⟨hv_, h215, hi216⟩
    cases hv_
    refine xok_ite (fun c217 => ?_) (fun c217 => ?_)
    · rw [if_pos c217] at e
      exact t164_72 (r34 := r34) (o34 := o34) hS @hr34 h215 tx3 tx4 tx5 (show xin (1700) by decide) tx5 e
    · rw [if_neg c217] at e
      exact t164_72 (r34 := r34) (o34 := o34) hS @hr34 h215 tx3 tx4 tx5 (xin_wr _) tx5 e
theorem t164_34 {m f : Nat} {M0 : xj_M} (hS : xHS f)   : ∀ {n : Nat} {M : xj_M} {T : xT_} {x0 : Nat} {x1 : Nat} {x3 : Int} {x4 : Int} {x5 : Int} {R : Int × xT_}, xCX m M0 M T → xin x3 → xin x4 → xin x5 → c164_34  f n x0 x1 x3 x4 x5 T = some R → xok (f164_34  f n x0 x1 x3 x4 x5 M) (fun r => r.1 = R.1 ∧ xCX m M0 r.2 R.2 ∧ xin R.1) := by
  intro n
  induction n with
  | zero => intros; rename_i e; cases e
  | succ n ih =>
    intros
    rename_i h i0 i1 i2 e
    exact t164_34b hS  @ih h i0 i1 i2 e
theorem t164 {m f : Nat} {M0 M : xj_M} {T : xT_} (hS : xHS f) (h : xCX m M0 M T) {a0 : Nat} {a1 : Nat} {a2 : Nat} {a3 : Int} {R : Int × xT_} (ta3 : xin a3) (e : c164 f a0 a1 a2 a3 T = some R) : xok (f164 f a0 a1 a2 a3 M) (fun r => r.1 = R.1 ∧ xCX m M0 r.2 R.2 ∧ xin R.1) := by
  unfold c164 at e
  unfold f164
  obtain ⟨v218, q219, e⟩ := xbnd e
  refine xok_eqb (h.gr (by decide) (by decide) q219) ?_
  obtain ⟨v220, q221, e⟩ := xbnd e
  refine xok_eqb (h.gr (by decide) (by decide) q221) ?_
  obtain ⟨v222, q223, e⟩ := xbnd e
  refine xok_eqb (h.gr (by decide) (by decide) q223) ?_
  obtain ⟨v224, q225, e⟩ := xbnd e
  refine xok_eqb (h.gi (by decide) (by decide) q225).1 ?_
  obtain ⟨v226, q227, e⟩ := xbnd e
  refine xok_eqb (h.ai (by decide) q227).1 ?_
  obtain ⟨_, q233, e⟩ := xbnd e
  obtain ⟨R228, e229, e⟩ := xbnd e
  refine xok_eqb (h.is q233) ?_
  refine xok_call (t26 hS h (h.ai (by decide) q227).2 e229) ?_
  rintro ⟨v_, M230⟩ ⟨hv_, h231, hi232⟩
  cases hv_
  obtain ⟨v234, q235, e⟩ := xbnd e
  refine xok_eqb (h231.gr (by decide) (by decide) q235) ?_
  obtain ⟨_, q241, e⟩ := xbnd e
  obtain ⟨R236, e237, e⟩ := xbnd e
  refine xok_eqb (h231.is q241) ?_
  refine xok_call (t130 hS h231 (show xin (0) by decide) e237) ?_
  intro M238 h239
  exact t164_34  hS  h239 ta3 hi232 (show xin (0) by decide) e
-- ChangeHouse$Works.gathersGiven
theorem t167_138 {m f : Nat} {M0 M : xj_M} {T : xT_} (hS : xHS f) {r18 : Nat → Nat → Int → Int → Int → xT_ → Option (Int × xT_)} {o18 : Nat → Nat → Int → Int → Int → xj_M → Option (Int × xj_M)} (hr18 : ∀ {M : xj_M} {T : xT_} {x0 : Nat} {x1 : Nat} {x3 : Int} {x4 : Int} {x6 : Int} {R : Int × xT_}, xCX m M0 M T → xin x3 → xiN x4 → xin x6 → r18 x0 x1 x3 x4 x6 T = some R → xok (o18 x0 x1 x3 x4 x6 M) (fun r => r.1 = R.1 ∧ xCX m M0 r.2 R.2 ∧ xin R.1)) (h : xCX m M0 M T) {x0 : Nat} {x1 : Nat} {x3 : Int} {x4 : Int} {x6 : Int} {R : Int × xT_} (tx3 : xin x3) (tx4 : xiN x4) (tx6 : xin x6) (e : c167_138 r18 f x0 x1 x3 x4 x6 T = some R) : xok (f167_138 o18 f x0 x1 x3 x4 x6 M) (fun r => r.1 = R.1 ∧ xCX m M0 r.2 R.2 ∧ xin R.1) := by
  unfold c167_138 at e
  unfold f167_138
  exact hr18 h tx3 tx4 (xin_wr _) e
theorem t167_134 {m f : Nat} {M0 M : xj_M} {T : xT_} (hS : xHS f) {r18 : Nat → Nat → Int → Int → Int → xT_ → Option (Int × xT_)} {o18 : Nat → Nat → Int → Int → Int → xj_M → Option (Int × xj_M)} (hr18 : ∀ {M : xj_M} {T : xT_} {x0 : Nat} {x1 : Nat} {x3 : Int} {x4 : Int} {x6 : Int} {R : Int × xT_}, xCX m M0 M T → xin x3 → xiN x4 → xin x6 → r18 x0 x1 x3 x4 x6 T = some R → xok (o18 x0 x1 x3 x4 x6 M) (fun r => r.1 = R.1 ∧ xCX m M0 r.2 R.2 ∧ xin R.1)) (h : xCX m M0 M T) {x0 : Nat} {x1 : Nat} {x6 : Int} {y0 : Int} {R : Int × xT_} (tx6 : xin x6) (ty0 : xiN y0) (e : c167_134 r18 f x0 x1 x6 y0 T = some R) : xok (f167_134 o18 f x0 x1 x6 y0 M) (fun r => r.1 = R.1 ∧ xCX m M0 r.2 R.2 ∧ xin R.1) := by
  unfold c167_134 at e
  unfold f167_134
  exact t167_138 (r18 := r18) (o18 := o18) hS @hr18 h (show xin (1) by decide) ty0 tx6 e
theorem t167_85 {m f : Nat} {M0 M : xj_M} {T : xT_} (hS : xHS f) {r18 : Nat → Nat → Int → Int → Int → xT_ → Option (Int × xT_)} {o18 : Nat → Nat → Int → Int → Int → xj_M → Option (Int × xj_M)} (hr18 : ∀ {M : xj_M} {T : xT_} {x0 : Nat} {x1 : Nat} {x3 : Int} {x4 : Int} {x6 : Int} {R : Int × xT_}, xCX m M0 M T → xin x3 → xiN x4 → xin x6 → r18 x0 x1 x3 x4 x6 T = some R → xok (o18 x0 x1 x3 x4 x6 M) (fun r => r.1 = R.1 ∧ xCX m M0 r.2 R.2 ∧ xin R.1)) (h : xCX m M0 M T) {x0 : Nat} {x1 : Nat} {x3 : Int} {x4 : Int} {x6 : Int} {x7 : Int} {y0 : Int} {R : Int × xT_} (tx3 : xin x3) (tx4 : xiN x4) (tx6 : xin x6) (tx7 : xiN x7) (ty0 : xin y0) (e : c167_85 r18 f x0 x1 x3 x4 x6 x7 y0 T = some R) : xok (f167_85 o18 f x0 x1 x3 x4 x6 x7 y0 M) (fun r => r.1 = R.1 ∧ xCX m M0 r.2 R.2 ∧ xin R.1) := by
  unfold c167_85 at e
  unfold f167_85
  refine xok_ite (fun c101 => ?_) (fun c101 => ?_)
  · rw [if_pos c101] at e
    exact t167_138 (r18 := r18) (o18 := o18) hS @hr18 h tx3 tx4 tx6 e
  · rw [if_neg c101] at e
    obtain ⟨v102, q103, e⟩ := xbnd e
    refine xok_eqb (h.gr (by decide) (by decide) q103) ?_
    obtain ⟨v104, q105, e⟩ := xbnd e
    refine xok_eqb (h.gr (by decide) (by decide) q105) ?_
    obtain ⟨_, q111, e⟩ := xbnd e
    obtain ⟨R106, e107, e⟩ := xbnd e
    refine xok_eqb (h.is q111) ?_
    refine xok_call (t142 hS h  e107) ?_
    rintro ⟨v_, M108⟩ ⟨hv_, h109, hi110⟩
    cases hv_
    refine xok_ite (fun c112 => ?_) (fun c112 => ?_)
    · rw [if_pos c112] at e
      exact t167_138 (r18 := r18) (o18 := o18) hS @hr18 h109 tx3 tx4 tx6 e
    · rw [if_neg c112] at e
      obtain ⟨_, q118, e⟩ := xbnd e
      obtain ⟨R113, e114, e⟩ := xbnd e
      refine xok_eqb (h109.is q118) ?_
      refine xok_call (t165 hS h109  e114) ?_
      rintro ⟨v_, M115⟩ ⟨hv_, h116, hi117⟩
      cases hv_
      refine xok_ite (fun c119 => ?_) (fun c119 => ?_)
      · rw [if_pos c119] at e
        exact t167_138 (r18 := r18) (o18 := o18) hS @hr18 h116 tx3 tx4 tx6 e
      · rw [if_neg c119] at e
        refine xok_ite (fun c120 => ?_) (fun c120 => ?_)
        · rw [if_pos c120] at e
          exact t167_134 (r18 := r18) (o18 := o18) hS @hr18 h116 tx6 tx7 e
        · rw [if_neg c120] at e
          obtain ⟨v121, q122, e⟩ := xbnd e
          refine xok_eqb (h116.gi (by decide) (by decide) q122).1 ?_
          obtain ⟨R123, e124, e⟩ := xbnd e
          refine xok_call (t160 hS h116 (h116.gi (by decide) (by decide) q122).2 tx4 tx7 e124) ?_
          rintro ⟨v_, M125⟩ ⟨hv_, h126, hi127⟩
          cases hv_
          exact t167_134 (r18 := r18) (o18 := o18) hS @hr18 h126 tx6 hi127 e
theorem t167_84 {m f : Nat} {M0 M : xj_M} {T : xT_} (hS : xHS f) {r18 : Nat → Nat → Int → Int → Int → xT_ → Option (Int × xT_)} {o18 : Nat → Nat → Int → Int → Int → xj_M → Option (Int × xj_M)} (hr18 : ∀ {M : xj_M} {T : xT_} {x0 : Nat} {x1 : Nat} {x3 : Int} {x4 : Int} {x6 : Int} {R : Int × xT_}, xCX m M0 M T → xin x3 → xiN x4 → xin x6 → r18 x0 x1 x3 x4 x6 T = some R → xok (o18 x0 x1 x3 x4 x6 M) (fun r => r.1 = R.1 ∧ xCX m M0 r.2 R.2 ∧ xin R.1)) (h : xCX m M0 M T) {x0 : Nat} {x1 : Nat} {x3 : Int} {x4 : Int} {x6 : Int} {x7 : Int} {R : Int × xT_} (tx3 : xin x3) (tx4 : xiN x4) (tx6 : xin x6) (tx7 : xiN x7) (e : c167_84 r18 f x0 x1 x3 x4 x6 x7 T = some R) : xok (f167_84 o18 f x0 x1 x3 x4 x6 x7 M) (fun r => r.1 = R.1 ∧ xCX m M0 r.2 R.2 ∧ xin R.1) := by
  unfold c167_84 at e
  unfold f167_84
  exact t167_85 (r18 := r18) (o18 := o18) hS @hr18 h tx3 tx4 tx6 tx7 (show xin (0) by decide) e
theorem t167_60 {m f : Nat} {M0 M : xj_M} {T : xT_} (hS : xHS f) {r18 : Nat → Nat → Int → Int → Int → xT_ → Option (Int × xT_)} {o18 : Nat → Nat → Int → Int → Int → xj_M → Option (Int × xj_M)} (hr18 : ∀ {M : xj_M} {T : xT_} {x0 : Nat} {x1 : Nat} {x3 : Int} {x4 : Int} {x6 : Int} {R : Int × xT_}, xCX m M0 M T → xin x3 → xiN x4 → xin x6 → r18 x0 x1 x3 x4 x6 T = some R → xok (o18 x0 x1 x3 x4 x6 M) (fun r => r.1 = R.1 ∧ xCX m M0 r.2 R.2 ∧ xin R.1)) (h : xCX m M0 M T) {x0 : Nat} {x1 : Nat} {x3 : Int} {x4 : Int} {x6 : Int} {y0 : Int} {R : Int × xT_} (tx3 : xin x3) (tx4 : xiN x4) (tx6 : xin x6) (ty0 : xiN y0) (e : c167_60 r18 f x0 x1 x3 x4 x6 y0 T = some R) : xok (f167_60 o18 f x0 x1 x3 x4 x6 y0 M) (fun r => r.1 = R.1 ∧ xCX m M0 r.2 R.2 ∧ xin R.1) := by
  unfold c167_60 at e
  unfold f167_60
  obtain ⟨v128, q129, e⟩ := xbnd e
  refine xok_eqb (h.gi (by decide) (by decide) q129).1 ?_
  refine xok_ite (fun c130 => ?_) (fun c130 => ?_)
  · rw [if_pos c130] at e
    exact t167_84 (r18 := r18) (o18 := o18) hS @hr18 h tx3 tx4 tx6 ty0 e
  · rw [if_neg c130] at e
    refine xok_ite (fun c131 => ?_) (fun c131 => ?_)
    · rw [if_pos c131] at e
      exact t167_84 (r18 := r18) (o18 := o18) hS @hr18 h tx3 tx4 tx6 ty0 e
    · rw [if_neg c131] at e
      exact t167_85 (r18 := r18) (o18 := o18) hS @hr18 h tx3 tx4 tx6 ty0 (show xin (1) by decide) e
theorem t167_177 {m f : Nat} {M0 M : xj_M} {T : xT_} (hS : xHS f)   (h : xCX m M0 M T) {y0 : Int} {R : Int × xT_} (ty0 : xin y0) (e : c167_177  f y0 T = some R) : xok (f167_177  f y0 M) (fun r => r.1 = R.1 ∧ xCX m M0 r.2 R.2 ∧ xin R.1) := by
  unfold c167_177 at e
  unfold f167_177
  refine xok_ite (fun c132 => ?_) (fun c132 => ?_)
  · rw [if_pos c132] at e; cases e; exact ⟨_, rfl, rfl, h, ty0⟩
  · rw [if_neg c132] at e; cases e
theorem t167_176 {m f : Nat} {M0 M : xj_M} {T : xT_} (hS : xHS f)   (h : xCX m M0 M T)  {R : Int × xT_}  (e : c167_176  f  T = some R) : xok (f167_176  f  M) (fun r => r.1 = R.1 ∧ xCX m M0 r.2 R.2 ∧ xin R.1) := by
  unfold c167_176 at e
  unfold f167_176
  exact t167_177  hS  h (show xin (0) by decide) e
theorem t167_144 {m f : Nat} {M0 M : xj_M} {T : xT_} (hS : xHS f)   (h : xCX m M0 M T) {x0 : Nat} {x1 : Nat} {x3 : Int} {x4 : Int} {R : Int × xT_} (tx3 : xin x3) (tx4 : xiN x4) (e : c167_144  f x0 x1 x3 x4 T = some R) : xok (f167_144  f x0 x1 x3 x4 M) (fun r => r.1 = R.1 ∧ xCX m M0 r.2 R.2 ∧ xin R.1) := by
  unfold c167_144 at e
  unfold f167_144
  refine xok_ite (fun c133 => ?_) (fun c133 => ?_)
  · rw [if_pos c133] at e
    exact t167_176  hS  h  e
  · rw [if_neg c133] at e
    obtain ⟨R134, e135, e⟩ := xbnd e
    refine xok_call (t397 hS h tx4 e135) ?_
    rintro ⟨v_, M136⟩ ⟨hv_, h137, hi138⟩
    cases hv_
    refine xok_ite (fun c139 => ?_) (fun c139 => ?_)
    · rw [if_pos c139] at e
      exact t167_176  hS  h137  e
    · rw [if_neg c139] at e
      obtain ⟨v140, q141, e⟩ := xbnd e
      refine xok_eqb (h137.gr (by decide) (by decide) q141) ?_
      obtain ⟨v142, q143, e⟩ := xbnd e
      refine xok_eqb (h137.gi (by decide) (by decide) q143).1 ?_
      obtain ⟨v144, q145, e⟩ := xbnd e
      refine xok_eqb (h137.al q145).1 ?_
      refine xok_ite (fun c146 => ?_) (fun c146 => ?_)
      · rw [if_pos c146] at e
        exact t167_176  hS  h137  e
      · rw [if_neg c146] at e
        exact t167_177  hS  h137 (show xin (1) by decide) e
theorem t167_18b {m f : Nat} {M0 M : xj_M} {T : xT_} (hS : xHS f) {r18 : Nat → Nat → Int → Int → Int → xT_ → Option (Int × xT_)} {o18 : Nat → Nat → Int → Int → Int → xj_M → Option (Int × xj_M)} (hr18 : ∀ {M : xj_M} {T : xT_} {x0 : Nat} {x1 : Nat} {x3 : Int} {x4 : Int} {x6 : Int} {R : Int × xT_}, xCX m M0 M T → xin x3 → xiN x4 → xin x6 → r18 x0 x1 x3 x4 x6 T = some R → xok (o18 x0 x1 x3 x4 x6 M) (fun r => r.1 = R.1 ∧ xCX m M0 r.2 R.2 ∧ xin R.1)) (h : xCX m M0 M T) {x0 : Nat} {x1 : Nat} {x3 : Int} {x4 : Int} {x6 : Int} {R : Int × xT_} (tx3 : xin x3) (tx4 : xiN x4) (tx6 : xin x6) (e : c167_18b r18 f x0 x1 x3 x4 x6 T = some R) : xok (f167_18b o18 f x0 x1 x3 x4 x6 M) (fun r => r.1 = R.1 ∧ xCX m M0 r.2 R.2 ∧ xin R.1) := by
  unfold c167_18b at e
  unfold f167_18b
  refine xok_ite (fun c147 => ?_) (fun c147 => ?_)
  · rw [if_pos c147] at e
    exact t167_144  hS  h tx3 tx4 e
  · rw [if_neg c147] at e
    obtain ⟨v148, q149, e⟩ := xbnd e
    refine xok_eqb (h.gr (by decide) (by decide) q149) ?_
    obtain ⟨_, q155, e⟩ := xbnd e
    obtain ⟨R150, e151, e⟩ := xbnd e
    refine xok_eqb (h.is q155) ?_
    refine xok_call (t132 hS h  e151) ?_
    rintro ⟨v_, M152⟩ ⟨hv_, h153, hi154⟩
    cases hv_
    refine xok_ite (fun c156 => ?_) (fun c156 => ?_)
    · rw [if_pos c156] at e
      exact t167_144  hS  h153 tx3 tx4 e
    · rw [if_neg c156] at e
      obtain ⟨v157, q158, e⟩ := xbnd e
      refine xok_eqb (h153.gi (by decide) (by decide) q158).1 ?_
      refine xok_ite (fun c159 => ?_) (fun c159 => ?_)
      · rw [if_pos c159] at e
        obtain ⟨v160, q161, e⟩ := xbnd e
        refine xok_eqb (h153.gr (by decide) (by decide) q161) ?_
        obtain ⟨v162, q163, e⟩ := xbnd e
        refine xok_eqb (h153.gr (by decide) (by decide) q163) ?_
        obtain ⟨v164, q165, e⟩ := xbnd e
        refine xok_eqb (h153.gi (by decide) (by decide) q165).1 ?_
        obtain ⟨v166, q167, e⟩ := xbnd e
        refine xok_eqb (h153.al q167).1 ?_
        exact t167_60 (r18 := r18) (o18 := o18) hS @hr18 h153 tx3 tx4 tx6 (h153.al q167).2 e
      · rw [if_neg c159] at e
        exact t167_60 (r18 := r18) (o18 := o18) hS @hr18 h153 tx3 tx4 tx6 (show xiN (1) by decide) e
theorem t167_18 {m f : Nat} {M0 : xj_M} (hS : xHS f)   : ∀ {n : Nat} {M : xj_M} {T : xT_} {x0 : Nat} {x1 : Nat} {x3 : Int} {x4 : Int} {x6 : Int} {R : Int × xT_}, xCX m M0 M T → xin x3 → xiN x4 → xin x6 → c167_18  f n x0 x1 x3 x4 x6 T = some R → xok (f167_18  f n x0 x1 x3 x4 x6 M) (fun r => r.1 = R.1 ∧ xCX m M0 r.2 R.2 ∧ xin R.1) := by
  intro n
  induction n with
  | zero => intros; rename_i e; cases e
  | succ n ih =>
    intros
    rename_i h i0 i1 i2 e
    exact t167_18b hS  @ih h i0 i1 i2 e
theorem t167 {m f : Nat} {M0 M : xj_M} {T : xT_} (hS : xHS f) (h : xCX m M0 M T) {a0 : Nat} {a1 : Nat} {a2 : Nat} {R : Int × xT_}  (e : c167 f a0 a1 a2 T = some R) : xok (f167 f a0 a1 a2 M) (fun r => r.1 = R.1 ∧ xCX m M0 r.2 R.2 ∧ xin R.1) := by
  unfold c167 at e
  unfold f167
  obtain ⟨v168, q169, e⟩ := xbnd e
  refine xok_eqb (h.gr (by decide) (by decide) q169) ?_
  obtain ⟨_, q175, e⟩ := xbnd e
  obtain ⟨R170, e171, e⟩ := xbnd e
  refine xok_eqb (h.is q175) ?_
  refine xok_call (t130 hS h (show xin (0) by decide) e171) ?_
  intro M172 h173
  exact t167_18  hS  h173 (show xin (0) by decide) (show xiN (0) by decide) (show xin (0) by decide) e
-- ChangeHouse.ask
theorem t179_95 {m f : Nat} {M0 M : xj_M} {T : xT_} (hS : xHS f) {r29 : Nat → Nat → Int → xT_ → Option (Int × xT_)} {o29 : Nat → Nat → Int → xj_M → Option (Int × xj_M)} (hr29 : ∀ {M : xj_M} {T : xT_} {x0 : Nat} {x3 : Nat} {x4 : Int} {R : Int × xT_}, xCX m M0 M T → xin x4 → r29 x0 x3 x4 T = some R → xok (o29 x0 x3 x4 M) (fun r => r.1 = R.1 ∧ xCX m M0 r.2 R.2 ∧ xin R.1)) (h : xCX m M0 M T) {x0 : Nat} {x3 : Nat} {x4 : Int} {R : Int × xT_} (tx4 : xin x4) (e : c179_95 r29 f x0 x3 x4 T = some R) : xok (f179_95 o29 f x0 x3 x4 M) (fun r => r.1 = R.1 ∧ xCX m M0 r.2 R.2 ∧ xin R.1) := by
  unfold c179_95 at e
  unfold f179_95
  exact hr29 h (xin_wr _) e
theorem t179_121 {m f : Nat} {M0 M : xj_M} {T : xT_} (hS : xHS f)   (h : xCX m M0 M T) {x3 : Nat} {R : Int × xT_}  (e : c179_121  f x3 T = some R) : xok (f179_121  f x3 M) (fun r => r.1 = R.1 ∧ xCX m M0 r.2 R.2 ∧ xin R.1) := by
  unfold c179_121 at e
  unfold f179_121
  obtain ⟨v101, q102, e⟩ := xbnd e
  refine xok_eqb (h.gi (by decide) (by decide) q102).1 ?_
  cases e
  exact ⟨_, rfl, rfl, h, (h.gi (by decide) (by decide) q102).2⟩
theorem t179_101 {m f : Nat} {M0 M : xj_M} {T : xT_} (hS : xHS f)   (h : xCX m M0 M T) {x0 : Nat} {x3 : Nat} {R : Int × xT_}  (e : c179_101  f x0 x3 T = some R) : xok (f179_101  f x0 x3 M) (fun r => r.1 = R.1 ∧ xCX m M0 r.2 R.2 ∧ xin R.1) := by
  unfold c179_101 at e
  unfold f179_101
  obtain ⟨v103, q104, e⟩ := xbnd e
  refine xok_eqb (h.gi (by decide) (by decide) q104).1 ?_
  refine xok_ite (fun c105 => ?_) (fun c105 => ?_)
  · rw [if_pos c105] at e
    exact t179_121  hS  h  e
  · rw [if_neg c105] at e
    obtain ⟨v106, q107, e⟩ := xbnd e
    refine xok_eqb (h.gr (by decide) (by decide) q107) ?_
    obtain ⟨T109, q108, e⟩ := xbnd e
    obtain ⟨M110, q111, h112⟩ := h.pr (by decide) (by decide)  q108
    refine xok_eqb q111 ?_
    obtain ⟨T114, q113, e⟩ := xbnd e
    obtain ⟨M115, q116, h117⟩ := h112.pr (by decide) (by decide)  q113
    refine xok_eqb q116 ?_
    exact t179_121  hS  h117  e
theorem t179_29b {m f : Nat} {M0 M : xj_M} {T : xT_} (hS : xHS f) {r29 : Nat → Nat → Int → xT_ → Option (Int × xT_)} {o29 : Nat → Nat → Int → xj_M → Option (Int × xj_M)} (hr29 : ∀ {M : xj_M} {T : xT_} {x0 : Nat} {x3 : Nat} {x4 : Int} {R : Int × xT_}, xCX m M0 M T → xin x4 → r29 x0 x3 x4 T = some R → xok (o29 x0 x3 x4 M) (fun r => r.1 = R.1 ∧ xCX m M0 r.2 R.2 ∧ xin R.1)) (h : xCX m M0 M T) {x0 : Nat} {x3 : Nat} {x4 : Int} {R : Int × xT_} (tx4 : xin x4) (e : c179_29b r29 f x0 x3 x4 T = some R) : xok (f179_29b o29 f x0 x3 x4 M) (fun r => r.1 = R.1 ∧ xCX m M0 r.2 R.2 ∧ xin R.1) := by
  unfold c179_29b at e
  unfold f179_29b
  refine xok_ite (fun c118 => ?_) (fun c118 => ?_)
  · rw [if_pos c118] at e
    exact t179_101  hS  h  e
  · rw [if_neg c118] at e
    obtain ⟨v119, q120, e⟩ := xbnd e
    refine xok_eqb (h.gr (by decide) (by decide) q120) ?_
    obtain ⟨_, q126, e⟩ := xbnd e
    obtain ⟨R121, e122, e⟩ := xbnd e
    refine xok_eqb (h.is q126) ?_
    refine xok_call (t132 hS h  e122) ?_
    rintro ⟨v_, M123⟩ ⟨hv_, h124, hi125⟩
    cases hv_
    refine xok_ite (fun c127 => ?_) (fun c127 => ?_)
    · rw [if_pos c127] at e
      exact t179_101  hS  h124  e
    · rw [if_neg c127] at e
      obtain ⟨v128, q129, e⟩ := xbnd e
      refine xok_eqb (h124.gr (by decide) (by decide) q129) ?_
      obtain ⟨v130, q131, e⟩ := xbnd e
      refine xok_eqb (h124.gr (by decide) (by decide) q131) ?_
      obtain ⟨_, q137, e⟩ := xbnd e
      obtain ⟨R132, e133, e⟩ := xbnd e
      refine xok_eqb (h124.is q137) ?_
      refine xok_call (t74 hS h124  e133) ?_
      rintro ⟨v_, M134⟩ ⟨hv_, h135, hi136⟩
      cases hv_
      refine xok_ite (fun c138 => ?_) (fun c138 => ?_)
      · rw [if_pos c138] at e
        exact t179_95 (r29 := r29) (o29 := o29) hS @hr29 h135 tx4 e
      · rw [if_neg c138] at e
        obtain ⟨v139, q140, e⟩ := xbnd e
        refine xok_eqb (h135.gi (by decide) (by decide) q140).1 ?_
        refine xok_ite (fun c141 => ?_) (fun c141 => ?_)
        · rw [if_pos c141] at e
          obtain ⟨v142, q143, e⟩ := xbnd e
          refine xok_eqb (h135.gr (by decide) (by decide) q143) ?_
          obtain ⟨v144, q145, e⟩ := xbnd e
          refine xok_eqb (h135.gr (by decide) (by decide) q145) ?_
          obtain ⟨_, q151, e⟩ := xbnd e
          obtain ⟨R146, e147, e⟩ := xbnd e
          refine xok_eqb (h135.is q151) ?_
          refine xok_call (t76 hS h135 (xin_wr _) (show xin (0) by decide) e147) ?_
          intro M148 h149
          exact t179_95 (r29 := r29) (o29 := o29) hS @hr29 h149 tx4 e
        · rw [if_neg c141] at e
          cases e
          exact ⟨_, rfl, rfl, h135, (show xin (-6000) by decide)⟩
theorem t179_29 {m f : Nat} {M0 : xj_M} (hS : xHS f)   : ∀ {n : Nat} {M : xj_M} {T : xT_} {x0 : Nat} {x3 : Nat} {x4 : Int} {R : Int × xT_}, xCX m M0 M T → xin x4 → c179_29  f n x0 x3 x4 T = some R → xok (f179_29  f n x0 x3 x4 M) (fun r => r.1 = R.1 ∧ xCX m M0 r.2 R.2 ∧ xin R.1) := by
  intro n
  induction n with
  | zero => intros; rename_i e; cases e
  | succ n ih =>
    intros
    rename_i h i0 e
    exact t179_29b hS  @ih h i0 e
theorem t179 {m f : Nat} {M0 M : xj_M} {T : xT_} (hS : xHS f) (h : xCX m M0 M T) {a0 : Nat} {a1 : Nat} {a2 : Nat} {R : Int × xT_}  (e : c179 f a0 a1 a2 T = some R) : xok (f179 f a0 a1 a2 M) (fun r => r.1 = R.1 ∧ xCX m M0 r.2 R.2 ∧ xin R.1) := by
  unfold c179 at e
  unfold f179
  obtain ⟨v152, q153, e⟩ := xbnd e
  refine xok_eqb (h.gr (by decide) (by decide) q153) ?_
  obtain ⟨v154, q155, e⟩ := xbnd e
  refine xok_eqb (h.gi (by decide) (by decide) q155).1 ?_
  obtain ⟨_, q161, e⟩ := xbnd e
  obtain ⟨R156, e157, e⟩ := xbnd e
  refine xok_eqb (h.is q161) ?_
  refine xok_call (t69 hS h (h.gi (by decide) (by decide) q155).2 e157) ?_
  intro M158 h159
  obtain ⟨v162, q163, e⟩ := xbnd e
  refine xok_eqb (h159.gr (by decide) (by decide) q163) ?_
  obtain ⟨v164, q165, e⟩ := xbnd e
  refine xok_eqb (h159.gr (by decide) (by decide) q165) ?_
  obtain ⟨_, q171, e⟩ := xbnd e
  obtain ⟨R166, e167, e⟩ := xbnd e
  refine xok_eqb (h159.is q171) ?_
  refine xok_call (t130 hS h159 (show xin (0) by decide) e167) ?_
  intro M168 h169
  exact t179_29  hS  h169 (show xin (0) by decide) e
-- ChangeHouse.change
theorem t1001_183 {m f : Nat} {M0 M : xj_M} {T : xT_} (hS : xHS f) {r140 : Nat → Nat → Int → xT_ → Option (Int × xT_)} {o140 : Nat → Nat → Int → xj_M → Option (Int × xj_M)} (hr140 : ∀ {M : xj_M} {T : xT_} {x0 : Nat} {x1 : Nat} {x5 : Int} {R : Int × xT_}, xCX m M0 M T → xin x5 → r140 x0 x1 x5 T = some R → xok (o140 x0 x1 x5 M) (fun r => r.1 = R.1 ∧ xCX m M0 r.2 R.2 ∧ xin R.1)) (h : xCX m M0 M T) {x0 : Nat} {x1 : Nat} {x5 : Int} {y0 : Int} {y1 : Int} {y2 : Nat} {R : Int × xT_} (tx5 : xin x5) (ty0 : xin y0) (ty1 : xin y1) (e : c1001_183 r140 f x0 x1 x5 y0 y1 y2 T = some R) : xok (f1001_183 o140 f x0 x1 x5 y0 y1 y2 M) (fun r => r.1 = R.1 ∧ xCX m M0 r.2 R.2 ∧ xin R.1) := by
  unfold c1001_183 at e
  unfold f1001_183
  obtain ⟨v101, q102, e⟩ := xbnd e
  refine xok_eqb (h.gr (by decide) (by decide) q102) ?_
  obtain ⟨v103, q104, e⟩ := xbnd e
  refine xok_eqb (h.gr (by decide) (by decide) q104) ?_
  obtain ⟨v105, q106, e⟩ := xbnd e
  refine xok_eqb (h.gr (by decide) (by decide) q106) ?_
  obtain ⟨v107, q108, e⟩ := xbnd e
  refine xok_eqb (h.gr (by decide) (by decide) q108) ?_
  obtain ⟨v109, q110, e⟩ := xbnd e
  refine xok_eqb (h.ai (by decide) q110).1 ?_
  obtain ⟨_, q116, e⟩ := xbnd e
  obtain ⟨R111, e112, e⟩ := xbnd e
  refine xok_eqb (h.is q116) ?_
  refine xok_call (t8 hS h ty1 ty0 (xin_wr _) (h.ai (by decide) q110).2 e112) ?_
  intro M113 h114
  exact hr140 h114 (xin_wr _) e
theorem t1001_140b {m f : Nat} {M0 M : xj_M} {T : xT_} (hS : xHS f) {r140 : Nat → Nat → Int → xT_ → Option (Int × xT_)} {o140 : Nat → Nat → Int → xj_M → Option (Int × xj_M)} (hr140 : ∀ {M : xj_M} {T : xT_} {x0 : Nat} {x1 : Nat} {x5 : Int} {R : Int × xT_}, xCX m M0 M T → xin x5 → r140 x0 x1 x5 T = some R → xok (o140 x0 x1 x5 M) (fun r => r.1 = R.1 ∧ xCX m M0 r.2 R.2 ∧ xin R.1)) (h : xCX m M0 M T) {x0 : Nat} {x1 : Nat} {x5 : Int} {R : Int × xT_} (tx5 : xin x5) (e : c1001_140b r140 f x0 x1 x5 T = some R) : xok (f1001_140b o140 f x0 x1 x5 M) (fun r => r.1 = R.1 ∧ xCX m M0 r.2 R.2 ∧ xin R.1) := by
  unfold c1001_140b at e
  unfold f1001_140b
  obtain ⟨v117, q118, e⟩ := xbnd e
  refine xok_eqb (h.gr (by decide) (by decide) q118) ?_
  obtain ⟨v119, q120, e⟩ := xbnd e
  refine xok_eqb (h.gi (by decide) (by decide) q120).1 ?_
  refine xok_ite (fun c121 => ?_) (fun c121 => ?_)
  · rw [if_pos c121] at e
    obtain ⟨v122, q123, e⟩ := xbnd e
    refine xok_eqb (h.gr (by decide) (by decide) q123) ?_
    obtain ⟨v124, q125, e⟩ := xbnd e
    refine xok_eqb (h.gi (by decide) (by decide) q125).1 ?_
    cases e
    exact ⟨_, rfl, rfl, h, (h.gi (by decide) (by decide) q125).2⟩
  · rw [if_neg c121] at e
    obtain ⟨v126, q127, e⟩ := xbnd e
    refine xok_eqb (h.gr (by decide) (by decide) q127) ?_
    obtain ⟨v128, q129, e⟩ := xbnd e
    refine xok_eqb (h.gr (by decide) (by decide) q129) ?_
    obtain ⟨v130, q131, e⟩ := xbnd e
    refine xok_eqb (h.ai (by decide) q131).1 ?_
    obtain ⟨v132, q133, e⟩ := xbnd e
    refine xok_eqb (h.gr (by decide) (by decide) q133) ?_
    obtain ⟨v134, q135, e⟩ := xbnd e
    refine xok_eqb (h.gr (by decide) (by decide) q135) ?_
    obtain ⟨v136, q137, e⟩ := xbnd e
    refine xok_eqb (h.ai (by decide) q137).1 ?_
    refine xok_ite (fun c138 => ?_) (fun c138 => ?_)
    · rw [if_pos c138] at e
      exact t1001_183 (r140 := r140) (o140 := o140) hS @hr140 h tx5 (show xin (0) by decide) (h.ai (by decide) q131).2 e
    · rw [if_neg c138] at e
      exact t1001_183 (r140 := r140) (o140 := o140) hS @hr140 h tx5 (show xin (1) by decide) (h.ai (by decide) q131).2 e
theorem t1001_140 {m f : Nat} {M0 : xj_M} (hS : xHS f)   : ∀ {n : Nat} {M : xj_M} {T : xT_} {x0 : Nat} {x1 : Nat} {x5 : Int} {R : Int × xT_}, xCX m M0 M T → xin x5 → c1001_140  f n x0 x1 x5 T = some R → xok (f1001_140  f n x0 x1 x5 M) (fun r => r.1 = R.1 ∧ xCX m M0 r.2 R.2 ∧ xin R.1) := by
  intro n
  induction n with
  | zero => intros; rename_i e; cases e
  | succ n ih =>
    intros
    rename_i h i0 e
    exact t1001_140b hS  @ih h i0 e
theorem t1001_61 {m f : Nat} {M0 M : xj_M} {T : xT_} (hS : xHS f)   (h : xCX m M0 M T) {x0 : Nat} {x1 : Nat} {x3 : Int} {R : Int × xT_} (tx3 : xin x3) (e : c1001_61  f x0 x1 x3 T = some R) : xok (f1001_61  f x0 x1 x3 M) (fun r => r.1 = R.1 ∧ xCX m M0 r.2 R.2 ∧ xin R.1) := by
  unfold c1001_61 at e
  unfold f1001_61
  obtain ⟨v139, q140, e⟩ := xbnd e
  refine xok_eqb (h.gr (by decide) (by decide) q140) ?_
  obtain ⟨T142, q141, e⟩ := xbnd e
  obtain ⟨M143, q144, h145⟩ := h.pi (by decide) (by decide) (show xin (0) by decide) q141
  refine xok_eqb q144 ?_
  refine xok_ite (fun c146 => ?_) (fun c146 => ?_)
  · rw [if_pos c146] at e
    obtain ⟨v147, q148, e⟩ := xbnd e
    refine xok_eqb (h145.gr (by decide) (by decide) q148) ?_
    obtain ⟨_, q154, e⟩ := xbnd e
    obtain ⟨R149, e150, e⟩ := xbnd e
    refine xok_eqb (h145.is q154) ?_
    refine xok_call (t64 hS h145  e150) ?_
    rintro ⟨v_, M151⟩ ⟨hv_, h152, hi153⟩
    cases hv_
    refine xok_ite (fun c155 => ?_) (fun c155 => ?_)
    · rw [if_pos c155] at e
      obtain ⟨v156, q157, e⟩ := xbnd e
      refine xok_eqb (h152.gi (by decide) (by decide) q157).1 ?_
      obtain ⟨v158, q159, e⟩ := xbnd e
      refine xok_eqb (h152.gr (by decide) (by decide) q159) ?_
      obtain ⟨v160, q161, e⟩ := xbnd e
      refine xok_eqb (h152.gi (by decide) (by decide) q161).1 ?_
      refine xok_ite (fun c162 => ?_) (fun c162 => ?_)
      · rw [if_pos c162] at e
        exact t1001_140  hS  h152 (show xin (0) by decide) e
      · rw [if_neg c162] at e
        cases e
        exact ⟨_, rfl, rfl, h152, (show xin (-6000) by decide)⟩
    · rw [if_neg c155] at e
      obtain ⟨v163, q164, e⟩ := xbnd e
      refine xok_eqb (h152.gr (by decide) (by decide) q164) ?_
      obtain ⟨v165, q166, e⟩ := xbnd e
      refine xok_eqb (h152.gi (by decide) (by decide) q166).1 ?_
      obtain ⟨T168, q167, e⟩ := xbnd e
      obtain ⟨M169, q170, h171⟩ := h152.pi (by decide) (by decide) (h152.gi (by decide) (by decide) q166).2 q167
      refine xok_eqb q170 ?_
      cases e
      exact ⟨_, rfl, rfl, h171, (xin_wr _)⟩
  · rw [if_neg c146] at e
    obtain ⟨v172, q173, e⟩ := xbnd e
    refine xok_eqb (h145.gr (by decide) (by decide) q173) ?_
    obtain ⟨v174, q175, e⟩ := xbnd e
    refine xok_eqb (h145.gi (by decide) (by decide) q175).1 ?_
    cases e
    exact ⟨_, rfl, rfl, h145, (xin_wr _)⟩
theorem t1001_36 {m f : Nat} {M0 M : xj_M} {T : xT_} (hS : xHS f)   (h : xCX m M0 M T) {x0 : Nat} {x1 : Nat} {y0 : Nat} {R : Int × xT_}  (e : c1001_36  f x0 x1 y0 T = some R) : xok (f1001_36  f x0 x1 y0 M) (fun r => r.1 = R.1 ∧ xCX m M0 r.2 R.2 ∧ xin R.1) := by
  unfold c1001_36 at e
  unfold f1001_36
  obtain ⟨v176, q177, e⟩ := xbnd e
  refine xok_eqb (h.gr (by decide) (by decide) q177) ?_
  obtain ⟨_, q183, e⟩ := xbnd e
  obtain ⟨R178, e179, e⟩ := xbnd e
  refine xok_eqb (h.is q183) ?_
  refine xok_call (t112 hS h  e179) ?_
  intro M180 h181
  obtain ⟨v184, q185, e⟩ := xbnd e
  refine xok_eqb (h181.gr (by decide) (by decide) q185) ?_
  obtain ⟨_, q191, e⟩ := xbnd e
  obtain ⟨R186, e187, e⟩ := xbnd e
  refine xok_eqb (h181.is q191) ?_
  refine xok_call (t32 hS h181  e187) ?_
  rintro ⟨v_, M188⟩ ⟨hv_, h189⟩
  cases hv_
  dsimp only
  cases g193 : R186.1 with
  | inl k_ =>
    obtain ⟨k2_, e⟩ := chd_l g193 e
    rw [xhd_e (by exact g193) k2_]
    exact t1001_61  hS  h189 (show xin (0) by decide) e
  | inr v192 =>
    rw [chd_r g193] at e
    rw [xhd_r (by exact g193)]
    exact t1001_61  hS  h189 (show xin (1) by decide) e
theorem t1001 {m f : Nat} {M0 M : xj_M} {T : xT_} (hS : xHS f) (h : xCX m M0 M T) {a0 : Nat} {R : Int × xT_}  (e : c1001 f a0 T = some R) : xok (f1001 f a0 M) (fun r => r.1 = R.1 ∧ xCX m M0 r.2 R.2 ∧ xin R.1) := by
  unfold c1001 at e
  unfold f1001
  obtain ⟨T195, q194, e⟩ := xbnd e
  obtain ⟨M196, q197, h198⟩ := h.pi (by decide) (by decide) (show xin (-1) by decide) q194
  refine xok_eqb q197 ?_
  obtain ⟨v199, q200, e⟩ := xbnd e
  refine xok_eqb (h198.gr (by decide) (by decide) q200) ?_
  obtain ⟨v201, q202, e⟩ := xbnd e
  refine xok_eqb (h198.gi (by decide) (by decide) q202).1 ?_
  obtain ⟨v203, q204, e⟩ := xbnd e
  refine xok_eqb (h198.ar q204) ?_
  obtain ⟨v205, q206, e⟩ := xbnd e
  refine xok_eqb (h198.gr (by decide) (by decide) q206) ?_
  refine xok_ite (fun c207 => ?_) (fun c207 => ?_)
  · rw [if_pos c207] at e
    obtain ⟨_, q213, e⟩ := xbnd e
    obtain ⟨R208, e209, e⟩ := xbnd e
    refine xok_eqb (h198.is q213) ?_
    refine xok_call (t5 hS h198  e209) ?_
    rintro ⟨v_, M210⟩ ⟨hv_, h211⟩
    cases hv_
    obtain ⟨v214, q215, e⟩ := xbnd e
    refine xok_eqb (h211.gr (by decide) (by decide) q215) ?_
    exact t1001_36  hS  h211  e
  · rw [if_neg c207] at e
    obtain ⟨v216, q217, e⟩ := xbnd e
    refine xok_eqb (h198.gr (by decide) (by decide) q217) ?_
    exact t1001_36  hS  h198  e
-- ChangeHouse.cell
theorem t1002_41 {m f : Nat} {M0 M : xj_M} {T : xT_} (hS : xHS f)   (h : xCX m M0 M T) {x0 : Nat} {R : Int × xT_}  (e : c1002_41  f x0 T = some R) : xok (f1002_41  f x0 M) (fun r => r.1 = R.1 ∧ xCX m M0 r.2 R.2 ∧ xin R.1) := by
  unfold c1002_41 at e
  unfold f1002_41
  obtain ⟨v101, q102, e⟩ := xbnd e
  refine xok_eqb (h.gr (by decide) (by decide) q102) ?_
  obtain ⟨v103, q104, e⟩ := xbnd e
  refine xok_eqb (h.gi (by decide) (by decide) q104).1 ?_
  cases e
  exact ⟨_, rfl, rfl, h, (xin_wr _)⟩
theorem t1002_25 {m f : Nat} {M0 M : xj_M} {T : xT_} (hS : xHS f)   (h : xCX m M0 M T) {x0 : Nat} {x1 : Int} {x2 : Int} {R : Int × xT_} (tx1 : xin x1) (tx2 : xin x2) (e : c1002_25  f x0 x1 x2 T = some R) : xok (f1002_25  f x0 x1 x2 M) (fun r => r.1 = R.1 ∧ xCX m M0 r.2 R.2 ∧ xin R.1) := by
  unfold c1002_25 at e
  unfold f1002_25
  obtain ⟨v105, q106, e⟩ := xbnd e
  refine xok_eqb (h.gr (by decide) (by decide) q106) ?_
  obtain ⟨T108, q107, e⟩ := xbnd e
  obtain ⟨M109, q110, h111⟩ := h.pi (by decide) (by decide) (show xin (0) by decide) q107
  refine xok_eqb q110 ?_
  refine xok_ite (fun c112 => ?_) (fun c112 => ?_)
  · rw [if_pos c112] at e
    exact t1002_41  hS  h111  e
  · rw [if_neg c112] at e
    refine xok_ite (fun c113 => ?_) (fun c113 => ?_)
    · rw [if_pos c113] at e
      obtain ⟨v114, q115, e⟩ := xbnd e
      refine xok_eqb (h111.gr (by decide) (by decide) q115) ?_
      obtain ⟨v116, q117, e⟩ := xbnd e
      refine xok_eqb (h111.gi (by decide) (by decide) q117).1 ?_
      obtain ⟨v118, q119, e⟩ := xbnd e
      refine xok_eqb (h111.ar q119) ?_
      obtain ⟨v120, q121, e⟩ := xbnd e
      refine xok_eqb (h111.gr (by decide) (by decide) q121) ?_
      obtain ⟨T123, q122, e⟩ := xbnd e
      obtain ⟨M124, q125, h126⟩ := h111.sb  q122
      refine xok_eqb q125 ?_
      obtain ⟨v127, q128, e⟩ := xbnd e
      refine xok_eqb (h126.gr (by decide) (by decide) q128) ?_
      obtain ⟨v129, q130, e⟩ := xbnd e
      refine xok_eqb (h126.gr (by decide) (by decide) q130) ?_
      obtain ⟨v131, q132, e⟩ := xbnd e
      refine xok_eqb (h126.gr (by decide) (by decide) q132) ?_
      obtain ⟨T134, q133, e⟩ := xbnd e
      obtain ⟨M135, q136, h137⟩ := h126.sr  q133
      refine xok_eqb q136 ?_
      cases e
      exact ⟨_, rfl, rfl, h137, tx2⟩
    · rw [if_neg c113] at e
      exact t1002_41  hS  h111  e
theorem t1002 {m f : Nat} {M0 M : xj_M} {T : xT_} (hS : xHS f) (h : xCX m M0 M T) {a0 : Nat} {R : Int × xT_}  (e : c1002 f a0 T = some R) : xok (f1002 f a0 M) (fun r => r.1 = R.1 ∧ xCX m M0 r.2 R.2 ∧ xin R.1) := by
  unfold c1002 at e
  unfold f1002
  obtain ⟨v138, q139, e⟩ := xbnd e
  refine xok_eqb (h.gr (by decide) (by decide) q139) ?_
  obtain ⟨_, q145, e⟩ := xbnd e
  obtain ⟨R140, e141, e⟩ := xbnd e
  refine xok_eqb (h.is q145) ?_
  refine xok_call (t112 hS h  e141) ?_
  intro M142 h143
  obtain ⟨v146, q147, e⟩ := xbnd e
  refine xok_eqb (h143.gr (by decide) (by decide) q147) ?_
  obtain ⟨_, q153, e⟩ := xbnd e
  obtain ⟨R148, e149, e⟩ := xbnd e
  refine xok_eqb (h143.is q153) ?_
  refine xok_call (t33 hS h143  e149) ?_
  rintro ⟨v_, M150⟩ ⟨hv_, h151, hi152⟩
  cases hv_
  dsimp only
  cases g155 : R148.1 with
  | inl k_ =>
    obtain ⟨k2_, e⟩ := chd_l g155 e
    rw [xhd_e (by exact g155) k2_]
    exact t1002_25  hS  h151 (show xin (0) by decide) (show xin (-1) by decide) e
  | inr v154 =>
    rw [chd_r g155] at e
    rw [xhd_r (by exact g155)]
    exact t1002_25  hS  h151 (show xin (1) by decide) (hi152 _ g155) e
-- ChangeHouse$Reader.readQuery
theorem t31_90 {m f : Nat} {M0 M : xj_M} {T : xT_} (hS : xHS f)   (h : xCX m M0 M T) {x0 : Nat} {R : (Nat ⊕ Unit) × xT_}  (e : c31_90  f x0 T = some R) : xok (f31_90  f x0 M) (fun r => r.1 = R.1 ∧ xCX m M0 r.2 R.2) := by
  unfold c31_90 at e
  unfold f31_90
  obtain ⟨v101, q102, e⟩ := xbnd e
  refine xok_eqb (h.gr (by decide) (by decide) q102) ?_
  obtain ⟨v103, q104, e⟩ := xbnd e
  refine xok_eqb (h.gr (by decide) (by decide) q104) ?_
  obtain ⟨v105, q106, e⟩ := xbnd e
  refine xok_eqb (h.gr (by decide) (by decide) q106) ?_
  obtain ⟨v107, q108, e⟩ := xbnd e
  refine xok_eqb (h.gi (by decide) (by decide) q108).1 ?_
  obtain ⟨_, q114, e⟩ := xbnd e
  obtain ⟨R109, e110, e⟩ := xbnd e
  refine xok_eqb (h.is q114) ?_
  refine xok_call (t88 hS h (h.gi (by decide) (by decide) q108).2 e110) ?_
  intro M111 h112
  cases e
  exact ⟨_, rfl, rfl, h112⟩
theorem t31_53 {m f : Nat} {M0 M : xj_M} {T : xT_} (hS : xHS f)   (h : xCX m M0 M T) {x0 : Nat} {R : (Nat ⊕ Unit) × xT_}  (e : c31_53  f x0 T = some R) : xok (f31_53  f x0 M) (fun r => r.1 = R.1 ∧ xCX m M0 r.2 R.2) := by
  unfold c31_53 at e
  unfold f31_53
  obtain ⟨_, q120, e⟩ := xbnd e
  obtain ⟨R115, e116, e⟩ := xbnd e
  refine xok_eqb (h.is q120) ?_
  refine xok_call (t38 hS h (show xin (46) by decide) e116) ?_
  rintro ⟨v_, M117⟩ ⟨hv_, h118⟩
  cases hv_
  dsimp only
  cases g122 : R115.1 with
  | inl k_ =>
    rw [cth_l g122] at e; cases e
    rw [xth_l (by exact g122)]
    exact ⟨_, rfl, rfl, h118⟩
  | inr v121 =>
    rw [cth_r g122] at e
    rw [xth_r (by exact g122)]
    obtain ⟨v123, q124, e⟩ := xbnd e
    refine xok_eqb (h118.gr (by decide) (by decide) q124) ?_
    obtain ⟨v125, q126, e⟩ := xbnd e
    refine xok_eqb (h118.gr (by decide) (by decide) q126) ?_
    obtain ⟨v127, q128, e⟩ := xbnd e
    refine xok_eqb (h118.gi (by decide) (by decide) q128).1 ?_
    obtain ⟨v129, q130, e⟩ := xbnd e
    refine xok_eqb (h118.ai (by decide) q130).1 ?_
    refine xok_ite (fun c131 => ?_) (fun c131 => ?_)
    · rw [if_pos c131] at e
      exact t31_90  hS  h118  e
    · rw [if_neg c131] at e
      obtain ⟨v132, q133, e⟩ := xbnd e
      refine xok_eqb (h118.gr (by decide) (by decide) q133) ?_
      obtain ⟨v134, q135, e⟩ := xbnd e
      refine xok_eqb (h118.gr (by decide) (by decide) q135) ?_
      obtain ⟨v136, q137, e⟩ := xbnd e
      refine xok_eqb (h118.gi (by decide) (by decide) q137).1 ?_
      obtain ⟨v138, q139, e⟩ := xbnd e
      refine xok_eqb (h118.ai (by decide) q139).1 ?_
      obtain ⟨_, q145, e⟩ := xbnd e
      obtain ⟨R140, e141, e⟩ := xbnd e
      refine xok_eqb (h118.is q145) ?_
      refine xok_call (t36 hS h118 (h118.ai (by decide) q139).2 e141) ?_
      rintro ⟨v_, M142⟩ ⟨hv_, h143⟩
      cases hv_
      dsimp only
      cases g147 : R140.1 with
      | inl k_ =>
        rw [cth_l g147] at e; cases e
        rw [xth_l (by exact g147)]
        exact ⟨_, rfl, rfl, h143⟩
      | inr v146 =>
        rw [cth_r g147] at e
        rw [xth_r (by exact g147)]
        exact t31_90  hS  h143  e
theorem t31_16b {m f : Nat} {M0 M : xj_M} {T : xT_} (hS : xHS f) {r16 : Nat → Int → xT_ → Option ((Nat ⊕ Unit) × xT_)} {o16 : Nat → Int → xj_M → Option ((Nat ⊕ Unit) × xj_M)} (hr16 : ∀ {M : xj_M} {T : xT_} {x0 : Nat} {x2 : Int} {R : (Nat ⊕ Unit) × xT_}, xCX m M0 M T → xin x2 → r16 x0 x2 T = some R → xok (o16 x0 x2 M) (fun r => r.1 = R.1 ∧ xCX m M0 r.2 R.2)) (h : xCX m M0 M T) {x0 : Nat} {x2 : Int} {R : (Nat ⊕ Unit) × xT_} (tx2 : xin x2) (e : c31_16b r16 f x0 x2 T = some R) : xok (f31_16b o16 f x0 x2 M) (fun r => r.1 = R.1 ∧ xCX m M0 r.2 R.2) := by
  unfold c31_16b at e
  unfold f31_16b
  refine xok_ite (fun c148 => ?_) (fun c148 => ?_)
  · rw [if_pos c148] at e
    exact t31_53  hS  h  e
  · rw [if_neg c148] at e
    obtain ⟨v149, q150, e⟩ := xbnd e
    refine xok_eqb (h.gr (by decide) (by decide) q150) ?_
    obtain ⟨v151, q152, e⟩ := xbnd e
    refine xok_eqb (h.gr (by decide) (by decide) q152) ?_
    obtain ⟨v153, q154, e⟩ := xbnd e
    refine xok_eqb (h.gi (by decide) (by decide) q154).1 ?_
    obtain ⟨v155, q156, e⟩ := xbnd e
    refine xok_eqb (h.ai (by decide) q156).1 ?_
    refine xok_ite (fun c157 => ?_) (fun c157 => ?_)
    · rw [if_pos c157] at e
      exact t31_53  hS  h  e
    · rw [if_neg c157] at e
      obtain ⟨_, q163, e⟩ := xbnd e
      obtain ⟨R158, e159, e⟩ := xbnd e
      refine xok_eqb (h.is q163) ?_
      refine xok_call (t37 hS h  e159) ?_
      intro M160 h161
      obtain ⟨_, q169, e⟩ := xbnd e
      obtain ⟨R164, e165, e⟩ := xbnd e
      refine xok_eqb (h161.is q169) ?_
      refine xok_call (t45 hS h161  e165) ?_
      rintro ⟨v_, M166⟩ ⟨hv_, h167⟩
      cases hv_
      dsimp only
      cases g171 : R164.1 with
      | inl k_ =>
        rw [cth_l g171] at e; cases e
        rw [xth_l (by exact g171)]
        exact ⟨_, rfl, rfl, h167⟩
      | inr v170 =>
        rw [cth_r g171] at e
        rw [xth_r (by exact g171)]
        exact hr16 h167 (xin_wr _) e
theorem t31_16 {m f : Nat} {M0 : xj_M} (hS : xHS f)   : ∀ {n : Nat} {M : xj_M} {T : xT_} {x0 : Nat} {x2 : Int} {R : (Nat ⊕ Unit) × xT_}, xCX m M0 M T → xin x2 → c31_16  f n x0 x2 T = some R → xok (f31_16  f n x0 x2 M) (fun r => r.1 = R.1 ∧ xCX m M0 r.2 R.2) := by
  intro n
  induction n with
  | zero => intros; rename_i e; cases e
  | succ n ih =>
    intros
    rename_i h i0 e
    exact t31_16b hS  @ih h i0 e
theorem t31 {m f : Nat} {M0 M : xj_M} {T : xT_} (hS : xHS f) (h : xCX m M0 M T) {a0 : Nat} {a1 : Nat} {R : (Nat ⊕ Unit) × xT_}  (e : c31 f a0 a1 T = some R) : xok (f31 f a0 a1 M) (fun r => r.1 = R.1 ∧ xCX m M0 r.2 R.2) := by
  unfold c31 at e
  unfold f31
  obtain ⟨_, q177, e⟩ := xbnd e
  obtain ⟨R172, e173, e⟩ := xbnd e
  refine xok_eqb (h.is q177) ?_
  refine xok_call (t34 hS h (show xin (0) by decide) e173) ?_
  intro M174 h175
  obtain ⟨_, q183, e⟩ := xbnd e
  obtain ⟨R178, e179, e⟩ := xbnd e
  refine xok_eqb (h175.is q183) ?_
  refine xok_call (t35 hS h175  e179) ?_
  intro M180 h181
  obtain ⟨_, q189, e⟩ := xbnd e
  obtain ⟨R184, e185, e⟩ := xbnd e
  refine xok_eqb (h181.is q189) ?_
  refine xok_call (t45 hS h181  e185) ?_
  rintro ⟨v_, M186⟩ ⟨hv_, h187⟩
  cases hv_
  dsimp only
  cases g191 : R184.1 with
  | inl k_ =>
    rw [cth_l g191] at e; cases e
    rw [xth_l (by exact g191)]
    exact ⟨_, rfl, rfl, h187⟩
  | inr v190 =>
    rw [cth_r g191] at e
    rw [xth_r (by exact g191)]
    exact t31_16  hS  h187 (show xin (0) by decide) e
-- ChangeHouse$Reader.readRule
theorem t43_208 {m f : Nat} {M0 M : xj_M} {T : xT_} (hS : xHS f)   (h : xCX m M0 M T) {x0 : Nat} {R : (Nat ⊕ Unit) × xT_}  (e : c43_208  f x0 T = some R) : xok (f43_208  f x0 M) (fun r => r.1 = R.1 ∧ xCX m M0 r.2 R.2) := by
  unfold c43_208 at e
  unfold f43_208
  obtain ⟨_, q106, e⟩ := xbnd e
  obtain ⟨R101, e102, e⟩ := xbnd e
  refine xok_eqb (h.is q106) ?_
  refine xok_call (t38 hS h (show xin (46) by decide) e102) ?_
  rintro ⟨v_, M103⟩ ⟨hv_, h104⟩
  cases hv_
  dsimp only
  cases g108 : R101.1 with
  | inl k_ =>
    rw [cth_l g108] at e; cases e
    rw [xth_l (by exact g108)]
    exact ⟨_, rfl, rfl, h104⟩
  | inr v107 =>
    rw [cth_r g108] at e
    rw [xth_r (by exact g108)]
    obtain ⟨v109, q110, e⟩ := xbnd e
    refine xok_eqb (h104.gr (by decide) (by decide) q110) ?_
    obtain ⟨v111, q112, e⟩ := xbnd e
    refine xok_eqb (h104.gr (by decide) (by decide) q112) ?_
    obtain ⟨v113, q114, e⟩ := xbnd e
    refine xok_eqb (h104.gr (by decide) (by decide) q114) ?_
    obtain ⟨v115, q116, e⟩ := xbnd e
    refine xok_eqb (h104.gi (by decide) (by decide) q116).1 ?_
    obtain ⟨_, q122, e⟩ := xbnd e
    obtain ⟨R117, e118, e⟩ := xbnd e
    refine xok_eqb (h104.is q122) ?_
    refine xok_call (t88 hS h104 (h104.gi (by decide) (by decide) q116).2 e118) ?_
    intro M119 h120
    obtain ⟨v123, q124, e⟩ := xbnd e
    refine xok_eqb (h120.gr (by decide) (by decide) q124) ?_
    obtain ⟨v125, q126, e⟩ := xbnd e
    refine xok_eqb (h120.gr (by decide) (by decide) q126) ?_
    obtain ⟨v127, q128, e⟩ := xbnd e
    refine xok_eqb (h120.gr (by decide) (by decide) q128) ?_
    obtain ⟨v129, q130, e⟩ := xbnd e
    refine xok_eqb (h120.gi (by decide) (by decide) q130).1 ?_
    obtain ⟨v131, q132, e⟩ := xbnd e
    refine xok_eqb (h120.gr (by decide) (by decide) q132) ?_
    obtain ⟨T134, q133, e⟩ := xbnd e
    obtain ⟨M135, q136, h137⟩ := h120.sr  q133
    refine xok_eqb q136 ?_
    obtain ⟨v138, q139, e⟩ := xbnd e
    refine xok_eqb (h137.gr (by decide) (by decide) q139) ?_
    obtain ⟨v140, q141, e⟩ := xbnd e
    refine xok_eqb (h137.gi (by decide) (by decide) q141).1 ?_
    obtain ⟨T143, q142, e⟩ := xbnd e
    obtain ⟨M144, q145, h146⟩ := h137.pi (by decide) (by decide) (xin_wr _) q142
    refine xok_eqb q145 ?_
    cases e
    exact ⟨_, rfl, rfl, h146⟩
theorem t43_169b {m f : Nat} {M0 M : xj_M} {T : xT_} (hS : xHS f) {r169 : Nat → Int → Int → xT_ → Option ((Nat ⊕ Unit) × xT_)} {o169 : Nat → Int → Int → xj_M → Option ((Nat ⊕ Unit) × xj_M)} (hr169 : ∀ {M : xj_M} {T : xT_} {x0 : Nat} {x2 : Int} {x3 : Int} {R : (Nat ⊕ Unit) × xT_}, xCX m M0 M T → xin x2 → xin x3 → r169 x0 x2 x3 T = some R → xok (o169 x0 x2 x3 M) (fun r => r.1 = R.1 ∧ xCX m M0 r.2 R.2)) (h : xCX m M0 M T) {x0 : Nat} {x2 : Int} {x3 : Int} {R : (Nat ⊕ Unit) × xT_} (tx2 : xin x2) (tx3 : xin x3) (e : c43_169b r169 f x0 x2 x3 T = some R) : xok (f43_169b o169 f x0 x2 x3 M) (fun r => r.1 = R.1 ∧ xCX m M0 r.2 R.2) := by
  unfold c43_169b at e
  unfold f43_169b
  refine xok_ite (fun c147 => ?_) (fun c147 => ?_)
  · rw [if_pos c147] at e
    exact t43_208  hS  h  e
  · rw [if_neg c147] at e
    obtain ⟨v148, q149, e⟩ := xbnd e
    refine xok_eqb (h.gr (by decide) (by decide) q149) ?_
    obtain ⟨v150, q151, e⟩ := xbnd e
    refine xok_eqb (h.gr (by decide) (by decide) q151) ?_
    obtain ⟨v152, q153, e⟩ := xbnd e
    refine xok_eqb (h.gi (by decide) (by decide) q153).1 ?_
    obtain ⟨v154, q155, e⟩ := xbnd e
    refine xok_eqb (h.ai (by decide) q155).1 ?_
    refine xok_ite (fun c156 => ?_) (fun c156 => ?_)
    · rw [if_pos c156] at e
      exact t43_208  hS  h  e
    · rw [if_neg c156] at e
      obtain ⟨_, q162, e⟩ := xbnd e
      obtain ⟨R157, e158, e⟩ := xbnd e
      refine xok_eqb (h.is q162) ?_
      refine xok_call (t37 hS h  e158) ?_
      intro M159 h160
      obtain ⟨_, q168, e⟩ := xbnd e
      obtain ⟨R163, e164, e⟩ := xbnd e
      refine xok_eqb (h160.is q168) ?_
      refine xok_call (t45 hS h160  e164) ?_
      rintro ⟨v_, M165⟩ ⟨hv_, h166⟩
      cases hv_
      dsimp only
      cases g170 : R163.1 with
      | inl k_ =>
        rw [cth_l g170] at e; cases e
        rw [xth_l (by exact g170)]
        exact ⟨_, rfl, rfl, h166⟩
      | inr v169 =>
        rw [cth_r g170] at e
        rw [xth_r (by exact g170)]
        exact hr169 h166 (show xin (44) by decide) (xin_wr _) e
theorem t43_169 {m f : Nat} {M0 : xj_M} (hS : xHS f)   : ∀ {n : Nat} {M : xj_M} {T : xT_} {x0 : Nat} {x2 : Int} {x3 : Int} {R : (Nat ⊕ Unit) × xT_}, xCX m M0 M T → xin x2 → xin x3 → c43_169  f n x0 x2 x3 T = some R → xok (f43_169  f n x0 x2 x3 M) (fun r => r.1 = R.1 ∧ xCX m M0 r.2 R.2) := by
  intro n
  induction n with
  | zero => intros; rename_i e; cases e
  | succ n ih =>
    intros
    rename_i h i0 i1 e
    exact t43_169b hS  @ih h i0 i1 e
theorem t43_99 {m f : Nat} {M0 M : xj_M} {T : xT_} (hS : xHS f)   (h : xCX m M0 M T) {x0 : Nat} {x1 : Int} {R : (Nat ⊕ Unit) × xT_} (tx1 : xin x1) (e : c43_99  f x0 x1 T = some R) : xok (f43_99  f x0 x1 M) (fun r => r.1 = R.1 ∧ xCX m M0 r.2 R.2) := by
  unfold c43_99 at e
  unfold f43_99
  obtain ⟨_, q176, e⟩ := xbnd e
  obtain ⟨R171, e172, e⟩ := xbnd e
  refine xok_eqb (h.is q176) ?_
  refine xok_call (t38 hS h (show xin (41) by decide) e172) ?_
  rintro ⟨v_, M173⟩ ⟨hv_, h174⟩
  cases hv_
  dsimp only
  cases g178 : R171.1 with
  | inl k_ =>
    rw [cth_l g178] at e; cases e
    rw [xth_l (by exact g178)]
    exact ⟨_, rfl, rfl, h174⟩
  | inr v177 =>
    rw [cth_r g178] at e
    rw [xth_r (by exact g178)]
    obtain ⟨v179, q180, e⟩ := xbnd e
    refine xok_eqb (h174.gr (by decide) (by decide) q180) ?_
    obtain ⟨v181, q182, e⟩ := xbnd e
    refine xok_eqb (h174.gi (by decide) (by decide) q182).1 ?_
    obtain ⟨v183, q184, e⟩ := xbnd e
    refine xok_eqb (h174.gr (by decide) (by decide) q184) ?_
    obtain ⟨v185, q186, e⟩ := xbnd e
    refine xok_eqb (h174.gi (by decide) (by decide) q186).1 ?_
    obtain ⟨_, q192, e⟩ := xbnd e
    obtain ⟨R187, e188, e⟩ := xbnd e
    refine xok_eqb (h174.is q192) ?_
    refine xok_call (t40 hS h174 (show xin (14) by decide) (h174.gi (by decide) (by decide) q182).2 tx1 (h174.gi (by decide) (by decide) q186).2 e188) ?_
    intro M189 h190
    obtain ⟨v193, q194, e⟩ := xbnd e
    refine xok_eqb (h190.gr (by decide) (by decide) q194) ?_
    obtain ⟨v195, q196, e⟩ := xbnd e
    refine xok_eqb (h190.gr (by decide) (by decide) q196) ?_
    obtain ⟨v197, q198, e⟩ := xbnd e
    refine xok_eqb (h190.gr (by decide) (by decide) q198) ?_
    obtain ⟨v199, q200, e⟩ := xbnd e
    refine xok_eqb (h190.gi (by decide) (by decide) q200).1 ?_
    obtain ⟨T202, q201, e⟩ := xbnd e
    obtain ⟨M203, q204, h205⟩ := h190.sb  q201
    refine xok_eqb q204 ?_
    obtain ⟨v206, q207, e⟩ := xbnd e
    refine xok_eqb (h205.gr (by decide) (by decide) q207) ?_
    obtain ⟨v208, q209, e⟩ := xbnd e
    refine xok_eqb (h205.gr (by decide) (by decide) q209) ?_
    obtain ⟨v210, q211, e⟩ := xbnd e
    refine xok_eqb (h205.gi (by decide) (by decide) q211).1 ?_
    obtain ⟨v212, q213, e⟩ := xbnd e
    refine xok_eqb (h205.gr (by decide) (by decide) q213) ?_
    obtain ⟨v214, q215, e⟩ := xbnd e
    refine xok_eqb (h205.gi (by decide) (by decide) q215).1 ?_
    obtain ⟨_, q221, e⟩ := xbnd e
    obtain ⟨R216, e217, e⟩ := xbnd e
    refine xok_eqb (h205.is q221) ?_
    refine xok_call (t23 hS h205 (h205.gi (by decide) (by decide) q211).2 (h205.gi (by decide) (by decide) q215).2 e217) ?_
    intro M218 h219
    exact t43_169  hS  h219 (show xin (256) by decide) (show xin (0) by decide) e
theorem t43_64b {m f : Nat} {M0 M : xj_M} {T : xT_} (hS : xHS f) {r64 : Nat → Int → xT_ → Option ((Nat ⊕ Unit) × xT_)} {o64 : Nat → Int → xj_M → Option ((Nat ⊕ Unit) × xj_M)} (hr64 : ∀ {M : xj_M} {T : xT_} {x0 : Nat} {x1 : Int} {R : (Nat ⊕ Unit) × xT_}, xCX m M0 M T → xin x1 → r64 x0 x1 T = some R → xok (o64 x0 x1 M) (fun r => r.1 = R.1 ∧ xCX m M0 r.2 R.2)) (h : xCX m M0 M T) {x0 : Nat} {x1 : Int} {R : (Nat ⊕ Unit) × xT_} (tx1 : xin x1) (e : c43_64b r64 f x0 x1 T = some R) : xok (f43_64b o64 f x0 x1 M) (fun r => r.1 = R.1 ∧ xCX m M0 r.2 R.2) := by
  unfold c43_64b at e
  unfold f43_64b
  obtain ⟨_, q227, e⟩ := xbnd e
  obtain ⟨R222, e223, e⟩ := xbnd e
  refine xok_eqb (h.is q227) ?_
  refine xok_call (t44 hS h  e223) ?_
  rintro ⟨v_, M224⟩ ⟨hv_, h225⟩
  cases hv_
  dsimp only
  cases g229 : R222.1 with
  | inl k_ =>
    rw [cth_l g229] at e; cases e
    rw [xth_l (by exact g229)]
    exact ⟨_, rfl, rfl, h225⟩
  | inr v228 =>
    rw [cth_r g229] at e
    rw [xth_r (by exact g229)]
    obtain ⟨v230, q231, e⟩ := xbnd e
    refine xok_eqb (h225.gr (by decide) (by decide) q231) ?_
    obtain ⟨v232, q233, e⟩ := xbnd e
    refine xok_eqb (h225.gi (by decide) (by decide) q233).1 ?_
    obtain ⟨T235, q234, e⟩ := xbnd e
    obtain ⟨M236, q237, h238⟩ := h225.pi (by decide) (by decide) (xin_wr _) q234
    refine xok_eqb q237 ?_
    obtain ⟨v239, q240, e⟩ := xbnd e
    refine xok_eqb (h238.gr (by decide) (by decide) q240) ?_
    obtain ⟨v241, q242, e⟩ := xbnd e
    refine xok_eqb (h238.gi (by decide) (by decide) q242).1 ?_
    refine xok_ite (fun c243 => ?_) (fun c243 => ?_)
    · rw [if_pos c243] at e
      exact t43_99  hS  h238 tx1 e
    · rw [if_neg c243] at e
      obtain ⟨_, q249, e⟩ := xbnd e
      obtain ⟨R244, e245, e⟩ := xbnd e
      refine xok_eqb (h238.is q249) ?_
      refine xok_call (t39 hS h238  e245) ?_
      rintro ⟨v_, M246⟩ ⟨hv_, h247, hi248⟩
      cases hv_
      refine xok_ite (fun c250 => ?_) (fun c250 => ?_)
      · rw [if_pos c250] at e
        exact hr64 h247 tx1 e
      · rw [if_neg c250] at e
        exact t43_99  hS  h247 tx1 e
theorem t43_64 {m f : Nat} {M0 : xj_M} (hS : xHS f)   : ∀ {n : Nat} {M : xj_M} {T : xT_} {x0 : Nat} {x1 : Int} {R : (Nat ⊕ Unit) × xT_}, xCX m M0 M T → xin x1 → c43_64  f n x0 x1 T = some R → xok (f43_64  f n x0 x1 M) (fun r => r.1 = R.1 ∧ xCX m M0 r.2 R.2) := by
  intro n
  induction n with
  | zero => intros; rename_i e; cases e
  | succ n ih =>
    intros
    rename_i h i0 e
    exact t43_64b hS  @ih h i0 e
theorem t43_30 {m f : Nat} {M0 M : xj_M} {T : xT_} (hS : xHS f)   (h : xCX m M0 M T) {x0 : Nat} {x1 : Int} {R : (Nat ⊕ Unit) × xT_} (tx1 : xin x1) (e : c43_30  f x0 x1 T = some R) : xok (f43_30  f x0 x1 M) (fun r => r.1 = R.1 ∧ xCX m M0 r.2 R.2) := by
  unfold c43_30 at e
  unfold f43_30
  obtain ⟨_, q256, e⟩ := xbnd e
  obtain ⟨R251, e252, e⟩ := xbnd e
  refine xok_eqb (h.is q256) ?_
  refine xok_call (t35 hS h  e252) ?_
  intro M253 h254
  obtain ⟨v257, q258, e⟩ := xbnd e
  refine xok_eqb (h254.gr (by decide) (by decide) q258) ?_
  obtain ⟨T260, q259, e⟩ := xbnd e
  obtain ⟨M261, q262, h263⟩ := h254.pi (by decide) (by decide) tx1 q259
  refine xok_eqb q262 ?_
  obtain ⟨v264, q265, e⟩ := xbnd e
  refine xok_eqb (h263.gr (by decide) (by decide) q265) ?_
  obtain ⟨_, q271, e⟩ := xbnd e
  obtain ⟨R266, e267, e⟩ := xbnd e
  refine xok_eqb (h263.is q271) ?_
  refine xok_call (t47 hS h263  e267) ?_
  rintro ⟨v_, M268⟩ ⟨hv_, h269, hi270⟩
  cases hv_
  dsimp only
  cases g273 : R266.1 with
  | inl k_ =>
    rw [cth_l g273] at e; cases e
    rw [xth_l (by exact g273)]
    exact ⟨_, rfl, rfl, h269⟩
  | inr v272 =>
    rw [cth_r g273] at e
    rw [xth_r (by exact g273)]
    obtain ⟨_, q279, e⟩ := xbnd e
    obtain ⟨R274, e275, e⟩ := xbnd e
    refine xok_eqb (h269.is q279) ?_
    refine xok_call (t48 hS h269 (hi270 _ g273) tx1 e275) ?_
    rintro ⟨v_, M276⟩ ⟨hv_, h277, hi278⟩
    cases hv_
    dsimp only
    cases g281 : R274.1 with
    | inl k_ =>
      rw [cth_l g281] at e; cases e
      rw [xth_l (by exact g281)]
      exact ⟨_, rfl, rfl, h277⟩
    | inr v280 =>
      rw [cth_r g281] at e
      rw [xth_r (by exact g281)]
      obtain ⟨T283, q282, e⟩ := xbnd e
      obtain ⟨M284, q285, h286⟩ := h277.pi (by decide) (by decide) (hi278 _ g281) q282
      refine xok_eqb q285 ?_
      obtain ⟨_, q292, e⟩ := xbnd e
      obtain ⟨R287, e288, e⟩ := xbnd e
      refine xok_eqb (h286.is q292) ?_
      refine xok_call (t38 hS h286 (show xin (40) by decide) e288) ?_
      rintro ⟨v_, M289⟩ ⟨hv_, h290⟩
      cases hv_
      dsimp only
      cases g294 : R287.1 with
      | inl k_ =>
        rw [cth_l g294] at e; cases e
        rw [xth_l (by exact g294)]
        exact ⟨_, rfl, rfl, h290⟩
      | inr v293 =>
        rw [cth_r g294] at e
        rw [xth_r (by exact g294)]
        exact t43_64  hS  h290 tx1 e
theorem t43 {m f : Nat} {M0 M : xj_M} {T : xT_} (hS : xHS f) (h : xCX m M0 M T) {a0 : Nat} {R : (Nat ⊕ Unit) × xT_}  (e : c43 f a0 T = some R) : xok (f43 f a0 M) (fun r => r.1 = R.1 ∧ xCX m M0 r.2 R.2) := by
  unfold c43 at e
  unfold f43
  obtain ⟨v295, q296, e⟩ := xbnd e
  refine xok_eqb (h.gr (by decide) (by decide) q296) ?_
  obtain ⟨v297, q298, e⟩ := xbnd e
  refine xok_eqb (h.gr (by decide) (by decide) q298) ?_
  obtain ⟨v299, q300, e⟩ := xbnd e
  refine xok_eqb (h.gi (by decide) (by decide) q300).1 ?_
  obtain ⟨v301, q302, e⟩ := xbnd e
  refine xok_eqb (h.ai (by decide) q302).1 ?_
  obtain ⟨v303, q304, e⟩ := xbnd e
  refine xok_eqb (h.gr (by decide) (by decide) q304) ?_
  obtain ⟨v305, q306, e⟩ := xbnd e
  refine xok_eqb (h.gi (by decide) (by decide) q306).1 ?_
  refine xok_ite (fun c307 => ?_) (fun c307 => ?_)
  · rw [if_pos c307] at e
    exact t43_30  hS  h (h.ai (by decide) q302).2 e
  · rw [if_neg c307] at e
    obtain ⟨_, q313, e⟩ := xbnd e
    obtain ⟨R308, e309, e⟩ := xbnd e
    refine xok_eqb (h.is q313) ?_
    refine xok_call (t36 hS h (h.ai (by decide) q302).2 e309) ?_
    rintro ⟨v_, M310⟩ ⟨hv_, h311⟩
    cases hv_
    dsimp only
    cases g315 : R308.1 with
    | inl k_ =>
      rw [cth_l g315] at e; cases e
      rw [xth_l (by exact g315)]
      exact ⟨_, rfl, rfl, h311⟩
    | inr v314 =>
      rw [cth_r g315] at e
      rw [xth_r (by exact g315)]
      exact t43_30  hS  h311 (h.ai (by decide) q302).2 e
-- ChangeHouse$Sheet.workCells
theorem t102_195 {m f : Nat} {M0 M : xj_M} {T : xT_} (hS : xHS f) {r10 : Nat → Int → Int → Int → Int → xT_ → Option (xT_)} {o10 : Nat → Int → Int → Int → Int → xj_M → Option (xj_M)} {r28 : Nat → Int → Int → Int → Int → Int → xT_ → Option (xT_)} {o28 : Nat → Int → Int → Int → Int → Int → xj_M → Option (xj_M)} (hr10 : ∀ {M : xj_M} {T : xT_} {x0 : Nat} {x1 : Int} {x3 : Int} {x5 : Int} {x6 : Int} {R : xT_}, xCX m M0 M T → xiN x1 → xiN x3 → xin x5 → xin x6 → r10 x0 x1 x3 x5 x6 T = some R → xok (o10 x0 x1 x3 x5 x6 M) (fun r => xCX m M0 r R)) (hr28 : ∀ {M : xj_M} {T : xT_} {x0 : Nat} {x1 : Int} {x3 : Int} {x5 : Int} {x6 : Int} {x7 : Int} {R : xT_}, xCX m M0 M T → xiN x1 → xiN x3 → xin x5 → xin x6 → xin x7 → r28 x0 x1 x3 x5 x6 x7 T = some R → xok (o28 x0 x1 x3 x5 x6 x7 M) (fun r => xCX m M0 r R)) (h : xCX m M0 M T) {x0 : Nat} {x1 : Int} {x3 : Int} {x5 : Int} {x6 : Int} {x7 : Int} {R : xT_} (tx1 : xiN x1) (tx3 : xiN x3) (tx5 : xin x5) (tx6 : xin x6) (tx7 : xin x7) (e : c102_195 r10 r28 f x0 x1 x3 x5 x6 x7 T = some R) : xok (f102_195 o10 o28 f x0 x1 x3 x5 x6 x7 M) (fun r => xCX m M0 r R) := by
  unfold c102_195 at e
  unfold f102_195
  exact hr28 h tx1 tx3 tx5 tx6 (xin_wr _) e
theorem t102_190 {m f : Nat} {M0 M : xj_M} {T : xT_} (hS : xHS f) {r10 : Nat → Int → Int → Int → Int → xT_ → Option (xT_)} {o10 : Nat → Int → Int → Int → Int → xj_M → Option (xj_M)} {r28 : Nat → Int → Int → Int → Int → Int → xT_ → Option (xT_)} {o28 : Nat → Int → Int → Int → Int → Int → xj_M → Option (xj_M)} (hr10 : ∀ {M : xj_M} {T : xT_} {x0 : Nat} {x1 : Int} {x3 : Int} {x5 : Int} {x6 : Int} {R : xT_}, xCX m M0 M T → xiN x1 → xiN x3 → xin x5 → xin x6 → r10 x0 x1 x3 x5 x6 T = some R → xok (o10 x0 x1 x3 x5 x6 M) (fun r => xCX m M0 r R)) (hr28 : ∀ {M : xj_M} {T : xT_} {x0 : Nat} {x1 : Int} {x3 : Int} {x5 : Int} {x6 : Int} {x7 : Int} {R : xT_}, xCX m M0 M T → xiN x1 → xiN x3 → xin x5 → xin x6 → xin x7 → r28 x0 x1 x3 x5 x6 x7 T = some R → xok (o28 x0 x1 x3 x5 x6 x7 M) (fun r => xCX m M0 r R)) (h : xCX m M0 M T) {x0 : Nat} {x1 : Int} {x6 : Int} {x7 : Int} {y0 : Int} {y1 : Int} {R : xT_} (tx1 : xiN x1) (tx6 : xin x6) (tx7 : xin x7) (ty0 : xiN y0) (ty1 : xiN y1) (e : c102_190 r10 r28 f x0 x1 x6 x7 y0 y1 T = some R) : xok (f102_190 o10 o28 f x0 x1 x6 x7 y0 y1 M) (fun r => xCX m M0 r R) := by
  unfold c102_190 at e
  unfold f102_190
  exact t102_195 (r10 := r10) (o10 := o10) (r28 := r28) (o28 := o28) hS @hr10 @hr28 h tx1 (xiN_of _) (show xin (1) by decide) tx6 tx7 e
theorem t102_169 {m f : Nat} {M0 M : xj_M} {T : xT_} (hS : xHS f) {r10 : Nat → Int → Int → Int → Int → xT_ → Option (xT_)} {o10 : Nat → Int → Int → Int → Int → xj_M → Option (xj_M)} {r28 : Nat → Int → Int → Int → Int → Int → xT_ → Option (xT_)} {o28 : Nat → Int → Int → Int → Int → Int → xj_M → Option (xj_M)} (hr10 : ∀ {M : xj_M} {T : xT_} {x0 : Nat} {x1 : Int} {x3 : Int} {x5 : Int} {x6 : Int} {R : xT_}, xCX m M0 M T → xiN x1 → xiN x3 → xin x5 → xin x6 → r10 x0 x1 x3 x5 x6 T = some R → xok (o10 x0 x1 x3 x5 x6 M) (fun r => xCX m M0 r R)) (hr28 : ∀ {M : xj_M} {T : xT_} {x0 : Nat} {x1 : Int} {x3 : Int} {x5 : Int} {x6 : Int} {x7 : Int} {R : xT_}, xCX m M0 M T → xiN x1 → xiN x3 → xin x5 → xin x6 → xin x7 → r28 x0 x1 x3 x5 x6 x7 T = some R → xok (o28 x0 x1 x3 x5 x6 x7 M) (fun r => xCX m M0 r R)) (h : xCX m M0 M T) {x0 : Nat} {x3 : Int} {x6 : Int} {x7 : Int} {y0 : Int} {y1 : Int} {R : xT_} (tx3 : xiN x3) (tx6 : xin x6) (tx7 : xin x7) (ty0 : xiN y0) (ty1 : xiN y1) (e : c102_169 r10 r28 f x0 x3 x6 x7 y0 y1 T = some R) : xok (f102_169 o10 o28 f x0 x3 x6 x7 y0 y1 M) (fun r => xCX m M0 r R) := by
  unfold c102_169 at e
  unfold f102_169
  refine xok_ite (fun c101 => ?_) (fun c101 => ?_)
  · rw [if_pos c101] at e
    exact t102_190 (r10 := r10) (o10 := o10) (r28 := r28) (o28 := o28) hS @hr10 @hr28 h (xiN_of _) tx6 tx7 (xiN_of _) tx3 e
  · rw [if_neg c101] at e
    exact t102_190 (r10 := r10) (o10 := o10) (r28 := r28) (o28 := o28) hS @hr10 @hr28 h (xiN_of _) tx6 tx7 (show xiN (0) by decide) tx3 e
theorem t102_152 {m f : Nat} {M0 M : xj_M} {T : xT_} (hS : xHS f) {r10 : Nat → Int → Int → Int → Int → xT_ → Option (xT_)} {o10 : Nat → Int → Int → Int → Int → xj_M → Option (xj_M)} {r28 : Nat → Int → Int → Int → Int → Int → xT_ → Option (xT_)} {o28 : Nat → Int → Int → Int → Int → Int → xj_M → Option (xj_M)} (hr10 : ∀ {M : xj_M} {T : xT_} {x0 : Nat} {x1 : Int} {x3 : Int} {x5 : Int} {x6 : Int} {R : xT_}, xCX m M0 M T → xiN x1 → xiN x3 → xin x5 → xin x6 → r10 x0 x1 x3 x5 x6 T = some R → xok (o10 x0 x1 x3 x5 x6 M) (fun r => xCX m M0 r R)) (hr28 : ∀ {M : xj_M} {T : xT_} {x0 : Nat} {x1 : Int} {x3 : Int} {x5 : Int} {x6 : Int} {x7 : Int} {R : xT_}, xCX m M0 M T → xiN x1 → xiN x3 → xin x5 → xin x6 → xin x7 → r28 x0 x1 x3 x5 x6 x7 T = some R → xok (o28 x0 x1 x3 x5 x6 x7 M) (fun r => xCX m M0 r R)) (h : xCX m M0 M T) {x0 : Nat} {x1 : Int} {x3 : Int} {x6 : Int} {x7 : Int} {y0 : Int} {y1 : Int} {y2 : Nat} {R : xT_} (tx1 : xiN x1) (tx3 : xiN x3) (tx6 : xin x6) (tx7 : xin x7) (ty0 : xiN y0) (ty1 : xin y1) (e : c102_152 r10 r28 f x0 x1 x3 x6 x7 y0 y1 y2 T = some R) : xok (f102_152 o10 o28 f x0 x1 x3 x6 x7 y0 y1 y2 M) (fun r => xCX m M0 r R) := by
  unfold c102_152 at e
  unfold f102_152
  obtain ⟨T103, q102, e⟩ := xbnd e
  obtain ⟨M104, q105, h106⟩ := h.sl ty0 q102
  refine xok_eqb q105 ?_
  refine xok_ite (fun c107 => ?_) (fun c107 => ?_)
  · rw [if_pos c107] at e
    exact t102_169 (r10 := r10) (o10 := o10) (r28 := r28) (o28 := o28) hS @hr10 @hr28 h106 tx3 tx6 tx7 (show xiN (0) by decide) tx1 e
  · rw [if_neg c107] at e
    exact t102_169 (r10 := r10) (o10 := o10) (r28 := r28) (o28 := o28) hS @hr10 @hr28 h106 tx3 tx6 tx7 (xiN_of _) tx1 e
theorem t102_118 {m f : Nat} {M0 M : xj_M} {T : xT_} (hS : xHS f) {r10 : Nat → Int → Int → Int → Int → xT_ → Option (xT_)} {o10 : Nat → Int → Int → Int → Int → xj_M → Option (xj_M)} {r28 : Nat → Int → Int → Int → Int → Int → xT_ → Option (xT_)} {o28 : Nat → Int → Int → Int → Int → Int → xj_M → Option (xj_M)} (hr10 : ∀ {M : xj_M} {T : xT_} {x0 : Nat} {x1 : Int} {x3 : Int} {x5 : Int} {x6 : Int} {R : xT_}, xCX m M0 M T → xiN x1 → xiN x3 → xin x5 → xin x6 → r10 x0 x1 x3 x5 x6 T = some R → xok (o10 x0 x1 x3 x5 x6 M) (fun r => xCX m M0 r R)) (hr28 : ∀ {M : xj_M} {T : xT_} {x0 : Nat} {x1 : Int} {x3 : Int} {x5 : Int} {x6 : Int} {x7 : Int} {R : xT_}, xCX m M0 M T → xiN x1 → xiN x3 → xin x5 → xin x6 → xin x7 → r28 x0 x1 x3 x5 x6 x7 T = some R → xok (o28 x0 x1 x3 x5 x6 x7 M) (fun r => xCX m M0 r R)) (h : xCX m M0 M T) {x0 : Nat} {x1 : Int} {x3 : Int} {x6 : Int} {x7 : Int} {x8 : Nat} {x9 : Int} {R : xT_} (tx1 : xiN x1) (tx3 : xiN x3) (tx6 : xin x6) (tx7 : xin x7) (tx9 : xin x9) (e : c102_118 r10 r28 f x0 x1 x3 x6 x7 x8 x9 T = some R) : xok (f102_118 o10 o28 f x0 x1 x3 x6 x7 x8 x9 M) (fun r => xCX m M0 r R) := by
  unfold c102_118 at e
  unfold f102_118
  obtain ⟨v108, q109, e⟩ := xbnd e
  refine xok_eqb (h.gr (by decide) (by decide) q109) ?_
  refine xok_ite (fun c110 => ?_) (fun c110 => ?_)
  · rw [if_pos c110] at e
    exact t102_152 (r10 := r10) (o10 := o10) (r28 := r28) (o28 := o28) hS @hr10 @hr28 h tx1 tx3 tx6 tx7 (show xiN (9000000000000000000) by decide) tx7 e
  · rw [if_neg c110] at e
    refine xok_ite (fun c111 => ?_) (fun c111 => ?_)
    · rw [if_pos c111] at e
      obtain ⟨_, q117, e⟩ := xbnd e
      obtain ⟨R112, e113, e⟩ := xbnd e
      refine xok_eqb (h.is q117) ?_
      refine xok_call (t105 hS h  e113) ?_
      rintro ⟨v_, M114⟩ ⟨hv_, h115, hi116⟩
      cases hv_
      exact t102_152 (r10 := r10) (o10 := o10) (r28 := r28) (o28 := o28) hS @hr10 @hr28 h115 tx1 tx3 tx6 tx7 hi116 tx7 e
    · rw [if_neg c111] at e
      exact t102_152 (r10 := r10) (o10 := o10) (r28 := r28) (o28 := o28) hS @hr10 @hr28 h tx1 tx3 tx6 tx7 (show xiN (-8999999999999999999) by decide) tx7 e
theorem t102_83 {m f : Nat} {M0 M : xj_M} {T : xT_} (hS : xHS f) {r10 : Nat → Int → Int → Int → Int → xT_ → Option (xT_)} {o10 : Nat → Int → Int → Int → Int → xj_M → Option (xj_M)} {r28 : Nat → Int → Int → Int → Int → Int → xT_ → Option (xT_)} {o28 : Nat → Int → Int → Int → Int → Int → xj_M → Option (xj_M)} (hr10 : ∀ {M : xj_M} {T : xT_} {x0 : Nat} {x1 : Int} {x3 : Int} {x5 : Int} {x6 : Int} {R : xT_}, xCX m M0 M T → xiN x1 → xiN x3 → xin x5 → xin x6 → r10 x0 x1 x3 x5 x6 T = some R → xok (o10 x0 x1 x3 x5 x6 M) (fun r => xCX m M0 r R)) (hr28 : ∀ {M : xj_M} {T : xT_} {x0 : Nat} {x1 : Int} {x3 : Int} {x5 : Int} {x6 : Int} {x7 : Int} {R : xT_}, xCX m M0 M T → xiN x1 → xiN x3 → xin x5 → xin x6 → xin x7 → r28 x0 x1 x3 x5 x6 x7 T = some R → xok (o28 x0 x1 x3 x5 x6 x7 M) (fun r => xCX m M0 r R)) (h : xCX m M0 M T) {x0 : Nat} {x1 : Int} {x3 : Int} {x5 : Int} {x6 : Int} {x7 : Int} {x8 : Nat} {x9 : Int} {y0 : Int} {R : xT_} (tx1 : xiN x1) (tx3 : xiN x3) (tx5 : xin x5) (tx6 : xin x6) (tx7 : xin x7) (tx9 : xin x9) (ty0 : xin y0) (e : c102_83 r10 r28 f x0 x1 x3 x5 x6 x7 x8 x9 y0 T = some R) : xok (f102_83 o10 o28 f x0 x1 x3 x5 x6 x7 x8 x9 y0 M) (fun r => xCX m M0 r R) := by
  unfold c102_83 at e
  unfold f102_83
  refine xok_ite (fun c118 => ?_) (fun c118 => ?_)
  · rw [if_pos c118] at e
    exact t102_195 (r10 := r10) (o10 := o10) (r28 := r28) (o28 := o28) hS @hr10 @hr28 h tx1 tx3 tx5 tx6 tx7 e
  · rw [if_neg c118] at e
    refine xok_ite (fun c119 => ?_) (fun c119 => ?_)
    · rw [if_pos c119] at e
      exact t102_118 (r10 := r10) (o10 := o10) (r28 := r28) (o28 := o28) hS @hr10 @hr28 h tx1 tx3 tx6 tx7 tx9 e
    · rw [if_neg c119] at e
      refine xok_ite (fun c120 => ?_) (fun c120 => ?_)
      · rw [if_pos c120] at e
        exact t102_118 (r10 := r10) (o10 := o10) (r28 := r28) (o28 := o28) hS @hr10 @hr28 h tx1 tx3 tx6 tx7 tx9 e
      · rw [if_neg c120] at e
        obtain ⟨_, q126, e⟩ := xbnd e
        obtain ⟨R121, e122, e⟩ := xbnd e
        refine xok_eqb (h.is q126) ?_
        refine xok_call (t3 hS h (xiN_of _) (xiN_of _) e122) ?_
        rintro ⟨v_, M123⟩ ⟨hv_, h124, hi125⟩
        cases hv_
        refine xok_ite (fun c127 => ?_) (fun c127 => ?_)
        · rw [if_pos c127] at e
          exact t102_195 (r10 := r10) (o10 := o10) (r28 := r28) (o28 := o28) hS @hr10 @hr28 h124 tx1 tx3 tx5 tx6 tx7 e
        · rw [if_neg c127] at e
          exact t102_118 (r10 := r10) (o10 := o10) (r28 := r28) (o28 := o28) hS @hr10 @hr28 h124 tx1 tx3 tx6 tx7 tx9 e
theorem t102_28b {m f : Nat} {M0 M : xj_M} {T : xT_} (hS : xHS f) {r10 : Nat → Int → Int → Int → Int → xT_ → Option (xT_)} {o10 : Nat → Int → Int → Int → Int → xj_M → Option (xj_M)} {r28 : Nat → Int → Int → Int → Int → Int → xT_ → Option (xT_)} {o28 : Nat → Int → Int → Int → Int → Int → xj_M → Option (xj_M)} (hr10 : ∀ {M : xj_M} {T : xT_} {x0 : Nat} {x1 : Int} {x3 : Int} {x5 : Int} {x6 : Int} {R : xT_}, xCX m M0 M T → xiN x1 → xiN x3 → xin x5 → xin x6 → r10 x0 x1 x3 x5 x6 T = some R → xok (o10 x0 x1 x3 x5 x6 M) (fun r => xCX m M0 r R)) (hr28 : ∀ {M : xj_M} {T : xT_} {x0 : Nat} {x1 : Int} {x3 : Int} {x5 : Int} {x6 : Int} {x7 : Int} {R : xT_}, xCX m M0 M T → xiN x1 → xiN x3 → xin x5 → xin x6 → xin x7 → r28 x0 x1 x3 x5 x6 x7 T = some R → xok (o28 x0 x1 x3 x5 x6 x7 M) (fun r => xCX m M0 r R)) (h : xCX m M0 M T) {x0 : Nat} {x1 : Int} {x3 : Int} {x5 : Int} {x6 : Int} {x7 : Int} {R : xT_} (tx1 : xiN x1) (tx3 : xiN x3) (tx5 : xin x5) (tx6 : xin x6) (tx7 : xin x7) (e : c102_28b r10 r28 f x0 x1 x3 x5 x6 x7 T = some R) : xok (f102_28b o10 o28 f x0 x1 x3 x5 x6 x7 M) (fun r => xCX m M0 r R) := by
  unfold c102_28b at e
  unfold f102_28b
  refine xok_ite (fun c128 => ?_) (fun c128 => ?_)
  · rw [if_pos c128] at e
    exact hr10 h tx1 tx3 tx5 (xin_wr _) e
  · rw [if_neg c128] at e
    obtain ⟨v129, q130, e⟩ := xbnd e
    refine xok_eqb (h.gr (by decide) (by decide) q130) ?_
    obtain ⟨v131, q132, e⟩ := xbnd e
    refine xok_eqb (h.gr (by decide) (by decide) q132) ?_
    obtain ⟨v133, q134, e⟩ := xbnd e
    refine xok_eqb (h.ar q134) ?_
    obtain ⟨v135, q136, e⟩ := xbnd e
    refine xok_eqb (h.gr (by decide) (by decide) q136) ?_
    obtain ⟨v137, q138, e⟩ := xbnd e
    refine xok_eqb (h.al q138).1 ?_
    obtain ⟨v139, q140, e⟩ := xbnd e
    refine xok_eqb (h.gr (by decide) (by decide) q140) ?_
    obtain ⟨v141, q142, e⟩ := xbnd e
    refine xok_eqb (h.al q142).1 ?_
    obtain ⟨R143, e144, e⟩ := xbnd e
    refine xok_call (t101 hS h tx7 (h.al q138).2 (h.al q142).2 e144) ?_
    rintro ⟨v_, M145⟩ ⟨hv_, h146, hi147⟩
    cases hv_
    obtain ⟨R148, e149, e⟩ := xbnd e
    refine xok_call (t101 hS h146 tx7 tx1 tx3 e149) ?_
    rintro ⟨v_, M150⟩ ⟨hv_, h151, hi152⟩
    cases hv_
    refine xok_ite (fun c153 => ?_) (fun c153 => ?_)
    · rw [if_pos c153] at e
      exact t102_83 (r10 := r10) (o10 := o10) (r28 := r28) (o28 := o28) hS @hr10 @hr28 h151 tx1 tx3 tx5 tx6 tx7 hi147 (show xin (0) by decide) e
    · rw [if_neg c153] at e
      exact t102_83 (r10 := r10) (o10 := o10) (r28 := r28) (o28 := o28) hS @hr10 @hr28 h151 tx1 tx3 tx5 tx6 tx7 hi147 (show xin (1) by decide) e
theorem t102_28 {m f : Nat} {M0 : xj_M} (hS : xHS f) {r10 : Nat → Int → Int → Int → Int → xT_ → Option (xT_)} {o10 : Nat → Int → Int → Int → Int → xj_M → Option (xj_M)} (hr10 : ∀ {M : xj_M} {T : xT_} {x0 : Nat} {x1 : Int} {x3 : Int} {x5 : Int} {x6 : Int} {R : xT_}, xCX m M0 M T → xiN x1 → xiN x3 → xin x5 → xin x6 → r10 x0 x1 x3 x5 x6 T = some R → xok (o10 x0 x1 x3 x5 x6 M) (fun r => xCX m M0 r R)) : ∀ {n : Nat} {M : xj_M} {T : xT_} {x0 : Nat} {x1 : Int} {x3 : Int} {x5 : Int} {x6 : Int} {x7 : Int} {R : xT_}, xCX m M0 M T → xiN x1 → xiN x3 → xin x5 → xin x6 → xin x7 → c102_28 r10 f n x0 x1 x3 x5 x6 x7 T = some R → xok (f102_28 o10 f n x0 x1 x3 x5 x6 x7 M) (fun r => xCX m M0 r R) := by
  intro n
  induction n with
  | zero => intros; rename_i e; cases e
  | succ n ih =>
    intros
    rename_i h i0 i1 i2 i3 i4 e
    exact t102_28b hS @hr10 @ih h i0 i1 i2 i3 i4 e
theorem t102_207 {m f : Nat} {M0 M : xj_M} {T : xT_} (hS : xHS f)   (h : xCX m M0 M T)  {R : xT_}  (e : c102_207  f  T = some R) : xok (f102_207  f  M) (fun r => xCX m M0 r R) := by
  unfold c102_207 at e
  unfold f102_207
  cases e
  exact ⟨_, rfl, h⟩
theorem t102_10b {m f : Nat} {M0 M : xj_M} {T : xT_} (hS : xHS f) {r10 : Nat → Int → Int → Int → Int → xT_ → Option (xT_)} {o10 : Nat → Int → Int → Int → Int → xj_M → Option (xj_M)} (hr10 : ∀ {M : xj_M} {T : xT_} {x0 : Nat} {x1 : Int} {x3 : Int} {x5 : Int} {x6 : Int} {R : xT_}, xCX m M0 M T → xiN x1 → xiN x3 → xin x5 → xin x6 → r10 x0 x1 x3 x5 x6 T = some R → xok (o10 x0 x1 x3 x5 x6 M) (fun r => xCX m M0 r R)) (h : xCX m M0 M T) {x0 : Nat} {x1 : Int} {x3 : Int} {x5 : Int} {x6 : Int} {R : xT_} (tx1 : xiN x1) (tx3 : xiN x3) (tx5 : xin x5) (tx6 : xin x6) (e : c102_10b r10 f x0 x1 x3 x5 x6 T = some R) : xok (f102_10b o10 f x0 x1 x3 x5 x6 M) (fun r => xCX m M0 r R) := by
  unfold c102_10b at e
  unfold f102_10b
  refine xok_ite (fun c154 => ?_) (fun c154 => ?_)
  · rw [if_pos c154] at e
    exact t102_207  hS  h  e
  · rw [if_neg c154] at e
    refine xok_ite (fun c155 => ?_) (fun c155 => ?_)
    · rw [if_pos c155] at e
      exact t102_207  hS  h  e
    · rw [if_neg c155] at e
      exact t102_28 (r10 := r10) (o10 := o10) hS @hr10 h tx1 tx3 (show xin (0) by decide) tx6 (show xin (0) by decide) e
theorem t102_10 {m f : Nat} {M0 : xj_M} (hS : xHS f)   : ∀ {n : Nat} {M : xj_M} {T : xT_} {x0 : Nat} {x1 : Int} {x3 : Int} {x5 : Int} {x6 : Int} {R : xT_}, xCX m M0 M T → xiN x1 → xiN x3 → xin x5 → xin x6 → c102_10  f n x0 x1 x3 x5 x6 T = some R → xok (f102_10  f n x0 x1 x3 x5 x6 M) (fun r => xCX m M0 r R) := by
  intro n
  induction n with
  | zero => intros; rename_i e; cases e
  | succ n ih =>
    intros
    rename_i h i0 i1 i2 i3 e
    exact t102_10b hS  @ih h i0 i1 i2 i3 e
theorem t102 {m f : Nat} {M0 M : xj_M} {T : xT_} (hS : xHS f) (h : xCX m M0 M T) {a0 : Nat} {R : xT_}  (e : c102 f a0 T = some R) : xok (f102 f a0 M) (fun r => xCX m M0 r R) := by
  unfold c102 at e
  unfold f102
  exact t102_10  hS  h (show xiN (0) by decide) (show xiN (0) by decide) (show xin (1) by decide) (show xin (0) by decide) e
-- ChangeHouse$Works.workRing
theorem t149_32 {m f : Nat} {M0 M : xj_M} {T : xT_} (hS : xHS f)   (h : xCX m M0 M T)  {R : Int × xT_}  (e : c149_32  f  T = some R) : xok (f149_32  f  M) (fun r => r.1 = R.1 ∧ xCX m M0 r.2 R.2 ∧ xin R.1) := by
  unfold c149_32 at e
  unfold f149_32
  cases e
  exact ⟨_, rfl, rfl, h, (show xin (1) by decide)⟩
theorem t149_209 {m f : Nat} {M0 M : xj_M} {T : xT_} (hS : xHS f) {r66 : Nat → Int → Int → Int → xT_ → Option (Int × xT_)} {o66 : Nat → Int → Int → Int → xj_M → Option (Int × xj_M)} {r89 : Nat → Int → Int → Int → Int → xT_ → Option (Int × xT_)} {o89 : Nat → Int → Int → Int → Int → xj_M → Option (Int × xj_M)} {r148 : Nat → Int → Int → Int → Int → Nat → Int → Int → xT_ → Option (Int × xT_)} {o148 : Nat → Int → Int → Int → Int → Nat → Int → Int → xj_M → Option (Int × xj_M)} (hr66 : ∀ {M : xj_M} {T : xT_} {x0 : Nat} {x1 : Int} {x3 : Int} {x4 : Int} {R : Int × xT_}, xCX m M0 M T → xin x1 → xin x3 → xin x4 → r66 x0 x1 x3 x4 T = some R → xok (o66 x0 x1 x3 x4 M) (fun r => r.1 = R.1 ∧ xCX m M0 r.2 R.2 ∧ xin R.1)) (hr89 : ∀ {M : xj_M} {T : xT_} {x0 : Nat} {x1 : Int} {x3 : Int} {x4 : Int} {x5 : Int} {R : Int × xT_}, xCX m M0 M T → xin x1 → xin x3 → xin x4 → xin x5 → r89 x0 x1 x3 x4 x5 T = some R → xok (o89 x0 x1 x3 x4 x5 M) (fun r => r.1 = R.1 ∧ xCX m M0 r.2 R.2 ∧ xin R.1)) (hr148 : ∀ {M : xj_M} {T : xT_} {x0 : Nat} {x1 : Int} {x3 : Int} {x4 : Int} {x5 : Int} {x6 : Nat} {x7 : Int} {x8 : Int} {R : Int × xT_}, xCX m M0 M T → xin x1 → xin x3 → xin x4 → xin x5 → xin x7 → xin x8 → r148 x0 x1 x3 x4 x5 x6 x7 x8 T = some R → xok (o148 x0 x1 x3 x4 x5 x6 x7 x8 M) (fun r => r.1 = R.1 ∧ xCX m M0 r.2 R.2 ∧ xin R.1)) (h : xCX m M0 M T) {x0 : Nat} {x1 : Int} {x3 : Int} {x4 : Int} {x5 : Int} {x6 : Nat} {x7 : Int} {x8 : Int} {R : Int × xT_} (tx1 : xin x1) (tx3 : xin x3) (tx4 : xin x4) (tx5 : xin x5) (tx7 : xin x7) (tx8 : xin x8) (e : c149_209 r66 r89 r148 f x0 x1 x3 x4 x5 x6 x7 x8 T = some R) : xok (f149_209 o66 o89 o148 f x0 x1 x3 x4 x5 x6 x7 x8 M) (fun r => r.1 = R.1 ∧ xCX m M0 r.2 R.2 ∧ xin R.1) := by
  unfold c149_209 at e
  unfold f149_209
  exact hr148 h tx1 tx3 tx4 tx5 tx7 (xin_wr _) e
theorem t149_207 {m f : Nat} {M0 M : xj_M} {T : xT_} (hS : xHS f)   (h : xCX m M0 M T)  {R : Int × xT_}  (e : c149_207  f  T = some R) : xok (f149_207  f  M) (fun r => r.1 = R.1 ∧ xCX m M0 r.2 R.2 ∧ xin R.1) := by
  unfold c149_207 at e
  unfold f149_207
  cases e
  exact ⟨_, rfl, rfl, h, (show xin (0) by decide)⟩
theorem t149_148b {m f : Nat} {M0 M : xj_M} {T : xT_} (hS : xHS f) {r66 : Nat → Int → Int → Int → xT_ → Option (Int × xT_)} {o66 : Nat → Int → Int → Int → xj_M → Option (Int × xj_M)} {r89 : Nat → Int → Int → Int → Int → xT_ → Option (Int × xT_)} {o89 : Nat → Int → Int → Int → Int → xj_M → Option (Int × xj_M)} {r148 : Nat → Int → Int → Int → Int → Nat → Int → Int → xT_ → Option (Int × xT_)} {o148 : Nat → Int → Int → Int → Int → Nat → Int → Int → xj_M → Option (Int × xj_M)} (hr66 : ∀ {M : xj_M} {T : xT_} {x0 : Nat} {x1 : Int} {x3 : Int} {x4 : Int} {R : Int × xT_}, xCX m M0 M T → xin x1 → xin x3 → xin x4 → r66 x0 x1 x3 x4 T = some R → xok (o66 x0 x1 x3 x4 M) (fun r => r.1 = R.1 ∧ xCX m M0 r.2 R.2 ∧ xin R.1)) (hr89 : ∀ {M : xj_M} {T : xT_} {x0 : Nat} {x1 : Int} {x3 : Int} {x4 : Int} {x5 : Int} {R : Int × xT_}, xCX m M0 M T → xin x1 → xin x3 → xin x4 → xin x5 → r89 x0 x1 x3 x4 x5 T = some R → xok (o89 x0 x1 x3 x4 x5 M) (fun r => r.1 = R.1 ∧ xCX m M0 r.2 R.2 ∧ xin R.1)) (hr148 : ∀ {M : xj_M} {T : xT_} {x0 : Nat} {x1 : Int} {x3 : Int} {x4 : Int} {x5 : Int} {x6 : Nat} {x7 : Int} {x8 : Int} {R : Int × xT_}, xCX m M0 M T → xin x1 → xin x3 → xin x4 → xin x5 → xin x7 → xin x8 → r148 x0 x1 x3 x4 x5 x6 x7 x8 T = some R → xok (o148 x0 x1 x3 x4 x5 x6 x7 x8 M) (fun r => r.1 = R.1 ∧ xCX m M0 r.2 R.2 ∧ xin R.1)) (h : xCX m M0 M T) {x0 : Nat} {x1 : Int} {x3 : Int} {x4 : Int} {x5 : Int} {x6 : Nat} {x7 : Int} {x8 : Int} {R : Int × xT_} (tx1 : xin x1) (tx3 : xin x3) (tx4 : xin x4) (tx5 : xin x5) (tx7 : xin x7) (tx8 : xin x8) (e : c149_148b r66 r89 r148 f x0 x1 x3 x4 x5 x6 x7 x8 T = some R) : xok (f149_148b o66 o89 o148 f x0 x1 x3 x4 x5 x6 x7 x8 M) (fun r => r.1 = R.1 ∧ xCX m M0 r.2 R.2 ∧ xin R.1) := by
  unfold c149_148b at e
  unfold f149_148b
  refine xok_ite (fun c101 => ?_) (fun c101 => ?_)
  · rw [if_pos c101] at e
    exact hr89 h tx1 tx3 tx4 (xin_wr _) e
  · rw [if_neg c101] at e
    refine xok_ite (fun c102 => ?_) (fun c102 => ?_)
    · rw [if_pos c102] at e
      exact t149_209 (r66 := r66) (o66 := o66) (r89 := r89) (o89 := o89) (r148 := r148) (o148 := o148) hS @hr66 @hr89 @hr148 h tx1 tx3 tx4 tx5 tx7 tx8 e
    · rw [if_neg c102] at e
      obtain ⟨_, q108, e⟩ := xbnd e
      obtain ⟨R103, e104, e⟩ := xbnd e
      refine xok_eqb (h.is q108) ?_
      refine xok_call (t153 hS h tx3 tx4 tx8 e104) ?_
      intro M105 h106
      obtain ⟨v109, q110, e⟩ := xbnd e
      refine xok_eqb (h106.gi (by decide) (by decide) q110).1 ?_
      refine xok_ite (fun c111 => ?_) (fun c111 => ?_)
      · rw [if_pos c111] at e
        obtain ⟨_, q117, e⟩ := xbnd e
        obtain ⟨R112, e113, e⟩ := xbnd e
        refine xok_eqb (h106.is q117) ?_
        refine xok_call (t157 hS h106  e113) ?_
        rintro ⟨v_, M114⟩ ⟨hv_, h115, hi116⟩
        cases hv_
        refine xok_ite (fun c118 => ?_) (fun c118 => ?_)
        · rw [if_pos c118] at e
          exact t149_209 (r66 := r66) (o66 := o66) (r89 := r89) (o89 := o89) (r148 := r148) (o148 := o148) hS @hr66 @hr89 @hr148 h115 tx1 tx3 tx4 tx5 tx7 tx8 e
        · rw [if_neg c118] at e
          exact t149_207  hS  h115  e
      · rw [if_neg c111] at e
        obtain ⟨_, q124, e⟩ := xbnd e
        obtain ⟨R119, e120, e⟩ := xbnd e
        refine xok_eqb (h106.is q124) ?_
        refine xok_call (t155 hS h106  e120) ?_
        rintro ⟨v_, M121⟩ ⟨hv_, h122, hi123⟩
        cases hv_
        refine xok_ite (fun c125 => ?_) (fun c125 => ?_)
        · rw [if_pos c125] at e
          exact t149_207  hS  h122  e
        · rw [if_neg c125] at e
          exact t149_209 (r66 := r66) (o66 := o66) (r89 := r89) (o89 := o89) (r148 := r148) (o148 := o148) hS @hr66 @hr89 @hr148 h122 tx1 tx3 tx4 tx5 tx7 tx8 e
theorem t149_148 {m f : Nat} {M0 : xj_M} (hS : xHS f) {r66 : Nat → Int → Int → Int → xT_ → Option (Int × xT_)} {o66 : Nat → Int → Int → Int → xj_M → Option (Int × xj_M)} {r89 : Nat → Int → Int → Int → Int → xT_ → Option (Int × xT_)} {o89 : Nat → Int → Int → Int → Int → xj_M → Option (Int × xj_M)} (hr66 : ∀ {M : xj_M} {T : xT_} {x0 : Nat} {x1 : Int} {x3 : Int} {x4 : Int} {R : Int × xT_}, xCX m M0 M T → xin x1 → xin x3 → xin x4 → r66 x0 x1 x3 x4 T = some R → xok (o66 x0 x1 x3 x4 M) (fun r => r.1 = R.1 ∧ xCX m M0 r.2 R.2 ∧ xin R.1)) (hr89 : ∀ {M : xj_M} {T : xT_} {x0 : Nat} {x1 : Int} {x3 : Int} {x4 : Int} {x5 : Int} {R : Int × xT_}, xCX m M0 M T → xin x1 → xin x3 → xin x4 → xin x5 → r89 x0 x1 x3 x4 x5 T = some R → xok (o89 x0 x1 x3 x4 x5 M) (fun r => r.1 = R.1 ∧ xCX m M0 r.2 R.2 ∧ xin R.1)) : ∀ {n : Nat} {M : xj_M} {T : xT_} {x0 : Nat} {x1 : Int} {x3 : Int} {x4 : Int} {x5 : Int} {x6 : Nat} {x7 : Int} {x8 : Int} {R : Int × xT_}, xCX m M0 M T → xin x1 → xin x3 → xin x4 → xin x5 → xin x7 → xin x8 → c149_148 r66 r89 f n x0 x1 x3 x4 x5 x6 x7 x8 T = some R → xok (f149_148 o66 o89 f n x0 x1 x3 x4 x5 x6 x7 x8 M) (fun r => r.1 = R.1 ∧ xCX m M0 r.2 R.2 ∧ xin R.1) := by
  intro n
  induction n with
  | zero => intros; rename_i e; cases e
  | succ n ih =>
    intros
    rename_i h i0 i1 i2 i3 i4 i5 e
    exact t149_148b hS @hr66 @hr89 @ih h i0 i1 i2 i3 i4 i5 e
theorem t149_143 {m f : Nat} {M0 M : xj_M} {T : xT_} (hS : xHS f) {r66 : Nat → Int → Int → Int → xT_ → Option (Int × xT_)} {o66 : Nat → Int → Int → Int → xj_M → Option (Int × xj_M)} {r89 : Nat → Int → Int → Int → Int → xT_ → Option (Int × xT_)} {o89 : Nat → Int → Int → Int → Int → xj_M → Option (Int × xj_M)} (hr66 : ∀ {M : xj_M} {T : xT_} {x0 : Nat} {x1 : Int} {x3 : Int} {x4 : Int} {R : Int × xT_}, xCX m M0 M T → xin x1 → xin x3 → xin x4 → r66 x0 x1 x3 x4 T = some R → xok (o66 x0 x1 x3 x4 M) (fun r => r.1 = R.1 ∧ xCX m M0 r.2 R.2 ∧ xin R.1)) (hr89 : ∀ {M : xj_M} {T : xT_} {x0 : Nat} {x1 : Int} {x3 : Int} {x4 : Int} {x5 : Int} {R : Int × xT_}, xCX m M0 M T → xin x1 → xin x3 → xin x4 → xin x5 → r89 x0 x1 x3 x4 x5 T = some R → xok (o89 x0 x1 x3 x4 x5 M) (fun r => r.1 = R.1 ∧ xCX m M0 r.2 R.2 ∧ xin R.1)) (h : xCX m M0 M T) {x0 : Nat} {x1 : Int} {x3 : Int} {x4 : Int} {x5 : Int} {x6 : Nat} {y0 : Int} {R : Int × xT_} (tx1 : xin x1) (tx3 : xin x3) (tx4 : xin x4) (tx5 : xin x5) (ty0 : xin y0) (e : c149_143 r66 r89 f x0 x1 x3 x4 x5 x6 y0 T = some R) : xok (f149_143 o66 o89 f x0 x1 x3 x4 x5 x6 y0 M) (fun r => r.1 = R.1 ∧ xCX m M0 r.2 R.2 ∧ xin R.1) := by
  unfold c149_143 at e
  unfold f149_143
  exact t149_148 (r66 := r66) (o66 := o66) (r89 := r89) (o89 := o89) hS @hr66 @hr89 h tx1 tx3 tx4 tx5 ty0 (show xin (0) by decide) e
theorem t149_89b {m f : Nat} {M0 M : xj_M} {T : xT_} (hS : xHS f) {r66 : Nat → Int → Int → Int → xT_ → Option (Int × xT_)} {o66 : Nat → Int → Int → Int → xj_M → Option (Int × xj_M)} {r89 : Nat → Int → Int → Int → Int → xT_ → Option (Int × xT_)} {o89 : Nat → Int → Int → Int → Int → xj_M → Option (Int × xj_M)} (hr66 : ∀ {M : xj_M} {T : xT_} {x0 : Nat} {x1 : Int} {x3 : Int} {x4 : Int} {R : Int × xT_}, xCX m M0 M T → xin x1 → xin x3 → xin x4 → r66 x0 x1 x3 x4 T = some R → xok (o66 x0 x1 x3 x4 M) (fun r => r.1 = R.1 ∧ xCX m M0 r.2 R.2 ∧ xin R.1)) (hr89 : ∀ {M : xj_M} {T : xT_} {x0 : Nat} {x1 : Int} {x3 : Int} {x4 : Int} {x5 : Int} {R : Int × xT_}, xCX m M0 M T → xin x1 → xin x3 → xin x4 → xin x5 → r89 x0 x1 x3 x4 x5 T = some R → xok (o89 x0 x1 x3 x4 x5 M) (fun r => r.1 = R.1 ∧ xCX m M0 r.2 R.2 ∧ xin R.1)) (h : xCX m M0 M T) {x0 : Nat} {x1 : Int} {x3 : Int} {x4 : Int} {x5 : Int} {R : Int × xT_} (tx1 : xin x1) (tx3 : xin x3) (tx4 : xin x4) (tx5 : xin x5) (e : c149_89b r66 r89 f x0 x1 x3 x4 x5 T = some R) : xok (f149_89b o66 o89 f x0 x1 x3 x4 x5 M) (fun r => r.1 = R.1 ∧ xCX m M0 r.2 R.2 ∧ xin R.1) := by
  unfold c149_89b at e
  unfold f149_89b
  obtain ⟨v126, q127, e⟩ := xbnd e
  refine xok_eqb (h.gr (by decide) (by decide) q127) ?_
  obtain ⟨v128, q129, e⟩ := xbnd e
  refine xok_eqb (h.gi (by decide) (by decide) q129).1 ?_
  refine xok_ite (fun c130 => ?_) (fun c130 => ?_)
  · rw [if_pos c130] at e
    obtain ⟨_, q136, e⟩ := xbnd e
    obtain ⟨R131, e132, e⟩ := xbnd e
    refine xok_eqb (h.is q136) ?_
    refine xok_call (t154 hS h tx1 tx4 e132) ?_
    intro M133 h134
    exact hr66 h134 tx1 tx3 (xin_wr _) e
  · rw [if_neg c130] at e
    obtain ⟨v137, q138, e⟩ := xbnd e
    refine xok_eqb (h.gr (by decide) (by decide) q138) ?_
    obtain ⟨v139, q140, e⟩ := xbnd e
    refine xok_eqb (h.gr (by decide) (by decide) q140) ?_
    obtain ⟨v141, q142, e⟩ := xbnd e
    refine xok_eqb (h.ar q142) ?_
    obtain ⟨v143, q144, e⟩ := xbnd e
    refine xok_eqb (h.gr (by decide) (by decide) q144) ?_
    obtain ⟨v145, q146, e⟩ := xbnd e
    refine xok_eqb (h.gr (by decide) (by decide) q146) ?_
    obtain ⟨v147, q148, e⟩ := xbnd e
    refine xok_eqb (h.gi (by decide) (by decide) q148).1 ?_
    obtain ⟨v149, q150, e⟩ := xbnd e
    refine xok_eqb (h.ai (by decide) q150).1 ?_
    refine xok_ite (fun c151 => ?_) (fun c151 => ?_)
    · rw [if_pos c151] at e
      exact t149_143 (r66 := r66) (o66 := o66) (r89 := r89) (o89 := o89) hS @hr66 @hr89 h tx1 tx3 tx4 tx5 (show xin (0) by decide) e
    · rw [if_neg c151] at e
      obtain ⟨_, q157, e⟩ := xbnd e
      obtain ⟨R152, e153, e⟩ := xbnd e
      refine xok_eqb (h.is q157) ?_
      refine xok_call (t151 hS h tx3 tx4 e153) ?_
      rintro ⟨v_, M154⟩ ⟨hv_, h155, hi156⟩
      cases hv_
      exact t149_143 (r66 := r66) (o66 := o66) (r89 := r89) (o89 := o89) hS @hr66 @hr89 h155 tx1 tx3 tx4 tx5 hi156 e
theorem t149_89 {m f : Nat} {M0 : xj_M} (hS : xHS f) {r66 : Nat → Int → Int → Int → xT_ → Option (Int × xT_)} {o66 : Nat → Int → Int → Int → xj_M → Option (Int × xj_M)} (hr66 : ∀ {M : xj_M} {T : xT_} {x0 : Nat} {x1 : Int} {x3 : Int} {x4 : Int} {R : Int × xT_}, xCX m M0 M T → xin x1 → xin x3 → xin x4 → r66 x0 x1 x3 x4 T = some R → xok (o66 x0 x1 x3 x4 M) (fun r => r.1 = R.1 ∧ xCX m M0 r.2 R.2 ∧ xin R.1)) : ∀ {n : Nat} {M : xj_M} {T : xT_} {x0 : Nat} {x1 : Int} {x3 : Int} {x4 : Int} {x5 : Int} {R : Int × xT_}, xCX m M0 M T → xin x1 → xin x3 → xin x4 → xin x5 → c149_89 r66 f n x0 x1 x3 x4 x5 T = some R → xok (f149_89 o66 f n x0 x1 x3 x4 x5 M) (fun r => r.1 = R.1 ∧ xCX m M0 r.2 R.2 ∧ xin R.1) := by
  intro n
  induction n with
  | zero => intros; rename_i e; cases e
  | succ n ih =>
    intros
    rename_i h i0 i1 i2 i3 e
    exact t149_89b hS @hr66 @ih h i0 i1 i2 i3 e
theorem t149_269 {m f : Nat} {M0 M : xj_M} {T : xT_} (hS : xHS f) {r237 : Nat → Int → Int → xT_ → Option (Int × xT_)} {o237 : Nat → Int → Int → xj_M → Option (Int × xj_M)} (hr237 : ∀ {M : xj_M} {T : xT_} {x0 : Nat} {x1 : Int} {x4 : Int} {R : Int × xT_}, xCX m M0 M T → xin x1 → xin x4 → r237 x0 x1 x4 T = some R → xok (o237 x0 x1 x4 M) (fun r => r.1 = R.1 ∧ xCX m M0 r.2 R.2 ∧ xin R.1)) (h : xCX m M0 M T) {x0 : Nat} {x1 : Int} {x4 : Int} {R : Int × xT_} (tx1 : xin x1) (tx4 : xin x4) (e : c149_269 r237 f x0 x1 x4 T = some R) : xok (f149_269 o237 f x0 x1 x4 M) (fun r => r.1 = R.1 ∧ xCX m M0 r.2 R.2 ∧ xin R.1) := by
  unfold c149_269 at e
  unfold f149_269
  exact hr237 h tx1 (xin_wr _) e
theorem t149_237b {m f : Nat} {M0 M : xj_M} {T : xT_} (hS : xHS f) {r237 : Nat → Int → Int → xT_ → Option (Int × xT_)} {o237 : Nat → Int → Int → xj_M → Option (Int × xj_M)} (hr237 : ∀ {M : xj_M} {T : xT_} {x0 : Nat} {x1 : Int} {x4 : Int} {R : Int × xT_}, xCX m M0 M T → xin x1 → xin x4 → r237 x0 x1 x4 T = some R → xok (o237 x0 x1 x4 M) (fun r => r.1 = R.1 ∧ xCX m M0 r.2 R.2 ∧ xin R.1)) (h : xCX m M0 M T) {x0 : Nat} {x1 : Int} {x4 : Int} {R : Int × xT_} (tx1 : xin x1) (tx4 : xin x4) (e : c149_237b r237 f x0 x1 x4 T = some R) : xok (f149_237b o237 f x0 x1 x4 M) (fun r => r.1 = R.1 ∧ xCX m M0 r.2 R.2 ∧ xin R.1) := by
  unfold c149_237b at e
  unfold f149_237b
  obtain ⟨v158, q159, e⟩ := xbnd e
  refine xok_eqb (h.gr (by decide) (by decide) q159) ?_
  obtain ⟨v160, q161, e⟩ := xbnd e
  refine xok_eqb (h.gi (by decide) (by decide) q161).1 ?_
  refine xok_ite (fun c162 => ?_) (fun c162 => ?_)
  · rw [if_pos c162] at e
    cases e
    exact ⟨_, rfl, rfl, h, (show xin (1) by decide)⟩
  · rw [if_neg c162] at e
    obtain ⟨v163, q164, e⟩ := xbnd e
    refine xok_eqb (h.gr (by decide) (by decide) q164) ?_
    obtain ⟨v165, q166, e⟩ := xbnd e
    refine xok_eqb (h.gr (by decide) (by decide) q166) ?_
    obtain ⟨v167, q168, e⟩ := xbnd e
    refine xok_eqb (h.ai (by decide) q168).1 ?_
    refine xok_ite (fun c169 => ?_) (fun c169 => ?_)
    · rw [if_pos c169] at e
      exact t149_269 (r237 := r237) (o237 := o237) hS @hr237 h tx1 tx4 e
    · rw [if_neg c169] at e
      obtain ⟨_, q175, e⟩ := xbnd e
      obtain ⟨R170, e171, e⟩ := xbnd e
      refine xok_eqb (h.is q175) ?_
      refine xok_call (t148 hS h tx4 e171) ?_
      intro M172 h173
      exact t149_269 (r237 := r237) (o237 := o237) hS @hr237 h173 tx1 tx4 e
theorem t149_237 {m f : Nat} {M0 : xj_M} (hS : xHS f)   : ∀ {n : Nat} {M : xj_M} {T : xT_} {x0 : Nat} {x1 : Int} {x4 : Int} {R : Int × xT_}, xCX m M0 M T → xin x1 → xin x4 → c149_237  f n x0 x1 x4 T = some R → xok (f149_237  f n x0 x1 x4 M) (fun r => r.1 = R.1 ∧ xCX m M0 r.2 R.2 ∧ xin R.1) := by
  intro n
  induction n with
  | zero => intros; rename_i e; cases e
  | succ n ih =>
    intros
    rename_i h i0 i1 e
    exact t149_237b hS  @ih h i0 i1 e
theorem t149_234 {m f : Nat} {M0 M : xj_M} {T : xT_} (hS : xHS f)   (h : xCX m M0 M T) {x0 : Nat} {x1 : Int} {R : Int × xT_} (tx1 : xin x1) (e : c149_234  f x0 x1 T = some R) : xok (f149_234  f x0 x1 M) (fun r => r.1 = R.1 ∧ xCX m M0 r.2 R.2 ∧ xin R.1) := by
  unfold c149_234 at e
  unfold f149_234
  exact t149_237  hS  h tx1 (show xin (0) by decide) e
theorem t149_66b {m f : Nat} {M0 M : xj_M} {T : xT_} (hS : xHS f) {r66 : Nat → Int → Int → Int → xT_ → Option (Int × xT_)} {o66 : Nat → Int → Int → Int → xj_M → Option (Int × xj_M)} (hr66 : ∀ {M : xj_M} {T : xT_} {x0 : Nat} {x1 : Int} {x3 : Int} {x4 : Int} {R : Int × xT_}, xCX m M0 M T → xin x1 → xin x3 → xin x4 → r66 x0 x1 x3 x4 T = some R → xok (o66 x0 x1 x3 x4 M) (fun r => r.1 = R.1 ∧ xCX m M0 r.2 R.2 ∧ xin R.1)) (h : xCX m M0 M T) {x0 : Nat} {x1 : Int} {x3 : Int} {x4 : Int} {R : Int × xT_} (tx1 : xin x1) (tx3 : xin x3) (tx4 : xin x4) (e : c149_66b r66 f x0 x1 x3 x4 T = some R) : xok (f149_66b o66 f x0 x1 x3 x4 M) (fun r => r.1 = R.1 ∧ xCX m M0 r.2 R.2 ∧ xin R.1) := by
  unfold c149_66b at e
  unfold f149_66b
  refine xok_ite (fun c176 => ?_) (fun c176 => ?_)
  · rw [if_pos c176] at e
    exact t149_234  hS  h tx1 e
  · rw [if_neg c176] at e
    obtain ⟨v177, q178, e⟩ := xbnd e
    refine xok_eqb (h.gi (by decide) (by decide) q178).1 ?_
    refine xok_ite (fun c179 => ?_) (fun c179 => ?_)
    · rw [if_pos c179] at e
      exact t149_234  hS  h tx1 e
    · rw [if_neg c179] at e
      obtain ⟨T181, q180, e⟩ := xbnd e
      obtain ⟨M182, q183, h184⟩ := h.pi (by decide) (by decide) (show xin (0) by decide) q180
      refine xok_eqb q183 ?_
      exact t149_89 (r66 := r66) (o66 := o66) hS @hr66 h184 tx1 tx3 tx4 (show xin (0) by decide) e
theorem t149_66 {m f : Nat} {M0 : xj_M} (hS : xHS f)   : ∀ {n : Nat} {M : xj_M} {T : xT_} {x0 : Nat} {x1 : Int} {x3 : Int} {x4 : Int} {R : Int × xT_}, xCX m M0 M T → xin x1 → xin x3 → xin x4 → c149_66  f n x0 x1 x3 x4 T = some R → xok (f149_66  f n x0 x1 x3 x4 M) (fun r => r.1 = R.1 ∧ xCX m M0 r.2 R.2 ∧ xin R.1) := by
  intro n
  induction n with
  | zero => intros; rename_i e; cases e
  | succ n ih =>
    intros
    rename_i h i0 i1 i2 e
    exact t149_66b hS  @ih h i0 i1 i2 e
theorem t149_34 {m f : Nat} {M0 M : xj_M} {T : xT_} (hS : xHS f)   (h : xCX m M0 M T) {x0 : Nat} {x1 : Int} {R : Int × xT_} (tx1 : xin x1) (e : c149_34  f x0 x1 T = some R) : xok (f149_34  f x0 x1 M) (fun r => r.1 = R.1 ∧ xCX m M0 r.2 R.2 ∧ xin R.1) := by
  unfold c149_34 at e
  unfold f149_34
  obtain ⟨v185, q186, e⟩ := xbnd e
  refine xok_eqb (h.gr (by decide) (by decide) q186) ?_
  obtain ⟨_, q192, e⟩ := xbnd e
  obtain ⟨R187, e188, e⟩ := xbnd e
  refine xok_eqb (h.is q192) ?_
  refine xok_call (t26 hS h tx1 e188) ?_
  rintro ⟨v_, M189⟩ ⟨hv_, h190, hi191⟩
  cases hv_
  obtain ⟨v193, q194, e⟩ := xbnd e
  refine xok_eqb (h190.gi (by decide) (by decide) q194).1 ?_
  obtain ⟨T196, q195, e⟩ := xbnd e
  obtain ⟨M197, q198, h199⟩ := h190.pi (by decide) (by decide) (xin_of _) q195
  refine xok_eqb q198 ?_
  obtain ⟨_, q205, e⟩ := xbnd e
  obtain ⟨R200, e201, e⟩ := xbnd e
  refine xok_eqb (h199.is q205) ?_
  refine xok_call (t150 hS h199 tx1 e201) ?_
  intro M202 h203
  obtain ⟨T207, q206, e⟩ := xbnd e
  obtain ⟨M208, q209, h210⟩ := h203.pi (by decide) (by decide) (show xin (1) by decide) q206
  refine xok_eqb q209 ?_
  exact t149_66  hS  h210 tx1 hi191 (show xin (1) by decide) e
theorem t149 {m f : Nat} {M0 M : xj_M} {T : xT_} (hS : xHS f) (h : xCX m M0 M T) {a0 : Nat} {a1 : Int} {a2 : Int} {R : Int × xT_} (ta1 : xin a1) (ta2 : xin a2) (e : c149 f a0 a1 a2 T = some R) : xok (f149 f a0 a1 a2 M) (fun r => r.1 = R.1 ∧ xCX m M0 r.2 R.2 ∧ xin R.1) := by
  unfold c149 at e
  unfold f149
  obtain ⟨v211, q212, e⟩ := xbnd e
  refine xok_eqb (h.gr (by decide) (by decide) q212) ?_
  obtain ⟨v213, q214, e⟩ := xbnd e
  refine xok_eqb (h.gr (by decide) (by decide) q214) ?_
  obtain ⟨v215, q216, e⟩ := xbnd e
  refine xok_eqb (h.ab q216).1 ?_
  refine xok_ite (fun c217 => ?_) (fun c217 => ?_)
  · rw [if_pos c217] at e
    exact t149_32  hS  h  e
  · rw [if_neg c217] at e
    refine xok_ite (fun c218 => ?_) (fun c218 => ?_)
    · rw [if_pos c218] at e
      exact t149_34  hS  h ta1 e
    · rw [if_neg c218] at e
      obtain ⟨v219, q220, e⟩ := xbnd e
      refine xok_eqb (h.gr (by decide) (by decide) q220) ?_
      obtain ⟨_, q226, e⟩ := xbnd e
      obtain ⟨R221, e222, e⟩ := xbnd e
      refine xok_eqb (h.is q226) ?_
      refine xok_call (t27 hS h ta1 e222) ?_
      rintro ⟨v_, M223⟩ ⟨hv_, h224, hi225⟩
      cases hv_
      obtain ⟨v227, q228, e⟩ := xbnd e
      refine xok_eqb (h224.gi (by decide) (by decide) q228).1 ?_
      refine xok_ite (fun c229 => ?_) (fun c229 => ?_)
      · rw [if_pos c229] at e
        exact t149_34  hS  h224 ta1 e
      · rw [if_neg c229] at e
        exact t149_32  hS  h224  e
-- ChangeHouse$Works.explain
theorem t163_157 {m f : Nat} {M0 M : xj_M} {T : xT_} (hS : xHS f) {r51 : Nat → Nat → Int → Int → Int → xT_ → Option (xT_)} {o51 : Nat → Nat → Int → Int → Int → xj_M → Option (xj_M)} (hr51 : ∀ {M : xj_M} {T : xT_} {x0 : Nat} {x1 : Nat} {x2 : Int} {x4 : Int} {x5 : Int} {R : xT_}, xCX m M0 M T → xin x2 → xin x4 → xin x5 → r51 x0 x1 x2 x4 x5 T = some R → xok (o51 x0 x1 x2 x4 x5 M) (fun r => xCX m M0 r R)) (h : xCX m M0 M T) {x0 : Nat} {x1 : Nat} {x2 : Int} {x4 : Int} {x5 : Int} {R : xT_} (tx2 : xin x2) (tx4 : xin x4) (tx5 : xin x5) (e : c163_157 r51 f x0 x1 x2 x4 x5 T = some R) : xok (f163_157 o51 f x0 x1 x2 x4 x5 M) (fun r => xCX m M0 r R) := by
  unfold c163_157 at e
  unfold f163_157
  exact hr51 h tx2 tx4 (xin_wr _) e
theorem t163_154 {m f : Nat} {M0 M : xj_M} {T : xT_} (hS : xHS f) {r51 : Nat → Nat → Int → Int → Int → xT_ → Option (xT_)} {o51 : Nat → Nat → Int → Int → Int → xj_M → Option (xj_M)} (hr51 : ∀ {M : xj_M} {T : xT_} {x0 : Nat} {x1 : Nat} {x2 : Int} {x4 : Int} {x5 : Int} {R : xT_}, xCX m M0 M T → xin x2 → xin x4 → xin x5 → r51 x0 x1 x2 x4 x5 T = some R → xok (o51 x0 x1 x2 x4 x5 M) (fun r => xCX m M0 r R)) (h : xCX m M0 M T) {x0 : Nat} {x1 : Nat} {x2 : Int} {x4 : Int} {x5 : Int} {y0 : Int} {y1 : Nat} {R : xT_} (tx2 : xin x2) (tx4 : xin x4) (tx5 : xin x5) (ty0 : xin y0) (e : c163_154 r51 f x0 x1 x2 x4 x5 y0 y1 T = some R) : xok (f163_154 o51 f x0 x1 x2 x4 x5 y0 y1 M) (fun r => xCX m M0 r R) := by
  unfold c163_154 at e
  unfold f163_154
  obtain ⟨T102, q101, e⟩ := xbnd e
  obtain ⟨M103, q104, h105⟩ := h.pi (by decide) (by decide) ty0 q101
  refine xok_eqb q104 ?_
  exact t163_157 (r51 := r51) (o51 := o51) hS @hr51 h105 tx2 tx4 tx5 e
theorem t163_140 {m f : Nat} {M0 M : xj_M} {T : xT_} (hS : xHS f) {r51 : Nat → Nat → Int → Int → Int → xT_ → Option (xT_)} {o51 : Nat → Nat → Int → Int → Int → xj_M → Option (xj_M)} (hr51 : ∀ {M : xj_M} {T : xT_} {x0 : Nat} {x1 : Nat} {x2 : Int} {x4 : Int} {x5 : Int} {R : xT_}, xCX m M0 M T → xin x2 → xin x4 → xin x5 → r51 x0 x1 x2 x4 x5 T = some R → xok (o51 x0 x1 x2 x4 x5 M) (fun r => xCX m M0 r R)) (h : xCX m M0 M T) {x0 : Nat} {x1 : Nat} {x2 : Int} {x4 : Int} {x5 : Int} {y0 : Int} {R : xT_} (tx2 : xin x2) (tx4 : xin x4) (tx5 : xin x5) (ty0 : xin y0) (e : c163_140 r51 f x0 x1 x2 x4 x5 y0 T = some R) : xok (f163_140 o51 f x0 x1 x2 x4 x5 y0 M) (fun r => xCX m M0 r R) := by
  unfold c163_140 at e
  unfold f163_140
  refine xok_ite (fun c106 => ?_) (fun c106 => ?_)
  · rw [if_pos c106] at e
    exact t163_154 (r51 := r51) (o51 := o51) hS @hr51 h tx2 tx4 tx5 (show xin (-1) by decide) e
  · rw [if_neg c106] at e
    exact t163_154 (r51 := r51) (o51 := o51) hS @hr51 h tx2 tx4 tx5 tx5 e
theorem t163_139 {m f : Nat} {M0 M : xj_M} {T : xT_} (hS : xHS f) {r51 : Nat → Nat → Int → Int → Int → xT_ → Option (xT_)} {o51 : Nat → Nat → Int → Int → Int → xj_M → Option (xj_M)} (hr51 : ∀ {M : xj_M} {T : xT_} {x0 : Nat} {x1 : Nat} {x2 : Int} {x4 : Int} {x5 : Int} {R : xT_}, xCX m M0 M T → xin x2 → xin x4 → xin x5 → r51 x0 x1 x2 x4 x5 T = some R → xok (o51 x0 x1 x2 x4 x5 M) (fun r => xCX m M0 r R)) (h : xCX m M0 M T) {x0 : Nat} {x1 : Nat} {x2 : Int} {x4 : Int} {x5 : Int} {R : xT_} (tx2 : xin x2) (tx4 : xin x4) (tx5 : xin x5) (e : c163_139 r51 f x0 x1 x2 x4 x5 T = some R) : xok (f163_139 o51 f x0 x1 x2 x4 x5 M) (fun r => xCX m M0 r R) := by
  unfold c163_139 at e
  unfold f163_139
  exact t163_140 (r51 := r51) (o51 := o51) hS @hr51 h tx2 tx4 tx5 (show xin (0) by decide) e
theorem t163_163 {m f : Nat} {M0 M : xj_M} {T : xT_} (hS : xHS f)   (h : xCX m M0 M T)  {R : xT_}  (e : c163_163  f  T = some R) : xok (f163_163  f  M) (fun r => xCX m M0 r R) := by
  unfold c163_163 at e
  unfold f163_163
  cases e
  exact ⟨_, rfl, h⟩
theorem t163_51b {m f : Nat} {M0 M : xj_M} {T : xT_} (hS : xHS f) {r51 : Nat → Nat → Int → Int → Int → xT_ → Option (xT_)} {o51 : Nat → Nat → Int → Int → Int → xj_M → Option (xj_M)} (hr51 : ∀ {M : xj_M} {T : xT_} {x0 : Nat} {x1 : Nat} {x2 : Int} {x4 : Int} {x5 : Int} {R : xT_}, xCX m M0 M T → xin x2 → xin x4 → xin x5 → r51 x0 x1 x2 x4 x5 T = some R → xok (o51 x0 x1 x2 x4 x5 M) (fun r => xCX m M0 r R)) (h : xCX m M0 M T) {x0 : Nat} {x1 : Nat} {x2 : Int} {x4 : Int} {x5 : Int} {R : xT_} (tx2 : xin x2) (tx4 : xin x4) (tx5 : xin x5) (e : c163_51b r51 f x0 x1 x2 x4 x5 T = some R) : xok (f163_51b o51 f x0 x1 x2 x4 x5 M) (fun r => xCX m M0 r R) := by
  unfold c163_51b at e
  unfold f163_51b
  obtain ⟨v107, q108, e⟩ := xbnd e
  refine xok_eqb (h.gr (by decide) (by decide) q108) ?_
  obtain ⟨v109, q110, e⟩ := xbnd e
  refine xok_eqb (h.gi (by decide) (by decide) q110).1 ?_
  refine xok_ite (fun c111 => ?_) (fun c111 => ?_)
  · rw [if_pos c111] at e
    exact t163_163  hS  h  e
  · rw [if_neg c111] at e
    obtain ⟨v112, q113, e⟩ := xbnd e
    refine xok_eqb (h.gi (by decide) (by decide) q113).1 ?_
    refine xok_ite (fun c114 => ?_) (fun c114 => ?_)
    · rw [if_pos c114] at e
      exact t163_163  hS  h  e
    · rw [if_neg c114] at e
      obtain ⟨v115, q116, e⟩ := xbnd e
      refine xok_eqb (h.gr (by decide) (by decide) q116) ?_
      obtain ⟨v117, q118, e⟩ := xbnd e
      refine xok_eqb (h.gr (by decide) (by decide) q118) ?_
      obtain ⟨v119, q120, e⟩ := xbnd e
      refine xok_eqb (h.ar q120) ?_
      obtain ⟨v121, q122, e⟩ := xbnd e
      refine xok_eqb (h.gi (by decide) (by decide) q122).1 ?_
      refine xok_ite (fun c123 => ?_) (fun c123 => ?_)
      · rw [if_pos c123] at e
        exact t163_157 (r51 := r51) (o51 := o51) hS @hr51 h tx2 tx4 tx5 e
      · rw [if_neg c123] at e
        obtain ⟨v124, q125, e⟩ := xbnd e
        refine xok_eqb (h.gi (by decide) (by decide) q125).1 ?_
        refine xok_ite (fun c126 => ?_) (fun c126 => ?_)
        · rw [if_pos c126] at e
          refine xok_ite (fun c127 => ?_) (fun c127 => ?_)
          · rw [if_pos c127] at e
            exact t163_139 (r51 := r51) (o51 := o51) hS @hr51 h tx2 tx4 tx5 e
          · rw [if_neg c127] at e
            obtain ⟨v128, q129, e⟩ := xbnd e
            refine xok_eqb (h.gr (by decide) (by decide) q129) ?_
            obtain ⟨_, q135, e⟩ := xbnd e
            obtain ⟨R130, e131, e⟩ := xbnd e
            refine xok_eqb (h.is q135) ?_
            refine xok_call (t167 hS h  e131) ?_
            rintro ⟨v_, M132⟩ ⟨hv_, h133, hi134⟩
            cases hv_
            refine xok_ite (fun c136 => ?_) (fun c136 => ?_)
            · rw [if_pos c136] at e
              exact t163_139 (r51 := r51) (o51 := o51) hS @hr51 h133 tx2 tx4 tx5 e
            · rw [if_neg c136] at e
              exact t163_140 (r51 := r51) (o51 := o51) hS @hr51 h133 tx2 tx4 tx5 (show xin (1) by decide) e
        · rw [if_neg c126] at e
          obtain ⟨v137, q138, e⟩ := xbnd e
          refine xok_eqb (h.gr (by decide) (by decide) q138) ?_
          obtain ⟨_, q144, e⟩ := xbnd e
          obtain ⟨R139, e140, e⟩ := xbnd e
          refine xok_eqb (h.is q144) ?_
          refine xok_call (t164 hS h tx4 e140) ?_
          rintro ⟨v_, M141⟩ ⟨hv_, h142, hi143⟩
          cases hv_
          exact t163_140 (r51 := r51) (o51 := o51) hS @hr51 h142 tx2 tx4 tx5 hi143 e
theorem t163_51 {m f : Nat} {M0 : xj_M} (hS : xHS f)   : ∀ {n : Nat} {M : xj_M} {T : xT_} {x0 : Nat} {x1 : Nat} {x2 : Int} {x4 : Int} {x5 : Int} {R : xT_}, xCX m M0 M T → xin x2 → xin x4 → xin x5 → c163_51  f n x0 x1 x2 x4 x5 T = some R → xok (f163_51  f n x0 x1 x2 x4 x5 M) (fun r => xCX m M0 r R) := by
  intro n
  induction n with
  | zero => intros; rename_i e; cases e
  | succ n ih =>
    intros
    rename_i h i0 i1 i2 e
    exact t163_51b hS  @ih h i0 i1 i2 e
theorem t163 {m f : Nat} {M0 M : xj_M} {T : xT_} (hS : xHS f) (h : xCX m M0 M T) {a0 : Nat} {a1 : Nat} {a2 : Int} {a3 : Int} {R : xT_} (ta2 : xin a2) (ta3 : xin a3) (e : c163 f a0 a1 a2 a3 T = some R) : xok (f163 f a0 a1 a2 a3 M) (fun r => xCX m M0 r R) := by
  unfold c163 at e
  unfold f163
  obtain ⟨v145, q146, e⟩ := xbnd e
  refine xok_eqb (h.gr (by decide) (by decide) q146) ?_
  obtain ⟨T148, q147, e⟩ := xbnd e
  obtain ⟨M149, q150, h151⟩ := h.pr (by decide) (by decide)  q147
  refine xok_eqb q150 ?_
  obtain ⟨T153, q152, e⟩ := xbnd e
  obtain ⟨M154, q155, h156⟩ := h151.pi (by decide) (by decide) (show xin (-1) by decide) q152
  refine xok_eqb q155 ?_
  obtain ⟨v157, q158, e⟩ := xbnd e
  refine xok_eqb (h156.gr (by decide) (by decide) q158) ?_
  obtain ⟨R159, e160, e⟩ := xbnd e
  refine xok_call (t382 hS h156 (show xin (-1) by decide) e160) ?_
  intro M161 h162
  obtain ⟨v164, q165, e⟩ := xbnd e
  refine xok_eqb (h162.gr (by decide) (by decide) q165) ?_
  obtain ⟨v166, q167, e⟩ := xbnd e
  refine xok_eqb (h162.ar q167) ?_
  obtain ⟨v168, q169, e⟩ := xbnd e
  refine xok_eqb (h162.gr (by decide) (by decide) q169) ?_
  obtain ⟨v170, q171, e⟩ := xbnd e
  refine xok_eqb (h162.ai (by decide) q171).1 ?_
  obtain ⟨v172, q173, e⟩ := xbnd e
  refine xok_eqb (h162.gr (by decide) (by decide) q173) ?_
  obtain ⟨v174, q175, e⟩ := xbnd e
  refine xok_eqb (h162.ar q175) ?_
  obtain ⟨v176, q177, e⟩ := xbnd e
  refine xok_eqb (h162.gr (by decide) (by decide) q177) ?_
  obtain ⟨_, q183, e⟩ := xbnd e
  obtain ⟨R178, e179, e⟩ := xbnd e
  refine xok_eqb (h162.is q183) ?_
  refine xok_call (t78 hS h162 ta3 e179) ?_
  intro M180 h181
  exact t163_51  hS  h181 ta2 (h162.ai (by decide) q171).2 (show xin (0) by decide) e
-- ChangeHouse.reason
theorem t182_55 {m f : Nat} {M0 M : xj_M} {T : xT_} (hS : xHS f)   (h : xCX m M0 M T)  {R : (Nat ⊕ Int) × xT_}  (e : c182_55  f  T = some R) : xok (f182_55  f  M) (fun r => r.1 = R.1 ∧ xCX m M0 r.2 R.2 ∧ ∀ v, R.1 = .inr v → xin v) := by
  unfold c182_55 at e
  unfold f182_55
  cases e
  exact ⟨_, rfl, rfl, h, fun v hv => by cases hv; exact (show xin (-1) by decide)⟩
theorem t182_93 {m f : Nat} {M0 M : xj_M} {T : xT_} (hS : xHS f)   (h : xCX m M0 M T) {y0 : Int} {R : (Nat ⊕ Int) × xT_} (ty0 : xin y0) (e : c182_93  f y0 T = some R) : xok (f182_93  f y0 M) (fun r => r.1 = R.1 ∧ xCX m M0 r.2 R.2 ∧ ∀ v, R.1 = .inr v → xin v) := by
  unfold c182_93 at e
  unfold f182_93
  cases e
  exact ⟨_, rfl, rfl, h, fun v hv => by cases hv; exact ty0⟩
theorem t182 {m f : Nat} {M0 M : xj_M} {T : xT_} (hS : xHS f) (h : xCX m M0 M T) {a0 : Nat} {a1 : Int} {a2 : Int} {a3 : Int} {R : (Nat ⊕ Int) × xT_} (ta1 : xin a1) (ta2 : xin a2) (ta3 : xin a3) (e : c182 f a0 a1 a2 a3 T = some R) : xok (f182 f a0 a1 a2 a3 M) (fun r => r.1 = R.1 ∧ xCX m M0 r.2 R.2 ∧ ∀ v, R.1 = .inr v → xin v) := by
  unfold c182 at e
  unfold f182
  obtain ⟨v101, q102, e⟩ := xbnd e
  refine xok_eqb (h.gr (by decide) (by decide) q102) ?_
  obtain ⟨v103, q104, e⟩ := xbnd e
  refine xok_eqb (h.gi (by decide) (by decide) q104).1 ?_
  obtain ⟨v105, q106, e⟩ := xbnd e
  refine xok_eqb (h.ar q106) ?_
  obtain ⟨_, q112, e⟩ := xbnd e
  obtain ⟨R107, e108, e⟩ := xbnd e
  refine xok_eqb (h.is q112) ?_
  refine xok_call (t5 hS h  e108) ?_
  rintro ⟨v_, M109⟩ ⟨hv_, h110⟩
  cases hv_
  obtain ⟨_, q118, e⟩ := xbnd e
  obtain ⟨R113, e114, e⟩ := xbnd e
  refine xok_eqb (h110.is q118) ?_
  refine xok_call (t15 hS h110 ta1 ta2 (show xin (0) by decide) e114) ?_
  rintro ⟨v_, M115⟩ ⟨hv_, h116, hi117⟩
  cases hv_
  refine xok_ite (fun c119 => ?_) (fun c119 => ?_)
  · rw [if_pos c119] at e
    refine xok_ite (fun c120 => ?_) (fun c120 => ?_)
    · rw [if_pos c120] at e
      exact t182_55  hS  h116  e
    · rw [if_neg c120] at e
      refine xok_ite (fun c121 => ?_) (fun c121 => ?_)
      · rw [if_pos c121] at e
        exact t182_55  hS  h116  e
      · rw [if_neg c121] at e
        obtain ⟨v122, q123, e⟩ := xbnd e
        refine xok_eqb (h116.gr (by decide) (by decide) q123) ?_
        obtain ⟨v124, q125, e⟩ := xbnd e
        refine xok_eqb (h116.gr (by decide) (by decide) q125) ?_
        obtain ⟨v126, q127, e⟩ := xbnd e
        refine xok_eqb (h116.ab q127).1 ?_
        refine xok_ite (fun c128 => ?_) (fun c128 => ?_)
        · rw [if_pos c128] at e
          obtain ⟨v129, q130, e⟩ := xbnd e
          refine xok_eqb (h116.gr (by decide) (by decide) q130) ?_
          obtain ⟨_, q136, e⟩ := xbnd e
          obtain ⟨R131, e132, e⟩ := xbnd e
          refine xok_eqb (h116.is q136) ?_
          refine xok_call (t163 hS h116 ta1 ta2 e132) ?_
          intro M133 h134
          refine xok_ite (fun c137 => ?_) (fun c137 => ?_)
          · rw [if_pos c137] at e
            obtain ⟨v138, q139, e⟩ := xbnd e
            refine xok_eqb (h134.gr (by decide) (by decide) q139) ?_
            obtain ⟨v140, q141, e⟩ := xbnd e
            refine xok_eqb (h134.gr (by decide) (by decide) q141) ?_
            obtain ⟨v142, q143, e⟩ := xbnd e
            refine xok_eqb (h134.ai (by decide) q143).1 ?_
            exact t182_93  hS  h134 (h134.ai (by decide) q143).2 e
          · rw [if_neg c137] at e
            obtain ⟨v144, q145, e⟩ := xbnd e
            refine xok_eqb (h134.gr (by decide) (by decide) q145) ?_
            obtain ⟨v146, q147, e⟩ := xbnd e
            refine xok_eqb (h134.gi (by decide) (by decide) q147).1 ?_
            exact t182_93  hS  h134 (h134.gi (by decide) (by decide) q147).2 e
        · rw [if_neg c128] at e
          exact t182_55  hS  h116  e
  · rw [if_neg c119] at e
    cases e
    exact ⟨_, rfl, rfl, h116.ex, fun v hv => by cases hv⟩
-- ChangeHouse.query
theorem t1003_44 {m f : Nat} {M0 M : xj_M} {T : xT_} (hS : xHS f)   (h : xCX m M0 M T) {x0 : Nat} {x1 : Nat} {x2 : Int} {R : Int × xT_} (tx2 : xin x2) (e : c1003_44  f x0 x1 x2 T = some R) : xok (f1003_44  f x0 x1 x2 M) (fun r => r.1 = R.1 ∧ xCX m M0 r.2 R.2 ∧ xin R.1) := by
  unfold c1003_44 at e
  unfold f1003_44
  obtain ⟨v101, q102, e⟩ := xbnd e
  refine xok_eqb (h.gr (by decide) (by decide) q102) ?_
  obtain ⟨T104, q103, e⟩ := xbnd e
  obtain ⟨M105, q106, h107⟩ := h.pi (by decide) (by decide) (show xin (0) by decide) q103
  refine xok_eqb q106 ?_
  refine xok_ite (fun c108 => ?_) (fun c108 => ?_)
  · rw [if_pos c108] at e
    obtain ⟨v109, q110, e⟩ := xbnd e
    refine xok_eqb (h107.gr (by decide) (by decide) q110) ?_
    obtain ⟨_, q116, e⟩ := xbnd e
    obtain ⟨R111, e112, e⟩ := xbnd e
    refine xok_eqb (h107.is q116) ?_
    refine xok_call (t63 hS h107  e112) ?_
    rintro ⟨v_, M113⟩ ⟨hv_, h114, hi115⟩
    cases hv_
    refine xok_ite (fun c117 => ?_) (fun c117 => ?_)
    · rw [if_pos c117] at e
      obtain ⟨v118, q119, e⟩ := xbnd e
      refine xok_eqb (h114.gr (by decide) (by decide) q119) ?_
      obtain ⟨v120, q121, e⟩ := xbnd e
      refine xok_eqb (h114.gr (by decide) (by decide) q121) ?_
      obtain ⟨_, q127, e⟩ := xbnd e
      obtain ⟨R122, e123, e⟩ := xbnd e
      refine xok_eqb (h114.is q127) ?_
      refine xok_call (t179 hS h114  e123) ?_
      rintro ⟨v_, M124⟩ ⟨hv_, h125, hi126⟩
      cases hv_
      cases e
      exact ⟨_, rfl, rfl, h125, hi126⟩
    · rw [if_neg c117] at e
      obtain ⟨v128, q129, e⟩ := xbnd e
      refine xok_eqb (h114.gr (by decide) (by decide) q129) ?_
      obtain ⟨v130, q131, e⟩ := xbnd e
      refine xok_eqb (h114.gi (by decide) (by decide) q131).1 ?_
      obtain ⟨T133, q132, e⟩ := xbnd e
      obtain ⟨M134, q135, h136⟩ := h114.pi (by decide) (by decide) (h114.gi (by decide) (by decide) q131).2 q132
      refine xok_eqb q135 ?_
      cases e
      exact ⟨_, rfl, rfl, h136, (xin_wr _)⟩
  · rw [if_neg c108] at e
    obtain ⟨v137, q138, e⟩ := xbnd e
    refine xok_eqb (h107.gr (by decide) (by decide) q138) ?_
    obtain ⟨v139, q140, e⟩ := xbnd e
    refine xok_eqb (h107.gi (by decide) (by decide) q140).1 ?_
    cases e
    exact ⟨_, rfl, rfl, h107, (xin_wr _)⟩
theorem t1003 {m f : Nat} {M0 M : xj_M} {T : xT_} (hS : xHS f) (h : xCX m M0 M T) {a0 : Nat} {R : Int × xT_}  (e : c1003 f a0 T = some R) : xok (f1003 f a0 M) (fun r => r.1 = R.1 ∧ xCX m M0 r.2 R.2 ∧ xin R.1) := by
  unfold c1003 at e
  unfold f1003
  obtain ⟨T142, q141, e⟩ := xbnd e
  obtain ⟨M143, q144, h145⟩ := h.pi (by decide) (by decide) (show xin (-1) by decide) q141
  refine xok_eqb q144 ?_
  obtain ⟨v146, q147, e⟩ := xbnd e
  refine xok_eqb (h145.gr (by decide) (by decide) q147) ?_
  obtain ⟨v148, q149, e⟩ := xbnd e
  refine xok_eqb (h145.gi (by decide) (by decide) q149).1 ?_
  obtain ⟨v150, q151, e⟩ := xbnd e
  refine xok_eqb (h145.ar q151) ?_
  obtain ⟨_, q157, e⟩ := xbnd e
  obtain ⟨R152, e153, e⟩ := xbnd e
  refine xok_eqb (h145.is q157) ?_
  refine xok_call (t5 hS h145  e153) ?_
  rintro ⟨v_, M154⟩ ⟨hv_, h155⟩
  cases hv_
  obtain ⟨v158, q159, e⟩ := xbnd e
  refine xok_eqb (h155.gr (by decide) (by decide) q159) ?_
  obtain ⟨_, q165, e⟩ := xbnd e
  obtain ⟨R160, e161, e⟩ := xbnd e
  refine xok_eqb (h155.is q165) ?_
  refine xok_call (t112 hS h155  e161) ?_
  intro M162 h163
  obtain ⟨v166, q167, e⟩ := xbnd e
  refine xok_eqb (h163.gr (by decide) (by decide) q167) ?_
  obtain ⟨v168, q169, e⟩ := xbnd e
  refine xok_eqb (h163.gr (by decide) (by decide) q169) ?_
  obtain ⟨_, q175, e⟩ := xbnd e
  obtain ⟨R170, e171, e⟩ := xbnd e
  refine xok_eqb (h163.is q175) ?_
  refine xok_call (t31 hS h163  e171) ?_
  rintro ⟨v_, M172⟩ ⟨hv_, h173⟩
  cases hv_
  dsimp only
  cases g177 : R170.1 with
  | inl k_ =>
    obtain ⟨k2_, e⟩ := chd_l g177 e
    rw [xhd_e (by exact g177) k2_]
    exact t1003_44  hS  h173 (show xin (0) by decide) e
  | inr v176 =>
    rw [chd_r g177] at e
    rw [xhd_r (by exact g177)]
    exact t1003_44  hS  h173 (show xin (1) by decide) e
-- ChangeHouseLaw.reason
theorem t1009 {m f : Nat} {M0 M : xj_M} {T : xT_} (hS : xHS f) (h : xCX m M0 M T) {a0 : Nat} {a1 : Int} {a2 : Int} {a3 : Int} {a4 : Nat} {R : Int × xT_} (ta1 : xin a1) (ta2 : xin a2) (ta3 : xin a3) (e : c1009 f a0 a1 a2 a3 a4 T = some R) : xok (f1009 f a0 a1 a2 a3 a4 M) (fun r => r.1 = R.1 ∧ xCX m M0 r.2 R.2 ∧ xin R.1) := by
  unfold c1009 at e
  unfold f1009
  obtain ⟨_, q106, e⟩ := xbnd e
  obtain ⟨R101, e102, e⟩ := xbnd e
  refine xok_eqb (h.is q106) ?_
  refine xok_call (t182 hS h ta1 ta2 ta3 e102) ?_
  rintro ⟨v_, M103⟩ ⟨hv_, h104, hi105⟩
  cases hv_
  dsimp only
  cases g108 : R101.1 with
  | inl k_ =>
    obtain ⟨k2_, e⟩ := chd_l g108 e
    rw [xhd_e (by exact g108) k2_]
    cases e
    exact ⟨_, rfl, rfl, h104, (show xin (1) by decide)⟩
  | inr v107 =>
    rw [chd_r g108] at e
    rw [xhd_r (by exact g108)]
    obtain ⟨T110, q109, e⟩ := xbnd e
    obtain ⟨M111, q112, h113⟩ := h104.sl (xin_N (hi105 _ g108)) q109
    refine xok_eqb q112 ?_
    cases e
    exact ⟨_, rfl, rfl, h113, (show xin (0) by decide)⟩
-- ChangeHouse$Reader.readProgram
theorem t30_73 {m f : Nat} {M0 M : xj_M} {T : xT_} (hS : xHS f) {r8 : Nat → Int → xT_ → Option ((Nat ⊕ Unit) × xT_)} {o8 : Nat → Int → xj_M → Option ((Nat ⊕ Unit) × xj_M)} (hr8 : ∀ {M : xj_M} {T : xT_} {x0 : Nat} {x2 : Int} {R : (Nat ⊕ Unit) × xT_}, xCX m M0 M T → xin x2 → r8 x0 x2 T = some R → xok (o8 x0 x2 M) (fun r => r.1 = R.1 ∧ xCX m M0 r.2 R.2)) (h : xCX m M0 M T) {x0 : Nat} {x2 : Int} {R : (Nat ⊕ Unit) × xT_} (tx2 : xin x2) (e : c30_73 r8 f x0 x2 T = some R) : xok (f30_73 o8 f x0 x2 M) (fun r => r.1 = R.1 ∧ xCX m M0 r.2 R.2) := by
  unfold c30_73 at e
  unfold f30_73
  exact hr8 h (xin_wr _) e
theorem t30_79 {m f : Nat} {M0 M : xj_M} {T : xT_} (hS : xHS f)   (h : xCX m M0 M T)  {R : (Nat ⊕ Unit) × xT_}  (e : c30_79  f  T = some R) : xok (f30_79  f  M) (fun r => r.1 = R.1 ∧ xCX m M0 r.2 R.2) := by
  unfold c30_79 at e
  unfold f30_79
  cases e
  exact ⟨_, rfl, rfl, h⟩
theorem t30_8b {m f : Nat} {M0 M : xj_M} {T : xT_} (hS : xHS f) {r8 : Nat → Int → xT_ → Option ((Nat ⊕ Unit) × xT_)} {o8 : Nat → Int → xj_M → Option ((Nat ⊕ Unit) × xj_M)} (hr8 : ∀ {M : xj_M} {T : xT_} {x0 : Nat} {x2 : Int} {R : (Nat ⊕ Unit) × xT_}, xCX m M0 M T → xin x2 → r8 x0 x2 T = some R → xok (o8 x0 x2 M) (fun r => r.1 = R.1 ∧ xCX m M0 r.2 R.2)) (h : xCX m M0 M T) {x0 : Nat} {x2 : Int} {R : (Nat ⊕ Unit) × xT_} (tx2 : xin x2) (e : c30_8b r8 f x0 x2 T = some R) : xok (f30_8b o8 f x0 x2 M) (fun r => r.1 = R.1 ∧ xCX m M0 r.2 R.2) := by
  unfold c30_8b at e
  unfold f30_8b
  refine xok_ite (fun c101 => ?_) (fun c101 => ?_)
  · rw [if_pos c101] at e
    exact t30_79  hS  h  e
  · rw [if_neg c101] at e
    obtain ⟨v102, q103, e⟩ := xbnd e
    refine xok_eqb (h.gr (by decide) (by decide) q103) ?_
    obtain ⟨v104, q105, e⟩ := xbnd e
    refine xok_eqb (h.gr (by decide) (by decide) q105) ?_
    obtain ⟨v106, q107, e⟩ := xbnd e
    refine xok_eqb (h.gi (by decide) (by decide) q107).1 ?_
    obtain ⟨v108, q109, e⟩ := xbnd e
    refine xok_eqb (h.ai (by decide) q109).1 ?_
    refine xok_ite (fun c110 => ?_) (fun c110 => ?_)
    · rw [if_pos c110] at e
      exact t30_79  hS  h  e
    · rw [if_neg c110] at e
      obtain ⟨v111, q112, e⟩ := xbnd e
      refine xok_eqb (h.gr (by decide) (by decide) q112) ?_
      obtain ⟨v113, q114, e⟩ := xbnd e
      refine xok_eqb (h.gr (by decide) (by decide) q114) ?_
      obtain ⟨v115, q116, e⟩ := xbnd e
      refine xok_eqb (h.gi (by decide) (by decide) q116).1 ?_
      obtain ⟨v117, q118, e⟩ := xbnd e
      refine xok_eqb (h.ai (by decide) q118).1 ?_
      refine xok_ite (fun c119 => ?_) (fun c119 => ?_)
      · rw [if_pos c119] at e
        refine xok_ite (fun c120 => ?_) (fun c120 => ?_)
        · rw [if_pos c120] at e
          obtain ⟨_, q126, e⟩ := xbnd e
          obtain ⟨R121, e122, e⟩ := xbnd e
          refine xok_eqb (h.is q126) ?_
          refine xok_call (t43 hS h  e122) ?_
          rintro ⟨v_, M123⟩ ⟨hv_, h124⟩
          cases hv_
          dsimp only
          cases g128 : R121.1 with
          | inl k_ =>
            rw [cth_l g128] at e; cases e
            rw [xth_l (by exact g128)]
            exact ⟨_, rfl, rfl, h124⟩
          | inr v127 =>
            rw [cth_r g128] at e
            rw [xth_r (by exact g128)]
            exact t30_73 (r8 := r8) (o8 := o8) hS @hr8 h124 tx2 e
        · rw [if_neg c120] at e
          obtain ⟨_, q134, e⟩ := xbnd e
          obtain ⟨R129, e130, e⟩ := xbnd e
          refine xok_eqb (h.is q134) ?_
          refine xok_call (t42 hS h  e130) ?_
          rintro ⟨v_, M131⟩ ⟨hv_, h132⟩
          cases hv_
          dsimp only
          cases g136 : R129.1 with
          | inl k_ =>
            rw [cth_l g136] at e; cases e
            rw [xth_l (by exact g136)]
            exact ⟨_, rfl, rfl, h132⟩
          | inr v135 =>
            rw [cth_r g136] at e
            rw [xth_r (by exact g136)]
            exact t30_73 (r8 := r8) (o8 := o8) hS @hr8 h132 tx2 e
      · rw [if_neg c119] at e
        obtain ⟨_, q142, e⟩ := xbnd e
        obtain ⟨R137, e138, e⟩ := xbnd e
        refine xok_eqb (h.is q142) ?_
        refine xok_call (t41 hS h  e138) ?_
        rintro ⟨v_, M139⟩ ⟨hv_, h140⟩
        cases hv_
        dsimp only
        cases g144 : R137.1 with
        | inl k_ =>
          rw [cth_l g144] at e; cases e
          rw [xth_l (by exact g144)]
          exact ⟨_, rfl, rfl, h140⟩
        | inr v143 =>
          rw [cth_r g144] at e
          rw [xth_r (by exact g144)]
          exact t30_73 (r8 := r8) (o8 := o8) hS @hr8 h140 tx2 e
theorem t30_8 {m f : Nat} {M0 : xj_M} (hS : xHS f)   : ∀ {n : Nat} {M : xj_M} {T : xT_} {x0 : Nat} {x2 : Int} {R : (Nat ⊕ Unit) × xT_}, xCX m M0 M T → xin x2 → c30_8  f n x0 x2 T = some R → xok (f30_8  f n x0 x2 M) (fun r => r.1 = R.1 ∧ xCX m M0 r.2 R.2) := by
  intro n
  induction n with
  | zero => intros; rename_i e; cases e
  | succ n ih =>
    intros
    rename_i h i0 e
    exact t30_8b hS  @ih h i0 e
theorem t30 {m f : Nat} {M0 M : xj_M} {T : xT_} (hS : xHS f) (h : xCX m M0 M T) {a0 : Nat} {a1 : Nat} {R : (Nat ⊕ Unit) × xT_}  (e : c30 f a0 a1 T = some R) : xok (f30 f a0 a1 M) (fun r => r.1 = R.1 ∧ xCX m M0 r.2 R.2) := by
  unfold c30 at e
  unfold f30
  obtain ⟨_, q150, e⟩ := xbnd e
  obtain ⟨R145, e146, e⟩ := xbnd e
  refine xok_eqb (h.is q150) ?_
  refine xok_call (t34 hS h (show xin (1) by decide) e146) ?_
  intro M147 h148
  exact t30_8  hS  h148 (show xin (0) by decide) e
