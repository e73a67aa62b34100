/-! The class over its cells as functions (written by mk_c.py) -/
-- ChangeHouse$Reader.readAtom
theorem t46_229 {m f : Nat} {M0 M : xj_M} {T : xT_} (hS : xHS f)   (h : xCX m M0 M T)  {R : (Nat ⊕ Unit) × xT_}  (e : c46_229  f  T = some R) : xok (f46_229  f  M) (fun r => r.1 = R.1 ∧ xCX m M0 r.2 R.2) := by
  unfold c46_229 at e
  unfold f46_229
  cases e
  exact ⟨_, rfl, rfl, h⟩
theorem t46_149 {m f : Nat} {M0 M : xj_M} {T : xT_} (hS : xHS f)   (h : xCX m M0 M T) {x0 : Nat} {x1 : Int} {x2 : Int} {x3 : Int} {x4 : Int} {x5 : Int} {R : (Nat ⊕ Unit) × xT_} (tx1 : xin x1) (tx2 : xin x2) (tx3 : xin x3) (tx4 : xin x4) (tx5 : xin x5) (e : c46_149  f x0 x1 x2 x3 x4 x5 T = some R) : xok (f46_149  f x0 x1 x2 x3 x4 x5 M) (fun r => r.1 = R.1 ∧ xCX m M0 r.2 R.2) := by
  unfold c46_149 at e
  unfold f46_149
  obtain ⟨_, q106, e⟩ := xbnd e
  obtain ⟨R101, e102, e⟩ := xbnd e
  refine xok_eqb (h.is q106) ?_
  refine xok_call (t38 hS h (show xin (41) by decide) e102) ?_
  rintro ⟨v_, M103⟩ ⟨hv_, h104⟩
  cases hv_
  dsimp only
  cases g108 : R101.1 with
  | inl k_ =>
    rw [cth_l g108] at e; cases e
    rw [xth_l (by exact g108)]
    exact ⟨_, rfl, rfl, h104⟩
  | inr v107 =>
    rw [cth_r g108] at e
    rw [xth_r (by exact g108)]
    obtain ⟨v109, q110, e⟩ := xbnd e
    refine xok_eqb (h104.gr (by decide) (by decide) q110) ?_
    obtain ⟨v111, q112, e⟩ := xbnd e
    refine xok_eqb (h104.gr (by decide) (by decide) q112) ?_
    obtain ⟨T114, q113, e⟩ := xbnd e
    obtain ⟨M115, q116, h117⟩ := h104.si tx1 q113
    refine xok_eqb q116 ?_
    obtain ⟨v118, q119, e⟩ := xbnd e
    refine xok_eqb (h117.gr (by decide) (by decide) q119) ?_
    obtain ⟨v120, q121, e⟩ := xbnd e
    refine xok_eqb (h117.gr (by decide) (by decide) q121) ?_
    obtain ⟨T123, q122, e⟩ := xbnd e
    obtain ⟨M124, q125, h126⟩ := h117.si tx3 q122
    refine xok_eqb q125 ?_
    obtain ⟨v127, q128, e⟩ := xbnd e
    refine xok_eqb (h126.gr (by decide) (by decide) q128) ?_
    obtain ⟨v129, q130, e⟩ := xbnd e
    refine xok_eqb (h126.gr (by decide) (by decide) q130) ?_
    obtain ⟨T132, q131, e⟩ := xbnd e
    obtain ⟨M133, q134, h135⟩ := h126.si tx5 q131
    refine xok_eqb q134 ?_
    obtain ⟨v136, q137, e⟩ := xbnd e
    refine xok_eqb (h135.gr (by decide) (by decide) q137) ?_
    obtain ⟨v138, q139, e⟩ := xbnd e
    refine xok_eqb (h135.gi (by decide) (by decide) q139).1 ?_
    obtain ⟨T141, q140, e⟩ := xbnd e
    obtain ⟨M142, q143, h144⟩ := h135.pi (by decide) (by decide) (xin_wr _) q140
    refine xok_eqb q143 ?_
    obtain ⟨_, q150, e⟩ := xbnd e
    obtain ⟨R145, e146, e⟩ := xbnd e
    refine xok_eqb (h144.is q150) ?_
    refine xok_call (t40 hS h144 (show xin (15) by decide) tx3 tx2 tx5 e146) ?_
    intro M147 h148
    obtain ⟨v151, q152, e⟩ := xbnd e
    refine xok_eqb (h148.gi (by decide) (by decide) q152).1 ?_
    refine xok_ite (fun c153 => ?_) (fun c153 => ?_)
    · rw [if_pos c153] at e
      exact t46_229  hS  h148  e
    · rw [if_neg c153] at e
      obtain ⟨v154, q155, e⟩ := xbnd e
      refine xok_eqb (h148.gr (by decide) (by decide) q155) ?_
      obtain ⟨_, q161, e⟩ := xbnd e
      obtain ⟨R156, e157, e⟩ := xbnd e
      refine xok_eqb (h148.is q161) ?_
      refine xok_call (t23 hS h148 tx3 tx5 e157) ?_
      intro M158 h159
      exact t46_229  hS  h159  e
theorem t46_133 {m f : Nat} {M0 M : xj_M} {T : xT_} (hS : xHS f) {r41 : Nat → Int → Int → Int → Int → Int → xT_ → Option ((Nat ⊕ Unit) × xT_)} {o41 : Nat → Int → Int → Int → Int → Int → xj_M → Option ((Nat ⊕ Unit) × xj_M)} (hr41 : ∀ {M : xj_M} {T : xT_} {x0 : Nat} {x1 : Int} {x2 : Int} {x3 : Int} {x4 : Int} {x5 : Int} {R : (Nat ⊕ Unit) × xT_}, xCX m M0 M T → xin x1 → xin x2 → xin x3 → xin x4 → xin x5 → r41 x0 x1 x2 x3 x4 x5 T = some R → xok (o41 x0 x1 x2 x3 x4 x5 M) (fun r => r.1 = R.1 ∧ xCX m M0 r.2 R.2)) (h : xCX m M0 M T) {x0 : Nat} {x1 : Int} {x2 : Int} {x3 : Int} {x4 : Int} {x5 : Int} {R : (Nat ⊕ Unit) × xT_} (tx1 : xin x1) (tx2 : xin x2) (tx3 : xin x3) (tx4 : xin x4) (tx5 : xin x5) (e : c46_133 r41 f x0 x1 x2 x3 x4 x5 T = some R) : xok (f46_133 o41 f x0 x1 x2 x3 x4 x5 M) (fun r => r.1 = R.1 ∧ xCX m M0 r.2 R.2) := by
  unfold c46_133 at e
  unfold f46_133
  refine xok_ite (fun c162 => ?_) (fun c162 => ?_)
  · rw [if_pos c162] at e
    exact t46_149  hS  h tx1 tx2 tx3 tx4 (xin_wr _) e
  · rw [if_neg c162] at e
    obtain ⟨_, q168, e⟩ := xbnd e
    obtain ⟨R163, e164, e⟩ := xbnd e
    refine xok_eqb (h.is q168) ?_
    refine xok_call (t39 hS h  e164) ?_
    rintro ⟨v_, M165⟩ ⟨hv_, h166, hi167⟩
    cases hv_
    refine xok_ite (fun c169 => ?_) (fun c169 => ?_)
    · rw [if_pos c169] at e
      exact hr41 h166 tx1 tx2 tx3 tx4 (xin_wr _) e
    · rw [if_neg c169] at e
      exact t46_149  hS  h166 tx1 tx2 tx3 tx4 (xin_wr _) e
theorem t46_132 {m f : Nat} {M0 M : xj_M} {T : xT_} (hS : xHS f) {r41 : Nat → Int → Int → Int → Int → Int → xT_ → Option ((Nat ⊕ Unit) × xT_)} {o41 : Nat → Int → Int → Int → Int → Int → xj_M → Option ((Nat ⊕ Unit) × xj_M)} (hr41 : ∀ {M : xj_M} {T : xT_} {x0 : Nat} {x1 : Int} {x2 : Int} {x3 : Int} {x4 : Int} {x5 : Int} {R : (Nat ⊕ Unit) × xT_}, xCX m M0 M T → xin x1 → xin x2 → xin x3 → xin x4 → xin x5 → r41 x0 x1 x2 x3 x4 x5 T = some R → xok (o41 x0 x1 x2 x3 x4 x5 M) (fun r => r.1 = R.1 ∧ xCX m M0 r.2 R.2)) (h : xCX m M0 M T) {x0 : Nat} {x1 : Int} {x2 : Int} {x3 : Int} {x4 : Int} {x5 : Int} {y0 : Int} {y1 : Int} {y2 : Nat} {R : (Nat ⊕ Unit) × xT_} (tx1 : xin x1) (tx2 : xin x2) (tx3 : xin x3) (tx4 : xin x4) (tx5 : xin x5) (ty0 : xiN y0) (ty1 : xin y1) (e : c46_132 r41 f x0 x1 x2 x3 x4 x5 y0 y1 y2 T = some R) : xok (f46_132 o41 f x0 x1 x2 x3 x4 x5 y0 y1 y2 M) (fun r => r.1 = R.1 ∧ xCX m M0 r.2 R.2) := by
  unfold c46_132 at e
  unfold f46_132
  obtain ⟨T171, q170, e⟩ := xbnd e
  obtain ⟨M172, q173, h174⟩ := h.sl ty0 q170
  refine xok_eqb q173 ?_
  exact t46_133 (r41 := r41) (o41 := o41) hS @hr41 h174 tx1 tx2 tx3 tx4 tx5 e
theorem t46_91 {m f : Nat} {M0 M : xj_M} {T : xT_} (hS : xHS f) {r41 : Nat → Int → Int → Int → Int → Int → xT_ → Option ((Nat ⊕ Unit) × xT_)} {o41 : Nat → Int → Int → Int → Int → Int → xj_M → Option ((Nat ⊕ Unit) × xj_M)} (hr41 : ∀ {M : xj_M} {T : xT_} {x0 : Nat} {x1 : Int} {x2 : Int} {x3 : Int} {x4 : Int} {x5 : Int} {R : (Nat ⊕ Unit) × xT_}, xCX m M0 M T → xin x1 → xin x2 → xin x3 → xin x4 → xin x5 → r41 x0 x1 x2 x3 x4 x5 T = some R → xok (o41 x0 x1 x2 x3 x4 x5 M) (fun r => r.1 = R.1 ∧ xCX m M0 r.2 R.2)) (h : xCX m M0 M T) {x0 : Nat} {x1 : Int} {x2 : Int} {x3 : Int} {x4 : Int} {x5 : Int} {x6 : Int} {x7 : Int} {y0 : Int} {y1 : Int} {y2 : Nat} {R : (Nat ⊕ Unit) × xT_} (tx1 : xin x1) (tx2 : xin x2) (tx3 : xin x3) (tx4 : xin x4) (tx5 : xin x5) (tx6 : xin x6) (tx7 : xin x7) (ty0 : xin y0) (ty1 : xin y1) (e : c46_91 r41 f x0 x1 x2 x3 x4 x5 x6 x7 y0 y1 y2 T = some R) : xok (f46_91 o41 f x0 x1 x2 x3 x4 x5 x6 x7 y0 y1 y2 M) (fun r => r.1 = R.1 ∧ xCX m M0 r.2 R.2) := by
  unfold c46_91 at e
  unfold f46_91
  obtain ⟨T176, q175, e⟩ := xbnd e
  obtain ⟨M177, q178, h179⟩ := h.si ty0 q175
  refine xok_eqb q178 ?_
  refine xok_ite (fun c180 => ?_) (fun c180 => ?_)
  · rw [if_pos c180] at e
    obtain ⟨v181, q182, e⟩ := xbnd e
    refine xok_eqb (h179.gr (by decide) (by decide) q182) ?_
    obtain ⟨v183, q184, e⟩ := xbnd e
    refine xok_eqb (h179.gr (by decide) (by decide) q184) ?_
    refine xok_ite (fun c185 => ?_) (fun c185 => ?_)
    · rw [if_pos c185] at e
      obtain ⟨_, q191, e⟩ := xbnd e
      obtain ⟨R186, e187, e⟩ := xbnd e
      refine xok_eqb (h179.is q191) ?_
      refine xok_call (t51 hS h179  e187) ?_
      rintro ⟨v_, M188⟩ ⟨hv_, h189, hi190⟩
      cases hv_
      dsimp only
      cases g193 : R186.1 with
      | inl k_ =>
        rw [cth_l g193] at e; cases e
        rw [xth_l (by exact g193)]
        exact ⟨_, rfl, rfl, h189⟩
      | inr v192 =>
        rw [cth_r g193] at e
        rw [xth_r (by exact g193)]
        exact t46_132 (r41 := r41) (o41 := o41) hS @hr41 h189 tx1 tx2 tx3 tx4 tx5 (hi190 _ g193) tx6 e
    · rw [if_neg c185] at e
      obtain ⟨_, q199, e⟩ := xbnd e
      obtain ⟨R194, e195, e⟩ := xbnd e
      refine xok_eqb (h179.is q199) ?_
      refine xok_call (t49 hS h179  e195) ?_
      rintro ⟨v_, M196⟩ ⟨hv_, h197, hi198⟩
      cases hv_
      dsimp only
      cases g201 : R194.1 with
      | inl k_ =>
        rw [cth_l g201] at e; cases e
        rw [xth_l (by exact g201)]
        exact ⟨_, rfl, rfl, h197⟩
      | inr v200 =>
        rw [cth_r g201] at e
        rw [xth_r (by exact g201)]
        exact t46_132 (r41 := r41) (o41 := o41) hS @hr41 h197 tx1 tx2 tx3 tx4 tx5 (xin_N (hi198 _ g201)) tx6 e
  · rw [if_neg c180] at e
    obtain ⟨_, q207, e⟩ := xbnd e
    obtain ⟨R202, e203, e⟩ := xbnd e
    refine xok_eqb (h179.is q207) ?_
    refine xok_call (t37 hS h179  e203) ?_
    intro M204 h205
    exact t46_133 (r41 := r41) (o41 := o41) hS @hr41 h205 tx1 tx2 tx3 tx4 tx5 e
theorem t46_85 {m f : Nat} {M0 M : xj_M} {T : xT_} (hS : xHS f) {r41 : Nat → Int → Int → Int → Int → Int → xT_ → Option ((Nat ⊕ Unit) × xT_)} {o41 : Nat → Int → Int → Int → Int → Int → xj_M → Option ((Nat ⊕ Unit) × xj_M)} (hr41 : ∀ {M : xj_M} {T : xT_} {x0 : Nat} {x1 : Int} {x2 : Int} {x3 : Int} {x4 : Int} {x5 : Int} {R : (Nat ⊕ Unit) × xT_}, xCX m M0 M T → xin x1 → xin x2 → xin x3 → xin x4 → xin x5 → r41 x0 x1 x2 x3 x4 x5 T = some R → xok (o41 x0 x1 x2 x3 x4 x5 M) (fun r => r.1 = R.1 ∧ xCX m M0 r.2 R.2)) (h : xCX m M0 M T) {x0 : Nat} {x1 : Int} {x2 : Int} {x3 : Int} {x4 : Int} {x5 : Int} {x6 : Int} {x7 : Int} {y0 : Int} {y1 : Nat} {R : (Nat ⊕ Unit) × xT_} (tx1 : xin x1) (tx2 : xin x2) (tx3 : xin x3) (tx4 : xin x4) (tx5 : xin x5) (tx6 : xin x6) (tx7 : xin x7) (ty0 : xin y0) (e : c46_85 r41 f x0 x1 x2 x3 x4 x5 x6 x7 y0 y1 T = some R) : xok (f46_85 o41 f x0 x1 x2 x3 x4 x5 x6 x7 y0 y1 M) (fun r => r.1 = R.1 ∧ xCX m M0 r.2 R.2) := by
  unfold c46_85 at e
  unfold f46_85
  exact t46_91 (r41 := r41) (o41 := o41) hS @hr41 h tx1 tx2 tx3 tx4 tx5 tx6 tx7 tx7 ty0 e
theorem t46_41b {m f : Nat} {M0 M : xj_M} {T : xT_} (hS : xHS f) {r41 : Nat → Int → Int → Int → Int → Int → xT_ → Option ((Nat ⊕ Unit) × xT_)} {o41 : Nat → Int → Int → Int → Int → Int → xj_M → Option ((Nat ⊕ Unit) × xj_M)} (hr41 : ∀ {M : xj_M} {T : xT_} {x0 : Nat} {x1 : Int} {x2 : Int} {x3 : Int} {x4 : Int} {x5 : Int} {R : (Nat ⊕ Unit) × xT_}, xCX m M0 M T → xin x1 → xin x2 → xin x3 → xin x4 → xin x5 → r41 x0 x1 x2 x3 x4 x5 T = some R → xok (o41 x0 x1 x2 x3 x4 x5 M) (fun r => r.1 = R.1 ∧ xCX m M0 r.2 R.2)) (h : xCX m M0 M T) {x0 : Nat} {x1 : Int} {x2 : Int} {x3 : Int} {x4 : Int} {x5 : Int} {R : (Nat ⊕ Unit) × xT_} (tx1 : xin x1) (tx2 : xin x2) (tx3 : xin x3) (tx4 : xin x4) (tx5 : xin x5) (e : c46_41b r41 f x0 x1 x2 x3 x4 x5 T = some R) : xok (f46_41b o41 f x0 x1 x2 x3 x4 x5 M) (fun r => r.1 = R.1 ∧ xCX m M0 r.2 R.2) := by
  unfold c46_41b at e
  unfold f46_41b
  obtain ⟨v208, q209, e⟩ := xbnd e
  refine xok_eqb (h.gr (by decide) (by decide) q209) ?_
  obtain ⟨v210, q211, e⟩ := xbnd e
  refine xok_eqb (h.gr (by decide) (by decide) q211) ?_
  obtain ⟨v212, q213, e⟩ := xbnd e
  refine xok_eqb (h.gi (by decide) (by decide) q213).1 ?_
  obtain ⟨v214, q215, e⟩ := xbnd e
  refine xok_eqb (h.ai (by decide) q215).1 ?_
  obtain ⟨v216, q217, e⟩ := xbnd e
  refine xok_eqb (h.gr (by decide) (by decide) q217) ?_
  obtain ⟨v218, q219, e⟩ := xbnd e
  refine xok_eqb (h.gr (by decide) (by decide) q219) ?_
  refine xok_ite (fun c220 => ?_) (fun c220 => ?_)
  · rw [if_pos c220] at e
    exact t46_85 (r41 := r41) (o41 := o41) hS @hr41 h tx1 tx2 tx3 tx4 tx5 (xin_wr _) (h.ai (by decide) q215).2 (xin_wr _) e
  · rw [if_neg c220] at e
    refine xok_ite (fun c221 => ?_) (fun c221 => ?_)
    · rw [if_pos c221] at e
      exact t46_91 (r41 := r41) (o41 := o41) hS @hr41 h tx1 tx2 tx3 tx4 tx5 (xin_wr _) (h.ai (by decide) q215).2 (show xin (4) by decide) (xin_wr _) e
    · rw [if_neg c221] at e
      exact t46_85 (r41 := r41) (o41 := o41) hS @hr41 h tx1 tx2 tx3 tx4 tx5 (xin_wr _) (h.ai (by decide) q215).2 (xin_wr _) e
theorem t46_41 {m f : Nat} {M0 : xj_M} (hS : xHS f)   : ∀ {n : Nat} {M : xj_M} {T : xT_} {x0 : Nat} {x1 : Int} {x2 : Int} {x3 : Int} {x4 : Int} {x5 : Int} {R : (Nat ⊕ Unit) × xT_}, xCX m M0 M T → xin x1 → xin x2 → xin x3 → xin x4 → xin x5 → c46_41  f n x0 x1 x2 x3 x4 x5 T = some R → xok (f46_41  f n x0 x1 x2 x3 x4 x5 M) (fun r => r.1 = R.1 ∧ xCX m M0 r.2 R.2) := by
  intro n
  induction n with
  | zero => intros; rename_i e; cases e
  | succ n ih =>
    intros
    rename_i h i0 i1 i2 i3 i4 e
    exact t46_41b hS  @ih h i0 i1 i2 i3 i4 e
theorem t46 {m f : Nat} {M0 M : xj_M} {T : xT_} (hS : xHS f) (h : xCX m M0 M T) {a0 : Nat} {a1 : Int} {R : (Nat ⊕ Unit) × xT_} (ta1 : xin a1) (e : c46 f a0 a1 T = some R) : xok (f46 f a0 a1 M) (fun r => r.1 = R.1 ∧ xCX m M0 r.2 R.2) := by
  unfold c46 at e
  unfold f46
  obtain ⟨v222, q223, e⟩ := xbnd e
  refine xok_eqb (h.gr (by decide) (by decide) q223) ?_
  obtain ⟨v224, q225, e⟩ := xbnd e
  refine xok_eqb (h.gr (by decide) (by decide) q225) ?_
  obtain ⟨v226, q227, e⟩ := xbnd e
  refine xok_eqb (h.gi (by decide) (by decide) q227).1 ?_
  obtain ⟨v228, q229, e⟩ := xbnd e
  refine xok_eqb (h.ai (by decide) q229).1 ?_
  obtain ⟨_, q235, e⟩ := xbnd e
  obtain ⟨R230, e231, e⟩ := xbnd e
  refine xok_eqb (h.is q235) ?_
  refine xok_call (t47 hS h  e231) ?_
  rintro ⟨v_, M232⟩ ⟨hv_, h233, hi234⟩
  cases hv_
  dsimp only
  cases g237 : R230.1 with
  | inl k_ =>
    rw [cth_l g237] at e; cases e
    rw [xth_l (by exact g237)]
    exact ⟨_, rfl, rfl, h233⟩
  | inr v236 =>
    rw [cth_r g237] at e
    rw [xth_r (by exact g237)]
    obtain ⟨_, q243, e⟩ := xbnd e
    obtain ⟨R238, e239, e⟩ := xbnd e
    refine xok_eqb (h233.is q243) ?_
    refine xok_call (t48 hS h233 (hi234 _ g237) (h.ai (by decide) q229).2 e239) ?_
    rintro ⟨v_, M240⟩ ⟨hv_, h241, hi242⟩
    cases hv_
    dsimp only
    cases g245 : R238.1 with
    | inl k_ =>
      rw [cth_l g245] at e; cases e
      rw [xth_l (by exact g245)]
      exact ⟨_, rfl, rfl, h241⟩
    | inr v244 =>
      rw [cth_r g245] at e
      rw [xth_r (by exact g245)]
      obtain ⟨_, q251, e⟩ := xbnd e
      obtain ⟨R246, e247, e⟩ := xbnd e
      refine xok_eqb (h241.is q251) ?_
      refine xok_call (t38 hS h241 (show xin (40) by decide) e247) ?_
      rintro ⟨v_, M248⟩ ⟨hv_, h249⟩
      cases hv_
      dsimp only
      cases g253 : R246.1 with
      | inl k_ =>
        rw [cth_l g253] at e; cases e
        rw [xth_l (by exact g253)]
        exact ⟨_, rfl, rfl, h249⟩
      | inr v252 =>
        rw [cth_r g253] at e
        rw [xth_r (by exact g253)]
        obtain ⟨v254, q255, e⟩ := xbnd e
        refine xok_eqb (h249.gr (by decide) (by decide) q255) ?_
        obtain ⟨v256, q257, e⟩ := xbnd e
        refine xok_eqb (h249.gi (by decide) (by decide) q257).1 ?_
        exact t46_41  hS  h249 ta1 (h.ai (by decide) q229).2 (hi242 _ g245) (h249.gi (by decide) (by decide) q257).2 (show xin (0) by decide) e
-- ChangeHouse$Reader.readExpression
theorem t53_202 {m f : Nat} {M0 M : xj_M} {T : xT_} (hS : xHS f) {r9 : Nat → Int → Int → Int → xT_ → Option ((Nat ⊕ Unit) × xT_)} {o9 : Nat → Int → Int → Int → xj_M → Option ((Nat ⊕ Unit) × xj_M)} (hr9 : ∀ {M : xj_M} {T : xT_} {x0 : Nat} {x1 : Int} {x2 : Int} {x3 : Int} {R : (Nat ⊕ Unit) × xT_}, xCX m M0 M T → xin x1 → xin x2 → xin x3 → r9 x0 x1 x2 x3 T = some R → xok (o9 x0 x1 x2 x3 M) (fun r => r.1 = R.1 ∧ xCX m M0 r.2 R.2)) (h : xCX m M0 M T) {x0 : Nat} {x1 : Int} {x2 : Int} {x3 : Int} {R : (Nat ⊕ Unit) × xT_} (tx1 : xin x1) (tx2 : xin x2) (tx3 : xin x3) (e : c53_202 r9 f x0 x1 x2 x3 T = some R) : xok (f53_202 o9 f x0 x1 x2 x3 M) (fun r => r.1 = R.1 ∧ xCX m M0 r.2 R.2) := by
  unfold c53_202 at e
  unfold f53_202
  exact hr9 h tx1 tx2 (xin_wr _) e
theorem t53_59 {m f : Nat} {M0 M : xj_M} {T : xT_} (hS : xHS f) {r9 : Nat → Int → Int → Int → xT_ → Option ((Nat ⊕ Unit) × xT_)} {o9 : Nat → Int → Int → Int → xj_M → Option ((Nat ⊕ Unit) × xj_M)} (hr9 : ∀ {M : xj_M} {T : xT_} {x0 : Nat} {x1 : Int} {x2 : Int} {x3 : Int} {R : (Nat ⊕ Unit) × xT_}, xCX m M0 M T → xin x1 → xin x2 → xin x3 → r9 x0 x1 x2 x3 T = some R → xok (o9 x0 x1 x2 x3 M) (fun r => r.1 = R.1 ∧ xCX m M0 r.2 R.2)) (h : xCX m M0 M T) {x0 : Nat} {x1 : Int} {x2 : Int} {x3 : Int} {x4 : Int} {R : (Nat ⊕ Unit) × xT_} (tx1 : xin x1) (tx2 : xin x2) (tx3 : xin x3) (tx4 : xin x4) (e : c53_59 r9 f x0 x1 x2 x3 x4 T = some R) : xok (f53_59 o9 f x0 x1 x2 x3 x4 M) (fun r => r.1 = R.1 ∧ xCX m M0 r.2 R.2) := by
  unfold c53_59 at e
  unfold f53_59
  obtain ⟨_, q106, e⟩ := xbnd e
  obtain ⟨R101, e102, e⟩ := xbnd e
  refine xok_eqb (h.is q106) ?_
  refine xok_call (t60 hS h tx4 e102) ?_
  rintro ⟨v_, M103⟩ ⟨hv_, h104⟩
  cases hv_
  dsimp only
  cases g108 : R101.1 with
  | inl k_ =>
    rw [cth_l g108] at e; cases e
    rw [xth_l (by exact g108)]
    exact ⟨_, rfl, rfl, h104⟩
  | inr v107 =>
    rw [cth_r g108] at e
    rw [xth_r (by exact g108)]
    exact t53_202 (r9 := r9) (o9 := o9) hS @hr9 h104 tx1 tx2 tx3 e
theorem t53_139 {m f : Nat} {M0 M : xj_M} {T : xT_} (hS : xHS f) {r9 : Nat → Int → Int → Int → xT_ → Option ((Nat ⊕ Unit) × xT_)} {o9 : Nat → Int → Int → Int → xj_M → Option ((Nat ⊕ Unit) × xj_M)} (hr9 : ∀ {M : xj_M} {T : xT_} {x0 : Nat} {x1 : Int} {x2 : Int} {x3 : Int} {R : (Nat ⊕ Unit) × xT_}, xCX m M0 M T → xin x1 → xin x2 → xin x3 → r9 x0 x1 x2 x3 T = some R → xok (o9 x0 x1 x2 x3 M) (fun r => r.1 = R.1 ∧ xCX m M0 r.2 R.2)) (h : xCX m M0 M T) {x0 : Nat} {x1 : Int} {x3 : Int} {R : (Nat ⊕ Unit) × xT_} (tx1 : xin x1) (tx3 : xin x3) (e : c53_139 r9 f x0 x1 x3 T = some R) : xok (f53_139 o9 f x0 x1 x3 M) (fun r => r.1 = R.1 ∧ xCX m M0 r.2 R.2) := by
  unfold c53_139 at e
  unfold f53_139
  exact t53_202 (r9 := r9) (o9 := o9) hS @hr9 h tx1 (show xin (0) by decide) tx3 e
theorem t53_124 {m f : Nat} {M0 M : xj_M} {T : xT_} (hS : xHS f) {r9 : Nat → Int → Int → Int → xT_ → Option ((Nat ⊕ Unit) × xT_)} {o9 : Nat → Int → Int → Int → xj_M → Option ((Nat ⊕ Unit) × xj_M)} (hr9 : ∀ {M : xj_M} {T : xT_} {x0 : Nat} {x1 : Int} {x2 : Int} {x3 : Int} {R : (Nat ⊕ Unit) × xT_}, xCX m M0 M T → xin x1 → xin x2 → xin x3 → r9 x0 x1 x2 x3 T = some R → xok (o9 x0 x1 x2 x3 M) (fun r => r.1 = R.1 ∧ xCX m M0 r.2 R.2)) (h : xCX m M0 M T) {x0 : Nat} {x1 : Int} {x3 : Int} {y0 : Int} {y1 : Int} {y2 : Nat} {R : (Nat ⊕ Unit) × xT_} (tx1 : xin x1) (tx3 : xin x3) (ty0 : xiN y0) (ty1 : xin y1) (e : c53_124 r9 f x0 x1 x3 y0 y1 y2 T = some R) : xok (f53_124 o9 f x0 x1 x3 y0 y1 y2 M) (fun r => r.1 = R.1 ∧ xCX m M0 r.2 R.2) := by
  unfold c53_124 at e
  unfold f53_124
  obtain ⟨_, q114, e⟩ := xbnd e
  obtain ⟨R109, e110, e⟩ := xbnd e
  refine xok_eqb (h.is q114) ?_
  refine xok_call (t56 hS h ty1 ty0 e110) ?_
  intro M111 h112
  exact t53_139 (r9 := r9) (o9 := o9) hS @hr9 h112 tx1 tx3 e
theorem t53_99 {m f : Nat} {M0 M : xj_M} {T : xT_} (hS : xHS f) {r9 : Nat → Int → Int → Int → xT_ → Option ((Nat ⊕ Unit) × xT_)} {o9 : Nat → Int → Int → Int → xj_M → Option ((Nat ⊕ Unit) × xj_M)} (hr9 : ∀ {M : xj_M} {T : xT_} {x0 : Nat} {x1 : Int} {x2 : Int} {x3 : Int} {R : (Nat ⊕ Unit) × xT_}, xCX m M0 M T → xin x1 → xin x2 → xin x3 → r9 x0 x1 x2 x3 T = some R → xok (o9 x0 x1 x2 x3 M) (fun r => r.1 = R.1 ∧ xCX m M0 r.2 R.2)) (h : xCX m M0 M T) {x0 : Nat} {x1 : Int} {x3 : Int} {x4 : Int} {R : (Nat ⊕ Unit) × xT_} (tx1 : xin x1) (tx3 : xin x3) (tx4 : xin x4) (e : c53_99 r9 f x0 x1 x3 x4 T = some R) : xok (f53_99 o9 f x0 x1 x3 x4 M) (fun r => r.1 = R.1 ∧ xCX m M0 r.2 R.2) := by
  unfold c53_99 at e
  unfold f53_99
  refine xok_ite (fun c115 => ?_) (fun c115 => ?_)
  · rw [if_pos c115] at e
    obtain ⟨_, q121, e⟩ := xbnd e
    obtain ⟨R116, e117, e⟩ := xbnd e
    refine xok_eqb (h.is q121) ?_
    refine xok_call (t51 hS h  e117) ?_
    rintro ⟨v_, M118⟩ ⟨hv_, h119, hi120⟩
    cases hv_
    dsimp only
    cases g123 : R116.1 with
    | inl k_ =>
      rw [cth_l g123] at e; cases e
      rw [xth_l (by exact g123)]
      exact ⟨_, rfl, rfl, h119⟩
    | inr v122 =>
      rw [cth_r g123] at e
      rw [xth_r (by exact g123)]
      obtain ⟨_, q129, e⟩ := xbnd e
      obtain ⟨R124, e125, e⟩ := xbnd e
      refine xok_eqb (h119.is q129) ?_
      refine xok_call (t56 hS h119 (show xin (1) by decide) (hi120 _ g123) e125) ?_
      intro M126 h127
      exact t53_139 (r9 := r9) (o9 := o9) hS @hr9 h127 tx1 tx3 e
  · rw [if_neg c115] at e
    refine xok_ite (fun c130 => ?_) (fun c130 => ?_)
    · rw [if_pos c130] at e
      obtain ⟨_, q136, e⟩ := xbnd e
      obtain ⟨R131, e132, e⟩ := xbnd e
      refine xok_eqb (h.is q136) ?_
      refine xok_call (t49 hS h  e132) ?_
      rintro ⟨v_, M133⟩ ⟨hv_, h134, hi135⟩
      cases hv_
      dsimp only
      cases g138 : R131.1 with
      | inl k_ =>
        rw [cth_l g138] at e; cases e
        rw [xth_l (by exact g138)]
        exact ⟨_, rfl, rfl, h134⟩
      | inr v137 =>
        rw [cth_r g138] at e
        rw [xth_r (by exact g138)]
        exact t53_124 (r9 := r9) (o9 := o9) hS @hr9 h134 tx1 tx3 (xin_N (hi135 _ g138)) (show xin (2) by decide) e
    · rw [if_neg c130] at e
      obtain ⟨_, q144, e⟩ := xbnd e
      obtain ⟨R139, e140, e⟩ := xbnd e
      refine xok_eqb (h.is q144) ?_
      refine xok_call (t52 hS h  e140) ?_
      rintro ⟨v_, M141⟩ ⟨hv_, h142, hi143⟩
      cases hv_
      dsimp only
      cases g146 : R139.1 with
      | inl k_ =>
        rw [cth_l g146] at e; cases e
        rw [xth_l (by exact g146)]
        exact ⟨_, rfl, rfl, h142⟩
      | inr v145 =>
        rw [cth_r g146] at e
        rw [xth_r (by exact g146)]
        exact t53_124 (r9 := r9) (o9 := o9) hS @hr9 h142 tx1 tx3 (xin_N (hi143 _ g146)) (show xin (2) by decide) e
theorem t53_208 {m f : Nat} {M0 M : xj_M} {T : xT_} (hS : xHS f)   (h : xCX m M0 M T)  {R : (Nat ⊕ Unit) × xT_}  (e : c53_208  f  T = some R) : xok (f53_208  f  M) (fun r => r.1 = R.1 ∧ xCX m M0 r.2 R.2) := by
  unfold c53_208 at e
  unfold f53_208
  cases e
  exact ⟨_, rfl, rfl, h⟩
theorem t53_68 {m f : Nat} {M0 M : xj_M} {T : xT_} (hS : xHS f) {r9 : Nat → Int → Int → Int → xT_ → Option ((Nat ⊕ Unit) × xT_)} {o9 : Nat → Int → Int → Int → xj_M → Option ((Nat ⊕ Unit) × xj_M)} (hr9 : ∀ {M : xj_M} {T : xT_} {x0 : Nat} {x1 : Int} {x2 : Int} {x3 : Int} {R : (Nat ⊕ Unit) × xT_}, xCX m M0 M T → xin x1 → xin x2 → xin x3 → r9 x0 x1 x2 x3 T = some R → xok (o9 x0 x1 x2 x3 M) (fun r => r.1 = R.1 ∧ xCX m M0 r.2 R.2)) (h : xCX m M0 M T) {x0 : Nat} {x1 : Int} {x2 : Int} {x3 : Int} {x4 : Int} {R : (Nat ⊕ Unit) × xT_} (tx1 : xin x1) (tx2 : xin x2) (tx3 : xin x3) (tx4 : xin x4) (e : c53_68 r9 f x0 x1 x2 x3 x4 T = some R) : xok (f53_68 o9 f x0 x1 x2 x3 x4 M) (fun r => r.1 = R.1 ∧ xCX m M0 r.2 R.2) := by
  unfold c53_68 at e
  unfold f53_68
  refine xok_ite (fun c147 => ?_) (fun c147 => ?_)
  · rw [if_pos c147] at e
    obtain ⟨R148, e149, e⟩ := xbnd e
    refine xok_call (t55 hS h tx4 e149) ?_
    rintro ⟨v_, M150⟩ ⟨hv_, h151, hi152⟩
    cases hv_
    refine xok_ite (fun c153 => ?_) (fun c153 => ?_)
    · rw [if_pos c153] at e
      obtain ⟨_, q159, e⟩ := xbnd e
      obtain ⟨R154, e155, e⟩ := xbnd e
      refine xok_eqb (h151.is q159) ?_
      refine xok_call (t59 hS h151 (show xin (1) by decide) e155) ?_
      intro M156 h157
      obtain ⟨v160, q161, e⟩ := xbnd e
      refine xok_eqb (h157.gi (by decide) (by decide) q161).1 ?_
      refine xok_ite (fun c162 => ?_) (fun c162 => ?_)
      · rw [if_pos c162] at e
        obtain ⟨_, q168, e⟩ := xbnd e
        obtain ⟨R163, e164, e⟩ := xbnd e
        refine xok_eqb (h157.is q168) ?_
        refine xok_call (t61 hS h157 tx4 e164) ?_
        rintro ⟨v_, M165⟩ ⟨hv_, h166, hi167⟩
        cases hv_
        dsimp only
        cases g170 : R163.1 with
        | inl k_ =>
          rw [cth_l g170] at e; cases e
          rw [xth_l (by exact g170)]
          exact ⟨_, rfl, rfl, h166⟩
        | inr v169 =>
          rw [cth_r g170] at e
          rw [xth_r (by exact g170)]
          obtain ⟨_, q176, e⟩ := xbnd e
          obtain ⟨R171, e172, e⟩ := xbnd e
          refine xok_eqb (h166.is q176) ?_
          refine xok_call (t37 hS h166  e172) ?_
          intro M173 h174
          exact t53_202 (r9 := r9) (o9 := o9) hS @hr9 h174 tx1 (hi167 _ g170) tx3 e
      · rw [if_neg c162] at e
        exact t53_208  hS  h157  e
    · rw [if_neg c153] at e
      obtain ⟨R177, e178, e⟩ := xbnd e
      refine xok_call (t55 hS h151 tx4 e178) ?_
      rintro ⟨v_, M179⟩ ⟨hv_, h180, hi181⟩
      cases hv_
      obtain ⟨_, q187, e⟩ := xbnd e
      obtain ⟨R182, e183, e⟩ := xbnd e
      refine xok_eqb (h180.is q187) ?_
      refine xok_call (t59 hS h180 hi181 e183) ?_
      intro M184 h185
      obtain ⟨_, q193, e⟩ := xbnd e
      obtain ⟨R188, e189, e⟩ := xbnd e
      refine xok_eqb (h185.is q193) ?_
      refine xok_call (t57 hS h185 tx4 e189) ?_
      intro M190 h191
      obtain ⟨_, q199, e⟩ := xbnd e
      obtain ⟨R194, e195, e⟩ := xbnd e
      refine xok_eqb (h191.is q199) ?_
      refine xok_call (t37 hS h191  e195) ?_
      intro M196 h197
      exact t53_202 (r9 := r9) (o9 := o9) hS @hr9 h197 tx1 (show xin (1) by decide) tx3 e
  · rw [if_neg c147] at e
    refine xok_ite (fun c200 => ?_) (fun c200 => ?_)
    · rw [if_pos c200] at e
      exact t53_99 (r9 := r9) (o9 := o9) hS @hr9 h tx1 tx3 tx4 e
    · rw [if_neg c200] at e
      refine xok_ite (fun c201 => ?_) (fun c201 => ?_)
      · rw [if_pos c201] at e
        exact t53_99 (r9 := r9) (o9 := o9) hS @hr9 h tx1 tx3 tx4 e
      · rw [if_neg c201] at e
        refine xok_ite (fun c202 => ?_) (fun c202 => ?_)
        · rw [if_pos c202] at e
          exact t53_99 (r9 := r9) (o9 := o9) hS @hr9 h tx1 tx3 tx4 e
        · rw [if_neg c202] at e
          obtain ⟨_, q208, e⟩ := xbnd e
          obtain ⟨R203, e204, e⟩ := xbnd e
          refine xok_eqb (h.is q208) ?_
          refine xok_call (t54 hS h tx4 e204) ?_
          rintro ⟨v_, M205⟩ ⟨hv_, h206⟩
          cases hv_
          dsimp only
          cases g210 : R203.1 with
          | inl k_ =>
            rw [cth_l g210] at e; cases e
            rw [xth_l (by exact g210)]
            exact ⟨_, rfl, rfl, h206⟩
          | inr v209 =>
            rw [cth_r g210] at e
            rw [xth_r (by exact g210)]
            exact t53_139 (r9 := r9) (o9 := o9) hS @hr9 h206 tx1 tx3 e
theorem t53_9b {m f : Nat} {M0 M : xj_M} {T : xT_} (hS : xHS f) {r9 : Nat → Int → Int → Int → xT_ → Option ((Nat ⊕ Unit) × xT_)} {o9 : Nat → Int → Int → Int → xj_M → Option ((Nat ⊕ Unit) × xj_M)} (hr9 : ∀ {M : xj_M} {T : xT_} {x0 : Nat} {x1 : Int} {x2 : Int} {x3 : Int} {R : (Nat ⊕ Unit) × xT_}, xCX m M0 M T → xin x1 → xin x2 → xin x3 → r9 x0 x1 x2 x3 T = some R → xok (o9 x0 x1 x2 x3 M) (fun r => r.1 = R.1 ∧ xCX m M0 r.2 R.2)) (h : xCX m M0 M T) {x0 : Nat} {x1 : Int} {x2 : Int} {x3 : Int} {R : (Nat ⊕ Unit) × xT_} (tx1 : xin x1) (tx2 : xin x2) (tx3 : xin x3) (e : c53_9b r9 f x0 x1 x2 x3 T = some R) : xok (f53_9b o9 f x0 x1 x2 x3 M) (fun r => r.1 = R.1 ∧ xCX m M0 r.2 R.2) := by
  unfold c53_9b at e
  unfold f53_9b
  refine xok_ite (fun c211 => ?_) (fun c211 => ?_)
  · rw [if_pos c211] at e
    exact t53_208  hS  h  e
  · rw [if_neg c211] at e
    obtain ⟨v212, q213, e⟩ := xbnd e
    refine xok_eqb (h.gr (by decide) (by decide) q213) ?_
    obtain ⟨v214, q215, e⟩ := xbnd e
    refine xok_eqb (h.gr (by decide) (by decide) q215) ?_
    obtain ⟨v216, q217, e⟩ := xbnd e
    refine xok_eqb (h.gi (by decide) (by decide) q217).1 ?_
    obtain ⟨v218, q219, e⟩ := xbnd e
    refine xok_eqb (h.ai (by decide) q219).1 ?_
    refine xok_ite (fun c220 => ?_) (fun c220 => ?_)
    · rw [if_pos c220] at e
      exact t53_68 (r9 := r9) (o9 := o9) hS @hr9 h tx1 tx2 tx3 (h.ai (by decide) q219).2 e
    · rw [if_neg c220] at e
      refine xok_ite (fun c221 => ?_) (fun c221 => ?_)
      · rw [if_pos c221] at e
        exact t53_59 (r9 := r9) (o9 := o9) hS @hr9 h tx1 tx2 tx3 (h.ai (by decide) q219).2 e
      · rw [if_neg c221] at e
        refine xok_ite (fun c222 => ?_) (fun c222 => ?_)
        · rw [if_pos c222] at e
          exact t53_68 (r9 := r9) (o9 := o9) hS @hr9 h tx1 tx2 tx3 (h.ai (by decide) q219).2 e
        · rw [if_neg c222] at e
          obtain ⟨v223, q224, e⟩ := xbnd e
          refine xok_eqb (h.gr (by decide) (by decide) q224) ?_
          obtain ⟨v225, q226, e⟩ := xbnd e
          refine xok_eqb (h.gi (by decide) (by decide) q226).1 ?_
          obtain ⟨_, q232, e⟩ := xbnd e
          obtain ⟨R227, e228, e⟩ := xbnd e
          refine xok_eqb (h.is q232) ?_
          refine xok_call (t125 hS h (h.gi (by decide) (by decide) q226).2 e228) ?_
          rintro ⟨v_, M229⟩ ⟨hv_, h230, hi231⟩
          cases hv_
          refine xok_ite (fun c233 => ?_) (fun c233 => ?_)
          · rw [if_pos c233] at e
            exact t53_68 (r9 := r9) (o9 := o9) hS @hr9 h230 tx1 tx2 tx3 (h.ai (by decide) q219).2 e
          · rw [if_neg c233] at e
            exact t53_59 (r9 := r9) (o9 := o9) hS @hr9 h230 tx1 tx2 tx3 (h.ai (by decide) q219).2 e
theorem t53_9 {m f : Nat} {M0 : xj_M} (hS : xHS f)   : ∀ {n : Nat} {M : xj_M} {T : xT_} {x0 : Nat} {x1 : Int} {x2 : Int} {x3 : Int} {R : (Nat ⊕ Unit) × xT_}, xCX m M0 M T → xin x1 → xin x2 → xin x3 → c53_9  f n x0 x1 x2 x3 T = some R → xok (f53_9  f n x0 x1 x2 x3 M) (fun r => r.1 = R.1 ∧ xCX m M0 r.2 R.2) := by
  intro n
  induction n with
  | zero => intros; rename_i e; cases e
  | succ n ih =>
    intros
    rename_i h i0 i1 i2 e
    exact t53_9b hS  @ih h i0 i1 i2 e
theorem t53 {m f : Nat} {M0 M : xj_M} {T : xT_} (hS : xHS f) (h : xCX m M0 M T) {a0 : Nat} {a1 : Int} {R : (Nat ⊕ Unit) × xT_} (ta1 : xin a1) (e : c53 f a0 a1 T = some R) : xok (f53 f a0 a1 M) (fun r => r.1 = R.1 ∧ xCX m M0 r.2 R.2) := by
  unfold c53 at e
  unfold f53
  obtain ⟨T235, q234, e⟩ := xbnd e
  obtain ⟨M236, q237, h238⟩ := h.pi (by decide) (by decide) (show xin (0) by decide) q234
  refine xok_eqb q237 ?_
  exact t53_9  hS  h238 ta1 (show xin (1) by decide) (show xin (0) by decide) e
-- ChangeHouse$Reader.programFault
theorem t62_130 {m f : Nat} {M0 M : xj_M} {T : xT_} (hS : xHS f)   (h : xCX m M0 M T) {y0 : Int} {R : Int × xT_} (ty0 : xin y0) (e : c62_130  f y0 T = some R) : xok (f62_130  f y0 M) (fun r => r.1 = R.1 ∧ xCX m M0 r.2 R.2 ∧ xin R.1) := by
  unfold c62_130 at e
  unfold f62_130
  cases e
  exact ⟨_, rfl, rfl, h, ty0⟩
theorem t62_56b {m f : Nat} {M0 M : xj_M} {T : xT_} (hS : xHS f) {r56 : Nat → Int → xT_ → Option (Int × xT_)} {o56 : Nat → Int → xj_M → Option (Int × xj_M)} (hr56 : ∀ {M : xj_M} {T : xT_} {x0 : Nat} {x1 : Int} {R : Int × xT_}, xCX m M0 M T → xin x1 → r56 x0 x1 T = some R → xok (o56 x0 x1 M) (fun r => r.1 = R.1 ∧ xCX m M0 r.2 R.2 ∧ xin R.1)) (h : xCX m M0 M T) {x0 : Nat} {x1 : Int} {R : Int × xT_} (tx1 : xin x1) (e : c62_56b r56 f x0 x1 T = some R) : xok (f62_56b o56 f x0 x1 M) (fun r => r.1 = R.1 ∧ xCX m M0 r.2 R.2 ∧ xin R.1) := by
  unfold c62_56b at e
  unfold f62_56b
  obtain ⟨v101, q102, e⟩ := xbnd e
  refine xok_eqb (h.gr (by decide) (by decide) q102) ?_
  obtain ⟨v103, q104, e⟩ := xbnd e
  refine xok_eqb (h.gi (by decide) (by decide) q104).1 ?_
  refine xok_ite (fun c105 => ?_) (fun c105 => ?_)
  · rw [if_pos c105] at e
    obtain ⟨v106, q107, e⟩ := xbnd e
    refine xok_eqb (h.gr (by decide) (by decide) q107) ?_
    obtain ⟨_, q113, e⟩ := xbnd e
    obtain ⟨R108, e109, e⟩ := xbnd e
    refine xok_eqb (h.is q113) ?_
    refine xok_call (t24 hS h  e109) ?_
    intro M110 h111
    obtain ⟨v114, q115, e⟩ := xbnd e
    refine xok_eqb (h111.gr (by decide) (by decide) q115) ?_
    obtain ⟨_, q121, e⟩ := xbnd e
    obtain ⟨R116, e117, e⟩ := xbnd e
    refine xok_eqb (h111.is q121) ?_
    refine xok_call (t28 hS h111  e117) ?_
    rintro ⟨v_, M118⟩ ⟨hv_, h119, hi120⟩
    cases hv_
    obtain ⟨T123, q122, e⟩ := xbnd e
    obtain ⟨M124, q125, h126⟩ := h119.pi (by decide) (by decide) hi120 q122
    refine xok_eqb q125 ?_
    obtain ⟨v127, q128, e⟩ := xbnd e
    refine xok_eqb (h126.gi (by decide) (by decide) q128).1 ?_
    refine xok_ite (fun c129 => ?_) (fun c129 => ?_)
    · rw [if_pos c129] at e
      exact t62_130  hS  h126 (show xin (0) by decide) e
    · rw [if_neg c129] at e
      exact t62_130  hS  h126 (show xin (5) by decide) e
  · rw [if_neg c105] at e
    obtain ⟨v130, q131, e⟩ := xbnd e
    refine xok_eqb (h.gr (by decide) (by decide) q131) ?_
    obtain ⟨v132, q133, e⟩ := xbnd e
    refine xok_eqb (h.gr (by decide) (by decide) q133) ?_
    obtain ⟨v134, q135, e⟩ := xbnd e
    refine xok_eqb (h.ar q135) ?_
    obtain ⟨_, q141, e⟩ := xbnd e
    obtain ⟨R136, e137, e⟩ := xbnd e
    refine xok_eqb (h.is q141) ?_
    refine xok_call (t95 hS h  e137) ?_
    rintro ⟨v_, M138⟩ ⟨hv_, h139, hi140⟩
    cases hv_
    obtain ⟨T143, q142, e⟩ := xbnd e
    obtain ⟨M144, q145, h146⟩ := h139.pi (by decide) (by decide) hi140 q142
    refine xok_eqb q145 ?_
    obtain ⟨v147, q148, e⟩ := xbnd e
    refine xok_eqb (h146.gi (by decide) (by decide) q148).1 ?_
    refine xok_ite (fun c149 => ?_) (fun c149 => ?_)
    · rw [if_pos c149] at e
      exact hr56 h146 (xin_wr _) e
    · rw [if_neg c149] at e
      cases e
      exact ⟨_, rfl, rfl, h146, (show xin (4) by decide)⟩
theorem t62_56 {m f : Nat} {M0 : xj_M} (hS : xHS f)   : ∀ {n : Nat} {M : xj_M} {T : xT_} {x0 : Nat} {x1 : Int} {R : Int × xT_}, xCX m M0 M T → xin x1 → c62_56  f n x0 x1 T = some R → xok (f62_56  f n x0 x1 M) (fun r => r.1 = R.1 ∧ xCX m M0 r.2 R.2 ∧ xin R.1) := by
  intro n
  induction n with
  | zero => intros; rename_i e; cases e
  | succ n ih =>
    intros
    rename_i h i0 e
    exact t62_56b hS  @ih h i0 e
theorem t62 {m f : Nat} {M0 M : xj_M} {T : xT_} (hS : xHS f) (h : xCX m M0 M T) {a0 : Nat} {R : Int × xT_}  (e : c62 f a0 T = some R) : xok (f62 f a0 M) (fun r => r.1 = R.1 ∧ xCX m M0 r.2 R.2 ∧ xin R.1) := by
  unfold c62 at e
  unfold f62
  obtain ⟨_, q155, e⟩ := xbnd e
  obtain ⟨R150, e151, e⟩ := xbnd e
  refine xok_eqb (h.is q155) ?_
  refine xok_call (t65 hS h  e151) ?_
  rintro ⟨v_, M152⟩ ⟨hv_, h153, hi154⟩
  cases hv_
  obtain ⟨T157, q156, e⟩ := xbnd e
  obtain ⟨M158, q159, h160⟩ := h153.pi (by decide) (by decide) hi154 q156
  refine xok_eqb q159 ?_
  obtain ⟨v161, q162, e⟩ := xbnd e
  refine xok_eqb (h160.gi (by decide) (by decide) q162).1 ?_
  refine xok_ite (fun c163 => ?_) (fun c163 => ?_)
  · rw [if_pos c163] at e
    obtain ⟨_, q169, e⟩ := xbnd e
    obtain ⟨R164, e165, e⟩ := xbnd e
    refine xok_eqb (h160.is q169) ?_
    refine xok_call (t66 hS h160  e165) ?_
    rintro ⟨v_, M166⟩ ⟨hv_, h167, hi168⟩
    cases hv_
    obtain ⟨T171, q170, e⟩ := xbnd e
    obtain ⟨M172, q173, h174⟩ := h167.pi (by decide) (by decide) hi168 q170
    refine xok_eqb q173 ?_
    obtain ⟨v175, q176, e⟩ := xbnd e
    refine xok_eqb (h174.gi (by decide) (by decide) q176).1 ?_
    refine xok_ite (fun c177 => ?_) (fun c177 => ?_)
    · rw [if_pos c177] at e
      obtain ⟨_, q183, e⟩ := xbnd e
      obtain ⟨R178, e179, e⟩ := xbnd e
      refine xok_eqb (h174.is q183) ?_
      refine xok_call (t67 hS h174  e179) ?_
      rintro ⟨v_, M180⟩ ⟨hv_, h181, hi182⟩
      cases hv_
      obtain ⟨T185, q184, e⟩ := xbnd e
      obtain ⟨M186, q187, h188⟩ := h181.pi (by decide) (by decide) hi182 q184
      refine xok_eqb q187 ?_
      obtain ⟨v189, q190, e⟩ := xbnd e
      refine xok_eqb (h188.gi (by decide) (by decide) q190).1 ?_
      refine xok_ite (fun c191 => ?_) (fun c191 => ?_)
      · rw [if_pos c191] at e
        exact t62_56  hS  h188 (show xin (0) by decide) e
      · rw [if_neg c191] at e
        cases e
        exact ⟨_, rfl, rfl, h188, (show xin (3) by decide)⟩
    · rw [if_neg c177] at e
      cases e
      exact ⟨_, rfl, rfl, h174, (show xin (2) by decide)⟩
  · rw [if_neg c163] at e
    cases e
    exact ⟨_, rfl, rfl, h160, (show xin (1) by decide)⟩
-- ChangeHouse$Rule.finish
theorem t88 {m f : Nat} {M0 M : xj_M} {T : xT_} (hS : xHS f) (h : xCX m M0 M T) {a0 : Nat} {a1 : Nat} {a2 : Nat} {a3 : Int} {R : xT_} (ta3 : xin a3) (e : c88 f a0 a1 a2 a3 T = some R) : xok (f88 f a0 a1 a2 a3 M) (fun r => xCX m M0 r R) := by
  unfold c88 at e
  unfold f88
  obtain ⟨R101, e102, e⟩ := xbnd e
  refine xok_call (t383 hS h ta3 e102) ?_
  rintro ⟨v_, M103⟩ ⟨hv_, h104⟩
  cases hv_
  obtain ⟨T107, q106, e⟩ := xbnd e
  obtain ⟨M108, q109, h110⟩ := h104.pr (by decide) (by decide)  q106
  refine xok_eqb q109 ?_
  obtain ⟨R111, e112, e⟩ := xbnd e
  refine xok_call (t384 hS h110 ta3 e112) ?_
  rintro ⟨v_, M113⟩ ⟨hv_, h114⟩
  cases hv_
  obtain ⟨T117, q116, e⟩ := xbnd e
  obtain ⟨M118, q119, h120⟩ := h114.pr (by decide) (by decide)  q116
  refine xok_eqb q119 ?_
  obtain ⟨_, q126, e⟩ := xbnd e
  obtain ⟨R121, e122, e⟩ := xbnd e
  refine xok_eqb (h120.is q126) ?_
  refine xok_call (t96 hS h120  e122) ?_
  intro M123 h124
  cases e
  exact ⟨_, rfl, h124⟩
-- ChangeHouse$Sheet.operand
theorem t106_36 {m f : Nat} {M0 M : xj_M} {T : xT_} (hS : xHS f)   (h : xCX m M0 M T) {y0 : Int} {R : Int × xT_} (ty0 : xiN y0) (e : c106_36  f y0 T = some R) : xok (f106_36  f y0 M) (fun r => r.1 = R.1 ∧ xCX m M0 r.2 R.2 ∧ xiN R.1) := by
  unfold c106_36 at e
  unfold f106_36
  cases e
  exact ⟨_, rfl, rfl, h, ty0⟩
theorem t106_58 {m f : Nat} {M0 M : xj_M} {T : xT_} (hS : xHS f)   (h : xCX m M0 M T) {x3 : Int} {y0 : Int} {y1 : Nat} {R : Int × xT_} (tx3 : xiN x3) (ty0 : xin y0) (e : c106_58  f x3 y0 y1 T = some R) : xok (f106_58  f x3 y0 y1 M) (fun r => r.1 = R.1 ∧ xCX m M0 r.2 R.2 ∧ xiN R.1) := by
  unfold c106_58 at e
  unfold f106_58
  obtain ⟨_, q106, e⟩ := xbnd e
  obtain ⟨R101, e102, e⟩ := xbnd e
  refine xok_eqb (h.is q106) ?_
  refine xok_call (t107 hS h ty0 (xin_of _) (xin_of _) e102) ?_
  rintro ⟨v_, M103⟩ ⟨hv_, h104, hi105⟩
  cases hv_
  cases e
  exact ⟨_, rfl, rfl, h104, hi105⟩
theorem t106_47 {m f : Nat} {M0 M : xj_M} {T : xT_} (hS : xHS f)   (h : xCX m M0 M T) {x0 : Nat} {x1 : Int} {x3 : Int} {R : Int × xT_} (tx1 : xin x1) (tx3 : xiN x3) (e : c106_47  f x0 x1 x3 T = some R) : xok (f106_47  f x0 x1 x3 M) (fun r => r.1 = R.1 ∧ xCX m M0 r.2 R.2 ∧ xiN R.1) := by
  unfold c106_47 at e
  unfold f106_47
  refine xok_ite (fun c107 => ?_) (fun c107 => ?_)
  · rw [if_pos c107] at e
    exact t106_58  hS  h tx3 (show xin (0) by decide) e
  · rw [if_neg c107] at e
    exact t106_58  hS  h tx3 (show xin (1) by decide) e
theorem t106 {m f : Nat} {M0 M : xj_M} {T : xT_} (hS : xHS f) (h : xCX m M0 M T) {a0 : Nat} {a1 : Int} {a2 : Int} {a3 : Int} {R : Int × xT_} (ta1 : xin a1) (ta2 : xin a2) (ta3 : xiN a3) (e : c106 f a0 a1 a2 a3 T = some R) : xok (f106 f a0 a1 a2 a3 M) (fun r => r.1 = R.1 ∧ xCX m M0 r.2 R.2 ∧ xiN R.1) := by
  unfold c106 at e
  unfold f106
  refine xok_ite (fun c108 => ?_) (fun c108 => ?_)
  · rw [if_pos c108] at e
    refine xok_ite (fun c109 => ?_) (fun c109 => ?_)
    · rw [if_pos c109] at e
      refine xok_ite (fun c110 => ?_) (fun c110 => ?_)
      · rw [if_pos c110] at e
        exact t106_47  hS  h ta1 ta3 e
      · rw [if_neg c110] at e
        refine xok_ite (fun c111 => ?_) (fun c111 => ?_)
        · rw [if_pos c111] at e
          obtain ⟨_, q117, e⟩ := xbnd e
          obtain ⟨R112, e113, e⟩ := xbnd e
          refine xok_eqb (h.is q117) ?_
          refine xok_call (t109 hS h ta1 (xin_wr _) ta3 e113) ?_
          rintro ⟨v_, M114⟩ ⟨hv_, h115, hi116⟩
          cases hv_
          cases e
          exact ⟨_, rfl, rfl, h115, hi116⟩
        · rw [if_neg c111] at e
          exact t106_47  hS  h ta1 ta3 e
    · rw [if_neg c109] at e
      obtain ⟨v118, q119, e⟩ := xbnd e
      refine xok_eqb (h.gr (by decide) (by decide) q119) ?_
      obtain ⟨v120, q121, e⟩ := xbnd e
      refine xok_eqb (h.al q121).1 ?_
      refine xok_ite (fun c122 => ?_) (fun c122 => ?_)
      · rw [if_pos c122] at e
        exact t106_36  hS  h (h.al q121).2 e
      · rw [if_neg c122] at e
        exact t106_36  hS  h (show xiN (0) by decide) e
  · rw [if_neg c108] at e
    cases e
    exact ⟨_, rfl, rfl, h, ta3⟩
-- ChangeHouse$Tape.addName
theorem t114_112 {m f : Nat} {M0 M : xj_M} {T : xT_} (hS : xHS f)   (h : xCX m M0 M T) {x0 : Nat} {x1 : Int} {x2 : Int} {x4 : Int} {R : Int × xT_} (tx1 : xin x1) (tx2 : xiN x2) (tx4 : xin x4) (e : c114_112  f x0 x1 x2 x4 T = some R) : xok (f114_112  f x0 x1 x2 x4 M) (fun r => r.1 = R.1 ∧ xCX m M0 r.2 R.2 ∧ xin R.1) := by
  unfold c114_112 at e
  unfold f114_112
  obtain ⟨v101, q102, e⟩ := xbnd e
  refine xok_eqb (h.gr (by decide) (by decide) q102) ?_
  obtain ⟨v103, q104, e⟩ := xbnd e
  refine xok_eqb (h.gi (by decide) (by decide) q104).1 ?_
  obtain ⟨_, q110, e⟩ := xbnd e
  obtain ⟨R105, e106, e⟩ := xbnd e
  refine xok_eqb (h.is q110) ?_
  refine xok_call (t127 hS h tx1 (xin_wr _) e106) ?_
  rintro ⟨v_, M107⟩ ⟨hv_, h108, hi109⟩
  cases hv_
  obtain ⟨T112, q111, e⟩ := xbnd e
  obtain ⟨M113, q114, h115⟩ := h108.sl hi109 q111
  refine xok_eqb q114 ?_
  obtain ⟨_, q121, e⟩ := xbnd e
  obtain ⟨R116, e117, e⟩ := xbnd e
  refine xok_eqb (h115.is q121) ?_
  refine xok_call (t115 hS h115 tx1 tx4 e117) ?_
  rintro ⟨v_, M118⟩ ⟨hv_, h119, hi120⟩
  cases hv_
  obtain ⟨_, q127, e⟩ := xbnd e
  obtain ⟨R122, e123, e⟩ := xbnd e
  refine xok_eqb (h119.is q127) ?_
  refine xok_call (t120 hS h119 hi120 tx1 tx4 tx2 e123) ?_
  intro M124 h125
  cases e
  exact ⟨_, rfl, rfl, h125, tx4⟩
theorem t114_105 {m f : Nat} {M0 M : xj_M} {T : xT_} (hS : xHS f) {r5 : Nat → Int → Int → Int → xT_ → Option (Int × xT_)} {o5 : Nat → Int → Int → Int → xj_M → Option (Int × xj_M)} (hr5 : ∀ {M : xj_M} {T : xT_} {x0 : Nat} {x1 : Int} {x2 : Int} {x4 : Int} {R : Int × xT_}, xCX m M0 M T → xin x1 → xiN x2 → xin x4 → r5 x0 x1 x2 x4 T = some R → xok (o5 x0 x1 x2 x4 M) (fun r => r.1 = R.1 ∧ xCX m M0 r.2 R.2 ∧ xin R.1)) (h : xCX m M0 M T) {x0 : Nat} {x1 : Int} {x4 : Int} {y0 : Int} {R : Int × xT_} (tx1 : xin x1) (tx4 : xin x4) (ty0 : xiN y0) (e : c114_105 r5 f x0 x1 x4 y0 T = some R) : xok (f114_105 o5 f x0 x1 x4 y0 M) (fun r => r.1 = R.1 ∧ xCX m M0 r.2 R.2 ∧ xin R.1) := by
  unfold c114_105 at e
  unfold f114_105
  exact hr5 h tx1 ty0 (xin_wr _) e
theorem t114_73 {m f : Nat} {M0 M : xj_M} {T : xT_} (hS : xHS f) {r5 : Nat → Int → Int → Int → xT_ → Option (Int × xT_)} {o5 : Nat → Int → Int → Int → xj_M → Option (Int × xj_M)} (hr5 : ∀ {M : xj_M} {T : xT_} {x0 : Nat} {x1 : Int} {x2 : Int} {x4 : Int} {R : Int × xT_}, xCX m M0 M T → xin x1 → xiN x2 → xin x4 → r5 x0 x1 x2 x4 T = some R → xok (o5 x0 x1 x2 x4 M) (fun r => r.1 = R.1 ∧ xCX m M0 r.2 R.2 ∧ xin R.1)) (h : xCX m M0 M T) {x0 : Nat} {x1 : Int} {x2 : Int} {x4 : Int} {y0 : Int} {R : Int × xT_} (tx1 : xin x1) (tx2 : xiN x2) (tx4 : xin x4) (ty0 : xin y0) (e : c114_73 r5 f x0 x1 x2 x4 y0 T = some R) : xok (f114_73 o5 f x0 x1 x2 x4 y0 M) (fun r => r.1 = R.1 ∧ xCX m M0 r.2 R.2 ∧ xin R.1) := by
  unfold c114_73 at e
  unfold f114_73
  refine xok_ite (fun c128 => ?_) (fun c128 => ?_)
  · rw [if_pos c128] at e
    refine xok_ite (fun c129 => ?_) (fun c129 => ?_)
    · rw [if_pos c129] at e
      exact t114_105 (r5 := r5) (o5 := o5) hS @hr5 h tx1 tx4 tx2 e
    · rw [if_neg c129] at e
      exact t114_105 (r5 := r5) (o5 := o5) hS @hr5 h tx1 tx4 (xiN_wl _) e
  · rw [if_neg c128] at e
    exact t114_112  hS  h tx1 tx2 tx4 e
theorem t114_5b {m f : Nat} {M0 M : xj_M} {T : xT_} (hS : xHS f) {r5 : Nat → Int → Int → Int → xT_ → Option (Int × xT_)} {o5 : Nat → Int → Int → Int → xj_M → Option (Int × xj_M)} (hr5 : ∀ {M : xj_M} {T : xT_} {x0 : Nat} {x1 : Int} {x2 : Int} {x4 : Int} {R : Int × xT_}, xCX m M0 M T → xin x1 → xiN x2 → xin x4 → r5 x0 x1 x2 x4 T = some R → xok (o5 x0 x1 x2 x4 M) (fun r => r.1 = R.1 ∧ xCX m M0 r.2 R.2 ∧ xin R.1)) (h : xCX m M0 M T) {x0 : Nat} {x1 : Int} {x2 : Int} {x4 : Int} {R : Int × xT_} (tx1 : xin x1) (tx2 : xiN x2) (tx4 : xin x4) (e : c114_5b r5 f x0 x1 x2 x4 T = some R) : xok (f114_5b o5 f x0 x1 x2 x4 M) (fun r => r.1 = R.1 ∧ xCX m M0 r.2 R.2 ∧ xin R.1) := by
  unfold c114_5b at e
  unfold f114_5b
  obtain ⟨v130, q131, e⟩ := xbnd e
  refine xok_eqb (h.gi (by decide) (by decide) q131).1 ?_
  refine xok_ite (fun c132 => ?_) (fun c132 => ?_)
  · rw [if_pos c132] at e
    exact t114_112  hS  h tx1 tx2 tx4 e
  · rw [if_neg c132] at e
    obtain ⟨v133, q134, e⟩ := xbnd e
    refine xok_eqb (h.gr (by decide) (by decide) q134) ?_
    obtain ⟨v135, q136, e⟩ := xbnd e
    refine xok_eqb (h.ai (by decide) q136).1 ?_
    obtain ⟨R137, e138, e⟩ := xbnd e
    refine xok_call (t121 hS h (h.ai (by decide) q136).2 e138) ?_
    rintro ⟨v_, M139⟩ ⟨hv_, h140, hi141⟩
    cases hv_
    refine xok_ite (fun c142 => ?_) (fun c142 => ?_)
    · rw [if_pos c142] at e
      obtain ⟨R143, e144, e⟩ := xbnd e
      refine xok_call (t123 hS h140 (h.ai (by decide) q136).2 e144) ?_
      rintro ⟨v_, M145⟩ ⟨hv_, h146, hi147⟩
      cases hv_
      refine xok_ite (fun c148 => ?_) (fun c148 => ?_)
      · rw [if_pos c148] at e
        refine xok_ite (fun c149 => ?_) (fun c149 => ?_)
        · rw [if_pos c149] at e
          exact t114_73 (r5 := r5) (o5 := o5) hS @hr5 h146 tx1 tx2 tx4 (show xin (0) by decide) e
        · rw [if_neg c149] at e
          exact t114_73 (r5 := r5) (o5 := o5) hS @hr5 h146 tx1 tx2 tx4 (show xin (37) by decide) e
      · rw [if_neg c148] at e
        exact t114_73 (r5 := r5) (o5 := o5) hS @hr5 h146 tx1 tx2 tx4 (xin_wr _) e
    · rw [if_neg c142] at e
      exact t114_73 (r5 := r5) (o5 := o5) hS @hr5 h140 tx1 tx2 tx4 (xin_wr _) e
theorem t114_5 {m f : Nat} {M0 : xj_M} (hS : xHS f)   : ∀ {n : Nat} {M : xj_M} {T : xT_} {x0 : Nat} {x1 : Int} {x2 : Int} {x4 : Int} {R : Int × xT_}, xCX m M0 M T → xin x1 → xiN x2 → xin x4 → c114_5  f n x0 x1 x2 x4 T = some R → xok (f114_5  f n x0 x1 x2 x4 M) (fun r => r.1 = R.1 ∧ xCX m M0 r.2 R.2 ∧ xin R.1) := by
  intro n
  induction n with
  | zero => intros; rename_i e; cases e
  | succ n ih =>
    intros
    rename_i h i0 i1 i2 e
    exact t114_5b hS  @ih h i0 i1 i2 e
theorem t114 {m f : Nat} {M0 M : xj_M} {T : xT_} (hS : xHS f) (h : xCX m M0 M T) {a0 : Nat} {a1 : Int} {R : Int × xT_} (ta1 : xin a1) (e : c114 f a0 a1 T = some R) : xok (f114 f a0 a1 M) (fun r => r.1 = R.1 ∧ xCX m M0 r.2 R.2 ∧ xin R.1) := by
  unfold c114 at e
  unfold f114
  exact t114_5  hS  h ta1 (show xiN (0) by decide) ta1 e
-- ChangeHouse$Ways.compares
theorem t139_110 {m f : Nat} {M0 M : xj_M} {T : xT_} (hS : xHS f)   (h : xCX m M0 M T) {y0 : Int} {R : Int × xT_} (ty0 : xin y0) (e : c139_110  f y0 T = some R) : xok (f139_110  f y0 M) (fun r => r.1 = R.1 ∧ xCX m M0 r.2 R.2 ∧ xin R.1) := by
  unfold c139_110 at e
  unfold f139_110
  refine xok_ite (fun c101 => ?_) (fun c101 => ?_)
  · rw [if_pos c101] at e; cases e; exact ⟨_, rfl, rfl, h, ty0⟩
  · rw [if_neg c101] at e; cases e
theorem t139_143 {m f : Nat} {M0 M : xj_M} {T : xT_} (hS : xHS f)   (h : xCX m M0 M T)  {R : Int × xT_}  (e : c139_143  f  T = some R) : xok (f139_143  f  M) (fun r => r.1 = R.1 ∧ xCX m M0 r.2 R.2 ∧ xin R.1) := by
  unfold c139_143 at e
  unfold f139_143
  cases e
  exact ⟨_, rfl, rfl, h, (show xin (0) by decide)⟩
theorem t139_275 {m f : Nat} {M0 M : xj_M} {T : xT_} (hS : xHS f)   (h : xCX m M0 M T) {y0 : Int} {R : Int × xT_} (ty0 : xin y0) (e : c139_275  f y0 T = some R) : xok (f139_275  f y0 M) (fun r => r.1 = R.1 ∧ xCX m M0 r.2 R.2 ∧ xin R.1) := by
  unfold c139_275 at e
  unfold f139_275
  refine xok_ite (fun c102 => ?_) (fun c102 => ?_)
  · rw [if_pos c102] at e; cases e; exact ⟨_, rfl, rfl, h, ty0⟩
  · rw [if_neg c102] at e; cases e
theorem t139_111 {m f : Nat} {M0 M : xj_M} {T : xT_} (hS : xHS f)   (h : xCX m M0 M T) {x0 : Nat} {x2 : Int} {x3 : Int} {x4 : Int} {R : Int × xT_} (tx2 : xin x2) (tx3 : xin x3) (tx4 : xin x4) (e : c139_111  f x0 x2 x3 x4 T = some R) : xok (f139_111  f x0 x2 x3 x4 M) (fun r => r.1 = R.1 ∧ xCX m M0 r.2 R.2 ∧ xin R.1) := by
  unfold c139_111 at e
  unfold f139_111
  obtain ⟨_, q108, e⟩ := xbnd e
  obtain ⟨R103, e104, e⟩ := xbnd e
  refine xok_eqb (h.is q108) ?_
  refine xok_call (t141 hS h tx2 e104) ?_
  rintro ⟨v_, M105⟩ ⟨hv_, h106, hi107⟩
  cases hv_
  obtain ⟨_, q114, e⟩ := xbnd e
  obtain ⟨R109, e110, e⟩ := xbnd e
  refine xok_eqb (h106.is q114) ?_
  refine xok_call (t141 hS h106 tx3 e110) ?_
  rintro ⟨v_, M111⟩ ⟨hv_, h112, hi113⟩
  cases hv_
  refine xok_ite (fun c115 => ?_) (fun c115 => ?_)
  · rw [if_pos c115] at e
    exact t139_143  hS  h112  e
  · rw [if_neg c115] at e
    refine xok_ite (fun c116 => ?_) (fun c116 => ?_)
    · rw [if_pos c116] at e
      refine xok_ite (fun c117 => ?_) (fun c117 => ?_)
      · rw [if_pos c117] at e
        refine xok_ite (fun c118 => ?_) (fun c118 => ?_)
        · rw [if_pos c118] at e
          refine xok_ite (fun c119 => ?_) (fun c119 => ?_)
          · rw [if_pos c119] at e
            refine xok_ite (fun c120 => ?_) (fun c120 => ?_)
            · rw [if_pos c120] at e
              refine xok_ite (fun c121 => ?_) (fun c121 => ?_)
              · rw [if_pos c121] at e
                refine xok_ite (fun c122 => ?_) (fun c122 => ?_)
                · rw [if_pos c122] at e
                  exact t139_275  hS  h112 (show xin (0) by decide) e
                · rw [if_neg c122] at e
                  exact t139_275  hS  h112 (show xin (1) by decide) e
              · rw [if_neg c121] at e
                refine xok_ite (fun c123 => ?_) (fun c123 => ?_)
                · rw [if_pos c123] at e
                  exact t139_275  hS  h112 (show xin (0) by decide) e
                · rw [if_neg c123] at e
                  exact t139_275  hS  h112 (show xin (1) by decide) e
            · rw [if_neg c120] at e
              refine xok_ite (fun c124 => ?_) (fun c124 => ?_)
              · rw [if_pos c124] at e
                exact t139_275  hS  h112 (show xin (0) by decide) e
              · rw [if_neg c124] at e
                exact t139_275  hS  h112 (show xin (1) by decide) e
          · rw [if_neg c119] at e
            refine xok_ite (fun c125 => ?_) (fun c125 => ?_)
            · rw [if_pos c125] at e
              exact t139_275  hS  h112 (show xin (0) by decide) e
            · rw [if_neg c125] at e
              exact t139_275  hS  h112 (show xin (1) by decide) e
        · rw [if_neg c118] at e
          refine xok_ite (fun c126 => ?_) (fun c126 => ?_)
          · rw [if_pos c126] at e
            exact t139_275  hS  h112 (show xin (0) by decide) e
          · rw [if_neg c126] at e
            exact t139_275  hS  h112 (show xin (1) by decide) e
      · rw [if_neg c117] at e
        refine xok_ite (fun c127 => ?_) (fun c127 => ?_)
        · rw [if_pos c127] at e
          exact t139_275  hS  h112 (show xin (0) by decide) e
        · rw [if_neg c127] at e
          exact t139_275  hS  h112 (show xin (1) by decide) e
    · rw [if_neg c116] at e
      exact t139_143  hS  h112  e
theorem t139_54 {m f : Nat} {M0 M : xj_M} {T : xT_} (hS : xHS f)   (h : xCX m M0 M T) {x0 : Nat} {x2 : Int} {x3 : Int} {x4 : Int} {x5 : Int} {x6 : Int} {R : Int × xT_} (tx2 : xin x2) (tx3 : xin x3) (tx4 : xin x4) (tx5 : xin x5) (tx6 : xin x6) (e : c139_54  f x0 x2 x3 x4 x5 x6 T = some R) : xok (f139_54  f x0 x2 x3 x4 x5 x6 M) (fun r => r.1 = R.1 ∧ xCX m M0 r.2 R.2 ∧ xin R.1) := by
  unfold c139_54 at e
  unfold f139_54
  refine xok_ite (fun c128 => ?_) (fun c128 => ?_)
  · rw [if_pos c128] at e
    exact t139_111  hS  h tx2 tx3 tx4 e
  · rw [if_neg c128] at e
    obtain ⟨v129, q130, e⟩ := xbnd e
    refine xok_eqb (h.gr (by decide) (by decide) q130) ?_
    obtain ⟨_, q136, e⟩ := xbnd e
    obtain ⟨R131, e132, e⟩ := xbnd e
    refine xok_eqb (h.is q136) ?_
    refine xok_call (t141 hS h tx6 e132) ?_
    rintro ⟨v_, M133⟩ ⟨hv_, h134, hi135⟩
    cases hv_
    obtain ⟨T138, q137, e⟩ := xbnd e
    obtain ⟨M139, q140, h141⟩ := h134.sl hi135 q137
    refine xok_eqb q140 ?_
    obtain ⟨v142, q143, e⟩ := xbnd e
    refine xok_eqb (h141.gr (by decide) (by decide) q143) ?_
    obtain ⟨v144, q145, e⟩ := xbnd e
    refine xok_eqb (h141.gi (by decide) (by decide) q145).1 ?_
    obtain ⟨v146, q147, e⟩ := xbnd e
    refine xok_eqb (h141.ai (by decide) q147).1 ?_
    obtain ⟨T149, q148, e⟩ := xbnd e
    obtain ⟨M150, q151, h152⟩ := h141.si (xin_of _) q148
    refine xok_eqb q151 ?_
    obtain ⟨v153, q154, e⟩ := xbnd e
    refine xok_eqb (h152.gr (by decide) (by decide) q154) ?_
    obtain ⟨v155, q156, e⟩ := xbnd e
    refine xok_eqb (h152.al q156).1 ?_
    refine xok_ite (fun c157 => ?_) (fun c157 => ?_)
    · rw [if_pos c157] at e
      exact t139_110  hS  h152 (show xin (0) by decide) e
    · rw [if_neg c157] at e
      exact t139_110  hS  h152 (show xin (1) by decide) e
theorem t139 {m f : Nat} {M0 M : xj_M} {T : xT_} (hS : xHS f) (h : xCX m M0 M T) {a0 : Nat} {a1 : Int} {R : Int × xT_} (ta1 : xin a1) (e : c139 f a0 a1 T = some R) : xok (f139 f a0 a1 M) (fun r => r.1 = R.1 ∧ xCX m M0 r.2 R.2 ∧ xin R.1) := by
  unfold c139 at e
  unfold f139
  obtain ⟨v158, q159, e⟩ := xbnd e
  refine xok_eqb (h.gr (by decide) (by decide) q159) ?_
  obtain ⟨v160, q161, e⟩ := xbnd e
  refine xok_eqb (h.gr (by decide) (by decide) q161) ?_
  obtain ⟨v162, q163, e⟩ := xbnd e
  refine xok_eqb (h.ai (by decide) q163).1 ?_
  refine xok_ite (fun c164 => ?_) (fun c164 => ?_)
  · rw [if_pos c164] at e
    exact t139_111  hS  h (xin_wr _) (xin_wr _) (h.ai (by decide) q163).2 e
  · rw [if_neg c164] at e
    obtain ⟨_, q170, e⟩ := xbnd e
    obtain ⟨R165, e166, e⟩ := xbnd e
    refine xok_eqb (h.is q170) ?_
    refine xok_call (t140 hS h (xin_wr _) e166) ?_
    rintro ⟨v_, M167⟩ ⟨hv_, h168, hi169⟩
    cases hv_
    refine xok_ite (fun c171 => ?_) (fun c171 => ?_)
    · rw [if_pos c171] at e
      exact t139_54  hS  h168 (xin_wr _) (xin_wr _) (h.ai (by decide) q163).2 hi169 (xin_wr _) e
    · rw [if_neg c171] at e
      obtain ⟨_, q177, e⟩ := xbnd e
      obtain ⟨R172, e173, e⟩ := xbnd e
      refine xok_eqb (h168.is q177) ?_
      refine xok_call (t140 hS h168 (xin_wr _) e173) ?_
      rintro ⟨v_, M174⟩ ⟨hv_, h175, hi176⟩
      cases hv_
      exact t139_54  hS  h175 (xin_wr _) (xin_wr _) (h.ai (by decide) q163).2 hi176 (xin_wr _) e
-- ChangeHouse.merge
theorem t189_59 {m f : Nat} {M0 M : xj_M} {T : xT_} (hS : xHS f)   (h : xCX m M0 M T)  {R : Int × xT_}  (e : c189_59  f  T = some R) : xok (f189_59  f  M) (fun r => r.1 = R.1 ∧ xCX m M0 r.2 R.2 ∧ xin R.1) := by
  unfold c189_59 at e
  unfold f189_59
  cases e
  exact ⟨_, rfl, rfl, h, (show xin (-1) by decide)⟩
theorem t189_128 {m f : Nat} {M0 M : xj_M} {T : xT_} (hS : xHS f)   (h : xCX m M0 M T)  {R : Int × xT_}  (e : c189_128  f  T = some R) : xok (f189_128  f  M) (fun r => r.1 = R.1 ∧ xCX m M0 r.2 R.2 ∧ xin R.1) := by
  unfold c189_128 at e
  unfold f189_128
  cases e
  exact ⟨_, rfl, rfl, h, (show xin (-2) by decide)⟩
theorem t189_191 {m f : Nat} {M0 M : xj_M} {T : xT_} (hS : xHS f) {r152 : Nat → Nat → Nat → Int → Int → xT_ → Option (Int × xT_)} {o152 : Nat → Nat → Nat → Int → Int → xj_M → Option (Int × xj_M)} (hr152 : ∀ {M : xj_M} {T : xT_} {x2 : Nat} {x3 : Nat} {x5 : Nat} {x7 : Int} {x8 : Int} {R : Int × xT_}, xCX m M0 M T → xin x7 → xin x8 → r152 x2 x3 x5 x7 x8 T = some R → xok (o152 x2 x3 x5 x7 x8 M) (fun r => r.1 = R.1 ∧ xCX m M0 r.2 R.2 ∧ xin R.1)) (h : xCX m M0 M T) {x2 : Nat} {x3 : Nat} {x5 : Nat} {x8 : Int} {y0 : Int} {y1 : Int} {R : Int × xT_} (tx8 : xin x8) (ty0 : xin y0) (ty1 : xin y1) (e : c189_191 r152 f x2 x3 x5 x8 y0 y1 T = some R) : xok (f189_191 o152 f x2 x3 x5 x8 y0 y1 M) (fun r => r.1 = R.1 ∧ xCX m M0 r.2 R.2 ∧ xin R.1) := by
  unfold c189_191 at e
  unfold f189_191
  exact hr152 h (xin_wr _) (xin_wr _) e
theorem t189_315 {m f : Nat} {M0 M : xj_M} {T : xT_} (hS : xHS f) {r219 : Nat → Nat → Nat → Int → Int → xT_ → Option (Int × xT_)} {o219 : Nat → Nat → Nat → Int → Int → xj_M → Option (Int × xj_M)} (hr219 : ∀ {M : xj_M} {T : xT_} {x2 : Nat} {x3 : Nat} {x5 : Nat} {x7 : Int} {x8 : Int} {R : Int × xT_}, xCX m M0 M T → xin x7 → xin x8 → r219 x2 x3 x5 x7 x8 T = some R → xok (o219 x2 x3 x5 x7 x8 M) (fun r => r.1 = R.1 ∧ xCX m M0 r.2 R.2 ∧ xin R.1)) (h : xCX m M0 M T) {x2 : Nat} {x3 : Nat} {x5 : Nat} {x7 : Int} {x8 : Int} {R : Int × xT_} (tx7 : xin x7) (tx8 : xin x8) (e : c189_315 r219 f x2 x3 x5 x7 x8 T = some R) : xok (f189_315 o219 f x2 x3 x5 x7 x8 M) (fun r => r.1 = R.1 ∧ xCX m M0 r.2 R.2 ∧ xin R.1) := by
  unfold c189_315 at e
  unfold f189_315
  exact hr219 h tx7 (xin_wr _) e
theorem t189_269 {m f : Nat} {M0 M : xj_M} {T : xT_} (hS : xHS f) {r219 : Nat → Nat → Nat → Int → Int → xT_ → Option (Int × xT_)} {o219 : Nat → Nat → Nat → Int → Int → xj_M → Option (Int × xj_M)} (hr219 : ∀ {M : xj_M} {T : xT_} {x2 : Nat} {x3 : Nat} {x5 : Nat} {x7 : Int} {x8 : Int} {R : Int × xT_}, xCX m M0 M T → xin x7 → xin x8 → r219 x2 x3 x5 x7 x8 T = some R → xok (o219 x2 x3 x5 x7 x8 M) (fun r => r.1 = R.1 ∧ xCX m M0 r.2 R.2 ∧ xin R.1)) (h : xCX m M0 M T) {x2 : Nat} {x3 : Nat} {x5 : Nat} {x7 : Int} {x8 : Int} {y0 : Int} {R : Int × xT_} (tx7 : xin x7) (tx8 : xin x8) (ty0 : xin y0) (e : c189_269 r219 f x2 x3 x5 x7 x8 y0 T = some R) : xok (f189_269 o219 f x2 x3 x5 x7 x8 y0 M) (fun r => r.1 = R.1 ∧ xCX m M0 r.2 R.2 ∧ xin R.1) := by
  unfold c189_269 at e
  unfold f189_269
  obtain ⟨v101, q102, e⟩ := xbnd e
  refine xok_eqb (h.gr (by decide) (by decide) q102) ?_
  obtain ⟨v103, q104, e⟩ := xbnd e
  refine xok_eqb (h.ar q104) ?_
  obtain ⟨v105, q106, e⟩ := xbnd e
  refine xok_eqb (h.gr (by decide) (by decide) q106) ?_
  obtain ⟨v107, q108, e⟩ := xbnd e
  refine xok_eqb (h.ar q108) ?_
  obtain ⟨_, q114, e⟩ := xbnd e
  obtain ⟨R109, e110, e⟩ := xbnd e
  refine xok_eqb (h.is q114) ?_
  refine xok_call (t9 hS h ty0 (show xin (0) by decide) e110) ?_
  intro M111 h112
  obtain ⟨v115, q116, e⟩ := xbnd e
  refine xok_eqb (h112.gr (by decide) (by decide) q116) ?_
  obtain ⟨v117, q118, e⟩ := xbnd e
  refine xok_eqb (h112.ar q118) ?_
  obtain ⟨v119, q120, e⟩ := xbnd e
  refine xok_eqb (h112.gr (by decide) (by decide) q120) ?_
  obtain ⟨v121, q122, e⟩ := xbnd e
  refine xok_eqb (h112.ar q122) ?_
  obtain ⟨_, q128, e⟩ := xbnd e
  obtain ⟨R123, e124, e⟩ := xbnd e
  refine xok_eqb (h112.is q128) ?_
  refine xok_call (t9 hS h112 ty0 (show xin (1) by decide) e124) ?_
  intro M125 h126
  exact t189_315 (r219 := r219) (o219 := o219) hS @hr219 h126 tx7 tx8 e
theorem t189_219b {m f : Nat} {M0 M : xj_M} {T : xT_} (hS : xHS f) {r219 : Nat → Nat → Nat → Int → Int → xT_ → Option (Int × xT_)} {o219 : Nat → Nat → Nat → Int → Int → xj_M → Option (Int × xj_M)} (hr219 : ∀ {M : xj_M} {T : xT_} {x2 : Nat} {x3 : Nat} {x5 : Nat} {x7 : Int} {x8 : Int} {R : Int × xT_}, xCX m M0 M T → xin x7 → xin x8 → r219 x2 x3 x5 x7 x8 T = some R → xok (o219 x2 x3 x5 x7 x8 M) (fun r => r.1 = R.1 ∧ xCX m M0 r.2 R.2 ∧ xin R.1)) (h : xCX m M0 M T) {x2 : Nat} {x3 : Nat} {x5 : Nat} {x7 : Int} {x8 : Int} {R : Int × xT_} (tx7 : xin x7) (tx8 : xin x8) (e : c189_219b r219 f x2 x3 x5 x7 x8 T = some R) : xok (f189_219b o219 f x2 x3 x5 x7 x8 M) (fun r => r.1 = R.1 ∧ xCX m M0 r.2 R.2 ∧ xin R.1) := by
  unfold c189_219b at e
  unfold f189_219b
  obtain ⟨v129, q130, e⟩ := xbnd e
  refine xok_eqb (h.gr (by decide) (by decide) q130) ?_
  obtain ⟨v131, q132, e⟩ := xbnd e
  refine xok_eqb (h.gi (by decide) (by decide) q132).1 ?_
  refine xok_ite (fun c133 => ?_) (fun c133 => ?_)
  · rw [if_pos c133] at e
    cases e
    exact ⟨_, rfl, rfl, h, tx7⟩
  · rw [if_neg c133] at e
    obtain ⟨v134, q135, e⟩ := xbnd e
    refine xok_eqb (h.gr (by decide) (by decide) q135) ?_
    obtain ⟨v136, q137, e⟩ := xbnd e
    refine xok_eqb (h.gr (by decide) (by decide) q137) ?_
    obtain ⟨v138, q139, e⟩ := xbnd e
    refine xok_eqb (h.ab q139).1 ?_
    refine xok_ite (fun c140 => ?_) (fun c140 => ?_)
    · rw [if_pos c140] at e
      exact t189_315 (r219 := r219) (o219 := o219) hS @hr219 h tx7 tx8 e
    · rw [if_neg c140] at e
      obtain ⟨v141, q142, e⟩ := xbnd e
      refine xok_eqb (h.gr (by decide) (by decide) q142) ?_
      refine xok_ite (fun c143 => ?_) (fun c143 => ?_)
      · rw [if_pos c143] at e
        exact t189_269 (r219 := r219) (o219 := o219) hS @hr219 h tx7 tx8 tx8 e
      · rw [if_neg c143] at e
        obtain ⟨v144, q145, e⟩ := xbnd e
        refine xok_eqb (h.gr (by decide) (by decide) q145) ?_
        obtain ⟨v146, q147, e⟩ := xbnd e
        refine xok_eqb (h.gr (by decide) (by decide) q147) ?_
        obtain ⟨_, q153, e⟩ := xbnd e
        obtain ⟨R148, e149, e⟩ := xbnd e
        refine xok_eqb (h.is q153) ?_
        refine xok_call (t22 hS h tx8 e149) ?_
        rintro ⟨v_, M150⟩ ⟨hv_, h151, hi152⟩
        cases hv_
        exact t189_269 (r219 := r219) (o219 := o219) hS @hr219 h151 tx7 tx8 hi152 e
theorem t189_219 {m f : Nat} {M0 : xj_M} (hS : xHS f)   : ∀ {n : Nat} {M : xj_M} {T : xT_} {x2 : Nat} {x3 : Nat} {x5 : Nat} {x7 : Int} {x8 : Int} {R : Int × xT_}, xCX m M0 M T → xin x7 → xin x8 → c189_219  f n x2 x3 x5 x7 x8 T = some R → xok (f189_219  f n x2 x3 x5 x7 x8 M) (fun r => r.1 = R.1 ∧ xCX m M0 r.2 R.2 ∧ xin R.1) := by
  intro n
  induction n with
  | zero => intros; rename_i e; cases e
  | succ n ih =>
    intros
    rename_i h i0 i1 e
    exact t189_219b hS  @ih h i0 i1 e
theorem t189_152b {m f : Nat} {M0 M : xj_M} {T : xT_} (hS : xHS f) {r152 : Nat → Nat → Nat → Int → Int → xT_ → Option (Int × xT_)} {o152 : Nat → Nat → Nat → Int → Int → xj_M → Option (Int × xj_M)} (hr152 : ∀ {M : xj_M} {T : xT_} {x2 : Nat} {x3 : Nat} {x5 : Nat} {x7 : Int} {x8 : Int} {R : Int × xT_}, xCX m M0 M T → xin x7 → xin x8 → r152 x2 x3 x5 x7 x8 T = some R → xok (o152 x2 x3 x5 x7 x8 M) (fun r => r.1 = R.1 ∧ xCX m M0 r.2 R.2 ∧ xin R.1)) (h : xCX m M0 M T) {x2 : Nat} {x3 : Nat} {x5 : Nat} {x7 : Int} {x8 : Int} {R : Int × xT_} (tx7 : xin x7) (tx8 : xin x8) (e : c189_152b r152 f x2 x3 x5 x7 x8 T = some R) : xok (f189_152b o152 f x2 x3 x5 x7 x8 M) (fun r => r.1 = R.1 ∧ xCX m M0 r.2 R.2 ∧ xin R.1) := by
  unfold c189_152b at e
  unfold f189_152b
  obtain ⟨v154, q155, e⟩ := xbnd e
  refine xok_eqb (h.gr (by decide) (by decide) q155) ?_
  obtain ⟨v156, q157, e⟩ := xbnd e
  refine xok_eqb (h.gi (by decide) (by decide) q157).1 ?_
  refine xok_ite (fun c158 => ?_) (fun c158 => ?_)
  · rw [if_pos c158] at e
    obtain ⟨v159, q160, e⟩ := xbnd e
    refine xok_eqb (h.gi (by decide) (by decide) q160).1 ?_
    refine xok_ite (fun c161 => ?_) (fun c161 => ?_)
    · rw [if_pos c161] at e
      exact t189_219  hS  h tx7 (show xin (0) by decide) e
    · rw [if_neg c161] at e
      cases e
      exact ⟨_, rfl, rfl, h, (show xin (-4) by decide)⟩
  · rw [if_neg c158] at e
    obtain ⟨v162, q163, e⟩ := xbnd e
    refine xok_eqb (h.gr (by decide) (by decide) q163) ?_
    obtain ⟨v164, q165, e⟩ := xbnd e
    refine xok_eqb (h.gr (by decide) (by decide) q165) ?_
    obtain ⟨v166, q167, e⟩ := xbnd e
    refine xok_eqb (h.ab q167).1 ?_
    refine xok_ite (fun c168 => ?_) (fun c168 => ?_)
    · rw [if_pos c168] at e
      exact t189_191 (r152 := r152) (o152 := o152) hS @hr152 h tx8 (show xin (0) by decide) tx7 e
    · rw [if_neg c168] at e
      obtain ⟨_, q174, e⟩ := xbnd e
      obtain ⟨R169, e170, e⟩ := xbnd e
      refine xok_eqb (h.is q174) ?_
      refine xok_call (t18 hS h tx8 e170) ?_
      rintro ⟨v_, M171⟩ ⟨hv_, h172, hi173⟩
      cases hv_
      exact t189_191 (r152 := r152) (o152 := o152) hS @hr152 h172 tx8 hi173 tx7 e
theorem t189_152 {m f : Nat} {M0 : xj_M} (hS : xHS f)   : ∀ {n : Nat} {M : xj_M} {T : xT_} {x2 : Nat} {x3 : Nat} {x5 : Nat} {x7 : Int} {x8 : Int} {R : Int × xT_}, xCX m M0 M T → xin x7 → xin x8 → c189_152  f n x2 x3 x5 x7 x8 T = some R → xok (f189_152  f n x2 x3 x5 x7 x8 M) (fun r => r.1 = R.1 ∧ xCX m M0 r.2 R.2 ∧ xin R.1) := by
  intro n
  induction n with
  | zero => intros; rename_i e; cases e
  | succ n ih =>
    intros
    rename_i h i0 i1 e
    exact t189_152b hS  @ih h i0 i1 e
theorem t189 {m f : Nat} {M0 M : xj_M} {T : xT_} (hS : xHS f) (h : xCX m M0 M T) {a0 : Nat} {a1 : Int} {R : Int × xT_} (ta1 : xin a1) (e : c189 f a0 a1 T = some R) : xok (f189 f a0 a1 M) (fun r => r.1 = R.1 ∧ xCX m M0 r.2 R.2 ∧ xin R.1) := by
  unfold c189 at e
  unfold f189
  obtain ⟨v175, q176, e⟩ := xbnd e
  refine xok_eqb (h.gr (by decide) (by decide) q176) ?_
  obtain ⟨v177, q178, e⟩ := xbnd e
  refine xok_eqb (h.gi (by decide) (by decide) q178).1 ?_
  obtain ⟨v179, q180, e⟩ := xbnd e
  refine xok_eqb (h.ar q180) ?_
  refine xok_ite (fun c181 => ?_) (fun c181 => ?_)
  · rw [if_pos c181] at e
    exact t189_59  hS  h  e
  · rw [if_neg c181] at e
    refine xok_ite (fun c182 => ?_) (fun c182 => ?_)
    · rw [if_pos c182] at e
      exact t189_59  hS  h  e
    · rw [if_neg c182] at e
      obtain ⟨v183, q184, e⟩ := xbnd e
      refine xok_eqb (h.gi (by decide) (by decide) q184).1 ?_
      refine xok_ite (fun c185 => ?_) (fun c185 => ?_)
      · rw [if_pos c185] at e
        exact t189_59  hS  h  e
      · rw [if_neg c185] at e
        obtain ⟨v186, q187, e⟩ := xbnd e
        refine xok_eqb (h.gr (by decide) (by decide) q187) ?_
        obtain ⟨v188, q189, e⟩ := xbnd e
        refine xok_eqb (h.ar q189) ?_
        obtain ⟨v190, q191, e⟩ := xbnd e
        refine xok_eqb (h.gi (by decide) (by decide) q191).1 ?_
        obtain ⟨v192, q193, e⟩ := xbnd e
        refine xok_eqb (h.gi (by decide) (by decide) q193).1 ?_
        refine xok_ite (fun c194 => ?_) (fun c194 => ?_)
        · rw [if_pos c194] at e
          exact t189_59  hS  h  e
        · rw [if_neg c194] at e
          obtain ⟨v195, q196, e⟩ := xbnd e
          refine xok_eqb (h.gr (by decide) (by decide) q196) ?_
          obtain ⟨v197, q198, e⟩ := xbnd e
          refine xok_eqb (h.ar q198) ?_
          obtain ⟨v199, q200, e⟩ := xbnd e
          refine xok_eqb (h.gi (by decide) (by decide) q200).1 ?_
          obtain ⟨_, q206, e⟩ := xbnd e
          obtain ⟨R201, e202, e⟩ := xbnd e
          refine xok_eqb (h.is q206) ?_
          refine xok_call (t6 hS h (h.gi (by decide) (by decide) q200).2 e202) ?_
          rintro ⟨v_, M203⟩ ⟨hv_, h204, hi205⟩
          cases hv_
          refine xok_ite (fun c207 => ?_) (fun c207 => ?_)
          · rw [if_pos c207] at e
            obtain ⟨v208, q209, e⟩ := xbnd e
            refine xok_eqb (h204.gr (by decide) (by decide) q209) ?_
            obtain ⟨v210, q211, e⟩ := xbnd e
            refine xok_eqb (h204.gr (by decide) (by decide) q211) ?_
            obtain ⟨v212, q213, e⟩ := xbnd e
            refine xok_eqb (h204.ar q213) ?_
            obtain ⟨v214, q215, e⟩ := xbnd e
            refine xok_eqb (h204.gi (by decide) (by decide) q215).1 ?_
            obtain ⟨v216, q217, e⟩ := xbnd e
            refine xok_eqb (h204.ar q217) ?_
            obtain ⟨_, q223, e⟩ := xbnd e
            obtain ⟨R218, e219, e⟩ := xbnd e
            refine xok_eqb (h204.is q223) ?_
            refine xok_call (t5 hS h204  e219) ?_
            rintro ⟨v_, M220⟩ ⟨hv_, h221⟩
            cases hv_
            obtain ⟨v224, q225, e⟩ := xbnd e
            refine xok_eqb (h221.gr (by decide) (by decide) q225) ?_
            obtain ⟨v226, q227, e⟩ := xbnd e
            refine xok_eqb (h221.ar q227) ?_
            obtain ⟨_, q233, e⟩ := xbnd e
            obtain ⟨R228, e229, e⟩ := xbnd e
            refine xok_eqb (h221.is q233) ?_
            refine xok_call (t5 hS h221  e229) ?_
            rintro ⟨v_, M230⟩ ⟨hv_, h231⟩
            cases hv_
            obtain ⟨v234, q235, e⟩ := xbnd e
            refine xok_eqb (h231.gr (by decide) (by decide) q235) ?_
            obtain ⟨v236, q237, e⟩ := xbnd e
            refine xok_eqb (h231.gi (by decide) (by decide) q237).1 ?_
            obtain ⟨v238, q239, e⟩ := xbnd e
            refine xok_eqb (h231.gr (by decide) (by decide) q239) ?_
            obtain ⟨v240, q241, e⟩ := xbnd e
            refine xok_eqb (h231.gi (by decide) (by decide) q241).1 ?_
            refine xok_ite (fun c242 => ?_) (fun c242 => ?_)
            · rw [if_pos c242] at e
              exact t189_128  hS  h231  e
            · rw [if_neg c242] at e
              obtain ⟨v243, q244, e⟩ := xbnd e
              refine xok_eqb (h231.gr (by decide) (by decide) q244) ?_
              obtain ⟨v245, q246, e⟩ := xbnd e
              refine xok_eqb (h231.gi (by decide) (by decide) q246).1 ?_
              refine xok_ite (fun c247 => ?_) (fun c247 => ?_)
              · rw [if_pos c247] at e
                obtain ⟨_, q253, e⟩ := xbnd e
                obtain ⟨R248, e249, e⟩ := xbnd e
                refine xok_eqb (h231.is q253) ?_
                refine xok_call (t190 hS h231  e249) ?_
                rintro ⟨v_, M250⟩ ⟨hv_, h251, hi252⟩
                cases hv_
                refine xok_ite (fun c254 => ?_) (fun c254 => ?_)
                · rw [if_pos c254] at e
                  exact t189_152  hS  h251 (show xin (0) by decide) (show xin (0) by decide) e
                · rw [if_neg c254] at e
                  cases e
                  exact ⟨_, rfl, rfl, h251, (show xin (-3) by decide)⟩
              · rw [if_neg c247] at e
                exact t189_128  hS  h231  e
          · rw [if_neg c207] at e
            exact t189_59  hS  h204  e
-- ChangeHouse$Reader.readCell
theorem t33_132 {m f : Nat} {M0 M : xj_M} {T : xT_} (hS : xHS f)   (h : xCX m M0 M T) {x2 : Int} {R : (Nat ⊕ Int) × xT_} (tx2 : xin x2) (e : c33_132  f x2 T = some R) : xok (f33_132  f x2 M) (fun r => r.1 = R.1 ∧ xCX m M0 r.2 R.2 ∧ ∀ v, R.1 = .inr v → xin v) := by
  unfold c33_132 at e
  unfold f33_132
  cases e
  exact ⟨_, rfl, rfl, h, fun v hv => by cases hv; exact tx2⟩
theorem t33_99 {m f : Nat} {M0 M : xj_M} {T : xT_} (hS : xHS f)   (h : xCX m M0 M T) {x0 : Nat} {x2 : Int} {R : (Nat ⊕ Int) × xT_} (tx2 : xin x2) (e : c33_99  f x0 x2 T = some R) : xok (f33_99  f x0 x2 M) (fun r => r.1 = R.1 ∧ xCX m M0 r.2 R.2 ∧ ∀ v, R.1 = .inr v → xin v) := by
  unfold c33_99 at e
  unfold f33_99
  obtain ⟨p101, q102, e⟩ := xbnd e
  obtain ⟨M103, q104, h105⟩ := h.nw (by decide +kernel) (by decide +kernel) q102
  refine xok_eqb q104 ?_
  dsimp only
  obtain ⟨v106, q107, e⟩ := xbnd e
  refine xok_eqb (h105.gr (by decide) (by decide) q107) ?_
  obtain ⟨v108, q109, e⟩ := xbnd e
  refine xok_eqb (h105.gi (by decide) (by decide) q109).1 ?_
  obtain ⟨R110, e111, e⟩ := xbnd e
  refine xok_call (t383 hS h105 (h105.gi (by decide) (by decide) q109).2 e111) ?_
  rintro ⟨v_, M112⟩ ⟨hv_, h113⟩
  cases hv_
  obtain ⟨v115, q116, e⟩ := xbnd e
  refine xok_eqb (h113.gr (by decide) (by decide) q116) ?_
  obtain ⟨v117, q118, e⟩ := xbnd e
  refine xok_eqb (h113.gi (by decide) (by decide) q118).1 ?_
  obtain ⟨R119, e120, e⟩ := xbnd e
  refine xok_call (t384 hS h113 (h113.gi (by decide) (by decide) q118).2 e120) ?_
  rintro ⟨v_, M121⟩ ⟨hv_, h122⟩
  cases hv_
  obtain ⟨R124, e125, e⟩ := xbnd e
  refine xok_call (t0 hS h122  e125) ?_
  intro M126 h127
  obtain ⟨T130, q129, e⟩ := xbnd e
  obtain ⟨M131, q132, h133⟩ := h127.pr (by decide) (by decide)  q129
  refine xok_eqb q132 ?_
  exact t33_132  hS  h133 tx2 e
theorem t33_32 {m f : Nat} {M0 M : xj_M} {T : xT_} (hS : xHS f)   (h : xCX m M0 M T) {x0 : Nat} {R : (Nat ⊕ Int) × xT_}  (e : c33_32  f x0 T = some R) : xok (f33_32  f x0 M) (fun r => r.1 = R.1 ∧ xCX m M0 r.2 R.2 ∧ ∀ v, R.1 = .inr v → xin v) := by
  unfold c33_32 at e
  unfold f33_32
  obtain ⟨_, q139, e⟩ := xbnd e
  obtain ⟨R134, e135, e⟩ := xbnd e
  refine xok_eqb (h.is q139) ?_
  refine xok_call (t52 hS h  e135) ?_
  rintro ⟨v_, M136⟩ ⟨hv_, h137, hi138⟩
  cases hv_
  dsimp only
  cases g141 : R134.1 with
  | inl k_ =>
    rw [cth_l g141] at e; cases e
    rw [xth_l (by exact g141)]
    exact ⟨_, rfl, rfl, h137, fun v hv => by cases hv⟩
  | inr v140 =>
    rw [cth_r g141] at e
    rw [xth_r (by exact g141)]
    obtain ⟨_, q147, e⟩ := xbnd e
    obtain ⟨R142, e143, e⟩ := xbnd e
    refine xok_eqb (h137.is q147) ?_
    refine xok_call (t38 hS h137 (show xin (61) by decide) e143) ?_
    rintro ⟨v_, M144⟩ ⟨hv_, h145⟩
    cases hv_
    dsimp only
    cases g149 : R142.1 with
    | inl k_ =>
      rw [cth_l g149] at e; cases e
      rw [xth_l (by exact g149)]
      exact ⟨_, rfl, rfl, h145, fun v hv => by cases hv⟩
    | inr v148 =>
      rw [cth_r g149] at e
      rw [xth_r (by exact g149)]
      obtain ⟨T151, q150, e⟩ := xbnd e
      obtain ⟨M152, q153, h154⟩ := h145.pr (by decide) (by decide)  q150
      refine xok_eqb q153 ?_
      obtain ⟨v155, q156, e⟩ := xbnd e
      refine xok_eqb (h154.gr (by decide) (by decide) q156) ?_
      obtain ⟨v157, q158, e⟩ := xbnd e
      refine xok_eqb (h154.gr (by decide) (by decide) q158) ?_
      obtain ⟨v159, q160, e⟩ := xbnd e
      refine xok_eqb (h154.gi (by decide) (by decide) q160).1 ?_
      obtain ⟨v161, q162, e⟩ := xbnd e
      refine xok_eqb (h154.ai (by decide) q162).1 ?_
      refine xok_ite (fun c163 => ?_) (fun c163 => ?_)
      · rw [if_pos c163] at e
        exact t33_132  hS  h154 (hi138 _ g141) e
      · rw [if_neg c163] at e
        obtain ⟨_, q169, e⟩ := xbnd e
        obtain ⟨R164, e165, e⟩ := xbnd e
        refine xok_eqb (h154.is q169) ?_
        refine xok_call (t53 hS h154 (show xin (1) by decide) e165) ?_
        rintro ⟨v_, M166⟩ ⟨hv_, h167⟩
        cases hv_
        dsimp only
        cases g171 : R164.1 with
        | inl k_ =>
          rw [cth_l g171] at e; cases e
          rw [xth_l (by exact g171)]
          exact ⟨_, rfl, rfl, h167, fun v hv => by cases hv⟩
        | inr v170 =>
          rw [cth_r g171] at e
          rw [xth_r (by exact g171)]
          obtain ⟨v172, q173, e⟩ := xbnd e
          refine xok_eqb (h167.gr (by decide) (by decide) q173) ?_
          obtain ⟨v174, q175, e⟩ := xbnd e
          refine xok_eqb (h167.gr (by decide) (by decide) q175) ?_
          obtain ⟨v176, q177, e⟩ := xbnd e
          refine xok_eqb (h167.gi (by decide) (by decide) q177).1 ?_
          obtain ⟨v178, q179, e⟩ := xbnd e
          refine xok_eqb (h167.ai (by decide) q179).1 ?_
          refine xok_ite (fun c180 => ?_) (fun c180 => ?_)
          · rw [if_pos c180] at e
            exact t33_99  hS  h167 (hi138 _ g141) e
          · rw [if_neg c180] at e
            obtain ⟨v181, q182, e⟩ := xbnd e
            refine xok_eqb (h167.gr (by decide) (by decide) q182) ?_
            obtain ⟨v183, q184, e⟩ := xbnd e
            refine xok_eqb (h167.gr (by decide) (by decide) q184) ?_
            obtain ⟨v185, q186, e⟩ := xbnd e
            refine xok_eqb (h167.gi (by decide) (by decide) q186).1 ?_
            obtain ⟨v187, q188, e⟩ := xbnd e
            refine xok_eqb (h167.ai (by decide) q188).1 ?_
            obtain ⟨_, q194, e⟩ := xbnd e
            obtain ⟨R189, e190, e⟩ := xbnd e
            refine xok_eqb (h167.is q194) ?_
            refine xok_call (t36 hS h167 (h167.ai (by decide) q188).2 e190) ?_
            rintro ⟨v_, M191⟩ ⟨hv_, h192⟩
            cases hv_
            dsimp only
            cases g196 : R189.1 with
            | inl k_ =>
              rw [cth_l g196] at e; cases e
              rw [xth_l (by exact g196)]
              exact ⟨_, rfl, rfl, h192, fun v hv => by cases hv⟩
            | inr v195 =>
              rw [cth_r g196] at e
              rw [xth_r (by exact g196)]
              exact t33_99  hS  h192 (hi138 _ g141) e
theorem t33 {m f : Nat} {M0 M : xj_M} {T : xT_} (hS : xHS f) (h : xCX m M0 M T) {a0 : Nat} {R : (Nat ⊕ Int) × xT_}  (e : c33 f a0 T = some R) : xok (f33 f a0 M) (fun r => r.1 = R.1 ∧ xCX m M0 r.2 R.2 ∧ ∀ v, R.1 = .inr v → xin v) := by
  unfold c33 at e
  unfold f33
  obtain ⟨_, q202, e⟩ := xbnd e
  obtain ⟨R197, e198, e⟩ := xbnd e
  refine xok_eqb (h.is q202) ?_
  refine xok_call (t34 hS h (show xin (0) by decide) e198) ?_
  intro M199 h200
  obtain ⟨v203, q204, e⟩ := xbnd e
  refine xok_eqb (h200.gr (by decide) (by decide) q204) ?_
  obtain ⟨v205, q206, e⟩ := xbnd e
  refine xok_eqb (h200.gi (by decide) (by decide) q206).1 ?_
  refine xok_ite (fun c207 => ?_) (fun c207 => ?_)
  · rw [if_pos c207] at e
    exact t33_32  hS  h200  e
  · rw [if_neg c207] at e
    obtain ⟨v208, q209, e⟩ := xbnd e
    refine xok_eqb (h200.gr (by decide) (by decide) q209) ?_
    obtain ⟨v210, q211, e⟩ := xbnd e
    refine xok_eqb (h200.gr (by decide) (by decide) q211) ?_
    obtain ⟨T213, q212, e⟩ := xbnd e
    obtain ⟨M214, q215, h216⟩ := h200.si (show xin (5) by decide) q212
    refine xok_eqb q215 ?_
    exact t33_32  hS  h216  e
-- ChangeHouse$Reader.readItem
theorem t44_25 {m f : Nat} {M0 M : xj_M} {T : xT_} (hS : xHS f)   (h : xCX m M0 M T) {x0 : Nat} {R : (Nat ⊕ Unit) × xT_}  (e : c44_25  f x0 T = some R) : xok (f44_25  f x0 M) (fun r => r.1 = R.1 ∧ xCX m M0 r.2 R.2) := by
  unfold c44_25 at e
  unfold f44_25
  obtain ⟨v101, q102, e⟩ := xbnd e
  refine xok_eqb (h.gr (by decide) (by decide) q102) ?_
  obtain ⟨v103, q104, e⟩ := xbnd e
  refine xok_eqb (h.gr (by decide) (by decide) q104) ?_
  obtain ⟨v105, q106, e⟩ := xbnd e
  refine xok_eqb (h.gr (by decide) (by decide) q106) ?_
  obtain ⟨v107, q108, e⟩ := xbnd e
  refine xok_eqb (h.gi (by decide) (by decide) q108).1 ?_
  obtain ⟨v109, q110, e⟩ := xbnd e
  refine xok_eqb (h.gi (by decide) (by decide) q110).1 ?_
  obtain ⟨T112, q111, e⟩ := xbnd e
  obtain ⟨M113, q114, h115⟩ := h.si (h.gi (by decide) (by decide) q110).2 q111
  refine xok_eqb q114 ?_
  obtain ⟨_, q121, e⟩ := xbnd e
  obtain ⟨R116, e117, e⟩ := xbnd e
  refine xok_eqb (h115.is q121) ?_
  refine xok_call (t53 hS h115 (show xin (0) by decide) e117) ?_
  rintro ⟨v_, M118⟩ ⟨hv_, h119⟩
  cases hv_
  dsimp only
  cases g123 : R116.1 with
  | inl k_ =>
    rw [cth_l g123] at e; cases e
    rw [xth_l (by exact g123)]
    exact ⟨_, rfl, rfl, h119⟩
  | inr v122 =>
    rw [cth_r g123] at e
    rw [xth_r (by exact g123)]
    obtain ⟨v124, q125, e⟩ := xbnd e
    refine xok_eqb (h119.gr (by decide) (by decide) q125) ?_
    obtain ⟨v126, q127, e⟩ := xbnd e
    refine xok_eqb (h119.gr (by decide) (by decide) q127) ?_
    obtain ⟨v128, q129, e⟩ := xbnd e
    refine xok_eqb (h119.gr (by decide) (by decide) q129) ?_
    obtain ⟨v130, q131, e⟩ := xbnd e
    refine xok_eqb (h119.gi (by decide) (by decide) q131).1 ?_
    obtain ⟨v132, q133, e⟩ := xbnd e
    refine xok_eqb (h119.gi (by decide) (by decide) q133).1 ?_
    obtain ⟨T135, q134, e⟩ := xbnd e
    obtain ⟨M136, q137, h138⟩ := h119.si (h119.gi (by decide) (by decide) q133).2 q134
    refine xok_eqb q137 ?_
    cases e
    exact ⟨_, rfl, rfl, h138⟩
theorem t44_145 {m f : Nat} {M0 M : xj_M} {T : xT_} (hS : xHS f)   (h : xCX m M0 M T) {x0 : Nat} {R : (Nat ⊕ Unit) × xT_}  (e : c44_145  f x0 T = some R) : xok (f44_145  f x0 M) (fun r => r.1 = R.1 ∧ xCX m M0 r.2 R.2) := by
  unfold c44_145 at e
  unfold f44_145
  obtain ⟨_, q144, e⟩ := xbnd e
  obtain ⟨R139, e140, e⟩ := xbnd e
  refine xok_eqb (h.is q144) ?_
  refine xok_call (t38 hS h (show xin (41) by decide) e140) ?_
  rintro ⟨v_, M141⟩ ⟨hv_, h142⟩
  cases hv_
  dsimp only
  cases g146 : R139.1 with
  | inl k_ =>
    rw [cth_l g146] at e; cases e
    rw [xth_l (by exact g146)]
    exact ⟨_, rfl, rfl, h142⟩
  | inr v145 =>
    rw [cth_r g146] at e
    rw [xth_r (by exact g146)]
    cases e
    exact ⟨_, rfl, rfl, h142⟩
theorem t44_96 {m f : Nat} {M0 M : xj_M} {T : xT_} (hS : xHS f)   (h : xCX m M0 M T) {x0 : Nat} {x1 : Int} {R : (Nat ⊕ Unit) × xT_} (tx1 : xin x1) (e : c44_96  f x0 x1 T = some R) : xok (f44_96  f x0 x1 M) (fun r => r.1 = R.1 ∧ xCX m M0 r.2 R.2) := by
  unfold c44_96 at e
  unfold f44_96
  obtain ⟨v147, q148, e⟩ := xbnd e
  refine xok_eqb (h.gr (by decide) (by decide) q148) ?_
  obtain ⟨v149, q150, e⟩ := xbnd e
  refine xok_eqb (h.gr (by decide) (by decide) q150) ?_
  obtain ⟨v151, q152, e⟩ := xbnd e
  refine xok_eqb (h.gi (by decide) (by decide) q152).1 ?_
  obtain ⟨T154, q153, e⟩ := xbnd e
  obtain ⟨M155, q156, h157⟩ := h.pi (by decide) (by decide) (h.gi (by decide) (by decide) q152).2 q153
  refine xok_eqb q156 ?_
  obtain ⟨v158, q159, e⟩ := xbnd e
  refine xok_eqb (h157.gr (by decide) (by decide) q159) ?_
  obtain ⟨T161, q160, e⟩ := xbnd e
  obtain ⟨M162, q163, h164⟩ := h157.pi (by decide) (by decide) tx1 q160
  refine xok_eqb q163 ?_
  obtain ⟨_, q170, e⟩ := xbnd e
  obtain ⟨R165, e166, e⟩ := xbnd e
  refine xok_eqb (h164.is q170) ?_
  refine xok_call (t37 hS h164  e166) ?_
  intro M167 h168
  obtain ⟨_, q176, e⟩ := xbnd e
  obtain ⟨R171, e172, e⟩ := xbnd e
  refine xok_eqb (h168.is q176) ?_
  refine xok_call (t38 hS h168 (show xin (40) by decide) e172) ?_
  rintro ⟨v_, M173⟩ ⟨hv_, h174⟩
  cases hv_
  dsimp only
  cases g178 : R171.1 with
  | inl k_ =>
    rw [cth_l g178] at e; cases e
    rw [xth_l (by exact g178)]
    exact ⟨_, rfl, rfl, h174⟩
  | inr v177 =>
    rw [cth_r g178] at e
    rw [xth_r (by exact g178)]
    refine xok_ite (fun c179 => ?_) (fun c179 => ?_)
    · rw [if_pos c179] at e
      exact t44_145  hS  h174  e
    · rw [if_neg c179] at e
      obtain ⟨v180, q181, e⟩ := xbnd e
      refine xok_eqb (h174.gr (by decide) (by decide) q181) ?_
      obtain ⟨_, q187, e⟩ := xbnd e
      obtain ⟨R182, e183, e⟩ := xbnd e
      refine xok_eqb (h174.is q187) ?_
      refine xok_call (t49 hS h174  e183) ?_
      rintro ⟨v_, M184⟩ ⟨hv_, h185, hi186⟩
      cases hv_
      dsimp only
      cases g189 : R182.1 with
      | inl k_ =>
        rw [cth_l g189] at e; cases e
        rw [xth_l (by exact g189)]
        exact ⟨_, rfl, rfl, h185⟩
      | inr v188 =>
        rw [cth_r g189] at e
        rw [xth_r (by exact g189)]
        obtain ⟨T191, q190, e⟩ := xbnd e
        obtain ⟨M192, q193, h194⟩ := h185.pi (by decide) (by decide) (hi186 _ g189) q190
        refine xok_eqb q193 ?_
        exact t44_145  hS  h194  e
theorem t44 {m f : Nat} {M0 M : xj_M} {T : xT_} (hS : xHS f) (h : xCX m M0 M T) {a0 : Nat} {R : (Nat ⊕ Unit) × xT_}  (e : c44 f a0 T = some R) : xok (f44 f a0 M) (fun r => r.1 = R.1 ∧ xCX m M0 r.2 R.2) := by
  unfold c44 at e
  unfold f44
  obtain ⟨v195, q196, e⟩ := xbnd e
  refine xok_eqb (h.gr (by decide) (by decide) q196) ?_
  obtain ⟨v197, q198, e⟩ := xbnd e
  refine xok_eqb (h.gr (by decide) (by decide) q198) ?_
  obtain ⟨v199, q200, e⟩ := xbnd e
  refine xok_eqb (h.gi (by decide) (by decide) q200).1 ?_
  obtain ⟨v201, q202, e⟩ := xbnd e
  refine xok_eqb (h.ai (by decide) q202).1 ?_
  refine xok_ite (fun c203 => ?_) (fun c203 => ?_)
  · rw [if_pos c203] at e
    exact t44_25  hS  h  e
  · rw [if_neg c203] at e
    refine xok_ite (fun c204 => ?_) (fun c204 => ?_)
    · rw [if_pos c204] at e
      obtain ⟨v205, q206, e⟩ := xbnd e
      refine xok_eqb (h.gr (by decide) (by decide) q206) ?_
      obtain ⟨v207, q208, e⟩ := xbnd e
      refine xok_eqb (h.gi (by decide) (by decide) q208).1 ?_
      refine xok_ite (fun c209 => ?_) (fun c209 => ?_)
      · rw [if_pos c209] at e
        exact t44_96  hS  h (h.ai (by decide) q202).2 e
      · rw [if_neg c209] at e
        obtain ⟨v210, q211, e⟩ := xbnd e
        refine xok_eqb (h.gr (by decide) (by decide) q211) ?_
        obtain ⟨v212, q213, e⟩ := xbnd e
        refine xok_eqb (h.gr (by decide) (by decide) q213) ?_
        obtain ⟨v214, q215, e⟩ := xbnd e
        refine xok_eqb (h.gi (by decide) (by decide) q215).1 ?_
        obtain ⟨v216, q217, e⟩ := xbnd e
        refine xok_eqb (h.ai (by decide) q217).1 ?_
        obtain ⟨_, q223, e⟩ := xbnd e
        obtain ⟨R218, e219, e⟩ := xbnd e
        refine xok_eqb (h.is q223) ?_
        refine xok_call (t36 hS h (h.ai (by decide) q217).2 e219) ?_
        rintro ⟨v_, M220⟩ ⟨hv_, h221⟩
        cases hv_
        dsimp only
        cases g225 : R218.1 with
        | inl k_ =>
          rw [cth_l g225] at e; cases e
          rw [xth_l (by exact g225)]
          exact ⟨_, rfl, rfl, h221⟩
        | inr v224 =>
          rw [cth_r g225] at e
          rw [xth_r (by exact g225)]
          exact t44_96  hS  h221 (h.ai (by decide) q202).2 e
    · rw [if_neg c204] at e
      exact t44_25  hS  h  e
-- ChangeHouse$Reader.readLiteral
theorem t45_133 {m f : Nat} {M0 M : xj_M} {T : xT_} (hS : xHS f)   (h : xCX m M0 M T) {x0 : Nat} {R : (Nat ⊕ Unit) × xT_}  (e : c45_133  f x0 T = some R) : xok (f45_133  f x0 M) (fun r => r.1 = R.1 ∧ xCX m M0 r.2 R.2) := by
  unfold c45_133 at e
  unfold f45_133
  obtain ⟨_, q106, e⟩ := xbnd e
  obtain ⟨R101, e102, e⟩ := xbnd e
  refine xok_eqb (h.is q106) ?_
  refine xok_call (t46 hS h (show xin (15) by decide) e102) ?_
  rintro ⟨v_, M103⟩ ⟨hv_, h104⟩
  cases hv_
  dsimp only
  cases g108 : R101.1 with
  | inl k_ =>
    rw [cth_l g108] at e; cases e
    rw [xth_l (by exact g108)]
    exact ⟨_, rfl, rfl, h104⟩
  | inr v107 =>
    rw [cth_r g108] at e
    rw [xth_r (by exact g108)]
    cases e
    exact ⟨_, rfl, rfl, h104⟩
theorem t45_288 {m f : Nat} {M0 M : xj_M} {T : xT_} (hS : xHS f)   (h : xCX m M0 M T) {x0 : Nat} {x2 : Int} {x3 : Int} {R : (Nat ⊕ Unit) × xT_} (tx2 : xin x2) (tx3 : xin x3) (e : c45_288  f x0 x2 x3 T = some R) : xok (f45_288  f x0 x2 x3 M) (fun r => r.1 = R.1 ∧ xCX m M0 r.2 R.2) := by
  unfold c45_288 at e
  unfold f45_288
  obtain ⟨_, q114, e⟩ := xbnd e
  obtain ⟨R109, e110, e⟩ := xbnd e
  refine xok_eqb (h.is q114) ?_
  refine xok_call (t37 hS h  e110) ?_
  intro M111 h112
  obtain ⟨v115, q116, e⟩ := xbnd e
  refine xok_eqb (h112.gr (by decide) (by decide) q116) ?_
  obtain ⟨v117, q118, e⟩ := xbnd e
  refine xok_eqb (h112.gr (by decide) (by decide) q118) ?_
  obtain ⟨v119, q120, e⟩ := xbnd e
  refine xok_eqb (h112.gi (by decide) (by decide) q120).1 ?_
  obtain ⟨T122, q121, e⟩ := xbnd e
  obtain ⟨M123, q124, h125⟩ := h112.si (h112.gi (by decide) (by decide) q120).2 q121
  refine xok_eqb q124 ?_
  obtain ⟨_, q131, e⟩ := xbnd e
  obtain ⟨R126, e127, e⟩ := xbnd e
  refine xok_eqb (h125.is q131) ?_
  refine xok_call (t53 hS h125 (show xin (0) by decide) e127) ?_
  rintro ⟨v_, M128⟩ ⟨hv_, h129⟩
  cases hv_
  dsimp only
  cases g133 : R126.1 with
  | inl k_ =>
    rw [cth_l g133] at e; cases e
    rw [xth_l (by exact g133)]
    exact ⟨_, rfl, rfl, h129⟩
  | inr v132 =>
    rw [cth_r g133] at e
    rw [xth_r (by exact g133)]
    obtain ⟨v134, q135, e⟩ := xbnd e
    refine xok_eqb (h129.gr (by decide) (by decide) q135) ?_
    obtain ⟨v136, q137, e⟩ := xbnd e
    refine xok_eqb (h129.gr (by decide) (by decide) q137) ?_
    obtain ⟨v138, q139, e⟩ := xbnd e
    refine xok_eqb (h129.gi (by decide) (by decide) q139).1 ?_
    obtain ⟨T141, q140, e⟩ := xbnd e
    obtain ⟨M142, q143, h144⟩ := h129.si (h129.gi (by decide) (by decide) q139).2 q140
    refine xok_eqb q143 ?_
    obtain ⟨v145, q146, e⟩ := xbnd e
    refine xok_eqb (h144.gr (by decide) (by decide) q146) ?_
    obtain ⟨v147, q148, e⟩ := xbnd e
    refine xok_eqb (h144.gr (by decide) (by decide) q148) ?_
    obtain ⟨v149, q150, e⟩ := xbnd e
    refine xok_eqb (h144.gr (by decide) (by decide) q150) ?_
    obtain ⟨v151, q152, e⟩ := xbnd e
    refine xok_eqb (h144.gi (by decide) (by decide) q152).1 ?_
    obtain ⟨T154, q153, e⟩ := xbnd e
    obtain ⟨M155, q156, h157⟩ := h144.si tx3 q153
    refine xok_eqb q156 ?_
    obtain ⟨v158, q159, e⟩ := xbnd e
    refine xok_eqb (h157.gr (by decide) (by decide) q159) ?_
    obtain ⟨v160, q161, e⟩ := xbnd e
    refine xok_eqb (h157.gi (by decide) (by decide) q161).1 ?_
    obtain ⟨T163, q162, e⟩ := xbnd e
    obtain ⟨M164, q165, h166⟩ := h157.pi (by decide) (by decide) (xin_wr _) q162
    refine xok_eqb q165 ?_
    cases e
    exact ⟨_, rfl, rfl, h166⟩
theorem t45_177 {m f : Nat} {M0 M : xj_M} {T : xT_} (hS : xHS f)   (h : xCX m M0 M T) {x0 : Nat} {R : (Nat ⊕ Unit) × xT_}  (e : c45_177  f x0 T = some R) : xok (f45_177  f x0 M) (fun r => r.1 = R.1 ∧ xCX m M0 r.2 R.2) := by
  unfold c45_177 at e
  unfold f45_177
  obtain ⟨v167, q168, e⟩ := xbnd e
  refine xok_eqb (h.gr (by decide) (by decide) q168) ?_
  obtain ⟨v169, q170, e⟩ := xbnd e
  refine xok_eqb (h.gi (by decide) (by decide) q170).1 ?_
  obtain ⟨v171, q172, e⟩ := xbnd e
  refine xok_eqb (h.gr (by decide) (by decide) q172) ?_
  obtain ⟨v173, q174, e⟩ := xbnd e
  refine xok_eqb (h.gr (by decide) (by decide) q174) ?_
  obtain ⟨v175, q176, e⟩ := xbnd e
  refine xok_eqb (h.gi (by decide) (by decide) q176).1 ?_
  obtain ⟨T178, q177, e⟩ := xbnd e
  obtain ⟨M179, q180, h181⟩ := h.si (h.gi (by decide) (by decide) q176).2 q177
  refine xok_eqb q180 ?_
  obtain ⟨_, q187, e⟩ := xbnd e
  obtain ⟨R182, e183, e⟩ := xbnd e
  refine xok_eqb (h181.is q187) ?_
  refine xok_call (t53 hS h181 (show xin (0) by decide) e183) ?_
  rintro ⟨v_, M184⟩ ⟨hv_, h185⟩
  cases hv_
  dsimp only
  cases g189 : R182.1 with
  | inl k_ =>
    rw [cth_l g189] at e; cases e
    rw [xth_l (by exact g189)]
    exact ⟨_, rfl, rfl, h185⟩
  | inr v188 =>
    rw [cth_r g189] at e
    rw [xth_r (by exact g189)]
    obtain ⟨v190, q191, e⟩ := xbnd e
    refine xok_eqb (h185.gr (by decide) (by decide) q191) ?_
    obtain ⟨v192, q193, e⟩ := xbnd e
    refine xok_eqb (h185.gr (by decide) (by decide) q193) ?_
    obtain ⟨v194, q195, e⟩ := xbnd e
    refine xok_eqb (h185.gi (by decide) (by decide) q195).1 ?_
    obtain ⟨T197, q196, e⟩ := xbnd e
    obtain ⟨M198, q199, h200⟩ := h185.si (h185.gi (by decide) (by decide) q195).2 q196
    refine xok_eqb q199 ?_
    obtain ⟨v201, q202, e⟩ := xbnd e
    refine xok_eqb (h200.gr (by decide) (by decide) q202) ?_
    obtain ⟨v203, q204, e⟩ := xbnd e
    refine xok_eqb (h200.gr (by decide) (by decide) q204) ?_
    obtain ⟨v205, q206, e⟩ := xbnd e
    refine xok_eqb (h200.gi (by decide) (by decide) q206).1 ?_
    obtain ⟨v207, q208, e⟩ := xbnd e
    refine xok_eqb (h200.ai (by decide) q208).1 ?_
    refine xok_ite (fun c209 => ?_) (fun c209 => ?_)
    · rw [if_pos c209] at e
      exact t45_288  hS  h200 (xin_wr _) (h200.ai (by decide) q208).2 e
    · rw [if_neg c209] at e
      refine xok_ite (fun c210 => ?_) (fun c210 => ?_)
      · rw [if_pos c210] at e
        exact t45_288  hS  h200 (xin_wr _) (h200.ai (by decide) q208).2 e
      · rw [if_neg c210] at e
        refine xok_ite (fun c211 => ?_) (fun c211 => ?_)
        · rw [if_pos c211] at e
          exact t45_288  hS  h200 (xin_wr _) (h200.ai (by decide) q208).2 e
        · rw [if_neg c211] at e
          refine xok_ite (fun c212 => ?_) (fun c212 => ?_)
          · rw [if_pos c212] at e
            exact t45_288  hS  h200 (xin_wr _) (h200.ai (by decide) q208).2 e
          · rw [if_neg c212] at e
            refine xok_ite (fun c213 => ?_) (fun c213 => ?_)
            · rw [if_pos c213] at e
              exact t45_288  hS  h200 (xin_wr _) (h200.ai (by decide) q208).2 e
            · rw [if_neg c213] at e
              refine xok_ite (fun c214 => ?_) (fun c214 => ?_)
              · rw [if_pos c214] at e
                exact t45_288  hS  h200 (xin_wr _) (h200.ai (by decide) q208).2 e
              · rw [if_neg c214] at e
                obtain ⟨v215, q216, e⟩ := xbnd e
                refine xok_eqb (h200.gr (by decide) (by decide) q216) ?_
                obtain ⟨v217, q218, e⟩ := xbnd e
                refine xok_eqb (h200.gr (by decide) (by decide) q218) ?_
                obtain ⟨v219, q220, e⟩ := xbnd e
                refine xok_eqb (h200.gi (by decide) (by decide) q220).1 ?_
                obtain ⟨v221, q222, e⟩ := xbnd e
                refine xok_eqb (h200.ai (by decide) q222).1 ?_
                obtain ⟨_, q228, e⟩ := xbnd e
                obtain ⟨R223, e224, e⟩ := xbnd e
                refine xok_eqb (h200.is q228) ?_
                refine xok_call (t36 hS h200 (h200.ai (by decide) q222).2 e224) ?_
                rintro ⟨v_, M225⟩ ⟨hv_, h226⟩
                cases hv_
                dsimp only
                cases g230 : R223.1 with
                | inl k_ =>
                  rw [cth_l g230] at e; cases e
                  rw [xth_l (by exact g230)]
                  exact ⟨_, rfl, rfl, h226⟩
                | inr v229 =>
                  rw [cth_r g230] at e
                  rw [xth_r (by exact g230)]
                  exact t45_288  hS  h226 (xin_wr _) (h200.ai (by decide) q208).2 e
theorem t45_98 {m f : Nat} {M0 M : xj_M} {T : xT_} (hS : xHS f)   (h : xCX m M0 M T) {x0 : Nat} {x1 : Int} {R : (Nat ⊕ Unit) × xT_} (tx1 : xin x1) (e : c45_98  f x0 x1 T = some R) : xok (f45_98  f x0 x1 M) (fun r => r.1 = R.1 ∧ xCX m M0 r.2 R.2) := by
  unfold c45_98 at e
  unfold f45_98
  obtain ⟨v231, q232, e⟩ := xbnd e
  refine xok_eqb (h.gr (by decide) (by decide) q232) ?_
  obtain ⟨v233, q234, e⟩ := xbnd e
  refine xok_eqb (h.gr (by decide) (by decide) q234) ?_
  obtain ⟨v235, q236, e⟩ := xbnd e
  refine xok_eqb (h.gi (by decide) (by decide) q236).1 ?_
  obtain ⟨v237, q238, e⟩ := xbnd e
  refine xok_eqb (h.ai (by decide) q238).1 ?_
  refine xok_ite (fun c239 => ?_) (fun c239 => ?_)
  · rw [if_pos c239] at e
    obtain ⟨v240, q241, e⟩ := xbnd e
    refine xok_eqb (h.gr (by decide) (by decide) q241) ?_
    obtain ⟨v242, q243, e⟩ := xbnd e
    refine xok_eqb (h.gr (by decide) (by decide) q243) ?_
    obtain ⟨v244, q245, e⟩ := xbnd e
    refine xok_eqb (h.gi (by decide) (by decide) q245).1 ?_
    obtain ⟨v246, q247, e⟩ := xbnd e
    refine xok_eqb (h.al q247).1 ?_
    refine xok_ite (fun c248 => ?_) (fun c248 => ?_)
    · rw [if_pos c248] at e
      exact t45_177  hS  h  e
    · rw [if_neg c248] at e
      obtain ⟨v249, q250, e⟩ := xbnd e
      refine xok_eqb (h.gr (by decide) (by decide) q250) ?_
      obtain ⟨v251, q252, e⟩ := xbnd e
      refine xok_eqb (h.gr (by decide) (by decide) q252) ?_
      obtain ⟨v253, q254, e⟩ := xbnd e
      refine xok_eqb (h.gi (by decide) (by decide) q254).1 ?_
      obtain ⟨v255, q256, e⟩ := xbnd e
      refine xok_eqb (h.ai (by decide) q256).1 ?_
      obtain ⟨_, q262, e⟩ := xbnd e
      obtain ⟨R257, e258, e⟩ := xbnd e
      refine xok_eqb (h.is q262) ?_
      refine xok_call (t36 hS h (h.ai (by decide) q256).2 e258) ?_
      rintro ⟨v_, M259⟩ ⟨hv_, h260⟩
      cases hv_
      dsimp only
      cases g264 : R257.1 with
      | inl k_ =>
        rw [cth_l g264] at e; cases e
        rw [xth_l (by exact g264)]
        exact ⟨_, rfl, rfl, h260⟩
      | inr v263 =>
        rw [cth_r g264] at e
        rw [xth_r (by exact g264)]
        exact t45_177  hS  h260  e
  · rw [if_neg c239] at e
    obtain ⟨v265, q266, e⟩ := xbnd e
    refine xok_eqb (h.gr (by decide) (by decide) q266) ?_
    obtain ⟨_, q272, e⟩ := xbnd e
    obtain ⟨R267, e268, e⟩ := xbnd e
    refine xok_eqb (h.is q272) ?_
    refine xok_call (t89 hS h  e268) ?_
    rintro ⟨v_, M269⟩ ⟨hv_, h270, hi271⟩
    cases hv_
    refine xok_ite (fun c273 => ?_) (fun c273 => ?_)
    · rw [if_pos c273] at e
      exact t45_133  hS  h270  e
    · rw [if_neg c273] at e
      obtain ⟨_, q279, e⟩ := xbnd e
      obtain ⟨R274, e275, e⟩ := xbnd e
      refine xok_eqb (h270.is q279) ?_
      refine xok_call (t36 hS h270 tx1 e275) ?_
      rintro ⟨v_, M276⟩ ⟨hv_, h277⟩
      cases hv_
      dsimp only
      cases g281 : R274.1 with
      | inl k_ =>
        rw [cth_l g281] at e; cases e
        rw [xth_l (by exact g281)]
        exact ⟨_, rfl, rfl, h277⟩
      | inr v280 =>
        rw [cth_r g281] at e
        rw [xth_r (by exact g281)]
        exact t45_133  hS  h277  e
theorem t45_30 {m f : Nat} {M0 M : xj_M} {T : xT_} (hS : xHS f)   (h : xCX m M0 M T) {x0 : Nat} {x1 : Int} {R : (Nat ⊕ Unit) × xT_} (tx1 : xin x1) (e : c45_30  f x0 x1 T = some R) : xok (f45_30  f x0 x1 M) (fun r => r.1 = R.1 ∧ xCX m M0 r.2 R.2) := by
  unfold c45_30 at e
  unfold f45_30
  obtain ⟨v282, q283, e⟩ := xbnd e
  refine xok_eqb (h.gr (by decide) (by decide) q283) ?_
  obtain ⟨v284, q285, e⟩ := xbnd e
  refine xok_eqb (h.gr (by decide) (by decide) q285) ?_
  obtain ⟨v286, q287, e⟩ := xbnd e
  refine xok_eqb (h.gi (by decide) (by decide) q287).1 ?_
  obtain ⟨v288, q289, e⟩ := xbnd e
  refine xok_eqb (h.ai (by decide) q289).1 ?_
  refine xok_ite (fun c290 => ?_) (fun c290 => ?_)
  · rw [if_pos c290] at e
    obtain ⟨v291, q292, e⟩ := xbnd e
    refine xok_eqb (h.gr (by decide) (by decide) q292) ?_
    obtain ⟨v293, q294, e⟩ := xbnd e
    refine xok_eqb (h.gr (by decide) (by decide) q294) ?_
    obtain ⟨v295, q296, e⟩ := xbnd e
    refine xok_eqb (h.gi (by decide) (by decide) q296).1 ?_
    obtain ⟨v297, q298, e⟩ := xbnd e
    refine xok_eqb (h.ai (by decide) q298).1 ?_
    refine xok_ite (fun c299 => ?_) (fun c299 => ?_)
    · rw [if_pos c299] at e
      exact t45_177  hS  h  e
    · rw [if_neg c299] at e
      obtain ⟨v300, q301, e⟩ := xbnd e
      refine xok_eqb (h.gr (by decide) (by decide) q301) ?_
      obtain ⟨v302, q303, e⟩ := xbnd e
      refine xok_eqb (h.gi (by decide) (by decide) q303).1 ?_
      obtain ⟨_, q309, e⟩ := xbnd e
      obtain ⟨R304, e305, e⟩ := xbnd e
      refine xok_eqb (h.is q309) ?_
      refine xok_call (t124 hS h (h.gi (by decide) (by decide) q303).2 e305) ?_
      rintro ⟨v_, M306⟩ ⟨hv_, h307, hi308⟩
      cases hv_
      refine xok_ite (fun c310 => ?_) (fun c310 => ?_)
      · rw [if_pos c310] at e
        exact t45_98  hS  h307 tx1 e
      · rw [if_neg c310] at e
        obtain ⟨_, q316, e⟩ := xbnd e
        obtain ⟨R311, e312, e⟩ := xbnd e
        refine xok_eqb (h307.is q316) ?_
        refine xok_call (t36 hS h307 (xin_wr _) e312) ?_
        rintro ⟨v_, M313⟩ ⟨hv_, h314⟩
        cases hv_
        dsimp only
        cases g318 : R311.1 with
        | inl k_ =>
          rw [cth_l g318] at e; cases e
          rw [xth_l (by exact g318)]
          exact ⟨_, rfl, rfl, h314⟩
        | inr v317 =>
          rw [cth_r g318] at e
          rw [xth_r (by exact g318)]
          exact t45_98  hS  h314 tx1 e
  · rw [if_neg c290] at e
    obtain ⟨_, q324, e⟩ := xbnd e
    obtain ⟨R319, e320, e⟩ := xbnd e
    refine xok_eqb (h.is q324) ?_
    refine xok_call (t37 hS h  e320) ?_
    intro M321 h322
    obtain ⟨_, q330, e⟩ := xbnd e
    obtain ⟨R325, e326, e⟩ := xbnd e
    refine xok_eqb (h322.is q330) ?_
    refine xok_call (t46 hS h322 (show xin (9) by decide) e326) ?_
    rintro ⟨v_, M327⟩ ⟨hv_, h328⟩
    cases hv_
    dsimp only
    cases g332 : R325.1 with
    | inl k_ =>
      rw [cth_l g332] at e; cases e
      rw [xth_l (by exact g332)]
      exact ⟨_, rfl, rfl, h328⟩
    | inr v331 =>
      rw [cth_r g332] at e
      rw [xth_r (by exact g332)]
      cases e
      exact ⟨_, rfl, rfl, h328⟩
theorem t45 {m f : Nat} {M0 M : xj_M} {T : xT_} (hS : xHS f) (h : xCX m M0 M T) {a0 : Nat} {R : (Nat ⊕ Unit) × xT_}  (e : c45 f a0 T = some R) : xok (f45 f a0 M) (fun r => r.1 = R.1 ∧ xCX m M0 r.2 R.2) := by
  unfold c45 at e
  unfold f45
  obtain ⟨v333, q334, e⟩ := xbnd e
  refine xok_eqb (h.gr (by decide) (by decide) q334) ?_
  obtain ⟨v335, q336, e⟩ := xbnd e
  refine xok_eqb (h.gr (by decide) (by decide) q336) ?_
  obtain ⟨v337, q338, e⟩ := xbnd e
  refine xok_eqb (h.gi (by decide) (by decide) q338).1 ?_
  obtain ⟨v339, q340, e⟩ := xbnd e
  refine xok_eqb (h.ai (by decide) q340).1 ?_
  obtain ⟨v341, q342, e⟩ := xbnd e
  refine xok_eqb (h.gr (by decide) (by decide) q342) ?_
  obtain ⟨v343, q344, e⟩ := xbnd e
  refine xok_eqb (h.gi (by decide) (by decide) q344).1 ?_
  refine xok_ite (fun c345 => ?_) (fun c345 => ?_)
  · rw [if_pos c345] at e
    exact t45_30  hS  h (h.ai (by decide) q340).2 e
  · rw [if_neg c345] at e
    obtain ⟨_, q351, e⟩ := xbnd e
    obtain ⟨R346, e347, e⟩ := xbnd e
    refine xok_eqb (h.is q351) ?_
    refine xok_call (t36 hS h (h.ai (by decide) q340).2 e347) ?_
    rintro ⟨v_, M348⟩ ⟨hv_, h349⟩
    cases hv_
    dsimp only
    cases g353 : R346.1 with
    | inl k_ =>
      rw [cth_l g353] at e; cases e
      rw [xth_l (by exact g353)]
      exact ⟨_, rfl, rfl, h349⟩
    | inr v352 =>
      rw [cth_r g353] at e
      rw [xth_r (by exact g353)]
      exact t45_30  hS  h349 (h.ai (by decide) q340).2 e
-- ChangeHouse$Sheet.worth
theorem t105_229 {m f : Nat} {M0 M : xj_M} {T : xT_} (hS : xHS f) {r4 : Nat → Nat → Int → Int → xT_ → Option (Int × xT_)} {o4 : Nat → Nat → Int → Int → xj_M → Option (Int × xj_M)} (hr4 : ∀ {M : xj_M} {T : xT_} {x0 : Nat} {x1 : Nat} {x2 : Int} {x3 : Int} {R : Int × xT_}, xCX m M0 M T → xin x2 → xin x3 → r4 x0 x1 x2 x3 T = some R → xok (o4 x0 x1 x2 x3 M) (fun r => r.1 = R.1 ∧ xCX m M0 r.2 R.2 ∧ xiN R.1)) (h : xCX m M0 M T) {x0 : Nat} {x1 : Nat} {x2 : Int} {x3 : Int} {x5 : Int} {R : Int × xT_} (tx2 : xin x2) (tx3 : xin x3) (tx5 : xin x5) (e : c105_229 r4 f x0 x1 x2 x3 x5 T = some R) : xok (f105_229 o4 f x0 x1 x2 x3 x5 M) (fun r => r.1 = R.1 ∧ xCX m M0 r.2 R.2 ∧ xiN R.1) := by
  unfold c105_229 at e
  unfold f105_229
  exact hr4 h tx2 (xin_wr _) e
theorem t105_136 {m f : Nat} {M0 M : xj_M} {T : xT_} (hS : xHS f) {r4 : Nat → Nat → Int → Int → xT_ → Option (Int × xT_)} {o4 : Nat → Nat → Int → Int → xj_M → Option (Int × xj_M)} (hr4 : ∀ {M : xj_M} {T : xT_} {x0 : Nat} {x1 : Nat} {x2 : Int} {x3 : Int} {R : Int × xT_}, xCX m M0 M T → xin x2 → xin x3 → r4 x0 x1 x2 x3 T = some R → xok (o4 x0 x1 x2 x3 M) (fun r => r.1 = R.1 ∧ xCX m M0 r.2 R.2 ∧ xiN R.1)) (h : xCX m M0 M T) {x0 : Nat} {x1 : Nat} {x2 : Int} {x3 : Int} {y0 : Int} {R : Int × xT_} (tx2 : xin x2) (tx3 : xin x3) (ty0 : xin y0) (e : c105_136 r4 f x0 x1 x2 x3 y0 T = some R) : xok (f105_136 o4 f x0 x1 x2 x3 y0 M) (fun r => r.1 = R.1 ∧ xCX m M0 r.2 R.2 ∧ xiN R.1) := by
  unfold c105_136 at e
  unfold f105_136
  exact t105_229 (r4 := r4) (o4 := o4) hS @hr4 h tx2 tx3 ty0 e
theorem t105_97 {m f : Nat} {M0 M : xj_M} {T : xT_} (hS : xHS f) {r4 : Nat → Nat → Int → Int → xT_ → Option (Int × xT_)} {o4 : Nat → Nat → Int → Int → xj_M → Option (Int × xj_M)} (hr4 : ∀ {M : xj_M} {T : xT_} {x0 : Nat} {x1 : Nat} {x2 : Int} {x3 : Int} {R : Int × xT_}, xCX m M0 M T → xin x2 → xin x3 → r4 x0 x1 x2 x3 T = some R → xok (o4 x0 x1 x2 x3 M) (fun r => r.1 = R.1 ∧ xCX m M0 r.2 R.2 ∧ xiN R.1)) (h : xCX m M0 M T) {x0 : Nat} {x1 : Nat} {x3 : Int} {x6 : Int} {x8 : Int} {y0 : Int} {y1 : Int} {R : Int × xT_} (tx3 : xin x3) (tx6 : xiN x6) (tx8 : xin x8) (ty0 : xin y0) (ty1 : xin y1) (e : c105_97 r4 f x0 x1 x3 x6 x8 y0 y1 T = some R) : xok (f105_97 o4 f x0 x1 x3 x6 x8 y0 y1 M) (fun r => r.1 = R.1 ∧ xCX m M0 r.2 R.2 ∧ xiN R.1) := by
  unfold c105_97 at e
  unfold f105_97
  refine xok_ite (fun c101 => ?_) (fun c101 => ?_)
  · rw [if_pos c101] at e
    refine xok_ite (fun c102 => ?_) (fun c102 => ?_)
    · rw [if_pos c102] at e
      exact t105_136 (r4 := r4) (o4 := o4) hS @hr4 h (xin_wr _) tx3 tx3 e
    · rw [if_neg c102] at e
      obtain ⟨v103, q104, e⟩ := xbnd e
      refine xok_eqb (h.gr (by decide) (by decide) q104) ?_
      obtain ⟨v105, q106, e⟩ := xbnd e
      refine xok_eqb (h.al q106).1 ?_
      exact t105_136 (r4 := r4) (o4 := o4) hS @hr4 h (xin_wr _) tx3 (xin_wr _) e
  · rw [if_neg c101] at e
    obtain ⟨v107, q108, e⟩ := xbnd e
    refine xok_eqb (h.gr (by decide) (by decide) q108) ?_
    obtain ⟨v109, q110, e⟩ := xbnd e
    refine xok_eqb (h.al q110).1 ?_
    exact t105_136 (r4 := r4) (o4 := o4) hS @hr4 h (xin_wr _) tx3 (xin_wr _) e
theorem t105_84 {m f : Nat} {M0 M : xj_M} {T : xT_} (hS : xHS f) {r4 : Nat → Nat → Int → Int → xT_ → Option (Int × xT_)} {o4 : Nat → Nat → Int → Int → xj_M → Option (Int × xj_M)} (hr4 : ∀ {M : xj_M} {T : xT_} {x0 : Nat} {x1 : Nat} {x2 : Int} {x3 : Int} {R : Int × xT_}, xCX m M0 M T → xin x2 → xin x3 → r4 x0 x1 x2 x3 T = some R → xok (o4 x0 x1 x2 x3 M) (fun r => r.1 = R.1 ∧ xCX m M0 r.2 R.2 ∧ xiN R.1)) (h : xCX m M0 M T) {x0 : Nat} {x1 : Nat} {x2 : Int} {x3 : Int} {x6 : Int} {y0 : Int} {R : Int × xT_} (tx2 : xin x2) (tx3 : xin x3) (tx6 : xiN x6) (ty0 : xin y0) (e : c105_84 r4 f x0 x1 x2 x3 x6 y0 T = some R) : xok (f105_84 o4 f x0 x1 x2 x3 x6 y0 M) (fun r => r.1 = R.1 ∧ xCX m M0 r.2 R.2 ∧ xiN R.1) := by
  unfold c105_84 at e
  unfold f105_84
  refine xok_ite (fun c111 => ?_) (fun c111 => ?_)
  · rw [if_pos c111] at e
    exact t105_97 (r4 := r4) (o4 := o4) hS @hr4 h tx3 tx6 ty0 (show xin (1) by decide) tx2 e
  · rw [if_neg c111] at e
    exact t105_97 (r4 := r4) (o4 := o4) hS @hr4 h tx3 tx6 ty0 (show xin (0) by decide) tx2 e
theorem t105_187 {m f : Nat} {M0 M : xj_M} {T : xT_} (hS : xHS f) {r4 : Nat → Nat → Int → Int → xT_ → Option (Int × xT_)} {o4 : Nat → Nat → Int → Int → xj_M → Option (Int × xj_M)} (hr4 : ∀ {M : xj_M} {T : xT_} {x0 : Nat} {x1 : Nat} {x2 : Int} {x3 : Int} {R : Int × xT_}, xCX m M0 M T → xin x2 → xin x3 → r4 x0 x1 x2 x3 T = some R → xok (o4 x0 x1 x2 x3 M) (fun r => r.1 = R.1 ∧ xCX m M0 r.2 R.2 ∧ xiN R.1)) (h : xCX m M0 M T) {x0 : Nat} {x1 : Nat} {x2 : Int} {x3 : Int} {x4 : Int} {x5 : Int} {R : Int × xT_} (tx2 : xin x2) (tx3 : xin x3) (tx4 : xin x4) (tx5 : xin x5) (e : c105_187 r4 f x0 x1 x2 x3 x4 x5 T = some R) : xok (f105_187 o4 f x0 x1 x2 x3 x4 x5 M) (fun r => r.1 = R.1 ∧ xCX m M0 r.2 R.2 ∧ xiN R.1) := by
  unfold c105_187 at e
  unfold f105_187
  refine xok_ite (fun c112 => ?_) (fun c112 => ?_)
  · rw [if_pos c112] at e
    exact t105_229 (r4 := r4) (o4 := o4) hS @hr4 h tx2 tx3 tx5 e
  · rw [if_neg c112] at e
    refine xok_ite (fun c113 => ?_) (fun c113 => ?_)
    · rw [if_pos c113] at e
      exact t105_229 (r4 := r4) (o4 := o4) hS @hr4 h tx2 tx3 tx5 e
    · rw [if_neg c113] at e
      obtain ⟨v114, q115, e⟩ := xbnd e
      refine xok_eqb (h.gr (by decide) (by decide) q115) ?_
      obtain ⟨v116, q117, e⟩ := xbnd e
      refine xok_eqb (h.gr (by decide) (by decide) q117) ?_
      obtain ⟨v118, q119, e⟩ := xbnd e
      refine xok_eqb (h.al q119).1 ?_
      obtain ⟨v120, q121, e⟩ := xbnd e
      refine xok_eqb (h.gr (by decide) (by decide) q121) ?_
      obtain ⟨v122, q123, e⟩ := xbnd e
      refine xok_eqb (h.al q123).1 ?_
      obtain ⟨R124, e125, e⟩ := xbnd e
      refine xok_call (t192 hS h tx4 (h.al q119).2 (h.al q123).2 e125) ?_
      rintro ⟨v_, M126⟩ ⟨hv_, h127, hi128⟩
      cases hv_
      obtain ⟨T130, q129, e⟩ := xbnd e
      obtain ⟨M131, q132, h133⟩ := h127.sl hi128 q129
      refine xok_eqb q132 ?_
      exact t105_229 (r4 := r4) (o4 := o4) hS @hr4 h133 (xin_wr _) tx3 tx5 e
theorem t105_141 {m f : Nat} {M0 M : xj_M} {T : xT_} (hS : xHS f) {r4 : Nat → Nat → Int → Int → xT_ → Option (Int × xT_)} {o4 : Nat → Nat → Int → Int → xj_M → Option (Int × xj_M)} (hr4 : ∀ {M : xj_M} {T : xT_} {x0 : Nat} {x1 : Nat} {x2 : Int} {x3 : Int} {R : Int × xT_}, xCX m M0 M T → xin x2 → xin x3 → r4 x0 x1 x2 x3 T = some R → xok (o4 x0 x1 x2 x3 M) (fun r => r.1 = R.1 ∧ xCX m M0 r.2 R.2 ∧ xiN R.1)) (h : xCX m M0 M T) {x0 : Nat} {x1 : Nat} {x2 : Int} {x3 : Int} {x4 : Int} {x5 : Int} {R : Int × xT_} (tx2 : xin x2) (tx3 : xin x3) (tx4 : xin x4) (tx5 : xin x5) (e : c105_141 r4 f x0 x1 x2 x3 x4 x5 T = some R) : xok (f105_141 o4 f x0 x1 x2 x3 x4 x5 M) (fun r => r.1 = R.1 ∧ xCX m M0 r.2 R.2 ∧ xiN R.1) := by
  unfold c105_141 at e
  unfold f105_141
  refine xok_ite (fun c134 => ?_) (fun c134 => ?_)
  · rw [if_pos c134] at e
    exact t105_187 (r4 := r4) (o4 := o4) hS @hr4 h tx2 tx3 tx4 tx5 e
  · rw [if_neg c134] at e
    refine xok_ite (fun c135 => ?_) (fun c135 => ?_)
    · rw [if_pos c135] at e
      exact t105_187 (r4 := r4) (o4 := o4) hS @hr4 h tx2 tx3 tx4 tx5 e
    · rw [if_neg c135] at e
      obtain ⟨v136, q137, e⟩ := xbnd e
      refine xok_eqb (h.gr (by decide) (by decide) q137) ?_
      obtain ⟨v138, q139, e⟩ := xbnd e
      refine xok_eqb (h.gr (by decide) (by decide) q139) ?_
      obtain ⟨v140, q141, e⟩ := xbnd e
      refine xok_eqb (h.ai (by decide) q141).1 ?_
      obtain ⟨v142, q143, e⟩ := xbnd e
      refine xok_eqb (h.gr (by decide) (by decide) q143) ?_
      obtain ⟨v144, q145, e⟩ := xbnd e
      refine xok_eqb (h.al q145).1 ?_
      obtain ⟨_, q151, e⟩ := xbnd e
      obtain ⟨R146, e147, e⟩ := xbnd e
      refine xok_eqb (h.is q151) ?_
      refine xok_call (t106 hS h tx4 (xin_of _) (h.al q145).2 e147) ?_
      rintro ⟨v_, M148⟩ ⟨hv_, h149, hi150⟩
      cases hv_
      obtain ⟨T153, q152, e⟩ := xbnd e
      obtain ⟨M154, q155, h156⟩ := h149.sl hi150 q152
      refine xok_eqb q155 ?_
      exact t105_229 (r4 := r4) (o4 := o4) hS @hr4 h156 (xin_wr _) tx3 tx5 e
theorem t105_4b {m f : Nat} {M0 M : xj_M} {T : xT_} (hS : xHS f) {r4 : Nat → Nat → Int → Int → xT_ → Option (Int × xT_)} {o4 : Nat → Nat → Int → Int → xj_M → Option (Int × xj_M)} (hr4 : ∀ {M : xj_M} {T : xT_} {x0 : Nat} {x1 : Nat} {x2 : Int} {x3 : Int} {R : Int × xT_}, xCX m M0 M T → xin x2 → xin x3 → r4 x0 x1 x2 x3 T = some R → xok (o4 x0 x1 x2 x3 M) (fun r => r.1 = R.1 ∧ xCX m M0 r.2 R.2 ∧ xiN R.1)) (h : xCX m M0 M T) {x0 : Nat} {x1 : Nat} {x2 : Int} {x3 : Int} {R : Int × xT_} (tx2 : xin x2) (tx3 : xin x3) (e : c105_4b r4 f x0 x1 x2 x3 T = some R) : xok (f105_4b o4 f x0 x1 x2 x3 M) (fun r => r.1 = R.1 ∧ xCX m M0 r.2 R.2 ∧ xiN R.1) := by
  unfold c105_4b at e
  unfold f105_4b
  obtain ⟨v157, q158, e⟩ := xbnd e
  refine xok_eqb (h.gr (by decide) (by decide) q158) ?_
  obtain ⟨v159, q160, e⟩ := xbnd e
  refine xok_eqb (h.ln q160).1 ?_
  refine xok_ite (fun c161 => ?_) (fun c161 => ?_)
  · rw [if_pos c161] at e
    obtain ⟨v162, q163, e⟩ := xbnd e
    refine xok_eqb (h.gr (by decide) (by decide) q163) ?_
    obtain ⟨v164, q165, e⟩ := xbnd e
    refine xok_eqb (h.al q165).1 ?_
    cases e
    exact ⟨_, rfl, rfl, h, (h.al q165).2⟩
  · rw [if_neg c161] at e
    obtain ⟨v166, q167, e⟩ := xbnd e
    refine xok_eqb (h.gr (by decide) (by decide) q167) ?_
    obtain ⟨v168, q169, e⟩ := xbnd e
    refine xok_eqb (h.ai (by decide) q169).1 ?_
    refine xok_ite (fun c170 => ?_) (fun c170 => ?_)
    · rw [if_pos c170] at e
      refine xok_ite (fun c171 => ?_) (fun c171 => ?_)
      · rw [if_pos c171] at e
        exact t105_141 (r4 := r4) (o4 := o4) hS @hr4 h tx2 tx3 (xin_of _) tx3 e
      · rw [if_neg c171] at e
        refine xok_ite (fun c172 => ?_) (fun c172 => ?_)
        · rw [if_pos c172] at e
          exact t105_141 (r4 := r4) (o4 := o4) hS @hr4 h tx2 tx3 (xin_of _) tx3 e
        · rw [if_neg c172] at e
          obtain ⟨v173, q174, e⟩ := xbnd e
          refine xok_eqb (h.gr (by decide) (by decide) q174) ?_
          obtain ⟨v175, q176, e⟩ := xbnd e
          refine xok_eqb (h.al q176).1 ?_
          refine xok_ite (fun c177 => ?_) (fun c177 => ?_)
          · rw [if_pos c177] at e
            exact t105_84 (r4 := r4) (o4 := o4) hS @hr4 h tx2 tx3 (h.al q176).2 (show xin (0) by decide) e
          · rw [if_neg c177] at e
            exact t105_84 (r4 := r4) (o4 := o4) hS @hr4 h tx2 tx3 (h.al q176).2 (show xin (1) by decide) e
    · rw [if_neg c170] at e
      obtain ⟨v178, q179, e⟩ := xbnd e
      refine xok_eqb (h.gr (by decide) (by decide) q179) ?_
      obtain ⟨v180, q181, e⟩ := xbnd e
      refine xok_eqb (h.al q181).1 ?_
      exact t105_229 (r4 := r4) (o4 := o4) hS @hr4 h tx2 tx3 (xin_wr _) e
theorem t105_4 {m f : Nat} {M0 : xj_M} (hS : xHS f)   : ∀ {n : Nat} {M : xj_M} {T : xT_} {x0 : Nat} {x1 : Nat} {x2 : Int} {x3 : Int} {R : Int × xT_}, xCX m M0 M T → xin x2 → xin x3 → c105_4  f n x0 x1 x2 x3 T = some R → xok (f105_4  f n x0 x1 x2 x3 M) (fun r => r.1 = R.1 ∧ xCX m M0 r.2 R.2 ∧ xiN R.1) := by
  intro n
  induction n with
  | zero => intros; rename_i e; cases e
  | succ n ih =>
    intros
    rename_i h i0 i1 e
    exact t105_4b hS  @ih h i0 i1 e
theorem t105 {m f : Nat} {M0 M : xj_M} {T : xT_} (hS : xHS f) (h : xCX m M0 M T) {a0 : Nat} {a1 : Nat} {R : Int × xT_}  (e : c105 f a0 a1 T = some R) : xok (f105 f a0 a1 M) (fun r => r.1 = R.1 ∧ xCX m M0 r.2 R.2 ∧ xiN R.1) := by
  unfold c105 at e
  unfold f105
  exact t105_4  hS  h (show xin (0) by decide) (show xin (0) by decide) e
-- ChangeHouse$Tape.split
theorem t112_93 {m f : Nat} {M0 M : xj_M} {T : xT_} (hS : xHS f) {r13 : Nat → Int → Int → xT_ → Option (xT_)} {o13 : Nat → Int → Int → xj_M → Option (xj_M)} (hr13 : ∀ {M : xj_M} {T : xT_} {x0 : Nat} {x1 : Int} {x2 : Int} {R : xT_}, xCX m M0 M T → xin x1 → xin x2 → r13 x0 x1 x2 T = some R → xok (o13 x0 x1 x2 M) (fun r => xCX m M0 r R)) (h : xCX m M0 M T) {x0 : Nat} {x2 : Int} {x4 : Int} {R : xT_} (tx2 : xin x2) (tx4 : xin x4) (e : c112_93 r13 f x0 x2 x4 T = some R) : xok (f112_93 o13 f x0 x2 x4 M) (fun r => xCX m M0 r R) := by
  unfold c112_93 at e
  unfold f112_93
  obtain ⟨_, q106, e⟩ := xbnd e
  obtain ⟨R101, e102, e⟩ := xbnd e
  refine xok_eqb (h.is q106) ?_
  refine xok_call (t113 hS h tx4 e102) ?_
  rintro ⟨v_, M103⟩ ⟨hv_, h104, hi105⟩
  cases hv_
  exact hr13 h104 hi105 (xin_wr _) e
theorem t112_106 {m f : Nat} {M0 M : xj_M} {T : xT_} (hS : xHS f)   (h : xCX m M0 M T) {x0 : Nat} {R : xT_}  (e : c112_106  f x0 T = some R) : xok (f112_106  f x0 M) (fun r => xCX m M0 r R) := by
  unfold c112_106 at e
  unfold f112_106
  obtain ⟨v107, q108, e⟩ := xbnd e
  refine xok_eqb (h.gi (by decide) (by decide) q108).1 ?_
  obtain ⟨v109, q110, e⟩ := xbnd e
  refine xok_eqb (h.gi (by decide) (by decide) q110).1 ?_
  obtain ⟨_, q116, e⟩ := xbnd e
  obtain ⟨R111, e112, e⟩ := xbnd e
  refine xok_eqb (h.is q116) ?_
  refine xok_call (t120 hS h (show xin (0) by decide) (h.gi (by decide) (by decide) q108).2 (h.gi (by decide) (by decide) q110).2 (show xiN (0) by decide) e112) ?_
  intro M113 h114
  cases e
  exact ⟨_, rfl, h114⟩
theorem t112_13b {m f : Nat} {M0 M : xj_M} {T : xT_} (hS : xHS f) {r13 : Nat → Int → Int → xT_ → Option (xT_)} {o13 : Nat → Int → Int → xj_M → Option (xj_M)} (hr13 : ∀ {M : xj_M} {T : xT_} {x0 : Nat} {x1 : Int} {x2 : Int} {R : xT_}, xCX m M0 M T → xin x1 → xin x2 → r13 x0 x1 x2 T = some R → xok (o13 x0 x1 x2 M) (fun r => xCX m M0 r R)) (h : xCX m M0 M T) {x0 : Nat} {x1 : Int} {x2 : Int} {R : xT_} (tx1 : xin x1) (tx2 : xin x2) (e : c112_13b r13 f x0 x1 x2 T = some R) : xok (f112_13b o13 f x0 x1 x2 M) (fun r => xCX m M0 r R) := by
  unfold c112_13b at e
  unfold f112_13b
  refine xok_ite (fun c117 => ?_) (fun c117 => ?_)
  · rw [if_pos c117] at e
    exact t112_106  hS  h  e
  · rw [if_neg c117] at e
    obtain ⟨v118, q119, e⟩ := xbnd e
    refine xok_eqb (h.gi (by decide) (by decide) q119).1 ?_
    refine xok_ite (fun c120 => ?_) (fun c120 => ?_)
    · rw [if_pos c120] at e
      exact t112_106  hS  h  e
    · rw [if_neg c120] at e
      obtain ⟨v121, q122, e⟩ := xbnd e
      refine xok_eqb (h.gr (by decide) (by decide) q122) ?_
      obtain ⟨v123, q124, e⟩ := xbnd e
      refine xok_eqb (h.ai (by decide) q124).1 ?_
      obtain ⟨R125, e126, e⟩ := xbnd e
      refine xok_call (t121 hS h (h.ai (by decide) q124).2 e126) ?_
      rintro ⟨v_, M127⟩ ⟨hv_, h128, hi129⟩
      cases hv_
      refine xok_ite (fun c130 => ?_) (fun c130 => ?_)
      · rw [if_pos c130] at e
        obtain ⟨R131, e132, e⟩ := xbnd e
        refine xok_call (t122 hS h128 (h.ai (by decide) q124).2 e132) ?_
        rintro ⟨v_, M133⟩ ⟨hv_, h134, hi135⟩
        cases hv_
        refine xok_ite (fun c136 => ?_) (fun c136 => ?_)
        · rw [if_pos c136] at e
          obtain ⟨R137, e138, e⟩ := xbnd e
          refine xok_call (t123 hS h134 (h.ai (by decide) q124).2 e138) ?_
          rintro ⟨v_, M139⟩ ⟨hv_, h140, hi141⟩
          cases hv_
          refine xok_ite (fun c142 => ?_) (fun c142 => ?_)
          · rw [if_pos c142] at e
            obtain ⟨_, q148, e⟩ := xbnd e
            obtain ⟨R143, e144, e⟩ := xbnd e
            refine xok_eqb (h140.is q148) ?_
            refine xok_call (t119 hS h140 tx1 e144) ?_
            rintro ⟨v_, M145⟩ ⟨hv_, h146, hi147⟩
            cases hv_
            exact t112_93 (r13 := r13) (o13 := o13) hS @hr13 h146 tx2 hi147 e
          · rw [if_neg c142] at e
            obtain ⟨_, q154, e⟩ := xbnd e
            obtain ⟨R149, e150, e⟩ := xbnd e
            refine xok_eqb (h140.is q154) ?_
            refine xok_call (t118 hS h140 tx1 e150) ?_
            rintro ⟨v_, M151⟩ ⟨hv_, h152, hi153⟩
            cases hv_
            exact t112_93 (r13 := r13) (o13 := o13) hS @hr13 h152 tx2 hi153 e
        · rw [if_neg c136] at e
          obtain ⟨_, q160, e⟩ := xbnd e
          obtain ⟨R155, e156, e⟩ := xbnd e
          refine xok_eqb (h134.is q160) ?_
          refine xok_call (t117 hS h134 tx1 e156) ?_
          rintro ⟨v_, M157⟩ ⟨hv_, h158, hi159⟩
          cases hv_
          exact t112_93 (r13 := r13) (o13 := o13) hS @hr13 h158 tx2 hi159 e
      · rw [if_neg c130] at e
        obtain ⟨_, q166, e⟩ := xbnd e
        obtain ⟨R161, e162, e⟩ := xbnd e
        refine xok_eqb (h128.is q166) ?_
        refine xok_call (t114 hS h128 tx1 e162) ?_
        rintro ⟨v_, M163⟩ ⟨hv_, h164, hi165⟩
        cases hv_
        exact t112_93 (r13 := r13) (o13 := o13) hS @hr13 h164 tx2 hi165 e
theorem t112_13 {m f : Nat} {M0 : xj_M} (hS : xHS f)   : ∀ {n : Nat} {M : xj_M} {T : xT_} {x0 : Nat} {x1 : Int} {x2 : Int} {R : xT_}, xCX m M0 M T → xin x1 → xin x2 → c112_13  f n x0 x1 x2 T = some R → xok (f112_13  f n x0 x1 x2 M) (fun r => xCX m M0 r R) := by
  intro n
  induction n with
  | zero => intros; rename_i e; cases e
  | succ n ih =>
    intros
    rename_i h i0 i1 e
    exact t112_13b hS  @ih h i0 i1 e
theorem t112 {m f : Nat} {M0 M : xj_M} {T : xT_} (hS : xHS f) (h : xCX m M0 M T) {a0 : Nat} {R : xT_}  (e : c112 f a0 T = some R) : xok (f112 f a0 M) (fun r => xCX m M0 r R) := by
  unfold c112 at e
  unfold f112
  obtain ⟨T168, q167, e⟩ := xbnd e
  obtain ⟨M169, q170, h171⟩ := h.pi (by decide) (by decide) (show xin (0) by decide) q167
  refine xok_eqb q170 ?_
  obtain ⟨_, q177, e⟩ := xbnd e
  obtain ⟨R172, e173, e⟩ := xbnd e
  refine xok_eqb (h171.is q177) ?_
  refine xok_call (t113 hS h171 (show xin (0) by decide) e173) ?_
  rintro ⟨v_, M174⟩ ⟨hv_, h175, hi176⟩
  cases hv_
  exact t112_13  hS  h175 hi176 (show xin (0) by decide) e
-- ChangeHouse$Ways.next
theorem t132_205 {m f : Nat} {M0 M : xj_M} {T : xT_} (hS : xHS f) {r2 : Nat → Int → xT_ → Option (Int × xT_)} {o2 : Nat → Int → xj_M → Option (Int × xj_M)} (hr2 : ∀ {M : xj_M} {T : xT_} {x0 : Nat} {x1 : Int} {R : Int × xT_}, xCX m M0 M T → xin x1 → r2 x0 x1 T = some R → xok (o2 x0 x1 M) (fun r => r.1 = R.1 ∧ xCX m M0 r.2 R.2 ∧ xin R.1)) (h : xCX m M0 M T) {x0 : Nat} {x1 : Int} {y0 : Int} {y1 : Int} {y2 : Nat} {R : Int × xT_} (tx1 : xin x1) (ty0 : xin y0) (ty1 : xin y1) (e : c132_205 r2 f x0 x1 y0 y1 y2 T = some R) : xok (f132_205 o2 f x0 x1 y0 y1 y2 M) (fun r => r.1 = R.1 ∧ xCX m M0 r.2 R.2 ∧ xin R.1) := by
  unfold c132_205 at e
  unfold f132_205
  obtain ⟨T102, q101, e⟩ := xbnd e
  obtain ⟨M103, q104, h105⟩ := h.pi (by decide) (by decide) (xin_wr _) q101
  refine xok_eqb q104 ?_
  exact hr2 h105 (xin_wr _) e
theorem t132_188 {m f : Nat} {M0 M : xj_M} {T : xT_} (hS : xHS f) {r2 : Nat → Int → xT_ → Option (Int × xT_)} {o2 : Nat → Int → xj_M → Option (Int × xj_M)} (hr2 : ∀ {M : xj_M} {T : xT_} {x0 : Nat} {x1 : Int} {R : Int × xT_}, xCX m M0 M T → xin x1 → r2 x0 x1 T = some R → xok (o2 x0 x1 M) (fun r => r.1 = R.1 ∧ xCX m M0 r.2 R.2 ∧ xin R.1)) (h : xCX m M0 M T) {x0 : Nat} {x1 : Int} {R : Int × xT_} (tx1 : xin x1) (e : c132_188 r2 f x0 x1 T = some R) : xok (f132_188 o2 f x0 x1 M) (fun r => r.1 = R.1 ∧ xCX m M0 r.2 R.2 ∧ xin R.1) := by
  unfold c132_188 at e
  unfold f132_188
  obtain ⟨v106, q107, e⟩ := xbnd e
  refine xok_eqb (h.gi (by decide) (by decide) q107).1 ?_
  obtain ⟨v108, q109, e⟩ := xbnd e
  refine xok_eqb (h.gi (by decide) (by decide) q109).1 ?_
  refine xok_ite (fun c110 => ?_) (fun c110 => ?_)
  · rw [if_pos c110] at e
    exact t132_205 (r2 := r2) (o2 := o2) hS @hr2 h tx1 (show xin (-1) by decide) (h.gi (by decide) (by decide) q107).2 e
  · rw [if_neg c110] at e
    exact t132_205 (r2 := r2) (o2 := o2) hS @hr2 h tx1 (show xin (1) by decide) (h.gi (by decide) (by decide) q107).2 e
theorem t132_113 {m f : Nat} {M0 M : xj_M} {T : xT_} (hS : xHS f) {r2 : Nat → Int → xT_ → Option (Int × xT_)} {o2 : Nat → Int → xj_M → Option (Int × xj_M)} (hr2 : ∀ {M : xj_M} {T : xT_} {x0 : Nat} {x1 : Int} {R : Int × xT_}, xCX m M0 M T → xin x1 → r2 x0 x1 T = some R → xok (o2 x0 x1 M) (fun r => r.1 = R.1 ∧ xCX m M0 r.2 R.2 ∧ xin R.1)) (h : xCX m M0 M T) {x0 : Nat} {x1 : Int} {y0 : Int} {y1 : Nat} {R : Int × xT_} (tx1 : xin x1) (ty0 : xin y0) (e : c132_113 r2 f x0 x1 y0 y1 T = some R) : xok (f132_113 o2 f x0 x1 y0 y1 M) (fun r => r.1 = R.1 ∧ xCX m M0 r.2 R.2 ∧ xin R.1) := by
  unfold c132_113 at e
  unfold f132_113
  obtain ⟨T112, q111, e⟩ := xbnd e
  obtain ⟨M113, q114, h115⟩ := h.pb (by decide) (by decide)  q111
  refine xok_eqb q114 ?_
  exact t132_188 (r2 := r2) (o2 := o2) hS @hr2 h115 tx1 e
theorem t132_112 {m f : Nat} {M0 M : xj_M} {T : xT_} (hS : xHS f) {r2 : Nat → Int → xT_ → Option (Int × xT_)} {o2 : Nat → Int → xj_M → Option (Int × xj_M)} (hr2 : ∀ {M : xj_M} {T : xT_} {x0 : Nat} {x1 : Int} {R : Int × xT_}, xCX m M0 M T → xin x1 → r2 x0 x1 T = some R → xok (o2 x0 x1 M) (fun r => r.1 = R.1 ∧ xCX m M0 r.2 R.2 ∧ xin R.1)) (h : xCX m M0 M T) {x0 : Nat} {x1 : Int} {y0 : Nat} {R : Int × xT_} (tx1 : xin x1) (e : c132_112 r2 f x0 x1 y0 T = some R) : xok (f132_112 o2 f x0 x1 y0 M) (fun r => r.1 = R.1 ∧ xCX m M0 r.2 R.2 ∧ xin R.1) := by
  unfold c132_112 at e
  unfold f132_112
  exact t132_113 (r2 := r2) (o2 := o2) hS @hr2 h tx1 (show xin (0) by decide) e
theorem t132_100 {m f : Nat} {M0 M : xj_M} {T : xT_} (hS : xHS f) {r2 : Nat → Int → xT_ → Option (Int × xT_)} {o2 : Nat → Int → xj_M → Option (Int × xj_M)} (hr2 : ∀ {M : xj_M} {T : xT_} {x0 : Nat} {x1 : Int} {R : Int × xT_}, xCX m M0 M T → xin x1 → r2 x0 x1 T = some R → xok (o2 x0 x1 M) (fun r => r.1 = R.1 ∧ xCX m M0 r.2 R.2 ∧ xin R.1)) (h : xCX m M0 M T) {x0 : Nat} {x1 : Int} {x2 : Int} {y0 : Nat} {R : Int × xT_} (tx1 : xin x1) (tx2 : xin x2) (e : c132_100 r2 f x0 x1 x2 y0 T = some R) : xok (f132_100 o2 f x0 x1 x2 y0 M) (fun r => r.1 = R.1 ∧ xCX m M0 r.2 R.2 ∧ xin R.1) := by
  unfold c132_100 at e
  unfold f132_100
  obtain ⟨_, q121, e⟩ := xbnd e
  obtain ⟨R116, e117, e⟩ := xbnd e
  refine xok_eqb (h.is q121) ?_
  refine xok_call (t135 hS h tx2 e117) ?_
  rintro ⟨v_, M118⟩ ⟨hv_, h119, hi120⟩
  cases hv_
  refine xok_ite (fun c122 => ?_) (fun c122 => ?_)
  · rw [if_pos c122] at e
    exact t132_112 (r2 := r2) (o2 := o2) hS @hr2 h119 tx1 e
  · rw [if_neg c122] at e
    exact t132_113 (r2 := r2) (o2 := o2) hS @hr2 h119 tx1 (show xin (1) by decide) e
theorem t132_85 {m f : Nat} {M0 M : xj_M} {T : xT_} (hS : xHS f) {r2 : Nat → Int → xT_ → Option (Int × xT_)} {o2 : Nat → Int → xj_M → Option (Int × xj_M)} (hr2 : ∀ {M : xj_M} {T : xT_} {x0 : Nat} {x1 : Int} {R : Int × xT_}, xCX m M0 M T → xin x1 → r2 x0 x1 T = some R → xok (o2 x0 x1 M) (fun r => r.1 = R.1 ∧ xCX m M0 r.2 R.2 ∧ xin R.1)) (h : xCX m M0 M T) {x0 : Nat} {x1 : Int} {x2 : Int} {R : Int × xT_} (tx1 : xin x1) (tx2 : xin x2) (e : c132_85 r2 f x0 x1 x2 T = some R) : xok (f132_85 o2 f x0 x1 x2 M) (fun r => r.1 = R.1 ∧ xCX m M0 r.2 R.2 ∧ xin R.1) := by
  unfold c132_85 at e
  unfold f132_85
  obtain ⟨v123, q124, e⟩ := xbnd e
  refine xok_eqb (h.gi (by decide) (by decide) q124).1 ?_
  refine xok_ite (fun c125 => ?_) (fun c125 => ?_)
  · rw [if_pos c125] at e
    exact t132_100 (r2 := r2) (o2 := o2) hS @hr2 h tx1 tx2 e
  · rw [if_neg c125] at e
    obtain ⟨_, q131, e⟩ := xbnd e
    obtain ⟨R126, e127, e⟩ := xbnd e
    refine xok_eqb (h.is q131) ?_
    refine xok_call (t133 hS h  e127) ?_
    rintro ⟨v_, M128⟩ ⟨hv_, h129, hi130⟩
    cases hv_
    refine xok_ite (fun c132 => ?_) (fun c132 => ?_)
    · rw [if_pos c132] at e
      exact t132_112 (r2 := r2) (o2 := o2) hS @hr2 h129 tx1 e
    · rw [if_neg c132] at e
      exact t132_100 (r2 := r2) (o2 := o2) hS @hr2 h129 tx1 tx2 e
theorem t132_185 {m f : Nat} {M0 M : xj_M} {T : xT_} (hS : xHS f) {r2 : Nat → Int → xT_ → Option (Int × xT_)} {o2 : Nat → Int → xj_M → Option (Int × xj_M)} (hr2 : ∀ {M : xj_M} {T : xT_} {x0 : Nat} {x1 : Int} {R : Int × xT_}, xCX m M0 M T → xin x1 → r2 x0 x1 T = some R → xok (o2 x0 x1 M) (fun r => r.1 = R.1 ∧ xCX m M0 r.2 R.2 ∧ xin R.1)) (h : xCX m M0 M T) {x0 : Nat} {x1 : Int} {y0 : Int} {y1 : Nat} {R : Int × xT_} (tx1 : xin x1) (ty0 : xin y0) (e : c132_185 r2 f x0 x1 y0 y1 T = some R) : xok (f132_185 o2 f x0 x1 y0 y1 M) (fun r => r.1 = R.1 ∧ xCX m M0 r.2 R.2 ∧ xin R.1) := by
  unfold c132_185 at e
  unfold f132_185
  obtain ⟨T134, q133, e⟩ := xbnd e
  obtain ⟨M135, q136, h137⟩ := h.pb (by decide) (by decide)  q133
  refine xok_eqb q136 ?_
  exact t132_188 (r2 := r2) (o2 := o2) hS @hr2 h137 tx1 e
theorem t132_180 {m f : Nat} {M0 M : xj_M} {T : xT_} (hS : xHS f) {r2 : Nat → Int → xT_ → Option (Int × xT_)} {o2 : Nat → Int → xj_M → Option (Int × xj_M)} (hr2 : ∀ {M : xj_M} {T : xT_} {x0 : Nat} {x1 : Int} {R : Int × xT_}, xCX m M0 M T → xin x1 → r2 x0 x1 T = some R → xok (o2 x0 x1 M) (fun r => r.1 = R.1 ∧ xCX m M0 r.2 R.2 ∧ xin R.1)) (h : xCX m M0 M T) {x0 : Nat} {x1 : Int} {y0 : Nat} {R : Int × xT_} (tx1 : xin x1) (e : c132_180 r2 f x0 x1 y0 T = some R) : xok (f132_180 o2 f x0 x1 y0 M) (fun r => r.1 = R.1 ∧ xCX m M0 r.2 R.2 ∧ xin R.1) := by
  unfold c132_180 at e
  unfold f132_180
  exact t132_185 (r2 := r2) (o2 := o2) hS @hr2 h tx1 (show xin (1) by decide) e
theorem t132_184 {m f : Nat} {M0 M : xj_M} {T : xT_} (hS : xHS f) {r2 : Nat → Int → xT_ → Option (Int × xT_)} {o2 : Nat → Int → xj_M → Option (Int × xj_M)} (hr2 : ∀ {M : xj_M} {T : xT_} {x0 : Nat} {x1 : Int} {R : Int × xT_}, xCX m M0 M T → xin x1 → r2 x0 x1 T = some R → xok (o2 x0 x1 M) (fun r => r.1 = R.1 ∧ xCX m M0 r.2 R.2 ∧ xin R.1)) (h : xCX m M0 M T) {x0 : Nat} {x1 : Int} {y0 : Nat} {R : Int × xT_} (tx1 : xin x1) (e : c132_184 r2 f x0 x1 y0 T = some R) : xok (f132_184 o2 f x0 x1 y0 M) (fun r => r.1 = R.1 ∧ xCX m M0 r.2 R.2 ∧ xin R.1) := by
  unfold c132_184 at e
  unfold f132_184
  exact t132_185 (r2 := r2) (o2 := o2) hS @hr2 h tx1 (show xin (0) by decide) e
theorem t132_215 {m f : Nat} {M0 M : xj_M} {T : xT_} (hS : xHS f)   (h : xCX m M0 M T)  {R : Int × xT_}  (e : c132_215  f  T = some R) : xok (f132_215  f  M) (fun r => r.1 = R.1 ∧ xCX m M0 r.2 R.2 ∧ xin R.1) := by
  unfold c132_215 at e
  unfold f132_215
  cases e
  exact ⟨_, rfl, rfl, h, (show xin (0) by decide)⟩
theorem t132_2b {m f : Nat} {M0 M : xj_M} {T : xT_} (hS : xHS f) {r2 : Nat → Int → xT_ → Option (Int × xT_)} {o2 : Nat → Int → xj_M → Option (Int × xj_M)} (hr2 : ∀ {M : xj_M} {T : xT_} {x0 : Nat} {x1 : Int} {R : Int × xT_}, xCX m M0 M T → xin x1 → r2 x0 x1 T = some R → xok (o2 x0 x1 M) (fun r => r.1 = R.1 ∧ xCX m M0 r.2 R.2 ∧ xin R.1)) (h : xCX m M0 M T) {x0 : Nat} {x1 : Int} {R : Int × xT_} (tx1 : xin x1) (e : c132_2b r2 f x0 x1 T = some R) : xok (f132_2b o2 f x0 x1 M) (fun r => r.1 = R.1 ∧ xCX m M0 r.2 R.2 ∧ xin R.1) := by
  unfold c132_2b at e
  unfold f132_2b
  refine xok_ite (fun c138 => ?_) (fun c138 => ?_)
  · rw [if_pos c138] at e
    exact t132_215  hS  h  e
  · rw [if_neg c138] at e
    obtain ⟨v139, q140, e⟩ := xbnd e
    refine xok_eqb (h.gi (by decide) (by decide) q140).1 ?_
    refine xok_ite (fun c141 => ?_) (fun c141 => ?_)
    · rw [if_pos c141] at e
      exact t132_215  hS  h  e
    · rw [if_neg c141] at e
      obtain ⟨v142, q143, e⟩ := xbnd e
      refine xok_eqb (h.gi (by decide) (by decide) q143).1 ?_
      obtain ⟨v144, q145, e⟩ := xbnd e
      refine xok_eqb (h.gr (by decide) (by decide) q145) ?_
      obtain ⟨v146, q147, e⟩ := xbnd e
      refine xok_eqb (h.gi (by decide) (by decide) q147).1 ?_
      refine xok_ite (fun c148 => ?_) (fun c148 => ?_)
      · rw [if_pos c148] at e
        obtain ⟨v149, q150, e⟩ := xbnd e
        refine xok_eqb (h.gr (by decide) (by decide) q150) ?_
        obtain ⟨v151, q152, e⟩ := xbnd e
        refine xok_eqb (h.gr (by decide) (by decide) q152) ?_
        obtain ⟨v153, q154, e⟩ := xbnd e
        refine xok_eqb (h.gi (by decide) (by decide) q154).1 ?_
        obtain ⟨v155, q156, e⟩ := xbnd e
        refine xok_eqb (h.ai (by decide) q156).1 ?_
        obtain ⟨v157, q158, e⟩ := xbnd e
        refine xok_eqb (h.gr (by decide) (by decide) q158) ?_
        obtain ⟨v159, q160, e⟩ := xbnd e
        refine xok_eqb (h.gr (by decide) (by decide) q160) ?_
        obtain ⟨v161, q162, e⟩ := xbnd e
        refine xok_eqb (h.ai (by decide) q162).1 ?_
        refine xok_ite (fun c163 => ?_) (fun c163 => ?_)
        · rw [if_pos c163] at e
          obtain ⟨v164, q165, e⟩ := xbnd e
          refine xok_eqb (h.gr (by decide) (by decide) q165) ?_
          obtain ⟨v166, q167, e⟩ := xbnd e
          refine xok_eqb (h.gi (by decide) (by decide) q167).1 ?_
          obtain ⟨v168, q169, e⟩ := xbnd e
          refine xok_eqb (h.gr (by decide) (by decide) q169) ?_
          obtain ⟨v170, q171, e⟩ := xbnd e
          refine xok_eqb (h.gi (by decide) (by decide) q171).1 ?_
          obtain ⟨v172, q173, e⟩ := xbnd e
          refine xok_eqb (h.ai (by decide) q173).1 ?_
          obtain ⟨T175, q174, e⟩ := xbnd e
          obtain ⟨M176, q177, h178⟩ := h.si (h.ai (by decide) q173).2 q174
          refine xok_eqb q177 ?_
          obtain ⟨v179, q180, e⟩ := xbnd e
          refine xok_eqb (h178.gi (by decide) (by decide) q180).1 ?_
          refine xok_ite (fun c181 => ?_) (fun c181 => ?_)
          · rw [if_pos c181] at e
            exact t132_184 (r2 := r2) (o2 := o2) hS @hr2 h178 tx1 e
          · rw [if_neg c181] at e
            obtain ⟨v182, q183, e⟩ := xbnd e
            refine xok_eqb (h178.gr (by decide) (by decide) q183) ?_
            obtain ⟨v184, q185, e⟩ := xbnd e
            refine xok_eqb (h178.gr (by decide) (by decide) q185) ?_
            obtain ⟨v186, q187, e⟩ := xbnd e
            refine xok_eqb (h178.ai (by decide) q187).1 ?_
            refine xok_ite (fun c188 => ?_) (fun c188 => ?_)
            · rw [if_pos c188] at e
              obtain ⟨_, q194, e⟩ := xbnd e
              obtain ⟨R189, e190, e⟩ := xbnd e
              refine xok_eqb (h178.is q194) ?_
              refine xok_call (t139 hS h178 (h.ai (by decide) q156).2 e190) ?_
              rintro ⟨v_, M191⟩ ⟨hv_, h192, hi193⟩
              cases hv_
              refine xok_ite (fun c195 => ?_) (fun c195 => ?_)
              · rw [if_pos c195] at e
                exact t132_184 (r2 := r2) (o2 := o2) hS @hr2 h192 tx1 e
              · rw [if_neg c195] at e
                exact t132_180 (r2 := r2) (o2 := o2) hS @hr2 h192 tx1 e
            · rw [if_neg c188] at e
              obtain ⟨_, q201, e⟩ := xbnd e
              obtain ⟨R196, e197, e⟩ := xbnd e
              refine xok_eqb (h178.is q201) ?_
              refine xok_call (t138 hS h178 (h.ai (by decide) q156).2 e197) ?_
              rintro ⟨v_, M198⟩ ⟨hv_, h199, hi200⟩
              cases hv_
              refine xok_ite (fun c202 => ?_) (fun c202 => ?_)
              · rw [if_pos c202] at e
                exact t132_184 (r2 := r2) (o2 := o2) hS @hr2 h199 tx1 e
              · rw [if_neg c202] at e
                exact t132_180 (r2 := r2) (o2 := o2) hS @hr2 h199 tx1 e
        · rw [if_neg c163] at e
          obtain ⟨v203, q204, e⟩ := xbnd e
          refine xok_eqb (h.gi (by decide) (by decide) q204).1 ?_
          refine xok_ite (fun c205 => ?_) (fun c205 => ?_)
          · rw [if_pos c205] at e
            exact t132_85 (r2 := r2) (o2 := o2) hS @hr2 h tx1 (h.ai (by decide) q156).2 e
          · rw [if_neg c205] at e
            obtain ⟨_, q211, e⟩ := xbnd e
            obtain ⟨R206, e207, e⟩ := xbnd e
            refine xok_eqb (h.is q211) ?_
            refine xok_call (t134 hS h (h.ai (by decide) q156).2 e207) ?_
            intro M208 h209
            exact t132_85 (r2 := r2) (o2 := o2) hS @hr2 h209 tx1 (h.ai (by decide) q156).2 e
      · rw [if_neg c148] at e
        obtain ⟨v212, q213, e⟩ := xbnd e
        refine xok_eqb (h.gi (by decide) (by decide) q213).1 ?_
        obtain ⟨T215, q214, e⟩ := xbnd e
        obtain ⟨M216, q217, h218⟩ := h.pi (by decide) (by decide) (xin_wr _) q214
        refine xok_eqb q217 ?_
        obtain ⟨T220, q219, e⟩ := xbnd e
        obtain ⟨M221, q222, h223⟩ := h218.pb (by decide) (by decide)  q219
        refine xok_eqb q222 ?_
        cases e
        exact ⟨_, rfl, rfl, h223, (show xin (1) by decide)⟩
theorem t132_2 {m f : Nat} {M0 : xj_M} (hS : xHS f)   : ∀ {n : Nat} {M : xj_M} {T : xT_} {x0 : Nat} {x1 : Int} {R : Int × xT_}, xCX m M0 M T → xin x1 → c132_2  f n x0 x1 T = some R → xok (f132_2  f n x0 x1 M) (fun r => r.1 = R.1 ∧ xCX m M0 r.2 R.2 ∧ xin R.1) := by
  intro n
  induction n with
  | zero => intros; rename_i e; cases e
  | succ n ih =>
    intros
    rename_i h i0 e
    exact t132_2b hS  @ih h i0 e
theorem t132 {m f : Nat} {M0 M : xj_M} {T : xT_} (hS : xHS f) (h : xCX m M0 M T) {a0 : Nat} {R : Int × xT_}  (e : c132 f a0 T = some R) : xok (f132 f a0 M) (fun r => r.1 = R.1 ∧ xCX m M0 r.2 R.2 ∧ xin R.1) := by
  unfold c132 at e
  unfold f132
  exact t132_2  hS  h (show xin (0) by decide) e
-- ChangeHouse$Works.derive
theorem t155_49 {m f : Nat} {M0 M : xj_M} {T : xT_} (hS : xHS f) {r2 : Nat → Nat → Int → xT_ → Option (Int × xT_)} {o2 : Nat → Nat → Int → xj_M → Option (Int × xj_M)} (hr2 : ∀ {M : xj_M} {T : xT_} {x0 : Nat} {x1 : Nat} {x2 : Int} {R : Int × xT_}, xCX m M0 M T → xin x2 → r2 x0 x1 x2 T = some R → xok (o2 x0 x1 x2 M) (fun r => r.1 = R.1 ∧ xCX m M0 r.2 R.2 ∧ xin R.1)) (h : xCX m M0 M T) {x0 : Nat} {x1 : Nat} {x2 : Int} {R : Int × xT_} (tx2 : xin x2) (e : c155_49 r2 f x0 x1 x2 T = some R) : xok (f155_49 o2 f x0 x1 x2 M) (fun r => r.1 = R.1 ∧ xCX m M0 r.2 R.2 ∧ xin R.1) := by
  unfold c155_49 at e
  unfold f155_49
  exact hr2 h (xin_wr _) e
theorem t155_55 {m f : Nat} {M0 M : xj_M} {T : xT_} (hS : xHS f)   (h : xCX m M0 M T)  {R : Int × xT_}  (e : c155_55  f  T = some R) : xok (f155_55  f  M) (fun r => r.1 = R.1 ∧ xCX m M0 r.2 R.2 ∧ xin R.1) := by
  unfold c155_55 at e
  unfold f155_55
  cases e
  exact ⟨_, rfl, rfl, h, (show xin (1) by decide)⟩
theorem t155_2b {m f : Nat} {M0 M : xj_M} {T : xT_} (hS : xHS f) {r2 : Nat → Nat → Int → xT_ → Option (Int × xT_)} {o2 : Nat → Nat → Int → xj_M → Option (Int × xj_M)} (hr2 : ∀ {M : xj_M} {T : xT_} {x0 : Nat} {x1 : Nat} {x2 : Int} {R : Int × xT_}, xCX m M0 M T → xin x2 → r2 x0 x1 x2 T = some R → xok (o2 x0 x1 x2 M) (fun r => r.1 = R.1 ∧ xCX m M0 r.2 R.2 ∧ xin R.1)) (h : xCX m M0 M T) {x0 : Nat} {x1 : Nat} {x2 : Int} {R : Int × xT_} (tx2 : xin x2) (e : c155_2b r2 f x0 x1 x2 T = some R) : xok (f155_2b o2 f x0 x1 x2 M) (fun r => r.1 = R.1 ∧ xCX m M0 r.2 R.2 ∧ xin R.1) := by
  unfold c155_2b at e
  unfold f155_2b
  refine xok_ite (fun c101 => ?_) (fun c101 => ?_)
  · rw [if_pos c101] at e
    exact t155_55  hS  h  e
  · rw [if_neg c101] at e
    obtain ⟨v102, q103, e⟩ := xbnd e
    refine xok_eqb (h.gr (by decide) (by decide) q103) ?_
    obtain ⟨_, q109, e⟩ := xbnd e
    obtain ⟨R104, e105, e⟩ := xbnd e
    refine xok_eqb (h.is q109) ?_
    refine xok_call (t132 hS h  e105) ?_
    rintro ⟨v_, M106⟩ ⟨hv_, h107, hi108⟩
    cases hv_
    refine xok_ite (fun c110 => ?_) (fun c110 => ?_)
    · rw [if_pos c110] at e
      exact t155_55  hS  h107  e
    · rw [if_neg c110] at e
      obtain ⟨v111, q112, e⟩ := xbnd e
      refine xok_eqb (h107.gr (by decide) (by decide) q112) ?_
      obtain ⟨v113, q114, e⟩ := xbnd e
      refine xok_eqb (h107.gr (by decide) (by decide) q114) ?_
      obtain ⟨_, q120, e⟩ := xbnd e
      obtain ⟨R115, e116, e⟩ := xbnd e
      refine xok_eqb (h107.is q120) ?_
      refine xok_call (t142 hS h107  e116) ?_
      rintro ⟨v_, M117⟩ ⟨hv_, h118, hi119⟩
      cases hv_
      refine xok_ite (fun c121 => ?_) (fun c121 => ?_)
      · rw [if_pos c121] at e
        exact t155_49 (r2 := r2) (o2 := o2) hS @hr2 h118 tx2 e
      · rw [if_neg c121] at e
        obtain ⟨v122, q123, e⟩ := xbnd e
        refine xok_eqb (h118.gi (by decide) (by decide) q123).1 ?_
        obtain ⟨v124, q125, e⟩ := xbnd e
        refine xok_eqb (h118.gr (by decide) (by decide) q125) ?_
        obtain ⟨_, q131, e⟩ := xbnd e
        obtain ⟨R126, e127, e⟩ := xbnd e
        refine xok_eqb (h118.is q131) ?_
        refine xok_call (t156 hS h118 (h118.gi (by decide) (by decide) q123).2 e127) ?_
        rintro ⟨v_, M128⟩ ⟨hv_, h129, hi130⟩
        cases hv_
        refine xok_ite (fun c132 => ?_) (fun c132 => ?_)
        · rw [if_pos c132] at e
          exact t155_49 (r2 := r2) (o2 := o2) hS @hr2 h129 tx2 e
        · rw [if_neg c132] at e
          cases e
          exact ⟨_, rfl, rfl, h129, (show xin (0) by decide)⟩
theorem t155_2 {m f : Nat} {M0 : xj_M} (hS : xHS f)   : ∀ {n : Nat} {M : xj_M} {T : xT_} {x0 : Nat} {x1 : Nat} {x2 : Int} {R : Int × xT_}, xCX m M0 M T → xin x2 → c155_2  f n x0 x1 x2 T = some R → xok (f155_2  f n x0 x1 x2 M) (fun r => r.1 = R.1 ∧ xCX m M0 r.2 R.2 ∧ xin R.1) := by
  intro n
  induction n with
  | zero => intros; rename_i e; cases e
  | succ n ih =>
    intros
    rename_i h i0 e
    exact t155_2b hS  @ih h i0 e
theorem t155 {m f : Nat} {M0 M : xj_M} {T : xT_} (hS : xHS f) (h : xCX m M0 M T) {a0 : Nat} {a1 : Nat} {R : Int × xT_}  (e : c155 f a0 a1 T = some R) : xok (f155 f a0 a1 M) (fun r => r.1 = R.1 ∧ xCX m M0 r.2 R.2 ∧ xin R.1) := by
  unfold c155 at e
  unfold f155
  exact t155_2  hS  h (show xin (0) by decide) e
