/-! The class over its cells as functions (written by mk_c.py) -/
/-- ChangeHouse$Sheet.settle -/
def c99_106 (r27 : Nat → Nat → Nat → Nat → Int → Int → Int → xT_ → Option (xT_)) (f : Nat) (x0 : Nat) (x1 : Nat) (x2 : Nat) (x3 : Nat) (x4 : Int) (x6 : Int) (y0 : Int) (y1 : Int) (T : xT_) : Option (xT_) := r27 (x0) (x1) (x2) (x3) (x4) (xor_ (y1) (y0)) (xwr ((x6) + (1))) T
theorem t99_106 {m f : Nat} {M0 M : xj_M} {T : xT_} (hS : xHS f) {r27 : Nat → Nat → Nat → Nat → Int → Int → Int → xT_ → Option (xT_)} {o27 : Nat → Nat → Nat → Nat → Int → Int → Int → xj_M → Option (xj_M)} (hr27 : ∀ {M : xj_M} {T : xT_} {x0 : Nat} {x1 : Nat} {x2 : Nat} {x3 : Nat} {x4 : Int} {x5 : Int} {x6 : Int} {R : xT_}, xCX m M0 M T → xin x4 → xin x5 → xin x6 → r27 x0 x1 x2 x3 x4 x5 x6 T = some R → xok (o27 x0 x1 x2 x3 x4 x5 x6 M) (fun r => xCX m M0 r R)) (h : xCX m M0 M T) {x0 : Nat} {x1 : Nat} {x2 : Nat} {x3 : Nat} {x4 : Int} {x6 : Int} {y0 : Int} {y1 : Int} {R : xT_} (tx4 : xin x4) (tx6 : xin x6) (ty0 : xin y0) (ty1 : xin y1) (e : c99_106 r27 f x0 x1 x2 x3 x4 x6 y0 y1 T = some R) : xok (f99_106 o27 f x0 x1 x2 x3 x4 x6 y0 y1 M) (fun r => xCX m M0 r R) := by
  unfold c99_106 at e
  unfold f99_106
  exact hr27 h tx4 (xin_of _) (xin_wr _) e
def c99_89 (r27 : Nat → Nat → Nat → Nat → Int → Int → Int → xT_ → Option (xT_)) (f : Nat) (x0 : Nat) (x1 : Nat) (x2 : Nat) (x3 : Nat) (x4 : Int) (x5 : Int) (x6 : Int) (T : xT_) : Option (xT_) := ((cq_gr 2 2 8 (x2) T).bind fun v101 => ((cq_ar (v101) (x6) T).bind fun v103 => (if (v103) = 0 then c99_106 r27 f (x0) (x1) (x2) (x3) (x4) (x6) (0) (x5) T else c99_106 r27 f (x0) (x1) (x2) (x3) (x4) (x6) (1) (x5) T)))
theorem t99_89 {m f : Nat} {M0 M : xj_M} {T : xT_} (hS : xHS f) {r27 : Nat → Nat → Nat → Nat → Int → Int → Int → xT_ → Option (xT_)} {o27 : Nat → Nat → Nat → Nat → Int → Int → Int → xj_M → Option (xj_M)} (hr27 : ∀ {M : xj_M} {T : xT_} {x0 : Nat} {x1 : Nat} {x2 : Nat} {x3 : Nat} {x4 : Int} {x5 : Int} {x6 : Int} {R : xT_}, xCX m M0 M T → xin x4 → xin x5 → xin x6 → r27 x0 x1 x2 x3 x4 x5 x6 T = some R → xok (o27 x0 x1 x2 x3 x4 x5 x6 M) (fun r => xCX m M0 r R)) (h : xCX m M0 M T) {x0 : Nat} {x1 : Nat} {x2 : Nat} {x3 : Nat} {x4 : Int} {x5 : Int} {x6 : Int} {R : xT_} (tx4 : xin x4) (tx5 : xin x5) (tx6 : xin x6) (e : c99_89 r27 f x0 x1 x2 x3 x4 x5 x6 T = some R) : xok (f99_89 o27 f x0 x1 x2 x3 x4 x5 x6 M) (fun r => xCX m M0 r R) := by
  unfold c99_89 at e
  unfold f99_89
  obtain ⟨v101, q102, e⟩ := xbnd e
  refine xok_eqb (h.gr (by decide) (by decide) q102) ?_
  obtain ⟨v103, q104, e⟩ := xbnd e
  refine xok_eqb (h.ar q104) ?_
  refine xok_ite (fun c105 => ?_) (fun c105 => ?_)
  · rw [if_pos c105] at e
    exact t99_106 (r27 := r27) (o27 := o27) hS @hr27 h tx4 tx6 (show xin (0) by decide) tx5 e
  · rw [if_neg c105] at e
    exact t99_106 (r27 := r27) (o27 := o27) hS @hr27 h tx4 tx6 (show xin (1) by decide) tx5 e
def c99_65 (r27 : Nat → Nat → Nat → Nat → Int → Int → Int → xT_ → Option (xT_)) (f : Nat) (x0 : Nat) (x1 : Nat) (x2 : Nat) (x3 : Nat) (x4 : Int) (x5 : Int) (x6 : Int) (T : xT_) : Option (xT_) := ((cq_gr 2 2 8 (x2) T).bind fun v106 => ((cq_gr 1 13 14 (x3) T).bind fun v108 => ((cq_ar (v108) (x6) T).bind fun v110 => ((cq_sr (v106) (x6) (v110) T).bind fun T113 => ((cq_gi 2 5 8 (x2) T113).bind fun v117 => ((cq_p 2 5 8 (x2) (xwr ((v117) + (1))) T113).bind fun T120 => c99_89 r27 f (x0) (x1) (x2) (x3) (x4) (x5) (x6) T120))))))
theorem t99_65 {m f : Nat} {M0 M : xj_M} {T : xT_} (hS : xHS f) {r27 : Nat → Nat → Nat → Nat → Int → Int → Int → xT_ → Option (xT_)} {o27 : Nat → Nat → Nat → Nat → Int → Int → Int → xj_M → Option (xj_M)} (hr27 : ∀ {M : xj_M} {T : xT_} {x0 : Nat} {x1 : Nat} {x2 : Nat} {x3 : Nat} {x4 : Int} {x5 : Int} {x6 : Int} {R : xT_}, xCX m M0 M T → xin x4 → xin x5 → xin x6 → r27 x0 x1 x2 x3 x4 x5 x6 T = some R → xok (o27 x0 x1 x2 x3 x4 x5 x6 M) (fun r => xCX m M0 r R)) (h : xCX m M0 M T) {x0 : Nat} {x1 : Nat} {x2 : Nat} {x3 : Nat} {x4 : Int} {x5 : Int} {x6 : Int} {R : xT_} (tx4 : xin x4) (tx5 : xin x5) (tx6 : xin x6) (e : c99_65 r27 f x0 x1 x2 x3 x4 x5 x6 T = some R) : xok (f99_65 o27 f x0 x1 x2 x3 x4 x5 x6 M) (fun r => xCX m M0 r R) := by
  unfold c99_65 at e
  unfold f99_65
  obtain ⟨v106, q107, e⟩ := xbnd e
  refine xok_eqb (h.gr (by decide) (by decide) q107) ?_
  obtain ⟨v108, q109, e⟩ := xbnd e
  refine xok_eqb (h.gr (by decide) (by decide) q109) ?_
  obtain ⟨v110, q111, e⟩ := xbnd e
  refine xok_eqb (h.ar q111) ?_
  obtain ⟨T113, q112, e⟩ := xbnd e
  obtain ⟨M114, q115, h116⟩ := h.sr  q112
  refine xok_eqb q115 ?_
  obtain ⟨v117, q118, e⟩ := xbnd e
  refine xok_eqb (h116.gi (by decide) (by decide) q118).1 ?_
  obtain ⟨T120, q119, e⟩ := xbnd e
  obtain ⟨M121, q122, h123⟩ := h116.pi (by decide) (by decide) (xin_wr _) q119
  refine xok_eqb q122 ?_
  exact t99_89 (r27 := r27) (o27 := o27) hS @hr27 h123 tx4 tx5 tx6 e
def c99_172  (f : Nat)  (T : xT_) : Option (xT_) := (some T)
theorem t99_172 {m f : Nat} {M0 M : xj_M} {T : xT_} (hS : xHS f)   (h : xCX m M0 M T)  {R : xT_}  (e : c99_172  f  T = some R) : xok (f99_172  f  M) (fun r => xCX m M0 r R) := by
  unfold c99_172 at e
  unfold f99_172
  cases e
  exact ⟨_, rfl, h⟩
def c99_140  (f : Nat) (x0 : Nat) (x1 : Nat) (x2 : Nat) (x3 : Nat) (x4 : Int) (T : xT_) : Option (xT_) := ((cq_na 4 (72) T).bind fun p124 => ((cq_pr 2 3 8 (x2) (p124.1) p124.2).bind fun T130 => ((cq_gr 2 3 8 (x2) T130).bind fun v134 => ((cq_pr 7 1 5 (x0) (v134) T130).bind fun T137 => ((cq_is 7 5 (x0) T137).bind fun _ => ((c100 f (x0) T137).bind fun R141 => ((cq_is 7 5 (x0) R141).bind fun _ => ((c102 f (x0) R141).bind fun R147 => ((cq_is 7 5 (x0) R147).bind fun _ => ((c103 f (x0) (x1) (x3) (x4) R147).bind fun R153 => c99_172  f  R153))))))))))
theorem t99_140 {m f : Nat} {M0 M : xj_M} {T : xT_} (hS : xHS f)   (h : xCX m M0 M T) {x0 : Nat} {x1 : Nat} {x2 : Nat} {x3 : Nat} {x4 : Int} {R : xT_} (tx4 : xin x4) (e : c99_140  f x0 x1 x2 x3 x4 T = some R) : xok (f99_140  f x0 x1 x2 x3 x4 M) (fun r => xCX m M0 r R) := by
  unfold c99_140 at e
  unfold f99_140
  obtain ⟨p124, q125, e⟩ := xbnd e
  obtain ⟨M126, q127, h128⟩ := h.na (by decide) q125
  refine xok_eqb q127 ?_
  dsimp only
  obtain ⟨T130, q129, e⟩ := xbnd e
  obtain ⟨M131, q132, h133⟩ := h128.pr (by decide) (by decide)  q129
  refine xok_eqb q132 ?_
  obtain ⟨v134, q135, e⟩ := xbnd e
  refine xok_eqb (h133.gr (by decide) (by decide) q135) ?_
  obtain ⟨T137, q136, e⟩ := xbnd e
  obtain ⟨M138, q139, h140⟩ := h133.pr (by decide) (by decide)  q136
  refine xok_eqb q139 ?_
  obtain ⟨_, q146, e⟩ := xbnd e
  obtain ⟨R141, e142, e⟩ := xbnd e
  refine xok_eqb (h140.is q146) ?_
  refine xok_call (t100 hS h140  e142) ?_
  intro M143 h144
  obtain ⟨_, q152, e⟩ := xbnd e
  obtain ⟨R147, e148, e⟩ := xbnd e
  refine xok_eqb (h144.is q152) ?_
  refine xok_call (t102 hS h144  e148) ?_
  intro M149 h150
  obtain ⟨_, q158, e⟩ := xbnd e
  obtain ⟨R153, e154, e⟩ := xbnd e
  refine xok_eqb (h150.is q158) ?_
  refine xok_call (t103 hS h150 tx4 e154) ?_
  intro M155 h156
  exact t99_172  hS  h156  e
def c99_27b (r27 : Nat → Nat → Nat → Nat → Int → Int → Int → xT_ → Option (xT_)) (f : Nat) (x0 : Nat) (x1 : Nat) (x2 : Nat) (x3 : Nat) (x4 : Int) (x5 : Int) (x6 : Int) (T : xT_) : Option (xT_) := (if (72) ≤ (x6) then ((cq_gi 2 5 8 (x2) T).bind fun v160 => (if 0 < (v160) then c99_140  f (x0) (x1) (x2) (x3) (x4) T else (if (x5) = 0 then c99_172  f  T else (if ¬ (x4) = 0 then c99_140  f (x0) (x1) (x2) (x3) (x4) T else ((cq_gi 2 6 8 (x2) T).bind fun v165 => (if ¬ (v165) = (1) then c99_172  f  T else c99_140  f (x0) (x1) (x2) (x3) (x4) T)))))) else ((cq_gr 1 12 14 (x3) T).bind fun v168 => ((cq_ab (v168) (x6) T).bind fun v170 => (if (v170) = 0 then c99_89 r27 f (x0) (x1) (x2) (x3) (x4) (x5) (x6) T else ((cq_gi 2 5 8 (x2) T).bind fun v173 => (if ¬ (v173) = 0 then c99_65 r27 f (x0) (x1) (x2) (x3) (x4) (x5) (x6) T else ((cq_gr 2 2 8 (x1) T).bind fun v176 => ((cq_cl 5 (v176) T).bind fun p178 => ((cq_ca 5 (p178.1) p178.2).bind fun _ => ((cq_pr 2 2 8 (x2) (p178.1) p178.2).bind fun T185 => c99_65 r27 f (x0) (x1) (x2) (x3) (x4) (x5) (x6) T185))))))))))
theorem t99_27b {m f : Nat} {M0 M : xj_M} {T : xT_} (hS : xHS f) {r27 : Nat → Nat → Nat → Nat → Int → Int → Int → xT_ → Option (xT_)} {o27 : Nat → Nat → Nat → Nat → Int → Int → Int → xj_M → Option (xj_M)} (hr27 : ∀ {M : xj_M} {T : xT_} {x0 : Nat} {x1 : Nat} {x2 : Nat} {x3 : Nat} {x4 : Int} {x5 : Int} {x6 : Int} {R : xT_}, xCX m M0 M T → xin x4 → xin x5 → xin x6 → r27 x0 x1 x2 x3 x4 x5 x6 T = some R → xok (o27 x0 x1 x2 x3 x4 x5 x6 M) (fun r => xCX m M0 r R)) (h : xCX m M0 M T) {x0 : Nat} {x1 : Nat} {x2 : Nat} {x3 : Nat} {x4 : Int} {x5 : Int} {x6 : Int} {R : xT_} (tx4 : xin x4) (tx5 : xin x5) (tx6 : xin x6) (e : c99_27b r27 f x0 x1 x2 x3 x4 x5 x6 T = some R) : xok (f99_27b o27 f x0 x1 x2 x3 x4 x5 x6 M) (fun r => xCX m M0 r R) := by
  unfold c99_27b at e
  unfold f99_27b
  refine xok_ite (fun c159 => ?_) (fun c159 => ?_)
  · rw [if_pos c159] at e
    obtain ⟨v160, q161, e⟩ := xbnd e
    refine xok_eqb (h.gi (by decide) (by decide) q161).1 ?_
    refine xok_ite (fun c162 => ?_) (fun c162 => ?_)
    · rw [if_pos c162] at e
      exact t99_140  hS  h tx4 e
    · rw [if_neg c162] at e
      refine xok_ite (fun c163 => ?_) (fun c163 => ?_)
      · rw [if_pos c163] at e
        exact t99_172  hS  h  e
      · rw [if_neg c163] at e
        refine xok_ite (fun c164 => ?_) (fun c164 => ?_)
        · rw [if_pos c164] at e
          exact t99_140  hS  h tx4 e
        · rw [if_neg c164] at e
          obtain ⟨v165, q166, e⟩ := xbnd e
          refine xok_eqb (h.gi (by decide) (by decide) q166).1 ?_
          refine xok_ite (fun c167 => ?_) (fun c167 => ?_)
          · rw [if_pos c167] at e
            exact t99_172  hS  h  e
          · rw [if_neg c167] at e
            exact t99_140  hS  h tx4 e
  · rw [if_neg c159] at e
    obtain ⟨v168, q169, e⟩ := xbnd e
    refine xok_eqb (h.gr (by decide) (by decide) q169) ?_
    obtain ⟨v170, q171, e⟩ := xbnd e
    refine xok_eqb (h.ab q171).1 ?_
    refine xok_ite (fun c172 => ?_) (fun c172 => ?_)
    · rw [if_pos c172] at e
      exact t99_89 (r27 := r27) (o27 := o27) hS @hr27 h tx4 tx5 tx6 e
    · rw [if_neg c172] at e
      obtain ⟨v173, q174, e⟩ := xbnd e
      refine xok_eqb (h.gi (by decide) (by decide) q174).1 ?_
      refine xok_ite (fun c175 => ?_) (fun c175 => ?_)
      · rw [if_pos c175] at e
        exact t99_65 (r27 := r27) (o27 := o27) hS @hr27 h tx4 tx5 tx6 e
      · rw [if_neg c175] at e
        obtain ⟨v176, q177, e⟩ := xbnd e
        refine xok_eqb (h.gr (by decide) (by decide) q177) ?_
        obtain ⟨p178, q179, e⟩ := xbnd e
        obtain ⟨M180, q181, h182⟩ := h.cl q179
        refine xok_eqb q181 ?_
        dsimp only
        obtain ⟨_, q183, e⟩ := xbnd e
        refine xok_eqb (h182.ca q183) ?_
        obtain ⟨T185, q184, e⟩ := xbnd e
        obtain ⟨M186, q187, h188⟩ := h182.pr (by decide) (by decide)  q184
        refine xok_eqb q187 ?_
        exact t99_65 (r27 := r27) (o27 := o27) hS @hr27 h188 tx4 tx5 tx6 e
def c99_27  (f : Nat) : Nat → Nat → Nat → Nat → Nat → Int → Int → Int → xT_ → Option (xT_)
  | 0, _, _, _, _, _, _, _, _ => none
  | n + 1, x0, x1, x2, x3, x4, x5, x6, T => c99_27b  (c99_27  f n) f x0 x1 x2 x3 x4 x5 x6 T
theorem t99_27 {m f : Nat} {M0 : xj_M} (hS : xHS f)   : ∀ {n : Nat} {M : xj_M} {T : xT_} {x0 : Nat} {x1 : Nat} {x2 : Nat} {x3 : Nat} {x4 : Int} {x5 : Int} {x6 : Int} {R : xT_}, xCX m M0 M T → xin x4 → xin x5 → xin x6 → c99_27  f n x0 x1 x2 x3 x4 x5 x6 T = some R → xok (f99_27  f n x0 x1 x2 x3 x4 x5 x6 M) (fun r => xCX m M0 r R) := by
  intro n
  induction n with
  | zero => intros; rename_i e; cases e
  | succ n ih =>
    intros
    rename_i h i0 i1 i2 e
    exact t99_27b hS  @ih h i0 i1 i2 e
def c99 (f : Nat) (a0 : Nat) (a1 : Nat) (a2 : Nat) (a3 : Nat) (a4 : Int) (T : xT_) : Option (xT_) := ((cq_pr 7 0 5 (a0) (a2) T).bind fun T190 => ((cq_gr 2 2 8 (a1) T190).bind fun v194 => ((cq_pr 2 2 8 (a2) (v194) T190).bind fun T197 => ((cq_gr 2 3 8 (a1) T197).bind fun v201 => ((cq_pr 2 3 8 (a2) (v201) T197).bind fun T204 => c99_27  f f (a0) (a1) (a2) (a3) (a4) (0) (0) T204)))))
theorem t99 {m f : Nat} {M0 M : xj_M} {T : xT_} (hS : xHS f) (h : xCX m M0 M T) {a0 : Nat} {a1 : Nat} {a2 : Nat} {a3 : Nat} {a4 : Int} {R : xT_} (ta4 : xin a4) (e : c99 f a0 a1 a2 a3 a4 T = some R) : xok (f99 f a0 a1 a2 a3 a4 M) (fun r => xCX m M0 r R) := by
  unfold c99 at e
  unfold f99
  obtain ⟨T190, q189, e⟩ := xbnd e
  obtain ⟨M191, q192, h193⟩ := h.pr (by decide) (by decide)  q189
  refine xok_eqb q192 ?_
  obtain ⟨v194, q195, e⟩ := xbnd e
  refine xok_eqb (h193.gr (by decide) (by decide) q195) ?_
  obtain ⟨T197, q196, e⟩ := xbnd e
  obtain ⟨M198, q199, h200⟩ := h193.pr (by decide) (by decide)  q196
  refine xok_eqb q199 ?_
  obtain ⟨v201, q202, e⟩ := xbnd e
  refine xok_eqb (h200.gr (by decide) (by decide) q202) ?_
  obtain ⟨T204, q203, e⟩ := xbnd e
  obtain ⟨M205, q206, h207⟩ := h200.pr (by decide) (by decide)  q203
  refine xok_eqb q206 ?_
  exact t99_27  hS  h207 ta4 (show xin (0) by decide) (show xin (0) by decide) e
/-- ChangeHouse.round -/
def c173_127  (f : Nat) (x0 : Nat) (x1 : Nat) (x2 : Nat) (x3 : Int) (x5 : Int) (T : xT_) : Option (Int × xT_) := (if ¬ (x5) = 0 then ((cq_gr 11 3 17 (x0) T).bind fun v102 => ((cq_is 10 18 (v102) T).bind fun _ => ((c162 f (v102) (x2) (x3) T).bind fun R104 => ((cq_gr 11 4 17 (x0) R104.2).bind fun v110 => ((cq_gr 11 3 17 (x0) R104.2).bind fun v112 => ((cq_gi 10 13 18 (v112) R104.2).bind fun v114 => ((cq_is 7 5 (v110) R104.2).bind fun _ => ((c99 f (v110) (x2) (R104.1) (x1) (v114) R104.2).bind fun R116 => ((cq_gr 11 3 17 (x0) R116).bind fun v122 => ((cq_gi 10 14 18 (v122) R116).bind fun v124 => ((cq_is 1 14 (x1) R116).bind fun _ => ((c10 f (x1) (v124) (x3) R116).bind fun R126 => ((cq_is 1 14 (x1) R126).bind fun _ => ((c11 f (x1) (R104.1) R126).bind fun R132 => ((cq_is 1 14 (x1) R132).bind fun _ => ((c7 f (x1) R132).bind fun R138 => ((cq_pr 11 12 17 (x0) (x2) R138).bind fun T145 => ((cq_pr 11 13 17 (x0) (R104.1) T145).bind fun T150 => ((cq_gi 2 4 8 (R104.1) T150).bind fun v154 => (some (v154, T150))))))))))))))))))))) else ((cq_gi 11 8 17 (x0) T).bind fun v156 => ((cq_p 11 8 17 (x0) (xwr ((v156) + (1))) T).bind fun T159 => ((cq_is 1 14 (x1) T159).bind fun _ => ((c7 f (x1) T159).bind fun R163 => (some (-1, R163)))))))
theorem t173_127 {m f : Nat} {M0 M : xj_M} {T : xT_} (hS : xHS f)   (h : xCX m M0 M T) {x0 : Nat} {x1 : Nat} {x2 : Nat} {x3 : Int} {x5 : Int} {R : Int × xT_} (tx3 : xin x3) (tx5 : xin x5) (e : c173_127  f x0 x1 x2 x3 x5 T = some R) : xok (f173_127  f x0 x1 x2 x3 x5 M) (fun r => r.1 = R.1 ∧ xCX m M0 r.2 R.2 ∧ xin R.1) := by
  unfold c173_127 at e
  unfold f173_127
  refine xok_ite (fun c101 => ?_) (fun c101 => ?_)
  · rw [if_pos c101] at e
    obtain ⟨v102, q103, e⟩ := xbnd e
    refine xok_eqb (h.gr (by decide) (by decide) q103) ?_
    obtain ⟨_, q109, e⟩ := xbnd e
    obtain ⟨R104, e105, e⟩ := xbnd e
    refine xok_eqb (h.is q109) ?_
    refine xok_call (t162 hS h tx3 e105) ?_
    rintro ⟨v_, M106⟩ ⟨hv_, h107⟩
    cases hv_
    obtain ⟨v110, q111, e⟩ := xbnd e
    refine xok_eqb (h107.gr (by decide) (by decide) q111) ?_
    obtain ⟨v112, q113, e⟩ := xbnd e
    refine xok_eqb (h107.gr (by decide) (by decide) q113) ?_
    obtain ⟨v114, q115, e⟩ := xbnd e
    refine xok_eqb (h107.gi (by decide) (by decide) q115).1 ?_
    obtain ⟨_, q121, e⟩ := xbnd e
    obtain ⟨R116, e117, e⟩ := xbnd e
    refine xok_eqb (h107.is q121) ?_
    refine xok_call (t99 hS h107 (h107.gi (by decide) (by decide) q115).2 e117) ?_
    intro M118 h119
    obtain ⟨v122, q123, e⟩ := xbnd e
    refine xok_eqb (h119.gr (by decide) (by decide) q123) ?_
    obtain ⟨v124, q125, e⟩ := xbnd e
    refine xok_eqb (h119.gi (by decide) (by decide) q125).1 ?_
    obtain ⟨_, q131, e⟩ := xbnd e
    obtain ⟨R126, e127, e⟩ := xbnd e
    refine xok_eqb (h119.is q131) ?_
    refine xok_call (t10 hS h119 (h119.gi (by decide) (by decide) q125).2 tx3 e127) ?_
    intro M128 h129
    obtain ⟨_, q137, e⟩ := xbnd e
    obtain ⟨R132, e133, e⟩ := xbnd e
    refine xok_eqb (h129.is q137) ?_
    refine xok_call (t11 hS h129  e133) ?_
    intro M134 h135
    obtain ⟨_, q143, e⟩ := xbnd e
    obtain ⟨R138, e139, e⟩ := xbnd e
    refine xok_eqb (h135.is q143) ?_
    refine xok_call (t7 hS h135  e139) ?_
    intro M140 h141
    obtain ⟨T145, q144, e⟩ := xbnd e
    obtain ⟨M146, q147, h148⟩ := h141.pr (by decide) (by decide)  q144
    refine xok_eqb q147 ?_
    obtain ⟨T150, q149, e⟩ := xbnd e
    obtain ⟨M151, q152, h153⟩ := h148.pr (by decide) (by decide)  q149
    refine xok_eqb q152 ?_
    obtain ⟨v154, q155, e⟩ := xbnd e
    refine xok_eqb (h153.gi (by decide) (by decide) q155).1 ?_
    cases e
    exact ⟨_, rfl, rfl, h153, (h153.gi (by decide) (by decide) q155).2⟩
  · rw [if_neg c101] at e
    obtain ⟨v156, q157, e⟩ := xbnd e
    refine xok_eqb (h.gi (by decide) (by decide) q157).1 ?_
    obtain ⟨T159, q158, e⟩ := xbnd e
    obtain ⟨M160, q161, h162⟩ := h.pi (by decide) (by decide) (xin_wr _) q158
    refine xok_eqb q161 ?_
    obtain ⟨_, q168, e⟩ := xbnd e
    obtain ⟨R163, e164, e⟩ := xbnd e
    refine xok_eqb (h162.is q168) ?_
    refine xok_call (t7 hS h162  e164) ?_
    intro M165 h166
    cases e
    exact ⟨_, rfl, rfl, h166, (show xin (-1) by decide)⟩
def c173_88b (r88 : Nat → Nat → Nat → Int → Nat → Int → Int → xT_ → Option (Int × xT_)) (f : Nat) (x0 : Nat) (x1 : Nat) (x2 : Nat) (x3 : Int) (x4 : Nat) (x5 : Int) (x6 : Int) (T : xT_) : Option (Int × xT_) := (if (x5) = 0 then c173_127  f (x0) (x1) (x2) (x3) (x5) T else ((cq_gi 3 12 14 (x4) T).bind fun v170 => (if (v170) ≤ (x6) then c173_127  f (x0) (x1) (x2) (x3) (x5) T else ((cq_gr 11 3 17 (x0) T).bind fun v173 => ((cq_gr 3 11 14 (x4) T).bind fun v175 => ((cq_a 3 (v175) (x6) T).bind fun v177 => ((cq_is 10 18 (v173) T).bind fun _ => ((c149 f (v173) (v177) (x3) T).bind fun R179 => r88 (x0) (x1) (x2) (x3) (x4) (R179.1) (xwr ((x6) + (1))) R179.2))))))))
theorem t173_88b {m f : Nat} {M0 M : xj_M} {T : xT_} (hS : xHS f) {r88 : Nat → Nat → Nat → Int → Nat → Int → Int → xT_ → Option (Int × xT_)} {o88 : Nat → Nat → Nat → Int → Nat → Int → Int → xj_M → Option (Int × xj_M)} (hr88 : ∀ {M : xj_M} {T : xT_} {x0 : Nat} {x1 : Nat} {x2 : Nat} {x3 : Int} {x4 : Nat} {x5 : Int} {x6 : Int} {R : Int × xT_}, xCX m M0 M T → xin x3 → xin x5 → xin x6 → r88 x0 x1 x2 x3 x4 x5 x6 T = some R → xok (o88 x0 x1 x2 x3 x4 x5 x6 M) (fun r => r.1 = R.1 ∧ xCX m M0 r.2 R.2 ∧ xin R.1)) (h : xCX m M0 M T) {x0 : Nat} {x1 : Nat} {x2 : Nat} {x3 : Int} {x4 : Nat} {x5 : Int} {x6 : Int} {R : Int × xT_} (tx3 : xin x3) (tx5 : xin x5) (tx6 : xin x6) (e : c173_88b r88 f x0 x1 x2 x3 x4 x5 x6 T = some R) : xok (f173_88b o88 f x0 x1 x2 x3 x4 x5 x6 M) (fun r => r.1 = R.1 ∧ xCX m M0 r.2 R.2 ∧ xin R.1) := by
  unfold c173_88b at e
  unfold f173_88b
  refine xok_ite (fun c169 => ?_) (fun c169 => ?_)
  · rw [if_pos c169] at e
    exact t173_127  hS  h tx3 tx5 e
  · rw [if_neg c169] at e
    obtain ⟨v170, q171, e⟩ := xbnd e
    refine xok_eqb (h.gi (by decide) (by decide) q171).1 ?_
    refine xok_ite (fun c172 => ?_) (fun c172 => ?_)
    · rw [if_pos c172] at e
      exact t173_127  hS  h tx3 tx5 e
    · rw [if_neg c172] at e
      obtain ⟨v173, q174, e⟩ := xbnd e
      refine xok_eqb (h.gr (by decide) (by decide) q174) ?_
      obtain ⟨v175, q176, e⟩ := xbnd e
      refine xok_eqb (h.gr (by decide) (by decide) q176) ?_
      obtain ⟨v177, q178, e⟩ := xbnd e
      refine xok_eqb (h.ai (by decide) q178).1 ?_
      obtain ⟨_, q184, e⟩ := xbnd e
      obtain ⟨R179, e180, e⟩ := xbnd e
      refine xok_eqb (h.is q184) ?_
      refine xok_call (t149 hS h (h.ai (by decide) q178).2 tx3 e180) ?_
      rintro ⟨v_, M181⟩ ⟨hv_, h182, hi183⟩
      cases hv_
      exact hr88 h182 tx3 hi183 (xin_wr _) e
def c173_88  (f : Nat) : Nat → Nat → Nat → Nat → Int → Nat → Int → Int → xT_ → Option (Int × xT_)
  | 0, _, _, _, _, _, _, _, _ => none
  | n + 1, x0, x1, x2, x3, x4, x5, x6, T => c173_88b  (c173_88  f n) f x0 x1 x2 x3 x4 x5 x6 T
theorem t173_88 {m f : Nat} {M0 : xj_M} (hS : xHS f)   : ∀ {n : Nat} {M : xj_M} {T : xT_} {x0 : Nat} {x1 : Nat} {x2 : Nat} {x3 : Int} {x4 : Nat} {x5 : Int} {x6 : Int} {R : Int × xT_}, xCX m M0 M T → xin x3 → xin x5 → xin x6 → c173_88  f n x0 x1 x2 x3 x4 x5 x6 T = some R → xok (f173_88  f n x0 x1 x2 x3 x4 x5 x6 M) (fun r => r.1 = R.1 ∧ xCX m M0 r.2 R.2 ∧ xin R.1) := by
  intro n
  induction n with
  | zero => intros; rename_i e; cases e
  | succ n ih =>
    intros
    rename_i h i0 i1 i2 e
    exact t173_88b hS  @ih h i0 i1 i2 e
def c173_83  (f : Nat) (x0 : Nat) (x1 : Nat) (x2 : Nat) (x3 : Int) (x4 : Nat) (y0 : Int) (T : xT_) : Option (Int × xT_) := c173_88  f f (x0) (x1) (x2) (x3) (x4) (y0) (0) T
theorem t173_83 {m f : Nat} {M0 M : xj_M} {T : xT_} (hS : xHS f)   (h : xCX m M0 M T) {x0 : Nat} {x1 : Nat} {x2 : Nat} {x3 : Int} {x4 : Nat} {y0 : Int} {R : Int × xT_} (tx3 : xin x3) (ty0 : xin y0) (e : c173_83  f x0 x1 x2 x3 x4 y0 T = some R) : xok (f173_83  f x0 x1 x2 x3 x4 y0 M) (fun r => r.1 = R.1 ∧ xCX m M0 r.2 R.2 ∧ xin R.1) := by
  unfold c173_83 at e
  unfold f173_83
  exact t173_88  hS  h tx3 ty0 (show xin (0) by decide) e
def c173_82  (f : Nat) (x0 : Nat) (x1 : Nat) (x2 : Nat) (x3 : Int) (x4 : Nat) (T : xT_) : Option (Int × xT_) := c173_83  f (x0) (x1) (x2) (x3) (x4) (0) T
theorem t173_82 {m f : Nat} {M0 M : xj_M} {T : xT_} (hS : xHS f)   (h : xCX m M0 M T) {x0 : Nat} {x1 : Nat} {x2 : Nat} {x3 : Int} {x4 : Nat} {R : Int × xT_} (tx3 : xin x3) (e : c173_82  f x0 x1 x2 x3 x4 T = some R) : xok (f173_82  f x0 x1 x2 x3 x4 M) (fun r => r.1 = R.1 ∧ xCX m M0 r.2 R.2 ∧ xin R.1) := by
  unfold c173_82 at e
  unfold f173_82
  exact t173_83  hS  h tx3 (show xin (0) by decide) e
def c173_43  (f : Nat) (x0 : Nat) (x1 : Nat) (x2 : Nat) (x3 : Int) (y0 : Nat) (T : xT_) : Option (Int × xT_) := ((cq_gr 11 3 17 (x0) T).bind fun v185 => ((cq_is 10 18 (v185) T).bind fun _ => ((c145 f (v185) (x2) (y0) T).bind fun R187 => ((cq_gi 1 1 14 (x1) R187).bind fun v193 => (if (520) ≤ (xwr ((v193) + (1))) then c173_82  f (x0) (x1) (x2) (x3) (y0) R187 else ((cq_gr 11 3 17 (x0) R187).bind fun v196 => ((cq_is 10 18 (v196) R187).bind fun _ => ((c146 f (v196) (x1) R187).bind fun R198 => (if (R198.1) = 0 then c173_82  f (x0) (x1) (x2) (x3) (y0) R198.2 else c173_83  f (x0) (x1) (x2) (x3) (y0) (1) R198.2)))))))))
theorem t173_43 {m f : Nat} {M0 M : xj_M} {T : xT_} (hS : xHS f)   (h : xCX m M0 M T) {x0 : Nat} {x1 : Nat} {x2 : Nat} {x3 : Int} {y0 : Nat} {R : Int × xT_} (tx3 : xin x3) (e : c173_43  f x0 x1 x2 x3 y0 T = some R) : xok (f173_43  f x0 x1 x2 x3 y0 M) (fun r => r.1 = R.1 ∧ xCX m M0 r.2 R.2 ∧ xin R.1) := by
  unfold c173_43 at e
  unfold f173_43
  obtain ⟨v185, q186, e⟩ := xbnd e
  refine xok_eqb (h.gr (by decide) (by decide) q186) ?_
  obtain ⟨_, q192, e⟩ := xbnd e
  obtain ⟨R187, e188, e⟩ := xbnd e
  refine xok_eqb (h.is q192) ?_
  refine xok_call (t145 hS h  e188) ?_
  intro M189 h190
  obtain ⟨v193, q194, e⟩ := xbnd e
  refine xok_eqb (h190.gi (by decide) (by decide) q194).1 ?_
  refine xok_ite (fun c195 => ?_) (fun c195 => ?_)
  · rw [if_pos c195] at e
    exact t173_82  hS  h190 tx3 e
  · rw [if_neg c195] at e
    obtain ⟨v196, q197, e⟩ := xbnd e
    refine xok_eqb (h190.gr (by decide) (by decide) q197) ?_
    obtain ⟨_, q203, e⟩ := xbnd e
    obtain ⟨R198, e199, e⟩ := xbnd e
    refine xok_eqb (h190.is q203) ?_
    refine xok_call (t146 hS h190  e199) ?_
    rintro ⟨v_, M200⟩ ⟨hv_, h201, hi202⟩
    cases hv_
    refine xok_ite (fun c204 => ?_) (fun c204 => ?_)
    · rw [if_pos c204] at e
      exact t173_82  hS  h201 tx3 e
    · rw [if_neg c204] at e
      exact t173_83  hS  h201 tx3 (show xin (1) by decide) e
def c173_27  (f : Nat) (x0 : Nat) (x1 : Nat) (x2 : Nat) (y0 : Int) (T : xT_) : Option (Int × xT_) := (if (y0) = 0 then ((cq_gr 2 0 8 (x2) T).bind fun v206 => c173_43  f (x0) (x1) (x2) (y0) (v206) T) else ((cq_gr 1 7 14 (x1) T).bind fun v208 => c173_43  f (x0) (x1) (x2) (y0) (v208) T))
theorem t173_27 {m f : Nat} {M0 M : xj_M} {T : xT_} (hS : xHS f)   (h : xCX m M0 M T) {x0 : Nat} {x1 : Nat} {x2 : Nat} {y0 : Int} {R : Int × xT_} (ty0 : xin y0) (e : c173_27  f x0 x1 x2 y0 T = some R) : xok (f173_27  f x0 x1 x2 y0 M) (fun r => r.1 = R.1 ∧ xCX m M0 r.2 R.2 ∧ xin R.1) := by
  unfold c173_27 at e
  unfold f173_27
  refine xok_ite (fun c205 => ?_) (fun c205 => ?_)
  · rw [if_pos c205] at e
    obtain ⟨v206, q207, e⟩ := xbnd e
    refine xok_eqb (h.gr (by decide) (by decide) q207) ?_
    exact t173_43  hS  h ty0 e
  · rw [if_neg c205] at e
    obtain ⟨v208, q209, e⟩ := xbnd e
    refine xok_eqb (h.gr (by decide) (by decide) q209) ?_
    exact t173_43  hS  h ty0 e
def c173 (f : Nat) (a0 : Nat) (T : xT_) : Option (Int × xT_) := ((cq_gr 11 5 17 (a0) T).bind fun v210 => ((cq_gi 11 6 17 (a0) T).bind fun v212 => ((cq_ar (v210) (v212) T).bind fun v214 => ((cq_is 1 14 (v214) T).bind fun _ => ((c5 f (v214) T).bind fun R216 => ((cq_gr 1 7 14 (v214) R216.2).bind fun v222 => (if (v222) = 0 then c173_27  f (a0) (v214) (R216.1) (0) R216.2 else c173_27  f (a0) (v214) (R216.1) (1) R216.2)))))))
theorem t173 {m f : Nat} {M0 M : xj_M} {T : xT_} (hS : xHS f) (h : xCX m M0 M T) {a0 : Nat} {R : Int × xT_}  (e : c173 f a0 T = some R) : xok (f173 f a0 M) (fun r => r.1 = R.1 ∧ xCX m M0 r.2 R.2 ∧ xin R.1) := by
  unfold c173 at e
  unfold f173
  obtain ⟨v210, q211, e⟩ := xbnd e
  refine xok_eqb (h.gr (by decide) (by decide) q211) ?_
  obtain ⟨v212, q213, e⟩ := xbnd e
  refine xok_eqb (h.gi (by decide) (by decide) q213).1 ?_
  obtain ⟨v214, q215, e⟩ := xbnd e
  refine xok_eqb (h.ar q215) ?_
  obtain ⟨_, q221, e⟩ := xbnd e
  obtain ⟨R216, e217, e⟩ := xbnd e
  refine xok_eqb (h.is q221) ?_
  refine xok_call (t5 hS h  e217) ?_
  rintro ⟨v_, M218⟩ ⟨hv_, h219⟩
  cases hv_
  obtain ⟨v222, q223, e⟩ := xbnd e
  refine xok_eqb (h219.gr (by decide) (by decide) q223) ?_
  refine xok_ite (fun c224 => ?_) (fun c224 => ?_)
  · rw [if_pos c224] at e
    exact t173_27  hS  h219 (show xin (0) by decide) e
  · rw [if_neg c224] at e
    exact t173_27  hS  h219 (show xin (1) by decide) e
/-- ChangeHouse.program -/
def c1000_50  (f : Nat) (x0 : Nat) (x1 : Nat) (x2 : Int) (T : xT_) : Option (Int × xT_) := ((cq_gr 11 0 17 (x0) T).bind fun v101 => ((cq_p 8 1 8 (v101) (0) T).bind fun T104 => (if ¬ (x2) = 0 then ((cq_gr 11 1 17 (x0) T104).bind fun v109 => ((cq_is 4 20 (v109) T104).bind fun _ => ((c62 f (v109) T104).bind fun R111 => (if (R111.1) = 0 then ((cq_gr 11 5 17 (x0) R111.2).bind fun v118 => ((cq_gi 11 6 17 (x0) R111.2).bind fun v120 => ((cq_ar (v118) (v120) R111.2).bind fun v122 => ((cq_pr 1 7 14 (v122) (x1) R111.2).bind fun T125 => ((cq_p 1 8 14 (v122) (0) T125).bind fun T130 => ((cq_gi 3 8 14 (x1) T130).bind fun v134 => (some (v134, T130)))))))) else ((cq_gr 11 1 17 (x0) R111.2).bind fun v136 => ((cq_gi 4 2 20 (v136) R111.2).bind fun v138 => ((cq_p 11 9 17 (x0) (v138) R111.2).bind fun T141 => (some (xwr ((-5000) - (R111.1)), T141))))))))) else ((cq_gr 11 1 17 (x0) T104).bind fun v145 => ((cq_gi 4 2 20 (v145) T104).bind fun v147 => (some (xwr ((-1) - (v147)), T104)))))))
theorem t1000_50 {m f : Nat} {M0 M : xj_M} {T : xT_} (hS : xHS f)   (h : xCX m M0 M T) {x0 : Nat} {x1 : Nat} {x2 : Int} {R : Int × xT_} (tx2 : xin x2) (e : c1000_50  f x0 x1 x2 T = some R) : xok (f1000_50  f x0 x1 x2 M) (fun r => r.1 = R.1 ∧ xCX m M0 r.2 R.2 ∧ xin R.1) := by
  unfold c1000_50 at e
  unfold f1000_50
  obtain ⟨v101, q102, e⟩ := xbnd e
  refine xok_eqb (h.gr (by decide) (by decide) q102) ?_
  obtain ⟨T104, q103, e⟩ := xbnd e
  obtain ⟨M105, q106, h107⟩ := h.pi (by decide) (by decide) (show xin (0) by decide) q103
  refine xok_eqb q106 ?_
  refine xok_ite (fun c108 => ?_) (fun c108 => ?_)
  · rw [if_pos c108] at e
    obtain ⟨v109, q110, e⟩ := xbnd e
    refine xok_eqb (h107.gr (by decide) (by decide) q110) ?_
    obtain ⟨_, q116, e⟩ := xbnd e
    obtain ⟨R111, e112, e⟩ := xbnd e
    refine xok_eqb (h107.is q116) ?_
    refine xok_call (t62 hS h107  e112) ?_
    rintro ⟨v_, M113⟩ ⟨hv_, h114, hi115⟩
    cases hv_
    refine xok_ite (fun c117 => ?_) (fun c117 => ?_)
    · rw [if_pos c117] at e
      obtain ⟨v118, q119, e⟩ := xbnd e
      refine xok_eqb (h114.gr (by decide) (by decide) q119) ?_
      obtain ⟨v120, q121, e⟩ := xbnd e
      refine xok_eqb (h114.gi (by decide) (by decide) q121).1 ?_
      obtain ⟨v122, q123, e⟩ := xbnd e
      refine xok_eqb (h114.ar q123) ?_
      obtain ⟨T125, q124, e⟩ := xbnd e
      obtain ⟨M126, q127, h128⟩ := h114.pr (by decide) (by decide)  q124
      refine xok_eqb q127 ?_
      obtain ⟨T130, q129, e⟩ := xbnd e
      obtain ⟨M131, q132, h133⟩ := h128.pi (by decide) (by decide) (show xin (0) by decide) q129
      refine xok_eqb q132 ?_
      obtain ⟨v134, q135, e⟩ := xbnd e
      refine xok_eqb (h133.gi (by decide) (by decide) q135).1 ?_
      cases e
      exact ⟨_, rfl, rfl, h133, (h133.gi (by decide) (by decide) q135).2⟩
    · rw [if_neg c117] at e
      obtain ⟨v136, q137, e⟩ := xbnd e
      refine xok_eqb (h114.gr (by decide) (by decide) q137) ?_
      obtain ⟨v138, q139, e⟩ := xbnd e
      refine xok_eqb (h114.gi (by decide) (by decide) q139).1 ?_
      obtain ⟨T141, q140, e⟩ := xbnd e
      obtain ⟨M142, q143, h144⟩ := h114.pi (by decide) (by decide) (h114.gi (by decide) (by decide) q139).2 q140
      refine xok_eqb q143 ?_
      cases e
      exact ⟨_, rfl, rfl, h144, (xin_wr _)⟩
  · rw [if_neg c108] at e
    obtain ⟨v145, q146, e⟩ := xbnd e
    refine xok_eqb (h107.gr (by decide) (by decide) q146) ?_
    obtain ⟨v147, q148, e⟩ := xbnd e
    refine xok_eqb (h107.gi (by decide) (by decide) q148).1 ?_
    cases e
    exact ⟨_, rfl, rfl, h107, (xin_wr _)⟩
def c1000 (f : Nat) (a0 : Nat) (T : xT_) : Option (Int × xT_) := ((cq_p 11 9 17 (a0) (-1) T).bind fun T150 => ((cq_gi 11 7 17 (a0) T150).bind fun v154 => ((cq_p 11 7 17 (a0) (xwr ((v154) + (1))) T150).bind fun T157 => ((cq_nw 3 14 T157).bind fun p161 => ((cq_gi 11 7 17 (a0) p161.2).bind fun v166 => ((c19 f (p161.1) (v166) p161.2).bind fun R168 => ((cq_gr 11 0 17 (a0) R168).bind fun v173 => ((cq_is 8 8 (v173) R168).bind fun _ => ((c112 f (v173) R168).bind fun R175 => ((cq_gr 11 1 17 (a0) R175).bind fun v181 => ((cq_is 4 20 (v181) R175).bind fun _ => ((c30 f (v181) (p161.1) R175).bind fun R183 => chd R183 0 (c1000_50  f (a0) (p161.1) (0) R183.2) (fun _ => c1000_50  f (a0) (p161.1) (1) R183.2)))))))))))))
theorem t1000 {m f : Nat} {M0 M : xj_M} {T : xT_} (hS : xHS f) (h : xCX m M0 M T) {a0 : Nat} {R : Int × xT_}  (e : c1000 f a0 T = some R) : xok (f1000 f a0 M) (fun r => r.1 = R.1 ∧ xCX m M0 r.2 R.2 ∧ xin R.1) := by
  unfold c1000 at e
  unfold f1000
  obtain ⟨T150, q149, e⟩ := xbnd e
  obtain ⟨M151, q152, h153⟩ := h.pi (by decide) (by decide) (show xin (-1) by decide) q149
  refine xok_eqb q152 ?_
  obtain ⟨v154, q155, e⟩ := xbnd e
  refine xok_eqb (h153.gi (by decide) (by decide) q155).1 ?_
  obtain ⟨T157, q156, e⟩ := xbnd e
  obtain ⟨M158, q159, h160⟩ := h153.pi (by decide) (by decide) (xin_wr _) q156
  refine xok_eqb q159 ?_
  obtain ⟨p161, q162, e⟩ := xbnd e
  obtain ⟨M163, q164, h165⟩ := h160.nw (by decide +kernel) (by decide +kernel) q162
  refine xok_eqb q164 ?_
  dsimp only
  obtain ⟨v166, q167, e⟩ := xbnd e
  refine xok_eqb (h165.gi (by decide) (by decide) q167).1 ?_
  obtain ⟨R168, e169, e⟩ := xbnd e
  refine xok_call (t19 hS h165 (h165.gi (by decide) (by decide) q167).2 e169) ?_
  intro M170 h171
  obtain ⟨v173, q174, e⟩ := xbnd e
  refine xok_eqb (h171.gr (by decide) (by decide) q174) ?_
  obtain ⟨_, q180, e⟩ := xbnd e
  obtain ⟨R175, e176, e⟩ := xbnd e
  refine xok_eqb (h171.is q180) ?_
  refine xok_call (t112 hS h171  e176) ?_
  intro M177 h178
  obtain ⟨v181, q182, e⟩ := xbnd e
  refine xok_eqb (h178.gr (by decide) (by decide) q182) ?_
  obtain ⟨_, q188, e⟩ := xbnd e
  obtain ⟨R183, e184, e⟩ := xbnd e
  refine xok_eqb (h178.is q188) ?_
  refine xok_call (t30 hS h178  e184) ?_
  rintro ⟨v_, M185⟩ ⟨hv_, h186⟩
  cases hv_
  dsimp only
  cases g190 : R183.1 with
  | inl k_ =>
    obtain ⟨k2_, e⟩ := chd_l g190 e
    rw [xhd_e (by exact g190) k2_]
    exact t1000_50  hS  h186 (show xin (0) by decide) e
  | inr v189 =>
    rw [chd_r g190] at e
    rw [xhd_r (by exact g190)]
    exact t1000_50  hS  h186 (show xin (1) by decide) e
