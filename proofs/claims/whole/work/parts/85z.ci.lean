/-! The reference's constructors over their cells as functions (written by mk_ci.py) -/
-- ChangeHouseModel$Facts.<init>
theorem t193 {m f : Nat} {M0 M : xj_M} {T : xT_} (hS : xHS f) (h : xCX m M0 M T) {a0 : Nat} {R : xT_}  (e : c193 f a0 T = some R) : xok (f193 f a0 M) (fun r => xCX m M0 r R) := by
  unfold c193 at e
  unfold f193
  obtain ⟨_, q101, e⟩ := xbnd e
  refine xok_eqb q101 ?_
  obtain ⟨p102, q103, e⟩ := xbnd e
  obtain ⟨M104, q105, h106⟩ := h.na (by decide) q103
  refine xok_eqb q105 ?_
  dsimp only
  obtain ⟨T108, q107, e⟩ := xbnd e
  obtain ⟨M109, q110, h111⟩ := h106.pr (by decide) (by decide)  q107
  refine xok_eqb q110 ?_
  obtain ⟨p112, q113, e⟩ := xbnd e
  obtain ⟨M114, q115, h116⟩ := h111.na (by decide) q113
  refine xok_eqb q115 ?_
  dsimp only
  obtain ⟨T118, q117, e⟩ := xbnd e
  obtain ⟨M119, q120, h121⟩ := h116.pr (by decide) (by decide)  q117
  refine xok_eqb q120 ?_
  obtain ⟨p122, q123, e⟩ := xbnd e
  obtain ⟨M124, q125, h126⟩ := h121.na (by decide) q123
  refine xok_eqb q125 ?_
  dsimp only
  obtain ⟨T128, q127, e⟩ := xbnd e
  obtain ⟨M129, q130, h131⟩ := h126.pr (by decide) (by decide)  q127
  refine xok_eqb q130 ?_
  cases e
  exact ⟨_, rfl, h131⟩
-- ChangeHouseModel$Line.forget
theorem t202_12b {m f : Nat} {M0 M : xj_M} {T : xT_} (hS : xHS f) {r12 : Nat → Int → xT_ → Option (xT_)} {o12 : Nat → Int → xj_M → Option (xj_M)} (hr12 : ∀ {M : xj_M} {T : xT_} {x0 : Nat} {x1 : Int} {R : xT_}, xCX m M0 M T → xin x1 → r12 x0 x1 T = some R → xok (o12 x0 x1 M) (fun r => xCX m M0 r R)) (h : xCX m M0 M T) {x0 : Nat} {x1 : Int} {R : xT_} (tx1 : xin x1) (e : c202_12b r12 f x0 x1 T = some R) : xok (f202_12b o12 f x0 x1 M) (fun r => xCX m M0 r R) := by
  unfold c202_12b at e
  unfold f202_12b
  refine xok_ite (fun c101 => ?_) (fun c101 => ?_)
  · rw [if_pos c101] at e
    cases e
    exact ⟨_, rfl, h⟩
  · rw [if_neg c101] at e
    obtain ⟨v102, q103, e⟩ := xbnd e
    refine xok_eqb (h.gr (by decide) (by decide) q103) ?_
    obtain ⟨T105, q104, e⟩ := xbnd e
    obtain ⟨M106, q107, h108⟩ := h.si (show xin (-1) by decide) q104
    refine xok_eqb q107 ?_
    exact hr12 h108 (xin_wr _) e
theorem t202_12 {m f : Nat} {M0 : xj_M} (hS : xHS f)   : ∀ {n : Nat} {M : xj_M} {T : xT_} {x0 : Nat} {x1 : Int} {R : xT_}, xCX m M0 M T → xin x1 → c202_12  f n x0 x1 T = some R → xok (f202_12  f n x0 x1 M) (fun r => xCX m M0 r R) := by
  intro n
  induction n with
  | zero => intros; rename_i e; cases e
  | succ n ih =>
    intros
    rename_i h i0 e
    exact t202_12b hS  @ih h i0 e
theorem t202 {m f : Nat} {M0 M : xj_M} {T : xT_} (hS : xHS f) (h : xCX m M0 M T) {a0 : Nat} {R : xT_}  (e : c202 f a0 T = some R) : xok (f202 f a0 M) (fun r => xCX m M0 r R) := by
  unfold c202 at e
  unfold f202
  obtain ⟨T110, q109, e⟩ := xbnd e
  obtain ⟨M111, q112, h113⟩ := h.pi (by decide) (by decide) (show xin (0) by decide) q109
  refine xok_eqb q112 ?_
  obtain ⟨T115, q114, e⟩ := xbnd e
  obtain ⟨M116, q117, h118⟩ := h113.pi (by decide) (by decide) (show xin (-1) by decide) q114
  refine xok_eqb q117 ?_
  exact t202_12  hS  h118 (show xin (0) by decide) e
-- ChangeHouseModel$Program.<init>
theorem t204 {m f : Nat} {M0 M : xj_M} {T : xT_} (hS : xHS f) (h : xCX m M0 M T) {a0 : Nat} {R : xT_}  (e : c204 f a0 T = some R) : xok (f204 f a0 M) (fun r => xCX m M0 r R) := by
  unfold c204 at e
  unfold f204
  obtain ⟨_, q101, e⟩ := xbnd e
  refine xok_eqb q101 ?_
  obtain ⟨p102, q103, e⟩ := xbnd e
  obtain ⟨M104, q105, h106⟩ := h.na (by decide) q103
  refine xok_eqb q105 ?_
  dsimp only
  obtain ⟨T108, q107, e⟩ := xbnd e
  obtain ⟨M109, q110, h111⟩ := h106.pr (by decide) (by decide)  q107
  refine xok_eqb q110 ?_
  obtain ⟨p112, q113, e⟩ := xbnd e
  obtain ⟨M114, q115, h116⟩ := h111.na (by decide) q113
  refine xok_eqb q115 ?_
  dsimp only
  obtain ⟨T118, q117, e⟩ := xbnd e
  obtain ⟨M119, q120, h121⟩ := h116.pr (by decide) (by decide)  q117
  refine xok_eqb q120 ?_
  obtain ⟨p122, q123, e⟩ := xbnd e
  obtain ⟨M124, q125, h126⟩ := h121.na (by decide) q123
  refine xok_eqb q125 ?_
  dsimp only
  obtain ⟨T128, q127, e⟩ := xbnd e
  obtain ⟨M129, q130, h131⟩ := h126.pr (by decide) (by decide)  q127
  refine xok_eqb q130 ?_
  obtain ⟨p132, q133, e⟩ := xbnd e
  obtain ⟨M134, q135, h136⟩ := h131.na (by decide) q133
  refine xok_eqb q135 ?_
  dsimp only
  obtain ⟨T138, q137, e⟩ := xbnd e
  obtain ⟨M139, q140, h141⟩ := h136.pr (by decide) (by decide)  q137
  refine xok_eqb q140 ?_
  obtain ⟨p142, q143, e⟩ := xbnd e
  obtain ⟨M144, q145, h146⟩ := h141.na (by decide) q143
  refine xok_eqb q145 ?_
  dsimp only
  obtain ⟨T148, q147, e⟩ := xbnd e
  obtain ⟨M149, q150, h151⟩ := h146.pr (by decide) (by decide)  q147
  refine xok_eqb q150 ?_
  obtain ⟨p152, q153, e⟩ := xbnd e
  obtain ⟨M154, q155, h156⟩ := h151.na (by decide) q153
  refine xok_eqb q155 ?_
  dsimp only
  obtain ⟨T158, q157, e⟩ := xbnd e
  obtain ⟨M159, q160, h161⟩ := h156.pr (by decide) (by decide)  q157
  refine xok_eqb q160 ?_
  obtain ⟨p162, q163, e⟩ := xbnd e
  obtain ⟨M164, q165, h166⟩ := h161.na (by decide) q163
  refine xok_eqb q165 ?_
  dsimp only
  obtain ⟨T168, q167, e⟩ := xbnd e
  obtain ⟨M169, q170, h171⟩ := h166.pr (by decide) (by decide)  q167
  refine xok_eqb q170 ?_
  obtain ⟨p172, q173, e⟩ := xbnd e
  obtain ⟨M174, q175, h176⟩ := h171.na (by decide) q173
  refine xok_eqb q175 ?_
  dsimp only
  obtain ⟨T178, q177, e⟩ := xbnd e
  obtain ⟨M179, q180, h181⟩ := h176.pr (by decide) (by decide)  q177
  refine xok_eqb q180 ?_
  obtain ⟨p182, q183, e⟩ := xbnd e
  obtain ⟨M184, q185, h186⟩ := h181.na (by decide) q183
  refine xok_eqb q185 ?_
  dsimp only
  obtain ⟨T188, q187, e⟩ := xbnd e
  obtain ⟨M189, q190, h191⟩ := h186.pr (by decide) (by decide)  q187
  refine xok_eqb q190 ?_
  obtain ⟨p192, q193, e⟩ := xbnd e
  obtain ⟨M194, q195, h196⟩ := h191.na (by decide) q193
  refine xok_eqb q195 ?_
  dsimp only
  obtain ⟨T198, q197, e⟩ := xbnd e
  obtain ⟨M199, q200, h201⟩ := h196.pr (by decide) (by decide)  q197
  refine xok_eqb q200 ?_
  obtain ⟨p202, q203, e⟩ := xbnd e
  obtain ⟨M204, q205, h206⟩ := h201.na (by decide) q203
  refine xok_eqb q205 ?_
  dsimp only
  obtain ⟨T208, q207, e⟩ := xbnd e
  obtain ⟨M209, q210, h211⟩ := h206.pr (by decide) (by decide)  q207
  refine xok_eqb q210 ?_
  obtain ⟨p212, q213, e⟩ := xbnd e
  obtain ⟨M214, q215, h216⟩ := h211.na (by decide) q213
  refine xok_eqb q215 ?_
  dsimp only
  obtain ⟨T218, q217, e⟩ := xbnd e
  obtain ⟨M219, q220, h221⟩ := h216.pr (by decide) (by decide)  q217
  refine xok_eqb q220 ?_
  obtain ⟨p222, q223, e⟩ := xbnd e
  obtain ⟨M224, q225, h226⟩ := h221.na (by decide) q223
  refine xok_eqb q225 ?_
  dsimp only
  obtain ⟨T228, q227, e⟩ := xbnd e
  obtain ⟨M229, q230, h231⟩ := h226.pr (by decide) (by decide)  q227
  refine xok_eqb q230 ?_
  obtain ⟨p232, q233, e⟩ := xbnd e
  obtain ⟨M234, q235, h236⟩ := h231.na (by decide) q233
  refine xok_eqb q235 ?_
  dsimp only
  obtain ⟨T238, q237, e⟩ := xbnd e
  obtain ⟨M239, q240, h241⟩ := h236.pr (by decide) (by decide)  q237
  refine xok_eqb q240 ?_
  obtain ⟨p242, q243, e⟩ := xbnd e
  obtain ⟨M244, q245, h246⟩ := h241.na (by decide) q243
  refine xok_eqb q245 ?_
  dsimp only
  obtain ⟨T248, q247, e⟩ := xbnd e
  obtain ⟨M249, q250, h251⟩ := h246.pr (by decide) (by decide)  q247
  refine xok_eqb q250 ?_
  obtain ⟨p252, q253, e⟩ := xbnd e
  obtain ⟨M254, q255, h256⟩ := h251.na (by decide) q253
  refine xok_eqb q255 ?_
  dsimp only
  obtain ⟨T258, q257, e⟩ := xbnd e
  obtain ⟨M259, q260, h261⟩ := h256.pr (by decide) (by decide)  q257
  refine xok_eqb q260 ?_
  obtain ⟨p262, q263, e⟩ := xbnd e
  obtain ⟨M264, q265, h266⟩ := h261.na (by decide) q263
  refine xok_eqb q265 ?_
  dsimp only
  obtain ⟨T268, q267, e⟩ := xbnd e
  obtain ⟨M269, q270, h271⟩ := h266.pr (by decide) (by decide)  q267
  refine xok_eqb q270 ?_
  obtain ⟨p272, q273, e⟩ := xbnd e
  obtain ⟨M274, q275, h276⟩ := h271.na (by decide) q273
  refine xok_eqb q275 ?_
  dsimp only
  obtain ⟨T278, q277, e⟩ := xbnd e
  obtain ⟨M279, q280, h281⟩ := h276.pr (by decide) (by decide)  q277
  refine xok_eqb q280 ?_
  obtain ⟨p282, q283, e⟩ := xbnd e
  obtain ⟨M284, q285, h286⟩ := h281.na (by decide) q283
  refine xok_eqb q285 ?_
  dsimp only
  obtain ⟨T288, q287, e⟩ := xbnd e
  obtain ⟨M289, q290, h291⟩ := h286.pr (by decide) (by decide)  q287
  refine xok_eqb q290 ?_
  obtain ⟨p292, q293, e⟩ := xbnd e
  obtain ⟨M294, q295, h296⟩ := h291.na (by decide) q293
  refine xok_eqb q295 ?_
  dsimp only
  obtain ⟨T298, q297, e⟩ := xbnd e
  obtain ⟨M299, q300, h301⟩ := h296.pr (by decide) (by decide)  q297
  refine xok_eqb q300 ?_
  obtain ⟨p302, q303, e⟩ := xbnd e
  obtain ⟨M304, q305, h306⟩ := h301.na (by decide) q303
  refine xok_eqb q305 ?_
  dsimp only
  obtain ⟨T308, q307, e⟩ := xbnd e
  obtain ⟨M309, q310, h311⟩ := h306.pr (by decide) (by decide)  q307
  refine xok_eqb q310 ?_
  obtain ⟨p312, q313, e⟩ := xbnd e
  obtain ⟨M314, q315, h316⟩ := h311.na (by decide) q313
  refine xok_eqb q315 ?_
  dsimp only
  obtain ⟨T318, q317, e⟩ := xbnd e
  obtain ⟨M319, q320, h321⟩ := h316.pr (by decide) (by decide)  q317
  refine xok_eqb q320 ?_
  obtain ⟨p322, q323, e⟩ := xbnd e
  obtain ⟨M324, q325, h326⟩ := h321.na (by decide) q323
  refine xok_eqb q325 ?_
  dsimp only
  obtain ⟨T328, q327, e⟩ := xbnd e
  obtain ⟨M329, q330, h331⟩ := h326.pr (by decide) (by decide)  q327
  refine xok_eqb q330 ?_
  obtain ⟨p332, q333, e⟩ := xbnd e
  obtain ⟨M334, q335, h336⟩ := h331.na (by decide) q333
  refine xok_eqb q335 ?_
  dsimp only
  obtain ⟨T338, q337, e⟩ := xbnd e
  obtain ⟨M339, q340, h341⟩ := h336.pr (by decide) (by decide)  q337
  refine xok_eqb q340 ?_
  obtain ⟨p342, q343, e⟩ := xbnd e
  obtain ⟨M344, q345, h346⟩ := h341.na (by decide) q343
  refine xok_eqb q345 ?_
  dsimp only
  obtain ⟨T348, q347, e⟩ := xbnd e
  obtain ⟨M349, q350, h351⟩ := h346.pr (by decide) (by decide)  q347
  refine xok_eqb q350 ?_
  obtain ⟨p352, q353, e⟩ := xbnd e
  obtain ⟨M354, q355, h356⟩ := h351.na (by decide) q353
  refine xok_eqb q355 ?_
  dsimp only
  obtain ⟨T358, q357, e⟩ := xbnd e
  obtain ⟨M359, q360, h361⟩ := h356.pr (by decide) (by decide)  q357
  refine xok_eqb q360 ?_
  obtain ⟨p362, q363, e⟩ := xbnd e
  obtain ⟨M364, q365, h366⟩ := h361.na (by decide) q363
  refine xok_eqb q365 ?_
  dsimp only
  obtain ⟨T368, q367, e⟩ := xbnd e
  obtain ⟨M369, q370, h371⟩ := h366.pr (by decide) (by decide)  q367
  refine xok_eqb q370 ?_
  obtain ⟨p372, q373, e⟩ := xbnd e
  obtain ⟨M374, q375, h376⟩ := h371.na (by decide) q373
  refine xok_eqb q375 ?_
  dsimp only
  obtain ⟨T378, q377, e⟩ := xbnd e
  obtain ⟨M379, q380, h381⟩ := h376.pr (by decide) (by decide)  q377
  refine xok_eqb q380 ?_
  obtain ⟨p382, q383, e⟩ := xbnd e
  obtain ⟨M384, q385, h386⟩ := h381.na (by decide) q383
  refine xok_eqb q385 ?_
  dsimp only
  obtain ⟨T388, q387, e⟩ := xbnd e
  obtain ⟨M389, q390, h391⟩ := h386.pr (by decide) (by decide)  q387
  refine xok_eqb q390 ?_
  obtain ⟨p392, q393, e⟩ := xbnd e
  obtain ⟨M394, q395, h396⟩ := h391.na (by decide) q393
  refine xok_eqb q395 ?_
  dsimp only
  obtain ⟨T398, q397, e⟩ := xbnd e
  obtain ⟨M399, q400, h401⟩ := h396.pr (by decide) (by decide)  q397
  refine xok_eqb q400 ?_
  obtain ⟨p402, q403, e⟩ := xbnd e
  obtain ⟨M404, q405, h406⟩ := h401.na (by decide) q403
  refine xok_eqb q405 ?_
  dsimp only
  obtain ⟨T408, q407, e⟩ := xbnd e
  obtain ⟨M409, q410, h411⟩ := h406.pr (by decide) (by decide)  q407
  refine xok_eqb q410 ?_
  obtain ⟨p412, q413, e⟩ := xbnd e
  obtain ⟨M414, q415, h416⟩ := h411.na (by decide) q413
  refine xok_eqb q415 ?_
  dsimp only
  obtain ⟨T418, q417, e⟩ := xbnd e
  obtain ⟨M419, q420, h421⟩ := h416.pr (by decide) (by decide)  q417
  refine xok_eqb q420 ?_
  obtain ⟨p422, q423, e⟩ := xbnd e
  obtain ⟨M424, q425, h426⟩ := h421.na (by decide) q423
  refine xok_eqb q425 ?_
  dsimp only
  obtain ⟨T428, q427, e⟩ := xbnd e
  obtain ⟨M429, q430, h431⟩ := h426.pr (by decide) (by decide)  q427
  refine xok_eqb q430 ?_
  obtain ⟨p432, q433, e⟩ := xbnd e
  obtain ⟨M434, q435, h436⟩ := h431.na (by decide) q433
  refine xok_eqb q435 ?_
  dsimp only
  obtain ⟨T438, q437, e⟩ := xbnd e
  obtain ⟨M439, q440, h441⟩ := h436.pr (by decide) (by decide)  q437
  refine xok_eqb q440 ?_
  cases e
  exact ⟨_, rfl, h441⟩
-- ChangeHouseModel.isSmall
theorem t206_17 {m f : Nat} {M0 M : xj_M} {T : xT_} (hS : xHS f)   (h : xCX m M0 M T) {y0 : Int} {R : Int × xT_} (ty0 : xin y0) (e : c206_17  f y0 T = some R) : xok (f206_17  f y0 M) (fun r => r.1 = R.1 ∧ xCX m M0 r.2 R.2 ∧ xin R.1) := by
  unfold c206_17 at e
  unfold f206_17
  refine xok_ite (fun c101 => ?_) (fun c101 => ?_)
  · rw [if_pos c101] at e; cases e; exact ⟨_, rfl, rfl, h, ty0⟩
  · rw [if_neg c101] at e; cases e
theorem t206_16 {m f : Nat} {M0 M : xj_M} {T : xT_} (hS : xHS f)   (h : xCX m M0 M T)  {R : Int × xT_}  (e : c206_16  f  T = some R) : xok (f206_16  f  M) (fun r => r.1 = R.1 ∧ xCX m M0 r.2 R.2 ∧ xin R.1) := by
  unfold c206_16 at e
  unfold f206_16
  exact t206_17  hS  h (show xin (0) by decide) e
theorem t206 {m f : Nat} {M0 M : xj_M} {T : xT_} (hS : xHS f) (h : xCX m M0 M T) {a0 : Int} {R : Int × xT_} (ta0 : xin a0) (e : c206 f a0 T = some R) : xok (f206 f a0 M) (fun r => r.1 = R.1 ∧ xCX m M0 r.2 R.2 ∧ xin R.1) := by
  unfold c206 at e
  unfold f206
  refine xok_ite (fun c102 => ?_) (fun c102 => ?_)
  · rw [if_pos c102] at e
    exact t206_16  hS  h  e
  · rw [if_neg c102] at e
    refine xok_ite (fun c103 => ?_) (fun c103 => ?_)
    · rw [if_pos c103] at e
      exact t206_16  hS  h  e
    · rw [if_neg c103] at e
      exact t206_17  hS  h (show xin (1) by decide) e
-- ChangeHouseModel.isDigit
theorem t208_17 {m f : Nat} {M0 M : xj_M} {T : xT_} (hS : xHS f)   (h : xCX m M0 M T) {y0 : Int} {R : Int × xT_} (ty0 : xin y0) (e : c208_17  f y0 T = some R) : xok (f208_17  f y0 M) (fun r => r.1 = R.1 ∧ xCX m M0 r.2 R.2 ∧ xin R.1) := by
  unfold c208_17 at e
  unfold f208_17
  refine xok_ite (fun c101 => ?_) (fun c101 => ?_)
  · rw [if_pos c101] at e; cases e; exact ⟨_, rfl, rfl, h, ty0⟩
  · rw [if_neg c101] at e; cases e
theorem t208_16 {m f : Nat} {M0 M : xj_M} {T : xT_} (hS : xHS f)   (h : xCX m M0 M T)  {R : Int × xT_}  (e : c208_16  f  T = some R) : xok (f208_16  f  M) (fun r => r.1 = R.1 ∧ xCX m M0 r.2 R.2 ∧ xin R.1) := by
  unfold c208_16 at e
  unfold f208_16
  exact t208_17  hS  h (show xin (0) by decide) e
theorem t208 {m f : Nat} {M0 M : xj_M} {T : xT_} (hS : xHS f) (h : xCX m M0 M T) {a0 : Int} {R : Int × xT_} (ta0 : xin a0) (e : c208 f a0 T = some R) : xok (f208 f a0 M) (fun r => r.1 = R.1 ∧ xCX m M0 r.2 R.2 ∧ xin R.1) := by
  unfold c208 at e
  unfold f208
  refine xok_ite (fun c102 => ?_) (fun c102 => ?_)
  · rw [if_pos c102] at e
    exact t208_16  hS  h  e
  · rw [if_neg c102] at e
    refine xok_ite (fun c103 => ?_) (fun c103 => ?_)
    · rw [if_pos c103] at e
      exact t208_16  hS  h  e
    · rw [if_neg c103] at e
      exact t208_17  hS  h (show xin (1) by decide) e
-- ChangeHouseModel.digitOf
theorem t215_51 {m f : Nat} {M0 M : xj_M} {T : xT_} (hS : xHS f)   (h : xCX m M0 M T) {y0 : Int} {R : Int × xT_} (ty0 : xin y0) (e : c215_51  f y0 T = some R) : xok (f215_51  f y0 M) (fun r => r.1 = R.1 ∧ xCX m M0 r.2 R.2 ∧ xin R.1) := by
  unfold c215_51 at e
  unfold f215_51
  cases e
  exact ⟨_, rfl, rfl, h, ty0⟩
theorem t215 {m f : Nat} {M0 M : xj_M} {T : xT_} (hS : xHS f) (h : xCX m M0 M T) {a0 : Int} {R : Int × xT_} (ta0 : xin a0) (e : c215 f a0 T = some R) : xok (f215 f a0 M) (fun r => r.1 = R.1 ∧ xCX m M0 r.2 R.2 ∧ xin R.1) := by
  unfold c215 at e
  unfold f215
  obtain ⟨R101, e102, e⟩ := xbnd e
  refine xok_call (t206 hS h ta0 e102) ?_
  rintro ⟨v_, M103⟩ ⟨hv_, h104, hi105⟩
  cases hv_
  refine xok_ite (fun c106 => ?_) (fun c106 => ?_)
  · rw [if_pos c106] at e
    obtain ⟨R107, e108, e⟩ := xbnd e
    refine xok_call (t208 hS h104 ta0 e108) ?_
    rintro ⟨v_, M109⟩ ⟨hv_, h110, hi111⟩
    cases hv_
    refine xok_ite (fun c112 => ?_) (fun c112 => ?_)
    · rw [if_pos c112] at e
      refine xok_ite (fun c113 => ?_) (fun c113 => ?_)
      · rw [if_pos c113] at e
        exact t215_51  hS  h110 (xin_wr _) e
      · rw [if_neg c113] at e
        exact t215_51  hS  h110 (show xin (37) by decide) e
    · rw [if_neg c112] at e
      exact t215_51  hS  h110 (xin_wr _) e
  · rw [if_neg c106] at e
    exact t215_51  hS  h104 (xin_wr _) e
-- ChangeHouseModel.code
theorem t223_4b {m f : Nat} {M0 M : xj_M} {T : xT_} (hS : xHS f) {r4 : Nat → Int → Int → xT_ → Option (Int × xT_)} {o4 : Nat → Int → Int → xj_M → Option (Int × xj_M)} (hr4 : ∀ {M : xj_M} {T : xT_} {x0 : Nat} {x1 : Int} {x3 : Int} {R : Int × xT_}, xCX m M0 M T → xiN x1 → xin x3 → r4 x0 x1 x3 T = some R → xok (o4 x0 x1 x3 M) (fun r => r.1 = R.1 ∧ xCX m M0 r.2 R.2 ∧ xiN R.1)) (h : xCX m M0 M T) {x0 : Nat} {x1 : Int} {x3 : Int} {R : Int × xT_} (tx1 : xiN x1) (tx3 : xin x3) (e : c223_4b r4 f x0 x1 x3 T = some R) : xok (f223_4b o4 f x0 x1 x3 M) (fun r => r.1 = R.1 ∧ xCX m M0 r.2 R.2 ∧ xiN R.1) := by
  unfold c223_4b at e
  unfold f223_4b
  obtain ⟨_, q106, e⟩ := xbnd e
  obtain ⟨R101, e102, e⟩ := xbnd e
  refine xok_eqb q106 ?_
  refine xok_eqb (hS.xcsl  _ e102).1 ?_
  dsimp only
  refine xok_ite (fun c107 => ?_) (fun c107 => ?_)
  · rw [if_pos c107] at e
    cases e
    exact ⟨_, rfl, rfl, h, tx1⟩
  · rw [if_neg c107] at e
    obtain ⟨_, q113, e⟩ := xbnd e
    obtain ⟨R108, e109, e⟩ := xbnd e
    refine xok_eqb q113 ?_
    refine xok_eqb (hS.xcsa tx3 _ e109).1 ?_
    dsimp only
    obtain ⟨R114, e115, e⟩ := xbnd e
    refine xok_call (t215 hS h (hS.xcsa tx3 ([], 0) e109).2 e115) ?_
    rintro ⟨v_, M116⟩ ⟨hv_, h117, hi118⟩
    cases hv_
    exact hr4 h117 (xiN_wl _) (xin_wr _) e
theorem t223_4 {m f : Nat} {M0 : xj_M} (hS : xHS f)   : ∀ {n : Nat} {M : xj_M} {T : xT_} {x0 : Nat} {x1 : Int} {x3 : Int} {R : Int × xT_}, xCX m M0 M T → xiN x1 → xin x3 → c223_4  f n x0 x1 x3 T = some R → xok (f223_4  f n x0 x1 x3 M) (fun r => r.1 = R.1 ∧ xCX m M0 r.2 R.2 ∧ xiN R.1) := by
  intro n
  induction n with
  | zero => intros; rename_i e; cases e
  | succ n ih =>
    intros
    rename_i h i0 i1 e
    exact t223_4b hS  @ih h i0 i1 e
theorem t223 {m f : Nat} {M0 M : xj_M} {T : xT_} (hS : xHS f) (h : xCX m M0 M T) {a0 : Nat} {R : Int × xT_}  (e : c223 f a0 T = some R) : xok (f223 f a0 M) (fun r => r.1 = R.1 ∧ xCX m M0 r.2 R.2 ∧ xiN R.1) := by
  unfold c223 at e
  unfold f223
  exact t223_4  hS  h (show xiN (0) by decide) (show xin (0) by decide) e
-- ChangeHouseModel$Line.<init>
theorem t201 {m f : Nat} {M0 M : xj_M} {T : xT_} (hS : xHS f) (h : xCX m M0 M T) {a0 : Nat} {R : xT_}  (e : c201 f a0 T = some R) : xok (f201 f a0 M) (fun r => xCX m M0 r R) := by
  unfold c201 at e
  unfold f201
  obtain ⟨_, q101, e⟩ := xbnd e
  refine xok_eqb q101 ?_
  obtain ⟨p102, q103, e⟩ := xbnd e
  obtain ⟨M104, q105, h106⟩ := h.nw (by decide +kernel) (by decide +kernel) q103
  refine xok_eqb q105 ?_
  dsimp only
  obtain ⟨R107, e108, e⟩ := xbnd e
  refine xok_call (t193 hS h106  e108) ?_
  intro M109 h110
  obtain ⟨T113, q112, e⟩ := xbnd e
  obtain ⟨M114, q115, h116⟩ := h110.pr (by decide) (by decide)  q112
  refine xok_eqb q115 ?_
  obtain ⟨p117, q118, e⟩ := xbnd e
  obtain ⟨M119, q120, h121⟩ := h116.na (by decide) q118
  refine xok_eqb q120 ?_
  dsimp only
  obtain ⟨T123, q122, e⟩ := xbnd e
  obtain ⟨M124, q125, h126⟩ := h121.pr (by decide) (by decide)  q122
  refine xok_eqb q125 ?_
  obtain ⟨p127, q128, e⟩ := xbnd e
  obtain ⟨M129, q130, h131⟩ := h126.na (by decide) q128
  refine xok_eqb q130 ?_
  dsimp only
  obtain ⟨T133, q132, e⟩ := xbnd e
  obtain ⟨M134, q135, h136⟩ := h131.pr (by decide) (by decide)  q132
  refine xok_eqb q135 ?_
  obtain ⟨p137, q138, e⟩ := xbnd e
  obtain ⟨M139, q140, h141⟩ := h136.na (by decide) q138
  refine xok_eqb q140 ?_
  dsimp only
  obtain ⟨T143, q142, e⟩ := xbnd e
  obtain ⟨M144, q145, h146⟩ := h141.pr (by decide) (by decide)  q142
  refine xok_eqb q145 ?_
  obtain ⟨p147, q148, e⟩ := xbnd e
  obtain ⟨M149, q150, h151⟩ := h146.na (by decide) q148
  refine xok_eqb q150 ?_
  dsimp only
  obtain ⟨T153, q152, e⟩ := xbnd e
  obtain ⟨M154, q155, h156⟩ := h151.pr (by decide) (by decide)  q152
  refine xok_eqb q155 ?_
  obtain ⟨p157, q158, e⟩ := xbnd e
  obtain ⟨M159, q160, h161⟩ := h156.na (by decide) q158
  refine xok_eqb q160 ?_
  dsimp only
  obtain ⟨T163, q162, e⟩ := xbnd e
  obtain ⟨M164, q165, h166⟩ := h161.pr (by decide) (by decide)  q162
  refine xok_eqb q165 ?_
  obtain ⟨p167, q168, e⟩ := xbnd e
  obtain ⟨M169, q170, h171⟩ := h166.na (by decide) q168
  refine xok_eqb q170 ?_
  dsimp only
  obtain ⟨T173, q172, e⟩ := xbnd e
  obtain ⟨M174, q175, h176⟩ := h171.pr (by decide) (by decide)  q172
  refine xok_eqb q175 ?_
  obtain ⟨p177, q178, e⟩ := xbnd e
  obtain ⟨M179, q180, h181⟩ := h176.na (by decide) q178
  refine xok_eqb q180 ?_
  dsimp only
  obtain ⟨T183, q182, e⟩ := xbnd e
  obtain ⟨M184, q185, h186⟩ := h181.pr (by decide) (by decide)  q182
  refine xok_eqb q185 ?_
  obtain ⟨p187, q188, e⟩ := xbnd e
  obtain ⟨M189, q190, h191⟩ := h186.na (by decide) q188
  refine xok_eqb q190 ?_
  dsimp only
  obtain ⟨T193, q192, e⟩ := xbnd e
  obtain ⟨M194, q195, h196⟩ := h191.pr (by decide) (by decide)  q192
  refine xok_eqb q195 ?_
  obtain ⟨p197, q198, e⟩ := xbnd e
  obtain ⟨M199, q200, h201⟩ := h196.na (by decide) q198
  refine xok_eqb q200 ?_
  dsimp only
  obtain ⟨T203, q202, e⟩ := xbnd e
  obtain ⟨M204, q205, h206⟩ := h201.pr (by decide) (by decide)  q202
  refine xok_eqb q205 ?_
  obtain ⟨p207, q208, e⟩ := xbnd e
  obtain ⟨M209, q210, h211⟩ := h206.na (by decide) q208
  refine xok_eqb q210 ?_
  dsimp only
  obtain ⟨T213, q212, e⟩ := xbnd e
  obtain ⟨M214, q215, h216⟩ := h211.pr (by decide) (by decide)  q212
  refine xok_eqb q215 ?_
  obtain ⟨p217, q218, e⟩ := xbnd e
  obtain ⟨M219, q220, h221⟩ := h216.na (by decide) q218
  refine xok_eqb q220 ?_
  dsimp only
  obtain ⟨T223, q222, e⟩ := xbnd e
  obtain ⟨M224, q225, h226⟩ := h221.pr (by decide) (by decide)  q222
  refine xok_eqb q225 ?_
  obtain ⟨p227, q228, e⟩ := xbnd e
  obtain ⟨M229, q230, h231⟩ := h226.na (by decide) q228
  refine xok_eqb q230 ?_
  dsimp only
  obtain ⟨T233, q232, e⟩ := xbnd e
  obtain ⟨M234, q235, h236⟩ := h231.pr (by decide) (by decide)  q232
  refine xok_eqb q235 ?_
  obtain ⟨p237, q238, e⟩ := xbnd e
  obtain ⟨M239, q240, h241⟩ := h236.na (by decide) q238
  refine xok_eqb q240 ?_
  dsimp only
  obtain ⟨T243, q242, e⟩ := xbnd e
  obtain ⟨M244, q245, h246⟩ := h241.pr (by decide) (by decide)  q242
  refine xok_eqb q245 ?_
  obtain ⟨p247, q248, e⟩ := xbnd e
  obtain ⟨M249, q250, h251⟩ := h246.na (by decide) q248
  refine xok_eqb q250 ?_
  dsimp only
  obtain ⟨T253, q252, e⟩ := xbnd e
  obtain ⟨M254, q255, h256⟩ := h251.pr (by decide) (by decide)  q252
  refine xok_eqb q255 ?_
  obtain ⟨p257, q258, e⟩ := xbnd e
  obtain ⟨M259, q260, h261⟩ := h256.na (by decide) q258
  refine xok_eqb q260 ?_
  dsimp only
  obtain ⟨T263, q262, e⟩ := xbnd e
  obtain ⟨M264, q265, h266⟩ := h261.pr (by decide) (by decide)  q262
  refine xok_eqb q265 ?_
  obtain ⟨p267, q268, e⟩ := xbnd e
  obtain ⟨M269, q270, h271⟩ := h266.na (by decide) q268
  refine xok_eqb q270 ?_
  dsimp only
  obtain ⟨T273, q272, e⟩ := xbnd e
  obtain ⟨M274, q275, h276⟩ := h271.pr (by decide) (by decide)  q272
  refine xok_eqb q275 ?_
  obtain ⟨p277, q278, e⟩ := xbnd e
  obtain ⟨M279, q280, h281⟩ := h276.na (by decide) q278
  refine xok_eqb q280 ?_
  dsimp only
  obtain ⟨T283, q282, e⟩ := xbnd e
  obtain ⟨M284, q285, h286⟩ := h281.pr (by decide) (by decide)  q282
  refine xok_eqb q285 ?_
  obtain ⟨p287, q288, e⟩ := xbnd e
  obtain ⟨M289, q290, h291⟩ := h286.na (by decide) q288
  refine xok_eqb q290 ?_
  dsimp only
  obtain ⟨T293, q292, e⟩ := xbnd e
  obtain ⟨M294, q295, h296⟩ := h291.pr (by decide) (by decide)  q292
  refine xok_eqb q295 ?_
  obtain ⟨p297, q298, e⟩ := xbnd e
  obtain ⟨M299, q300, h301⟩ := h296.na (by decide) q298
  refine xok_eqb q300 ?_
  dsimp only
  obtain ⟨T303, q302, e⟩ := xbnd e
  obtain ⟨M304, q305, h306⟩ := h301.pr (by decide) (by decide)  q302
  refine xok_eqb q305 ?_
  obtain ⟨p307, q308, e⟩ := xbnd e
  obtain ⟨M309, q310, h311⟩ := h306.na (by decide) q308
  refine xok_eqb q310 ?_
  dsimp only
  obtain ⟨T313, q312, e⟩ := xbnd e
  obtain ⟨M314, q315, h316⟩ := h311.pr (by decide) (by decide)  q312
  refine xok_eqb q315 ?_
  obtain ⟨p317, q318, e⟩ := xbnd e
  obtain ⟨M319, q320, h321⟩ := h316.na (by decide) q318
  refine xok_eqb q320 ?_
  dsimp only
  obtain ⟨T323, q322, e⟩ := xbnd e
  obtain ⟨M324, q325, h326⟩ := h321.pr (by decide) (by decide)  q322
  refine xok_eqb q325 ?_
  obtain ⟨p327, q328, e⟩ := xbnd e
  obtain ⟨M329, q330, h331⟩ := h326.na (by decide) q328
  refine xok_eqb q330 ?_
  dsimp only
  obtain ⟨T333, q332, e⟩ := xbnd e
  obtain ⟨M334, q335, h336⟩ := h331.pr (by decide) (by decide)  q332
  refine xok_eqb q335 ?_
  obtain ⟨p337, q338, e⟩ := xbnd e
  obtain ⟨M339, q340, h341⟩ := h336.na (by decide) q338
  refine xok_eqb q340 ?_
  dsimp only
  obtain ⟨T343, q342, e⟩ := xbnd e
  obtain ⟨M344, q345, h346⟩ := h341.pr (by decide) (by decide)  q342
  refine xok_eqb q345 ?_
  obtain ⟨p347, q348, e⟩ := xbnd e
  obtain ⟨M349, q350, h351⟩ := h346.na (by decide) q348
  refine xok_eqb q350 ?_
  dsimp only
  obtain ⟨T353, q352, e⟩ := xbnd e
  obtain ⟨M354, q355, h356⟩ := h351.pr (by decide) (by decide)  q352
  refine xok_eqb q355 ?_
  obtain ⟨T358, q357, e⟩ := xbnd e
  obtain ⟨M359, q360, h361⟩ := h356.pi (by decide) (by decide) (show xin (-1) by decide) q357
  refine xok_eqb q360 ?_
  obtain ⟨T363, q362, e⟩ := xbnd e
  obtain ⟨M364, q365, h366⟩ := h361.pi (by decide) (by decide) (show xin (-1) by decide) q362
  refine xok_eqb q365 ?_
  obtain ⟨_, q372, e⟩ := xbnd e
  obtain ⟨R367, e368, e⟩ := xbnd e
  refine xok_eqb (h366.is q372) ?_
  refine xok_call (t202 hS h366  e368) ?_
  intro M369 h370
  cases e
  exact ⟨_, rfl, h370⟩
-- ChangeHouseModel.<init>
theorem t357 {m f : Nat} {M0 M : xj_M} {T : xT_} (hS : xHS f) (h : xCX m M0 M T) {a0 : Nat} {R : xT_}  (e : c357 f a0 T = some R) : xok (f357 f a0 M) (fun r => xCX m M0 r R) := by
  unfold c357 at e
  unfold f357
  obtain ⟨_, q101, e⟩ := xbnd e
  refine xok_eqb q101 ?_
  obtain ⟨R102, e103, e⟩ := xbnd e
  refine xok_call (t223 hS h  e103) ?_
  rintro ⟨v_, M104⟩ ⟨hv_, h105, hi106⟩
  cases hv_
  obtain ⟨T108, q107, e⟩ := xbnd e
  obtain ⟨M109, q110, h111⟩ := h105.pl (by decide) (by decide) hi106 q107
  refine xok_eqb q110 ?_
  obtain ⟨R112, e113, e⟩ := xbnd e
  refine xok_call (t223 hS h111  e113) ?_
  rintro ⟨v_, M114⟩ ⟨hv_, h115, hi116⟩
  cases hv_
  obtain ⟨T118, q117, e⟩ := xbnd e
  obtain ⟨M119, q120, h121⟩ := h115.pl (by decide) (by decide) hi116 q117
  refine xok_eqb q120 ?_
  obtain ⟨R122, e123, e⟩ := xbnd e
  refine xok_call (t223 hS h121  e123) ?_
  rintro ⟨v_, M124⟩ ⟨hv_, h125, hi126⟩
  cases hv_
  obtain ⟨T128, q127, e⟩ := xbnd e
  obtain ⟨M129, q130, h131⟩ := h125.pl (by decide) (by decide) hi126 q127
  refine xok_eqb q130 ?_
  obtain ⟨R132, e133, e⟩ := xbnd e
  refine xok_call (t223 hS h131  e133) ?_
  rintro ⟨v_, M134⟩ ⟨hv_, h135, hi136⟩
  cases hv_
  obtain ⟨T138, q137, e⟩ := xbnd e
  obtain ⟨M139, q140, h141⟩ := h135.pl (by decide) (by decide) hi136 q137
  refine xok_eqb q140 ?_
  obtain ⟨R142, e143, e⟩ := xbnd e
  refine xok_call (t223 hS h141  e143) ?_
  rintro ⟨v_, M144⟩ ⟨hv_, h145, hi146⟩
  cases hv_
  obtain ⟨T148, q147, e⟩ := xbnd e
  obtain ⟨M149, q150, h151⟩ := h145.pl (by decide) (by decide) hi146 q147
  refine xok_eqb q150 ?_
  obtain ⟨R152, e153, e⟩ := xbnd e
  refine xok_call (t223 hS h151  e153) ?_
  rintro ⟨v_, M154⟩ ⟨hv_, h155, hi156⟩
  cases hv_
  obtain ⟨T158, q157, e⟩ := xbnd e
  obtain ⟨M159, q160, h161⟩ := h155.pl (by decide) (by decide) hi156 q157
  refine xok_eqb q160 ?_
  obtain ⟨R162, e163, e⟩ := xbnd e
  refine xok_call (t223 hS h161  e163) ?_
  rintro ⟨v_, M164⟩ ⟨hv_, h165, hi166⟩
  cases hv_
  obtain ⟨T168, q167, e⟩ := xbnd e
  obtain ⟨M169, q170, h171⟩ := h165.pl (by decide) (by decide) hi166 q167
  refine xok_eqb q170 ?_
  obtain ⟨R172, e173, e⟩ := xbnd e
  refine xok_call (t223 hS h171  e173) ?_
  rintro ⟨v_, M174⟩ ⟨hv_, h175, hi176⟩
  cases hv_
  obtain ⟨T178, q177, e⟩ := xbnd e
  obtain ⟨M179, q180, h181⟩ := h175.pl (by decide) (by decide) hi176 q177
  refine xok_eqb q180 ?_
  obtain ⟨R182, e183, e⟩ := xbnd e
  refine xok_call (t223 hS h181  e183) ?_
  rintro ⟨v_, M184⟩ ⟨hv_, h185, hi186⟩
  cases hv_
  obtain ⟨T188, q187, e⟩ := xbnd e
  obtain ⟨M189, q190, h191⟩ := h185.pl (by decide) (by decide) hi186 q187
  refine xok_eqb q190 ?_
  obtain ⟨p192, q193, e⟩ := xbnd e
  obtain ⟨M194, q195, h196⟩ := h191.na (by decide) q193
  refine xok_eqb q195 ?_
  dsimp only
  obtain ⟨T198, q197, e⟩ := xbnd e
  obtain ⟨M199, q200, h201⟩ := h196.pr (by decide) (by decide)  q197
  refine xok_eqb q200 ?_
  obtain ⟨p202, q203, e⟩ := xbnd e
  obtain ⟨M204, q205, h206⟩ := h201.nw (by decide +kernel) (by decide +kernel) q203
  refine xok_eqb q205 ?_
  dsimp only
  obtain ⟨R207, e208, e⟩ := xbnd e
  refine xok_call (t204 hS h206  e208) ?_
  intro M209 h210
  obtain ⟨T213, q212, e⟩ := xbnd e
  obtain ⟨M214, q215, h216⟩ := h210.pr (by decide) (by decide)  q212
  refine xok_eqb q215 ?_
  obtain ⟨p217, q218, e⟩ := xbnd e
  obtain ⟨M219, q220, h221⟩ := h216.nw (by decide +kernel) (by decide +kernel) q218
  refine xok_eqb q220 ?_
  dsimp only
  obtain ⟨R222, e223, e⟩ := xbnd e
  refine xok_call (t204 hS h221  e223) ?_
  intro M224 h225
  obtain ⟨T228, q227, e⟩ := xbnd e
  obtain ⟨M229, q230, h231⟩ := h225.pr (by decide) (by decide)  q227
  refine xok_eqb q230 ?_
  obtain ⟨p232, q233, e⟩ := xbnd e
  obtain ⟨M234, q235, h236⟩ := h231.nw (by decide +kernel) (by decide +kernel) q233
  refine xok_eqb q235 ?_
  dsimp only
  obtain ⟨R237, e238, e⟩ := xbnd e
  refine xok_call (t204 hS h236  e238) ?_
  intro M239 h240
  obtain ⟨T243, q242, e⟩ := xbnd e
  obtain ⟨M244, q245, h246⟩ := h240.pr (by decide) (by decide)  q242
  refine xok_eqb q245 ?_
  obtain ⟨p247, q248, e⟩ := xbnd e
  obtain ⟨M249, q250, h251⟩ := h246.na (by decide) q248
  refine xok_eqb q250 ?_
  dsimp only
  obtain ⟨T253, q252, e⟩ := xbnd e
  obtain ⟨M254, q255, h256⟩ := h251.pr (by decide) (by decide)  q252
  refine xok_eqb q255 ?_
  obtain ⟨p257, q258, e⟩ := xbnd e
  obtain ⟨M259, q260, h261⟩ := h256.na (by decide) q258
  refine xok_eqb q260 ?_
  dsimp only
  obtain ⟨T263, q262, e⟩ := xbnd e
  obtain ⟨M264, q265, h266⟩ := h261.pr (by decide) (by decide)  q262
  refine xok_eqb q265 ?_
  obtain ⟨p267, q268, e⟩ := xbnd e
  obtain ⟨M269, q270, h271⟩ := h266.na (by decide) q268
  refine xok_eqb q270 ?_
  dsimp only
  obtain ⟨T273, q272, e⟩ := xbnd e
  obtain ⟨M274, q275, h276⟩ := h271.pr (by decide) (by decide)  q272
  refine xok_eqb q275 ?_
  obtain ⟨p277, q278, e⟩ := xbnd e
  obtain ⟨M279, q280, h281⟩ := h276.na (by decide) q278
  refine xok_eqb q280 ?_
  dsimp only
  obtain ⟨T283, q282, e⟩ := xbnd e
  obtain ⟨M284, q285, h286⟩ := h281.pr (by decide) (by decide)  q282
  refine xok_eqb q285 ?_
  obtain ⟨p287, q288, e⟩ := xbnd e
  obtain ⟨M289, q290, h291⟩ := h286.na (by decide) q288
  refine xok_eqb q290 ?_
  dsimp only
  obtain ⟨T293, q292, e⟩ := xbnd e
  obtain ⟨M294, q295, h296⟩ := h291.pr (by decide) (by decide)  q292
  refine xok_eqb q295 ?_
  obtain ⟨p297, q298, e⟩ := xbnd e
  obtain ⟨M299, q300, h301⟩ := h296.na (by decide) q298
  refine xok_eqb q300 ?_
  dsimp only
  obtain ⟨T303, q302, e⟩ := xbnd e
  obtain ⟨M304, q305, h306⟩ := h301.pr (by decide) (by decide)  q302
  refine xok_eqb q305 ?_
  obtain ⟨p307, q308, e⟩ := xbnd e
  obtain ⟨M309, q310, h311⟩ := h306.na (by decide) q308
  refine xok_eqb q310 ?_
  dsimp only
  obtain ⟨T313, q312, e⟩ := xbnd e
  obtain ⟨M314, q315, h316⟩ := h311.pr (by decide) (by decide)  q312
  refine xok_eqb q315 ?_
  obtain ⟨p317, q318, e⟩ := xbnd e
  obtain ⟨M319, q320, h321⟩ := h316.na (by decide) q318
  refine xok_eqb q320 ?_
  dsimp only
  obtain ⟨T323, q322, e⟩ := xbnd e
  obtain ⟨M324, q325, h326⟩ := h321.pr (by decide) (by decide)  q322
  refine xok_eqb q325 ?_
  obtain ⟨p327, q328, e⟩ := xbnd e
  obtain ⟨M329, q330, h331⟩ := h326.na (by decide) q328
  refine xok_eqb q330 ?_
  dsimp only
  obtain ⟨T333, q332, e⟩ := xbnd e
  obtain ⟨M334, q335, h336⟩ := h331.pr (by decide) (by decide)  q332
  refine xok_eqb q335 ?_
  obtain ⟨p337, q338, e⟩ := xbnd e
  obtain ⟨M339, q340, h341⟩ := h336.na (by decide) q338
  refine xok_eqb q340 ?_
  dsimp only
  obtain ⟨T343, q342, e⟩ := xbnd e
  obtain ⟨M344, q345, h346⟩ := h341.pr (by decide) (by decide)  q342
  refine xok_eqb q345 ?_
  obtain ⟨p347, q348, e⟩ := xbnd e
  obtain ⟨M349, q350, h351⟩ := h346.na (by decide) q348
  refine xok_eqb q350 ?_
  dsimp only
  obtain ⟨T353, q352, e⟩ := xbnd e
  obtain ⟨M354, q355, h356⟩ := h351.pr (by decide) (by decide)  q352
  refine xok_eqb q355 ?_
  obtain ⟨p357, q358, e⟩ := xbnd e
  obtain ⟨M359, q360, h361⟩ := h356.na (by decide) q358
  refine xok_eqb q360 ?_
  dsimp only
  obtain ⟨T363, q362, e⟩ := xbnd e
  obtain ⟨M364, q365, h366⟩ := h361.pr (by decide) (by decide)  q362
  refine xok_eqb q365 ?_
  obtain ⟨p367, q368, e⟩ := xbnd e
  obtain ⟨M369, q370, h371⟩ := h366.na (by decide) q368
  refine xok_eqb q370 ?_
  dsimp only
  obtain ⟨T373, q372, e⟩ := xbnd e
  obtain ⟨M374, q375, h376⟩ := h371.pr (by decide) (by decide)  q372
  refine xok_eqb q375 ?_
  obtain ⟨p377, q378, e⟩ := xbnd e
  obtain ⟨M379, q380, h381⟩ := h376.na (by decide) q378
  refine xok_eqb q380 ?_
  dsimp only
  obtain ⟨T383, q382, e⟩ := xbnd e
  obtain ⟨M384, q385, h386⟩ := h381.pr (by decide) (by decide)  q382
  refine xok_eqb q385 ?_
  obtain ⟨p387, q388, e⟩ := xbnd e
  obtain ⟨M389, q390, h391⟩ := h386.na (by decide) q388
  refine xok_eqb q390 ?_
  dsimp only
  obtain ⟨T393, q392, e⟩ := xbnd e
  obtain ⟨M394, q395, h396⟩ := h391.pr (by decide) (by decide)  q392
  refine xok_eqb q395 ?_
  obtain ⟨p397, q398, e⟩ := xbnd e
  obtain ⟨M399, q400, h401⟩ := h396.an q398
  refine xok_eqb q400 ?_
  dsimp only
  obtain ⟨p402, q403, e⟩ := xbnd e
  obtain ⟨M404, q405, h406⟩ := h401.nw (by decide +kernel) (by decide +kernel) q403
  refine xok_eqb q405 ?_
  dsimp only
  obtain ⟨R407, e408, e⟩ := xbnd e
  refine xok_call (t201 hS h406  e408) ?_
  intro M409 h410
  obtain ⟨T413, q412, e⟩ := xbnd e
  obtain ⟨M414, q415, h416⟩ := h410.sr  q412
  refine xok_eqb q415 ?_
  obtain ⟨p417, q418, e⟩ := xbnd e
  obtain ⟨M419, q420, h421⟩ := h416.nw (by decide +kernel) (by decide +kernel) q418
  refine xok_eqb q420 ?_
  dsimp only
  obtain ⟨R422, e423, e⟩ := xbnd e
  refine xok_call (t201 hS h421  e423) ?_
  intro M424 h425
  obtain ⟨T428, q427, e⟩ := xbnd e
  obtain ⟨M429, q430, h431⟩ := h425.sr  q427
  refine xok_eqb q430 ?_
  obtain ⟨p432, q433, e⟩ := xbnd e
  obtain ⟨M434, q435, h436⟩ := h431.nw (by decide +kernel) (by decide +kernel) q433
  refine xok_eqb q435 ?_
  dsimp only
  obtain ⟨R437, e438, e⟩ := xbnd e
  refine xok_call (t201 hS h436  e438) ?_
  intro M439 h440
  obtain ⟨T443, q442, e⟩ := xbnd e
  obtain ⟨M444, q445, h446⟩ := h440.sr  q442
  refine xok_eqb q445 ?_
  obtain ⟨p447, q448, e⟩ := xbnd e
  obtain ⟨M449, q450, h451⟩ := h446.nw (by decide +kernel) (by decide +kernel) q448
  refine xok_eqb q450 ?_
  dsimp only
  obtain ⟨R452, e453, e⟩ := xbnd e
  refine xok_call (t201 hS h451  e453) ?_
  intro M454 h455
  obtain ⟨T458, q457, e⟩ := xbnd e
  obtain ⟨M459, q460, h461⟩ := h455.sr  q457
  refine xok_eqb q460 ?_
  obtain ⟨T463, q462, e⟩ := xbnd e
  obtain ⟨M464, q465, h466⟩ := h461.pr (by decide) (by decide)  q462
  refine xok_eqb q465 ?_
  obtain ⟨T468, q467, e⟩ := xbnd e
  obtain ⟨M469, q470, h471⟩ := h466.pi (by decide) (by decide) (show xin (-1) by decide) q467
  refine xok_eqb q470 ?_
  obtain ⟨T473, q472, e⟩ := xbnd e
  obtain ⟨M474, q475, h476⟩ := h471.pi (by decide) (by decide) (show xin (-1) by decide) q472
  refine xok_eqb q475 ?_
  obtain ⟨p477, q478, e⟩ := xbnd e
  obtain ⟨M479, q480, h481⟩ := h476.na (by decide) q478
  refine xok_eqb q480 ?_
  dsimp only
  obtain ⟨T483, q482, e⟩ := xbnd e
  obtain ⟨M484, q485, h486⟩ := h481.pr (by decide) (by decide)  q482
  refine xok_eqb q485 ?_
  obtain ⟨p487, q488, e⟩ := xbnd e
  obtain ⟨M489, q490, h491⟩ := h486.na (by decide) q488
  refine xok_eqb q490 ?_
  dsimp only
  obtain ⟨T493, q492, e⟩ := xbnd e
  obtain ⟨M494, q495, h496⟩ := h491.pr (by decide) (by decide)  q492
  refine xok_eqb q495 ?_
  obtain ⟨p497, q498, e⟩ := xbnd e
  obtain ⟨M499, q500, h501⟩ := h496.na (by decide) q498
  refine xok_eqb q500 ?_
  dsimp only
  obtain ⟨T503, q502, e⟩ := xbnd e
  obtain ⟨M504, q505, h506⟩ := h501.pr (by decide) (by decide)  q502
  refine xok_eqb q505 ?_
  obtain ⟨p507, q508, e⟩ := xbnd e
  obtain ⟨M509, q510, h511⟩ := h506.na (by decide) q508
  refine xok_eqb q510 ?_
  dsimp only
  obtain ⟨T513, q512, e⟩ := xbnd e
  obtain ⟨M514, q515, h516⟩ := h511.pr (by decide) (by decide)  q512
  refine xok_eqb q515 ?_
  obtain ⟨T518, q517, e⟩ := xbnd e
  obtain ⟨M519, q520, h521⟩ := h516.pi (by decide) (by decide) (show xin (1) by decide) q517
  refine xok_eqb q520 ?_
  obtain ⟨T523, q522, e⟩ := xbnd e
  obtain ⟨M524, q525, h526⟩ := h521.pi (by decide) (by decide) (show xin (-1) by decide) q522
  refine xok_eqb q525 ?_
  obtain ⟨p527, q528, e⟩ := xbnd e
  obtain ⟨M529, q530, h531⟩ := h526.nw (by decide +kernel) (by decide +kernel) q528
  refine xok_eqb q530 ?_
  dsimp only
  obtain ⟨R532, e533, e⟩ := xbnd e
  refine xok_call (t193 hS h531  e533) ?_
  intro M534 h535
  obtain ⟨T538, q537, e⟩ := xbnd e
  obtain ⟨M539, q540, h541⟩ := h535.pr (by decide) (by decide)  q537
  refine xok_eqb q540 ?_
  obtain ⟨p542, q543, e⟩ := xbnd e
  obtain ⟨M544, q545, h546⟩ := h541.nw (by decide +kernel) (by decide +kernel) q543
  refine xok_eqb q545 ?_
  dsimp only
  obtain ⟨R547, e548, e⟩ := xbnd e
  refine xok_call (t193 hS h546  e548) ?_
  intro M549 h550
  obtain ⟨T553, q552, e⟩ := xbnd e
  obtain ⟨M554, q555, h556⟩ := h550.pr (by decide) (by decide)  q552
  refine xok_eqb q555 ?_
  obtain ⟨p557, q558, e⟩ := xbnd e
  obtain ⟨M559, q560, h561⟩ := h556.na (by decide) q558
  refine xok_eqb q560 ?_
  dsimp only
  obtain ⟨T563, q562, e⟩ := xbnd e
  obtain ⟨M564, q565, h566⟩ := h561.pr (by decide) (by decide)  q562
  refine xok_eqb q565 ?_
  obtain ⟨p567, q568, e⟩ := xbnd e
  obtain ⟨M569, q570, h571⟩ := h566.na (by decide) q568
  refine xok_eqb q570 ?_
  dsimp only
  obtain ⟨T573, q572, e⟩ := xbnd e
  obtain ⟨M574, q575, h576⟩ := h571.pr (by decide) (by decide)  q572
  refine xok_eqb q575 ?_
  obtain ⟨p577, q578, e⟩ := xbnd e
  obtain ⟨M579, q580, h581⟩ := h576.nw (by decide +kernel) (by decide +kernel) q578
  refine xok_eqb q580 ?_
  dsimp only
  obtain ⟨R582, e583, e⟩ := xbnd e
  refine xok_call (t193 hS h581  e583) ?_
  intro M584 h585
  obtain ⟨T588, q587, e⟩ := xbnd e
  obtain ⟨M589, q590, h591⟩ := h585.pr (by decide) (by decide)  q587
  refine xok_eqb q590 ?_
  obtain ⟨p592, q593, e⟩ := xbnd e
  obtain ⟨M594, q595, h596⟩ := h591.na (by decide) q593
  refine xok_eqb q595 ?_
  dsimp only
  obtain ⟨T598, q597, e⟩ := xbnd e
  obtain ⟨M599, q600, h601⟩ := h596.pr (by decide) (by decide)  q597
  refine xok_eqb q600 ?_
  obtain ⟨T603, q602, e⟩ := xbnd e
  obtain ⟨M604, q605, h606⟩ := h601.pi (by decide) (by decide) (show xin (-1) by decide) q602
  refine xok_eqb q605 ?_
  obtain ⟨p607, q608, e⟩ := xbnd e
  obtain ⟨M609, q610, h611⟩ := h606.na (by decide) q608
  refine xok_eqb q610 ?_
  dsimp only
  obtain ⟨T613, q612, e⟩ := xbnd e
  obtain ⟨M614, q615, h616⟩ := h611.pr (by decide) (by decide)  q612
  refine xok_eqb q615 ?_
  obtain ⟨p617, q618, e⟩ := xbnd e
  obtain ⟨M619, q620, h621⟩ := h616.na (by decide) q618
  refine xok_eqb q620 ?_
  dsimp only
  obtain ⟨T623, q622, e⟩ := xbnd e
  obtain ⟨M624, q625, h626⟩ := h621.pr (by decide) (by decide)  q622
  refine xok_eqb q625 ?_
  obtain ⟨p627, q628, e⟩ := xbnd e
  obtain ⟨M629, q630, h631⟩ := h626.na (by decide) q628
  refine xok_eqb q630 ?_
  dsimp only
  obtain ⟨T633, q632, e⟩ := xbnd e
  obtain ⟨M634, q635, h636⟩ := h631.pr (by decide) (by decide)  q632
  refine xok_eqb q635 ?_
  obtain ⟨p637, q638, e⟩ := xbnd e
  obtain ⟨M639, q640, h641⟩ := h636.na (by decide) q638
  refine xok_eqb q640 ?_
  dsimp only
  obtain ⟨T643, q642, e⟩ := xbnd e
  obtain ⟨M644, q645, h646⟩ := h641.pr (by decide) (by decide)  q642
  refine xok_eqb q645 ?_
  obtain ⟨p647, q648, e⟩ := xbnd e
  obtain ⟨M649, q650, h651⟩ := h646.na (by decide) q648
  refine xok_eqb q650 ?_
  dsimp only
  obtain ⟨T653, q652, e⟩ := xbnd e
  obtain ⟨M654, q655, h656⟩ := h651.pr (by decide) (by decide)  q652
  refine xok_eqb q655 ?_
  obtain ⟨p657, q658, e⟩ := xbnd e
  obtain ⟨M659, q660, h661⟩ := h656.na (by decide) q658
  refine xok_eqb q660 ?_
  dsimp only
  obtain ⟨T663, q662, e⟩ := xbnd e
  obtain ⟨M664, q665, h666⟩ := h661.pr (by decide) (by decide)  q662
  refine xok_eqb q665 ?_
  obtain ⟨p667, q668, e⟩ := xbnd e
  obtain ⟨M669, q670, h671⟩ := h666.na (by decide) q668
  refine xok_eqb q670 ?_
  dsimp only
  obtain ⟨T673, q672, e⟩ := xbnd e
  obtain ⟨M674, q675, h676⟩ := h671.pr (by decide) (by decide)  q672
  refine xok_eqb q675 ?_
  obtain ⟨p677, q678, e⟩ := xbnd e
  obtain ⟨M679, q680, h681⟩ := h676.na (by decide) q678
  refine xok_eqb q680 ?_
  dsimp only
  obtain ⟨T683, q682, e⟩ := xbnd e
  obtain ⟨M684, q685, h686⟩ := h681.pr (by decide) (by decide)  q682
  refine xok_eqb q685 ?_
  obtain ⟨p687, q688, e⟩ := xbnd e
  obtain ⟨M689, q690, h691⟩ := h686.na (by decide) q688
  refine xok_eqb q690 ?_
  dsimp only
  obtain ⟨T693, q692, e⟩ := xbnd e
  obtain ⟨M694, q695, h696⟩ := h691.pr (by decide) (by decide)  q692
  refine xok_eqb q695 ?_
  obtain ⟨p697, q698, e⟩ := xbnd e
  obtain ⟨M699, q700, h701⟩ := h696.na (by decide) q698
  refine xok_eqb q700 ?_
  dsimp only
  obtain ⟨T703, q702, e⟩ := xbnd e
  obtain ⟨M704, q705, h706⟩ := h701.pr (by decide) (by decide)  q702
  refine xok_eqb q705 ?_
  obtain ⟨p707, q708, e⟩ := xbnd e
  obtain ⟨M709, q710, h711⟩ := h706.na (by decide) q708
  refine xok_eqb q710 ?_
  dsimp only
  obtain ⟨T713, q712, e⟩ := xbnd e
  obtain ⟨M714, q715, h716⟩ := h711.pr (by decide) (by decide)  q712
  refine xok_eqb q715 ?_
  obtain ⟨p717, q718, e⟩ := xbnd e
  obtain ⟨M719, q720, h721⟩ := h716.na (by decide) q718
  refine xok_eqb q720 ?_
  dsimp only
  obtain ⟨T723, q722, e⟩ := xbnd e
  obtain ⟨M724, q725, h726⟩ := h721.pr (by decide) (by decide)  q722
  refine xok_eqb q725 ?_
  obtain ⟨p727, q728, e⟩ := xbnd e
  obtain ⟨M729, q730, h731⟩ := h726.na (by decide) q728
  refine xok_eqb q730 ?_
  dsimp only
  obtain ⟨T733, q732, e⟩ := xbnd e
  obtain ⟨M734, q735, h736⟩ := h731.pr (by decide) (by decide)  q732
  refine xok_eqb q735 ?_
  obtain ⟨p737, q738, e⟩ := xbnd e
  obtain ⟨M739, q740, h741⟩ := h736.na (by decide) q738
  refine xok_eqb q740 ?_
  dsimp only
  obtain ⟨T743, q742, e⟩ := xbnd e
  obtain ⟨M744, q745, h746⟩ := h741.pr (by decide) (by decide)  q742
  refine xok_eqb q745 ?_
  obtain ⟨p747, q748, e⟩ := xbnd e
  obtain ⟨M749, q750, h751⟩ := h746.na (by decide) q748
  refine xok_eqb q750 ?_
  dsimp only
  obtain ⟨T753, q752, e⟩ := xbnd e
  obtain ⟨M754, q755, h756⟩ := h751.pr (by decide) (by decide)  q752
  refine xok_eqb q755 ?_
  obtain ⟨p757, q758, e⟩ := xbnd e
  obtain ⟨M759, q760, h761⟩ := h756.na (by decide) q758
  refine xok_eqb q760 ?_
  dsimp only
  obtain ⟨T763, q762, e⟩ := xbnd e
  obtain ⟨M764, q765, h766⟩ := h761.pr (by decide) (by decide)  q762
  refine xok_eqb q765 ?_
  obtain ⟨p767, q768, e⟩ := xbnd e
  obtain ⟨M769, q770, h771⟩ := h766.na (by decide) q768
  refine xok_eqb q770 ?_
  dsimp only
  obtain ⟨T773, q772, e⟩ := xbnd e
  obtain ⟨M774, q775, h776⟩ := h771.pr (by decide) (by decide)  q772
  refine xok_eqb q775 ?_
  obtain ⟨p777, q778, e⟩ := xbnd e
  obtain ⟨M779, q780, h781⟩ := h776.na (by decide) q778
  refine xok_eqb q780 ?_
  dsimp only
  obtain ⟨T783, q782, e⟩ := xbnd e
  obtain ⟨M784, q785, h786⟩ := h781.pr (by decide) (by decide)  q782
  refine xok_eqb q785 ?_
  cases e
  exact ⟨_, rfl, h786⟩
