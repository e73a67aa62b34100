/-! The reference over what stands at its cells (written by mk_g.py) -/
-- ChangeHouseModel.variablesOf
theorem s255_35 {m f : Nat} {M0 M : xj_M} {G : xG_} (hI : xHI f)  {r5 : Nat → Int → Int → Int → xG_ → Option (Int × xG_)} {o5 : Nat → Int → Int → Int → xj_M → Option (Int × xj_M)}  (hr5 : ∀ {M : xj_M} {G : xG_} {x0 : Nat} {x2 : Int} {x3 : Int} {x4 : Int} {R : Int × xG_}, xRX m M0 M G → xoP x0 → xin x2 → xin x3 → xin x4 → r5 x0 x2 x3 x4 G = some R → xok (o5 (m + x0) x2 x3 x4 M) (fun r => r.1 = R.1 ∧ xRX m M0 r.2 R.2 ∧ xin R.1)) (h : xRX m M0 M G) {x0 : Nat} {x2 : Int} {x3 : Int} {x4 : Int} {R : Int × xG_} (tx0 : xoP x0) (tx2 : xin x2) (tx3 : xin x3) (tx4 : xin x4) (e : g255_35  r5 f x0 x2 x3 x4 G = some R) : xok (f255_35  o5 f (m + x0) x2 x3 x4 M) (fun r => r.1 = R.1 ∧ xRX m M0 r.2 R.2 ∧ xin R.1) := by
  unfold g255_35 at e
  unfold f255_35
  exact hr5 h tx0 tx2 tx3 (xin_wr _) e
theorem s255_5b {m f : Nat} {M0 M : xj_M} {G : xG_} (hI : xHI f)  {r5 : Nat → Int → Int → Int → xG_ → Option (Int × xG_)} {o5 : Nat → Int → Int → Int → xj_M → Option (Int × xj_M)}  (hr5 : ∀ {M : xj_M} {G : xG_} {x0 : Nat} {x2 : Int} {x3 : Int} {x4 : Int} {R : Int × xG_}, xRX m M0 M G → xoP x0 → xin x2 → xin x3 → xin x4 → r5 x0 x2 x3 x4 G = some R → xok (o5 (m + x0) x2 x3 x4 M) (fun r => r.1 = R.1 ∧ xRX m M0 r.2 R.2 ∧ xin R.1)) (h : xRX m M0 M G) {x0 : Nat} {x2 : Int} {x3 : Int} {x4 : Int} {R : Int × xG_} (tx0 : xoP x0) (tx2 : xin x2) (tx3 : xin x3) (tx4 : xin x4) (e : g255_5b  r5 f x0 x2 x3 x4 G = some R) : xok (f255_5b  o5 f (m + x0) x2 x3 x4 M) (fun r => r.1 = R.1 ∧ xRX m M0 r.2 R.2 ∧ xin R.1) := by
  unfold g255_5b at e
  unfold f255_5b
  refine xok_ite (fun c101 => ?_) (fun c101 => ?_)
  · rw [if_pos c101] at e
    cases e
    exact ⟨_, rfl, rfl, h, tx3⟩
  · rw [if_neg c101] at e
    refine xok_eqb (h.pt (o := x0) (c := 14) (k := 35) (t := x0 + 33) (n := 38) (xoP_o tx0).1 (xoP_o tx0).2 (by decide) (xoP_all tx0 (Q := fun p => (p, 35, p + 33) ∈ xl_P) (by decide +kernel) (by decide +kernel) (by decide +kernel))) ?_
    by_cases c102 : 0 ≤ (x4) ∧ (x4) < 6200
    · skip
      rw [if_pos c102] at e
      refine xok_eqb (h.ai (o := x0 + 33) (n := 6200) (xoP_all tx0 (Q := fun p => p + 33 < 276) (by decide) (by decide) (by decide)) (xoP_all tx0 (Q := fun p => xl_t (p + 33) = (2, 3, 6200)) rfl rfl rfl) (by decide) c102.1 c102.2) ?_
      refine xok_ite (fun c103 => ?_) (fun c103 => ?_)
      · rw [if_pos c103] at e
        exact s255_35 hI  hr5 h tx0 tx2 tx3 tx4 e
      · rw [if_neg c103] at e
        refine xok_eqb (h.pt (o := x0) (c := 14) (k := 36) (t := x0 + 34) (n := 38) (xoP_o tx0).1 (xoP_o tx0).2 (by decide) (xoP_all tx0 (Q := fun p => (p, 36, p + 34) ∈ xl_P) (by decide +kernel) (by decide +kernel) (by decide +kernel))) ?_
        by_cases c104 : 0 ≤ (x4) ∧ (x4) < 6200
        · skip
          rw [if_pos c104] at e
          refine xok_eqb (h.al (o := x0 + 34) (n := 6200) (xoP_all tx0 (Q := fun p => p + 34 < 276) (by decide) (by decide) (by decide)) (xoP_all tx0 (Q := fun p => xl_t (p + 34) = (2, 4, 6200)) rfl rfl rfl)  c104.1 c104.2) ?_
          exact s255_35 hI  hr5 h tx0 tx2 (xin_of _) tx4 e
        · rw [if_neg c104] at e; cases e
    · rw [if_neg c102] at e; cases e
theorem s255_5 {m f : Nat} {M0 : xj_M} (hI : xHI f)     : ∀ {n : Nat} {M : xj_M} {G : xG_} {x0 : Nat} {x2 : Int} {x3 : Int} {x4 : Int} {R : Int × xG_}, xRX m M0 M G → xoP x0 → xin x2 → xin x3 → xin x4 → g255_5   f n x0 x2 x3 x4 G = some R → xok (f255_5   f n (m + x0) x2 x3 x4 M) (fun r => r.1 = R.1 ∧ xRX m M0 r.2 R.2 ∧ xin R.1) := by
  intro n
  induction n with
  | zero => intros; rename_i e; cases e
  | succ n ih =>
    intros
    rename_i h i0 i1 i2 i3 e
    exact s255_5b hI   ih h i0 i1 i2 i3 e
theorem sg255 {m f : Nat} {M0 M : xj_M} {G : xG_} (hI : xHI f)   (h : xRX m M0 M G) {a0 : Nat} {a1 : Int} {a2 : Int} {R : Int × xG_} (ta0 : xoP a0) (ta1 : xin a1) (ta2 : xin a2) (e : g255  f a0 a1 a2 G = some R) : xok (f255  f (m + a0) a1 a2 M) (fun r => r.1 = R.1 ∧ xRX m M0 r.2 R.2 ∧ xin R.1) := by
  unfold g255 at e
  unfold f255
  exact s255_5 hI   h ta0 ta2 (show xin (0) by decide) ta1 e
-- ChangeHouseModel.isAlone
theorem s256_22 {m f : Nat} {M0 M : xj_M} {G : xG_} (hI : xHI f)     (h : xRX m M0 M G) {y0 : Int} {R : Int × xG_} (ty0 : xin y0) (e : g256_22   f y0 G = some R) : xok (f256_22   f y0 M) (fun r => r.1 = R.1 ∧ xRX m M0 r.2 R.2 ∧ xin R.1) := by
  unfold g256_22 at e
  unfold f256_22
  refine xok_ite (fun c101 => ?_) (fun c101 => ?_)
  · rw [if_pos c101] at e; cases e; exact ⟨_, rfl, rfl, h, ty0⟩
  · rw [if_neg c101] at e; cases e
theorem s256_21 {m f : Nat} {M0 M : xj_M} {G : xG_} (hI : xHI f)     (h : xRX m M0 M G)  {R : Int × xG_}  (e : g256_21   f  G = some R) : xok (f256_21   f  M) (fun r => r.1 = R.1 ∧ xRX m M0 r.2 R.2 ∧ xin R.1) := by
  unfold g256_21 at e
  unfold f256_21
  exact s256_22 hI   h (show xin (0) by decide) e
theorem sg256 {m f : Nat} {M0 M : xj_M} {G : xG_} (hI : xHI f)   (h : xRX m M0 M G) {a0 : Nat} {a1 : Int} {a2 : Int} {R : Int × xG_} (ta0 : xoP a0) (ta1 : xin a1) (ta2 : xin a2) (e : g256  f a0 a1 a2 G = some R) : xok (f256  f (m + a0) a1 a2 M) (fun r => r.1 = R.1 ∧ xRX m M0 r.2 R.2 ∧ xin R.1) := by
  unfold g256 at e
  unfold f256
  refine xok_ite (fun c102 => ?_) (fun c102 => ?_)
  · rw [if_pos c102] at e
    exact s256_21 hI   h  e
  · rw [if_neg c102] at e
    refine xok_eqb (h.pt (o := a0) (c := 14) (k := 35) (t := a0 + 33) (n := 38) (xoP_o ta0).1 (xoP_o ta0).2 (by decide) (xoP_all ta0 (Q := fun p => (p, 35, p + 33) ∈ xl_P) (by decide +kernel) (by decide +kernel) (by decide +kernel))) ?_
    by_cases c103 : 0 ≤ (a1) ∧ (a1) < 6200
    · skip
      rw [if_pos c103] at e
      refine xok_eqb (h.ai (o := a0 + 33) (n := 6200) (xoP_all ta0 (Q := fun p => p + 33 < 276) (by decide) (by decide) (by decide)) (xoP_all ta0 (Q := fun p => xl_t (p + 33) = (2, 3, 6200)) rfl rfl rfl) (by decide) c103.1 c103.2) ?_
      refine xok_ite (fun c104 => ?_) (fun c104 => ?_)
      · rw [if_pos c104] at e
        exact s256_21 hI   h  e
      · rw [if_neg c104] at e
        exact s256_22 hI   h (show xin (1) by decide) e
    · rw [if_neg c103] at e; cases e
-- ChangeHouseModel.boundBy
theorem s257_82 {m f : Nat} {M0 M : xj_M} {G : xG_} (hI : xHI f)  {r4 : Nat → Int → Int → Int → xG_ → Option (Int × xG_)} {o4 : Nat → Int → Int → Int → xj_M → Option (Int × xj_M)} {r25 : Nat → Int → Int → Int → Int → Int → xG_ → Option (Int × xG_)} {o25 : Nat → Int → Int → Int → Int → Int → xj_M → Option (Int × xj_M)}  (hr4 : ∀ {M : xj_M} {G : xG_} {x0 : Nat} {x1 : Int} {x2 : Int} {x3 : Int} {R : Int × xG_}, xRX m M0 M G → xoP x0 → xin x1 → xin x2 → xin x3 → r4 x0 x1 x2 x3 G = some R → xok (o4 (m + x0) x1 x2 x3 M) (fun r => r.1 = R.1 ∧ xRX m M0 r.2 R.2 ∧ xin R.1)) (hr25 : ∀ {M : xj_M} {G : xG_} {x0 : Nat} {x1 : Int} {x2 : Int} {x3 : Int} {x4 : Int} {x5 : Int} {R : Int × xG_}, xRX m M0 M G → xoP x0 → xin x1 → xin x2 → xin x3 → xin x4 → xin x5 → r25 x0 x1 x2 x3 x4 x5 G = some R → xok (o25 (m + x0) x1 x2 x3 x4 x5 M) (fun r => r.1 = R.1 ∧ xRX m M0 r.2 R.2 ∧ xin R.1)) (h : xRX m M0 M G) {x0 : Nat} {x1 : Int} {x2 : Int} {x3 : Int} {x4 : Int} {x5 : Int} {R : Int × xG_} (tx0 : xoP x0) (tx1 : xin x1) (tx2 : xin x2) (tx3 : xin x3) (tx4 : xin x4) (tx5 : xin x5) (e : g257_82  r4 r25 f x0 x1 x2 x3 x4 x5 G = some R) : xok (f257_82  o4 o25 f (m + x0) x1 x2 x3 x4 x5 M) (fun r => r.1 = R.1 ∧ xRX m M0 r.2 R.2 ∧ xin R.1) := by
  unfold g257_82 at e
  unfold f257_82
  exact hr25 h tx0 tx1 tx2 tx3 tx4 (xin_wr _) e
theorem s257_88 {m f : Nat} {M0 M : xj_M} {G : xG_} (hI : xHI f)  {r4 : Nat → Int → Int → Int → xG_ → Option (Int × xG_)} {o4 : Nat → Int → Int → Int → xj_M → Option (Int × xj_M)}  (hr4 : ∀ {M : xj_M} {G : xG_} {x0 : Nat} {x1 : Int} {x2 : Int} {x3 : Int} {R : Int × xG_}, xRX m M0 M G → xoP x0 → xin x1 → xin x2 → xin x3 → r4 x0 x1 x2 x3 G = some R → xok (o4 (m + x0) x1 x2 x3 M) (fun r => r.1 = R.1 ∧ xRX m M0 r.2 R.2 ∧ xin R.1)) (h : xRX m M0 M G) {x0 : Nat} {x1 : Int} {x2 : Int} {x3 : Int} {R : Int × xG_} (tx0 : xoP x0) (tx1 : xin x1) (tx2 : xin x2) (tx3 : xin x3) (e : g257_88  r4 f x0 x1 x2 x3 G = some R) : xok (f257_88  o4 f (m + x0) x1 x2 x3 M) (fun r => r.1 = R.1 ∧ xRX m M0 r.2 R.2 ∧ xin R.1) := by
  unfold g257_88 at e
  unfold f257_88
  exact hr4 h tx0 tx1 tx2 (xin_wr _) e
theorem s257_25b {m f : Nat} {M0 M : xj_M} {G : xG_} (hI : xHI f)  {r4 : Nat → Int → Int → Int → xG_ → Option (Int × xG_)} {o4 : Nat → Int → Int → Int → xj_M → Option (Int × xj_M)} {r25 : Nat → Int → Int → Int → Int → Int → xG_ → Option (Int × xG_)} {o25 : Nat → Int → Int → Int → Int → Int → xj_M → Option (Int × xj_M)}  (hr4 : ∀ {M : xj_M} {G : xG_} {x0 : Nat} {x1 : Int} {x2 : Int} {x3 : Int} {R : Int × xG_}, xRX m M0 M G → xoP x0 → xin x1 → xin x2 → xin x3 → r4 x0 x1 x2 x3 G = some R → xok (o4 (m + x0) x1 x2 x3 M) (fun r => r.1 = R.1 ∧ xRX m M0 r.2 R.2 ∧ xin R.1)) (hr25 : ∀ {M : xj_M} {G : xG_} {x0 : Nat} {x1 : Int} {x2 : Int} {x3 : Int} {x4 : Int} {x5 : Int} {R : Int × xG_}, xRX m M0 M G → xoP x0 → xin x1 → xin x2 → xin x3 → xin x4 → xin x5 → r25 x0 x1 x2 x3 x4 x5 G = some R → xok (o25 (m + x0) x1 x2 x3 x4 x5 M) (fun r => r.1 = R.1 ∧ xRX m M0 r.2 R.2 ∧ xin R.1)) (h : xRX m M0 M G) {x0 : Nat} {x1 : Int} {x2 : Int} {x3 : Int} {x4 : Int} {x5 : Int} {R : Int × xG_} (tx0 : xoP x0) (tx1 : xin x1) (tx2 : xin x2) (tx3 : xin x3) (tx4 : xin x4) (tx5 : xin x5) (e : g257_25b  r4 r25 f x0 x1 x2 x3 x4 x5 G = some R) : xok (f257_25b  o4 o25 f (m + x0) x1 x2 x3 x4 x5 M) (fun r => r.1 = R.1 ∧ xRX m M0 r.2 R.2 ∧ xin R.1) := by
  unfold g257_25b at e
  unfold f257_25b
  refine xok_eqb (h.pt (o := x0) (c := 14) (k := 27) (t := x0 + 25) (n := 38) (xoP_o tx0).1 (xoP_o tx0).2 (by decide) (xoP_all tx0 (Q := fun p => (p, 27, p + 25) ∈ xl_P) (by decide +kernel) (by decide +kernel) (by decide +kernel))) ?_
  by_cases c101 : 0 ≤ (x4) ∧ (x4) < 200
  · skip
    rw [if_pos c101] at e
    refine xok_eqb (h.ai (o := x0 + 25) (n := 200) (xoP_all tx0 (Q := fun p => p + 25 < 276) (by decide) (by decide) (by decide)) (xoP_all tx0 (Q := fun p => xl_t (p + 25) = (2, 3, 200)) rfl rfl rfl) (by decide) c101.1 c101.2) ?_
    refine xok_ite (fun c102 => ?_) (fun c102 => ?_)
    · rw [if_pos c102] at e
      exact s257_88 hI  hr4 h tx0 tx1 tx2 tx3 e
    · rw [if_neg c102] at e
      refine xok_eqb (h.pt (o := x0) (c := 14) (k := 29) (t := x0 + 27) (n := 38) (xoP_o tx0).1 (xoP_o tx0).2 (by decide) (xoP_all tx0 (Q := fun p => (p, 29, p + 27) ∈ xl_P) (by decide +kernel) (by decide +kernel) (by decide +kernel))) ?_
      by_cases c103 : 0 ≤ (x4) ∧ (x4) < 200
      · skip
        rw [if_pos c103] at e
        refine xok_eqb (h.ai (o := x0 + 27) (n := 200) (xoP_all tx0 (Q := fun p => p + 27 < 276) (by decide) (by decide) (by decide)) (xoP_all tx0 (Q := fun p => xl_t (p + 27) = (2, 3, 200)) rfl rfl rfl) (by decide) c103.1 c103.2) ?_
        refine xok_ite (fun c104 => ?_) (fun c104 => ?_)
        · rw [if_pos c104] at e
          exact s257_88 hI  hr4 h tx0 tx1 tx2 tx3 e
        · rw [if_neg c104] at e
          refine xok_eqb (h.pt (o := x0) (c := 14) (k := 33) (t := x0 + 31) (n := 38) (xoP_o tx0).1 (xoP_o tx0).2 (by decide) (xoP_all tx0 (Q := fun p => (p, 33, p + 31) ∈ xl_P) (by decide +kernel) (by decide +kernel) (by decide +kernel))) ?_
          by_cases c105 : 0 ≤ (xwr ((xwr ((x4) * (4))) + (x5))) ∧ (xwr ((xwr ((x4) * (4))) + (x5))) < 800
          · skip
            rw [if_pos c105] at e
            refine xok_eqb (h.ai (o := x0 + 31) (n := 800) (xoP_all tx0 (Q := fun p => p + 31 < 276) (by decide) (by decide) (by decide)) (xoP_all tx0 (Q := fun p => xl_t (p + 31) = (2, 3, 800)) rfl rfl rfl) (by decide) c105.1 c105.2) ?_
            refine xok_ite (fun c106 => ?_) (fun c106 => ?_)
            · rw [if_pos c106] at e
              exact s257_82 hI  hr4 hr25 h tx0 tx1 tx2 tx3 tx4 tx5 e
            · rw [if_neg c106] at e
              refine xok_eqb (h.pt (o := x0) (c := 14) (k := 34) (t := x0 + 32) (n := 38) (xoP_o tx0).1 (xoP_o tx0).2 (by decide) (xoP_all tx0 (Q := fun p => (p, 34, p + 32) ∈ xl_P) (by decide +kernel) (by decide +kernel) (by decide +kernel))) ?_
              by_cases c107 : 0 ≤ (xwr ((xwr ((x4) * (4))) + (x5))) ∧ (xwr ((xwr ((x4) * (4))) + (x5))) < 800
              · skip
                rw [if_pos c107] at e
                refine xok_eqb (h.al (o := x0 + 32) (n := 800) (xoP_all tx0 (Q := fun p => p + 32 < 276) (by decide) (by decide) (by decide)) (xoP_all tx0 (Q := fun p => xl_t (p + 32) = (2, 4, 800)) rfl rfl rfl)  c107.1 c107.2) ?_
                exact s257_82 hI  hr4 hr25 h tx0 tx1 (xin_of _) tx3 tx4 tx5 e
              · rw [if_neg c107] at e; cases e
          · rw [if_neg c105] at e; cases e
      · rw [if_neg c103] at e; cases e
  · rw [if_neg c101] at e; cases e
theorem s257_25 {m f : Nat} {M0 : xj_M} (hI : xHI f)  {r4 : Nat → Int → Int → Int → xG_ → Option (Int × xG_)} {o4 : Nat → Int → Int → Int → xj_M → Option (Int × xj_M)}  (hr4 : ∀ {M : xj_M} {G : xG_} {x0 : Nat} {x1 : Int} {x2 : Int} {x3 : Int} {R : Int × xG_}, xRX m M0 M G → xoP x0 → xin x1 → xin x2 → xin x3 → r4 x0 x1 x2 x3 G = some R → xok (o4 (m + x0) x1 x2 x3 M) (fun r => r.1 = R.1 ∧ xRX m M0 r.2 R.2 ∧ xin R.1)) : ∀ {n : Nat} {M : xj_M} {G : xG_} {x0 : Nat} {x1 : Int} {x2 : Int} {x3 : Int} {x4 : Int} {x5 : Int} {R : Int × xG_}, xRX m M0 M G → xoP x0 → xin x1 → xin x2 → xin x3 → xin x4 → xin x5 → g257_25  r4 f n x0 x1 x2 x3 x4 x5 G = some R → xok (f257_25  o4 f n (m + x0) x1 x2 x3 x4 x5 M) (fun r => r.1 = R.1 ∧ xRX m M0 r.2 R.2 ∧ xin R.1) := by
  intro n
  induction n with
  | zero => intros; rename_i e; cases e
  | succ n ih =>
    intros
    rename_i h i0 i1 i2 i3 i4 i5 e
    exact s257_25b hI  hr4 ih h i0 i1 i2 i3 i4 i5 e
theorem s257_262 {m f : Nat} {M0 M : xj_M} {G : xG_} (hI : xHI f)  {r96 : Nat → Int → Int → Int → xG_ → Option (Int × xG_)} {o96 : Nat → Int → Int → Int → xj_M → Option (Int × xj_M)} {r106 : Nat → Int → Int → Int → Int → xG_ → Option (Int × xG_)} {o106 : Nat → Int → Int → Int → Int → xj_M → Option (Int × xj_M)}  (hr96 : ∀ {M : xj_M} {G : xG_} {x0 : Nat} {x1 : Int} {x2 : Int} {x3 : Int} {R : Int × xG_}, xRX m M0 M G → xoP x0 → xin x1 → xin x2 → xin x3 → r96 x0 x1 x2 x3 G = some R → xok (o96 (m + x0) x1 x2 x3 M) (fun r => r.1 = R.1 ∧ xRX m M0 r.2 R.2 ∧ xin R.1)) (hr106 : ∀ {M : xj_M} {G : xG_} {x0 : Nat} {x1 : Int} {x2 : Int} {x3 : Int} {x4 : Int} {R : Int × xG_}, xRX m M0 M G → xoP x0 → xin x1 → xin x2 → xin x3 → xin x4 → r106 x0 x1 x2 x3 x4 G = some R → xok (o106 (m + x0) x1 x2 x3 x4 M) (fun r => r.1 = R.1 ∧ xRX m M0 r.2 R.2 ∧ xin R.1)) (h : xRX m M0 M G) {x0 : Nat} {x1 : Int} {x2 : Int} {x3 : Int} {x4 : Int} {R : Int × xG_} (tx0 : xoP x0) (tx1 : xin x1) (tx2 : xin x2) (tx3 : xin x3) (tx4 : xin x4) (e : g257_262  r96 r106 f x0 x1 x2 x3 x4 G = some R) : xok (f257_262  o96 o106 f (m + x0) x1 x2 x3 x4 M) (fun r => r.1 = R.1 ∧ xRX m M0 r.2 R.2 ∧ xin R.1) := by
  unfold g257_262 at e
  unfold f257_262
  exact hr106 h tx0 tx1 tx2 tx3 (xin_wr _) e
theorem s257_227 {m f : Nat} {M0 M : xj_M} {G : xG_} (hI : xHI f)  {r96 : Nat → Int → Int → Int → xG_ → Option (Int × xG_)} {o96 : Nat → Int → Int → Int → xj_M → Option (Int × xj_M)} {r106 : Nat → Int → Int → Int → Int → xG_ → Option (Int × xG_)} {o106 : Nat → Int → Int → Int → Int → xj_M → Option (Int × xj_M)}  (hr96 : ∀ {M : xj_M} {G : xG_} {x0 : Nat} {x1 : Int} {x2 : Int} {x3 : Int} {R : Int × xG_}, xRX m M0 M G → xoP x0 → xin x1 → xin x2 → xin x3 → r96 x0 x1 x2 x3 G = some R → xok (o96 (m + x0) x1 x2 x3 M) (fun r => r.1 = R.1 ∧ xRX m M0 r.2 R.2 ∧ xin R.1)) (hr106 : ∀ {M : xj_M} {G : xG_} {x0 : Nat} {x1 : Int} {x2 : Int} {x3 : Int} {x4 : Int} {R : Int × xG_}, xRX m M0 M G → xoP x0 → xin x1 → xin x2 → xin x3 → xin x4 → r106 x0 x1 x2 x3 x4 G = some R → xok (o106 (m + x0) x1 x2 x3 x4 M) (fun r => r.1 = R.1 ∧ xRX m M0 r.2 R.2 ∧ xin R.1)) (h : xRX m M0 M G) {x0 : Nat} {x1 : Int} {x2 : Int} {x3 : Int} {x4 : Int} {x5 : Int} {x6 : Int} {x7 : Int} {R : Int × xG_} (tx0 : xoP x0) (tx1 : xin x1) (tx2 : xin x2) (tx3 : xin x3) (tx4 : xin x4) (tx5 : xin x5) (tx6 : xin x6) (tx7 : xin x7) (e : g257_227  r96 r106 f x0 x1 x2 x3 x4 x5 x6 x7 G = some R) : xok (f257_227  o96 o106 f (m + x0) x1 x2 x3 x4 x5 x6 x7 M) (fun r => r.1 = R.1 ∧ xRX m M0 r.2 R.2 ∧ xin R.1) := by
  unfold g257_227 at e
  unfold f257_227
  refine xok_eqb (h.pt (o := x0) (c := 14) (k := 31) (t := x0 + 29) (n := 38) (xoP_o tx0).1 (xoP_o tx0).2 (by decide) (xoP_all tx0 (Q := fun p => (p, 31, p + 29) ∈ xl_P) (by decide +kernel) (by decide +kernel) (by decide +kernel))) ?_
  by_cases c108 : 0 ≤ (x5) ∧ (x5) < 200
  · skip
    rw [if_pos c108] at e
    refine xok_eqb (h.ai (o := x0 + 29) (n := 200) (xoP_all tx0 (Q := fun p => p + 29 < 276) (by decide) (by decide) (by decide)) (xoP_all tx0 (Q := fun p => xl_t (p + 29) = (2, 3, 200)) rfl rfl rfl) (by decide) c108.1 c108.2) ?_
    refine xok_eqb (h.pt (o := x0) (c := 14) (k := 32) (t := x0 + 30) (n := 38) (xoP_o tx0).1 (xoP_o tx0).2 (by decide) (xoP_all tx0 (Q := fun p => (p, 32, p + 30) ∈ xl_P) (by decide +kernel) (by decide +kernel) (by decide +kernel))) ?_
    by_cases c109 : 0 ≤ (x5) ∧ (x5) < 200
    · skip
      rw [if_pos c109] at e
      refine xok_eqb (h.ai (o := x0 + 30) (n := 200) (xoP_all tx0 (Q := fun p => p + 30 < 276) (by decide) (by decide) (by decide)) (xoP_all tx0 (Q := fun p => xl_t (p + 30) = (2, 3, 200)) rfl rfl rfl) (by decide) c109.1 c109.2) ?_
      obtain ⟨R110, e111, e⟩ := xbnd e
      refine xok_call (sg256 hI  h tx0 (h.ain (o := x0 + 29) (n := 200) (xoP_all tx0 (Q := fun p => p + 29 < 276) (by decide) (by decide) (by decide)) (xoP_all tx0 (Q := fun p => xl_t (p + 29) = (2, 3, 200)) rfl rfl rfl) (by decide) c108.1 c108.2) (h.ain (o := x0 + 30) (n := 200) (xoP_all tx0 (Q := fun p => p + 30 < 276) (by decide) (by decide) (by decide)) (xoP_all tx0 (Q := fun p => xl_t (p + 30) = (2, 3, 200)) rfl rfl rfl) (by decide) c109.1 c109.2) e111) ?_
      rintro ⟨v_, M114⟩ ⟨hv_, h112, hi113⟩
      cases hv_
      refine xok_ite (fun c115 => ?_) (fun c115 => ?_)
      · rw [if_pos c115] at e
        exact s257_262 hI  hr96 hr106 h112 tx0 tx1 tx2 tx3 tx4 e
      · rw [if_neg c115] at e
        refine xok_ite (fun c116 => ?_) (fun c116 => ?_)
        · rw [if_pos c116] at e
          exact s257_262 hI  hr96 hr106 h112 tx0 tx1 tx2 tx3 tx4 e
        · rw [if_neg c116] at e
          exact s257_262 hI  hr96 hr106 h112 tx0 tx1 (xin_of _) tx3 tx4 e
    · rw [if_neg c109] at e; cases e
  · rw [if_neg c108] at e; cases e
theorem s257_106b {m f : Nat} {M0 M : xj_M} {G : xG_} (hI : xHI f)  {r96 : Nat → Int → Int → Int → xG_ → Option (Int × xG_)} {o96 : Nat → Int → Int → Int → xj_M → Option (Int × xj_M)} {r106 : Nat → Int → Int → Int → Int → xG_ → Option (Int × xG_)} {o106 : Nat → Int → Int → Int → Int → xj_M → Option (Int × xj_M)}  (hr96 : ∀ {M : xj_M} {G : xG_} {x0 : Nat} {x1 : Int} {x2 : Int} {x3 : Int} {R : Int × xG_}, xRX m M0 M G → xoP x0 → xin x1 → xin x2 → xin x3 → r96 x0 x1 x2 x3 G = some R → xok (o96 (m + x0) x1 x2 x3 M) (fun r => r.1 = R.1 ∧ xRX m M0 r.2 R.2 ∧ xin R.1)) (hr106 : ∀ {M : xj_M} {G : xG_} {x0 : Nat} {x1 : Int} {x2 : Int} {x3 : Int} {x4 : Int} {R : Int × xG_}, xRX m M0 M G → xoP x0 → xin x1 → xin x2 → xin x3 → xin x4 → r106 x0 x1 x2 x3 x4 G = some R → xok (o106 (m + x0) x1 x2 x3 x4 M) (fun r => r.1 = R.1 ∧ xRX m M0 r.2 R.2 ∧ xin R.1)) (h : xRX m M0 M G) {x0 : Nat} {x1 : Int} {x2 : Int} {x3 : Int} {x4 : Int} {R : Int × xG_} (tx0 : xoP x0) (tx1 : xin x1) (tx2 : xin x2) (tx3 : xin x3) (tx4 : xin x4) (e : g257_106b  r96 r106 f x0 x1 x2 x3 x4 G = some R) : xok (f257_106b  o96 o106 f (m + x0) x1 x2 x3 x4 M) (fun r => r.1 = R.1 ∧ xRX m M0 r.2 R.2 ∧ xin R.1) := by
  unfold g257_106b at e
  unfold f257_106b
  refine xok_eqb (h.pt (o := x0) (c := 14) (k := 21) (t := x0 + 19) (n := 38) (xoP_o tx0).1 (xoP_o tx0).2 (by decide) (xoP_all tx0 (Q := fun p => (p, 21, p + 19) ∈ xl_P) (by decide +kernel) (by decide +kernel) (by decide +kernel))) ?_
  by_cases c117 : 0 ≤ (x1) ∧ (x1) < 25
  · skip
    rw [if_pos c117] at e
    refine xok_eqb (h.ai (o := x0 + 19) (n := 25) (xoP_all tx0 (Q := fun p => p + 19 < 276) (by decide) (by decide) (by decide)) (xoP_all tx0 (Q := fun p => xl_t (p + 19) = (2, 3, 25)) rfl rfl rfl) (by decide) c117.1 c117.2) ?_
    refine xok_ite (fun c118 => ?_) (fun c118 => ?_)
    · rw [if_pos c118] at e
      exact hr96 h tx0 tx1 tx2 tx3 e
    · rw [if_neg c118] at e
      refine xok_eqb (h.pt (o := x0) (c := 14) (k := 27) (t := x0 + 25) (n := 38) (xoP_o tx0).1 (xoP_o tx0).2 (by decide) (xoP_all tx0 (Q := fun p => (p, 27, p + 25) ∈ xl_P) (by decide +kernel) (by decide +kernel) (by decide +kernel))) ?_
      by_cases c119 : 0 ≤ (xwr ((xwr ((x1) * (8))) + (x4))) ∧ (xwr ((xwr ((x1) * (8))) + (x4))) < 200
      · skip
        rw [if_pos c119] at e
        refine xok_eqb (h.ai (o := x0 + 25) (n := 200) (xoP_all tx0 (Q := fun p => p + 25 < 276) (by decide) (by decide) (by decide)) (xoP_all tx0 (Q := fun p => xl_t (p + 25) = (2, 3, 200)) rfl rfl rfl) (by decide) c119.1 c119.2) ?_
        refine xok_ite (fun c120 => ?_) (fun c120 => ?_)
        · rw [if_pos c120] at e
          exact s257_262 hI  hr96 hr106 h tx0 tx1 tx2 tx3 tx4 e
        · rw [if_neg c120] at e
          refine xok_eqb (h.pt (o := x0) (c := 14) (k := 28) (t := x0 + 26) (n := 38) (xoP_o tx0).1 (xoP_o tx0).2 (by decide) (xoP_all tx0 (Q := fun p => (p, 28, p + 26) ∈ xl_P) (by decide +kernel) (by decide +kernel) (by decide +kernel))) ?_
          by_cases c121 : 0 ≤ (xwr ((xwr ((x1) * (8))) + (x4))) ∧ (xwr ((xwr ((x1) * (8))) + (x4))) < 200
          · skip
            rw [if_pos c121] at e
            refine xok_eqb (h.ai (o := x0 + 26) (n := 200) (xoP_all tx0 (Q := fun p => p + 26 < 276) (by decide) (by decide) (by decide)) (xoP_all tx0 (Q := fun p => xl_t (p + 26) = (2, 3, 200)) rfl rfl rfl) (by decide) c121.1 c121.2) ?_
            refine xok_ite (fun c122 => ?_) (fun c122 => ?_)
            · rw [if_pos c122] at e
              refine xok_eqb (h.pt (o := x0) (c := 14) (k := 30) (t := x0 + 28) (n := 38) (xoP_o tx0).1 (xoP_o tx0).2 (by decide) (xoP_all tx0 (Q := fun p => (p, 30, p + 28) ∈ xl_P) (by decide +kernel) (by decide +kernel) (by decide +kernel))) ?_
              by_cases c123 : 0 ≤ (xwr ((xwr ((x1) * (8))) + (x4))) ∧ (xwr ((xwr ((x1) * (8))) + (x4))) < 200
              · skip
                rw [if_pos c123] at e
                refine xok_eqb (h.ai (o := x0 + 28) (n := 200) (xoP_all tx0 (Q := fun p => p + 28 < 276) (by decide) (by decide) (by decide)) (xoP_all tx0 (Q := fun p => xl_t (p + 28) = (2, 3, 200)) rfl rfl rfl) (by decide) c123.1 c123.2) ?_
                refine xok_eqb (h.pt (o := x0) (c := 14) (k := 31) (t := x0 + 29) (n := 38) (xoP_o tx0).1 (xoP_o tx0).2 (by decide) (xoP_all tx0 (Q := fun p => (p, 31, p + 29) ∈ xl_P) (by decide +kernel) (by decide +kernel) (by decide +kernel))) ?_
                by_cases c124 : 0 ≤ (xwr ((xwr ((x1) * (8))) + (x4))) ∧ (xwr ((xwr ((x1) * (8))) + (x4))) < 200
                · skip
                  rw [if_pos c124] at e
                  refine xok_eqb (h.ai (o := x0 + 29) (n := 200) (xoP_all tx0 (Q := fun p => p + 29 < 276) (by decide) (by decide) (by decide)) (xoP_all tx0 (Q := fun p => xl_t (p + 29) = (2, 3, 200)) rfl rfl rfl) (by decide) c124.1 c124.2) ?_
                  obtain ⟨R125, e126, e⟩ := xbnd e
                  refine xok_call (sg255 hI  h tx0 (h.ain (o := x0 + 28) (n := 200) (xoP_all tx0 (Q := fun p => p + 28 < 276) (by decide) (by decide) (by decide)) (xoP_all tx0 (Q := fun p => xl_t (p + 28) = (2, 3, 200)) rfl rfl rfl) (by decide) c123.1 c123.2) (h.ain (o := x0 + 29) (n := 200) (xoP_all tx0 (Q := fun p => p + 29 < 276) (by decide) (by decide) (by decide)) (xoP_all tx0 (Q := fun p => xl_t (p + 29) = (2, 3, 200)) rfl rfl rfl) (by decide) c124.1 c124.2) e126) ?_
                  rintro ⟨v_, M129⟩ ⟨hv_, h127, hi128⟩
                  cases hv_
                  refine xok_eqb (h127.pt (o := x0) (c := 14) (k := 31) (t := x0 + 29) (n := 38) (xoP_o tx0).1 (xoP_o tx0).2 (by decide) (xoP_all tx0 (Q := fun p => (p, 31, p + 29) ∈ xl_P) (by decide +kernel) (by decide +kernel) (by decide +kernel))) ?_
                  by_cases c130 : 0 ≤ (xwr ((xwr ((x1) * (8))) + (x4))) ∧ (xwr ((xwr ((x1) * (8))) + (x4))) < 200
                  · skip
                    rw [if_pos c130] at e
                    refine xok_eqb (h127.ai (o := x0 + 29) (n := 200) (xoP_all tx0 (Q := fun p => p + 29 < 276) (by decide) (by decide) (by decide)) (xoP_all tx0 (Q := fun p => xl_t (p + 29) = (2, 3, 200)) rfl rfl rfl) (by decide) c130.1 c130.2) ?_
                    refine xok_eqb (h127.pt (o := x0) (c := 14) (k := 32) (t := x0 + 30) (n := 38) (xoP_o tx0).1 (xoP_o tx0).2 (by decide) (xoP_all tx0 (Q := fun p => (p, 32, p + 30) ∈ xl_P) (by decide +kernel) (by decide +kernel) (by decide +kernel))) ?_
                    by_cases c131 : 0 ≤ (xwr ((xwr ((x1) * (8))) + (x4))) ∧ (xwr ((xwr ((x1) * (8))) + (x4))) < 200
                    · skip
                      rw [if_pos c131] at e
                      refine xok_eqb (h127.ai (o := x0 + 30) (n := 200) (xoP_all tx0 (Q := fun p => p + 30 < 276) (by decide) (by decide) (by decide)) (xoP_all tx0 (Q := fun p => xl_t (p + 30) = (2, 3, 200)) rfl rfl rfl) (by decide) c131.1 c131.2) ?_
                      obtain ⟨R132, e133, e⟩ := xbnd e
                      refine xok_call (sg255 hI  h127 tx0 (h127.ain (o := x0 + 29) (n := 200) (xoP_all tx0 (Q := fun p => p + 29 < 276) (by decide) (by decide) (by decide)) (xoP_all tx0 (Q := fun p => xl_t (p + 29) = (2, 3, 200)) rfl rfl rfl) (by decide) c130.1 c130.2) (h127.ain (o := x0 + 30) (n := 200) (xoP_all tx0 (Q := fun p => p + 30 < 276) (by decide) (by decide) (by decide)) (xoP_all tx0 (Q := fun p => xl_t (p + 30) = (2, 3, 200)) rfl rfl rfl) (by decide) c131.1 c131.2) e133) ?_
                      rintro ⟨v_, M136⟩ ⟨hv_, h134, hi135⟩
                      cases hv_
                      refine xok_eqb (h134.pt (o := x0) (c := 14) (k := 30) (t := x0 + 28) (n := 38) (xoP_o tx0).1 (xoP_o tx0).2 (by decide) (xoP_all tx0 (Q := fun p => (p, 30, p + 28) ∈ xl_P) (by decide +kernel) (by decide +kernel) (by decide +kernel))) ?_
                      by_cases c137 : 0 ≤ (xwr ((xwr ((x1) * (8))) + (x4))) ∧ (xwr ((xwr ((x1) * (8))) + (x4))) < 200
                      · skip
                        rw [if_pos c137] at e
                        refine xok_eqb (h134.ai (o := x0 + 28) (n := 200) (xoP_all tx0 (Q := fun p => p + 28 < 276) (by decide) (by decide) (by decide)) (xoP_all tx0 (Q := fun p => xl_t (p + 28) = (2, 3, 200)) rfl rfl rfl) (by decide) c137.1 c137.2) ?_
                        refine xok_eqb (h134.pt (o := x0) (c := 14) (k := 31) (t := x0 + 29) (n := 38) (xoP_o tx0).1 (xoP_o tx0).2 (by decide) (xoP_all tx0 (Q := fun p => (p, 31, p + 29) ∈ xl_P) (by decide +kernel) (by decide +kernel) (by decide +kernel))) ?_
                        by_cases c138 : 0 ≤ (xwr ((xwr ((x1) * (8))) + (x4))) ∧ (xwr ((xwr ((x1) * (8))) + (x4))) < 200
                        · skip
                          rw [if_pos c138] at e
                          refine xok_eqb (h134.ai (o := x0 + 29) (n := 200) (xoP_all tx0 (Q := fun p => p + 29 < 276) (by decide) (by decide) (by decide)) (xoP_all tx0 (Q := fun p => xl_t (p + 29) = (2, 3, 200)) rfl rfl rfl) (by decide) c138.1 c138.2) ?_
                          obtain ⟨R139, e140, e⟩ := xbnd e
                          refine xok_call (sg256 hI  h134 tx0 (h134.ain (o := x0 + 28) (n := 200) (xoP_all tx0 (Q := fun p => p + 28 < 276) (by decide) (by decide) (by decide)) (xoP_all tx0 (Q := fun p => xl_t (p + 28) = (2, 3, 200)) rfl rfl rfl) (by decide) c137.1 c137.2) (h134.ain (o := x0 + 29) (n := 200) (xoP_all tx0 (Q := fun p => p + 29 < 276) (by decide) (by decide) (by decide)) (xoP_all tx0 (Q := fun p => xl_t (p + 29) = (2, 3, 200)) rfl rfl rfl) (by decide) c138.1 c138.2) e140) ?_
                          rintro ⟨v_, M143⟩ ⟨hv_, h141, hi142⟩
                          cases hv_
                          refine xok_ite (fun c144 => ?_) (fun c144 => ?_)
                          · rw [if_pos c144] at e
                            exact s257_227 hI  hr96 hr106 h141 tx0 tx1 tx2 tx3 tx4 (xin_wr _) hi128 hi135 e
                          · rw [if_neg c144] at e
                            refine xok_ite (fun c145 => ?_) (fun c145 => ?_)
                            · rw [if_pos c145] at e
                              exact s257_227 hI  hr96 hr106 h141 tx0 tx1 tx2 tx3 tx4 (xin_wr _) hi128 hi135 e
                            · rw [if_neg c145] at e
                              exact s257_227 hI  hr96 hr106 h141 tx0 tx1 (xin_of _) tx3 tx4 (xin_wr _) hi128 hi135 e
                        · rw [if_neg c138] at e; cases e
                      · rw [if_neg c137] at e; cases e
                    · rw [if_neg c131] at e; cases e
                  · rw [if_neg c130] at e; cases e
                · rw [if_neg c124] at e; cases e
              · rw [if_neg c123] at e; cases e
            · rw [if_neg c122] at e
              exact s257_262 hI  hr96 hr106 h tx0 tx1 tx2 tx3 tx4 e
          · rw [if_neg c121] at e; cases e
      · rw [if_neg c119] at e; cases e
  · rw [if_neg c117] at e; cases e
theorem s257_106 {m f : Nat} {M0 : xj_M} (hI : xHI f)  {r96 : Nat → Int → Int → Int → xG_ → Option (Int × xG_)} {o96 : Nat → Int → Int → Int → xj_M → Option (Int × xj_M)}  (hr96 : ∀ {M : xj_M} {G : xG_} {x0 : Nat} {x1 : Int} {x2 : Int} {x3 : Int} {R : Int × xG_}, xRX m M0 M G → xoP x0 → xin x1 → xin x2 → xin x3 → r96 x0 x1 x2 x3 G = some R → xok (o96 (m + x0) x1 x2 x3 M) (fun r => r.1 = R.1 ∧ xRX m M0 r.2 R.2 ∧ xin R.1)) : ∀ {n : Nat} {M : xj_M} {G : xG_} {x0 : Nat} {x1 : Int} {x2 : Int} {x3 : Int} {x4 : Int} {R : Int × xG_}, xRX m M0 M G → xoP x0 → xin x1 → xin x2 → xin x3 → xin x4 → g257_106  r96 f n x0 x1 x2 x3 x4 G = some R → xok (f257_106  o96 f n (m + x0) x1 x2 x3 x4 M) (fun r => r.1 = R.1 ∧ xRX m M0 r.2 R.2 ∧ xin R.1) := by
  intro n
  induction n with
  | zero => intros; rename_i e; cases e
  | succ n ih =>
    intros
    rename_i h i0 i1 i2 i3 i4 e
    exact s257_106b hI  hr96 ih h i0 i1 i2 i3 i4 e
theorem s257_96b {m f : Nat} {M0 M : xj_M} {G : xG_} (hI : xHI f)  {r96 : Nat → Int → Int → Int → xG_ → Option (Int × xG_)} {o96 : Nat → Int → Int → Int → xj_M → Option (Int × xj_M)}  (hr96 : ∀ {M : xj_M} {G : xG_} {x0 : Nat} {x1 : Int} {x2 : Int} {x3 : Int} {R : Int × xG_}, xRX m M0 M G → xoP x0 → xin x1 → xin x2 → xin x3 → r96 x0 x1 x2 x3 G = some R → xok (o96 (m + x0) x1 x2 x3 M) (fun r => r.1 = R.1 ∧ xRX m M0 r.2 R.2 ∧ xin R.1)) (h : xRX m M0 M G) {x0 : Nat} {x1 : Int} {x2 : Int} {x3 : Int} {R : Int × xG_} (tx0 : xoP x0) (tx1 : xin x1) (tx2 : xin x2) (tx3 : xin x3) (e : g257_96b  r96 f x0 x1 x2 x3 G = some R) : xok (f257_96b  o96 f (m + x0) x1 x2 x3 M) (fun r => r.1 = R.1 ∧ xRX m M0 r.2 R.2 ∧ xin R.1) := by
  unfold g257_96b at e
  unfold f257_96b
  refine xok_ite (fun c146 => ?_) (fun c146 => ?_)
  · rw [if_pos c146] at e
    cases e
    exact ⟨_, rfl, rfl, h, tx2⟩
  · rw [if_neg c146] at e
    exact s257_106 hI  hr96 h tx0 tx1 tx2 tx2 (show xin (0) by decide) e
theorem s257_96 {m f : Nat} {M0 : xj_M} (hI : xHI f)     : ∀ {n : Nat} {M : xj_M} {G : xG_} {x0 : Nat} {x1 : Int} {x2 : Int} {x3 : Int} {R : Int × xG_}, xRX m M0 M G → xoP x0 → xin x1 → xin x2 → xin x3 → g257_96   f n x0 x1 x2 x3 G = some R → xok (f257_96   f n (m + x0) x1 x2 x3 M) (fun r => r.1 = R.1 ∧ xRX m M0 r.2 R.2 ∧ xin R.1) := by
  intro n
  induction n with
  | zero => intros; rename_i e; cases e
  | succ n ih =>
    intros
    rename_i h i0 i1 i2 i3 e
    exact s257_96b hI   ih h i0 i1 i2 i3 e
theorem s257_4b {m f : Nat} {M0 M : xj_M} {G : xG_} (hI : xHI f)  {r4 : Nat → Int → Int → Int → xG_ → Option (Int × xG_)} {o4 : Nat → Int → Int → Int → xj_M → Option (Int × xj_M)}  (hr4 : ∀ {M : xj_M} {G : xG_} {x0 : Nat} {x1 : Int} {x2 : Int} {x3 : Int} {R : Int × xG_}, xRX m M0 M G → xoP x0 → xin x1 → xin x2 → xin x3 → r4 x0 x1 x2 x3 G = some R → xok (o4 (m + x0) x1 x2 x3 M) (fun r => r.1 = R.1 ∧ xRX m M0 r.2 R.2 ∧ xin R.1)) (h : xRX m M0 M G) {x0 : Nat} {x1 : Int} {x2 : Int} {x3 : Int} {R : Int × xG_} (tx0 : xoP x0) (tx1 : xin x1) (tx2 : xin x2) (tx3 : xin x3) (e : g257_4b  r4 f x0 x1 x2 x3 G = some R) : xok (f257_4b  o4 f (m + x0) x1 x2 x3 M) (fun r => r.1 = R.1 ∧ xRX m M0 r.2 R.2 ∧ xin R.1) := by
  unfold g257_4b at e
  unfold f257_4b
  refine xok_eqb (h.pt (o := x0) (c := 14) (k := 21) (t := x0 + 19) (n := 38) (xoP_o tx0).1 (xoP_o tx0).2 (by decide) (xoP_all tx0 (Q := fun p => (p, 21, p + 19) ∈ xl_P) (by decide +kernel) (by decide +kernel) (by decide +kernel))) ?_
  by_cases c147 : 0 ≤ (x1) ∧ (x1) < 25
  · skip
    rw [if_pos c147] at e
    refine xok_eqb (h.ai (o := x0 + 19) (n := 25) (xoP_all tx0 (Q := fun p => p + 19 < 276) (by decide) (by decide) (by decide)) (xoP_all tx0 (Q := fun p => xl_t (p + 19) = (2, 3, 25)) rfl rfl rfl) (by decide) c147.1 c147.2) ?_
    refine xok_ite (fun c148 => ?_) (fun c148 => ?_)
    · rw [if_pos c148] at e
      exact s257_96 hI   h tx0 tx1 tx2 (show xin (-1) by decide) e
    · rw [if_neg c148] at e
      exact s257_25 hI  hr4 h tx0 tx1 tx2 tx3 (xin_wr _) (show xin (0) by decide) e
  · rw [if_neg c147] at e; cases e
theorem s257_4 {m f : Nat} {M0 : xj_M} (hI : xHI f)     : ∀ {n : Nat} {M : xj_M} {G : xG_} {x0 : Nat} {x1 : Int} {x2 : Int} {x3 : Int} {R : Int × xG_}, xRX m M0 M G → xoP x0 → xin x1 → xin x2 → xin x3 → g257_4   f n x0 x1 x2 x3 G = some R → xok (f257_4   f n (m + x0) x1 x2 x3 M) (fun r => r.1 = R.1 ∧ xRX m M0 r.2 R.2 ∧ xin R.1) := by
  intro n
  induction n with
  | zero => intros; rename_i e; cases e
  | succ n ih =>
    intros
    rename_i h i0 i1 i2 i3 e
    exact s257_4b hI   ih h i0 i1 i2 i3 e
theorem sg257 {m f : Nat} {M0 M : xj_M} {G : xG_} (hI : xHI f)   (h : xRX m M0 M G) {a0 : Nat} {a1 : Int} {R : Int × xG_} (ta0 : xoP a0) (ta1 : xin a1) (e : g257  f a0 a1 G = some R) : xok (f257  f (m + a0) a1 M) (fun r => r.1 = R.1 ∧ xRX m M0 r.2 R.2 ∧ xin R.1) := by
  unfold g257 at e
  unfold f257
  exact s257_4 hI   h ta0 ta1 (show xin (0) by decide) (show xin (0) by decide) e
-- ChangeHouseModel.findUnsafe
theorem s258_46 {m f : Nat} {M0 M : xj_M} {G : xG_} (hI : xHI f)  {r9 : Nat → Int → Int → Int → xG_ → Option (xG_)} {o9 : Nat → Nat → Int → Int → Int → xj_M → Option (xj_M)}  (hr9 : ∀ {M : xj_M} {G : xG_} {x1 : Nat} {x2 : Int} {x3 : Int} {x4 : Int} {R : xG_}, xRX m M0 M G → xoP x1 → xin x2 → xin x3 → xin x4 → r9 x1 x2 x3 x4 G = some R → xok (o9 m (m + x1) x2 x3 x4 M) (fun r => xRX m M0 r R)) (h : xRX m M0 M G) {x1 : Nat} {x2 : Int} {x3 : Int} {x4 : Int} {R : xG_} (tx1 : xoP x1) (tx2 : xin x2) (tx3 : xin x3) (tx4 : xin x4) (e : g258_46  r9 f x1 x2 x3 x4 G = some R) : xok (f258_46  o9 f m (m + x1) x2 x3 x4 M) (fun r => xRX m M0 r R) := by
  unfold g258_46 at e
  unfold f258_46
  exact hr9 h tx1 tx2 tx3 (xin_wr _) e
theorem s258_9b {m f : Nat} {M0 M : xj_M} {G : xG_} (hI : xHI f)  {r9 : Nat → Int → Int → Int → xG_ → Option (xG_)} {o9 : Nat → Nat → Int → Int → Int → xj_M → Option (xj_M)}  (hr9 : ∀ {M : xj_M} {G : xG_} {x1 : Nat} {x2 : Int} {x3 : Int} {x4 : Int} {R : xG_}, xRX m M0 M G → xoP x1 → xin x2 → xin x3 → xin x4 → r9 x1 x2 x3 x4 G = some R → xok (o9 m (m + x1) x2 x3 x4 M) (fun r => xRX m M0 r R)) (h : xRX m M0 M G) {x1 : Nat} {x2 : Int} {x3 : Int} {x4 : Int} {R : xG_} (tx1 : xoP x1) (tx2 : xin x2) (tx3 : xin x3) (tx4 : xin x4) (e : g258_9b  r9 f x1 x2 x3 x4 G = some R) : xok (f258_9b  o9 f m (m + x1) x2 x3 x4 M) (fun r => xRX m M0 r R) := by
  unfold g258_9b at e
  unfold f258_9b
  refine xok_eqb (h.pt (o := x1) (c := 14) (k := 22) (t := x1 + 20) (n := 38) (xoP_o tx1).1 (xoP_o tx1).2 (by decide) (xoP_all tx1 (Q := fun p => (p, 22, p + 20) ∈ xl_P) (by decide +kernel) (by decide +kernel) (by decide +kernel))) ?_
  by_cases c101 : 0 ≤ (x2) ∧ (x2) < 25
  · skip
    rw [if_pos c101] at e
    refine xok_eqb (h.ai (o := x1 + 20) (n := 25) (xoP_all tx1 (Q := fun p => p + 20 < 276) (by decide) (by decide) (by decide)) (xoP_all tx1 (Q := fun p => xl_t (p + 20) = (2, 3, 25)) rfl rfl rfl) (by decide) c101.1 c101.2) ?_
    refine xok_ite (fun c102 => ?_) (fun c102 => ?_)
    · rw [if_pos c102] at e
      cases e
      exact ⟨_, rfl, h⟩
    · rw [if_neg c102] at e
      refine xok_ite (fun c103 => ?_) (fun c103 => ?_)
      · rw [if_pos c103] at e
        exact s258_46 hI  hr9 h tx1 tx2 tx3 tx4 e
      · rw [if_neg c103] at e
        refine xok_eqb (h.pt (o := x1) (c := 14) (k := 26) (t := x1 + 24) (n := 38) (xoP_o tx1).1 (xoP_o tx1).2 (by decide) (xoP_all tx1 (Q := fun p => (p, 26, p + 24) ∈ xl_P) (by decide +kernel) (by decide +kernel) (by decide +kernel))) ?_
        by_cases c104 : 0 ≤ (xwr ((xwr ((x2) * (8))) + (x4))) ∧ (xwr ((xwr ((x2) * (8))) + (x4))) < 200
        · skip
          rw [if_pos c104] at e
          refine xok_eqb (h.ai (o := x1 + 24) (n := 200) (xoP_all tx1 (Q := fun p => p + 24 < 276) (by decide) (by decide) (by decide)) (xoP_all tx1 (Q := fun p => xl_t (p + 24) = (2, 3, 200)) rfl rfl rfl) (by decide) c104.1 c104.2) ?_
          obtain ⟨R105, e106, e⟩ := xbnd e
          refine xok_eqb (h.is (o := 0) (c := 15) (by decide) rfl) ?_
          refine xok_call (sg251 hI  h (show xin (4) by decide) (h.ain (o := x1 + 24) (n := 200) (xoP_all tx1 (Q := fun p => p + 24 < 276) (by decide) (by decide) (by decide)) (xoP_all tx1 (Q := fun p => xl_t (p + 24) = (2, 3, 200)) rfl rfl rfl) (by decide) c104.1 c104.2) e106) ?_
          intro M109 h107
          exact s258_46 hI  hr9 h107 tx1 tx2 tx3 tx4 e
        · rw [if_neg c104] at e; cases e
  · rw [if_neg c101] at e; cases e
theorem s258_9 {m f : Nat} {M0 : xj_M} (hI : xHI f)     : ∀ {n : Nat} {M : xj_M} {G : xG_} {x1 : Nat} {x2 : Int} {x3 : Int} {x4 : Int} {R : xG_}, xRX m M0 M G → xoP x1 → xin x2 → xin x3 → xin x4 → g258_9   f n x1 x2 x3 x4 G = some R → xok (f258_9   f n m (m + x1) x2 x3 x4 M) (fun r => xRX m M0 r R) := by
  intro n
  induction n with
  | zero => intros; rename_i e; cases e
  | succ n ih =>
    intros
    rename_i h i0 i1 i2 i3 e
    exact s258_9b hI   ih h i0 i1 i2 i3 e
theorem sg258 {m f : Nat} {M0 M : xj_M} {G : xG_} (hI : xHI f)   (h : xRX m M0 M G) {a1 : Nat} {a2 : Int} {R : xG_} (ta1 : xoP a1) (ta2 : xin a2) (e : g258  f a1 a2 G = some R) : xok (f258  f m (m + a1) a2 M) (fun r => xRX m M0 r R) := by
  unfold g258 at e
  unfold f258
  obtain ⟨R110, e111, e⟩ := xbnd e
  refine xok_call (sg257 hI  h ta1 ta2 e111) ?_
  rintro ⟨v_, M114⟩ ⟨hv_, h112, hi113⟩
  cases hv_
  exact s258_9 hI   h112 ta1 ta2 hi113 (show xin (0) by decide) e
-- ChangeHouseModel.findRings
theorem s259_87 {m f : Nat} {M0 M : xj_M} {G : xG_} (hI : xHI f)  {r25 : Nat → Int → xG_ → Option (xG_)} {o25 : Nat → Nat → Int → xj_M → Option (xj_M)} {r35 : Nat → Int → Int → xG_ → Option (xG_)} {o35 : Nat → Nat → Int → Int → xj_M → Option (xj_M)}  (hr25 : ∀ {M : xj_M} {G : xG_} {x1 : Nat} {x2 : Int} {R : xG_}, xRX m M0 M G → xoP x1 → xin x2 → r25 x1 x2 G = some R → xok (o25 m (m + x1) x2 M) (fun r => xRX m M0 r R)) (hr35 : ∀ {M : xj_M} {G : xG_} {x1 : Nat} {x2 : Int} {x3 : Int} {R : xG_}, xRX m M0 M G → xoP x1 → xin x2 → xin x3 → r35 x1 x2 x3 G = some R → xok (o35 m (m + x1) x2 x3 M) (fun r => xRX m M0 r R)) (h : xRX m M0 M G) {x1 : Nat} {x2 : Int} {x3 : Int} {R : xG_} (tx1 : xoP x1) (tx2 : xin x2) (tx3 : xin x3) (e : g259_87  r25 r35 f x1 x2 x3 G = some R) : xok (f259_87  o25 o35 f m (m + x1) x2 x3 M) (fun r => xRX m M0 r R) := by
  unfold g259_87 at e
  unfold f259_87
  exact hr35 h tx1 tx2 (xin_wr _) e
theorem s259_35b {m f : Nat} {M0 M : xj_M} {G : xG_} (hI : xHI f)  {r25 : Nat → Int → xG_ → Option (xG_)} {o25 : Nat → Nat → Int → xj_M → Option (xj_M)} {r35 : Nat → Int → Int → xG_ → Option (xG_)} {o35 : Nat → Nat → Int → Int → xj_M → Option (xj_M)}  (hr25 : ∀ {M : xj_M} {G : xG_} {x1 : Nat} {x2 : Int} {R : xG_}, xRX m M0 M G → xoP x1 → xin x2 → r25 x1 x2 G = some R → xok (o25 m (m + x1) x2 M) (fun r => xRX m M0 r R)) (hr35 : ∀ {M : xj_M} {G : xG_} {x1 : Nat} {x2 : Int} {x3 : Int} {R : xG_}, xRX m M0 M G → xoP x1 → xin x2 → xin x3 → r35 x1 x2 x3 G = some R → xok (o35 m (m + x1) x2 x3 M) (fun r => xRX m M0 r R)) (h : xRX m M0 M G) {x1 : Nat} {x2 : Int} {x3 : Int} {R : xG_} (tx1 : xoP x1) (tx2 : xin x2) (tx3 : xin x3) (e : g259_35b  r25 r35 f x1 x2 x3 G = some R) : xok (f259_35b  o25 o35 f m (m + x1) x2 x3 M) (fun r => xRX m M0 r R) := by
  unfold g259_35b at e
  unfold f259_35b
  refine xok_eqb (h.pt (o := x1) (c := 14) (k := 21) (t := x1 + 19) (n := 38) (xoP_o tx1).1 (xoP_o tx1).2 (by decide) (xoP_all tx1 (Q := fun p => (p, 21, p + 19) ∈ xl_P) (by decide +kernel) (by decide +kernel) (by decide +kernel))) ?_
  by_cases c101 : 0 ≤ (x2) ∧ (x2) < 25
  · skip
    rw [if_pos c101] at e
    refine xok_eqb (h.ai (o := x1 + 19) (n := 25) (xoP_all tx1 (Q := fun p => p + 19 < 276) (by decide) (by decide) (by decide)) (xoP_all tx1 (Q := fun p => xl_t (p + 19) = (2, 3, 25)) rfl rfl rfl) (by decide) c101.1 c101.2) ?_
    refine xok_ite (fun c102 => ?_) (fun c102 => ?_)
    · rw [if_pos c102] at e
      exact hr25 h tx1 (xin_wr _) e
    · rw [if_neg c102] at e
      refine xok_eqb (h.pt (o := x1) (c := 14) (k := 27) (t := x1 + 25) (n := 38) (xoP_o tx1).1 (xoP_o tx1).2 (by decide) (xoP_all tx1 (Q := fun p => (p, 27, p + 25) ∈ xl_P) (by decide +kernel) (by decide +kernel) (by decide +kernel))) ?_
      by_cases c103 : 0 ≤ (xwr ((xwr ((x2) * (8))) + (x3))) ∧ (xwr ((xwr ((x2) * (8))) + (x3))) < 200
      · skip
        rw [if_pos c103] at e
        refine xok_eqb (h.ai (o := x1 + 25) (n := 200) (xoP_all tx1 (Q := fun p => p + 25 < 276) (by decide) (by decide) (by decide)) (xoP_all tx1 (Q := fun p => xl_t (p + 25) = (2, 3, 200)) rfl rfl rfl) (by decide) c103.1 c103.2) ?_
        refine xok_ite (fun c104 => ?_) (fun c104 => ?_)
        · rw [if_pos c104] at e
          exact s259_87 hI  hr25 hr35 h tx1 tx2 tx3 e
        · rw [if_neg c104] at e
          refine xok_eqb (h.pt (o := x1) (c := 14) (k := 3) (t := x1 + 4) (n := 38) (xoP_o tx1).1 (xoP_o tx1).2 (by decide) (xoP_all tx1 (Q := fun p => (p, 3, p + 4) ∈ xl_P) (by decide +kernel) (by decide +kernel) (by decide +kernel))) ?_
          refine xok_eqb (h.pt (o := x1) (c := 14) (k := 15) (t := x1 + 13) (n := 38) (xoP_o tx1).1 (xoP_o tx1).2 (by decide) (xoP_all tx1 (Q := fun p => (p, 15, p + 13) ∈ xl_P) (by decide +kernel) (by decide +kernel) (by decide +kernel))) ?_
          by_cases c105 : 0 ≤ (x2) ∧ (x2) < 25
          · skip
            rw [if_pos c105] at e
            refine xok_eqb (h.ai (o := x1 + 13) (n := 25) (xoP_all tx1 (Q := fun p => p + 13 < 276) (by decide) (by decide) (by decide)) (xoP_all tx1 (Q := fun p => xl_t (p + 13) = (2, 3, 25)) rfl rfl rfl) (by decide) c105.1 c105.2) ?_
            by_cases c106 : 0 ≤ (G (x1 + 13) (x2).toNat) ∧ (G (x1 + 13) (x2).toNat) < 16
            · skip
              rw [if_pos c106] at e
              refine xok_eqb (h.ai (o := x1 + 4) (n := 16) (xoP_all tx1 (Q := fun p => p + 4 < 276) (by decide) (by decide) (by decide)) (xoP_all tx1 (Q := fun p => xl_t (p + 4) = (2, 3, 16)) rfl rfl rfl) (by decide) c106.1 c106.2) ?_
              refine xok_eqb (h.pt (o := x1) (c := 14) (k := 28) (t := x1 + 26) (n := 38) (xoP_o tx1).1 (xoP_o tx1).2 (by decide) (xoP_all tx1 (Q := fun p => (p, 28, p + 26) ∈ xl_P) (by decide +kernel) (by decide +kernel) (by decide +kernel))) ?_
              by_cases c107 : 0 ≤ (xwr ((xwr ((x2) * (8))) + (x3))) ∧ (xwr ((xwr ((x2) * (8))) + (x3))) < 200
              · skip
                rw [if_pos c107] at e
                refine xok_eqb (h.ai (o := x1 + 26) (n := 200) (xoP_all tx1 (Q := fun p => p + 26 < 276) (by decide) (by decide) (by decide)) (xoP_all tx1 (Q := fun p => xl_t (p + 26) = (2, 3, 200)) rfl rfl rfl) (by decide) c107.1 c107.2) ?_
                by_cases c108 : 0 ≤ (G (x1 + 13) (x2).toNat) ∧ (G (x1 + 13) (x2).toNat) < 16
                · skip
                  rw [if_pos c108] at e
                  obtain ⟨M109, q110, h111⟩ := h.si (o := x1 + 4) (n := 16) (v := xor_ (G (x1 + 4) (G (x1 + 13) (x2).toNat).toNat) (xshl (1) (G (x1 + 26) (xwr ((xwr ((x2) * (8))) + (x3))).toNat))) (xoP_all tx1 (Q := fun p => p + 4 < 276) (by decide) (by decide) (by decide)) (xoP_all tx1 (Q := fun p => xl_t (p + 4) = (2, 3, 16)) rfl rfl rfl) c108.1 c108.2 (xin_of _)
                  refine xok_eqb q110 ?_
                  obtain ⟨G112, g1, e⟩ := xbnd e
                  cases g1
                  have h111_ : xRX m M0 M109 (xup2 G (x1 + 4) (G (x1 + 13) (x2).toNat).toNat (xor_ (G (x1 + 4) (G (x1 + 13) (x2).toNat).toNat) (xshl (1) (G (x1 + 26) (xwr ((xwr ((x2) * (8))) + (x3))).toNat)))) := h111
                  generalize hGG112 : (xup2 G (x1 + 4) (G (x1 + 13) (x2).toNat).toNat (xor_ (G (x1 + 4) (G (x1 + 13) (x2).toNat).toNat) (xshl (1) (G (x1 + 26) (xwr ((xwr ((x2) * (8))) + (x3))).toNat)))) = G112 at e h111
                  clear h111_ hGG112
                  exact s259_87 hI  hr25 hr35 h111 tx1 tx2 tx3 e
                · rw [if_neg c108] at e; cases e
              · rw [if_neg c107] at e; cases e
            · rw [if_neg c106] at e; cases e
          · rw [if_neg c105] at e; cases e
      · rw [if_neg c103] at e; cases e
  · rw [if_neg c101] at e; cases e
theorem s259_35 {m f : Nat} {M0 : xj_M} (hI : xHI f)  {r25 : Nat → Int → xG_ → Option (xG_)} {o25 : Nat → Nat → Int → xj_M → Option (xj_M)}  (hr25 : ∀ {M : xj_M} {G : xG_} {x1 : Nat} {x2 : Int} {R : xG_}, xRX m M0 M G → xoP x1 → xin x2 → r25 x1 x2 G = some R → xok (o25 m (m + x1) x2 M) (fun r => xRX m M0 r R)) : ∀ {n : Nat} {M : xj_M} {G : xG_} {x1 : Nat} {x2 : Int} {x3 : Int} {R : xG_}, xRX m M0 M G → xoP x1 → xin x2 → xin x3 → g259_35  r25 f n x1 x2 x3 G = some R → xok (f259_35  o25 f n m (m + x1) x2 x3 M) (fun r => xRX m M0 r R) := by
  intro n
  induction n with
  | zero => intros; rename_i e; cases e
  | succ n ih =>
    intros
    rename_i h i0 i1 i2 e
    exact s259_35b hI  hr25 ih h i0 i1 i2 e
theorem s259_173 {m f : Nat} {M0 M : xj_M} {G : xG_} (hI : xHI f)  {r131 : Nat → Nat → Int → xG_ → Option (xG_)} {o131 : Nat → Nat → Int → xj_M → Option (xj_M)} {r142 : Nat → Nat → Int → Int → xG_ → Option (xG_)} {o142 : Nat → Nat → Int → Int → xj_M → Option (xj_M)}  (hr131 : ∀ {M : xj_M} {G : xG_} {x1 : Nat} {x2 : Nat} {x3 : Int} {R : xG_}, xRX m M0 M G → xoP x1 → xoI x2 → xin x3 → r131 x1 x2 x3 G = some R → xok (o131 (m + x1) (m + x2) x3 M) (fun r => xRX m M0 r R)) (hr142 : ∀ {M : xj_M} {G : xG_} {x1 : Nat} {x2 : Nat} {x3 : Int} {x4 : Int} {R : xG_}, xRX m M0 M G → xoP x1 → xoI x2 → xin x3 → xin x4 → r142 x1 x2 x3 x4 G = some R → xok (o142 (m + x1) (m + x2) x3 x4 M) (fun r => xRX m M0 r R)) (h : xRX m M0 M G) {x1 : Nat} {x2 : Nat} {x3 : Int} {x4 : Int} {R : xG_} (tx1 : xoP x1) (tx2 : xoI x2) (tx3 : xin x3) (tx4 : xin x4) (e : g259_173  r131 r142 f x1 x2 x3 x4 G = some R) : xok (f259_173  o131 o142 f (m + x1) (m + x2) x3 x4 M) (fun r => xRX m M0 r R) := by
  unfold g259_173 at e
  unfold f259_173
  exact hr142 h tx1 tx2 tx3 (xin_wr _) e
theorem s259_142b {m f : Nat} {M0 M : xj_M} {G : xG_} (hI : xHI f)  {r131 : Nat → Nat → Int → xG_ → Option (xG_)} {o131 : Nat → Nat → Int → xj_M → Option (xj_M)} {r142 : Nat → Nat → Int → Int → xG_ → Option (xG_)} {o142 : Nat → Nat → Int → Int → xj_M → Option (xj_M)}  (hr131 : ∀ {M : xj_M} {G : xG_} {x1 : Nat} {x2 : Nat} {x3 : Int} {R : xG_}, xRX m M0 M G → xoP x1 → xoI x2 → xin x3 → r131 x1 x2 x3 G = some R → xok (o131 (m + x1) (m + x2) x3 M) (fun r => xRX m M0 r R)) (hr142 : ∀ {M : xj_M} {G : xG_} {x1 : Nat} {x2 : Nat} {x3 : Int} {x4 : Int} {R : xG_}, xRX m M0 M G → xoP x1 → xoI x2 → xin x3 → xin x4 → r142 x1 x2 x3 x4 G = some R → xok (o142 (m + x1) (m + x2) x3 x4 M) (fun r => xRX m M0 r R)) (h : xRX m M0 M G) {x1 : Nat} {x2 : Nat} {x3 : Int} {x4 : Int} {R : xG_} (tx1 : xoP x1) (tx2 : xoI x2) (tx3 : xin x3) (tx4 : xin x4) (e : g259_142b  r131 r142 f x1 x2 x3 x4 G = some R) : xok (f259_142b  o131 o142 f (m + x1) (m + x2) x3 x4 M) (fun r => xRX m M0 r R) := by
  unfold g259_142b at e
  unfold f259_142b
  refine xok_eqb (h.gi (o := x1) (c := 14) (k := 8) (n := 38) (xoP_o tx1).1 (xoP_o tx1).2 (by decide) (by decide)) ?_
  refine xok_ite (fun c113 => ?_) (fun c113 => ?_)
  · rw [if_pos c113] at e
    exact hr131 h tx1 tx2 (xin_wr _) e
  · rw [if_neg c113] at e
    by_cases c114 : 0 ≤ (x4) ∧ (x4) < ((xl_t (x2)).2.2 : Int)
    · skip
      rw [if_pos c114] at e
      refine xok_eqb (h.ai (o := x2) (n := (xl_t (x2)).2.2) tx2.1 tx2.2 (by decide) c114.1 c114.2) ?_
      refine xok_ite (fun c115 => ?_) (fun c115 => ?_)
      · rw [if_pos c115] at e
        exact s259_173 hI  hr131 hr142 h tx1 tx2 tx3 tx4 e
      · rw [if_neg c115] at e
        by_cases c116 : 0 ≤ (x4) ∧ (x4) < ((xl_t (x2)).2.2 : Int)
        · skip
          rw [if_pos c116] at e
          refine xok_eqb (h.ai (o := x2) (n := (xl_t (x2)).2.2) tx2.1 tx2.2 (by decide) c116.1 c116.2) ?_
          by_cases c117 : 0 ≤ (x3) ∧ (x3) < ((xl_t (x2)).2.2 : Int)
          · skip
            rw [if_pos c117] at e
            refine xok_eqb (h.ai (o := x2) (n := (xl_t (x2)).2.2) tx2.1 tx2.2 (by decide) c117.1 c117.2) ?_
            by_cases c118 : 0 ≤ (x4) ∧ (x4) < ((xl_t (x2)).2.2 : Int)
            · skip
              rw [if_pos c118] at e
              obtain ⟨M119, q120, h121⟩ := h.si (o := x2) (n := (xl_t (x2)).2.2) (v := xor_ (G (x2) (x4).toNat) (G (x2) (x3).toNat)) tx2.1 tx2.2 c118.1 c118.2 (xin_of _)
              refine xok_eqb q120 ?_
              obtain ⟨G122, g1, e⟩ := xbnd e
              cases g1
              have h121_ : xRX m M0 M119 (xup2 G (x2) (x4).toNat (xor_ (G (x2) (x4).toNat) (G (x2) (x3).toNat))) := h121
              generalize hGG122 : (xup2 G (x2) (x4).toNat (xor_ (G (x2) (x4).toNat) (G (x2) (x3).toNat))) = G122 at e h121
              clear h121_ hGG122
              exact s259_173 hI  hr131 hr142 h121 tx1 tx2 tx3 tx4 e
            · rw [if_neg c118] at e; cases e
          · rw [if_neg c117] at e; cases e
        · rw [if_neg c116] at e; cases e
    · rw [if_neg c114] at e; cases e
theorem s259_142 {m f : Nat} {M0 : xj_M} (hI : xHI f)  {r131 : Nat → Nat → Int → xG_ → Option (xG_)} {o131 : Nat → Nat → Int → xj_M → Option (xj_M)}  (hr131 : ∀ {M : xj_M} {G : xG_} {x1 : Nat} {x2 : Nat} {x3 : Int} {R : xG_}, xRX m M0 M G → xoP x1 → xoI x2 → xin x3 → r131 x1 x2 x3 G = some R → xok (o131 (m + x1) (m + x2) x3 M) (fun r => xRX m M0 r R)) : ∀ {n : Nat} {M : xj_M} {G : xG_} {x1 : Nat} {x2 : Nat} {x3 : Int} {x4 : Int} {R : xG_}, xRX m M0 M G → xoP x1 → xoI x2 → xin x3 → xin x4 → g259_142  r131 f n x1 x2 x3 x4 G = some R → xok (f259_142  o131 f n (m + x1) (m + x2) x3 x4 M) (fun r => xRX m M0 r R) := by
  intro n
  induction n with
  | zero => intros; rename_i e; cases e
  | succ n ih =>
    intros
    rename_i h i0 i1 i2 i3 e
    exact s259_142b hI  hr131 ih h i0 i1 i2 i3 e
theorem s259_244 {m f : Nat} {M0 M : xj_M} {G : xG_} (hI : xHI f)  {r187 : Nat → Nat → Int → xG_ → Option (xG_)} {o187 : Nat → Nat → Int → xj_M → Option (xj_M)} {r207 : Nat → Nat → Int → Int → xG_ → Option (xG_)} {o207 : Nat → Nat → Int → Int → xj_M → Option (xj_M)}  (hr187 : ∀ {M : xj_M} {G : xG_} {x1 : Nat} {x2 : Nat} {x3 : Int} {R : xG_}, xRX m M0 M G → xoP x1 → xoI x2 → xin x3 → r187 x1 x2 x3 G = some R → xok (o187 (m + x1) (m + x2) x3 M) (fun r => xRX m M0 r R)) (hr207 : ∀ {M : xj_M} {G : xG_} {x1 : Nat} {x2 : Nat} {x3 : Int} {x4 : Int} {R : xG_}, xRX m M0 M G → xoP x1 → xoI x2 → xin x3 → xin x4 → r207 x1 x2 x3 x4 G = some R → xok (o207 (m + x1) (m + x2) x3 x4 M) (fun r => xRX m M0 r R)) (h : xRX m M0 M G) {x1 : Nat} {x2 : Nat} {x3 : Int} {x4 : Int} {R : xG_} (tx1 : xoP x1) (tx2 : xoI x2) (tx3 : xin x3) (tx4 : xin x4) (e : g259_244  r187 r207 f x1 x2 x3 x4 G = some R) : xok (f259_244  o187 o207 f (m + x1) (m + x2) x3 x4 M) (fun r => xRX m M0 r R) := by
  unfold g259_244 at e
  unfold f259_244
  exact hr207 h tx1 tx2 tx3 (xin_wr _) e
theorem s259_207b {m f : Nat} {M0 M : xj_M} {G : xG_} (hI : xHI f)  {r187 : Nat → Nat → Int → xG_ → Option (xG_)} {o187 : Nat → Nat → Int → xj_M → Option (xj_M)} {r207 : Nat → Nat → Int → Int → xG_ → Option (xG_)} {o207 : Nat → Nat → Int → Int → xj_M → Option (xj_M)}  (hr187 : ∀ {M : xj_M} {G : xG_} {x1 : Nat} {x2 : Nat} {x3 : Int} {R : xG_}, xRX m M0 M G → xoP x1 → xoI x2 → xin x3 → r187 x1 x2 x3 G = some R → xok (o187 (m + x1) (m + x2) x3 M) (fun r => xRX m M0 r R)) (hr207 : ∀ {M : xj_M} {G : xG_} {x1 : Nat} {x2 : Nat} {x3 : Int} {x4 : Int} {R : xG_}, xRX m M0 M G → xoP x1 → xoI x2 → xin x3 → xin x4 → r207 x1 x2 x3 x4 G = some R → xok (o207 (m + x1) (m + x2) x3 x4 M) (fun r => xRX m M0 r R)) (h : xRX m M0 M G) {x1 : Nat} {x2 : Nat} {x3 : Int} {x4 : Int} {R : xG_} (tx1 : xoP x1) (tx2 : xoI x2) (tx3 : xin x3) (tx4 : xin x4) (e : g259_207b  r187 r207 f x1 x2 x3 x4 G = some R) : xok (f259_207b  o187 o207 f (m + x1) (m + x2) x3 x4 M) (fun r => xRX m M0 r R) := by
  unfold g259_207b at e
  unfold f259_207b
  refine xok_ite (fun c123 => ?_) (fun c123 => ?_)
  · rw [if_pos c123] at e
    exact hr187 h tx1 tx2 (xin_wr _) e
  · rw [if_neg c123] at e
    by_cases c124 : 0 ≤ (x3) ∧ (x3) < ((xl_t (x2)).2.2 : Int)
    · skip
      rw [if_pos c124] at e
      refine xok_eqb (h.ai (o := x2) (n := (xl_t (x2)).2.2) tx2.1 tx2.2 (by decide) c124.1 c124.2) ?_
      refine xok_ite (fun c125 => ?_) (fun c125 => ?_)
      · rw [if_pos c125] at e
        exact s259_244 hI  hr187 hr207 h tx1 tx2 tx3 tx4 e
      · rw [if_neg c125] at e
        by_cases c126 : 0 ≤ (x4) ∧ (x4) < ((xl_t (x2)).2.2 : Int)
        · skip
          rw [if_pos c126] at e
          refine xok_eqb (h.ai (o := x2) (n := (xl_t (x2)).2.2) tx2.1 tx2.2 (by decide) c126.1 c126.2) ?_
          refine xok_ite (fun c127 => ?_) (fun c127 => ?_)
          · rw [if_pos c127] at e
            exact s259_244 hI  hr187 hr207 h tx1 tx2 tx3 tx4 e
          · rw [if_neg c127] at e
            refine xok_eqb (h.pt (o := x1) (c := 14) (k := 4) (t := x1 + 5) (n := 38) (xoP_o tx1).1 (xoP_o tx1).2 (by decide) (xoP_all tx1 (Q := fun p => (p, 4, p + 5) ∈ xl_P) (by decide +kernel) (by decide +kernel) (by decide +kernel))) ?_
            by_cases c128 : 0 ≤ (x3) ∧ (x3) < 16
            · skip
              rw [if_pos c128] at e
              obtain ⟨M129, q130, h131⟩ := h.si (o := x1 + 5) (n := 16) (v := x4) (xoP_all tx1 (Q := fun p => p + 5 < 276) (by decide) (by decide) (by decide)) (xoP_all tx1 (Q := fun p => xl_t (p + 5) = (2, 3, 16)) rfl rfl rfl) c128.1 c128.2 tx4
              refine xok_eqb q130 ?_
              obtain ⟨G132, g1, e⟩ := xbnd e
              cases g1
              have h131_ : xRX m M0 M129 (xup2 G (x1 + 5) (x3).toNat (x4)) := h131
              generalize hGG132 : (xup2 G (x1 + 5) (x3).toNat (x4)) = G132 at e h131
              clear h131_ hGG132
              exact s259_244 hI  hr187 hr207 h131 tx1 tx2 tx3 tx4 e
            · rw [if_neg c128] at e; cases e
        · rw [if_neg c126] at e; cases e
    · rw [if_neg c124] at e; cases e
theorem s259_207 {m f : Nat} {M0 : xj_M} (hI : xHI f)  {r187 : Nat → Nat → Int → xG_ → Option (xG_)} {o187 : Nat → Nat → Int → xj_M → Option (xj_M)}  (hr187 : ∀ {M : xj_M} {G : xG_} {x1 : Nat} {x2 : Nat} {x3 : Int} {R : xG_}, xRX m M0 M G → xoP x1 → xoI x2 → xin x3 → r187 x1 x2 x3 G = some R → xok (o187 (m + x1) (m + x2) x3 M) (fun r => xRX m M0 r R)) : ∀ {n : Nat} {M : xj_M} {G : xG_} {x1 : Nat} {x2 : Nat} {x3 : Int} {x4 : Int} {R : xG_}, xRX m M0 M G → xoP x1 → xoI x2 → xin x3 → xin x4 → g259_207  r187 f n x1 x2 x3 x4 G = some R → xok (f259_207  o187 f n (m + x1) (m + x2) x3 x4 M) (fun r => xRX m M0 r R) := by
  intro n
  induction n with
  | zero => intros; rename_i e; cases e
  | succ n ih =>
    intros
    rename_i h i0 i1 i2 i3 e
    exact s259_207b hI  hr187 ih h i0 i1 i2 i3 e
theorem s259_187b {m f : Nat} {M0 M : xj_M} {G : xG_} (hI : xHI f)  {r187 : Nat → Nat → Int → xG_ → Option (xG_)} {o187 : Nat → Nat → Int → xj_M → Option (xj_M)}  (hr187 : ∀ {M : xj_M} {G : xG_} {x1 : Nat} {x2 : Nat} {x3 : Int} {R : xG_}, xRX m M0 M G → xoP x1 → xoI x2 → xin x3 → r187 x1 x2 x3 G = some R → xok (o187 (m + x1) (m + x2) x3 M) (fun r => xRX m M0 r R)) (h : xRX m M0 M G) {x1 : Nat} {x2 : Nat} {x3 : Int} {R : xG_} (tx1 : xoP x1) (tx2 : xoI x2) (tx3 : xin x3) (e : g259_187b  r187 f x1 x2 x3 G = some R) : xok (f259_187b  o187 f (m + x1) (m + x2) x3 M) (fun r => xRX m M0 r R) := by
  unfold g259_187b at e
  unfold f259_187b
  refine xok_eqb (h.gi (o := x1) (c := 14) (k := 8) (n := 38) (xoP_o tx1).1 (xoP_o tx1).2 (by decide) (by decide)) ?_
  refine xok_ite (fun c133 => ?_) (fun c133 => ?_)
  · rw [if_pos c133] at e
    cases e
    exact ⟨_, rfl, h⟩
  · rw [if_neg c133] at e
    refine xok_eqb (h.pt (o := x1) (c := 14) (k := 4) (t := x1 + 5) (n := 38) (xoP_o tx1).1 (xoP_o tx1).2 (by decide) (xoP_all tx1 (Q := fun p => (p, 4, p + 5) ∈ xl_P) (by decide +kernel) (by decide +kernel) (by decide +kernel))) ?_
    by_cases c134 : 0 ≤ (x3) ∧ (x3) < 16
    · skip
      rw [if_pos c134] at e
      obtain ⟨M135, q136, h137⟩ := h.si (o := x1 + 5) (n := 16) (v := x3) (xoP_all tx1 (Q := fun p => p + 5 < 276) (by decide) (by decide) (by decide)) (xoP_all tx1 (Q := fun p => xl_t (p + 5) = (2, 3, 16)) rfl rfl rfl) c134.1 c134.2 tx3
      refine xok_eqb q136 ?_
      obtain ⟨G138, g1, e⟩ := xbnd e
      cases g1
      have h137_ : xRX m M0 M135 (xup2 G (x1 + 5) (x3).toNat (x3)) := h137
      generalize hGG138 : (xup2 G (x1 + 5) (x3).toNat (x3)) = G138 at e h137
      clear h137_ hGG138
      exact s259_207 hI  hr187 h137 tx1 tx2 tx3 (xin_wr _) e
    · rw [if_neg c134] at e; cases e
theorem s259_187 {m f : Nat} {M0 : xj_M} (hI : xHI f)     : ∀ {n : Nat} {M : xj_M} {G : xG_} {x1 : Nat} {x2 : Nat} {x3 : Int} {R : xG_}, xRX m M0 M G → xoP x1 → xoI x2 → xin x3 → g259_187   f n x1 x2 x3 G = some R → xok (f259_187   f n (m + x1) (m + x2) x3 M) (fun r => xRX m M0 r R) := by
  intro n
  induction n with
  | zero => intros; rename_i e; cases e
  | succ n ih =>
    intros
    rename_i h i0 i1 i2 e
    exact s259_187b hI   ih h i0 i1 i2 e
theorem s259_131b {m f : Nat} {M0 M : xj_M} {G : xG_} (hI : xHI f)  {r131 : Nat → Nat → Int → xG_ → Option (xG_)} {o131 : Nat → Nat → Int → xj_M → Option (xj_M)}  (hr131 : ∀ {M : xj_M} {G : xG_} {x1 : Nat} {x2 : Nat} {x3 : Int} {R : xG_}, xRX m M0 M G → xoP x1 → xoI x2 → xin x3 → r131 x1 x2 x3 G = some R → xok (o131 (m + x1) (m + x2) x3 M) (fun r => xRX m M0 r R)) (h : xRX m M0 M G) {x1 : Nat} {x2 : Nat} {x3 : Int} {R : xG_} (tx1 : xoP x1) (tx2 : xoI x2) (tx3 : xin x3) (e : g259_131b  r131 f x1 x2 x3 G = some R) : xok (f259_131b  o131 f (m + x1) (m + x2) x3 M) (fun r => xRX m M0 r R) := by
  unfold g259_131b at e
  unfold f259_131b
  refine xok_eqb (h.gi (o := x1) (c := 14) (k := 8) (n := 38) (xoP_o tx1).1 (xoP_o tx1).2 (by decide) (by decide)) ?_
  refine xok_ite (fun c139 => ?_) (fun c139 => ?_)
  · rw [if_pos c139] at e
    exact s259_187 hI   h tx1 tx2 (show xin (0) by decide) e
  · rw [if_neg c139] at e
    exact s259_142 hI  hr131 h tx1 tx2 tx3 (show xin (0) by decide) e
theorem s259_131 {m f : Nat} {M0 : xj_M} (hI : xHI f)     : ∀ {n : Nat} {M : xj_M} {G : xG_} {x1 : Nat} {x2 : Nat} {x3 : Int} {R : xG_}, xRX m M0 M G → xoP x1 → xoI x2 → xin x3 → g259_131   f n x1 x2 x3 G = some R → xok (f259_131   f n (m + x1) (m + x2) x3 M) (fun r => xRX m M0 r R) := by
  intro n
  induction n with
  | zero => intros; rename_i e; cases e
  | succ n ih =>
    intros
    rename_i h i0 i1 i2 e
    exact s259_131b hI   ih h i0 i1 i2 e
theorem s259_106b {m f : Nat} {M0 M : xj_M} {G : xG_} (hI : xHI f)  {r106 : Nat → Nat → Int → xG_ → Option (xG_)} {o106 : Nat → Nat → Int → xj_M → Option (xj_M)}  (hr106 : ∀ {M : xj_M} {G : xG_} {x1 : Nat} {x2 : Nat} {x3 : Int} {R : xG_}, xRX m M0 M G → xoP x1 → xoI x2 → xin x3 → r106 x1 x2 x3 G = some R → xok (o106 (m + x1) (m + x2) x3 M) (fun r => xRX m M0 r R)) (h : xRX m M0 M G) {x1 : Nat} {x2 : Nat} {x3 : Int} {R : xG_} (tx1 : xoP x1) (tx2 : xoI x2) (tx3 : xin x3) (e : g259_106b  r106 f x1 x2 x3 G = some R) : xok (f259_106b  o106 f (m + x1) (m + x2) x3 M) (fun r => xRX m M0 r R) := by
  unfold g259_106b at e
  unfold f259_106b
  refine xok_eqb (h.gi (o := x1) (c := 14) (k := 8) (n := 38) (xoP_o tx1).1 (xoP_o tx1).2 (by decide) (by decide)) ?_
  refine xok_ite (fun c140 => ?_) (fun c140 => ?_)
  · rw [if_pos c140] at e
    exact s259_131 hI   h tx1 tx2 (show xin (0) by decide) e
  · rw [if_neg c140] at e
    refine xok_eqb (h.pt (o := x1) (c := 14) (k := 3) (t := x1 + 4) (n := 38) (xoP_o tx1).1 (xoP_o tx1).2 (by decide) (xoP_all tx1 (Q := fun p => (p, 3, p + 4) ∈ xl_P) (by decide +kernel) (by decide +kernel) (by decide +kernel))) ?_
    by_cases c141 : 0 ≤ (x3) ∧ (x3) < 16
    · skip
      rw [if_pos c141] at e
      refine xok_eqb (h.ai (o := x1 + 4) (n := 16) (xoP_all tx1 (Q := fun p => p + 4 < 276) (by decide) (by decide) (by decide)) (xoP_all tx1 (Q := fun p => xl_t (p + 4) = (2, 3, 16)) rfl rfl rfl) (by decide) c141.1 c141.2) ?_
      by_cases c142 : 0 ≤ (x3) ∧ (x3) < ((xl_t (x2)).2.2 : Int)
      · skip
        rw [if_pos c142] at e
        obtain ⟨M143, q144, h145⟩ := h.si (o := x2) (n := (xl_t (x2)).2.2) (v := G (x1 + 4) (x3).toNat) tx2.1 tx2.2 c142.1 c142.2 (h.ain (o := x1 + 4) (n := 16) (xoP_all tx1 (Q := fun p => p + 4 < 276) (by decide) (by decide) (by decide)) (xoP_all tx1 (Q := fun p => xl_t (p + 4) = (2, 3, 16)) rfl rfl rfl) (by decide) c141.1 c141.2)
        refine xok_eqb q144 ?_
        obtain ⟨G146, g1, e⟩ := xbnd e
        cases g1
        have h145_ : xRX m M0 M143 (xup2 G (x2) (x3).toNat (G (x1 + 4) (x3).toNat)) := h145
        generalize hGG146 : (xup2 G (x2) (x3).toNat (G (x1 + 4) (x3).toNat)) = G146 at e h145
        clear h145_ hGG146
        exact hr106 h145 tx1 tx2 (xin_wr _) e
      · rw [if_neg c142] at e; cases e
    · rw [if_neg c141] at e; cases e
theorem s259_106 {m f : Nat} {M0 : xj_M} (hI : xHI f)     : ∀ {n : Nat} {M : xj_M} {G : xG_} {x1 : Nat} {x2 : Nat} {x3 : Int} {R : xG_}, xRX m M0 M G → xoP x1 → xoI x2 → xin x3 → g259_106   f n x1 x2 x3 G = some R → xok (f259_106   f n (m + x1) (m + x2) x3 M) (fun r => xRX m M0 r R) := by
  intro n
  induction n with
  | zero => intros; rename_i e; cases e
  | succ n ih =>
    intros
    rename_i h i0 i1 i2 e
    exact s259_106b hI   ih h i0 i1 i2 e
theorem s259_25b {m f : Nat} {M0 M : xj_M} {G : xG_} (hI : xHI f)  {r25 : Nat → Int → xG_ → Option (xG_)} {o25 : Nat → Nat → Int → xj_M → Option (xj_M)}  (hr25 : ∀ {M : xj_M} {G : xG_} {x1 : Nat} {x2 : Int} {R : xG_}, xRX m M0 M G → xoP x1 → xin x2 → r25 x1 x2 G = some R → xok (o25 m (m + x1) x2 M) (fun r => xRX m M0 r R)) (h : xRX m M0 M G) {x1 : Nat} {x2 : Int} {R : xG_} (tx1 : xoP x1) (tx2 : xin x2) (e : g259_25b  r25 f x1 x2 G = some R) : xok (f259_25b  o25 f m (m + x1) x2 M) (fun r => xRX m M0 r R) := by
  unfold g259_25b at e
  unfold f259_25b
  refine xok_eqb (h.gi (o := x1) (c := 14) (k := 9) (n := 38) (xoP_o tx1).1 (xoP_o tx1).2 (by decide) (by decide)) ?_
  refine xok_ite (fun c147 => ?_) (fun c147 => ?_)
  · rw [if_pos c147] at e
    refine xok_eqb (h.pt (o := 0) (c := 15) (k := 28) (t := 1) (n := 107) (by decide) rfl (by decide) (by decide +kernel)) ?_
    exact s259_106 hI   h tx1 (show xoI 1 from ⟨by decide, rfl⟩) (show xin (0) by decide) e
  · rw [if_neg c147] at e
    exact s259_35 hI  hr25 h tx1 tx2 (show xin (0) by decide) e
theorem s259_25 {m f : Nat} {M0 : xj_M} (hI : xHI f)     : ∀ {n : Nat} {M : xj_M} {G : xG_} {x1 : Nat} {x2 : Int} {R : xG_}, xRX m M0 M G → xoP x1 → xin x2 → g259_25   f n x1 x2 G = some R → xok (f259_25   f n m (m + x1) x2 M) (fun r => xRX m M0 r R) := by
  intro n
  induction n with
  | zero => intros; rename_i e; cases e
  | succ n ih =>
    intros
    rename_i h i0 i1 e
    exact s259_25b hI   ih h i0 i1 e
theorem s259_2b {m f : Nat} {M0 M : xj_M} {G : xG_} (hI : xHI f)  {r2 : Nat → Int → xG_ → Option (xG_)} {o2 : Nat → Nat → Int → xj_M → Option (xj_M)}  (hr2 : ∀ {M : xj_M} {G : xG_} {x1 : Nat} {x2 : Int} {R : xG_}, xRX m M0 M G → xoP x1 → xin x2 → r2 x1 x2 G = some R → xok (o2 m (m + x1) x2 M) (fun r => xRX m M0 r R)) (h : xRX m M0 M G) {x1 : Nat} {x2 : Int} {R : xG_} (tx1 : xoP x1) (tx2 : xin x2) (e : g259_2b  r2 f x1 x2 G = some R) : xok (f259_2b  o2 f m (m + x1) x2 M) (fun r => xRX m M0 r R) := by
  unfold g259_2b at e
  unfold f259_2b
  refine xok_eqb (h.gi (o := x1) (c := 14) (k := 8) (n := 38) (xoP_o tx1).1 (xoP_o tx1).2 (by decide) (by decide)) ?_
  refine xok_ite (fun c148 => ?_) (fun c148 => ?_)
  · rw [if_pos c148] at e
    exact s259_25 hI   h tx1 (show xin (0) by decide) e
  · rw [if_neg c148] at e
    refine xok_eqb (h.pt (o := x1) (c := 14) (k := 3) (t := x1 + 4) (n := 38) (xoP_o tx1).1 (xoP_o tx1).2 (by decide) (xoP_all tx1 (Q := fun p => (p, 3, p + 4) ∈ xl_P) (by decide +kernel) (by decide +kernel) (by decide +kernel))) ?_
    by_cases c149 : 0 ≤ (x2) ∧ (x2) < 16
    · skip
      rw [if_pos c149] at e
      obtain ⟨M150, q151, h152⟩ := h.si (o := x1 + 4) (n := 16) (v := 0) (xoP_all tx1 (Q := fun p => p + 4 < 276) (by decide) (by decide) (by decide)) (xoP_all tx1 (Q := fun p => xl_t (p + 4) = (2, 3, 16)) rfl rfl rfl) c149.1 c149.2 (show xin (0) by decide)
      refine xok_eqb q151 ?_
      obtain ⟨G153, g1, e⟩ := xbnd e
      cases g1
      have h152_ : xRX m M0 M150 (xup2 G (x1 + 4) (x2).toNat (0)) := h152
      generalize hGG153 : (xup2 G (x1 + 4) (x2).toNat (0)) = G153 at e h152
      clear h152_ hGG153
      exact hr2 h152 tx1 (xin_wr _) e
    · rw [if_neg c149] at e; cases e
theorem s259_2 {m f : Nat} {M0 : xj_M} (hI : xHI f)     : ∀ {n : Nat} {M : xj_M} {G : xG_} {x1 : Nat} {x2 : Int} {R : xG_}, xRX m M0 M G → xoP x1 → xin x2 → g259_2   f n x1 x2 G = some R → xok (f259_2   f n m (m + x1) x2 M) (fun r => xRX m M0 r R) := by
  intro n
  induction n with
  | zero => intros; rename_i e; cases e
  | succ n ih =>
    intros
    rename_i h i0 i1 e
    exact s259_2b hI   ih h i0 i1 e
theorem sg259 {m f : Nat} {M0 M : xj_M} {G : xG_} (hI : xHI f)   (h : xRX m M0 M G) {a1 : Nat} {R : xG_} (ta1 : xoP a1) (e : g259  f a1 G = some R) : xok (f259  f m (m + a1) M) (fun r => xRX m M0 r R) := by
  unfold g259 at e
  unfold f259
  exact s259_2 hI   h ta1 (show xin (0) by decide) e
-- ChangeHouseModel.readsOwn
theorem s260_78 {m f : Nat} {M0 M : xj_M} {G : xG_} (hI : xHI f)  {r2 : Nat → Int → Int → xG_ → Option (Int × xG_)} {o2 : Nat → Int → Int → xj_M → Option (Int × xj_M)}  (hr2 : ∀ {M : xj_M} {G : xG_} {x0 : Nat} {x1 : Int} {x2 : Int} {R : Int × xG_}, xRX m M0 M G → xoP x0 → xin x1 → xin x2 → r2 x0 x1 x2 G = some R → xok (o2 (m + x0) x1 x2 M) (fun r => r.1 = R.1 ∧ xRX m M0 r.2 R.2 ∧ xin R.1)) (h : xRX m M0 M G) {x0 : Nat} {x1 : Int} {x2 : Int} {R : Int × xG_} (tx0 : xoP x0) (tx1 : xin x1) (tx2 : xin x2) (e : g260_78  r2 f x0 x1 x2 G = some R) : xok (f260_78  o2 f (m + x0) x1 x2 M) (fun r => r.1 = R.1 ∧ xRX m M0 r.2 R.2 ∧ xin R.1) := by
  unfold g260_78 at e
  unfold f260_78
  exact hr2 h tx0 tx1 (xin_wr _) e
theorem s260_76 {m f : Nat} {M0 M : xj_M} {G : xG_} (hI : xHI f)     (h : xRX m M0 M G)  {R : Int × xG_}  (e : g260_76   f  G = some R) : xok (f260_76   f  M) (fun r => r.1 = R.1 ∧ xRX m M0 r.2 R.2 ∧ xin R.1) := by
  unfold g260_76 at e
  unfold f260_76
  cases e
  exact ⟨_, rfl, rfl, h, (show xin (1) by decide)⟩
theorem s260_2b {m f : Nat} {M0 M : xj_M} {G : xG_} (hI : xHI f)  {r2 : Nat → Int → Int → xG_ → Option (Int × xG_)} {o2 : Nat → Int → Int → xj_M → Option (Int × xj_M)}  (hr2 : ∀ {M : xj_M} {G : xG_} {x0 : Nat} {x1 : Int} {x2 : Int} {R : Int × xG_}, xRX m M0 M G → xoP x0 → xin x1 → xin x2 → r2 x0 x1 x2 G = some R → xok (o2 (m + x0) x1 x2 M) (fun r => r.1 = R.1 ∧ xRX m M0 r.2 R.2 ∧ xin R.1)) (h : xRX m M0 M G) {x0 : Nat} {x1 : Int} {x2 : Int} {R : Int × xG_} (tx0 : xoP x0) (tx1 : xin x1) (tx2 : xin x2) (e : g260_2b  r2 f x0 x1 x2 G = some R) : xok (f260_2b  o2 f (m + x0) x1 x2 M) (fun r => r.1 = R.1 ∧ xRX m M0 r.2 R.2 ∧ xin R.1) := by
  unfold g260_2b at e
  unfold f260_2b
  refine xok_eqb (h.pt (o := x0) (c := 14) (k := 21) (t := x0 + 19) (n := 38) (xoP_o tx0).1 (xoP_o tx0).2 (by decide) (xoP_all tx0 (Q := fun p => (p, 21, p + 19) ∈ xl_P) (by decide +kernel) (by decide +kernel) (by decide +kernel))) ?_
  by_cases c101 : 0 ≤ (x1) ∧ (x1) < 25
  · skip
    rw [if_pos c101] at e
    refine xok_eqb (h.ai (o := x0 + 19) (n := 25) (xoP_all tx0 (Q := fun p => p + 19 < 276) (by decide) (by decide) (by decide)) (xoP_all tx0 (Q := fun p => xl_t (p + 19) = (2, 3, 25)) rfl rfl rfl) (by decide) c101.1 c101.2) ?_
    refine xok_ite (fun c102 => ?_) (fun c102 => ?_)
    · rw [if_pos c102] at e
      cases e
      exact ⟨_, rfl, rfl, h, (show xin (0) by decide)⟩
    · rw [if_neg c102] at e
      refine xok_eqb (h.pt (o := x0) (c := 14) (k := 27) (t := x0 + 25) (n := 38) (xoP_o tx0).1 (xoP_o tx0).2 (by decide) (xoP_all tx0 (Q := fun p => (p, 27, p + 25) ∈ xl_P) (by decide +kernel) (by decide +kernel) (by decide +kernel))) ?_
      by_cases c103 : 0 ≤ (xwr ((xwr ((x1) * (8))) + (x2))) ∧ (xwr ((xwr ((x1) * (8))) + (x2))) < 200
      · skip
        rw [if_pos c103] at e
        refine xok_eqb (h.ai (o := x0 + 25) (n := 200) (xoP_all tx0 (Q := fun p => p + 25 < 276) (by decide) (by decide) (by decide)) (xoP_all tx0 (Q := fun p => xl_t (p + 25) = (2, 3, 200)) rfl rfl rfl) (by decide) c103.1 c103.2) ?_
        refine xok_ite (fun c104 => ?_) (fun c104 => ?_)
        · rw [if_pos c104] at e
          exact s260_78 hI  hr2 h tx0 tx1 tx2 e
        · rw [if_neg c104] at e
          refine xok_eqb (h.pt (o := x0) (c := 14) (k := 4) (t := x0 + 5) (n := 38) (xoP_o tx0).1 (xoP_o tx0).2 (by decide) (xoP_all tx0 (Q := fun p => (p, 4, p + 5) ∈ xl_P) (by decide +kernel) (by decide +kernel) (by decide +kernel))) ?_
          refine xok_eqb (h.pt (o := x0) (c := 14) (k := 28) (t := x0 + 26) (n := 38) (xoP_o tx0).1 (xoP_o tx0).2 (by decide) (xoP_all tx0 (Q := fun p => (p, 28, p + 26) ∈ xl_P) (by decide +kernel) (by decide +kernel) (by decide +kernel))) ?_
          by_cases c105 : 0 ≤ (xwr ((xwr ((x1) * (8))) + (x2))) ∧ (xwr ((xwr ((x1) * (8))) + (x2))) < 200
          · skip
            rw [if_pos c105] at e
            refine xok_eqb (h.ai (o := x0 + 26) (n := 200) (xoP_all tx0 (Q := fun p => p + 26 < 276) (by decide) (by decide) (by decide)) (xoP_all tx0 (Q := fun p => xl_t (p + 26) = (2, 3, 200)) rfl rfl rfl) (by decide) c105.1 c105.2) ?_
            by_cases c106 : 0 ≤ (G (x0 + 26) (xwr ((xwr ((x1) * (8))) + (x2))).toNat) ∧ (G (x0 + 26) (xwr ((xwr ((x1) * (8))) + (x2))).toNat) < 16
            · skip
              rw [if_pos c106] at e
              refine xok_eqb (h.ai (o := x0 + 5) (n := 16) (xoP_all tx0 (Q := fun p => p + 5 < 276) (by decide) (by decide) (by decide)) (xoP_all tx0 (Q := fun p => xl_t (p + 5) = (2, 3, 16)) rfl rfl rfl) (by decide) c106.1 c106.2) ?_
              refine xok_eqb (h.pt (o := x0) (c := 14) (k := 4) (t := x0 + 5) (n := 38) (xoP_o tx0).1 (xoP_o tx0).2 (by decide) (xoP_all tx0 (Q := fun p => (p, 4, p + 5) ∈ xl_P) (by decide +kernel) (by decide +kernel) (by decide +kernel))) ?_
              refine xok_eqb (h.pt (o := x0) (c := 14) (k := 15) (t := x0 + 13) (n := 38) (xoP_o tx0).1 (xoP_o tx0).2 (by decide) (xoP_all tx0 (Q := fun p => (p, 15, p + 13) ∈ xl_P) (by decide +kernel) (by decide +kernel) (by decide +kernel))) ?_
              by_cases c107 : 0 ≤ (x1) ∧ (x1) < 25
              · skip
                rw [if_pos c107] at e
                refine xok_eqb (h.ai (o := x0 + 13) (n := 25) (xoP_all tx0 (Q := fun p => p + 13 < 276) (by decide) (by decide) (by decide)) (xoP_all tx0 (Q := fun p => xl_t (p + 13) = (2, 3, 25)) rfl rfl rfl) (by decide) c107.1 c107.2) ?_
                by_cases c108 : 0 ≤ (G (x0 + 13) (x1).toNat) ∧ (G (x0 + 13) (x1).toNat) < 16
                · skip
                  rw [if_pos c108] at e
                  refine xok_eqb (h.ai (o := x0 + 5) (n := 16) (xoP_all tx0 (Q := fun p => p + 5 < 276) (by decide) (by decide) (by decide)) (xoP_all tx0 (Q := fun p => xl_t (p + 5) = (2, 3, 16)) rfl rfl rfl) (by decide) c108.1 c108.2) ?_
                  refine xok_ite (fun c109 => ?_) (fun c109 => ?_)
                  · rw [if_pos c109] at e
                    refine xok_eqb (h.pt (o := x0) (c := 14) (k := 27) (t := x0 + 25) (n := 38) (xoP_o tx0).1 (xoP_o tx0).2 (by decide) (xoP_all tx0 (Q := fun p => (p, 27, p + 25) ∈ xl_P) (by decide +kernel) (by decide +kernel) (by decide +kernel))) ?_
                    by_cases c110 : 0 ≤ (xwr ((xwr ((x1) * (8))) + (x2))) ∧ (xwr ((xwr ((x1) * (8))) + (x2))) < 200
                    · skip
                      rw [if_pos c110] at e
                      refine xok_eqb (h.ai (o := x0 + 25) (n := 200) (xoP_all tx0 (Q := fun p => p + 25 < 276) (by decide) (by decide) (by decide)) (xoP_all tx0 (Q := fun p => xl_t (p + 25) = (2, 3, 200)) rfl rfl rfl) (by decide) c110.1 c110.2) ?_
                      refine xok_ite (fun c111 => ?_) (fun c111 => ?_)
                      · rw [if_pos c111] at e
                        exact s260_76 hI   h  e
                      · rw [if_neg c111] at e
                        refine xok_eqb (h.pt (o := x0) (c := 14) (k := 18) (t := x0 + 16) (n := 38) (xoP_o tx0).1 (xoP_o tx0).2 (by decide) (xoP_all tx0 (Q := fun p => (p, 18, p + 16) ∈ xl_P) (by decide +kernel) (by decide +kernel) (by decide +kernel))) ?_
                        by_cases c112 : 0 ≤ (x1) ∧ (x1) < 25
                        · skip
                          rw [if_pos c112] at e
                          refine xok_eqb (h.ai (o := x0 + 16) (n := 25) (xoP_all tx0 (Q := fun p => p + 16 < 276) (by decide) (by decide) (by decide)) (xoP_all tx0 (Q := fun p => xl_t (p + 16) = (2, 3, 25)) rfl rfl rfl) (by decide) c112.1 c112.2) ?_
                          refine xok_ite (fun c113 => ?_) (fun c113 => ?_)
                          · rw [if_pos c113] at e
                            exact s260_78 hI  hr2 h tx0 tx1 tx2 e
                          · rw [if_neg c113] at e
                            exact s260_76 hI   h  e
                        · rw [if_neg c112] at e; cases e
                    · rw [if_neg c110] at e; cases e
                  · rw [if_neg c109] at e
                    exact s260_78 hI  hr2 h tx0 tx1 tx2 e
                · rw [if_neg c108] at e; cases e
              · rw [if_neg c107] at e; cases e
            · rw [if_neg c106] at e; cases e
          · rw [if_neg c105] at e; cases e
      · rw [if_neg c103] at e; cases e
  · rw [if_neg c101] at e; cases e
theorem s260_2 {m f : Nat} {M0 : xj_M} (hI : xHI f)     : ∀ {n : Nat} {M : xj_M} {G : xG_} {x0 : Nat} {x1 : Int} {x2 : Int} {R : Int × xG_}, xRX m M0 M G → xoP x0 → xin x1 → xin x2 → g260_2   f n x0 x1 x2 G = some R → xok (f260_2   f n (m + x0) x1 x2 M) (fun r => r.1 = R.1 ∧ xRX m M0 r.2 R.2 ∧ xin R.1) := by
  intro n
  induction n with
  | zero => intros; rename_i e; cases e
  | succ n ih =>
    intros
    rename_i h i0 i1 i2 e
    exact s260_2b hI   ih h i0 i1 i2 e
theorem sg260 {m f : Nat} {M0 M : xj_M} {G : xG_} (hI : xHI f)   (h : xRX m M0 M G) {a0 : Nat} {a1 : Int} {R : Int × xG_} (ta0 : xoP a0) (ta1 : xin a1) (e : g260  f a0 a1 G = some R) : xok (f260  f (m + a0) a1 M) (fun r => r.1 = R.1 ∧ xRX m M0 r.2 R.2 ∧ xin R.1) := by
  unfold g260 at e
  unfold f260
  exact s260_2 hI   h ta0 ta1 (show xin (0) by decide) e
-- ChangeHouseModel.at
theorem sg261 {m f : Nat} {M0 M : xj_M} {G : xG_} (hI : xHI f)   (h : xRX m M0 M G) {a1 : Int} {a2 : Int} {R : Int × xG_} (ta1 : xin a1) (ta2 : xin a2) (e : g261  f a1 a2 G = some R) : xok (f261  f m a1 a2 M) (fun r => r.1 = R.1 ∧ xRX m M0 r.2 R.2 ∧ xin R.1) := by
  unfold g261 at e
  unfold f261
  cases e
  exact ⟨_, rfl, rfl, h, (xin_wr _)⟩
-- ChangeHouseModel.compareRows
theorem s262_47 {m f : Nat} {M0 M : xj_M} {G : xG_} (hI : xHI f)     (h : xRX m M0 M G) {y0 : Int} {R : Int × xG_} (ty0 : xin y0) (e : g262_47   f y0 G = some R) : xok (f262_47   f y0 M) (fun r => r.1 = R.1 ∧ xRX m M0 r.2 R.2 ∧ xin R.1) := by
  unfold g262_47 at e
  unfold f262_47
  cases e
  exact ⟨_, rfl, rfl, h, ty0⟩
theorem s262_3b {m f : Nat} {M0 M : xj_M} {G : xG_} (hI : xHI f)  {r3 : Nat → Int → Nat → Int → Int → Int → xG_ → Option (Int × xG_)} {o3 : Nat → Int → Nat → Int → Int → Int → xj_M → Option (Int × xj_M)}  (hr3 : ∀ {M : xj_M} {G : xG_} {x0 : Nat} {x1 : Int} {x2 : Nat} {x3 : Int} {x4 : Int} {x5 : Int} {R : Int × xG_}, xRX m M0 M G → xoJ x0 → xin x1 → xoJ x2 → xin x3 → xin x4 → xin x5 → r3 x0 x1 x2 x3 x4 x5 G = some R → xok (o3 (m + x0) x1 (m + x2) x3 x4 x5 M) (fun r => r.1 = R.1 ∧ xRX m M0 r.2 R.2 ∧ xin R.1)) (h : xRX m M0 M G) {x0 : Nat} {x1 : Int} {x2 : Nat} {x3 : Int} {x4 : Int} {x5 : Int} {R : Int × xG_} (tx0 : xoJ x0) (tx1 : xin x1) (tx2 : xoJ x2) (tx3 : xin x3) (tx4 : xin x4) (tx5 : xin x5) (e : g262_3b  r3 f x0 x1 x2 x3 x4 x5 G = some R) : xok (f262_3b  o3 f (m + x0) x1 (m + x2) x3 x4 x5 M) (fun r => r.1 = R.1 ∧ xRX m M0 r.2 R.2 ∧ xin R.1) := by
  unfold g262_3b at e
  unfold f262_3b
  refine xok_ite (fun c101 => ?_) (fun c101 => ?_)
  · rw [if_pos c101] at e
    cases e
    exact ⟨_, rfl, rfl, h, (show xin (0) by decide)⟩
  · rw [if_neg c101] at e
    by_cases c102 : 0 ≤ (xwr ((x1) + (x5))) ∧ (xwr ((x1) + (x5))) < ((xl_t (x0)).2.2 : Int)
    · skip
      rw [if_pos c102] at e
      refine xok_eqb (h.al (o := x0) (n := (xl_t (x0)).2.2) tx0.1 tx0.2  c102.1 c102.2) ?_
      by_cases c103 : 0 ≤ (xwr ((x3) + (x5))) ∧ (xwr ((x3) + (x5))) < ((xl_t (x2)).2.2 : Int)
      · skip
        rw [if_pos c103] at e
        refine xok_eqb (h.al (o := x2) (n := (xl_t (x2)).2.2) tx2.1 tx2.2  c103.1 c103.2) ?_
        refine xok_ite (fun c104 => ?_) (fun c104 => ?_)
        · rw [if_pos c104] at e
          exact hr3 h tx0 tx1 tx2 tx3 tx4 (xin_wr _) e
        · rw [if_neg c104] at e
          by_cases c105 : 0 ≤ (xwr ((x1) + (x5))) ∧ (xwr ((x1) + (x5))) < ((xl_t (x0)).2.2 : Int)
          · skip
            rw [if_pos c105] at e
            refine xok_eqb (h.al (o := x0) (n := (xl_t (x0)).2.2) tx0.1 tx0.2  c105.1 c105.2) ?_
            by_cases c106 : 0 ≤ (xwr ((x3) + (x5))) ∧ (xwr ((x3) + (x5))) < ((xl_t (x2)).2.2 : Int)
            · skip
              rw [if_pos c106] at e
              refine xok_eqb (h.al (o := x2) (n := (xl_t (x2)).2.2) tx2.1 tx2.2  c106.1 c106.2) ?_
              refine xok_ite (fun c107 => ?_) (fun c107 => ?_)
              · rw [if_pos c107] at e
                exact s262_47 hI   h (show xin (1) by decide) e
              · rw [if_neg c107] at e
                exact s262_47 hI   h (show xin (-1) by decide) e
            · rw [if_neg c106] at e; cases e
          · rw [if_neg c105] at e; cases e
      · rw [if_neg c103] at e; cases e
    · rw [if_neg c102] at e; cases e
theorem s262_3 {m f : Nat} {M0 : xj_M} (hI : xHI f)     : ∀ {n : Nat} {M : xj_M} {G : xG_} {x0 : Nat} {x1 : Int} {x2 : Nat} {x3 : Int} {x4 : Int} {x5 : Int} {R : Int × xG_}, xRX m M0 M G → xoJ x0 → xin x1 → xoJ x2 → xin x3 → xin x4 → xin x5 → g262_3   f n x0 x1 x2 x3 x4 x5 G = some R → xok (f262_3   f n (m + x0) x1 (m + x2) x3 x4 x5 M) (fun r => r.1 = R.1 ∧ xRX m M0 r.2 R.2 ∧ xin R.1) := by
  intro n
  induction n with
  | zero => intros; rename_i e; cases e
  | succ n ih =>
    intros
    rename_i h i0 i1 i2 i3 i4 i5 e
    exact s262_3b hI   ih h i0 i1 i2 i3 i4 i5 e
theorem sg262 {m f : Nat} {M0 M : xj_M} {G : xG_} (hI : xHI f)   (h : xRX m M0 M G) {a0 : Nat} {a1 : Int} {a2 : Nat} {a3 : Int} {a4 : Int} {R : Int × xG_} (ta0 : xoJ a0) (ta1 : xin a1) (ta2 : xoJ a2) (ta3 : xin a3) (ta4 : xin a4) (e : g262  f a0 a1 a2 a3 a4 G = some R) : xok (f262  f (m + a0) a1 (m + a2) a3 a4 M) (fun r => r.1 = R.1 ∧ xRX m M0 r.2 R.2 ∧ xin R.1) := by
  unfold g262 at e
  unfold f262
  exact s262_3 hI   h ta0 ta1 ta2 ta3 ta4 (show xin (0) by decide) e
-- ChangeHouseModel.placeOf
theorem s263_3b {m f : Nat} {M0 M : xj_M} {G : xG_} (hI : xHI f)  {r3 : Int → Nat → Int → Int → xG_ → Option (Int × xG_)} {o3 : Nat → Int → Nat → Int → Int → xj_M → Option (Int × xj_M)}  (hr3 : ∀ {M : xj_M} {G : xG_} {x1 : Int} {x2 : Nat} {x3 : Int} {x4 : Int} {R : Int × xG_}, xRX m M0 M G → xin x1 → xoJ x2 → xin x3 → xin x4 → r3 x1 x2 x3 x4 G = some R → xok (o3 m x1 (m + x2) x3 x4 M) (fun r => r.1 = R.1 ∧ xRX m M0 r.2 R.2 ∧ xin R.1)) (h : xRX m M0 M G) {x1 : Int} {x2 : Nat} {x3 : Int} {x4 : Int} {R : Int × xG_} (tx1 : xin x1) (tx2 : xoJ x2) (tx3 : xin x3) (tx4 : xin x4) (e : g263_3b  r3 f x1 x2 x3 x4 G = some R) : xok (f263_3b  o3 f m x1 (m + x2) x3 x4 M) (fun r => r.1 = R.1 ∧ xRX m M0 r.2 R.2 ∧ xin R.1) := by
  unfold g263_3b at e
  unfold f263_3b
  refine xok_eqb (h.pt (o := 0) (c := 15) (k := 33) (t := 108) (n := 107) (by decide) rfl (by decide) (by decide +kernel)) ?_
  by_cases c101 : 0 ≤ (x1) ∧ (x1) < 16
  · skip
    rw [if_pos c101] at e
    refine xok_eqb (h.ai (o := 108) (n := 16) (by decide) rfl (by decide) c101.1 c101.2) ?_
    refine xok_ite (fun c102 => ?_) (fun c102 => ?_)
    · rw [if_pos c102] at e
      cases e
      exact ⟨_, rfl, rfl, h, (show xin (-1) by decide)⟩
    · rw [if_neg c102] at e
      refine xok_eqb (h.pt (o := 0) (c := 15) (k := 32) (t := 107) (n := 107) (by decide) rfl (by decide) (by decide +kernel)) ?_
      obtain ⟨R103, e104, e⟩ := xbnd e
      refine xok_eqb (h.is (o := 0) (c := 15) (by decide) rfl) ?_
      refine xok_call (sg261 hI  h tx1 tx4 e104) ?_
      rintro ⟨v_, M107⟩ ⟨hv_, h105, hi106⟩
      cases hv_
      refine xok_eqb (h105.pt (o := 0) (c := 15) (k := 29) (t := 2) (n := 107) (by decide) rfl (by decide) (by decide +kernel)) ?_
      refine xok_eqb (h105.pt (o := 2) (c := 14) (k := 1) (t := 2 + 2) (n := 38) (xoP_o (show xoP 2 by unfold xoP; omega)).1 (xoP_o (show xoP 2 by unfold xoP; omega)).2 (by decide) (xoP_all (show xoP 2 by unfold xoP; omega) (Q := fun p => (p, 1, p + 2) ∈ xl_P) (by decide +kernel) (by decide +kernel) (by decide +kernel))) ?_
      by_cases c108 : 0 ≤ (x1) ∧ (x1) < 16
      · skip
        rw [if_pos c108] at e
        refine xok_eqb (h105.ai (o := 2 + 2) (n := 16) (xoP_all (show xoP 2 by unfold xoP; omega) (Q := fun p => p + 2 < 276) (by decide) (by decide) (by decide)) (xoP_all (show xoP 2 by unfold xoP; omega) (Q := fun p => xl_t (p + 2) = (2, 3, 16)) rfl rfl rfl) (by decide) c108.1 c108.2) ?_
        obtain ⟨R109, e110, e⟩ := xbnd e
        refine xok_call (sg262 hI  h105 (show xoJ 107 from ⟨by decide, rfl⟩) hi106 tx2 tx3 (h105.ain (o := 2 + 2) (n := 16) (xoP_all (show xoP 2 by unfold xoP; omega) (Q := fun p => p + 2 < 276) (by decide) (by decide) (by decide)) (xoP_all (show xoP 2 by unfold xoP; omega) (Q := fun p => xl_t (p + 2) = (2, 3, 16)) rfl rfl rfl) (by decide) c108.1 c108.2) e110) ?_
        rintro ⟨v_, M113⟩ ⟨hv_, h111, hi112⟩
        cases hv_
        refine xok_ite (fun c114 => ?_) (fun c114 => ?_)
        · rw [if_pos c114] at e
          exact hr3 h111 tx1 tx2 tx3 (xin_wr _) e
        · rw [if_neg c114] at e
          cases e
          exact ⟨_, rfl, rfl, h111, tx4⟩
      · rw [if_neg c108] at e; cases e
  · rw [if_neg c101] at e; cases e
theorem s263_3 {m f : Nat} {M0 : xj_M} (hI : xHI f)     : ∀ {n : Nat} {M : xj_M} {G : xG_} {x1 : Int} {x2 : Nat} {x3 : Int} {x4 : Int} {R : Int × xG_}, xRX m M0 M G → xin x1 → xoJ x2 → xin x3 → xin x4 → g263_3   f n x1 x2 x3 x4 G = some R → xok (f263_3   f n m x1 (m + x2) x3 x4 M) (fun r => r.1 = R.1 ∧ xRX m M0 r.2 R.2 ∧ xin R.1) := by
  intro n
  induction n with
  | zero => intros; rename_i e; cases e
  | succ n ih =>
    intros
    rename_i h i0 i1 i2 i3 e
    exact s263_3b hI   ih h i0 i1 i2 i3 e
theorem sg263 {m f : Nat} {M0 M : xj_M} {G : xG_} (hI : xHI f)   (h : xRX m M0 M G) {a1 : Int} {a2 : Nat} {a3 : Int} {R : Int × xG_} (ta1 : xin a1) (ta2 : xoJ a2) (ta3 : xin a3) (e : g263  f a1 a2 a3 G = some R) : xok (f263  f m a1 (m + a2) a3 M) (fun r => r.1 = R.1 ∧ xRX m M0 r.2 R.2 ∧ xin R.1) := by
  unfold g263 at e
  unfold f263
  exact s263_3 hI   h ta1 ta2 ta3 (show xin (0) by decide) e
-- ChangeHouseModel.add
theorem s264_58b {m f : Nat} {M0 M : xj_M} {G : xG_} (hI : xHI f)  {r20 : Int → Nat → Int → Int → Int → xG_ → Option (xG_)} {o20 : Nat → Int → Nat → Int → Int → Int → xj_M → Option (xj_M)} {r58 : Int → Nat → Int → Int → Int → Int → xG_ → Option (xG_)} {o58 : Nat → Int → Nat → Int → Int → Int → Int → xj_M → Option (xj_M)}  (hr20 : ∀ {M : xj_M} {G : xG_} {x1 : Int} {x2 : Nat} {x3 : Int} {x4 : Int} {x5 : Int} {R : xG_}, xRX m M0 M G → xin x1 → xoJ x2 → xin x3 → xin x4 → xin x5 → r20 x1 x2 x3 x4 x5 G = some R → xok (o20 m x1 (m + x2) x3 x4 x5 M) (fun r => xRX m M0 r R)) (hr58 : ∀ {M : xj_M} {G : xG_} {x1 : Int} {x2 : Nat} {x3 : Int} {x4 : Int} {x5 : Int} {x6 : Int} {R : xG_}, xRX m M0 M G → xin x1 → xoJ x2 → xin x3 → xin x4 → xin x5 → xin x6 → r58 x1 x2 x3 x4 x5 x6 G = some R → xok (o58 m x1 (m + x2) x3 x4 x5 x6 M) (fun r => xRX m M0 r R)) (h : xRX m M0 M G) {x1 : Int} {x2 : Nat} {x3 : Int} {x4 : Int} {x5 : Int} {x6 : Int} {R : xG_} (tx1 : xin x1) (tx2 : xoJ x2) (tx3 : xin x3) (tx4 : xin x4) (tx5 : xin x5) (tx6 : xin x6) (e : g264_58b  r20 r58 f x1 x2 x3 x4 x5 x6 G = some R) : xok (f264_58b  o20 o58 f m x1 (m + x2) x3 x4 x5 x6 M) (fun r => xRX m M0 r R) := by
  unfold g264_58b at e
  unfold f264_58b
  refine xok_ite (fun c101 => ?_) (fun c101 => ?_)
  · rw [if_pos c101] at e
    refine xok_eqb (h.pt (o := 0) (c := 15) (k := 34) (t := 109) (n := 107) (by decide) rfl (by decide) (by decide +kernel)) ?_
    refine xok_eqb (h.pt (o := 0) (c := 15) (k := 34) (t := 109) (n := 107) (by decide) rfl (by decide) (by decide +kernel)) ?_
    by_cases c102 : 0 ≤ (xwr ((xwr ((xwr ((x1) * (520))) + (x5))) - (1))) ∧ (xwr ((xwr ((xwr ((x1) * (520))) + (x5))) - (1))) < 8320
    · skip
      rw [if_pos c102] at e
      refine xok_eqb (h.ai (o := 109) (n := 8320) (by decide) rfl (by decide) c102.1 c102.2) ?_
      by_cases c103 : 0 ≤ (xwr ((xwr ((x1) * (520))) + (x5))) ∧ (xwr ((xwr ((x1) * (520))) + (x5))) < 8320
      · skip
        rw [if_pos c103] at e
        obtain ⟨M104, q105, h106⟩ := h.si (o := 109) (n := 8320) (v := G (109) (xwr ((xwr ((xwr ((x1) * (520))) + (x5))) - (1))).toNat) (by decide) rfl c103.1 c103.2 (h.ain (o := 109) (n := 8320) (by decide) rfl (by decide) c102.1 c102.2)
        refine xok_eqb q105 ?_
        obtain ⟨G107, g1, e⟩ := xbnd e
        cases g1
        have h106_ : xRX m M0 M104 (xup2 G (109) (xwr ((xwr ((x1) * (520))) + (x5))).toNat (G (109) (xwr ((xwr ((xwr ((x1) * (520))) + (x5))) - (1))).toNat)) := h106
        generalize hGG107 : (xup2 G (109) (xwr ((xwr ((x1) * (520))) + (x5))).toNat (G (109) (xwr ((xwr ((xwr ((x1) * (520))) + (x5))) - (1))).toNat)) = G107 at e h106
        clear h106_ hGG107
        exact hr20 h106 tx1 tx2 tx3 tx4 (xin_wr _) e
      · rw [if_neg c103] at e; cases e
    · rw [if_neg c102] at e; cases e
  · rw [if_neg c101] at e
    refine xok_eqb (h.pt (o := 0) (c := 15) (k := 32) (t := 107) (n := 107) (by decide) rfl (by decide) (by decide +kernel)) ?_
    obtain ⟨R108, e109, e⟩ := xbnd e
    refine xok_eqb (h.is (o := 0) (c := 15) (by decide) rfl) ?_
    refine xok_call (sg261 hI  h tx1 tx5 e109) ?_
    rintro ⟨v_, M112⟩ ⟨hv_, h110, hi111⟩
    cases hv_
    refine xok_eqb (h110.pt (o := 0) (c := 15) (k := 32) (t := 107) (n := 107) (by decide) rfl (by decide) (by decide +kernel)) ?_
    obtain ⟨R113, e114, e⟩ := xbnd e
    refine xok_eqb (h110.is (o := 0) (c := 15) (by decide) rfl) ?_
    refine xok_call (sg261 hI  h110 tx1 (xin_wr _) e114) ?_
    rintro ⟨v_, M117⟩ ⟨hv_, h115, hi116⟩
    cases hv_
    by_cases c118 : 0 ≤ (xwr ((R113.1) + (x6))) ∧ (xwr ((R113.1) + (x6))) < 33280
    · skip
      rw [if_pos c118] at e
      refine xok_eqb (h115.al (o := 107) (n := 33280) (by decide) rfl  c118.1 c118.2) ?_
      by_cases c119 : 0 ≤ (xwr ((R108.1) + (x6))) ∧ (xwr ((R108.1) + (x6))) < 33280
      · skip
        rw [if_pos c119] at e
        obtain ⟨M120, q121, h122⟩ := h115.sl (o := 107) (n := 33280) (v := R113.2 (107) (xwr ((R113.1) + (x6))).toNat) (by decide) rfl c119.1 c119.2 (h115.aln (o := 107) (n := 33280) (by decide) rfl  c118.1 c118.2)
        refine xok_eqb q121 ?_
        obtain ⟨G123, g1, e⟩ := xbnd e
        cases g1
        have h122_ : xRX m M0 M120 (xup2 R113.2 (107) (xwr ((R108.1) + (x6))).toNat (R113.2 (107) (xwr ((R113.1) + (x6))).toNat)) := h122
        generalize hGG123 : (xup2 R113.2 (107) (xwr ((R108.1) + (x6))).toNat (R113.2 (107) (xwr ((R113.1) + (x6))).toNat)) = G123 at e h122
        clear h122_ hGG123
        exact hr58 h122 tx1 tx2 tx3 tx4 tx5 (xin_wr _) e
      · rw [if_neg c119] at e; cases e
    · rw [if_neg c118] at e; cases e
theorem s264_58 {m f : Nat} {M0 : xj_M} (hI : xHI f)  {r20 : Int → Nat → Int → Int → Int → xG_ → Option (xG_)} {o20 : Nat → Int → Nat → Int → Int → Int → xj_M → Option (xj_M)}  (hr20 : ∀ {M : xj_M} {G : xG_} {x1 : Int} {x2 : Nat} {x3 : Int} {x4 : Int} {x5 : Int} {R : xG_}, xRX m M0 M G → xin x1 → xoJ x2 → xin x3 → xin x4 → xin x5 → r20 x1 x2 x3 x4 x5 G = some R → xok (o20 m x1 (m + x2) x3 x4 x5 M) (fun r => xRX m M0 r R)) : ∀ {n : Nat} {M : xj_M} {G : xG_} {x1 : Int} {x2 : Nat} {x3 : Int} {x4 : Int} {x5 : Int} {x6 : Int} {R : xG_}, xRX m M0 M G → xin x1 → xoJ x2 → xin x3 → xin x4 → xin x5 → xin x6 → g264_58  r20 f n x1 x2 x3 x4 x5 x6 G = some R → xok (f264_58  o20 f n m x1 (m + x2) x3 x4 x5 x6 M) (fun r => xRX m M0 r R) := by
  intro n
  induction n with
  | zero => intros; rename_i e; cases e
  | succ n ih =>
    intros
    rename_i h i0 i1 i2 i3 i4 i5 e
    exact s264_58b hI  hr20 ih h i0 i1 i2 i3 i4 i5 e
theorem s264_183 {m f : Nat} {M0 M : xj_M} {G : xG_} (hI : xHI f)  {r139 : Int → Nat → Int → Int → Int → Int → xG_ → Option (xG_)} {o139 : Nat → Int → Nat → Int → Int → Int → Int → xj_M → Option (xj_M)}  (hr139 : ∀ {M : xj_M} {G : xG_} {x1 : Int} {x2 : Nat} {x3 : Int} {x4 : Int} {x5 : Int} {x6 : Int} {R : xG_}, xRX m M0 M G → xin x1 → xoJ x2 → xin x3 → xin x4 → xin x5 → xin x6 → r139 x1 x2 x3 x4 x5 x6 G = some R → xok (o139 m x1 (m + x2) x3 x4 x5 x6 M) (fun r => xRX m M0 r R)) (h : xRX m M0 M G) {x1 : Int} {x2 : Nat} {x3 : Int} {x4 : Int} {x5 : Int} {x6 : Int} {y0 : Int} {y1 : Int} {y2 : Nat} {R : xG_} (tx1 : xin x1) (tx2 : xoJ x2) (tx3 : xin x3) (tx4 : xin x4) (tx5 : xin x5) (tx6 : xin x6) (ty0 : xiN y0) (ty1 : xin y1) (ty2 : xoJ y2) (e : g264_183  r139 f x1 x2 x3 x4 x5 x6 y0 y1 y2 G = some R) : xok (f264_183  o139 f m x1 (m + x2) x3 x4 x5 x6 y0 y1 (m + y2) M) (fun r => xRX m M0 r R) := by
  unfold g264_183 at e
  unfold f264_183
  by_cases c124 : 0 ≤ (y1) ∧ (y1) < ((xl_t (y2)).2.2 : Int)
  · skip
    rw [if_pos c124] at e
    obtain ⟨M125, q126, h127⟩ := h.sl (o := y2) (n := (xl_t (y2)).2.2) (v := y0) ty2.1 ty2.2 c124.1 c124.2 ty0
    refine xok_eqb q126 ?_
    obtain ⟨G128, g1, e⟩ := xbnd e
    cases g1
    have h127_ : xRX m M0 M125 (xup2 G (y2) (y1).toNat (y0)) := h127
    generalize hGG128 : (xup2 G (y2) (y1).toNat (y0)) = G128 at e h127
    clear h127_ hGG128
    exact hr139 h127 tx1 tx2 tx3 tx4 tx5 (xin_wr _) e
  · rw [if_neg c124] at e; cases e
theorem s264_139b {m f : Nat} {M0 M : xj_M} {G : xG_} (hI : xHI f)  {r139 : Int → Nat → Int → Int → Int → Int → xG_ → Option (xG_)} {o139 : Nat → Int → Nat → Int → Int → Int → Int → xj_M → Option (xj_M)}  (hr139 : ∀ {M : xj_M} {G : xG_} {x1 : Int} {x2 : Nat} {x3 : Int} {x4 : Int} {x5 : Int} {x6 : Int} {R : xG_}, xRX m M0 M G → xin x1 → xoJ x2 → xin x3 → xin x4 → xin x5 → xin x6 → r139 x1 x2 x3 x4 x5 x6 G = some R → xok (o139 m x1 (m + x2) x3 x4 x5 x6 M) (fun r => xRX m M0 r R)) (h : xRX m M0 M G) {x1 : Int} {x2 : Nat} {x3 : Int} {x4 : Int} {x5 : Int} {x6 : Int} {R : xG_} (tx1 : xin x1) (tx2 : xoJ x2) (tx3 : xin x3) (tx4 : xin x4) (tx5 : xin x5) (tx6 : xin x6) (e : g264_139b  r139 f x1 x2 x3 x4 x5 x6 G = some R) : xok (f264_139b  o139 f m x1 (m + x2) x3 x4 x5 x6 M) (fun r => xRX m M0 r R) := by
  unfold g264_139b at e
  unfold f264_139b
  refine xok_ite (fun c129 => ?_) (fun c129 => ?_)
  · rw [if_pos c129] at e
    refine xok_eqb (h.pt (o := 0) (c := 15) (k := 34) (t := 109) (n := 107) (by decide) rfl (by decide) (by decide +kernel)) ?_
    by_cases c130 : 0 ≤ (xwr ((xwr ((x1) * (520))) + (x5))) ∧ (xwr ((xwr ((x1) * (520))) + (x5))) < 8320
    · skip
      rw [if_pos c130] at e
      obtain ⟨M131, q132, h133⟩ := h.si (o := 109) (n := 8320) (v := x4) (by decide) rfl c130.1 c130.2 tx4
      refine xok_eqb q132 ?_
      obtain ⟨G134, g1, e⟩ := xbnd e
      cases g1
      have h133_ : xRX m M0 M131 (xup2 G (109) (xwr ((xwr ((x1) * (520))) + (x5))).toNat (x4)) := h133
      generalize hGG134 : (xup2 G (109) (xwr ((xwr ((x1) * (520))) + (x5))).toNat (x4)) = G134 at e h133
      clear h133_ hGG134
      refine xok_eqb (h133.pt (o := 0) (c := 15) (k := 33) (t := 108) (n := 107) (by decide) rfl (by decide) (by decide +kernel)) ?_
      by_cases c135 : 0 ≤ (x1) ∧ (x1) < 16
      · skip
        rw [if_pos c135] at e
        refine xok_eqb (h133.ai (o := 108) (n := 16) (by decide) rfl (by decide) c135.1 c135.2) ?_
        by_cases c136 : 0 ≤ (x1) ∧ (x1) < 16
        · skip
          rw [if_pos c136] at e
          obtain ⟨M137, q138, h139⟩ := h133.si (o := 108) (n := 16) (v := xwr ((G134 (108) (x1).toNat) + (1))) (by decide) rfl c136.1 c136.2 (xin_wr _)
          refine xok_eqb q138 ?_
          obtain ⟨G140, g1, e⟩ := xbnd e
          cases g1
          have h139_ : xRX m M0 M137 (xup2 G134 (108) (x1).toNat (xwr ((G134 (108) (x1).toNat) + (1)))) := h139
          generalize hGG140 : (xup2 G134 (108) (x1).toNat (xwr ((G134 (108) (x1).toNat) + (1)))) = G140 at e h139
          clear h139_ hGG140
          cases e
          exact ⟨_, rfl, h139⟩
        · rw [if_neg c136] at e; cases e
      · rw [if_neg c135] at e; cases e
    · rw [if_neg c130] at e; cases e
  · rw [if_neg c129] at e
    refine xok_eqb (h.pt (o := 0) (c := 15) (k := 32) (t := 107) (n := 107) (by decide) rfl (by decide) (by decide +kernel)) ?_
    obtain ⟨R141, e142, e⟩ := xbnd e
    refine xok_eqb (h.is (o := 0) (c := 15) (by decide) rfl) ?_
    refine xok_call (sg261 hI  h tx1 tx5 e142) ?_
    rintro ⟨v_, M145⟩ ⟨hv_, h143, hi144⟩
    cases hv_
    refine xok_eqb (h143.pt (o := 0) (c := 15) (k := 29) (t := 2) (n := 107) (by decide) rfl (by decide) (by decide +kernel)) ?_
    refine xok_eqb (h143.pt (o := 2) (c := 14) (k := 1) (t := 2 + 2) (n := 38) (xoP_o (show xoP 2 by unfold xoP; omega)).1 (xoP_o (show xoP 2 by unfold xoP; omega)).2 (by decide) (xoP_all (show xoP 2 by unfold xoP; omega) (Q := fun p => (p, 1, p + 2) ∈ xl_P) (by decide +kernel) (by decide +kernel) (by decide +kernel))) ?_
    by_cases c146 : 0 ≤ (x1) ∧ (x1) < 16
    · skip
      rw [if_pos c146] at e
      refine xok_eqb (h143.ai (o := 2 + 2) (n := 16) (xoP_all (show xoP 2 by unfold xoP; omega) (Q := fun p => p + 2 < 276) (by decide) (by decide) (by decide)) (xoP_all (show xoP 2 by unfold xoP; omega) (Q := fun p => xl_t (p + 2) = (2, 3, 16)) rfl rfl rfl) (by decide) c146.1 c146.2) ?_
      refine xok_ite (fun c147 => ?_) (fun c147 => ?_)
      · rw [if_pos c147] at e
        exact s264_183 hI  hr139 h143 tx1 tx2 tx3 tx4 tx5 tx6 (show xiN (0) by decide) (xin_wr _) (show xoJ 107 from ⟨by decide, rfl⟩) e
      · rw [if_neg c147] at e
        by_cases c148 : 0 ≤ (xwr ((x3) + (x6))) ∧ (xwr ((x3) + (x6))) < ((xl_t (x2)).2.2 : Int)
        · skip
          rw [if_pos c148] at e
          refine xok_eqb (h143.al (o := x2) (n := (xl_t (x2)).2.2) tx2.1 tx2.2  c148.1 c148.2) ?_
          exact s264_183 hI  hr139 h143 tx1 tx2 tx3 tx4 tx5 tx6 (h143.aln (o := x2) (n := (xl_t (x2)).2.2) tx2.1 tx2.2  c148.1 c148.2) (xin_wr _) (show xoJ 107 from ⟨by decide, rfl⟩) e
        · rw [if_neg c148] at e; cases e
    · rw [if_neg c146] at e; cases e
theorem s264_139 {m f : Nat} {M0 : xj_M} (hI : xHI f)     : ∀ {n : Nat} {M : xj_M} {G : xG_} {x1 : Int} {x2 : Nat} {x3 : Int} {x4 : Int} {x5 : Int} {x6 : Int} {R : xG_}, xRX m M0 M G → xin x1 → xoJ x2 → xin x3 → xin x4 → xin x5 → xin x6 → g264_139   f n x1 x2 x3 x4 x5 x6 G = some R → xok (f264_139   f n m x1 (m + x2) x3 x4 x5 x6 M) (fun r => xRX m M0 r R) := by
  intro n
  induction n with
  | zero => intros; rename_i e; cases e
  | succ n ih =>
    intros
    rename_i h i0 i1 i2 i3 i4 i5 e
    exact s264_139b hI   ih h i0 i1 i2 i3 i4 i5 e
theorem s264_136 {m f : Nat} {M0 M : xj_M} {G : xG_} (hI : xHI f)     (h : xRX m M0 M G) {x1 : Int} {x2 : Nat} {x3 : Int} {x4 : Int} {x5 : Int} {R : xG_} (tx1 : xin x1) (tx2 : xoJ x2) (tx3 : xin x3) (tx4 : xin x4) (tx5 : xin x5) (e : g264_136   f x1 x2 x3 x4 x5 G = some R) : xok (f264_136   f m x1 (m + x2) x3 x4 x5 M) (fun r => xRX m M0 r R) := by
  unfold g264_136 at e
  unfold f264_136
  exact s264_139 hI   h tx1 tx2 tx3 tx4 tx5 (show xin (0) by decide) e
theorem s264_20b {m f : Nat} {M0 M : xj_M} {G : xG_} (hI : xHI f)  {r20 : Int → Nat → Int → Int → Int → xG_ → Option (xG_)} {o20 : Nat → Int → Nat → Int → Int → Int → xj_M → Option (xj_M)}  (hr20 : ∀ {M : xj_M} {G : xG_} {x1 : Int} {x2 : Nat} {x3 : Int} {x4 : Int} {x5 : Int} {R : xG_}, xRX m M0 M G → xin x1 → xoJ x2 → xin x3 → xin x4 → xin x5 → r20 x1 x2 x3 x4 x5 G = some R → xok (o20 m x1 (m + x2) x3 x4 x5 M) (fun r => xRX m M0 r R)) (h : xRX m M0 M G) {x1 : Int} {x2 : Nat} {x3 : Int} {x4 : Int} {x5 : Int} {R : xG_} (tx1 : xin x1) (tx2 : xoJ x2) (tx3 : xin x3) (tx4 : xin x4) (tx5 : xin x5) (e : g264_20b  r20 f x1 x2 x3 x4 x5 G = some R) : xok (f264_20b  o20 f m x1 (m + x2) x3 x4 x5 M) (fun r => xRX m M0 r R) := by
  unfold g264_20b at e
  unfold f264_20b
  refine xok_ite (fun c149 => ?_) (fun c149 => ?_)
  · rw [if_pos c149] at e
    exact s264_136 hI   h tx1 tx2 tx3 tx4 tx5 e
  · rw [if_neg c149] at e
    refine xok_eqb (h.pt (o := 0) (c := 15) (k := 32) (t := 107) (n := 107) (by decide) rfl (by decide) (by decide +kernel)) ?_
    obtain ⟨R150, e151, e⟩ := xbnd e
    refine xok_eqb (h.is (o := 0) (c := 15) (by decide) rfl) ?_
    refine xok_call (sg261 hI  h tx1 (xin_wr _) e151) ?_
    rintro ⟨v_, M154⟩ ⟨hv_, h152, hi153⟩
    cases hv_
    refine xok_eqb (h152.pt (o := 0) (c := 15) (k := 29) (t := 2) (n := 107) (by decide) rfl (by decide) (by decide +kernel)) ?_
    refine xok_eqb (h152.pt (o := 2) (c := 14) (k := 1) (t := 2 + 2) (n := 38) (xoP_o (show xoP 2 by unfold xoP; omega)).1 (xoP_o (show xoP 2 by unfold xoP; omega)).2 (by decide) (xoP_all (show xoP 2 by unfold xoP; omega) (Q := fun p => (p, 1, p + 2) ∈ xl_P) (by decide +kernel) (by decide +kernel) (by decide +kernel))) ?_
    by_cases c155 : 0 ≤ (x1) ∧ (x1) < 16
    · skip
      rw [if_pos c155] at e
      refine xok_eqb (h152.ai (o := 2 + 2) (n := 16) (xoP_all (show xoP 2 by unfold xoP; omega) (Q := fun p => p + 2 < 276) (by decide) (by decide) (by decide)) (xoP_all (show xoP 2 by unfold xoP; omega) (Q := fun p => xl_t (p + 2) = (2, 3, 16)) rfl rfl rfl) (by decide) c155.1 c155.2) ?_
      obtain ⟨R156, e157, e⟩ := xbnd e
      refine xok_call (sg262 hI  h152 (show xoJ 107 from ⟨by decide, rfl⟩) hi153 tx2 tx3 (h152.ain (o := 2 + 2) (n := 16) (xoP_all (show xoP 2 by unfold xoP; omega) (Q := fun p => p + 2 < 276) (by decide) (by decide) (by decide)) (xoP_all (show xoP 2 by unfold xoP; omega) (Q := fun p => xl_t (p + 2) = (2, 3, 16)) rfl rfl rfl) (by decide) c155.1 c155.2) e157) ?_
      rintro ⟨v_, M160⟩ ⟨hv_, h158, hi159⟩
      cases hv_
      refine xok_ite (fun c161 => ?_) (fun c161 => ?_)
      · rw [if_pos c161] at e
        exact s264_136 hI   h158 tx1 tx2 tx3 tx4 tx5 e
      · rw [if_neg c161] at e
        exact s264_58 hI  hr20 h158 tx1 tx2 tx3 tx4 tx5 (show xin (0) by decide) e
    · rw [if_neg c155] at e; cases e
theorem s264_20 {m f : Nat} {M0 : xj_M} (hI : xHI f)     : ∀ {n : Nat} {M : xj_M} {G : xG_} {x1 : Int} {x2 : Nat} {x3 : Int} {x4 : Int} {x5 : Int} {R : xG_}, xRX m M0 M G → xin x1 → xoJ x2 → xin x3 → xin x4 → xin x5 → g264_20   f n x1 x2 x3 x4 x5 G = some R → xok (f264_20   f n m x1 (m + x2) x3 x4 x5 M) (fun r => xRX m M0 r R) := by
  intro n
  induction n with
  | zero => intros; rename_i e; cases e
  | succ n ih =>
    intros
    rename_i h i0 i1 i2 i3 i4 e
    exact s264_20b hI   ih h i0 i1 i2 i3 i4 e
theorem sg264 {m f : Nat} {M0 M : xj_M} {G : xG_} (hI : xHI f)   (h : xRX m M0 M G) {a1 : Int} {a2 : Nat} {a3 : Int} {a4 : Int} {R : xG_} (ta1 : xin a1) (ta2 : xoJ a2) (ta3 : xin a3) (ta4 : xin a4) (e : g264  f a1 a2 a3 a4 G = some R) : xok (f264  f m a1 (m + a2) a3 a4 M) (fun r => xRX m M0 r R) := by
  unfold g264 at e
  unfold f264
  obtain ⟨R162, e163, e⟩ := xbnd e
  refine xok_eqb (h.is (o := 0) (c := 15) (by decide) rfl) ?_
  refine xok_call (sg263 hI  h ta1 ta2 ta3 e163) ?_
  rintro ⟨v_, M166⟩ ⟨hv_, h164, hi165⟩
  cases hv_
  refine xok_ite (fun c167 => ?_) (fun c167 => ?_)
  · rw [if_pos c167] at e
    refine xok_eqb (h164.pt (o := 0) (c := 15) (k := 33) (t := 108) (n := 107) (by decide) rfl (by decide) (by decide +kernel)) ?_
    by_cases c168 : 0 ≤ (a1) ∧ (a1) < 16
    · skip
      rw [if_pos c168] at e
      refine xok_eqb (h164.ai (o := 108) (n := 16) (by decide) rfl (by decide) c168.1 c168.2) ?_
      exact s264_20 hI   h164 ta1 ta2 ta3 ta4 (h164.ain (o := 108) (n := 16) (by decide) rfl (by decide) c168.1 c168.2) e
    · rw [if_neg c168] at e; cases e
  · rw [if_neg c167] at e
    cases e
    exact ⟨_, rfl, h164⟩
-- ChangeHouseModel.remove
theorem s265_25b {m f : Nat} {M0 M : xj_M} {G : xG_} (hI : xHI f)  {r12 : Int → Int → xG_ → Option (xG_)} {o12 : Nat → Int → Int → xj_M → Option (xj_M)} {r25 : Int → Int → Int → xG_ → Option (xG_)} {o25 : Nat → Int → Int → Int → xj_M → Option (xj_M)}  (hr12 : ∀ {M : xj_M} {G : xG_} {x1 : Int} {x3 : Int} {R : xG_}, xRX m M0 M G → xin x1 → xin x3 → r12 x1 x3 G = some R → xok (o12 m x1 x3 M) (fun r => xRX m M0 r R)) (hr25 : ∀ {M : xj_M} {G : xG_} {x1 : Int} {x3 : Int} {x4 : Int} {R : xG_}, xRX m M0 M G → xin x1 → xin x3 → xin x4 → r25 x1 x3 x4 G = some R → xok (o25 m x1 x3 x4 M) (fun r => xRX m M0 r R)) (h : xRX m M0 M G) {x1 : Int} {x3 : Int} {x4 : Int} {R : xG_} (tx1 : xin x1) (tx3 : xin x3) (tx4 : xin x4) (e : g265_25b  r12 r25 f x1 x3 x4 G = some R) : xok (f265_25b  o12 o25 f m x1 x3 x4 M) (fun r => xRX m M0 r R) := by
  unfold g265_25b at e
  unfold f265_25b
  refine xok_ite (fun c101 => ?_) (fun c101 => ?_)
  · rw [if_pos c101] at e
    refine xok_eqb (h.pt (o := 0) (c := 15) (k := 34) (t := 109) (n := 107) (by decide) rfl (by decide) (by decide +kernel)) ?_
    refine xok_eqb (h.pt (o := 0) (c := 15) (k := 34) (t := 109) (n := 107) (by decide) rfl (by decide) (by decide +kernel)) ?_
    by_cases c102 : 0 ≤ (xwr ((xwr ((xwr ((x1) * (520))) + (x3))) + (1))) ∧ (xwr ((xwr ((xwr ((x1) * (520))) + (x3))) + (1))) < 8320
    · skip
      rw [if_pos c102] at e
      refine xok_eqb (h.ai (o := 109) (n := 8320) (by decide) rfl (by decide) c102.1 c102.2) ?_
      by_cases c103 : 0 ≤ (xwr ((xwr ((x1) * (520))) + (x3))) ∧ (xwr ((xwr ((x1) * (520))) + (x3))) < 8320
      · skip
        rw [if_pos c103] at e
        obtain ⟨M104, q105, h106⟩ := h.si (o := 109) (n := 8320) (v := G (109) (xwr ((xwr ((xwr ((x1) * (520))) + (x3))) + (1))).toNat) (by decide) rfl c103.1 c103.2 (h.ain (o := 109) (n := 8320) (by decide) rfl (by decide) c102.1 c102.2)
        refine xok_eqb q105 ?_
        obtain ⟨G107, g1, e⟩ := xbnd e
        cases g1
        have h106_ : xRX m M0 M104 (xup2 G (109) (xwr ((xwr ((x1) * (520))) + (x3))).toNat (G (109) (xwr ((xwr ((xwr ((x1) * (520))) + (x3))) + (1))).toNat)) := h106
        generalize hGG107 : (xup2 G (109) (xwr ((xwr ((x1) * (520))) + (x3))).toNat (G (109) (xwr ((xwr ((xwr ((x1) * (520))) + (x3))) + (1))).toNat)) = G107 at e h106
        clear h106_ hGG107
        exact hr12 h106 tx1 (xin_wr _) e
      · rw [if_neg c103] at e; cases e
    · rw [if_neg c102] at e; cases e
  · rw [if_neg c101] at e
    refine xok_eqb (h.pt (o := 0) (c := 15) (k := 32) (t := 107) (n := 107) (by decide) rfl (by decide) (by decide +kernel)) ?_
    obtain ⟨R108, e109, e⟩ := xbnd e
    refine xok_eqb (h.is (o := 0) (c := 15) (by decide) rfl) ?_
    refine xok_call (sg261 hI  h tx1 tx3 e109) ?_
    rintro ⟨v_, M112⟩ ⟨hv_, h110, hi111⟩
    cases hv_
    refine xok_eqb (h110.pt (o := 0) (c := 15) (k := 32) (t := 107) (n := 107) (by decide) rfl (by decide) (by decide +kernel)) ?_
    obtain ⟨R113, e114, e⟩ := xbnd e
    refine xok_eqb (h110.is (o := 0) (c := 15) (by decide) rfl) ?_
    refine xok_call (sg261 hI  h110 tx1 (xin_wr _) e114) ?_
    rintro ⟨v_, M117⟩ ⟨hv_, h115, hi116⟩
    cases hv_
    by_cases c118 : 0 ≤ (xwr ((R113.1) + (x4))) ∧ (xwr ((R113.1) + (x4))) < 33280
    · skip
      rw [if_pos c118] at e
      refine xok_eqb (h115.al (o := 107) (n := 33280) (by decide) rfl  c118.1 c118.2) ?_
      by_cases c119 : 0 ≤ (xwr ((R108.1) + (x4))) ∧ (xwr ((R108.1) + (x4))) < 33280
      · skip
        rw [if_pos c119] at e
        obtain ⟨M120, q121, h122⟩ := h115.sl (o := 107) (n := 33280) (v := R113.2 (107) (xwr ((R113.1) + (x4))).toNat) (by decide) rfl c119.1 c119.2 (h115.aln (o := 107) (n := 33280) (by decide) rfl  c118.1 c118.2)
        refine xok_eqb q121 ?_
        obtain ⟨G123, g1, e⟩ := xbnd e
        cases g1
        have h122_ : xRX m M0 M120 (xup2 R113.2 (107) (xwr ((R108.1) + (x4))).toNat (R113.2 (107) (xwr ((R113.1) + (x4))).toNat)) := h122
        generalize hGG123 : (xup2 R113.2 (107) (xwr ((R108.1) + (x4))).toNat (R113.2 (107) (xwr ((R113.1) + (x4))).toNat)) = G123 at e h122
        clear h122_ hGG123
        exact hr25 h122 tx1 tx3 (xin_wr _) e
      · rw [if_neg c119] at e; cases e
    · rw [if_neg c118] at e; cases e
theorem s265_25 {m f : Nat} {M0 : xj_M} (hI : xHI f)  {r12 : Int → Int → xG_ → Option (xG_)} {o12 : Nat → Int → Int → xj_M → Option (xj_M)}  (hr12 : ∀ {M : xj_M} {G : xG_} {x1 : Int} {x3 : Int} {R : xG_}, xRX m M0 M G → xin x1 → xin x3 → r12 x1 x3 G = some R → xok (o12 m x1 x3 M) (fun r => xRX m M0 r R)) : ∀ {n : Nat} {M : xj_M} {G : xG_} {x1 : Int} {x3 : Int} {x4 : Int} {R : xG_}, xRX m M0 M G → xin x1 → xin x3 → xin x4 → g265_25  r12 f n x1 x3 x4 G = some R → xok (f265_25  o12 f n m x1 x3 x4 M) (fun r => xRX m M0 r R) := by
  intro n
  induction n with
  | zero => intros; rename_i e; cases e
  | succ n ih =>
    intros
    rename_i h i0 i1 i2 e
    exact s265_25b hI  hr12 ih h i0 i1 i2 e
theorem s265_12b {m f : Nat} {M0 M : xj_M} {G : xG_} (hI : xHI f)  {r12 : Int → Int → xG_ → Option (xG_)} {o12 : Nat → Int → Int → xj_M → Option (xj_M)}  (hr12 : ∀ {M : xj_M} {G : xG_} {x1 : Int} {x3 : Int} {R : xG_}, xRX m M0 M G → xin x1 → xin x3 → r12 x1 x3 G = some R → xok (o12 m x1 x3 M) (fun r => xRX m M0 r R)) (h : xRX m M0 M G) {x1 : Int} {x3 : Int} {R : xG_} (tx1 : xin x1) (tx3 : xin x3) (e : g265_12b  r12 f x1 x3 G = some R) : xok (f265_12b  o12 f m x1 x3 M) (fun r => xRX m M0 r R) := by
  unfold g265_12b at e
  unfold f265_12b
  refine xok_eqb (h.pt (o := 0) (c := 15) (k := 33) (t := 108) (n := 107) (by decide) rfl (by decide) (by decide +kernel)) ?_
  by_cases c124 : 0 ≤ (x1) ∧ (x1) < 16
  · skip
    rw [if_pos c124] at e
    refine xok_eqb (h.ai (o := 108) (n := 16) (by decide) rfl (by decide) c124.1 c124.2) ?_
    refine xok_ite (fun c125 => ?_) (fun c125 => ?_)
    · rw [if_pos c125] at e
      cases e
      exact ⟨_, rfl, h⟩
    · rw [if_neg c125] at e
      exact s265_25 hI  hr12 h tx1 tx3 (show xin (0) by decide) e
  · rw [if_neg c124] at e; cases e
theorem s265_12 {m f : Nat} {M0 : xj_M} (hI : xHI f)     : ∀ {n : Nat} {M : xj_M} {G : xG_} {x1 : Int} {x3 : Int} {R : xG_}, xRX m M0 M G → xin x1 → xin x3 → g265_12   f n x1 x3 G = some R → xok (f265_12   f n m x1 x3 M) (fun r => xRX m M0 r R) := by
  intro n
  induction n with
  | zero => intros; rename_i e; cases e
  | succ n ih =>
    intros
    rename_i h i0 i1 e
    exact s265_12b hI   ih h i0 i1 e
theorem sg265 {m f : Nat} {M0 M : xj_M} {G : xG_} (hI : xHI f)   (h : xRX m M0 M G) {a1 : Int} {a2 : Int} {R : xG_} (ta1 : xin a1) (ta2 : xin a2) (e : g265  f a1 a2 G = some R) : xok (f265  f m a1 a2 M) (fun r => xRX m M0 r R) := by
  unfold g265 at e
  unfold f265
  refine xok_eqb (h.pt (o := 0) (c := 15) (k := 33) (t := 108) (n := 107) (by decide) rfl (by decide) (by decide +kernel)) ?_
  by_cases c126 : 0 ≤ (a1) ∧ (a1) < 16
  · skip
    rw [if_pos c126] at e
    refine xok_eqb (h.ai (o := 108) (n := 16) (by decide) rfl (by decide) c126.1 c126.2) ?_
    by_cases c127 : 0 ≤ (a1) ∧ (a1) < 16
    · skip
      rw [if_pos c127] at e
      obtain ⟨M128, q129, h130⟩ := h.si (o := 108) (n := 16) (v := xwr ((G (108) (a1).toNat) - (1))) (by decide) rfl c127.1 c127.2 (xin_wr _)
      refine xok_eqb q129 ?_
      obtain ⟨G131, g1, e⟩ := xbnd e
      cases g1
      have h130_ : xRX m M0 M128 (xup2 G (108) (a1).toNat (xwr ((G (108) (a1).toNat) - (1)))) := h130
      generalize hGG131 : (xup2 G (108) (a1).toNat (xwr ((G (108) (a1).toNat) - (1)))) = G131 at e h130
      clear h130_ hGG131
      exact s265_12 hI   h130 ta1 ta2 e
    · rw [if_neg c127] at e; cases e
  · rw [if_neg c126] at e; cases e
-- ChangeHouseModel.isWordValue
theorem s267_13 {m f : Nat} {M0 M : xj_M} {G : xG_} (hI : xHI f)     (h : xRX m M0 M G) {y0 : Int} {R : Int × xG_} (ty0 : xin y0) (e : g267_13   f y0 G = some R) : xok (f267_13   f y0 M) (fun r => r.1 = R.1 ∧ xRX m M0 r.2 R.2 ∧ xin R.1) := by
  unfold g267_13 at e
  unfold f267_13
  refine xok_ite (fun c101 => ?_) (fun c101 => ?_)
  · rw [if_pos c101] at e; cases e; exact ⟨_, rfl, rfl, h, ty0⟩
  · rw [if_neg c101] at e; cases e
theorem sg267 {m f : Nat} {M0 M : xj_M} {G : xG_} (hI : xHI f)   (h : xRX m M0 M G) {a0 : Int} {R : Int × xG_} (ta0 : xiN a0) (e : g267  f a0 G = some R) : xok (f267  f a0 M) (fun r => r.1 = R.1 ∧ xRX m M0 r.2 R.2 ∧ xin R.1) := by
  unfold g267 at e
  unfold f267
  refine xok_ite (fun c102 => ?_) (fun c102 => ?_)
  · rw [if_pos c102] at e
    exact s267_13 hI   h (show xin (0) by decide) e
  · rw [if_neg c102] at e
    exact s267_13 hI   h (show xin (1) by decide) e
-- ChangeHouseModel.isTooMuch
theorem s269_27 {m f : Nat} {M0 M : xj_M} {G : xG_} (hI : xHI f)     (h : xRX m M0 M G) {y0 : Int} {R : Int × xG_} (ty0 : xin y0) (e : g269_27   f y0 G = some R) : xok (f269_27   f y0 M) (fun r => r.1 = R.1 ∧ xRX m M0 r.2 R.2 ∧ xin R.1) := by
  unfold g269_27 at e
  unfold f269_27
  refine xok_ite (fun c101 => ?_) (fun c101 => ?_)
  · rw [if_pos c101] at e; cases e; exact ⟨_, rfl, rfl, h, ty0⟩
  · rw [if_neg c101] at e; cases e
theorem s269_26 {m f : Nat} {M0 M : xj_M} {G : xG_} (hI : xHI f)     (h : xRX m M0 M G)  {R : Int × xG_}  (e : g269_26   f  G = some R) : xok (f269_26   f  M) (fun r => r.1 = R.1 ∧ xRX m M0 r.2 R.2 ∧ xin R.1) := by
  unfold g269_26 at e
  unfold f269_26
  exact s269_27 hI   h (show xin (0) by decide) e
theorem sg269 {m f : Nat} {M0 M : xj_M} {G : xG_} (hI : xHI f)   (h : xRX m M0 M G) {a0 : Int} {a1 : Int} {R : Int × xG_} (ta0 : xiN a0) (ta1 : xiN a1) (e : g269  f a0 a1 G = some R) : xok (f269  f a0 a1 M) (fun r => r.1 = R.1 ∧ xRX m M0 r.2 R.2 ∧ xin R.1) := by
  unfold g269 at e
  unfold f269
  refine xok_ite (fun c102 => ?_) (fun c102 => ?_)
  · rw [if_pos c102] at e
    exact s269_26 hI   h  e
  · rw [if_neg c102] at e
    refine xok_ite (fun c103 => ?_) (fun c103 => ?_)
    · rw [if_pos c103] at e; cases e
    rw [if_neg c103] at e
    refine xok_ite (fun c104 => ?_) (fun c104 => ?_)
    · rw [if_pos c104] at e
      exact s269_26 hI   h  e
    · rw [if_neg c104] at e
      exact s269_27 hI   h (show xin (1) by decide) e
-- ChangeHouseModel.isBound
theorem s270_17 {m f : Nat} {M0 M : xj_M} {G : xG_} (hI : xHI f)     (h : xRX m M0 M G) {y0 : Int} {R : Int × xG_} (ty0 : xin y0) (e : g270_17   f y0 G = some R) : xok (f270_17   f y0 M) (fun r => r.1 = R.1 ∧ xRX m M0 r.2 R.2 ∧ xin R.1) := by
  unfold g270_17 at e
  unfold f270_17
  refine xok_ite (fun c101 => ?_) (fun c101 => ?_)
  · rw [if_pos c101] at e; cases e; exact ⟨_, rfl, rfl, h, ty0⟩
  · rw [if_neg c101] at e; cases e
theorem sg270 {m f : Nat} {M0 M : xj_M} {G : xG_} (hI : xHI f)   (h : xRX m M0 M G) {a1 : Int} {R : Int × xG_} (ta1 : xin a1) (e : g270  f a1 G = some R) : xok (f270  f m a1 M) (fun r => r.1 = R.1 ∧ xRX m M0 r.2 R.2 ∧ xin R.1) := by
  unfold g270 at e
  unfold f270
  refine xok_eqb (h.gi (o := 0) (c := 15) (k := 37) (n := 107) (by decide) rfl (by decide) (by decide)) ?_
  refine xok_ite (fun c102 => ?_) (fun c102 => ?_)
  · rw [if_pos c102] at e
    exact s270_17 hI   h (show xin (0) by decide) e
  · rw [if_neg c102] at e
    exact s270_17 hI   h (show xin (1) by decide) e
-- ChangeHouseModel.isOpen
theorem s271_48 {m f : Nat} {M0 M : xj_M} {G : xG_} (hI : xHI f)     (h : xRX m M0 M G) {y0 : Int} {R : Int × xG_} (ty0 : xin y0) (e : g271_48   f y0 G = some R) : xok (f271_48   f y0 M) (fun r => r.1 = R.1 ∧ xRX m M0 r.2 R.2 ∧ xin R.1) := by
  unfold g271_48 at e
  unfold f271_48
  refine xok_ite (fun c101 => ?_) (fun c101 => ?_)
  · rw [if_pos c101] at e; cases e; exact ⟨_, rfl, rfl, h, ty0⟩
  · rw [if_neg c101] at e; cases e
theorem s271_43 {m f : Nat} {M0 M : xj_M} {G : xG_} (hI : xHI f)     (h : xRX m M0 M G)  {R : Int × xG_}  (e : g271_43   f  G = some R) : xok (f271_43   f  M) (fun r => r.1 = R.1 ∧ xRX m M0 r.2 R.2 ∧ xin R.1) := by
  unfold g271_43 at e
  unfold f271_43
  exact s271_48 hI   h (show xin (1) by decide) e
theorem sg271 {m f : Nat} {M0 M : xj_M} {G : xG_} (hI : xHI f)   (h : xRX m M0 M G) {a1 : Int} {a2 : Int} {R : Int × xG_} (ta1 : xin a1) (ta2 : xin a2) (e : g271  f a1 a2 G = some R) : xok (f271  f m a1 a2 M) (fun r => r.1 = R.1 ∧ xRX m M0 r.2 R.2 ∧ xin R.1) := by
  unfold g271 at e
  unfold f271
  refine xok_eqb (h.gi (o := 0) (c := 15) (k := 40) (n := 107) (by decide) rfl (by decide) (by decide)) ?_
  refine xok_ite (fun c102 => ?_) (fun c102 => ?_)
  · rw [if_pos c102] at e
    exact s271_43 hI   h  e
  · rw [if_neg c102] at e
    refine xok_eqb (h.pt (o := 0) (c := 15) (k := 29) (t := 2) (n := 107) (by decide) rfl (by decide) (by decide +kernel)) ?_
    refine xok_eqb (h.pt (o := 2) (c := 14) (k := 4) (t := 2 + 5) (n := 38) (xoP_o (show xoP 2 by unfold xoP; omega)).1 (xoP_o (show xoP 2 by unfold xoP; omega)).2 (by decide) (xoP_all (show xoP 2 by unfold xoP; omega) (Q := fun p => (p, 4, p + 5) ∈ xl_P) (by decide +kernel) (by decide +kernel) (by decide +kernel))) ?_
    by_cases c103 : 0 ≤ (a1) ∧ (a1) < 16
    · skip
      rw [if_pos c103] at e
      refine xok_eqb (h.ai (o := 2 + 5) (n := 16) (xoP_all (show xoP 2 by unfold xoP; omega) (Q := fun p => p + 5 < 276) (by decide) (by decide) (by decide)) (xoP_all (show xoP 2 by unfold xoP; omega) (Q := fun p => xl_t (p + 5) = (2, 3, 16)) rfl rfl rfl) (by decide) c103.1 c103.2) ?_
      refine xok_eqb (h.gi (o := 0) (c := 15) (k := 40) (n := 107) (by decide) rfl (by decide) (by decide)) ?_
      refine xok_ite (fun c104 => ?_) (fun c104 => ?_)
      · rw [if_pos c104] at e
        exact s271_43 hI   h  e
      · rw [if_neg c104] at e
        refine xok_eqb (h.pt (o := 0) (c := 15) (k := 34) (t := 109) (n := 107) (by decide) rfl (by decide) (by decide +kernel)) ?_
        by_cases c105 : 0 ≤ (xwr ((xwr ((a1) * (520))) + (a2))) ∧ (xwr ((xwr ((a1) * (520))) + (a2))) < 8320
        · skip
          rw [if_pos c105] at e
          refine xok_eqb (h.ai (o := 109) (n := 8320) (by decide) rfl (by decide) c105.1 c105.2) ?_
          refine xok_eqb (h.gi (o := 0) (c := 15) (k := 41) (n := 107) (by decide) rfl (by decide) (by decide)) ?_
          refine xok_ite (fun c106 => ?_) (fun c106 => ?_)
          · rw [if_pos c106] at e
            exact s271_48 hI   h (show xin (0) by decide) e
          · rw [if_neg c106] at e
            exact s271_43 hI   h  e
        · rw [if_neg c105] at e; cases e
    · rw [if_neg c103] at e; cases e
-- ChangeHouseModel.fits
theorem s272_221 {m f : Nat} {M0 M : xj_M} {G : xG_} (hI : xHI f)  {r3 : Int → Int → Int → Int → xG_ → Option (Int × xG_)} {o3 : Nat → Int → Int → Int → Int → xj_M → Option (Int × xj_M)} {r132 : Int → Int → Int → Int → Int → Int → Int → xG_ → Option (Int × xG_)} {o132 : Nat → Int → Int → Int → Int → Int → Int → Int → xj_M → Option (Int × xj_M)}  (hr3 : ∀ {M : xj_M} {G : xG_} {x1 : Int} {x2 : Int} {x3 : Int} {x4 : Int} {R : Int × xG_}, xRX m M0 M G → xin x1 → xin x2 → xin x3 → xin x4 → r3 x1 x2 x3 x4 G = some R → xok (o3 m x1 x2 x3 x4 M) (fun r => r.1 = R.1 ∧ xRX m M0 r.2 R.2 ∧ xin R.1)) (hr132 : ∀ {M : xj_M} {G : xG_} {x1 : Int} {x2 : Int} {x3 : Int} {x4 : Int} {x5 : Int} {x6 : Int} {x8 : Int} {R : Int × xG_}, xRX m M0 M G → xin x1 → xin x2 → xin x3 → xin x4 → xin x5 → xiN x6 → xin x8 → r132 x1 x2 x3 x4 x5 x6 x8 G = some R → xok (o132 m x1 x2 x3 x4 x5 x6 x8 M) (fun r => r.1 = R.1 ∧ xRX m M0 r.2 R.2 ∧ xin R.1)) (h : xRX m M0 M G) {x1 : Int} {x2 : Int} {x3 : Int} {x4 : Int} {x5 : Int} {x6 : Int} {x8 : Int} {R : Int × xG_} (tx1 : xin x1) (tx2 : xin x2) (tx3 : xin x3) (tx4 : xin x4) (tx5 : xin x5) (tx6 : xiN x6) (tx8 : xin x8) (e : g272_221  r3 r132 f x1 x2 x3 x4 x5 x6 x8 G = some R) : xok (f272_221  o3 o132 f m x1 x2 x3 x4 x5 x6 x8 M) (fun r => r.1 = R.1 ∧ xRX m M0 r.2 R.2 ∧ xin R.1) := by
  unfold g272_221 at e
  unfold f272_221
  exact hr132 h tx1 tx2 tx3 tx4 tx5 tx6 (xin_wr _) e
theorem s272_227 {m f : Nat} {M0 M : xj_M} {G : xG_} (hI : xHI f)  {r3 : Int → Int → Int → Int → xG_ → Option (Int × xG_)} {o3 : Nat → Int → Int → Int → Int → xj_M → Option (Int × xj_M)}  (hr3 : ∀ {M : xj_M} {G : xG_} {x1 : Int} {x2 : Int} {x3 : Int} {x4 : Int} {R : Int × xG_}, xRX m M0 M G → xin x1 → xin x2 → xin x3 → xin x4 → r3 x1 x2 x3 x4 G = some R → xok (o3 m x1 x2 x3 x4 M) (fun r => r.1 = R.1 ∧ xRX m M0 r.2 R.2 ∧ xin R.1)) (h : xRX m M0 M G) {x1 : Int} {x2 : Int} {x3 : Int} {x4 : Int} {R : Int × xG_} (tx1 : xin x1) (tx2 : xin x2) (tx3 : xin x3) (tx4 : xin x4) (e : g272_227  r3 f x1 x2 x3 x4 G = some R) : xok (f272_227  o3 f m x1 x2 x3 x4 M) (fun r => r.1 = R.1 ∧ xRX m M0 r.2 R.2 ∧ xin R.1) := by
  unfold g272_227 at e
  unfold f272_227
  exact hr3 h tx1 tx2 tx3 (xin_wr _) e
theorem s272_132b {m f : Nat} {M0 M : xj_M} {G : xG_} (hI : xHI f)  {r3 : Int → Int → Int → Int → xG_ → Option (Int × xG_)} {o3 : Nat → Int → Int → Int → Int → xj_M → Option (Int × xj_M)} {r132 : Int → Int → Int → Int → Int → Int → Int → xG_ → Option (Int × xG_)} {o132 : Nat → Int → Int → Int → Int → Int → Int → Int → xj_M → Option (Int × xj_M)}  (hr3 : ∀ {M : xj_M} {G : xG_} {x1 : Int} {x2 : Int} {x3 : Int} {x4 : Int} {R : Int × xG_}, xRX m M0 M G → xin x1 → xin x2 → xin x3 → xin x4 → r3 x1 x2 x3 x4 G = some R → xok (o3 m x1 x2 x3 x4 M) (fun r => r.1 = R.1 ∧ xRX m M0 r.2 R.2 ∧ xin R.1)) (hr132 : ∀ {M : xj_M} {G : xG_} {x1 : Int} {x2 : Int} {x3 : Int} {x4 : Int} {x5 : Int} {x6 : Int} {x8 : Int} {R : Int × xG_}, xRX m M0 M G → xin x1 → xin x2 → xin x3 → xin x4 → xin x5 → xiN x6 → xin x8 → r132 x1 x2 x3 x4 x5 x6 x8 G = some R → xok (o132 m x1 x2 x3 x4 x5 x6 x8 M) (fun r => r.1 = R.1 ∧ xRX m M0 r.2 R.2 ∧ xin R.1)) (h : xRX m M0 M G) {x1 : Int} {x2 : Int} {x3 : Int} {x4 : Int} {x5 : Int} {x6 : Int} {x8 : Int} {R : Int × xG_} (tx1 : xin x1) (tx2 : xin x2) (tx3 : xin x3) (tx4 : xin x4) (tx5 : xin x5) (tx6 : xiN x6) (tx8 : xin x8) (e : g272_132b  r3 r132 f x1 x2 x3 x4 x5 x6 x8 G = some R) : xok (f272_132b  o3 o132 f m x1 x2 x3 x4 x5 x6 x8 M) (fun r => r.1 = R.1 ∧ xRX m M0 r.2 R.2 ∧ xin R.1) := by
  unfold g272_132b at e
  unfold f272_132b
  refine xok_ite (fun c101 => ?_) (fun c101 => ?_)
  · rw [if_pos c101] at e
    exact s272_227 hI  hr3 h tx1 tx2 tx3 tx4 e
  · rw [if_neg c101] at e
    refine xok_eqb (h.pt (o := 0) (c := 15) (k := 29) (t := 2) (n := 107) (by decide) rfl (by decide) (by decide +kernel)) ?_
    refine xok_eqb (h.pt (o := 2) (c := 14) (k := 33) (t := 2 + 31) (n := 38) (xoP_o (show xoP 2 by unfold xoP; omega)).1 (xoP_o (show xoP 2 by unfold xoP; omega)).2 (by decide) (xoP_all (show xoP 2 by unfold xoP; omega) (Q := fun p => (p, 33, p + 31) ∈ xl_P) (by decide +kernel) (by decide +kernel) (by decide +kernel))) ?_
    by_cases c102 : 0 ≤ (x5) ∧ (x5) < 800
    · skip
      rw [if_pos c102] at e
      refine xok_eqb (h.ai (o := 2 + 31) (n := 800) (xoP_all (show xoP 2 by unfold xoP; omega) (Q := fun p => p + 31 < 276) (by decide) (by decide) (by decide)) (xoP_all (show xoP 2 by unfold xoP; omega) (Q := fun p => xl_t (p + 31) = (2, 3, 800)) rfl rfl rfl) (by decide) c102.1 c102.2) ?_
      refine xok_ite (fun c103 => ?_) (fun c103 => ?_)
      · rw [if_pos c103] at e
        exact s272_227 hI  hr3 h tx1 tx2 tx3 tx4 e
      · rw [if_neg c103] at e
        refine xok_eqb (h.pt (o := 0) (c := 15) (k := 29) (t := 2) (n := 107) (by decide) rfl (by decide) (by decide +kernel)) ?_
        refine xok_eqb (h.pt (o := 2) (c := 14) (k := 33) (t := 2 + 31) (n := 38) (xoP_o (show xoP 2 by unfold xoP; omega)).1 (xoP_o (show xoP 2 by unfold xoP; omega)).2 (by decide) (xoP_all (show xoP 2 by unfold xoP; omega) (Q := fun p => (p, 33, p + 31) ∈ xl_P) (by decide +kernel) (by decide +kernel) (by decide +kernel))) ?_
        by_cases c104 : 0 ≤ (xwr ((xwr ((x1) * (4))) + (x8))) ∧ (xwr ((xwr ((x1) * (4))) + (x8))) < 800
        · skip
          rw [if_pos c104] at e
          refine xok_eqb (h.ai (o := 2 + 31) (n := 800) (xoP_all (show xoP 2 by unfold xoP; omega) (Q := fun p => p + 31 < 276) (by decide) (by decide) (by decide)) (xoP_all (show xoP 2 by unfold xoP; omega) (Q := fun p => xl_t (p + 31) = (2, 3, 800)) rfl rfl rfl) (by decide) c104.1 c104.2) ?_
          refine xok_ite (fun c105 => ?_) (fun c105 => ?_)
          · rw [if_pos c105] at e
            exact s272_221 hI  hr3 hr132 h tx1 tx2 tx3 tx4 tx5 tx6 tx8 e
          · rw [if_neg c105] at e
            refine xok_eqb (h.pt (o := 0) (c := 15) (k := 29) (t := 2) (n := 107) (by decide) rfl (by decide) (by decide +kernel)) ?_
            refine xok_eqb (h.pt (o := 2) (c := 14) (k := 34) (t := 2 + 32) (n := 38) (xoP_o (show xoP 2 by unfold xoP; omega)).1 (xoP_o (show xoP 2 by unfold xoP; omega)).2 (by decide) (xoP_all (show xoP 2 by unfold xoP; omega) (Q := fun p => (p, 34, p + 32) ∈ xl_P) (by decide +kernel) (by decide +kernel) (by decide +kernel))) ?_
            by_cases c106 : 0 ≤ (xwr ((xwr ((x1) * (4))) + (x8))) ∧ (xwr ((xwr ((x1) * (4))) + (x8))) < 800
            · skip
              rw [if_pos c106] at e
              refine xok_eqb (h.al (o := 2 + 32) (n := 800) (xoP_all (show xoP 2 by unfold xoP; omega) (Q := fun p => p + 32 < 276) (by decide) (by decide) (by decide)) (xoP_all (show xoP 2 by unfold xoP; omega) (Q := fun p => xl_t (p + 32) = (2, 4, 800)) rfl rfl rfl)  c106.1 c106.2) ?_
              refine xok_eqb (h.pt (o := 0) (c := 15) (k := 29) (t := 2) (n := 107) (by decide) rfl (by decide) (by decide +kernel)) ?_
              refine xok_eqb (h.pt (o := 2) (c := 14) (k := 34) (t := 2 + 32) (n := 38) (xoP_o (show xoP 2 by unfold xoP; omega)).1 (xoP_o (show xoP 2 by unfold xoP; omega)).2 (by decide) (xoP_all (show xoP 2 by unfold xoP; omega) (Q := fun p => (p, 34, p + 32) ∈ xl_P) (by decide +kernel) (by decide +kernel) (by decide +kernel))) ?_
              by_cases c107 : 0 ≤ (x5) ∧ (x5) < 800
              · skip
                rw [if_pos c107] at e
                refine xok_eqb (h.al (o := 2 + 32) (n := 800) (xoP_all (show xoP 2 by unfold xoP; omega) (Q := fun p => p + 32 < 276) (by decide) (by decide) (by decide)) (xoP_all (show xoP 2 by unfold xoP; omega) (Q := fun p => xl_t (p + 32) = (2, 4, 800)) rfl rfl rfl)  c107.1 c107.2) ?_
                refine xok_ite (fun c108 => ?_) (fun c108 => ?_)
                · rw [if_pos c108] at e
                  exact s272_221 hI  hr3 hr132 h tx1 tx2 tx3 tx4 tx5 tx6 tx8 e
                · rw [if_neg c108] at e
                  refine xok_eqb (h.pt (o := 0) (c := 15) (k := 32) (t := 107) (n := 107) (by decide) rfl (by decide) (by decide +kernel)) ?_
                  obtain ⟨R109, e110, e⟩ := xbnd e
                  refine xok_eqb (h.is (o := 0) (c := 15) (by decide) rfl) ?_
                  refine xok_call (sg261 hI  h tx2 tx3 e110) ?_
                  rintro ⟨v_, M113⟩ ⟨hv_, h111, hi112⟩
                  cases hv_
                  by_cases c114 : 0 ≤ (xwr ((R109.1) + (x8))) ∧ (xwr ((R109.1) + (x8))) < 33280
                  · skip
                    rw [if_pos c114] at e
                    refine xok_eqb (h111.al (o := 107) (n := 33280) (by decide) rfl  c114.1 c114.2) ?_
                    refine xok_ite (fun c115 => ?_) (fun c115 => ?_)
                    · rw [if_pos c115] at e
                      exact s272_221 hI  hr3 hr132 h111 tx1 tx2 tx3 tx4 tx5 tx6 tx8 e
                    · rw [if_neg c115] at e
                      cases e
                      exact ⟨_, rfl, rfl, h111, (show xin (0) by decide)⟩
                  · rw [if_neg c114] at e; cases e
              · rw [if_neg c107] at e; cases e
            · rw [if_neg c106] at e; cases e
        · rw [if_neg c104] at e; cases e
    · rw [if_neg c102] at e; cases e
theorem s272_132 {m f : Nat} {M0 : xj_M} (hI : xHI f)  {r3 : Int → Int → Int → Int → xG_ → Option (Int × xG_)} {o3 : Nat → Int → Int → Int → Int → xj_M → Option (Int × xj_M)}  (hr3 : ∀ {M : xj_M} {G : xG_} {x1 : Int} {x2 : Int} {x3 : Int} {x4 : Int} {R : Int × xG_}, xRX m M0 M G → xin x1 → xin x2 → xin x3 → xin x4 → r3 x1 x2 x3 x4 G = some R → xok (o3 m x1 x2 x3 x4 M) (fun r => r.1 = R.1 ∧ xRX m M0 r.2 R.2 ∧ xin R.1)) : ∀ {n : Nat} {M : xj_M} {G : xG_} {x1 : Int} {x2 : Int} {x3 : Int} {x4 : Int} {x5 : Int} {x6 : Int} {x8 : Int} {R : Int × xG_}, xRX m M0 M G → xin x1 → xin x2 → xin x3 → xin x4 → xin x5 → xiN x6 → xin x8 → g272_132  r3 f n x1 x2 x3 x4 x5 x6 x8 G = some R → xok (f272_132  o3 f n m x1 x2 x3 x4 x5 x6 x8 M) (fun r => r.1 = R.1 ∧ xRX m M0 r.2 R.2 ∧ xin R.1) := by
  intro n
  induction n with
  | zero => intros; rename_i e; cases e
  | succ n ih =>
    intros
    rename_i h i0 i1 i2 i3 i4 i5 i6 e
    exact s272_132b hI  hr3 ih h i0 i1 i2 i3 i4 i5 i6 e
theorem s272_129 {m f : Nat} {M0 M : xj_M} {G : xG_} (hI : xHI f)  {r3 : Int → Int → Int → Int → xG_ → Option (Int × xG_)} {o3 : Nat → Int → Int → Int → Int → xj_M → Option (Int × xj_M)}  (hr3 : ∀ {M : xj_M} {G : xG_} {x1 : Int} {x2 : Int} {x3 : Int} {x4 : Int} {R : Int × xG_}, xRX m M0 M G → xin x1 → xin x2 → xin x3 → xin x4 → r3 x1 x2 x3 x4 G = some R → xok (o3 m x1 x2 x3 x4 M) (fun r => r.1 = R.1 ∧ xRX m M0 r.2 R.2 ∧ xin R.1)) (h : xRX m M0 M G) {x1 : Int} {x2 : Int} {x3 : Int} {x4 : Int} {x5 : Int} {x6 : Int} {R : Int × xG_} (tx1 : xin x1) (tx2 : xin x2) (tx3 : xin x3) (tx4 : xin x4) (tx5 : xin x5) (tx6 : xiN x6) (e : g272_129  r3 f x1 x2 x3 x4 x5 x6 G = some R) : xok (f272_129  o3 f m x1 x2 x3 x4 x5 x6 M) (fun r => r.1 = R.1 ∧ xRX m M0 r.2 R.2 ∧ xin R.1) := by
  unfold g272_129 at e
  unfold f272_129
  exact s272_132 hI  hr3 h tx1 tx2 tx3 tx4 tx5 tx6 (show xin (0) by decide) e
theorem s272_73 {m f : Nat} {M0 M : xj_M} {G : xG_} (hI : xHI f)  {r3 : Int → Int → Int → Int → xG_ → Option (Int × xG_)} {o3 : Nat → Int → Int → Int → Int → xj_M → Option (Int × xj_M)}  (hr3 : ∀ {M : xj_M} {G : xG_} {x1 : Int} {x2 : Int} {x3 : Int} {x4 : Int} {R : Int × xG_}, xRX m M0 M G → xin x1 → xin x2 → xin x3 → xin x4 → r3 x1 x2 x3 x4 G = some R → xok (o3 m x1 x2 x3 x4 M) (fun r => r.1 = R.1 ∧ xRX m M0 r.2 R.2 ∧ xin R.1)) (h : xRX m M0 M G) {x1 : Int} {x2 : Int} {x3 : Int} {x4 : Int} {x5 : Int} {x6 : Int} {R : Int × xG_} (tx1 : xin x1) (tx2 : xin x2) (tx3 : xin x3) (tx4 : xin x4) (tx5 : xin x5) (tx6 : xiN x6) (e : g272_73  r3 f x1 x2 x3 x4 x5 x6 G = some R) : xok (f272_73  o3 f m x1 x2 x3 x4 x5 x6 M) (fun r => r.1 = R.1 ∧ xRX m M0 r.2 R.2 ∧ xin R.1) := by
  unfold g272_73 at e
  unfold f272_73
  refine xok_eqb (h.pt (o := 0) (c := 15) (k := 29) (t := 2) (n := 107) (by decide) rfl (by decide) (by decide +kernel)) ?_
  refine xok_eqb (h.pt (o := 2) (c := 14) (k := 33) (t := 2 + 31) (n := 38) (xoP_o (show xoP 2 by unfold xoP; omega)).1 (xoP_o (show xoP 2 by unfold xoP; omega)).2 (by decide) (xoP_all (show xoP 2 by unfold xoP; omega) (Q := fun p => (p, 33, p + 31) ∈ xl_P) (by decide +kernel) (by decide +kernel) (by decide +kernel))) ?_
  by_cases c116 : 0 ≤ (x5) ∧ (x5) < 800
  · skip
    rw [if_pos c116] at e
    refine xok_eqb (h.ai (o := 2 + 31) (n := 800) (xoP_all (show xoP 2 by unfold xoP; omega) (Q := fun p => p + 31 < 276) (by decide) (by decide) (by decide)) (xoP_all (show xoP 2 by unfold xoP; omega) (Q := fun p => xl_t (p + 31) = (2, 3, 800)) rfl rfl rfl) (by decide) c116.1 c116.2) ?_
    refine xok_ite (fun c117 => ?_) (fun c117 => ?_)
    · rw [if_pos c117] at e
      exact s272_129 hI  hr3 h tx1 tx2 tx3 tx4 tx5 tx6 e
    · rw [if_neg c117] at e
      refine xok_eqb (h.pt (o := 0) (c := 15) (k := 29) (t := 2) (n := 107) (by decide) rfl (by decide) (by decide +kernel)) ?_
      refine xok_eqb (h.pt (o := 2) (c := 14) (k := 34) (t := 2 + 32) (n := 38) (xoP_o (show xoP 2 by unfold xoP; omega)).1 (xoP_o (show xoP 2 by unfold xoP; omega)).2 (by decide) (xoP_all (show xoP 2 by unfold xoP; omega) (Q := fun p => (p, 34, p + 32) ∈ xl_P) (by decide +kernel) (by decide +kernel) (by decide +kernel))) ?_
      by_cases c118 : 0 ≤ (x5) ∧ (x5) < 800
      · skip
        rw [if_pos c118] at e
        refine xok_eqb (h.al (o := 2 + 32) (n := 800) (xoP_all (show xoP 2 by unfold xoP; omega) (Q := fun p => p + 32 < 276) (by decide) (by decide) (by decide)) (xoP_all (show xoP 2 by unfold xoP; omega) (Q := fun p => xl_t (p + 32) = (2, 4, 800)) rfl rfl rfl)  c118.1 c118.2) ?_
        obtain ⟨R119, e120, e⟩ := xbnd e
        refine xok_eqb (h.is (o := 0) (c := 15) (by decide) rfl) ?_
        refine xok_call (sg270 hI  h (xin_wr _) e120) ?_
        rintro ⟨v_, M123⟩ ⟨hv_, h121, hi122⟩
        cases hv_
        refine xok_ite (fun c124 => ?_) (fun c124 => ?_)
        · rw [if_pos c124] at e
          exact s272_129 hI  hr3 h121 tx1 tx2 tx3 tx4 tx5 tx6 e
        · rw [if_neg c124] at e
          refine xok_eqb (h121.pt (o := 0) (c := 15) (k := 35) (t := 110) (n := 107) (by decide) rfl (by decide) (by decide +kernel)) ?_
          refine xok_eqb (h121.pt (o := 0) (c := 15) (k := 29) (t := 2) (n := 107) (by decide) rfl (by decide) (by decide +kernel)) ?_
          refine xok_eqb (h121.pt (o := 2) (c := 14) (k := 34) (t := 2 + 32) (n := 38) (xoP_o (show xoP 2 by unfold xoP; omega)).1 (xoP_o (show xoP 2 by unfold xoP; omega)).2 (by decide) (xoP_all (show xoP 2 by unfold xoP; omega) (Q := fun p => (p, 34, p + 32) ∈ xl_P) (by decide +kernel) (by decide +kernel) (by decide +kernel))) ?_
          by_cases c125 : 0 ≤ (x5) ∧ (x5) < 800
          · skip
            rw [if_pos c125] at e
            refine xok_eqb (h121.al (o := 2 + 32) (n := 800) (xoP_all (show xoP 2 by unfold xoP; omega) (Q := fun p => p + 32 < 276) (by decide) (by decide) (by decide)) (xoP_all (show xoP 2 by unfold xoP; omega) (Q := fun p => xl_t (p + 32) = (2, 4, 800)) rfl rfl rfl)  c125.1 c125.2) ?_
            by_cases c126 : 0 ≤ (xwr (R119.2 (2 + 32) (x5).toNat)) ∧ (xwr (R119.2 (2 + 32) (x5).toNat)) < 8
            · skip
              rw [if_pos c126] at e
              refine xok_eqb (h121.al (o := 110) (n := 8) (by decide) rfl  c126.1 c126.2) ?_
              refine xok_ite (fun c127 => ?_) (fun c127 => ?_)
              · rw [if_pos c127] at e
                exact s272_129 hI  hr3 h121 tx1 tx2 tx3 tx4 tx5 tx6 e
              · rw [if_neg c127] at e
                cases e
                exact ⟨_, rfl, rfl, h121, (show xin (0) by decide)⟩
            · rw [if_neg c126] at e; cases e
          · rw [if_neg c125] at e; cases e
      · rw [if_neg c118] at e; cases e
  · rw [if_neg c116] at e; cases e
theorem s272_3b {m f : Nat} {M0 M : xj_M} {G : xG_} (hI : xHI f)  {r3 : Int → Int → Int → Int → xG_ → Option (Int × xG_)} {o3 : Nat → Int → Int → Int → Int → xj_M → Option (Int × xj_M)}  (hr3 : ∀ {M : xj_M} {G : xG_} {x1 : Int} {x2 : Int} {x3 : Int} {x4 : Int} {R : Int × xG_}, xRX m M0 M G → xin x1 → xin x2 → xin x3 → xin x4 → r3 x1 x2 x3 x4 G = some R → xok (o3 m x1 x2 x3 x4 M) (fun r => r.1 = R.1 ∧ xRX m M0 r.2 R.2 ∧ xin R.1)) (h : xRX m M0 M G) {x1 : Int} {x2 : Int} {x3 : Int} {x4 : Int} {R : Int × xG_} (tx1 : xin x1) (tx2 : xin x2) (tx3 : xin x3) (tx4 : xin x4) (e : g272_3b  r3 f x1 x2 x3 x4 G = some R) : xok (f272_3b  o3 f m x1 x2 x3 x4 M) (fun r => r.1 = R.1 ∧ xRX m M0 r.2 R.2 ∧ xin R.1) := by
  unfold g272_3b at e
  unfold f272_3b
  refine xok_eqb (h.pt (o := 0) (c := 15) (k := 29) (t := 2) (n := 107) (by decide) rfl (by decide) (by decide +kernel)) ?_
  refine xok_eqb (h.pt (o := 2) (c := 14) (k := 29) (t := 2 + 27) (n := 38) (xoP_o (show xoP 2 by unfold xoP; omega)).1 (xoP_o (show xoP 2 by unfold xoP; omega)).2 (by decide) (xoP_all (show xoP 2 by unfold xoP; omega) (Q := fun p => (p, 29, p + 27) ∈ xl_P) (by decide +kernel) (by decide +kernel) (by decide +kernel))) ?_
  by_cases c128 : 0 ≤ (x1) ∧ (x1) < 200
  · skip
    rw [if_pos c128] at e
    refine xok_eqb (h.ai (o := 2 + 27) (n := 200) (xoP_all (show xoP 2 by unfold xoP; omega) (Q := fun p => p + 27 < 276) (by decide) (by decide) (by decide)) (xoP_all (show xoP 2 by unfold xoP; omega) (Q := fun p => xl_t (p + 27) = (2, 3, 200)) rfl rfl rfl) (by decide) c128.1 c128.2) ?_
    refine xok_ite (fun c129 => ?_) (fun c129 => ?_)
    · rw [if_pos c129] at e
      cases e
      exact ⟨_, rfl, rfl, h, (show xin (1) by decide)⟩
    · rw [if_neg c129] at e
      refine xok_eqb (h.pt (o := 0) (c := 15) (k := 32) (t := 107) (n := 107) (by decide) rfl (by decide) (by decide +kernel)) ?_
      obtain ⟨R130, e131, e⟩ := xbnd e
      refine xok_eqb (h.is (o := 0) (c := 15) (by decide) rfl) ?_
      refine xok_call (sg261 hI  h tx2 tx3 e131) ?_
      rintro ⟨v_, M134⟩ ⟨hv_, h132, hi133⟩
      cases hv_
      by_cases c135 : 0 ≤ (xwr ((R130.1) + (x4))) ∧ (xwr ((R130.1) + (x4))) < 33280
      · skip
        rw [if_pos c135] at e
        refine xok_eqb (h132.al (o := 107) (n := 33280) (by decide) rfl  c135.1 c135.2) ?_
        refine xok_eqb (h132.pt (o := 0) (c := 15) (k := 29) (t := 2) (n := 107) (by decide) rfl (by decide) (by decide +kernel)) ?_
        refine xok_eqb (h132.pt (o := 2) (c := 14) (k := 33) (t := 2 + 31) (n := 38) (xoP_o (show xoP 2 by unfold xoP; omega)).1 (xoP_o (show xoP 2 by unfold xoP; omega)).2 (by decide) (xoP_all (show xoP 2 by unfold xoP; omega) (Q := fun p => (p, 33, p + 31) ∈ xl_P) (by decide +kernel) (by decide +kernel) (by decide +kernel))) ?_
        by_cases c136 : 0 ≤ (xwr ((xwr ((x1) * (4))) + (x4))) ∧ (xwr ((xwr ((x1) * (4))) + (x4))) < 800
        · skip
          rw [if_pos c136] at e
          refine xok_eqb (h132.ai (o := 2 + 31) (n := 800) (xoP_all (show xoP 2 by unfold xoP; omega) (Q := fun p => p + 31 < 276) (by decide) (by decide) (by decide)) (xoP_all (show xoP 2 by unfold xoP; omega) (Q := fun p => xl_t (p + 31) = (2, 3, 800)) rfl rfl rfl) (by decide) c136.1 c136.2) ?_
          refine xok_ite (fun c137 => ?_) (fun c137 => ?_)
          · rw [if_pos c137] at e
            exact s272_73 hI  hr3 h132 tx1 tx2 tx3 tx4 (xin_wr _) (h132.aln (o := 107) (n := 33280) (by decide) rfl  c135.1 c135.2) e
          · rw [if_neg c137] at e
            refine xok_eqb (h132.pt (o := 0) (c := 15) (k := 29) (t := 2) (n := 107) (by decide) rfl (by decide) (by decide +kernel)) ?_
            refine xok_eqb (h132.pt (o := 2) (c := 14) (k := 34) (t := 2 + 32) (n := 38) (xoP_o (show xoP 2 by unfold xoP; omega)).1 (xoP_o (show xoP 2 by unfold xoP; omega)).2 (by decide) (xoP_all (show xoP 2 by unfold xoP; omega) (Q := fun p => (p, 34, p + 32) ∈ xl_P) (by decide +kernel) (by decide +kernel) (by decide +kernel))) ?_
            by_cases c138 : 0 ≤ (xwr ((xwr ((x1) * (4))) + (x4))) ∧ (xwr ((xwr ((x1) * (4))) + (x4))) < 800
            · skip
              rw [if_pos c138] at e
              refine xok_eqb (h132.al (o := 2 + 32) (n := 800) (xoP_all (show xoP 2 by unfold xoP; omega) (Q := fun p => p + 32 < 276) (by decide) (by decide) (by decide)) (xoP_all (show xoP 2 by unfold xoP; omega) (Q := fun p => xl_t (p + 32) = (2, 4, 800)) rfl rfl rfl)  c138.1 c138.2) ?_
              refine xok_ite (fun c139 => ?_) (fun c139 => ?_)
              · rw [if_pos c139] at e
                exact s272_73 hI  hr3 h132 tx1 tx2 tx3 tx4 (xin_wr _) (h132.aln (o := 107) (n := 33280) (by decide) rfl  c135.1 c135.2) e
              · rw [if_neg c139] at e
                cases e
                exact ⟨_, rfl, rfl, h132, (show xin (0) by decide)⟩
            · rw [if_neg c138] at e; cases e
        · rw [if_neg c136] at e; cases e
      · rw [if_neg c135] at e; cases e
  · rw [if_neg c128] at e; cases e
theorem s272_3 {m f : Nat} {M0 : xj_M} (hI : xHI f)     : ∀ {n : Nat} {M : xj_M} {G : xG_} {x1 : Int} {x2 : Int} {x3 : Int} {x4 : Int} {R : Int × xG_}, xRX m M0 M G → xin x1 → xin x2 → xin x3 → xin x4 → g272_3   f n x1 x2 x3 x4 G = some R → xok (f272_3   f n m x1 x2 x3 x4 M) (fun r => r.1 = R.1 ∧ xRX m M0 r.2 R.2 ∧ xin R.1) := by
  intro n
  induction n with
  | zero => intros; rename_i e; cases e
  | succ n ih =>
    intros
    rename_i h i0 i1 i2 i3 e
    exact s272_3b hI   ih h i0 i1 i2 i3 e
theorem sg272 {m f : Nat} {M0 M : xj_M} {G : xG_} (hI : xHI f)   (h : xRX m M0 M G) {a1 : Int} {a2 : Int} {a3 : Int} {R : Int × xG_} (ta1 : xin a1) (ta2 : xin a2) (ta3 : xin a3) (e : g272  f a1 a2 a3 G = some R) : xok (f272  f m a1 a2 a3 M) (fun r => r.1 = R.1 ∧ xRX m M0 r.2 R.2 ∧ xin R.1) := by
  unfold g272 at e
  unfold f272
  exact s272_3 hI   h ta1 ta2 ta3 (show xin (0) by decide) e
-- ChangeHouseModel.isAlike
theorem s273_70 {m f : Nat} {M0 M : xj_M} {G : xG_} (hI : xHI f)  {r3 : Int → Int → Int → Int → Int → xG_ → Option (Int × xG_)} {o3 : Nat → Int → Int → Int → Int → Int → xj_M → Option (Int × xj_M)}  (hr3 : ∀ {M : xj_M} {G : xG_} {x1 : Int} {x2 : Int} {x3 : Int} {x4 : Int} {x5 : Int} {R : Int × xG_}, xRX m M0 M G → xin x1 → xin x2 → xin x3 → xin x4 → xin x5 → r3 x1 x2 x3 x4 x5 G = some R → xok (o3 m x1 x2 x3 x4 x5 M) (fun r => r.1 = R.1 ∧ xRX m M0 r.2 R.2 ∧ xin R.1)) (h : xRX m M0 M G) {x1 : Int} {x2 : Int} {x3 : Int} {x4 : Int} {x5 : Int} {R : Int × xG_} (tx1 : xin x1) (tx2 : xin x2) (tx3 : xin x3) (tx4 : xin x4) (tx5 : xin x5) (e : g273_70  r3 f x1 x2 x3 x4 x5 G = some R) : xok (f273_70  o3 f m x1 x2 x3 x4 x5 M) (fun r => r.1 = R.1 ∧ xRX m M0 r.2 R.2 ∧ xin R.1) := by
  unfold g273_70 at e
  unfold f273_70
  exact hr3 h tx1 tx2 tx3 tx4 (xin_wr _) e
theorem s273_3b {m f : Nat} {M0 M : xj_M} {G : xG_} (hI : xHI f)  {r3 : Int → Int → Int → Int → Int → xG_ → Option (Int × xG_)} {o3 : Nat → Int → Int → Int → Int → Int → xj_M → Option (Int × xj_M)}  (hr3 : ∀ {M : xj_M} {G : xG_} {x1 : Int} {x2 : Int} {x3 : Int} {x4 : Int} {x5 : Int} {R : Int × xG_}, xRX m M0 M G → xin x1 → xin x2 → xin x3 → xin x4 → xin x5 → r3 x1 x2 x3 x4 x5 G = some R → xok (o3 m x1 x2 x3 x4 x5 M) (fun r => r.1 = R.1 ∧ xRX m M0 r.2 R.2 ∧ xin R.1)) (h : xRX m M0 M G) {x1 : Int} {x2 : Int} {x3 : Int} {x4 : Int} {x5 : Int} {R : Int × xG_} (tx1 : xin x1) (tx2 : xin x2) (tx3 : xin x3) (tx4 : xin x4) (tx5 : xin x5) (e : g273_3b  r3 f x1 x2 x3 x4 x5 G = some R) : xok (f273_3b  o3 f m x1 x2 x3 x4 x5 M) (fun r => r.1 = R.1 ∧ xRX m M0 r.2 R.2 ∧ xin R.1) := by
  unfold g273_3b at e
  unfold f273_3b
  refine xok_eqb (h.pt (o := 0) (c := 15) (k := 29) (t := 2) (n := 107) (by decide) rfl (by decide) (by decide +kernel)) ?_
  refine xok_eqb (h.pt (o := 2) (c := 14) (k := 29) (t := 2 + 27) (n := 38) (xoP_o (show xoP 2 by unfold xoP; omega)).1 (xoP_o (show xoP 2 by unfold xoP; omega)).2 (by decide) (xoP_all (show xoP 2 by unfold xoP; omega) (Q := fun p => (p, 29, p + 27) ∈ xl_P) (by decide +kernel) (by decide +kernel) (by decide +kernel))) ?_
  by_cases c101 : 0 ≤ (x1) ∧ (x1) < 200
  · skip
    rw [if_pos c101] at e
    refine xok_eqb (h.ai (o := 2 + 27) (n := 200) (xoP_all (show xoP 2 by unfold xoP; omega) (Q := fun p => p + 27 < 276) (by decide) (by decide) (by decide)) (xoP_all (show xoP 2 by unfold xoP; omega) (Q := fun p => xl_t (p + 27) = (2, 3, 200)) rfl rfl rfl) (by decide) c101.1 c101.2) ?_
    refine xok_ite (fun c102 => ?_) (fun c102 => ?_)
    · rw [if_pos c102] at e
      cases e
      exact ⟨_, rfl, rfl, h, (show xin (1) by decide)⟩
    · rw [if_neg c102] at e
      refine xok_eqb (h.pt (o := 0) (c := 15) (k := 29) (t := 2) (n := 107) (by decide) rfl (by decide) (by decide +kernel)) ?_
      refine xok_eqb (h.pt (o := 2) (c := 14) (k := 33) (t := 2 + 31) (n := 38) (xoP_o (show xoP 2 by unfold xoP; omega)).1 (xoP_o (show xoP 2 by unfold xoP; omega)).2 (by decide) (xoP_all (show xoP 2 by unfold xoP; omega) (Q := fun p => (p, 33, p + 31) ∈ xl_P) (by decide +kernel) (by decide +kernel) (by decide +kernel))) ?_
      by_cases c103 : 0 ≤ (xwr ((xwr ((x1) * (4))) + (x5))) ∧ (xwr ((xwr ((x1) * (4))) + (x5))) < 800
      · skip
        rw [if_pos c103] at e
        refine xok_eqb (h.ai (o := 2 + 31) (n := 800) (xoP_all (show xoP 2 by unfold xoP; omega) (Q := fun p => p + 31 < 276) (by decide) (by decide) (by decide)) (xoP_all (show xoP 2 by unfold xoP; omega) (Q := fun p => xl_t (p + 31) = (2, 3, 800)) rfl rfl rfl) (by decide) c103.1 c103.2) ?_
        refine xok_ite (fun c104 => ?_) (fun c104 => ?_)
        · rw [if_pos c104] at e
          exact s273_70 hI  hr3 h tx1 tx2 tx3 tx4 tx5 e
        · rw [if_neg c104] at e
          refine xok_eqb (h.pt (o := 0) (c := 15) (k := 32) (t := 107) (n := 107) (by decide) rfl (by decide) (by decide +kernel)) ?_
          obtain ⟨R105, e106, e⟩ := xbnd e
          refine xok_eqb (h.is (o := 0) (c := 15) (by decide) rfl) ?_
          refine xok_call (sg261 hI  h tx2 tx3 e106) ?_
          rintro ⟨v_, M109⟩ ⟨hv_, h107, hi108⟩
          cases hv_
          by_cases c110 : 0 ≤ (xwr ((R105.1) + (x5))) ∧ (xwr ((R105.1) + (x5))) < 33280
          · skip
            rw [if_pos c110] at e
            refine xok_eqb (h107.al (o := 107) (n := 33280) (by decide) rfl  c110.1 c110.2) ?_
            refine xok_eqb (h107.pt (o := 0) (c := 15) (k := 32) (t := 107) (n := 107) (by decide) rfl (by decide) (by decide +kernel)) ?_
            obtain ⟨R111, e112, e⟩ := xbnd e
            refine xok_eqb (h107.is (o := 0) (c := 15) (by decide) rfl) ?_
            refine xok_call (sg261 hI  h107 tx2 tx4 e112) ?_
            rintro ⟨v_, M115⟩ ⟨hv_, h113, hi114⟩
            cases hv_
            by_cases c116 : 0 ≤ (xwr ((R111.1) + (x5))) ∧ (xwr ((R111.1) + (x5))) < 33280
            · skip
              rw [if_pos c116] at e
              refine xok_eqb (h113.al (o := 107) (n := 33280) (by decide) rfl  c116.1 c116.2) ?_
              refine xok_ite (fun c117 => ?_) (fun c117 => ?_)
              · rw [if_pos c117] at e
                exact s273_70 hI  hr3 h113 tx1 tx2 tx3 tx4 tx5 e
              · rw [if_neg c117] at e
                cases e
                exact ⟨_, rfl, rfl, h113, (show xin (0) by decide)⟩
            · rw [if_neg c116] at e; cases e
          · rw [if_neg c110] at e; cases e
      · rw [if_neg c103] at e; cases e
  · rw [if_neg c101] at e; cases e
theorem s273_3 {m f : Nat} {M0 : xj_M} (hI : xHI f)     : ∀ {n : Nat} {M : xj_M} {G : xG_} {x1 : Int} {x2 : Int} {x3 : Int} {x4 : Int} {x5 : Int} {R : Int × xG_}, xRX m M0 M G → xin x1 → xin x2 → xin x3 → xin x4 → xin x5 → g273_3   f n x1 x2 x3 x4 x5 G = some R → xok (f273_3   f n m x1 x2 x3 x4 x5 M) (fun r => r.1 = R.1 ∧ xRX m M0 r.2 R.2 ∧ xin R.1) := by
  intro n
  induction n with
  | zero => intros; rename_i e; cases e
  | succ n ih =>
    intros
    rename_i h i0 i1 i2 i3 i4 e
    exact s273_3b hI   ih h i0 i1 i2 i3 i4 e
theorem sg273 {m f : Nat} {M0 M : xj_M} {G : xG_} (hI : xHI f)   (h : xRX m M0 M G) {a1 : Int} {a2 : Int} {a3 : Int} {a4 : Int} {R : Int × xG_} (ta1 : xin a1) (ta2 : xin a2) (ta3 : xin a3) (ta4 : xin a4) (e : g273  f a1 a2 a3 a4 G = some R) : xok (f273  f m a1 a2 a3 a4 M) (fun r => r.1 = R.1 ∧ xRX m M0 r.2 R.2 ∧ xin R.1) := by
  unfold g273 at e
  unfold f273
  exact s273_3 hI   h ta1 ta2 ta3 ta4 (show xin (0) by decide) e
-- ChangeHouseModel.hasFirst
theorem s274_33 {m f : Nat} {M0 M : xj_M} {G : xG_} (hI : xHI f)  {r3 : Int → Int → Int → Int → xG_ → Option (Int × xG_)} {o3 : Nat → Int → Int → Int → Int → xj_M → Option (Int × xj_M)}  (hr3 : ∀ {M : xj_M} {G : xG_} {x1 : Int} {x2 : Int} {x3 : Int} {x4 : Int} {R : Int × xG_}, xRX m M0 M G → xin x1 → xin x2 → xin x3 → xin x4 → r3 x1 x2 x3 x4 G = some R → xok (o3 m x1 x2 x3 x4 M) (fun r => r.1 = R.1 ∧ xRX m M0 r.2 R.2 ∧ xin R.1)) (h : xRX m M0 M G) {x1 : Int} {x2 : Int} {x3 : Int} {x4 : Int} {R : Int × xG_} (tx1 : xin x1) (tx2 : xin x2) (tx3 : xin x3) (tx4 : xin x4) (e : g274_33  r3 f x1 x2 x3 x4 G = some R) : xok (f274_33  o3 f m x1 x2 x3 x4 M) (fun r => r.1 = R.1 ∧ xRX m M0 r.2 R.2 ∧ xin R.1) := by
  unfold g274_33 at e
  unfold f274_33
  exact hr3 h tx1 tx2 tx3 (xin_wr _) e
theorem s274_3b {m f : Nat} {M0 M : xj_M} {G : xG_} (hI : xHI f)  {r3 : Int → Int → Int → Int → xG_ → Option (Int × xG_)} {o3 : Nat → Int → Int → Int → Int → xj_M → Option (Int × xj_M)}  (hr3 : ∀ {M : xj_M} {G : xG_} {x1 : Int} {x2 : Int} {x3 : Int} {x4 : Int} {R : Int × xG_}, xRX m M0 M G → xin x1 → xin x2 → xin x3 → xin x4 → r3 x1 x2 x3 x4 G = some R → xok (o3 m x1 x2 x3 x4 M) (fun r => r.1 = R.1 ∧ xRX m M0 r.2 R.2 ∧ xin R.1)) (h : xRX m M0 M G) {x1 : Int} {x2 : Int} {x3 : Int} {x4 : Int} {R : Int × xG_} (tx1 : xin x1) (tx2 : xin x2) (tx3 : xin x3) (tx4 : xin x4) (e : g274_3b  r3 f x1 x2 x3 x4 G = some R) : xok (f274_3b  o3 f m x1 x2 x3 x4 M) (fun r => r.1 = R.1 ∧ xRX m M0 r.2 R.2 ∧ xin R.1) := by
  unfold g274_3b at e
  unfold f274_3b
  refine xok_ite (fun c101 => ?_) (fun c101 => ?_)
  · rw [if_pos c101] at e
    cases e
    exact ⟨_, rfl, rfl, h, (show xin (0) by decide)⟩
  · rw [if_neg c101] at e
    obtain ⟨R102, e103, e⟩ := xbnd e
    refine xok_eqb (h.is (o := 0) (c := 15) (by decide) rfl) ?_
    refine xok_call (sg271 hI  h tx2 tx4 e103) ?_
    rintro ⟨v_, M106⟩ ⟨hv_, h104, hi105⟩
    cases hv_
    refine xok_ite (fun c107 => ?_) (fun c107 => ?_)
    · rw [if_pos c107] at e
      exact s274_33 hI  hr3 h104 tx1 tx2 tx3 tx4 e
    · rw [if_neg c107] at e
      obtain ⟨R108, e109, e⟩ := xbnd e
      refine xok_eqb (h104.is (o := 0) (c := 15) (by decide) rfl) ?_
      refine xok_call (sg273 hI  h104 tx1 tx2 tx3 tx4 e109) ?_
      rintro ⟨v_, M112⟩ ⟨hv_, h110, hi111⟩
      cases hv_
      refine xok_ite (fun c113 => ?_) (fun c113 => ?_)
      · rw [if_pos c113] at e
        exact s274_33 hI  hr3 h110 tx1 tx2 tx3 tx4 e
      · rw [if_neg c113] at e
        cases e
        exact ⟨_, rfl, rfl, h110, (show xin (1) by decide)⟩
theorem s274_3 {m f : Nat} {M0 : xj_M} (hI : xHI f)     : ∀ {n : Nat} {M : xj_M} {G : xG_} {x1 : Int} {x2 : Int} {x3 : Int} {x4 : Int} {R : Int × xG_}, xRX m M0 M G → xin x1 → xin x2 → xin x3 → xin x4 → g274_3   f n x1 x2 x3 x4 G = some R → xok (f274_3   f n m x1 x2 x3 x4 M) (fun r => r.1 = R.1 ∧ xRX m M0 r.2 R.2 ∧ xin R.1) := by
  intro n
  induction n with
  | zero => intros; rename_i e; cases e
  | succ n ih =>
    intros
    rename_i h i0 i1 i2 i3 e
    exact s274_3b hI   ih h i0 i1 i2 i3 e
theorem sg274 {m f : Nat} {M0 M : xj_M} {G : xG_} (hI : xHI f)   (h : xRX m M0 M G) {a1 : Int} {a2 : Int} {a3 : Int} {R : Int × xG_} (ta1 : xin a1) (ta2 : xin a2) (ta3 : xin a3) (e : g274  f a1 a2 a3 G = some R) : xok (f274  f m a1 a2 a3 M) (fun r => r.1 = R.1 ∧ xRX m M0 r.2 R.2 ∧ xin R.1) := by
  unfold g274 at e
  unfold f274
  exact s274_3 hI   h ta1 ta2 ta3 (show xin (0) by decide) e
-- ChangeHouseModel.isSome
theorem s280_2b {m f : Nat} {M0 M : xj_M} {G : xG_} (hI : xHI f)  {r2 : Int → Int → xG_ → Option (Int × xG_)} {o2 : Nat → Int → Int → xj_M → Option (Int × xj_M)}  (hr2 : ∀ {M : xj_M} {G : xG_} {x1 : Int} {x2 : Int} {R : Int × xG_}, xRX m M0 M G → xin x1 → xin x2 → r2 x1 x2 G = some R → xok (o2 m x1 x2 M) (fun r => r.1 = R.1 ∧ xRX m M0 r.2 R.2 ∧ xin R.1)) (h : xRX m M0 M G) {x1 : Int} {x2 : Int} {R : Int × xG_} (tx1 : xin x1) (tx2 : xin x2) (e : g280_2b  r2 f x1 x2 G = some R) : xok (f280_2b  o2 f m x1 x2 M) (fun r => r.1 = R.1 ∧ xRX m M0 r.2 R.2 ∧ xin R.1) := by
  unfold g280_2b at e
  unfold f280_2b
  refine xok_eqb (h.pt (o := 0) (c := 15) (k := 33) (t := 108) (n := 107) (by decide) rfl (by decide) (by decide +kernel)) ?_
  refine xok_eqb (h.pt (o := 0) (c := 15) (k := 29) (t := 2) (n := 107) (by decide) rfl (by decide) (by decide +kernel)) ?_
  refine xok_eqb (h.pt (o := 2) (c := 14) (k := 28) (t := 2 + 26) (n := 38) (xoP_o (show xoP 2 by unfold xoP; omega)).1 (xoP_o (show xoP 2 by unfold xoP; omega)).2 (by decide) (xoP_all (show xoP 2 by unfold xoP; omega) (Q := fun p => (p, 28, p + 26) ∈ xl_P) (by decide +kernel) (by decide +kernel) (by decide +kernel))) ?_
  by_cases c101 : 0 ≤ (x1) ∧ (x1) < 200
  · skip
    rw [if_pos c101] at e
    refine xok_eqb (h.ai (o := 2 + 26) (n := 200) (xoP_all (show xoP 2 by unfold xoP; omega) (Q := fun p => p + 26 < 276) (by decide) (by decide) (by decide)) (xoP_all (show xoP 2 by unfold xoP; omega) (Q := fun p => xl_t (p + 26) = (2, 3, 200)) rfl rfl rfl) (by decide) c101.1 c101.2) ?_
    by_cases c102 : 0 ≤ (G (2 + 26) (x1).toNat) ∧ (G (2 + 26) (x1).toNat) < 16
    · skip
      rw [if_pos c102] at e
      refine xok_eqb (h.ai (o := 108) (n := 16) (by decide) rfl (by decide) c102.1 c102.2) ?_
      refine xok_ite (fun c103 => ?_) (fun c103 => ?_)
      · rw [if_pos c103] at e
        cases e
        exact ⟨_, rfl, rfl, h, (show xin (0) by decide)⟩
      · rw [if_neg c103] at e
        refine xok_eqb (h.pt (o := 0) (c := 15) (k := 29) (t := 2) (n := 107) (by decide) rfl (by decide) (by decide +kernel)) ?_
        refine xok_eqb (h.pt (o := 2) (c := 14) (k := 28) (t := 2 + 26) (n := 38) (xoP_o (show xoP 2 by unfold xoP; omega)).1 (xoP_o (show xoP 2 by unfold xoP; omega)).2 (by decide) (xoP_all (show xoP 2 by unfold xoP; omega) (Q := fun p => (p, 28, p + 26) ∈ xl_P) (by decide +kernel) (by decide +kernel) (by decide +kernel))) ?_
        by_cases c104 : 0 ≤ (x1) ∧ (x1) < 200
        · skip
          rw [if_pos c104] at e
          refine xok_eqb (h.ai (o := 2 + 26) (n := 200) (xoP_all (show xoP 2 by unfold xoP; omega) (Q := fun p => p + 26 < 276) (by decide) (by decide) (by decide)) (xoP_all (show xoP 2 by unfold xoP; omega) (Q := fun p => xl_t (p + 26) = (2, 3, 200)) rfl rfl rfl) (by decide) c104.1 c104.2) ?_
          obtain ⟨R105, e106, e⟩ := xbnd e
          refine xok_eqb (h.is (o := 0) (c := 15) (by decide) rfl) ?_
          refine xok_call (sg272 hI  h tx1 (h.ain (o := 2 + 26) (n := 200) (xoP_all (show xoP 2 by unfold xoP; omega) (Q := fun p => p + 26 < 276) (by decide) (by decide) (by decide)) (xoP_all (show xoP 2 by unfold xoP; omega) (Q := fun p => xl_t (p + 26) = (2, 3, 200)) rfl rfl rfl) (by decide) c104.1 c104.2) tx2 e106) ?_
          rintro ⟨v_, M109⟩ ⟨hv_, h107, hi108⟩
          cases hv_
          refine xok_ite (fun c110 => ?_) (fun c110 => ?_)
          · rw [if_pos c110] at e
            exact hr2 h107 tx1 (xin_wr _) e
          · rw [if_neg c110] at e
            cases e
            exact ⟨_, rfl, rfl, h107, (show xin (1) by decide)⟩
        · rw [if_neg c104] at e; cases e
    · rw [if_neg c102] at e; cases e
  · rw [if_neg c101] at e; cases e
theorem s280_2 {m f : Nat} {M0 : xj_M} (hI : xHI f)     : ∀ {n : Nat} {M : xj_M} {G : xG_} {x1 : Int} {x2 : Int} {R : Int × xG_}, xRX m M0 M G → xin x1 → xin x2 → g280_2   f n x1 x2 G = some R → xok (f280_2   f n m x1 x2 M) (fun r => r.1 = R.1 ∧ xRX m M0 r.2 R.2 ∧ xin R.1) := by
  intro n
  induction n with
  | zero => intros; rename_i e; cases e
  | succ n ih =>
    intros
    rename_i h i0 i1 e
    exact s280_2b hI   ih h i0 i1 e
theorem sg280 {m f : Nat} {M0 M : xj_M} {G : xG_} (hI : xHI f)   (h : xRX m M0 M G) {a1 : Int} {R : Int × xG_} (ta1 : xin a1) (e : g280  f a1 G = some R) : xok (f280  f m a1 M) (fun r => r.1 = R.1 ∧ xRX m M0 r.2 R.2 ∧ xin R.1) := by
  unfold g280 at e
  unfold f280
  exact s280_2 hI   h ta1 (show xin (0) by decide) e
-- ChangeHouseModel.newRow
theorem s284_63 {m f : Nat} {M0 M : xj_M} {G : xG_} (hI : xHI f)  {r17 : Int → Int → xG_ → Option (xG_)} {o17 : Nat → Int → Int → xj_M → Option (xj_M)}  (hr17 : ∀ {M : xj_M} {G : xG_} {x1 : Int} {x2 : Int} {R : xG_}, xRX m M0 M G → xin x1 → xin x2 → r17 x1 x2 G = some R → xok (o17 m x1 x2 M) (fun r => xRX m M0 r R)) (h : xRX m M0 M G) {x1 : Int} {x2 : Int} {R : xG_} (tx1 : xin x1) (tx2 : xin x2) (e : g284_63  r17 f x1 x2 G = some R) : xok (f284_63  o17 f m x1 x2 M) (fun r => xRX m M0 r R) := by
  unfold g284_63 at e
  unfold f284_63
  exact hr17 h tx1 (xin_wr _) e
theorem s284_115b {m f : Nat} {M0 M : xj_M} {G : xG_} (hI : xHI f)  {r115 : Int → xG_ → Option (xG_)} {o115 : Nat → Int → xj_M → Option (xj_M)}  (hr115 : ∀ {M : xj_M} {G : xG_} {x2 : Int} {R : xG_}, xRX m M0 M G → xin x2 → r115 x2 G = some R → xok (o115 m x2 M) (fun r => xRX m M0 r R)) (h : xRX m M0 M G) {x2 : Int} {R : xG_} (tx2 : xin x2) (e : g284_115b  r115 f x2 G = some R) : xok (f284_115b  o115 f m x2 M) (fun r => xRX m M0 r R) := by
  unfold g284_115b at e
  unfold f284_115b
  refine xok_ite (fun c101 => ?_) (fun c101 => ?_)
  · rw [if_pos c101] at e
    refine xok_eqb (h.gi (o := 0) (c := 15) (k := 47) (n := 107) (by decide) rfl (by decide) (by decide)) ?_
    obtain ⟨M102, q103, h104⟩ := h.pi (v := xwr ((G (0) 47) + (1))) (o := 0) (c := 15) (k := 47) (n := 107) (by decide) rfl (by decide) (by decide) (xin_wr _)
    refine xok_eqb q103 ?_
    obtain ⟨G105, g1, e⟩ := xbnd e
    cases g1
    have h104_ : xRX m M0 M102 (xup2 G (0) 47 (xwr ((G (0) 47) + (1)))) := h104
    generalize hGG105 : (xup2 G (0) 47 (xwr ((G (0) 47) + (1)))) = G105 at e h104
    clear h104_ hGG105
    cases e
    exact ⟨_, rfl, h104⟩
  · rw [if_neg c101] at e
    refine xok_eqb (h.pt (o := 0) (c := 15) (k := 46) (t := 114) (n := 107) (by decide) rfl (by decide) (by decide +kernel)) ?_
    refine xok_eqb (h.gi (o := 0) (c := 15) (k := 47) (n := 107) (by decide) rfl (by decide) (by decide)) ?_
    refine xok_eqb (h.pt (o := 0) (c := 15) (k := 44) (t := 112) (n := 107) (by decide) rfl (by decide) (by decide +kernel)) ?_
    by_cases c106 : 0 ≤ (x2) ∧ (x2) < 4
    · skip
      rw [if_pos c106] at e
      refine xok_eqb (h.al (o := 112) (n := 4) (by decide) rfl  c106.1 c106.2) ?_
      by_cases c107 : 0 ≤ (xwr ((xwr ((4) * (G (0) 47))) + (x2))) ∧ (xwr ((xwr ((4) * (G (0) 47))) + (x2))) < 13600
      · skip
        rw [if_pos c107] at e
        obtain ⟨M108, q109, h110⟩ := h.sl (o := 114) (n := 13600) (v := G (112) (x2).toNat) (by decide) rfl c107.1 c107.2 (h.aln (o := 112) (n := 4) (by decide) rfl  c106.1 c106.2)
        refine xok_eqb q109 ?_
        obtain ⟨G111, g1, e⟩ := xbnd e
        cases g1
        have h110_ : xRX m M0 M108 (xup2 G (114) (xwr ((xwr ((4) * (G (0) 47))) + (x2))).toNat (G (112) (x2).toNat)) := h110
        generalize hGG111 : (xup2 G (114) (xwr ((xwr ((4) * (G (0) 47))) + (x2))).toNat (G (112) (x2).toNat)) = G111 at e h110
        clear h110_ hGG111
        exact hr115 h110 (xin_wr _) e
      · rw [if_neg c107] at e; cases e
    · rw [if_neg c106] at e; cases e
theorem s284_115 {m f : Nat} {M0 : xj_M} (hI : xHI f)     : ∀ {n : Nat} {M : xj_M} {G : xG_} {x2 : Int} {R : xG_}, xRX m M0 M G → xin x2 → g284_115   f n x2 G = some R → xok (f284_115   f n m x2 M) (fun r => xRX m M0 r R) := by
  intro n
  induction n with
  | zero => intros; rename_i e; cases e
  | succ n ih =>
    intros
    rename_i h i0 e
    exact s284_115b hI   ih h i0 e
theorem s284_17b {m f : Nat} {M0 M : xj_M} {G : xG_} (hI : xHI f)  {r17 : Int → Int → xG_ → Option (xG_)} {o17 : Nat → Int → Int → xj_M → Option (xj_M)}  (hr17 : ∀ {M : xj_M} {G : xG_} {x1 : Int} {x2 : Int} {R : xG_}, xRX m M0 M G → xin x1 → xin x2 → r17 x1 x2 G = some R → xok (o17 m x1 x2 M) (fun r => xRX m M0 r R)) (h : xRX m M0 M G) {x1 : Int} {x2 : Int} {R : xG_} (tx1 : xin x1) (tx2 : xin x2) (e : g284_17b  r17 f x1 x2 G = some R) : xok (f284_17b  o17 f m x1 x2 M) (fun r => xRX m M0 r R) := by
  unfold g284_17b at e
  unfold f284_17b
  refine xok_eqb (h.gi (o := 0) (c := 15) (k := 47) (n := 107) (by decide) rfl (by decide) (by decide)) ?_
  refine xok_ite (fun c112 => ?_) (fun c112 => ?_)
  · rw [if_pos c112] at e
    refine xok_eqb (h.pt (o := 0) (c := 15) (k := 48) (t := 115) (n := 107) (by decide) rfl (by decide) (by decide +kernel)) ?_
    by_cases c113 : 0 ≤ (x1) ∧ (x1) < 16
    · skip
      rw [if_pos c113] at e
      refine xok_eqb (h.ai (o := 115) (n := 16) (by decide) rfl (by decide) c113.1 c113.2) ?_
      by_cases c114 : 0 ≤ (x1) ∧ (x1) < 16
      · skip
        rw [if_pos c114] at e
        obtain ⟨M115, q116, h117⟩ := h.si (o := 115) (n := 16) (v := xwr ((G (115) (x1).toNat) + (1))) (by decide) rfl c114.1 c114.2 (xin_wr _)
        refine xok_eqb q116 ?_
        obtain ⟨G118, g1, e⟩ := xbnd e
        cases g1
        have h117_ : xRX m M0 M115 (xup2 G (115) (x1).toNat (xwr ((G (115) (x1).toNat) + (1)))) := h117
        generalize hGG118 : (xup2 G (115) (x1).toNat (xwr ((G (115) (x1).toNat) + (1)))) = G118 at e h117
        clear h117_ hGG118
        refine xok_eqb (h117.pt (o := 0) (c := 15) (k := 33) (t := 108) (n := 107) (by decide) rfl (by decide) (by decide +kernel)) ?_
        by_cases c119 : 0 ≤ (x1) ∧ (x1) < 16
        · skip
          rw [if_pos c119] at e
          refine xok_eqb (h117.ai (o := 108) (n := 16) (by decide) rfl (by decide) c119.1 c119.2) ?_
          refine xok_eqb (h117.pt (o := 0) (c := 15) (k := 48) (t := 115) (n := 107) (by decide) rfl (by decide) (by decide +kernel)) ?_
          by_cases c120 : 0 ≤ (x1) ∧ (x1) < 16
          · skip
            rw [if_pos c120] at e
            refine xok_eqb (h117.ai (o := 115) (n := 16) (by decide) rfl (by decide) c120.1 c120.2) ?_
            refine xok_ite (fun c121 => ?_) (fun c121 => ?_)
            · rw [if_pos c121] at e
              refine xok_eqb (h117.pt (o := 0) (c := 15) (k := 45) (t := 113) (n := 107) (by decide) rfl (by decide) (by decide +kernel)) ?_
              refine xok_eqb (h117.gi (o := 0) (c := 15) (k := 47) (n := 107) (by decide) rfl (by decide) (by decide)) ?_
              by_cases c122 : 0 ≤ (G118 (0) 47) ∧ (G118 (0) 47) < 3400
              · skip
                rw [if_pos c122] at e
                obtain ⟨M123, q124, h125⟩ := h117.si (o := 113) (n := 3400) (v := x1) (by decide) rfl c122.1 c122.2 tx1
                refine xok_eqb q124 ?_
                obtain ⟨G126, g1, e⟩ := xbnd e
                cases g1
                have h125_ : xRX m M0 M123 (xup2 G118 (113) (G118 (0) 47).toNat (x1)) := h125
                generalize hGG126 : (xup2 G118 (113) (G118 (0) 47).toNat (x1)) = G126 at e h125
                clear h125_ hGG126
                exact s284_115 hI   h125 (show xin (0) by decide) e
              · rw [if_neg c122] at e; cases e
            · rw [if_neg c121] at e
              obtain ⟨M127, q128, h129⟩ := h117.pb (v := 1) (o := 0) (c := 15) (k := 43) (n := 107) (by decide) rfl (by decide) (by decide) (by decide)
              refine xok_eqb q128 ?_
              obtain ⟨G130, g1, e⟩ := xbnd e
              cases g1
              have h129_ : xRX m M0 M127 (xup2 G118 (0) 43 (1)) := h129
              generalize hGG130 : (xup2 G118 (0) 43 (1)) = G130 at e h129
              clear h129_ hGG130
              cases e
              exact ⟨_, rfl, h129⟩
          · rw [if_neg c120] at e; cases e
        · rw [if_neg c119] at e; cases e
      · rw [if_neg c114] at e; cases e
    · rw [if_neg c113] at e; cases e
  · rw [if_neg c112] at e
    refine xok_eqb (h.pt (o := 0) (c := 15) (k := 45) (t := 113) (n := 107) (by decide) rfl (by decide) (by decide +kernel)) ?_
    by_cases c131 : 0 ≤ (x2) ∧ (x2) < 3400
    · skip
      rw [if_pos c131] at e
      refine xok_eqb (h.ai (o := 113) (n := 3400) (by decide) rfl (by decide) c131.1 c131.2) ?_
      refine xok_ite (fun c132 => ?_) (fun c132 => ?_)
      · rw [if_pos c132] at e
        exact s284_63 hI  hr17 h tx1 tx2 e
      · rw [if_neg c132] at e
        refine xok_eqb (h.pt (o := 0) (c := 15) (k := 46) (t := 114) (n := 107) (by decide) rfl (by decide) (by decide +kernel)) ?_
        refine xok_eqb (h.pt (o := 0) (c := 15) (k := 44) (t := 112) (n := 107) (by decide) rfl (by decide) (by decide +kernel)) ?_
        refine xok_eqb (h.pt (o := 0) (c := 15) (k := 29) (t := 2) (n := 107) (by decide) rfl (by decide) (by decide +kernel)) ?_
        refine xok_eqb (h.pt (o := 2) (c := 14) (k := 1) (t := 2 + 2) (n := 38) (xoP_o (show xoP 2 by unfold xoP; omega)).1 (xoP_o (show xoP 2 by unfold xoP; omega)).2 (by decide) (xoP_all (show xoP 2 by unfold xoP; omega) (Q := fun p => (p, 1, p + 2) ∈ xl_P) (by decide +kernel) (by decide +kernel) (by decide +kernel))) ?_
        by_cases c133 : 0 ≤ (x1) ∧ (x1) < 16
        · skip
          rw [if_pos c133] at e
          refine xok_eqb (h.ai (o := 2 + 2) (n := 16) (xoP_all (show xoP 2 by unfold xoP; omega) (Q := fun p => p + 2 < 276) (by decide) (by decide) (by decide)) (xoP_all (show xoP 2 by unfold xoP; omega) (Q := fun p => xl_t (p + 2) = (2, 3, 16)) rfl rfl rfl) (by decide) c133.1 c133.2) ?_
          obtain ⟨R134, e135, e⟩ := xbnd e
          refine xok_call (sg262 hI  h (show xoJ 114 from ⟨by decide, rfl⟩) (xin_wr _) (show xoJ 112 from ⟨by decide, rfl⟩) (show xin (0) by decide) (h.ain (o := 2 + 2) (n := 16) (xoP_all (show xoP 2 by unfold xoP; omega) (Q := fun p => p + 2 < 276) (by decide) (by decide) (by decide)) (xoP_all (show xoP 2 by unfold xoP; omega) (Q := fun p => xl_t (p + 2) = (2, 3, 16)) rfl rfl rfl) (by decide) c133.1 c133.2) e135) ?_
          rintro ⟨v_, M138⟩ ⟨hv_, h136, hi137⟩
          cases hv_
          refine xok_ite (fun c139 => ?_) (fun c139 => ?_)
          · rw [if_pos c139] at e
            exact s284_63 hI  hr17 h136 tx1 tx2 e
          · rw [if_neg c139] at e
            cases e
            exact ⟨_, rfl, h136⟩
        · rw [if_neg c133] at e; cases e
    · rw [if_neg c131] at e; cases e
theorem s284_17 {m f : Nat} {M0 : xj_M} (hI : xHI f)     : ∀ {n : Nat} {M : xj_M} {G : xG_} {x1 : Int} {x2 : Int} {R : xG_}, xRX m M0 M G → xin x1 → xin x2 → g284_17   f n x1 x2 G = some R → xok (f284_17   f n m x1 x2 M) (fun r => xRX m M0 r R) := by
  intro n
  induction n with
  | zero => intros; rename_i e; cases e
  | succ n ih =>
    intros
    rename_i h i0 i1 e
    exact s284_17b hI   ih h i0 i1 e
theorem sg284 {m f : Nat} {M0 M : xj_M} {G : xG_} (hI : xHI f)   (h : xRX m M0 M G) {a1 : Int} {R : xG_} (ta1 : xin a1) (e : g284  f a1 G = some R) : xok (f284  f m a1 M) (fun r => xRX m M0 r R) := by
  unfold g284 at e
  unfold f284
  refine xok_eqb (h.pt (o := 0) (c := 15) (k := 44) (t := 112) (n := 107) (by decide) rfl (by decide) (by decide +kernel)) ?_
  obtain ⟨R140, e141, e⟩ := xbnd e
  refine xok_eqb (h.is (o := 0) (c := 15) (by decide) rfl) ?_
  refine xok_call (sg263 hI  h ta1 (show xoJ 112 from ⟨by decide, rfl⟩) (show xin (0) by decide) e141) ?_
  rintro ⟨v_, M144⟩ ⟨hv_, h142, hi143⟩
  cases hv_
  refine xok_ite (fun c145 => ?_) (fun c145 => ?_)
  · rw [if_pos c145] at e
    exact s284_17 hI   h142 ta1 (show xin (0) by decide) e
  · rw [if_neg c145] at e
    cases e
    exact ⟨_, rfl, h142⟩
