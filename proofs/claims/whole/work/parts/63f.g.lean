/-! The reference over what stands at its cells (written by mk_g.py) -/
-- ChangeHouseModel.goBack
theorem s311_97 {m f : Nat} {M0 M : xj_M} {G : xG_} (hI : xHI f)  {r16 : Nat → Int → Nat → Int → xG_ → Option (Int × xG_)} {o16 : Nat → Int → Nat → Int → xj_M → Option (Int × xj_M)}  (hr16 : ∀ {M : xj_M} {G : xG_} {x1 : Nat} {x2 : Int} {x3 : Nat} {x4 : Int} {R : Int × xG_}, xRX m M0 M G → xoL x1 → xin x2 → xoF x3 → xin x4 → r16 x1 x2 x3 x4 G = some R → xok (o16 (m + x1) x2 (m + x3) x4 M) (fun r => r.1 = R.1 ∧ xRX m M0 r.2 R.2 ∧ xin R.1)) (h : xRX m M0 M G) {x1 : Nat} {x2 : Int} {x3 : Nat} {x4 : Int} {R : Int × xG_} (tx1 : xoL x1) (tx2 : xin x2) (tx3 : xoF x3) (tx4 : xin x4) (e : g311_97  r16 f x1 x2 x3 x4 G = some R) : xok (f311_97  o16 f (m + x1) x2 (m + x3) x4 M) (fun r => r.1 = R.1 ∧ xRX m M0 r.2 R.2 ∧ xin R.1) := by
  unfold g311_97 at e
  unfold f311_97
  exact hr16 h tx1 tx2 tx3 (xin_wr _) e
theorem s311_148 {m f : Nat} {M0 M : xj_M} {G : xG_} (hI : xHI f)     (h : xRX m M0 M G) {x4 : Int} {R : Int × xG_} (tx4 : xin x4) (e : g311_148   f x4 G = some R) : xok (f311_148   f x4 M) (fun r => r.1 = R.1 ∧ xRX m M0 r.2 R.2 ∧ xin R.1) := by
  unfold g311_148 at e
  unfold f311_148
  cases e
  exact ⟨_, rfl, rfl, h, tx4⟩
theorem s311_117b {m f : Nat} {M0 M : xj_M} {G : xG_} (hI : xHI f)  {r117 : Nat → Int → Int → Int → xG_ → Option (Int × xG_)} {o117 : Nat → Int → Int → Int → xj_M → Option (Int × xj_M)}  (hr117 : ∀ {M : xj_M} {G : xG_} {x1 : Nat} {x2 : Int} {x4 : Int} {x5 : Int} {R : Int × xG_}, xRX m M0 M G → xoL x1 → xin x2 → xin x4 → xin x5 → r117 x1 x2 x4 x5 G = some R → xok (o117 (m + x1) x2 x4 x5 M) (fun r => r.1 = R.1 ∧ xRX m M0 r.2 R.2 ∧ xin R.1)) (h : xRX m M0 M G) {x1 : Nat} {x2 : Int} {x4 : Int} {x5 : Int} {R : Int × xG_} (tx1 : xoL x1) (tx2 : xin x2) (tx4 : xin x4) (tx5 : xin x5) (e : g311_117b  r117 f x1 x2 x4 x5 G = some R) : xok (f311_117b  o117 f (m + x1) x2 x4 x5 M) (fun r => r.1 = R.1 ∧ xRX m M0 r.2 R.2 ∧ xin R.1) := by
  unfold g311_117b at e
  unfold f311_117b
  refine xok_ite (fun c101 => ?_) (fun c101 => ?_)
  · rw [if_pos c101] at e
    exact s311_148 hI   h tx4 e
  · rw [if_neg c101] at e
    refine xok_eqb (h.pt (o := x1) (c := 13) (k := 14) (t := x1 + 13) (n := 37) (xoL_o tx1).1 (xoL_o tx1).2 (by decide) (xoL_all tx1 (Q := fun p => (p, 14, p + 13) ∈ xl_P) (by decide +kernel) (by decide +kernel) (by decide +kernel) (by decide +kernel))) ?_
    by_cases c102 : 0 ≤ (x5) ∧ (x5) < 20
    · skip
      rw [if_pos c102] at e
      refine xok_eqb (h.ai (o := x1 + 13) (n := 20) (xoL_all tx1 (Q := fun p => p + 13 < 276) (by decide) (by decide) (by decide) (by decide)) (xoL_all tx1 (Q := fun p => xl_t (p + 13) = (2, 3, 20)) rfl rfl rfl rfl) (by decide) c102.1 c102.2) ?_
      refine xok_ite (fun c103 => ?_) (fun c103 => ?_)
      · rw [if_pos c103] at e
        exact s311_148 hI   h tx4 e
      · rw [if_neg c103] at e
        refine xok_eqb (h.pt (o := x1) (c := 13) (k := 15) (t := x1 + 14) (n := 37) (xoL_o tx1).1 (xoL_o tx1).2 (by decide) (xoL_all tx1 (Q := fun p => (p, 15, p + 14) ∈ xl_P) (by decide +kernel) (by decide +kernel) (by decide +kernel) (by decide +kernel))) ?_
        by_cases c104 : 0 ≤ (x5) ∧ (x5) < 20
        · skip
          rw [if_pos c104] at e
          refine xok_eqb (h.ai (o := x1 + 14) (n := 20) (xoL_all tx1 (Q := fun p => p + 14 < 276) (by decide) (by decide) (by decide) (by decide)) (xoL_all tx1 (Q := fun p => xl_t (p + 14) = (2, 3, 20)) rfl rfl rfl rfl) (by decide) c104.1 c104.2) ?_
          exact hr117 h tx1 tx2 (h.ain (o := x1 + 14) (n := 20) (xoL_all tx1 (Q := fun p => p + 14 < 276) (by decide) (by decide) (by decide) (by decide)) (xoL_all tx1 (Q := fun p => xl_t (p + 14) = (2, 3, 20)) rfl rfl rfl rfl) (by decide) c104.1 c104.2) (xin_wr _) e
        · rw [if_neg c104] at e; cases e
    · rw [if_neg c102] at e; cases e
theorem s311_117 {m f : Nat} {M0 : xj_M} (hI : xHI f)     : ∀ {n : Nat} {M : xj_M} {G : xG_} {x1 : Nat} {x2 : Int} {x4 : Int} {x5 : Int} {R : Int × xG_}, xRX m M0 M G → xoL x1 → xin x2 → xin x4 → xin x5 → g311_117   f n x1 x2 x4 x5 G = some R → xok (f311_117   f n (m + x1) x2 x4 x5 M) (fun r => r.1 = R.1 ∧ xRX m M0 r.2 R.2 ∧ xin R.1) := by
  intro n
  induction n with
  | zero => intros; rename_i e; cases e
  | succ n ih =>
    intros
    rename_i h i0 i1 i2 i3 e
    exact s311_117b hI   ih h i0 i1 i2 i3 e
theorem s311_103 {m f : Nat} {M0 M : xj_M} {G : xG_} (hI : xHI f)     (h : xRX m M0 M G) {x1 : Nat} {x2 : Int} {R : Int × xG_} (tx1 : xoL x1) (tx2 : xin x2) (e : g311_103   f x1 x2 G = some R) : xok (f311_103   f (m + x1) x2 M) (fun r => r.1 = R.1 ∧ xRX m M0 r.2 R.2 ∧ xin R.1) := by
  unfold g311_103 at e
  unfold f311_103
  refine xok_eqb (h.gi (o := x1) (c := 13) (k := 1) (n := 37) (xoL_o tx1).1 (xoL_o tx1).2 (by decide) (by decide)) ?_
  refine xok_eqb (h.gi (o := x1) (c := 13) (k := 17) (n := 37) (xoL_o tx1).1 (xoL_o tx1).2 (by decide) (by decide)) ?_
  exact s311_117 hI   h tx1 tx2 (h.gin (o := x1) (c := 13) (k := 1) (n := 37) (xoL_o tx1).1 (xoL_o tx1).2 (by decide) (by decide)) (xin_wr _) e
theorem s311_16b {m f : Nat} {M0 M : xj_M} {G : xG_} (hI : xHI f)  {r16 : Nat → Int → Nat → Int → xG_ → Option (Int × xG_)} {o16 : Nat → Int → Nat → Int → xj_M → Option (Int × xj_M)}  (hr16 : ∀ {M : xj_M} {G : xG_} {x1 : Nat} {x2 : Int} {x3 : Nat} {x4 : Int} {R : Int × xG_}, xRX m M0 M G → xoL x1 → xin x2 → xoF x3 → xin x4 → r16 x1 x2 x3 x4 G = some R → xok (o16 (m + x1) x2 (m + x3) x4 M) (fun r => r.1 = R.1 ∧ xRX m M0 r.2 R.2 ∧ xin R.1)) (h : xRX m M0 M G) {x1 : Nat} {x2 : Int} {x3 : Nat} {x4 : Int} {R : Int × xG_} (tx1 : xoL x1) (tx2 : xin x2) (tx3 : xoF x3) (tx4 : xin x4) (e : g311_16b  r16 f x1 x2 x3 x4 G = some R) : xok (f311_16b  o16 f (m + x1) x2 (m + x3) x4 M) (fun r => r.1 = R.1 ∧ xRX m M0 r.2 R.2 ∧ xin R.1) := by
  unfold g311_16b at e
  unfold f311_16b
  refine xok_ite (fun c105 => ?_) (fun c105 => ?_)
  · rw [if_pos c105] at e
    exact s311_103 hI   h tx1 tx2 e
  · rw [if_neg c105] at e
    refine xok_eqb (h.pt (o := x1) (c := 13) (k := 5) (t := x1 + 5) (n := 37) (xoL_o tx1).1 (xoL_o tx1).2 (by decide) (xoL_all tx1 (Q := fun p => (p, 5, p + 5) ∈ xl_P) (by decide +kernel) (by decide +kernel) (by decide +kernel) (by decide +kernel))) ?_
    by_cases c106 : 0 ≤ (x4) ∧ (x4) < 12000
    · skip
      rw [if_pos c106] at e
      refine xok_eqb (h.ai (o := x1 + 5) (n := 12000) (xoL_all tx1 (Q := fun p => p + 5 < 276) (by decide) (by decide) (by decide) (by decide)) (xoL_all tx1 (Q := fun p => xl_t (p + 5) = (2, 3, 12000)) rfl rfl rfl rfl) (by decide) c106.1 c106.2) ?_
      refine xok_ite (fun c107 => ?_) (fun c107 => ?_)
      · rw [if_pos c107] at e
        exact s311_103 hI   h tx1 tx2 e
      · rw [if_neg c107] at e
        refine xok_eqb (h.pt (o := x1) (c := 13) (k := 6) (t := x1 + 6) (n := 37) (xoL_o tx1).1 (xoL_o tx1).2 (by decide) (xoL_all tx1 (Q := fun p => (p, 6, p + 6) ∈ xl_P) (by decide +kernel) (by decide +kernel) (by decide +kernel) (by decide +kernel))) ?_
        by_cases c108 : 0 ≤ (x4) ∧ (x4) < 12000
        · skip
          rw [if_pos c108] at e
          refine xok_eqb (h.ai (o := x1 + 6) (n := 12000) (xoL_all tx1 (Q := fun p => p + 6 < 276) (by decide) (by decide) (by decide) (by decide)) (xoL_all tx1 (Q := fun p => xl_t (p + 6) = (2, 3, 12000)) rfl rfl rfl rfl) (by decide) c108.1 c108.2) ?_
          refine xok_ite (fun c109 => ?_) (fun c109 => ?_)
          · rw [if_pos c109] at e
            refine xok_eqb (h.pt (o := x1) (c := 13) (k := 8) (t := x1 + 8) (n := 37) (xoL_o tx1).1 (xoL_o tx1).2 (by decide) (xoL_all tx1 (Q := fun p => (p, 8, p + 8) ∈ xl_P) (by decide +kernel) (by decide +kernel) (by decide +kernel) (by decide +kernel))) ?_
            by_cases c110 : 0 ≤ (x4) ∧ (x4) < 12000
            · skip
              rw [if_pos c110] at e
              refine xok_eqb (h.al (o := x1 + 8) (n := 12000) (xoL_all tx1 (Q := fun p => p + 8 < 276) (by decide) (by decide) (by decide) (by decide)) (xoL_all tx1 (Q := fun p => xl_t (p + 8) = (2, 4, 12000)) rfl rfl rfl rfl)  c110.1 c110.2) ?_
              refine xok_eqb (h.pt (o := x1) (c := 13) (k := 7) (t := x1 + 7) (n := 37) (xoL_o tx1).1 (xoL_o tx1).2 (by decide) (xoL_all tx1 (Q := fun p => (p, 7, p + 7) ∈ xl_P) (by decide +kernel) (by decide +kernel) (by decide +kernel) (by decide +kernel))) ?_
              by_cases c111 : 0 ≤ (x4) ∧ (x4) < 12000
              · skip
                rw [if_pos c111] at e
                refine xok_eqb (h.ai (o := x1 + 7) (n := 12000) (xoL_all tx1 (Q := fun p => p + 7 < 276) (by decide) (by decide) (by decide) (by decide)) (xoL_all tx1 (Q := fun p => xl_t (p + 7) = (2, 3, 12000)) rfl rfl rfl rfl) (by decide) c111.1 c111.2) ?_
                refine xok_eqb (h.pt (o := x1) (c := 13) (k := 9) (t := x1 + 9) (n := 37) (xoL_o tx1).1 (xoL_o tx1).2 (by decide) (xoL_all tx1 (Q := fun p => (p, 9, p + 9) ∈ xl_P) (by decide +kernel) (by decide +kernel) (by decide +kernel) (by decide +kernel))) ?_
                obtain ⟨R112, e113, e⟩ := xbnd e
                refine xok_eqb (h.is (o := x3) (c := 12) (xoF_o tx3).1 (xoF_o tx3).2) ?_
                refine xok_call (sg198 hI  h tx3 (h.aln (o := x1 + 8) (n := 12000) (xoL_all tx1 (Q := fun p => p + 8 < 276) (by decide) (by decide) (by decide) (by decide)) (xoL_all tx1 (Q := fun p => xl_t (p + 8) = (2, 4, 12000)) rfl rfl rfl rfl)  c110.1 c110.2) (h.ain (o := x1 + 7) (n := 12000) (xoL_all tx1 (Q := fun p => p + 7 < 276) (by decide) (by decide) (by decide) (by decide)) (xoL_all tx1 (Q := fun p => xl_t (p + 7) = (2, 3, 12000)) rfl rfl rfl rfl) (by decide) c111.1 c111.2) (xoL_all tx1 (Q := fun p => xoJ (p + 9)) ⟨by decide, rfl⟩ ⟨by decide, rfl⟩ ⟨by decide, rfl⟩ ⟨by decide, rfl⟩) (xin_wr _) e113) ?_
                intro M116 h114
                exact s311_97 hI  hr16 h114 tx1 tx2 tx3 tx4 e
              · rw [if_neg c111] at e; cases e
            · rw [if_neg c110] at e; cases e
          · rw [if_neg c109] at e
            refine xok_eqb (h.pt (o := x1) (c := 13) (k := 8) (t := x1 + 8) (n := 37) (xoL_o tx1).1 (xoL_o tx1).2 (by decide) (xoL_all tx1 (Q := fun p => (p, 8, p + 8) ∈ xl_P) (by decide +kernel) (by decide +kernel) (by decide +kernel) (by decide +kernel))) ?_
            by_cases c117 : 0 ≤ (x4) ∧ (x4) < 12000
            · skip
              rw [if_pos c117] at e
              refine xok_eqb (h.al (o := x1 + 8) (n := 12000) (xoL_all tx1 (Q := fun p => p + 8 < 276) (by decide) (by decide) (by decide) (by decide)) (xoL_all tx1 (Q := fun p => xl_t (p + 8) = (2, 4, 12000)) rfl rfl rfl rfl)  c117.1 c117.2) ?_
              refine xok_eqb (h.pt (o := x1) (c := 13) (k := 7) (t := x1 + 7) (n := 37) (xoL_o tx1).1 (xoL_o tx1).2 (by decide) (xoL_all tx1 (Q := fun p => (p, 7, p + 7) ∈ xl_P) (by decide +kernel) (by decide +kernel) (by decide +kernel) (by decide +kernel))) ?_
              by_cases c118 : 0 ≤ (x4) ∧ (x4) < 12000
              · skip
                rw [if_pos c118] at e
                refine xok_eqb (h.ai (o := x1 + 7) (n := 12000) (xoL_all tx1 (Q := fun p => p + 7 < 276) (by decide) (by decide) (by decide) (by decide)) (xoL_all tx1 (Q := fun p => xl_t (p + 7) = (2, 3, 12000)) rfl rfl rfl rfl) (by decide) c118.1 c118.2) ?_
                refine xok_eqb (h.pt (o := x1) (c := 13) (k := 9) (t := x1 + 9) (n := 37) (xoL_o tx1).1 (xoL_o tx1).2 (by decide) (xoL_all tx1 (Q := fun p => (p, 9, p + 9) ∈ xl_P) (by decide +kernel) (by decide +kernel) (by decide +kernel) (by decide +kernel))) ?_
                obtain ⟨R119, e120, e⟩ := xbnd e
                refine xok_eqb (h.is (o := x3) (c := 12) (xoF_o tx3).1 (xoF_o tx3).2) ?_
                refine xok_call (sg199 hI  h tx3 (h.aln (o := x1 + 8) (n := 12000) (xoL_all tx1 (Q := fun p => p + 8 < 276) (by decide) (by decide) (by decide) (by decide)) (xoL_all tx1 (Q := fun p => xl_t (p + 8) = (2, 4, 12000)) rfl rfl rfl rfl)  c117.1 c117.2) (h.ain (o := x1 + 7) (n := 12000) (xoL_all tx1 (Q := fun p => p + 7 < 276) (by decide) (by decide) (by decide) (by decide)) (xoL_all tx1 (Q := fun p => xl_t (p + 7) = (2, 3, 12000)) rfl rfl rfl rfl) (by decide) c118.1 c118.2) (xoL_all tx1 (Q := fun p => xoJ (p + 9)) ⟨by decide, rfl⟩ ⟨by decide, rfl⟩ ⟨by decide, rfl⟩ ⟨by decide, rfl⟩) (xin_wr _) e120) ?_
                intro M123 h121
                exact s311_97 hI  hr16 h121 tx1 tx2 tx3 tx4 e
              · rw [if_neg c118] at e; cases e
            · rw [if_neg c117] at e; cases e
        · rw [if_neg c108] at e; cases e
    · rw [if_neg c106] at e; cases e
theorem s311_16 {m f : Nat} {M0 : xj_M} (hI : xHI f)     : ∀ {n : Nat} {M : xj_M} {G : xG_} {x1 : Nat} {x2 : Int} {x3 : Nat} {x4 : Int} {R : Int × xG_}, xRX m M0 M G → xoL x1 → xin x2 → xoF x3 → xin x4 → g311_16   f n x1 x2 x3 x4 G = some R → xok (f311_16   f n (m + x1) x2 (m + x3) x4 M) (fun r => r.1 = R.1 ∧ xRX m M0 r.2 R.2 ∧ xin R.1) := by
  intro n
  induction n with
  | zero => intros; rename_i e; cases e
  | succ n ih =>
    intros
    rename_i h i0 i1 i2 i3 e
    exact s311_16b hI   ih h i0 i1 i2 i3 e
theorem sg311 {m f : Nat} {M0 M : xj_M} {G : xG_} (hI : xHI f)   (h : xRX m M0 M G) {a1 : Nat} {a2 : Int} {a3 : Nat} {R : Int × xG_} (ta1 : xoL a1) (ta2 : xin a2) (ta3 : xoF a3) (e : g311  f a1 a2 a3 G = some R) : xok (f311  f m (m + a1) a2 (m + a3) M) (fun r => r.1 = R.1 ∧ xRX m M0 r.2 R.2 ∧ xin R.1) := by
  unfold g311 at e
  unfold f311
  refine xok_eqb (h.pt (o := a1) (c := 13) (k := 0) (t := a1 + 1) (n := 37) (xoL_o ta1).1 (xoL_o ta1).2 (by decide) (xoL_all ta1 (Q := fun p => (p, 0, p + 1) ∈ xl_P) (by decide +kernel) (by decide +kernel) (by decide +kernel) (by decide +kernel))) ?_
  obtain ⟨R124, e125, e⟩ := xbnd e
  refine xok_eqb (h.is (o := a3) (c := 12) (xoF_o ta3).1 (xoF_o ta3).2) ?_
  refine xok_call (sg194 hI  h ta3 (xoL_all ta1 (Q := fun p => xoF (p + 1)) (by unfold xoF; omega) (by unfold xoF; omega) (by unfold xoF; omega) (by unfold xoF; omega)) e125) ?_
  intro M128 h126
  refine xok_eqb (h126.gi (o := a1) (c := 13) (k := 10) (n := 37) (xoL_o ta1).1 (xoL_o ta1).2 (by decide) (by decide)) ?_
  exact s311_16 hI   h126 ta1 ta2 ta3 (xin_wr _) e
-- ChangeHouseModel.become
theorem s312_222 {m f : Nat} {M0 M : xj_M} {G : xG_} (hI : xHI f)     (h : xRX m M0 M G)  {R : xG_}  (e : g312_222   f  G = some R) : xok (f312_222   f  M) (fun r => xRX m M0 r R) := by
  unfold g312_222 at e
  unfold f312_222
  cases e
  exact ⟨_, rfl, h⟩
theorem s312_201b {m f : Nat} {M0 M : xj_M} {G : xG_} (hI : xHI f)  {r201 : Nat → Int → xG_ → Option (xG_)} {o201 : Nat → Int → xj_M → Option (xj_M)}  (hr201 : ∀ {M : xj_M} {G : xG_} {x1 : Nat} {x5 : Int} {R : xG_}, xRX m M0 M G → xoL x1 → xin x5 → r201 x1 x5 G = some R → xok (o201 (m + x1) x5 M) (fun r => xRX m M0 r R)) (h : xRX m M0 M G) {x1 : Nat} {x5 : Int} {R : xG_} (tx1 : xoL x1) (tx5 : xin x5) (e : g312_201b  r201 f x1 x5 G = some R) : xok (f312_201b  o201 f (m + x1) x5 M) (fun r => xRX m M0 r R) := by
  unfold g312_201b at e
  unfold f312_201b
  refine xok_ite (fun c101 => ?_) (fun c101 => ?_)
  · rw [if_pos c101] at e
    exact s312_222 hI   h  e
  · rw [if_neg c101] at e
    refine xok_eqb (h.pt (o := x1) (c := 13) (k := 21) (t := x1 + 18) (n := 37) (xoL_o tx1).1 (xoL_o tx1).2 (by decide) (xoL_all tx1 (Q := fun p => (p, 21, p + 18) ∈ xl_P) (by decide +kernel) (by decide +kernel) (by decide +kernel) (by decide +kernel))) ?_
    by_cases c102 : 0 ≤ (x5) ∧ (x5) < 16
    · skip
      rw [if_pos c102] at e
      obtain ⟨M103, q104, h105⟩ := h.si (o := x1 + 18) (n := 16) (v := 0) (xoL_all tx1 (Q := fun p => p + 18 < 276) (by decide) (by decide) (by decide) (by decide)) (xoL_all tx1 (Q := fun p => xl_t (p + 18) = (2, 3, 16)) rfl rfl rfl rfl) c102.1 c102.2 (show xin (0) by decide)
      refine xok_eqb q104 ?_
      obtain ⟨G106, g1, e⟩ := xbnd e
      cases g1
      have h105_ : xRX m M0 M103 (xup2 G (x1 + 18) (x5).toNat (0)) := h105
      generalize hGG106 : (xup2 G (x1 + 18) (x5).toNat (0)) = G106 at e h105
      clear h105_ hGG106
      exact hr201 h105 tx1 (xin_wr _) e
    · rw [if_neg c102] at e; cases e
theorem s312_201 {m f : Nat} {M0 : xj_M} (hI : xHI f)     : ∀ {n : Nat} {M : xj_M} {G : xG_} {x1 : Nat} {x5 : Int} {R : xG_}, xRX m M0 M G → xoL x1 → xin x5 → g312_201   f n x1 x5 G = some R → xok (f312_201   f n (m + x1) x5 M) (fun r => xRX m M0 r R) := by
  intro n
  induction n with
  | zero => intros; rename_i e; cases e
  | succ n ih =>
    intros
    rename_i h i0 i1 e
    exact s312_201b hI   ih h i0 i1 e
theorem s312_180 {m f : Nat} {M0 M : xj_M} {G : xG_} (hI : xHI f)     (h : xRX m M0 M G) {x1 : Nat} {x2 : Int} {x4 : Int} {R : xG_} (tx1 : xoL x1) (tx2 : xin x2) (tx4 : xin x4) (e : g312_180   f x1 x2 x4 G = some R) : xok (f312_180   f (m + x1) x2 x4 M) (fun r => xRX m M0 r R) := by
  unfold g312_180 at e
  unfold f312_180
  obtain ⟨M107, q108, h109⟩ := h.pi (v := x2) (o := x1) (c := 13) (k := 2) (n := 37) (xoL_o tx1).1 (xoL_o tx1).2 (by decide) (by decide) tx2
  refine xok_eqb q108 ?_
  obtain ⟨G110, g1, e⟩ := xbnd e
  cases g1
  have h109_ : xRX m M0 M107 (xup2 G (x1) 2 (x2)) := h109
  generalize hGG110 : (xup2 G (x1) 2 (x2)) = G110 at e h109
  clear h109_ hGG110
  obtain ⟨R111, e112, e⟩ := xbnd e
  refine xok_eqb (h109.is (o := x1) (c := 13) (xoL_o tx1).1 (xoL_o tx1).2) ?_
  refine xok_call (sg202 hI  h109 tx1 e112) ?_
  intro M115 h113
  obtain ⟨R116, e117, e⟩ := xbnd e
  refine xok_eqb (h113.is (o := x1) (c := 13) (xoL_o tx1).1 (xoL_o tx1).2) ?_
  refine xok_call (sg203 hI  h113 tx1 e117) ?_
  intro M120 h118
  refine xok_ite (fun c121 => ?_) (fun c121 => ?_)
  · rw [if_pos c121] at e
    exact s312_222 hI   h118  e
  · rw [if_neg c121] at e
    exact s312_201 hI   h118 tx1 (show xin (0) by decide) e
theorem s312_122b {m f : Nat} {M0 M : xj_M} {G : xG_} (hI : xHI f)  {r122 : Nat → Int → Int → xG_ → Option (xG_)} {o122 : Nat → Int → Int → xj_M → Option (xj_M)}  (hr122 : ∀ {M : xj_M} {G : xG_} {x1 : Nat} {x2 : Int} {x4 : Int} {R : xG_}, xRX m M0 M G → xoL x1 → xin x2 → xin x4 → r122 x1 x2 x4 G = some R → xok (o122 (m + x1) x2 x4 M) (fun r => xRX m M0 r R)) (h : xRX m M0 M G) {x1 : Nat} {x2 : Int} {x4 : Int} {R : xG_} (tx1 : xoL x1) (tx2 : xin x2) (tx4 : xin x4) (e : g312_122b  r122 f x1 x2 x4 G = some R) : xok (f312_122b  o122 f (m + x1) x2 x4 M) (fun r => xRX m M0 r R) := by
  unfold g312_122b at e
  unfold f312_122b
  refine xok_eqb (h.gi (o := x1) (c := 13) (k := 16) (n := 37) (xoL_o tx1).1 (xoL_o tx1).2 (by decide) (by decide)) ?_
  refine xok_ite (fun c122 => ?_) (fun c122 => ?_)
  · rw [if_pos c122] at e
    exact s312_180 hI   h tx1 tx2 tx4 e
  · rw [if_neg c122] at e
    refine xok_eqb (h.pt (o := x1) (c := 13) (k := 11) (t := x1 + 10) (n := 37) (xoL_o tx1).1 (xoL_o tx1).2 (by decide) (xoL_all tx1 (Q := fun p => (p, 11, p + 10) ∈ xl_P) (by decide +kernel) (by decide +kernel) (by decide +kernel) (by decide +kernel))) ?_
    refine xok_eqb (h.gi (o := x1) (c := 13) (k := 16) (n := 37) (xoL_o tx1).1 (xoL_o tx1).2 (by decide) (by decide)) ?_
    by_cases c123 : 0 ≤ (xwr ((G (x1) 16) - (1))) ∧ (xwr ((G (x1) 16) - (1))) < 200
    · skip
      rw [if_pos c123] at e
      refine xok_eqb (h.ai (o := x1 + 10) (n := 200) (xoL_all tx1 (Q := fun p => p + 10 < 276) (by decide) (by decide) (by decide) (by decide)) (xoL_all tx1 (Q := fun p => xl_t (p + 10) = (2, 3, 200)) rfl rfl rfl rfl) (by decide) c123.1 c123.2) ?_
      refine xok_ite (fun c124 => ?_) (fun c124 => ?_)
      · rw [if_pos c124] at e
        exact s312_180 hI   h tx1 tx2 tx4 e
      · rw [if_neg c124] at e
        refine xok_eqb (h.gi (o := x1) (c := 13) (k := 16) (n := 37) (xoL_o tx1).1 (xoL_o tx1).2 (by decide) (by decide)) ?_
        obtain ⟨M125, q126, h127⟩ := h.pi (v := xwr ((G (x1) 16) - (1))) (o := x1) (c := 13) (k := 16) (n := 37) (xoL_o tx1).1 (xoL_o tx1).2 (by decide) (by decide) (xin_wr _)
        refine xok_eqb q126 ?_
        obtain ⟨G128, g1, e⟩ := xbnd e
        cases g1
        have h127_ : xRX m M0 M125 (xup2 G (x1) 16 (xwr ((G (x1) 16) - (1)))) := h127
        generalize hGG128 : (xup2 G (x1) 16 (xwr ((G (x1) 16) - (1)))) = G128 at e h127
        clear h127_ hGG128
        refine xok_eqb (h127.pt (o := x1) (c := 13) (k := 18) (t := x1 + 15) (n := 37) (xoL_o tx1).1 (xoL_o tx1).2 (by decide) (xoL_all tx1 (Q := fun p => (p, 18, p + 15) ∈ xl_P) (by decide +kernel) (by decide +kernel) (by decide +kernel) (by decide +kernel))) ?_
        refine xok_eqb (h127.pt (o := x1) (c := 13) (k := 12) (t := x1 + 11) (n := 37) (xoL_o tx1).1 (xoL_o tx1).2 (by decide) (xoL_all tx1 (Q := fun p => (p, 12, p + 11) ∈ xl_P) (by decide +kernel) (by decide +kernel) (by decide +kernel) (by decide +kernel))) ?_
        refine xok_eqb (h127.gi (o := x1) (c := 13) (k := 16) (n := 37) (xoL_o tx1).1 (xoL_o tx1).2 (by decide) (by decide)) ?_
        by_cases c129 : 0 ≤ (G128 (x1) 16) ∧ (G128 (x1) 16) < 200
        · skip
          rw [if_pos c129] at e
          refine xok_eqb (h127.ai (o := x1 + 11) (n := 200) (xoL_all tx1 (Q := fun p => p + 11 < 276) (by decide) (by decide) (by decide) (by decide)) (xoL_all tx1 (Q := fun p => xl_t (p + 11) = (2, 3, 200)) rfl rfl rfl rfl) (by decide) c129.1 c129.2) ?_
          refine xok_eqb (h127.pt (o := x1) (c := 13) (k := 13) (t := x1 + 12) (n := 37) (xoL_o tx1).1 (xoL_o tx1).2 (by decide) (xoL_all tx1 (Q := fun p => (p, 13, p + 12) ∈ xl_P) (by decide +kernel) (by decide +kernel) (by decide +kernel) (by decide +kernel))) ?_
          refine xok_eqb (h127.gi (o := x1) (c := 13) (k := 16) (n := 37) (xoL_o tx1).1 (xoL_o tx1).2 (by decide) (by decide)) ?_
          by_cases c130 : 0 ≤ (G128 (x1) 16) ∧ (G128 (x1) 16) < 200
          · skip
            rw [if_pos c130] at e
            refine xok_eqb (h127.ai (o := x1 + 12) (n := 200) (xoL_all tx1 (Q := fun p => p + 12 < 276) (by decide) (by decide) (by decide) (by decide)) (xoL_all tx1 (Q := fun p => xl_t (p + 12) = (2, 3, 200)) rfl rfl rfl rfl) (by decide) c130.1 c130.2) ?_
            by_cases c131 : 0 ≤ (G128 (x1 + 11) (G128 (x1) 16).toNat) ∧ (G128 (x1 + 11) (G128 (x1) 16).toNat) < 72
            · skip
              rw [if_pos c131] at e
              obtain ⟨M132, q133, h134⟩ := h127.si (o := x1 + 15) (n := 72) (v := G128 (x1 + 12) (G128 (x1) 16).toNat) (xoL_all tx1 (Q := fun p => p + 15 < 276) (by decide) (by decide) (by decide) (by decide)) (xoL_all tx1 (Q := fun p => xl_t (p + 15) = (2, 3, 72)) rfl rfl rfl rfl) c131.1 c131.2 (h127.ain (o := x1 + 12) (n := 200) (xoL_all tx1 (Q := fun p => p + 12 < 276) (by decide) (by decide) (by decide) (by decide)) (xoL_all tx1 (Q := fun p => xl_t (p + 12) = (2, 3, 200)) rfl rfl rfl rfl) (by decide) c130.1 c130.2)
              refine xok_eqb q133 ?_
              obtain ⟨G135, g1, e⟩ := xbnd e
              cases g1
              have h134_ : xRX m M0 M132 (xup2 G128 (x1 + 15) (G128 (x1 + 11) (G128 (x1) 16).toNat).toNat (G128 (x1 + 12) (G128 (x1) 16).toNat)) := h134
              generalize hGG135 : (xup2 G128 (x1 + 15) (G128 (x1 + 11) (G128 (x1) 16).toNat).toNat (G128 (x1 + 12) (G128 (x1) 16).toNat)) = G135 at e h134
              clear h134_ hGG135
              exact hr122 h134 tx1 tx2 tx4 e
            · rw [if_neg c131] at e; cases e
          · rw [if_neg c130] at e; cases e
        · rw [if_neg c129] at e; cases e
    · rw [if_neg c123] at e; cases e
theorem s312_122 {m f : Nat} {M0 : xj_M} (hI : xHI f)     : ∀ {n : Nat} {M : xj_M} {G : xG_} {x1 : Nat} {x2 : Int} {x4 : Int} {R : xG_}, xRX m M0 M G → xoL x1 → xin x2 → xin x4 → g312_122   f n x1 x2 x4 G = some R → xok (f312_122   f n (m + x1) x2 x4 M) (fun r => xRX m M0 r R) := by
  intro n
  induction n with
  | zero => intros; rename_i e; cases e
  | succ n ih =>
    intros
    rename_i h i0 i1 i2 e
    exact s312_122b hI   ih h i0 i1 i2 e
theorem s312_77b {m f : Nat} {M0 M : xj_M} {G : xG_} (hI : xHI f)  {r77 : Nat → Int → Int → xG_ → Option (xG_)} {o77 : Nat → Int → Int → xj_M → Option (xj_M)}  (hr77 : ∀ {M : xj_M} {G : xG_} {x1 : Nat} {x2 : Int} {x4 : Int} {R : xG_}, xRX m M0 M G → xoL x1 → xin x2 → xin x4 → r77 x1 x2 x4 G = some R → xok (o77 (m + x1) x2 x4 M) (fun r => xRX m M0 r R)) (h : xRX m M0 M G) {x1 : Nat} {x2 : Int} {x4 : Int} {R : xG_} (tx1 : xoL x1) (tx2 : xin x2) (tx4 : xin x4) (e : g312_77b  r77 f x1 x2 x4 G = some R) : xok (f312_77b  o77 f (m + x1) x2 x4 M) (fun r => xRX m M0 r R) := by
  unfold g312_77b at e
  unfold f312_77b
  refine xok_eqb (h.gi (o := x1) (c := 13) (k := 17) (n := 37) (xoL_o tx1).1 (xoL_o tx1).2 (by decide) (by decide)) ?_
  refine xok_ite (fun c136 => ?_) (fun c136 => ?_)
  · rw [if_pos c136] at e
    exact s312_122 hI   h tx1 tx2 tx4 e
  · rw [if_neg c136] at e
    refine xok_eqb (h.pt (o := x1) (c := 13) (k := 14) (t := x1 + 13) (n := 37) (xoL_o tx1).1 (xoL_o tx1).2 (by decide) (xoL_all tx1 (Q := fun p => (p, 14, p + 13) ∈ xl_P) (by decide +kernel) (by decide +kernel) (by decide +kernel) (by decide +kernel))) ?_
    refine xok_eqb (h.gi (o := x1) (c := 13) (k := 17) (n := 37) (xoL_o tx1).1 (xoL_o tx1).2 (by decide) (by decide)) ?_
    by_cases c137 : 0 ≤ (xwr ((G (x1) 17) - (1))) ∧ (xwr ((G (x1) 17) - (1))) < 20
    · skip
      rw [if_pos c137] at e
      refine xok_eqb (h.ai (o := x1 + 13) (n := 20) (xoL_all tx1 (Q := fun p => p + 13 < 276) (by decide) (by decide) (by decide) (by decide)) (xoL_all tx1 (Q := fun p => xl_t (p + 13) = (2, 3, 20)) rfl rfl rfl rfl) (by decide) c137.1 c137.2) ?_
      refine xok_ite (fun c138 => ?_) (fun c138 => ?_)
      · rw [if_pos c138] at e
        exact s312_122 hI   h tx1 tx2 tx4 e
      · rw [if_neg c138] at e
        refine xok_eqb (h.gi (o := x1) (c := 13) (k := 17) (n := 37) (xoL_o tx1).1 (xoL_o tx1).2 (by decide) (by decide)) ?_
        obtain ⟨M139, q140, h141⟩ := h.pi (v := xwr ((G (x1) 17) - (1))) (o := x1) (c := 13) (k := 17) (n := 37) (xoL_o tx1).1 (xoL_o tx1).2 (by decide) (by decide) (xin_wr _)
        refine xok_eqb q140 ?_
        obtain ⟨G142, g1, e⟩ := xbnd e
        cases g1
        have h141_ : xRX m M0 M139 (xup2 G (x1) 17 (xwr ((G (x1) 17) - (1)))) := h141
        generalize hGG142 : (xup2 G (x1) 17 (xwr ((G (x1) 17) - (1)))) = G142 at e h141
        clear h141_ hGG142
        refine xok_eqb (h141.gi (o := x1) (c := 13) (k := 4) (n := 37) (xoL_o tx1).1 (xoL_o tx1).2 (by decide) (by decide)) ?_
        obtain ⟨M143, q144, h145⟩ := h141.pi (v := xwr ((G142 (x1) 4) - (1))) (o := x1) (c := 13) (k := 4) (n := 37) (xoL_o tx1).1 (xoL_o tx1).2 (by decide) (by decide) (xin_wr _)
        refine xok_eqb q144 ?_
        obtain ⟨G146, g1, e⟩ := xbnd e
        cases g1
        have h145_ : xRX m M0 M143 (xup2 G142 (x1) 4 (xwr ((G142 (x1) 4) - (1)))) := h145
        generalize hGG146 : (xup2 G142 (x1) 4 (xwr ((G142 (x1) 4) - (1)))) = G146 at e h145
        clear h145_ hGG146
        exact hr77 h145 tx1 tx2 tx4 e
    · rw [if_neg c137] at e; cases e
theorem s312_77 {m f : Nat} {M0 : xj_M} (hI : xHI f)     : ∀ {n : Nat} {M : xj_M} {G : xG_} {x1 : Nat} {x2 : Int} {x4 : Int} {R : xG_}, xRX m M0 M G → xoL x1 → xin x2 → xin x4 → g312_77   f n x1 x2 x4 G = some R → xok (f312_77   f n (m + x1) x2 x4 M) (fun r => xRX m M0 r R) := by
  intro n
  induction n with
  | zero => intros; rename_i e; cases e
  | succ n ih =>
    intros
    rename_i h i0 i1 i2 e
    exact s312_77b hI   ih h i0 i1 i2 e
theorem s312_42b {m f : Nat} {M0 M : xj_M} {G : xG_} (hI : xHI f)  {r42 : Nat → Int → Int → xG_ → Option (xG_)} {o42 : Nat → Int → Int → xj_M → Option (xj_M)}  (hr42 : ∀ {M : xj_M} {G : xG_} {x1 : Nat} {x2 : Int} {x4 : Int} {R : xG_}, xRX m M0 M G → xoL x1 → xin x2 → xin x4 → r42 x1 x2 x4 G = some R → xok (o42 (m + x1) x2 x4 M) (fun r => xRX m M0 r R)) (h : xRX m M0 M G) {x1 : Nat} {x2 : Int} {x4 : Int} {R : xG_} (tx1 : xoL x1) (tx2 : xin x2) (tx4 : xin x4) (e : g312_42b  r42 f x1 x2 x4 G = some R) : xok (f312_42b  o42 f (m + x1) x2 x4 M) (fun r => xRX m M0 r R) := by
  unfold g312_42b at e
  unfold f312_42b
  refine xok_eqb (h.gi (o := x1) (c := 13) (k := 10) (n := 37) (xoL_o tx1).1 (xoL_o tx1).2 (by decide) (by decide)) ?_
  refine xok_ite (fun c147 => ?_) (fun c147 => ?_)
  · rw [if_pos c147] at e
    exact s312_77 hI   h tx1 tx2 tx4 e
  · rw [if_neg c147] at e
    refine xok_eqb (h.pt (o := x1) (c := 13) (k := 5) (t := x1 + 5) (n := 37) (xoL_o tx1).1 (xoL_o tx1).2 (by decide) (xoL_all tx1 (Q := fun p => (p, 5, p + 5) ∈ xl_P) (by decide +kernel) (by decide +kernel) (by decide +kernel) (by decide +kernel))) ?_
    refine xok_eqb (h.gi (o := x1) (c := 13) (k := 10) (n := 37) (xoL_o tx1).1 (xoL_o tx1).2 (by decide) (by decide)) ?_
    by_cases c148 : 0 ≤ (xwr ((G (x1) 10) - (1))) ∧ (xwr ((G (x1) 10) - (1))) < 12000
    · skip
      rw [if_pos c148] at e
      refine xok_eqb (h.ai (o := x1 + 5) (n := 12000) (xoL_all tx1 (Q := fun p => p + 5 < 276) (by decide) (by decide) (by decide) (by decide)) (xoL_all tx1 (Q := fun p => xl_t (p + 5) = (2, 3, 12000)) rfl rfl rfl rfl) (by decide) c148.1 c148.2) ?_
      refine xok_ite (fun c149 => ?_) (fun c149 => ?_)
      · rw [if_pos c149] at e
        exact s312_77 hI   h tx1 tx2 tx4 e
      · rw [if_neg c149] at e
        refine xok_eqb (h.gi (o := x1) (c := 13) (k := 10) (n := 37) (xoL_o tx1).1 (xoL_o tx1).2 (by decide) (by decide)) ?_
        obtain ⟨M150, q151, h152⟩ := h.pi (v := xwr ((G (x1) 10) - (1))) (o := x1) (c := 13) (k := 10) (n := 37) (xoL_o tx1).1 (xoL_o tx1).2 (by decide) (by decide) (xin_wr _)
        refine xok_eqb q151 ?_
        obtain ⟨G153, g1, e⟩ := xbnd e
        cases g1
        have h152_ : xRX m M0 M150 (xup2 G (x1) 10 (xwr ((G (x1) 10) - (1)))) := h152
        generalize hGG153 : (xup2 G (x1) 10 (xwr ((G (x1) 10) - (1)))) = G153 at e h152
        clear h152_ hGG153
        exact hr42 h152 tx1 tx2 tx4 e
    · rw [if_neg c148] at e; cases e
theorem s312_42 {m f : Nat} {M0 : xj_M} (hI : xHI f)     : ∀ {n : Nat} {M : xj_M} {G : xG_} {x1 : Nat} {x2 : Int} {x4 : Int} {R : xG_}, xRX m M0 M G → xoL x1 → xin x2 → xin x4 → g312_42   f n x1 x2 x4 G = some R → xok (f312_42   f n (m + x1) x2 x4 M) (fun r => xRX m M0 r R) := by
  intro n
  induction n with
  | zero => intros; rename_i e; cases e
  | succ n ih =>
    intros
    rename_i h i0 i1 i2 e
    exact s312_42b hI   ih h i0 i1 i2 e
theorem s312_24 {m f : Nat} {M0 M : xj_M} {G : xG_} (hI : xHI f)     (h : xRX m M0 M G) {x1 : Nat} {x2 : Int} {x3 : Int} {y0 : Int} {R : xG_} (tx1 : xoL x1) (tx2 : xin x2) (tx3 : xin x3) (ty0 : xin y0) (e : g312_24   f x1 x2 x3 y0 G = some R) : xok (f312_24   f m (m + x1) x2 x3 y0 M) (fun r => xRX m M0 r R) := by
  unfold g312_24 at e
  unfold f312_24
  refine xok_eqb (h.pt (o := x1) (c := 13) (k := 0) (t := x1 + 1) (n := 37) (xoL_o tx1).1 (xoL_o tx1).2 (by decide) (xoL_all tx1 (Q := fun p => (p, 0, p + 1) ∈ xl_P) (by decide +kernel) (by decide +kernel) (by decide +kernel) (by decide +kernel))) ?_
  refine xok_eqb (h.pt (o := 0) (c := 15) (k := 80) (t := 253) (n := 107) (by decide) rfl (by decide) (by decide +kernel)) ?_
  obtain ⟨R154, e155, e⟩ := xbnd e
  refine xok_eqb (h.is (o := x1 + 1) (c := 12) (xoF_o (xoL_all tx1 (Q := fun p => xoF (p + 1)) (by unfold xoF; omega) (by unfold xoF; omega) (by unfold xoF; omega) (by unfold xoF; omega))).1 (xoF_o (xoL_all tx1 (Q := fun p => xoF (p + 1)) (by unfold xoF; omega) (by unfold xoF; omega) (by unfold xoF; omega) (by unfold xoF; omega))).2) ?_
  refine xok_call (sg194 hI  h (xoL_all tx1 (Q := fun p => xoF (p + 1)) (by unfold xoF; omega) (by unfold xoF; omega) (by unfold xoF; omega) (by unfold xoF; omega)) (show xoF 253 by unfold xoF; omega) e155) ?_
  intro M158 h156
  obtain ⟨M159, q160, h161⟩ := h156.pi (v := x3) (o := x1) (c := 13) (k := 1) (n := 37) (xoL_o tx1).1 (xoL_o tx1).2 (by decide) (by decide) tx3
  refine xok_eqb q160 ?_
  obtain ⟨G162, g1, e⟩ := xbnd e
  cases g1
  have h161_ : xRX m M0 M159 (xup2 R154 (x1) 1 (x3)) := h161
  generalize hGG162 : (xup2 R154 (x1) 1 (x3)) = G162 at e h161
  clear h161_ hGG162
  exact s312_42 hI   h161 tx1 tx2 ty0 e
theorem sg312 {m f : Nat} {M0 M : xj_M} {G : xG_} (hI : xHI f)   (h : xRX m M0 M G) {a1 : Nat} {a2 : Int} {R : xG_} (ta1 : xoL a1) (ta2 : xin a2) (e : g312  f a1 a2 G = some R) : xok (f312  f m (m + a1) a2 M) (fun r => xRX m M0 r R) := by
  unfold g312 at e
  unfold f312
  refine xok_eqb (h.pt (o := 0) (c := 15) (k := 80) (t := 253) (n := 107) (by decide) rfl (by decide) (by decide +kernel)) ?_
  obtain ⟨R163, e164, e⟩ := xbnd e
  refine xok_eqb (h.is (o := 0) (c := 15) (by decide) rfl) ?_
  refine xok_call (sg311 hI  h ta1 ta2 (show xoF 253 by unfold xoF; omega) e164) ?_
  rintro ⟨v_, M167⟩ ⟨hv_, h165, hi166⟩
  cases hv_
  refine xok_eqb (h165.gi (o := a1) (c := 13) (k := 1) (n := 37) (xoL_o ta1).1 (xoL_o ta1).2 (by decide) (by decide)) ?_
  refine xok_ite (fun c168 => ?_) (fun c168 => ?_)
  · rw [if_pos c168] at e
    exact s312_24 hI   h165 ta1 ta2 hi166 (show xin (0) by decide) e
  · rw [if_neg c168] at e
    exact s312_24 hI   h165 ta1 ta2 hi166 (show xin (1) by decide) e
-- ChangeHouseModel.differences
theorem s328_104 {m f : Nat} {M0 M : xj_M} {G : xG_} (hI : xHI f)  {r6 : Nat → Nat → Int → Int → Int → Int → xG_ → Option (Int × xG_)} {o6 : Nat → Nat → Nat → Int → Int → Int → Int → xj_M → Option (Int × xj_M)}  (hr6 : ∀ {M : xj_M} {G : xG_} {x1 : Nat} {x2 : Nat} {x3 : Int} {x4 : Int} {x5 : Int} {x6 : Int} {R : Int × xG_}, xRX m M0 M G → xoL x1 → xoL x2 → xin x3 → xin x4 → xin x5 → xin x6 → r6 x1 x2 x3 x4 x5 x6 G = some R → xok (o6 m (m + x1) (m + x2) x3 x4 x5 x6 M) (fun r => r.1 = R.1 ∧ xRX m M0 r.2 R.2 ∧ xin R.1)) (h : xRX m M0 M G) {x1 : Nat} {x2 : Nat} {x3 : Int} {x4 : Int} {x5 : Int} {x6 : Int} {R : Int × xG_} (tx1 : xoL x1) (tx2 : xoL x2) (tx3 : xin x3) (tx4 : xin x4) (tx5 : xin x5) (tx6 : xin x6) (e : g328_104  r6 f x1 x2 x3 x4 x5 x6 G = some R) : xok (f328_104  o6 f m (m + x1) (m + x2) x3 x4 x5 x6 M) (fun r => r.1 = R.1 ∧ xRX m M0 r.2 R.2 ∧ xin R.1) := by
  unfold g328_104 at e
  unfold f328_104
  exact hr6 h tx1 tx2 tx3 tx4 tx5 (xin_wr _) e
theorem s328_211 {m f : Nat} {M0 M : xj_M} {G : xG_} (hI : xHI f)  {r113 : Nat → Nat → Int → Int → Int → Int → xG_ → Option (Int × xG_)} {o113 : Nat → Nat → Nat → Int → Int → Int → Int → xj_M → Option (Int × xj_M)}  (hr113 : ∀ {M : xj_M} {G : xG_} {x1 : Nat} {x2 : Nat} {x3 : Int} {x4 : Int} {x5 : Int} {x6 : Int} {R : Int × xG_}, xRX m M0 M G → xoL x1 → xoL x2 → xin x3 → xin x4 → xin x5 → xin x6 → r113 x1 x2 x3 x4 x5 x6 G = some R → xok (o113 m (m + x1) (m + x2) x3 x4 x5 x6 M) (fun r => r.1 = R.1 ∧ xRX m M0 r.2 R.2 ∧ xin R.1)) (h : xRX m M0 M G) {x1 : Nat} {x2 : Nat} {x3 : Int} {x4 : Int} {x5 : Int} {x6 : Int} {R : Int × xG_} (tx1 : xoL x1) (tx2 : xoL x2) (tx3 : xin x3) (tx4 : xin x4) (tx5 : xin x5) (tx6 : xin x6) (e : g328_211  r113 f x1 x2 x3 x4 x5 x6 G = some R) : xok (f328_211  o113 f m (m + x1) (m + x2) x3 x4 x5 x6 M) (fun r => r.1 = R.1 ∧ xRX m M0 r.2 R.2 ∧ xin R.1) := by
  unfold g328_211 at e
  unfold f328_211
  exact hr113 h tx1 tx2 tx3 tx4 tx5 (xin_wr _) e
theorem s328_113b {m f : Nat} {M0 M : xj_M} {G : xG_} (hI : xHI f)  {r113 : Nat → Nat → Int → Int → Int → Int → xG_ → Option (Int × xG_)} {o113 : Nat → Nat → Nat → Int → Int → Int → Int → xj_M → Option (Int × xj_M)}  (hr113 : ∀ {M : xj_M} {G : xG_} {x1 : Nat} {x2 : Nat} {x3 : Int} {x4 : Int} {x5 : Int} {x6 : Int} {R : Int × xG_}, xRX m M0 M G → xoL x1 → xoL x2 → xin x3 → xin x4 → xin x5 → xin x6 → r113 x1 x2 x3 x4 x5 x6 G = some R → xok (o113 m (m + x1) (m + x2) x3 x4 x5 x6 M) (fun r => r.1 = R.1 ∧ xRX m M0 r.2 R.2 ∧ xin R.1)) (h : xRX m M0 M G) {x1 : Nat} {x2 : Nat} {x3 : Int} {x4 : Int} {x5 : Int} {x6 : Int} {R : Int × xG_} (tx1 : xoL x1) (tx2 : xoL x2) (tx3 : xin x3) (tx4 : xin x4) (tx5 : xin x5) (tx6 : xin x6) (e : g328_113b  r113 f x1 x2 x3 x4 x5 x6 G = some R) : xok (f328_113b  o113 f m (m + x1) (m + x2) x3 x4 x5 x6 M) (fun r => r.1 = R.1 ∧ xRX m M0 r.2 R.2 ∧ xin R.1) := by
  unfold g328_113b at e
  unfold f328_113b
  refine xok_eqb (h.pt (o := x2) (c := 13) (k := 0) (t := x2 + 1) (n := 37) (xoL_o tx2).1 (xoL_o tx2).2 (by decide) (xoL_all tx2 (Q := fun p => (p, 0, p + 1) ∈ xl_P) (by decide +kernel) (by decide +kernel) (by decide +kernel) (by decide +kernel))) ?_
  refine xok_eqb (h.gi (o := x2 + 1) (c := 12) (k := 3) (n := 4) (xoF_o (xoL_all tx2 (Q := fun p => xoF (p + 1)) (by unfold xoF; omega) (by unfold xoF; omega) (by unfold xoF; omega) (by unfold xoF; omega))).1 (xoF_o (xoL_all tx2 (Q := fun p => xoF (p + 1)) (by unfold xoF; omega) (by unfold xoF; omega) (by unfold xoF; omega) (by unfold xoF; omega))).2 (by decide) (by decide)) ?_
  refine xok_ite (fun c101 => ?_) (fun c101 => ?_)
  · rw [if_pos c101] at e
    cases e
    exact ⟨_, rfl, rfl, h, tx5⟩
  · rw [if_neg c101] at e
    refine xok_eqb (h.pt (o := x2) (c := 13) (k := 0) (t := x2 + 1) (n := 37) (xoL_o tx2).1 (xoL_o tx2).2 (by decide) (xoL_all tx2 (Q := fun p => (p, 0, p + 1) ∈ xl_P) (by decide +kernel) (by decide +kernel) (by decide +kernel) (by decide +kernel))) ?_
    refine xok_eqb (h.pt (o := x2 + 1) (c := 12) (k := 0) (t := x2 + 1 + 1) (n := 4) (xoF_o (xoL_all tx2 (Q := fun p => xoF (p + 1)) (by unfold xoF; omega) (by unfold xoF; omega) (by unfold xoF; omega) (by unfold xoF; omega))).1 (xoF_o (xoL_all tx2 (Q := fun p => xoF (p + 1)) (by unfold xoF; omega) (by unfold xoF; omega) (by unfold xoF; omega) (by unfold xoF; omega))).2 (by decide) (xoF_all (xoL_all tx2 (Q := fun p => xoF (p + 1)) (by unfold xoF; omega) (by unfold xoF; omega) (by unfold xoF; omega) (by unfold xoF; omega)) (Q := fun p => (p, 0, p + 1) ∈ xl_P) (by decide +kernel) (by decide +kernel) (by decide +kernel) (by decide +kernel) (by decide +kernel) (by decide +kernel) (by decide +kernel))) ?_
    by_cases c102 : 0 ≤ (x6) ∧ (x6) < 3400
    · skip
      rw [if_pos c102] at e
      refine xok_eqb (h.al (o := x2 + 1 + 1) (n := 3400) (xoF_all (xoL_all tx2 (Q := fun p => xoF (p + 1)) (by unfold xoF; omega) (by unfold xoF; omega) (by unfold xoF; omega) (by unfold xoF; omega)) (Q := fun p => p + 1 < 276) (by decide) (by decide) (by decide) (by decide) (by decide) (by decide) (by decide)) (xoF_all (xoL_all tx2 (Q := fun p => xoF (p + 1)) (by unfold xoF; omega) (by unfold xoF; omega) (by unfold xoF; omega) (by unfold xoF; omega)) (Q := fun p => xl_t (p + 1) = (2, 4, 3400)) rfl rfl rfl rfl rfl rfl rfl)  c102.1 c102.2) ?_
      refine xok_eqb (h.pt (o := 0) (c := 15) (k := 29) (t := 2) (n := 107) (by decide) rfl (by decide) (by decide +kernel)) ?_
      refine xok_eqb (h.pt (o := 2) (c := 14) (k := 0) (t := 2 + 1) (n := 38) (xoP_o (show xoP 2 by unfold xoP; omega)).1 (xoP_o (show xoP 2 by unfold xoP; omega)).2 (by decide) (xoP_all (show xoP 2 by unfold xoP; omega) (Q := fun p => (p, 0, p + 1) ∈ xl_P) (by decide +kernel) (by decide +kernel) (by decide +kernel))) ?_
      by_cases c103 : 0 ≤ (x3) ∧ (x3) < 16
      · skip
        rw [if_pos c103] at e
        refine xok_eqb (h.al (o := 2 + 1) (n := 16) (xoP_all (show xoP 2 by unfold xoP; omega) (Q := fun p => p + 1 < 276) (by decide) (by decide) (by decide)) (xoP_all (show xoP 2 by unfold xoP; omega) (Q := fun p => xl_t (p + 1) = (2, 4, 16)) rfl rfl rfl)  c103.1 c103.2) ?_
        refine xok_ite (fun c104 => ?_) (fun c104 => ?_)
        · rw [if_pos c104] at e
          exact s328_211 hI  hr113 h tx1 tx2 tx3 tx4 tx5 tx6 e
        · rw [if_neg c104] at e
          refine xok_eqb (h.pt (o := 0) (c := 15) (k := 80) (t := 253) (n := 107) (by decide) rfl (by decide) (by decide +kernel)) ?_
          refine xok_eqb (h.pt (o := x2) (c := 13) (k := 0) (t := x2 + 1) (n := 37) (xoL_o tx2).1 (xoL_o tx2).2 (by decide) (xoL_all tx2 (Q := fun p => (p, 0, p + 1) ∈ xl_P) (by decide +kernel) (by decide +kernel) (by decide +kernel) (by decide +kernel))) ?_
          obtain ⟨R105, e106, e⟩ := xbnd e
          refine xok_call (sg322 hI  h (show xoF 253 by unfold xoF; omega) (xoL_all tx2 (Q := fun p => xoF (p + 1)) (by unfold xoF; omega) (by unfold xoF; omega) (by unfold xoF; omega) (by unfold xoF; omega)) tx6 e106) ?_
          rintro ⟨v_, M109⟩ ⟨hv_, h107, hi108⟩
          cases hv_
          refine xok_ite (fun c110 => ?_) (fun c110 => ?_)
          · rw [if_pos c110] at e
            refine xok_ite (fun c111 => ?_) (fun c111 => ?_)
            · rw [if_pos c111] at e
              exact s328_211 hI  hr113 h107 tx1 tx2 tx3 tx4 (xin_wr _) tx6 e
            · rw [if_neg c111] at e
              refine xok_eqb (h107.pt (o := x2) (c := 13) (k := 0) (t := x2 + 1) (n := 37) (xoL_o tx2).1 (xoL_o tx2).2 (by decide) (xoL_all tx2 (Q := fun p => (p, 0, p + 1) ∈ xl_P) (by decide +kernel) (by decide +kernel) (by decide +kernel) (by decide +kernel))) ?_
              refine xok_eqb (h107.pt (o := x2 + 1) (c := 12) (k := 0) (t := x2 + 1 + 1) (n := 4) (xoF_o (xoL_all tx2 (Q := fun p => xoF (p + 1)) (by unfold xoF; omega) (by unfold xoF; omega) (by unfold xoF; omega) (by unfold xoF; omega))).1 (xoF_o (xoL_all tx2 (Q := fun p => xoF (p + 1)) (by unfold xoF; omega) (by unfold xoF; omega) (by unfold xoF; omega) (by unfold xoF; omega))).2 (by decide) (xoF_all (xoL_all tx2 (Q := fun p => xoF (p + 1)) (by unfold xoF; omega) (by unfold xoF; omega) (by unfold xoF; omega) (by unfold xoF; omega)) (Q := fun p => (p, 0, p + 1) ∈ xl_P) (by decide +kernel) (by decide +kernel) (by decide +kernel) (by decide +kernel) (by decide +kernel) (by decide +kernel) (by decide +kernel))) ?_
              by_cases c112 : 0 ≤ (x6) ∧ (x6) < 3400
              · skip
                rw [if_pos c112] at e
                refine xok_eqb (h107.al (o := x2 + 1 + 1) (n := 3400) (xoF_all (xoL_all tx2 (Q := fun p => xoF (p + 1)) (by unfold xoF; omega) (by unfold xoF; omega) (by unfold xoF; omega) (by unfold xoF; omega)) (Q := fun p => p + 1 < 276) (by decide) (by decide) (by decide) (by decide) (by decide) (by decide) (by decide)) (xoF_all (xoL_all tx2 (Q := fun p => xoF (p + 1)) (by unfold xoF; omega) (by unfold xoF; omega) (by unfold xoF; omega) (by unfold xoF; omega)) (Q := fun p => xl_t (p + 1) = (2, 4, 3400)) rfl rfl rfl rfl rfl rfl rfl)  c112.1 c112.2) ?_
                refine xok_eqb (h107.pt (o := x2) (c := 13) (k := 0) (t := x2 + 1) (n := 37) (xoL_o tx2).1 (xoL_o tx2).2 (by decide) (xoL_all tx2 (Q := fun p => (p, 0, p + 1) ∈ xl_P) (by decide +kernel) (by decide +kernel) (by decide +kernel) (by decide +kernel))) ?_
                refine xok_eqb (h107.pt (o := x2 + 1) (c := 12) (k := 2) (t := x2 + 1 + 3) (n := 4) (xoF_o (xoL_all tx2 (Q := fun p => xoF (p + 1)) (by unfold xoF; omega) (by unfold xoF; omega) (by unfold xoF; omega) (by unfold xoF; omega))).1 (xoF_o (xoL_all tx2 (Q := fun p => xoF (p + 1)) (by unfold xoF; omega) (by unfold xoF; omega) (by unfold xoF; omega) (by unfold xoF; omega))).2 (by decide) (xoF_all (xoL_all tx2 (Q := fun p => xoF (p + 1)) (by unfold xoF; omega) (by unfold xoF; omega) (by unfold xoF; omega) (by unfold xoF; omega)) (Q := fun p => (p, 2, p + 3) ∈ xl_P) (by decide +kernel) (by decide +kernel) (by decide +kernel) (by decide +kernel) (by decide +kernel) (by decide +kernel) (by decide +kernel))) ?_
                by_cases c113 : 0 ≤ (x6) ∧ (x6) < 3400
                · skip
                  rw [if_pos c113] at e
                  refine xok_eqb (h107.ai (o := x2 + 1 + 3) (n := 3400) (xoF_all (xoL_all tx2 (Q := fun p => xoF (p + 1)) (by unfold xoF; omega) (by unfold xoF; omega) (by unfold xoF; omega) (by unfold xoF; omega)) (Q := fun p => p + 3 < 276) (by decide) (by decide) (by decide) (by decide) (by decide) (by decide) (by decide)) (xoF_all (xoL_all tx2 (Q := fun p => xoF (p + 1)) (by unfold xoF; omega) (by unfold xoF; omega) (by unfold xoF; omega) (by unfold xoF; omega)) (Q := fun p => xl_t (p + 3) = (2, 3, 3400)) rfl rfl rfl rfl rfl rfl rfl) (by decide) c113.1 c113.2) ?_
                  refine xok_eqb (h107.pt (o := x2) (c := 13) (k := 0) (t := x2 + 1) (n := 37) (xoL_o tx2).1 (xoL_o tx2).2 (by decide) (xoL_all tx2 (Q := fun p => (p, 0, p + 1) ∈ xl_P) (by decide +kernel) (by decide +kernel) (by decide +kernel) (by decide +kernel))) ?_
                  refine xok_eqb (h107.pt (o := x2 + 1) (c := 12) (k := 1) (t := x2 + 1 + 2) (n := 4) (xoF_o (xoL_all tx2 (Q := fun p => xoF (p + 1)) (by unfold xoF; omega) (by unfold xoF; omega) (by unfold xoF; omega) (by unfold xoF; omega))).1 (xoF_o (xoL_all tx2 (Q := fun p => xoF (p + 1)) (by unfold xoF; omega) (by unfold xoF; omega) (by unfold xoF; omega) (by unfold xoF; omega))).2 (by decide) (xoF_all (xoL_all tx2 (Q := fun p => xoF (p + 1)) (by unfold xoF; omega) (by unfold xoF; omega) (by unfold xoF; omega) (by unfold xoF; omega)) (Q := fun p => (p, 1, p + 2) ∈ xl_P) (by decide +kernel) (by decide +kernel) (by decide +kernel) (by decide +kernel) (by decide +kernel) (by decide +kernel) (by decide +kernel))) ?_
                  obtain ⟨R114, e115, e⟩ := xbnd e
                  refine xok_call (sg329 hI  h107 tx1 (show xin (1) by decide) (h107.aln (o := x2 + 1 + 1) (n := 3400) (xoF_all (xoL_all tx2 (Q := fun p => xoF (p + 1)) (by unfold xoF; omega) (by unfold xoF; omega) (by unfold xoF; omega) (by unfold xoF; omega)) (Q := fun p => p + 1 < 276) (by decide) (by decide) (by decide) (by decide) (by decide) (by decide) (by decide)) (xoF_all (xoL_all tx2 (Q := fun p => xoF (p + 1)) (by unfold xoF; omega) (by unfold xoF; omega) (by unfold xoF; omega) (by unfold xoF; omega)) (Q := fun p => xl_t (p + 1) = (2, 4, 3400)) rfl rfl rfl rfl rfl rfl rfl)  c112.1 c112.2) (h107.ain (o := x2 + 1 + 3) (n := 3400) (xoF_all (xoL_all tx2 (Q := fun p => xoF (p + 1)) (by unfold xoF; omega) (by unfold xoF; omega) (by unfold xoF; omega) (by unfold xoF; omega)) (Q := fun p => p + 3 < 276) (by decide) (by decide) (by decide) (by decide) (by decide) (by decide) (by decide)) (xoF_all (xoL_all tx2 (Q := fun p => xoF (p + 1)) (by unfold xoF; omega) (by unfold xoF; omega) (by unfold xoF; omega) (by unfold xoF; omega)) (Q := fun p => xl_t (p + 3) = (2, 3, 3400)) rfl rfl rfl rfl rfl rfl rfl) (by decide) c113.1 c113.2) (xoF_all (xoL_all tx2 (Q := fun p => xoF (p + 1)) (by unfold xoF; omega) (by unfold xoF; omega) (by unfold xoF; omega) (by unfold xoF; omega)) (Q := fun p => xoJ (p + 2)) ⟨by decide, rfl⟩ ⟨by decide, rfl⟩ ⟨by decide, rfl⟩ ⟨by decide, rfl⟩ ⟨by decide, rfl⟩ ⟨by decide, rfl⟩ ⟨by decide, rfl⟩) (xin_wr _) e115) ?_
                  intro M118 h116
                  exact s328_211 hI  hr113 h116 tx1 tx2 tx3 tx4 (xin_wr _) tx6 e
                · rw [if_neg c113] at e; cases e
              · rw [if_neg c112] at e; cases e
          · rw [if_neg c110] at e
            exact s328_211 hI  hr113 h107 tx1 tx2 tx3 tx4 tx5 tx6 e
      · rw [if_neg c103] at e; cases e
    · rw [if_neg c102] at e; cases e
theorem s328_113 {m f : Nat} {M0 : xj_M} (hI : xHI f)     : ∀ {n : Nat} {M : xj_M} {G : xG_} {x1 : Nat} {x2 : Nat} {x3 : Int} {x4 : Int} {x5 : Int} {x6 : Int} {R : Int × xG_}, xRX m M0 M G → xoL x1 → xoL x2 → xin x3 → xin x4 → xin x5 → xin x6 → g328_113   f n x1 x2 x3 x4 x5 x6 G = some R → xok (f328_113   f n m (m + x1) (m + x2) x3 x4 x5 x6 M) (fun r => r.1 = R.1 ∧ xRX m M0 r.2 R.2 ∧ xin R.1) := by
  intro n
  induction n with
  | zero => intros; rename_i e; cases e
  | succ n ih =>
    intros
    rename_i h i0 i1 i2 i3 i4 i5 e
    exact s328_113b hI   ih h i0 i1 i2 i3 i4 i5 e
theorem s328_6b {m f : Nat} {M0 M : xj_M} {G : xG_} (hI : xHI f)  {r6 : Nat → Nat → Int → Int → Int → Int → xG_ → Option (Int × xG_)} {o6 : Nat → Nat → Nat → Int → Int → Int → Int → xj_M → Option (Int × xj_M)}  (hr6 : ∀ {M : xj_M} {G : xG_} {x1 : Nat} {x2 : Nat} {x3 : Int} {x4 : Int} {x5 : Int} {x6 : Int} {R : Int × xG_}, xRX m M0 M G → xoL x1 → xoL x2 → xin x3 → xin x4 → xin x5 → xin x6 → r6 x1 x2 x3 x4 x5 x6 G = some R → xok (o6 m (m + x1) (m + x2) x3 x4 x5 x6 M) (fun r => r.1 = R.1 ∧ xRX m M0 r.2 R.2 ∧ xin R.1)) (h : xRX m M0 M G) {x1 : Nat} {x2 : Nat} {x3 : Int} {x4 : Int} {x5 : Int} {x6 : Int} {R : Int × xG_} (tx1 : xoL x1) (tx2 : xoL x2) (tx3 : xin x3) (tx4 : xin x4) (tx5 : xin x5) (tx6 : xin x6) (e : g328_6b  r6 f x1 x2 x3 x4 x5 x6 G = some R) : xok (f328_6b  o6 f m (m + x1) (m + x2) x3 x4 x5 x6 M) (fun r => r.1 = R.1 ∧ xRX m M0 r.2 R.2 ∧ xin R.1) := by
  unfold g328_6b at e
  unfold f328_6b
  refine xok_eqb (h.pt (o := 0) (c := 15) (k := 80) (t := 253) (n := 107) (by decide) rfl (by decide) (by decide +kernel)) ?_
  refine xok_eqb (h.gi (o := 253) (c := 12) (k := 3) (n := 4) (xoF_o (show xoF 253 by unfold xoF; omega)).1 (xoF_o (show xoF 253 by unfold xoF; omega)).2 (by decide) (by decide)) ?_
  refine xok_ite (fun c119 => ?_) (fun c119 => ?_)
  · rw [if_pos c119] at e
    exact s328_113 hI   h tx1 tx2 tx3 tx4 tx5 (show xin (0) by decide) e
  · rw [if_neg c119] at e
    refine xok_eqb (h.pt (o := 0) (c := 15) (k := 80) (t := 253) (n := 107) (by decide) rfl (by decide) (by decide +kernel)) ?_
    refine xok_eqb (h.pt (o := 253) (c := 12) (k := 0) (t := 253 + 1) (n := 4) (xoF_o (show xoF 253 by unfold xoF; omega)).1 (xoF_o (show xoF 253 by unfold xoF; omega)).2 (by decide) (xoF_all (show xoF 253 by unfold xoF; omega) (Q := fun p => (p, 0, p + 1) ∈ xl_P) (by decide +kernel) (by decide +kernel) (by decide +kernel) (by decide +kernel) (by decide +kernel) (by decide +kernel) (by decide +kernel))) ?_
    by_cases c120 : 0 ≤ (x6) ∧ (x6) < 3400
    · skip
      rw [if_pos c120] at e
      refine xok_eqb (h.al (o := 253 + 1) (n := 3400) (xoF_all (show xoF 253 by unfold xoF; omega) (Q := fun p => p + 1 < 276) (by decide) (by decide) (by decide) (by decide) (by decide) (by decide) (by decide)) (xoF_all (show xoF 253 by unfold xoF; omega) (Q := fun p => xl_t (p + 1) = (2, 4, 3400)) rfl rfl rfl rfl rfl rfl rfl)  c120.1 c120.2) ?_
      refine xok_eqb (h.pt (o := 0) (c := 15) (k := 29) (t := 2) (n := 107) (by decide) rfl (by decide) (by decide +kernel)) ?_
      refine xok_eqb (h.pt (o := 2) (c := 14) (k := 0) (t := 2 + 1) (n := 38) (xoP_o (show xoP 2 by unfold xoP; omega)).1 (xoP_o (show xoP 2 by unfold xoP; omega)).2 (by decide) (xoP_all (show xoP 2 by unfold xoP; omega) (Q := fun p => (p, 0, p + 1) ∈ xl_P) (by decide +kernel) (by decide +kernel) (by decide +kernel))) ?_
      by_cases c121 : 0 ≤ (x3) ∧ (x3) < 16
      · skip
        rw [if_pos c121] at e
        refine xok_eqb (h.al (o := 2 + 1) (n := 16) (xoP_all (show xoP 2 by unfold xoP; omega) (Q := fun p => p + 1 < 276) (by decide) (by decide) (by decide)) (xoP_all (show xoP 2 by unfold xoP; omega) (Q := fun p => xl_t (p + 1) = (2, 4, 16)) rfl rfl rfl)  c121.1 c121.2) ?_
        refine xok_ite (fun c122 => ?_) (fun c122 => ?_)
        · rw [if_pos c122] at e
          exact s328_104 hI  hr6 h tx1 tx2 tx3 tx4 tx5 tx6 e
        · rw [if_neg c122] at e
          refine xok_eqb (h.pt (o := x2) (c := 13) (k := 0) (t := x2 + 1) (n := 37) (xoL_o tx2).1 (xoL_o tx2).2 (by decide) (xoL_all tx2 (Q := fun p => (p, 0, p + 1) ∈ xl_P) (by decide +kernel) (by decide +kernel) (by decide +kernel) (by decide +kernel))) ?_
          refine xok_eqb (h.pt (o := 0) (c := 15) (k := 80) (t := 253) (n := 107) (by decide) rfl (by decide) (by decide +kernel)) ?_
          obtain ⟨R123, e124, e⟩ := xbnd e
          refine xok_call (sg322 hI  h (xoL_all tx2 (Q := fun p => xoF (p + 1)) (by unfold xoF; omega) (by unfold xoF; omega) (by unfold xoF; omega) (by unfold xoF; omega)) (show xoF 253 by unfold xoF; omega) tx6 e124) ?_
          rintro ⟨v_, M127⟩ ⟨hv_, h125, hi126⟩
          cases hv_
          refine xok_ite (fun c128 => ?_) (fun c128 => ?_)
          · rw [if_pos c128] at e
            refine xok_ite (fun c129 => ?_) (fun c129 => ?_)
            · rw [if_pos c129] at e
              exact s328_104 hI  hr6 h125 tx1 tx2 tx3 tx4 (xin_wr _) tx6 e
            · rw [if_neg c129] at e
              refine xok_eqb (h125.pt (o := 0) (c := 15) (k := 80) (t := 253) (n := 107) (by decide) rfl (by decide) (by decide +kernel)) ?_
              refine xok_eqb (h125.pt (o := 253) (c := 12) (k := 0) (t := 253 + 1) (n := 4) (xoF_o (show xoF 253 by unfold xoF; omega)).1 (xoF_o (show xoF 253 by unfold xoF; omega)).2 (by decide) (xoF_all (show xoF 253 by unfold xoF; omega) (Q := fun p => (p, 0, p + 1) ∈ xl_P) (by decide +kernel) (by decide +kernel) (by decide +kernel) (by decide +kernel) (by decide +kernel) (by decide +kernel) (by decide +kernel))) ?_
              by_cases c130 : 0 ≤ (x6) ∧ (x6) < 3400
              · skip
                rw [if_pos c130] at e
                refine xok_eqb (h125.al (o := 253 + 1) (n := 3400) (xoF_all (show xoF 253 by unfold xoF; omega) (Q := fun p => p + 1 < 276) (by decide) (by decide) (by decide) (by decide) (by decide) (by decide) (by decide)) (xoF_all (show xoF 253 by unfold xoF; omega) (Q := fun p => xl_t (p + 1) = (2, 4, 3400)) rfl rfl rfl rfl rfl rfl rfl)  c130.1 c130.2) ?_
                refine xok_eqb (h125.pt (o := 0) (c := 15) (k := 80) (t := 253) (n := 107) (by decide) rfl (by decide) (by decide +kernel)) ?_
                refine xok_eqb (h125.pt (o := 253) (c := 12) (k := 2) (t := 253 + 3) (n := 4) (xoF_o (show xoF 253 by unfold xoF; omega)).1 (xoF_o (show xoF 253 by unfold xoF; omega)).2 (by decide) (xoF_all (show xoF 253 by unfold xoF; omega) (Q := fun p => (p, 2, p + 3) ∈ xl_P) (by decide +kernel) (by decide +kernel) (by decide +kernel) (by decide +kernel) (by decide +kernel) (by decide +kernel) (by decide +kernel))) ?_
                by_cases c131 : 0 ≤ (x6) ∧ (x6) < 3400
                · skip
                  rw [if_pos c131] at e
                  refine xok_eqb (h125.ai (o := 253 + 3) (n := 3400) (xoF_all (show xoF 253 by unfold xoF; omega) (Q := fun p => p + 3 < 276) (by decide) (by decide) (by decide) (by decide) (by decide) (by decide) (by decide)) (xoF_all (show xoF 253 by unfold xoF; omega) (Q := fun p => xl_t (p + 3) = (2, 3, 3400)) rfl rfl rfl rfl rfl rfl rfl) (by decide) c131.1 c131.2) ?_
                  refine xok_eqb (h125.pt (o := 0) (c := 15) (k := 80) (t := 253) (n := 107) (by decide) rfl (by decide) (by decide +kernel)) ?_
                  refine xok_eqb (h125.pt (o := 253) (c := 12) (k := 1) (t := 253 + 2) (n := 4) (xoF_o (show xoF 253 by unfold xoF; omega)).1 (xoF_o (show xoF 253 by unfold xoF; omega)).2 (by decide) (xoF_all (show xoF 253 by unfold xoF; omega) (Q := fun p => (p, 1, p + 2) ∈ xl_P) (by decide +kernel) (by decide +kernel) (by decide +kernel) (by decide +kernel) (by decide +kernel) (by decide +kernel) (by decide +kernel))) ?_
                  obtain ⟨R132, e133, e⟩ := xbnd e
                  refine xok_call (sg329 hI  h125 tx1 (show xin (-1) by decide) (h125.aln (o := 253 + 1) (n := 3400) (xoF_all (show xoF 253 by unfold xoF; omega) (Q := fun p => p + 1 < 276) (by decide) (by decide) (by decide) (by decide) (by decide) (by decide) (by decide)) (xoF_all (show xoF 253 by unfold xoF; omega) (Q := fun p => xl_t (p + 1) = (2, 4, 3400)) rfl rfl rfl rfl rfl rfl rfl)  c130.1 c130.2) (h125.ain (o := 253 + 3) (n := 3400) (xoF_all (show xoF 253 by unfold xoF; omega) (Q := fun p => p + 3 < 276) (by decide) (by decide) (by decide) (by decide) (by decide) (by decide) (by decide)) (xoF_all (show xoF 253 by unfold xoF; omega) (Q := fun p => xl_t (p + 3) = (2, 3, 3400)) rfl rfl rfl rfl rfl rfl rfl) (by decide) c131.1 c131.2) (xoF_all (show xoF 253 by unfold xoF; omega) (Q := fun p => xoJ (p + 2)) ⟨by decide, rfl⟩ ⟨by decide, rfl⟩ ⟨by decide, rfl⟩ ⟨by decide, rfl⟩ ⟨by decide, rfl⟩ ⟨by decide, rfl⟩ ⟨by decide, rfl⟩) (xin_wr _) e133) ?_
                  intro M136 h134
                  exact s328_104 hI  hr6 h134 tx1 tx2 tx3 tx4 (xin_wr _) tx6 e
                · rw [if_neg c131] at e; cases e
              · rw [if_neg c130] at e; cases e
          · rw [if_neg c128] at e
            exact s328_104 hI  hr6 h125 tx1 tx2 tx3 tx4 tx5 tx6 e
      · rw [if_neg c121] at e; cases e
    · rw [if_neg c120] at e; cases e
theorem s328_6 {m f : Nat} {M0 : xj_M} (hI : xHI f)     : ∀ {n : Nat} {M : xj_M} {G : xG_} {x1 : Nat} {x2 : Nat} {x3 : Int} {x4 : Int} {x5 : Int} {x6 : Int} {R : Int × xG_}, xRX m M0 M G → xoL x1 → xoL x2 → xin x3 → xin x4 → xin x5 → xin x6 → g328_6   f n x1 x2 x3 x4 x5 x6 G = some R → xok (f328_6   f n m (m + x1) (m + x2) x3 x4 x5 x6 M) (fun r => r.1 = R.1 ∧ xRX m M0 r.2 R.2 ∧ xin R.1) := by
  intro n
  induction n with
  | zero => intros; rename_i e; cases e
  | succ n ih =>
    intros
    rename_i h i0 i1 i2 i3 i4 i5 e
    exact s328_6b hI   ih h i0 i1 i2 i3 i4 i5 e
theorem sg328 {m f : Nat} {M0 M : xj_M} {G : xG_} (hI : xHI f)   (h : xRX m M0 M G) {a1 : Nat} {a2 : Nat} {a3 : Int} {a4 : Int} {R : Int × xG_} (ta1 : xoL a1) (ta2 : xoL a2) (ta3 : xin a3) (ta4 : xin a4) (e : g328  f a1 a2 a3 a4 G = some R) : xok (f328  f m (m + a1) (m + a2) a3 a4 M) (fun r => r.1 = R.1 ∧ xRX m M0 r.2 R.2 ∧ xin R.1) := by
  unfold g328 at e
  unfold f328
  exact s328_6 hI   h ta1 ta2 ta3 ta4 (show xin (0) by decide) (show xin (0) by decide) e
-- ChangeHouseModel.signOf
theorem s351_15 {m f : Nat} {M0 M : xj_M} {G : xG_} (hI : xHI f)     (h : xRX m M0 M G)  {R : Int × xG_}  (e : g351_15   f  G = some R) : xok (f351_15   f m M) (fun r => r.1 = R.1 ∧ xRX m M0 r.2 R.2 ∧ xiN R.1) := by
  unfold g351_15 at e
  unfold f351_15
  obtain ⟨M101, q102, h103⟩ := h.pi (v := 2) (o := 0) (c := 15) (k := 91) (n := 107) (by decide) rfl (by decide) (by decide) (show xin (2) by decide)
  refine xok_eqb q102 ?_
  obtain ⟨G104, g1, e⟩ := xbnd e
  cases g1
  have h103_ : xRX m M0 M101 (xup2 G (0) 91 (2)) := h103
  generalize hGG104 : (xup2 G (0) 91 (2)) = G104 at e h103
  clear h103_ hGG104
  cases e
  exact ⟨_, rfl, rfl, h103, (show xiN (0) by decide)⟩
theorem s351_49 {m f : Nat} {M0 M : xj_M} {G : xG_} (hI : xHI f)     (h : xRX m M0 M G) {x6 : Int} {R : Int × xG_} (tx6 : xiN x6) (e : g351_49   f x6 G = some R) : xok (f351_49   f x6 M) (fun r => r.1 = R.1 ∧ xRX m M0 r.2 R.2 ∧ xiN R.1) := by
  unfold g351_49 at e
  unfold f351_49
  cases e
  exact ⟨_, rfl, rfl, h, tx6⟩
theorem sg351 {m f : Nat} {M0 M : xj_M} {G : xG_} (hI : xHI f)   (h : xRX m M0 M G) {a1 : Int} {a2 : Int} {a3 : Int} {R : Int × xG_} (ta1 : xin a1) (ta2 : xiN a2) (ta3 : xiN a3) (e : g351  f a1 a2 a3 G = some R) : xok (f351  f m a1 a2 a3 M) (fun r => r.1 = R.1 ∧ xRX m M0 r.2 R.2 ∧ xiN R.1) := by
  unfold g351 at e
  unfold f351
  obtain ⟨R105, e106, e⟩ := xbnd e
  refine xok_call (sg267 hI  h ta2 e106) ?_
  rintro ⟨v_, M109⟩ ⟨hv_, h107, hi108⟩
  cases hv_
  refine xok_ite (fun c110 => ?_) (fun c110 => ?_)
  · rw [if_pos c110] at e
    exact s351_15 hI   h107  e
  · rw [if_neg c110] at e
    obtain ⟨R111, e112, e⟩ := xbnd e
    refine xok_call (sg267 hI  h107 ta3 e112) ?_
    rintro ⟨v_, M115⟩ ⟨hv_, h113, hi114⟩
    cases hv_
    refine xok_ite (fun c116 => ?_) (fun c116 => ?_)
    · rw [if_pos c116] at e
      obtain ⟨M117, q118, h119⟩ := h113.pb (v := 0) (o := 0) (c := 15) (k := 42) (n := 107) (by decide) rfl (by decide) (by decide) (by decide)
      refine xok_eqb q118 ?_
      obtain ⟨G120, g1, e⟩ := xbnd e
      cases g1
      have h119_ : xRX m M0 M117 (xup2 R111.2 (0) 42 (0)) := h119
      generalize hGG120 : (xup2 R111.2 (0) 42 (0)) = G120 at e h119
      clear h119_ hGG120
      obtain ⟨R121, e122, e⟩ := xbnd e
      refine xok_eqb (h119.is (o := 0) (c := 15) (by decide) rfl) ?_
      refine xok_call (sg268 hI  h119 ta1 ta2 ta3 e122) ?_
      rintro ⟨v_, M125⟩ ⟨hv_, h123, hi124⟩
      cases hv_
      refine xok_eqb (h123.gi (o := 0) (c := 15) (k := 42) (n := 107) (by decide) rfl (by decide) (by decide)) ?_
      refine xok_ite (fun c126 => ?_) (fun c126 => ?_)
      · rw [if_pos c126] at e
        exact s351_49 hI   h123 hi124 e
      · rw [if_neg c126] at e
        obtain ⟨M127, q128, h129⟩ := h123.pi (v := 3) (o := 0) (c := 15) (k := 91) (n := 107) (by decide) rfl (by decide) (by decide) (show xin (3) by decide)
        refine xok_eqb q128 ?_
        obtain ⟨G130, g1, e⟩ := xbnd e
        cases g1
        have h129_ : xRX m M0 M127 (xup2 R121.2 (0) 91 (3)) := h129
        generalize hGG130 : (xup2 R121.2 (0) 91 (3)) = G130 at e h129
        clear h129_ hGG130
        exact s351_49 hI   h129 hi124 e
    · rw [if_neg c116] at e
      exact s351_15 hI   h113  e
-- ChangeHouseModel.atomRow
theorem s375_62 {m f : Nat} {M0 M : xj_M} {G : xG_} (hI : xHI f)  {r4 : Int → Int → xG_ → Option (Int × xG_)} {o4 : Nat → Int → Int → xj_M → Option (Int × xj_M)}  (hr4 : ∀ {M : xj_M} {G : xG_} {x2 : Int} {x3 : Int} {R : Int × xG_}, xRX m M0 M G → xin x2 → xin x3 → r4 x2 x3 G = some R → xok (o4 m x2 x3 M) (fun r => r.1 = R.1 ∧ xRX m M0 r.2 R.2 ∧ xin R.1)) (h : xRX m M0 M G) {x2 : Int} {x3 : Int} {R : Int × xG_} (tx2 : xin x2) (tx3 : xin x3) (e : g375_62  r4 f x2 x3 G = some R) : xok (f375_62  o4 f m x2 x3 M) (fun r => r.1 = R.1 ∧ xRX m M0 r.2 R.2 ∧ xin R.1) := by
  unfold g375_62 at e
  unfold f375_62
  exact hr4 h tx2 (xin_wr _) e
theorem s375_4b {m f : Nat} {M0 M : xj_M} {G : xG_} (hI : xHI f)  {r4 : Int → Int → xG_ → Option (Int × xG_)} {o4 : Nat → Int → Int → xj_M → Option (Int × xj_M)}  (hr4 : ∀ {M : xj_M} {G : xG_} {x2 : Int} {x3 : Int} {R : Int × xG_}, xRX m M0 M G → xin x2 → xin x3 → r4 x2 x3 G = some R → xok (o4 m x2 x3 M) (fun r => r.1 = R.1 ∧ xRX m M0 r.2 R.2 ∧ xin R.1)) (h : xRX m M0 M G) {x2 : Int} {x3 : Int} {R : Int × xG_} (tx2 : xin x2) (tx3 : xin x3) (e : g375_4b  r4 f x2 x3 G = some R) : xok (f375_4b  o4 f m x2 x3 M) (fun r => r.1 = R.1 ∧ xRX m M0 r.2 R.2 ∧ xin R.1) := by
  unfold g375_4b at e
  unfold f375_4b
  refine xok_eqb (h.pt (o := 0) (c := 15) (k := 29) (t := 2) (n := 107) (by decide) rfl (by decide) (by decide +kernel)) ?_
  refine xok_eqb (h.pt (o := 2) (c := 14) (k := 21) (t := 2 + 19) (n := 38) (xoP_o (show xoP 2 by unfold xoP; omega)).1 (xoP_o (show xoP 2 by unfold xoP; omega)).2 (by decide) (xoP_all (show xoP 2 by unfold xoP; omega) (Q := fun p => (p, 21, p + 19) ∈ xl_P) (by decide +kernel) (by decide +kernel) (by decide +kernel))) ?_
  refine xok_eqb (h.gi (o := 0) (c := 15) (k := 39) (n := 107) (by decide) rfl (by decide) (by decide)) ?_
  by_cases c101 : 0 ≤ (G (0) 39) ∧ (G (0) 39) < 25
  · skip
    rw [if_pos c101] at e
    refine xok_eqb (h.ai (o := 2 + 19) (n := 25) (xoP_all (show xoP 2 by unfold xoP; omega) (Q := fun p => p + 19 < 276) (by decide) (by decide) (by decide)) (xoP_all (show xoP 2 by unfold xoP; omega) (Q := fun p => xl_t (p + 19) = (2, 3, 25)) rfl rfl rfl) (by decide) c101.1 c101.2) ?_
    refine xok_ite (fun c102 => ?_) (fun c102 => ?_)
    · rw [if_pos c102] at e
      cases e
      exact ⟨_, rfl, rfl, h, (show xin (-1) by decide)⟩
    · rw [if_neg c102] at e
      refine xok_eqb (h.gi (o := 0) (c := 15) (k := 39) (n := 107) (by decide) rfl (by decide) (by decide)) ?_
      refine xok_eqb (h.pt (o := 0) (c := 15) (k := 29) (t := 2) (n := 107) (by decide) rfl (by decide) (by decide +kernel)) ?_
      refine xok_eqb (h.pt (o := 2) (c := 14) (k := 27) (t := 2 + 25) (n := 38) (xoP_o (show xoP 2 by unfold xoP; omega)).1 (xoP_o (show xoP 2 by unfold xoP; omega)).2 (by decide) (xoP_all (show xoP 2 by unfold xoP; omega) (Q := fun p => (p, 27, p + 25) ∈ xl_P) (by decide +kernel) (by decide +kernel) (by decide +kernel))) ?_
      by_cases c103 : 0 ≤ (xwr ((xwr ((G (0) 39) * (8))) + (x3))) ∧ (xwr ((xwr ((G (0) 39) * (8))) + (x3))) < 200
      · skip
        rw [if_pos c103] at e
        refine xok_eqb (h.ai (o := 2 + 25) (n := 200) (xoP_all (show xoP 2 by unfold xoP; omega) (Q := fun p => p + 25 < 276) (by decide) (by decide) (by decide)) (xoP_all (show xoP 2 by unfold xoP; omega) (Q := fun p => xl_t (p + 25) = (2, 3, 200)) rfl rfl rfl) (by decide) c103.1 c103.2) ?_
        refine xok_ite (fun c104 => ?_) (fun c104 => ?_)
        · rw [if_pos c104] at e
          refine xok_ite (fun c105 => ?_) (fun c105 => ?_)
          · rw [if_pos c105] at e
            exact s375_62 hI  hr4 h (xin_wr _) tx3 e
          · rw [if_neg c105] at e
            obtain ⟨R106, e107, e⟩ := xbnd e
            refine xok_eqb (h.is (o := 0) (c := 15) (by decide) rfl) ?_
            refine xok_call (sg376 hI  h (xin_wr _) e107) ?_
            rintro ⟨v_, M110⟩ ⟨hv_, h108, hi109⟩
            cases hv_
            cases e
            exact ⟨_, rfl, rfl, h108, hi109⟩
        · rw [if_neg c104] at e
          exact s375_62 hI  hr4 h tx2 tx3 e
      · rw [if_neg c103] at e; cases e
  · rw [if_neg c101] at e; cases e
theorem s375_4 {m f : Nat} {M0 : xj_M} (hI : xHI f)     : ∀ {n : Nat} {M : xj_M} {G : xG_} {x2 : Int} {x3 : Int} {R : Int × xG_}, xRX m M0 M G → xin x2 → xin x3 → g375_4   f n x2 x3 G = some R → xok (f375_4   f n m x2 x3 M) (fun r => r.1 = R.1 ∧ xRX m M0 r.2 R.2 ∧ xin R.1) := by
  intro n
  induction n with
  | zero => intros; rename_i e; cases e
  | succ n ih =>
    intros
    rename_i h i0 i1 e
    exact s375_4b hI   ih h i0 i1 e
theorem sg375 {m f : Nat} {M0 M : xj_M} {G : xG_} (hI : xHI f)   (h : xRX m M0 M G) {a1 : Int} {R : Int × xG_} (ta1 : xin a1) (e : g375  f a1 G = some R) : xok (f375  f m a1 M) (fun r => r.1 = R.1 ∧ xRX m M0 r.2 R.2 ∧ xin R.1) := by
  unfold g375 at e
  unfold f375
  exact s375_4 hI   h ta1 (show xin (0) by decide) e
-- ChangeHouseModel.begin
theorem sg212 {m f : Nat} {M0 M : xj_M} {G : xG_} (hI : xHI f)   (h : xRX m M0 M G) {a1 : Nat} {a2 : Int} {a3 : Int} {R : xG_} (ta1 : xoB a1) (ta2 : xin a2) (ta3 : xin a3) (e : g212  f a1 a2 a3 G = some R) : xok (f212  f m (m + a1) a2 a3 M) (fun r => xRX m M0 r R) := by
  unfold g212 at e
  unfold f212
  obtain ⟨M101, q102, h103⟩ := h.psrc ta1
  refine xok_eqb q102 ?_
  obtain ⟨G104, g1, e⟩ := xbnd e
  cases g1
  have h103_ : xRX m M0 M101 (xup2 G (0) 0 (((a1 : Nat) : Int))) := h103
  generalize hGG104 : (xup2 G (0) 0 (((a1 : Nat) : Int))) = G104 at e h103
  clear h103_ hGG104
  obtain ⟨M105, q106, h107⟩ := h103.pi (v := a3) (o := 0) (c := 15) (k := 1) (n := 107) (by decide) rfl (by decide) (by decide) ta3
  refine xok_eqb q106 ?_
  obtain ⟨G108, g1, e⟩ := xbnd e
  cases g1
  have h107_ : xRX m M0 M105 (xup2 G104 (0) 1 (a3)) := h107
  generalize hGG108 : (xup2 G104 (0) 1 (a3)) = G108 at e h107
  clear h107_ hGG108
  obtain ⟨M109, q110, h111⟩ := h107.pi (v := -1) (o := 0) (c := 15) (k := 7) (n := 107) (by decide) rfl (by decide) (by decide) (show xin (-1) by decide)
  refine xok_eqb q110 ?_
  obtain ⟨G112, g1, e⟩ := xbnd e
  cases g1
  have h111_ : xRX m M0 M109 (xup2 G108 (0) 7 (-1)) := h111
  generalize hGG112 : (xup2 G108 (0) 7 (-1)) = G112 at e h111
  clear h111_ hGG112
  obtain ⟨M113, q114, h115⟩ := h111.pi (v := a2) (o := 0) (c := 15) (k := 5) (n := 107) (by decide) rfl (by decide) (by decide) ta2
  refine xok_eqb q114 ?_
  obtain ⟨G116, g1, e⟩ := xbnd e
  cases g1
  have h115_ : xRX m M0 M113 (xup2 G112 (0) 5 (a2)) := h115
  generalize hGG116 : (xup2 G112 (0) 5 (a2)) = G116 at e h115
  clear h115_ hGG116
  obtain ⟨M117, q118, h119⟩ := h115.pi (v := 0) (o := 0) (c := 15) (k := 8) (n := 107) (by decide) rfl (by decide) (by decide) (show xin (0) by decide)
  refine xok_eqb q118 ?_
  obtain ⟨G120, g1, e⟩ := xbnd e
  cases g1
  have h119_ : xRX m M0 M117 (xup2 G116 (0) 8 (0)) := h119
  generalize hGG120 : (xup2 G116 (0) 8 (0)) = G120 at e h119
  clear h119_ hGG120
  obtain ⟨M121, q122, h123⟩ := h119.pb (v := 0) (o := 0) (c := 15) (k := 11) (n := 107) (by decide) rfl (by decide) (by decide) (by decide)
  refine xok_eqb q122 ?_
  obtain ⟨G124, g1, e⟩ := xbnd e
  cases g1
  have h123_ : xRX m M0 M121 (xup2 G120 (0) 11 (0)) := h123
  generalize hGG124 : (xup2 G120 (0) 11 (0)) = G124 at e h123
  clear h123_ hGG124
  obtain ⟨R125, e126, e⟩ := xbnd e
  refine xok_eqb (h123.is (o := 0) (c := 15) (by decide) rfl) ?_
  refine xok_call (sg214 hI  h123  e126) ?_
  intro M129 h127
  cases e
  exact ⟨_, rfl, h127⟩
-- ChangeHouseModel.pass
theorem s213_31 {m f : Nat} {M0 M : xj_M} {G : xG_} (hI : xHI f)     (h : xRX m M0 M G)  {R : xG_}  (e : g213_31   f  G = some R) : xok (f213_31   f  M) (fun r => xRX m M0 r R) := by
  unfold g213_31 at e
  unfold f213_31
  cases e
  exact ⟨_, rfl, h⟩
theorem sg213 {m f : Nat} {M0 M : xj_M} {G : xG_} (hI : xHI f)   (h : xRX m M0 M G)  {R : xG_}  (e : g213  f  G = some R) : xok (f213  f m M) (fun r => xRX m M0 r R) := by
  unfold g213 at e
  unfold f213
  obtain ⟨R101, e102, e⟩ := xbnd e
  refine xok_eqb (h.is (o := 0) (c := 15) (by decide) rfl) ?_
  refine xok_call (sg211 hI  h  e102) ?_
  rintro ⟨v_, M105⟩ ⟨hv_, h103, hi104⟩
  cases hv_
  refine xok_ite (fun c106 => ?_) (fun c106 => ?_)
  · rw [if_pos c106] at e
    refine xok_eqb (h103.gi (o := 0) (c := 15) (k := 6) (n := 107) (by decide) rfl (by decide) (by decide)) ?_
    refine xok_ite (fun c107 => ?_) (fun c107 => ?_)
    · rw [if_pos c107] at e
      obtain ⟨R108, e109, e⟩ := xbnd e
      refine xok_eqb (h103.is (o := 0) (c := 15) (by decide) rfl) ?_
      refine xok_call (sg214 hI  h103  e109) ?_
      intro M112 h110
      exact s213_31 hI   h110  e
    · rw [if_neg c107] at e
      refine xok_eqb (h103.gi (o := 0) (c := 15) (k := 6) (n := 107) (by decide) rfl (by decide) (by decide)) ?_
      obtain ⟨R113, e114, e⟩ := xbnd e
      refine xok_eqb (h103.is (o := 0) (c := 15) (by decide) rfl) ?_
      refine xok_call (sg210 hI  h103 (h103.gin (o := 0) (c := 15) (k := 6) (n := 107) (by decide) rfl (by decide) (by decide)) e114) ?_
      intro M117 h115
      exact s213_31 hI   h115  e
  · rw [if_neg c106] at e
    cases e
    exact ⟨_, rfl, h103⟩
-- ChangeHouseModel.need
theorem s222_23 {m f : Nat} {M0 M : xj_M} {G : xG_} (hI : xHI f)     (h : xRX m M0 M G)  {R : xG_}  (e : g222_23   f  G = some R) : xok (f222_23   f  M) (fun r => xRX m M0 r R) := by
  unfold g222_23 at e
  unfold f222_23
  cases e
  exact ⟨_, rfl, h⟩
theorem sg222 {m f : Nat} {M0 M : xj_M} {G : xG_} (hI : xHI f)   (h : xRX m M0 M G) {a1 : Int} {R : xG_} (ta1 : xin a1) (e : g222  f a1 G = some R) : xok (f222  f m a1 M) (fun r => xRX m M0 r R) := by
  unfold g222 at e
  unfold f222
  obtain ⟨R101, e102, e⟩ := xbnd e
  refine xok_eqb (h.is (o := 0) (c := 15) (by decide) rfl) ?_
  refine xok_call (sg220 hI  h ta1 e102) ?_
  rintro ⟨v_, M105⟩ ⟨hv_, h103, hi104⟩
  cases hv_
  refine xok_ite (fun c106 => ?_) (fun c106 => ?_)
  · rw [if_pos c106] at e
    refine xok_eqb (h103.gi (o := 0) (c := 15) (k := 4) (n := 107) (by decide) rfl (by decide) (by decide)) ?_
    obtain ⟨R107, e108, e⟩ := xbnd e
    refine xok_eqb (h103.is (o := 0) (c := 15) (by decide) rfl) ?_
    refine xok_call (sg210 hI  h103 (h103.gin (o := 0) (c := 15) (k := 4) (n := 107) (by decide) rfl (by decide) (by decide)) e108) ?_
    intro M111 h109
    exact s222_23 hI   h109  e
  · rw [if_neg c106] at e
    obtain ⟨R112, e113, e⟩ := xbnd e
    refine xok_eqb (h103.is (o := 0) (c := 15) (by decide) rfl) ?_
    refine xok_call (sg213 hI  h103  e113) ?_
    intro M116 h114
    exact s222_23 hI   h114  e
-- ChangeHouseModel.value
theorem s227_32 {m f : Nat} {M0 M : xj_M} {G : xG_} (hI : xHI f)     (h : xRX m M0 M G) {y0 : Int} {R : Int × xG_} (ty0 : xin y0) (e : g227_32   f y0 G = some R) : xok (f227_32   f y0 M) (fun r => r.1 = R.1 ∧ xRX m M0 r.2 R.2 ∧ xin R.1) := by
  unfold g227_32 at e
  unfold f227_32
  refine xok_ite (fun c101 => ?_) (fun c101 => ?_)
  · rw [if_pos c101] at e; cases e; exact ⟨_, rfl, rfl, h, ty0⟩
  · rw [if_neg c101] at e; cases e
theorem s227_113 {m f : Nat} {M0 M : xj_M} {G : xG_} (hI : xHI f)     (h : xRX m M0 M G) {y0 : Int} {R : Int × xG_} (ty0 : xin y0) (e : g227_113   f y0 G = some R) : xok (f227_113   f y0 M) (fun r => r.1 = R.1 ∧ xRX m M0 r.2 R.2 ∧ xin R.1) := by
  unfold g227_113 at e
  unfold f227_113
  refine xok_ite (fun c102 => ?_) (fun c102 => ?_)
  · rw [if_pos c102] at e; cases e; exact ⟨_, rfl, rfl, h, ty0⟩
  · rw [if_neg c102] at e; cases e
theorem s227_132 {m f : Nat} {M0 M : xj_M} {G : xG_} (hI : xHI f)     (h : xRX m M0 M G)  {R : Int × xG_}  (e : g227_132   f  G = some R) : xok (f227_132   f m M) (fun r => r.1 = R.1 ∧ xRX m M0 r.2 R.2 ∧ xin R.1) := by
  unfold g227_132 at e
  unfold f227_132
  refine xok_eqb (h.gi (o := 0) (c := 15) (k := 4) (n := 107) (by decide) rfl (by decide) (by decide)) ?_
  obtain ⟨R103, e104, e⟩ := xbnd e
  refine xok_eqb (h.is (o := 0) (c := 15) (by decide) rfl) ?_
  refine xok_call (sg210 hI  h (h.gin (o := 0) (c := 15) (k := 4) (n := 107) (by decide) rfl (by decide) (by decide)) e104) ?_
  intro M107 h105
  cases e
  exact ⟨_, rfl, rfl, h105, (show xin (0) by decide)⟩
theorem s227_166 {m f : Nat} {M0 M : xj_M} {G : xG_} (hI : xHI f)     (h : xRX m M0 M G) {y0 : Int} {R : Int × xG_} (ty0 : xin y0) (e : g227_166   f y0 G = some R) : xok (f227_166   f y0 M) (fun r => r.1 = R.1 ∧ xRX m M0 r.2 R.2 ∧ xin R.1) := by
  unfold g227_166 at e
  unfold f227_166
  refine xok_ite (fun c108 => ?_) (fun c108 => ?_)
  · rw [if_pos c108] at e; cases e; exact ⟨_, rfl, rfl, h, ty0⟩
  · rw [if_neg c108] at e; cases e
theorem sg227 {m f : Nat} {M0 M : xj_M} {G : xG_} (hI : xHI f)   (h : xRX m M0 M G)  {R : Int × xG_}  (e : g227  f  G = some R) : xok (f227  f m M) (fun r => r.1 = R.1 ∧ xRX m M0 r.2 R.2 ∧ xin R.1) := by
  unfold g227 at e
  unfold f227
  obtain ⟨R109, e110, e⟩ := xbnd e
  refine xok_eqb (h.is (o := 0) (c := 15) (by decide) rfl) ?_
  refine xok_call (sg221 hI  h (show xin (5) by decide) e110) ?_
  rintro ⟨v_, M113⟩ ⟨hv_, h111, hi112⟩
  cases hv_
  refine xok_ite (fun c114 => ?_) (fun c114 => ?_)
  · rw [if_pos c114] at e
    obtain ⟨R115, e116, e⟩ := xbnd e
    refine xok_eqb (h111.is (o := 0) (c := 15) (by decide) rfl) ?_
    refine xok_call (sg220 hI  h111 (show xin (45) by decide) e116) ?_
    rintro ⟨v_, M119⟩ ⟨hv_, h117, hi118⟩
    cases hv_
    refine xok_ite (fun c120 => ?_) (fun c120 => ?_)
    · rw [if_pos c120] at e
      obtain ⟨R121, e122, e⟩ := xbnd e
      refine xok_eqb (h117.is (o := 0) (c := 15) (by decide) rfl) ?_
      refine xok_call (sg226 hI  h117  e122) ?_
      rintro ⟨v_, M125⟩ ⟨hv_, h123, hi124⟩
      cases hv_
      refine xok_ite (fun c126 => ?_) (fun c126 => ?_)
      · rw [if_pos c126] at e
        exact s227_132 hI   h123  e
      · rw [if_neg c126] at e
        refine xok_eqb (h123.gl (o := 0) (c := 15) (k := 10) (n := 107) (by decide) rfl (by decide) (by decide)) ?_
        refine xok_ite (fun c127 => ?_) (fun c127 => ?_)
        · rw [if_pos c127] at e
          refine xok_eqb (h123.gl (o := 0) (c := 15) (k := 10) (n := 107) (by decide) rfl (by decide) (by decide)) ?_
          obtain ⟨M128, q129, h130⟩ := h123.pl (v := R121.2 (0) 10) (o := 0) (c := 15) (k := 21) (n := 107) (by decide) rfl (by decide) (by decide) (h123.gln (o := 0) (c := 15) (k := 10) (n := 107) (by decide) rfl (by decide) (by decide))
          refine xok_eqb q129 ?_
          obtain ⟨G131, g1, e⟩ := xbnd e
          cases g1
          have h130_ : xRX m M0 M128 (xup2 R121.2 (0) 21 (R121.2 (0) 10)) := h130
          generalize hGG131 : (xup2 R121.2 (0) 21 (R121.2 (0) 10)) = G131 at e h130
          clear h130_ hGG131
          obtain ⟨R132, e133, e⟩ := xbnd e
          refine xok_eqb (h130.is (o := 0) (c := 15) (by decide) rfl) ?_
          refine xok_call (sg213 hI  h130  e133) ?_
          intro M136 h134
          obtain ⟨R137, e138, e⟩ := xbnd e
          refine xok_eqb (h134.is (o := 0) (c := 15) (by decide) rfl) ?_
          refine xok_call (sg211 hI  h134  e138) ?_
          rintro ⟨v_, M141⟩ ⟨hv_, h139, hi140⟩
          cases hv_
          refine xok_ite (fun c142 => ?_) (fun c142 => ?_)
          · rw [if_pos c142] at e
            exact s227_166 hI   h139 (show xin (0) by decide) e
          · rw [if_neg c142] at e
            exact s227_166 hI   h139 (show xin (1) by decide) e
        · rw [if_neg c127] at e
          exact s227_132 hI   h123  e
    · rw [if_neg c120] at e
      refine xok_eqb (h117.gi (o := 0) (c := 15) (k := 5) (n := 107) (by decide) rfl (by decide) (by decide)) ?_
      obtain ⟨R143, e144, e⟩ := xbnd e
      refine xok_eqb (h117.is (o := 0) (c := 15) (by decide) rfl) ?_
      refine xok_call (sg209 hI  h117 (h117.gin (o := 0) (c := 15) (k := 5) (n := 107) (by decide) rfl (by decide) (by decide)) e144) ?_
      rintro ⟨v_, M147⟩ ⟨hv_, h145, hi146⟩
      cases hv_
      obtain ⟨R148, e149, e⟩ := xbnd e
      refine xok_call (sg208 hI  h145 hi146 e149) ?_
      rintro ⟨v_, M152⟩ ⟨hv_, h150, hi151⟩
      cases hv_
      refine xok_ite (fun c153 => ?_) (fun c153 => ?_)
      · rw [if_pos c153] at e
        obtain ⟨R154, e155, e⟩ := xbnd e
        refine xok_eqb (h150.is (o := 0) (c := 15) (by decide) rfl) ?_
        refine xok_call (sg213 hI  h150  e155) ?_
        intro M158 h156
        obtain ⟨R159, e160, e⟩ := xbnd e
        refine xok_eqb (h156.is (o := 0) (c := 15) (by decide) rfl) ?_
        refine xok_call (sg221 hI  h156 (show xin (5) by decide) e160) ?_
        rintro ⟨v_, M163⟩ ⟨hv_, h161, hi162⟩
        cases hv_
        refine xok_ite (fun c164 => ?_) (fun c164 => ?_)
        · rw [if_pos c164] at e
          refine xok_eqb (h161.gl (o := 0) (c := 15) (k := 9) (n := 107) (by decide) rfl (by decide) (by decide)) ?_
          obtain ⟨M165, q166, h167⟩ := h161.pl (v := xneg8 (R159.2 (0) 9)) (o := 0) (c := 15) (k := 21) (n := 107) (by decide) rfl (by decide) (by decide) (xiN_of _)
          refine xok_eqb q166 ?_
          obtain ⟨G168, g1, e⟩ := xbnd e
          cases g1
          have h167_ : xRX m M0 M165 (xup2 R159.2 (0) 21 (xneg8 (R159.2 (0) 9))) := h167
          generalize hGG168 : (xup2 R159.2 (0) 21 (xneg8 (R159.2 (0) 9))) = G168 at e h167
          clear h167_ hGG168
          obtain ⟨R169, e170, e⟩ := xbnd e
          refine xok_eqb (h167.is (o := 0) (c := 15) (by decide) rfl) ?_
          refine xok_call (sg213 hI  h167  e170) ?_
          intro M173 h171
          obtain ⟨R174, e175, e⟩ := xbnd e
          refine xok_eqb (h171.is (o := 0) (c := 15) (by decide) rfl) ?_
          refine xok_call (sg211 hI  h171  e175) ?_
          rintro ⟨v_, M178⟩ ⟨hv_, h176, hi177⟩
          cases hv_
          refine xok_ite (fun c179 => ?_) (fun c179 => ?_)
          · rw [if_pos c179] at e
            exact s227_113 hI   h176 (show xin (0) by decide) e
          · rw [if_neg c179] at e
            exact s227_113 hI   h176 (show xin (1) by decide) e
        · rw [if_neg c164] at e
          refine xok_eqb (h161.gi (o := 0) (c := 15) (k := 4) (n := 107) (by decide) rfl (by decide) (by decide)) ?_
          obtain ⟨R180, e181, e⟩ := xbnd e
          refine xok_eqb (h161.is (o := 0) (c := 15) (by decide) rfl) ?_
          refine xok_call (sg210 hI  h161 (h161.gin (o := 0) (c := 15) (k := 4) (n := 107) (by decide) rfl (by decide) (by decide)) e181) ?_
          intro M184 h182
          cases e
          exact ⟨_, rfl, rfl, h182, (show xin (0) by decide)⟩
      · rw [if_neg c153] at e
        refine xok_eqb (h150.gi (o := 0) (c := 15) (k := 4) (n := 107) (by decide) rfl (by decide) (by decide)) ?_
        obtain ⟨R185, e186, e⟩ := xbnd e
        refine xok_eqb (h150.is (o := 0) (c := 15) (by decide) rfl) ?_
        refine xok_call (sg210 hI  h150 (h150.gin (o := 0) (c := 15) (k := 4) (n := 107) (by decide) rfl (by decide) (by decide)) e186) ?_
        intro M189 h187
        cases e
        exact ⟨_, rfl, rfl, h187, (show xin (0) by decide)⟩
  · rw [if_neg c114] at e
    refine xok_eqb (h111.gl (o := 0) (c := 15) (k := 9) (n := 107) (by decide) rfl (by decide) (by decide)) ?_
    obtain ⟨M190, q191, h192⟩ := h111.pl (v := R109.2 (0) 9) (o := 0) (c := 15) (k := 21) (n := 107) (by decide) rfl (by decide) (by decide) (h111.gln (o := 0) (c := 15) (k := 9) (n := 107) (by decide) rfl (by decide) (by decide))
    refine xok_eqb q191 ?_
    obtain ⟨G193, g1, e⟩ := xbnd e
    cases g1
    have h192_ : xRX m M0 M190 (xup2 R109.2 (0) 21 (R109.2 (0) 9)) := h192
    generalize hGG193 : (xup2 R109.2 (0) 21 (R109.2 (0) 9)) = G193 at e h192
    clear h192_ hGG193
    obtain ⟨R194, e195, e⟩ := xbnd e
    refine xok_eqb (h192.is (o := 0) (c := 15) (by decide) rfl) ?_
    refine xok_call (sg213 hI  h192  e195) ?_
    intro M198 h196
    obtain ⟨R199, e200, e⟩ := xbnd e
    refine xok_eqb (h196.is (o := 0) (c := 15) (by decide) rfl) ?_
    refine xok_call (sg211 hI  h196  e200) ?_
    rintro ⟨v_, M203⟩ ⟨hv_, h201, hi202⟩
    cases hv_
    refine xok_ite (fun c204 => ?_) (fun c204 => ?_)
    · rw [if_pos c204] at e
      exact s227_32 hI   h201 (show xin (0) by decide) e
    · rw [if_neg c204] at e
      exact s227_32 hI   h201 (show xin (1) by decide) e
-- ChangeHouseModel.needNumber
theorem s233_28 {m f : Nat} {M0 M : xj_M} {G : xG_} (hI : xHI f)     (h : xRX m M0 M G) {x1 : Int} {R : Int × xG_} (tx1 : xin x1) (e : g233_28   f x1 G = some R) : xok (f233_28   f m x1 M) (fun r => r.1 = R.1 ∧ xRX m M0 r.2 R.2 ∧ xin R.1) := by
  unfold g233_28 at e
  unfold f233_28
  refine xok_eqb (h.gi (o := 0) (c := 15) (k := 4) (n := 107) (by decide) rfl (by decide) (by decide)) ?_
  obtain ⟨R101, e102, e⟩ := xbnd e
  refine xok_eqb (h.is (o := 0) (c := 15) (by decide) rfl) ?_
  refine xok_call (sg210 hI  h (h.gin (o := 0) (c := 15) (k := 4) (n := 107) (by decide) rfl (by decide) (by decide)) e102) ?_
  intro M105 h103
  cases e
  exact ⟨_, rfl, rfl, h103, tx1⟩
theorem sg233 {m f : Nat} {M0 M : xj_M} {G : xG_} (hI : xHI f)   (h : xRX m M0 M G) {a1 : Int} {a2 : Int} {R : Int × xG_} (ta1 : xin a1) (ta2 : xin a2) (e : g233  f a1 a2 G = some R) : xok (f233  f m a1 a2 M) (fun r => r.1 = R.1 ∧ xRX m M0 r.2 R.2 ∧ xin R.1) := by
  unfold g233 at e
  unfold f233
  obtain ⟨R106, e107, e⟩ := xbnd e
  refine xok_eqb (h.is (o := 0) (c := 15) (by decide) rfl) ?_
  refine xok_call (sg221 hI  h (show xin (5) by decide) e107) ?_
  rintro ⟨v_, M110⟩ ⟨hv_, h108, hi109⟩
  cases hv_
  refine xok_ite (fun c111 => ?_) (fun c111 => ?_)
  · rw [if_pos c111] at e
    exact s233_28 hI   h108 ta1 e
  · rw [if_neg c111] at e
    refine xok_eqb (h108.gl (o := 0) (c := 15) (k := 9) (n := 107) (by decide) rfl (by decide) (by decide)) ?_
    refine xok_ite (fun c112 => ?_) (fun c112 => ?_)
    · rw [if_pos c112] at e
      exact s233_28 hI   h108 ta1 e
    · rw [if_neg c112] at e
      refine xok_eqb (h108.gl (o := 0) (c := 15) (k := 9) (n := 107) (by decide) rfl (by decide) (by decide)) ?_
      refine xok_ite (fun c113 => ?_) (fun c113 => ?_)
      · rw [if_pos c113] at e
        refine xok_eqb (h108.gl (o := 0) (c := 15) (k := 9) (n := 107) (by decide) rfl (by decide) (by decide)) ?_
        obtain ⟨R114, e115, e⟩ := xbnd e
        refine xok_eqb (h108.is (o := 0) (c := 15) (by decide) rfl) ?_
        refine xok_call (sg213 hI  h108  e115) ?_
        intro M118 h116
        cases e
        exact ⟨_, rfl, rfl, h116, (xin_wr _)⟩
      · rw [if_neg c113] at e
        exact s233_28 hI   h108 ta1 e
-- ChangeHouseModel.readInput
theorem s234_118 {m f : Nat} {M0 M : xj_M} {G : xG_} (hI : xHI f)     (h : xRX m M0 M G) {x1 : Int} {x2 : Int} {x3 : Int} {R : xG_} (tx1 : xin x1) (tx2 : xin x2) (tx3 : xin x3) (e : g234_118   f x1 x2 x3 G = some R) : xok (f234_118   f m x1 x2 x3 M) (fun r => xRX m M0 r R) := by
  unfold g234_118 at e
  unfold f234_118
  obtain ⟨R101, e102, e⟩ := xbnd e
  refine xok_eqb (h.is (o := 0) (c := 15) (by decide) rfl) ?_
  refine xok_call (sg229 hI  h tx2 tx1 tx3 (show xin (1) by decide) e102) ?_
  intro M105 h103
  cases e
  exact ⟨_, rfl, h103⟩
theorem s234_90 {m f : Nat} {M0 M : xj_M} {G : xG_} (hI : xHI f)     (h : xRX m M0 M G) {x1 : Int} {x2 : Int} {x3 : Int} {x4 : Int} {y0 : Int} {R : xG_} (tx1 : xin x1) (tx2 : xin x2) (tx3 : xin x3) (tx4 : xin x4) (ty0 : xin y0) (e : g234_90   f x1 x2 x3 x4 y0 G = some R) : xok (f234_90   f m x1 x2 x3 x4 y0 M) (fun r => xRX m M0 r R) := by
  unfold g234_90 at e
  unfold f234_90
  by_cases c106 : G 0 22 < 0
  · rw [if_pos c106] at e; cases e
  rw [if_neg c106] at e
  refine xok_eqb (h.itp c106) ?_
  refine xok_eqb (h.pt (o := (G 0 22).toNat) (c := 14) (k := 5) (t := (G 0 22).toNat + 6) (n := 38) (xoP_o (h.itt c106)).1 (xoP_o (h.itt c106)).2 (by decide) (xoP_all (h.itt c106) (Q := fun p => (p, 5, p + 6) ∈ xl_P) (by decide +kernel) (by decide +kernel) (by decide +kernel))) ?_
  by_cases c107 : 0 ≤ (x2) ∧ (x2) < 16
  · skip
    rw [if_pos c107] at e
    obtain ⟨M108, q109, h110⟩ := h.sb0 (o := (G 0 22).toNat + 6) (n := 16) (v := 1) (xoP_all (h.itt c106) (Q := fun p => p + 6 < 276) (by decide) (by decide) (by decide)) (xoP_all (h.itt c106) (Q := fun p => xl_t (p + 6) = (2, 0, 16)) rfl rfl rfl) c107.1 c107.2 (by decide)
    refine xok_eqb q109 ?_
    obtain ⟨G111, g1, e⟩ := xbnd e
    cases g1
    have h110_ : xRX m M0 M108 (xup2 G ((G 0 22).toNat + 6) (x2).toNat (1)) := h110
    generalize hGG111 : (xup2 G ((G 0 22).toNat + 6) (x2).toNat (1)) = G111 at e h110
    clear h110_ hGG111
    refine xok_ite (fun c112 => ?_) (fun c112 => ?_)
    · rw [if_pos c112] at e
      exact s234_118 hI   h110 tx1 tx2 tx3 e
    · rw [if_neg c112] at e
      by_cases c113 : G111 0 22 < 0
      · rw [if_pos c113] at e; cases e
      rw [if_neg c113] at e
      refine xok_eqb (h110.itp c113) ?_
      refine xok_eqb (h110.pt (o := (G111 0 22).toNat) (c := 14) (k := 2) (t := (G111 0 22).toNat + 3) (n := 38) (xoP_o (h110.itt c113)).1 (xoP_o (h110.itt c113)).2 (by decide) (xoP_all (h110.itt c113) (Q := fun p => (p, 2, p + 3) ∈ xl_P) (by decide +kernel) (by decide +kernel) (by decide +kernel))) ?_
      by_cases c114 : 0 ≤ (x2) ∧ (x2) < 16
      · skip
        rw [if_pos c114] at e
        obtain ⟨M115, q116, h117⟩ := h110.si (o := (G111 0 22).toNat + 3) (n := 16) (v := x4) (xoP_all (h110.itt c113) (Q := fun p => p + 3 < 276) (by decide) (by decide) (by decide)) (xoP_all (h110.itt c113) (Q := fun p => xl_t (p + 3) = (2, 3, 16)) rfl rfl rfl) c114.1 c114.2 tx4
        refine xok_eqb q116 ?_
        obtain ⟨G118, g1, e⟩ := xbnd e
        cases g1
        have h117_ : xRX m M0 M115 (xup2 G111 ((G111 0 22).toNat + 3) (x2).toNat (x4)) := h117
        generalize hGG118 : (xup2 G111 ((G111 0 22).toNat + 3) (x2).toNat (x4)) = G118 at e h117
        clear h117_ hGG118
        exact s234_118 hI   h117 tx1 tx2 tx3 e
      · rw [if_neg c114] at e; cases e
  · rw [if_neg c107] at e; cases e
theorem s234_59 {m f : Nat} {M0 M : xj_M} {G : xG_} (hI : xHI f)     (h : xRX m M0 M G) {x1 : Int} {x2 : Int} {x3 : Int} {x4 : Int} {R : xG_} (tx1 : xin x1) (tx2 : xin x2) (tx3 : xin x3) (tx4 : xin x4) (e : g234_59   f x1 x2 x3 x4 G = some R) : xok (f234_59   f m x1 x2 x3 x4 M) (fun r => xRX m M0 r R) := by
  unfold g234_59 at e
  unfold f234_59
  obtain ⟨R119, e120, e⟩ := xbnd e
  refine xok_eqb (h.is (o := 0) (c := 15) (by decide) rfl) ?_
  refine xok_call (sg222 hI  h (show xin (46) by decide) e120) ?_
  intro M123 h121
  obtain ⟨R124, e125, e⟩ := xbnd e
  refine xok_eqb (h121.is (o := 0) (c := 15) (by decide) rfl) ?_
  refine xok_call (sg211 hI  h121  e125) ?_
  rintro ⟨v_, M128⟩ ⟨hv_, h126, hi127⟩
  cases hv_
  refine xok_ite (fun c129 => ?_) (fun c129 => ?_)
  · rw [if_pos c129] at e
    by_cases c130 : R124.2 0 22 < 0
    · rw [if_pos c130] at e; cases e
    rw [if_neg c130] at e
    refine xok_eqb (h126.itp c130) ?_
    refine xok_eqb (h126.pt (o := (R124.2 0 22).toNat) (c := 14) (k := 5) (t := (R124.2 0 22).toNat + 6) (n := 38) (xoP_o (h126.itt c130)).1 (xoP_o (h126.itt c130)).2 (by decide) (xoP_all (h126.itt c130) (Q := fun p => (p, 5, p + 6) ∈ xl_P) (by decide +kernel) (by decide +kernel) (by decide +kernel))) ?_
    by_cases c131 : 0 ≤ (x2) ∧ (x2) < 16
    · skip
      rw [if_pos c131] at e
      refine xok_eqb (h126.ab (o := (R124.2 0 22).toNat + 6) (n := 16) (xoP_all (h126.itt c130) (Q := fun p => p + 6 < 276) (by decide) (by decide) (by decide)) (xoP_all (h126.itt c130) (Q := fun p => xl_t (p + 6) = (2, 0, 16)) rfl rfl rfl) (by decide) c131.1 c131.2) ?_
      refine xok_ite (fun c132 => ?_) (fun c132 => ?_)
      · rw [if_pos c132] at e
        exact s234_90 hI   h126 tx1 tx2 tx3 tx4 (show xin (0) by decide) e
      · rw [if_neg c132] at e
        exact s234_90 hI   h126 tx1 tx2 tx3 tx4 (show xin (1) by decide) e
    · rw [if_neg c131] at e; cases e
  · rw [if_neg c129] at e
    cases e
    exact ⟨_, rfl, h126⟩
theorem sg234 {m f : Nat} {M0 M : xj_M} {G : xG_} (hI : xHI f)   (h : xRX m M0 M G)  {R : xG_}  (e : g234  f  G = some R) : xok (f234  f m M) (fun r => xRX m M0 r R) := by
  unfold g234 at e
  unfold f234
  obtain ⟨R133, e134, e⟩ := xbnd e
  refine xok_eqb (h.is (o := 0) (c := 15) (by decide) rfl) ?_
  refine xok_call (sg213 hI  h  e134) ?_
  intro M137 h135
  refine xok_eqb (h135.gi (o := 0) (c := 15) (k := 4) (n := 107) (by decide) rfl (by decide) (by decide)) ?_
  obtain ⟨R138, e139, e⟩ := xbnd e
  refine xok_eqb (h135.is (o := 0) (c := 15) (by decide) rfl) ?_
  refine xok_call (sg232 hI  h135  e139) ?_
  rintro ⟨v_, M142⟩ ⟨hv_, h140, hi141⟩
  cases hv_
  obtain ⟨R143, e144, e⟩ := xbnd e
  refine xok_eqb (h140.is (o := 0) (c := 15) (by decide) rfl) ?_
  refine xok_call (sg213 hI  h140  e144) ?_
  intro M147 h145
  obtain ⟨R148, e149, e⟩ := xbnd e
  refine xok_eqb (h145.is (o := 0) (c := 15) (by decide) rfl) ?_
  refine xok_call (sg222 hI  h145 (show xin (47) by decide) e149) ?_
  intro M152 h150
  obtain ⟨R153, e154, e⟩ := xbnd e
  refine xok_eqb (h150.is (o := 0) (c := 15) (by decide) rfl) ?_
  refine xok_call (sg233 hI  h150 (show xin (1) by decide) (show xin (4) by decide) e154) ?_
  rintro ⟨v_, M157⟩ ⟨hv_, h155, hi156⟩
  cases hv_
  refine xok_eqb (h155.gl (o := 0) (c := 15) (k := 14) (n := 107) (by decide) rfl (by decide) (by decide)) ?_
  obtain ⟨R158, e159, e⟩ := xbnd e
  refine xok_eqb (h155.is (o := 0) (c := 15) (by decide) rfl) ?_
  refine xok_call (sg225 hI  h155 (h155.gln (o := 0) (c := 15) (k := 14) (n := 107) (by decide) rfl (by decide) (by decide)) e159) ?_
  rintro ⟨v_, M162⟩ ⟨hv_, h160, hi161⟩
  cases hv_
  refine xok_ite (fun c163 => ?_) (fun c163 => ?_)
  · rw [if_pos c163] at e
    exact s234_59 hI   h160 (h135.gin (o := 0) (c := 15) (k := 4) (n := 107) (by decide) rfl (by decide) (by decide)) hi141 hi156 (show xin (0) by decide) e
  · rw [if_neg c163] at e
    obtain ⟨R164, e165, e⟩ := xbnd e
    refine xok_eqb (h160.is (o := 0) (c := 15) (by decide) rfl) ?_
    refine xok_call (sg213 hI  h160  e165) ?_
    intro M168 h166
    obtain ⟨R169, e170, e⟩ := xbnd e
    refine xok_eqb (h166.is (o := 0) (c := 15) (by decide) rfl) ?_
    refine xok_call (sg233 hI  h166 (show xin (1) by decide) (xin_wr _) e170) ?_
    rintro ⟨v_, M173⟩ ⟨hv_, h171, hi172⟩
    cases hv_
    exact s234_59 hI   h171 (h135.gin (o := 0) (c := 15) (k := 4) (n := 107) (by decide) rfl (by decide) (by decide)) hi141 hi156 hi172 e
-- ChangeHouseModel.readOutput
theorem sg235 {m f : Nat} {M0 M : xj_M} {G : xG_} (hI : xHI f)   (h : xRX m M0 M G)  {R : xG_}  (e : g235  f  G = some R) : xok (f235  f m M) (fun r => xRX m M0 r R) := by
  unfold g235 at e
  unfold f235
  obtain ⟨R101, e102, e⟩ := xbnd e
  refine xok_eqb (h.is (o := 0) (c := 15) (by decide) rfl) ?_
  refine xok_call (sg213 hI  h  e102) ?_
  intro M105 h103
  refine xok_eqb (h103.gi (o := 0) (c := 15) (k := 4) (n := 107) (by decide) rfl (by decide) (by decide)) ?_
  obtain ⟨R106, e107, e⟩ := xbnd e
  refine xok_eqb (h103.is (o := 0) (c := 15) (by decide) rfl) ?_
  refine xok_call (sg232 hI  h103  e107) ?_
  rintro ⟨v_, M110⟩ ⟨hv_, h108, hi109⟩
  cases hv_
  obtain ⟨R111, e112, e⟩ := xbnd e
  refine xok_eqb (h108.is (o := 0) (c := 15) (by decide) rfl) ?_
  refine xok_call (sg213 hI  h108  e112) ?_
  intro M115 h113
  obtain ⟨R116, e117, e⟩ := xbnd e
  refine xok_eqb (h113.is (o := 0) (c := 15) (by decide) rfl) ?_
  refine xok_call (sg222 hI  h113 (show xin (46) by decide) e117) ?_
  intro M120 h118
  obtain ⟨R121, e122, e⟩ := xbnd e
  refine xok_eqb (h118.is (o := 0) (c := 15) (by decide) rfl) ?_
  refine xok_call (sg211 hI  h118  e122) ?_
  rintro ⟨v_, M125⟩ ⟨hv_, h123, hi124⟩
  cases hv_
  refine xok_ite (fun c126 => ?_) (fun c126 => ?_)
  · rw [if_pos c126] at e
    by_cases c127 : R121.2 0 22 < 0
    · rw [if_pos c127] at e; cases e
    rw [if_neg c127] at e
    refine xok_eqb (h123.itp c127) ?_
    refine xok_eqb (h123.pt (o := (R121.2 0 22).toNat) (c := 14) (k := 6) (t := (R121.2 0 22).toNat + 7) (n := 38) (xoP_o (h123.itt c127)).1 (xoP_o (h123.itt c127)).2 (by decide) (xoP_all (h123.itt c127) (Q := fun p => (p, 6, p + 7) ∈ xl_P) (by decide +kernel) (by decide +kernel) (by decide +kernel))) ?_
    by_cases c128 : 0 ≤ (R106.1) ∧ (R106.1) < 16
    · skip
      rw [if_pos c128] at e
      obtain ⟨M129, q130, h131⟩ := h123.sb0 (o := (R121.2 0 22).toNat + 7) (n := 16) (v := 1) (xoP_all (h123.itt c127) (Q := fun p => p + 7 < 276) (by decide) (by decide) (by decide)) (xoP_all (h123.itt c127) (Q := fun p => xl_t (p + 7) = (2, 0, 16)) rfl rfl rfl) c128.1 c128.2 (by decide)
      refine xok_eqb q130 ?_
      obtain ⟨G132, g1, e⟩ := xbnd e
      cases g1
      have h131_ : xRX m M0 M129 (xup2 R121.2 ((R121.2 0 22).toNat + 7) (R106.1).toNat (1)) := h131
      generalize hGG132 : (xup2 R121.2 ((R121.2 0 22).toNat + 7) (R106.1).toNat (1)) = G132 at e h131
      clear h131_ hGG132
      obtain ⟨R133, e134, e⟩ := xbnd e
      refine xok_eqb (h131.is (o := 0) (c := 15) (by decide) rfl) ?_
      refine xok_call (sg229 hI  h131 hi109 (h103.gin (o := 0) (c := 15) (k := 4) (n := 107) (by decide) rfl (by decide) (by decide)) (show xin (-1) by decide) (show xin (2) by decide) e134) ?_
      intro M137 h135
      cases e
      exact ⟨_, rfl, h135⟩
    · rw [if_neg c128] at e; cases e
  · rw [if_neg c126] at e
    cases e
    exact ⟨_, rfl, h123⟩
-- ChangeHouseModel.variable
theorem s239_147 {m f : Nat} {M0 M : xj_M} {G : xG_} (hI : xHI f)     (h : xRX m M0 M G) {x2 : Int} {R : Int × xG_} (tx2 : xin x2) (e : g239_147   f x2 G = some R) : xok (f239_147   f m x2 M) (fun r => r.1 = R.1 ∧ xRX m M0 r.2 R.2 ∧ xin R.1) := by
  unfold g239_147 at e
  unfold f239_147
  obtain ⟨R101, e102, e⟩ := xbnd e
  refine xok_eqb (h.is (o := 0) (c := 15) (by decide) rfl) ?_
  refine xok_call (sg213 hI  h  e102) ?_
  intro M105 h103
  cases e
  exact ⟨_, rfl, rfl, h103, tx2⟩
theorem s239_69 {m f : Nat} {M0 M : xj_M} {G : xG_} (hI : xHI f)     (h : xRX m M0 M G) {x1 : Int} {x2 : Int} {R : Int × xG_} (tx1 : xin x1) (tx2 : xin x2) (e : g239_69   f x1 x2 G = some R) : xok (f239_69   f m x1 x2 M) (fun r => r.1 = R.1 ∧ xRX m M0 r.2 R.2 ∧ xin R.1) := by
  unfold g239_69 at e
  unfold f239_69
  refine xok_ite (fun c106 => ?_) (fun c106 => ?_)
  · rw [if_pos c106] at e
    by_cases c107 : G 0 22 < 0
    · rw [if_pos c107] at e; cases e
    rw [if_neg c107] at e
    refine xok_eqb (h.itp c107) ?_
    refine xok_eqb (h.pt (o := (G 0 22).toNat) (c := 14) (k := 22) (t := (G 0 22).toNat + 20) (n := 38) (xoP_o (h.itt c107)).1 (xoP_o (h.itt c107)).2 (by decide) (xoP_all (h.itt c107) (Q := fun p => (p, 22, p + 20) ∈ xl_P) (by decide +kernel) (by decide +kernel) (by decide +kernel))) ?_
    refine xok_eqb (h.gi (o := 0) (c := 15) (k := 23) (n := 107) (by decide) rfl (by decide) (by decide)) ?_
    by_cases c108 : 0 ≤ (G (0) 23) ∧ (G (0) 23) < 25
    · skip
      rw [if_pos c108] at e
      refine xok_eqb (h.ai (o := (G 0 22).toNat + 20) (n := 25) (xoP_all (h.itt c107) (Q := fun p => p + 20 < 276) (by decide) (by decide) (by decide)) (xoP_all (h.itt c107) (Q := fun p => xl_t (p + 20) = (2, 3, 25)) rfl rfl rfl) (by decide) c108.1 c108.2) ?_
      refine xok_ite (fun c109 => ?_) (fun c109 => ?_)
      · rw [if_pos c109] at e
        exact s239_147 hI   h tx2 e
      · rw [if_neg c109] at e
        by_cases c110 : G 0 22 < 0
        · rw [if_pos c110] at e; cases e
        rw [if_neg c110] at e
        refine xok_eqb (h.itp c110) ?_
        refine xok_eqb (h.pt (o := (G 0 22).toNat) (c := 14) (k := 25) (t := (G 0 22).toNat + 23) (n := 38) (xoP_o (h.itt c110)).1 (xoP_o (h.itt c110)).2 (by decide) (xoP_all (h.itt c110) (Q := fun p => (p, 25, p + 23) ∈ xl_P) (by decide +kernel) (by decide +kernel) (by decide +kernel))) ?_
        refine xok_eqb (h.gl (o := 0) (c := 15) (k := 9) (n := 107) (by decide) rfl (by decide) (by decide)) ?_
        by_cases c111 : 0 ≤ (xwr ((x1) + (x2))) ∧ (xwr ((x1) + (x2))) < 200
        · skip
          rw [if_pos c111] at e
          obtain ⟨M112, q113, h114⟩ := h.sl (o := (G 0 22).toNat + 23) (n := 200) (v := G (0) 9) (xoP_all (h.itt c110) (Q := fun p => p + 23 < 276) (by decide) (by decide) (by decide)) (xoP_all (h.itt c110) (Q := fun p => xl_t (p + 23) = (2, 4, 200)) rfl rfl rfl) c111.1 c111.2 (h.gln (o := 0) (c := 15) (k := 9) (n := 107) (by decide) rfl (by decide) (by decide))
          refine xok_eqb q113 ?_
          obtain ⟨G115, g1, e⟩ := xbnd e
          cases g1
          have h114_ : xRX m M0 M112 (xup2 G ((G 0 22).toNat + 23) (xwr ((x1) + (x2))).toNat (G (0) 9)) := h114
          generalize hGG115 : (xup2 G ((G 0 22).toNat + 23) (xwr ((x1) + (x2))).toNat (G (0) 9)) = G115 at e h114
          clear h114_ hGG115
          by_cases c116 : G115 0 22 < 0
          · rw [if_pos c116] at e; cases e
          rw [if_neg c116] at e
          refine xok_eqb (h114.itp c116) ?_
          refine xok_eqb (h114.pt (o := (G115 0 22).toNat) (c := 14) (k := 26) (t := (G115 0 22).toNat + 24) (n := 38) (xoP_o (h114.itt c116)).1 (xoP_o (h114.itt c116)).2 (by decide) (xoP_all (h114.itt c116) (Q := fun p => (p, 26, p + 24) ∈ xl_P) (by decide +kernel) (by decide +kernel) (by decide +kernel))) ?_
          refine xok_eqb (h114.gi (o := 0) (c := 15) (k := 4) (n := 107) (by decide) rfl (by decide) (by decide)) ?_
          by_cases c117 : 0 ≤ (xwr ((x1) + (x2))) ∧ (xwr ((x1) + (x2))) < 200
          · skip
            rw [if_pos c117] at e
            obtain ⟨M118, q119, h120⟩ := h114.si (o := (G115 0 22).toNat + 24) (n := 200) (v := G115 (0) 4) (xoP_all (h114.itt c116) (Q := fun p => p + 24 < 276) (by decide) (by decide) (by decide)) (xoP_all (h114.itt c116) (Q := fun p => xl_t (p + 24) = (2, 3, 200)) rfl rfl rfl) c117.1 c117.2 (h114.gin (o := 0) (c := 15) (k := 4) (n := 107) (by decide) rfl (by decide) (by decide))
            refine xok_eqb q119 ?_
            obtain ⟨G121, g1, e⟩ := xbnd e
            cases g1
            have h120_ : xRX m M0 M118 (xup2 G115 ((G115 0 22).toNat + 24) (xwr ((x1) + (x2))).toNat (G115 (0) 4)) := h120
            generalize hGG121 : (xup2 G115 ((G115 0 22).toNat + 24) (xwr ((x1) + (x2))).toNat (G115 (0) 4)) = G121 at e h120
            clear h120_ hGG121
            by_cases c122 : G121 0 22 < 0
            · rw [if_pos c122] at e; cases e
            rw [if_neg c122] at e
            refine xok_eqb (h120.itp c122) ?_
            refine xok_eqb (h120.pt (o := (G121 0 22).toNat) (c := 14) (k := 22) (t := (G121 0 22).toNat + 20) (n := 38) (xoP_o (h120.itt c122)).1 (xoP_o (h120.itt c122)).2 (by decide) (xoP_all (h120.itt c122) (Q := fun p => (p, 22, p + 20) ∈ xl_P) (by decide +kernel) (by decide +kernel) (by decide +kernel))) ?_
            refine xok_eqb (h120.gi (o := 0) (c := 15) (k := 23) (n := 107) (by decide) rfl (by decide) (by decide)) ?_
            by_cases c123 : 0 ≤ (G121 (0) 23) ∧ (G121 (0) 23) < 25
            · skip
              rw [if_pos c123] at e
              refine xok_eqb (h120.ai (o := (G121 0 22).toNat + 20) (n := 25) (xoP_all (h120.itt c122) (Q := fun p => p + 20 < 276) (by decide) (by decide) (by decide)) (xoP_all (h120.itt c122) (Q := fun p => xl_t (p + 20) = (2, 3, 25)) rfl rfl rfl) (by decide) c123.1 c123.2) ?_
              by_cases c124 : 0 ≤ (G121 (0) 23) ∧ (G121 (0) 23) < 25
              · skip
                rw [if_pos c124] at e
                obtain ⟨M125, q126, h127⟩ := h120.si (o := (G121 0 22).toNat + 20) (n := 25) (v := xwr ((G121 ((G121 0 22).toNat + 20) (G121 (0) 23).toNat) + (1))) (xoP_all (h120.itt c122) (Q := fun p => p + 20 < 276) (by decide) (by decide) (by decide)) (xoP_all (h120.itt c122) (Q := fun p => xl_t (p + 20) = (2, 3, 25)) rfl rfl rfl) c124.1 c124.2 (xin_wr _)
                refine xok_eqb q126 ?_
                obtain ⟨G128, g1, e⟩ := xbnd e
                cases g1
                have h127_ : xRX m M0 M125 (xup2 G121 ((G121 0 22).toNat + 20) (G121 (0) 23).toNat (xwr ((G121 ((G121 0 22).toNat + 20) (G121 (0) 23).toNat) + (1)))) := h127
                generalize hGG128 : (xup2 G121 ((G121 0 22).toNat + 20) (G121 (0) 23).toNat (xwr ((G121 ((G121 0 22).toNat + 20) (G121 (0) 23).toNat) + (1)))) = G128 at e h127
                clear h127_ hGG128
                exact s239_147 hI   h127 tx2 e
              · rw [if_neg c124] at e; cases e
            · rw [if_neg c123] at e; cases e
          · rw [if_neg c117] at e; cases e
        · rw [if_neg c111] at e; cases e
    · rw [if_neg c108] at e; cases e
  · rw [if_neg c106] at e
    refine xok_eqb (h.gi (o := 0) (c := 15) (k := 4) (n := 107) (by decide) rfl (by decide) (by decide)) ?_
    obtain ⟨R129, e130, e⟩ := xbnd e
    refine xok_eqb (h.is (o := 0) (c := 15) (by decide) rfl) ?_
    refine xok_call (sg210 hI  h (h.gin (o := 0) (c := 15) (k := 4) (n := 107) (by decide) rfl (by decide) (by decide)) e130) ?_
    intro M133 h131
    cases e
    exact ⟨_, rfl, rfl, h131, (show xin (0) by decide)⟩
theorem s239_28b {m f : Nat} {M0 M : xj_M} {G : xG_} (hI : xHI f)  {r28 : Int → Int → xG_ → Option (Int × xG_)} {o28 : Nat → Int → Int → xj_M → Option (Int × xj_M)}  (hr28 : ∀ {M : xj_M} {G : xG_} {x1 : Int} {x2 : Int} {R : Int × xG_}, xRX m M0 M G → xin x1 → xin x2 → r28 x1 x2 G = some R → xok (o28 m x1 x2 M) (fun r => r.1 = R.1 ∧ xRX m M0 r.2 R.2 ∧ xin R.1)) (h : xRX m M0 M G) {x1 : Int} {x2 : Int} {R : Int × xG_} (tx1 : xin x1) (tx2 : xin x2) (e : g239_28b  r28 f x1 x2 G = some R) : xok (f239_28b  o28 f m x1 x2 M) (fun r => r.1 = R.1 ∧ xRX m M0 r.2 R.2 ∧ xin R.1) := by
  unfold g239_28b at e
  unfold f239_28b
  by_cases c134 : G 0 22 < 0
  · rw [if_pos c134] at e; cases e
  rw [if_neg c134] at e
  refine xok_eqb (h.itp c134) ?_
  refine xok_eqb (h.pt (o := (G 0 22).toNat) (c := 14) (k := 22) (t := (G 0 22).toNat + 20) (n := 38) (xoP_o (h.itt c134)).1 (xoP_o (h.itt c134)).2 (by decide) (xoP_all (h.itt c134) (Q := fun p => (p, 22, p + 20) ∈ xl_P) (by decide +kernel) (by decide +kernel) (by decide +kernel))) ?_
  refine xok_eqb (h.gi (o := 0) (c := 15) (k := 23) (n := 107) (by decide) rfl (by decide) (by decide)) ?_
  by_cases c135 : 0 ≤ (G (0) 23) ∧ (G (0) 23) < 25
  · skip
    rw [if_pos c135] at e
    refine xok_eqb (h.ai (o := (G 0 22).toNat + 20) (n := 25) (xoP_all (h.itt c134) (Q := fun p => p + 20 < 276) (by decide) (by decide) (by decide)) (xoP_all (h.itt c134) (Q := fun p => xl_t (p + 20) = (2, 3, 25)) rfl rfl rfl) (by decide) c135.1 c135.2) ?_
    refine xok_ite (fun c136 => ?_) (fun c136 => ?_)
    · rw [if_pos c136] at e
      exact s239_69 hI   h tx1 tx2 e
    · rw [if_neg c136] at e
      by_cases c137 : G 0 22 < 0
      · rw [if_pos c137] at e; cases e
      rw [if_neg c137] at e
      refine xok_eqb (h.itp c137) ?_
      refine xok_eqb (h.pt (o := (G 0 22).toNat) (c := 14) (k := 25) (t := (G 0 22).toNat + 23) (n := 38) (xoP_o (h.itt c137)).1 (xoP_o (h.itt c137)).2 (by decide) (xoP_all (h.itt c137) (Q := fun p => (p, 25, p + 23) ∈ xl_P) (by decide +kernel) (by decide +kernel) (by decide +kernel))) ?_
      by_cases c138 : 0 ≤ (xwr ((x1) + (x2))) ∧ (xwr ((x1) + (x2))) < 200
      · skip
        rw [if_pos c138] at e
        refine xok_eqb (h.al (o := (G 0 22).toNat + 23) (n := 200) (xoP_all (h.itt c137) (Q := fun p => p + 23 < 276) (by decide) (by decide) (by decide)) (xoP_all (h.itt c137) (Q := fun p => xl_t (p + 23) = (2, 4, 200)) rfl rfl rfl)  c138.1 c138.2) ?_
        refine xok_eqb (h.gl (o := 0) (c := 15) (k := 9) (n := 107) (by decide) rfl (by decide) (by decide)) ?_
        refine xok_ite (fun c139 => ?_) (fun c139 => ?_)
        · rw [if_pos c139] at e
          exact s239_69 hI   h tx1 tx2 e
        · rw [if_neg c139] at e
          exact hr28 h tx1 (xin_wr _) e
      · rw [if_neg c138] at e; cases e
  · rw [if_neg c135] at e; cases e
theorem s239_28 {m f : Nat} {M0 : xj_M} (hI : xHI f)     : ∀ {n : Nat} {M : xj_M} {G : xG_} {x1 : Int} {x2 : Int} {R : Int × xG_}, xRX m M0 M G → xin x1 → xin x2 → g239_28   f n x1 x2 G = some R → xok (f239_28   f n m x1 x2 M) (fun r => r.1 = R.1 ∧ xRX m M0 r.2 R.2 ∧ xin R.1) := by
  intro n
  induction n with
  | zero => intros; rename_i e; cases e
  | succ n ih =>
    intros
    rename_i h i0 i1 e
    exact s239_28b hI   ih h i0 i1 e
theorem sg239 {m f : Nat} {M0 M : xj_M} {G : xG_} (hI : xHI f)   (h : xRX m M0 M G)  {R : Int × xG_}  (e : g239  f  G = some R) : xok (f239  f m M) (fun r => r.1 = R.1 ∧ xRX m M0 r.2 R.2 ∧ xin R.1) := by
  unfold g239 at e
  unfold f239
  refine xok_eqb (h.gi (o := 0) (c := 15) (k := 6) (n := 107) (by decide) rfl (by decide) (by decide)) ?_
  refine xok_ite (fun c140 => ?_) (fun c140 => ?_)
  · rw [if_pos c140] at e
    refine xok_eqb (h.gi (o := 0) (c := 15) (k := 23) (n := 107) (by decide) rfl (by decide) (by decide)) ?_
    exact s239_28 hI   h (xin_wr _) (show xin (0) by decide) e
  · rw [if_neg c140] at e
    refine xok_eqb (h.gi (o := 0) (c := 15) (k := 6) (n := 107) (by decide) rfl (by decide) (by decide)) ?_
    obtain ⟨R141, e142, e⟩ := xbnd e
    refine xok_eqb (h.is (o := 0) (c := 15) (by decide) rfl) ?_
    refine xok_call (sg210 hI  h (h.gin (o := 0) (c := 15) (k := 6) (n := 107) (by decide) rfl (by decide) (by decide)) e142) ?_
    intro M145 h143
    cases e
    exact ⟨_, rfl, rfl, h143, (show xin (0) by decide)⟩
-- ChangeHouseModel.primary
theorem s241_101 {m f : Nat} {M0 M : xj_M} {G : xG_} (hI : xHI f) {q243 : xG_ → Option (xG_)} {p243 : Nat → xj_M → Option (xj_M)}  (hq243 : ∀ {M : xj_M} {G : xG_}  {R : xG_}, xRX m M0 M G → q243  G = some R → xok (p243 m M) (fun r => xRX m M0 r R))  (h : xRX m M0 M G)  {R : xG_}  (e : g241_101 q243  f  G = some R) : xok (f241_101 p243  f  M) (fun r => xRX m M0 r R) := by
  unfold g241_101 at e
  unfold f241_101
  cases e
  exact ⟨_, rfl, h⟩
theorem s241_48 {m f : Nat} {M0 M : xj_M} {G : xG_} (hI : xHI f) {q243 : xG_ → Option (xG_)} {p243 : Nat → xj_M → Option (xj_M)}  (hq243 : ∀ {M : xj_M} {G : xG_}  {R : xG_}, xRX m M0 M G → q243  G = some R → xok (p243 m M) (fun r => xRX m M0 r R))  (h : xRX m M0 M G)  {R : xG_}  (e : g241_48 q243  f  G = some R) : xok (f241_48 p243  f m M) (fun r => xRX m M0 r R) := by
  unfold g241_48 at e
  unfold f241_48
  refine xok_eqb (h.gi (o := 0) (c := 15) (k := 25) (n := 107) (by decide) rfl (by decide) (by decide)) ?_
  obtain ⟨M101, q102, h103⟩ := h.pi (v := xwr ((G (0) 25) + (1))) (o := 0) (c := 15) (k := 25) (n := 107) (by decide) rfl (by decide) (by decide) (xin_wr _)
  refine xok_eqb q102 ?_
  obtain ⟨G104, g1, e⟩ := xbnd e
  cases g1
  have h103_ : xRX m M0 M101 (xup2 G (0) 25 (xwr ((G (0) 25) + (1)))) := h103
  generalize hGG104 : (xup2 G (0) 25 (xwr ((G (0) 25) + (1)))) = G104 at e h103
  clear h103_ hGG104
  obtain ⟨R105, e106, e⟩ := xbnd e
  refine xok_eqb (h103.is (o := 0) (c := 15) (by decide) rfl) ?_
  refine xok_call (sg213 hI  h103  e106) ?_
  intro M109 h107
  obtain ⟨R110, e111, e⟩ := xbnd e
  refine xok_eqb (h107.is (o := 0) (c := 15) (by decide) rfl) ?_
  refine xok_call (hq243 h107  e111) ?_
  intro M114 h112
  refine xok_eqb (h112.gi (o := 0) (c := 15) (k := 25) (n := 107) (by decide) rfl (by decide) (by decide)) ?_
  obtain ⟨M115, q116, h117⟩ := h112.pi (v := xwr ((R110 (0) 25) - (1))) (o := 0) (c := 15) (k := 25) (n := 107) (by decide) rfl (by decide) (by decide) (xin_wr _)
  refine xok_eqb q116 ?_
  obtain ⟨G118, g1, e⟩ := xbnd e
  cases g1
  have h117_ : xRX m M0 M115 (xup2 R110 (0) 25 (xwr ((R110 (0) 25) - (1)))) := h117
  generalize hGG118 : (xup2 R110 (0) 25 (xwr ((R110 (0) 25) - (1)))) = G118 at e h117
  clear h117_ hGG118
  obtain ⟨R119, e120, e⟩ := xbnd e
  refine xok_eqb (h117.is (o := 0) (c := 15) (by decide) rfl) ?_
  refine xok_call (sg222 hI  h117 (show xin (41) by decide) e120) ?_
  intro M123 h121
  exact s241_101 hI hq243  h121  e
theorem sg241 {m f : Nat} {M0 M : xj_M} {G : xG_} (hI : xHI f) {q243 : xG_ → Option (xG_)} {p243 : Nat → xj_M → Option (xj_M)} (hq243 : ∀ {M : xj_M} {G : xG_}  {R : xG_}, xRX m M0 M G → q243  G = some R → xok (p243 m M) (fun r => xRX m M0 r R)) (h : xRX m M0 M G)  {R : xG_}  (e : g241 q243 f  G = some R) : xok (f241 p243 f m M) (fun r => xRX m M0 r R) := by
  unfold g241 at e
  unfold f241
  obtain ⟨R124, e125, e⟩ := xbnd e
  refine xok_eqb (h.is (o := 0) (c := 15) (by decide) rfl) ?_
  refine xok_call (sg221 hI  h (show xin (3) by decide) e125) ?_
  rintro ⟨v_, M128⟩ ⟨hv_, h126, hi127⟩
  cases hv_
  refine xok_ite (fun c129 => ?_) (fun c129 => ?_)
  · rw [if_pos c129] at e
    obtain ⟨R130, e131, e⟩ := xbnd e
    refine xok_eqb (h126.is (o := 0) (c := 15) (by decide) rfl) ?_
    refine xok_call (sg220 hI  h126 (show xin (40) by decide) e131) ?_
    rintro ⟨v_, M134⟩ ⟨hv_, h132, hi133⟩
    cases hv_
    refine xok_ite (fun c135 => ?_) (fun c135 => ?_)
    · rw [if_pos c135] at e
      obtain ⟨R136, e137, e⟩ := xbnd e
      refine xok_eqb (h132.is (o := 0) (c := 15) (by decide) rfl) ?_
      refine xok_call (sg227 hI  h132  e137) ?_
      rintro ⟨v_, M140⟩ ⟨hv_, h138, hi139⟩
      cases hv_
      refine xok_ite (fun c141 => ?_) (fun c141 => ?_)
      · rw [if_pos c141] at e
        exact s241_101 hI hq243  h138  e
      · rw [if_neg c141] at e
        refine xok_eqb (h138.gl (o := 0) (c := 15) (k := 21) (n := 107) (by decide) rfl (by decide) (by decide)) ?_
        obtain ⟨R142, e143, e⟩ := xbnd e
        refine xok_eqb (h138.is (o := 0) (c := 15) (by decide) rfl) ?_
        refine xok_call (sg240 hI  h138 (show xin (1) by decide) (h138.gln (o := 0) (c := 15) (k := 21) (n := 107) (by decide) rfl (by decide) (by decide)) e143) ?_
        intro M146 h144
        exact s241_101 hI hq243  h144  e
    · rw [if_neg c135] at e
      refine xok_eqb (h132.gi (o := 0) (c := 15) (k := 25) (n := 107) (by decide) rfl (by decide) (by decide)) ?_
      refine xok_ite (fun c147 => ?_) (fun c147 => ?_)
      · rw [if_pos c147] at e
        exact s241_48 hI hq243  h132  e
      · rw [if_neg c147] at e
        refine xok_eqb (h132.gi (o := 0) (c := 15) (k := 4) (n := 107) (by decide) rfl (by decide) (by decide)) ?_
        obtain ⟨R148, e149, e⟩ := xbnd e
        refine xok_eqb (h132.is (o := 0) (c := 15) (by decide) rfl) ?_
        refine xok_call (sg210 hI  h132 (h132.gin (o := 0) (c := 15) (k := 4) (n := 107) (by decide) rfl (by decide) (by decide)) e149) ?_
        intro M152 h150
        exact s241_48 hI hq243  h150  e
  · rw [if_neg c129] at e
    obtain ⟨R153, e154, e⟩ := xbnd e
    refine xok_eqb (h126.is (o := 0) (c := 15) (by decide) rfl) ?_
    refine xok_call (sg239 hI  h126  e154) ?_
    rintro ⟨v_, M157⟩ ⟨hv_, h155, hi156⟩
    cases hv_
    obtain ⟨R158, e159, e⟩ := xbnd e
    refine xok_eqb (h155.is (o := 0) (c := 15) (by decide) rfl) ?_
    refine xok_call (sg240 hI  h155 (show xin (2) by decide) (xin_N hi156) e159) ?_
    intro M162 h160
    exact s241_101 hI hq243  h160  e
-- ChangeHouseModel.product
theorem s245_0b {m f : Nat} {M0 M : xj_M} {G : xG_} (hI : xHI f) {q243 : xG_ → Option (xG_)} {p243 : Nat → xj_M → Option (xj_M)} {r0 : xG_ → Option (xG_)} {o0 : Nat → xj_M → Option (xj_M)} (hq243 : ∀ {M : xj_M} {G : xG_}  {R : xG_}, xRX m M0 M G → q243  G = some R → xok (p243 m M) (fun r => xRX m M0 r R)) (hr0 : ∀ {M : xj_M} {G : xG_}  {R : xG_}, xRX m M0 M G → r0  G = some R → xok (o0 m M) (fun r => xRX m M0 r R)) (h : xRX m M0 M G)  {R : xG_}  (e : g245_0b q243 r0 f  G = some R) : xok (f245_0b p243 o0 f m M) (fun r => xRX m M0 r R) := by
  unfold g245_0b at e
  unfold f245_0b
  obtain ⟨R101, e102, e⟩ := xbnd e
  refine xok_eqb (h.is (o := 0) (c := 15) (by decide) rfl) ?_
  refine xok_call (sg242 hI  h (show xin (1) by decide) e102) ?_
  rintro ⟨v_, M105⟩ ⟨hv_, h103, hi104⟩
  cases hv_
  refine xok_ite (fun c106 => ?_) (fun c106 => ?_)
  · rw [if_pos c106] at e
    cases e
    exact ⟨_, rfl, h103⟩
  · rw [if_neg c106] at e
    refine xok_eqb (h103.gi (o := 0) (c := 15) (k := 3) (n := 107) (by decide) rfl (by decide) (by decide)) ?_
    obtain ⟨R107, e108, e⟩ := xbnd e
    refine xok_eqb (h103.is (o := 0) (c := 15) (by decide) rfl) ?_
    refine xok_call (sg213 hI  h103  e108) ?_
    intro M111 h109
    obtain ⟨R112, e113, e⟩ := xbnd e
    refine xok_eqb (h109.is (o := 0) (c := 15) (by decide) rfl) ?_
    refine xok_call (sg241 hI hq243 h109  e113) ?_
    intro M116 h114
    obtain ⟨R117, e118, e⟩ := xbnd e
    refine xok_eqb (h114.is (o := 0) (c := 15) (by decide) rfl) ?_
    refine xok_call (sg240 hI  h114 (show xin (3) by decide) (xin_N (h103.gin (o := 0) (c := 15) (k := 3) (n := 107) (by decide) rfl (by decide) (by decide))) e118) ?_
    intro M121 h119
    exact hr0 h119  e
theorem s245_0 {m f : Nat} {M0 : xj_M} (hI : xHI f) {q243 : xG_ → Option (xG_)} {p243 : Nat → xj_M → Option (xj_M)}  (hq243 : ∀ {M : xj_M} {G : xG_}  {R : xG_}, xRX m M0 M G → q243  G = some R → xok (p243 m M) (fun r => xRX m M0 r R))  : ∀ {n : Nat} {M : xj_M} {G : xG_}  {R : xG_}, xRX m M0 M G → g245_0 q243  f n  G = some R → xok (f245_0 p243  f n m M) (fun r => xRX m M0 r R) := by
  intro n
  induction n with
  | zero => intros; rename_i e; cases e
  | succ n ih =>
    intros
    rename_i h  e
    exact s245_0b hI hq243  ih h  e
theorem sg245 {m f : Nat} {M0 M : xj_M} {G : xG_} (hI : xHI f) {q243 : xG_ → Option (xG_)} {p243 : Nat → xj_M → Option (xj_M)} (hq243 : ∀ {M : xj_M} {G : xG_}  {R : xG_}, xRX m M0 M G → q243  G = some R → xok (p243 m M) (fun r => xRX m M0 r R)) (h : xRX m M0 M G)  {R : xG_}  (e : g245 q243 f  G = some R) : xok (f245 p243 f m M) (fun r => xRX m M0 r R) := by
  unfold g245 at e
  unfold f245
  exact s245_0 hI hq243  h  e
-- ChangeHouseModel.readTerm
theorem s250_104 {m f : Nat} {M0 M : xj_M} {G : xG_} (hI : xHI f)     (h : xRX m M0 M G)  {R : xG_}  (e : g250_104   f  G = some R) : xok (f250_104   f  M) (fun r => xRX m M0 r R) := by
  unfold g250_104 at e
  unfold f250_104
  cases e
  exact ⟨_, rfl, h⟩
theorem sg250 {m f : Nat} {M0 M : xj_M} {G : xG_} (hI : xHI f)   (h : xRX m M0 M G) {a1 : Int} {a2 : Int} {R : xG_} (ta1 : xin a1) (ta2 : xin a2) (e : g250  f a1 a2 G = some R) : xok (f250  f m a1 a2 M) (fun r => xRX m M0 r R) := by
  unfold g250 at e
  unfold f250
  obtain ⟨R101, e102, e⟩ := xbnd e
  refine xok_eqb (h.is (o := 0) (c := 15) (by decide) rfl) ?_
  refine xok_call (sg211 hI  h  e102) ?_
  rintro ⟨v_, M105⟩ ⟨hv_, h103, hi104⟩
  cases hv_
  refine xok_ite (fun c106 => ?_) (fun c106 => ?_)
  · rw [if_pos c106] at e
    obtain ⟨R107, e108, e⟩ := xbnd e
    refine xok_eqb (h103.is (o := 0) (c := 15) (by decide) rfl) ?_
    refine xok_call (sg221 hI  h103 (show xin (3) by decide) e108) ?_
    rintro ⟨v_, M111⟩ ⟨hv_, h109, hi110⟩
    cases hv_
    refine xok_ite (fun c112 => ?_) (fun c112 => ?_)
    · rw [if_pos c112] at e
      obtain ⟨R113, e114, e⟩ := xbnd e
      refine xok_eqb (h109.is (o := 0) (c := 15) (by decide) rfl) ?_
      refine xok_call (sg221 hI  h109 (show xin (4) by decide) e114) ?_
      rintro ⟨v_, M117⟩ ⟨hv_, h115, hi116⟩
      cases hv_
      refine xok_ite (fun c118 => ?_) (fun c118 => ?_)
      · rw [if_pos c118] at e
        obtain ⟨R119, e120, e⟩ := xbnd e
        refine xok_eqb (h115.is (o := 0) (c := 15) (by decide) rfl) ?_
        refine xok_call (sg227 hI  h115  e120) ?_
        rintro ⟨v_, M123⟩ ⟨hv_, h121, hi122⟩
        cases hv_
        refine xok_ite (fun c124 => ?_) (fun c124 => ?_)
        · rw [if_pos c124] at e
          exact s250_104 hI   h121  e
        · rw [if_neg c124] at e
          by_cases c125 : R119.2 0 22 < 0
          · rw [if_pos c125] at e; cases e
          rw [if_neg c125] at e
          refine xok_eqb (h121.itp c125) ?_
          refine xok_eqb (h121.pt (o := (R119.2 0 22).toNat) (c := 14) (k := 33) (t := (R119.2 0 22).toNat + 31) (n := 38) (xoP_o (h121.itt c125)).1 (xoP_o (h121.itt c125)).2 (by decide) (xoP_all (h121.itt c125) (Q := fun p => (p, 33, p + 31) ∈ xl_P) (by decide +kernel) (by decide +kernel) (by decide +kernel))) ?_
          by_cases c126 : 0 ≤ (xwr ((xwr ((a1) * (4))) + (a2))) ∧ (xwr ((xwr ((a1) * (4))) + (a2))) < 800
          · skip
            rw [if_pos c126] at e
            obtain ⟨M127, q128, h129⟩ := h121.si (o := (R119.2 0 22).toNat + 31) (n := 800) (v := 3) (xoP_all (h121.itt c125) (Q := fun p => p + 31 < 276) (by decide) (by decide) (by decide)) (xoP_all (h121.itt c125) (Q := fun p => xl_t (p + 31) = (2, 3, 800)) rfl rfl rfl) c126.1 c126.2 (show xin (3) by decide)
            refine xok_eqb q128 ?_
            obtain ⟨G130, g1, e⟩ := xbnd e
            cases g1
            have h129_ : xRX m M0 M127 (xup2 R119.2 ((R119.2 0 22).toNat + 31) (xwr ((xwr ((a1) * (4))) + (a2))).toNat (3)) := h129
            generalize hGG130 : (xup2 R119.2 ((R119.2 0 22).toNat + 31) (xwr ((xwr ((a1) * (4))) + (a2))).toNat (3)) = G130 at e h129
            clear h129_ hGG130
            by_cases c131 : G130 0 22 < 0
            · rw [if_pos c131] at e; cases e
            rw [if_neg c131] at e
            refine xok_eqb (h129.itp c131) ?_
            refine xok_eqb (h129.pt (o := (G130 0 22).toNat) (c := 14) (k := 34) (t := (G130 0 22).toNat + 32) (n := 38) (xoP_o (h129.itt c131)).1 (xoP_o (h129.itt c131)).2 (by decide) (xoP_all (h129.itt c131) (Q := fun p => (p, 34, p + 32) ∈ xl_P) (by decide +kernel) (by decide +kernel) (by decide +kernel))) ?_
            refine xok_eqb (h129.gl (o := 0) (c := 15) (k := 21) (n := 107) (by decide) rfl (by decide) (by decide)) ?_
            by_cases c132 : 0 ≤ (xwr ((xwr ((a1) * (4))) + (a2))) ∧ (xwr ((xwr ((a1) * (4))) + (a2))) < 800
            · skip
              rw [if_pos c132] at e
              obtain ⟨M133, q134, h135⟩ := h129.sl (o := (G130 0 22).toNat + 32) (n := 800) (v := G130 (0) 21) (xoP_all (h129.itt c131) (Q := fun p => p + 32 < 276) (by decide) (by decide) (by decide)) (xoP_all (h129.itt c131) (Q := fun p => xl_t (p + 32) = (2, 4, 800)) rfl rfl rfl) c132.1 c132.2 (h129.gln (o := 0) (c := 15) (k := 21) (n := 107) (by decide) rfl (by decide) (by decide))
              refine xok_eqb q134 ?_
              obtain ⟨G136, g1, e⟩ := xbnd e
              cases g1
              have h135_ : xRX m M0 M133 (xup2 G130 ((G130 0 22).toNat + 32) (xwr ((xwr ((a1) * (4))) + (a2))).toNat (G130 (0) 21)) := h135
              generalize hGG136 : (xup2 G130 ((G130 0 22).toNat + 32) (xwr ((xwr ((a1) * (4))) + (a2))).toNat (G130 (0) 21)) = G136 at e h135
              clear h135_ hGG136
              exact s250_104 hI   h135  e
            · rw [if_neg c132] at e; cases e
          · rw [if_neg c126] at e; cases e
      · rw [if_neg c118] at e
        by_cases c137 : R113.2 0 22 < 0
        · rw [if_pos c137] at e; cases e
        rw [if_neg c137] at e
        refine xok_eqb (h115.itp c137) ?_
        refine xok_eqb (h115.pt (o := (R113.2 0 22).toNat) (c := 14) (k := 33) (t := (R113.2 0 22).toNat + 31) (n := 38) (xoP_o (h115.itt c137)).1 (xoP_o (h115.itt c137)).2 (by decide) (xoP_all (h115.itt c137) (Q := fun p => (p, 33, p + 31) ∈ xl_P) (by decide +kernel) (by decide +kernel) (by decide +kernel))) ?_
        by_cases c138 : 0 ≤ (xwr ((xwr ((a1) * (4))) + (a2))) ∧ (xwr ((xwr ((a1) * (4))) + (a2))) < 800
        · skip
          rw [if_pos c138] at e
          obtain ⟨M139, q140, h141⟩ := h115.si (o := (R113.2 0 22).toNat + 31) (n := 800) (v := 2) (xoP_all (h115.itt c137) (Q := fun p => p + 31 < 276) (by decide) (by decide) (by decide)) (xoP_all (h115.itt c137) (Q := fun p => xl_t (p + 31) = (2, 3, 800)) rfl rfl rfl) c138.1 c138.2 (show xin (2) by decide)
          refine xok_eqb q140 ?_
          obtain ⟨G142, g1, e⟩ := xbnd e
          cases g1
          have h141_ : xRX m M0 M139 (xup2 R113.2 ((R113.2 0 22).toNat + 31) (xwr ((xwr ((a1) * (4))) + (a2))).toNat (2)) := h141
          generalize hGG142 : (xup2 R113.2 ((R113.2 0 22).toNat + 31) (xwr ((xwr ((a1) * (4))) + (a2))).toNat (2)) = G142 at e h141
          clear h141_ hGG142
          obtain ⟨R143, e144, e⟩ := xbnd e
          refine xok_eqb (h141.is (o := 0) (c := 15) (by decide) rfl) ?_
          refine xok_call (sg213 hI  h141  e144) ?_
          intro M147 h145
          exact s250_104 hI   h145  e
        · rw [if_neg c138] at e; cases e
    · rw [if_neg c112] at e
      by_cases c148 : R107.2 0 22 < 0
      · rw [if_pos c148] at e; cases e
      rw [if_neg c148] at e
      refine xok_eqb (h109.itp c148) ?_
      refine xok_eqb (h109.pt (o := (R107.2 0 22).toNat) (c := 14) (k := 33) (t := (R107.2 0 22).toNat + 31) (n := 38) (xoP_o (h109.itt c148)).1 (xoP_o (h109.itt c148)).2 (by decide) (xoP_all (h109.itt c148) (Q := fun p => (p, 33, p + 31) ∈ xl_P) (by decide +kernel) (by decide +kernel) (by decide +kernel))) ?_
      by_cases c149 : 0 ≤ (xwr ((xwr ((a1) * (4))) + (a2))) ∧ (xwr ((xwr ((a1) * (4))) + (a2))) < 800
      · skip
        rw [if_pos c149] at e
        obtain ⟨M150, q151, h152⟩ := h109.si (o := (R107.2 0 22).toNat + 31) (n := 800) (v := 1) (xoP_all (h109.itt c148) (Q := fun p => p + 31 < 276) (by decide) (by decide) (by decide)) (xoP_all (h109.itt c148) (Q := fun p => xl_t (p + 31) = (2, 3, 800)) rfl rfl rfl) c149.1 c149.2 (show xin (1) by decide)
        refine xok_eqb q151 ?_
        obtain ⟨G153, g1, e⟩ := xbnd e
        cases g1
        have h152_ : xRX m M0 M150 (xup2 R107.2 ((R107.2 0 22).toNat + 31) (xwr ((xwr ((a1) * (4))) + (a2))).toNat (1)) := h152
        generalize hGG153 : (xup2 R107.2 ((R107.2 0 22).toNat + 31) (xwr ((xwr ((a1) * (4))) + (a2))).toNat (1)) = G153 at e h152
        clear h152_ hGG153
        by_cases c154 : G153 0 22 < 0
        · rw [if_pos c154] at e; cases e
        rw [if_neg c154] at e
        refine xok_eqb (h152.itp c154) ?_
        refine xok_eqb (h152.pt (o := (G153 0 22).toNat) (c := 14) (k := 34) (t := (G153 0 22).toNat + 32) (n := 38) (xoP_o (h152.itt c154)).1 (xoP_o (h152.itt c154)).2 (by decide) (xoP_all (h152.itt c154) (Q := fun p => (p, 34, p + 32) ∈ xl_P) (by decide +kernel) (by decide +kernel) (by decide +kernel))) ?_
        obtain ⟨R155, e156, e⟩ := xbnd e
        refine xok_eqb (h152.is (o := 0) (c := 15) (by decide) rfl) ?_
        refine xok_call (sg239 hI  h152  e156) ?_
        rintro ⟨v_, M159⟩ ⟨hv_, h157, hi158⟩
        cases hv_
        by_cases c160 : 0 ≤ (xwr ((xwr ((a1) * (4))) + (a2))) ∧ (xwr ((xwr ((a1) * (4))) + (a2))) < 800
        · skip
          rw [if_pos c160] at e
          obtain ⟨M161, q162, h163⟩ := h157.sl (o := (G153 0 22).toNat + 32) (n := 800) (v := R155.1) (xoP_all (h152.itt c154) (Q := fun p => p + 32 < 276) (by decide) (by decide) (by decide)) (xoP_all (h152.itt c154) (Q := fun p => xl_t (p + 32) = (2, 4, 800)) rfl rfl rfl) c160.1 c160.2 (xin_N hi158)
          refine xok_eqb q162 ?_
          obtain ⟨G164, g1, e⟩ := xbnd e
          cases g1
          have h163_ : xRX m M0 M161 (xup2 R155.2 ((G153 0 22).toNat + 32) (xwr ((xwr ((a1) * (4))) + (a2))).toNat (R155.1)) := h163
          generalize hGG164 : (xup2 R155.2 ((G153 0 22).toNat + 32) (xwr ((xwr ((a1) * (4))) + (a2))).toNat (R155.1)) = G164 at e h163
          clear h163_ hGG164
          exact s250_104 hI   h163  e
        · rw [if_neg c160] at e; cases e
      · rw [if_neg c149] at e; cases e
  · rw [if_neg c106] at e
    cases e
    exact ⟨_, rfl, h103⟩
-- ChangeHouseModel.worth
theorem s266_142 {m f : Nat} {M0 M : xj_M} {G : xG_} (hI : xHI f)  {r10 : Int → Int → Int → xG_ → Option (Int × xG_)} {o10 : Nat → Int → Int → Int → xj_M → Option (Int × xj_M)}  (hr10 : ∀ {M : xj_M} {G : xG_} {x2 : Int} {x3 : Int} {x4 : Int} {R : Int × xG_}, xRX m M0 M G → xin x2 → xin x3 → xin x4 → r10 x2 x3 x4 G = some R → xok (o10 m x2 x3 x4 M) (fun r => r.1 = R.1 ∧ xRX m M0 r.2 R.2 ∧ xiN R.1)) (h : xRX m M0 M G) {x2 : Int} {x3 : Int} {x4 : Int} {R : Int × xG_} (tx2 : xin x2) (tx3 : xin x3) (tx4 : xin x4) (e : g266_142  r10 f x2 x3 x4 G = some R) : xok (f266_142  o10 f m x2 x3 x4 M) (fun r => r.1 = R.1 ∧ xRX m M0 r.2 R.2 ∧ xiN R.1) := by
  unfold g266_142 at e
  unfold f266_142
  exact hr10 h tx2 tx3 (xin_wr _) e
theorem s266_85 {m f : Nat} {M0 M : xj_M} {G : xG_} (hI : xHI f)  {r10 : Int → Int → Int → xG_ → Option (Int × xG_)} {o10 : Nat → Int → Int → Int → xj_M → Option (Int × xj_M)}  (hr10 : ∀ {M : xj_M} {G : xG_} {x2 : Int} {x3 : Int} {x4 : Int} {R : Int × xG_}, xRX m M0 M G → xin x2 → xin x3 → xin x4 → r10 x2 x3 x4 G = some R → xok (o10 m x2 x3 x4 M) (fun r => r.1 = R.1 ∧ xRX m M0 r.2 R.2 ∧ xiN R.1)) (h : xRX m M0 M G) {x2 : Int} {x3 : Int} {x4 : Int} {y0 : Int} {y1 : Int} {y2 : Nat} {R : Int × xG_} (tx2 : xin x2) (tx3 : xin x3) (tx4 : xin x4) (ty0 : xiN y0) (ty1 : xin y1) (ty2 : xoJ y2) (e : g266_85  r10 f x2 x3 x4 y0 y1 y2 G = some R) : xok (f266_85  o10 f m x2 x3 x4 y0 y1 (m + y2) M) (fun r => r.1 = R.1 ∧ xRX m M0 r.2 R.2 ∧ xiN R.1) := by
  unfold g266_85 at e
  unfold f266_85
  by_cases c101 : 0 ≤ (y1) ∧ (y1) < ((xl_t (y2)).2.2 : Int)
  · skip
    rw [if_pos c101] at e
    obtain ⟨M102, q103, h104⟩ := h.sl (o := y2) (n := (xl_t (y2)).2.2) (v := y0) ty2.1 ty2.2 c101.1 c101.2 ty0
    refine xok_eqb q103 ?_
    obtain ⟨G105, g1, e⟩ := xbnd e
    cases g1
    have h104_ : xRX m M0 M102 (xup2 G (y2) (y1).toNat (y0)) := h104
    generalize hGG105 : (xup2 G (y2) (y1).toNat (y0)) = G105 at e h104
    clear h104_ hGG105
    exact s266_142 hI  hr10 h104 tx2 (xin_wr _) tx4 e
  · rw [if_neg c101] at e; cases e
theorem s266_165 {m f : Nat} {M0 M : xj_M} {G : xG_} (hI : xHI f)     (h : xRX m M0 M G) {y0 : Int} {R : Int × xG_} (ty0 : xiN y0) (e : g266_165   f y0 G = some R) : xok (f266_165   f y0 M) (fun r => r.1 = R.1 ∧ xRX m M0 r.2 R.2 ∧ xiN R.1) := by
  unfold g266_165 at e
  unfold f266_165
  cases e
  exact ⟨_, rfl, rfl, h, ty0⟩
theorem s266_148 {m f : Nat} {M0 M : xj_M} {G : xG_} (hI : xHI f)     (h : xRX m M0 M G)  {R : Int × xG_}  (e : g266_148   f  G = some R) : xok (f266_148   f m M) (fun r => r.1 = R.1 ∧ xRX m M0 r.2 R.2 ∧ xiN R.1) := by
  unfold g266_148 at e
  unfold f266_148
  refine xok_eqb (h.gi (o := 0) (c := 15) (k := 42) (n := 107) (by decide) rfl (by decide) (by decide)) ?_
  refine xok_ite (fun c106 => ?_) (fun c106 => ?_)
  · rw [if_pos c106] at e
    refine xok_eqb (h.pt (o := 0) (c := 15) (k := 36) (t := 111) (n := 107) (by decide) rfl (by decide) (by decide +kernel)) ?_
    by_cases c107 : 0 ≤ (0 : Int) ∧ (0 : Int) < 6200
    · skip
      rw [if_pos c107] at e
      refine xok_eqb (h.al (o := 111) (n := 6200) (by decide) rfl  c107.1 c107.2) ?_
      exact s266_165 hI   h (h.aln (o := 111) (n := 6200) (by decide) rfl  c107.1 c107.2) e
    · rw [if_neg c107] at e; cases e
  · rw [if_neg c106] at e
    exact s266_165 hI   h (show xiN (0) by decide) e
theorem s266_10b {m f : Nat} {M0 M : xj_M} {G : xG_} (hI : xHI f)  {r10 : Int → Int → Int → xG_ → Option (Int × xG_)} {o10 : Nat → Int → Int → Int → xj_M → Option (Int × xj_M)}  (hr10 : ∀ {M : xj_M} {G : xG_} {x2 : Int} {x3 : Int} {x4 : Int} {R : Int × xG_}, xRX m M0 M G → xin x2 → xin x3 → xin x4 → r10 x2 x3 x4 G = some R → xok (o10 m x2 x3 x4 M) (fun r => r.1 = R.1 ∧ xRX m M0 r.2 R.2 ∧ xiN R.1)) (h : xRX m M0 M G) {x2 : Int} {x3 : Int} {x4 : Int} {R : Int × xG_} (tx2 : xin x2) (tx3 : xin x3) (tx4 : xin x4) (e : g266_10b  r10 f x2 x3 x4 G = some R) : xok (f266_10b  o10 f m x2 x3 x4 M) (fun r => r.1 = R.1 ∧ xRX m M0 r.2 R.2 ∧ xiN R.1) := by
  unfold g266_10b at e
  unfold f266_10b
  refine xok_ite (fun c108 => ?_) (fun c108 => ?_)
  · rw [if_pos c108] at e
    exact s266_148 hI   h  e
  · rw [if_neg c108] at e
    refine xok_eqb (h.gi (o := 0) (c := 15) (k := 42) (n := 107) (by decide) rfl (by decide) (by decide)) ?_
    refine xok_ite (fun c109 => ?_) (fun c109 => ?_)
    · rw [if_pos c109] at e
      exact s266_148 hI   h  e
    · rw [if_neg c109] at e
      refine xok_eqb (h.pt (o := 0) (c := 15) (k := 29) (t := 2) (n := 107) (by decide) rfl (by decide) (by decide +kernel)) ?_
      refine xok_eqb (h.pt (o := 2) (c := 14) (k := 35) (t := 2 + 33) (n := 38) (xoP_o (show xoP 2 by unfold xoP; omega)).1 (xoP_o (show xoP 2 by unfold xoP; omega)).2 (by decide) (xoP_all (show xoP 2 by unfold xoP; omega) (Q := fun p => (p, 35, p + 33) ∈ xl_P) (by decide +kernel) (by decide +kernel) (by decide +kernel))) ?_
      by_cases c110 : 0 ≤ (x4) ∧ (x4) < 6200
      · skip
        rw [if_pos c110] at e
        refine xok_eqb (h.ai (o := 2 + 33) (n := 6200) (xoP_all (show xoP 2 by unfold xoP; omega) (Q := fun p => p + 33 < 276) (by decide) (by decide) (by decide)) (xoP_all (show xoP 2 by unfold xoP; omega) (Q := fun p => xl_t (p + 33) = (2, 3, 6200)) rfl rfl rfl) (by decide) c110.1 c110.2) ?_
        refine xok_ite (fun c111 => ?_) (fun c111 => ?_)
        · rw [if_pos c111] at e
          refine xok_eqb (h.pt (o := 0) (c := 15) (k := 36) (t := 111) (n := 107) (by decide) rfl (by decide) (by decide +kernel)) ?_
          by_cases c112 : 0 ≤ (xwr ((x3) - (1))) ∧ (xwr ((x3) - (1))) < 6200
          · skip
            rw [if_pos c112] at e
            refine xok_eqb (h.al (o := 111) (n := 6200) (by decide) rfl  c112.1 c112.2) ?_
            refine xok_eqb (h.pt (o := 0) (c := 15) (k := 36) (t := 111) (n := 107) (by decide) rfl (by decide) (by decide +kernel)) ?_
            by_cases c113 : 0 ≤ (xwr ((x3) - (2))) ∧ (xwr ((x3) - (2))) < 6200
            · skip
              rw [if_pos c113] at e
              refine xok_eqb (h.al (o := 111) (n := 6200) (by decide) rfl  c113.1 c113.2) ?_
              refine xok_eqb (h.pt (o := 0) (c := 15) (k := 36) (t := 111) (n := 107) (by decide) rfl (by decide) (by decide +kernel)) ?_
              refine xok_eqb (h.pt (o := 0) (c := 15) (k := 29) (t := 2) (n := 107) (by decide) rfl (by decide) (by decide +kernel)) ?_
              refine xok_eqb (h.pt (o := 2) (c := 14) (k := 36) (t := 2 + 34) (n := 38) (xoP_o (show xoP 2 by unfold xoP; omega)).1 (xoP_o (show xoP 2 by unfold xoP; omega)).2 (by decide) (xoP_all (show xoP 2 by unfold xoP; omega) (Q := fun p => (p, 36, p + 34) ∈ xl_P) (by decide +kernel) (by decide +kernel) (by decide +kernel))) ?_
              by_cases c114 : 0 ≤ (x4) ∧ (x4) < 6200
              · skip
                rw [if_pos c114] at e
                refine xok_eqb (h.al (o := 2 + 34) (n := 6200) (xoP_all (show xoP 2 by unfold xoP; omega) (Q := fun p => p + 34 < 276) (by decide) (by decide) (by decide)) (xoP_all (show xoP 2 by unfold xoP; omega) (Q := fun p => xl_t (p + 34) = (2, 4, 6200)) rfl rfl rfl)  c114.1 c114.2) ?_
                obtain ⟨R115, e116, e⟩ := xbnd e
                refine xok_eqb (h.is (o := 0) (c := 15) (by decide) rfl) ?_
                refine xok_call (sg268 hI  h (xin_wr _) (h.aln (o := 111) (n := 6200) (by decide) rfl  c113.1 c113.2) (h.aln (o := 111) (n := 6200) (by decide) rfl  c112.1 c112.2) e116) ?_
                rintro ⟨v_, M119⟩ ⟨hv_, h117, hi118⟩
                cases hv_
                by_cases c120 : 0 ≤ (xwr ((xwr ((x3) + (-1))) - (1))) ∧ (xwr ((xwr ((x3) + (-1))) - (1))) < 6200
                · skip
                  rw [if_pos c120] at e
                  obtain ⟨M121, q122, h123⟩ := h117.sl (o := 111) (n := 6200) (v := R115.1) (by decide) rfl c120.1 c120.2 hi118
                  refine xok_eqb q122 ?_
                  obtain ⟨G124, g1, e⟩ := xbnd e
                  cases g1
                  have h123_ : xRX m M0 M121 (xup2 R115.2 (111) (xwr ((xwr ((x3) + (-1))) - (1))).toNat (R115.1)) := h123
                  generalize hGG124 : (xup2 R115.2 (111) (xwr ((xwr ((x3) + (-1))) - (1))).toNat (R115.1)) = G124 at e h123
                  clear h123_ hGG124
                  exact s266_142 hI  hr10 h123 tx2 (xin_wr _) tx4 e
                · rw [if_neg c120] at e; cases e
              · rw [if_neg c114] at e; cases e
            · rw [if_neg c113] at e; cases e
          · rw [if_neg c112] at e; cases e
        · rw [if_neg c111] at e
          refine xok_eqb (h.pt (o := 0) (c := 15) (k := 36) (t := 111) (n := 107) (by decide) rfl (by decide) (by decide +kernel)) ?_
          refine xok_eqb (h.pt (o := 0) (c := 15) (k := 29) (t := 2) (n := 107) (by decide) rfl (by decide) (by decide +kernel)) ?_
          refine xok_eqb (h.pt (o := 2) (c := 14) (k := 35) (t := 2 + 33) (n := 38) (xoP_o (show xoP 2 by unfold xoP; omega)).1 (xoP_o (show xoP 2 by unfold xoP; omega)).2 (by decide) (xoP_all (show xoP 2 by unfold xoP; omega) (Q := fun p => (p, 35, p + 33) ∈ xl_P) (by decide +kernel) (by decide +kernel) (by decide +kernel))) ?_
          by_cases c125 : 0 ≤ (x4) ∧ (x4) < 6200
          · skip
            rw [if_pos c125] at e
            refine xok_eqb (h.ai (o := 2 + 33) (n := 6200) (xoP_all (show xoP 2 by unfold xoP; omega) (Q := fun p => p + 33 < 276) (by decide) (by decide) (by decide)) (xoP_all (show xoP 2 by unfold xoP; omega) (Q := fun p => xl_t (p + 33) = (2, 3, 6200)) rfl rfl rfl) (by decide) c125.1 c125.2) ?_
            refine xok_ite (fun c126 => ?_) (fun c126 => ?_)
            · rw [if_pos c126] at e
              refine xok_eqb (h.pt (o := 0) (c := 15) (k := 35) (t := 110) (n := 107) (by decide) rfl (by decide) (by decide +kernel)) ?_
              refine xok_eqb (h.pt (o := 0) (c := 15) (k := 29) (t := 2) (n := 107) (by decide) rfl (by decide) (by decide +kernel)) ?_
              refine xok_eqb (h.pt (o := 2) (c := 14) (k := 36) (t := 2 + 34) (n := 38) (xoP_o (show xoP 2 by unfold xoP; omega)).1 (xoP_o (show xoP 2 by unfold xoP; omega)).2 (by decide) (xoP_all (show xoP 2 by unfold xoP; omega) (Q := fun p => (p, 36, p + 34) ∈ xl_P) (by decide +kernel) (by decide +kernel) (by decide +kernel))) ?_
              by_cases c127 : 0 ≤ (x4) ∧ (x4) < 6200
              · skip
                rw [if_pos c127] at e
                refine xok_eqb (h.al (o := 2 + 34) (n := 6200) (xoP_all (show xoP 2 by unfold xoP; omega) (Q := fun p => p + 34 < 276) (by decide) (by decide) (by decide)) (xoP_all (show xoP 2 by unfold xoP; omega) (Q := fun p => xl_t (p + 34) = (2, 4, 6200)) rfl rfl rfl)  c127.1 c127.2) ?_
                by_cases c128 : 0 ≤ (xwr (G (2 + 34) (x4).toNat)) ∧ (xwr (G (2 + 34) (x4).toNat)) < 8
                · skip
                  rw [if_pos c128] at e
                  refine xok_eqb (h.al (o := 110) (n := 8) (by decide) rfl  c128.1 c128.2) ?_
                  exact s266_85 hI  hr10 h tx2 tx3 tx4 (h.aln (o := 110) (n := 8) (by decide) rfl  c128.1 c128.2) tx3 (show xoJ 111 from ⟨by decide, rfl⟩) e
                · rw [if_neg c128] at e; cases e
              · rw [if_neg c127] at e; cases e
            · rw [if_neg c126] at e
              refine xok_eqb (h.pt (o := 0) (c := 15) (k := 29) (t := 2) (n := 107) (by decide) rfl (by decide) (by decide +kernel)) ?_
              refine xok_eqb (h.pt (o := 2) (c := 14) (k := 36) (t := 2 + 34) (n := 38) (xoP_o (show xoP 2 by unfold xoP; omega)).1 (xoP_o (show xoP 2 by unfold xoP; omega)).2 (by decide) (xoP_all (show xoP 2 by unfold xoP; omega) (Q := fun p => (p, 36, p + 34) ∈ xl_P) (by decide +kernel) (by decide +kernel) (by decide +kernel))) ?_
              by_cases c129 : 0 ≤ (x4) ∧ (x4) < 6200
              · skip
                rw [if_pos c129] at e
                refine xok_eqb (h.al (o := 2 + 34) (n := 6200) (xoP_all (show xoP 2 by unfold xoP; omega) (Q := fun p => p + 34 < 276) (by decide) (by decide) (by decide)) (xoP_all (show xoP 2 by unfold xoP; omega) (Q := fun p => xl_t (p + 34) = (2, 4, 6200)) rfl rfl rfl)  c129.1 c129.2) ?_
                exact s266_85 hI  hr10 h tx2 tx3 tx4 (h.aln (o := 2 + 34) (n := 6200) (xoP_all (show xoP 2 by unfold xoP; omega) (Q := fun p => p + 34 < 276) (by decide) (by decide) (by decide)) (xoP_all (show xoP 2 by unfold xoP; omega) (Q := fun p => xl_t (p + 34) = (2, 4, 6200)) rfl rfl rfl)  c129.1 c129.2) tx3 (show xoJ 111 from ⟨by decide, rfl⟩) e
              · rw [if_neg c129] at e; cases e
          · rw [if_neg c125] at e; cases e
      · rw [if_neg c110] at e; cases e
theorem s266_10 {m f : Nat} {M0 : xj_M} (hI : xHI f)     : ∀ {n : Nat} {M : xj_M} {G : xG_} {x2 : Int} {x3 : Int} {x4 : Int} {R : Int × xG_}, xRX m M0 M G → xin x2 → xin x3 → xin x4 → g266_10   f n x2 x3 x4 G = some R → xok (f266_10   f n m x2 x3 x4 M) (fun r => r.1 = R.1 ∧ xRX m M0 r.2 R.2 ∧ xiN R.1) := by
  intro n
  induction n with
  | zero => intros; rename_i e; cases e
  | succ n ih =>
    intros
    rename_i h i0 i1 i2 e
    exact s266_10b hI   ih h i0 i1 i2 e
theorem sg266 {m f : Nat} {M0 M : xj_M} {G : xG_} (hI : xHI f)   (h : xRX m M0 M G) {a1 : Int} {a2 : Int} {R : Int × xG_} (ta1 : xin a1) (ta2 : xin a2) (e : g266  f a1 a2 G = some R) : xok (f266  f m a1 a2 M) (fun r => r.1 = R.1 ∧ xRX m M0 r.2 R.2 ∧ xiN R.1) := by
  unfold g266 at e
  unfold f266
  obtain ⟨M130, q131, h132⟩ := h.pb (v := 0) (o := 0) (c := 15) (k := 42) (n := 107) (by decide) rfl (by decide) (by decide) (by decide)
  refine xok_eqb q131 ?_
  obtain ⟨G133, g1, e⟩ := xbnd e
  cases g1
  have h132_ : xRX m M0 M130 (xup2 G (0) 42 (0)) := h132
  generalize hGG133 : (xup2 G (0) 42 (0)) = G133 at e h132
  clear h132_ hGG133
  exact s266_10 hI   h132 ta2 (show xin (0) by decide) ta1 e
-- ChangeHouseModel.binds
theorem s278_49 {m f : Nat} {M0 M : xj_M} {G : xG_} (hI : xHI f)     (h : xRX m M0 M G)  {R : Int × xG_}  (e : g278_49   f  G = some R) : xok (f278_49   f  M) (fun r => r.1 = R.1 ∧ xRX m M0 r.2 R.2 ∧ xin R.1) := by
  unfold g278_49 at e
  unfold f278_49
  cases e
  exact ⟨_, rfl, rfl, h, (show xin (1) by decide)⟩
theorem sg278 {m f : Nat} {M0 M : xj_M} {G : xG_} (hI : xHI f)   (h : xRX m M0 M G) {a1 : Int} {a2 : Int} {a3 : Int} {a4 : Int} {R : Int × xG_} (ta1 : xin a1) (ta2 : xin a2) (ta3 : xin a3) (ta4 : xin a4) (e : g278  f a1 a2 a3 a4 G = some R) : xok (f278  f m a1 a2 a3 a4 M) (fun r => r.1 = R.1 ∧ xRX m M0 r.2 R.2 ∧ xin R.1) := by
  unfold g278 at e
  unfold f278
  refine xok_eqb (h.pt (o := 0) (c := 15) (k := 29) (t := 2) (n := 107) (by decide) rfl (by decide) (by decide +kernel)) ?_
  obtain ⟨R101, e102, e⟩ := xbnd e
  refine xok_call (sg256 hI  h (show xoP 2 by unfold xoP; omega) ta1 ta2 e102) ?_
  rintro ⟨v_, M105⟩ ⟨hv_, h103, hi104⟩
  cases hv_
  refine xok_ite (fun c106 => ?_) (fun c106 => ?_)
  · rw [if_pos c106] at e
    exact s278_49 hI   h103  e
  · rw [if_neg c106] at e
    refine xok_eqb (h103.pt (o := 0) (c := 15) (k := 29) (t := 2) (n := 107) (by decide) rfl (by decide) (by decide +kernel)) ?_
    refine xok_eqb (h103.pt (o := 2) (c := 14) (k := 36) (t := 2 + 34) (n := 38) (xoP_o (show xoP 2 by unfold xoP; omega)).1 (xoP_o (show xoP 2 by unfold xoP; omega)).2 (by decide) (xoP_all (show xoP 2 by unfold xoP; omega) (Q := fun p => (p, 36, p + 34) ∈ xl_P) (by decide +kernel) (by decide +kernel) (by decide +kernel))) ?_
    by_cases c107 : 0 ≤ (a1) ∧ (a1) < 6200
    · skip
      rw [if_pos c107] at e
      refine xok_eqb (h103.al (o := 2 + 34) (n := 6200) (xoP_all (show xoP 2 by unfold xoP; omega) (Q := fun p => p + 34 < 276) (by decide) (by decide) (by decide)) (xoP_all (show xoP 2 by unfold xoP; omega) (Q := fun p => xl_t (p + 34) = (2, 4, 6200)) rfl rfl rfl)  c107.1 c107.2) ?_
      obtain ⟨R108, e109, e⟩ := xbnd e
      refine xok_eqb (h103.is (o := 0) (c := 15) (by decide) rfl) ?_
      refine xok_call (sg270 hI  h103 (xin_wr _) e109) ?_
      rintro ⟨v_, M112⟩ ⟨hv_, h110, hi111⟩
      cases hv_
      refine xok_ite (fun c113 => ?_) (fun c113 => ?_)
      · rw [if_pos c113] at e
        exact s278_49 hI   h110  e
      · rw [if_neg c113] at e
        refine xok_eqb (h110.pt (o := 0) (c := 15) (k := 29) (t := 2) (n := 107) (by decide) rfl (by decide) (by decide +kernel)) ?_
        obtain ⟨R114, e115, e⟩ := xbnd e
        refine xok_call (sg255 hI  h110 (show xoP 2 by unfold xoP; omega) ta3 ta4 e115) ?_
        rintro ⟨v_, M118⟩ ⟨hv_, h116, hi117⟩
        cases hv_
        refine xok_eqb (h116.gi (o := 0) (c := 15) (k := 37) (n := 107) (by decide) rfl (by decide) (by decide)) ?_
        refine xok_ite (fun c119 => ?_) (fun c119 => ?_)
        · rw [if_pos c119] at e
          obtain ⟨R120, e121, e⟩ := xbnd e
          refine xok_eqb (h116.is (o := 0) (c := 15) (by decide) rfl) ?_
          refine xok_call (sg266 hI  h116 ta3 ta4 e121) ?_
          rintro ⟨v_, M124⟩ ⟨hv_, h122, hi123⟩
          cases hv_
          refine xok_eqb (h122.gi (o := 0) (c := 15) (k := 42) (n := 107) (by decide) rfl (by decide) (by decide)) ?_
          refine xok_ite (fun c125 => ?_) (fun c125 => ?_)
          · rw [if_pos c125] at e
            refine xok_eqb (h122.pt (o := 0) (c := 15) (k := 35) (t := 110) (n := 107) (by decide) rfl (by decide) (by decide +kernel)) ?_
            refine xok_eqb (h122.pt (o := 0) (c := 15) (k := 29) (t := 2) (n := 107) (by decide) rfl (by decide) (by decide +kernel)) ?_
            refine xok_eqb (h122.pt (o := 2) (c := 14) (k := 36) (t := 2 + 34) (n := 38) (xoP_o (show xoP 2 by unfold xoP; omega)).1 (xoP_o (show xoP 2 by unfold xoP; omega)).2 (by decide) (xoP_all (show xoP 2 by unfold xoP; omega) (Q := fun p => (p, 36, p + 34) ∈ xl_P) (by decide +kernel) (by decide +kernel) (by decide +kernel))) ?_
            by_cases c126 : 0 ≤ (a1) ∧ (a1) < 6200
            · skip
              rw [if_pos c126] at e
              refine xok_eqb (h122.al (o := 2 + 34) (n := 6200) (xoP_all (show xoP 2 by unfold xoP; omega) (Q := fun p => p + 34 < 276) (by decide) (by decide) (by decide)) (xoP_all (show xoP 2 by unfold xoP; omega) (Q := fun p => xl_t (p + 34) = (2, 4, 6200)) rfl rfl rfl)  c126.1 c126.2) ?_
              by_cases c127 : 0 ≤ (xwr (R120.2 (2 + 34) (a1).toNat)) ∧ (xwr (R120.2 (2 + 34) (a1).toNat)) < 8
              · skip
                rw [if_pos c127] at e
                obtain ⟨M128, q129, h130⟩ := h122.sl (o := 110) (n := 8) (v := R120.1) (by decide) rfl c127.1 c127.2 hi123
                refine xok_eqb q129 ?_
                obtain ⟨G131, g1, e⟩ := xbnd e
                cases g1
                have h130_ : xRX m M0 M128 (xup2 R120.2 (110) (xwr (R120.2 (2 + 34) (a1).toNat)).toNat (R120.1)) := h130
                generalize hGG131 : (xup2 R120.2 (110) (xwr (R120.2 (2 + 34) (a1).toNat)).toNat (R120.1)) = G131 at e h130
                clear h130_ hGG131
                refine xok_eqb (h130.gi (o := 0) (c := 15) (k := 37) (n := 107) (by decide) rfl (by decide) (by decide)) ?_
                refine xok_eqb (h130.pt (o := 0) (c := 15) (k := 29) (t := 2) (n := 107) (by decide) rfl (by decide) (by decide +kernel)) ?_
                refine xok_eqb (h130.pt (o := 2) (c := 14) (k := 36) (t := 2 + 34) (n := 38) (xoP_o (show xoP 2 by unfold xoP; omega)).1 (xoP_o (show xoP 2 by unfold xoP; omega)).2 (by decide) (xoP_all (show xoP 2 by unfold xoP; omega) (Q := fun p => (p, 36, p + 34) ∈ xl_P) (by decide +kernel) (by decide +kernel) (by decide +kernel))) ?_
                by_cases c132 : 0 ≤ (a1) ∧ (a1) < 6200
                · skip
                  rw [if_pos c132] at e
                  refine xok_eqb (h130.al (o := 2 + 34) (n := 6200) (xoP_all (show xoP 2 by unfold xoP; omega) (Q := fun p => p + 34 < 276) (by decide) (by decide) (by decide)) (xoP_all (show xoP 2 by unfold xoP; omega) (Q := fun p => xl_t (p + 34) = (2, 4, 6200)) rfl rfl rfl)  c132.1 c132.2) ?_
                  obtain ⟨M133, q134, h135⟩ := h130.pi (v := xor_ (G131 (0) 37) (xshl (1) (xwr (G131 (2 + 34) (a1).toNat)))) (o := 0) (c := 15) (k := 37) (n := 107) (by decide) rfl (by decide) (by decide) (xin_of _)
                  refine xok_eqb q134 ?_
                  obtain ⟨G136, g1, e⟩ := xbnd e
                  cases g1
                  have h135_ : xRX m M0 M133 (xup2 G131 (0) 37 (xor_ (G131 (0) 37) (xshl (1) (xwr (G131 (2 + 34) (a1).toNat))))) := h135
                  generalize hGG136 : (xup2 G131 (0) 37 (xor_ (G131 (0) 37) (xshl (1) (xwr (G131 (2 + 34) (a1).toNat))))) = G136 at e h135
                  clear h135_ hGG136
                  cases e
                  exact ⟨_, rfl, rfl, h135, (show xin (1) by decide)⟩
                · rw [if_neg c132] at e; cases e
              · rw [if_neg c127] at e; cases e
            · rw [if_neg c126] at e; cases e
          · rw [if_neg c125] at e
            cases e
            exact ⟨_, rfl, rfl, h122, (show xin (0) by decide)⟩
        · rw [if_neg c119] at e
          exact s278_49 hI   h116  e
    · rw [if_neg c107] at e; cases e
-- ChangeHouseModel.compares
theorem s281_201 {m f : Nat} {M0 M : xj_M} {G : xG_} (hI : xHI f)     (h : xRX m M0 M G) {y0 : Int} {R : Int × xG_} (ty0 : xin y0) (e : g281_201   f y0 G = some R) : xok (f281_201   f y0 M) (fun r => r.1 = R.1 ∧ xRX m M0 r.2 R.2 ∧ xin R.1) := by
  unfold g281_201 at e
  unfold f281_201
  refine xok_ite (fun c101 => ?_) (fun c101 => ?_)
  · rw [if_pos c101] at e; cases e; exact ⟨_, rfl, rfl, h, ty0⟩
  · rw [if_neg c101] at e; cases e
theorem s281_188 {m f : Nat} {M0 M : xj_M} {G : xG_} (hI : xHI f)     (h : xRX m M0 M G) {y0 : Int} {R : Int × xG_} (ty0 : xin y0) (e : g281_188   f y0 G = some R) : xok (f281_188   f y0 M) (fun r => r.1 = R.1 ∧ xRX m M0 r.2 R.2 ∧ xin R.1) := by
  unfold g281_188 at e
  unfold f281_188
  refine xok_ite (fun c102 => ?_) (fun c102 => ?_)
  · rw [if_pos c102] at e; cases e; exact ⟨_, rfl, rfl, h, ty0⟩
  · rw [if_neg c102] at e; cases e
theorem s281_175 {m f : Nat} {M0 M : xj_M} {G : xG_} (hI : xHI f)     (h : xRX m M0 M G) {y0 : Int} {R : Int × xG_} (ty0 : xin y0) (e : g281_175   f y0 G = some R) : xok (f281_175   f y0 M) (fun r => r.1 = R.1 ∧ xRX m M0 r.2 R.2 ∧ xin R.1) := by
  unfold g281_175 at e
  unfold f281_175
  refine xok_ite (fun c103 => ?_) (fun c103 => ?_)
  · rw [if_pos c103] at e; cases e; exact ⟨_, rfl, rfl, h, ty0⟩
  · rw [if_neg c103] at e; cases e
theorem s281_162 {m f : Nat} {M0 M : xj_M} {G : xG_} (hI : xHI f)     (h : xRX m M0 M G) {y0 : Int} {R : Int × xG_} (ty0 : xin y0) (e : g281_162   f y0 G = some R) : xok (f281_162   f y0 M) (fun r => r.1 = R.1 ∧ xRX m M0 r.2 R.2 ∧ xin R.1) := by
  unfold g281_162 at e
  unfold f281_162
  refine xok_ite (fun c104 => ?_) (fun c104 => ?_)
  · rw [if_pos c104] at e; cases e; exact ⟨_, rfl, rfl, h, ty0⟩
  · rw [if_neg c104] at e; cases e
theorem s281_149 {m f : Nat} {M0 M : xj_M} {G : xG_} (hI : xHI f)     (h : xRX m M0 M G) {y0 : Int} {R : Int × xG_} (ty0 : xin y0) (e : g281_149   f y0 G = some R) : xok (f281_149   f y0 M) (fun r => r.1 = R.1 ∧ xRX m M0 r.2 R.2 ∧ xin R.1) := by
  unfold g281_149 at e
  unfold f281_149
  refine xok_ite (fun c105 => ?_) (fun c105 => ?_)
  · rw [if_pos c105] at e; cases e; exact ⟨_, rfl, rfl, h, ty0⟩
  · rw [if_neg c105] at e; cases e
theorem s281_136 {m f : Nat} {M0 M : xj_M} {G : xG_} (hI : xHI f)     (h : xRX m M0 M G) {y0 : Int} {R : Int × xG_} (ty0 : xin y0) (e : g281_136   f y0 G = some R) : xok (f281_136   f y0 M) (fun r => r.1 = R.1 ∧ xRX m M0 r.2 R.2 ∧ xin R.1) := by
  unfold g281_136 at e
  unfold f281_136
  refine xok_ite (fun c106 => ?_) (fun c106 => ?_)
  · rw [if_pos c106] at e; cases e; exact ⟨_, rfl, rfl, h, ty0⟩
  · rw [if_neg c106] at e; cases e
theorem sg281 {m f : Nat} {M0 M : xj_M} {G : xG_} (hI : xHI f)   (h : xRX m M0 M G) {a1 : Int} {R : Int × xG_} (ta1 : xin a1) (e : g281  f a1 G = some R) : xok (f281  f m a1 M) (fun r => r.1 = R.1 ∧ xRX m M0 r.2 R.2 ∧ xin R.1) := by
  unfold g281 at e
  unfold f281
  refine xok_eqb (h.pt (o := 0) (c := 15) (k := 29) (t := 2) (n := 107) (by decide) rfl (by decide) (by decide +kernel)) ?_
  refine xok_eqb (h.pt (o := 2) (c := 14) (k := 30) (t := 2 + 28) (n := 38) (xoP_o (show xoP 2 by unfold xoP; omega)).1 (xoP_o (show xoP 2 by unfold xoP; omega)).2 (by decide) (xoP_all (show xoP 2 by unfold xoP; omega) (Q := fun p => (p, 30, p + 28) ∈ xl_P) (by decide +kernel) (by decide +kernel) (by decide +kernel))) ?_
  by_cases c107 : 0 ≤ (a1) ∧ (a1) < 200
  · skip
    rw [if_pos c107] at e
    refine xok_eqb (h.ai (o := 2 + 28) (n := 200) (xoP_all (show xoP 2 by unfold xoP; omega) (Q := fun p => p + 28 < 276) (by decide) (by decide) (by decide)) (xoP_all (show xoP 2 by unfold xoP; omega) (Q := fun p => xl_t (p + 28) = (2, 3, 200)) rfl rfl rfl) (by decide) c107.1 c107.2) ?_
    refine xok_eqb (h.pt (o := 0) (c := 15) (k := 29) (t := 2) (n := 107) (by decide) rfl (by decide) (by decide +kernel)) ?_
    refine xok_eqb (h.pt (o := 2) (c := 14) (k := 31) (t := 2 + 29) (n := 38) (xoP_o (show xoP 2 by unfold xoP; omega)).1 (xoP_o (show xoP 2 by unfold xoP; omega)).2 (by decide) (xoP_all (show xoP 2 by unfold xoP; omega) (Q := fun p => (p, 31, p + 29) ∈ xl_P) (by decide +kernel) (by decide +kernel) (by decide +kernel))) ?_
    by_cases c108 : 0 ≤ (a1) ∧ (a1) < 200
    · skip
      rw [if_pos c108] at e
      refine xok_eqb (h.ai (o := 2 + 29) (n := 200) (xoP_all (show xoP 2 by unfold xoP; omega) (Q := fun p => p + 29 < 276) (by decide) (by decide) (by decide)) (xoP_all (show xoP 2 by unfold xoP; omega) (Q := fun p => xl_t (p + 29) = (2, 3, 200)) rfl rfl rfl) (by decide) c108.1 c108.2) ?_
      obtain ⟨R109, e110, e⟩ := xbnd e
      refine xok_eqb (h.is (o := 0) (c := 15) (by decide) rfl) ?_
      refine xok_call (sg266 hI  h (h.ain (o := 2 + 28) (n := 200) (xoP_all (show xoP 2 by unfold xoP; omega) (Q := fun p => p + 28 < 276) (by decide) (by decide) (by decide)) (xoP_all (show xoP 2 by unfold xoP; omega) (Q := fun p => xl_t (p + 28) = (2, 3, 200)) rfl rfl rfl) (by decide) c107.1 c107.2) (h.ain (o := 2 + 29) (n := 200) (xoP_all (show xoP 2 by unfold xoP; omega) (Q := fun p => p + 29 < 276) (by decide) (by decide) (by decide)) (xoP_all (show xoP 2 by unfold xoP; omega) (Q := fun p => xl_t (p + 29) = (2, 3, 200)) rfl rfl rfl) (by decide) c108.1 c108.2) e110) ?_
      rintro ⟨v_, M113⟩ ⟨hv_, h111, hi112⟩
      cases hv_
      refine xok_eqb (h111.gi (o := 0) (c := 15) (k := 42) (n := 107) (by decide) rfl (by decide) (by decide)) ?_
      refine xok_ite (fun c114 => ?_) (fun c114 => ?_)
      · rw [if_pos c114] at e
        refine xok_eqb (h111.pt (o := 0) (c := 15) (k := 29) (t := 2) (n := 107) (by decide) rfl (by decide) (by decide +kernel)) ?_
        refine xok_eqb (h111.pt (o := 2) (c := 14) (k := 31) (t := 2 + 29) (n := 38) (xoP_o (show xoP 2 by unfold xoP; omega)).1 (xoP_o (show xoP 2 by unfold xoP; omega)).2 (by decide) (xoP_all (show xoP 2 by unfold xoP; omega) (Q := fun p => (p, 31, p + 29) ∈ xl_P) (by decide +kernel) (by decide +kernel) (by decide +kernel))) ?_
        by_cases c115 : 0 ≤ (a1) ∧ (a1) < 200
        · skip
          rw [if_pos c115] at e
          refine xok_eqb (h111.ai (o := 2 + 29) (n := 200) (xoP_all (show xoP 2 by unfold xoP; omega) (Q := fun p => p + 29 < 276) (by decide) (by decide) (by decide)) (xoP_all (show xoP 2 by unfold xoP; omega) (Q := fun p => xl_t (p + 29) = (2, 3, 200)) rfl rfl rfl) (by decide) c115.1 c115.2) ?_
          refine xok_eqb (h111.pt (o := 0) (c := 15) (k := 29) (t := 2) (n := 107) (by decide) rfl (by decide) (by decide +kernel)) ?_
          refine xok_eqb (h111.pt (o := 2) (c := 14) (k := 32) (t := 2 + 30) (n := 38) (xoP_o (show xoP 2 by unfold xoP; omega)).1 (xoP_o (show xoP 2 by unfold xoP; omega)).2 (by decide) (xoP_all (show xoP 2 by unfold xoP; omega) (Q := fun p => (p, 32, p + 30) ∈ xl_P) (by decide +kernel) (by decide +kernel) (by decide +kernel))) ?_
          by_cases c116 : 0 ≤ (a1) ∧ (a1) < 200
          · skip
            rw [if_pos c116] at e
            refine xok_eqb (h111.ai (o := 2 + 30) (n := 200) (xoP_all (show xoP 2 by unfold xoP; omega) (Q := fun p => p + 30 < 276) (by decide) (by decide) (by decide)) (xoP_all (show xoP 2 by unfold xoP; omega) (Q := fun p => xl_t (p + 30) = (2, 3, 200)) rfl rfl rfl) (by decide) c116.1 c116.2) ?_
            obtain ⟨R117, e118, e⟩ := xbnd e
            refine xok_eqb (h111.is (o := 0) (c := 15) (by decide) rfl) ?_
            refine xok_call (sg266 hI  h111 (h111.ain (o := 2 + 29) (n := 200) (xoP_all (show xoP 2 by unfold xoP; omega) (Q := fun p => p + 29 < 276) (by decide) (by decide) (by decide)) (xoP_all (show xoP 2 by unfold xoP; omega) (Q := fun p => xl_t (p + 29) = (2, 3, 200)) rfl rfl rfl) (by decide) c115.1 c115.2) (h111.ain (o := 2 + 30) (n := 200) (xoP_all (show xoP 2 by unfold xoP; omega) (Q := fun p => p + 30 < 276) (by decide) (by decide) (by decide)) (xoP_all (show xoP 2 by unfold xoP; omega) (Q := fun p => xl_t (p + 30) = (2, 3, 200)) rfl rfl rfl) (by decide) c116.1 c116.2) e118) ?_
            rintro ⟨v_, M121⟩ ⟨hv_, h119, hi120⟩
            cases hv_
            refine xok_eqb (h119.gi (o := 0) (c := 15) (k := 42) (n := 107) (by decide) rfl (by decide) (by decide)) ?_
            refine xok_ite (fun c122 => ?_) (fun c122 => ?_)
            · rw [if_pos c122] at e
              refine xok_eqb (h119.pt (o := 0) (c := 15) (k := 29) (t := 2) (n := 107) (by decide) rfl (by decide) (by decide +kernel)) ?_
              refine xok_eqb (h119.pt (o := 2) (c := 14) (k := 28) (t := 2 + 26) (n := 38) (xoP_o (show xoP 2 by unfold xoP; omega)).1 (xoP_o (show xoP 2 by unfold xoP; omega)).2 (by decide) (xoP_all (show xoP 2 by unfold xoP; omega) (Q := fun p => (p, 28, p + 26) ∈ xl_P) (by decide +kernel) (by decide +kernel) (by decide +kernel))) ?_
              by_cases c123 : 0 ≤ (a1) ∧ (a1) < 200
              · skip
                rw [if_pos c123] at e
                refine xok_eqb (h119.ai (o := 2 + 26) (n := 200) (xoP_all (show xoP 2 by unfold xoP; omega) (Q := fun p => p + 26 < 276) (by decide) (by decide) (by decide)) (xoP_all (show xoP 2 by unfold xoP; omega) (Q := fun p => xl_t (p + 26) = (2, 3, 200)) rfl rfl rfl) (by decide) c123.1 c123.2) ?_
                refine xok_ite (fun c124 => ?_) (fun c124 => ?_)
                · rw [if_pos c124] at e
                  refine xok_ite (fun c125 => ?_) (fun c125 => ?_)
                  · rw [if_pos c125] at e
                    exact s281_162 hI   h119 (show xin (0) by decide) e
                  · rw [if_neg c125] at e
                    exact s281_162 hI   h119 (show xin (1) by decide) e
                · rw [if_neg c124] at e
                  refine xok_ite (fun c126 => ?_) (fun c126 => ?_)
                  · rw [if_pos c126] at e
                    refine xok_ite (fun c127 => ?_) (fun c127 => ?_)
                    · rw [if_pos c127] at e
                      exact s281_136 hI   h119 (show xin (0) by decide) e
                    · rw [if_neg c127] at e
                      exact s281_136 hI   h119 (show xin (1) by decide) e
                  · rw [if_neg c126] at e
                    refine xok_ite (fun c128 => ?_) (fun c128 => ?_)
                    · rw [if_pos c128] at e
                      refine xok_ite (fun c129 => ?_) (fun c129 => ?_)
                      · rw [if_pos c129] at e
                        exact s281_188 hI   h119 (show xin (0) by decide) e
                      · rw [if_neg c129] at e
                        exact s281_188 hI   h119 (show xin (1) by decide) e
                    · rw [if_neg c128] at e
                      refine xok_ite (fun c130 => ?_) (fun c130 => ?_)
                      · rw [if_pos c130] at e
                        refine xok_ite (fun c131 => ?_) (fun c131 => ?_)
                        · rw [if_pos c131] at e
                          exact s281_149 hI   h119 (show xin (0) by decide) e
                        · rw [if_neg c131] at e
                          exact s281_149 hI   h119 (show xin (1) by decide) e
                      · rw [if_neg c130] at e
                        refine xok_ite (fun c132 => ?_) (fun c132 => ?_)
                        · rw [if_pos c132] at e
                          refine xok_ite (fun c133 => ?_) (fun c133 => ?_)
                          · rw [if_pos c133] at e
                            exact s281_175 hI   h119 (show xin (0) by decide) e
                          · rw [if_neg c133] at e
                            exact s281_175 hI   h119 (show xin (1) by decide) e
                        · rw [if_neg c132] at e
                          refine xok_ite (fun c134 => ?_) (fun c134 => ?_)
                          · rw [if_pos c134] at e
                            exact s281_201 hI   h119 (show xin (0) by decide) e
                          · rw [if_neg c134] at e
                            exact s281_201 hI   h119 (show xin (1) by decide) e
              · rw [if_neg c123] at e; cases e
            · rw [if_neg c122] at e
              cases e
              exact ⟨_, rfl, rfl, h119, (show xin (0) by decide)⟩
          · rw [if_neg c116] at e; cases e
        · rw [if_neg c115] at e; cases e
      · rw [if_neg c114] at e
        cases e
        exact ⟨_, rfl, rfl, h111, (show xin (0) by decide)⟩
    · rw [if_neg c108] at e; cases e
  · rw [if_neg c107] at e; cases e
-- ChangeHouseModel.makesRow
theorem s282_88 {m f : Nat} {M0 M : xj_M} {G : xG_} (hI : xHI f)  {r2 : Int → xG_ → Option (Int × xG_)} {o2 : Nat → Int → xj_M → Option (Int × xj_M)}  (hr2 : ∀ {M : xj_M} {G : xG_} {x1 : Int} {R : Int × xG_}, xRX m M0 M G → xin x1 → r2 x1 G = some R → xok (o2 m x1 M) (fun r => r.1 = R.1 ∧ xRX m M0 r.2 R.2 ∧ xin R.1)) (h : xRX m M0 M G) {x1 : Int} {R : Int × xG_} (tx1 : xin x1) (e : g282_88  r2 f x1 G = some R) : xok (f282_88  o2 f m x1 M) (fun r => r.1 = R.1 ∧ xRX m M0 r.2 R.2 ∧ xin R.1) := by
  unfold g282_88 at e
  unfold f282_88
  exact hr2 h (xin_wr _) e
theorem s282_2b {m f : Nat} {M0 M : xj_M} {G : xG_} (hI : xHI f)  {r2 : Int → xG_ → Option (Int × xG_)} {o2 : Nat → Int → xj_M → Option (Int × xj_M)}  (hr2 : ∀ {M : xj_M} {G : xG_} {x1 : Int} {R : Int × xG_}, xRX m M0 M G → xin x1 → r2 x1 G = some R → xok (o2 m x1 M) (fun r => r.1 = R.1 ∧ xRX m M0 r.2 R.2 ∧ xin R.1)) (h : xRX m M0 M G) {x1 : Int} {R : Int × xG_} (tx1 : xin x1) (e : g282_2b  r2 f x1 G = some R) : xok (f282_2b  o2 f m x1 M) (fun r => r.1 = R.1 ∧ xRX m M0 r.2 R.2 ∧ xin R.1) := by
  unfold g282_2b at e
  unfold f282_2b
  refine xok_eqb (h.pt (o := 0) (c := 15) (k := 29) (t := 2) (n := 107) (by decide) rfl (by decide) (by decide +kernel)) ?_
  refine xok_eqb (h.pt (o := 2) (c := 14) (k := 17) (t := 2 + 15) (n := 38) (xoP_o (show xoP 2 by unfold xoP; omega)).1 (xoP_o (show xoP 2 by unfold xoP; omega)).2 (by decide) (xoP_all (show xoP 2 by unfold xoP; omega) (Q := fun p => (p, 17, p + 15) ∈ xl_P) (by decide +kernel) (by decide +kernel) (by decide +kernel))) ?_
  refine xok_eqb (h.gi (o := 0) (c := 15) (k := 39) (n := 107) (by decide) rfl (by decide) (by decide)) ?_
  by_cases c101 : 0 ≤ (G (0) 39) ∧ (G (0) 39) < 25
  · skip
    rw [if_pos c101] at e
    refine xok_eqb (h.ai (o := 2 + 15) (n := 25) (xoP_all (show xoP 2 by unfold xoP; omega) (Q := fun p => p + 15 < 276) (by decide) (by decide) (by decide)) (xoP_all (show xoP 2 by unfold xoP; omega) (Q := fun p => xl_t (p + 15) = (2, 3, 25)) rfl rfl rfl) (by decide) c101.1 c101.2) ?_
    refine xok_ite (fun c102 => ?_) (fun c102 => ?_)
    · rw [if_pos c102] at e
      cases e
      exact ⟨_, rfl, rfl, h, (show xin (1) by decide)⟩
    · rw [if_neg c102] at e
      refine xok_eqb (h.pt (o := 0) (c := 15) (k := 29) (t := 2) (n := 107) (by decide) rfl (by decide) (by decide +kernel)) ?_
      refine xok_eqb (h.pt (o := 2) (c := 14) (k := 19) (t := 2 + 17) (n := 38) (xoP_o (show xoP 2 by unfold xoP; omega)).1 (xoP_o (show xoP 2 by unfold xoP; omega)).2 (by decide) (xoP_all (show xoP 2 by unfold xoP; omega) (Q := fun p => (p, 19, p + 17) ∈ xl_P) (by decide +kernel) (by decide +kernel) (by decide +kernel))) ?_
      refine xok_eqb (h.gi (o := 0) (c := 15) (k := 39) (n := 107) (by decide) rfl (by decide) (by decide)) ?_
      by_cases c103 : 0 ≤ (G (0) 39) ∧ (G (0) 39) < 25
      · skip
        rw [if_pos c103] at e
        refine xok_eqb (h.ai (o := 2 + 17) (n := 25) (xoP_all (show xoP 2 by unfold xoP; omega) (Q := fun p => p + 17 < 276) (by decide) (by decide) (by decide)) (xoP_all (show xoP 2 by unfold xoP; omega) (Q := fun p => xl_t (p + 17) = (2, 3, 25)) rfl rfl rfl) (by decide) c103.1 c103.2) ?_
        refine xok_ite (fun c104 => ?_) (fun c104 => ?_)
        · rw [if_pos c104] at e
          refine xok_eqb (h.pt (o := 0) (c := 15) (k := 44) (t := 112) (n := 107) (by decide) rfl (by decide) (by decide +kernel)) ?_
          refine xok_eqb (h.pt (o := 0) (c := 15) (k := 29) (t := 2) (n := 107) (by decide) rfl (by decide) (by decide +kernel)) ?_
          refine xok_eqb (h.pt (o := 2) (c := 14) (k := 23) (t := 2 + 21) (n := 38) (xoP_o (show xoP 2 by unfold xoP; omega)).1 (xoP_o (show xoP 2 by unfold xoP; omega)).2 (by decide) (xoP_all (show xoP 2 by unfold xoP; omega) (Q := fun p => (p, 23, p + 21) ∈ xl_P) (by decide +kernel) (by decide +kernel) (by decide +kernel))) ?_
          refine xok_eqb (h.gi (o := 0) (c := 15) (k := 39) (n := 107) (by decide) rfl (by decide) (by decide)) ?_
          by_cases c105 : 0 ≤ (xwr ((xwr ((G (0) 39) * (4))) + (x1))) ∧ (xwr ((xwr ((G (0) 39) * (4))) + (x1))) < 100
          · skip
            rw [if_pos c105] at e
            refine xok_eqb (h.ai (o := 2 + 21) (n := 100) (xoP_all (show xoP 2 by unfold xoP; omega) (Q := fun p => p + 21 < 276) (by decide) (by decide) (by decide)) (xoP_all (show xoP 2 by unfold xoP; omega) (Q := fun p => xl_t (p + 21) = (2, 3, 100)) rfl rfl rfl) (by decide) c105.1 c105.2) ?_
            refine xok_eqb (h.pt (o := 0) (c := 15) (k := 29) (t := 2) (n := 107) (by decide) rfl (by decide) (by decide +kernel)) ?_
            refine xok_eqb (h.pt (o := 2) (c := 14) (k := 24) (t := 2 + 22) (n := 38) (xoP_o (show xoP 2 by unfold xoP; omega)).1 (xoP_o (show xoP 2 by unfold xoP; omega)).2 (by decide) (xoP_all (show xoP 2 by unfold xoP; omega) (Q := fun p => (p, 24, p + 22) ∈ xl_P) (by decide +kernel) (by decide +kernel) (by decide +kernel))) ?_
            refine xok_eqb (h.gi (o := 0) (c := 15) (k := 39) (n := 107) (by decide) rfl (by decide) (by decide)) ?_
            by_cases c106 : 0 ≤ (xwr ((xwr ((G (0) 39) * (4))) + (x1))) ∧ (xwr ((xwr ((G (0) 39) * (4))) + (x1))) < 100
            · skip
              rw [if_pos c106] at e
              refine xok_eqb (h.ai (o := 2 + 22) (n := 100) (xoP_all (show xoP 2 by unfold xoP; omega) (Q := fun p => p + 22 < 276) (by decide) (by decide) (by decide)) (xoP_all (show xoP 2 by unfold xoP; omega) (Q := fun p => xl_t (p + 22) = (2, 3, 100)) rfl rfl rfl) (by decide) c106.1 c106.2) ?_
              obtain ⟨R107, e108, e⟩ := xbnd e
              refine xok_eqb (h.is (o := 0) (c := 15) (by decide) rfl) ?_
              refine xok_call (sg266 hI  h (h.ain (o := 2 + 21) (n := 100) (xoP_all (show xoP 2 by unfold xoP; omega) (Q := fun p => p + 21 < 276) (by decide) (by decide) (by decide)) (xoP_all (show xoP 2 by unfold xoP; omega) (Q := fun p => xl_t (p + 21) = (2, 3, 100)) rfl rfl rfl) (by decide) c105.1 c105.2) (h.ain (o := 2 + 22) (n := 100) (xoP_all (show xoP 2 by unfold xoP; omega) (Q := fun p => p + 22 < 276) (by decide) (by decide) (by decide)) (xoP_all (show xoP 2 by unfold xoP; omega) (Q := fun p => xl_t (p + 22) = (2, 3, 100)) rfl rfl rfl) (by decide) c106.1 c106.2) e108) ?_
              rintro ⟨v_, M111⟩ ⟨hv_, h109, hi110⟩
              cases hv_
              by_cases c112 : 0 ≤ (x1) ∧ (x1) < 4
              · skip
                rw [if_pos c112] at e
                obtain ⟨M113, q114, h115⟩ := h109.sl (o := 112) (n := 4) (v := R107.1) (by decide) rfl c112.1 c112.2 hi110
                refine xok_eqb q114 ?_
                obtain ⟨G116, g1, e⟩ := xbnd e
                cases g1
                have h115_ : xRX m M0 M113 (xup2 R107.2 (112) (x1).toNat (R107.1)) := h115
                generalize hGG116 : (xup2 R107.2 (112) (x1).toNat (R107.1)) = G116 at e h115
                clear h115_ hGG116
                refine xok_eqb (h115.gi (o := 0) (c := 15) (k := 42) (n := 107) (by decide) rfl (by decide) (by decide)) ?_
                refine xok_ite (fun c117 => ?_) (fun c117 => ?_)
                · rw [if_pos c117] at e
                  exact s282_88 hI  hr2 h115 tx1 e
                · rw [if_neg c117] at e
                  cases e
                  exact ⟨_, rfl, rfl, h115, (show xin (0) by decide)⟩
              · rw [if_neg c112] at e; cases e
            · rw [if_neg c106] at e; cases e
          · rw [if_neg c105] at e; cases e
        · rw [if_neg c104] at e
          exact s282_88 hI  hr2 h tx1 e
      · rw [if_neg c103] at e; cases e
  · rw [if_neg c101] at e; cases e
theorem s282_2 {m f : Nat} {M0 : xj_M} (hI : xHI f)     : ∀ {n : Nat} {M : xj_M} {G : xG_} {x1 : Int} {R : Int × xG_}, xRX m M0 M G → xin x1 → g282_2   f n x1 G = some R → xok (f282_2   f n m x1 M) (fun r => r.1 = R.1 ∧ xRX m M0 r.2 R.2 ∧ xin R.1) := by
  intro n
  induction n with
  | zero => intros; rename_i e; cases e
  | succ n ih =>
    intros
    rename_i h i0 e
    exact s282_2b hI   ih h i0 e
theorem sg282 {m f : Nat} {M0 M : xj_M} {G : xG_} (hI : xHI f)   (h : xRX m M0 M G)  {R : Int × xG_}  (e : g282  f  G = some R) : xok (f282  f m M) (fun r => r.1 = R.1 ∧ xRX m M0 r.2 R.2 ∧ xin R.1) := by
  unfold g282 at e
  unfold f282
  exact s282_2 hI   h (show xin (0) by decide) e
-- ChangeHouseModel.useWay
theorem s283_118 {m f : Nat} {M0 M : xj_M} {G : xG_} (hI : xHI f)     (h : xRX m M0 M G)  {R : xG_}  (e : g283_118   f  G = some R) : xok (f283_118   f  M) (fun r => xRX m M0 r R) := by
  unfold g283_118 at e
  unfold f283_118
  cases e
  exact ⟨_, rfl, h⟩
theorem sg283 {m f : Nat} {M0 M : xj_M} {G : xG_} (hI : xHI f)   (h : xRX m M0 M G)  {R : xG_}  (e : g283  f  G = some R) : xok (f283  f m M) (fun r => xRX m M0 r R) := by
  unfold g283 at e
  unfold f283
  refine xok_eqb (h.gi (o := 0) (c := 15) (k := 38) (n := 107) (by decide) rfl (by decide) (by decide)) ?_
  refine xok_ite (fun c101 => ?_) (fun c101 => ?_)
  · rw [if_pos c101] at e
    obtain ⟨R102, e103, e⟩ := xbnd e
    refine xok_eqb (h.is (o := 0) (c := 15) (by decide) rfl) ?_
    refine xok_call (sg282 hI  h  e103) ?_
    rintro ⟨v_, M106⟩ ⟨hv_, h104, hi105⟩
    cases hv_
    refine xok_ite (fun c107 => ?_) (fun c107 => ?_)
    · rw [if_pos c107] at e
      exact s283_118 hI   h104  e
    · rw [if_neg c107] at e
      refine xok_eqb (h104.pt (o := 0) (c := 15) (k := 44) (t := 112) (n := 107) (by decide) rfl (by decide) (by decide +kernel)) ?_
      refine xok_eqb (h104.pt (o := 0) (c := 15) (k := 51) (t := 118) (n := 107) (by decide) rfl (by decide) (by decide +kernel)) ?_
      refine xok_eqb (h104.pt (o := 0) (c := 15) (k := 29) (t := 2) (n := 107) (by decide) rfl (by decide) (by decide +kernel)) ?_
      refine xok_eqb (h104.pt (o := 2) (c := 14) (k := 17) (t := 2 + 15) (n := 38) (xoP_o (show xoP 2 by unfold xoP; omega)).1 (xoP_o (show xoP 2 by unfold xoP; omega)).2 (by decide) (xoP_all (show xoP 2 by unfold xoP; omega) (Q := fun p => (p, 17, p + 15) ∈ xl_P) (by decide +kernel) (by decide +kernel) (by decide +kernel))) ?_
      refine xok_eqb (h104.gi (o := 0) (c := 15) (k := 39) (n := 107) (by decide) rfl (by decide) (by decide)) ?_
      by_cases c108 : 0 ≤ (R102.2 (0) 39) ∧ (R102.2 (0) 39) < 25
      · skip
        rw [if_pos c108] at e
        refine xok_eqb (h104.ai (o := 2 + 15) (n := 25) (xoP_all (show xoP 2 by unfold xoP; omega) (Q := fun p => p + 15 < 276) (by decide) (by decide) (by decide)) (xoP_all (show xoP 2 by unfold xoP; omega) (Q := fun p => xl_t (p + 15) = (2, 3, 25)) rfl rfl rfl) (by decide) c108.1 c108.2) ?_
        obtain ⟨R109, e110, e⟩ := xbnd e
        refine xok_call (sg262 hI  h104 (show xoJ 112 from ⟨by decide, rfl⟩) (show xin (0) by decide) (show xoJ 118 from ⟨by decide, rfl⟩) (show xin (0) by decide) (h104.ain (o := 2 + 15) (n := 25) (xoP_all (show xoP 2 by unfold xoP; omega) (Q := fun p => p + 15 < 276) (by decide) (by decide) (by decide)) (xoP_all (show xoP 2 by unfold xoP; omega) (Q := fun p => xl_t (p + 15) = (2, 3, 25)) rfl rfl rfl) (by decide) c108.1 c108.2) e110) ?_
        rintro ⟨v_, M113⟩ ⟨hv_, h111, hi112⟩
        cases hv_
        refine xok_ite (fun c114 => ?_) (fun c114 => ?_)
        · rw [if_pos c114] at e
          exact s283_118 hI   h111  e
        · rw [if_neg c114] at e
          obtain ⟨R115, e116, e⟩ := xbnd e
          refine xok_eqb (h111.is (o := 0) (c := 15) (by decide) rfl) ?_
          refine xok_call (sg286 hI  h111  e116) ?_
          intro M119 h117
          exact s283_118 hI   h117  e
      · rw [if_neg c108] at e; cases e
  · rw [if_neg c101] at e
    refine xok_ite (fun c120 => ?_) (fun c120 => ?_)
    · rw [if_pos c120] at e
      obtain ⟨R121, e122, e⟩ := xbnd e
      refine xok_eqb (h.is (o := 0) (c := 15) (by decide) rfl) ?_
      refine xok_call (sg282 hI  h  e122) ?_
      rintro ⟨v_, M125⟩ ⟨hv_, h123, hi124⟩
      cases hv_
      refine xok_ite (fun c126 => ?_) (fun c126 => ?_)
      · rw [if_pos c126] at e
        exact s283_118 hI   h123  e
      · rw [if_neg c126] at e
        refine xok_eqb (h123.pt (o := 0) (c := 15) (k := 29) (t := 2) (n := 107) (by decide) rfl (by decide) (by decide +kernel)) ?_
        refine xok_eqb (h123.pt (o := 2) (c := 14) (k := 15) (t := 2 + 13) (n := 38) (xoP_o (show xoP 2 by unfold xoP; omega)).1 (xoP_o (show xoP 2 by unfold xoP; omega)).2 (by decide) (xoP_all (show xoP 2 by unfold xoP; omega) (Q := fun p => (p, 15, p + 13) ∈ xl_P) (by decide +kernel) (by decide +kernel) (by decide +kernel))) ?_
        refine xok_eqb (h123.gi (o := 0) (c := 15) (k := 39) (n := 107) (by decide) rfl (by decide) (by decide)) ?_
        by_cases c127 : 0 ≤ (R121.2 (0) 39) ∧ (R121.2 (0) 39) < 25
        · skip
          rw [if_pos c127] at e
          refine xok_eqb (h123.ai (o := 2 + 13) (n := 25) (xoP_all (show xoP 2 by unfold xoP; omega) (Q := fun p => p + 13 < 276) (by decide) (by decide) (by decide)) (xoP_all (show xoP 2 by unfold xoP; omega) (Q := fun p => xl_t (p + 13) = (2, 3, 25)) rfl rfl rfl) (by decide) c127.1 c127.2) ?_
          obtain ⟨R128, e129, e⟩ := xbnd e
          refine xok_eqb (h123.is (o := 0) (c := 15) (by decide) rfl) ?_
          refine xok_call (sg284 hI  h123 (h123.ain (o := 2 + 13) (n := 25) (xoP_all (show xoP 2 by unfold xoP; omega) (Q := fun p => p + 13 < 276) (by decide) (by decide) (by decide)) (xoP_all (show xoP 2 by unfold xoP; omega) (Q := fun p => xl_t (p + 13) = (2, 3, 25)) rfl rfl rfl) (by decide) c127.1 c127.2) e129) ?_
          intro M132 h130
          exact s283_118 hI   h130  e
        · rw [if_neg c127] at e; cases e
    · rw [if_neg c120] at e
      refine xok_ite (fun c133 => ?_) (fun c133 => ?_)
      · rw [if_pos c133] at e
        obtain ⟨R134, e135, e⟩ := xbnd e
        refine xok_eqb (h.is (o := 0) (c := 15) (by decide) rfl) ?_
        refine xok_call (sg282 hI  h  e135) ?_
        rintro ⟨v_, M138⟩ ⟨hv_, h136, hi137⟩
        cases hv_
        refine xok_ite (fun c139 => ?_) (fun c139 => ?_)
        · rw [if_pos c139] at e
          exact s283_118 hI   h136  e
        · rw [if_neg c139] at e
          obtain ⟨R140, e141, e⟩ := xbnd e
          refine xok_eqb (h136.is (o := 0) (c := 15) (by decide) rfl) ?_
          refine xok_call (sg287 hI  h136  e141) ?_
          intro M144 h142
          exact s283_118 hI   h142  e
      · rw [if_neg c133] at e
        obtain ⟨R145, e146, e⟩ := xbnd e
        refine xok_eqb (h.is (o := 0) (c := 15) (by decide) rfl) ?_
        refine xok_call (sg285 hI  h  e146) ?_
        intro M149 h147
        exact s283_118 hI   h147  e
