/-! The reference over what stands at its cells (written by mk_g.py) -/
-- ChangeHouseModel.answer
theorem s285_62b {m f : Nat} {M0 M : xj_M} {G : xG_} (hI : xHI f)  {r31 : Int → xG_ → Option (xG_)} {o31 : Nat → Int → xj_M → Option (xj_M)} {r62 : Int → Int → xG_ → Option (xG_)} {o62 : Nat → Int → Int → xj_M → Option (xj_M)}  (hr31 : ∀ {M : xj_M} {G : xG_} {x1 : Int} {R : xG_}, xRX m M0 M G → xin x1 → r31 x1 G = some R → xok (o31 m x1 M) (fun r => xRX m M0 r R)) (hr62 : ∀ {M : xj_M} {G : xG_} {x1 : Int} {x2 : Int} {R : xG_}, xRX m M0 M G → xin x1 → xin x2 → r62 x1 x2 G = some R → xok (o62 m x1 x2 M) (fun r => xRX m M0 r R)) (h : xRX m M0 M G) {x1 : Int} {x2 : Int} {R : xG_} (tx1 : xin x1) (tx2 : xin x2) (e : g285_62b  r31 r62 f x1 x2 G = some R) : xok (f285_62b  o31 o62 f m x1 x2 M) (fun r => xRX m M0 r R) := by
  unfold g285_62b at e
  unfold f285_62b
  refine xok_ite (fun c101 => ?_) (fun c101 => ?_)
  · rw [if_pos c101] at e
    exact hr31 h (xin_wr _) e
  · rw [if_neg c101] at e
    refine xok_eqb (h.pt (o := 0) (c := 15) (k := 49) (t := 116) (n := 107) (by decide) rfl (by decide) (by decide +kernel)) ?_
    refine xok_eqb (h.pt (o := 0) (c := 15) (k := 49) (t := 116) (n := 107) (by decide) rfl (by decide) (by decide +kernel)) ?_
    by_cases c102 : 0 ≤ (xwr ((xwr ((8) * (xwr ((x1) - (1))))) + (x2))) ∧ (xwr ((xwr ((8) * (xwr ((x1) - (1))))) + (x2))) < 4008
    · skip
      rw [if_pos c102] at e
      refine xok_eqb (h.al (o := 116) (n := 4008) (by decide) rfl  c102.1 c102.2) ?_
      by_cases c103 : 0 ≤ (xwr ((xwr ((8) * (x1))) + (x2))) ∧ (xwr ((xwr ((8) * (x1))) + (x2))) < 4008
      · skip
        rw [if_pos c103] at e
        obtain ⟨M104, q105, h106⟩ := h.sl (o := 116) (n := 4008) (v := G (116) (xwr ((xwr ((8) * (xwr ((x1) - (1))))) + (x2))).toNat) (by decide) rfl c103.1 c103.2 (h.aln (o := 116) (n := 4008) (by decide) rfl  c102.1 c102.2)
        refine xok_eqb q105 ?_
        obtain ⟨G107, g1, e⟩ := xbnd e
        cases g1
        have h106_ : xRX m M0 M104 (xup2 G (116) (xwr ((xwr ((8) * (x1))) + (x2))).toNat (G (116) (xwr ((xwr ((8) * (xwr ((x1) - (1))))) + (x2))).toNat)) := h106
        generalize hGG107 : (xup2 G (116) (xwr ((xwr ((8) * (x1))) + (x2))).toNat (G (116) (xwr ((xwr ((8) * (xwr ((x1) - (1))))) + (x2))).toNat)) = G107 at e h106
        clear h106_ hGG107
        exact hr62 h106 tx1 (xin_wr _) e
      · rw [if_neg c103] at e; cases e
    · rw [if_neg c102] at e; cases e
theorem s285_62 {m f : Nat} {M0 : xj_M} (hI : xHI f)  {r31 : Int → xG_ → Option (xG_)} {o31 : Nat → Int → xj_M → Option (xj_M)}  (hr31 : ∀ {M : xj_M} {G : xG_} {x1 : Int} {R : xG_}, xRX m M0 M G → xin x1 → r31 x1 G = some R → xok (o31 m x1 M) (fun r => xRX m M0 r R)) : ∀ {n : Nat} {M : xj_M} {G : xG_} {x1 : Int} {x2 : Int} {R : xG_}, xRX m M0 M G → xin x1 → xin x2 → g285_62  r31 f n x1 x2 G = some R → xok (f285_62  o31 f n m x1 x2 M) (fun r => xRX m M0 r R) := by
  intro n
  induction n with
  | zero => intros; rename_i e; cases e
  | succ n ih =>
    intros
    rename_i h i0 i1 e
    exact s285_62b hI  hr31 ih h i0 i1 e
theorem s285_106b {m f : Nat} {M0 M : xj_M} {G : xG_} (hI : xHI f)  {r106 : Int → Int → xG_ → Option (xG_)} {o106 : Nat → Int → Int → xj_M → Option (xj_M)}  (hr106 : ∀ {M : xj_M} {G : xG_} {x1 : Int} {x2 : Int} {R : xG_}, xRX m M0 M G → xin x1 → xin x2 → r106 x1 x2 G = some R → xok (o106 m x1 x2 M) (fun r => xRX m M0 r R)) (h : xRX m M0 M G) {x1 : Int} {x2 : Int} {R : xG_} (tx1 : xin x1) (tx2 : xin x2) (e : g285_106b  r106 f x1 x2 G = some R) : xok (f285_106b  o106 f m x1 x2 M) (fun r => xRX m M0 r R) := by
  unfold g285_106b at e
  unfold f285_106b
  refine xok_ite (fun c108 => ?_) (fun c108 => ?_)
  · rw [if_pos c108] at e
    refine xok_eqb (h.gi (o := 0) (c := 15) (k := 52) (n := 107) (by decide) rfl (by decide) (by decide)) ?_
    obtain ⟨M109, q110, h111⟩ := h.pi (v := xwr ((G (0) 52) + (1))) (o := 0) (c := 15) (k := 52) (n := 107) (by decide) rfl (by decide) (by decide) (xin_wr _)
    refine xok_eqb q110 ?_
    obtain ⟨G112, g1, e⟩ := xbnd e
    cases g1
    have h111_ : xRX m M0 M109 (xup2 G (0) 52 (xwr ((G (0) 52) + (1)))) := h111
    generalize hGG112 : (xup2 G (0) 52 (xwr ((G (0) 52) + (1)))) = G112 at e h111
    clear h111_ hGG112
    cases e
    exact ⟨_, rfl, h111⟩
  · rw [if_neg c108] at e
    refine xok_eqb (h.pt (o := 0) (c := 15) (k := 49) (t := 116) (n := 107) (by decide) rfl (by decide) (by decide +kernel)) ?_
    refine xok_eqb (h.pt (o := 0) (c := 15) (k := 35) (t := 110) (n := 107) (by decide) rfl (by decide) (by decide +kernel)) ?_
    by_cases c113 : 0 ≤ (x2) ∧ (x2) < 8
    · skip
      rw [if_pos c113] at e
      refine xok_eqb (h.al (o := 110) (n := 8) (by decide) rfl  c113.1 c113.2) ?_
      by_cases c114 : 0 ≤ (xwr ((xwr ((8) * (x1))) + (x2))) ∧ (xwr ((xwr ((8) * (x1))) + (x2))) < 4008
      · skip
        rw [if_pos c114] at e
        obtain ⟨M115, q116, h117⟩ := h.sl (o := 116) (n := 4008) (v := G (110) (x2).toNat) (by decide) rfl c114.1 c114.2 (h.aln (o := 110) (n := 8) (by decide) rfl  c113.1 c113.2)
        refine xok_eqb q116 ?_
        obtain ⟨G118, g1, e⟩ := xbnd e
        cases g1
        have h117_ : xRX m M0 M115 (xup2 G (116) (xwr ((xwr ((8) * (x1))) + (x2))).toNat (G (110) (x2).toNat)) := h117
        generalize hGG118 : (xup2 G (116) (xwr ((xwr ((8) * (x1))) + (x2))).toNat (G (110) (x2).toNat)) = G118 at e h117
        clear h117_ hGG118
        exact hr106 h117 tx1 (xin_wr _) e
      · rw [if_neg c114] at e; cases e
    · rw [if_neg c113] at e; cases e
theorem s285_106 {m f : Nat} {M0 : xj_M} (hI : xHI f)     : ∀ {n : Nat} {M : xj_M} {G : xG_} {x1 : Int} {x2 : Int} {R : xG_}, xRX m M0 M G → xin x1 → xin x2 → g285_106   f n x1 x2 G = some R → xok (f285_106   f n m x1 x2 M) (fun r => xRX m M0 r R) := by
  intro n
  induction n with
  | zero => intros; rename_i e; cases e
  | succ n ih =>
    intros
    rename_i h i0 i1 e
    exact s285_106b hI   ih h i0 i1 e
theorem s285_104 {m f : Nat} {M0 M : xj_M} {G : xG_} (hI : xHI f)     (h : xRX m M0 M G) {x1 : Int} {R : xG_} (tx1 : xin x1) (e : g285_104   f x1 G = some R) : xok (f285_104   f m x1 M) (fun r => xRX m M0 r R) := by
  unfold g285_104 at e
  unfold f285_104
  exact s285_106 hI   h tx1 (show xin (0) by decide) e
theorem s285_31b {m f : Nat} {M0 M : xj_M} {G : xG_} (hI : xHI f)  {r31 : Int → xG_ → Option (xG_)} {o31 : Nat → Int → xj_M → Option (xj_M)}  (hr31 : ∀ {M : xj_M} {G : xG_} {x1 : Int} {R : xG_}, xRX m M0 M G → xin x1 → r31 x1 G = some R → xok (o31 m x1 M) (fun r => xRX m M0 r R)) (h : xRX m M0 M G) {x1 : Int} {R : xG_} (tx1 : xin x1) (e : g285_31b  r31 f x1 G = some R) : xok (f285_31b  o31 f m x1 M) (fun r => xRX m M0 r R) := by
  unfold g285_31b at e
  unfold f285_31b
  refine xok_ite (fun c119 => ?_) (fun c119 => ?_)
  · rw [if_pos c119] at e
    exact s285_104 hI   h tx1 e
  · rw [if_neg c119] at e
    refine xok_eqb (h.pt (o := 0) (c := 15) (k := 49) (t := 116) (n := 107) (by decide) rfl (by decide) (by decide +kernel)) ?_
    refine xok_eqb (h.pt (o := 0) (c := 15) (k := 35) (t := 110) (n := 107) (by decide) rfl (by decide) (by decide +kernel)) ?_
    refine xok_eqb (h.gi (o := 0) (c := 15) (k := 53) (n := 107) (by decide) rfl (by decide) (by decide)) ?_
    obtain ⟨R120, e121, e⟩ := xbnd e
    refine xok_call (sg262 hI  h (show xoJ 116 from ⟨by decide, rfl⟩) (xin_wr _) (show xoJ 110 from ⟨by decide, rfl⟩) (show xin (0) by decide) (h.gin (o := 0) (c := 15) (k := 53) (n := 107) (by decide) rfl (by decide) (by decide)) e121) ?_
    rintro ⟨v_, M124⟩ ⟨hv_, h122, hi123⟩
    cases hv_
    refine xok_ite (fun c125 => ?_) (fun c125 => ?_)
    · rw [if_pos c125] at e
      exact s285_104 hI   h122 tx1 e
    · rw [if_neg c125] at e
      exact s285_62 hI  hr31 h122 tx1 (show xin (0) by decide) e
theorem s285_31 {m f : Nat} {M0 : xj_M} (hI : xHI f)     : ∀ {n : Nat} {M : xj_M} {G : xG_} {x1 : Int} {R : xG_}, xRX m M0 M G → xin x1 → g285_31   f n x1 G = some R → xok (f285_31   f n m x1 M) (fun r => xRX m M0 r R) := by
  intro n
  induction n with
  | zero => intros; rename_i e; cases e
  | succ n ih =>
    intros
    rename_i h i0 e
    exact s285_31b hI   ih h i0 e
theorem sg285 {m f : Nat} {M0 M : xj_M} {G : xG_} (hI : xHI f)   (h : xRX m M0 M G)  {R : xG_}  (e : g285  f  G = some R) : xok (f285  f m M) (fun r => xRX m M0 r R) := by
  unfold g285 at e
  unfold f285
  refine xok_eqb (h.gi (o := 0) (c := 15) (k := 52) (n := 107) (by decide) rfl (by decide) (by decide)) ?_
  refine xok_ite (fun c126 => ?_) (fun c126 => ?_)
  · rw [if_pos c126] at e
    refine xok_eqb (h.gi (o := 0) (c := 15) (k := 52) (n := 107) (by decide) rfl (by decide) (by decide)) ?_
    exact s285_31 hI   h (h.gin (o := 0) (c := 15) (k := 52) (n := 107) (by decide) rfl (by decide) (by decide)) e
  · rw [if_neg c126] at e
    obtain ⟨M127, q128, h129⟩ := h.pb (v := 1) (o := 0) (c := 15) (k := 43) (n := 107) (by decide) rfl (by decide) (by decide) (by decide)
    refine xok_eqb q128 ?_
    obtain ⟨G130, g1, e⟩ := xbnd e
    cases g1
    have h129_ : xRX m M0 M127 (xup2 G (0) 43 (1)) := h129
    generalize hGG130 : (xup2 G (0) 43 (1)) = G130 at e h129
    clear h129_ hGG130
    refine xok_eqb (h129.gi (o := 0) (c := 15) (k := 52) (n := 107) (by decide) rfl (by decide) (by decide)) ?_
    obtain ⟨M131, q132, h133⟩ := h129.pi (v := xwr ((G130 (0) 52) + (1))) (o := 0) (c := 15) (k := 52) (n := 107) (by decide) rfl (by decide) (by decide) (xin_wr _)
    refine xok_eqb q132 ?_
    obtain ⟨G134, g1, e⟩ := xbnd e
    cases g1
    have h133_ : xRX m M0 M131 (xup2 G130 (0) 52 (xwr ((G130 (0) 52) + (1)))) := h133
    generalize hGG134 : (xup2 G130 (0) 52 (xwr ((G130 (0) 52) + (1)))) = G134 at e h133
    clear h133_ hGG134
    cases e
    exact ⟨_, rfl, h133⟩
-- ChangeHouseModel.reasonWay
theorem s286_45b {m f : Nat} {M0 M : xj_M} {G : xG_} (hI : xHI f)  {r45 : Int → Int → xG_ → Option (xG_)} {o45 : Nat → Int → Int → xj_M → Option (xj_M)}  (hr45 : ∀ {M : xj_M} {G : xG_} {x1 : Int} {x2 : Int} {R : xG_}, xRX m M0 M G → xin x1 → xin x2 → r45 x1 x2 G = some R → xok (o45 m x1 x2 M) (fun r => xRX m M0 r R)) (h : xRX m M0 M G) {x1 : Int} {x2 : Int} {R : xG_} (tx1 : xin x1) (tx2 : xin x2) (e : g286_45b  r45 f x1 x2 G = some R) : xok (f286_45b  o45 f m x1 x2 M) (fun r => xRX m M0 r R) := by
  unfold g286_45b at e
  unfold f286_45b
  refine xok_ite (fun c101 => ?_) (fun c101 => ?_)
  · rw [if_pos c101] at e
    cases e
    exact ⟨_, rfl, h⟩
  · rw [if_neg c101] at e
    refine xok_eqb (h.pt (o := 0) (c := 15) (k := 50) (t := 117) (n := 107) (by decide) rfl (by decide) (by decide +kernel)) ?_
    refine xok_eqb (h.pt (o := 0) (c := 15) (k := 35) (t := 110) (n := 107) (by decide) rfl (by decide) (by decide +kernel)) ?_
    by_cases c102 : 0 ≤ (x2) ∧ (x2) < 8
    · skip
      rw [if_pos c102] at e
      refine xok_eqb (h.al (o := 110) (n := 8) (by decide) rfl  c102.1 c102.2) ?_
      by_cases c103 : 0 ≤ (x2) ∧ (x2) < 8
      · skip
        rw [if_pos c103] at e
        obtain ⟨M104, q105, h106⟩ := h.sl (o := 117) (n := 8) (v := G (110) (x2).toNat) (by decide) rfl c103.1 c103.2 (h.aln (o := 110) (n := 8) (by decide) rfl  c102.1 c102.2)
        refine xok_eqb q105 ?_
        obtain ⟨G107, g1, e⟩ := xbnd e
        cases g1
        have h106_ : xRX m M0 M104 (xup2 G (117) (x2).toNat (G (110) (x2).toNat)) := h106
        generalize hGG107 : (xup2 G (117) (x2).toNat (G (110) (x2).toNat)) = G107 at e h106
        clear h106_ hGG107
        exact hr45 h106 tx1 (xin_wr _) e
      · rw [if_neg c103] at e; cases e
    · rw [if_neg c102] at e; cases e
theorem s286_45 {m f : Nat} {M0 : xj_M} (hI : xHI f)     : ∀ {n : Nat} {M : xj_M} {G : xG_} {x1 : Int} {x2 : Int} {R : xG_}, xRX m M0 M G → xin x1 → xin x2 → g286_45   f n x1 x2 G = some R → xok (f286_45   f n m x1 x2 M) (fun r => xRX m M0 r R) := by
  intro n
  induction n with
  | zero => intros; rename_i e; cases e
  | succ n ih =>
    intros
    rename_i h i0 i1 e
    exact s286_45b hI   ih h i0 i1 e
theorem s286_38 {m f : Nat} {M0 M : xj_M} {G : xG_} (hI : xHI f)     (h : xRX m M0 M G) {x1 : Int} {R : xG_} (tx1 : xin x1) (e : g286_38   f x1 G = some R) : xok (f286_38   f m x1 M) (fun r => xRX m M0 r R) := by
  unfold g286_38 at e
  unfold f286_38
  obtain ⟨M108, q109, h110⟩ := h.pb (v := 1) (o := 0) (c := 15) (k := 54) (n := 107) (by decide) rfl (by decide) (by decide) (by decide)
  refine xok_eqb q109 ?_
  obtain ⟨G111, g1, e⟩ := xbnd e
  cases g1
  have h110_ : xRX m M0 M108 (xup2 G (0) 54 (1)) := h110
  generalize hGG111 : (xup2 G (0) 54 (1)) = G111 at e h110
  clear h110_ hGG111
  exact s286_45 hI   h110 tx1 (show xin (0) by decide) e
theorem sg286 {m f : Nat} {M0 M : xj_M} {G : xG_} (hI : xHI f)   (h : xRX m M0 M G)  {R : xG_}  (e : g286  f  G = some R) : xok (f286  f m M) (fun r => xRX m M0 r R) := by
  unfold g286 at e
  unfold f286
  refine xok_eqb (h.pt (o := 0) (c := 15) (k := 29) (t := 2) (n := 107) (by decide) rfl (by decide) (by decide +kernel)) ?_
  refine xok_eqb (h.pt (o := 2) (c := 14) (k := 22) (t := 2 + 20) (n := 38) (xoP_o (show xoP 2 by unfold xoP; omega)).1 (xoP_o (show xoP 2 by unfold xoP; omega)).2 (by decide) (xoP_all (show xoP 2 by unfold xoP; omega) (Q := fun p => (p, 22, p + 20) ∈ xl_P) (by decide +kernel) (by decide +kernel) (by decide +kernel))) ?_
  refine xok_eqb (h.gi (o := 0) (c := 15) (k := 39) (n := 107) (by decide) rfl (by decide) (by decide)) ?_
  by_cases c112 : 0 ≤ (G (0) 39) ∧ (G (0) 39) < 25
  · skip
    rw [if_pos c112] at e
    refine xok_eqb (h.ai (o := 2 + 20) (n := 25) (xoP_all (show xoP 2 by unfold xoP; omega) (Q := fun p => p + 20 < 276) (by decide) (by decide) (by decide)) (xoP_all (show xoP 2 by unfold xoP; omega) (Q := fun p => xl_t (p + 20) = (2, 3, 25)) rfl rfl rfl) (by decide) c112.1 c112.2) ?_
    refine xok_eqb (h.gi (o := 0) (c := 15) (k := 54) (n := 107) (by decide) rfl (by decide) (by decide)) ?_
    refine xok_ite (fun c113 => ?_) (fun c113 => ?_)
    · rw [if_pos c113] at e
      exact s286_38 hI   h (h.ain (o := 2 + 20) (n := 25) (xoP_all (show xoP 2 by unfold xoP; omega) (Q := fun p => p + 20 < 276) (by decide) (by decide) (by decide)) (xoP_all (show xoP 2 by unfold xoP; omega) (Q := fun p => xl_t (p + 20) = (2, 3, 25)) rfl rfl rfl) (by decide) c112.1 c112.2) e
    · rw [if_neg c113] at e
      refine xok_eqb (h.pt (o := 0) (c := 15) (k := 50) (t := 117) (n := 107) (by decide) rfl (by decide) (by decide +kernel)) ?_
      refine xok_eqb (h.pt (o := 0) (c := 15) (k := 35) (t := 110) (n := 107) (by decide) rfl (by decide) (by decide +kernel)) ?_
      obtain ⟨R114, e115, e⟩ := xbnd e
      refine xok_call (sg262 hI  h (show xoJ 117 from ⟨by decide, rfl⟩) (show xin (0) by decide) (show xoJ 110 from ⟨by decide, rfl⟩) (show xin (0) by decide) (h.ain (o := 2 + 20) (n := 25) (xoP_all (show xoP 2 by unfold xoP; omega) (Q := fun p => p + 20 < 276) (by decide) (by decide) (by decide)) (xoP_all (show xoP 2 by unfold xoP; omega) (Q := fun p => xl_t (p + 20) = (2, 3, 25)) rfl rfl rfl) (by decide) c112.1 c112.2) e115) ?_
      rintro ⟨v_, M118⟩ ⟨hv_, h116, hi117⟩
      cases hv_
      refine xok_ite (fun c119 => ?_) (fun c119 => ?_)
      · rw [if_pos c119] at e
        exact s286_38 hI   h116 (h.ain (o := 2 + 20) (n := 25) (xoP_all (show xoP 2 by unfold xoP; omega) (Q := fun p => p + 20 < 276) (by decide) (by decide) (by decide)) (xoP_all (show xoP 2 by unfold xoP; omega) (Q := fun p => xl_t (p + 20) = (2, 3, 25)) rfl rfl rfl) (by decide) c112.1 c112.2) e
      · rw [if_neg c119] at e
        cases e
        exact ⟨_, rfl, h116⟩
  · rw [if_neg c112] at e; cases e
-- ChangeHouseModel.gather
theorem s287_232 {m f : Nat} {M0 M : xj_M} {G : xG_} (hI : xHI f)     (h : xRX m M0 M G) {y0 : Int} {y1 : Int} {y2 : Nat} {R : xG_} (ty0 : xiN y0) (ty1 : xin y1) (ty2 : xoJ y2) (e : g287_232   f y0 y1 y2 G = some R) : xok (f287_232   f y0 y1 (m + y2) M) (fun r => xRX m M0 r R) := by
  unfold g287_232 at e
  unfold f287_232
  by_cases c101 : 0 ≤ (y1) ∧ (y1) < ((xl_t (y2)).2.2 : Int)
  · skip
    rw [if_pos c101] at e
    obtain ⟨M102, q103, h104⟩ := h.sl (o := y2) (n := (xl_t (y2)).2.2) (v := y0) ty2.1 ty2.2 c101.1 c101.2 ty0
    refine xok_eqb q103 ?_
    obtain ⟨G105, g1, e⟩ := xbnd e
    cases g1
    have h104_ : xRX m M0 M102 (xup2 G (y2) (y1).toNat (y0)) := h104
    generalize hGG105 : (xup2 G (y2) (y1).toNat (y0)) = G105 at e h104
    clear h104_ hGG105
    cases e
    exact ⟨_, rfl, h104⟩
  · rw [if_neg c101] at e; cases e
theorem s287_205 {m f : Nat} {M0 M : xj_M} {G : xG_} (hI : xHI f)     (h : xRX m M0 M G) {x2 : Int} {x6 : Int} {y0 : Int} {y1 : Nat} {R : xG_} (tx2 : xiN x2) (tx6 : xiN x6) (ty0 : xin y0) (ty1 : xoJ y1) (e : g287_205   f x2 x6 y0 y1 G = some R) : xok (f287_205   f x2 x6 y0 (m + y1) M) (fun r => xRX m M0 r R) := by
  unfold g287_205 at e
  unfold f287_205
  exact s287_232 hI   h (xiN_wl _) ty0 ty1 e
theorem s287_264b {m f : Nat} {M0 M : xj_M} {G : xG_} (hI : xHI f)  {r254 : Int → Int → Int → Int → xG_ → Option (xG_)} {o254 : Nat → Int → Int → Int → Int → xj_M → Option (xj_M)} {r264 : Int → Int → Int → Int → Int → xG_ → Option (xG_)} {o264 : Nat → Int → Int → Int → Int → Int → xj_M → Option (xj_M)}  (hr254 : ∀ {M : xj_M} {G : xG_} {x2 : Int} {x4 : Int} {x5 : Int} {x6 : Int} {R : xG_}, xRX m M0 M G → xiN x2 → xin x4 → xin x5 → xin x6 → r254 x2 x4 x5 x6 G = some R → xok (o254 m x2 x4 x5 x6 M) (fun r => xRX m M0 r R)) (hr264 : ∀ {M : xj_M} {G : xG_} {x2 : Int} {x4 : Int} {x5 : Int} {x6 : Int} {x7 : Int} {R : xG_}, xRX m M0 M G → xiN x2 → xin x4 → xin x5 → xin x6 → xin x7 → r264 x2 x4 x5 x6 x7 G = some R → xok (o264 m x2 x4 x5 x6 x7 M) (fun r => xRX m M0 r R)) (h : xRX m M0 M G) {x2 : Int} {x4 : Int} {x5 : Int} {x6 : Int} {x7 : Int} {R : xG_} (tx2 : xiN x2) (tx4 : xin x4) (tx5 : xin x5) (tx6 : xin x6) (tx7 : xin x7) (e : g287_264b  r254 r264 f x2 x4 x5 x6 x7 G = some R) : xok (f287_264b  o254 o264 f m x2 x4 x5 x6 x7 M) (fun r => xRX m M0 r R) := by
  unfold g287_264b at e
  unfold f287_264b
  refine xok_ite (fun c106 => ?_) (fun c106 => ?_)
  · rw [if_pos c106] at e
    refine xok_eqb (h.pt (o := 0) (c := 15) (k := 56) (t := 120) (n := 107) (by decide) rfl (by decide) (by decide +kernel)) ?_
    refine xok_eqb (h.pt (o := 0) (c := 15) (k := 56) (t := 120) (n := 107) (by decide) rfl (by decide) (by decide +kernel)) ?_
    by_cases c107 : 0 ≤ (xwr ((x6) - (1))) ∧ (xwr ((x6) - (1))) < 1025
    · skip
      rw [if_pos c107] at e
      refine xok_eqb (h.al (o := 120) (n := 1025) (by decide) rfl  c107.1 c107.2) ?_
      by_cases c108 : 0 ≤ (x6) ∧ (x6) < 1025
      · skip
        rw [if_pos c108] at e
        obtain ⟨M109, q110, h111⟩ := h.sl (o := 120) (n := 1025) (v := G (120) (xwr ((x6) - (1))).toNat) (by decide) rfl c108.1 c108.2 (h.aln (o := 120) (n := 1025) (by decide) rfl  c107.1 c107.2)
        refine xok_eqb q110 ?_
        obtain ⟨G112, g1, e⟩ := xbnd e
        cases g1
        have h111_ : xRX m M0 M109 (xup2 G (120) (x6).toNat (G (120) (xwr ((x6) - (1))).toNat)) := h111
        generalize hGG112 : (xup2 G (120) (x6).toNat (G (120) (xwr ((x6) - (1))).toNat)) = G112 at e h111
        clear h111_ hGG112
        exact hr254 h111 tx2 tx4 tx5 (xin_wr _) e
      · rw [if_neg c108] at e; cases e
    · rw [if_neg c107] at e; cases e
  · rw [if_neg c106] at e
    refine xok_eqb (h.pt (o := 0) (c := 15) (k := 55) (t := 119) (n := 107) (by decide) rfl (by decide) (by decide +kernel)) ?_
    refine xok_eqb (h.pt (o := 0) (c := 15) (k := 55) (t := 119) (n := 107) (by decide) rfl (by decide) (by decide +kernel)) ?_
    by_cases c113 : 0 ≤ (xwr ((xwr ((4) * (xwr ((x6) - (1))))) + (x7))) ∧ (xwr ((xwr ((4) * (xwr ((x6) - (1))))) + (x7))) < 4100
    · skip
      rw [if_pos c113] at e
      refine xok_eqb (h.al (o := 119) (n := 4100) (by decide) rfl  c113.1 c113.2) ?_
      by_cases c114 : 0 ≤ (xwr ((xwr ((4) * (x6))) + (x7))) ∧ (xwr ((xwr ((4) * (x6))) + (x7))) < 4100
      · skip
        rw [if_pos c114] at e
        obtain ⟨M115, q116, h117⟩ := h.sl (o := 119) (n := 4100) (v := G (119) (xwr ((xwr ((4) * (xwr ((x6) - (1))))) + (x7))).toNat) (by decide) rfl c114.1 c114.2 (h.aln (o := 119) (n := 4100) (by decide) rfl  c113.1 c113.2)
        refine xok_eqb q116 ?_
        obtain ⟨G118, g1, e⟩ := xbnd e
        cases g1
        have h117_ : xRX m M0 M115 (xup2 G (119) (xwr ((xwr ((4) * (x6))) + (x7))).toNat (G (119) (xwr ((xwr ((4) * (xwr ((x6) - (1))))) + (x7))).toNat)) := h117
        generalize hGG118 : (xup2 G (119) (xwr ((xwr ((4) * (x6))) + (x7))).toNat (G (119) (xwr ((xwr ((4) * (xwr ((x6) - (1))))) + (x7))).toNat)) = G118 at e h117
        clear h117_ hGG118
        exact hr264 h117 tx2 tx4 tx5 tx6 (xin_wr _) e
      · rw [if_neg c114] at e; cases e
    · rw [if_neg c113] at e; cases e
theorem s287_264 {m f : Nat} {M0 : xj_M} (hI : xHI f)  {r254 : Int → Int → Int → Int → xG_ → Option (xG_)} {o254 : Nat → Int → Int → Int → Int → xj_M → Option (xj_M)}  (hr254 : ∀ {M : xj_M} {G : xG_} {x2 : Int} {x4 : Int} {x5 : Int} {x6 : Int} {R : xG_}, xRX m M0 M G → xiN x2 → xin x4 → xin x5 → xin x6 → r254 x2 x4 x5 x6 G = some R → xok (o254 m x2 x4 x5 x6 M) (fun r => xRX m M0 r R)) : ∀ {n : Nat} {M : xj_M} {G : xG_} {x2 : Int} {x4 : Int} {x5 : Int} {x6 : Int} {x7 : Int} {R : xG_}, xRX m M0 M G → xiN x2 → xin x4 → xin x5 → xin x6 → xin x7 → g287_264  r254 f n x2 x4 x5 x6 x7 G = some R → xok (f287_264  o254 f n m x2 x4 x5 x6 x7 M) (fun r => xRX m M0 r R) := by
  intro n
  induction n with
  | zero => intros; rename_i e; cases e
  | succ n ih =>
    intros
    rename_i h i0 i1 i2 i3 i4 e
    exact s287_264b hI  hr254 ih h i0 i1 i2 i3 i4 e
theorem s287_362 {m f : Nat} {M0 M : xj_M} {G : xG_} (hI : xHI f)  {r327 : Int → Int → Int → Int → xG_ → Option (xG_)} {o327 : Nat → Int → Int → Int → Int → xj_M → Option (xj_M)}  (hr327 : ∀ {M : xj_M} {G : xG_} {x2 : Int} {x4 : Int} {x5 : Int} {x6 : Int} {R : xG_}, xRX m M0 M G → xiN x2 → xin x4 → xin x5 → xin x6 → r327 x2 x4 x5 x6 G = some R → xok (o327 m x2 x4 x5 x6 M) (fun r => xRX m M0 r R)) (h : xRX m M0 M G) {x2 : Int} {x4 : Int} {x5 : Int} {x6 : Int} {y0 : Int} {y1 : Int} {y2 : Nat} {R : xG_} (tx2 : xiN x2) (tx4 : xin x4) (tx5 : xin x5) (tx6 : xin x6) (ty0 : xiN y0) (ty1 : xin y1) (ty2 : xoJ y2) (e : g287_362  r327 f x2 x4 x5 x6 y0 y1 y2 G = some R) : xok (f287_362  o327 f m x2 x4 x5 x6 y0 y1 (m + y2) M) (fun r => xRX m M0 r R) := by
  unfold g287_362 at e
  unfold f287_362
  by_cases c119 : 0 ≤ (y1) ∧ (y1) < ((xl_t (y2)).2.2 : Int)
  · skip
    rw [if_pos c119] at e
    obtain ⟨M120, q121, h122⟩ := h.sl (o := y2) (n := (xl_t (y2)).2.2) (v := y0) ty2.1 ty2.2 c119.1 c119.2 ty0
    refine xok_eqb q121 ?_
    obtain ⟨G123, g1, e⟩ := xbnd e
    cases g1
    have h122_ : xRX m M0 M120 (xup2 G (y2) (y1).toNat (y0)) := h122
    generalize hGG123 : (xup2 G (y2) (y1).toNat (y0)) = G123 at e h122
    clear h122_ hGG123
    exact hr327 h122 tx2 tx4 tx5 (xin_wr _) e
  · rw [if_neg c119] at e; cases e
theorem s287_409 {m f : Nat} {M0 M : xj_M} {G : xG_} (hI : xHI f)     (h : xRX m M0 M G)  {R : xG_}  (e : g287_409   f  G = some R) : xok (f287_409   f  M) (fun r => xRX m M0 r R) := by
  unfold g287_409 at e
  unfold f287_409
  cases e
  exact ⟨_, rfl, h⟩
theorem s287_327b {m f : Nat} {M0 M : xj_M} {G : xG_} (hI : xHI f)  {r327 : Int → Int → Int → Int → xG_ → Option (xG_)} {o327 : Nat → Int → Int → Int → Int → xj_M → Option (xj_M)}  (hr327 : ∀ {M : xj_M} {G : xG_} {x2 : Int} {x4 : Int} {x5 : Int} {x6 : Int} {R : xG_}, xRX m M0 M G → xiN x2 → xin x4 → xin x5 → xin x6 → r327 x2 x4 x5 x6 G = some R → xok (o327 m x2 x4 x5 x6 M) (fun r => xRX m M0 r R)) (h : xRX m M0 M G) {x2 : Int} {x4 : Int} {x5 : Int} {x6 : Int} {R : xG_} (tx2 : xiN x2) (tx4 : xin x4) (tx5 : xin x5) (tx6 : xin x6) (e : g287_327b  r327 f x2 x4 x5 x6 G = some R) : xok (f287_327b  o327 f m x2 x4 x5 x6 M) (fun r => xRX m M0 r R) := by
  unfold g287_327b at e
  unfold f287_327b
  refine xok_ite (fun c124 => ?_) (fun c124 => ?_)
  · rw [if_pos c124] at e
    refine xok_eqb (h.pt (o := 0) (c := 15) (k := 56) (t := 120) (n := 107) (by decide) rfl (by decide) (by decide +kernel)) ?_
    by_cases c125 : 0 ≤ (x5) ∧ (x5) < 1025
    · skip
      rw [if_pos c125] at e
      obtain ⟨M126, q127, h128⟩ := h.sl (o := 120) (n := 1025) (v := x2) (by decide) rfl c125.1 c125.2 tx2
      refine xok_eqb q127 ?_
      obtain ⟨G129, g1, e⟩ := xbnd e
      cases g1
      have h128_ : xRX m M0 M126 (xup2 G (120) (x5).toNat (x2)) := h128
      generalize hGG129 : (xup2 G (120) (x5).toNat (x2)) = G129 at e h128
      clear h128_ hGG129
      refine xok_eqb (h128.gi (o := 0) (c := 15) (k := 58) (n := 107) (by decide) rfl (by decide) (by decide)) ?_
      obtain ⟨M130, q131, h132⟩ := h128.pi (v := xwr ((G129 (0) 58) + (1))) (o := 0) (c := 15) (k := 58) (n := 107) (by decide) rfl (by decide) (by decide) (xin_wr _)
      refine xok_eqb q131 ?_
      obtain ⟨G133, g1, e⟩ := xbnd e
      cases g1
      have h132_ : xRX m M0 M130 (xup2 G129 (0) 58 (xwr ((G129 (0) 58) + (1)))) := h132
      generalize hGG133 : (xup2 G129 (0) 58 (xwr ((G129 (0) 58) + (1)))) = G133 at e h132
      clear h132_ hGG133
      refine xok_eqb (h132.gi (o := 0) (c := 15) (k := 58) (n := 107) (by decide) rfl (by decide) (by decide)) ?_
      refine xok_ite (fun c134 => ?_) (fun c134 => ?_)
      · rw [if_pos c134] at e
        exact s287_409 hI   h132  e
      · rw [if_neg c134] at e
        obtain ⟨M135, q136, h137⟩ := h132.pi (v := 1024) (o := 0) (c := 15) (k := 58) (n := 107) (by decide) rfl (by decide) (by decide) (show xin (1024) by decide)
        refine xok_eqb q136 ?_
        obtain ⟨G138, g1, e⟩ := xbnd e
        cases g1
        have h137_ : xRX m M0 M135 (xup2 G133 (0) 58 (1024)) := h137
        generalize hGG138 : (xup2 G133 (0) 58 (1024)) = G138 at e h137
        clear h137_ hGG138
        obtain ⟨M139, q140, h141⟩ := h137.pb (v := 1) (o := 0) (c := 15) (k := 60) (n := 107) (by decide) rfl (by decide) (by decide) (by decide)
        refine xok_eqb q140 ?_
        obtain ⟨G142, g1, e⟩ := xbnd e
        cases g1
        have h141_ : xRX m M0 M139 (xup2 G138 (0) 60 (1)) := h141
        generalize hGG142 : (xup2 G138 (0) 60 (1)) = G142 at e h141
        clear h141_ hGG142
        exact s287_409 hI   h141  e
    · rw [if_neg c125] at e; cases e
  · rw [if_neg c124] at e
    refine xok_eqb (h.pt (o := 0) (c := 15) (k := 55) (t := 119) (n := 107) (by decide) rfl (by decide) (by decide +kernel)) ?_
    refine xok_ite (fun c143 => ?_) (fun c143 => ?_)
    · rw [if_pos c143] at e
      exact s287_362 hI  hr327 h tx2 tx4 tx5 tx6 (show xiN (0) by decide) (xin_wr _) (show xoJ 119 from ⟨by decide, rfl⟩) e
    · rw [if_neg c143] at e
      refine xok_eqb (h.pt (o := 0) (c := 15) (k := 44) (t := 112) (n := 107) (by decide) rfl (by decide) (by decide +kernel)) ?_
      by_cases c144 : 0 ≤ (x6) ∧ (x6) < 4
      · skip
        rw [if_pos c144] at e
        refine xok_eqb (h.al (o := 112) (n := 4) (by decide) rfl  c144.1 c144.2) ?_
        exact s287_362 hI  hr327 h tx2 tx4 tx5 tx6 (h.aln (o := 112) (n := 4) (by decide) rfl  c144.1 c144.2) (xin_wr _) (show xoJ 119 from ⟨by decide, rfl⟩) e
      · rw [if_neg c144] at e; cases e
theorem s287_327 {m f : Nat} {M0 : xj_M} (hI : xHI f)     : ∀ {n : Nat} {M : xj_M} {G : xG_} {x2 : Int} {x4 : Int} {x5 : Int} {x6 : Int} {R : xG_}, xRX m M0 M G → xiN x2 → xin x4 → xin x5 → xin x6 → g287_327   f n x2 x4 x5 x6 G = some R → xok (f287_327   f n m x2 x4 x5 x6 M) (fun r => xRX m M0 r R) := by
  intro n
  induction n with
  | zero => intros; rename_i e; cases e
  | succ n ih =>
    intros
    rename_i h i0 i1 i2 i3 e
    exact s287_327b hI   ih h i0 i1 i2 i3 e
theorem s287_254b {m f : Nat} {M0 M : xj_M} {G : xG_} (hI : xHI f)  {r254 : Int → Int → Int → Int → xG_ → Option (xG_)} {o254 : Nat → Int → Int → Int → Int → xj_M → Option (xj_M)}  (hr254 : ∀ {M : xj_M} {G : xG_} {x2 : Int} {x4 : Int} {x5 : Int} {x6 : Int} {R : xG_}, xRX m M0 M G → xiN x2 → xin x4 → xin x5 → xin x6 → r254 x2 x4 x5 x6 G = some R → xok (o254 m x2 x4 x5 x6 M) (fun r => xRX m M0 r R)) (h : xRX m M0 M G) {x2 : Int} {x4 : Int} {x5 : Int} {x6 : Int} {R : xG_} (tx2 : xiN x2) (tx4 : xin x4) (tx5 : xin x5) (tx6 : xin x6) (e : g287_254b  r254 f x2 x4 x5 x6 G = some R) : xok (f287_254b  o254 f m x2 x4 x5 x6 M) (fun r => xRX m M0 r R) := by
  unfold g287_254b at e
  unfold f287_254b
  refine xok_ite (fun c145 => ?_) (fun c145 => ?_)
  · rw [if_pos c145] at e
    exact s287_327 hI   h tx2 tx4 tx5 (show xin (0) by decide) e
  · rw [if_neg c145] at e
    exact s287_264 hI  hr254 h tx2 tx4 tx5 tx6 (show xin (0) by decide) e
theorem s287_254 {m f : Nat} {M0 : xj_M} (hI : xHI f)     : ∀ {n : Nat} {M : xj_M} {G : xG_} {x2 : Int} {x4 : Int} {x5 : Int} {x6 : Int} {R : xG_}, xRX m M0 M G → xiN x2 → xin x4 → xin x5 → xin x6 → g287_254   f n x2 x4 x5 x6 G = some R → xok (f287_254   f n m x2 x4 x5 x6 M) (fun r => xRX m M0 r R) := by
  intro n
  induction n with
  | zero => intros; rename_i e; cases e
  | succ n ih =>
    intros
    rename_i h i0 i1 i2 i3 e
    exact s287_254b hI   ih h i0 i1 i2 i3 e
theorem s287_234 {m f : Nat} {M0 M : xj_M} {G : xG_} (hI : xHI f)     (h : xRX m M0 M G) {x2 : Int} {x4 : Int} {x5 : Int} {R : xG_} (tx2 : xiN x2) (tx4 : xin x4) (tx5 : xin x5) (e : g287_234   f x2 x4 x5 G = some R) : xok (f287_234   f m x2 x4 x5 M) (fun r => xRX m M0 r R) := by
  unfold g287_234 at e
  unfold f287_234
  refine xok_ite (fun c146 => ?_) (fun c146 => ?_)
  · rw [if_pos c146] at e
    refine xok_eqb (h.gi (o := 0) (c := 15) (k := 58) (n := 107) (by decide) rfl (by decide) (by decide)) ?_
    exact s287_254 hI   h tx2 tx4 tx5 (h.gin (o := 0) (c := 15) (k := 58) (n := 107) (by decide) rfl (by decide) (by decide)) e
  · rw [if_neg c146] at e
    obtain ⟨M147, q148, h149⟩ := h.pb (v := 1) (o := 0) (c := 15) (k := 60) (n := 107) (by decide) rfl (by decide) (by decide) (by decide)
    refine xok_eqb q148 ?_
    obtain ⟨G150, g1, e⟩ := xbnd e
    cases g1
    have h149_ : xRX m M0 M147 (xup2 G (0) 60 (1)) := h149
    generalize hGG150 : (xup2 G (0) 60 (1)) = G150 at e h149
    clear h149_ hGG150
    cases e
    exact ⟨_, rfl, h149⟩
theorem s287_150 {m f : Nat} {M0 M : xj_M} {G : xG_} (hI : xHI f)     (h : xRX m M0 M G) {x1 : Int} {x2 : Int} {x4 : Int} {x5 : Int} {R : xG_} (tx1 : xin x1) (tx2 : xiN x2) (tx4 : xin x4) (tx5 : xin x5) (e : g287_150   f x1 x2 x4 x5 G = some R) : xok (f287_150   f m x1 x2 x4 x5 M) (fun r => xRX m M0 r R) := by
  unfold g287_150 at e
  unfold f287_150
  refine xok_eqb (h.gi (o := 0) (c := 15) (k := 58) (n := 107) (by decide) rfl (by decide) (by decide)) ?_
  refine xok_ite (fun c151 => ?_) (fun c151 => ?_)
  · rw [if_pos c151] at e
    exact s287_234 hI   h tx2 tx4 tx5 e
  · rw [if_neg c151] at e
    refine xok_eqb (h.pt (o := 0) (c := 15) (k := 55) (t := 119) (n := 107) (by decide) rfl (by decide) (by decide +kernel)) ?_
    refine xok_eqb (h.pt (o := 0) (c := 15) (k := 44) (t := 112) (n := 107) (by decide) rfl (by decide) (by decide +kernel)) ?_
    obtain ⟨R152, e153, e⟩ := xbnd e
    refine xok_call (sg262 hI  h (show xoJ 119 from ⟨by decide, rfl⟩) (xin_wr _) (show xoJ 112 from ⟨by decide, rfl⟩) (show xin (0) by decide) tx4 e153) ?_
    rintro ⟨v_, M156⟩ ⟨hv_, h154, hi155⟩
    cases hv_
    refine xok_ite (fun c157 => ?_) (fun c157 => ?_)
    · rw [if_pos c157] at e
      exact s287_234 hI   h154 tx2 tx4 tx5 e
    · rw [if_neg c157] at e
      refine xok_eqb (h154.pt (o := 0) (c := 15) (k := 56) (t := 120) (n := 107) (by decide) rfl (by decide) (by decide +kernel)) ?_
      by_cases c158 : 0 ≤ (x5) ∧ (x5) < 1025
      · skip
        rw [if_pos c158] at e
        refine xok_eqb (h154.al (o := 120) (n := 1025) (by decide) rfl  c158.1 c158.2) ?_
        refine xok_eqb (h154.pt (o := 0) (c := 15) (k := 56) (t := 120) (n := 107) (by decide) rfl (by decide) (by decide +kernel)) ?_
        refine xok_ite (fun c159 => ?_) (fun c159 => ?_)
        · rw [if_pos c159] at e
          exact s287_205 hI   h154 tx2 (h154.aln (o := 120) (n := 1025) (by decide) rfl  c158.1 c158.2) tx5 (show xoJ 120 from ⟨by decide, rfl⟩) e
        · rw [if_neg c159] at e
          refine xok_ite (fun c160 => ?_) (fun c160 => ?_)
          · rw [if_pos c160] at e
            refine xok_ite (fun c161 => ?_) (fun c161 => ?_)
            · rw [if_pos c161] at e
              exact s287_232 hI   h154 (xmax_iN (h154.aln (o := 120) (n := 1025) (by decide) rfl  c158.1 c158.2) tx2) tx5 (show xoJ 120 from ⟨by decide, rfl⟩) e
            · rw [if_neg c161] at e
              exact s287_232 hI   h154 (xmin_iN (h154.aln (o := 120) (n := 1025) (by decide) rfl  c158.1 c158.2) tx2) tx5 (show xoJ 120 from ⟨by decide, rfl⟩) e
          · rw [if_neg c160] at e
            exact s287_205 hI   h154 tx2 (h154.aln (o := 120) (n := 1025) (by decide) rfl  c158.1 c158.2) tx5 (show xoJ 120 from ⟨by decide, rfl⟩) e
      · rw [if_neg c158] at e; cases e
theorem s287_114b {m f : Nat} {M0 M : xj_M} {G : xG_} (hI : xHI f)  {r114 : Int → Int → Int → Int → xG_ → Option (xG_)} {o114 : Nat → Int → Int → Int → Int → xj_M → Option (xj_M)}  (hr114 : ∀ {M : xj_M} {G : xG_} {x1 : Int} {x2 : Int} {x4 : Int} {x5 : Int} {R : xG_}, xRX m M0 M G → xin x1 → xiN x2 → xin x4 → xin x5 → r114 x1 x2 x4 x5 G = some R → xok (o114 m x1 x2 x4 x5 M) (fun r => xRX m M0 r R)) (h : xRX m M0 M G) {x1 : Int} {x2 : Int} {x4 : Int} {x5 : Int} {R : xG_} (tx1 : xin x1) (tx2 : xiN x2) (tx4 : xin x4) (tx5 : xin x5) (e : g287_114b  r114 f x1 x2 x4 x5 G = some R) : xok (f287_114b  o114 f m x1 x2 x4 x5 M) (fun r => xRX m M0 r R) := by
  unfold g287_114b at e
  unfold f287_114b
  refine xok_eqb (h.gi (o := 0) (c := 15) (k := 58) (n := 107) (by decide) rfl (by decide) (by decide)) ?_
  refine xok_ite (fun c162 => ?_) (fun c162 => ?_)
  · rw [if_pos c162] at e
    exact s287_150 hI   h tx1 tx2 tx4 tx5 e
  · rw [if_neg c162] at e
    refine xok_eqb (h.pt (o := 0) (c := 15) (k := 55) (t := 119) (n := 107) (by decide) rfl (by decide) (by decide +kernel)) ?_
    refine xok_eqb (h.pt (o := 0) (c := 15) (k := 44) (t := 112) (n := 107) (by decide) rfl (by decide) (by decide +kernel)) ?_
    obtain ⟨R163, e164, e⟩ := xbnd e
    refine xok_call (sg262 hI  h (show xoJ 119 from ⟨by decide, rfl⟩) (xin_wr _) (show xoJ 112 from ⟨by decide, rfl⟩) (show xin (0) by decide) tx4 e164) ?_
    rintro ⟨v_, M167⟩ ⟨hv_, h165, hi166⟩
    cases hv_
    refine xok_ite (fun c168 => ?_) (fun c168 => ?_)
    · rw [if_pos c168] at e
      exact s287_150 hI   h165 tx1 tx2 tx4 tx5 e
    · rw [if_neg c168] at e
      exact hr114 h165 tx1 tx2 tx4 (xin_wr _) e
theorem s287_114 {m f : Nat} {M0 : xj_M} (hI : xHI f)     : ∀ {n : Nat} {M : xj_M} {G : xG_} {x1 : Int} {x2 : Int} {x4 : Int} {x5 : Int} {R : xG_}, xRX m M0 M G → xin x1 → xiN x2 → xin x4 → xin x5 → g287_114   f n x1 x2 x4 x5 G = some R → xok (f287_114   f n m x1 x2 x4 x5 M) (fun r => xRX m M0 r R) := by
  intro n
  induction n with
  | zero => intros; rename_i e; cases e
  | succ n ih =>
    intros
    rename_i h i0 i1 i2 i3 e
    exact s287_114b hI   ih h i0 i1 i2 i3 e
theorem s287_111 {m f : Nat} {M0 M : xj_M} {G : xG_} (hI : xHI f)     (h : xRX m M0 M G) {x1 : Int} {x2 : Int} {x4 : Int} {R : xG_} (tx1 : xin x1) (tx2 : xiN x2) (tx4 : xin x4) (e : g287_111   f x1 x2 x4 G = some R) : xok (f287_111   f m x1 x2 x4 M) (fun r => xRX m M0 r R) := by
  unfold g287_111 at e
  unfold f287_111
  exact s287_114 hI   h tx1 tx2 tx4 (show xin (0) by decide) e
theorem s287_53 {m f : Nat} {M0 M : xj_M} {G : xG_} (hI : xHI f)     (h : xRX m M0 M G) {x1 : Int} {x2 : Int} {R : xG_} (tx1 : xin x1) (tx2 : xiN x2) (e : g287_53   f x1 x2 G = some R) : xok (f287_53   f m x1 x2 M) (fun r => xRX m M0 r R) := by
  unfold g287_53 at e
  unfold f287_53
  refine xok_eqb (h.pt (o := 0) (c := 15) (k := 44) (t := 112) (n := 107) (by decide) rfl (by decide) (by decide +kernel)) ?_
  refine xok_eqb (h.pt (o := 0) (c := 15) (k := 29) (t := 2) (n := 107) (by decide) rfl (by decide) (by decide +kernel)) ?_
  refine xok_eqb (h.pt (o := 2) (c := 14) (k := 19) (t := 2 + 17) (n := 38) (xoP_o (show xoP 2 by unfold xoP; omega)).1 (xoP_o (show xoP 2 by unfold xoP; omega)).2 (by decide) (xoP_all (show xoP 2 by unfold xoP; omega) (Q := fun p => (p, 19, p + 17) ∈ xl_P) (by decide +kernel) (by decide +kernel) (by decide +kernel))) ?_
  refine xok_eqb (h.gi (o := 0) (c := 15) (k := 39) (n := 107) (by decide) rfl (by decide) (by decide)) ?_
  by_cases c169 : 0 ≤ (G (0) 39) ∧ (G (0) 39) < 25
  · skip
    rw [if_pos c169] at e
    refine xok_eqb (h.ai (o := 2 + 17) (n := 25) (xoP_all (show xoP 2 by unfold xoP; omega) (Q := fun p => p + 17 < 276) (by decide) (by decide) (by decide)) (xoP_all (show xoP 2 by unfold xoP; omega) (Q := fun p => xl_t (p + 17) = (2, 3, 25)) rfl rfl rfl) (by decide) c169.1 c169.2) ?_
    by_cases c170 : 0 ≤ (G (2 + 17) (G (0) 39).toNat) ∧ (G (2 + 17) (G (0) 39).toNat) < 4
    · skip
      rw [if_pos c170] at e
      obtain ⟨M171, q172, h173⟩ := h.sl (o := 112) (n := 4) (v := 0) (by decide) rfl c170.1 c170.2 (show xiN (0) by decide)
      refine xok_eqb q172 ?_
      obtain ⟨G174, g1, e⟩ := xbnd e
      cases g1
      have h173_ : xRX m M0 M171 (xup2 G (112) (G (2 + 17) (G (0) 39).toNat).toNat (0)) := h173
      generalize hGG174 : (xup2 G (112) (G (2 + 17) (G (0) 39).toNat).toNat (0)) = G174 at e h173
      clear h173_ hGG174
      refine xok_eqb (h173.pt (o := 0) (c := 15) (k := 29) (t := 2) (n := 107) (by decide) rfl (by decide) (by decide +kernel)) ?_
      refine xok_eqb (h173.pt (o := 2) (c := 14) (k := 17) (t := 2 + 15) (n := 38) (xoP_o (show xoP 2 by unfold xoP; omega)).1 (xoP_o (show xoP 2 by unfold xoP; omega)).2 (by decide) (xoP_all (show xoP 2 by unfold xoP; omega) (Q := fun p => (p, 17, p + 15) ∈ xl_P) (by decide +kernel) (by decide +kernel) (by decide +kernel))) ?_
      refine xok_eqb (h173.gi (o := 0) (c := 15) (k := 39) (n := 107) (by decide) rfl (by decide) (by decide)) ?_
      by_cases c175 : 0 ≤ (G174 (0) 39) ∧ (G174 (0) 39) < 25
      · skip
        rw [if_pos c175] at e
        refine xok_eqb (h173.ai (o := 2 + 15) (n := 25) (xoP_all (show xoP 2 by unfold xoP; omega) (Q := fun p => p + 15 < 276) (by decide) (by decide) (by decide)) (xoP_all (show xoP 2 by unfold xoP; omega) (Q := fun p => xl_t (p + 15) = (2, 3, 25)) rfl rfl rfl) (by decide) c175.1 c175.2) ?_
        refine xok_eqb (h173.gi (o := 0) (c := 15) (k := 59) (n := 107) (by decide) rfl (by decide) (by decide)) ?_
        refine xok_ite (fun c176 => ?_) (fun c176 => ?_)
        · rw [if_pos c176] at e
          exact s287_111 hI   h173 tx1 tx2 (h173.ain (o := 2 + 15) (n := 25) (xoP_all (show xoP 2 by unfold xoP; omega) (Q := fun p => p + 15 < 276) (by decide) (by decide) (by decide)) (xoP_all (show xoP 2 by unfold xoP; omega) (Q := fun p => xl_t (p + 15) = (2, 3, 25)) rfl rfl rfl) (by decide) c175.1 c175.2) e
        · rw [if_neg c176] at e
          refine xok_eqb (h173.pt (o := 0) (c := 15) (k := 44) (t := 112) (n := 107) (by decide) rfl (by decide) (by decide +kernel)) ?_
          refine xok_eqb (h173.pt (o := 0) (c := 15) (k := 57) (t := 121) (n := 107) (by decide) rfl (by decide) (by decide +kernel)) ?_
          obtain ⟨R177, e178, e⟩ := xbnd e
          refine xok_call (sg262 hI  h173 (show xoJ 112 from ⟨by decide, rfl⟩) (show xin (0) by decide) (show xoJ 121 from ⟨by decide, rfl⟩) (show xin (0) by decide) (h173.ain (o := 2 + 15) (n := 25) (xoP_all (show xoP 2 by unfold xoP; omega) (Q := fun p => p + 15 < 276) (by decide) (by decide) (by decide)) (xoP_all (show xoP 2 by unfold xoP; omega) (Q := fun p => xl_t (p + 15) = (2, 3, 25)) rfl rfl rfl) (by decide) c175.1 c175.2) e178) ?_
          rintro ⟨v_, M181⟩ ⟨hv_, h179, hi180⟩
          cases hv_
          refine xok_ite (fun c182 => ?_) (fun c182 => ?_)
          · rw [if_pos c182] at e
            exact s287_111 hI   h179 tx1 tx2 (h173.ain (o := 2 + 15) (n := 25) (xoP_all (show xoP 2 by unfold xoP; omega) (Q := fun p => p + 15 < 276) (by decide) (by decide) (by decide)) (xoP_all (show xoP 2 by unfold xoP; omega) (Q := fun p => xl_t (p + 15) = (2, 3, 25)) rfl rfl rfl) (by decide) c175.1 c175.2) e
          · rw [if_neg c182] at e
            cases e
            exact ⟨_, rfl, h179⟩
      · rw [if_neg c175] at e; cases e
    · rw [if_neg c170] at e; cases e
  · rw [if_neg c169] at e; cases e
theorem s287_39 {m f : Nat} {M0 M : xj_M} {G : xG_} (hI : xHI f)     (h : xRX m M0 M G) {x1 : Int} {y0 : Int} {R : xG_} (tx1 : xin x1) (ty0 : xiN y0) (e : g287_39   f x1 y0 G = some R) : xok (f287_39   f m x1 y0 M) (fun r => xRX m M0 r R) := by
  unfold g287_39 at e
  unfold f287_39
  refine xok_ite (fun c183 => ?_) (fun c183 => ?_)
  · rw [if_pos c183] at e
    exact s287_53 hI   h tx1 ty0 e
  · rw [if_neg c183] at e
    obtain ⟨R184, e185, e⟩ := xbnd e
    refine xok_call (sg267 hI  h ty0 e185) ?_
    rintro ⟨v_, M188⟩ ⟨hv_, h186, hi187⟩
    cases hv_
    refine xok_ite (fun c189 => ?_) (fun c189 => ?_)
    · rw [if_pos c189] at e
      exact s287_53 hI   h186 tx1 ty0 e
    · rw [if_neg c189] at e
      cases e
      exact ⟨_, rfl, h186⟩
theorem sg287 {m f : Nat} {M0 M : xj_M} {G : xG_} (hI : xHI f)   (h : xRX m M0 M G)  {R : xG_}  (e : g287  f  G = some R) : xok (f287  f m M) (fun r => xRX m M0 r R) := by
  unfold g287 at e
  unfold f287
  refine xok_eqb (h.pt (o := 0) (c := 15) (k := 29) (t := 2) (n := 107) (by decide) rfl (by decide) (by decide +kernel)) ?_
  refine xok_eqb (h.pt (o := 2) (c := 14) (k := 18) (t := 2 + 16) (n := 38) (xoP_o (show xoP 2 by unfold xoP; omega)).1 (xoP_o (show xoP 2 by unfold xoP; omega)).2 (by decide) (xoP_all (show xoP 2 by unfold xoP; omega) (Q := fun p => (p, 18, p + 16) ∈ xl_P) (by decide +kernel) (by decide +kernel) (by decide +kernel))) ?_
  refine xok_eqb (h.gi (o := 0) (c := 15) (k := 39) (n := 107) (by decide) rfl (by decide) (by decide)) ?_
  by_cases c190 : 0 ≤ (G (0) 39) ∧ (G (0) 39) < 25
  · skip
    rw [if_pos c190] at e
    refine xok_eqb (h.ai (o := 2 + 16) (n := 25) (xoP_all (show xoP 2 by unfold xoP; omega) (Q := fun p => p + 16 < 276) (by decide) (by decide) (by decide)) (xoP_all (show xoP 2 by unfold xoP; omega) (Q := fun p => xl_t (p + 16) = (2, 3, 25)) rfl rfl rfl) (by decide) c190.1 c190.2) ?_
    refine xok_ite (fun c191 => ?_) (fun c191 => ?_)
    · rw [if_pos c191] at e
      refine xok_eqb (h.pt (o := 0) (c := 15) (k := 35) (t := 110) (n := 107) (by decide) rfl (by decide) (by decide +kernel)) ?_
      refine xok_eqb (h.pt (o := 0) (c := 15) (k := 29) (t := 2) (n := 107) (by decide) rfl (by decide) (by decide +kernel)) ?_
      refine xok_eqb (h.pt (o := 2) (c := 14) (k := 20) (t := 2 + 18) (n := 38) (xoP_o (show xoP 2 by unfold xoP; omega)).1 (xoP_o (show xoP 2 by unfold xoP; omega)).2 (by decide) (xoP_all (show xoP 2 by unfold xoP; omega) (Q := fun p => (p, 20, p + 18) ∈ xl_P) (by decide +kernel) (by decide +kernel) (by decide +kernel))) ?_
      refine xok_eqb (h.gi (o := 0) (c := 15) (k := 39) (n := 107) (by decide) rfl (by decide) (by decide)) ?_
      by_cases c192 : 0 ≤ (G (0) 39) ∧ (G (0) 39) < 25
      · skip
        rw [if_pos c192] at e
        refine xok_eqb (h.ai (o := 2 + 18) (n := 25) (xoP_all (show xoP 2 by unfold xoP; omega) (Q := fun p => p + 18 < 276) (by decide) (by decide) (by decide)) (xoP_all (show xoP 2 by unfold xoP; omega) (Q := fun p => xl_t (p + 18) = (2, 3, 25)) rfl rfl rfl) (by decide) c192.1 c192.2) ?_
        by_cases c193 : 0 ≤ (G (2 + 18) (G (0) 39).toNat) ∧ (G (2 + 18) (G (0) 39).toNat) < 8
        · skip
          rw [if_pos c193] at e
          refine xok_eqb (h.al (o := 110) (n := 8) (by decide) rfl  c193.1 c193.2) ?_
          exact s287_39 hI   h (h.ain (o := 2 + 16) (n := 25) (xoP_all (show xoP 2 by unfold xoP; omega) (Q := fun p => p + 16 < 276) (by decide) (by decide) (by decide)) (xoP_all (show xoP 2 by unfold xoP; omega) (Q := fun p => xl_t (p + 16) = (2, 3, 25)) rfl rfl rfl) (by decide) c190.1 c190.2) (h.aln (o := 110) (n := 8) (by decide) rfl  c193.1 c193.2) e
        · rw [if_neg c193] at e; cases e
      · rw [if_neg c192] at e; cases e
    · rw [if_neg c191] at e
      exact s287_39 hI   h (h.ain (o := 2 + 16) (n := 25) (xoP_all (show xoP 2 by unfold xoP; omega) (Q := fun p => p + 16 < 276) (by decide) (by decide) (by decide)) (xoP_all (show xoP 2 by unfold xoP; omega) (Q := fun p => xl_t (p + 16) = (2, 3, 25)) rfl rfl rfl) (by decide) c190.1 c190.2) (show xiN (1) by decide) e
  · rw [if_neg c190] at e; cases e
-- ChangeHouseModel.gives
theorem s289_55 {m f : Nat} {M0 M : xj_M} {G : xG_} (hI : xHI f)     (h : xRX m M0 M G)  {R : Int × xG_}  (e : g289_55   f  G = some R) : xok (f289_55   f  M) (fun r => r.1 = R.1 ∧ xRX m M0 r.2 R.2 ∧ xin R.1) := by
  unfold g289_55 at e
  unfold f289_55
  cases e
  exact ⟨_, rfl, rfl, h, (show xin (0) by decide)⟩
theorem s289_135 {m f : Nat} {M0 M : xj_M} {G : xG_} (hI : xHI f)     (h : xRX m M0 M G) {y0 : Int} {R : Int × xG_} (ty0 : xin y0) (e : g289_135   f y0 G = some R) : xok (f289_135   f y0 M) (fun r => r.1 = R.1 ∧ xRX m M0 r.2 R.2 ∧ xin R.1) := by
  unfold g289_135 at e
  unfold f289_135
  refine xok_ite (fun c101 => ?_) (fun c101 => ?_)
  · rw [if_pos c101] at e; cases e; exact ⟨_, rfl, rfl, h, ty0⟩
  · rw [if_neg c101] at e; cases e
theorem s289_60b {m f : Nat} {M0 M : xj_M} {G : xG_} (hI : xHI f)  {r60 : Int → Int → Int → Int → Int → xG_ → Option (Int × xG_)} {o60 : Nat → Int → Int → Int → Int → Int → xj_M → Option (Int × xj_M)}  (hr60 : ∀ {M : xj_M} {G : xG_} {x1 : Int} {x2 : Int} {x3 : Int} {x4 : Int} {x6 : Int} {R : Int × xG_}, xRX m M0 M G → xin x1 → xin x2 → xin x3 → xiN x4 → xin x6 → r60 x1 x2 x3 x4 x6 G = some R → xok (o60 m x1 x2 x3 x4 x6 M) (fun r => r.1 = R.1 ∧ xRX m M0 r.2 R.2 ∧ xin R.1)) (h : xRX m M0 M G) {x1 : Int} {x2 : Int} {x3 : Int} {x4 : Int} {x6 : Int} {R : Int × xG_} (tx1 : xin x1) (tx2 : xin x2) (tx3 : xin x3) (tx4 : xiN x4) (tx6 : xin x6) (e : g289_60b  r60 f x1 x2 x3 x4 x6 G = some R) : xok (f289_60b  o60 f m x1 x2 x3 x4 x6 M) (fun r => r.1 = R.1 ∧ xRX m M0 r.2 R.2 ∧ xin R.1) := by
  unfold g289_60b at e
  unfold f289_60b
  refine xok_ite (fun c102 => ?_) (fun c102 => ?_)
  · rw [if_pos c102] at e
    refine xok_eqb (h.pt (o := 0) (c := 15) (k := 44) (t := 112) (n := 107) (by decide) rfl (by decide) (by decide +kernel)) ?_
    refine xok_eqb (h.pt (o := 0) (c := 15) (k := 29) (t := 2) (n := 107) (by decide) rfl (by decide) (by decide +kernel)) ?_
    refine xok_eqb (h.pt (o := 2) (c := 14) (k := 19) (t := 2 + 17) (n := 38) (xoP_o (show xoP 2 by unfold xoP; omega)).1 (xoP_o (show xoP 2 by unfold xoP; omega)).2 (by decide) (xoP_all (show xoP 2 by unfold xoP; omega) (Q := fun p => (p, 19, p + 17) ∈ xl_P) (by decide +kernel) (by decide +kernel) (by decide +kernel))) ?_
    refine xok_eqb (h.gi (o := 0) (c := 15) (k := 39) (n := 107) (by decide) rfl (by decide) (by decide)) ?_
    by_cases c103 : 0 ≤ (G (0) 39) ∧ (G (0) 39) < 25
    · skip
      rw [if_pos c103] at e
      refine xok_eqb (h.ai (o := 2 + 17) (n := 25) (xoP_all (show xoP 2 by unfold xoP; omega) (Q := fun p => p + 17 < 276) (by decide) (by decide) (by decide)) (xoP_all (show xoP 2 by unfold xoP; omega) (Q := fun p => xl_t (p + 17) = (2, 3, 25)) rfl rfl rfl) (by decide) c103.1 c103.2) ?_
      by_cases c104 : 0 ≤ (G (2 + 17) (G (0) 39).toNat) ∧ (G (2 + 17) (G (0) 39).toNat) < 4
      · skip
        rw [if_pos c104] at e
        obtain ⟨M105, q106, h107⟩ := h.sl (o := 112) (n := 4) (v := x4) (by decide) rfl c104.1 c104.2 tx4
        refine xok_eqb q106 ?_
        obtain ⟨G108, g1, e⟩ := xbnd e
        cases g1
        have h107_ : xRX m M0 M105 (xup2 G (112) (G (2 + 17) (G (0) 39).toNat).toNat (x4)) := h107
        generalize hGG108 : (xup2 G (112) (G (2 + 17) (G (0) 39).toNat).toNat (x4)) = G108 at e h107
        clear h107_ hGG108
        refine xok_ite (fun c109 => ?_) (fun c109 => ?_)
        · rw [if_pos c109] at e
          refine xok_eqb (h107.pt (o := 0) (c := 15) (k := 29) (t := 2) (n := 107) (by decide) rfl (by decide) (by decide +kernel)) ?_
          refine xok_eqb (h107.pt (o := 2) (c := 14) (k := 15) (t := 2 + 13) (n := 38) (xoP_o (show xoP 2 by unfold xoP; omega)).1 (xoP_o (show xoP 2 by unfold xoP; omega)).2 (by decide) (xoP_all (show xoP 2 by unfold xoP; omega) (Q := fun p => (p, 15, p + 13) ∈ xl_P) (by decide +kernel) (by decide +kernel) (by decide +kernel))) ?_
          refine xok_eqb (h107.gi (o := 0) (c := 15) (k := 39) (n := 107) (by decide) rfl (by decide) (by decide)) ?_
          by_cases c110 : 0 ≤ (G108 (0) 39) ∧ (G108 (0) 39) < 25
          · skip
            rw [if_pos c110] at e
            refine xok_eqb (h107.ai (o := 2 + 13) (n := 25) (xoP_all (show xoP 2 by unfold xoP; omega) (Q := fun p => p + 13 < 276) (by decide) (by decide) (by decide)) (xoP_all (show xoP 2 by unfold xoP; omega) (Q := fun p => xl_t (p + 13) = (2, 3, 25)) rfl rfl rfl) (by decide) c110.1 c110.2) ?_
            obtain ⟨R111, e112, e⟩ := xbnd e
            refine xok_eqb (h107.is (o := 0) (c := 15) (by decide) rfl) ?_
            refine xok_call (sg284 hI  h107 (h107.ain (o := 2 + 13) (n := 25) (xoP_all (show xoP 2 by unfold xoP; omega) (Q := fun p => p + 13 < 276) (by decide) (by decide) (by decide)) (xoP_all (show xoP 2 by unfold xoP; omega) (Q := fun p => xl_t (p + 13) = (2, 3, 25)) rfl rfl rfl) (by decide) c110.1 c110.2) e112) ?_
            intro M115 h113
            cases e
            exact ⟨_, rfl, rfl, h113, (show xin (0) by decide)⟩
          · rw [if_neg c110] at e; cases e
        · rw [if_neg c109] at e
          refine xok_eqb (h107.pt (o := 0) (c := 15) (k := 44) (t := 112) (n := 107) (by decide) rfl (by decide) (by decide +kernel)) ?_
          refine xok_eqb (h107.pt (o := 0) (c := 15) (k := 51) (t := 118) (n := 107) (by decide) rfl (by decide) (by decide +kernel)) ?_
          obtain ⟨R116, e117, e⟩ := xbnd e
          refine xok_call (sg262 hI  h107 (show xoJ 112 from ⟨by decide, rfl⟩) (show xin (0) by decide) (show xoJ 118 from ⟨by decide, rfl⟩) (show xin (0) by decide) tx3 e117) ?_
          rintro ⟨v_, M120⟩ ⟨hv_, h118, hi119⟩
          cases hv_
          refine xok_ite (fun c121 => ?_) (fun c121 => ?_)
          · rw [if_pos c121] at e
            exact s289_135 hI   h118 (show xin (0) by decide) e
          · rw [if_neg c121] at e
            exact s289_135 hI   h118 (show xin (1) by decide) e
      · rw [if_neg c104] at e; cases e
    · rw [if_neg c103] at e; cases e
  · rw [if_neg c102] at e
    refine xok_eqb (h.pt (o := 0) (c := 15) (k := 44) (t := 112) (n := 107) (by decide) rfl (by decide) (by decide +kernel)) ?_
    refine xok_eqb (h.pt (o := 0) (c := 15) (k := 55) (t := 119) (n := 107) (by decide) rfl (by decide) (by decide +kernel)) ?_
    by_cases c122 : 0 ≤ (xwr ((xwr ((4) * (x1))) + (x6))) ∧ (xwr ((xwr ((4) * (x1))) + (x6))) < 4100
    · skip
      rw [if_pos c122] at e
      refine xok_eqb (h.al (o := 119) (n := 4100) (by decide) rfl  c122.1 c122.2) ?_
      by_cases c123 : 0 ≤ (x6) ∧ (x6) < 4
      · skip
        rw [if_pos c123] at e
        obtain ⟨M124, q125, h126⟩ := h.sl (o := 112) (n := 4) (v := G (119) (xwr ((xwr ((4) * (x1))) + (x6))).toNat) (by decide) rfl c123.1 c123.2 (h.aln (o := 119) (n := 4100) (by decide) rfl  c122.1 c122.2)
        refine xok_eqb q125 ?_
        obtain ⟨G127, g1, e⟩ := xbnd e
        cases g1
        have h126_ : xRX m M0 M124 (xup2 G (112) (x6).toNat (G (119) (xwr ((xwr ((4) * (x1))) + (x6))).toNat)) := h126
        generalize hGG127 : (xup2 G (112) (x6).toNat (G (119) (xwr ((xwr ((4) * (x1))) + (x6))).toNat)) = G127 at e h126
        clear h126_ hGG127
        exact hr60 h126 tx1 tx2 tx3 tx4 (xin_wr _) e
      · rw [if_neg c123] at e; cases e
    · rw [if_neg c122] at e; cases e
theorem s289_60 {m f : Nat} {M0 : xj_M} (hI : xHI f)     : ∀ {n : Nat} {M : xj_M} {G : xG_} {x1 : Int} {x2 : Int} {x3 : Int} {x4 : Int} {x6 : Int} {R : Int × xG_}, xRX m M0 M G → xin x1 → xin x2 → xin x3 → xiN x4 → xin x6 → g289_60   f n x1 x2 x3 x4 x6 G = some R → xok (f289_60   f n m x1 x2 x3 x4 x6 M) (fun r => r.1 = R.1 ∧ xRX m M0 r.2 R.2 ∧ xin R.1) := by
  intro n
  induction n with
  | zero => intros; rename_i e; cases e
  | succ n ih =>
    intros
    rename_i h i0 i1 i2 i3 i4 e
    exact s289_60b hI   ih h i0 i1 i2 i3 i4 e
theorem s289_57 {m f : Nat} {M0 M : xj_M} {G : xG_} (hI : xHI f)     (h : xRX m M0 M G) {x1 : Int} {x2 : Int} {x3 : Int} {x4 : Int} {R : Int × xG_} (tx1 : xin x1) (tx2 : xin x2) (tx3 : xin x3) (tx4 : xiN x4) (e : g289_57   f x1 x2 x3 x4 G = some R) : xok (f289_57   f m x1 x2 x3 x4 M) (fun r => r.1 = R.1 ∧ xRX m M0 r.2 R.2 ∧ xin R.1) := by
  unfold g289_57 at e
  unfold f289_57
  exact s289_60 hI   h tx1 tx2 tx3 tx4 (show xin (0) by decide) e
theorem sg289 {m f : Nat} {M0 M : xj_M} {G : xG_} (hI : xHI f)   (h : xRX m M0 M G) {a1 : Int} {a2 : Int} {R : Int × xG_} (ta1 : xin a1) (ta2 : xin a2) (e : g289  f a1 a2 G = some R) : xok (f289  f m a1 a2 M) (fun r => r.1 = R.1 ∧ xRX m M0 r.2 R.2 ∧ xin R.1) := by
  unfold g289 at e
  unfold f289
  refine xok_eqb (h.pt (o := 0) (c := 15) (k := 29) (t := 2) (n := 107) (by decide) rfl (by decide) (by decide +kernel)) ?_
  refine xok_eqb (h.pt (o := 2) (c := 14) (k := 17) (t := 2 + 15) (n := 38) (xoP_o (show xoP 2 by unfold xoP; omega)).1 (xoP_o (show xoP 2 by unfold xoP; omega)).2 (by decide) (xoP_all (show xoP 2 by unfold xoP; omega) (Q := fun p => (p, 17, p + 15) ∈ xl_P) (by decide +kernel) (by decide +kernel) (by decide +kernel))) ?_
  refine xok_eqb (h.gi (o := 0) (c := 15) (k := 39) (n := 107) (by decide) rfl (by decide) (by decide)) ?_
  by_cases c128 : 0 ≤ (G (0) 39) ∧ (G (0) 39) < 25
  · skip
    rw [if_pos c128] at e
    refine xok_eqb (h.ai (o := 2 + 15) (n := 25) (xoP_all (show xoP 2 by unfold xoP; omega) (Q := fun p => p + 15 < 276) (by decide) (by decide) (by decide)) (xoP_all (show xoP 2 by unfold xoP; omega) (Q := fun p => xl_t (p + 15) = (2, 3, 25)) rfl rfl rfl) (by decide) c128.1 c128.2) ?_
    refine xok_eqb (h.pt (o := 0) (c := 15) (k := 56) (t := 120) (n := 107) (by decide) rfl (by decide) (by decide +kernel)) ?_
    by_cases c129 : 0 ≤ (a1) ∧ (a1) < 1025
    · skip
      rw [if_pos c129] at e
      refine xok_eqb (h.al (o := 120) (n := 1025) (by decide) rfl  c129.1 c129.2) ?_
      refine xok_eqb (h.pt (o := 0) (c := 15) (k := 29) (t := 2) (n := 107) (by decide) rfl (by decide) (by decide +kernel)) ?_
      refine xok_eqb (h.pt (o := 2) (c := 14) (k := 18) (t := 2 + 16) (n := 38) (xoP_o (show xoP 2 by unfold xoP; omega)).1 (xoP_o (show xoP 2 by unfold xoP; omega)).2 (by decide) (xoP_all (show xoP 2 by unfold xoP; omega) (Q := fun p => (p, 18, p + 16) ∈ xl_P) (by decide +kernel) (by decide +kernel) (by decide +kernel))) ?_
      refine xok_eqb (h.gi (o := 0) (c := 15) (k := 39) (n := 107) (by decide) rfl (by decide) (by decide)) ?_
      by_cases c130 : 0 ≤ (G (0) 39) ∧ (G (0) 39) < 25
      · skip
        rw [if_pos c130] at e
        refine xok_eqb (h.ai (o := 2 + 16) (n := 25) (xoP_all (show xoP 2 by unfold xoP; omega) (Q := fun p => p + 16 < 276) (by decide) (by decide) (by decide)) (xoP_all (show xoP 2 by unfold xoP; omega) (Q := fun p => xl_t (p + 16) = (2, 3, 25)) rfl rfl rfl) (by decide) c130.1 c130.2) ?_
        refine xok_ite (fun c131 => ?_) (fun c131 => ?_)
        · rw [if_pos c131] at e
          exact s289_57 hI   h ta1 ta2 (h.ain (o := 2 + 15) (n := 25) (xoP_all (show xoP 2 by unfold xoP; omega) (Q := fun p => p + 15 < 276) (by decide) (by decide) (by decide)) (xoP_all (show xoP 2 by unfold xoP; omega) (Q := fun p => xl_t (p + 15) = (2, 3, 25)) rfl rfl rfl) (by decide) c128.1 c128.2) (h.aln (o := 120) (n := 1025) (by decide) rfl  c129.1 c129.2) e
        · rw [if_neg c131] at e
          refine xok_ite (fun c132 => ?_) (fun c132 => ?_)
          · rw [if_pos c132] at e
            exact s289_55 hI   h  e
          · rw [if_neg c132] at e
            refine xok_ite (fun c133 => ?_) (fun c133 => ?_)
            · rw [if_pos c133] at e
              exact s289_57 hI   h ta1 ta2 (h.ain (o := 2 + 15) (n := 25) (xoP_all (show xoP 2 by unfold xoP; omega) (Q := fun p => p + 15 < 276) (by decide) (by decide) (by decide)) (xoP_all (show xoP 2 by unfold xoP; omega) (Q := fun p => xl_t (p + 15) = (2, 3, 25)) rfl rfl rfl) (by decide) c128.1 c128.2) (h.aln (o := 120) (n := 1025) (by decide) rfl  c129.1 c129.2) e
            · rw [if_neg c133] at e
              exact s289_55 hI   h  e
      · rw [if_neg c130] at e; cases e
    · rw [if_neg c129] at e; cases e
  · rw [if_neg c128] at e; cases e
-- ChangeHouseModel.readsOf
theorem s292_56 {m f : Nat} {M0 M : xj_M} {G : xG_} (hI : xHI f)  {r7 : Int → Int → Int → Int → xG_ → Option (Int × xG_)} {o7 : Nat → Int → Int → Int → Int → xj_M → Option (Int × xj_M)}  (hr7 : ∀ {M : xj_M} {G : xG_} {x1 : Int} {x2 : Int} {x3 : Int} {x4 : Int} {R : Int × xG_}, xRX m M0 M G → xin x1 → xin x2 → xin x3 → xin x4 → r7 x1 x2 x3 x4 G = some R → xok (o7 m x1 x2 x3 x4 M) (fun r => r.1 = R.1 ∧ xRX m M0 r.2 R.2 ∧ xin R.1)) (h : xRX m M0 M G) {x1 : Int} {x2 : Int} {x3 : Int} {x4 : Int} {R : Int × xG_} (tx1 : xin x1) (tx2 : xin x2) (tx3 : xin x3) (tx4 : xin x4) (e : g292_56  r7 f x1 x2 x3 x4 G = some R) : xok (f292_56  o7 f m x1 x2 x3 x4 M) (fun r => r.1 = R.1 ∧ xRX m M0 r.2 R.2 ∧ xin R.1) := by
  unfold g292_56 at e
  unfold f292_56
  exact hr7 h tx1 tx2 tx3 (xin_wr _) e
theorem s292_7b {m f : Nat} {M0 M : xj_M} {G : xG_} (hI : xHI f)  {r7 : Int → Int → Int → Int → xG_ → Option (Int × xG_)} {o7 : Nat → Int → Int → Int → Int → xj_M → Option (Int × xj_M)}  (hr7 : ∀ {M : xj_M} {G : xG_} {x1 : Int} {x2 : Int} {x3 : Int} {x4 : Int} {R : Int × xG_}, xRX m M0 M G → xin x1 → xin x2 → xin x3 → xin x4 → r7 x1 x2 x3 x4 G = some R → xok (o7 m x1 x2 x3 x4 M) (fun r => r.1 = R.1 ∧ xRX m M0 r.2 R.2 ∧ xin R.1)) (h : xRX m M0 M G) {x1 : Int} {x2 : Int} {x3 : Int} {x4 : Int} {R : Int × xG_} (tx1 : xin x1) (tx2 : xin x2) (tx3 : xin x3) (tx4 : xin x4) (e : g292_7b  r7 f x1 x2 x3 x4 G = some R) : xok (f292_7b  o7 f m x1 x2 x3 x4 M) (fun r => r.1 = R.1 ∧ xRX m M0 r.2 R.2 ∧ xin R.1) := by
  unfold g292_7b at e
  unfold f292_7b
  refine xok_eqb (h.pt (o := 0) (c := 15) (k := 29) (t := 2) (n := 107) (by decide) rfl (by decide) (by decide +kernel)) ?_
  refine xok_eqb (h.gi (o := 2) (c := 14) (k := 8) (n := 38) (xoP_o (show xoP 2 by unfold xoP; omega)).1 (xoP_o (show xoP 2 by unfold xoP; omega)).2 (by decide) (by decide)) ?_
  refine xok_ite (fun c101 => ?_) (fun c101 => ?_)
  · rw [if_pos c101] at e
    cases e
    exact ⟨_, rfl, rfl, h, (xin_of _)⟩
  · rw [if_neg c101] at e
    refine xok_eqb (h.pt (o := 0) (c := 15) (k := 29) (t := 2) (n := 107) (by decide) rfl (by decide) (by decide +kernel)) ?_
    refine xok_eqb (h.pt (o := 2) (c := 14) (k := 4) (t := 2 + 5) (n := 38) (xoP_o (show xoP 2 by unfold xoP; omega)).1 (xoP_o (show xoP 2 by unfold xoP; omega)).2 (by decide) (xoP_all (show xoP 2 by unfold xoP; omega) (Q := fun p => (p, 4, p + 5) ∈ xl_P) (by decide +kernel) (by decide +kernel) (by decide +kernel))) ?_
    by_cases c102 : 0 ≤ (x4) ∧ (x4) < 16
    · skip
      rw [if_pos c102] at e
      refine xok_eqb (h.ai (o := 2 + 5) (n := 16) (xoP_all (show xoP 2 by unfold xoP; omega) (Q := fun p => p + 5 < 276) (by decide) (by decide) (by decide)) (xoP_all (show xoP 2 by unfold xoP; omega) (Q := fun p => xl_t (p + 5) = (2, 3, 16)) rfl rfl rfl) (by decide) c102.1 c102.2) ?_
      refine xok_ite (fun c103 => ?_) (fun c103 => ?_)
      · rw [if_pos c103] at e
        refine xok_eqb (h.pt (o := 0) (c := 15) (k := 29) (t := 2) (n := 107) (by decide) rfl (by decide) (by decide +kernel)) ?_
        refine xok_eqb (h.pt (o := 2) (c := 14) (k := 3) (t := 2 + 4) (n := 38) (xoP_o (show xoP 2 by unfold xoP; omega)).1 (xoP_o (show xoP 2 by unfold xoP; omega)).2 (by decide) (xoP_all (show xoP 2 by unfold xoP; omega) (Q := fun p => (p, 3, p + 4) ∈ xl_P) (by decide +kernel) (by decide +kernel) (by decide +kernel))) ?_
        by_cases c104 : 0 ≤ (x4) ∧ (x4) < 16
        · skip
          rw [if_pos c104] at e
          refine xok_eqb (h.ai (o := 2 + 4) (n := 16) (xoP_all (show xoP 2 by unfold xoP; omega) (Q := fun p => p + 4 < 276) (by decide) (by decide) (by decide)) (xoP_all (show xoP 2 by unfold xoP; omega) (Q := fun p => xl_t (p + 4) = (2, 3, 16)) rfl rfl rfl) (by decide) c104.1 c104.2) ?_
          exact s292_56 hI  hr7 h tx1 (xin_of _) (xin_of _) tx4 e
        · rw [if_neg c104] at e; cases e
      · rw [if_neg c103] at e
        exact s292_56 hI  hr7 h tx1 tx2 tx3 tx4 e
    · rw [if_neg c102] at e; cases e
theorem s292_7 {m f : Nat} {M0 : xj_M} (hI : xHI f)     : ∀ {n : Nat} {M : xj_M} {G : xG_} {x1 : Int} {x2 : Int} {x3 : Int} {x4 : Int} {R : Int × xG_}, xRX m M0 M G → xin x1 → xin x2 → xin x3 → xin x4 → g292_7   f n x1 x2 x3 x4 G = some R → xok (f292_7   f n m x1 x2 x3 x4 M) (fun r => r.1 = R.1 ∧ xRX m M0 r.2 R.2 ∧ xin R.1) := by
  intro n
  induction n with
  | zero => intros; rename_i e; cases e
  | succ n ih =>
    intros
    rename_i h i0 i1 i2 i3 e
    exact s292_7b hI   ih h i0 i1 i2 i3 e
theorem sg292 {m f : Nat} {M0 M : xj_M} {G : xG_} (hI : xHI f)   (h : xRX m M0 M G) {a1 : Int} {R : Int × xG_} (ta1 : xin a1) (e : g292  f a1 G = some R) : xok (f292  f m a1 M) (fun r => r.1 = R.1 ∧ xRX m M0 r.2 R.2 ∧ xin R.1) := by
  unfold g292 at e
  unfold f292
  exact s292_7 hI   h ta1 (show xin (0) by decide) (show xin (0) by decide) (show xin (0) by decide) e
-- ChangeHouseModel.keep
theorem s294_25b {m f : Nat} {M0 M : xj_M} {G : xG_} (hI : xHI f)  {r25 : Int → Int → xG_ → Option (Int × xG_)} {o25 : Nat → Int → Int → xj_M → Option (Int × xj_M)}  (hr25 : ∀ {M : xj_M} {G : xG_} {x1 : Int} {x2 : Int} {R : Int × xG_}, xRX m M0 M G → xin x1 → xin x2 → r25 x1 x2 G = some R → xok (o25 m x1 x2 M) (fun r => r.1 = R.1 ∧ xRX m M0 r.2 R.2 ∧ xin R.1)) (h : xRX m M0 M G) {x1 : Int} {x2 : Int} {R : Int × xG_} (tx1 : xin x1) (tx2 : xin x2) (e : g294_25b  r25 f x1 x2 G = some R) : xok (f294_25b  o25 f m x1 x2 M) (fun r => r.1 = R.1 ∧ xRX m M0 r.2 R.2 ∧ xin R.1) := by
  unfold g294_25b at e
  unfold f294_25b
  refine xok_ite (fun c101 => ?_) (fun c101 => ?_)
  · rw [if_pos c101] at e
    refine xok_eqb (h.gi (o := 0) (c := 15) (k := 72) (n := 107) (by decide) rfl (by decide) (by decide)) ?_
    obtain ⟨M102, q103, h104⟩ := h.pi (v := xwr ((G (0) 72) + (x1))) (o := 0) (c := 15) (k := 72) (n := 107) (by decide) rfl (by decide) (by decide) (xin_wr _)
    refine xok_eqb q103 ?_
    obtain ⟨G105, g1, e⟩ := xbnd e
    cases g1
    have h104_ : xRX m M0 M102 (xup2 G (0) 72 (xwr ((G (0) 72) + (x1)))) := h104
    generalize hGG105 : (xup2 G (0) 72 (xwr ((G (0) 72) + (x1)))) = G105 at e h104
    clear h104_ hGG105
    refine xok_eqb (h104.gi (o := 0) (c := 15) (k := 71) (n := 107) (by decide) rfl (by decide) (by decide)) ?_
    obtain ⟨M106, q107, h108⟩ := h104.pi (v := xwr ((G105 (0) 71) + (1))) (o := 0) (c := 15) (k := 71) (n := 107) (by decide) rfl (by decide) (by decide) (xin_wr _)
    refine xok_eqb q107 ?_
    obtain ⟨G109, g1, e⟩ := xbnd e
    cases g1
    have h108_ : xRX m M0 M106 (xup2 G105 (0) 71 (xwr ((G105 (0) 71) + (1)))) := h108
    generalize hGG109 : (xup2 G105 (0) 71 (xwr ((G105 (0) 71) + (1)))) = G109 at e h108
    clear h108_ hGG109
    refine xok_eqb (h108.gi (o := 0) (c := 15) (k := 71) (n := 107) (by decide) rfl (by decide) (by decide)) ?_
    cases e
    exact ⟨_, rfl, rfl, h108, (xin_wr _)⟩
  · rw [if_neg c101] at e
    refine xok_eqb (h.pt (o := 0) (c := 15) (k := 67) (t := 239) (n := 107) (by decide) rfl (by decide) (by decide +kernel)) ?_
    refine xok_eqb (h.gi (o := 0) (c := 15) (k := 72) (n := 107) (by decide) rfl (by decide) (by decide)) ?_
    refine xok_eqb (h.pt (o := 0) (c := 15) (k := 68) (t := 240) (n := 107) (by decide) rfl (by decide) (by decide +kernel)) ?_
    by_cases c110 : 0 ≤ (x2) ∧ (x2) < 3000
    · skip
      rw [if_pos c110] at e
      refine xok_eqb (h.ab (o := 240) (n := 3000) (by decide) rfl (by decide) c110.1 c110.2) ?_
      by_cases c111 : 0 ≤ (xwr ((G (0) 72) + (x2))) ∧ (xwr ((G (0) 72) + (x2))) < 90000
      · skip
        rw [if_pos c111] at e
        obtain ⟨M112, q113, h114⟩ := h.sb1 (o := 239) (n := 90000) (v := G (240) (x2).toNat) (by decide) rfl c111.1 c111.2
        refine xok_eqb q113 ?_
        obtain ⟨G115, g1, e⟩ := xbnd e
        cases g1
        have h114_ : xRX m M0 M112 (xup2 G (239) (xwr ((G (0) 72) + (x2))).toNat (xnar .byte (G (240) (x2).toNat))) := h114
        generalize hGG115 : (xup2 G (239) (xwr ((G (0) 72) + (x2))).toNat (xnar .byte (G (240) (x2).toNat))) = G115 at e h114
        clear h114_ hGG115
        exact hr25 h114 tx1 (xin_wr _) e
      · rw [if_neg c111] at e; cases e
    · rw [if_neg c110] at e; cases e
theorem s294_25 {m f : Nat} {M0 : xj_M} (hI : xHI f)     : ∀ {n : Nat} {M : xj_M} {G : xG_} {x1 : Int} {x2 : Int} {R : Int × xG_}, xRX m M0 M G → xin x1 → xin x2 → g294_25   f n x1 x2 G = some R → xok (f294_25   f n m x1 x2 M) (fun r => r.1 = R.1 ∧ xRX m M0 r.2 R.2 ∧ xin R.1) := by
  intro n
  induction n with
  | zero => intros; rename_i e; cases e
  | succ n ih =>
    intros
    rename_i h i0 i1 e
    exact s294_25b hI   ih h i0 i1 e
theorem sg294 {m f : Nat} {M0 M : xj_M} {G : xG_} (hI : xHI f)   (h : xRX m M0 M G) {a1 : Int} {R : Int × xG_} (ta1 : xin a1) (e : g294  f a1 G = some R) : xok (f294  f m a1 M) (fun r => r.1 = R.1 ∧ xRX m M0 r.2 R.2 ∧ xin R.1) := by
  unfold g294 at e
  unfold f294
  refine xok_eqb (h.pt (o := 0) (c := 15) (k := 69) (t := 241) (n := 107) (by decide) rfl (by decide) (by decide +kernel)) ?_
  refine xok_eqb (h.gi (o := 0) (c := 15) (k := 71) (n := 107) (by decide) rfl (by decide) (by decide)) ?_
  refine xok_eqb (h.gi (o := 0) (c := 15) (k := 72) (n := 107) (by decide) rfl (by decide) (by decide)) ?_
  by_cases c116 : 0 ≤ (G (0) 71) ∧ (G (0) 71) < 4200
  · skip
    rw [if_pos c116] at e
    obtain ⟨M117, q118, h119⟩ := h.si (o := 241) (n := 4200) (v := G (0) 72) (by decide) rfl c116.1 c116.2 (h.gin (o := 0) (c := 15) (k := 72) (n := 107) (by decide) rfl (by decide) (by decide))
    refine xok_eqb q118 ?_
    obtain ⟨G120, g1, e⟩ := xbnd e
    cases g1
    have h119_ : xRX m M0 M117 (xup2 G (241) (G (0) 71).toNat (G (0) 72)) := h119
    generalize hGG120 : (xup2 G (241) (G (0) 71).toNat (G (0) 72)) = G120 at e h119
    clear h119_ hGG120
    refine xok_eqb (h119.pt (o := 0) (c := 15) (k := 70) (t := 242) (n := 107) (by decide) rfl (by decide) (by decide +kernel)) ?_
    refine xok_eqb (h119.gi (o := 0) (c := 15) (k := 71) (n := 107) (by decide) rfl (by decide) (by decide)) ?_
    by_cases c121 : 0 ≤ (G120 (0) 71) ∧ (G120 (0) 71) < 4200
    · skip
      rw [if_pos c121] at e
      obtain ⟨M122, q123, h124⟩ := h119.si (o := 242) (n := 4200) (v := a1) (by decide) rfl c121.1 c121.2 ta1
      refine xok_eqb q123 ?_
      obtain ⟨G125, g1, e⟩ := xbnd e
      cases g1
      have h124_ : xRX m M0 M122 (xup2 G120 (242) (G120 (0) 71).toNat (a1)) := h124
      generalize hGG125 : (xup2 G120 (242) (G120 (0) 71).toNat (a1)) = G125 at e h124
      clear h124_ hGG125
      exact s294_25 hI   h124 ta1 (show xin (0) by decide) e
    · rw [if_neg c121] at e; cases e
  · rw [if_neg c116] at e; cases e
-- ChangeHouseModel.fillInputs
theorem s297_93 {m f : Nat} {M0 M : xj_M} {G : xG_} (hI : xHI f)  {r23 : Nat → Int → xG_ → Option (xG_)} {o23 : Nat → Nat → Int → xj_M → Option (xj_M)}  (hr23 : ∀ {M : xj_M} {G : xG_} {x1 : Nat} {x2 : Int} {R : xG_}, xRX m M0 M G → xoF x1 → xin x2 → r23 x1 x2 G = some R → xok (o23 m (m + x1) x2 M) (fun r => xRX m M0 r R)) (h : xRX m M0 M G) {x1 : Nat} {x2 : Int} {R : xG_} (tx1 : xoF x1) (tx2 : xin x2) (e : g297_93  r23 f x1 x2 G = some R) : xok (f297_93  o23 f m (m + x1) x2 M) (fun r => xRX m M0 r R) := by
  unfold g297_93 at e
  unfold f297_93
  exact hr23 h tx1 (xin_wr _) e
theorem s297_23b {m f : Nat} {M0 M : xj_M} {G : xG_} (hI : xHI f)  {r23 : Nat → Int → xG_ → Option (xG_)} {o23 : Nat → Nat → Int → xj_M → Option (xj_M)}  (hr23 : ∀ {M : xj_M} {G : xG_} {x1 : Nat} {x2 : Int} {R : xG_}, xRX m M0 M G → xoF x1 → xin x2 → r23 x1 x2 G = some R → xok (o23 m (m + x1) x2 M) (fun r => xRX m M0 r R)) (h : xRX m M0 M G) {x1 : Nat} {x2 : Int} {R : xG_} (tx1 : xoF x1) (tx2 : xin x2) (e : g297_23b  r23 f x1 x2 G = some R) : xok (f297_23b  o23 f m (m + x1) x2 M) (fun r => xRX m M0 r R) := by
  unfold g297_23b at e
  unfold f297_23b
  refine xok_eqb (h.gi (o := x1) (c := 12) (k := 3) (n := 4) (xoF_o tx1).1 (xoF_o tx1).2 (by decide) (by decide)) ?_
  refine xok_ite (fun c101 => ?_) (fun c101 => ?_)
  · rw [if_pos c101] at e
    cases e
    exact ⟨_, rfl, h⟩
  · rw [if_neg c101] at e
    refine xok_eqb (h.pt (o := 0) (c := 15) (k := 29) (t := 2) (n := 107) (by decide) rfl (by decide) (by decide +kernel)) ?_
    refine xok_eqb (h.pt (o := x1) (c := 12) (k := 0) (t := x1 + 1) (n := 4) (xoF_o tx1).1 (xoF_o tx1).2 (by decide) (xoF_all tx1 (Q := fun p => (p, 0, p + 1) ∈ xl_P) (by decide +kernel) (by decide +kernel) (by decide +kernel) (by decide +kernel) (by decide +kernel) (by decide +kernel) (by decide +kernel))) ?_
    by_cases c102 : 0 ≤ (x2) ∧ (x2) < 3400
    · skip
      rw [if_pos c102] at e
      refine xok_eqb (h.al (o := x1 + 1) (n := 3400) (xoF_all tx1 (Q := fun p => p + 1 < 276) (by decide) (by decide) (by decide) (by decide) (by decide) (by decide) (by decide)) (xoF_all tx1 (Q := fun p => xl_t (p + 1) = (2, 4, 3400)) rfl rfl rfl rfl rfl rfl rfl)  c102.1 c102.2) ?_
      obtain ⟨R103, e104, e⟩ := xbnd e
      refine xok_eqb (h.is (o := 2) (c := 14) (xoP_o (show xoP 2 by unfold xoP; omega)).1 (xoP_o (show xoP 2 by unfold xoP; omega)).2) ?_
      refine xok_call (sg205 hI  h (show xoP 2 by unfold xoP; omega) (h.aln (o := x1 + 1) (n := 3400) (xoF_all tx1 (Q := fun p => p + 1 < 276) (by decide) (by decide) (by decide) (by decide) (by decide) (by decide) (by decide)) (xoF_all tx1 (Q := fun p => xl_t (p + 1) = (2, 4, 3400)) rfl rfl rfl rfl rfl rfl rfl)  c102.1 c102.2) e104) ?_
      rintro ⟨v_, M107⟩ ⟨hv_, h105, hi106⟩
      cases hv_
      refine xok_ite (fun c108 => ?_) (fun c108 => ?_)
      · rw [if_pos c108] at e
        exact s297_93 hI  hr23 h105 tx1 tx2 e
      · rw [if_neg c108] at e
        refine xok_eqb (h105.pt (o := 0) (c := 15) (k := 29) (t := 2) (n := 107) (by decide) rfl (by decide) (by decide +kernel)) ?_
        refine xok_eqb (h105.pt (o := 2) (c := 14) (k := 5) (t := 2 + 6) (n := 38) (xoP_o (show xoP 2 by unfold xoP; omega)).1 (xoP_o (show xoP 2 by unfold xoP; omega)).2 (by decide) (xoP_all (show xoP 2 by unfold xoP; omega) (Q := fun p => (p, 5, p + 6) ∈ xl_P) (by decide +kernel) (by decide +kernel) (by decide +kernel))) ?_
        by_cases c109 : 0 ≤ (R103.1) ∧ (R103.1) < 16
        · skip
          rw [if_pos c109] at e
          refine xok_eqb (h105.ab (o := 2 + 6) (n := 16) (xoP_all (show xoP 2 by unfold xoP; omega) (Q := fun p => p + 6 < 276) (by decide) (by decide) (by decide)) (xoP_all (show xoP 2 by unfold xoP; omega) (Q := fun p => xl_t (p + 6) = (2, 0, 16)) rfl rfl rfl) (by decide) c109.1 c109.2) ?_
          refine xok_ite (fun c110 => ?_) (fun c110 => ?_)
          · rw [if_pos c110] at e
            exact s297_93 hI  hr23 h105 tx1 tx2 e
          · rw [if_neg c110] at e
            refine xok_eqb (h105.pt (o := 0) (c := 15) (k := 29) (t := 2) (n := 107) (by decide) rfl (by decide) (by decide +kernel)) ?_
            refine xok_eqb (h105.pt (o := 2) (c := 14) (k := 1) (t := 2 + 2) (n := 38) (xoP_o (show xoP 2 by unfold xoP; omega)).1 (xoP_o (show xoP 2 by unfold xoP; omega)).2 (by decide) (xoP_all (show xoP 2 by unfold xoP; omega) (Q := fun p => (p, 1, p + 2) ∈ xl_P) (by decide +kernel) (by decide +kernel) (by decide +kernel))) ?_
            by_cases c111 : 0 ≤ (R103.1) ∧ (R103.1) < 16
            · skip
              rw [if_pos c111] at e
              refine xok_eqb (h105.ai (o := 2 + 2) (n := 16) (xoP_all (show xoP 2 by unfold xoP; omega) (Q := fun p => p + 2 < 276) (by decide) (by decide) (by decide)) (xoP_all (show xoP 2 by unfold xoP; omega) (Q := fun p => xl_t (p + 2) = (2, 3, 16)) rfl rfl rfl) (by decide) c111.1 c111.2) ?_
              refine xok_eqb (h105.pt (o := x1) (c := 12) (k := 2) (t := x1 + 3) (n := 4) (xoF_o tx1).1 (xoF_o tx1).2 (by decide) (xoF_all tx1 (Q := fun p => (p, 2, p + 3) ∈ xl_P) (by decide +kernel) (by decide +kernel) (by decide +kernel) (by decide +kernel) (by decide +kernel) (by decide +kernel) (by decide +kernel))) ?_
              by_cases c112 : 0 ≤ (x2) ∧ (x2) < 3400
              · skip
                rw [if_pos c112] at e
                refine xok_eqb (h105.ai (o := x1 + 3) (n := 3400) (xoF_all tx1 (Q := fun p => p + 3 < 276) (by decide) (by decide) (by decide) (by decide) (by decide) (by decide) (by decide)) (xoF_all tx1 (Q := fun p => xl_t (p + 3) = (2, 3, 3400)) rfl rfl rfl rfl rfl rfl rfl) (by decide) c112.1 c112.2) ?_
                refine xok_ite (fun c113 => ?_) (fun c113 => ?_)
                · rw [if_pos c113] at e
                  exact s297_93 hI  hr23 h105 tx1 tx2 e
                · rw [if_neg c113] at e
                  refine xok_eqb (h105.pt (o := x1) (c := 12) (k := 1) (t := x1 + 2) (n := 4) (xoF_o tx1).1 (xoF_o tx1).2 (by decide) (xoF_all tx1 (Q := fun p => (p, 1, p + 2) ∈ xl_P) (by decide +kernel) (by decide +kernel) (by decide +kernel) (by decide +kernel) (by decide +kernel) (by decide +kernel) (by decide +kernel))) ?_
                  obtain ⟨R114, e115, e⟩ := xbnd e
                  refine xok_eqb (h105.is (o := 0) (c := 15) (by decide) rfl) ?_
                  refine xok_call (sg264 hI  h105 hi106 (xoF_all tx1 (Q := fun p => xoJ (p + 2)) ⟨by decide, rfl⟩ ⟨by decide, rfl⟩ ⟨by decide, rfl⟩ ⟨by decide, rfl⟩ ⟨by decide, rfl⟩ ⟨by decide, rfl⟩ ⟨by decide, rfl⟩) (xin_wr _) (show xin (0) by decide) e115) ?_
                  intro M118 h116
                  exact s297_93 hI  hr23 h116 tx1 tx2 e
              · rw [if_neg c112] at e; cases e
            · rw [if_neg c111] at e; cases e
        · rw [if_neg c109] at e; cases e
    · rw [if_neg c102] at e; cases e
theorem s297_23 {m f : Nat} {M0 : xj_M} (hI : xHI f)     : ∀ {n : Nat} {M : xj_M} {G : xG_} {x1 : Nat} {x2 : Int} {R : xG_}, xRX m M0 M G → xoF x1 → xin x2 → g297_23   f n x1 x2 G = some R → xok (f297_23   f n m (m + x1) x2 M) (fun r => xRX m M0 r R) := by
  intro n
  induction n with
  | zero => intros; rename_i e; cases e
  | succ n ih =>
    intros
    rename_i h i0 i1 e
    exact s297_23b hI   ih h i0 i1 e
theorem s297_2b {m f : Nat} {M0 M : xj_M} {G : xG_} (hI : xHI f)  {r2 : Nat → Int → xG_ → Option (xG_)} {o2 : Nat → Nat → Int → xj_M → Option (xj_M)}  (hr2 : ∀ {M : xj_M} {G : xG_} {x1 : Nat} {x2 : Int} {R : xG_}, xRX m M0 M G → xoF x1 → xin x2 → r2 x1 x2 G = some R → xok (o2 m (m + x1) x2 M) (fun r => xRX m M0 r R)) (h : xRX m M0 M G) {x1 : Nat} {x2 : Int} {R : xG_} (tx1 : xoF x1) (tx2 : xin x2) (e : g297_2b  r2 f x1 x2 G = some R) : xok (f297_2b  o2 f m (m + x1) x2 M) (fun r => xRX m M0 r R) := by
  unfold g297_2b at e
  unfold f297_2b
  refine xok_ite (fun c119 => ?_) (fun c119 => ?_)
  · rw [if_pos c119] at e
    exact s297_23 hI   h tx1 (show xin (0) by decide) e
  · rw [if_neg c119] at e
    refine xok_eqb (h.pt (o := 0) (c := 15) (k := 33) (t := 108) (n := 107) (by decide) rfl (by decide) (by decide +kernel)) ?_
    by_cases c120 : 0 ≤ (x2) ∧ (x2) < 16
    · skip
      rw [if_pos c120] at e
      obtain ⟨M121, q122, h123⟩ := h.si (o := 108) (n := 16) (v := 0) (by decide) rfl c120.1 c120.2 (show xin (0) by decide)
      refine xok_eqb q122 ?_
      obtain ⟨G124, g1, e⟩ := xbnd e
      cases g1
      have h123_ : xRX m M0 M121 (xup2 G (108) (x2).toNat (0)) := h123
      generalize hGG124 : (xup2 G (108) (x2).toNat (0)) = G124 at e h123
      clear h123_ hGG124
      exact hr2 h123 tx1 (xin_wr _) e
    · rw [if_neg c120] at e; cases e
theorem s297_2 {m f : Nat} {M0 : xj_M} (hI : xHI f)     : ∀ {n : Nat} {M : xj_M} {G : xG_} {x1 : Nat} {x2 : Int} {R : xG_}, xRX m M0 M G → xoF x1 → xin x2 → g297_2   f n x1 x2 G = some R → xok (f297_2   f n m (m + x1) x2 M) (fun r => xRX m M0 r R) := by
  intro n
  induction n with
  | zero => intros; rename_i e; cases e
  | succ n ih =>
    intros
    rename_i h i0 i1 e
    exact s297_2b hI   ih h i0 i1 e
theorem sg297 {m f : Nat} {M0 M : xj_M} {G : xG_} (hI : xHI f)   (h : xRX m M0 M G) {a1 : Nat} {R : xG_} (ta1 : xoF a1) (e : g297  f a1 G = some R) : xok (f297  f m (m + a1) M) (fun r => xRX m M0 r R) := by
  unfold g297 at e
  unfold f297
  exact s297_2 hI   h ta1 (show xin (0) by decide) e
-- ChangeHouseModel.change
theorem s301_49 {m f : Nat} {M0 M : xj_M} {G : xG_} (hI : xHI f)     (h : xRX m M0 M G)  {R : xG_}  (e : g301_49   f  G = some R) : xok (f301_49   f  M) (fun r => xRX m M0 r R) := by
  unfold g301_49 at e
  unfold f301_49
  cases e
  exact ⟨_, rfl, h⟩
theorem s301_86 {m f : Nat} {M0 M : xj_M} {G : xG_} (hI : xHI f)     (h : xRX m M0 M G)  {R : xG_}  (e : g301_86   f  G = some R) : xok (f301_86   f  M) (fun r => xRX m M0 r R) := by
  unfold g301_86 at e
  unfold f301_86
  cases e
  exact ⟨_, rfl, h⟩
theorem s301_161 {m f : Nat} {M0 M : xj_M} {G : xG_} (hI : xHI f)  {r104 : Nat → Int → Int → Int → xG_ → Option (xG_)} {o104 : Nat → Nat → Int → Int → Int → xj_M → Option (xj_M)}  (hr104 : ∀ {M : xj_M} {G : xG_} {x1 : Nat} {x2 : Int} {x3 : Int} {x5 : Int} {R : xG_}, xRX m M0 M G → xoL x1 → xin x2 → xin x3 → xin x5 → r104 x1 x2 x3 x5 G = some R → xok (o104 m (m + x1) x2 x3 x5 M) (fun r => xRX m M0 r R)) (h : xRX m M0 M G) {x1 : Nat} {x2 : Int} {x3 : Int} {x5 : Int} {R : xG_} (tx1 : xoL x1) (tx2 : xin x2) (tx3 : xin x3) (tx5 : xin x5) (e : g301_161  r104 f x1 x2 x3 x5 G = some R) : xok (f301_161  o104 f m (m + x1) x2 x3 x5 M) (fun r => xRX m M0 r R) := by
  unfold g301_161 at e
  unfold f301_161
  exact hr104 h tx1 tx2 tx3 (xin_wr _) e
theorem s301_167 {m f : Nat} {M0 M : xj_M} {G : xG_} (hI : xHI f)     (h : xRX m M0 M G) {x1 : Nat} {x2 : Int} {x3 : Int} {R : xG_} (tx1 : xoL x1) (tx2 : xin x2) (tx3 : xin x3) (e : g301_167   f x1 x2 x3 G = some R) : xok (f301_167   f m (m + x1) x2 x3 M) (fun r => xRX m M0 r R) := by
  unfold g301_167 at e
  unfold f301_167
  refine xok_eqb (h.pt (o := x1) (c := 13) (k := 32) (t := x1 + 28) (n := 37) (xoL_o tx1).1 (xoL_o tx1).2 (by decide) (xoL_all tx1 (Q := fun p => (p, 32, p + 28) ∈ xl_P) (by decide +kernel) (by decide +kernel) (by decide +kernel) (by decide +kernel))) ?_
  obtain ⟨R101, e102, e⟩ := xbnd e
  refine xok_eqb (h.is (o := 0) (c := 15) (by decide) rfl) ?_
  refine xok_call (sg264 hI  h tx3 (xoL_all tx1 (Q := fun p => xoJ (p + 28)) ⟨by decide, rfl⟩ ⟨by decide, rfl⟩ ⟨by decide, rfl⟩ ⟨by decide, rfl⟩) (xin_wr _) (show xin (0) by decide) e102) ?_
  intro M105 h103
  cases e
  exact ⟨_, rfl, h103⟩
theorem s301_104b {m f : Nat} {M0 M : xj_M} {G : xG_} (hI : xHI f)  {r104 : Nat → Int → Int → Int → xG_ → Option (xG_)} {o104 : Nat → Nat → Int → Int → Int → xj_M → Option (xj_M)}  (hr104 : ∀ {M : xj_M} {G : xG_} {x1 : Nat} {x2 : Int} {x3 : Int} {x5 : Int} {R : xG_}, xRX m M0 M G → xoL x1 → xin x2 → xin x3 → xin x5 → r104 x1 x2 x3 x5 G = some R → xok (o104 m (m + x1) x2 x3 x5 M) (fun r => xRX m M0 r R)) (h : xRX m M0 M G) {x1 : Nat} {x2 : Int} {x3 : Int} {x5 : Int} {R : xG_} (tx1 : xoL x1) (tx2 : xin x2) (tx3 : xin x3) (tx5 : xin x5) (e : g301_104b  r104 f x1 x2 x3 x5 G = some R) : xok (f301_104b  o104 f m (m + x1) x2 x3 x5 M) (fun r => xRX m M0 r R) := by
  unfold g301_104b at e
  unfold f301_104b
  refine xok_ite (fun c106 => ?_) (fun c106 => ?_)
  · rw [if_pos c106] at e
    exact s301_167 hI   h tx1 tx2 tx3 e
  · rw [if_neg c106] at e
    refine xok_eqb (h.pt (o := 0) (c := 15) (k := 29) (t := 2) (n := 107) (by decide) rfl (by decide) (by decide +kernel)) ?_
    refine xok_eqb (h.pt (o := 2) (c := 14) (k := 2) (t := 2 + 3) (n := 38) (xoP_o (show xoP 2 by unfold xoP; omega)).1 (xoP_o (show xoP 2 by unfold xoP; omega)).2 (by decide) (xoP_all (show xoP 2 by unfold xoP; omega) (Q := fun p => (p, 2, p + 3) ∈ xl_P) (by decide +kernel) (by decide +kernel) (by decide +kernel))) ?_
    by_cases c107 : 0 ≤ (x3) ∧ (x3) < 16
    · skip
      rw [if_pos c107] at e
      refine xok_eqb (h.ai (o := 2 + 3) (n := 16) (xoP_all (show xoP 2 by unfold xoP; omega) (Q := fun p => p + 3 < 276) (by decide) (by decide) (by decide)) (xoP_all (show xoP 2 by unfold xoP; omega) (Q := fun p => xl_t (p + 3) = (2, 3, 16)) rfl rfl rfl) (by decide) c107.1 c107.2) ?_
      refine xok_ite (fun c108 => ?_) (fun c108 => ?_)
      · rw [if_pos c108] at e
        exact s301_167 hI   h tx1 tx2 tx3 e
      · rw [if_neg c108] at e
        refine xok_eqb (h.pt (o := 0) (c := 15) (k := 32) (t := 107) (n := 107) (by decide) rfl (by decide) (by decide +kernel)) ?_
        obtain ⟨R109, e110, e⟩ := xbnd e
        refine xok_eqb (h.is (o := 0) (c := 15) (by decide) rfl) ?_
        refine xok_call (sg261 hI  h tx3 tx5 e110) ?_
        rintro ⟨v_, M113⟩ ⟨hv_, h111, hi112⟩
        cases hv_
        refine xok_eqb (h111.pt (o := x1) (c := 13) (k := 32) (t := x1 + 28) (n := 37) (xoL_o tx1).1 (xoL_o tx1).2 (by decide) (xoL_all tx1 (Q := fun p => (p, 32, p + 28) ∈ xl_P) (by decide +kernel) (by decide +kernel) (by decide +kernel) (by decide +kernel))) ?_
        refine xok_eqb (h111.pt (o := 0) (c := 15) (k := 29) (t := 2) (n := 107) (by decide) rfl (by decide) (by decide +kernel)) ?_
        refine xok_eqb (h111.pt (o := 2) (c := 14) (k := 2) (t := 2 + 3) (n := 38) (xoP_o (show xoP 2 by unfold xoP; omega)).1 (xoP_o (show xoP 2 by unfold xoP; omega)).2 (by decide) (xoP_all (show xoP 2 by unfold xoP; omega) (Q := fun p => (p, 2, p + 3) ∈ xl_P) (by decide +kernel) (by decide +kernel) (by decide +kernel))) ?_
        by_cases c114 : 0 ≤ (x3) ∧ (x3) < 16
        · skip
          rw [if_pos c114] at e
          refine xok_eqb (h111.ai (o := 2 + 3) (n := 16) (xoP_all (show xoP 2 by unfold xoP; omega) (Q := fun p => p + 3 < 276) (by decide) (by decide) (by decide)) (xoP_all (show xoP 2 by unfold xoP; omega) (Q := fun p => xl_t (p + 3) = (2, 3, 16)) rfl rfl rfl) (by decide) c114.1 c114.2) ?_
          obtain ⟨R115, e116, e⟩ := xbnd e
          refine xok_call (sg262 hI  h111 (show xoJ 107 from ⟨by decide, rfl⟩) hi112 (xoL_all tx1 (Q := fun p => xoJ (p + 28)) ⟨by decide, rfl⟩ ⟨by decide, rfl⟩ ⟨by decide, rfl⟩ ⟨by decide, rfl⟩) (xin_wr _) (h111.ain (o := 2 + 3) (n := 16) (xoP_all (show xoP 2 by unfold xoP; omega) (Q := fun p => p + 3 < 276) (by decide) (by decide) (by decide)) (xoP_all (show xoP 2 by unfold xoP; omega) (Q := fun p => xl_t (p + 3) = (2, 3, 16)) rfl rfl rfl) (by decide) c114.1 c114.2) e116) ?_
          rintro ⟨v_, M119⟩ ⟨hv_, h117, hi118⟩
          cases hv_
          refine xok_ite (fun c120 => ?_) (fun c120 => ?_)
          · rw [if_pos c120] at e
            exact s301_161 hI  hr104 h117 tx1 tx2 tx3 tx5 e
          · rw [if_neg c120] at e
            obtain ⟨R121, e122, e⟩ := xbnd e
            refine xok_eqb (h117.is (o := 0) (c := 15) (by decide) rfl) ?_
            refine xok_call (sg265 hI  h117 tx3 tx5 e122) ?_
            intro M125 h123
            exact s301_161 hI  hr104 h123 tx1 tx2 tx3 tx5 e
        · rw [if_neg c114] at e; cases e
    · rw [if_neg c107] at e; cases e
theorem s301_104 {m f : Nat} {M0 : xj_M} (hI : xHI f)     : ∀ {n : Nat} {M : xj_M} {G : xG_} {x1 : Nat} {x2 : Int} {x3 : Int} {x5 : Int} {R : xG_}, xRX m M0 M G → xoL x1 → xin x2 → xin x3 → xin x5 → g301_104   f n x1 x2 x3 x5 G = some R → xok (f301_104   f n m (m + x1) x2 x3 x5 M) (fun r => xRX m M0 r R) := by
  intro n
  induction n with
  | zero => intros; rename_i e; cases e
  | succ n ih =>
    intros
    rename_i h i0 i1 i2 i3 e
    exact s301_104b hI   ih h i0 i1 i2 i3 e
theorem sg301 {m f : Nat} {M0 M : xj_M} {G : xG_} (hI : xHI f)   (h : xRX m M0 M G) {a1 : Nat} {a2 : Int} {R : xG_} (ta1 : xoL a1) (ta2 : xin a2) (e : g301  f a1 a2 G = some R) : xok (f301  f m (m + a1) a2 M) (fun r => xRX m M0 r R) := by
  unfold g301 at e
  unfold f301
  refine xok_eqb (h.pt (o := 0) (c := 15) (k := 29) (t := 2) (n := 107) (by decide) rfl (by decide) (by decide +kernel)) ?_
  refine xok_eqb (h.pt (o := a1) (c := 13) (k := 31) (t := a1 + 27) (n := 37) (xoL_o ta1).1 (xoL_o ta1).2 (by decide) (xoL_all ta1 (Q := fun p => (p, 31, p + 27) ∈ xl_P) (by decide +kernel) (by decide +kernel) (by decide +kernel) (by decide +kernel))) ?_
  by_cases c126 : 0 ≤ (a2) ∧ (a2) < 400
  · skip
    rw [if_pos c126] at e
    refine xok_eqb (h.al (o := a1 + 27) (n := 400) (xoL_all ta1 (Q := fun p => p + 27 < 276) (by decide) (by decide) (by decide) (by decide)) (xoL_all ta1 (Q := fun p => xl_t (p + 27) = (2, 4, 400)) rfl rfl rfl rfl)  c126.1 c126.2) ?_
    obtain ⟨R127, e128, e⟩ := xbnd e
    refine xok_eqb (h.is (o := 2) (c := 14) (xoP_o (show xoP 2 by unfold xoP; omega)).1 (xoP_o (show xoP 2 by unfold xoP; omega)).2) ?_
    refine xok_call (sg205 hI  h (show xoP 2 by unfold xoP; omega) (h.aln (o := a1 + 27) (n := 400) (xoL_all ta1 (Q := fun p => p + 27 < 276) (by decide) (by decide) (by decide) (by decide)) (xoL_all ta1 (Q := fun p => xl_t (p + 27) = (2, 4, 400)) rfl rfl rfl rfl)  c126.1 c126.2) e128) ?_
    rintro ⟨v_, M131⟩ ⟨hv_, h129, hi130⟩
    cases hv_
    refine xok_ite (fun c132 => ?_) (fun c132 => ?_)
    · rw [if_pos c132] at e
      exact s301_49 hI   h129  e
    · rw [if_neg c132] at e
      refine xok_eqb (h129.pt (o := 0) (c := 15) (k := 29) (t := 2) (n := 107) (by decide) rfl (by decide) (by decide +kernel)) ?_
      refine xok_eqb (h129.pt (o := 2) (c := 14) (k := 5) (t := 2 + 6) (n := 38) (xoP_o (show xoP 2 by unfold xoP; omega)).1 (xoP_o (show xoP 2 by unfold xoP; omega)).2 (by decide) (xoP_all (show xoP 2 by unfold xoP; omega) (Q := fun p => (p, 5, p + 6) ∈ xl_P) (by decide +kernel) (by decide +kernel) (by decide +kernel))) ?_
      by_cases c133 : 0 ≤ (R127.1) ∧ (R127.1) < 16
      · skip
        rw [if_pos c133] at e
        refine xok_eqb (h129.ab (o := 2 + 6) (n := 16) (xoP_all (show xoP 2 by unfold xoP; omega) (Q := fun p => p + 6 < 276) (by decide) (by decide) (by decide)) (xoP_all (show xoP 2 by unfold xoP; omega) (Q := fun p => xl_t (p + 6) = (2, 0, 16)) rfl rfl rfl) (by decide) c133.1 c133.2) ?_
        refine xok_ite (fun c134 => ?_) (fun c134 => ?_)
        · rw [if_pos c134] at e
          exact s301_49 hI   h129  e
        · rw [if_neg c134] at e
          refine xok_eqb (h129.pt (o := 0) (c := 15) (k := 29) (t := 2) (n := 107) (by decide) rfl (by decide) (by decide +kernel)) ?_
          refine xok_eqb (h129.pt (o := 2) (c := 14) (k := 1) (t := 2 + 2) (n := 38) (xoP_o (show xoP 2 by unfold xoP; omega)).1 (xoP_o (show xoP 2 by unfold xoP; omega)).2 (by decide) (xoP_all (show xoP 2 by unfold xoP; omega) (Q := fun p => (p, 1, p + 2) ∈ xl_P) (by decide +kernel) (by decide +kernel) (by decide +kernel))) ?_
          by_cases c135 : 0 ≤ (R127.1) ∧ (R127.1) < 16
          · skip
            rw [if_pos c135] at e
            refine xok_eqb (h129.ai (o := 2 + 2) (n := 16) (xoP_all (show xoP 2 by unfold xoP; omega) (Q := fun p => p + 2 < 276) (by decide) (by decide) (by decide)) (xoP_all (show xoP 2 by unfold xoP; omega) (Q := fun p => xl_t (p + 2) = (2, 3, 16)) rfl rfl rfl) (by decide) c135.1 c135.2) ?_
            refine xok_eqb (h129.pt (o := a1) (c := 13) (k := 29) (t := a1 + 25) (n := 37) (xoL_o ta1).1 (xoL_o ta1).2 (by decide) (xoL_all ta1 (Q := fun p => (p, 29, p + 25) ∈ xl_P) (by decide +kernel) (by decide +kernel) (by decide +kernel) (by decide +kernel))) ?_
            by_cases c136 : 0 ≤ (a2) ∧ (a2) < 400
            · skip
              rw [if_pos c136] at e
              refine xok_eqb (h129.ai (o := a1 + 25) (n := 400) (xoL_all ta1 (Q := fun p => p + 25 < 276) (by decide) (by decide) (by decide) (by decide)) (xoL_all ta1 (Q := fun p => xl_t (p + 25) = (2, 3, 400)) rfl rfl rfl rfl) (by decide) c136.1 c136.2) ?_
              refine xok_ite (fun c137 => ?_) (fun c137 => ?_)
              · rw [if_pos c137] at e
                refine xok_eqb (h129.pt (o := a1) (c := 13) (k := 32) (t := a1 + 28) (n := 37) (xoL_o ta1).1 (xoL_o ta1).2 (by decide) (xoL_all ta1 (Q := fun p => (p, 32, p + 28) ∈ xl_P) (by decide +kernel) (by decide +kernel) (by decide +kernel) (by decide +kernel))) ?_
                obtain ⟨R138, e139, e⟩ := xbnd e
                refine xok_eqb (h129.is (o := 0) (c := 15) (by decide) rfl) ?_
                refine xok_call (sg263 hI  h129 hi130 (xoL_all ta1 (Q := fun p => xoJ (p + 28)) ⟨by decide, rfl⟩ ⟨by decide, rfl⟩ ⟨by decide, rfl⟩ ⟨by decide, rfl⟩) (xin_wr _) e139) ?_
                rintro ⟨v_, M142⟩ ⟨hv_, h140, hi141⟩
                cases hv_
                refine xok_eqb (h140.pt (o := a1) (c := 13) (k := 28) (t := a1 + 24) (n := 37) (xoL_o ta1).1 (xoL_o ta1).2 (by decide) (xoL_all ta1 (Q := fun p => (p, 28, p + 24) ∈ xl_P) (by decide +kernel) (by decide +kernel) (by decide +kernel) (by decide +kernel))) ?_
                by_cases c143 : 0 ≤ (a2) ∧ (a2) < 400
                · skip
                  rw [if_pos c143] at e
                  refine xok_eqb (h140.ai (o := a1 + 24) (n := 400) (xoL_all ta1 (Q := fun p => p + 24 < 276) (by decide) (by decide) (by decide) (by decide)) (xoL_all ta1 (Q := fun p => xl_t (p + 24) = (2, 3, 400)) rfl rfl rfl rfl) (by decide) c143.1 c143.2) ?_
                  refine xok_ite (fun c144 => ?_) (fun c144 => ?_)
                  · rw [if_pos c144] at e
                    refine xok_ite (fun c145 => ?_) (fun c145 => ?_)
                    · rw [if_pos c145] at e
                      refine xok_eqb (h140.pt (o := 0) (c := 15) (k := 33) (t := 108) (n := 107) (by decide) rfl (by decide) (by decide +kernel)) ?_
                      by_cases c146 : 0 ≤ (R127.1) ∧ (R127.1) < 16
                      · skip
                        rw [if_pos c146] at e
                        refine xok_eqb (h140.ai (o := 108) (n := 16) (by decide) rfl (by decide) c146.1 c146.2) ?_
                        exact s301_104 hI   h140 ta1 ta2 hi130 (xin_wr _) e
                      · rw [if_neg c146] at e; cases e
                    · rw [if_neg c145] at e
                      cases e
                      exact ⟨_, rfl, h140⟩
                  · rw [if_neg c144] at e
                    refine xok_ite (fun c147 => ?_) (fun c147 => ?_)
                    · rw [if_pos c147] at e
                      exact s301_86 hI   h140  e
                    · rw [if_neg c147] at e
                      obtain ⟨R148, e149, e⟩ := xbnd e
                      refine xok_eqb (h140.is (o := 0) (c := 15) (by decide) rfl) ?_
                      refine xok_call (sg265 hI  h140 hi130 hi141 e149) ?_
                      intro M152 h150
                      exact s301_86 hI   h150  e
                · rw [if_neg c143] at e; cases e
              · rw [if_neg c137] at e
                exact s301_49 hI   h129  e
            · rw [if_neg c136] at e; cases e
          · rw [if_neg c135] at e; cases e
      · rw [if_neg c133] at e; cases e
  · rw [if_neg c126] at e; cases e
-- ChangeHouseModel.log
theorem s303_156 {m f : Nat} {M0 M : xj_M} {G : xG_} (hI : xHI f)     (h : xRX m M0 M G)  {R : xG_}  (e : g303_156   f  G = some R) : xok (f303_156   f  M) (fun r => xRX m M0 r R) := by
  unfold g303_156 at e
  unfold f303_156
  cases e
  exact ⟨_, rfl, h⟩
theorem s303_58b {m f : Nat} {M0 M : xj_M} {G : xG_} (hI : xHI f)  {r58 : Nat → Nat → Int → Int → xG_ → Option (xG_)} {o58 : Nat → Nat → Nat → Int → Int → xj_M → Option (xj_M)}  (hr58 : ∀ {M : xj_M} {G : xG_} {x1 : Nat} {x3 : Nat} {x4 : Int} {x5 : Int} {R : xG_}, xRX m M0 M G → xoL x1 → xoF x3 → xin x4 → xin x5 → r58 x1 x3 x4 x5 G = some R → xok (o58 m (m + x1) (m + x3) x4 x5 M) (fun r => xRX m M0 r R)) (h : xRX m M0 M G) {x1 : Nat} {x3 : Nat} {x4 : Int} {x5 : Int} {R : xG_} (tx1 : xoL x1) (tx3 : xoF x3) (tx4 : xin x4) (tx5 : xin x5) (e : g303_58b  r58 f x1 x3 x4 x5 G = some R) : xok (f303_58b  o58 f m (m + x1) (m + x3) x4 x5 M) (fun r => xRX m M0 r R) := by
  unfold g303_58b at e
  unfold f303_58b
  refine xok_ite (fun c101 => ?_) (fun c101 => ?_)
  · rw [if_pos c101] at e
    refine xok_eqb (h.gi (o := x1) (c := 13) (k := 10) (n := 37) (xoL_o tx1).1 (xoL_o tx1).2 (by decide) (by decide)) ?_
    obtain ⟨M102, q103, h104⟩ := h.pi (v := xwr ((G (x1) 10) + (1))) (o := x1) (c := 13) (k := 10) (n := 37) (xoL_o tx1).1 (xoL_o tx1).2 (by decide) (by decide) (xin_wr _)
    refine xok_eqb q103 ?_
    obtain ⟨G105, g1, e⟩ := xbnd e
    cases g1
    have h104_ : xRX m M0 M102 (xup2 G (x1) 10 (xwr ((G (x1) 10) + (1)))) := h104
    generalize hGG105 : (xup2 G (x1) 10 (xwr ((G (x1) 10) + (1)))) = G105 at e h104
    clear h104_ hGG105
    refine xok_eqb (h104.pt (o := 0) (c := 15) (k := 29) (t := 2) (n := 107) (by decide) rfl (by decide) (by decide +kernel)) ?_
    refine xok_eqb (h104.pt (o := x3) (c := 12) (k := 0) (t := x3 + 1) (n := 4) (xoF_o tx3).1 (xoF_o tx3).2 (by decide) (xoF_all tx3 (Q := fun p => (p, 0, p + 1) ∈ xl_P) (by decide +kernel) (by decide +kernel) (by decide +kernel) (by decide +kernel) (by decide +kernel) (by decide +kernel) (by decide +kernel))) ?_
    by_cases c106 : 0 ≤ (x4) ∧ (x4) < 3400
    · skip
      rw [if_pos c106] at e
      refine xok_eqb (h104.al (o := x3 + 1) (n := 3400) (xoF_all tx3 (Q := fun p => p + 1 < 276) (by decide) (by decide) (by decide) (by decide) (by decide) (by decide) (by decide)) (xoF_all tx3 (Q := fun p => xl_t (p + 1) = (2, 4, 3400)) rfl rfl rfl rfl rfl rfl rfl)  c106.1 c106.2) ?_
      obtain ⟨R107, e108, e⟩ := xbnd e
      refine xok_eqb (h104.is (o := 2) (c := 14) (xoP_o (show xoP 2 by unfold xoP; omega)).1 (xoP_o (show xoP 2 by unfold xoP; omega)).2) ?_
      refine xok_call (sg205 hI  h104 (show xoP 2 by unfold xoP; omega) (h104.aln (o := x3 + 1) (n := 3400) (xoF_all tx3 (Q := fun p => p + 1 < 276) (by decide) (by decide) (by decide) (by decide) (by decide) (by decide) (by decide)) (xoF_all tx3 (Q := fun p => xl_t (p + 1) = (2, 4, 3400)) rfl rfl rfl rfl rfl rfl rfl)  c106.1 c106.2) e108) ?_
      rintro ⟨v_, M111⟩ ⟨hv_, h109, hi110⟩
      cases hv_
      refine xok_ite (fun c112 => ?_) (fun c112 => ?_)
      · rw [if_pos c112] at e
        exact s303_156 hI   h109  e
      · rw [if_neg c112] at e
        refine xok_eqb (h109.pt (o := 0) (c := 15) (k := 29) (t := 2) (n := 107) (by decide) rfl (by decide) (by decide +kernel)) ?_
        refine xok_eqb (h109.pt (o := 2) (c := 14) (k := 1) (t := 2 + 2) (n := 38) (xoP_o (show xoP 2 by unfold xoP; omega)).1 (xoP_o (show xoP 2 by unfold xoP; omega)).2 (by decide) (xoP_all (show xoP 2 by unfold xoP; omega) (Q := fun p => (p, 1, p + 2) ∈ xl_P) (by decide +kernel) (by decide +kernel) (by decide +kernel))) ?_
        by_cases c113 : 0 ≤ (R107.1) ∧ (R107.1) < 16
        · skip
          rw [if_pos c113] at e
          refine xok_eqb (h109.ai (o := 2 + 2) (n := 16) (xoP_all (show xoP 2 by unfold xoP; omega) (Q := fun p => p + 2 < 276) (by decide) (by decide) (by decide)) (xoP_all (show xoP 2 by unfold xoP; omega) (Q := fun p => xl_t (p + 2) = (2, 3, 16)) rfl rfl rfl) (by decide) c113.1 c113.2) ?_
          refine xok_eqb (h109.pt (o := x3) (c := 12) (k := 2) (t := x3 + 3) (n := 4) (xoF_o tx3).1 (xoF_o tx3).2 (by decide) (xoF_all tx3 (Q := fun p => (p, 2, p + 3) ∈ xl_P) (by decide +kernel) (by decide +kernel) (by decide +kernel) (by decide +kernel) (by decide +kernel) (by decide +kernel) (by decide +kernel))) ?_
          by_cases c114 : 0 ≤ (x4) ∧ (x4) < 3400
          · skip
            rw [if_pos c114] at e
            refine xok_eqb (h109.ai (o := x3 + 3) (n := 3400) (xoF_all tx3 (Q := fun p => p + 3 < 276) (by decide) (by decide) (by decide) (by decide) (by decide) (by decide) (by decide)) (xoF_all tx3 (Q := fun p => xl_t (p + 3) = (2, 3, 3400)) rfl rfl rfl rfl rfl rfl rfl) (by decide) c114.1 c114.2) ?_
            refine xok_ite (fun c115 => ?_) (fun c115 => ?_)
            · rw [if_pos c115] at e
              exact s303_156 hI   h109  e
            · rw [if_neg c115] at e
              refine xok_eqb (h109.pt (o := x1) (c := 13) (k := 22) (t := x1 + 19) (n := 37) (xoL_o tx1).1 (xoL_o tx1).2 (by decide) (xoL_all tx1 (Q := fun p => (p, 22, p + 19) ∈ xl_P) (by decide +kernel) (by decide +kernel) (by decide +kernel) (by decide +kernel))) ?_
              by_cases c116 : 0 ≤ (R107.1) ∧ (R107.1) < 16
              · skip
                rw [if_pos c116] at e
                obtain ⟨M117, q118, h119⟩ := h109.si (o := x1 + 19) (n := 16) (v := 1) (xoL_all tx1 (Q := fun p => p + 19 < 276) (by decide) (by decide) (by decide) (by decide)) (xoL_all tx1 (Q := fun p => xl_t (p + 19) = (2, 3, 16)) rfl rfl rfl rfl) c116.1 c116.2 (show xin (1) by decide)
                refine xok_eqb q118 ?_
                obtain ⟨G120, g1, e⟩ := xbnd e
                cases g1
                have h119_ : xRX m M0 M117 (xup2 R107.2 (x1 + 19) (R107.1).toNat (1)) := h119
                generalize hGG120 : (xup2 R107.2 (x1 + 19) (R107.1).toNat (1)) = G120 at e h119
                clear h119_ hGG120
                exact s303_156 hI   h119  e
              · rw [if_neg c116] at e; cases e
          · rw [if_neg c114] at e; cases e
        · rw [if_neg c113] at e; cases e
    · rw [if_neg c106] at e; cases e
  · rw [if_neg c101] at e
    refine xok_eqb (h.pt (o := x1) (c := 13) (k := 9) (t := x1 + 9) (n := 37) (xoL_o tx1).1 (xoL_o tx1).2 (by decide) (xoL_all tx1 (Q := fun p => (p, 9, p + 9) ∈ xl_P) (by decide +kernel) (by decide +kernel) (by decide +kernel) (by decide +kernel))) ?_
    refine xok_eqb (h.gi (o := x1) (c := 13) (k := 10) (n := 37) (xoL_o tx1).1 (xoL_o tx1).2 (by decide) (by decide)) ?_
    refine xok_eqb (h.pt (o := x3) (c := 12) (k := 1) (t := x3 + 2) (n := 4) (xoF_o tx3).1 (xoF_o tx3).2 (by decide) (xoF_all tx3 (Q := fun p => (p, 1, p + 2) ∈ xl_P) (by decide +kernel) (by decide +kernel) (by decide +kernel) (by decide +kernel) (by decide +kernel) (by decide +kernel) (by decide +kernel))) ?_
    by_cases c121 : 0 ≤ (xwr ((xwr ((4) * (x4))) + (x5))) ∧ (xwr ((xwr ((4) * (x4))) + (x5))) < 13600
    · skip
      rw [if_pos c121] at e
      refine xok_eqb (h.al (o := x3 + 2) (n := 13600) (xoF_all tx3 (Q := fun p => p + 2 < 276) (by decide) (by decide) (by decide) (by decide) (by decide) (by decide) (by decide)) (xoF_all tx3 (Q := fun p => xl_t (p + 2) = (2, 4, 13600)) rfl rfl rfl rfl rfl rfl rfl)  c121.1 c121.2) ?_
      by_cases c122 : 0 ≤ (xwr ((xwr ((4) * (G (x1) 10))) + (x5))) ∧ (xwr ((xwr ((4) * (G (x1) 10))) + (x5))) < 48000
      · skip
        rw [if_pos c122] at e
        obtain ⟨M123, q124, h125⟩ := h.sl (o := x1 + 9) (n := 48000) (v := G (x3 + 2) (xwr ((xwr ((4) * (x4))) + (x5))).toNat) (xoL_all tx1 (Q := fun p => p + 9 < 276) (by decide) (by decide) (by decide) (by decide)) (xoL_all tx1 (Q := fun p => xl_t (p + 9) = (2, 4, 48000)) rfl rfl rfl rfl) c122.1 c122.2 (h.aln (o := x3 + 2) (n := 13600) (xoF_all tx3 (Q := fun p => p + 2 < 276) (by decide) (by decide) (by decide) (by decide) (by decide) (by decide) (by decide)) (xoF_all tx3 (Q := fun p => xl_t (p + 2) = (2, 4, 13600)) rfl rfl rfl rfl rfl rfl rfl)  c121.1 c121.2)
        refine xok_eqb q124 ?_
        obtain ⟨G126, g1, e⟩ := xbnd e
        cases g1
        have h125_ : xRX m M0 M123 (xup2 G (x1 + 9) (xwr ((xwr ((4) * (G (x1) 10))) + (x5))).toNat (G (x3 + 2) (xwr ((xwr ((4) * (x4))) + (x5))).toNat)) := h125
        generalize hGG126 : (xup2 G (x1 + 9) (xwr ((xwr ((4) * (G (x1) 10))) + (x5))).toNat (G (x3 + 2) (xwr ((xwr ((4) * (x4))) + (x5))).toNat)) = G126 at e h125
        clear h125_ hGG126
        exact hr58 h125 tx1 tx3 tx4 (xin_wr _) e
      · rw [if_neg c122] at e; cases e
    · rw [if_neg c121] at e; cases e
theorem s303_58 {m f : Nat} {M0 : xj_M} (hI : xHI f)     : ∀ {n : Nat} {M : xj_M} {G : xG_} {x1 : Nat} {x3 : Nat} {x4 : Int} {x5 : Int} {R : xG_}, xRX m M0 M G → xoL x1 → xoF x3 → xin x4 → xin x5 → g303_58   f n x1 x3 x4 x5 G = some R → xok (f303_58   f n m (m + x1) (m + x3) x4 x5 M) (fun r => xRX m M0 r R) := by
  intro n
  induction n with
  | zero => intros; rename_i e; cases e
  | succ n ih =>
    intros
    rename_i h i0 i1 i2 i3 e
    exact s303_58b hI   ih h i0 i1 i2 i3 e
theorem sg303 {m f : Nat} {M0 M : xj_M} {G : xG_} (hI : xHI f)   (h : xRX m M0 M G) {a1 : Nat} {a2 : Int} {a3 : Nat} {a4 : Int} {R : xG_} (ta1 : xoL a1) (ta2 : xin a2) (ta3 : xoF a3) (ta4 : xin a4) (e : g303  f a1 a2 a3 a4 G = some R) : xok (f303  f m (m + a1) a2 (m + a3) a4 M) (fun r => xRX m M0 r R) := by
  unfold g303 at e
  unfold f303
  refine xok_eqb (h.pt (o := a1) (c := 13) (k := 5) (t := a1 + 5) (n := 37) (xoL_o ta1).1 (xoL_o ta1).2 (by decide) (xoL_all ta1 (Q := fun p => (p, 5, p + 5) ∈ xl_P) (by decide +kernel) (by decide +kernel) (by decide +kernel) (by decide +kernel))) ?_
  refine xok_eqb (h.gi (o := a1) (c := 13) (k := 10) (n := 37) (xoL_o ta1).1 (xoL_o ta1).2 (by decide) (by decide)) ?_
  refine xok_eqb (h.gi (o := a1) (c := 13) (k := 2) (n := 37) (xoL_o ta1).1 (xoL_o ta1).2 (by decide) (by decide)) ?_
  by_cases c127 : 0 ≤ (G (a1) 10) ∧ (G (a1) 10) < 12000
  · skip
    rw [if_pos c127] at e
    obtain ⟨M128, q129, h130⟩ := h.si (o := a1 + 5) (n := 12000) (v := G (a1) 2) (xoL_all ta1 (Q := fun p => p + 5 < 276) (by decide) (by decide) (by decide) (by decide)) (xoL_all ta1 (Q := fun p => xl_t (p + 5) = (2, 3, 12000)) rfl rfl rfl rfl) c127.1 c127.2 (h.gin (o := a1) (c := 13) (k := 2) (n := 37) (xoL_o ta1).1 (xoL_o ta1).2 (by decide) (by decide))
    refine xok_eqb q129 ?_
    obtain ⟨G131, g1, e⟩ := xbnd e
    cases g1
    have h130_ : xRX m M0 M128 (xup2 G (a1 + 5) (G (a1) 10).toNat (G (a1) 2)) := h130
    generalize hGG131 : (xup2 G (a1 + 5) (G (a1) 10).toNat (G (a1) 2)) = G131 at e h130
    clear h130_ hGG131
    refine xok_eqb (h130.pt (o := a1) (c := 13) (k := 6) (t := a1 + 6) (n := 37) (xoL_o ta1).1 (xoL_o ta1).2 (by decide) (xoL_all ta1 (Q := fun p => (p, 6, p + 6) ∈ xl_P) (by decide +kernel) (by decide +kernel) (by decide +kernel) (by decide +kernel))) ?_
    refine xok_eqb (h130.gi (o := a1) (c := 13) (k := 10) (n := 37) (xoL_o ta1).1 (xoL_o ta1).2 (by decide) (by decide)) ?_
    by_cases c132 : 0 ≤ (G131 (a1) 10) ∧ (G131 (a1) 10) < 12000
    · skip
      rw [if_pos c132] at e
      obtain ⟨M133, q134, h135⟩ := h130.si (o := a1 + 6) (n := 12000) (v := a2) (xoL_all ta1 (Q := fun p => p + 6 < 276) (by decide) (by decide) (by decide) (by decide)) (xoL_all ta1 (Q := fun p => xl_t (p + 6) = (2, 3, 12000)) rfl rfl rfl rfl) c132.1 c132.2 ta2
      refine xok_eqb q134 ?_
      obtain ⟨G136, g1, e⟩ := xbnd e
      cases g1
      have h135_ : xRX m M0 M133 (xup2 G131 (a1 + 6) (G131 (a1) 10).toNat (a2)) := h135
      generalize hGG136 : (xup2 G131 (a1 + 6) (G131 (a1) 10).toNat (a2)) = G136 at e h135
      clear h135_ hGG136
      refine xok_eqb (h135.pt (o := a1) (c := 13) (k := 8) (t := a1 + 8) (n := 37) (xoL_o ta1).1 (xoL_o ta1).2 (by decide) (xoL_all ta1 (Q := fun p => (p, 8, p + 8) ∈ xl_P) (by decide +kernel) (by decide +kernel) (by decide +kernel) (by decide +kernel))) ?_
      refine xok_eqb (h135.gi (o := a1) (c := 13) (k := 10) (n := 37) (xoL_o ta1).1 (xoL_o ta1).2 (by decide) (by decide)) ?_
      refine xok_eqb (h135.pt (o := a3) (c := 12) (k := 0) (t := a3 + 1) (n := 4) (xoF_o ta3).1 (xoF_o ta3).2 (by decide) (xoF_all ta3 (Q := fun p => (p, 0, p + 1) ∈ xl_P) (by decide +kernel) (by decide +kernel) (by decide +kernel) (by decide +kernel) (by decide +kernel) (by decide +kernel) (by decide +kernel))) ?_
      by_cases c137 : 0 ≤ (a4) ∧ (a4) < 3400
      · skip
        rw [if_pos c137] at e
        refine xok_eqb (h135.al (o := a3 + 1) (n := 3400) (xoF_all ta3 (Q := fun p => p + 1 < 276) (by decide) (by decide) (by decide) (by decide) (by decide) (by decide) (by decide)) (xoF_all ta3 (Q := fun p => xl_t (p + 1) = (2, 4, 3400)) rfl rfl rfl rfl rfl rfl rfl)  c137.1 c137.2) ?_
        by_cases c138 : 0 ≤ (G136 (a1) 10) ∧ (G136 (a1) 10) < 12000
        · skip
          rw [if_pos c138] at e
          obtain ⟨M139, q140, h141⟩ := h135.sl (o := a1 + 8) (n := 12000) (v := G136 (a3 + 1) (a4).toNat) (xoL_all ta1 (Q := fun p => p + 8 < 276) (by decide) (by decide) (by decide) (by decide)) (xoL_all ta1 (Q := fun p => xl_t (p + 8) = (2, 4, 12000)) rfl rfl rfl rfl) c138.1 c138.2 (h135.aln (o := a3 + 1) (n := 3400) (xoF_all ta3 (Q := fun p => p + 1 < 276) (by decide) (by decide) (by decide) (by decide) (by decide) (by decide) (by decide)) (xoF_all ta3 (Q := fun p => xl_t (p + 1) = (2, 4, 3400)) rfl rfl rfl rfl rfl rfl rfl)  c137.1 c137.2)
          refine xok_eqb q140 ?_
          obtain ⟨G142, g1, e⟩ := xbnd e
          cases g1
          have h141_ : xRX m M0 M139 (xup2 G136 (a1 + 8) (G136 (a1) 10).toNat (G136 (a3 + 1) (a4).toNat)) := h141
          generalize hGG142 : (xup2 G136 (a1 + 8) (G136 (a1) 10).toNat (G136 (a3 + 1) (a4).toNat)) = G142 at e h141
          clear h141_ hGG142
          refine xok_eqb (h141.pt (o := a1) (c := 13) (k := 7) (t := a1 + 7) (n := 37) (xoL_o ta1).1 (xoL_o ta1).2 (by decide) (xoL_all ta1 (Q := fun p => (p, 7, p + 7) ∈ xl_P) (by decide +kernel) (by decide +kernel) (by decide +kernel) (by decide +kernel))) ?_
          refine xok_eqb (h141.gi (o := a1) (c := 13) (k := 10) (n := 37) (xoL_o ta1).1 (xoL_o ta1).2 (by decide) (by decide)) ?_
          refine xok_eqb (h141.pt (o := a3) (c := 12) (k := 2) (t := a3 + 3) (n := 4) (xoF_o ta3).1 (xoF_o ta3).2 (by decide) (xoF_all ta3 (Q := fun p => (p, 2, p + 3) ∈ xl_P) (by decide +kernel) (by decide +kernel) (by decide +kernel) (by decide +kernel) (by decide +kernel) (by decide +kernel) (by decide +kernel))) ?_
          by_cases c143 : 0 ≤ (a4) ∧ (a4) < 3400
          · skip
            rw [if_pos c143] at e
            refine xok_eqb (h141.ai (o := a3 + 3) (n := 3400) (xoF_all ta3 (Q := fun p => p + 3 < 276) (by decide) (by decide) (by decide) (by decide) (by decide) (by decide) (by decide)) (xoF_all ta3 (Q := fun p => xl_t (p + 3) = (2, 3, 3400)) rfl rfl rfl rfl rfl rfl rfl) (by decide) c143.1 c143.2) ?_
            by_cases c144 : 0 ≤ (G142 (a1) 10) ∧ (G142 (a1) 10) < 12000
            · skip
              rw [if_pos c144] at e
              obtain ⟨M145, q146, h147⟩ := h141.si (o := a1 + 7) (n := 12000) (v := G142 (a3 + 3) (a4).toNat) (xoL_all ta1 (Q := fun p => p + 7 < 276) (by decide) (by decide) (by decide) (by decide)) (xoL_all ta1 (Q := fun p => xl_t (p + 7) = (2, 3, 12000)) rfl rfl rfl rfl) c144.1 c144.2 (h141.ain (o := a3 + 3) (n := 3400) (xoF_all ta3 (Q := fun p => p + 3 < 276) (by decide) (by decide) (by decide) (by decide) (by decide) (by decide) (by decide)) (xoF_all ta3 (Q := fun p => xl_t (p + 3) = (2, 3, 3400)) rfl rfl rfl rfl rfl rfl rfl) (by decide) c143.1 c143.2)
              refine xok_eqb q146 ?_
              obtain ⟨G148, g1, e⟩ := xbnd e
              cases g1
              have h147_ : xRX m M0 M145 (xup2 G142 (a1 + 7) (G142 (a1) 10).toNat (G142 (a3 + 3) (a4).toNat)) := h147
              generalize hGG148 : (xup2 G142 (a1 + 7) (G142 (a1) 10).toNat (G142 (a3 + 3) (a4).toNat)) = G148 at e h147
              clear h147_ hGG148
              exact s303_58 hI   h147 ta1 ta3 ta4 (show xin (0) by decide) e
            · rw [if_neg c144] at e; cases e
          · rw [if_neg c143] at e; cases e
        · rw [if_neg c138] at e; cases e
      · rw [if_neg c137] at e; cases e
    · rw [if_neg c132] at e; cases e
  · rw [if_neg c127] at e; cases e
-- ChangeHouseModel.logChanges
theorem s304_67 {m f : Nat} {M0 M : xj_M} {G : xG_} (hI : xHI f)  {r7 : Nat → Int → Int → xG_ → Option (Int × xG_)} {o7 : Nat → Nat → Int → Int → xj_M → Option (Int × xj_M)}  (hr7 : ∀ {M : xj_M} {G : xG_} {x1 : Nat} {x2 : Int} {x3 : Int} {R : Int × xG_}, xRX m M0 M G → xoL x1 → xin x2 → xin x3 → r7 x1 x2 x3 G = some R → xok (o7 m (m + x1) x2 x3 M) (fun r => r.1 = R.1 ∧ xRX m M0 r.2 R.2 ∧ xin R.1)) (h : xRX m M0 M G) {x1 : Nat} {x2 : Int} {x3 : Int} {R : Int × xG_} (tx1 : xoL x1) (tx2 : xin x2) (tx3 : xin x3) (e : g304_67  r7 f x1 x2 x3 G = some R) : xok (f304_67  o7 f m (m + x1) x2 x3 M) (fun r => r.1 = R.1 ∧ xRX m M0 r.2 R.2 ∧ xin R.1) := by
  unfold g304_67 at e
  unfold f304_67
  exact hr7 h tx1 tx2 (xin_wr _) e
theorem s304_135 {m f : Nat} {M0 M : xj_M} {G : xG_} (hI : xHI f)  {r75 : Nat → Int → Int → xG_ → Option (Int × xG_)} {o75 : Nat → Nat → Int → Int → xj_M → Option (Int × xj_M)}  (hr75 : ∀ {M : xj_M} {G : xG_} {x1 : Nat} {x2 : Int} {x3 : Int} {R : Int × xG_}, xRX m M0 M G → xoL x1 → xin x2 → xin x3 → r75 x1 x2 x3 G = some R → xok (o75 m (m + x1) x2 x3 M) (fun r => r.1 = R.1 ∧ xRX m M0 r.2 R.2 ∧ xin R.1)) (h : xRX m M0 M G) {x1 : Nat} {x2 : Int} {x3 : Int} {R : Int × xG_} (tx1 : xoL x1) (tx2 : xin x2) (tx3 : xin x3) (e : g304_135  r75 f x1 x2 x3 G = some R) : xok (f304_135  o75 f m (m + x1) x2 x3 M) (fun r => r.1 = R.1 ∧ xRX m M0 r.2 R.2 ∧ xin R.1) := by
  unfold g304_135 at e
  unfold f304_135
  exact hr75 h tx1 tx2 (xin_wr _) e
theorem s304_75b {m f : Nat} {M0 M : xj_M} {G : xG_} (hI : xHI f)  {r75 : Nat → Int → Int → xG_ → Option (Int × xG_)} {o75 : Nat → Nat → Int → Int → xj_M → Option (Int × xj_M)}  (hr75 : ∀ {M : xj_M} {G : xG_} {x1 : Nat} {x2 : Int} {x3 : Int} {R : Int × xG_}, xRX m M0 M G → xoL x1 → xin x2 → xin x3 → r75 x1 x2 x3 G = some R → xok (o75 m (m + x1) x2 x3 M) (fun r => r.1 = R.1 ∧ xRX m M0 r.2 R.2 ∧ xin R.1)) (h : xRX m M0 M G) {x1 : Nat} {x2 : Int} {x3 : Int} {R : Int × xG_} (tx1 : xoL x1) (tx2 : xin x2) (tx3 : xin x3) (e : g304_75b  r75 f x1 x2 x3 G = some R) : xok (f304_75b  o75 f m (m + x1) x2 x3 M) (fun r => r.1 = R.1 ∧ xRX m M0 r.2 R.2 ∧ xin R.1) := by
  unfold g304_75b at e
  unfold f304_75b
  refine xok_eqb (h.pt (o := 0) (c := 15) (k := 77) (t := 247) (n := 107) (by decide) rfl (by decide) (by decide +kernel)) ?_
  refine xok_eqb (h.gi (o := 247) (c := 12) (k := 3) (n := 4) (xoF_o (show xoF 247 by unfold xoF; omega)).1 (xoF_o (show xoF 247 by unfold xoF; omega)).2 (by decide) (by decide)) ?_
  refine xok_ite (fun c101 => ?_) (fun c101 => ?_)
  · rw [if_pos c101] at e
    refine xok_eqb (h.gi (o := x1) (c := 13) (k := 10) (n := 37) (xoL_o tx1).1 (xoL_o tx1).2 (by decide) (by decide)) ?_
    cases e
    exact ⟨_, rfl, rfl, h, (xin_wr _)⟩
  · rw [if_neg c101] at e
    refine xok_eqb (h.pt (o := 0) (c := 15) (k := 76) (t := 243) (n := 107) (by decide) rfl (by decide) (by decide +kernel)) ?_
    refine xok_eqb (h.pt (o := 0) (c := 15) (k := 77) (t := 247) (n := 107) (by decide) rfl (by decide) (by decide +kernel)) ?_
    refine xok_eqb (h.pt (o := 247) (c := 12) (k := 0) (t := 247 + 1) (n := 4) (xoF_o (show xoF 247 by unfold xoF; omega)).1 (xoF_o (show xoF 247 by unfold xoF; omega)).2 (by decide) (xoF_all (show xoF 247 by unfold xoF; omega) (Q := fun p => (p, 0, p + 1) ∈ xl_P) (by decide +kernel) (by decide +kernel) (by decide +kernel) (by decide +kernel) (by decide +kernel) (by decide +kernel) (by decide +kernel))) ?_
    by_cases c102 : 0 ≤ (x3) ∧ (x3) < 3400
    · skip
      rw [if_pos c102] at e
      refine xok_eqb (h.al (o := 247 + 1) (n := 3400) (xoF_all (show xoF 247 by unfold xoF; omega) (Q := fun p => p + 1 < 276) (by decide) (by decide) (by decide) (by decide) (by decide) (by decide) (by decide)) (xoF_all (show xoF 247 by unfold xoF; omega) (Q := fun p => xl_t (p + 1) = (2, 4, 3400)) rfl rfl rfl rfl rfl rfl rfl)  c102.1 c102.2) ?_
      refine xok_eqb (h.pt (o := 0) (c := 15) (k := 77) (t := 247) (n := 107) (by decide) rfl (by decide) (by decide +kernel)) ?_
      refine xok_eqb (h.pt (o := 247) (c := 12) (k := 2) (t := 247 + 3) (n := 4) (xoF_o (show xoF 247 by unfold xoF; omega)).1 (xoF_o (show xoF 247 by unfold xoF; omega)).2 (by decide) (xoF_all (show xoF 247 by unfold xoF; omega) (Q := fun p => (p, 2, p + 3) ∈ xl_P) (by decide +kernel) (by decide +kernel) (by decide +kernel) (by decide +kernel) (by decide +kernel) (by decide +kernel) (by decide +kernel))) ?_
      by_cases c103 : 0 ≤ (x3) ∧ (x3) < 3400
      · skip
        rw [if_pos c103] at e
        refine xok_eqb (h.ai (o := 247 + 3) (n := 3400) (xoF_all (show xoF 247 by unfold xoF; omega) (Q := fun p => p + 3 < 276) (by decide) (by decide) (by decide) (by decide) (by decide) (by decide) (by decide)) (xoF_all (show xoF 247 by unfold xoF; omega) (Q := fun p => xl_t (p + 3) = (2, 3, 3400)) rfl rfl rfl rfl rfl rfl rfl) (by decide) c103.1 c103.2) ?_
        refine xok_eqb (h.pt (o := 0) (c := 15) (k := 77) (t := 247) (n := 107) (by decide) rfl (by decide) (by decide +kernel)) ?_
        refine xok_eqb (h.pt (o := 247) (c := 12) (k := 1) (t := 247 + 2) (n := 4) (xoF_o (show xoF 247 by unfold xoF; omega)).1 (xoF_o (show xoF 247 by unfold xoF; omega)).2 (by decide) (xoF_all (show xoF 247 by unfold xoF; omega) (Q := fun p => (p, 1, p + 2) ∈ xl_P) (by decide +kernel) (by decide +kernel) (by decide +kernel) (by decide +kernel) (by decide +kernel) (by decide +kernel) (by decide +kernel))) ?_
        obtain ⟨R104, e105, e⟩ := xbnd e
        refine xok_eqb (h.is (o := 243) (c := 12) (xoF_o (show xoF 243 by unfold xoF; omega)).1 (xoF_o (show xoF 243 by unfold xoF; omega)).2) ?_
        refine xok_call (sg197 hI  h (show xoF 243 by unfold xoF; omega) (h.aln (o := 247 + 1) (n := 3400) (xoF_all (show xoF 247 by unfold xoF; omega) (Q := fun p => p + 1 < 276) (by decide) (by decide) (by decide) (by decide) (by decide) (by decide) (by decide)) (xoF_all (show xoF 247 by unfold xoF; omega) (Q := fun p => xl_t (p + 1) = (2, 4, 3400)) rfl rfl rfl rfl rfl rfl rfl)  c102.1 c102.2) (h.ain (o := 247 + 3) (n := 3400) (xoF_all (show xoF 247 by unfold xoF; omega) (Q := fun p => p + 3 < 276) (by decide) (by decide) (by decide) (by decide) (by decide) (by decide) (by decide)) (xoF_all (show xoF 247 by unfold xoF; omega) (Q := fun p => xl_t (p + 3) = (2, 3, 3400)) rfl rfl rfl rfl rfl rfl rfl) (by decide) c103.1 c103.2) (xoF_all (show xoF 247 by unfold xoF; omega) (Q := fun p => xoJ (p + 2)) ⟨by decide, rfl⟩ ⟨by decide, rfl⟩ ⟨by decide, rfl⟩ ⟨by decide, rfl⟩ ⟨by decide, rfl⟩ ⟨by decide, rfl⟩ ⟨by decide, rfl⟩) (xin_wr _) e105) ?_
        rintro ⟨v_, M108⟩ ⟨hv_, h106, hi107⟩
        cases hv_
        refine xok_ite (fun c109 => ?_) (fun c109 => ?_)
        · rw [if_pos c109] at e
          exact s304_135 hI  hr75 h106 tx1 tx2 tx3 e
        · rw [if_neg c109] at e
          refine xok_eqb (h106.pt (o := 0) (c := 15) (k := 77) (t := 247) (n := 107) (by decide) rfl (by decide) (by decide +kernel)) ?_
          obtain ⟨R110, e111, e⟩ := xbnd e
          refine xok_eqb (h106.is (o := 0) (c := 15) (by decide) rfl) ?_
          refine xok_call (sg303 hI  h106 tx1 (show xin (1) by decide) (show xoF 247 by unfold xoF; omega) tx3 e111) ?_
          intro M114 h112
          exact s304_135 hI  hr75 h112 tx1 tx2 tx3 e
      · rw [if_neg c103] at e; cases e
    · rw [if_neg c102] at e; cases e
theorem s304_75 {m f : Nat} {M0 : xj_M} (hI : xHI f)     : ∀ {n : Nat} {M : xj_M} {G : xG_} {x1 : Nat} {x2 : Int} {x3 : Int} {R : Int × xG_}, xRX m M0 M G → xoL x1 → xin x2 → xin x3 → g304_75   f n x1 x2 x3 G = some R → xok (f304_75   f n m (m + x1) x2 x3 M) (fun r => r.1 = R.1 ∧ xRX m M0 r.2 R.2 ∧ xin R.1) := by
  intro n
  induction n with
  | zero => intros; rename_i e; cases e
  | succ n ih =>
    intros
    rename_i h i0 i1 i2 e
    exact s304_75b hI   ih h i0 i1 i2 e
theorem s304_7b {m f : Nat} {M0 M : xj_M} {G : xG_} (hI : xHI f)  {r7 : Nat → Int → Int → xG_ → Option (Int × xG_)} {o7 : Nat → Nat → Int → Int → xj_M → Option (Int × xj_M)}  (hr7 : ∀ {M : xj_M} {G : xG_} {x1 : Nat} {x2 : Int} {x3 : Int} {R : Int × xG_}, xRX m M0 M G → xoL x1 → xin x2 → xin x3 → r7 x1 x2 x3 G = some R → xok (o7 m (m + x1) x2 x3 M) (fun r => r.1 = R.1 ∧ xRX m M0 r.2 R.2 ∧ xin R.1)) (h : xRX m M0 M G) {x1 : Nat} {x2 : Int} {x3 : Int} {R : Int × xG_} (tx1 : xoL x1) (tx2 : xin x2) (tx3 : xin x3) (e : g304_7b  r7 f x1 x2 x3 G = some R) : xok (f304_7b  o7 f m (m + x1) x2 x3 M) (fun r => r.1 = R.1 ∧ xRX m M0 r.2 R.2 ∧ xin R.1) := by
  unfold g304_7b at e
  unfold f304_7b
  refine xok_eqb (h.pt (o := 0) (c := 15) (k := 76) (t := 243) (n := 107) (by decide) rfl (by decide) (by decide +kernel)) ?_
  refine xok_eqb (h.gi (o := 243) (c := 12) (k := 3) (n := 4) (xoF_o (show xoF 243 by unfold xoF; omega)).1 (xoF_o (show xoF 243 by unfold xoF; omega)).2 (by decide) (by decide)) ?_
  refine xok_ite (fun c115 => ?_) (fun c115 => ?_)
  · rw [if_pos c115] at e
    exact s304_75 hI   h tx1 tx2 (show xin (0) by decide) e
  · rw [if_neg c115] at e
    refine xok_eqb (h.pt (o := 0) (c := 15) (k := 77) (t := 247) (n := 107) (by decide) rfl (by decide) (by decide +kernel)) ?_
    refine xok_eqb (h.pt (o := 0) (c := 15) (k := 76) (t := 243) (n := 107) (by decide) rfl (by decide) (by decide +kernel)) ?_
    refine xok_eqb (h.pt (o := 243) (c := 12) (k := 0) (t := 243 + 1) (n := 4) (xoF_o (show xoF 243 by unfold xoF; omega)).1 (xoF_o (show xoF 243 by unfold xoF; omega)).2 (by decide) (xoF_all (show xoF 243 by unfold xoF; omega) (Q := fun p => (p, 0, p + 1) ∈ xl_P) (by decide +kernel) (by decide +kernel) (by decide +kernel) (by decide +kernel) (by decide +kernel) (by decide +kernel) (by decide +kernel))) ?_
    by_cases c116 : 0 ≤ (x3) ∧ (x3) < 3400
    · skip
      rw [if_pos c116] at e
      refine xok_eqb (h.al (o := 243 + 1) (n := 3400) (xoF_all (show xoF 243 by unfold xoF; omega) (Q := fun p => p + 1 < 276) (by decide) (by decide) (by decide) (by decide) (by decide) (by decide) (by decide)) (xoF_all (show xoF 243 by unfold xoF; omega) (Q := fun p => xl_t (p + 1) = (2, 4, 3400)) rfl rfl rfl rfl rfl rfl rfl)  c116.1 c116.2) ?_
      refine xok_eqb (h.pt (o := 0) (c := 15) (k := 76) (t := 243) (n := 107) (by decide) rfl (by decide) (by decide +kernel)) ?_
      refine xok_eqb (h.pt (o := 243) (c := 12) (k := 2) (t := 243 + 3) (n := 4) (xoF_o (show xoF 243 by unfold xoF; omega)).1 (xoF_o (show xoF 243 by unfold xoF; omega)).2 (by decide) (xoF_all (show xoF 243 by unfold xoF; omega) (Q := fun p => (p, 2, p + 3) ∈ xl_P) (by decide +kernel) (by decide +kernel) (by decide +kernel) (by decide +kernel) (by decide +kernel) (by decide +kernel) (by decide +kernel))) ?_
      by_cases c117 : 0 ≤ (x3) ∧ (x3) < 3400
      · skip
        rw [if_pos c117] at e
        refine xok_eqb (h.ai (o := 243 + 3) (n := 3400) (xoF_all (show xoF 243 by unfold xoF; omega) (Q := fun p => p + 3 < 276) (by decide) (by decide) (by decide) (by decide) (by decide) (by decide) (by decide)) (xoF_all (show xoF 243 by unfold xoF; omega) (Q := fun p => xl_t (p + 3) = (2, 3, 3400)) rfl rfl rfl rfl rfl rfl rfl) (by decide) c117.1 c117.2) ?_
        refine xok_eqb (h.pt (o := 0) (c := 15) (k := 76) (t := 243) (n := 107) (by decide) rfl (by decide) (by decide +kernel)) ?_
        refine xok_eqb (h.pt (o := 243) (c := 12) (k := 1) (t := 243 + 2) (n := 4) (xoF_o (show xoF 243 by unfold xoF; omega)).1 (xoF_o (show xoF 243 by unfold xoF; omega)).2 (by decide) (xoF_all (show xoF 243 by unfold xoF; omega) (Q := fun p => (p, 1, p + 2) ∈ xl_P) (by decide +kernel) (by decide +kernel) (by decide +kernel) (by decide +kernel) (by decide +kernel) (by decide +kernel) (by decide +kernel))) ?_
        obtain ⟨R118, e119, e⟩ := xbnd e
        refine xok_eqb (h.is (o := 247) (c := 12) (xoF_o (show xoF 247 by unfold xoF; omega)).1 (xoF_o (show xoF 247 by unfold xoF; omega)).2) ?_
        refine xok_call (sg197 hI  h (show xoF 247 by unfold xoF; omega) (h.aln (o := 243 + 1) (n := 3400) (xoF_all (show xoF 243 by unfold xoF; omega) (Q := fun p => p + 1 < 276) (by decide) (by decide) (by decide) (by decide) (by decide) (by decide) (by decide)) (xoF_all (show xoF 243 by unfold xoF; omega) (Q := fun p => xl_t (p + 1) = (2, 4, 3400)) rfl rfl rfl rfl rfl rfl rfl)  c116.1 c116.2) (h.ain (o := 243 + 3) (n := 3400) (xoF_all (show xoF 243 by unfold xoF; omega) (Q := fun p => p + 3 < 276) (by decide) (by decide) (by decide) (by decide) (by decide) (by decide) (by decide)) (xoF_all (show xoF 243 by unfold xoF; omega) (Q := fun p => xl_t (p + 3) = (2, 3, 3400)) rfl rfl rfl rfl rfl rfl rfl) (by decide) c117.1 c117.2) (xoF_all (show xoF 243 by unfold xoF; omega) (Q := fun p => xoJ (p + 2)) ⟨by decide, rfl⟩ ⟨by decide, rfl⟩ ⟨by decide, rfl⟩ ⟨by decide, rfl⟩ ⟨by decide, rfl⟩ ⟨by decide, rfl⟩ ⟨by decide, rfl⟩) (xin_wr _) e119) ?_
        rintro ⟨v_, M122⟩ ⟨hv_, h120, hi121⟩
        cases hv_
        refine xok_ite (fun c123 => ?_) (fun c123 => ?_)
        · rw [if_pos c123] at e
          exact s304_67 hI  hr7 h120 tx1 tx2 tx3 e
        · rw [if_neg c123] at e
          refine xok_eqb (h120.pt (o := 0) (c := 15) (k := 76) (t := 243) (n := 107) (by decide) rfl (by decide) (by decide +kernel)) ?_
          obtain ⟨R124, e125, e⟩ := xbnd e
          refine xok_eqb (h120.is (o := 0) (c := 15) (by decide) rfl) ?_
          refine xok_call (sg303 hI  h120 tx1 (show xin (-1) by decide) (show xoF 243 by unfold xoF; omega) tx3 e125) ?_
          intro M128 h126
          exact s304_67 hI  hr7 h126 tx1 tx2 tx3 e
      · rw [if_neg c117] at e; cases e
    · rw [if_neg c116] at e; cases e
theorem s304_7 {m f : Nat} {M0 : xj_M} (hI : xHI f)     : ∀ {n : Nat} {M : xj_M} {G : xG_} {x1 : Nat} {x2 : Int} {x3 : Int} {R : Int × xG_}, xRX m M0 M G → xoL x1 → xin x2 → xin x3 → g304_7   f n x1 x2 x3 G = some R → xok (f304_7   f n m (m + x1) x2 x3 M) (fun r => r.1 = R.1 ∧ xRX m M0 r.2 R.2 ∧ xin R.1) := by
  intro n
  induction n with
  | zero => intros; rename_i e; cases e
  | succ n ih =>
    intros
    rename_i h i0 i1 i2 e
    exact s304_7b hI   ih h i0 i1 i2 e
theorem sg304 {m f : Nat} {M0 M : xj_M} {G : xG_} (hI : xHI f)   (h : xRX m M0 M G) {a1 : Nat} {R : Int × xG_} (ta1 : xoL a1) (e : g304  f a1 G = some R) : xok (f304  f m (m + a1) M) (fun r => r.1 = R.1 ∧ xRX m M0 r.2 R.2 ∧ xin R.1) := by
  unfold g304 at e
  unfold f304
  refine xok_eqb (h.gi (o := a1) (c := 13) (k := 10) (n := 37) (xoL_o ta1).1 (xoL_o ta1).2 (by decide) (by decide)) ?_
  exact s304_7 hI   h ta1 (h.gin (o := a1) (c := 13) (k := 10) (n := 37) (xoL_o ta1).1 (xoL_o ta1).2 (by decide) (by decide)) (show xin (0) by decide) e
-- ChangeHouseModel.countWorked
theorem s305_159 {m f : Nat} {M0 M : xj_M} {G : xG_} (hI : xHI f)  {r2 : Nat → Int → Int → xG_ → Option (xG_)} {o2 : Nat → Nat → Int → Int → xj_M → Option (xj_M)}  (hr2 : ∀ {M : xj_M} {G : xG_} {x1 : Nat} {x2 : Int} {x3 : Int} {R : xG_}, xRX m M0 M G → xoL x1 → xin x2 → xin x3 → r2 x1 x2 x3 G = some R → xok (o2 m (m + x1) x2 x3 M) (fun r => xRX m M0 r R)) (h : xRX m M0 M G) {x1 : Nat} {x2 : Int} {x3 : Int} {R : xG_} (tx1 : xoL x1) (tx2 : xin x2) (tx3 : xin x3) (e : g305_159  r2 f x1 x2 x3 G = some R) : xok (f305_159  o2 f m (m + x1) x2 x3 M) (fun r => xRX m M0 r R) := by
  unfold g305_159 at e
  unfold f305_159
  exact hr2 h tx1 tx2 (xin_wr _) e
theorem s305_134 {m f : Nat} {M0 M : xj_M} {G : xG_} (hI : xHI f)  {r2 : Nat → Int → Int → xG_ → Option (xG_)} {o2 : Nat → Nat → Int → Int → xj_M → Option (xj_M)} {r34 : Nat → Int → Int → Int → Int → xG_ → Option (xG_)} {o34 : Nat → Nat → Int → Int → Int → Int → xj_M → Option (xj_M)}  (hr2 : ∀ {M : xj_M} {G : xG_} {x1 : Nat} {x2 : Int} {x3 : Int} {R : xG_}, xRX m M0 M G → xoL x1 → xin x2 → xin x3 → r2 x1 x2 x3 G = some R → xok (o2 m (m + x1) x2 x3 M) (fun r => xRX m M0 r R)) (hr34 : ∀ {M : xj_M} {G : xG_} {x1 : Nat} {x2 : Int} {x3 : Int} {x4 : Int} {x5 : Int} {R : xG_}, xRX m M0 M G → xoL x1 → xin x2 → xin x3 → xin x4 → xin x5 → r34 x1 x2 x3 x4 x5 G = some R → xok (o34 m (m + x1) x2 x3 x4 x5 M) (fun r => xRX m M0 r R)) (h : xRX m M0 M G) {x1 : Nat} {x2 : Int} {x3 : Int} {x4 : Int} {x5 : Int} {R : xG_} (tx1 : xoL x1) (tx2 : xin x2) (tx3 : xin x3) (tx4 : xin x4) (tx5 : xin x5) (e : g305_134  r2 r34 f x1 x2 x3 x4 x5 G = some R) : xok (f305_134  o2 o34 f m (m + x1) x2 x3 x4 x5 M) (fun r => xRX m M0 r R) := by
  unfold g305_134 at e
  unfold f305_134
  exact hr34 h tx1 tx2 tx3 tx4 (xin_wr _) e
theorem s305_126 {m f : Nat} {M0 M : xj_M} {G : xG_} (hI : xHI f)  {r2 : Nat → Int → Int → xG_ → Option (xG_)} {o2 : Nat → Nat → Int → Int → xj_M → Option (xj_M)} {r34 : Nat → Int → Int → Int → Int → xG_ → Option (xG_)} {o34 : Nat → Nat → Int → Int → Int → Int → xj_M → Option (xj_M)} {r74 : Nat → Int → Int → Int → Int → Int → xG_ → Option (xG_)} {o74 : Nat → Nat → Int → Int → Int → Int → Int → xj_M → Option (xj_M)}  (hr2 : ∀ {M : xj_M} {G : xG_} {x1 : Nat} {x2 : Int} {x3 : Int} {R : xG_}, xRX m M0 M G → xoL x1 → xin x2 → xin x3 → r2 x1 x2 x3 G = some R → xok (o2 m (m + x1) x2 x3 M) (fun r => xRX m M0 r R)) (hr34 : ∀ {M : xj_M} {G : xG_} {x1 : Nat} {x2 : Int} {x3 : Int} {x4 : Int} {x5 : Int} {R : xG_}, xRX m M0 M G → xoL x1 → xin x2 → xin x3 → xin x4 → xin x5 → r34 x1 x2 x3 x4 x5 G = some R → xok (o34 m (m + x1) x2 x3 x4 x5 M) (fun r => xRX m M0 r R)) (hr74 : ∀ {M : xj_M} {G : xG_} {x1 : Nat} {x2 : Int} {x3 : Int} {x4 : Int} {x5 : Int} {x6 : Int} {R : xG_}, xRX m M0 M G → xoL x1 → xin x2 → xin x3 → xin x4 → xin x5 → xin x6 → r74 x1 x2 x3 x4 x5 x6 G = some R → xok (o74 m (m + x1) x2 x3 x4 x5 x6 M) (fun r => xRX m M0 r R)) (h : xRX m M0 M G) {x1 : Nat} {x2 : Int} {x3 : Int} {x5 : Int} {x6 : Int} {y0 : Int} {R : xG_} (tx1 : xoL x1) (tx2 : xin x2) (tx3 : xin x3) (tx5 : xin x5) (tx6 : xin x6) (ty0 : xin y0) (e : g305_126  r2 r34 r74 f x1 x2 x3 x5 x6 y0 G = some R) : xok (f305_126  o2 o34 o74 f m (m + x1) x2 x3 x5 x6 y0 M) (fun r => xRX m M0 r R) := by
  unfold g305_126 at e
  unfold f305_126
  exact hr74 h tx1 tx2 tx3 ty0 tx5 (xin_wr _) e
theorem s305_121 {m f : Nat} {M0 M : xj_M} {G : xG_} (hI : xHI f)  {r2 : Nat → Int → Int → xG_ → Option (xG_)} {o2 : Nat → Nat → Int → Int → xj_M → Option (xj_M)} {r34 : Nat → Int → Int → Int → Int → xG_ → Option (xG_)} {o34 : Nat → Nat → Int → Int → Int → Int → xj_M → Option (xj_M)} {r74 : Nat → Int → Int → Int → Int → Int → xG_ → Option (xG_)} {o74 : Nat → Nat → Int → Int → Int → Int → Int → xj_M → Option (xj_M)}  (hr2 : ∀ {M : xj_M} {G : xG_} {x1 : Nat} {x2 : Int} {x3 : Int} {R : xG_}, xRX m M0 M G → xoL x1 → xin x2 → xin x3 → r2 x1 x2 x3 G = some R → xok (o2 m (m + x1) x2 x3 M) (fun r => xRX m M0 r R)) (hr34 : ∀ {M : xj_M} {G : xG_} {x1 : Nat} {x2 : Int} {x3 : Int} {x4 : Int} {x5 : Int} {R : xG_}, xRX m M0 M G → xoL x1 → xin x2 → xin x3 → xin x4 → xin x5 → r34 x1 x2 x3 x4 x5 G = some R → xok (o34 m (m + x1) x2 x3 x4 x5 M) (fun r => xRX m M0 r R)) (hr74 : ∀ {M : xj_M} {G : xG_} {x1 : Nat} {x2 : Int} {x3 : Int} {x4 : Int} {x5 : Int} {x6 : Int} {R : xG_}, xRX m M0 M G → xoL x1 → xin x2 → xin x3 → xin x4 → xin x5 → xin x6 → r74 x1 x2 x3 x4 x5 x6 G = some R → xok (o74 m (m + x1) x2 x3 x4 x5 x6 M) (fun r => xRX m M0 r R)) (h : xRX m M0 M G) {x1 : Nat} {x2 : Int} {x3 : Int} {x5 : Int} {x6 : Int} {R : xG_} (tx1 : xoL x1) (tx2 : xin x2) (tx3 : xin x3) (tx5 : xin x5) (tx6 : xin x6) (e : g305_121  r2 r34 r74 f x1 x2 x3 x5 x6 G = some R) : xok (f305_121  o2 o34 o74 f m (m + x1) x2 x3 x5 x6 M) (fun r => xRX m M0 r R) := by
  unfold g305_121 at e
  unfold f305_121
  exact s305_126 hI  hr2 hr34 hr74 h tx1 tx2 tx3 tx5 tx6 (show xin (1) by decide) e
theorem s305_125 {m f : Nat} {M0 M : xj_M} {G : xG_} (hI : xHI f)  {r2 : Nat → Int → Int → xG_ → Option (xG_)} {o2 : Nat → Nat → Int → Int → xj_M → Option (xj_M)} {r34 : Nat → Int → Int → Int → Int → xG_ → Option (xG_)} {o34 : Nat → Nat → Int → Int → Int → Int → xj_M → Option (xj_M)} {r74 : Nat → Int → Int → Int → Int → Int → xG_ → Option (xG_)} {o74 : Nat → Nat → Int → Int → Int → Int → Int → xj_M → Option (xj_M)}  (hr2 : ∀ {M : xj_M} {G : xG_} {x1 : Nat} {x2 : Int} {x3 : Int} {R : xG_}, xRX m M0 M G → xoL x1 → xin x2 → xin x3 → r2 x1 x2 x3 G = some R → xok (o2 m (m + x1) x2 x3 M) (fun r => xRX m M0 r R)) (hr34 : ∀ {M : xj_M} {G : xG_} {x1 : Nat} {x2 : Int} {x3 : Int} {x4 : Int} {x5 : Int} {R : xG_}, xRX m M0 M G → xoL x1 → xin x2 → xin x3 → xin x4 → xin x5 → r34 x1 x2 x3 x4 x5 G = some R → xok (o34 m (m + x1) x2 x3 x4 x5 M) (fun r => xRX m M0 r R)) (hr74 : ∀ {M : xj_M} {G : xG_} {x1 : Nat} {x2 : Int} {x3 : Int} {x4 : Int} {x5 : Int} {x6 : Int} {R : xG_}, xRX m M0 M G → xoL x1 → xin x2 → xin x3 → xin x4 → xin x5 → xin x6 → r74 x1 x2 x3 x4 x5 x6 G = some R → xok (o74 m (m + x1) x2 x3 x4 x5 x6 M) (fun r => xRX m M0 r R)) (h : xRX m M0 M G) {x1 : Nat} {x2 : Int} {x3 : Int} {x5 : Int} {x6 : Int} {R : xG_} (tx1 : xoL x1) (tx2 : xin x2) (tx3 : xin x3) (tx5 : xin x5) (tx6 : xin x6) (e : g305_125  r2 r34 r74 f x1 x2 x3 x5 x6 G = some R) : xok (f305_125  o2 o34 o74 f m (m + x1) x2 x3 x5 x6 M) (fun r => xRX m M0 r R) := by
  unfold g305_125 at e
  unfold f305_125
  exact s305_126 hI  hr2 hr34 hr74 h tx1 tx2 tx3 tx5 tx6 (show xin (0) by decide) e
theorem s305_74b {m f : Nat} {M0 M : xj_M} {G : xG_} (hI : xHI f)  {r2 : Nat → Int → Int → xG_ → Option (xG_)} {o2 : Nat → Nat → Int → Int → xj_M → Option (xj_M)} {r34 : Nat → Int → Int → Int → Int → xG_ → Option (xG_)} {o34 : Nat → Nat → Int → Int → Int → Int → xj_M → Option (xj_M)} {r74 : Nat → Int → Int → Int → Int → Int → xG_ → Option (xG_)} {o74 : Nat → Nat → Int → Int → Int → Int → Int → xj_M → Option (xj_M)}  (hr2 : ∀ {M : xj_M} {G : xG_} {x1 : Nat} {x2 : Int} {x3 : Int} {R : xG_}, xRX m M0 M G → xoL x1 → xin x2 → xin x3 → r2 x1 x2 x3 G = some R → xok (o2 m (m + x1) x2 x3 M) (fun r => xRX m M0 r R)) (hr34 : ∀ {M : xj_M} {G : xG_} {x1 : Nat} {x2 : Int} {x3 : Int} {x4 : Int} {x5 : Int} {R : xG_}, xRX m M0 M G → xoL x1 → xin x2 → xin x3 → xin x4 → xin x5 → r34 x1 x2 x3 x4 x5 G = some R → xok (o34 m (m + x1) x2 x3 x4 x5 M) (fun r => xRX m M0 r R)) (hr74 : ∀ {M : xj_M} {G : xG_} {x1 : Nat} {x2 : Int} {x3 : Int} {x4 : Int} {x5 : Int} {x6 : Int} {R : xG_}, xRX m M0 M G → xoL x1 → xin x2 → xin x3 → xin x4 → xin x5 → xin x6 → r74 x1 x2 x3 x4 x5 x6 G = some R → xok (o74 m (m + x1) x2 x3 x4 x5 x6 M) (fun r => xRX m M0 r R)) (h : xRX m M0 M G) {x1 : Nat} {x2 : Int} {x3 : Int} {x4 : Int} {x5 : Int} {x6 : Int} {R : xG_} (tx1 : xoL x1) (tx2 : xin x2) (tx3 : xin x3) (tx4 : xin x4) (tx5 : xin x5) (tx6 : xin x6) (e : g305_74b  r2 r34 r74 f x1 x2 x3 x4 x5 x6 G = some R) : xok (f305_74b  o2 o34 o74 f m (m + x1) x2 x3 x4 x5 x6 M) (fun r => xRX m M0 r R) := by
  unfold g305_74b at e
  unfold f305_74b
  refine xok_eqb (h.pt (o := 0) (c := 15) (k := 29) (t := 2) (n := 107) (by decide) rfl (by decide) (by decide +kernel)) ?_
  refine xok_eqb (h.gi (o := 2) (c := 14) (k := 8) (n := 38) (xoP_o (show xoP 2 by unfold xoP; omega)).1 (xoP_o (show xoP 2 by unfold xoP; omega)).2 (by decide) (by decide)) ?_
  refine xok_ite (fun c101 => ?_) (fun c101 => ?_)
  · rw [if_pos c101] at e
    exact s305_134 hI  hr2 hr34 h tx1 tx2 tx3 tx4 tx5 e
  · rw [if_neg c101] at e
    refine xok_ite (fun c102 => ?_) (fun c102 => ?_)
    · rw [if_pos c102] at e
      exact s305_121 hI  hr2 hr34 hr74 h tx1 tx2 tx3 tx5 tx6 e
    · rw [if_neg c102] at e
      refine xok_eqb (h.pt (o := 0) (c := 15) (k := 29) (t := 2) (n := 107) (by decide) rfl (by decide) (by decide +kernel)) ?_
      refine xok_eqb (h.pt (o := 2) (c := 14) (k := 3) (t := 2 + 4) (n := 38) (xoP_o (show xoP 2 by unfold xoP; omega)).1 (xoP_o (show xoP 2 by unfold xoP; omega)).2 (by decide) (xoP_all (show xoP 2 by unfold xoP; omega) (Q := fun p => (p, 3, p + 4) ∈ xl_P) (by decide +kernel) (by decide +kernel) (by decide +kernel))) ?_
      by_cases c103 : 0 ≤ (x5) ∧ (x5) < 16
      · skip
        rw [if_pos c103] at e
        refine xok_eqb (h.ai (o := 2 + 4) (n := 16) (xoP_all (show xoP 2 by unfold xoP; omega) (Q := fun p => p + 4 < 276) (by decide) (by decide) (by decide)) (xoP_all (show xoP 2 by unfold xoP; omega) (Q := fun p => xl_t (p + 4) = (2, 3, 16)) rfl rfl rfl) (by decide) c103.1 c103.2) ?_
        refine xok_ite (fun c104 => ?_) (fun c104 => ?_)
        · rw [if_pos c104] at e
          exact s305_125 hI  hr2 hr34 hr74 h tx1 tx2 tx3 tx5 tx6 e
        · rw [if_neg c104] at e
          refine xok_eqb (h.pt (o := x1) (c := 13) (k := 22) (t := x1 + 19) (n := 37) (xoL_o tx1).1 (xoL_o tx1).2 (by decide) (xoL_all tx1 (Q := fun p => (p, 22, p + 19) ∈ xl_P) (by decide +kernel) (by decide +kernel) (by decide +kernel) (by decide +kernel))) ?_
          by_cases c105 : 0 ≤ (x6) ∧ (x6) < 16
          · skip
            rw [if_pos c105] at e
            refine xok_eqb (h.ai (o := x1 + 19) (n := 16) (xoL_all tx1 (Q := fun p => p + 19 < 276) (by decide) (by decide) (by decide) (by decide)) (xoL_all tx1 (Q := fun p => xl_t (p + 19) = (2, 3, 16)) rfl rfl rfl rfl) (by decide) c105.1 c105.2) ?_
            refine xok_ite (fun c106 => ?_) (fun c106 => ?_)
            · rw [if_pos c106] at e
              exact s305_125 hI  hr2 hr34 hr74 h tx1 tx2 tx3 tx5 tx6 e
            · rw [if_neg c106] at e
              exact s305_121 hI  hr2 hr34 hr74 h tx1 tx2 tx3 tx5 tx6 e
          · rw [if_neg c105] at e; cases e
      · rw [if_neg c103] at e; cases e
theorem s305_74 {m f : Nat} {M0 : xj_M} (hI : xHI f)  {r2 : Nat → Int → Int → xG_ → Option (xG_)} {o2 : Nat → Nat → Int → Int → xj_M → Option (xj_M)} {r34 : Nat → Int → Int → Int → Int → xG_ → Option (xG_)} {o34 : Nat → Nat → Int → Int → Int → Int → xj_M → Option (xj_M)}  (hr2 : ∀ {M : xj_M} {G : xG_} {x1 : Nat} {x2 : Int} {x3 : Int} {R : xG_}, xRX m M0 M G → xoL x1 → xin x2 → xin x3 → r2 x1 x2 x3 G = some R → xok (o2 m (m + x1) x2 x3 M) (fun r => xRX m M0 r R)) (hr34 : ∀ {M : xj_M} {G : xG_} {x1 : Nat} {x2 : Int} {x3 : Int} {x4 : Int} {x5 : Int} {R : xG_}, xRX m M0 M G → xoL x1 → xin x2 → xin x3 → xin x4 → xin x5 → r34 x1 x2 x3 x4 x5 G = some R → xok (o34 m (m + x1) x2 x3 x4 x5 M) (fun r => xRX m M0 r R)) : ∀ {n : Nat} {M : xj_M} {G : xG_} {x1 : Nat} {x2 : Int} {x3 : Int} {x4 : Int} {x5 : Int} {x6 : Int} {R : xG_}, xRX m M0 M G → xoL x1 → xin x2 → xin x3 → xin x4 → xin x5 → xin x6 → g305_74  r2 r34 f n x1 x2 x3 x4 x5 x6 G = some R → xok (f305_74  o2 o34 f n m (m + x1) x2 x3 x4 x5 x6 M) (fun r => xRX m M0 r R) := by
  intro n
  induction n with
  | zero => intros; rename_i e; cases e
  | succ n ih =>
    intros
    rename_i h i0 i1 i2 i3 i4 i5 e
    exact s305_74b hI  hr2 hr34 ih h i0 i1 i2 i3 i4 i5 e
theorem s305_157 {m f : Nat} {M0 M : xj_M} {G : xG_} (hI : xHI f)  {r2 : Nat → Int → Int → xG_ → Option (xG_)} {o2 : Nat → Nat → Int → Int → xj_M → Option (xj_M)}  (hr2 : ∀ {M : xj_M} {G : xG_} {x1 : Nat} {x2 : Int} {x3 : Int} {R : xG_}, xRX m M0 M G → xoL x1 → xin x2 → xin x3 → r2 x1 x2 x3 G = some R → xok (o2 m (m + x1) x2 x3 M) (fun r => xRX m M0 r R)) (h : xRX m M0 M G) {x1 : Nat} {x2 : Int} {x3 : Int} {y0 : Int} {y1 : Int} {y2 : Int} {y3 : Nat} {R : xG_} (tx1 : xoL x1) (tx2 : xin x2) (tx3 : xin x3) (ty0 : xin y0) (ty1 : xin y1) (ty2 : xin y2) (ty3 : xoI y3) (e : g305_157  r2 f x1 x2 x3 y0 y1 y2 y3 G = some R) : xok (f305_157  o2 f m (m + x1) x2 x3 y0 y1 y2 (m + y3) M) (fun r => xRX m M0 r R) := by
  unfold g305_157 at e
  unfold f305_157
  by_cases c107 : 0 ≤ (y2) ∧ (y2) < ((xl_t (y3)).2.2 : Int)
  · skip
    rw [if_pos c107] at e
    obtain ⟨M108, q109, h110⟩ := h.si (o := y3) (n := (xl_t (y3)).2.2) (v := xwr ((y1) + (y0))) ty3.1 ty3.2 c107.1 c107.2 (xin_wr _)
    refine xok_eqb q109 ?_
    obtain ⟨G111, g1, e⟩ := xbnd e
    cases g1
    have h110_ : xRX m M0 M108 (xup2 G (y3) (y2).toNat (xwr ((y1) + (y0)))) := h110
    generalize hGG111 : (xup2 G (y3) (y2).toNat (xwr ((y1) + (y0)))) = G111 at e h110
    clear h110_ hGG111
    exact s305_159 hI  hr2 h110 tx1 tx2 tx3 e
  · rw [if_neg c107] at e; cases e
theorem s305_34b {m f : Nat} {M0 M : xj_M} {G : xG_} (hI : xHI f)  {r2 : Nat → Int → Int → xG_ → Option (xG_)} {o2 : Nat → Nat → Int → Int → xj_M → Option (xj_M)} {r34 : Nat → Int → Int → Int → Int → xG_ → Option (xG_)} {o34 : Nat → Nat → Int → Int → Int → Int → xj_M → Option (xj_M)}  (hr2 : ∀ {M : xj_M} {G : xG_} {x1 : Nat} {x2 : Int} {x3 : Int} {R : xG_}, xRX m M0 M G → xoL x1 → xin x2 → xin x3 → r2 x1 x2 x3 G = some R → xok (o2 m (m + x1) x2 x3 M) (fun r => xRX m M0 r R)) (hr34 : ∀ {M : xj_M} {G : xG_} {x1 : Nat} {x2 : Int} {x3 : Int} {x4 : Int} {x5 : Int} {R : xG_}, xRX m M0 M G → xoL x1 → xin x2 → xin x3 → xin x4 → xin x5 → r34 x1 x2 x3 x4 x5 G = some R → xok (o34 m (m + x1) x2 x3 x4 x5 M) (fun r => xRX m M0 r R)) (h : xRX m M0 M G) {x1 : Nat} {x2 : Int} {x3 : Int} {x4 : Int} {x5 : Int} {R : xG_} (tx1 : xoL x1) (tx2 : xin x2) (tx3 : xin x3) (tx4 : xin x4) (tx5 : xin x5) (e : g305_34b  r2 r34 f x1 x2 x3 x4 x5 G = some R) : xok (f305_34b  o2 o34 f m (m + x1) x2 x3 x4 x5 M) (fun r => xRX m M0 r R) := by
  unfold g305_34b at e
  unfold f305_34b
  refine xok_eqb (h.pt (o := 0) (c := 15) (k := 29) (t := 2) (n := 107) (by decide) rfl (by decide) (by decide +kernel)) ?_
  refine xok_eqb (h.gi (o := 2) (c := 14) (k := 8) (n := 38) (xoP_o (show xoP 2 by unfold xoP; omega)).1 (xoP_o (show xoP 2 by unfold xoP; omega)).2 (by decide) (by decide)) ?_
  refine xok_ite (fun c112 => ?_) (fun c112 => ?_)
  · rw [if_pos c112] at e
    refine xok_eqb (h.pt (o := x1) (c := 13) (k := 21) (t := x1 + 18) (n := 37) (xoL_o tx1).1 (xoL_o tx1).2 (by decide) (xoL_all tx1 (Q := fun p => (p, 21, p + 18) ∈ xl_P) (by decide +kernel) (by decide +kernel) (by decide +kernel) (by decide +kernel))) ?_
    by_cases c113 : 0 ≤ (x3) ∧ (x3) < 16
    · skip
      rw [if_pos c113] at e
      refine xok_eqb (h.ai (o := x1 + 18) (n := 16) (xoL_all tx1 (Q := fun p => p + 18 < 276) (by decide) (by decide) (by decide) (by decide)) (xoL_all tx1 (Q := fun p => xl_t (p + 18) = (2, 3, 16)) rfl rfl rfl rfl) (by decide) c113.1 c113.2) ?_
      refine xok_ite (fun c114 => ?_) (fun c114 => ?_)
      · rw [if_pos c114] at e
        exact s305_157 hI  hr2 h tx1 tx2 tx3 (show xin (0) by decide) (h.ain (o := x1 + 18) (n := 16) (xoL_all tx1 (Q := fun p => p + 18 < 276) (by decide) (by decide) (by decide) (by decide)) (xoL_all tx1 (Q := fun p => xl_t (p + 18) = (2, 3, 16)) rfl rfl rfl rfl) (by decide) c113.1 c113.2) tx3 (xoL_all tx1 (Q := fun p => xoI (p + 18)) ⟨by decide, rfl⟩ ⟨by decide, rfl⟩ ⟨by decide, rfl⟩ ⟨by decide, rfl⟩) e
      · rw [if_neg c114] at e
        exact s305_157 hI  hr2 h tx1 tx2 tx3 (show xin (1) by decide) (h.ain (o := x1 + 18) (n := 16) (xoL_all tx1 (Q := fun p => p + 18 < 276) (by decide) (by decide) (by decide) (by decide)) (xoL_all tx1 (Q := fun p => xl_t (p + 18) = (2, 3, 16)) rfl rfl rfl rfl) (by decide) c113.1 c113.2) tx3 (xoL_all tx1 (Q := fun p => xoI (p + 18)) ⟨by decide, rfl⟩ ⟨by decide, rfl⟩ ⟨by decide, rfl⟩ ⟨by decide, rfl⟩) e
    · rw [if_neg c113] at e; cases e
  · rw [if_neg c112] at e
    refine xok_eqb (h.pt (o := 0) (c := 15) (k := 29) (t := 2) (n := 107) (by decide) rfl (by decide) (by decide +kernel)) ?_
    refine xok_eqb (h.pt (o := 2) (c := 14) (k := 4) (t := 2 + 5) (n := 38) (xoP_o (show xoP 2 by unfold xoP; omega)).1 (xoP_o (show xoP 2 by unfold xoP; omega)).2 (by decide) (xoP_all (show xoP 2 by unfold xoP; omega) (Q := fun p => (p, 4, p + 5) ∈ xl_P) (by decide +kernel) (by decide +kernel) (by decide +kernel))) ?_
    by_cases c115 : 0 ≤ (x5) ∧ (x5) < 16
    · skip
      rw [if_pos c115] at e
      refine xok_eqb (h.ai (o := 2 + 5) (n := 16) (xoP_all (show xoP 2 by unfold xoP; omega) (Q := fun p => p + 5 < 276) (by decide) (by decide) (by decide)) (xoP_all (show xoP 2 by unfold xoP; omega) (Q := fun p => xl_t (p + 5) = (2, 3, 16)) rfl rfl rfl) (by decide) c115.1 c115.2) ?_
      refine xok_eqb (h.pt (o := 0) (c := 15) (k := 29) (t := 2) (n := 107) (by decide) rfl (by decide) (by decide +kernel)) ?_
      refine xok_eqb (h.pt (o := 2) (c := 14) (k := 4) (t := 2 + 5) (n := 38) (xoP_o (show xoP 2 by unfold xoP; omega)).1 (xoP_o (show xoP 2 by unfold xoP; omega)).2 (by decide) (xoP_all (show xoP 2 by unfold xoP; omega) (Q := fun p => (p, 4, p + 5) ∈ xl_P) (by decide +kernel) (by decide +kernel) (by decide +kernel))) ?_
      by_cases c116 : 0 ≤ (x3) ∧ (x3) < 16
      · skip
        rw [if_pos c116] at e
        refine xok_eqb (h.ai (o := 2 + 5) (n := 16) (xoP_all (show xoP 2 by unfold xoP; omega) (Q := fun p => p + 5 < 276) (by decide) (by decide) (by decide)) (xoP_all (show xoP 2 by unfold xoP; omega) (Q := fun p => xl_t (p + 5) = (2, 3, 16)) rfl rfl rfl) (by decide) c116.1 c116.2) ?_
        refine xok_ite (fun c117 => ?_) (fun c117 => ?_)
        · rw [if_pos c117] at e
          exact s305_74 hI  hr2 hr34 h tx1 tx2 tx3 tx4 tx5 (show xin (0) by decide) e
        · rw [if_neg c117] at e
          exact s305_134 hI  hr2 hr34 h tx1 tx2 tx3 tx4 tx5 e
      · rw [if_neg c116] at e; cases e
    · rw [if_neg c115] at e; cases e
theorem s305_34 {m f : Nat} {M0 : xj_M} (hI : xHI f)  {r2 : Nat → Int → Int → xG_ → Option (xG_)} {o2 : Nat → Nat → Int → Int → xj_M → Option (xj_M)}  (hr2 : ∀ {M : xj_M} {G : xG_} {x1 : Nat} {x2 : Int} {x3 : Int} {R : xG_}, xRX m M0 M G → xoL x1 → xin x2 → xin x3 → r2 x1 x2 x3 G = some R → xok (o2 m (m + x1) x2 x3 M) (fun r => xRX m M0 r R)) : ∀ {n : Nat} {M : xj_M} {G : xG_} {x1 : Nat} {x2 : Int} {x3 : Int} {x4 : Int} {x5 : Int} {R : xG_}, xRX m M0 M G → xoL x1 → xin x2 → xin x3 → xin x4 → xin x5 → g305_34  r2 f n x1 x2 x3 x4 x5 G = some R → xok (f305_34  o2 f n m (m + x1) x2 x3 x4 x5 M) (fun r => xRX m M0 r R) := by
  intro n
  induction n with
  | zero => intros; rename_i e; cases e
  | succ n ih =>
    intros
    rename_i h i0 i1 i2 i3 i4 e
    exact s305_34b hI  hr2 ih h i0 i1 i2 i3 i4 e
theorem s305_2b {m f : Nat} {M0 M : xj_M} {G : xG_} (hI : xHI f)  {r2 : Nat → Int → Int → xG_ → Option (xG_)} {o2 : Nat → Nat → Int → Int → xj_M → Option (xj_M)}  (hr2 : ∀ {M : xj_M} {G : xG_} {x1 : Nat} {x2 : Int} {x3 : Int} {R : xG_}, xRX m M0 M G → xoL x1 → xin x2 → xin x3 → r2 x1 x2 x3 G = some R → xok (o2 m (m + x1) x2 x3 M) (fun r => xRX m M0 r R)) (h : xRX m M0 M G) {x1 : Nat} {x2 : Int} {x3 : Int} {R : xG_} (tx1 : xoL x1) (tx2 : xin x2) (tx3 : xin x3) (e : g305_2b  r2 f x1 x2 x3 G = some R) : xok (f305_2b  o2 f m (m + x1) x2 x3 M) (fun r => xRX m M0 r R) := by
  unfold g305_2b at e
  unfold f305_2b
  refine xok_eqb (h.pt (o := 0) (c := 15) (k := 29) (t := 2) (n := 107) (by decide) rfl (by decide) (by decide +kernel)) ?_
  refine xok_eqb (h.gi (o := 2) (c := 14) (k := 8) (n := 38) (xoP_o (show xoP 2 by unfold xoP; omega)).1 (xoP_o (show xoP 2 by unfold xoP; omega)).2 (by decide) (by decide)) ?_
  refine xok_ite (fun c118 => ?_) (fun c118 => ?_)
  · rw [if_pos c118] at e
    cases e
    exact ⟨_, rfl, h⟩
  · rw [if_neg c118] at e
    refine xok_eqb (h.pt (o := 0) (c := 15) (k := 29) (t := 2) (n := 107) (by decide) rfl (by decide) (by decide +kernel)) ?_
    refine xok_eqb (h.pt (o := 2) (c := 14) (k := 5) (t := 2 + 6) (n := 38) (xoP_o (show xoP 2 by unfold xoP; omega)).1 (xoP_o (show xoP 2 by unfold xoP; omega)).2 (by decide) (xoP_all (show xoP 2 by unfold xoP; omega) (Q := fun p => (p, 5, p + 6) ∈ xl_P) (by decide +kernel) (by decide +kernel) (by decide +kernel))) ?_
    by_cases c119 : 0 ≤ (x3) ∧ (x3) < 16
    · skip
      rw [if_pos c119] at e
      refine xok_eqb (h.ab (o := 2 + 6) (n := 16) (xoP_all (show xoP 2 by unfold xoP; omega) (Q := fun p => p + 6 < 276) (by decide) (by decide) (by decide)) (xoP_all (show xoP 2 by unfold xoP; omega) (Q := fun p => xl_t (p + 6) = (2, 0, 16)) rfl rfl rfl) (by decide) c119.1 c119.2) ?_
      refine xok_ite (fun c120 => ?_) (fun c120 => ?_)
      · rw [if_pos c120] at e
        exact s305_34 hI  hr2 h tx1 tx2 tx3 tx2 (show xin (0) by decide) e
      · rw [if_neg c120] at e
        exact s305_159 hI  hr2 h tx1 tx2 tx3 e
    · rw [if_neg c119] at e; cases e
theorem s305_2 {m f : Nat} {M0 : xj_M} (hI : xHI f)     : ∀ {n : Nat} {M : xj_M} {G : xG_} {x1 : Nat} {x2 : Int} {x3 : Int} {R : xG_}, xRX m M0 M G → xoL x1 → xin x2 → xin x3 → g305_2   f n x1 x2 x3 G = some R → xok (f305_2   f n m (m + x1) x2 x3 M) (fun r => xRX m M0 r R) := by
  intro n
  induction n with
  | zero => intros; rename_i e; cases e
  | succ n ih =>
    intros
    rename_i h i0 i1 i2 e
    exact s305_2b hI   ih h i0 i1 i2 e
theorem sg305 {m f : Nat} {M0 M : xj_M} {G : xG_} (hI : xHI f)   (h : xRX m M0 M G) {a1 : Nat} {a2 : Int} {R : xG_} (ta1 : xoL a1) (ta2 : xin a2) (e : g305  f a1 a2 G = some R) : xok (f305  f m (m + a1) a2 M) (fun r => xRX m M0 r R) := by
  unfold g305 at e
  unfold f305
  exact s305_2 hI   h ta1 ta2 (show xin (0) by decide) e
-- ChangeHouseModel.edit
theorem s307_41 {m f : Nat} {M0 M : xj_M} {G : xG_} (hI : xHI f)     (h : xRX m M0 M G)  {R : xG_}  (e : g307_41   f  G = some R) : xok (f307_41   f  M) (fun r => xRX m M0 r R) := by
  unfold g307_41 at e
  unfold f307_41
  cases e
  exact ⟨_, rfl, h⟩
theorem s307_65b {m f : Nat} {M0 M : xj_M} {G : xG_} (hI : xHI f)  {r65 : Nat → Nat → Int → Int → xG_ → Option (xG_)} {o65 : Nat → Nat → Int → Int → xj_M → Option (xj_M)}  (hr65 : ∀ {M : xj_M} {G : xG_} {x1 : Nat} {x4 : Nat} {x5 : Int} {x6 : Int} {R : xG_}, xRX m M0 M G → xoL x1 → xoF x4 → xin x5 → xin x6 → r65 x1 x4 x5 x6 G = some R → xok (o65 (m + x1) (m + x4) x5 x6 M) (fun r => xRX m M0 r R)) (h : xRX m M0 M G) {x1 : Nat} {x4 : Nat} {x5 : Int} {x6 : Int} {R : xG_} (tx1 : xoL x1) (tx4 : xoF x4) (tx5 : xin x5) (tx6 : xin x6) (e : g307_65b  r65 f x1 x4 x5 x6 G = some R) : xok (f307_65b  o65 f (m + x1) (m + x4) x5 x6 M) (fun r => xRX m M0 r R) := by
  unfold g307_65b at e
  unfold f307_65b
  refine xok_ite (fun c101 => ?_) (fun c101 => ?_)
  · rw [if_pos c101] at e
    refine xok_eqb (h.gi (o := x1) (c := 13) (k := 27) (n := 37) (xoL_o tx1).1 (xoL_o tx1).2 (by decide) (by decide)) ?_
    obtain ⟨M102, q103, h104⟩ := h.pi (v := xwr ((G (x1) 27) + (1))) (o := x1) (c := 13) (k := 27) (n := 37) (xoL_o tx1).1 (xoL_o tx1).2 (by decide) (by decide) (xin_wr _)
    refine xok_eqb q103 ?_
    obtain ⟨G105, g1, e⟩ := xbnd e
    cases g1
    have h104_ : xRX m M0 M102 (xup2 G (x1) 27 (xwr ((G (x1) 27) + (1)))) := h104
    generalize hGG105 : (xup2 G (x1) 27 (xwr ((G (x1) 27) + (1)))) = G105 at e h104
    clear h104_ hGG105
    cases e
    exact ⟨_, rfl, h104⟩
  · rw [if_neg c101] at e
    refine xok_eqb (h.pt (o := x1) (c := 13) (k := 26) (t := x1 + 23) (n := 37) (xoL_o tx1).1 (xoL_o tx1).2 (by decide) (xoL_all tx1 (Q := fun p => (p, 26, p + 23) ∈ xl_P) (by decide +kernel) (by decide +kernel) (by decide +kernel) (by decide +kernel))) ?_
    refine xok_eqb (h.gi (o := x1) (c := 13) (k := 27) (n := 37) (xoL_o tx1).1 (xoL_o tx1).2 (by decide) (by decide)) ?_
    refine xok_eqb (h.pt (o := x4) (c := 12) (k := 1) (t := x4 + 2) (n := 4) (xoF_o tx4).1 (xoF_o tx4).2 (by decide) (xoF_all tx4 (Q := fun p => (p, 1, p + 2) ∈ xl_P) (by decide +kernel) (by decide +kernel) (by decide +kernel) (by decide +kernel) (by decide +kernel) (by decide +kernel) (by decide +kernel))) ?_
    by_cases c106 : 0 ≤ (xwr ((xwr ((4) * (x5))) + (x6))) ∧ (xwr ((xwr ((4) * (x5))) + (x6))) < 13600
    · skip
      rw [if_pos c106] at e
      refine xok_eqb (h.al (o := x4 + 2) (n := 13600) (xoF_all tx4 (Q := fun p => p + 2 < 276) (by decide) (by decide) (by decide) (by decide) (by decide) (by decide) (by decide)) (xoF_all tx4 (Q := fun p => xl_t (p + 2) = (2, 4, 13600)) rfl rfl rfl rfl rfl rfl rfl)  c106.1 c106.2) ?_
      by_cases c107 : 0 ≤ (xwr ((xwr ((4) * (G (x1) 27))) + (x6))) ∧ (xwr ((xwr ((4) * (G (x1) 27))) + (x6))) < 13600
      · skip
        rw [if_pos c107] at e
        obtain ⟨M108, q109, h110⟩ := h.sl (o := x1 + 23) (n := 13600) (v := G (x4 + 2) (xwr ((xwr ((4) * (x5))) + (x6))).toNat) (xoL_all tx1 (Q := fun p => p + 23 < 276) (by decide) (by decide) (by decide) (by decide)) (xoL_all tx1 (Q := fun p => xl_t (p + 23) = (2, 4, 13600)) rfl rfl rfl rfl) c107.1 c107.2 (h.aln (o := x4 + 2) (n := 13600) (xoF_all tx4 (Q := fun p => p + 2 < 276) (by decide) (by decide) (by decide) (by decide) (by decide) (by decide) (by decide)) (xoF_all tx4 (Q := fun p => xl_t (p + 2) = (2, 4, 13600)) rfl rfl rfl rfl rfl rfl rfl)  c106.1 c106.2)
        refine xok_eqb q109 ?_
        obtain ⟨G111, g1, e⟩ := xbnd e
        cases g1
        have h110_ : xRX m M0 M108 (xup2 G (x1 + 23) (xwr ((xwr ((4) * (G (x1) 27))) + (x6))).toNat (G (x4 + 2) (xwr ((xwr ((4) * (x5))) + (x6))).toNat)) := h110
        generalize hGG111 : (xup2 G (x1 + 23) (xwr ((xwr ((4) * (G (x1) 27))) + (x6))).toNat (G (x4 + 2) (xwr ((xwr ((4) * (x5))) + (x6))).toNat)) = G111 at e h110
        clear h110_ hGG111
        exact hr65 h110 tx1 tx4 tx5 (xin_wr _) e
      · rw [if_neg c107] at e; cases e
    · rw [if_neg c106] at e; cases e
theorem s307_65 {m f : Nat} {M0 : xj_M} (hI : xHI f)     : ∀ {n : Nat} {M : xj_M} {G : xG_} {x1 : Nat} {x4 : Nat} {x5 : Int} {x6 : Int} {R : xG_}, xRX m M0 M G → xoL x1 → xoF x4 → xin x5 → xin x6 → g307_65   f n x1 x4 x5 x6 G = some R → xok (f307_65   f n (m + x1) (m + x4) x5 x6 M) (fun r => xRX m M0 r R) := by
  intro n
  induction n with
  | zero => intros; rename_i e; cases e
  | succ n ih =>
    intros
    rename_i h i0 i1 i2 i3 e
    exact s307_65b hI   ih h i0 i1 i2 i3 e
theorem sg307 {m f : Nat} {M0 M : xj_M} {G : xG_} (hI : xHI f)   (h : xRX m M0 M G) {a1 : Nat} {a2 : Int} {a3 : Int} {a4 : Nat} {a5 : Int} {R : xG_} (ta1 : xoL a1) (ta2 : xin a2) (ta3 : xin a3) (ta4 : xoF a4) (ta5 : xin a5) (e : g307  f a1 a2 a3 a4 a5 G = some R) : xok (f307  f m (m + a1) a2 a3 (m + a4) a5 M) (fun r => xRX m M0 r R) := by
  unfold g307 at e
  unfold f307
  refine xok_eqb (h.pt (o := a4) (c := 12) (k := 0) (t := a4 + 1) (n := 4) (xoF_o ta4).1 (xoF_o ta4).2 (by decide) (xoF_all ta4 (Q := fun p => (p, 0, p + 1) ∈ xl_P) (by decide +kernel) (by decide +kernel) (by decide +kernel) (by decide +kernel) (by decide +kernel) (by decide +kernel) (by decide +kernel))) ?_
  by_cases c112 : 0 ≤ (a5) ∧ (a5) < 3400
  · skip
    rw [if_pos c112] at e
    refine xok_eqb (h.al (o := a4 + 1) (n := 3400) (xoF_all ta4 (Q := fun p => p + 1 < 276) (by decide) (by decide) (by decide) (by decide) (by decide) (by decide) (by decide)) (xoF_all ta4 (Q := fun p => xl_t (p + 1) = (2, 4, 3400)) rfl rfl rfl rfl rfl rfl rfl)  c112.1 c112.2) ?_
    refine xok_eqb (h.pt (o := 0) (c := 15) (k := 29) (t := 2) (n := 107) (by decide) rfl (by decide) (by decide +kernel)) ?_
    refine xok_eqb (h.pt (o := 2) (c := 14) (k := 0) (t := 2 + 1) (n := 38) (xoP_o (show xoP 2 by unfold xoP; omega)).1 (xoP_o (show xoP 2 by unfold xoP; omega)).2 (by decide) (xoP_all (show xoP 2 by unfold xoP; omega) (Q := fun p => (p, 0, p + 1) ∈ xl_P) (by decide +kernel) (by decide +kernel) (by decide +kernel))) ?_
    by_cases c113 : 0 ≤ (a2) ∧ (a2) < 16
    · skip
      rw [if_pos c113] at e
      refine xok_eqb (h.al (o := 2 + 1) (n := 16) (xoP_all (show xoP 2 by unfold xoP; omega) (Q := fun p => p + 1 < 276) (by decide) (by decide) (by decide)) (xoP_all (show xoP 2 by unfold xoP; omega) (Q := fun p => xl_t (p + 1) = (2, 4, 16)) rfl rfl rfl)  c113.1 c113.2) ?_
      refine xok_ite (fun c114 => ?_) (fun c114 => ?_)
      · rw [if_pos c114] at e
        exact s307_41 hI   h  e
      · rw [if_neg c114] at e
        refine xok_eqb (h.pt (o := a4) (c := 12) (k := 2) (t := a4 + 3) (n := 4) (xoF_o ta4).1 (xoF_o ta4).2 (by decide) (xoF_all ta4 (Q := fun p => (p, 2, p + 3) ∈ xl_P) (by decide +kernel) (by decide +kernel) (by decide +kernel) (by decide +kernel) (by decide +kernel) (by decide +kernel) (by decide +kernel))) ?_
        by_cases c115 : 0 ≤ (a5) ∧ (a5) < 3400
        · skip
          rw [if_pos c115] at e
          refine xok_eqb (h.ai (o := a4 + 3) (n := 3400) (xoF_all ta4 (Q := fun p => p + 3 < 276) (by decide) (by decide) (by decide) (by decide) (by decide) (by decide) (by decide)) (xoF_all ta4 (Q := fun p => xl_t (p + 3) = (2, 3, 3400)) rfl rfl rfl rfl rfl rfl rfl) (by decide) c115.1 c115.2) ?_
          refine xok_eqb (h.pt (o := 0) (c := 15) (k := 29) (t := 2) (n := 107) (by decide) rfl (by decide) (by decide +kernel)) ?_
          refine xok_eqb (h.pt (o := 2) (c := 14) (k := 1) (t := 2 + 2) (n := 38) (xoP_o (show xoP 2 by unfold xoP; omega)).1 (xoP_o (show xoP 2 by unfold xoP; omega)).2 (by decide) (xoP_all (show xoP 2 by unfold xoP; omega) (Q := fun p => (p, 1, p + 2) ∈ xl_P) (by decide +kernel) (by decide +kernel) (by decide +kernel))) ?_
          by_cases c116 : 0 ≤ (a2) ∧ (a2) < 16
          · skip
            rw [if_pos c116] at e
            refine xok_eqb (h.ai (o := 2 + 2) (n := 16) (xoP_all (show xoP 2 by unfold xoP; omega) (Q := fun p => p + 2 < 276) (by decide) (by decide) (by decide)) (xoP_all (show xoP 2 by unfold xoP; omega) (Q := fun p => xl_t (p + 2) = (2, 3, 16)) rfl rfl rfl) (by decide) c116.1 c116.2) ?_
            refine xok_ite (fun c117 => ?_) (fun c117 => ?_)
            · rw [if_pos c117] at e
              refine xok_eqb (h.pt (o := a1) (c := 13) (k := 24) (t := a1 + 21) (n := 37) (xoL_o ta1).1 (xoL_o ta1).2 (by decide) (xoL_all ta1 (Q := fun p => (p, 24, p + 21) ∈ xl_P) (by decide +kernel) (by decide +kernel) (by decide +kernel) (by decide +kernel))) ?_
              refine xok_eqb (h.gi (o := a1) (c := 13) (k := 27) (n := 37) (xoL_o ta1).1 (xoL_o ta1).2 (by decide) (by decide)) ?_
              by_cases c118 : 0 ≤ (G (a1) 27) ∧ (G (a1) 27) < 3400
              · skip
                rw [if_pos c118] at e
                obtain ⟨M119, q120, h121⟩ := h.si (o := a1 + 21) (n := 3400) (v := a2) (xoL_all ta1 (Q := fun p => p + 21 < 276) (by decide) (by decide) (by decide) (by decide)) (xoL_all ta1 (Q := fun p => xl_t (p + 21) = (2, 3, 3400)) rfl rfl rfl rfl) c118.1 c118.2 ta2
                refine xok_eqb q120 ?_
                obtain ⟨G122, g1, e⟩ := xbnd e
                cases g1
                have h121_ : xRX m M0 M119 (xup2 G (a1 + 21) (G (a1) 27).toNat (a2)) := h121
                generalize hGG122 : (xup2 G (a1 + 21) (G (a1) 27).toNat (a2)) = G122 at e h121
                clear h121_ hGG122
                refine xok_eqb (h121.pt (o := a1) (c := 13) (k := 25) (t := a1 + 22) (n := 37) (xoL_o ta1).1 (xoL_o ta1).2 (by decide) (xoL_all ta1 (Q := fun p => (p, 25, p + 22) ∈ xl_P) (by decide +kernel) (by decide +kernel) (by decide +kernel) (by decide +kernel))) ?_
                refine xok_eqb (h121.gi (o := a1) (c := 13) (k := 27) (n := 37) (xoL_o ta1).1 (xoL_o ta1).2 (by decide) (by decide)) ?_
                by_cases c123 : 0 ≤ (G122 (a1) 27) ∧ (G122 (a1) 27) < 3400
                · skip
                  rw [if_pos c123] at e
                  obtain ⟨M124, q125, h126⟩ := h121.si (o := a1 + 22) (n := 3400) (v := a3) (xoL_all ta1 (Q := fun p => p + 22 < 276) (by decide) (by decide) (by decide) (by decide)) (xoL_all ta1 (Q := fun p => xl_t (p + 22) = (2, 3, 3400)) rfl rfl rfl rfl) c123.1 c123.2 ta3
                  refine xok_eqb q125 ?_
                  obtain ⟨G127, g1, e⟩ := xbnd e
                  cases g1
                  have h126_ : xRX m M0 M124 (xup2 G122 (a1 + 22) (G122 (a1) 27).toNat (a3)) := h126
                  generalize hGG127 : (xup2 G122 (a1 + 22) (G122 (a1) 27).toNat (a3)) = G127 at e h126
                  clear h126_ hGG127
                  exact s307_65 hI   h126 ta1 ta4 ta5 (show xin (0) by decide) e
                · rw [if_neg c123] at e; cases e
              · rw [if_neg c118] at e; cases e
            · rw [if_neg c117] at e
              exact s307_41 hI   h  e
          · rw [if_neg c116] at e; cases e
        · rw [if_neg c115] at e; cases e
    · rw [if_neg c113] at e; cases e
  · rw [if_neg c112] at e; cases e
-- ChangeHouseModel.behind
theorem s309_21 {m f : Nat} {M0 M : xj_M} {G : xG_} (hI : xHI f)     (h : xRX m M0 M G) {x1 : Int} {x3 : Int} {R : Int × xG_} (tx1 : xin x1) (tx3 : xin x3) (e : g309_21   f x1 x3 G = some R) : xok (f309_21   f x1 x3 M) (fun r => r.1 = R.1 ∧ xRX m M0 r.2 R.2 ∧ xin R.1) := by
  unfold g309_21 at e
  unfold f309_21
  cases e
  exact ⟨_, rfl, rfl, h, (xin_wr _)⟩
theorem s309_2b {m f : Nat} {M0 M : xj_M} {G : xG_} (hI : xHI f)  {r2 : Nat → Int → Int → Int → xG_ → Option (Int × xG_)} {o2 : Nat → Int → Int → Int → xj_M → Option (Int × xj_M)}  (hr2 : ∀ {M : xj_M} {G : xG_} {x0 : Nat} {x1 : Int} {x2 : Int} {x3 : Int} {R : Int × xG_}, xRX m M0 M G → xoI x0 → xin x1 → xin x2 → xin x3 → r2 x0 x1 x2 x3 G = some R → xok (o2 (m + x0) x1 x2 x3 M) (fun r => r.1 = R.1 ∧ xRX m M0 r.2 R.2 ∧ xin R.1)) (h : xRX m M0 M G) {x0 : Nat} {x1 : Int} {x2 : Int} {x3 : Int} {R : Int × xG_} (tx0 : xoI x0) (tx1 : xin x1) (tx2 : xin x2) (tx3 : xin x3) (e : g309_2b  r2 f x0 x1 x2 x3 G = some R) : xok (f309_2b  o2 f (m + x0) x1 x2 x3 M) (fun r => r.1 = R.1 ∧ xRX m M0 r.2 R.2 ∧ xin R.1) := by
  unfold g309_2b at e
  unfold f309_2b
  refine xok_ite (fun c101 => ?_) (fun c101 => ?_)
  · rw [if_pos c101] at e
    exact s309_21 hI   h tx1 tx3 e
  · rw [if_neg c101] at e
    by_cases c102 : 0 ≤ (xwr ((x3) - (1))) ∧ (xwr ((x3) - (1))) < ((xl_t (x0)).2.2 : Int)
    · skip
      rw [if_pos c102] at e
      refine xok_eqb (h.ai (o := x0) (n := (xl_t (x0)).2.2) tx0.1 tx0.2 (by decide) c102.1 c102.2) ?_
      refine xok_ite (fun c103 => ?_) (fun c103 => ?_)
      · rw [if_pos c103] at e
        exact s309_21 hI   h tx1 tx3 e
      · rw [if_neg c103] at e
        exact hr2 h tx0 tx1 tx2 (xin_wr _) e
    · rw [if_neg c102] at e; cases e
theorem s309_2 {m f : Nat} {M0 : xj_M} (hI : xHI f)     : ∀ {n : Nat} {M : xj_M} {G : xG_} {x0 : Nat} {x1 : Int} {x2 : Int} {x3 : Int} {R : Int × xG_}, xRX m M0 M G → xoI x0 → xin x1 → xin x2 → xin x3 → g309_2   f n x0 x1 x2 x3 G = some R → xok (f309_2   f n (m + x0) x1 x2 x3 M) (fun r => r.1 = R.1 ∧ xRX m M0 r.2 R.2 ∧ xin R.1) := by
  intro n
  induction n with
  | zero => intros; rename_i e; cases e
  | succ n ih =>
    intros
    rename_i h i0 i1 i2 i3 e
    exact s309_2b hI   ih h i0 i1 i2 i3 e
theorem sg309 {m f : Nat} {M0 M : xj_M} {G : xG_} (hI : xHI f)   (h : xRX m M0 M G) {a0 : Nat} {a1 : Int} {a2 : Int} {R : Int × xG_} (ta0 : xoI a0) (ta1 : xin a1) (ta2 : xin a2) (e : g309  f a0 a1 a2 G = some R) : xok (f309  f (m + a0) a1 a2 M) (fun r => r.1 = R.1 ∧ xRX m M0 r.2 R.2 ∧ xin R.1) := by
  unfold g309 at e
  unfold f309
  exact s309_2 hI   h ta0 ta1 ta2 ta1 e
-- ChangeHouseModel.isPast
theorem s310_21 {m f : Nat} {M0 M : xj_M} {G : xG_} (hI : xHI f)     (h : xRX m M0 M G) {y0 : Int} {R : Int × xG_} (ty0 : xin y0) (e : g310_21   f y0 G = some R) : xok (f310_21   f y0 M) (fun r => r.1 = R.1 ∧ xRX m M0 r.2 R.2 ∧ xin R.1) := by
  unfold g310_21 at e
  unfold f310_21
  refine xok_ite (fun c101 => ?_) (fun c101 => ?_)
  · rw [if_pos c101] at e; cases e; exact ⟨_, rfl, rfl, h, ty0⟩
  · rw [if_neg c101] at e; cases e
theorem s310_20 {m f : Nat} {M0 M : xj_M} {G : xG_} (hI : xHI f)     (h : xRX m M0 M G)  {R : Int × xG_}  (e : g310_20   f  G = some R) : xok (f310_20   f  M) (fun r => r.1 = R.1 ∧ xRX m M0 r.2 R.2 ∧ xin R.1) := by
  unfold g310_20 at e
  unfold f310_20
  exact s310_21 hI   h (show xin (0) by decide) e
theorem sg310 {m f : Nat} {M0 M : xj_M} {G : xG_} (hI : xHI f)   (h : xRX m M0 M G) {a1 : Nat} {a2 : Int} {R : Int × xG_} (ta1 : xoL a1) (ta2 : xin a2) (e : g310  f a1 a2 G = some R) : xok (f310  f m (m + a1) a2 M) (fun r => r.1 = R.1 ∧ xRX m M0 r.2 R.2 ∧ xin R.1) := by
  unfold g310 at e
  unfold f310
  refine xok_eqb (h.gi (o := a1) (c := 13) (k := 3) (n := 37) (xoL_o ta1).1 (xoL_o ta1).2 (by decide) (by decide)) ?_
  refine xok_ite (fun c102 => ?_) (fun c102 => ?_)
  · rw [if_pos c102] at e
    exact s310_20 hI   h  e
  · rw [if_neg c102] at e
    refine xok_eqb (h.gi (o := a1) (c := 13) (k := 2) (n := 37) (xoL_o ta1).1 (xoL_o ta1).2 (by decide) (by decide)) ?_
    refine xok_ite (fun c103 => ?_) (fun c103 => ?_)
    · rw [if_pos c103] at e
      exact s310_20 hI   h  e
    · rw [if_neg c103] at e
      exact s310_21 hI   h (show xin (1) by decide) e
-- ChangeHouseModel.loseForks
theorem s313_43 {m f : Nat} {M0 M : xj_M} {G : xG_} (hI : xHI f)  {r2 : Int → Int → Int → xG_ → Option (xG_)} {o2 : Nat → Int → Int → Int → xj_M → Option (xj_M)}  (hr2 : ∀ {M : xj_M} {G : xG_} {x1 : Int} {x2 : Int} {x3 : Int} {R : xG_}, xRX m M0 M G → xin x1 → xin x2 → xin x3 → r2 x1 x2 x3 G = some R → xok (o2 m x1 x2 x3 M) (fun r => xRX m M0 r R)) (h : xRX m M0 M G) {x1 : Int} {x2 : Int} {x3 : Int} {R : xG_} (tx1 : xin x1) (tx2 : xin x2) (tx3 : xin x3) (e : g313_43  r2 f x1 x2 x3 G = some R) : xok (f313_43  o2 f m x1 x2 x3 M) (fun r => xRX m M0 r R) := by
  unfold g313_43 at e
  unfold f313_43
  exact hr2 h tx1 tx2 (xin_wr _) e
theorem s313_2b {m f : Nat} {M0 M : xj_M} {G : xG_} (hI : xHI f)  {r2 : Int → Int → Int → xG_ → Option (xG_)} {o2 : Nat → Int → Int → Int → xj_M → Option (xj_M)}  (hr2 : ∀ {M : xj_M} {G : xG_} {x1 : Int} {x2 : Int} {x3 : Int} {R : xG_}, xRX m M0 M G → xin x1 → xin x2 → xin x3 → r2 x1 x2 x3 G = some R → xok (o2 m x1 x2 x3 M) (fun r => xRX m M0 r R)) (h : xRX m M0 M G) {x1 : Int} {x2 : Int} {x3 : Int} {R : xG_} (tx1 : xin x1) (tx2 : xin x2) (tx3 : xin x3) (e : g313_2b  r2 f x1 x2 x3 G = some R) : xok (f313_2b  o2 f m x1 x2 x3 M) (fun r => xRX m M0 r R) := by
  unfold g313_2b at e
  unfold f313_2b
  refine xok_ite (fun c101 => ?_) (fun c101 => ?_)
  · rw [if_pos c101] at e
    cases e
    exact ⟨_, rfl, h⟩
  · rw [if_neg c101] at e
    refine xok_eqb (h.pt (o := 0) (c := 15) (k := 61) (t := 122) (n := 107) (by decide) rfl (by decide) (by decide +kernel)) ?_
    by_cases c102 : 0 ≤ (x3) ∧ (x3) < 4
    · skip
      rw [if_pos c102] at e
      refine xok_eqb (h.lin c102) ?_
      refine xok_eqb (h.gi (o := 123 + 29 * (x3).toNat) (c := 13) (k := 35) (n := 37) (xoL_o (xoL_of c102)).1 (xoL_o (xoL_of c102)).2 (by decide) (by decide)) ?_
      refine xok_ite (fun c103 => ?_) (fun c103 => ?_)
      · rw [if_pos c103] at e
        exact s313_43 hI  hr2 h tx1 tx2 tx3 e
      · rw [if_neg c103] at e
        refine xok_eqb (h.pt (o := 0) (c := 15) (k := 61) (t := 122) (n := 107) (by decide) rfl (by decide) (by decide +kernel)) ?_
        by_cases c104 : 0 ≤ (x3) ∧ (x3) < 4
        · skip
          rw [if_pos c104] at e
          refine xok_eqb (h.lin c104) ?_
          refine xok_eqb (h.gi (o := 123 + 29 * (x3).toNat) (c := 13) (k := 36) (n := 37) (xoL_o (xoL_of c104)).1 (xoL_o (xoL_of c104)).2 (by decide) (by decide)) ?_
          refine xok_ite (fun c105 => ?_) (fun c105 => ?_)
          · rw [if_pos c105] at e
            exact s313_43 hI  hr2 h tx1 tx2 tx3 e
          · rw [if_neg c105] at e
            refine xok_eqb (h.pt (o := 0) (c := 15) (k := 61) (t := 122) (n := 107) (by decide) rfl (by decide) (by decide +kernel)) ?_
            by_cases c106 : 0 ≤ (x3) ∧ (x3) < 4
            · skip
              rw [if_pos c106] at e
              refine xok_eqb (h.lin c106) ?_
              obtain ⟨M107, q108, h109⟩ := h.pi (v := -1) (o := 123 + 29 * (x3).toNat) (c := 13) (k := 35) (n := 37) (xoL_o (xoL_of c106)).1 (xoL_o (xoL_of c106)).2 (by decide) (by decide) (show xin (-1) by decide)
              refine xok_eqb q108 ?_
              obtain ⟨G110, g1, e⟩ := xbnd e
              cases g1
              have h109_ : xRX m M0 M107 (xup2 G (123 + 29 * (x3).toNat) 35 (-1)) := h109
              generalize hGG110 : (xup2 G (123 + 29 * (x3).toNat) 35 (-1)) = G110 at e h109
              clear h109_ hGG110
              exact s313_43 hI  hr2 h109 tx1 tx2 tx3 e
            · rw [if_neg c106] at e; cases e
        · rw [if_neg c104] at e; cases e
    · rw [if_neg c102] at e; cases e
theorem s313_2 {m f : Nat} {M0 : xj_M} (hI : xHI f)     : ∀ {n : Nat} {M : xj_M} {G : xG_} {x1 : Int} {x2 : Int} {x3 : Int} {R : xG_}, xRX m M0 M G → xin x1 → xin x2 → xin x3 → g313_2   f n x1 x2 x3 G = some R → xok (f313_2   f n m x1 x2 x3 M) (fun r => xRX m M0 r R) := by
  intro n
  induction n with
  | zero => intros; rename_i e; cases e
  | succ n ih =>
    intros
    rename_i h i0 i1 i2 e
    exact s313_2b hI   ih h i0 i1 i2 e
theorem sg313 {m f : Nat} {M0 M : xj_M} {G : xG_} (hI : xHI f)   (h : xRX m M0 M G) {a1 : Int} {a2 : Int} {R : xG_} (ta1 : xin a1) (ta2 : xin a2) (e : g313  f a1 a2 G = some R) : xok (f313  f m a1 a2 M) (fun r => xRX m M0 r R) := by
  unfold g313 at e
  unfold f313
  exact s313_2 hI   h ta1 ta2 (show xin (0) by decide) e
