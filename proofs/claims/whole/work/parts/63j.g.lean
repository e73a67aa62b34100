/-! The reference over what stands at its cells (written by mk_g.py) -/
-- ChangeHouseModel.count
theorem sg377 {m f : Nat} {M0 M : xj_M} {G : xG_} (hI : xHI f)   (h : xRX m M0 M G) {a1 : Int} {R : Int × xG_} (ta1 : xin a1) (e : g377  f a1 G = some R) : xok (f377  f m a1 M) (fun r => r.1 = R.1 ∧ xRX m M0 r.2 R.2 ∧ xin R.1) := by
  unfold g377 at e
  unfold f377
  obtain ⟨M101, q102, h103⟩ := h.pi (v := 0) (o := 0) (c := 15) (k := 74) (n := 107) (by decide) rfl (by decide) (by decide) (show xin (0) by decide)
  refine xok_eqb q102 ?_
  obtain ⟨G104, g1, e⟩ := xbnd e
  cases g1
  have h103_ : xRX m M0 M101 (xup2 G (0) 74 (0)) := h103
  generalize hGG104 : (xup2 G (0) 74 (0)) = G104 at e h103
  clear h103_ hGG104
  refine xok_eqb (h103.pt (o := 0) (c := 15) (k := 61) (t := 122) (n := 107) (by decide) rfl (by decide) (by decide +kernel)) ?_
  refine xok_eqb (h103.gi (o := 0) (c := 15) (k := 62) (n := 107) (by decide) rfl (by decide) (by decide)) ?_
  by_cases c105 : 0 ≤ (G104 (0) 62) ∧ (G104 (0) 62) < 4
  · skip
    rw [if_pos c105] at e
    refine xok_eqb (h103.lin c105) ?_
    refine xok_ite (fun c106 => ?_) (fun c106 => ?_)
    · rw [if_pos c106] at e
      cases e
      exact ⟨_, rfl, rfl, h103, (show xin (-1) by decide)⟩
    · rw [if_neg c106] at e
      refine xok_ite (fun c107 => ?_) (fun c107 => ?_)
      · rw [if_pos c107] at e
        refine xok_eqb (h103.gi (o := 123 + 29 * (G104 (0) 62).toNat) (c := 13) (k := 2) (n := 37) (xoL_o (xoL_of c105)).1 (xoL_o (xoL_of c105)).2 (by decide) (by decide)) ?_
        cases e
        exact ⟨_, rfl, rfl, h103, (h103.gin (o := 123 + 29 * (G104 (0) 62).toNat) (c := 13) (k := 2) (n := 37) (xoL_o (xoL_of c105)).1 (xoL_o (xoL_of c105)).2 (by decide) (by decide))⟩
      · rw [if_neg c107] at e
        refine xok_ite (fun c108 => ?_) (fun c108 => ?_)
        · rw [if_pos c108] at e
          refine xok_eqb (h103.gi (o := 123 + 29 * (G104 (0) 62).toNat) (c := 13) (k := 3) (n := 37) (xoL_o (xoL_of c105)).1 (xoL_o (xoL_of c105)).2 (by decide) (by decide)) ?_
          cases e
          exact ⟨_, rfl, rfl, h103, (h103.gin (o := 123 + 29 * (G104 (0) 62).toNat) (c := 13) (k := 3) (n := 37) (xoL_o (xoL_of c105)).1 (xoL_o (xoL_of c105)).2 (by decide) (by decide))⟩
        · rw [if_neg c108] at e
          refine xok_ite (fun c109 => ?_) (fun c109 => ?_)
          · rw [if_pos c109] at e
            obtain ⟨R110, e111, e⟩ := xbnd e
            refine xok_eqb (h103.is (o := 0) (c := 15) (by decide) rfl) ?_
            refine xok_call (sg296 hI  h103  e111) ?_
            intro M114 h112
            refine xok_eqb (h112.pt (o := 0) (c := 15) (k := 29) (t := 2) (n := 107) (by decide) rfl (by decide) (by decide +kernel)) ?_
            refine xok_eqb (h112.gi (o := 2) (c := 14) (k := 8) (n := 38) (xoP_o (show xoP 2 by unfold xoP; omega)).1 (xoP_o (show xoP 2 by unfold xoP; omega)).2 (by decide) (by decide)) ?_
            cases e
            exact ⟨_, rfl, rfl, h112, (h112.gin (o := 2) (c := 14) (k := 8) (n := 38) (xoP_o (show xoP 2 by unfold xoP; omega)).1 (xoP_o (show xoP 2 by unfold xoP; omega)).2 (by decide) (by decide))⟩
          · rw [if_neg c109] at e
            refine xok_ite (fun c115 => ?_) (fun c115 => ?_)
            · rw [if_pos c115] at e
              obtain ⟨R116, e117, e⟩ := xbnd e
              refine xok_eqb (h103.is (o := 0) (c := 15) (by decide) rfl) ?_
              refine xok_call (sg296 hI  h103  e117) ?_
              intro M120 h118
              refine xok_eqb (h118.pt (o := 0) (c := 15) (k := 29) (t := 2) (n := 107) (by decide) rfl (by decide) (by decide +kernel)) ?_
              refine xok_eqb (h118.gi (o := 2) (c := 14) (k := 9) (n := 38) (xoP_o (show xoP 2 by unfold xoP; omega)).1 (xoP_o (show xoP 2 by unfold xoP; omega)).2 (by decide) (by decide)) ?_
              cases e
              exact ⟨_, rfl, rfl, h118, (h118.gin (o := 2) (c := 14) (k := 9) (n := 38) (xoP_o (show xoP 2 by unfold xoP; omega)).1 (xoP_o (show xoP 2 by unfold xoP; omega)).2 (by decide) (by decide))⟩
            · rw [if_neg c115] at e
              refine xok_ite (fun c121 => ?_) (fun c121 => ?_)
              · rw [if_pos c121] at e
                refine xok_eqb (h103.gi (o := 123 + 29 * (G104 (0) 62).toNat) (c := 13) (k := 33) (n := 37) (xoL_o (xoL_of c105)).1 (xoL_o (xoL_of c105)).2 (by decide) (by decide)) ?_
                cases e
                exact ⟨_, rfl, rfl, h103, (h103.gin (o := 123 + 29 * (G104 (0) 62).toNat) (c := 13) (k := 33) (n := 37) (xoL_o (xoL_of c105)).1 (xoL_o (xoL_of c105)).2 (by decide) (by decide))⟩
              · rw [if_neg c121] at e
                refine xok_ite (fun c122 => ?_) (fun c122 => ?_)
                · rw [if_pos c122] at e
                  refine xok_eqb (h103.gi (o := 0) (c := 15) (k := 62) (n := 107) (by decide) rfl (by decide) (by decide)) ?_
                  cases e
                  exact ⟨_, rfl, rfl, h103, (h103.gin (o := 0) (c := 15) (k := 62) (n := 107) (by decide) rfl (by decide) (by decide))⟩
                · rw [if_neg c122] at e
                  refine xok_ite (fun c123 => ?_) (fun c123 => ?_)
                  · rw [if_pos c123] at e
                    refine xok_eqb (h103.pt (o := 123 + 29 * (G104 (0) 62).toNat) (c := 13) (k := 0) (t := 123 + 29 * (G104 (0) 62).toNat + 1) (n := 37) (xoL_o (xoL_of c105)).1 (xoL_o (xoL_of c105)).2 (by decide) (xoL_all (xoL_of c105) (Q := fun p => (p, 0, p + 1) ∈ xl_P) (by decide +kernel) (by decide +kernel) (by decide +kernel) (by decide +kernel))) ?_
                    refine xok_eqb (h103.gi (o := 123 + 29 * (G104 (0) 62).toNat + 1) (c := 12) (k := 3) (n := 4) (xoF_o (xoL_all (xoL_of c105) (Q := fun p => xoF (p + 1)) (by unfold xoF; omega) (by unfold xoF; omega) (by unfold xoF; omega) (by unfold xoF; omega))).1 (xoF_o (xoL_all (xoL_of c105) (Q := fun p => xoF (p + 1)) (by unfold xoF; omega) (by unfold xoF; omega) (by unfold xoF; omega) (by unfold xoF; omega))).2 (by decide) (by decide)) ?_
                    cases e
                    exact ⟨_, rfl, rfl, h103, (h103.gin (o := 123 + 29 * (G104 (0) 62).toNat + 1) (c := 12) (k := 3) (n := 4) (xoF_o (xoL_all (xoL_of c105) (Q := fun p => xoF (p + 1)) (by unfold xoF; omega) (by unfold xoF; omega) (by unfold xoF; omega) (by unfold xoF; omega))).1 (xoF_o (xoL_all (xoL_of c105) (Q := fun p => xoF (p + 1)) (by unfold xoF; omega) (by unfold xoF; omega) (by unfold xoF; omega) (by unfold xoF; omega))).2 (by decide) (by decide))⟩
                  · rw [if_neg c123] at e
                    refine xok_ite (fun c124 => ?_) (fun c124 => ?_)
                    · rw [if_pos c124] at e
                      refine xok_eqb (h103.gi (o := 123 + 29 * (G104 (0) 62).toNat) (c := 13) (k := 4) (n := 37) (xoL_o (xoL_of c105)).1 (xoL_o (xoL_of c105)).2 (by decide) (by decide)) ?_
                      cases e
                      exact ⟨_, rfl, rfl, h103, (h103.gin (o := 123 + 29 * (G104 (0) 62).toNat) (c := 13) (k := 4) (n := 37) (xoL_o (xoL_of c105)).1 (xoL_o (xoL_of c105)).2 (by decide) (by decide))⟩
                    · rw [if_neg c124] at e
                      refine xok_ite (fun c125 => ?_) (fun c125 => ?_)
                      · rw [if_pos c125] at e
                        refine xok_eqb (h103.gi (o := 0) (c := 15) (k := 63) (n := 107) (by decide) rfl (by decide) (by decide)) ?_
                        cases e
                        exact ⟨_, rfl, rfl, h103, (h103.gin (o := 0) (c := 15) (k := 63) (n := 107) (by decide) rfl (by decide) (by decide))⟩
                      · rw [if_neg c125] at e
                        refine xok_eqb (h103.gi (o := 0) (c := 15) (k := 73) (n := 107) (by decide) rfl (by decide) (by decide)) ?_
                        cases e
                        exact ⟨_, rfl, rfl, h103, (h103.gin (o := 0) (c := 15) (k := 73) (n := 107) (by decide) rfl (by decide) (by decide))⟩
  · rw [if_neg c105] at e; cases e
-- ChangeHouseModel.predicate
theorem s378_24 {m f : Nat} {M0 M : xj_M} {G : xG_} (hI : xHI f)     (h : xRX m M0 M G)  {R : Int × xG_}  (e : g378_24   f  G = some R) : xok (f378_24   f m M) (fun r => r.1 = R.1 ∧ xRX m M0 r.2 R.2 ∧ xin R.1) := by
  unfold g378_24 at e
  unfold f378_24
  obtain ⟨R101, e102, e⟩ := xbnd e
  refine xok_eqb (h.is (o := 0) (c := 15) (by decide) rfl) ?_
  refine xok_call (sg321 hI  h  e102) ?_
  rintro ⟨v_, M105⟩ ⟨hv_, h103, hi104⟩
  cases hv_
  cases e
  exact ⟨_, rfl, rfl, h103, hi104⟩
theorem s378_143 {m f : Nat} {M0 M : xj_M} {G : xG_} (hI : xHI f)     (h : xRX m M0 M G) {y0 : Int} {R : Int × xG_} (ty0 : xin y0) (e : g378_143   f y0 G = some R) : xok (f378_143   f y0 M) (fun r => r.1 = R.1 ∧ xRX m M0 r.2 R.2 ∧ xin R.1) := by
  unfold g378_143 at e
  unfold f378_143
  cases e
  exact ⟨_, rfl, rfl, h, ty0⟩
theorem s378_125 {m f : Nat} {M0 M : xj_M} {G : xG_} (hI : xHI f)     (h : xRX m M0 M G) {y0 : Int} {R : Int × xG_} (ty0 : xin y0) (e : g378_125   f y0 G = some R) : xok (f378_125   f y0 M) (fun r => r.1 = R.1 ∧ xRX m M0 r.2 R.2 ∧ xin R.1) := by
  unfold g378_125 at e
  unfold f378_125
  cases e
  exact ⟨_, rfl, rfl, h, ty0⟩
theorem sg378 {m f : Nat} {M0 M : xj_M} {G : xG_} (hI : xHI f)   (h : xRX m M0 M G) {a1 : Int} {a2 : Int} {R : Int × xG_} (ta1 : xin a1) (ta2 : xin a2) (e : g378  f a1 a2 G = some R) : xok (f378  f m a1 a2 M) (fun r => r.1 = R.1 ∧ xRX m M0 r.2 R.2 ∧ xin R.1) := by
  unfold g378 at e
  unfold f378
  obtain ⟨M106, q107, h108⟩ := h.pi (v := 0) (o := 0) (c := 15) (k := 74) (n := 107) (by decide) rfl (by decide) (by decide) (show xin (0) by decide)
  refine xok_eqb q107 ?_
  obtain ⟨G109, g1, e⟩ := xbnd e
  cases g1
  have h108_ : xRX m M0 M106 (xup2 G (0) 74 (0)) := h108
  generalize hGG109 : (xup2 G (0) 74 (0)) = G109 at e h108
  clear h108_ hGG109
  obtain ⟨R110, e111, e⟩ := xbnd e
  refine xok_eqb (h108.is (o := 0) (c := 15) (by decide) rfl) ?_
  refine xok_call (sg296 hI  h108  e111) ?_
  intro M114 h112
  refine xok_ite (fun c115 => ?_) (fun c115 => ?_)
  · rw [if_pos c115] at e
    exact s378_24 hI   h112  e
  · rw [if_neg c115] at e
    refine xok_eqb (h112.pt (o := 0) (c := 15) (k := 29) (t := 2) (n := 107) (by decide) rfl (by decide) (by decide +kernel)) ?_
    refine xok_eqb (h112.gi (o := 2) (c := 14) (k := 8) (n := 38) (xoP_o (show xoP 2 by unfold xoP; omega)).1 (xoP_o (show xoP 2 by unfold xoP; omega)).2 (by decide) (by decide)) ?_
    refine xok_ite (fun c116 => ?_) (fun c116 => ?_)
    · rw [if_pos c116] at e
      refine xok_eqb (h112.pt (o := 0) (c := 15) (k := 61) (t := 122) (n := 107) (by decide) rfl (by decide) (by decide +kernel)) ?_
      refine xok_eqb (h112.gi (o := 0) (c := 15) (k := 62) (n := 107) (by decide) rfl (by decide) (by decide)) ?_
      by_cases c117 : 0 ≤ (R110 (0) 62) ∧ (R110 (0) 62) < 4
      · skip
        rw [if_pos c117] at e
        refine xok_eqb (h112.lin c117) ?_
        refine xok_ite (fun c118 => ?_) (fun c118 => ?_)
        · rw [if_pos c118] at e
          cases e
          exact ⟨_, rfl, rfl, h112, (show xin (-1) by decide)⟩
        · rw [if_neg c118] at e
          refine xok_ite (fun c119 => ?_) (fun c119 => ?_)
          · rw [if_pos c119] at e
            refine xok_eqb (h112.pt (o := 0) (c := 15) (k := 29) (t := 2) (n := 107) (by decide) rfl (by decide) (by decide +kernel)) ?_
            refine xok_eqb (h112.pt (o := 2) (c := 14) (k := 1) (t := 2 + 2) (n := 38) (xoP_o (show xoP 2 by unfold xoP; omega)).1 (xoP_o (show xoP 2 by unfold xoP; omega)).2 (by decide) (xoP_all (show xoP 2 by unfold xoP; omega) (Q := fun p => (p, 1, p + 2) ∈ xl_P) (by decide +kernel) (by decide +kernel) (by decide +kernel))) ?_
            by_cases c120 : 0 ≤ (a1) ∧ (a1) < 16
            · skip
              rw [if_pos c120] at e
              refine xok_eqb (h112.ai (o := 2 + 2) (n := 16) (xoP_all (show xoP 2 by unfold xoP; omega) (Q := fun p => p + 2 < 276) (by decide) (by decide) (by decide)) (xoP_all (show xoP 2 by unfold xoP; omega) (Q := fun p => xl_t (p + 2) = (2, 3, 16)) rfl rfl rfl) (by decide) c120.1 c120.2) ?_
              cases e
              exact ⟨_, rfl, rfl, h112, (h112.ain (o := 2 + 2) (n := 16) (xoP_all (show xoP 2 by unfold xoP; omega) (Q := fun p => p + 2 < 276) (by decide) (by decide) (by decide)) (xoP_all (show xoP 2 by unfold xoP; omega) (Q := fun p => xl_t (p + 2) = (2, 3, 16)) rfl rfl rfl) (by decide) c120.1 c120.2)⟩
            · rw [if_neg c120] at e; cases e
          · rw [if_neg c119] at e
            refine xok_ite (fun c121 => ?_) (fun c121 => ?_)
            · rw [if_pos c121] at e
              refine xok_eqb (h112.pt (o := 0) (c := 15) (k := 29) (t := 2) (n := 107) (by decide) rfl (by decide) (by decide +kernel)) ?_
              refine xok_eqb (h112.pt (o := 2) (c := 14) (k := 2) (t := 2 + 3) (n := 38) (xoP_o (show xoP 2 by unfold xoP; omega)).1 (xoP_o (show xoP 2 by unfold xoP; omega)).2 (by decide) (xoP_all (show xoP 2 by unfold xoP; omega) (Q := fun p => (p, 2, p + 3) ∈ xl_P) (by decide +kernel) (by decide +kernel) (by decide +kernel))) ?_
              by_cases c122 : 0 ≤ (a1) ∧ (a1) < 16
              · skip
                rw [if_pos c122] at e
                refine xok_eqb (h112.ai (o := 2 + 3) (n := 16) (xoP_all (show xoP 2 by unfold xoP; omega) (Q := fun p => p + 3 < 276) (by decide) (by decide) (by decide)) (xoP_all (show xoP 2 by unfold xoP; omega) (Q := fun p => xl_t (p + 3) = (2, 3, 16)) rfl rfl rfl) (by decide) c122.1 c122.2) ?_
                cases e
                exact ⟨_, rfl, rfl, h112, (h112.ain (o := 2 + 3) (n := 16) (xoP_all (show xoP 2 by unfold xoP; omega) (Q := fun p => p + 3 < 276) (by decide) (by decide) (by decide)) (xoP_all (show xoP 2 by unfold xoP; omega) (Q := fun p => xl_t (p + 3) = (2, 3, 16)) rfl rfl rfl) (by decide) c122.1 c122.2)⟩
              · rw [if_neg c122] at e; cases e
            · rw [if_neg c121] at e
              refine xok_ite (fun c123 => ?_) (fun c123 => ?_)
              · rw [if_pos c123] at e
                refine xok_eqb (h112.pt (o := 0) (c := 15) (k := 29) (t := 2) (n := 107) (by decide) rfl (by decide) (by decide +kernel)) ?_
                refine xok_eqb (h112.pt (o := 2) (c := 14) (k := 5) (t := 2 + 6) (n := 38) (xoP_o (show xoP 2 by unfold xoP; omega)).1 (xoP_o (show xoP 2 by unfold xoP; omega)).2 (by decide) (xoP_all (show xoP 2 by unfold xoP; omega) (Q := fun p => (p, 5, p + 6) ∈ xl_P) (by decide +kernel) (by decide +kernel) (by decide +kernel))) ?_
                by_cases c124 : 0 ≤ (a1) ∧ (a1) < 16
                · skip
                  rw [if_pos c124] at e
                  refine xok_eqb (h112.ab (o := 2 + 6) (n := 16) (xoP_all (show xoP 2 by unfold xoP; omega) (Q := fun p => p + 6 < 276) (by decide) (by decide) (by decide)) (xoP_all (show xoP 2 by unfold xoP; omega) (Q := fun p => xl_t (p + 6) = (2, 0, 16)) rfl rfl rfl) (by decide) c124.1 c124.2) ?_
                  refine xok_ite (fun c125 => ?_) (fun c125 => ?_)
                  · rw [if_pos c125] at e
                    exact s378_125 hI   h112 (show xin (0) by decide) e
                  · rw [if_neg c125] at e
                    exact s378_125 hI   h112 (show xin (1) by decide) e
                · rw [if_neg c124] at e; cases e
              · rw [if_neg c123] at e
                refine xok_ite (fun c126 => ?_) (fun c126 => ?_)
                · rw [if_pos c126] at e
                  refine xok_eqb (h112.pt (o := 0) (c := 15) (k := 29) (t := 2) (n := 107) (by decide) rfl (by decide) (by decide +kernel)) ?_
                  refine xok_eqb (h112.pt (o := 2) (c := 14) (k := 6) (t := 2 + 7) (n := 38) (xoP_o (show xoP 2 by unfold xoP; omega)).1 (xoP_o (show xoP 2 by unfold xoP; omega)).2 (by decide) (xoP_all (show xoP 2 by unfold xoP; omega) (Q := fun p => (p, 6, p + 7) ∈ xl_P) (by decide +kernel) (by decide +kernel) (by decide +kernel))) ?_
                  by_cases c127 : 0 ≤ (a1) ∧ (a1) < 16
                  · skip
                    rw [if_pos c127] at e
                    refine xok_eqb (h112.ab (o := 2 + 7) (n := 16) (xoP_all (show xoP 2 by unfold xoP; omega) (Q := fun p => p + 7 < 276) (by decide) (by decide) (by decide)) (xoP_all (show xoP 2 by unfold xoP; omega) (Q := fun p => xl_t (p + 7) = (2, 0, 16)) rfl rfl rfl) (by decide) c127.1 c127.2) ?_
                    refine xok_ite (fun c128 => ?_) (fun c128 => ?_)
                    · rw [if_pos c128] at e
                      exact s378_143 hI   h112 (show xin (0) by decide) e
                    · rw [if_neg c128] at e
                      exact s378_143 hI   h112 (show xin (1) by decide) e
                  · rw [if_neg c127] at e; cases e
                · rw [if_neg c126] at e
                  refine xok_ite (fun c129 => ?_) (fun c129 => ?_)
                  · rw [if_pos c129] at e
                    refine xok_eqb (h112.pt (o := 0) (c := 15) (k := 29) (t := 2) (n := 107) (by decide) rfl (by decide) (by decide +kernel)) ?_
                    refine xok_eqb (h112.pt (o := 2) (c := 14) (k := 4) (t := 2 + 5) (n := 38) (xoP_o (show xoP 2 by unfold xoP; omega)).1 (xoP_o (show xoP 2 by unfold xoP; omega)).2 (by decide) (xoP_all (show xoP 2 by unfold xoP; omega) (Q := fun p => (p, 4, p + 5) ∈ xl_P) (by decide +kernel) (by decide +kernel) (by decide +kernel))) ?_
                    by_cases c130 : 0 ≤ (a1) ∧ (a1) < 16
                    · skip
                      rw [if_pos c130] at e
                      refine xok_eqb (h112.ai (o := 2 + 5) (n := 16) (xoP_all (show xoP 2 by unfold xoP; omega) (Q := fun p => p + 5 < 276) (by decide) (by decide) (by decide)) (xoP_all (show xoP 2 by unfold xoP; omega) (Q := fun p => xl_t (p + 5) = (2, 3, 16)) rfl rfl rfl) (by decide) c130.1 c130.2) ?_
                      cases e
                      exact ⟨_, rfl, rfl, h112, (h112.ain (o := 2 + 5) (n := 16) (xoP_all (show xoP 2 by unfold xoP; omega) (Q := fun p => p + 5 < 276) (by decide) (by decide) (by decide)) (xoP_all (show xoP 2 by unfold xoP; omega) (Q := fun p => xl_t (p + 5) = (2, 3, 16)) rfl rfl rfl) (by decide) c130.1 c130.2)⟩
                    · rw [if_neg c130] at e; cases e
                  · rw [if_neg c129] at e
                    refine xok_ite (fun c131 => ?_) (fun c131 => ?_)
                    · rw [if_pos c131] at e
                      refine xok_eqb (h112.pt (o := 123 + 29 * (R110 (0) 62).toNat) (c := 13) (k := 21) (t := 123 + 29 * (R110 (0) 62).toNat + 18) (n := 37) (xoL_o (xoL_of c117)).1 (xoL_o (xoL_of c117)).2 (by decide) (xoL_all (xoL_of c117) (Q := fun p => (p, 21, p + 18) ∈ xl_P) (by decide +kernel) (by decide +kernel) (by decide +kernel) (by decide +kernel))) ?_
                      by_cases c132 : 0 ≤ (a1) ∧ (a1) < 16
                      · skip
                        rw [if_pos c132] at e
                        refine xok_eqb (h112.ai (o := 123 + 29 * (R110 (0) 62).toNat + 18) (n := 16) (xoL_all (xoL_of c117) (Q := fun p => p + 18 < 276) (by decide) (by decide) (by decide) (by decide)) (xoL_all (xoL_of c117) (Q := fun p => xl_t (p + 18) = (2, 3, 16)) rfl rfl rfl rfl) (by decide) c132.1 c132.2) ?_
                        cases e
                        exact ⟨_, rfl, rfl, h112, (h112.ain (o := 123 + 29 * (R110 (0) 62).toNat + 18) (n := 16) (xoL_all (xoL_of c117) (Q := fun p => p + 18 < 276) (by decide) (by decide) (by decide) (by decide)) (xoL_all (xoL_of c117) (Q := fun p => xl_t (p + 18) = (2, 3, 16)) rfl rfl rfl rfl) (by decide) c132.1 c132.2)⟩
                      · rw [if_neg c132] at e; cases e
                    · rw [if_neg c131] at e
                      refine xok_ite (fun c133 => ?_) (fun c133 => ?_)
                      · rw [if_pos c133] at e
                        refine xok_eqb (h112.pt (o := 0) (c := 15) (k := 33) (t := 108) (n := 107) (by decide) rfl (by decide) (by decide +kernel)) ?_
                        by_cases c134 : 0 ≤ (a1) ∧ (a1) < 16
                        · skip
                          rw [if_pos c134] at e
                          refine xok_eqb (h112.ai (o := 108) (n := 16) (by decide) rfl (by decide) c134.1 c134.2) ?_
                          cases e
                          exact ⟨_, rfl, rfl, h112, (h112.ain (o := 108) (n := 16) (by decide) rfl (by decide) c134.1 c134.2)⟩
                        · rw [if_neg c134] at e; cases e
                      · rw [if_neg c133] at e
                        refine xok_eqb (h112.pt (o := 123 + 29 * (R110 (0) 62).toNat) (c := 13) (k := 22) (t := 123 + 29 * (R110 (0) 62).toNat + 19) (n := 37) (xoL_o (xoL_of c117)).1 (xoL_o (xoL_of c117)).2 (by decide) (xoL_all (xoL_of c117) (Q := fun p => (p, 22, p + 19) ∈ xl_P) (by decide +kernel) (by decide +kernel) (by decide +kernel) (by decide +kernel))) ?_
                        by_cases c135 : 0 ≤ (a1) ∧ (a1) < 16
                        · skip
                          rw [if_pos c135] at e
                          refine xok_eqb (h112.ai (o := 123 + 29 * (R110 (0) 62).toNat + 19) (n := 16) (xoL_all (xoL_of c117) (Q := fun p => p + 19 < 276) (by decide) (by decide) (by decide) (by decide)) (xoL_all (xoL_of c117) (Q := fun p => xl_t (p + 19) = (2, 3, 16)) rfl rfl rfl rfl) (by decide) c135.1 c135.2) ?_
                          cases e
                          exact ⟨_, rfl, rfl, h112, (h112.ain (o := 123 + 29 * (R110 (0) 62).toNat + 19) (n := 16) (xoL_all (xoL_of c117) (Q := fun p => p + 19 < 276) (by decide) (by decide) (by decide) (by decide)) (xoL_all (xoL_of c117) (Q := fun p => xl_t (p + 19) = (2, 3, 16)) rfl rfl rfl rfl) (by decide) c135.1 c135.2)⟩
                        · rw [if_neg c135] at e; cases e
      · rw [if_neg c117] at e; cases e
    · rw [if_neg c116] at e
      exact s378_24 hI   h112  e
-- ChangeHouseModel.edit
theorem s380_55 {m f : Nat} {M0 M : xj_M} {G : xG_} (hI : xHI f)     (h : xRX m M0 M G)  {R : Int × xG_}  (e : g380_55   f  G = some R) : xok (f380_55   f m M) (fun r => r.1 = R.1 ∧ xRX m M0 r.2 R.2 ∧ xiN R.1) := by
  unfold g380_55 at e
  unfold f380_55
  obtain ⟨R101, e102, e⟩ := xbnd e
  refine xok_eqb (h.is (o := 0) (c := 15) (by decide) rfl) ?_
  refine xok_call (sg321 hI  h  e102) ?_
  rintro ⟨v_, M105⟩ ⟨hv_, h103, hi104⟩
  cases hv_
  cases e
  exact ⟨_, rfl, rfl, h103, (xin_N hi104)⟩
theorem s380_102 {m f : Nat} {M0 M : xj_M} {G : xG_} (hI : xHI f)     (h : xRX m M0 M G) {y0 : Int} {R : Int × xG_} (ty0 : xiN y0) (e : g380_102   f y0 G = some R) : xok (f380_102   f y0 M) (fun r => r.1 = R.1 ∧ xRX m M0 r.2 R.2 ∧ xiN R.1) := by
  unfold g380_102 at e
  unfold f380_102
  cases e
  exact ⟨_, rfl, rfl, h, ty0⟩
theorem sg380 {m f : Nat} {M0 M : xj_M} {G : xG_} (hI : xHI f)   (h : xRX m M0 M G) {a1 : Int} {a2 : Int} {R : Int × xG_} (ta1 : xin a1) (ta2 : xin a2) (e : g380  f a1 a2 G = some R) : xok (f380  f m a1 a2 M) (fun r => r.1 = R.1 ∧ xRX m M0 r.2 R.2 ∧ xiN R.1) := by
  unfold g380 at e
  unfold f380
  obtain ⟨M106, q107, h108⟩ := h.pi (v := 0) (o := 0) (c := 15) (k := 74) (n := 107) (by decide) rfl (by decide) (by decide) (show xin (0) by decide)
  refine xok_eqb q107 ?_
  obtain ⟨G109, g1, e⟩ := xbnd e
  cases g1
  have h108_ : xRX m M0 M106 (xup2 G (0) 74 (0)) := h108
  generalize hGG109 : (xup2 G (0) 74 (0)) = G109 at e h108
  clear h108_ hGG109
  obtain ⟨R110, e111, e⟩ := xbnd e
  refine xok_eqb (h108.is (o := 0) (c := 15) (by decide) rfl) ?_
  refine xok_call (sg296 hI  h108  e111) ?_
  intro M114 h112
  refine xok_eqb (h112.pt (o := 0) (c := 15) (k := 61) (t := 122) (n := 107) (by decide) rfl (by decide) (by decide +kernel)) ?_
  refine xok_eqb (h112.gi (o := 0) (c := 15) (k := 62) (n := 107) (by decide) rfl (by decide) (by decide)) ?_
  by_cases c115 : 0 ≤ (R110 (0) 62) ∧ (R110 (0) 62) < 4
  · skip
    rw [if_pos c115] at e
    refine xok_eqb (h112.lin c115) ?_
    refine xok_ite (fun c116 => ?_) (fun c116 => ?_)
    · rw [if_pos c116] at e
      exact s380_55 hI   h112  e
    · rw [if_neg c116] at e
      refine xok_eqb (h112.gi (o := 123 + 29 * (R110 (0) 62).toNat) (c := 13) (k := 27) (n := 37) (xoL_o (xoL_of c115)).1 (xoL_o (xoL_of c115)).2 (by decide) (by decide)) ?_
      refine xok_ite (fun c117 => ?_) (fun c117 => ?_)
      · rw [if_pos c117] at e
        exact s380_55 hI   h112  e
      · rw [if_neg c117] at e
        refine xok_ite (fun c118 => ?_) (fun c118 => ?_)
        · rw [if_pos c118] at e
          exact s380_55 hI   h112  e
        · rw [if_neg c118] at e
          refine xok_eqb (h112.pt (o := 0) (c := 15) (k := 29) (t := 2) (n := 107) (by decide) rfl (by decide) (by decide +kernel)) ?_
          refine xok_eqb (h112.pt (o := 2) (c := 14) (k := 1) (t := 2 + 2) (n := 38) (xoP_o (show xoP 2 by unfold xoP; omega)).1 (xoP_o (show xoP 2 by unfold xoP; omega)).2 (by decide) (xoP_all (show xoP 2 by unfold xoP; omega) (Q := fun p => (p, 1, p + 2) ∈ xl_P) (by decide +kernel) (by decide +kernel) (by decide +kernel))) ?_
          refine xok_eqb (h112.pt (o := 123 + 29 * (R110 (0) 62).toNat) (c := 13) (k := 24) (t := 123 + 29 * (R110 (0) 62).toNat + 21) (n := 37) (xoL_o (xoL_of c115)).1 (xoL_o (xoL_of c115)).2 (by decide) (xoL_all (xoL_of c115) (Q := fun p => (p, 24, p + 21) ∈ xl_P) (by decide +kernel) (by decide +kernel) (by decide +kernel) (by decide +kernel))) ?_
          by_cases c119 : 0 ≤ (a1) ∧ (a1) < 3400
          · skip
            rw [if_pos c119] at e
            refine xok_eqb (h112.ai (o := 123 + 29 * (R110 (0) 62).toNat + 21) (n := 3400) (xoL_all (xoL_of c115) (Q := fun p => p + 21 < 276) (by decide) (by decide) (by decide) (by decide)) (xoL_all (xoL_of c115) (Q := fun p => xl_t (p + 21) = (2, 3, 3400)) rfl rfl rfl rfl) (by decide) c119.1 c119.2) ?_
            by_cases c120 : 0 ≤ (R110 (123 + 29 * (R110 (0) 62).toNat + 21) (a1).toNat) ∧ (R110 (123 + 29 * (R110 (0) 62).toNat + 21) (a1).toNat) < 16
            · skip
              rw [if_pos c120] at e
              refine xok_eqb (h112.ai (o := 2 + 2) (n := 16) (xoP_all (show xoP 2 by unfold xoP; omega) (Q := fun p => p + 2 < 276) (by decide) (by decide) (by decide)) (xoP_all (show xoP 2 by unfold xoP; omega) (Q := fun p => xl_t (p + 2) = (2, 3, 16)) rfl rfl rfl) (by decide) c120.1 c120.2) ?_
              refine xok_ite (fun c121 => ?_) (fun c121 => ?_)
              · rw [if_pos c121] at e
                refine xok_ite (fun c122 => ?_) (fun c122 => ?_)
                · rw [if_pos c122] at e
                  refine xok_ite (fun c123 => ?_) (fun c123 => ?_)
                  · rw [if_pos c123] at e
                    refine xok_eqb (h112.pt (o := 123 + 29 * (R110 (0) 62).toNat) (c := 13) (k := 26) (t := 123 + 29 * (R110 (0) 62).toNat + 23) (n := 37) (xoL_o (xoL_of c115)).1 (xoL_o (xoL_of c115)).2 (by decide) (xoL_all (xoL_of c115) (Q := fun p => (p, 26, p + 23) ∈ xl_P) (by decide +kernel) (by decide +kernel) (by decide +kernel) (by decide +kernel))) ?_
                    by_cases c124 : 0 ≤ (xwr ((xwr ((xwr ((4) * (a1))) + (a2))) - (2))) ∧ (xwr ((xwr ((xwr ((4) * (a1))) + (a2))) - (2))) < 13600
                    · skip
                      rw [if_pos c124] at e
                      refine xok_eqb (h112.al (o := 123 + 29 * (R110 (0) 62).toNat + 23) (n := 13600) (xoL_all (xoL_of c115) (Q := fun p => p + 23 < 276) (by decide) (by decide) (by decide) (by decide)) (xoL_all (xoL_of c115) (Q := fun p => xl_t (p + 23) = (2, 4, 13600)) rfl rfl rfl rfl)  c124.1 c124.2) ?_
                      exact s380_102 hI   h112 (h112.aln (o := 123 + 29 * (R110 (0) 62).toNat + 23) (n := 13600) (xoL_all (xoL_of c115) (Q := fun p => p + 23 < 276) (by decide) (by decide) (by decide) (by decide)) (xoL_all (xoL_of c115) (Q := fun p => xl_t (p + 23) = (2, 4, 13600)) rfl rfl rfl rfl)  c124.1 c124.2) e
                    · rw [if_neg c124] at e; cases e
                  · rw [if_neg c123] at e
                    refine xok_eqb (h112.pt (o := 123 + 29 * (R110 (0) 62).toNat) (c := 13) (k := 25) (t := 123 + 29 * (R110 (0) 62).toNat + 22) (n := 37) (xoL_o (xoL_of c115)).1 (xoL_o (xoL_of c115)).2 (by decide) (xoL_all (xoL_of c115) (Q := fun p => (p, 25, p + 22) ∈ xl_P) (by decide +kernel) (by decide +kernel) (by decide +kernel) (by decide +kernel))) ?_
                    by_cases c125 : 0 ≤ (a1) ∧ (a1) < 3400
                    · skip
                      rw [if_pos c125] at e
                      refine xok_eqb (h112.ai (o := 123 + 29 * (R110 (0) 62).toNat + 22) (n := 3400) (xoL_all (xoL_of c115) (Q := fun p => p + 22 < 276) (by decide) (by decide) (by decide) (by decide)) (xoL_all (xoL_of c115) (Q := fun p => xl_t (p + 22) = (2, 3, 3400)) rfl rfl rfl rfl) (by decide) c125.1 c125.2) ?_
                      exact s380_102 hI   h112 (xin_N (h112.ain (o := 123 + 29 * (R110 (0) 62).toNat + 22) (n := 3400) (xoL_all (xoL_of c115) (Q := fun p => p + 22 < 276) (by decide) (by decide) (by decide) (by decide)) (xoL_all (xoL_of c115) (Q := fun p => xl_t (p + 22) = (2, 3, 3400)) rfl rfl rfl rfl) (by decide) c125.1 c125.2)) e
                    · rw [if_neg c125] at e; cases e
                · rw [if_neg c122] at e
                  refine xok_eqb (h112.pt (o := 123 + 29 * (R110 (0) 62).toNat) (c := 13) (k := 24) (t := 123 + 29 * (R110 (0) 62).toNat + 21) (n := 37) (xoL_o (xoL_of c115)).1 (xoL_o (xoL_of c115)).2 (by decide) (xoL_all (xoL_of c115) (Q := fun p => (p, 24, p + 21) ∈ xl_P) (by decide +kernel) (by decide +kernel) (by decide +kernel) (by decide +kernel))) ?_
                  by_cases c126 : 0 ≤ (a1) ∧ (a1) < 3400
                  · skip
                    rw [if_pos c126] at e
                    refine xok_eqb (h112.ai (o := 123 + 29 * (R110 (0) 62).toNat + 21) (n := 3400) (xoL_all (xoL_of c115) (Q := fun p => p + 21 < 276) (by decide) (by decide) (by decide) (by decide)) (xoL_all (xoL_of c115) (Q := fun p => xl_t (p + 21) = (2, 3, 3400)) rfl rfl rfl rfl) (by decide) c126.1 c126.2) ?_
                    exact s380_102 hI   h112 (xin_N (h112.ain (o := 123 + 29 * (R110 (0) 62).toNat + 21) (n := 3400) (xoL_all (xoL_of c115) (Q := fun p => p + 21 < 276) (by decide) (by decide) (by decide) (by decide)) (xoL_all (xoL_of c115) (Q := fun p => xl_t (p + 21) = (2, 3, 3400)) rfl rfl rfl rfl) (by decide) c126.1 c126.2)) e
                  · rw [if_neg c126] at e; cases e
              · rw [if_neg c121] at e
                exact s380_55 hI   h112  e
            · rw [if_neg c120] at e; cases e
          · rw [if_neg c119] at e; cases e
  · rw [if_neg c115] at e; cases e
-- ChangeHouseModel.keepInputs
theorem s299_173 {m f : Nat} {M0 M : xj_M} {G : xG_} (hI : xHI f)  {r31 : Nat → Int → xG_ → Option (xG_)} {o31 : Nat → Nat → Int → xj_M → Option (xj_M)}  (hr31 : ∀ {M : xj_M} {G : xG_} {x1 : Nat} {x2 : Int} {R : xG_}, xRX m M0 M G → xoL x1 → xin x2 → r31 x1 x2 G = some R → xok (o31 m (m + x1) x2 M) (fun r => xRX m M0 r R)) (h : xRX m M0 M G) {x1 : Nat} {x2 : Int} {R : xG_} (tx1 : xoL x1) (tx2 : xin x2) (e : g299_173  r31 f x1 x2 G = some R) : xok (f299_173  o31 f m (m + x1) x2 M) (fun r => xRX m M0 r R) := by
  unfold g299_173 at e
  unfold f299_173
  exact hr31 h tx1 (xin_wr _) e
theorem s299_31b {m f : Nat} {M0 M : xj_M} {G : xG_} (hI : xHI f)  {r31 : Nat → Int → xG_ → Option (xG_)} {o31 : Nat → Nat → Int → xj_M → Option (xj_M)}  (hr31 : ∀ {M : xj_M} {G : xG_} {x1 : Nat} {x2 : Int} {R : xG_}, xRX m M0 M G → xoL x1 → xin x2 → r31 x1 x2 G = some R → xok (o31 m (m + x1) x2 M) (fun r => xRX m M0 r R)) (h : xRX m M0 M G) {x1 : Nat} {x2 : Int} {R : xG_} (tx1 : xoL x1) (tx2 : xin x2) (e : g299_31b  r31 f x1 x2 G = some R) : xok (f299_31b  o31 f m (m + x1) x2 M) (fun r => xRX m M0 r R) := by
  unfold g299_31b at e
  unfold f299_31b
  refine xok_eqb (h.pt (o := x1) (c := 13) (k := 0) (t := x1 + 1) (n := 37) (xoL_o tx1).1 (xoL_o tx1).2 (by decide) (xoL_all tx1 (Q := fun p => (p, 0, p + 1) ∈ xl_P) (by decide +kernel) (by decide +kernel) (by decide +kernel) (by decide +kernel))) ?_
  refine xok_eqb (h.gi (o := x1 + 1) (c := 12) (k := 3) (n := 4) (xoF_o (xoL_all tx1 (Q := fun p => xoF (p + 1)) (by unfold xoF; omega) (by unfold xoF; omega) (by unfold xoF; omega) (by unfold xoF; omega))).1 (xoF_o (xoL_all tx1 (Q := fun p => xoF (p + 1)) (by unfold xoF; omega) (by unfold xoF; omega) (by unfold xoF; omega) (by unfold xoF; omega))).2 (by decide) (by decide)) ?_
  refine xok_ite (fun c101 => ?_) (fun c101 => ?_)
  · rw [if_pos c101] at e
    cases e
    exact ⟨_, rfl, h⟩
  · rw [if_neg c101] at e
    refine xok_eqb (h.pt (o := 0) (c := 15) (k := 29) (t := 2) (n := 107) (by decide) rfl (by decide) (by decide +kernel)) ?_
    refine xok_eqb (h.pt (o := x1) (c := 13) (k := 0) (t := x1 + 1) (n := 37) (xoL_o tx1).1 (xoL_o tx1).2 (by decide) (xoL_all tx1 (Q := fun p => (p, 0, p + 1) ∈ xl_P) (by decide +kernel) (by decide +kernel) (by decide +kernel) (by decide +kernel))) ?_
    refine xok_eqb (h.pt (o := x1 + 1) (c := 12) (k := 0) (t := x1 + 1 + 1) (n := 4) (xoF_o (xoL_all tx1 (Q := fun p => xoF (p + 1)) (by unfold xoF; omega) (by unfold xoF; omega) (by unfold xoF; omega) (by unfold xoF; omega))).1 (xoF_o (xoL_all tx1 (Q := fun p => xoF (p + 1)) (by unfold xoF; omega) (by unfold xoF; omega) (by unfold xoF; omega) (by unfold xoF; omega))).2 (by decide) (xoF_all (xoL_all tx1 (Q := fun p => xoF (p + 1)) (by unfold xoF; omega) (by unfold xoF; omega) (by unfold xoF; omega) (by unfold xoF; omega)) (Q := fun p => (p, 0, p + 1) ∈ xl_P) (by decide +kernel) (by decide +kernel) (by decide +kernel) (by decide +kernel) (by decide +kernel) (by decide +kernel) (by decide +kernel))) ?_
    by_cases c102 : 0 ≤ (x2) ∧ (x2) < 3400
    · skip
      rw [if_pos c102] at e
      refine xok_eqb (h.al (o := x1 + 1 + 1) (n := 3400) (xoF_all (xoL_all tx1 (Q := fun p => xoF (p + 1)) (by unfold xoF; omega) (by unfold xoF; omega) (by unfold xoF; omega) (by unfold xoF; omega)) (Q := fun p => p + 1 < 276) (by decide) (by decide) (by decide) (by decide) (by decide) (by decide) (by decide)) (xoF_all (xoL_all tx1 (Q := fun p => xoF (p + 1)) (by unfold xoF; omega) (by unfold xoF; omega) (by unfold xoF; omega) (by unfold xoF; omega)) (Q := fun p => xl_t (p + 1) = (2, 4, 3400)) rfl rfl rfl rfl rfl rfl rfl)  c102.1 c102.2) ?_
      obtain ⟨R103, e104, e⟩ := xbnd e
      refine xok_eqb (h.is (o := 2) (c := 14) (xoP_o (show xoP 2 by unfold xoP; omega)).1 (xoP_o (show xoP 2 by unfold xoP; omega)).2) ?_
      refine xok_call (sg205 hI  h (show xoP 2 by unfold xoP; omega) (h.aln (o := x1 + 1 + 1) (n := 3400) (xoF_all (xoL_all tx1 (Q := fun p => xoF (p + 1)) (by unfold xoF; omega) (by unfold xoF; omega) (by unfold xoF; omega) (by unfold xoF; omega)) (Q := fun p => p + 1 < 276) (by decide) (by decide) (by decide) (by decide) (by decide) (by decide) (by decide)) (xoF_all (xoL_all tx1 (Q := fun p => xoF (p + 1)) (by unfold xoF; omega) (by unfold xoF; omega) (by unfold xoF; omega) (by unfold xoF; omega)) (Q := fun p => xl_t (p + 1) = (2, 4, 3400)) rfl rfl rfl rfl rfl rfl rfl)  c102.1 c102.2) e104) ?_
      rintro ⟨v_, M107⟩ ⟨hv_, h105, hi106⟩
      cases hv_
      refine xok_eqb (h105.pt (o := 0) (c := 15) (k := 30) (t := 37) (n := 107) (by decide) rfl (by decide) (by decide +kernel)) ?_
      refine xok_eqb (h105.pt (o := x1) (c := 13) (k := 0) (t := x1 + 1) (n := 37) (xoL_o tx1).1 (xoL_o tx1).2 (by decide) (xoL_all tx1 (Q := fun p => (p, 0, p + 1) ∈ xl_P) (by decide +kernel) (by decide +kernel) (by decide +kernel) (by decide +kernel))) ?_
      refine xok_eqb (h105.pt (o := x1 + 1) (c := 12) (k := 0) (t := x1 + 1 + 1) (n := 4) (xoF_o (xoL_all tx1 (Q := fun p => xoF (p + 1)) (by unfold xoF; omega) (by unfold xoF; omega) (by unfold xoF; omega) (by unfold xoF; omega))).1 (xoF_o (xoL_all tx1 (Q := fun p => xoF (p + 1)) (by unfold xoF; omega) (by unfold xoF; omega) (by unfold xoF; omega) (by unfold xoF; omega))).2 (by decide) (xoF_all (xoL_all tx1 (Q := fun p => xoF (p + 1)) (by unfold xoF; omega) (by unfold xoF; omega) (by unfold xoF; omega) (by unfold xoF; omega)) (Q := fun p => (p, 0, p + 1) ∈ xl_P) (by decide +kernel) (by decide +kernel) (by decide +kernel) (by decide +kernel) (by decide +kernel) (by decide +kernel) (by decide +kernel))) ?_
      by_cases c108 : 0 ≤ (x2) ∧ (x2) < 3400
      · skip
        rw [if_pos c108] at e
        refine xok_eqb (h105.al (o := x1 + 1 + 1) (n := 3400) (xoF_all (xoL_all tx1 (Q := fun p => xoF (p + 1)) (by unfold xoF; omega) (by unfold xoF; omega) (by unfold xoF; omega) (by unfold xoF; omega)) (Q := fun p => p + 1 < 276) (by decide) (by decide) (by decide) (by decide) (by decide) (by decide) (by decide)) (xoF_all (xoL_all tx1 (Q := fun p => xoF (p + 1)) (by unfold xoF; omega) (by unfold xoF; omega) (by unfold xoF; omega) (by unfold xoF; omega)) (Q := fun p => xl_t (p + 1) = (2, 4, 3400)) rfl rfl rfl rfl rfl rfl rfl)  c108.1 c108.2) ?_
        obtain ⟨R109, e110, e⟩ := xbnd e
        refine xok_eqb (h105.is (o := 37) (c := 14) (xoP_o (show xoP 37 by unfold xoP; omega)).1 (xoP_o (show xoP 37 by unfold xoP; omega)).2) ?_
        refine xok_call (sg205 hI  h105 (show xoP 37 by unfold xoP; omega) (h105.aln (o := x1 + 1 + 1) (n := 3400) (xoF_all (xoL_all tx1 (Q := fun p => xoF (p + 1)) (by unfold xoF; omega) (by unfold xoF; omega) (by unfold xoF; omega) (by unfold xoF; omega)) (Q := fun p => p + 1 < 276) (by decide) (by decide) (by decide) (by decide) (by decide) (by decide) (by decide)) (xoF_all (xoL_all tx1 (Q := fun p => xoF (p + 1)) (by unfold xoF; omega) (by unfold xoF; omega) (by unfold xoF; omega) (by unfold xoF; omega)) (Q := fun p => xl_t (p + 1) = (2, 4, 3400)) rfl rfl rfl rfl rfl rfl rfl)  c108.1 c108.2) e110) ?_
        rintro ⟨v_, M113⟩ ⟨hv_, h111, hi112⟩
        cases hv_
        refine xok_ite (fun c114 => ?_) (fun c114 => ?_)
        · rw [if_pos c114] at e
          exact s299_173 hI  hr31 h111 tx1 tx2 e
        · rw [if_neg c114] at e
          refine xok_ite (fun c115 => ?_) (fun c115 => ?_)
          · rw [if_pos c115] at e
            exact s299_173 hI  hr31 h111 tx1 tx2 e
          · rw [if_neg c115] at e
            refine xok_eqb (h111.pt (o := 0) (c := 15) (k := 29) (t := 2) (n := 107) (by decide) rfl (by decide) (by decide +kernel)) ?_
            refine xok_eqb (h111.pt (o := 2) (c := 14) (k := 5) (t := 2 + 6) (n := 38) (xoP_o (show xoP 2 by unfold xoP; omega)).1 (xoP_o (show xoP 2 by unfold xoP; omega)).2 (by decide) (xoP_all (show xoP 2 by unfold xoP; omega) (Q := fun p => (p, 5, p + 6) ∈ xl_P) (by decide +kernel) (by decide +kernel) (by decide +kernel))) ?_
            by_cases c116 : 0 ≤ (R103.1) ∧ (R103.1) < 16
            · skip
              rw [if_pos c116] at e
              refine xok_eqb (h111.ab (o := 2 + 6) (n := 16) (xoP_all (show xoP 2 by unfold xoP; omega) (Q := fun p => p + 6 < 276) (by decide) (by decide) (by decide)) (xoP_all (show xoP 2 by unfold xoP; omega) (Q := fun p => xl_t (p + 6) = (2, 0, 16)) rfl rfl rfl) (by decide) c116.1 c116.2) ?_
              refine xok_ite (fun c117 => ?_) (fun c117 => ?_)
              · rw [if_pos c117] at e
                exact s299_173 hI  hr31 h111 tx1 tx2 e
              · rw [if_neg c117] at e
                refine xok_eqb (h111.pt (o := 0) (c := 15) (k := 30) (t := 37) (n := 107) (by decide) rfl (by decide) (by decide +kernel)) ?_
                refine xok_eqb (h111.pt (o := 37) (c := 14) (k := 5) (t := 37 + 6) (n := 38) (xoP_o (show xoP 37 by unfold xoP; omega)).1 (xoP_o (show xoP 37 by unfold xoP; omega)).2 (by decide) (xoP_all (show xoP 37 by unfold xoP; omega) (Q := fun p => (p, 5, p + 6) ∈ xl_P) (by decide +kernel) (by decide +kernel) (by decide +kernel))) ?_
                by_cases c118 : 0 ≤ (R109.1) ∧ (R109.1) < 16
                · skip
                  rw [if_pos c118] at e
                  refine xok_eqb (h111.ab (o := 37 + 6) (n := 16) (xoP_all (show xoP 37 by unfold xoP; omega) (Q := fun p => p + 6 < 276) (by decide) (by decide) (by decide)) (xoP_all (show xoP 37 by unfold xoP; omega) (Q := fun p => xl_t (p + 6) = (2, 0, 16)) rfl rfl rfl) (by decide) c118.1 c118.2) ?_
                  refine xok_ite (fun c119 => ?_) (fun c119 => ?_)
                  · rw [if_pos c119] at e
                    exact s299_173 hI  hr31 h111 tx1 tx2 e
                  · rw [if_neg c119] at e
                    refine xok_eqb (h111.pt (o := 0) (c := 15) (k := 29) (t := 2) (n := 107) (by decide) rfl (by decide) (by decide +kernel)) ?_
                    refine xok_eqb (h111.pt (o := 2) (c := 14) (k := 1) (t := 2 + 2) (n := 38) (xoP_o (show xoP 2 by unfold xoP; omega)).1 (xoP_o (show xoP 2 by unfold xoP; omega)).2 (by decide) (xoP_all (show xoP 2 by unfold xoP; omega) (Q := fun p => (p, 1, p + 2) ∈ xl_P) (by decide +kernel) (by decide +kernel) (by decide +kernel))) ?_
                    by_cases c120 : 0 ≤ (R103.1) ∧ (R103.1) < 16
                    · skip
                      rw [if_pos c120] at e
                      refine xok_eqb (h111.ai (o := 2 + 2) (n := 16) (xoP_all (show xoP 2 by unfold xoP; omega) (Q := fun p => p + 2 < 276) (by decide) (by decide) (by decide)) (xoP_all (show xoP 2 by unfold xoP; omega) (Q := fun p => xl_t (p + 2) = (2, 3, 16)) rfl rfl rfl) (by decide) c120.1 c120.2) ?_
                      refine xok_eqb (h111.pt (o := 0) (c := 15) (k := 30) (t := 37) (n := 107) (by decide) rfl (by decide) (by decide +kernel)) ?_
                      refine xok_eqb (h111.pt (o := 37) (c := 14) (k := 1) (t := 37 + 2) (n := 38) (xoP_o (show xoP 37 by unfold xoP; omega)).1 (xoP_o (show xoP 37 by unfold xoP; omega)).2 (by decide) (xoP_all (show xoP 37 by unfold xoP; omega) (Q := fun p => (p, 1, p + 2) ∈ xl_P) (by decide +kernel) (by decide +kernel) (by decide +kernel))) ?_
                      by_cases c121 : 0 ≤ (R109.1) ∧ (R109.1) < 16
                      · skip
                        rw [if_pos c121] at e
                        refine xok_eqb (h111.ai (o := 37 + 2) (n := 16) (xoP_all (show xoP 37 by unfold xoP; omega) (Q := fun p => p + 2 < 276) (by decide) (by decide) (by decide)) (xoP_all (show xoP 37 by unfold xoP; omega) (Q := fun p => xl_t (p + 2) = (2, 3, 16)) rfl rfl rfl) (by decide) c121.1 c121.2) ?_
                        refine xok_ite (fun c122 => ?_) (fun c122 => ?_)
                        · rw [if_pos c122] at e
                          exact s299_173 hI  hr31 h111 tx1 tx2 e
                        · rw [if_neg c122] at e
                          refine xok_eqb (h111.pt (o := 0) (c := 15) (k := 29) (t := 2) (n := 107) (by decide) rfl (by decide) (by decide +kernel)) ?_
                          refine xok_eqb (h111.pt (o := 2) (c := 14) (k := 2) (t := 2 + 3) (n := 38) (xoP_o (show xoP 2 by unfold xoP; omega)).1 (xoP_o (show xoP 2 by unfold xoP; omega)).2 (by decide) (xoP_all (show xoP 2 by unfold xoP; omega) (Q := fun p => (p, 2, p + 3) ∈ xl_P) (by decide +kernel) (by decide +kernel) (by decide +kernel))) ?_
                          by_cases c123 : 0 ≤ (R103.1) ∧ (R103.1) < 16
                          · skip
                            rw [if_pos c123] at e
                            refine xok_eqb (h111.ai (o := 2 + 3) (n := 16) (xoP_all (show xoP 2 by unfold xoP; omega) (Q := fun p => p + 3 < 276) (by decide) (by decide) (by decide)) (xoP_all (show xoP 2 by unfold xoP; omega) (Q := fun p => xl_t (p + 3) = (2, 3, 16)) rfl rfl rfl) (by decide) c123.1 c123.2) ?_
                            refine xok_eqb (h111.pt (o := 0) (c := 15) (k := 30) (t := 37) (n := 107) (by decide) rfl (by decide) (by decide +kernel)) ?_
                            refine xok_eqb (h111.pt (o := 37) (c := 14) (k := 2) (t := 37 + 3) (n := 38) (xoP_o (show xoP 37 by unfold xoP; omega)).1 (xoP_o (show xoP 37 by unfold xoP; omega)).2 (by decide) (xoP_all (show xoP 37 by unfold xoP; omega) (Q := fun p => (p, 2, p + 3) ∈ xl_P) (by decide +kernel) (by decide +kernel) (by decide +kernel))) ?_
                            by_cases c124 : 0 ≤ (R109.1) ∧ (R109.1) < 16
                            · skip
                              rw [if_pos c124] at e
                              refine xok_eqb (h111.ai (o := 37 + 3) (n := 16) (xoP_all (show xoP 37 by unfold xoP; omega) (Q := fun p => p + 3 < 276) (by decide) (by decide) (by decide)) (xoP_all (show xoP 37 by unfold xoP; omega) (Q := fun p => xl_t (p + 3) = (2, 3, 16)) rfl rfl rfl) (by decide) c124.1 c124.2) ?_
                              refine xok_ite (fun c125 => ?_) (fun c125 => ?_)
                              · rw [if_pos c125] at e
                                exact s299_173 hI  hr31 h111 tx1 tx2 e
                              · rw [if_neg c125] at e
                                refine xok_eqb (h111.pt (o := x1) (c := 13) (k := 0) (t := x1 + 1) (n := 37) (xoL_o tx1).1 (xoL_o tx1).2 (by decide) (xoL_all tx1 (Q := fun p => (p, 0, p + 1) ∈ xl_P) (by decide +kernel) (by decide +kernel) (by decide +kernel) (by decide +kernel))) ?_
                                refine xok_eqb (h111.pt (o := x1 + 1) (c := 12) (k := 1) (t := x1 + 1 + 2) (n := 4) (xoF_o (xoL_all tx1 (Q := fun p => xoF (p + 1)) (by unfold xoF; omega) (by unfold xoF; omega) (by unfold xoF; omega) (by unfold xoF; omega))).1 (xoF_o (xoL_all tx1 (Q := fun p => xoF (p + 1)) (by unfold xoF; omega) (by unfold xoF; omega) (by unfold xoF; omega) (by unfold xoF; omega))).2 (by decide) (xoF_all (xoL_all tx1 (Q := fun p => xoF (p + 1)) (by unfold xoF; omega) (by unfold xoF; omega) (by unfold xoF; omega) (by unfold xoF; omega)) (Q := fun p => (p, 1, p + 2) ∈ xl_P) (by decide +kernel) (by decide +kernel) (by decide +kernel) (by decide +kernel) (by decide +kernel) (by decide +kernel) (by decide +kernel))) ?_
                                obtain ⟨R126, e127, e⟩ := xbnd e
                                refine xok_eqb (h111.is (o := 0) (c := 15) (by decide) rfl) ?_
                                refine xok_call (sg264 hI  h111 hi106 (xoF_all (xoL_all tx1 (Q := fun p => xoF (p + 1)) (by unfold xoF; omega) (by unfold xoF; omega) (by unfold xoF; omega) (by unfold xoF; omega)) (Q := fun p => xoJ (p + 2)) ⟨by decide, rfl⟩ ⟨by decide, rfl⟩ ⟨by decide, rfl⟩ ⟨by decide, rfl⟩ ⟨by decide, rfl⟩ ⟨by decide, rfl⟩ ⟨by decide, rfl⟩) (xin_wr _) (show xin (0) by decide) e127) ?_
                                intro M130 h128
                                exact s299_173 hI  hr31 h128 tx1 tx2 e
                            · rw [if_neg c124] at e; cases e
                          · rw [if_neg c123] at e; cases e
                      · rw [if_neg c121] at e; cases e
                    · rw [if_neg c120] at e; cases e
                · rw [if_neg c118] at e; cases e
            · rw [if_neg c116] at e; cases e
      · rw [if_neg c108] at e; cases e
    · rw [if_neg c102] at e; cases e
theorem s299_31 {m f : Nat} {M0 : xj_M} (hI : xHI f)     : ∀ {n : Nat} {M : xj_M} {G : xG_} {x1 : Nat} {x2 : Int} {R : xG_}, xRX m M0 M G → xoL x1 → xin x2 → g299_31   f n x1 x2 G = some R → xok (f299_31   f n m (m + x1) x2 M) (fun r => xRX m M0 r R) := by
  intro n
  induction n with
  | zero => intros; rename_i e; cases e
  | succ n ih =>
    intros
    rename_i h i0 i1 e
    exact s299_31b hI   ih h i0 i1 e
theorem s299_10b {m f : Nat} {M0 M : xj_M} {G : xG_} (hI : xHI f)  {r10 : Nat → Int → xG_ → Option (xG_)} {o10 : Nat → Nat → Int → xj_M → Option (xj_M)}  (hr10 : ∀ {M : xj_M} {G : xG_} {x1 : Nat} {x2 : Int} {R : xG_}, xRX m M0 M G → xoL x1 → xin x2 → r10 x1 x2 G = some R → xok (o10 m (m + x1) x2 M) (fun r => xRX m M0 r R)) (h : xRX m M0 M G) {x1 : Nat} {x2 : Int} {R : xG_} (tx1 : xoL x1) (tx2 : xin x2) (e : g299_10b  r10 f x1 x2 G = some R) : xok (f299_10b  o10 f m (m + x1) x2 M) (fun r => xRX m M0 r R) := by
  unfold g299_10b at e
  unfold f299_10b
  refine xok_ite (fun c131 => ?_) (fun c131 => ?_)
  · rw [if_pos c131] at e
    exact s299_31 hI   h tx1 (show xin (0) by decide) e
  · rw [if_neg c131] at e
    refine xok_eqb (h.pt (o := 0) (c := 15) (k := 33) (t := 108) (n := 107) (by decide) rfl (by decide) (by decide +kernel)) ?_
    by_cases c132 : 0 ≤ (x2) ∧ (x2) < 16
    · skip
      rw [if_pos c132] at e
      obtain ⟨M133, q134, h135⟩ := h.si (o := 108) (n := 16) (v := 0) (by decide) rfl c132.1 c132.2 (show xin (0) by decide)
      refine xok_eqb q134 ?_
      obtain ⟨G136, g1, e⟩ := xbnd e
      cases g1
      have h135_ : xRX m M0 M133 (xup2 G (108) (x2).toNat (0)) := h135
      generalize hGG136 : (xup2 G (108) (x2).toNat (0)) = G136 at e h135
      clear h135_ hGG136
      exact hr10 h135 tx1 (xin_wr _) e
    · rw [if_neg c132] at e; cases e
theorem s299_10 {m f : Nat} {M0 : xj_M} (hI : xHI f)     : ∀ {n : Nat} {M : xj_M} {G : xG_} {x1 : Nat} {x2 : Int} {R : xG_}, xRX m M0 M G → xoL x1 → xin x2 → g299_10   f n x1 x2 G = some R → xok (f299_10   f n m (m + x1) x2 M) (fun r => xRX m M0 r R) := by
  intro n
  induction n with
  | zero => intros; rename_i e; cases e
  | succ n ih =>
    intros
    rename_i h i0 i1 e
    exact s299_10b hI   ih h i0 i1 e
theorem sg299 {m f : Nat} {M0 M : xj_M} {G : xG_} (hI : xHI f)   (h : xRX m M0 M G) {a1 : Nat} {R : xG_} (ta1 : xoL a1) (e : g299  f a1 G = some R) : xok (f299  f m (m + a1) M) (fun r => xRX m M0 r R) := by
  unfold g299 at e
  unfold f299
  refine xok_eqb (h.gi (o := a1) (c := 13) (k := 1) (n := 37) (xoL_o ta1).1 (xoL_o ta1).2 (by decide) (by decide)) ?_
  obtain ⟨R137, e138, e⟩ := xbnd e
  refine xok_eqb (h.is (o := 0) (c := 15) (by decide) rfl) ?_
  refine xok_call (sg300 hI  h (h.gin (o := a1) (c := 13) (k := 1) (n := 37) (xoL_o ta1).1 (xoL_o ta1).2 (by decide) (by decide)) e138) ?_
  intro M141 h139
  exact s299_10 hI   h139 ta1 (show xin (0) by decide) e
-- ChangeHouseModel.round
theorem s298_222 {m f : Nat} {M0 M : xj_M} {G : xG_} (hI : xHI f)     (h : xRX m M0 M G) {x1 : Nat} {x2 : Int} {R : Int × xG_} (tx1 : xoL x1) (tx2 : xin x2) (e : g298_222   f x1 x2 G = some R) : xok (f298_222   f m (m + x1) x2 M) (fun r => r.1 = R.1 ∧ xRX m M0 r.2 R.2 ∧ xin R.1) := by
  unfold g298_222 at e
  unfold f298_222
  refine xok_eqb (h.gi (o := x1) (c := 13) (k := 2) (n := 37) (xoL_o tx1).1 (xoL_o tx1).2 (by decide) (by decide)) ?_
  obtain ⟨M101, q102, h103⟩ := h.pi (v := xwr ((G (x1) 2) + (1))) (o := x1) (c := 13) (k := 2) (n := 37) (xoL_o tx1).1 (xoL_o tx1).2 (by decide) (by decide) (xin_wr _)
  refine xok_eqb q102 ?_
  obtain ⟨G104, g1, e⟩ := xbnd e
  cases g1
  have h103_ : xRX m M0 M101 (xup2 G (x1) 2 (xwr ((G (x1) 2) + (1)))) := h103
  generalize hGG104 : (xup2 G (x1) 2 (xwr ((G (x1) 2) + (1)))) = G104 at e h103
  clear h103_ hGG104
  obtain ⟨R105, e106, e⟩ := xbnd e
  refine xok_eqb (h103.is (o := x1) (c := 13) (xoL_o tx1).1 (xoL_o tx1).2) ?_
  refine xok_call (sg203 hI  h103 tx1 e106) ?_
  intro M109 h107
  obtain ⟨R110, e111, e⟩ := xbnd e
  refine xok_eqb (h107.is (o := 0) (c := 15) (by decide) rfl) ?_
  refine xok_call (sg304 hI  h107 tx1 e111) ?_
  rintro ⟨v_, M114⟩ ⟨hv_, h112, hi113⟩
  cases hv_
  obtain ⟨R115, e116, e⟩ := xbnd e
  refine xok_eqb (h112.is (o := 0) (c := 15) (by decide) rfl) ?_
  refine xok_call (sg305 hI  h112 tx1 tx2 e116) ?_
  intro M119 h117
  refine xok_eqb (h117.pt (o := x1) (c := 13) (k := 0) (t := x1 + 1) (n := 37) (xoL_o tx1).1 (xoL_o tx1).2 (by decide) (xoL_all tx1 (Q := fun p => (p, 0, p + 1) ∈ xl_P) (by decide +kernel) (by decide +kernel) (by decide +kernel) (by decide +kernel))) ?_
  refine xok_eqb (h117.pt (o := 0) (c := 15) (k := 77) (t := 247) (n := 107) (by decide) rfl (by decide) (by decide +kernel)) ?_
  obtain ⟨R120, e121, e⟩ := xbnd e
  refine xok_eqb (h117.is (o := x1 + 1) (c := 12) (xoF_o (xoL_all tx1 (Q := fun p => xoF (p + 1)) (by unfold xoF; omega) (by unfold xoF; omega) (by unfold xoF; omega) (by unfold xoF; omega))).1 (xoF_o (xoL_all tx1 (Q := fun p => xoF (p + 1)) (by unfold xoF; omega) (by unfold xoF; omega) (by unfold xoF; omega) (by unfold xoF; omega))).2) ?_
  refine xok_call (sg194 hI  h117 (xoL_all tx1 (Q := fun p => xoF (p + 1)) (by unfold xoF; omega) (by unfold xoF; omega) (by unfold xoF; omega) (by unfold xoF; omega)) (show xoF 247 by unfold xoF; omega) e121) ?_
  intro M124 h122
  obtain ⟨R125, e126, e⟩ := xbnd e
  refine xok_eqb (h122.is (o := 0) (c := 15) (by decide) rfl) ?_
  refine xok_call (sg306 hI  h122 tx1 e126) ?_
  intro M129 h127
  obtain ⟨R130, e131, e⟩ := xbnd e
  refine xok_eqb (h127.is (o := 0) (c := 15) (by decide) rfl) ?_
  refine xok_call (sg354 hI  h127 tx1 tx2 e131) ?_
  intro M134 h132
  obtain ⟨R135, e136, e⟩ := xbnd e
  refine xok_eqb (h132.is (o := x1) (c := 13) (xoL_o tx1).1 (xoL_o tx1).2) ?_
  refine xok_call (sg202 hI  h132 tx1 e136) ?_
  intro M139 h137
  obtain ⟨R140, e141, e⟩ := xbnd e
  refine xok_eqb (h137.is (o := 0) (c := 15) (by decide) rfl) ?_
  refine xok_call (sg308 hI  h137 tx1 e141) ?_
  intro M144 h142
  refine xok_eqb (h142.gi (o := 0) (c := 15) (k := 64) (n := 107) (by decide) rfl (by decide) (by decide)) ?_
  obtain ⟨M145, q146, h147⟩ := h142.pi (v := xwr ((R140 (0) 64) + (1))) (o := 0) (c := 15) (k := 64) (n := 107) (by decide) rfl (by decide) (by decide) (xin_wr _)
  refine xok_eqb q146 ?_
  obtain ⟨G148, g1, e⟩ := xbnd e
  cases g1
  have h147_ : xRX m M0 M145 (xup2 R140 (0) 64 (xwr ((R140 (0) 64) + (1)))) := h147
  generalize hGG148 : (xup2 R140 (0) 64 (xwr ((R140 (0) 64) + (1)))) = G148 at e h147
  clear h147_ hGG148
  cases e
  exact ⟨_, rfl, rfl, h147, hi113⟩
theorem s298_203b {m f : Nat} {M0 M : xj_M} {G : xG_} (hI : xHI f)  {r203 : Nat → Int → Int → xG_ → Option (Int × xG_)} {o203 : Nat → Nat → Int → Int → xj_M → Option (Int × xj_M)}  (hr203 : ∀ {M : xj_M} {G : xG_} {x1 : Nat} {x2 : Int} {x3 : Int} {R : Int × xG_}, xRX m M0 M G → xoL x1 → xin x2 → xin x3 → r203 x1 x2 x3 G = some R → xok (o203 m (m + x1) x2 x3 M) (fun r => r.1 = R.1 ∧ xRX m M0 r.2 R.2 ∧ xin R.1)) (h : xRX m M0 M G) {x1 : Nat} {x2 : Int} {x3 : Int} {R : Int × xG_} (tx1 : xoL x1) (tx2 : xin x2) (tx3 : xin x3) (e : g298_203b  r203 f x1 x2 x3 G = some R) : xok (f298_203b  o203 f m (m + x1) x2 x3 M) (fun r => r.1 = R.1 ∧ xRX m M0 r.2 R.2 ∧ xin R.1) := by
  unfold g298_203b at e
  unfold f298_203b
  refine xok_ite (fun c149 => ?_) (fun c149 => ?_)
  · rw [if_pos c149] at e
    exact s298_222 hI   h tx1 tx2 e
  · rw [if_neg c149] at e
    refine xok_eqb (h.pt (o := x1) (c := 13) (k := 21) (t := x1 + 18) (n := 37) (xoL_o tx1).1 (xoL_o tx1).2 (by decide) (xoL_all tx1 (Q := fun p => (p, 21, p + 18) ∈ xl_P) (by decide +kernel) (by decide +kernel) (by decide +kernel) (by decide +kernel))) ?_
    by_cases c150 : 0 ≤ (x3) ∧ (x3) < 16
    · skip
      rw [if_pos c150] at e
      obtain ⟨M151, q152, h153⟩ := h.si (o := x1 + 18) (n := 16) (v := 0) (xoL_all tx1 (Q := fun p => p + 18 < 276) (by decide) (by decide) (by decide) (by decide)) (xoL_all tx1 (Q := fun p => xl_t (p + 18) = (2, 3, 16)) rfl rfl rfl rfl) c150.1 c150.2 (show xin (0) by decide)
      refine xok_eqb q152 ?_
      obtain ⟨G154, g1, e⟩ := xbnd e
      cases g1
      have h153_ : xRX m M0 M151 (xup2 G (x1 + 18) (x3).toNat (0)) := h153
      generalize hGG154 : (xup2 G (x1 + 18) (x3).toNat (0)) = G154 at e h153
      clear h153_ hGG154
      exact hr203 h153 tx1 tx2 (xin_wr _) e
    · rw [if_neg c150] at e; cases e
theorem s298_203 {m f : Nat} {M0 : xj_M} (hI : xHI f)     : ∀ {n : Nat} {M : xj_M} {G : xG_} {x1 : Nat} {x2 : Int} {x3 : Int} {R : Int × xG_}, xRX m M0 M G → xoL x1 → xin x2 → xin x3 → g298_203   f n x1 x2 x3 G = some R → xok (f298_203   f n m (m + x1) x2 x3 M) (fun r => r.1 = R.1 ∧ xRX m M0 r.2 R.2 ∧ xin R.1) := by
  intro n
  induction n with
  | zero => intros; rename_i e; cases e
  | succ n ih =>
    intros
    rename_i h i0 i1 i2 e
    exact s298_203b hI   ih h i0 i1 i2 e
theorem s298_90b {m f : Nat} {M0 M : xj_M} {G : xG_} (hI : xHI f)  {r90 : Nat → Int → Int → xG_ → Option (Int × xG_)} {o90 : Nat → Nat → Int → Int → xj_M → Option (Int × xj_M)}  (hr90 : ∀ {M : xj_M} {G : xG_} {x1 : Nat} {x2 : Int} {x3 : Int} {R : Int × xG_}, xRX m M0 M G → xoL x1 → xin x2 → xin x3 → r90 x1 x2 x3 G = some R → xok (o90 m (m + x1) x2 x3 M) (fun r => r.1 = R.1 ∧ xRX m M0 r.2 R.2 ∧ xin R.1)) (h : xRX m M0 M G) {x1 : Nat} {x2 : Int} {x3 : Int} {R : Int × xG_} (tx1 : xoL x1) (tx2 : xin x2) (tx3 : xin x3) (e : g298_90b  r90 f x1 x2 x3 G = some R) : xok (f298_90b  o90 f m (m + x1) x2 x3 M) (fun r => r.1 = R.1 ∧ xRX m M0 r.2 R.2 ∧ xin R.1) := by
  unfold g298_90b at e
  unfold f298_90b
  refine xok_eqb (h.gi (o := x1) (c := 13) (k := 33) (n := 37) (xoL_o tx1).1 (xoL_o tx1).2 (by decide) (by decide)) ?_
  refine xok_ite (fun c155 => ?_) (fun c155 => ?_)
  · rw [if_pos c155] at e
    obtain ⟨R156, e157, e⟩ := xbnd e
    refine xok_eqb (h.is (o := 0) (c := 15) (by decide) rfl) ?_
    refine xok_call (sg290 hI  h  e157) ?_
    rintro ⟨v_, M160⟩ ⟨hv_, h158, hi159⟩
    cases hv_
    refine xok_ite (fun c161 => ?_) (fun c161 => ?_)
    · rw [if_pos c161] at e
      refine xok_eqb (h158.pt (o := 0) (c := 15) (k := 77) (t := 247) (n := 107) (by decide) rfl (by decide) (by decide +kernel)) ?_
      obtain ⟨R162, e163, e⟩ := xbnd e
      refine xok_eqb (h158.is (o := 0) (c := 15) (by decide) rfl) ?_
      refine xok_call (sg302 hI  h158 (show xoF 247 by unfold xoF; omega) e163) ?_
      intro M166 h164
      refine xok_ite (fun c167 => ?_) (fun c167 => ?_)
      · rw [if_pos c167] at e
        exact s298_222 hI   h164 tx1 tx2 e
      · rw [if_neg c167] at e
        refine xok_eqb (h164.pt (o := x1) (c := 13) (k := 14) (t := x1 + 13) (n := 37) (xoL_o tx1).1 (xoL_o tx1).2 (by decide) (xoL_all tx1 (Q := fun p => (p, 14, p + 13) ∈ xl_P) (by decide +kernel) (by decide +kernel) (by decide +kernel) (by decide +kernel))) ?_
        refine xok_eqb (h164.gi (o := x1) (c := 13) (k := 17) (n := 37) (xoL_o tx1).1 (xoL_o tx1).2 (by decide) (by decide)) ?_
        refine xok_eqb (h164.gi (o := x1) (c := 13) (k := 2) (n := 37) (xoL_o tx1).1 (xoL_o tx1).2 (by decide) (by decide)) ?_
        by_cases c168 : 0 ≤ (R162 (x1) 17) ∧ (R162 (x1) 17) < 20
        · skip
          rw [if_pos c168] at e
          obtain ⟨M169, q170, h171⟩ := h164.si (o := x1 + 13) (n := 20) (v := xwr ((R162 (x1) 2) + (1))) (xoL_all tx1 (Q := fun p => p + 13 < 276) (by decide) (by decide) (by decide) (by decide)) (xoL_all tx1 (Q := fun p => xl_t (p + 13) = (2, 3, 20)) rfl rfl rfl rfl) c168.1 c168.2 (xin_wr _)
          refine xok_eqb q170 ?_
          obtain ⟨G172, g1, e⟩ := xbnd e
          cases g1
          have h171_ : xRX m M0 M169 (xup2 R162 (x1 + 13) (R162 (x1) 17).toNat (xwr ((R162 (x1) 2) + (1)))) := h171
          generalize hGG172 : (xup2 R162 (x1 + 13) (R162 (x1) 17).toNat (xwr ((R162 (x1) 2) + (1)))) = G172 at e h171
          clear h171_ hGG172
          refine xok_eqb (h171.pt (o := x1) (c := 13) (k := 15) (t := x1 + 14) (n := 37) (xoL_o tx1).1 (xoL_o tx1).2 (by decide) (xoL_all tx1 (Q := fun p => (p, 15, p + 14) ∈ xl_P) (by decide +kernel) (by decide +kernel) (by decide +kernel) (by decide +kernel))) ?_
          refine xok_eqb (h171.gi (o := x1) (c := 13) (k := 17) (n := 37) (xoL_o tx1).1 (xoL_o tx1).2 (by decide) (by decide)) ?_
          refine xok_eqb (h171.gi (o := x1) (c := 13) (k := 1) (n := 37) (xoL_o tx1).1 (xoL_o tx1).2 (by decide) (by decide)) ?_
          by_cases c173 : 0 ≤ (G172 (x1) 17) ∧ (G172 (x1) 17) < 20
          · skip
            rw [if_pos c173] at e
            obtain ⟨M174, q175, h176⟩ := h171.si (o := x1 + 14) (n := 20) (v := G172 (x1) 1) (xoL_all tx1 (Q := fun p => p + 14 < 276) (by decide) (by decide) (by decide) (by decide)) (xoL_all tx1 (Q := fun p => xl_t (p + 14) = (2, 3, 20)) rfl rfl rfl rfl) c173.1 c173.2 (h171.gin (o := x1) (c := 13) (k := 1) (n := 37) (xoL_o tx1).1 (xoL_o tx1).2 (by decide) (by decide))
            refine xok_eqb q175 ?_
            obtain ⟨G177, g1, e⟩ := xbnd e
            cases g1
            have h176_ : xRX m M0 M174 (xup2 G172 (x1 + 14) (G172 (x1) 17).toNat (G172 (x1) 1)) := h176
            generalize hGG177 : (xup2 G172 (x1 + 14) (G172 (x1) 17).toNat (G172 (x1) 1)) = G177 at e h176
            clear h176_ hGG177
            refine xok_eqb (h176.gi (o := x1) (c := 13) (k := 17) (n := 37) (xoL_o tx1).1 (xoL_o tx1).2 (by decide) (by decide)) ?_
            obtain ⟨M178, q179, h180⟩ := h176.pi (v := xwr ((G177 (x1) 17) + (1))) (o := x1) (c := 13) (k := 17) (n := 37) (xoL_o tx1).1 (xoL_o tx1).2 (by decide) (by decide) (xin_wr _)
            refine xok_eqb q179 ?_
            obtain ⟨G181, g1, e⟩ := xbnd e
            cases g1
            have h180_ : xRX m M0 M178 (xup2 G177 (x1) 17 (xwr ((G177 (x1) 17) + (1)))) := h180
            generalize hGG181 : (xup2 G177 (x1) 17 (xwr ((G177 (x1) 17) + (1)))) = G181 at e h180
            clear h180_ hGG181
            refine xok_eqb (h180.gi (o := x1) (c := 13) (k := 34) (n := 37) (xoL_o tx1).1 (xoL_o tx1).2 (by decide) (by decide)) ?_
            obtain ⟨M182, q183, h184⟩ := h180.pi (v := G181 (x1) 34) (o := x1) (c := 13) (k := 1) (n := 37) (xoL_o tx1).1 (xoL_o tx1).2 (by decide) (by decide) (h180.gin (o := x1) (c := 13) (k := 34) (n := 37) (xoL_o tx1).1 (xoL_o tx1).2 (by decide) (by decide))
            refine xok_eqb q183 ?_
            obtain ⟨G185, g1, e⟩ := xbnd e
            cases g1
            have h184_ : xRX m M0 M182 (xup2 G181 (x1) 1 (G181 (x1) 34)) := h184
            generalize hGG185 : (xup2 G181 (x1) 1 (G181 (x1) 34)) = G185 at e h184
            clear h184_ hGG185
            refine xok_eqb (h184.gi (o := x1) (c := 13) (k := 4) (n := 37) (xoL_o tx1).1 (xoL_o tx1).2 (by decide) (by decide)) ?_
            obtain ⟨M186, q187, h188⟩ := h184.pi (v := xwr ((G185 (x1) 4) + (1))) (o := x1) (c := 13) (k := 4) (n := 37) (xoL_o tx1).1 (xoL_o tx1).2 (by decide) (by decide) (xin_wr _)
            refine xok_eqb q187 ?_
            obtain ⟨G189, g1, e⟩ := xbnd e
            cases g1
            have h188_ : xRX m M0 M186 (xup2 G185 (x1) 4 (xwr ((G185 (x1) 4) + (1)))) := h188
            generalize hGG189 : (xup2 G185 (x1) 4 (xwr ((G185 (x1) 4) + (1)))) = G189 at e h188
            clear h188_ hGG189
            exact s298_203 hI   h188 tx1 tx2 (show xin (0) by decide) e
          · rw [if_neg c173] at e; cases e
        · rw [if_neg c168] at e; cases e
    · rw [if_neg c161] at e
      refine xok_eqb (h158.gi (o := 0) (c := 15) (k := 63) (n := 107) (by decide) rfl (by decide) (by decide)) ?_
      obtain ⟨M190, q191, h192⟩ := h158.pi (v := xwr ((R156.2 (0) 63) + (1))) (o := 0) (c := 15) (k := 63) (n := 107) (by decide) rfl (by decide) (by decide) (xin_wr _)
      refine xok_eqb q191 ?_
      obtain ⟨G193, g1, e⟩ := xbnd e
      cases g1
      have h192_ : xRX m M0 M190 (xup2 R156.2 (0) 63 (xwr ((R156.2 (0) 63) + (1)))) := h192
      generalize hGG193 : (xup2 R156.2 (0) 63 (xwr ((R156.2 (0) 63) + (1)))) = G193 at e h192
      clear h192_ hGG193
      obtain ⟨R194, e195, e⟩ := xbnd e
      refine xok_eqb (h192.is (o := x1) (c := 13) (xoL_o tx1).1 (xoL_o tx1).2) ?_
      refine xok_call (sg202 hI  h192 tx1 e195) ?_
      intro M198 h196
      cases e
      exact ⟨_, rfl, rfl, h196, (show xin (-1) by decide)⟩
  · rw [if_neg c155] at e
    obtain ⟨R199, e200, e⟩ := xbnd e
    refine xok_eqb (h.is (o := 0) (c := 15) (by decide) rfl) ?_
    refine xok_call (sg301 hI  h tx1 tx3 e200) ?_
    intro M203 h201
    exact hr90 h201 tx1 tx2 (xin_wr _) e
theorem s298_90 {m f : Nat} {M0 : xj_M} (hI : xHI f)     : ∀ {n : Nat} {M : xj_M} {G : xG_} {x1 : Nat} {x2 : Int} {x3 : Int} {R : Int × xG_}, xRX m M0 M G → xoL x1 → xin x2 → xin x3 → g298_90   f n x1 x2 x3 G = some R → xok (f298_90   f n m (m + x1) x2 x3 M) (fun r => r.1 = R.1 ∧ xRX m M0 r.2 R.2 ∧ xin R.1) := by
  intro n
  induction n with
  | zero => intros; rename_i e; cases e
  | succ n ih =>
    intros
    rename_i h i0 i1 i2 e
    exact s298_90b hI   ih h i0 i1 i2 e
theorem s298_88 {m f : Nat} {M0 M : xj_M} {G : xG_} (hI : xHI f)     (h : xRX m M0 M G) {x1 : Nat} {x2 : Int} {R : Int × xG_} (tx1 : xoL x1) (tx2 : xin x2) (e : g298_88   f x1 x2 G = some R) : xok (f298_88   f m (m + x1) x2 M) (fun r => r.1 = R.1 ∧ xRX m M0 r.2 R.2 ∧ xin R.1) := by
  unfold g298_88 at e
  unfold f298_88
  exact s298_90 hI   h tx1 tx2 (show xin (0) by decide) e
theorem s298_54 {m f : Nat} {M0 M : xj_M} {G : xG_} (hI : xHI f)     (h : xRX m M0 M G) {x1 : Nat} {x2 : Int} {y0 : Int} {y1 : Nat} {R : Int × xG_} (tx1 : xoL x1) (tx2 : xin x2) (ty0 : xin y0) (ty1 : xoP y1) (e : g298_54   f x1 x2 y0 y1 G = some R) : xok (f298_54   f m (m + x1) x2 y0 (m + y1) m M) (fun r => r.1 = R.1 ∧ xRX m M0 r.2 R.2 ∧ xin R.1) := by
  unfold g298_54 at e
  unfold f298_54
  obtain ⟨R204, e205, e⟩ := xbnd e
  refine xok_eqb (h.is (o := 0) (c := 15) (by decide) rfl) ?_
  refine xok_call (sg295 hI  h ty1 ty0 e205) ?_
  intro M208 h206
  refine xok_eqb (h206.pt (o := 0) (c := 15) (k := 76) (t := 243) (n := 107) (by decide) rfl (by decide) (by decide +kernel)) ?_
  refine xok_eqb (h206.pt (o := x1) (c := 13) (k := 0) (t := x1 + 1) (n := 37) (xoL_o tx1).1 (xoL_o tx1).2 (by decide) (xoL_all tx1 (Q := fun p => (p, 0, p + 1) ∈ xl_P) (by decide +kernel) (by decide +kernel) (by decide +kernel) (by decide +kernel))) ?_
  obtain ⟨R209, e210, e⟩ := xbnd e
  refine xok_eqb (h206.is (o := 243) (c := 12) (xoF_o (show xoF 243 by unfold xoF; omega)).1 (xoF_o (show xoF 243 by unfold xoF; omega)).2) ?_
  refine xok_call (sg194 hI  h206 (show xoF 243 by unfold xoF; omega) (xoL_all tx1 (Q := fun p => xoF (p + 1)) (by unfold xoF; omega) (by unfold xoF; omega) (by unfold xoF; omega) (by unfold xoF; omega)) e210) ?_
  intro M213 h211
  refine xok_ite (fun c214 => ?_) (fun c214 => ?_)
  · rw [if_pos c214] at e
    refine xok_eqb (h211.pt (o := x1) (c := 13) (k := 0) (t := x1 + 1) (n := 37) (xoL_o tx1).1 (xoL_o tx1).2 (by decide) (xoL_all tx1 (Q := fun p => (p, 0, p + 1) ∈ xl_P) (by decide +kernel) (by decide +kernel) (by decide +kernel) (by decide +kernel))) ?_
    obtain ⟨R215, e216, e⟩ := xbnd e
    refine xok_eqb (h211.is (o := 0) (c := 15) (by decide) rfl) ?_
    refine xok_call (sg297 hI  h211 (xoL_all tx1 (Q := fun p => xoF (p + 1)) (by unfold xoF; omega) (by unfold xoF; omega) (by unfold xoF; omega) (by unfold xoF; omega)) e216) ?_
    intro M219 h217
    exact s298_88 hI   h217 tx1 tx2 e
  · rw [if_neg c214] at e
    obtain ⟨R220, e221, e⟩ := xbnd e
    refine xok_eqb (h211.is (o := 0) (c := 15) (by decide) rfl) ?_
    refine xok_call (sg299 hI  h211 tx1 e221) ?_
    intro M224 h222
    exact s298_88 hI   h222 tx1 tx2 e
theorem s298_28 {m f : Nat} {M0 M : xj_M} {G : xG_} (hI : xHI f)     (h : xRX m M0 M G) {x1 : Nat} {y0 : Int} {R : Int × xG_} (tx1 : xoL x1) (ty0 : xin y0) (e : g298_28   f x1 y0 G = some R) : xok (f298_28   f m (m + x1) y0 M) (fun r => r.1 = R.1 ∧ xRX m M0 r.2 R.2 ∧ xin R.1) := by
  unfold g298_28 at e
  unfold f298_28
  obtain ⟨M225, q226, h227⟩ := h.pi (v := -1) (o := 0) (c := 15) (k := 65) (n := 107) (by decide) rfl (by decide) (by decide) (show xin (-1) by decide)
  refine xok_eqb q226 ?_
  obtain ⟨G228, g1, e⟩ := xbnd e
  cases g1
  have h227_ : xRX m M0 M225 (xup2 G (0) 65 (-1)) := h227
  generalize hGG228 : (xup2 G (0) 65 (-1)) = G228 at e h227
  clear h227_ hGG228
  refine xok_eqb (h227.pt (o := 0) (c := 15) (k := 29) (t := 2) (n := 107) (by decide) rfl (by decide) (by decide +kernel)) ?_
  refine xok_ite (fun c229 => ?_) (fun c229 => ?_)
  · rw [if_pos c229] at e
    refine xok_eqb (h227.gi (o := x1) (c := 13) (k := 1) (n := 37) (xoL_o tx1).1 (xoL_o tx1).2 (by decide) (by decide)) ?_
    exact s298_54 hI   h227 tx1 ty0 (h227.gin (o := x1) (c := 13) (k := 1) (n := 37) (xoL_o tx1).1 (xoL_o tx1).2 (by decide) (by decide)) (show xoP 2 by unfold xoP; omega) e
  · rw [if_neg c229] at e
    refine xok_eqb (h227.gi (o := x1) (c := 13) (k := 34) (n := 37) (xoL_o tx1).1 (xoL_o tx1).2 (by decide) (by decide)) ?_
    exact s298_54 hI   h227 tx1 ty0 (h227.gin (o := x1) (c := 13) (k := 34) (n := 37) (xoL_o tx1).1 (xoL_o tx1).2 (by decide) (by decide)) (show xoP 2 by unfold xoP; omega) e
theorem sg298 {m f : Nat} {M0 M : xj_M} {G : xG_} (hI : xHI f)   (h : xRX m M0 M G)  {R : Int × xG_}  (e : g298  f  G = some R) : xok (f298  f m M) (fun r => r.1 = R.1 ∧ xRX m M0 r.2 R.2 ∧ xin R.1) := by
  unfold g298 at e
  unfold f298
  obtain ⟨M230, q231, h232⟩ := h.pi (v := 0) (o := 0) (c := 15) (k := 74) (n := 107) (by decide) rfl (by decide) (by decide) (show xin (0) by decide)
  refine xok_eqb q231 ?_
  obtain ⟨G233, g1, e⟩ := xbnd e
  cases g1
  have h232_ : xRX m M0 M230 (xup2 G (0) 74 (0)) := h232
  generalize hGG233 : (xup2 G (0) 74 (0)) = G233 at e h232
  clear h232_ hGG233
  refine xok_eqb (h232.pt (o := 0) (c := 15) (k := 61) (t := 122) (n := 107) (by decide) rfl (by decide) (by decide +kernel)) ?_
  refine xok_eqb (h232.gi (o := 0) (c := 15) (k := 62) (n := 107) (by decide) rfl (by decide) (by decide)) ?_
  by_cases c234 : 0 ≤ (G233 (0) 62) ∧ (G233 (0) 62) < 4
  · skip
    rw [if_pos c234] at e
    refine xok_eqb (h232.lin c234) ?_
    refine xok_eqb (h232.gi (o := 123 + 29 * (G233 (0) 62).toNat) (c := 13) (k := 34) (n := 37) (xoL_o (xoL_of c234)).1 (xoL_o (xoL_of c234)).2 (by decide) (by decide)) ?_
    refine xok_ite (fun c235 => ?_) (fun c235 => ?_)
    · rw [if_pos c235] at e
      exact s298_28 hI   h232 (xoL_of c234) (show xin (0) by decide) e
    · rw [if_neg c235] at e
      exact s298_28 hI   h232 (xoL_of c234) (show xin (1) by decide) e
  · rw [if_neg c234] at e; cases e
