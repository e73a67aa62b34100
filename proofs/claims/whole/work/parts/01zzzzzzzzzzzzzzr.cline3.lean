/-! THE CLASS: a line: append() whole -/
section
variable {f ln R old be : Nat} {S : Nat → Nat × Nat × Nat} {G : xG_} {m : Nat × Nat} {mv tl tk mo : Nat → Nat}
theorem o_sr7 {x z L y : Nat} (h : S x = (2, 7, L)) (hz : z < L) (hy : S y = (1, 2, 8)) : cq_sr x (z : Int) y (S, G, m) = some (S, xup2 G x z (y : Int), m) := by
  unfold cq_sr
  show (if (S x).1 = 2 ∧ 5 ≤ (S x).2.1 ∧ 0 ≤ (z : Int) ∧ (z : Int) < ((S x).2.2 : Int) ∧ (y = 0 ∨ (S y).1 = 1 ∧ (S x).2.1 = (S y).2.1 + 5) then _ else _) = _
  rw [h, if_pos ⟨rfl, by show 5 ≤ 7; decide, by omega, by show (z : Int) < ((L : Nat) : Int); omega, by right; rw [hy]; exact ⟨rfl, rfl⟩⟩]
  rfl
/-- append() -/
theorem k_11 (hf : 600 < f) (ls : lnSt S ln) (lp : lnPt G ln) (h1 : G ln 1 = (R : Int)) (h2 : G ln 2 = (old : Int)) (hR : R + 1 < 520) (ho : old ≤ R) (hb : S be = (1, 2, 8)) (hbe : ∀ r, old < r → r ≤ R + 1 → mo r ≠ ln ∧ mo r ≠ ln + 1) (hbm : mo (R + 1) = be) (hm : ∀ r, old < r → r ≤ R → G (ln + 1) r = (mo r : Int) ∧ S (mo r) = (1, 2, 8)) (hg : ∀ r, old < r → r ≤ R + 1 → G (mo r) 4 = (mv r : Int) ∧ G (mo r) 5 = (tl r : Int) ∧ G (mo r) 6 = (tk r : Int)) (hbd : ∀ r, mv r ≤ 100000 ∧ tl r ≤ 100000 ∧ tk r ≤ 100000) :
    ∃ G' k, c11 f ln be (S, G, m) = some (S, G', m) ∧ (∀ a j, ¬ (a = ln ∧ (j = 1 ∨ j = 2)) → ¬ (a = ln + 1 ∧ j = R + 1) → G' a j = G a j) ∧ G' ln 1 = ((R + 1 : Nat) : Int) ∧ G' (ln + 1) (R + 1) = (be : Int) ∧ G' ln 2 = ((R + 1 - k : Nat) : Int) ∧ okK9 mv tl tk (R + 1) k ∧ k ≤ R + 1 - old ∧ ∀ k', k < k' → k' ≤ R + 1 - old → ¬ okK9 mv tl tk (R + 1) k' := by
  have w1 : xwr ((R : Int) + 1) = ((R + 1 : Nat) : Int) := by rw [xwr_g _ (by omega) (by omega)]; omega
  have z : ∀ a j, ¬ (a = ln ∧ j = 1) → ¬ (a = ln + 1 ∧ j = R + 1) → xup2 (xup2 G ln 1 ((R + 1 : Nat) : Int)) (ln + 1) (R + 1) (be : Int) a j = G a j := fun a j y1 y2 => by rw [xup2_n y2, xup2_n y1]
  have e0 : xup2 G ln 1 ((R + 1 : Nat) : Int) ln 0 = ((ln + 1 : Nat) : Int) := by rw [xup2_n (by omega)]; exact lp.1
  have v1 : xup2 (xup2 G ln 1 ((R + 1 : Nat) : Int)) (ln + 1) (R + 1) (be : Int) ln 1 = ((R + 1 : Nat) : Int) := by rw [xup2_n (by omega), xup2_s]
  obtain ⟨k, a1, a2, a3, a4⟩ := k_11l (f := f) (m := m) (R := R + 1) (old := old) (mv := mv) (tl := tl) (tk := tk) (mo := mo) (G := xup2 (xup2 G ln 1 ((R + 1 : Nat) : Int)) (ln + 1) (R + 1) (be : Int)) ls (by rw [z _ _ (by omega) (by omega)]; exact lp.1) (by rw [z _ _ (by omega) (by omega)]; exact h2) hR (by omega) (fun r r1 r2 => by
    obtain ⟨n1, n2⟩ := hbe r r1 r2
    obtain ⟨g4, g5, g6⟩ := hg r r1 r2
    refine ⟨?_, ?_, by rw [z _ _ (by omega) (by omega)]; exact g4, by rw [z _ _ (by omega) (by omega)]; exact g5, by rw [z _ _ (by omega) (by omega)]; exact g6⟩
    · by_cases cr : r = R + 1
      · rw [cr, xup2_s, hbm]
      · rw [z _ _ (by omega) (by omega)]; exact (hm r r1 (by omega)).1
    · by_cases cr : r = R + 1
      · rw [cr, hbm]; exact hb
      · exact (hm r r1 (by omega)).2) hbd (R + 1 - old) 0 f (by omega) (by omega) ⟨by show 0 ≤ 8000; decide, by show 0 ≤ 100; decide, by show 0 ≤ 7; decide⟩
  refine ⟨xup2 (xup2 (xup2 G ln 1 ((R + 1 : Nat) : Int)) (ln + 1) (R + 1) (be : Int)) ln 2 ((R + 1 - k : Nat) : Int), k, ?_, fun a j y1 y2 => ?_, ?_, ?_, xup2_s _ _ _ _, a2, a3, a4⟩
  · unfold c11
    have i1 : cq_gi 1 1 14 ln (S, xup2 G ln 1 ((R + 1 : Nat) : Int), m) = some ((R + 1 : Nat) : Int) := by rw [o_gi ls.1, xup2_s]
    have i2 : cq_gi 1 1 14 ln (S, xup2 (xup2 G ln 1 ((R + 1 : Nat) : Int)) (ln + 1) (R + 1) (be : Int), m) = some ((R + 1 : Nat) : Int) := by rw [o_gi ls.1, v1]
    rw [o_gi ls.1, Option.bind_some, h1, w1, o_p ls.1, Option.bind_some, o_gr ls.1 e0, Option.bind_some, i1, Option.bind_some, o_sr7 ls.2.1 hR hb, Option.bind_some, i2, Option.bind_some, Option.bind_some]
    exact a1
  · rw [xup2_n (by omega), z _ _ (by omega) y2]
  · rw [xup2_n (by omega)]; exact v1
  · rw [xup2_n (by omega), xup2_s]
end
