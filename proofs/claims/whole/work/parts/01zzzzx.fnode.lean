/-! FORMULAS: a CELL, brackets, nodes -/
/-- a CELL -/
def pCell (t : tStr) (i : Nat) : Nat ⊕ (Int × Nat) := if kK t i = 2 ∧ kW t i ≠ -1 then .inr (kW t i, i + 1) else .inl (kS t i)
/-- a bracket that opens, b being open -/
def pOpen (t : tStr) (b i : Nat) : Nat ⊕ Nat := if kK t i = 40 ∧ b ≠ 4 then .inr (i + 1) else .inl (kS t i)
abbrev pNd : Type := Int × Int × Int × Int × Int
abbrev dNd : pNd := (0, 0, 0, 0, 0)
theorem tkd_var {B : Nat → Int} {n s : Nat} (h : tkd B n s = 2) : ¬ B s < 0 ∧ ¬ tSm (B s) ∧ tGr (B s) := by
  have k3 := tsgn_in (B s) (B (s + 1))
  unfold isSg at k3
  have k4 := tres_in (tncode B s (tnend B n s))
  unfold tkd at h
  by_cases c1 : B s < 0
  · rw [if_pos c1] at h; omega
  rw [if_neg c1] at h
  by_cases c2 : tSm (B s)
  · rw [if_pos c2] at h; omega
  rw [if_neg c2] at h
  by_cases c3 : tGr (B s)
  · exact ⟨c1, c2, c3⟩
  rw [if_neg c3] at h
  by_cases c4 : tDi (B s)
  · rw [if_pos c4] at h; omega
  rw [if_neg c4] at h; omega
theorem dg_iff {c : Int} : (if 48 ≤ c ∧ c ≤ 57 then (1 : Int) else 0) = 1 ↔ tDi c := by
  by_cases h : 48 ≤ c ∧ c ≤ 57
  · rw [if_pos h]; exact ⟨fun _ => h, fun _ => rfl⟩
  · rw [if_neg h]; exact ⟨fun q => absurd q (by decide), fun q => absurd q h⟩
section
variable {f q n i : Nat} {B : Nat → Int} {lm : Bool} {G : xG_} {L : Nat → Int}
theorem l_cell_no {s : Nat} (hE : rEw G q B n lm) (h4 : L 4 = (q : Int) + s) (hs : s ≤ n) (hn : ¬ (L 7 = -1 ∧ L 2 = 3)) : g332 f (xlx G L) = some (0, xlx G (if L 7 = -1 then xu L 7 (L 4) else L)) := by
  have hlen := hE.1.len
  have z : g332_171 f (xlx G L) = some (0, xlx G (if L 7 = -1 then xu L 7 (L 4) else L)) := by
    unfold g332_171
    rw [xlx_4, l_fail]
    rfl
  have e1 : xwr (L 4 + 1) = (q : Int) + ((s + 1 : Nat) : Int) := by rw [xwr_g _ (by omega) (by omega)]; omega
  have e2 : xwr (L 4 + 2) = (q : Int) + ((s + 2 : Nat) : Int) := by rw [xwr_g _ (by omega) (by omega)]; omega
  have z143 : ∀ (x3 y0 : Int), g332_143 f (-1) x3 y0 (xlx G L) = some (0, xlx G (if L 7 = -1 then xu L 7 (L 4) else L)) := fun x3 y0 => by
    unfold g332_143
    rw [if_pos (by decide)]
    exact z
  have z95 : ∀ (x1 y0 : Int), g332_95 f x1 (-1) y0 (xlx G L) = some (0, xlx G (if L 7 = -1 then xu L 7 (L 4) else L)) := fun x1 y0 => by
    unfold g332_95 g332_142
    rw [xlx_4, e1, e2, hE.1.see rfl, hE.1.see rfl]
    simp only [Option.bind_some, gdigit, z143]
    split
    · split
      · rfl
      · split <;> rfl
    · rfl
  unfold g332
  rw [l_kind, if_neg hn, Option.bind_some, if_pos rfl]
  have s1 : g209 f ((q : Int) + ((s + 1 : Nat) : Int)) (xlx G L) = some (B (s + 1), xlx G L) := hE.1.see rfl
  have s2 : g209 f ((q : Int) + ((s + 2 : Nat) : Int)) (xlx G L) = some (B (s + 2), xlx G L) := hE.1.see rfl
  unfold g332_33 g332_94
  simp only [xlx_4, e1, e2, s1, s2, Option.bind_some, z95]
  split
  · split
    · rfl
    · split <;> rfl
  · rfl
theorem l_cell (hf : n + 20 < f) (hE : rEw G q B n lm) (hA : rAt q B n lm i L) :
    pok (pCell (tstr B n lm) i) (fun w => g332 f (xlx G L) = some (0, xlx G (xu L 7 ((q : Int) + w))) ∧ w = kS (tstr B n lm) i)
      (fun r => ∃ L', g332 f (xlx G L) = some (r.1, xlx G L') ∧ rAt q B n lm r.2 L' ∧ 0 ≤ r.1 ∧ r.1 < 72 ∧ r.2 = i + 1) := by
  obtain ⟨t4, tsg, tn, tv, tu, tnum, tend, tn9, tv9, tnum9, t6, t5, tlt, t3⟩ := hA.tk hE.1.2.1
  have h7 := hA.1
  have hB := hE.1.2.1
  have hS := tS_le hB i
  have hlen := hE.1.len
  unfold pCell
  by_cases c1 : kK (tstr B n lm) i = 2
  · have k3 : L 2 = 3 := tv.mpr c1
    obtain ⟨v1, v2, v3⟩ := tkd_var (kK_inv c1 (by decide))
    have eS : kS (tstr B n lm) i = tS B n i := rfl
    have eE : kE (tstr B n lm) i = tvend B n (tS B n i) := by
      show ten B n (tS B n i) = _
      unfold ten
      rw [if_neg v1, if_neg v2, if_pos v3]
    have eW : kW (tstr B n lm) i = tcell B (tS B n i) (tvend B n (tS B n i)) := by
      show tse B n (tS B n i) = _
      unfold tse
      rw [if_neg v2, if_pos v3]
    have h5 := t5 (by omega)
    have hlt := tlt (by omega)
    have hen := (ten_le hB hS.1).2.1
    have hen' : kE (tstr B n lm) i ≤ n := hen
    generalize hs : tS B n i = s at *
    generalize he : tvend B n s = e at *
    rw [eS] at t4 hlt
    rw [eE] at h5 hlt hen'
    have e1 : xwr (L 4 + 1) = (q : Int) + ((s + 1 : Nat) : Int) := by rw [xwr_g _ (by omega) (by omega)]; omega
    have e2 : xwr (L 4 + 2) = (q : Int) + ((s + 2 : Nat) : Int) := by rw [xwr_g _ (by omega) (by omega)]; omega
    have s0 : g209 f (L 4) (xlx G L) = some (B s, xlx G L) := hE.1.see t4
    have s1 : g209 f ((q : Int) + ((s + 1 : Nat) : Int)) (xlx G L) = some (B (s + 1), xlx G L) := hE.1.see rfl
    have s2 : g209 f ((q : Int) + ((s + 2 : Nat) : Int)) (xlx G L) = some (B (s + 2), xlx G L) := hE.1.see rfl
    have b1 := hB.le (s + 1)
    have b2 := hB.le (s + 2)
    have en : xwr (L 5 - L 4) = ((e - s : Nat) : Int) := by rw [xwr_g _ (by omega) (by omega)]; omega
    have ec : xwr (B s - 65) = B s - 65 := xwr_g _ (by omega) (by omega)
    have ew1 : xwr (B (s + 1) - 48) = B (s + 1) - 48 := xwr_g _ (by omega) (by omega)
    have ew2 : xwr (xwr (10 + B (s + 2)) - 48) = B (s + 2) - 38 := by rw [xwr_g (10 + B (s + 2)) (by omega) (by omega), xwr_g _ (by omega) (by omega)]; omega
    have z : g332_171 f (xlx G L) = some (0, xlx G (xu L 7 ((q : Int) + (s : Int)))) := by
      unfold g332_171
      rw [xlx_4, l_fail, if_pos h7, t4]
      rfl
    have e0 : g332 f (xlx G L) = g332_33 f ((e - s : Nat) : Int) (B s - 65) (xlx G L) := by
      unfold g332
      have n10 : ¬ ((1 : Int), xlx G L).1 = 0 := fun q => absurd q (by decide : ¬ (1 : Int) = 0)
      rw [l_kind, if_pos ⟨h7, k3⟩, Option.bind_some, if_neg n10]
      simp only [xlx_4, xlx_5, s0, Option.bind_some, en, ec]
    -- the reference's test, and the sense
    have e33 : ∃ row dg : Int, g332_33 f ((e - s : Nat) : Int) (B s - 65) (xlx G L) = g332_143 f (B s - 65) row dg (xlx G L) ∧ (dg = 0 ∨ dg = 1) ∧ ((e = s + 2 ∧ row = B (s + 1) - 48 ∧ (dg = 1 ↔ tDi (B (s + 1)))) ∨ (e = s + 3 ∧ B (s + 1) = 49 ∧ row = B (s + 2) - 38 ∧ (dg = 1 ↔ tDi (B (s + 2)))) ∨ (e = s + 3 ∧ ¬ B (s + 1) = 49 ∧ row = 0) ∨ (¬ e = s + 2 ∧ ¬ e = s + 3 ∧ dg = 0)) := by
      by_cases n2 : e = s + 2
      · have m2 : ¬ ¬ ((e - s : Nat) : Int) = 2 := fun q => q (by omega)
        refine ⟨B (s + 1) - 48, if 48 ≤ B (s + 1) ∧ B (s + 1) ≤ 57 then 1 else 0, ?_, by split <;> omega, .inl ⟨n2, rfl, dg_iff⟩⟩
        unfold g332_33
        rw [if_neg m2, xlx_4, e1, s1, Option.bind_some]
        show g332_95 f _ _ (xwr (B (s + 1) - 48)) (xlx G L) = _
        unfold g332_95
        rw [if_neg m2, xlx_4, e1, s1, Option.bind_some]
        show Option.bind (g208 f (B (s + 1)) (xlx G L)) _ = _
        rw [gdigit, Option.bind_some, ew1]
      · have m2 : ¬ ((e - s : Nat) : Int) = 2 := by omega
        by_cases n3 : e = s + 3
        · have m3 : ¬ ¬ ((e - s : Nat) : Int) = 3 := fun q => q (by omega)
          have e95 : ∀ y : Int, g332_95 f ((e - s : Nat) : Int) (B s - 65) y (xlx G L) = g332_143 f (B s - 65) y (if 48 ≤ B (s + 2) ∧ B (s + 2) ≤ 57 then 1 else 0) (xlx G L) := fun y => by
            unfold g332_95 g332_142
            rw [if_pos m2, if_neg m3, xlx_4, e2, s2, Option.bind_some]
            show Option.bind (g208 f (B (s + 2)) (xlx G L)) _ = _
            rw [gdigit, Option.bind_some]
            by_cases cd : 48 ≤ B (s + 2) ∧ B (s + 2) ≤ 57
            · simp only [if_pos cd]
              rw [if_neg (by decide)]
            · simp only [if_neg cd]
              rw [if_pos trivial]
          by_cases n49 : B (s + 1) = 49
          · refine ⟨B (s + 2) - 38, if 48 ≤ B (s + 2) ∧ B (s + 2) ≤ 57 then 1 else 0, ?_, by split <;> omega, .inr (.inl ⟨n3, n49, rfl, dg_iff⟩)⟩
            have m49 : ¬ ¬ B (s + 1) = 49 := fun q => q n49
            rw [← e95]
            unfold g332_33
            rw [if_pos m2, if_neg m3, xlx_4, e1, s1, Option.bind_some]
            show (if ¬ B (s + 1) = 49 then _ else _) = _
            rw [if_neg m49]
            show Option.bind (g209 f (xwr (xlx G L 0 4 + 2)) (xlx G L)) _ = _
            rw [xlx_4, e2, s2, Option.bind_some, ew2]
          · refine ⟨0, if 48 ≤ B (s + 2) ∧ B (s + 2) ≤ 57 then 1 else 0, ?_, by split <;> omega, .inr (.inr (.inl ⟨n3, n49, rfl⟩))⟩
            rw [← e95]
            unfold g332_33 g332_94
            rw [if_pos m2, if_neg m3, xlx_4, e1, s1, Option.bind_some]
            show (if ¬ B (s + 1) = 49 then _ else _) = _
            rw [if_pos n49]
        · have m3 : ¬ ((e - s : Nat) : Int) = 3 := by omega
          refine ⟨0, 0, ?_, .inl rfl, .inr (.inr (.inr ⟨n2, n3, rfl⟩))⟩
          unfold g332_33 g332_94
          rw [if_pos m2, if_pos m3]
          unfold g332_95 g332_142
          rw [if_pos m2, if_pos m3]
    obtain ⟨row, dg, e33, hdg, cs⟩ := e33
    rw [e0, e33]
    by_cases c2 : tcell B s e = -1
    · have ng : ¬ (kK (tstr B n lm) i = 2 ∧ kW (tstr B n lm) i ≠ -1) := fun q => q.2 (by rw [eW]; exact c2)
      rw [if_neg ng, eS]
      refine ⟨?_, rfl⟩
      unfold g332_143
      unfold tcell at c2
      by_cases a0 : B s - 65 < 0
      · rw [if_pos a0]; exact z
      rw [if_neg a0]
      by_cases a1 : 6 ≤ B s - 65
      · rw [if_pos a1]; exact z
      rw [if_neg a1]
      rw [if_neg a1] at c2
      by_cases a2 : dg = 0
      · rw [if_pos a2]; exact z
      rw [if_neg a2]
      by_cases a3 : row < 1
      · rw [if_pos a3]; exact z
      rw [if_neg a3]
      by_cases a4 : row ≤ 12
      · exfalso
        rcases cs with ⟨d1, d2, d3⟩ | ⟨d1, d2, d3, d4⟩ | ⟨d1, d2, d3⟩ | ⟨d1, d2, d3⟩
        · have := d3.mp (by omega)
          rw [if_pos d1, if_pos (by omega)] at c2
          omega
        · have := d4.mp (by omega)
          rw [if_neg (by omega), if_pos d1, if_pos (by omega)] at c2
          omega
        · omega
        · exact a2 d3
      · rw [if_neg a4]; exact z
    · have ng : kK (tstr B n lm) i = 2 ∧ kW (tstr B n lm) i ≠ -1 := ⟨c1, by rw [eW]; exact c2⟩
      rw [if_pos ng]
      have h6 : L 6 = -1 := by
        rw [t6, if_neg (by omega), if_neg]
        unfold tcell at c2
        rintro ⟨_, q2⟩
        rw [eE, eS] at q2
        rw [if_neg (c := e = s + 2) (by omega), if_neg (c := e = s + 3) (by omega)] at c2
        split at c2 <;> exact c2 rfl
      obtain ⟨L', p1, p2⟩ := l_pass' hf hE hA h6 (by omega) (by omega)
      have ok : 0 ≤ B s - 65 ∧ B s - 65 < 6 ∧ dg = 1 ∧ 1 ≤ row ∧ row ≤ 12 ∧ tcell B s e = B s - 65 + 6 * (row - 1) := by
        unfold tcell at c2 ⊢
        by_cases a1 : 6 ≤ B s - 65
        · rw [if_pos a1] at c2
          exact absurd rfl c2
        rw [if_neg a1] at c2 ⊢
        rcases cs with ⟨d1, d2, d3⟩ | ⟨d1, d2, d3, d4⟩ | ⟨d1, d2, d3⟩ | ⟨d1, d2, d3⟩
        · rw [if_pos d1] at c2 ⊢
          by_cases a5 : 49 ≤ B (s + 1) ∧ B (s + 1) ≤ 57
          · rw [if_pos a5]
            exact ⟨by omega, by omega, d3.mpr (by omega), by omega, by omega, by omega⟩
          · rw [if_neg a5] at c2
            exact absurd rfl c2
        · rw [if_neg (by omega), if_pos d1] at c2 ⊢
          by_cases a5 : B (s + 1) = 49 ∧ 48 ≤ B (s + 2) ∧ B (s + 2) ≤ 50
          · rw [if_pos a5]
            exact ⟨by omega, by omega, d4.mpr (by omega), by omega, by omega, by omega⟩
          · rw [if_neg a5] at c2
            exact absurd rfl c2
        · rw [if_neg (by omega), if_pos d1, if_neg (fun q => d2 q.1)] at c2
          exact absurd rfl c2
        · rw [if_neg d1, if_neg d2] at c2
          exact absurd rfl c2
      obtain ⟨o1, o2, o3, o4, o5, o6⟩ := ok
      refine ⟨L', ?_, p2, ?_, ?_, rfl⟩
      · unfold g332_143
        rw [if_neg (by omega), if_neg (by omega), if_neg (by omega), if_neg (by omega), if_pos o5, p1, Option.bind_some, eW, o6, xwr_g (row - 1) (by omega) (by omega), xwr_g (6 * (row - 1)) (by omega) (by omega), xwr_g _ (by omega) (by omega)]
      · show 0 ≤ kW (tstr B n lm) i
        rw [eW, o6]; omega
      · show kW (tstr B n lm) i < 72
        rw [eW, o6]; omega
  · rw [if_neg (fun q => c1 q.1)]
    have hk : ¬ (L 7 = -1 ∧ L 2 = 3) := fun q => c1 (tv.mp q.2)
    have := l_cell_no (f := f) (s := kS (tstr B n lm) i) hE t4 hS.1 hk
    rw [if_pos h7, t4] at this
    exact ⟨this, rfl⟩
end
