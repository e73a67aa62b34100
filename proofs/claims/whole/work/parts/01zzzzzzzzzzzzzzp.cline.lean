/-! THE CLASS: a line: present(), emptyPending(), countWorked() -/
section
variable {f ln : Nat} {S : Nat → Nat × Nat × Nat} {G : xG_} {m : Nat × Nat}
theorem k_5 {r mo : Nat} (ls : lnSt S ln) (lp : lnPt G ln) (h1 : G ln 1 = (r : Int)) (hr : r < 520) (hm : G (ln + 1) r = (mo : Int)) : c5 f ln (S, G, m) = some (mo, (S, G, m)) := by
  unfold c5
  rw [o_gr ls.1 lp.1, Option.bind_some, o_gi ls.1, Option.bind_some, h1, o_ar ls.2.1 (by decide) hr hm, Option.bind_some]
theorem o_sb0 {x z L : Nat} (h : S x = (2, 0, L)) (hz : z < L) : cq_sb x (z : Int) 0 (S, G, m) = some (S, xup2 G x z 0, m) := by
  unfold cq_sb cq_s
  show (if (S x).2.1 = 1 then _ else if (S x).2.1 = 0 then (if (S x).1 = 2 ∧ (S x).2.1 = 0 ∧ 0 ≤ (z : Int) ∧ (z : Int) < ((S x).2.2 : Int) then _ else _) else _) = _
  rw [h, if_neg (show ¬ (0 : Nat) = 1 by decide), if_pos rfl, if_pos ⟨rfl, rfl, by omega, by show (z : Int) < ((L : Nat) : Int); omega⟩]
  rfl
theorem k_7l (ls : lnSt S ln) : ∀ (d c fu : Nat) (G : xG_), c + d = 72 → d < fu → lnPt G ln → (∀ y, y < c → G (ln + 7) y = 0 ∧ G (ln + 8) y = 0) → ∃ G', c7_12 f fu ln (c : Int) (S, G, m) = some (S, G', m) ∧ (∀ a j, a ≠ ln + 7 → a ≠ ln + 8 → G' a j = G a j) ∧ ∀ y, y < 72 → G' (ln + 7) y = 0 ∧ G' (ln + 8) y = 0 := by
  intro d
  induction d with
  | zero =>
    intro c fu G e1 e2 lp h
    obtain ⟨fu, rfl⟩ : ∃ t, fu = t + 1 := ⟨fu - 1, by omega⟩
    refine ⟨G, ?_, fun _ _ _ _ => rfl, fun y hy => h y (by omega)⟩
    show c7_12b (c7_12 f fu) f ln _ _ = _
    unfold c7_12b
    rw [if_pos (by omega)]
  | succ d ih =>
    intro c fu G e1 e2 lp h
    obtain ⟨fu, rfl⟩ : ∃ t, fu = t + 1 := ⟨fu - 1, by omega⟩
    have ec : xwr ((c : Int) + 1) = ((c + 1 : Nat) : Int) := by rw [xwr_g _ (by omega) (by omega)]; omega
    obtain ⟨l0, _, _, _, _, _, _, l7, l8⟩ := id ls
    obtain ⟨p0, p5, p6, p9, p10, p11, p12, p13⟩ := id lp
    have e13 : xup2 G (ln + 7) c 0 ln 13 = ((ln + 8 : Nat) : Int) := by rw [xup2_n (by omega)]; exact p13
    have z : ∀ a j, a ≠ ln + 7 → a ≠ ln + 8 → xup2 (xup2 G (ln + 7) c 0) (ln + 8) c ((0 : Nat) : Int) a j = G a j := fun a j y1 y2 => by rw [xup2_n (by omega), xup2_n (by omega)]
    have st : c7_12 f (fu + 1) ln (c : Int) (S, G, m) = c7_12 f fu ln ((c + 1 : Nat) : Int) (S, xup2 (xup2 G (ln + 7) c 0) (ln + 8) c ((0 : Nat) : Int), m) := by
      show c7_12b (c7_12 f fu) f ln _ _ = _
      unfold c7_12b
      rw [if_neg (by omega), o_gr l0 p12, Option.bind_some, o_sb0 l7 (by omega), Option.bind_some, o_gr l0 e13, Option.bind_some, o_sr l8 (by omega) (.inl rfl), Option.bind_some, ec]
    obtain ⟨G', i1, i2, i3⟩ := ih (c + 1) fu (xup2 (xup2 G (ln + 7) c 0) (ln + 8) c ((0 : Nat) : Int)) (by omega) (by omega) (by
      unfold lnPt
      rw [z _ _ (by omega) (by omega), z _ _ (by omega) (by omega), z _ _ (by omega) (by omega), z _ _ (by omega) (by omega), z _ _ (by omega) (by omega), z _ _ (by omega) (by omega), z _ _ (by omega) (by omega), z _ _ (by omega) (by omega)]
      exact lp) (fun y hy => by
      by_cases cy : y = c
      · rw [cy, xup2_s, xup2_n (by omega), xup2_s]; exact ⟨rfl, rfl⟩
      · rw [xup2_n (by omega), xup2_n (by omega), xup2_n (by omega), xup2_n (by omega)]
        exact h y (by omega))
    exact ⟨G', st.trans i1, fun a j y1 y2 => by rw [i2 a j y1 y2, z a j y1 y2], i3⟩
/-- emptyPending() -/
theorem k_7 (hf : 100 < f) (ls : lnSt S ln) (lp : lnPt G ln) : ∃ G', c7 f ln (S, G, m) = some (S, G', m) ∧ (∀ a j, ¬ (a = ln ∧ (j = 7 ∨ j = 8)) → a ≠ ln + 7 → a ≠ ln + 8 → G' a j = G a j) ∧ G' ln 7 = 0 ∧ G' ln 8 = 0 ∧ ∀ y, y < 72 → G' (ln + 7) y = 0 ∧ G' (ln + 8) y = 0 := by
  have z : ∀ a j, ¬ (a = ln ∧ (j = 7 ∨ j = 8)) → xup2 (xup2 G ln 7 ((0 : Nat) : Int)) ln 8 0 a j = G a j := fun a j y => by rw [xup2_n (by omega), xup2_n (by omega)]
  obtain ⟨G', a1, a2, a3⟩ := k_7l (f := f) (m := m) ls 72 0 f (xup2 (xup2 G ln 7 ((0 : Nat) : Int)) ln 8 0) (by omega) (by omega) (by
    unfold lnPt
    rw [z _ _ (by omega), z _ _ (by omega), z _ _ (by omega), z _ _ (by omega), z _ _ (by omega), z _ _ (by omega), z _ _ (by omega), z _ _ (by omega)]
    exact lp) (fun y hy => absurd hy (Nat.not_lt_zero y))
  refine ⟨G', ?_, fun a j y1 y2 y3 => by rw [a2 a j y2 y3, z a j y1], ?_, ?_, a3⟩
  · unfold c7
    rw [o_pr ls.1, Option.bind_some, o_p ls.1, Option.bind_some]
    exact a1
  · rw [a2 _ _ (by omega) (by omega), xup2_n (by omega), xup2_s]; rfl
  · rw [a2 _ _ (by omega) (by omega), xup2_s]
theorem k_10l {wk : Nat} {tk : Int} (hw : wk < 65536) (ls : lnSt S ln) (g5 : G ln 5 = ((ln + 2 : Nat) : Int)) : ∀ (d c fu : Nat) (G' : xG_), c + d = 16 → d < fu → (∀ a j, a ≠ ln + 2 → G' a j = G a j) → (∀ p, p < 16 → c ≤ p → G' (ln + 2) p = G (ln + 2) p) → (∀ p, p < 16 → 0 ≤ G (ln + 2) p ∧ G (ln + 2) p ≤ 100000) → (∀ p, p < c → G' (ln + 2) p = (if tk = 0 then G (ln + 2) p else 0) + if wk.testBit p = true then 1 else 0) → ∃ G'', c10_2 f fu ln (wk : Int) tk (c : Int) (S, G', m) = some (S, G'', m) ∧ (∀ a j, a ≠ ln + 2 → G'' a j = G a j) ∧ ∀ p, p < 16 → G'' (ln + 2) p = (if tk = 0 then G (ln + 2) p else 0) + if wk.testBit p = true then 1 else 0 := by
  intro d
  induction d with
  | zero =>
    intro c fu G' e1 e2 hz _ _ hp
    obtain ⟨fu, rfl⟩ : ∃ t, fu = t + 1 := ⟨fu - 1, by omega⟩
    refine ⟨G', ?_, hz, fun p h => hp p (by omega)⟩
    show c10_2b (c10_2 f fu) f ln _ _ _ _ = _
    unfold c10_2b
    rw [if_pos (by omega)]
  | succ d ih =>
    intro c fu G' e1 e2 hz hc hb hp
    obtain ⟨fu, rfl⟩ : ∃ t, fu = t + 1 := ⟨fu - 1, by omega⟩
    have ec : xwr ((c : Int) + 1) = ((c + 1 : Nat) : Int) := by rw [xwr_g _ (by omega) (by omega)]; omega
    obtain ⟨l0, _, l2, _⟩ := id ls
    have hcb := hb c (by omega)
    have hcc := hc c (by omega) (Nat.le_refl _)
    have e5 : G' ln 5 = ((ln + 2 : Nat) : Int) := by rw [hz _ _ (by omega)]; exact g5
    have ebit : xand (xshr (wk : Int) (c : Int)) 1 = if wk.testBit c = true then 1 else 0 := by
      cases hb' : wk.testBit c with
      | true => rw [(xbit (by omega) (by omega)).mpr hb']; rfl
      | false => rw [(xbit0 (by omega) (by omega)).mpr hb']; rfl
    have ea : cq_a 3 (ln + 2) (c : Int) (S, G', m) = some (G (ln + 2) c) := by
      unfold cq_a
      show (if (S (ln + 2)).1 = 2 ∧ (S (ln + 2)).2.1 = 3 ∧ 0 ≤ (c : Int) ∧ (c : Int) < ((S (ln + 2)).2.2 : Int) then some (G' (ln + 2) (c : Int).toNat) else none) = _
      rw [l2, if_pos ⟨rfl, rfl, by omega, by show (c : Int) < ((16 : Nat) : Int); omega⟩, Int.toNat_natCast, hcc]
    have es : ∀ v : Int, cq_s 3 (ln + 2) (c : Int) v (S, G', m) = some (S, xup2 G' (ln + 2) c v, m) := fun v => by
      unfold cq_s
      show (if (S (ln + 2)).1 = 2 ∧ (S (ln + 2)).2.1 = 3 ∧ 0 ≤ (c : Int) ∧ (c : Int) < ((S (ln + 2)).2.2 : Int) then _ else none) = _
      rw [l2, if_pos ⟨rfl, rfl, by omega, by show (c : Int) < ((16 : Nat) : Int); omega⟩]
      rfl
    have st : c10_2 f (fu + 1) ln (wk : Int) tk (c : Int) (S, G', m) = c10_2 f fu ln (wk : Int) tk ((c + 1 : Nat) : Int) (S, xup2 G' (ln + 2) c ((if tk = 0 then G (ln + 2) c else 0) + if wk.testBit c = true then 1 else 0), m) := by
      show c10_2b (c10_2 f fu) f ln _ _ _ _ = _
      unfold c10_2b c10_27
      rw [if_neg (by omega), o_gr l0 e5, Option.bind_some]
      by_cases ct : tk = 0
      · rw [if_pos ct, if_pos ct, Option.bind_some, ea, Option.bind_some, ebit, xwr_g _ (by split <;> omega) (by split <;> omega), es, Option.bind_some, ec]
      · rw [if_neg ct, if_neg ct, ebit, xwr_g _ (by split <;> omega) (by split <;> omega), es, Option.bind_some, ec]
    obtain ⟨G'', i1, i2, i3⟩ := ih (c + 1) fu (xup2 G' (ln + 2) c ((if tk = 0 then G (ln + 2) c else 0) + if wk.testBit c = true then 1 else 0)) (by omega) (by omega) (fun a j y => by rw [xup2_n (by omega)]; exact hz a j y) (fun p h1 h2 => by rw [xup2_n (by omega)]; exact hc p h1 (by omega)) hb (fun p h => by
      by_cases cp : p = c
      · rw [cp, xup2_s]
      · rw [xup2_n (by omega)]; exact hp p (by omega))
    exact ⟨G'', st.trans i1, i2, i3⟩
/-- countWorked() of a line -/
theorem k_10 {wk : Nat} {tk : Int} (hf : 100 < f) (hw : wk < 65536) (ls : lnSt S ln) (lp : lnPt G ln) (hb : ∀ p, p < 16 → 0 ≤ G (ln + 2) p ∧ G (ln + 2) p ≤ 100000) : ∃ G', c10 f ln (wk : Int) tk (S, G, m) = some (S, G', m) ∧ (∀ a j, a ≠ ln + 2 → G' a j = G a j) ∧ ∀ p, p < 16 → G' (ln + 2) p = (if tk = 0 then G (ln + 2) p else 0) + if wk.testBit p = true then 1 else 0 :=
  k_10l hw ls lp.2.1 16 0 f G (by omega) (by omega) (fun _ _ _ => rfl) (fun _ _ _ => rfl) hb (fun p hp => absurd hp (Nat.not_lt_zero p))
end
