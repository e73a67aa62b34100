/-! THE CLASS: line(), forget(), Arrays.fill -/
section
variable {f A hr n sl ln : Nat} {S : Nat → Nat × Nat × Nat} {G G' : xG_} {m : Nat × Nat} {T : List (List Int)} {P : Nat → Nat} {l : sLn} {lns : Nat → sLn} {tx : List Int} {kp : Nat × List (List Int)} {mt : Int × List Int} {pl rf : Int}
theorem cMo.is {mp : Nat} {mo : sMo} (h : cMo T S G A P mp mo) : ∃ s M, isMo T mo s M := by
  obtain ⟨s, M, _, _, _, _, _, _, h, _⟩ := h
  exact ⟨s, M, h⟩
theorem cLn.mo (h : cLn T S G A P ln l) : ∃ s M, isMo T (lMo l) s M := by
  obtain ⟨⟨_, mp, h, _⟩, _⟩ := h
  exact (h _ (Nat.le_add_right _ _) (Nat.le_refl _)).2.1.is
theorem cPn.nil {s : pPg} (h : G ln 8 = 0) : cPn G ln s [] := ⟨h, Nat.zero_le _, fun i hi => absurd hi (Nat.not_lt_zero i)⟩
theorem cCt.nil (h : ∀ y, y < 72 → G (ln + 7) y = 0 ∧ G (ln + 8) y = 0) : cCt T S G A ln (fun _ => -1) := ⟨fun _ => 0, fun c hc => ⟨⟨fun _ => rfl, fun _ => (h c hc).1⟩, (h c hc).2, .inl ⟨rfl, rfl⟩⟩⟩
/-- line() -/
theorem k_188 {k : Int} (h : cHs S G A (T, lns, hr, tx, kp, mt, pl, rf) n) : ∃ G', c188 f 64 k (S, G, m) = some (if 0 ≤ k ∧ k < 4 then (hr : Int) else -1, (S, G', m)) ∧ cHs S G' A (if 0 ≤ k ∧ k < 4 then (T, lUp lns k.toNat (lnT (lns k.toNat)), k.toNat, tx, kp, mt, pl, rf) else (T, lns, hr, tx, kp, mt, pl, rf)) (n + 1) := by
  by_cases c : 0 ≤ k ∧ k < 4
  · obtain ⟨x, rfl⟩ : ∃ x : Nat, k = (x : Int) := ⟨k.toNat, by omega⟩
    rw [if_pos c, if_pos c, Int.toNat_natCast]
    obtain ⟨⟨a1, a2, a3, a4⟩, ⟨P, b1, b2, b3⟩, ⟨c1, c2⟩, ⟨c3, c4⟩, c5, c6, c7, c8, c9⟩ := h
    have z : ∀ a j, ¬ (a = 64 ∧ (j = 6 ∨ j = 13)) → xup2 (xup2 G 64 6 (x : Int)) 64 13 ((0 : Nat) : Int) a j = G a j := fun a j y => by rw [xup2_n (by omega), xup2_n (by omega)]
    have z6 : xup2 (xup2 G 64 6 (x : Int)) 64 13 ((0 : Nat) : Int) 64 6 = (x : Int) := by rw [xup2_n (by omega), xup2_s]
    have z13 : xup2 (xup2 G 64 6 (x : Int)) 64 13 ((0 : Nat) : Int) 64 13 = 0 := xup2_s _ _ _ _
    refine ⟨xup2 (xup2 G 64 6 (x : Int)) 64 13 ((0 : Nat) : Int), ?_, ?_⟩
    · unfold c188
      rw [if_neg (by omega), if_pos (by omega), o_gi (s64 a1), Option.bind_some, c2, o_p (s64 a1), Option.bind_some, o_pr (s64 a1), Option.bind_some]
    · generalize xup2 (xup2 G 64 6 (x : Int)) 64 13 ((0 : Nat) : Int) = G' at z z6 z13
      have sf : xSf A G G' := fun a j y1 y2 => z a j (by omega)
      refine ⟨⟨a1, a2.ge (fun a j hz => z a j (by
        rcases hz with z | z | z | z | z | z | z | ⟨z, z1, z2, k, z3⟩ | z | z | z | ⟨k, z1, z2, z3⟩ <;> omega)), a3.ge (fun a j y1 y2 => z a j (by omega)), a4⟩, ⟨P, b1.ge (Nat.le_refl _) (fun _ _ => rfl) sf (by rw [z _ _ (by omega)]; exact Int.le_refl _), fun y hy => ?_, ?_⟩, ⟨by omega, z6⟩, ⟨by rw [z _ _ (by omega)]; exact c3, by rw [z _ _ (by omega)]; omega⟩, by rw [z _ _ (by omega)]; exact c5, by rw [z _ _ (by omega)]; exact c6, c7.ge (z _ _ (by omega)) (fun p => z _ _ (by omega)), c8.ge (fun _ _ => rfl) (fun a j y1 y2 => z a j (by omega)) ⟨z _ _ (by omega), z _ _ (by omega)⟩, c9.ge ⟨z _ _ (by omega), z _ _ (by omega)⟩ (fun j => z _ _ (by omega))⟩
      · have := (b2 y hy).ge (Nat.le_refl _) (fun _ _ => rfl) sf (fun a j y1 y2 => z a j (by omega)) (S' := S)
        unfold lUp
        by_cases d : y = x
        · rw [if_pos d, d]
          rw [d] at this
          exact this
        · rw [if_neg d]; exact this
      · unfold lUp
        rw [if_pos rfl]
        exact ⟨fun _ => z13, fun z => absurd z (by show ¬ (false = true); decide)⟩
  · rw [if_neg c, if_neg c]
    refine ⟨G, ?_, h.ge (Nat.le_succ n) (Nat.le_refl _) (fun _ _ => rfl) h.1.2.1 (fun _ _ _ _ => rfl)⟩
    unfold c188 c188_9
    by_cases d : k < 0
    · rw [if_pos d]
    · rw [if_neg d, if_neg (by omega)]
/-- a line's own CHANGES and texts are emptied -/
theorem cLn.fo (h : cLn T S G A P ln l) (hl : ln < 279) (h7 : 242 < ln ∧ ln + 8 < 279) (hG : ∀ a j, ¬ (a = ln ∧ (j = 7 ∨ j = 8)) → a ≠ ln + 7 → a ≠ ln + 8 → G' a j = G a j) (e7 : G' ln 7 = 0) (e8 : G' ln 8 = 0) (ec : ∀ y, y < 72 → G' (ln + 7) y = 0 ∧ G' (ln + 8) y = 0) : cLn T S G' A P ln (lnF l) := by
  obtain ⟨s, M, hm⟩ := h.mo
  obtain ⟨h1, ⟨h2, h3⟩, h4, _, _, h8, h9⟩ := h
  have sf : xSf A G G' := fun a j y1 y2 => hG a j (by omega) (by omega) (by omega)
  exact ⟨h1.ge (Nat.le_refl _) (fun _ _ => rfl) sf ⟨hG _ _ (by omega) (by omega) (by omega), hG _ _ (by omega) (by omega) (by omega), fun j _ _ => hG _ _ (by omega) (by omega) (by omega)⟩, ⟨fun p hp => by rw [hG _ _ (by omega) (by omega) (by omega)]; exact h2 p hp, fun c hc => by rw [hG _ _ (by omega) (by omega) (by omega)]; exact h3 c hc⟩, .inl ⟨rfl, e7⟩, ⟨s, hm.2.1, cPn.nil e8⟩, cCt.nil ec, by rw [hG _ _ (by omega) (by omega) (by omega)]; exact h8, by rw [hG _ _ (by omega) (by omega) (by omega)]; exact h9⟩
/-- forget() -/
theorem k_172 (hf : 100 < f) (h : cHs S G A (T, lns, hr, tx, kp, mt, pl, rf) n) : ∃ G', c172 f 64 (S, G, m) = some (((lns hr).2.2.2.1.1.length : Int), (S, G', m)) ∧ cHs S G' A (T, lUp lns hr (lnF (lns hr)), hr, tx, kp, mt, pl, rf) (n + 1) := by
  obtain ⟨⟨a1, a2, a3, a4⟩, ⟨P, b1, b2, b3⟩, ⟨c1, c2⟩, ⟨c3, c4⟩, c5, c6, c7, c8, c9⟩ := h
  have ls := lnSt_of a1 c1
  have lp := lnPt_of a2 c1
  have pl' := p_ln a2 c1
  obtain ⟨G', k1, k2, k3, k4, k5⟩ := k_7 (f := f) (m := m) hf ls lp
  obtain ⟨_, _, _, ⟨s, l5, l6⟩, _⟩ := b2 hr c1
  have g6 : cq_gi 11 6 17 64 (S, G, m) = some (hr : Int) := by rw [o_gi (s64 a1), c2]
  have i3 : cq_is 1 14 (243 + 9 * hr) (S, G, m) = some () := if_pos ls.1
  have z : ∀ a j, ¬ (243 + 9 * hr ≤ a ∧ a ≤ 243 + 9 * hr + 8) → G' a j = G a j := fun a j y => k2 a j (by omega) (by omega) (by omega)
  have sf : xSf A G G' := fun a j y1 y2 => z a j (by omega)
  refine ⟨G', ?_, ⟨⟨a1, a2.ge (fun a j hz => k2 a j (by
        rcases hz with z | z | z | z | z | z | z | ⟨z, z1, z2, k, z3⟩ | z | z | z | ⟨k, z1, z2, z3⟩ <;> omega) (by
        rcases hz with z | z | z | z | z | z | z | ⟨z, z1, z2, k, z3⟩ | z | z | z | ⟨k, z1, z2, z3⟩ <;> omega) (by
        rcases hz with z | z | z | z | z | z | z | ⟨z, z1, z2, k, z3⟩ | z | z | z | ⟨k, z1, z2, z3⟩ <;> omega)), a3.ge (fun a j y1 y2 => z a j (by omega)), a4⟩, ⟨P, b1.ge (Nat.le_refl _) (fun _ _ => rfl) sf (by rw [z _ _ (by omega)]; exact Int.le_refl _), fun y hy => ?_, ?_⟩, ⟨c1, by rw [z _ _ (by omega)]; exact c2⟩, ⟨by rw [z _ _ (by omega)]; exact c3, by rw [z _ _ (by omega)]; omega⟩, by rw [z _ _ (by omega)]; exact c5, by rw [z _ _ (by omega)]; exact c6, c7.ge (z _ _ (by omega)) (fun p => z _ _ (by omega)), c8.ge (fun _ _ => rfl) (fun a j y1 y2 => z a j (by omega)) ⟨z _ _ (by omega), z _ _ (by omega)⟩, c9.ge ⟨z _ _ (by omega), z _ _ (by omega)⟩ (fun j => z _ _ (by omega))⟩⟩
  · unfold c172
    rw [o_gr (y := 220) (s64 a1) (p64_5 a2), Option.bind_some, g6, Option.bind_some, o_ar (s220 a1) (by decide) c1 pl', Option.bind_some, o_gi ls.1, Option.bind_some, l6.1, Option.bind_some, Option.bind_some, o_ar (s220 a1) (by decide) c1 pl', Option.bind_some, i3, Option.bind_some, k1, Option.bind_some]
  · unfold lUp
    by_cases d : y = hr
    · rw [if_pos d, d]
      exact (b2 hr c1).fo (by omega) (by omega) k2 k3 k4 k5
    · rw [if_neg d]
      exact (b2 y hy).ge (Nat.le_refl _) (fun _ _ => rfl) sf (fun a j y1 y2 => z a j (by omega))
  · unfold lUp
    rw [if_pos rfl]
    exact b3.ge (Nat.le_refl _) (fun _ _ => rfl) sf ⟨z _ _ (by omega), z _ _ (by omega)⟩
/-- Arrays.fill of ints -/
theorem k_382l {x L : Nat} {v : Int} (hL : L < 2000000000) (hS : S x = (2, 3, L)) : ∀ (d i fu : Nat) (G : xG_), i + d = L → d < fu → ∃ G', c382_5 f fu x v (i : Int) (L : Int) (S, G, m) = some (S, G', m) ∧ (∀ j, i ≤ j → j < L → G' x j = v) ∧ (∀ a j, ¬ (a = x ∧ i ≤ j ∧ j < L) → G' a j = G a j) := by
  intro d
  induction d with
  | zero =>
    intro i fu G e1 e2
    obtain ⟨fu, rfl⟩ : ∃ t, fu = t + 1 := ⟨fu - 1, by omega⟩
    refine ⟨G, ?_, fun j y1 y2 => by omega, fun _ _ _ => rfl⟩
    show c382_5b (c382_5 f fu) f _ _ _ _ _ = _
    unfold c382_5b
    rw [if_pos (by omega)]
  | succ d ih =>
    intro i fu G e1 e2
    obtain ⟨fu, rfl⟩ : ∃ t, fu = t + 1 := ⟨fu - 1, by omega⟩
    obtain ⟨G', k1, k2, k3⟩ := ih (i + 1) fu (xup2 G x i v) (by omega) (by omega)
    have e : cq_s 3 x (i : Int) v (S, G, m) = some (S, xup2 G x i v, m) := by
      unfold cq_s
      simp only [hS]
      rw [if_pos ⟨trivial, trivial, by omega, by omega⟩, Int.toNat_natCast]
    refine ⟨G', ?_, fun j y1 y2 => ?_, fun a j y => by rw [k3 a j (by omega), xup2_n (by omega)]⟩
    · show c382_5b (c382_5 f fu) f _ _ _ _ _ = _
      unfold c382_5b
      rw [if_neg (by omega), e, Option.bind_some, xwr_g _ (by omega) (by omega)]
      exact k1
    · by_cases c : j = i
      · rw [c, k3 x i (by omega), xup2_s]
      · exact k2 j (by omega) y2
theorem k_382f {x L : Nat} {v : Int} (hL : L < f) (hL2 : L < 2000000000) (hS : S x = (2, 3, L)) : ∃ G', c382 f x v (S, G, m) = some (S, G', m) ∧ (∀ j, j < L → G' x j = v) ∧ (∀ a j, a ≠ x → G' a j = G a j) := by
  obtain ⟨G', k1, k2, k3⟩ := k_382l (f := f) (m := m) (v := v) hL2 hS L 0 f G (by omega) hL
  refine ⟨G', ?_, fun j hj => k2 j (Nat.zero_le _) hj, fun a j y => k3 a j (by omega)⟩
  have e : cq_ln x (S, G, m) = some (L : Int) := by
    unfold cq_ln
    simp only [hS]
    rw [if_pos ⟨trivial, by omega⟩]
  unfold c382
  rw [e, Option.bind_some]
  exact k1
end
