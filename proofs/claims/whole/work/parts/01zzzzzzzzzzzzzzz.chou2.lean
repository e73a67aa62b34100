/-! THE CLASS: the house: what stays -/
section
variable {T : List (List Int)} {S S' : Nat → Nat × Nat × Nat} {G G' : xG_} {A A' ln : Nat} {P P' : Nat → Nat} {l : sLn} {H : Nat → sMo} {b k ed n n' : Nat} {W : Nat → Int} {kp : Nat × List (List Int)} {mt : Int × List Int}
theorem cEd.ge (h : cEd T S G A P) (hA : A ≤ A') (hS : ∀ a, a < A → S' a = S a) (hG : xSf A G G') (h7 : G 64 7 ≤ G' 64 7) : cEd T S' G' A' P := by
  have g0 : ∀ e, P e ≠ 0 → G' (P e) 0 = G (P e) 0 := fun e he => by
    obtain ⟨_, ⟨s, nq, _, _, a3, a4, a5⟩, _⟩ := h.1 e he
    have := a3.2.2.2.2.2.2.2.2
    exact hG _ _ (by omega) (by omega)
  refine ⟨fun e he => ?_, fun e e' he he' z => h.2 e e' he he' (by rw [← g0 e he, ← g0 e' he']; exact z)⟩
  obtain ⟨a1, a2, a3, a4⟩ := h.1 e he
  exact ⟨a1, a2.ge hA hS hG, by rw [g0 e he]; exact a3, by rw [g0 e he]; omega⟩
theorem cRo.ge (h : cRo T S G A P ln H b k ed) (hA : A ≤ A') (hS : ∀ a, a < A → S' a = S a) (hG : xSf A G G') (hl : G' ln 1 = G ln 1 ∧ G' ln 2 = G ln 2 ∧ ∀ j, b ≤ j → j ≤ b + k → G' (ln + 1) j = G (ln + 1) j) : cRo T S' G' A' P ln H b k ed := by
  obtain ⟨⟨h1, h2⟩, mp, h3, h4⟩ := h
  have gm : ∀ r, b ≤ r → r ≤ b + k → ∀ j, G' (mp r) j = G (mp r) j := fun r r1 r2 j => by
    obtain ⟨_, ⟨s, M, rp, xr, cr, tp, ac, to, _, _, _, _, _, _, ⟨z, _⟩, _⟩, _⟩ := h3 r r1 r2
    exact hG _ _ z.1 (.inr z.2)
  refine ⟨⟨by rw [hl.1]; exact h1, by rw [hl.2.1]; exact h2⟩, mp, fun r r1 r2 => ?_, fun r r1 r2 => ?_⟩
  · obtain ⟨a1, a2, x, a3, a4⟩ := h3 r r1 r2
    exact ⟨by rw [hl.2.2 r r1 r2]; exact a1, a2.ge hA hS hG, x, by rw [gm r r1 r2]; exact a3, a4⟩
  · have := h4 r r1 r2
    rw [gm r (by omega) r2, gm r (by omega) r2, gm r (by omega) r2]
    exact this
theorem cRo.app (t : List Int) (h : cRo T S G A P ln H b k ed) (hP : ∀ e, e < T.length → P' e = P e) : cRo (T ++ [t]) S G A P' ln H b k ed := by
  obtain ⟨h0, mp, h3, h4⟩ := h
  refine ⟨h0, mp, fun r r1 r2 => ?_, h4⟩
  obtain ⟨a1, a2, a3⟩ := h3 r r1 r2
  exact ⟨a1, a2.app t hP, a3⟩
theorem cCt.ge (h : cCt T S G A ln W) (hA : A ≤ A') (hS : ∀ a, a < A → S' a = S a) (hG : xSf A G G') (hl : ∀ c, c < 72 → G' (ln + 7) c = G (ln + 7) c ∧ G' (ln + 8) c = G (ln + 8) c) : cCt T S' G' A' ln W := by
  obtain ⟨lt, h⟩ := h
  refine ⟨lt, fun c hc => ?_⟩
  obtain ⟨a1, a2, a3⟩ := h c hc
  refine ⟨by rw [(hl c hc).1]; exact a1, by rw [(hl c hc).2]; exact a2, ?_⟩
  rcases a3 with z | ⟨z1, z2, e, z3, z4⟩
  · exact .inl z
  · exact .inr ⟨z1, by omega, e, z3, z4.ge (fun a y1 y2 => hS a (by omega)) (fun a j y1 y2 => hG a j (by omega) (by omega))⟩
theorem xOf_1 {K K' : Nat → Nat} {c : Nat} (h : K c = K' c) : xOf T K c = xOf T K' c := by
  unfold xOf
  rw [h]
theorem xOf_a1 {K : Nat → Nat} {c : Nat} (t : List Int) (h : K c < T.length) : xOf (T ++ [t]) K c = xOf T K c := by
  unfold xOf
  rw [getD_app _ h]
theorem cCt.app (t : List Int) (h : cCt T S G A ln W) (hW : ∀ c, c < 72 → (W c).toNat < T.length) : cCt (T ++ [t]) S G A ln W := by
  obtain ⟨lt, h⟩ := h
  refine ⟨lt, fun c hc => ?_⟩
  rw [xOf_a1 (K := fun c => (W c).toNat) t (hW c hc)]
  exact h c hc
theorem cLn.ge (h : cLn T S G A P ln l) (hA : A ≤ A') (hS : ∀ a, a < A → S' a = S a) (hG : xSf A G G') (hl : ∀ a j, ln ≤ a → a ≤ ln + 8 → G' a j = G a j) : cLn T S' G' A' P ln l := by
  obtain ⟨h1, ⟨h2, h3⟩, h4, ⟨s, h5, h6⟩, h7, h8, h9⟩ := h
  refine ⟨h1.ge hA hS hG ⟨hl _ _ (by omega) (by omega), hl _ _ (by omega) (by omega), fun j _ _ => hl _ _ (by omega) (by omega)⟩, ⟨fun p hp => by rw [hl _ _ (by omega) (by omega)]; exact h2 p hp, fun c hc => by rw [hl _ _ (by omega) (by omega)]; exact h3 c hc⟩, by rw [hl _ _ (by omega) (by omega)]; exact h4, ⟨s, h5, h6.ge (fun a j y1 y2 => hl a j (by omega) (by omega))⟩, h7.ge hA hS hG (fun c _ => ⟨hl _ _ (by omega) (by omega), hl _ _ (by omega) (by omega)⟩), by rw [hl _ _ (by omega) (by omega)]; exact h8, by rw [hl _ _ (by omega) (by omega)]; exact h9⟩
theorem cEe.ge (h : cEe T S G A P l) (hA : A ≤ A') (hS : ∀ a, a < A → S' a = S a) (hG : xSf A G G') (h1 : G' 64 12 = G 64 12 ∧ G' 64 13 = G 64 13) : cEe T S' G' A' P l := by
  obtain ⟨a, b⟩ := h
  refine ⟨fun z => by rw [h1.2]; exact a z, fun z => ?_⟩
  obtain ⟨ea, eb, b1, b2, b3, b4⟩ := b z
  exact ⟨ea, eb, by rw [h1.1]; exact b1, by rw [h1.2]; exact b2, b3.ge hA hS hG, b4.ge hA hS hG⟩
theorem cEe.app (t : List Int) (h : cEe T S G A P l) (hP : ∀ e, e < T.length → P' e = P e) : cEe (T ++ [t]) S G A P' l := by
  obtain ⟨a, b⟩ := h
  refine ⟨a, fun z => ?_⟩
  obtain ⟨ea, eb, b1, b2, b3, b4⟩ := b z
  exact ⟨ea, eb, b1, b2, b3.app t hP, b4.app t hP⟩
theorem cKp.ge (h : cKp S G kp) (hS : ∀ a, a < 227 → S' a = S a) (hG : ∀ a j, 221 ≤ a → a ≤ 226 → G' a j = G a j) (h1 : G' 64 10 = G 64 10 ∧ G' 64 11 = G 64 11) : cKp S' G' kp := by
  obtain ⟨an, sp, a1, a2, a3, a4⟩ := h
  exact ⟨an, sp, a1, by rw [h1.1]; exact a2, by rw [h1.2]; exact a3, a4.ge (fun a y1 y2 => hS a (by omega)) (fun j => hG _ _ (by omega) (by omega)) (fun j => hG _ _ (by omega) (by omega)) (fun j => hG _ _ (by omega) (by omega))⟩
theorem cMt.ge (h : cMt G mt) (h1 : G' 64 15 = G 64 15 ∧ G' 64 16 = G 64 16) (h2 : ∀ j, G' 227 j = G 227 j) : cMt G' mt := ⟨by rw [h1.1]; exact h.1, by rw [h1.2]; exact h.2.1, h.2.2.1, fun j hj => by rw [h2]; exact h.2.2.2 j hj⟩
theorem cEm.ge (h : cEm G) (hG : ∀ a j, 203 < a → a < 216 → G' a j = G a j) : cEm G' := fun w h1 h4 => by
  rw [hG _ _ (by omega) (by omega), hG _ _ (by omega) (by omega)]
  exact h w h1 h4
/-- calls that change scratch cells alone -/
theorem cHs.ge {H : sHs} (h : cHs S G A H n) (hn : n ≤ n') (hA : A ≤ A') (hS : ∀ a, a < A → S' a = S a) (hp : cPs G') (hG : ∀ a j, a < A → (a = 64 ∧ 6 ≤ j ∨ a = 65 ∧ j = 1 ∨ a = 66 ∨ 203 < a ∧ a < 216 ∨ 220 < a) → G' a j = G a j) : cHs S' G' A' H n' := by
  obtain ⟨T, lns, hr, tx, kp, mt, pl, rf⟩ := H
  obtain ⟨⟨a1, a2, a3, a4⟩, ⟨P, b1, b2, b3⟩, ⟨c1, c2⟩, ⟨c3, c4⟩, c5, c6, c7, c8, c9⟩ := h
  have g6 : ∀ j, 6 ≤ j → G' 64 j = G 64 j := fun j y => hG _ _ (by omega) (by omega)
  have sf : xSf A G G' := fun a j y1 y2 => hG a j y1 (by omega)
  refine ⟨⟨fun k hk => by rw [hS _ (by omega)]; exact a1 k hk, hp, a3.ge (fun a j y1 y2 => hG a j (by omega) (by omega)), by omega⟩, ⟨P, b1.ge hA hS sf (by rw [g6 _ (by omega)]; exact Int.le_refl _), fun y hy => (b2 y hy).ge hA hS sf (fun a j y1 y2 => hG a j (by omega) (by omega)), b3.ge hA hS sf ⟨g6 _ (by omega), g6 _ (by omega)⟩⟩, ⟨c1, by rw [g6 _ (by omega)]; exact c2⟩, ⟨by rw [g6 _ (by omega)]; exact c3, by rw [g6 _ (by omega)]; omega⟩, by rw [g6 _ (by omega)]; exact c5, by rw [g6 _ (by omega)]; exact c6, c7.ge (hG _ _ (by omega) (by omega)) (fun p => hG _ _ (by omega) (by omega)), c8.ge (fun a y => hS a (by omega)) (fun a j y1 y2 => hG a j (by omega) (by omega)) ⟨g6 _ (by omega), g6 _ (by omega)⟩, c9.ge ⟨g6 _ (by omega), g6 _ (by omega)⟩ (fun j => hG _ _ (by omega) (by omega))⟩
end
