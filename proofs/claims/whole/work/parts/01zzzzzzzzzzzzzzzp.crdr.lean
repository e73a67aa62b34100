/-! THE CLASS: round() in the house -/
section
variable {f A hr n sl : Nat} {S : Nat → Nat × Nat × Nat} {G : xG_} {T : List (List Int)} {P : Nat → Nat} {lns : Nat → sLn} {tx : List Int} {kp : Nat × List (List Int)} {mt : Int × List Int} {pl rf : Int}
/-- which program a round is of -/
theorem rd_prog {l : sLn} {s so : pPg} {Mo : Nat → List pRw} {ln : Nat} (hE : cEd T S G A P) (hL : cLn T S G A P ln l) (hI : l.2.2.2.1.2.1 = -1 ∨ ((lMo l).1 : Int) < l.2.2.2.1.2.1) (hp : P (lMo l).1 ≠ 0) (io : isMo T (lMo l) so Mo) (is' : qPr (T.getD (lnE l) []) = .inr s) :
    ∃ (e : Nat) (tk : Int), G ln 7 = (e : Int) ∧ (tk = 0 ∧ e = 0 ∧ l.2.2.2.1.2.1 = -1 ∨ tk = 1 ∧ e ≠ 0 ∧ e = P (lnE l) ∧ l.2.2.2.1.2.1 ≠ -1) ∧ (G (P (lnE l)) 0 = G (P (lMo l).1) 0 ∧ tk = 0 ∧ s = so ∨ G (P (lnE l)) 0 ≠ G (P (lMo l).1) 0 ∧ tk = 1) ∧ (tk = 0 → P (lnE l) = P (lMo l).1) ∧ P (lnE l) ≠ 0 := by
  rcases hL.2.2.1 with ⟨a1, a2⟩ | ⟨a1, a2, a3⟩
  · have e1 : lnE l = (lMo l).1 := if_pos a1
    rw [e1] at is' ⊢
    have es : s = so := by
      have := io.2.1
      rw [is'] at this
      injection this
    exact ⟨0, 0, a2, .inl ⟨rfl, rfl, a1⟩, .inl ⟨rfl, rfl, es⟩, fun _ => rfl, hp⟩
  · have e1 : lnE l = l.2.2.2.1.2.1.toNat := if_neg (by omega)
    rw [e1]
    refine ⟨_, 1, a3, .inr ⟨rfl, a2, rfl, by omega⟩, .inr ⟨fun z => ?_, rfl⟩, fun z => absurd z (by decide), a2⟩
    have := hE.2 _ _ a2 hp z
    omega
/-- round() is refused -/
theorem k_rd0 {G1 : xG_} {mp : Nat} {tk : Int} (hf : 700 < f) (h : cHs S G A (T, lns, hr, tx, kp, mt, pl, rf) n) (hrf : 0 ≤ rf ∧ rf ≤ 100000) (hG : ∀ a j, a < 83 ∨ 203 < a → G1 a j = G a j) (hp1 : cPs G1) : ∃ G', c173_127 f 64 (243 + 9 * hr) mp tk 0 (S, G1, (A, sl)) = some (-1, (S, G', (A, sl))) ∧ cHs S G' A (T, lUp lns hr (lnF (lns hr)), hr, tx, kp, mt, pl, rf + 1) (n + 1) := by
  obtain ⟨⟨a1, a2, a3, a4⟩, ⟨P, b1, b2, b3⟩, ⟨c1, c2⟩, ⟨c3, c4⟩, c5, c6, c7, c8, c9⟩ := h
  have ls := lnSt_of a1 c1
  have z0 : ∀ a j, ¬ (a = 64 ∧ j = 8) → xup2 G1 64 8 (rf + 1) a j = G1 a j := fun a j y => xup2_n y
  have p0 : cPs (xup2 G1 64 8 (rf + 1)) := hp1.ge (fun a j hz => z0 a j (by
      rcases hz with z | z | z | z | z | z | z | ⟨z, z1, z2, k, z3⟩ | z | z | z | ⟨k, z1, z2, z3⟩ <;> omega))
  obtain ⟨G', k1, k2, k3, k4, k5⟩ := k_7 (f := f) (m := (A, sl)) (by omega) ls (lnPt_of p0 c1)
  have g : ∀ a j, a < 83 ∨ 203 < a → ¬ (a = 64 ∧ j = 8) → ¬ (243 + 9 * hr ≤ a ∧ a ≤ 243 + 9 * hr + 8) → G' a j = G a j := fun a j y1 y2 y3 => by rw [k2 a j (by omega) (by omega) (by omega), z0 a j y2, hG a j y1]
  have gl : ∀ a j, 242 < a → ¬ (a = 243 + 9 * hr ∧ (j = 7 ∨ j = 8)) → a ≠ 243 + 9 * hr + 7 → a ≠ 243 + 9 * hr + 8 → G' a j = G a j := fun a j y1 y2 y3 y4 => by rw [k2 a j y2 y3 y4, z0 a j (by omega), hG a j (by omega)]
  have sf : xSf A G G' := fun a j y1 y2 => g a j (by omega) (by omega) (by omega)
  refine ⟨G', sw_173f a1 ls.1 (by rw [hG _ _ (by omega)]; exact c5) hrf k1, ⟨⟨a1, p0.ge (fun a j hz => k2 a j (by
        rcases hz with z | z | z | z | z | z | z | ⟨z, z1, z2, k, z3⟩ | z | z | z | ⟨k, z1, z2, z3⟩ <;> omega) (by
        rcases hz with z | z | z | z | z | z | z | ⟨z, z1, z2, k, z3⟩ | z | z | z | ⟨k, z1, z2, z3⟩ <;> omega) (by
        rcases hz with z | z | z | z | z | z | z | ⟨z, z1, z2, k, z3⟩ | z | z | z | ⟨k, z1, z2, z3⟩ <;> omega)), a3.ge (fun a j y1 y2 => g a j (by omega) (by omega) (by omega)), a4⟩, ⟨P, b1.ge (Nat.le_refl _) (fun _ _ => rfl) sf (by rw [g _ _ (by omega) (by omega) (by omega)]; exact Int.le_refl _), fun y hy => ?_, ?_⟩, ⟨c1, by rw [g _ _ (by omega) (by omega) (by omega)]; exact c2⟩, ⟨by rw [g _ _ (by omega) (by omega) (by omega)]; exact c3, by rw [g _ _ (by omega) (by omega) (by omega)]; omega⟩, ?_, by rw [g _ _ (by omega) (by omega) (by omega)]; exact c6, c7.ge (g _ _ (by omega) (by omega) (by omega)) (fun p => g _ _ (by omega) (by omega) (by omega)), c8.ge (fun _ _ => rfl) (fun a j y1 y2 => g a j (by omega) (by omega) (by omega)) ⟨g _ _ (by omega) (by omega) (by omega), g _ _ (by omega) (by omega) (by omega)⟩, c9.ge ⟨g _ _ (by omega) (by omega) (by omega), g _ _ (by omega) (by omega) (by omega)⟩ (fun j => g _ _ (by omega) (by omega) (by omega))⟩⟩
  · unfold lUp
    by_cases d : y = hr
    · rw [if_pos d, d]
      have L : cLn T S G A P (243 + 9 * hr) (lns hr) := b2 hr c1
      obtain ⟨s, M, hm⟩ := L.mo
      obtain ⟨h1, ⟨h2, h3⟩, h4, _, _, h8, h9⟩ := L
      exact ⟨h1.ge (Nat.le_refl _) (fun _ _ => rfl) sf ⟨gl _ _ (by omega) (by omega) (by omega) (by omega), gl _ _ (by omega) (by omega) (by omega) (by omega), fun j _ _ => gl _ _ (by omega) (by omega) (by omega) (by omega)⟩, ⟨fun p hp => by rw [gl _ _ (by omega) (by omega) (by omega) (by omega)]; exact h2 p hp, fun c hc => by rw [gl _ _ (by omega) (by omega) (by omega) (by omega)]; exact h3 c hc⟩, .inl ⟨rfl, k3⟩, ⟨s, hm.2.1, cPn.nil k4⟩, cCt.nil k5, by rw [gl _ _ (by omega) (by omega) (by omega) (by omega)]; exact h8, by rw [gl _ _ (by omega) (by omega) (by omega) (by omega)]; exact h9⟩
    · rw [if_neg d]
      exact (b2 y hy).ge (Nat.le_refl _) (fun _ _ => rfl) sf (fun a j y1 y2 => gl a j (by omega) (by omega) (by omega) (by omega))
  · unfold lUp
    rw [if_pos rfl]
    exact b3.ge (Nat.le_refl _) (fun _ _ => rfl) sf ⟨g _ _ (by omega) (by omega) (by omega), g _ _ (by omega) (by omega) (by omega)⟩
  · rw [k2 _ _ (by omega) (by omega) (by omega), xup2_s]
end
