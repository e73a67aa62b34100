/-! THE CLASS reads LITERALS: readLiteral() -/
section
variable {f n N w i i' u q l F : Nat} {S : Nat → Nat × Nat × Nat} {G G' G'' : xG_} {m : Nat × Nat} {B : Nat → Int} {t : tStr} {V V' : List (Int × Nat)} {K K' : pCd} {L L' : List Int} {tell : Bool} {M : List pMn} {s : pRs}
theorem cSg.fc {sl s' : Nat} {E D : pCd} (h : cSg G u K s' E) (hu : 278 < u) (hx : xFc u sl l G G') (hne : s' ≠ sl) : cSg G' u (K ++ D) s' E := h.ge (hx (u + 7) s' (by omega) (by omega) (by omega) (by omega) (by omega) (by omega)) (hx (u + 8) s' (by omega) (by omega) (by omega) (by omega) (by omega) (by omega))
theorem xFsc (h : xFs u (4 + 2 * l) G G') (h' : xFc u (5 + 2 * l) l G' G'') (hu : 278 < u) : (∀ a k, k < l → u + 2 ≤ a → a ≤ u + 4 → G'' a k = G a k) ∧ (∀ j, G'' (u + 5) j = G (u + 5) j ∧ G'' (u + 6) j = G (u + 6) j) ∧ (∀ j, j < 4 + 2 * l → G'' (u + 7) j = G (u + 7) j ∧ G'' (u + 8) j = G (u + 8) j) := by
  have z : ∀ a j, u + 2 ≤ a → ¬ (a = u + 2 ∧ j = l) → ¬ ((a = u + 7 ∨ a = u + 8) ∧ 4 + 2 * l ≤ j) → G'' a j = G a j := fun a j p1 p2 p3 => by
    rw [h' a j (by omega) (by omega) (by omega) (by omega) p2 (by omega), h a j (by omega) (by omega) (by omega) (by omega) (by omega)]
  exact ⟨fun a k hk z1 z2 => z a k z1 (by omega) (by omega), fun j => ⟨z _ j (by omega) (by omega) (by omega), z _ j (by omega) (by omega) (by omega)⟩, fun j hj => ⟨z _ j (by omega) (by omega) (by omega), z _ j (by omega) (by omega) (by omega)⟩⟩
theorem k_cmp {i0 : Nat} (hf : 3010 < f) (hok : tOk t) (hvi : vIn t B n) (hF : 4 * N + 2 ≤ F) (h : cRL S G B n t N w q u tell s K i0) (hl : s.2.2.1.length < 8) :
    pok (pCmp t F s) (fun x => ∃ G', c45_177 f 72 (S, G, m) = some (.inl 0, cWr S G' m (x : Int)) ∧ xF2 tell q u G G')
      (fun s' => ∃ G' K', c45_177 f 72 (S, G, m) = some (.inr (), (S, G', m)) ∧ xF2 tell q u G G' ∧ (∃ D, K' = K ++ D) ∧ cRL S G' B n t N w q u tell s' K' i0) := by
  obtain ⟨h1, h2, h3, h4, h5, h6, h7, h8⟩ := h
  have hu := h1.2.2.2.1.2.1
  have p := k_177 (f := f) (m := m) (F := F) (l := s.2.2.1.length) hf hok hvi hF h1 h8 hl h6.1
  unfold pCmp
  cases hp : pX t F 1 0 (s.2.1, [], s.2.2.2.2) with
  | inl x =>
    rw [hp] at p
    obtain ⟨G1, a1, a2⟩ := p
    exact ⟨G1, a1, a2.f2 (by omega)⟩
  | inr a =>
    rw [hp] at p
    obtain ⟨G1, a1, a2, a3, a4, a5, a6, a7⟩ := p
    show pok (if kK t a.2.2 = 61 ∨ kK t a.2.2 = 257 ∨ kK t a.2.2 = 60 ∨ kK t a.2.2 = 258 ∨ kK t a.2.2 = 62 ∨ kK t a.2.2 = 259 then pbind (pX t F 1 0 (a.1, [], a.2.2 + 1)) fun b => .inr (s.1, b.1, s.2.2.1 ++ [(3, kK t a.2.2, kS t s.2.2.2.2, [], a.2.1, b.2.1)], s.2.2.2.1, b.2.2) else .inl (kS t a.2.2)) _ _
    by_cases c : cSgn (kK t a.2.2)
    · have c' : kK t a.2.2 = 61 ∨ kK t a.2.2 = 257 ∨ kK t a.2.2 = 60 ∨ kK t a.2.2 = 258 ∨ kK t a.2.2 = 62 ∨ kK t a.2.2 = 259 := c
      rw [if_pos c']
      have p2 := k_288 (f := f) (m := m) (F := F) (sg := kK t a.2.2) (l := s.2.2.1.length) hf hok hvi hF a4 a6 hl (by rw [a3 u 8 (by omega) (by omega) (by omega) (by omega) (by omega)]; exact h6.1) (by omega) (by omega)
      rw [a1 c]
      cases hq : pX t F 1 0 (a.1, [], a.2.2 + 1) with
      | inl x =>
        rw [hq] at p2
        obtain ⟨G2, b1, b2⟩ := p2
        exact ⟨G2, b1, (a3.f2 (by omega)).tr (b2.f2 (by omega))⟩
      | inr b =>
        rw [hq] at p2
        obtain ⟨G2, b1, b2, b3, b4, b5, b6, b7, b8⟩ := p2
        obtain ⟨y1, y2, y3⟩ := xFsc a3 b2 hu
        refine ⟨G2, K ++ a.2.1.map cOp ++ b.2.1.map cOp, b1, (a3.f2 (by omega)).tr (b2.f2 (by omega)), ⟨a.2.1.map cOp ++ b.2.1.map cOp, List.append_assoc ..⟩, b3, (h2.fs a3 h3).fc b2 h3, h3, (h4.fs a3 hu).fc b2 hu, fun z => ⟨((h5 z).1.fs a3 h2.2.1 h3).fc b2 h2.2.1 h3, (h5 z).2⟩, ?_, ?_, b5⟩
        · have hx : cLt G2 u (K ++ (a.2.1.map cOp ++ b.2.1.map cOp)) s.2.2.1.length (3, kK t a.2.2, kS t s.2.2.2.2, [], a.2.1, b.2.1) := by
            rw [← List.append_assoc]
            exact .inr ⟨rfl, b7, c', a7.fc hu b2 (by omega), b6⟩
          have := cLs.add (K' := a.2.1.map cOp ++ b.2.1.map cOp) h6 hl b8 hx (fun a l z1 z2 z3 => y1 a l z1 z2 z3) (fun j _ => y2 j) (fun j hj _ => y3 j hj)
          rw [← List.append_assoc] at this
          exact this
        · show 3 * s.2.2.2.1.length ≤ b.2.2
          omega
    · have c' : ¬ (kK t a.2.2 = 61 ∨ kK t a.2.2 = 257 ∨ kK t a.2.2 = 60 ∨ kK t a.2.2 = 258 ∨ kK t a.2.2 = 62 ∨ kK t a.2.2 = 259) := c
      rw [if_neg c']
      exact ⟨G1, a2 c, a3.f2 (by omega)⟩
end
