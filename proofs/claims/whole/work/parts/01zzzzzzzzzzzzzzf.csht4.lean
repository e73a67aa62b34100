/-! THE CLASS: the SHEET: workCells() whole -/
section
variable {f nx mo cc q rp tp : Nat} {S : Nat → Nat × Nat × Nat} {m : Nat × Nat} {s : pPg} {xr cr : Nat → Nat} {M : Nat → List pRw} {X : fXs} {to : Nat → Nat}
theorem k_102i {r10 : Nat → Int → Int → Int → Int → xT_ → Option xT_} {t : Nat} (hf : 700 < f) (ht : t ≤ 100) (hX : okX X) : ∀ (d c fu : Nat) (G : xG_) (lo hi x5 : Int) (Dn : Nat), c + d = 72 → d < fu → rM9 lo hi Dn → wkS S G nx mo cc q rp tp s xr cr M X to Dn → ∃ lo' hi' x5' G' Dn', c102_28 r10 f fu 216 lo hi x5 (t : Int) (c : Int) (S, G, m) = r10 216 lo' hi' x5' ((t + 1 : Nat) : Int) (S, G', m) ∧ rM9 lo' hi' Dn' ∧ wkS S G' nx mo cc q rp tp s xr cr M X to Dn' ∧ xWc cc G G' ∧ ((x5' = x5 ∧ Dn' = Dn ∧ ∀ y, c ≤ y → y < 72 → ¬ (¬ Dn.testBit y = true ∧ rdC X Dn y)) ∨ (x5' = 1 ∧ nct 72 Dn < nct 72 Dn')) := by
  intro d
  induction d with
  | zero =>
    intro c fu G lo hi x5 Dn e1 e2 hm h
    obtain ⟨fu, rfl⟩ : ∃ t, fu = t + 1 := ⟨fu - 1, by omega⟩
    have et : xwr ((t : Int) + 1) = ((t + 1 : Nat) : Int) := by rw [xwr_g _ (by omega) (by omega)]; omega
    refine ⟨lo, hi, x5, G, Dn, ?_, hm, h, .id, .inl ⟨rfl, rfl, fun y y1 y2 => by omega⟩⟩
    show c102_28b r10 (c102_28 r10 f fu) f 216 _ _ _ _ _ _ = _
    unfold c102_28b
    rw [if_pos (by omega), et]
  | succ d ih =>
    intro c fu G lo hi x5 Dn e1 e2 hm h
    obtain ⟨fu, rfl⟩ : ∃ t, fu = t + 1 := ⟨fu - 1, by omega⟩
    rcases k_102c (r10 := r10) (m := m) (x5 := x5) (t := (t : Int)) (fu := fu) hf hX h hm (by omega : c < 72) with ⟨a1, a2⟩ | ⟨a0, lo1, hi1, G1, a1, a2, a3, a4⟩
    · obtain ⟨lo', hi', x5', G', Dn', b1, b2, b3, b4, b5⟩ := ih (c + 1) fu G lo hi x5 Dn (by omega) (by omega) hm h
      refine ⟨lo', hi', x5', G', Dn', a2.trans b1, b2, b3, b4, ?_⟩
      rcases b5 with ⟨z1, z2, z3⟩ | z
      · refine .inl ⟨z1, z2, fun y y1 y2 => ?_⟩
        by_cases cy : y = c
        · rw [cy]; exact a1
        · exact z3 y (by omega) y2
      · exact .inr z
    · obtain ⟨lo', hi', x5', G', Dn', b1, b2, b3, b4, b5⟩ := ih (c + 1) fu G1 lo1 hi1 1 (Dn ||| 2 ^ c) (by omega) (by omega) a2 a4
      have hlt : nct 72 Dn < nct 72 (Dn ||| 2 ^ c) := nct_lt (x := c) 72 (fun x _ hx => by rw [Nat.testBit_or, hx]; rfl) (by omega) (by rw [or_bit]; simp) a0
      refine ⟨lo', hi', x5', G', Dn', a1.trans b1, b2, b3, a3.tr b4, .inr ?_⟩
      rcases b5 with ⟨z1, z2, z3⟩ | ⟨z1, z2⟩
      · exact ⟨z1, by rw [z2]; exact hlt⟩
      · exact ⟨z1, by omega⟩
theorem rd_all {Dn : Nat} (hX : okX X) (h : ∀ y, y < 72 → ¬ (¬ Dn.testBit y = true ∧ rdC X Dn y)) : ∀ x, x < 72 → Dn.testBit x = true := by
  intro c hc
  refine Classical.byContradiction (fun hn => ?_)
  obtain ⟨x, x1, x2, x3⟩ := sh_next (X := X) (D := fun x => Dn.testBit x = true) hX (fun c hc hy => Classical.byContradiction (fun q => h c hc ⟨q, .inr (.inl hy)⟩)) 73 c hc hn (by have := nct_k (xFr X c) 72; omega)
  exact h x x1 ⟨x2, .inr (.inr x3)⟩
theorem k_102o (hf : 700 < f) (hX : okX X) : ∀ (d t fu : Nat) (G : xG_) (lo hi x5 : Int) (Dn : Nat), t + d = 73 → d < fu → rM9 lo hi Dn → wkS S G nx mo cc q rp tp s xr cr M X to Dn → (x5 = 1 ∧ t ≤ nct 72 Dn ∨ x5 = 0 ∧ ∀ x, x < 72 → Dn.testBit x = true) → ∃ G' Dn', c102_10 f fu 216 lo hi x5 (t : Int) (S, G, m) = some (S, G', m) ∧ xWc cc G G' ∧ wkS S G' nx mo cc q rp tp s xr cr M X to Dn' ∧ ∀ x, x < 72 → Dn'.testBit x = true := by
  intro d
  induction d with
  | zero =>
    intro t fu G lo hi x5 Dn e1 e2 hm h hx
    obtain ⟨fu, rfl⟩ : ∃ t, fu = t + 1 := ⟨fu - 1, by omega⟩
    have hx' : ∀ x, x < 72 → Dn.testBit x = true := by
      rcases hx with ⟨_, q⟩ | ⟨_, q⟩
      · have := nct_k Dn 72; omega
      · exact q
    refine ⟨G, Dn, ?_, .id, h, hx'⟩
    show c102_10b (c102_10 f fu) f 216 _ _ _ _ _ = _
    unfold c102_10b c102_207
    rw [if_pos (by omega)]
  | succ d ih =>
    intro t fu G lo hi x5 Dn e1 e2 hm h hx
    obtain ⟨fu, rfl⟩ : ∃ t, fu = t + 1 := ⟨fu - 1, by omega⟩
    rcases hx with ⟨q1, q2⟩ | ⟨q1, q2⟩
    · obtain ⟨lo', hi', x5', G1, Dn', b1, b2, b3, b4, b5⟩ := k_102i (r10 := c102_10 f fu) (m := m) (t := t) hf (by omega) hX 72 0 f G lo hi 0 Dn (by omega) (by omega) hm h
      have e0 : c102_10 f (fu + 1) 216 lo hi x5 (t : Int) (S, G, m) = c102_28 (c102_10 f fu) f f 216 lo hi 0 (t : Int) 0 (S, G, m) := by
        show c102_10b (c102_10 f fu) f 216 _ _ _ _ _ = _
        unfold c102_10b
        rw [if_neg (by omega), if_neg (by omega)]
      obtain ⟨G', Dn2, c1, c2, c3, c4⟩ := ih (t + 1) fu G1 lo' hi' x5' Dn' (by omega) (by omega) b2 b3 (by
        rcases b5 with ⟨z1, z2, z3⟩ | ⟨z1, z2⟩
        · exact .inr ⟨z1, by rw [z2]; exact rd_all hX (fun y hy => z3 y (Nat.zero_le _) hy)⟩
        · exact .inl ⟨z1, by omega⟩)
      exact ⟨G', Dn2, (e0.trans b1).trans c1, b4.tr c2, c3, c4⟩
    · refine ⟨G, Dn, ?_, .id, h, q2⟩
      show c102_10b (c102_10 f fu) f 216 _ _ _ _ _ = _
      unfold c102_10b c102_207
      rw [if_neg (by omega), if_pos q1]
/-- workCells() -/
theorem k_102 {G : xG_} (hf : 700 < f) (hX : okX X) (h : wkS S G nx mo cc q rp tp s xr cr M X to 0) : ∃ G', c102 f 216 (S, G, m) = some (S, G', m) ∧ xWc cc G G' ∧ ∀ x, x < 72 → G' cc x = eC (fSh X s M x) := by
  obtain ⟨G', Dn, a1, a2, a3, a4⟩ := k_102o (m := m) hf hX 73 0 f G 0 0 1 0 (by omega) (by omega) .z h (.inl ⟨rfl, Nat.zero_le _⟩)
  exact ⟨G', a1, a2, fun x hx => a3.1.2.2.2.1.2 x hx (a4 x hx)⟩
end
