/-! THE CLASS: programFault() whole -/
section
variable {f q nx A sl : Nat} {S S' : Nat → Nat × Nat × Nat} {G G' : xG_} {s : pPg}
theorem xFf.of (h : ∀ a j, a < A → ¬ (a = 72 ∧ j = 2) → G' a j = G a j) : xFf q A G G' := fun a j z1 z2 _ _ => h a j z1 z2
theorem k_62 {b : Nat} (hf : 3010 < f) (h : cFt S G q nx s) (hA : nx ≤ A) (hw : wPg s) (hk : wKn s) (hM : s.2.2.2.1.length ≤ 376) (hso : ∀ i j, i < j → j < s.2.2.2.1.length → mP s.2.2.2.1 i < mP s.2.2.2.1 j) (hr : rSo s.2.2.2.2.1 b) :
    ∃ k S' G' d, c62 f 72 (S, G, (A, sl)) = some (k, (S', G', (A + d, sl + 16 * d))) ∧ 1 ≤ d ∧ d ≤ 2 ∧ (∀ a, a < A → S' a = S a) ∧ xFf q A G G' ∧ ((k = 0 ∧ (∀ k a, ¬ pFa s 0 k a) ∧ cRg G' q s.1.length s.2.2.2.2.1) ∨ (k ≠ 0 ∧ fLs (pFa s 0) k (G' 72 2))) := by
  obtain ⟨x1, S1, G1, e1, e2, e3, e4, e5⟩ := k_62a (sl := sl) hf h hA hw hM
  have s72' := s72 e4.1
  have u1 : ∀ {x : Int} a j, a < A → ¬ (a = 72 ∧ j = 2) → xup2 G1 72 2 x a j = G a j := fun a j z1 z2 => by rw [xup2_n z2, e3 a j z1]
  by_cases c1 : x1 ≠ -1
  · exact ⟨1, S1, xup2 G1 72 2 x1, 1, by rw [e1]; exact (st_62_1 s72').1 c1, Nat.le_refl _, by omega, e2, xFf.of u1, .inr ⟨by decide, by rw [xup2_s]; exact fa_1 hso e5 c1⟩⟩
  replace c1 : x1 = -1 := Decidable.not_not.mp c1
  have n2 := fa_n1 e5 c1
  obtain ⟨x2, g1, g2⟩ := k_66' (m := (A + 1, sl + 16)) hf (e4.pl (x := x1)) hw hM
  have t1 := e1.trans ((st_62_1 s72').2 c1 g1)
  have u2 : ∀ {x : Int} a j, a < A → ¬ (a = 72 ∧ j = 2) → xup2 (xup2 G1 72 2 x1) 72 2 x a j = G a j := fun a j z1 z2 => by rw [xup2_n z2, u1 a j z1 z2]
  by_cases c2 : x2 ≠ -1
  · exact ⟨2, S1, _, 1, by rw [t1]; exact (st_62_2 s72').1 c2, Nat.le_refl _, by omega, e2, xFf.of u2, .inr ⟨by decide, by rw [xup2_s]; exact fa_2 hw hk hso n2 g2 c2⟩⟩
  replace c2 : x2 = -1 := Decidable.not_not.mp c2
  have n3 := fa_n2 hw hk n2 g2 c2
  obtain ⟨x3, h1, h2⟩ := k_67' (m := (A + 1, sl + 16)) hf ((e4.pl (x := x1)).pl (x := x2)) hw hM
  have t2 := t1.trans ((st_62_2 s72').2 c2 h1)
  have u3 : ∀ {x : Int} a j, a < A → ¬ (a = 72 ∧ j = 2) → xup2 (xup2 (xup2 G1 72 2 x1) 72 2 x2) 72 2 x a j = G a j := fun a j z1 z2 => by rw [xup2_n z2, u2 a j z1 z2]
  by_cases c3 : x3 ≠ -1
  · exact ⟨3, S1, _, 1, by rw [t2]; exact (st_62_3 s72').1 c3, Nat.le_refl _, by omega, e2, xFf.of u3, .inr ⟨by decide, by rw [xup2_s]; exact fa_3 hw hso n3 h2 c3⟩⟩
  replace c3 : x3 = -1 := Decidable.not_not.mp c3
  have n4 := fa_n3 hw n3 h2 c3
  have t3 := t2.trans ((st_62_3 s72').2 c3)
  have e6 : cFt S1 (xup2 (xup2 (xup2 G1 72 2 x1) 72 2 x2) 72 2 x3) q nx s := ((e4.pl (x := x1)).pl (x := x2)).pl (x := x3)
  obtain ⟨x4, G4, i1, i2, i3, i4⟩ := k_62b (f := f) (A := A + 1) (sl := sl + 16) hf e6 (by omega) hw
  by_cases c4 : x4 ≠ -1
  · exact ⟨4, S1, G4, 1, by rw [t3]; exact (i3 c4).1, Nat.le_refl _, by omega, e2, xFf.of (fun a j z1 z2 => by rw [i1 a j z2, u3 a j z1 z2]), .inr ⟨by decide, by rw [(i3 c4).2]; exact fa_4 hr n4 i2 c4⟩⟩
  replace c4 : x4 = -1 := Decidable.not_not.mp c4
  obtain ⟨n5, n5'⟩ := fa_n4 n4 i2 c4
  obtain ⟨S5, G5, j1, j2, j3, j4⟩ := i4 c4
  obtain ⟨a1, a2, a3, a4, a5, a6, a7, a8, a9⟩ := e6
  have s5 : S5 72 = (1, 4, 20) := by rw [j2 _ (by omega)]; exact s72'
  have p5 : cPgS S5 q := a3.2.2.2.2.1.ge (fun a _ _ => j2 a (by omega))
  have g5 : cPgP G5 q := a3.2.2.2.2.2.1.ge (fun j _ _ _ => j3 _ _ (by omega) (by omega) (by omega) (by omega))
  have r5 : cRl S5 G5 q nx s.2.2.2.2.1 := a6.2.1.ge (Nat.le_refl _) (j3 _ _ (by omega) (by omega) (by omega) (by omega)) (fun j _ => j3 _ _ (by omega) (by omega) (by omega) (by omega)) (fun a _ => j2 a (by omega)) (fun a j _ _ => j3 _ _ (by omega) (by omega) (by omega) (by omega))
  have hw5 : ∀ u ∈ s.2.2.2.2.1, (0 ≤ u.1 ∧ u.1 < s.1.length) ∧ ∀ y ∈ u.2.2.2.2.2, y.1 ≠ 3 → 0 ≤ y.2.1 ∧ y.2.1 < s.1.length := fun u hu => by
    have z := hw.2.2.2.2.2.2 u hu
    refine ⟨⟨z.1, z.2.1⟩, fun y hy hy3 => ?_⟩
    obtain ⟨y1, y2⟩ := z.2.2.2.2.2.2.2.2 y hy
    refine ⟨y2 hy3, ?_⟩
    rcases y1 with ⟨_, _, y4, _⟩ | ⟨y4, _⟩
    · omega
    · exact absurd y4 hy3
  obtain ⟨x5, l1, l2⟩ := k_28 (f := f) (m := (A + 1 + 1, sl + 16 + 16)) (nx := nx) (T := qWm s.1.length (qRd s.2.2.2.2.1) s.1.length) (by omega) (by omega) hw.1 p5 g5 r5 hw5 j4.1
  have t5 := t3.trans (j1.trans (st_62t s5 (by omega) p5.1 (by rw [j3 _ _ (by omega) (by omega) (by omega) (by omega)]; exact a3.1) l1))
  have fr : xFf q A G (xup2 G5 72 2 x5) := fun a j z1 z2 z3 z4 => by rw [xup2_n z2, j3 a j (by omega) z2 z3 z4, u3 a j z1 z2]
  have fs : ∀ a, a < A → S5 a = S a := fun a ha => by rw [j2 a (by omega), e2 a ha]
  by_cases c5 : x5 = -1
  · rw [if_pos c5] at t5
    refine ⟨0, S5, _, 2, t5, by omega, Nat.le_refl _, fs, fr, .inl ⟨rfl, fa_n5 n5' l2 c5, ?_⟩⟩
    obtain ⟨w1, w2, O, w3, w4, w5⟩ := j4
    have zz : ∀ a j, a ≠ 72 → xup2 G5 72 2 x5 a j = G5 a j := fun a j za => xup2_n (by omega)
    refine ⟨fun p hp => by rw [zz _ _ (by omega)]; exact w1 p hp, ?_, O, w3, ⟨by rw [zz _ _ (by omega)]; exact w4.1, fun k hk => by rw [zz _ _ (by omega)]; exact w4.2 k hk⟩, w5⟩
    exact fun p hp => by rw [zz _ _ (by omega)]; exact w2 p hp
  · rw [if_neg c5] at t5
    exact ⟨5, S5, _, 2, t5, by omega, Nat.le_refl _, fs, fr, .inr ⟨by decide, by rw [xup2_s]; exact fa_5 hr n5' l2 c5⟩⟩
end
