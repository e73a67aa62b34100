/-! THE CLASS: arrange() -/
section
variable {f q np A sl nx : Nat} {S : Nat → Nat × Nat × Nat} {G : xG_} {R : List pRu}
/-- a program's RINGS stand -/
def cRg (G : xG_) (q np : Nat) (R : List pRu) : Prop := (∀ p, p < np → G (q + 8) p = ((qRing (qWm np (qRd R) np) p : Nat) : Int)) ∧ cRd G q (qRd R) ∧ ∃ O, (∃ dn, isOr (qWm np (qRd R) np) (qRd R) np dn O) ∧ cOr G q O ∧ allO (qWm np (qRd R) np) np O
theorem k_24 (hf : 30 < f) (hq : 278 < q) (hA : q + 10 < A) (hnx : nx ≤ A) (hn : np ≤ 16) (hP : cPgS S q) (hG : cPgP G q) (h1 : G q 1 = (np : Int)) (h12 : G q 12 = 0) (hR : cRl S G q nx R) (h0 : ∀ j, G (q + 10) j = 0) (hw : ∀ u ∈ R, (0 ≤ u.1 ∧ u.1 < 16) ∧ ∀ y ∈ u.2.2.2.2.2, y.1 ≠ 3 → 0 ≤ y.2.1 ∧ y.2.1 < 16) (hT : ∀ x j y, x < np → j < np → (qWm np (qRd R) np x).testBit j = true → (qWm np (qRd R) np j).testBit y = true → (qWm np (qRd R) np x).testBit y = true) (hD : ∀ x, x < np → ∀ j, (qRd R x).testBit j = true → (qWm np (qRd R) np x).testBit j = true ∧ j < np) :
    ∃ S' G', c24 f q (S, G, (A, sl)) = some (S', G', (A + 1, sl + 16)) ∧ (∀ a, a < A → S' a = S a) ∧ (∀ a j, a < A → ¬ (q + 8 ≤ a ∧ a ≤ q + 10) → ¬ (a = q ∧ j = 12) → G' a j = G a j) ∧ cRg G' q np R := by
  have hR24 := hR.2.1
  obtain ⟨G1, a1, a2, a3, a4⟩ := k_24r (f := f) (A := A) (sl := sl) (nx := nx) (by omega) (by omega : 82 < q) hP hw R.length 0 f G (by omega) (by omega) hG hR (fun p => by show 0 < 2 ^ 16; decide) (fun p _ => h0 p)
  have hS : ∀ a, a < A → xup1 S A (2, 3, 16) a = S a := fun a ha => xup1_n (Nat.ne_of_lt ha)
  have hP' : cPgS (xup1 S A (2, 3, 16)) q := hP.ge (fun a _ z => hS a (by omega))
  have z1 : ∀ a j, a ≠ A → xz1 G1 A (G1 (q + 10)) a j = G1 a j := fun a j ha => xz1_n j ha
  obtain ⟨G2, b1, b2, b3⟩ := k_80 (f := f) (m := (A + 1, sl + 16)) (np := np) hf (by omega : q ≠ A) hn hP'.1 (xup1_s S A (2, 3, 16)) a3 np 0 f (xz1 G1 A (G1 (q + 10))) (by omega) (by omega) (by rw [z1 _ _ (by omega), a2 _ _ (by omega)]; exact h1) (fun p hp => by rw [xz1_s]; exact a4 p hp)
  have z2 : ∀ a j, a ≠ A → a ≠ q + 10 → G2 a j = G a j := fun a j h h' => by rw [b2 a j h, z1 a j h, a2 a j h']
  have hGp : ∀ {Gx : xG_}, (∀ a j, a ≠ A → a ≠ q + 10 → a ≠ q + 8 → Gx a j = G a j) → cPgP Gx q := fun h => hG.ge (fun j _ _ _ => h q j (by omega) (by omega) (by omega))
  obtain ⟨G3, c1, c2, c3⟩ := k_132 (f := f) (m := (A + 1, sl + 16)) (T' := (S, G, (A, sl))) hf (by omega : 82 < q) hA hn hP' (xup1_s S A (2, 3, 16)) (qWm_b (np := np) a3 np) np 0 f G2 (by omega) (by omega) (by rw [z2 _ _ (by omega) (by omega)]; exact hG.2.2.2.2.2.2.2.1) (by rw [z2 _ _ (by omega) (by omega)]; exact h1) b3 (fun p hp => absurd hp (Nat.not_lt_zero p))
  have z3 : ∀ a j, a ≠ A → a ≠ q + 10 → a ≠ q + 8 → G3 a j = G a j := fun a j h h' h'' => by rw [c2 a j h'', z2 a j h h']
  have hC3 : cRd G3 q (qRd R) := fun p hp => by rw [c2 _ _ (by omega), b2 _ _ (by omega), z1 _ _ (by omega)]; exact a4 p hp
  obtain ⟨G4, O, d1, d2, d3, d4, d5⟩ := k_25t (f := f) (m := (A + 1, sl + 16)) hf (by omega : 82 < q) hn hP' a3 hT hD np 0 f 0 G3 [] (by omega) (by omega) (hGp z3) (by rw [z3 _ _ (by omega) (by omega) (by omega)]; exact h1) c3 hC3 ⟨by decide, fun j => by rw [Nat.zero_testBit]; exact ⟨fun y => (by cases y), fun y => (by cases y.2)⟩, List.nodup_nil, fun g hg => (by cases hg), fun k hk => absurd hk (Nat.not_lt_zero k)⟩ ⟨by rw [z3 _ _ (by omega) (by omega) (by omega), h12]; rfl, fun k hk => absurd hk (Nat.not_lt_zero k)⟩ (.inl (Nat.zero_le _))
  refine ⟨_, G4, ?_, hS, fun a j z z' z'' => by rw [d2 a j (by omega) z'', z3 a j (by omega) (by omega) (by omega)], fun p hp => by rw [d2 _ _ (by omega) (by omega)]; exact c3 p hp, fun p hp => by rw [d2 _ _ (by omega) (by omega)]; exact hC3 p hp, O, d3, d4, d5⟩
  show c24_2 f f q ((0 : Nat) : Int) (S, G, (A, sl)) = _
  rw [a1, b1]
  exact c1 _ d1
end
