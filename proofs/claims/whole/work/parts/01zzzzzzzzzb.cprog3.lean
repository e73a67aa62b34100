/-! THE CLASS: readProgram() -/
/-- what reading leaves as it was, below nx -/
def xFR (nx : Nat) (G G' : xG_) : Prop := ∀ a j, a < nx → ¬ (a = 72 ∧ (1 ≤ j ∧ j ≤ 6 ∨ j = 9 ∨ j = 12 ∨ j = 14)) → ¬ (73 ≤ a ∧ a ≤ 82) → G' a j = G a j
def bUp (G : xG_) (q : Nat) (b : Int) : xG_ := xup2 (xup2 (xup2 (xup2 (xup2 G 72 3 (q : Int)) 72 4 b) 72 1 0) 72 9 0) 72 14 0
section
variable {f n N w q F nx sl : Nat} {S : Nat → Nat × Nat × Nat} {G G' : xG_} {m : Nat × Nat} {B : Nat → Int} {t : tStr} {b : Int}
theorem bUp_n (a j : Nat) (h : ¬ (a = 72 ∧ (j = 1 ∨ j = 3 ∨ j = 4 ∨ j = 9 ∨ j = 14))) : bUp G q b a j = G a j := by
  unfold bUp
  rw [xup2_n (fun y => h ⟨y.1, by omega⟩), xup2_n (fun y => h ⟨y.1, by omega⟩), xup2_n (fun y => h ⟨y.1, by omega⟩), xup2_n (fun y => h ⟨y.1, by omega⟩), xup2_n (fun y => h ⟨y.1, by omega⟩)]
theorem bUp_s : bUp G q b 72 3 = (q : Int) ∧ bUp G q b 72 4 = b ∧ bUp G q b 72 1 = 0 ∧ bUp G q b 72 9 = 0 ∧ bUp G q b 72 14 = 0 := by
  unfold bUp
  refine ⟨?_, ?_, ?_, ?_, xup2_s _ _ _ _⟩
  · rw [xup2_n (by omega), xup2_n (by omega), xup2_n (by omega), xup2_n (by omega), xup2_s]
  · rw [xup2_n (by omega), xup2_n (by omega), xup2_n (by omega), xup2_s]
  · rw [xup2_n (by omega), xup2_n (by omega), xup2_s]
  · rw [xup2_n (by omega), xup2_s]
/-- begin() -/
theorem k_34 (hs : cSs S) (hb : b = 0 ∨ b = 1) : c34 f 72 q b (S, G, m) = some (S, bUp G q b, m) := by
  have e : ∀ G : xG_, cq_pb 4 4 20 72 b (S, G, m) = some (S, xup2 G 72 4 b, m) := fun G => if_pos ⟨s72 hs, hb⟩
  unfold c34 bUp
  simp (disch := omega) only [cq_gi, cq_gr, cq_a, cq_s, cq_p, cq_pr, cq_is, cq_ar, cq_ab, cq_ln, xq_nz, Option.bind_some, xup2_n, xup2_s, Int.toNat_natCast, Int.reduceToNat, if_pos, if_neg, true_and, and_true, and_self, eq_self, if_true, reduceIte, not_true_eq_false, not_false_eq_true, or_true, true_or, s72 hs, e]
theorem bUp_e (hE : cEv S G B n t N w) : cEv S (bUp G q b) B n t N w := hE.ge (fun _ _ => rfl) (fun a j z1 z2 z3 => bUp_n a j (by omega))
/-- a program before its first TOKEN -/
theorem cPS_0 (hE : cEv S G B n t N N) (hq : 278 < q) (hnx : q + 10 < nx) (h1 : cPgS S q) (h2 : cPgP G q) (h3 : G q 1 = 0) (h4 : G q 8 = 0) (h5 : G q 12 = 0) (h6 : ∀ a j, q < a → a ≤ q + 10 → G a j = 0) : cPS S (bUp G q 1) B n t N N q nx ([], [], [], [], [], 0) := by
  obtain ⟨b1, b2, b3, b4, b5⟩ := bUp_s (G := G) (q := q) (b := 1)
  have z : ∀ a j, a ≠ 72 → bUp G q 1 a j = G a j := fun a j h => bUp_n a j (fun y => h y.1)
  have zz : ∀ a j, q < a → a ≤ q + 10 → bUp G q 1 a j = 0 := fun a j y1 y2 => by rw [z a j (by omega)]; exact h6 a j y1 y2
  refine ⟨bUp_e hE, ⟨?_, .inr rfl⟩, Nat.zero_le _, ⟨b1, by omega, fun _ => hq, b2, h1, h2.ge (fun j _ _ _ => z q j (by omega)), by rw [z q 1 (by omega), h3]; rfl, by decide, fun k hk => absurd hk (Nat.not_lt_zero k)⟩, ⟨⟨b5, fun k hk => absurd hk (Nat.not_lt_zero k)⟩, fun p _ => zz _ _ (by omega) (by omega), fun k hk => absurd hk (Nat.not_lt_zero k), Nat.le_refl _⟩, ⟨fun p _ => ⟨zz _ _ (by omega) (by omega), zz _ _ (by omega) (by omega), zz _ _ (by omega) (by omega)⟩, ⟨by rw [z q 8 (by omega), h4]; rfl, by decide, fun r hr => absurd hr (Nat.not_lt_zero r)⟩, fun a j y1 y2 => zz a j (by omega) y2, by rw [z q 12 (by omega)]; exact h5⟩, fun p _ => zz _ _ (by omega) (by omega), hnx⟩
  rw [b3]
  show (0 : Int) = ((min 0 N : Nat) : Int)
  rw [Nat.zero_min]
  rfl
theorem xFp.fr (h : xFp q nx (bUp G q 1) G') (hq : 278 < q) (hn : q ≤ nx) : xFR q G G' := fun a j z1 z2 z3 => by
  by_cases c : a < nx
  · rw [h a j c (by omega) (by omega) (by omega), bUp_n a j (by omega)]
  · omega
theorem k_30 {K : Nat} (hf : 3010 < f) (hok : tOk t) (hvi : vIn t B n) (hF : 4 * N + 2 ≤ F) (hK : N < K) (hE : cEv S G B n t N N) (hq : 278 < q) (hnx : nx = q + 11) (h1 : cPgS S q) (h2 : cPgP G q) (h3 : G q 1 = 0) (h4 : G q 8 = 0) (h5 : G q 12 = 0) (h6 : ∀ a j, q < a → a ≤ q + 10 → G a j = 0) :
    pok (pProg t F K ([], [], [], [], [], 0)) (fun x => ∃ S' G' m', c30 f 72 q (S, G, (nx, sl)) = some (.inl 0, cWr S' G' m' (x : Int)) ∧ (∀ a, a < nx → S' a = S a) ∧ xFR q G G' ∧ nx ≤ m'.1 ∧ m'.1 ≤ nx + 312 ∧ m'.2 ≤ sl + 10128)
      (fun s => ∃ S' G' nx' sl', c30 f 72 q (S, G, (nx, sl)) = some (.inr (), (S', G', (nx', sl'))) ∧ (∀ a, a < nx → S' a = S a) ∧ xFR q G G' ∧ cPS S' G' B n t N N q nx' s ∧ nx ≤ nx' ∧ nx' ≤ nx + 312 ∧ sl' ≤ sl + 10128 ∧ G' q 0 = G q 0) := by
  have hs := hE.1
  have hN := hE.2.2.2.1.2
  have p0 := cPS_0 hE hq (by omega : q + 10 < nx) h1 h2 h3 h4 h5 h6
  have p := k_30l (f := f) (N := N) (w := N) hf hok hvi hF K 0 f ([], [], [], [], [], 0) S (bUp G q 1) nx sl (Nat.le_refl _) (by show N < K + 0; omega) (by omega) wPg_0 (by omega) p0
  have e1 : c30 f 72 q (S, G, (nx, sl)) = c30_8 f f 72 ((0 : Nat) : Int) (S, bUp G q 1, (nx, sl)) := by
    unfold c30
    rw [show cq_is 4 20 72 (S, G, (nx, sl)) = some () from if_pos (s72 hs), Option.bind_some, k_34 hs (.inr rfl), Option.bind_some]
    rfl
  rw [e1]
  cases hz : pProg t F K ([], [], [], [], [], 0) with
  | inl x =>
    rw [hz] at p
    obtain ⟨S1, G1, m1, a1, a2, a3, a4, a5, a6⟩ := p
    replace a4 : m1.1 + 13 * 0 ≤ nx + 312 := a4
    replace a5 : m1.2 + 172 * 0 + 2 * 0 ≤ sl + 4128 + 6000 := a5
    exact ⟨S1, G1, m1, a1, a2, a3.fr hq (by omega), a6, by omega, by omega⟩
  | inr s =>
    rw [hz] at p
    obtain ⟨S1, G1, nx1, sl1, a1, a2, a3, a4, a5, a6, a7⟩ := p
    have r24 := a4.2.2.2.2.2.1.2.1.2.1
    have tN := a4.2.2.1
    replace a5 : nx1 + 13 * 0 = nx + 13 * s.2.2.2.2.1.length := a5
    replace a6 : sl1 + 172 * 0 + 2 * 0 ≤ sl + 172 * s.2.2.2.2.1.length + 2 * s.2.2.2.2.2 := a6
    exact ⟨S1, G1, nx1, sl1, a1, a2, a3.fr hq (by omega), a4, by omega, by omega, by omega, by rw [a3 q 0 (by omega) (by omega) (by omega) (by omega), bUp_n _ _ (by omega)]⟩
end
