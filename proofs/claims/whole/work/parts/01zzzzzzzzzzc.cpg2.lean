/-! THE CLASS: program() -/
/-- a program of the class without FAULTS -/
def cPgm (S : Nat → Nat × Nat × Nat) (G : xG_) (q nx : Nat) (s : pPg) : Prop := cPgS S q ∧ cPgP G q ∧ cNs G q s.1 ∧ cWd G q s.2.2.2.1 ∧ cPg1 G q s.2.1 s.2.2.1 ∧ cRl S G q nx s.2.2.2.2.1 ∧ cHd G q s.2.2.2.2.1 ∧ cRg G q s.1.length s.2.2.2.2.1 ∧ q + 10 < nx
section
variable {f A sl q hr n nx nx' : Nat} {S S' : Nat → Nat × Nat × Nat} {G G' : xG_} {m : Nat × Nat} {s : pPg} {tx : List Int}
theorem cRg.ge {np : Nat} {R : List pRu} (h : cRg G q np R) (h1 : ∀ a j, q + 8 ≤ a → a ≤ q + 10 → G' a j = G a j) (h2 : G' q 12 = G q 12) : cRg G' q np R := by
  obtain ⟨w1, w2, O, w3, w4, w5⟩ := h
  exact ⟨fun p hp => by rw [h1 _ _ (by omega) (by omega)]; exact w1 p hp, fun p hp => by rw [h1 _ _ (by omega) (by omega)]; exact w2 p hp, O, w3, ⟨by rw [h2]; exact w4.1, fun k hk => by rw [h1 _ _ (by omega) (by omega)]; exact w4.2 k hk⟩, w5⟩
theorem cPgm.ge (h : cPgm S G q nx s) (hn : nx ≤ nx') (hS : ∀ a, a < nx → S' a = S a) (hG : ∀ a j, q ≤ a → a < nx → G' a j = G a j) : cPgm S' G' q nx' s := by
  obtain ⟨a1, a2, a3, a4, a5, a6, a7, a8, a9⟩ := h
  exact ⟨a1.ge (fun a _ _ => hS a (by omega)), a2.ge (fun j _ _ _ => hG _ _ (by omega) (by omega)), a3.ge (hG _ _ (by omega) (by omega)) (fun j => hG _ _ (by omega) (by omega)), a4.ge (fun j => hG _ _ (by omega) (by omega)), fun p hp => by rw [hG _ _ (by omega) (by omega), hG _ _ (by omega) (by omega), hG _ _ (by omega) (by omega)]; exact a5 p hp, a6.ge hn (hG _ _ (by omega) (by omega)) (fun j _ => hG _ _ (by omega) (by omega)) hS (fun a j _ _ => hG _ _ (by omega) (by omega)), a7.ge (fun j => hG _ _ (by omega) (by omega)), a8.ge (fun a j _ _ => hG _ _ (by omega) (by omega)) (hG _ _ (by omega) (by omega)), by omega⟩
theorem s_ln {k : Nat} (h : cSs S) (hk : k < 4) : S (243 + 9 * k) = (1, 1, 14) := by
  rcases (by omega : k = 0 ∨ k = 1 ∨ k = 2 ∨ k = 3) with rfl | rfl | rfl | rfl
  · exact h 179 (by decide)
  · exact h 188 (by decide)
  · exact h 197 (by decide)
  · exact h 206 (by decide)
theorem p_ln {k : Nat} (h : cPs G) (hk : k < 4) : G 220 k = ((243 + 9 * k : Nat) : Int) := by
  rcases (by omega : k = 0 ∨ k = 1 ∨ k = 2 ∨ k = 3) with rfl | rfl | rfl | rfl
  · exact p220_0 h
  · exact p220_1 h
  · exact p220_2 h
  · exact p220_3 h
/-- what the reading of a text changes below A -/
def xFt8 (A : Nat) (G G' : xG_) : Prop := ∀ a j, a < A → ¬ (a = 64 ∧ (j = 7 ∨ j = 9)) → ¬ (65 ≤ a ∧ a ≤ 82) → G' a j = G a j
def xFQ (A hr : Nat) (G G' : xG_) : Prop := ∀ a j, a < A → ¬ (a = 64 ∧ (j = 7 ∨ j = 9)) → ¬ (65 ≤ a ∧ a ≤ 82) → ¬ (a = 243 + 9 * hr ∧ (j = 7 ∨ j = 8)) → G' a j = G a j
theorem pr_facts (hB : tTx (tBt tx) tx.length) (hn : tx.length ≤ 3000) (h : qPr tx = .inr s) : wPg s ∧ wKn s ∧ s.2.2.2.1.length ≤ 376 ∧ (∀ i j, i < j → j < s.2.2.2.1.length → mP s.2.2.2.1 i < mP s.2.2.2.1 j) ∧ ∃ b, rSo s.2.2.2.2.1 b := by
  obtain ⟨h1, h2⟩ := pProg_420 hB hn h
  refine ⟨h1, pProg_kn h (fun m hm => absurd hm (by simp)), h2, fun i j hij hj => ?_, _, pProg_rsorted hB h⟩
  have := List.pairwise_iff_getElem.mp (pProg_sorted hB h) i j (by omega) hj hij
  unfold mP
  rw [getD_e (by omega : i < _), getD_e hj]
  exact this
theorem st_1000_2b {T : xT_} (hs : cSs S) (hp : cPs G) : c1000b f 64 (q, T) (S, G, m) = (c30 f 72 q (S, G, m)).bind (fun R => chd R 0 (c1000_50 f 64 q 0 R.2) (fun _ => c1000_50 f 64 q 1 R.2)) := by
  rw [c1000c_e]
  unfold c1000c
  simp (disch := omega) only [cq_gi, cq_gr, cq_a, cq_s, cq_p, cq_pr, cq_is, cq_ar, cq_ab, cq_ln, xq_nz, Option.bind_some, xup2_n, xup2_s, Int.toNat_natCast, Int.reduceToNat, if_pos, if_neg, true_and, and_true, and_self, eq_self, if_true, reduceIte, not_true_eq_false, not_false_eq_true, or_true, true_or, s64 hs, s72 hs, p64_1 hp]
theorem k_1000p {sn : Int} (hs : cSs S) (hp : cPs G) (hx : cTx G (tBt tx) tx.length) (hA : 554 < A) (h7 : G 64 7 = sn) (ew : xwr (sn + 1) = sn + 1) (hf : 3100 < f) :
    ∃ S1 G1 N, c1000 f 64 (S, G, (A, sl)) = (c30 f 72 A (S1, G1, (A + 11, sl + 182))).bind (fun R => chd R 0 (c1000_50 f 64 A 0 R.2) (fun _ => c1000_50 f 64 A 1 R.2)) ∧ (∀ a, a < A → S1 a = S a) ∧ xFt8 A G G1 ∧ G1 64 7 = sn + 1 ∧ G1 64 9 = -1 ∧ cPs G1 ∧ N ≤ tx.length ∧ cEv S1 G1 (tBt tx) tx.length (tstr (tBt tx) tx.length false) N N ∧ cPgS S1 A ∧ cPgP G1 A ∧ G1 A 0 = sn + 1 ∧ G1 A 1 = 0 ∧ G1 A 8 = 0 ∧ G1 A 12 = 0 ∧ ∀ a j, A < a → a ≤ A + 10 → G1 a j = 0 := by
  have z0 : ∀ a j, ¬ (a = 64 ∧ (j = 7 ∨ j = 9)) → xup2 (xup2 G 64 9 (-1)) 64 7 (sn + 1) a j = G a j := fun a j z => by rw [xup2_n (by omega), xup2_n (by omega)]
  obtain ⟨S1, G1, a1, a2, a3, a4, a5, a6, a7, a8, a9, a10⟩ := k_19 (f := f) (q := A) (sl := sl + 14) (S := S) (G := xup2 (xup2 G 64 9 (-1)) 64 7 (sn + 1)) (v := sn + 1) (by omega)
  have hs1 : cSs S1 := fun k hk => by rw [a2 _ (by omega)]; exact hs k hk
  have hp1 : cPs G1 := hp.ge (fun a j hz => by
    have hb : a < A ∧ ¬ (a = 64 ∧ (j = 7 ∨ j = 9)) := by
      rcases hz with z | z | z | z | z | z | z | ⟨z, z1, z2, k, z3⟩ | z | z | z | ⟨k, z1, z2, z3⟩ <;> omega
    rw [a3 _ _ hb.1, z0 _ _ hb.2])
  have hx1 : cTx G1 (tBt tx) tx.length := hx.ge (by rw [a3 _ _ (by omega), z0 _ _ (by omega)]) (fun p => by rw [a3 _ _ (by omega), z0 _ _ (by omega)])
  obtain ⟨G2, N, b1, b2, b3⟩ := k_112 (m := (A + 11, sl + 14 + 168)) hs1 hp1 hx1 hf
  have hp2 : cPs G2 := hp1.tape (fun a j y1 y2 => b3 a j (by omega) (by omega))
  have hx2 : cTx G2 (tBt tx) tx.length := hx1.ge (b3 _ _ (by omega) (by omega)) (fun p => b3 _ _ (by omega) (by omega))
  have t1 := (st_1000_0 (sl := sl) hs (by omega) h7 ew a1).trans ((st_1000_1 hs1 hp1 b1).trans (st_1000_2b hs1 hp2))
  refine ⟨S1, G2, N, t1, a2, fun a j y1 y2 y3 => by rw [b3 a j (by omega) (by omega), a3 a j y1, z0 a j y2], ?_, ?_, hp2, b2.1, cEv_of hs1 hp2 hx2 b2, a4, a5.ge (fun j _ _ _ => b3 _ _ (by omega) (by omega)), ?_, ?_, ?_, ?_, ?_⟩
  · rw [b3 _ _ (by omega) (by omega), a3 _ _ (by omega), xup2_s]
  · rw [b3 _ _ (by omega) (by omega), a3 _ _ (by omega), xup2_n (by omega), xup2_s]
  · rw [b3 _ _ (by omega) (by omega)]; exact a6
  · rw [b3 _ _ (by omega) (by omega)]; exact a7
  · rw [b3 _ _ (by omega) (by omega)]; exact a8
  · rw [b3 _ _ (by omega) (by omega)]; exact a9
  · intro a j y1 y2
    rw [b3 _ _ (by omega) (by omega)]
    exact a10 a j y1 y2
end
