/-! THE CLASS: program() whole -/
section
variable {f A sl q hr n nx nx' N w : Nat} {S S' : Nat → Nat × Nat × Nat} {G G' : xG_} {m : Nat × Nat} {s : pPg} {tx : List Int} {sn : Int} {B : Nat → Int} {t : tStr}
theorem cWr_ex (S : Nat → Nat × Nat × Nat) (G : xG_) (m : Nat × Nat) (x : Int) : ∃ S' G', cWr S G m x = (S', G', (m.1 + 1, m.2 + 6)) ∧ (∀ a, a < m.1 → S' a = S a) ∧ ∀ a j, a < m.1 → G' a j = xup2 G 72 2 x a j := by
  refine ⟨xup1 S m.1 (0, 0, 0), xz1 (xup2 G 72 2 x) m.1 (fun _ => 0), rfl, fun a ha => xup1_n (Nat.ne_of_lt ha), fun a j ha => xz1_n _ (Nat.ne_of_lt ha)⟩
theorem cPS.ft (h : cPS S G B n t N w q nx s) (hq : 278 < q) : cFt S (xup2 G 65 1 0) q nx s := by
  obtain ⟨hE, hA, hi, hr, ⟨hM, hW, hmp, h3'⟩, hP, hH, hqu⟩ := h
  have z : ∀ a j, ¬ (a = 65 ∧ j = 1) → xup2 G 65 1 0 a j = G a j := fun a j y => xup2_n y
  exact ⟨hE.1, hE.2.1.tape (fun a j y1 y2 => z a j (by omega)), hr.ge (z _ _ (by omega)) (z _ _ (by omega)) (fun j _ _ _ => z _ _ (by omega)) (fun j => z _ _ (by omega)), hM.ge (z _ _ (by omega)) (fun a j _ _ => z _ _ (by omega)), hW.ge (fun j => z _ _ (by omega)), hP.ge (fun _ _ => rfl) (fun a j y => z _ _ (by omega)), hH.ge (fun j => z _ _ (by omega)), hq, hqu⟩
theorem k_1000 (hs : cSs S) (hp : cPs G) (hx : cTx G (tBt tx) tx.length) (hA : 554 < A) (h6 : G 64 6 = (hr : Int)) (hr4 : hr < 4) (h7 : G 64 7 = sn) (hsn : 0 ≤ sn ∧ sn ≤ 100000) (hf : 3100 < f) :
    ∃ v S' G' m', c1000 f 64 (S, G, (A, sl)) = some (v, (S', G', m')) ∧ (∀ a, a < A → S' a = S a) ∧ A ≤ m'.1 ∧ m'.1 ≤ A + 325 ∧ m'.2 ≤ sl + 10342 ∧ cPs G' ∧ G' 65 1 = 0 ∧ G' 64 7 = sn + 1 ∧
      ((qPrg tx v (G' 64 9) ∧ xFt8 A G G') ∨ (∃ s, qPr tx = .inr s ∧ (∀ k a, ¬ pFa s 0 k a) ∧ v = (s.2.2.2.2.1.length : Int) ∧ G' 64 9 = -1 ∧ xFQ A hr G G' ∧ G' (243 + 9 * hr) 7 = (A : Int) ∧ G' (243 + 9 * hr) 8 = 0 ∧ cPgm S' G' A m'.1 s ∧ G' A 0 = sn + 1)) := by
  have hB := hx.2.2.1
  have hn := hx.2.1
  have ew : xwr (sn + 1) = sn + 1 := xwr_g _ (by omega) (by omega)
  obtain ⟨S1, G1, N, e1, e2, e3, e4, e5, e6, e7, e8, e9, e10, e11, e12, e13, e14, e15⟩ := k_1000p (sl := sl) hs hp hx hA h7 ew hf
  have hs1 : cSs S1 := e8.1
  have key := k_30 (f := f) (nx := A + 11) (sl := sl + 182) (F := 4 * (tx.length + 1) + 4) (K := tx.length + 2) (by omega) (tOk_of false hB) (vIn_t hB) (by omega) (by omega) e8 (by omega) rfl e9 e10 e12 e13 e14 e15
  unfold pok at key
  cases hX : qPr tx with
  | inl x =>
    unfold qPr at hX
    rw [hX] at key
    obtain ⟨S2, G2, m2, g1, g2, g3, g4, g5, g6⟩ := key
    obtain ⟨S3, G3, q1, q2, q3⟩ := cWr_ex S2 G2 m2 (x : Int)
    rw [g1, Option.bind_some, q1] at e1
    have fr : ∀ a j, a < A → ¬ (a = 72 ∧ (1 ≤ j ∧ j ≤ 6 ∨ j = 9 ∨ j = 12 ∨ j = 14)) → ¬ (73 ≤ a ∧ a ≤ 82) → G3 a j = G1 a j := fun a j y1 y2 y3 => by
      rw [q3 a j (by omega), xup2_n (by omega), g3 a j y1 y2 y3]
    have hs2 : cSs S3 := fun k hk => by rw [q2 _ (by omega), g2 _ (by omega)]; exact hs1 k hk
    have hp2 : cPs G3 := e6.read (fun a j y1 y2 y3 => fr a j (by omega) y1 y2)
    have st := st_1000_w (f := f) (q := A) (m := (m2.1 + 1, m2.2 + 6)) (x := (x : Int)) hs2 hp2 (by rw [q3 _ _ (by omega), xup2_s])
    have e1' : c1000 f 64 (S, G, (A, sl)) = c1000_50 f 64 A 0 (S3, G3, (m2.1 + 1, m2.2 + 6)) := e1
    refine ⟨_, _, _, _, e1'.trans st, fun a ha => by rw [q2 _ (by omega), g2 _ (by omega), e2 a ha], ?_, ?_, ?_, hp2.tape (fun a j y1 y2 => xup2_n (by omega)), xup2_s _ _ _ _, ?_, .inl ⟨?_, ?_⟩⟩
    · show A ≤ m2.1 + 1; omega
    · show m2.1 + 1 ≤ A + 325; omega
    · show m2.2 + 6 ≤ sl + 10342; omega
    · rw [xup2_n (by omega), fr _ _ (by omega) (by omega) (by omega)]; exact e4
    · unfold qPrg qPr
      rw [hX]
      refine ⟨rfl, ?_⟩
      rw [xup2_n (by omega), fr _ _ (by omega) (by omega) (by omega)]
      exact e5
    · intro a j y1 y2 y3
      rw [xup2_n (by omega), fr _ _ (by omega) (by omega) (by omega), e3 a j y1 y2 y3]
  | inr s =>
    have hX' := hX
    unfold qPr at hX
    rw [hX] at key
    obtain ⟨S2, G2, nx2, sl2, g1, g2, g3, g4, g5, g6, g7, g8⟩ := key
    rw [g1, Option.bind_some] at e1
    obtain ⟨w1, w2, w3, w4, b, w5⟩ := pr_facts hB hn hX'
    have hs2 : cSs S2 := g4.1.1
    have hp2 : cPs G2 := g4.1.2.1
    have e1' : c1000 f 64 (S, G, (A, sl)) = c1000_50 f 64 A 1 (S2, G2, (nx2, sl2)) := e1
    have hFt := g4.ft (by omega : 278 < A)
    obtain ⟨k, S3, G3, d, i1, i2, i3, i4, i5, i6⟩ := k_62 (f := f) (A := nx2) (sl := sl2) (by omega) hFt (Nat.le_refl _) w1 w2 w3 w4 w5
    have st := e1'.trans (st_1000_3 (q := A) hs2 hp2 i1)
    have hs3 : cSs S3 := fun k hk => by rw [i4 _ (by omega)]; exact hs2 k hk
    have fr : ∀ a j, a < A → ¬ (a = 72 ∧ (1 ≤ j ∧ j ≤ 6 ∨ j = 9 ∨ j = 12 ∨ j = 14)) → ¬ (73 ≤ a ∧ a ≤ 82) → ¬ (a = 65 ∧ j = 1) → G3 a j = G1 a j := fun a j y1 y2 y3 y4 => by
      rw [i5 a j (by omega) (by omega) (by omega) (by omega), xup2_n y4, g3 a j y1 y2 y3]
    have hp3 : cPs G3 := hFt.2.1.read (fun a j y1 y2 y3 => i5 a j (by omega) (by omega) (by omega) (by omega))
    have z65 : G3 65 1 = 0 := by rw [i5 _ _ (by omega) (by omega) (by omega) (by omega), xup2_s]
    by_cases c : k = 0
    · have i6' : (∀ k a, ¬ pFa s 0 k a) ∧ cRg G3 A s.1.length s.2.2.2.2.1 := by
        rcases i6 with ⟨_, i7, i8⟩ | ⟨i7, _⟩
        · exact ⟨i7, i8⟩
        · exact absurd c i7
      obtain ⟨i7, i8⟩ := i6'
      subst c
      have hsA : S3 A = (1, 3, 14) := by rw [i4 _ (by omega)]; exact g4.2.2.2.1.2.2.2.2.1.1
      have st2 := st.trans (st_1000_g (n := (s.2.2.2.2.1.length : Int)) hs3 hp3 (by omega) hsA (s_ln hs3 hr4) (by omega) (by rw [fr _ _ (by omega) (by omega) (by omega) (by omega), e3 _ _ (by omega) (by omega) (by omega)]; exact h6) hr4 (p_ln hp3 hr4) (by omega) (by rw [i5 _ _ (by omega) (by omega) (by omega) (by omega)]; exact hFt.2.2.2.2.2.1.2.1.1))
      have zz : ∀ a j, ¬ (a = 243 + 9 * hr ∧ (j = 7 ∨ j = 8)) → xup2 (xup2 G3 (243 + 9 * hr) 7 (A : Int)) (243 + 9 * hr) 8 0 a j = G3 a j := fun a j y => by rw [xup2_n (by omega), xup2_n (by omega)]
      refine ⟨_, _, _, _, st2, fun a ha => by rw [i4 _ (by omega), g2 _ (by omega), e2 a ha], by show A ≤ nx2 + d; omega, by show nx2 + d ≤ A + 325; omega, by show sl2 + 16 * d ≤ sl + 10342; omega, ?_, ?_, ?_, .inr ⟨s, rfl, i7, rfl, ?_, ?_, ?_, xup2_s _ _ _ _, ?_, ?_⟩⟩
      · refine hp3.ge (fun a j hz => zz a j (fun y => ?_))
        rcases hz with z | z | z | z | z | z | z | ⟨z, z1, z2, k, z3⟩ | z | z | z | ⟨k, z1, z2, z3⟩ <;> omega
      · rw [zz _ _ (by omega)]; exact z65
      · rw [zz _ _ (by omega), fr _ _ (by omega) (by omega) (by omega) (by omega)]; exact e4
      · rw [zz _ _ (by omega), fr _ _ (by omega) (by omega) (by omega) (by omega)]; exact e5
      · intro a j y1 y2 y3 y4
        rw [zz _ _ y4, fr a j y1 (by omega) (by omega) (by omega), e3 a j y1 y2 y3]
      · rw [xup2_n (by omega), xup2_s]
      · have q3 : ∀ a j, A ≤ a → a < nx2 → ¬ (A + 8 ≤ a ∧ a ≤ A + 10) → ¬ (a = A ∧ j = 12) → xup2 (xup2 G3 (243 + 9 * hr) 7 (A : Int)) (243 + 9 * hr) 8 0 a j = xup2 G2 65 1 0 a j := fun a j y1 y2 y3 y4 => by rw [zz _ _ (by omega), i5 a j y2 (by omega) y3 y4]
        obtain ⟨a1, a2, a3, a4, a5, a6, a7, a8, a9⟩ := hFt
        exact ⟨a3.2.2.2.2.1.ge (fun a _ _ => i4 a (by omega)), a3.2.2.2.2.2.1.ge (fun j _ _ _ => q3 _ _ (by omega) (by omega) (by omega) (by omega)), a3.2.2.2.2.2.2.ge (q3 _ _ (by omega) (by omega) (by omega) (by omega)) (fun j => q3 _ _ (by omega) (by omega) (by omega) (by omega)), a5.ge (fun j => q3 _ _ (by omega) (by omega) (by omega) (by omega)), fun p hp => by rw [q3 _ _ (by omega) (by omega) (by omega) (by omega), q3 _ _ (by omega) (by omega) (by omega) (by omega), q3 _ _ (by omega) (by omega) (by omega) (by omega)]; exact a6.1 p hp, a6.2.1.ge (by show nx2 ≤ nx2 + d; omega) (q3 _ _ (by omega) (by omega) (by omega) (by omega)) (fun j _ => q3 _ _ (by omega) (by omega) (by omega) (by omega)) (fun a _ => i4 a (by omega)) (fun a j _ _ => q3 _ _ (by omega) (by omega) (by omega) (by omega)), a7.ge (fun j => q3 _ _ (by omega) (by omega) (by omega) (by omega)), i8.ge (fun a j _ _ => zz _ _ (by omega)) (zz _ _ (by omega)), by show A + 10 < nx2 + d; omega⟩
      · rw [zz _ _ (by omega), i5 _ _ (by omega) (by omega) (by omega) (by omega), xup2_n (by omega)]
        rw [g8]; exact e11
    · rcases i6 with ⟨i7, _⟩ | ⟨_, i8⟩
      · exact absurd i7 c
      have st2 := st.trans (st_1000_f hs3 hp3 c rfl)
      have zz : ∀ a j, ¬ (a = 64 ∧ j = 9) → xup2 G3 64 9 (G3 72 2) a j = G3 a j := fun a j y => xup2_n y
      refine ⟨_, _, _, _, st2, fun a ha => by rw [i4 _ (by omega), g2 _ (by omega), e2 a ha], by show A ≤ nx2 + d; omega, by show nx2 + d ≤ A + 325; omega, by show sl2 + 16 * d ≤ sl + 10342; omega, ?_, ?_, ?_, .inl ⟨?_, ?_⟩⟩
      · refine hp3.ge (fun a j hz => zz a j (fun y => ?_))
        rcases hz with z | z | z | z | z | z | z | ⟨z, z1, z2, k, z3⟩ | z | z | z | ⟨k, z1, z2, z3⟩ <;> omega
      · rw [zz _ _ (by omega)]; exact z65
      · rw [zz _ _ (by omega), fr _ _ (by omega) (by omega) (by omega) (by omega)]; exact e4
      · unfold qPrg
        rw [hX']
        refine ⟨k, ?_, ?_, rfl⟩
        · rw [xup2_s]; exact i8.1
        · rw [xup2_s]; exact i8.2
      · intro a j y1 y2 y3
        rw [zz _ _ (by omega), fr a j y1 (by omega) (by omega) (by omega), e3 a j y1 y2 y3]
end
