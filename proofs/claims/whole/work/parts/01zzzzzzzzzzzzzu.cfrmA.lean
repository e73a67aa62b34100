/-! THE CLASS: a FORMULA of the class, readCell() -/
theorem okCd_of {N : List pNd} (hw : wFm N) : ∀ (F : Nat) (r : Int) (b k : Nat) (C : pCd), isC N F r b k C → okCd C := by
  intro F
  induction F with
  | zero => intro r b k C h; exact h.elim
  | succ F ih =>
    intro r b k C h
    obtain ⟨⟨h1, h2⟩, _, h3⟩ := h
    have hy := hw r.toNat (by omega)
    generalize N.getD r.toNat dNd = y at h3 hy
    unfold wNd at hy
    have one : ∀ z : Int × Int, (0 ≤ z.1 ∧ z.1 < 1100) ∧ (z.1 % 256 = 2 → 0 ≤ z.2 ∧ z.2 < 72) ∧ (z.1 % 256 = 3 ∨ z.1 % 256 = 4 → 0 ≤ z.2 ∧ z.2 < 5184) → okCd [z] := fun z hz c hc => by rw [List.mem_singleton] at hc; rw [hc]; exact hz
    have app : ∀ A D : pCd, okCd A → okCd D → okCd (A ++ D) := fun A D hA hD c hc => by
      rcases List.mem_append.mp hc with q | q
      · exact hA c q
      · exact hD c q
    rcases h3 with ⟨q, q2⟩ | ⟨q, q2⟩ | ⟨q, A, D, a1, a2, a3⟩ | ⟨q, q2⟩ | ⟨q, q2⟩ | ⟨q, A, D, E, a1, a2, a3, a4⟩
    · rw [q2]; exact one _ ⟨by show (0 : Int) ≤ 1 ∧ (1 : Int) < 1100; decide, (fun z => absurd z (by show ¬ (1 : Int) % 256 = 2; decide)), (fun z => absurd z (by show ¬ ((1 : Int) % 256 = 3 ∨ (1 : Int) % 256 = 4); decide))⟩
    · rw [q2]; refine one _ ⟨by show (0 : Int) ≤ 2 ∧ (2 : Int) < 1100; decide, fun _ => ?_, (fun z => absurd z (by show ¬ ((2 : Int) % 256 = 3 ∨ (2 : Int) % 256 = 4); decide))⟩
      show 0 ≤ y.2.1 ∧ y.2.1 < 72
      omega
    · rw [a3]
      refine app _ _ (app _ _ (ih _ _ _ _ a1) (ih _ _ _ _ a2)) (one _ ⟨?_, ?_, ?_⟩)
      · show 0 ≤ y.2.2.2.1 ∧ y.2.2.2.1 < 1100; omega
      · intro z; have z' : y.2.2.2.1 % 256 = 2 := z; omega
      · intro z; have z' : y.2.2.2.1 % 256 = 3 ∨ y.2.2.2.1 % 256 = 4 := z; omega
    · rw [q2]
      refine one _ ⟨?_, ?_, ?_⟩
      · show 0 ≤ y.1 - 1 ∧ y.1 - 1 < 1100; omega
      · intro z; have z' : (y.1 - 1) % 256 = 2 := z; omega
      · intro _; show 0 ≤ y.2.1 + 72 * y.2.2.1 ∧ y.2.1 + 72 * y.2.2.1 < 5184; omega
    · rw [q2]
      refine one _ ⟨?_, ?_, ?_⟩
      · show 0 ≤ y.1 + 4 + 256 * y.2.1 ∧ y.1 + 4 + 256 * y.2.1 < 1100; omega
      · intro z; have z' : (y.1 + 4 + 256 * y.2.1) % 256 = 2 := z; omega
      · intro z; have z' : (y.1 + 4 + 256 * y.2.1) % 256 = 3 ∨ (y.1 + 4 + 256 * y.2.1) % 256 = 4 := z; omega
    · rw [a4]
      refine app _ _ (app _ _ (app _ _ (app _ _ (ih _ _ _ _ a1) (one _ ⟨by show (0 : Int) ≤ 14 ∧ (14 : Int) < 1100; decide, (fun z => absurd z (by show ¬ (14 : Int) % 256 = 2; decide)), (fun z => absurd z (by show ¬ ((14 : Int) % 256 = 3 ∨ (14 : Int) % 256 = 4); decide))⟩)) (ih _ _ _ _ a2)) (one _ ⟨by show (0 : Int) ≤ 15 ∧ (15 : Int) < 1100; decide, (fun z => absurd z (by show ¬ (15 : Int) % 256 = 2; decide)), (fun z => absurd z (by show ¬ ((15 : Int) % 256 = 3 ∨ (15 : Int) % 256 = 4); decide))⟩)) (ih _ _ _ _ a3)
theorem cRm_f : ∀ C : pCd, cRm (C.filter lfC) = cRm C ∧ cNm (C.filter lfC) = cNm C
  | [] => ⟨rfl, rfl⟩
  | c :: C => by
    have ih := cRm_f C
    by_cases h : lfC c = true
    · rw [List.filter_cons_of_pos h]
      exact ⟨by show cR1 c ||| _ = cR1 c ||| _; rw [ih.1], by show (_ || _) = (_ || _); rw [ih.2]⟩
    · rw [List.filter_cons_of_neg h, ih.1, ih.2]
      unfold lfC at h
      rw [decide_eq_true_iff] at h
      have e : cR1 c = 0 := by unfold cR1; rw [if_neg (by omega), if_neg (by omega)]
      refine ⟨by show _ = cR1 c ||| _; rw [e, Nat.zero_or], ?_⟩
      show _ = (decide _ || _)
      rw [decide_eq_false (by omega)]
      rfl
theorem cRm_n : ∀ N : List pNd, (∀ y ∈ N, ∃ M k, wNd M k y) → cRm (N.filterMap lf) = nRd N ∧ cNm (N.filterMap lf) = nNm N
  | [], _ => ⟨rfl, rfl⟩
  | y :: N, h => by
    have ih := cRm_n N (fun z hz => h z (List.mem_cons_of_mem _ hz))
    obtain ⟨M, k, hy⟩ := h y (List.mem_cons_self ..)
    unfold wNd at hy
    have fin : ∀ c : Int × Int, lf y = some c → cR1 c = nR1 y → (10 ≤ c.1 % 256 ∧ c.1 % 256 ≤ 13 ↔ 6 ≤ y.1 ∧ y.1 ≤ 9) → cRm ((y :: N).filterMap lf) = nRd (y :: N) ∧ cNm ((y :: N).filterMap lf) = nNm (y :: N) := fun c h1 h2 h3 => by
      rw [List.filterMap_cons_some h1]
      refine ⟨by show cR1 c ||| _ = nR1 y ||| _; rw [h2, ih.1], ?_⟩
      show (decide _ || _) = (decide _ || _)
      rw [ih.2, decide_eq_decide.mpr h3]
    by_cases c1 : y.1 = 1
    · refine fin (1, y.2.2.2.2) (if_pos c1) ?_ (by show 10 ≤ (1 : Int) % 256 ∧ _ ↔ _; omega)
      unfold nR1
      rw [if_neg (by omega), if_neg (by omega)]
      rfl
    · by_cases c2 : y.1 = 2
      · refine fin (2, y.2.1) (by unfold lf; rw [if_neg c1, if_pos c2]) ?_ (by show 10 ≤ (2 : Int) % 256 ∧ _ ↔ _; omega)
        unfold nR1
        rw [if_pos c2]
        rfl
      · by_cases c4 : y.1 = 4 ∨ y.1 = 5
        · refine fin (y.1 - 1, y.2.1 + 72 * y.2.2.1) (by unfold lf; rw [if_neg c1, if_neg c2, if_pos c4]) ?_ (by show 10 ≤ (y.1 - 1) % 256 ∧ (y.1 - 1) % 256 ≤ 13 ↔ _; omega)
          unfold nR1 cR1
          rw [if_neg c2, if_pos c4]
          rw [if_neg (show ¬ (y.1 - 1) % 256 = 2 by omega), if_pos (show (y.1 - 1) % 256 = 3 ∨ (y.1 - 1) % 256 = 4 by omega)]
          have e1 : (y.2.1 + 72 * y.2.2.1) % 72 = y.2.1 := by omega
          have e2 : (y.2.1 + 72 * y.2.2.1) / 72 = y.2.2.1 := by omega
          show nBx ((y.2.1 + 72 * y.2.2.1) % 72) ((y.2.1 + 72 * y.2.2.1) / 72) 72 = _
          rw [e1, e2]
        · by_cases c6 : 6 ≤ y.1 ∧ y.1 ≤ 9
          · refine fin (y.1 + 4 + 256 * y.2.1, y.2.2.2.2) (by unfold lf; rw [if_neg c1, if_neg c2, if_neg c4, if_pos c6]) ?_ (by show 10 ≤ (y.1 + 4 + 256 * y.2.1) % 256 ∧ (y.1 + 4 + 256 * y.2.1) % 256 ≤ 13 ↔ _; omega)
            unfold nR1 cR1
            rw [if_neg c2, if_neg c4, if_neg (show ¬ (y.1 + 4 + 256 * y.2.1) % 256 = 2 by omega), if_neg (show ¬ ((y.1 + 4 + 256 * y.2.1) % 256 = 3 ∨ (y.1 + 4 + 256 * y.2.1) % 256 = 4) by omega)]
          · have e : lf y = none := by unfold lf; rw [if_neg c1, if_neg c2, if_neg c4, if_neg c6]
            rw [List.filterMap_cons_none e, ih.1, ih.2]
            refine ⟨?_, ?_⟩
            · show _ = nR1 y ||| _
              have : nR1 y = 0 := by unfold nR1; rw [if_neg c2, if_neg c4]
              rw [this, Nat.zero_or]
            · show _ = (decide _ || _)
              rw [decide_eq_false c6]
              rfl
theorem wFm.all {N : List pNd} (h : wFm N) : ∀ y ∈ N, ∃ M k, wNd M k y := fun y hy => by
  obtain ⟨k, hk, e⟩ := List.getElem_of_mem hy
  have := h k hk
  rw [getD_e hk, e] at this
  exact ⟨_, _, this⟩
/-- a FORMULA of the class -/
def cFm (S : Nat → Nat × Nat × Nat) (G : xG_) (o : Nat) (e : List pNd × Int) : Prop := ∃ (C : pCd) (F : Nat), (S o = (1, 0, 5) ∧ S (o + 1) = (2, 3, C.length) ∧ S (o + 2) = (2, 4, C.length)) ∧ (G o 0 = ((o + 1 : Nat) : Int) ∧ G o 1 = ((o + 2 : Nat) : Int)) ∧ (∀ k, k < C.length → G (o + 1) k = (C.getD k (0, 0)).1 ∧ G (o + 2) k = (C.getD k (0, 0)).2) ∧ rM9 (G o 2) (G o 3) (nRd e.1) ∧ (G o 4 = if nNm e.1 = true then 1 else 0) ∧ isC e.1 F e.2 0 11 C ∧ e.1.filterMap lf = C.filter lfC ∧ wFm e.1 ∧ C.length ≤ 62 ∧ okCd C
theorem cFm.ge {S S' : Nat → Nat × Nat × Nat} {G G' : xG_} {o : Nat} {e : List pNd × Int} (h : cFm S G o e) (hS : ∀ a, o ≤ a → a ≤ o + 2 → S' a = S a) (hG : ∀ a j, o ≤ a → a ≤ o + 2 → G' a j = G a j) : cFm S' G' o e := by
  obtain ⟨C, F, ⟨h1, h2, h3⟩, ⟨h4, h5⟩, h6, h7, h8, h9⟩ := h
  refine ⟨C, F, ⟨?_, ?_, ?_⟩, ⟨?_, ?_⟩, fun k hk => ?_, ?_, ?_, h9⟩
  · rw [hS _ (by omega) (by omega)]; exact h1
  · rw [hS _ (by omega) (by omega)]; exact h2
  · rw [hS _ (by omega) (by omega)]; exact h3
  · rw [hG _ _ (by omega) (by omega)]; exact h4
  · rw [hG _ _ (by omega) (by omega)]; exact h5
  · rw [hG _ _ (by omega) (by omega), hG _ _ (by omega) (by omega)]; exact h6 k hk
  · rw [hG _ _ (by omega) (by omega), hG _ _ (by omega) (by omega)]; exact h7
  · rw [hG _ _ (by omega) (by omega)]; exact h8
section
variable {f n N w A sl : Nat} {S : Nat → Nat × Nat × Nat} {G : xG_} {B : Nat → Int} {t : tStr}
/-- the FORMULA is made -/
theorem k_33f {C : pCd} {F : Nat} {e : List pNd × Int} {x : Int} (hf : 100 < f) (hs : cSs S) (hp : cPs G) (hA : 278 < A) (hC : cCo G C) (hl : C.length ≤ 62) (h1 : isC e.1 F e.2 0 11 C) (h2 : e.1.filterMap lf = C.filter lfC) (h3 : wFm e.1) : ∃ S' G', c33_99 f 72 x (S, G, (A, sl)) = some (.inr x, (S', G', (A + 3, sl + 5 + C.length + C.length))) ∧ (∀ a, a < A → S' a = S a) ∧ (∀ a j, a < A → ¬ (a = 72 ∧ j = 6) → G' a j = G a j) ∧ G' 72 6 = (A : Int) ∧ cFm S' G' A e := by
  have e0 : cq_nw 0 5 (S, G, (A, sl)) = some (A, (xup1 S A (1, 0, 5), xz1 G A (fun _ => 0), (A + 1, sl + 5))) := rfl
  have z72 : ∀ a, a < A → xup1 S A (1, 0, 5) a = S a := fun a ha => xup1_n (by omega)
  have hs0 : cSs (xup1 S A (1, 0, 5)) := fun k hk => by rw [z72 _ (by omega)]; exact hs k hk
  have g0 : ∀ a j, a < A → xz1 G A (fun _ => 0) a j = G a j := fun a j ha => xz1_n _ (by omega)
  obtain ⟨S1, G1, a1, a2, a3, a4, a5⟩ := cpy (S := xup1 S A (1, 0, 5)) (G := xz1 G A (fun _ => 0)) (sl := sl + 5) (kk := 3) (n := C.length) (x := 73) (a := A + 1) (L := 3001) (.inl rfl) (s73 hs0) (by omega) (by omega) (by omega)
  have hs1 : cSs S1 := fun k hk => by rw [a2 _ (by omega)]; exact hs0 k hk
  have e1 : c383 f 73 (C.length : Int) (xup1 S A (1, 0, 5), xz1 G A (fun _ => 0), (A + 1, sl + 5)) = some (A + 1, (S1, G1, (A + 2, sl + 5 + C.length))) := by
    rw [st_383 (s73 hs0) (by omega)]
    exact a1
  obtain ⟨S2, G2, b1, b2, b3, b4, b5⟩ := cpy (S := S1) (G := G1) (sl := sl + 5 + C.length) (kk := 4) (n := C.length) (x := 74) (a := A + 2) (L := 3001) (.inr rfl) (s74 hs1) (by omega) (by omega) (by omega)
  have e2 : c384 f 74 (C.length : Int) (S1, G1, (A + 2, sl + 5 + C.length)) = some (A + 2, (S2, G2, (A + 3, sl + 5 + C.length + C.length))) := by
    rw [st_384 (s74 hs1) (by omega)]
    exact b1
  have hs2 : cSs S2 := fun k hk => by rw [b2 _ (by omega)]; exact hs1 k hk
  have sA : S2 A = (1, 0, 5) := by rw [b2 _ (by omega), a2 _ (by omega), xup1_s]
  have sA1 : S2 (A + 1) = (2, 3, C.length) := by rw [b2 _ (by omega)]; exact a3
  have gz : ∀ a j, a < A → G2 a j = G a j := fun a j ha => by rw [b4 _ _ (by omega), a4 _ _ (by omega), g0 _ _ ha]
  have gA : ∀ j, G2 A j = 0 := fun j => by rw [b4 _ _ (by omega), a4 _ _ (by omega), xz1_s]
  have okC := okCd_of h3 F e.2 0 11 C h1
  let G3 := xup2 (xup2 G2 A 0 ((A + 1 : Nat) : Int)) A 1 ((A + 2 : Nat) : Int)
  have g3 : ∀ a j, ¬ (a = A ∧ j ≤ 1) → G3 a j = G2 a j := fun a j q => by
    show xup2 _ _ _ _ _ _ = _
    rw [xup2_n (by omega), xup2_n (by omega)]
  obtain ⟨G4, c1, c2, c3, c4⟩ := k_0l (f := f) (m := (A + 3, sl + 5 + C.length + C.length)) (S := S2) (o := A) (L := C.length) hf sA sA1 b3 (by omega) C [] f 0 G3 (by simp) (by omega) okC (fun k hk => by
    rw [g3 _ _ (by omega), g3 _ _ (by omega)]
    have hk' := hC.2 k hk
    show G2 (A + 1) (0 + k) = _ ∧ G2 (A + 2) (0 + k) = _
    rw [Nat.zero_add, b4 _ _ (by omega), a5 k hk, b5 k hk, a4 _ _ (by omega), g0 _ _ (by omega), g0 _ _ (by omega)]
    exact hk') (by rw [g3 _ _ (by omega), g3 _ _ (by omega), gA, gA]; exact .z) (.inl (by rw [g3 _ _ (by omega), gA]))
  rw [Nat.zero_or] at c3
  have c1' : c0_16 f f A (A + 1) (A + 2) 0 (S2, G3, (A + 3, sl + 5 + C.length + C.length)) = some (S2, G4, (A + 3, sl + 5 + C.length + C.length)) := c1
  have ec0 : c0 f A (A + 1) (A + 2) (S2, G2, (A + 3, sl + 5 + C.length + C.length)) = some (S2, G4, (A + 3, sl + 5 + C.length + C.length)) := by
    rw [← c1']
    have hnz : xq_nz A = some () := if_neg (by omega)
    unfold c0
    rw [hnz, Option.bind_some]
    simp (disch := omega) only [cq_gi, cq_gr, cq_a, cq_s, cq_p, cq_pr, cq_is, cq_ar, cq_ab, cq_ln, xq_nz, Option.bind_some, xup2_n, xup2_s, Int.toNat_natCast, Int.reduceToNat, if_pos, if_neg, true_and, and_true, and_self, eq_self, if_true, reduceIte, not_true_eq_false, not_false_eq_true, or_true, true_or, sA]
    rfl
  have hp1 : cPs (xz1 G A (fun _ => 0)) := hp.ge (fun a j hz => g0 a j (by
    rcases hz with z | z | z | z | z | z | z | ⟨z, z1, z2, k, z3⟩ | z | z | z | ⟨k, z1, z2, z3⟩ <;> omega))
  have p7 : xz1 G A (fun _ => 0) 72 7 = 73 := by rw [g0 _ _ (by omega)]; exact p72_7 hp
  have p9 : xz1 G A (fun _ => 0) 72 9 = (C.length : Int) := by rw [g0 _ _ (by omega)]; exact hC.1
  have p8 : G1 72 8 = 74 := by rw [a4 _ _ (by omega), g0 _ _ (by omega)]; exact p72_8 hp
  have p9' : G1 72 9 = (C.length : Int) := by rw [a4 _ _ (by omega)]; exact p9
  refine ⟨S2, xup2 G4 72 6 (A : Int), ?_, fun a ha => ?_, fun a j ha hz => ?_, xup2_s _ _ _ _, C, F, ⟨sA, sA1, b3⟩, ⟨?_, ?_⟩, fun k hk => ?_, ?_, ?_, h1, h2, h3, hl, okC⟩
  · unfold c33_99 c33_132
    rw [e0, Option.bind_some]
    simp (disch := omega) only [cq_gi, cq_gr, cq_a, cq_s, cq_p, cq_pr, cq_is, cq_ar, cq_ab, cq_ln, xq_nz, Option.bind_some, xup2_n, xup2_s, Int.toNat_natCast, Int.reduceToNat, if_pos, if_neg, true_and, and_true, and_self, eq_self, if_true, reduceIte, not_true_eq_false, not_false_eq_true, or_true, true_or, s72 hs0, s72 hs1, s72 hs2, p7, p8, p9, p9', e1, e2, ec0]
  · rw [b2 _ (by omega), a2 _ (by omega), z72 _ ha]
  · rw [xup2_n (by omega), c2 _ _ (by omega), g3 _ _ (by omega), gz _ _ ha]
  · rw [xup2_n (by omega), c2 _ _ (by omega)]
    show xup2 _ _ _ _ _ _ = _
    rw [xup2_n (by omega), xup2_s]
  · rw [xup2_n (by omega), c2 _ _ (by omega)]
    exact xup2_s _ _ _ _
  · rw [xup2_n (by omega), xup2_n (by omega), c2 _ _ (by omega), c2 _ _ (by omega), g3 _ _ (by omega), g3 _ _ (by omega), b4 _ _ (by omega), a5 k hk, b5 k hk, a4 _ _ (by omega), g0 _ _ (by omega), g0 _ _ (by omega)]
    exact hC.2 k hk
  · rw [xup2_n (by omega), xup2_n (by omega), ← (cRm_n e.1 h3.all).1, h2, (cRm_f C).1]
    exact c3
  · rw [xup2_n (by omega), c4, g3 _ _ (by omega), gA, ← (cRm_n e.1 h3.all).2, h2, (cRm_f C).2]
end
