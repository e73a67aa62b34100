/-! round: the rows are taken -/
section
variable {f o h q c m : Nat} {s : pPg} {M : Nat → List pRw} {T : List (List Int)} {K : Nat → Nat} {W : Nat → Int} {C : fCs} {L : List pLg} {Cg : List pCg} {Eg : List pEg} {A B : List pFc} {fr : Int} {rd b : Nat}
theorem l_298_222 {G : xG_} (hf : 1000100 < f) (hh : h < 4) (ho : o = 123 + 29 * h) (hok : qOk s) (hE : rEn G q c s M) (hM : qTb s M) (hA : rFa G 247 A) (hB : rFa G 243 B) (hFo : rFa G (o + 1) B) (hsA : A.Pairwise fLt) (hsB : B.Pairwise fLt) (hlA : A.length ≤ 1600) (hlB : B.length ≤ 1600) (hH : rHi G o L Cg Eg) (hlL : L.length ≤ 8000) (hlC : Cg.length ≤ 100)
    (h2 : G o 2 = (rd : Int)) (hrd : rd < 100000) (h3 : G o 3 = (b : Int)) (hb : b ≤ rd) (hm : (∀ a ∈ L, a.1 ≤ (rd : Int)) ∧ (∀ a ∈ Cg, a.1 ≤ (rd : Int)) ∧ ∀ a ∈ Eg, a.1 ≤ (rd : Int) + 1) (hC : rC G) (hT : rTxs G T m) (hK : rKt G o T K) (hN : rNt G o T W) (hr : rCs G o C) (hCk : okC C) (hwk : ∀ y, y < 16 → 0 ≤ G (o + 18) y ∧ G (o + 18) y < 1000000) (hcw : ∀ c, c < 72 → 0 ≤ G (o + 16) c ∧ G (o + 16) c < 1000000) (h64 : 0 ≤ G 0 64 ∧ G 0 64 < 1000000) :
    ∃ G' E' y, g298_222 f o fr G = some (((lgR ((rd + 1 : Nat) : Int) A B).length : Int), G') ∧ G' o 2 = ((rd + 1 : Nat) : Int) ∧ tmIs (L ++ lgR ((rd + 1 : Nat) : Int) A B) (Cg ++ cgN ((rd + 1 : Nat) : Int) K W 72) Eg (b : Int) y ∧ y ≤ ((rd + 1 : Nat) : Int) ∧ rHi G' o (lgK y (L ++ lgR ((rd + 1 : Nat) : Int) A B)) (lgK y (Cg ++ cgN ((rd + 1 : Nat) : Int) K W 72)) (lgK y Eg) ∧ G' o 3 = y ∧ rFa G' (o + 1) A ∧ (∀ c, c < 72 → G' (o + 15) c = (kNx K W 72 c : Int)) ∧ rCs G' o (fSh (xOf T (kNx K W 72)) s M) ∧
      (∀ y, y < 16 → ((y < s.1.length ∧ qWc s (fr ≠ 0) (fun p => ∃ x, x ∈ lgR ((rd + 1 : Nat) : Int) A B ∧ ofP s x.2.2 p) y) → G' (o + 18) y = G (o + 18) y + 1) ∧ (¬ (y < s.1.length ∧ qWc s (fr ≠ 0) (fun p => ∃ x, x ∈ lgR ((rd + 1 : Nat) : Int) A B ∧ ofP s x.2.2 p) y) → G' (o + 18) y = G (o + 18) y)) ∧
      rWk G G' o (qCw (xOf T (kNx K W 72)) s (fr ≠ 0) W C (fSh (xOf T (kNx K W 72)) s M) (fun p => ∃ x, x ∈ lgR ((rd + 1 : Nat) : Int) A B ∧ ofP s x.2.2 p)) 72 ∧ rEd G' o E' ∧ qEd s A B E' ∧ rCh G' o s (lgR ((rd + 1 : Nat) : Int) A B) ∧ G' o 33 = 0 ∧ G' o 34 = -1 ∧ (∀ c, c < 72 → G' (o + 26) c = -1) ∧ (G' o 1 = G o 1 ∧ G' o 4 = G o 4 ∧ G' o 35 = G o 35 ∧ G' o 36 = G o 36) ∧ G' 0 64 = G 0 64 + 1 ∧ (∀ j, j = 63 ∨ j = 65 ∨ j = 74 → G' 0 j = G 0 j) ∧ xfRd o G G' := by
  have hob : 122 < o ∧ o < 211 := by omega
  have e2 : xwr ((rd : Int) + 1) = ((rd + 1 : Nat) : Int) := by rw [xwr_g _ (by omega) (by omega)]; omega
  obtain ⟨hP, hPn, hPk, hTb⟩ := hE
  obtain ⟨hL, hCg, hEg, hsL, hsC, hsE⟩ := hH
  have hn2 : ∀ p, p < s.1.length → 0 ≤ pNn s.2.2.2.1 (p : Int) := fun p _ => (pNn_in hok.1 (p : Int)).1
  -- rounds, forgetRound
  obtain ⟨G2, a1, a2, a3, a4⟩ := l_203 (f := f) (o := o) (G := xup2 G o 2 ((rd + 1 : Nat) : Int)) (by omega)
  have z2 : ∀ a j, ¬ (a = o ∧ (j = 2 ∨ j = 27)) → ¬ (a = o + 19 ∧ j < 16) → G2 a j = G a j := fun a j q1 q2 => by rw [a4 a j (by omega) q2, xup2_n (by omega)]
  have y2 : G2 o 2 = ((rd + 1 : Nat) : Int) := by rw [a4 _ _ (by omega) (by omega), xup2_s]
  have g2 : ∀ a j, a ≠ o → a ≠ o + 19 → G2 a j = G a j := fun a j q1 q2 => z2 a j (by omega) (by omega)
  -- logChanges
  have eL2 : eLg G2 o s ((rd + 1 : Nat) : Int) A B := ⟨hP.1.ge' (g2 _ _ (by omega) (by omega)) (fun j => g2 _ _ (by omega) (by omega)), fun y hy => by rw [g2 _ _ (by omega) (by omega)]; exact hPn y hy, hB.ge (g2 _ _ (by omega) (by omega)) (fun a j _ _ => g2 _ _ (by omega) (by omega)), hA.ge (g2 _ _ (by omega) (by omega)) (fun a j _ _ => g2 _ _ (by omega) (by omega)), y2⟩
  have hL2 : rLg G2 o L := hL.ge (z2 _ _ (by omega) (by omega)) (fun a j _ _ => z2 _ _ (by omega) (by omega))
  obtain ⟨G3, b1, b2, b3, b4⟩ := l_304 (f := f) (by omega) hok.1 hh ho hsA hsB eL2 hL2 (by omega) a3
  have g3 : ∀ a j, a < o ∨ o + 28 < a → G3 a j = G a j := fun a j q => by rw [b2 a j (by omega) (by omega) (by omega), g2 a j (by omega) (by omega)]
  have z3 : ∀ a j, ¬ (a = o ∧ (j = 2 ∨ j = 27 ∨ j = 10)) → ¬ (o + 5 ≤ a ∧ a ≤ o + 9) → a ≠ o + 19 → G3 a j = G a j := fun a j q1 q2 q3 => by rw [b2 a j (by omega) q2 q3, z2 a j (by omega) (by omega)]
  -- countWorked
  have hP3 : rPr G3 2 q c s := hP.ge (fun j => g3 _ _ (by omega)) (fun a j _ _ _ _ _ => g3 _ _ (by omega))
  have hPk3 : rPk G3 2 s := ⟨fun p hp => by rw [g3 _ _ (by omega)]; exact hPk.1 p hp, fun p hp => by rw [g3 _ _ (by omega)]; exact hPk.2 p hp⟩
  obtain ⟨G4, c1, c2, c3⟩ := l_305 (f := f) (fr := fr) (R := M) (by omega) hh ho hok hP3 hPk3 b4 (fun y hy => by rw [z3 _ _ (by omega) (by omega) (by omega)]; exact hwk y hy)
  have g4 : ∀ a j, a < o ∨ o + 28 < a → G4 a j = G a j := fun a j q => by rw [c2 a j (by omega), g3 a j q]
  -- facts
  have hA4 : rFa G4 247 A := hA.ge (g4 _ _ (by omega)) (fun a j _ _ => g4 _ _ (by omega))
  obtain ⟨G5, d1, d2, d3⟩ := l_194 (f := f) (b := o + 1) (b1 := 247) (by omega) (by unfold isFb; omega) (by unfold isFb; omega) (by omega) hA4
  have g5 : ∀ a j, a < o ∨ o + 28 < a → G5 a j = G a j := fun a j q => by rw [d3 a j (by omega) (by omega) (by omega) (by omega), g4 a j q]
  have z5 : ∀ a j, ¬ (a = o ∧ (j = 2 ∨ j = 27 ∨ j = 10)) → ¬ (o + 1 ≤ a ∧ a ≤ o + 9) → a ≠ o + 18 → a ≠ o + 19 → G5 a j = G a j := fun a j q1 q2 q3 q4 => by rw [d3 a j (by omega) (by omega) (by omega) (by omega), c2 a j q3, z3 a j q1 (by omega) q4]
  -- tellEdits
  have k27 : G5 o 27 = 0 := by rw [d3 _ _ (by omega) (by omega) (by omega) (by omega), c2 _ _ (by omega), b2 _ _ (by omega) (by omega) (by omega)]; exact a2
  obtain ⟨G6, E', e1, e3, e4, e5⟩ := l_306 (f := f) (q := q) (c := c) (by omega) hok hh ho (hP.ge (fun j => g5 _ _ (by omega)) (fun a j _ _ _ _ _ => g5 _ _ (by omega))) (fun y hy => by rw [g5 _ _ (by omega)]; exact hPn y hy) (hA.ge (g5 _ _ (by omega)) (fun a j _ _ => g5 _ _ (by omega))) (hB.ge (g5 _ _ (by omega)) (fun a j _ _ => g5 _ _ (by omega))) hsA hsB (by omega) k27
  have g6 : ∀ a j, a < o ∨ o + 28 < a → G6 a j = G a j := fun a j q => by rw [e3 a j (by omega) (by omega), g5 a j q]
  have z6 : ∀ a j, ¬ (a = o ∧ (j = 2 ∨ j = 27 ∨ j = 10)) → ¬ (o + 1 ≤ a ∧ a ≤ o + 9) → a ≠ o + 18 → a ≠ o + 19 → ¬ (o + 21 ≤ a ∧ a ≤ o + 23) → G6 a j = G a j := fun a j q1 q2 q3 q4 q5 => by rw [e3 a j (by omega) q5, z5 a j q1 q2 q3 q4]
  -- workCells
  have hC6 : rC G6 := by
    obtain ⟨k1, k2, k3, k4, k5, k6, k7, k8, k9⟩ := hC
    exact ⟨by rw [g6 _ _ (by omega)]; exact k1, by rw [g6 _ _ (by omega)]; exact k2, by rw [g6 _ _ (by omega)]; exact k3, by rw [g6 _ _ (by omega)]; exact k4, by rw [g6 _ _ (by omega)]; exact k5, by rw [g6 _ _ (by omega)]; exact k6, by rw [g6 _ _ (by omega)]; exact k7, by rw [g6 _ _ (by omega)]; exact k8, by rw [g6 _ _ (by omega)]; exact k9⟩
  have eS6 : eSh G6 o T m K s M := ⟨hC6, hT.ge (g6 _ _ (by omega)) (g6 _ _ (by omega)) (fun a j _ => g6 _ _ (by omega)), fun x hx => by rw [z6 _ _ (by omega) (by omega) (by omega) (by omega) (by omega)]; exact hK x hx, hP.1.ge' (g6 _ _ (by omega)) (fun j => g6 _ _ (by omega)), fun y hy => by rw [g6 _ _ (by omega)]; exact hPn y hy, hTb.ge (fun a j _ _ => g6 _ _ (by omega))⟩
  have y62 : G6 o 2 = ((rd + 1 : Nat) : Int) := by rw [e3 _ _ (by omega) (by omega), d3 _ _ (by omega) (by omega) (by omega) (by omega), c2 _ _ (by omega), b2 _ _ (by omega) (by omega) (by omega)]; exact y2
  obtain ⟨G7, f1, f2, f3, f4, f5, f6⟩ := l_354 (f := f) (fr := fr) (W := W) (C := C) (L := Cg) (rd := ((rd + 1 : Nat) : Int)) (H := fun p => ∃ x, x ∈ lgR ((rd + 1 : Nat) : Int) A B ∧ ofP s x.2.2 p) (by omega) hh ho (fun p hp r hr' => (((hM p hp).2.2 r hr').2)) hn2 eS6 hCk (fun x hx => by rw [z6 _ _ (by omega) (by omega) (by omega) (by omega) (by omega), z6 _ _ (by omega) (by omega) (by omega) (by omega) (by omega)]; exact hr x hx) (fun x hx => by rw [z6 _ _ (by omega) (by omega) (by omega) (by omega) (by omega)]; exact hN x hx) hlC (hCg.ge (z6 _ _ (by omega) (by omega) (by omega) (by omega) (by omega)) (fun a j _ _ => z6 _ _ (by omega) (by omega) (by omega) (by omega) (by omega))) y62 (fun p hp => by
    rw [e3 _ _ (by omega) (by omega), d3 _ _ (by omega) (by omega) (by omega) (by omega), c2 _ _ (by omega)]
    exact (b4 p hp).1) (fun x hx => by rw [z6 _ _ (by omega) (by omega) (by omega) (by omega) (by omega)]; exact hcw x hx)
  -- forget
  obtain ⟨G8, k1, k2, k3, k4, k5⟩ := l_202 (f := f) (o := o) (G := G7) (by omega)
  have z8 : ∀ a j, ¬ (a = o ∧ (j = 33 ∨ j = 34)) → ¬ (a = o + 26 ∧ j < 72) → ¬ (a = 0 ∧ (j ≤ 11 ∨ j = 21 ∨ j = 25 ∨ j = 42 ∨ 89 ≤ j ∧ j ≤ 91)) → ¬ (258 ≤ a ∧ a ≤ 270) → a ≠ 251 → a ≠ 252 → ¬ (a = o ∧ j = 16) → ¬ (o + 10 ≤ a ∧ a ≤ o + 12) → ¬ (o + 15 ≤ a ∧ a ≤ o + 17) → a ≠ o + 20 → G8 a j = G6 a j := fun a j q1 q2 q3 q4 q5 q6 q7 q8 q9 q10 => by rw [k5 a j q1 q2, f6 a j q3 q4 q5 q6 q7 q8 q9 q10]
  have w8 : ∀ a j, a ≠ o → a ≠ o + 26 → G8 a j = G7 a j := fun a j q1 q2 => k5 a j (by omega) (by omega)
  -- trim
  have hH8 : rHi G8 o (L ++ lgR ((rd + 1 : Nat) : Int) A B) (Cg ++ cgN ((rd + 1 : Nat) : Int) K W 72) Eg := by
    refine ⟨b3.ge ?_ (fun a j _ _ => ?_), f4.ge ?_ (fun a j _ _ => w8 _ _ (by omega) (by omega)), hEg.ge ?_ (fun a j _ _ => ?_), ?_, ?_, hsE⟩
    · rw [z8 _ _ (by omega) (by omega) (by omega) (by omega) (by omega) (by omega) (by omega) (by omega) (by omega) (by omega), e3 _ _ (by omega) (by omega), d3 _ _ (by omega) (by omega) (by omega) (by omega), c2 _ _ (by omega)]
    · rw [z8 _ _ (by omega) (by omega) (by omega) (by omega) (by omega) (by omega) (by omega) (by omega) (by omega) (by omega), e3 _ _ (by omega) (by omega), d3 _ _ (by omega) (by omega) (by omega) (by omega), c2 _ _ (by omega)]
    · exact k5 _ _ (by omega) (by omega)
    · rw [z8 _ _ (by omega) (by omega) (by omega) (by omega) (by omega) (by omega) (by omega) (by omega) (by omega) (by omega), z6 _ _ (by omega) (by omega) (by omega) (by omega) (by omega)]
    · rw [z8 _ _ (by omega) (by omega) (by omega) (by omega) (by omega) (by omega) (by omega) (by omega) (by omega) (by omega), z6 _ _ (by omega) (by omega) (by omega) (by omega) (by omega)]
    · refine List.pairwise_append.mpr ⟨hsL, pw_all _ (fun x hx y hy => ?_), fun x hx y hy => ?_⟩
      · have r1 : ∀ z ∈ lgR ((rd + 1 : Nat) : Int) A B, z.1 = ((rd + 1 : Nat) : Int) := fun z hz => by
          unfold lgR at hz
          rcases List.mem_append.mp hz with w | w
          · exact (lgD_mem.mp w).1
          · exact (lgD_mem.mp w).1
        rw [r1 x hx, r1 y hy]; omega
      · have r1 : y.1 = ((rd + 1 : Nat) : Int) := by
          unfold lgR at hy
          rcases List.mem_append.mp hy with w | w
          · exact (lgD_mem.mp w).1
          · exact (lgD_mem.mp w).1
        have := hm.1 x hx
        omega
    · refine List.pairwise_append.mpr ⟨hsC, pw_all _ (fun x hx y hy => ?_), fun x hx y hy => ?_⟩
      · rw [(cgN_r 72 hx).1, (cgN_r 72 hy).1]; omega
      · have := hm.2.1 x hx
        rw [(cgN_r 72 hy).1]
        omega
  have y83 : G8 o 3 = (b : Int) := by rw [z8 _ _ (by omega) (by omega) (by omega) (by omega) (by omega) (by omega) (by omega) (by omega) (by omega) (by omega), z6 _ _ (by omega) (by omega) (by omega) (by omega) (by omega)]; exact h3
  obtain ⟨G9, y, t1, t2, t3, t4, t5, t6⟩ := l_308 (f := f) (rd := ((rd + 1 : Nat) : Int)) (x := (b : Int)) (G := G8) hf hh ho (by omega) ⟨fun a ha => by
      rcases List.mem_append.mp ha with w | w
      · have := hm.1 a w; omega
      · unfold lgR at w
        rcases List.mem_append.mp w with w | w
        · rw [(lgD_mem.mp w).1]; omega
        · rw [(lgD_mem.mp w).1]; omega, fun a ha => by
      rcases List.mem_append.mp ha with w | w
      · have := hm.2.1 a w; omega
      · rw [(cgN_r 72 w).1]; omega, fun a ha => by have := hm.2.2 a ha; omega⟩ (by omega) (by omega) y83 hH8
  have z9 : ∀ a j, ¬ (a = o ∧ (j = 3 ∨ j = 10 ∨ j = 16 ∨ j = 17)) → ¬ (o + 5 ≤ a ∧ a ≤ o + 14) → G9 a j = G8 a j := fun a j q1 q2 => t6 a j q1 q2
  have v64 : G9 0 64 = G 0 64 := by rw [z9 _ _ (by omega) (by omega), z8 _ _ (by omega) (by omega) (by omega) (by omega) (by omega) (by omega) (by omega) (by omega) (by omega) (by omega), g6 _ _ (by omega)]
  have e64 : xwr (G 0 64 + 1) = G 0 64 + 1 := xwr_g _ (by omega) (by omega)
  let G10 := xup2 G9 0 64 (G 0 64 + 1)
  have z10 : ∀ a j, ¬ (a = 0 ∧ j = 64) → G10 a j = G9 a j := fun a j q => xup2_n (by omega)
  -- fields of the line that stay
  have st : ∀ j, j = 1 ∨ j = 4 ∨ j = 35 ∨ j = 36 → G10 o j = G o j := fun j q => by
    rw [z10 _ _ (by omega), z9 _ _ (by omega) (by omega), z8 _ _ (by omega) (by omega) (by omega) (by omega) (by omega) (by omega) (by omega) (by omega) (by omega) (by omega), z6 _ _ (by omega) (by omega) (by omega) (by omega) (by omega)]
  refine ⟨G10, E', y, ?_, ?_, t2, t3, ?_, ?_, ?_, fun x hx => ?_, fun x hx => ?_, fun x hx => ?_, fun x hx => ?_, ?_, e5, fun p hp => ?_, ?_, ?_, fun x hx => ?_, ⟨st 1 (by omega), st 4 (by omega), st 35 (by omega), st 36 (by omega)⟩, xup2_s _ _ _ _, fun j q => ?_, fun a j q1 q2 q3 q4 q5 q6 => ?_⟩
  · unfold g298_222
    rw [h2, e2, Option.bind_some, a1, Option.bind_some, b1, Option.bind_some]
    show Option.bind (g305 f o fr G3) _ = _
    rw [c1, Option.bind_some, d1, Option.bind_some, e1, Option.bind_some, f1, Option.bind_some, k1, Option.bind_some, t1, Option.bind_some, v64, e64]
    rfl
  · rw [z10 _ _ (by omega), z9 _ _ (by omega) (by omega), z8 _ _ (by omega) (by omega) (by omega) (by omega) (by omega) (by omega) (by omega) (by omega) (by omega) (by omega)]
    exact y62
  · obtain ⟨t41, t42, t43, t44⟩ := t4
    exact ⟨t41.ge (z10 _ _ (by omega)) (fun a j _ _ => z10 _ _ (by omega)), t42.ge (z10 _ _ (by omega)) (fun a j _ _ => z10 _ _ (by omega)), t43.ge (z10 _ _ (by omega)) (fun a j _ _ => z10 _ _ (by omega)), t44⟩
  · rw [z10 _ _ (by omega)]; exact t5
  · have w : ∀ a j, o + 1 ≤ a → a ≤ o + 4 → G10 a j = G5 a j := fun a j _ _ => by
      rw [z10 _ _ (by omega), z9 _ _ (by omega) (by omega), z8 _ _ (by omega) (by omega) (by omega) (by omega) (by omega) (by omega) (by omega) (by omega) (by omega) (by omega), e3 _ _ (by omega) (by omega)]
    exact d2.ge (w _ _ (by omega) (by omega)) (fun a j _ _ => w _ _ (by omega) (by omega))
  · rw [z10 _ _ (by omega), z9 _ _ (by omega) (by omega), w8 _ _ (by omega) (by omega)]
    exact (f2.2.2.1 x hx).1
  · rw [z10 _ _ (by omega), z9 _ _ (by omega) (by omega), w8 _ _ (by omega) (by omega), z10 _ _ (by omega), z9 _ _ (by omega) (by omega), w8 _ _ (by omega) (by omega)]
    exact f3 x hx
  · have w : G10 (o + 18) x = G4 (o + 18) x := by
      rw [z10 _ _ (by omega), z9 _ _ (by omega) (by omega), z8 _ _ (by omega) (by omega) (by omega) (by omega) (by omega) (by omega) (by omega) (by omega) (by omega) (by omega), e3 _ _ (by omega) (by omega), d3 _ _ (by omega) (by omega) (by omega) (by omega)]
    have w3 : G3 (o + 18) x = G (o + 18) x := z3 _ _ (by omega) (by omega) (by omega)
    rw [w, ← w3]
    exact c3 x hx
  · have w : G10 (o + 16) x = G7 (o + 16) x := by
      rw [z10 _ _ (by omega), z9 _ _ (by omega) (by omega), w8 _ _ (by omega) (by omega)]
    have w6 : G6 (o + 16) x = G (o + 16) x := z6 _ _ (by omega) (by omega) (by omega) (by omega) (by omega)
    rw [w, ← w6]
    exact f5 x hx
  · refine e4.ge ?_ (fun a j _ _ => ?_)
    · rw [z10 _ _ (by omega), z9 _ _ (by omega) (by omega), z8 _ _ (by omega) (by omega) (by omega) (by omega) (by omega) (by omega) (by omega) (by omega) (by omega) (by omega)]
    · rw [z10 _ _ (by omega), z9 _ _ (by omega) (by omega), z8 _ _ (by omega) (by omega) (by omega) (by omega) (by omega) (by omega) (by omega) (by omega) (by omega) (by omega)]
  · rw [z10 _ _ (by omega), z9 _ _ (by omega) (by omega), z8 _ _ (by omega) (by omega) (by omega) (by omega) (by omega) (by omega) (by omega) (by omega) (by omega) (by omega), e3 _ _ (by omega) (by omega), d3 _ _ (by omega) (by omega) (by omega) (by omega), c2 _ _ (by omega)]
    exact b4 p hp
  · rw [z10 _ _ (by omega), z9 _ _ (by omega) (by omega)]; exact k2
  · rw [z10 _ _ (by omega), z9 _ _ (by omega) (by omega)]; exact k3
  · rw [z10 _ _ (by omega), z9 _ _ (by omega) (by omega)]; exact k4 x hx
  · rw [z10 _ _ (by omega), z9 _ _ (by omega) (by omega), z8 _ _ (by omega) (by omega) (by omega) (by omega) (by omega) (by omega) (by omega) (by omega) (by omega) (by omega), g6 _ _ (by omega)]
  · rw [z10 _ _ (by omega), z9 _ _ (by omega) (by omega), z8 _ _ (by omega) (by omega) (by omega) (by omega) (by omega) (by omega) (by omega) (by omega) (by omega) (by omega), g6 _ _ (by omega)]
end
