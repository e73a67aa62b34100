/-! The reference's log: what has come and gone -/
/-- round, 1 or -1, fact -/
abbrev pLg : Type := Int × Int × pFc
abbrev dLg : pLg := (0, 0, dFc)
def rLg (G : xG_) (o : Nat) (L : List pLg) : Prop := G o 10 = (L.length : Int) ∧ L.length ≤ 12000 ∧ ∀ i, i < L.length → G (o + 5) i = (L.getD i dLg).1 ∧ G (o + 6) i = (L.getD i dLg).2.1 ∧ G (o + 8) i = (L.getD i dLg).2.2.1 ∧ G (o + 7) i = ((L.getD i dLg).2.2.2.length : Int) ∧ (L.getD i dLg).2.2.2.length ≤ 4 ∧ ∀ j, j < 4 → G (o + 9) (4 * i + j) = (L.getD i dLg).2.2.2.getD j 0
theorem rLg.ge {G G' : xG_} {o : Nat} {L : List pLg} (h : rLg G o L) (h0 : G' o 10 = G o 10) (hf : ∀ a j, o + 5 ≤ a → a ≤ o + 9 → G' a j = G a j) : rLg G' o L := by
  obtain ⟨a1, a2, a3⟩ := h
  refine ⟨by rw [h0]; exact a1, a2, fun i hi => ?_⟩
  obtain ⟨b1, b2, b3, b4, b5, b6⟩ := a3 i hi
  exact ⟨by rw [hf _ _ (by omega) (by omega)]; exact b1, by rw [hf _ _ (by omega) (by omega)]; exact b2, by rw [hf _ _ (by omega) (by omega)]; exact b3, by rw [hf _ _ (by omega) (by omega)]; exact b4, b5, fun j hj => by rw [hf _ _ (by omega) (by omega)]; exact b6 j hj⟩
theorem rFa.ge {G G' : xG_} {b : Nat} {F : List pFc} (h : rFa G b F) (h0 : G' b 3 = G b 3) (hf : ∀ a j, b + 1 ≤ a → a ≤ b + 3 → G' a j = G a j) : rFa G' b F := by
  obtain ⟨a1, a2, a3⟩ := h
  refine ⟨by rw [h0]; exact a1, a2, fun i hi => ?_⟩
  obtain ⟨b1, b2, b3, b4⟩ := a3 i hi
  exact ⟨by rw [hf _ _ (by omega) (by omega)]; exact b1, by rw [hf _ _ (by omega) (by omega)]; exact b2, b3, fun j hj => by rw [hf _ _ (by omega) (by omega)]; exact b4 j hj⟩
/-- the fact y is of the predicate p -/
def ofP (s : pPg) (y : pFc) (p : Nat) : Prop := p < s.1.length ∧ qNm s p = y.1 ∧ qN s p = y.2.length
section
variable {f b o h i : Nat} {s : pPg} {F : List pFc} {L : List pLg}
theorem l_303 {G : xG_} {sg rd : Int} (hf : 40 < f) (hw : wPg s) (hh : h < 4) (ho : o = 123 + 29 * h) (hb : b = 243 ∨ b = 247) (hN : rNs G 2 s.1) (hPn : rPn G 2 s) (hF : rFa G b F) (hi : i < F.length) (hL : rLg G o L) (hl : L.length < 12000) (hrd : G o 2 = rd) :
    ∃ G', g303 f o sg b (i : Int) G = some G' ∧ rLg G' o (L ++ [(rd, sg, F.getD i dFc)]) ∧ (∀ p, p < 16 → G' (o + 19) p = G (o + 19) p ∨ G' (o + 19) p = 1) ∧ (∀ p, ofP s (F.getD i dFc) p → G' (o + 19) p = 1) ∧ (∀ p, p < 16 → ¬ ofP s (F.getD i dFc) p → G' (o + 19) p = G (o + 19) p) ∧ ∀ a j, ¬ (a = o ∧ j = 10) → ¬ (o + 5 ≤ a ∧ a ≤ o + 9) → a ≠ o + 19 → G' a j = G a j := by
  have hl4 := hF.2.1
  obtain ⟨q1, q2, q3, q4⟩ := hF.2.2 i hi
  obtain ⟨l1, l2, l3⟩ := hL
  have hii : 0 ≤ (i : Int) ∧ (i : Int) < 3400 := by omega
  have hLL : 0 ≤ (L.length : Int) ∧ (L.length : Int) < 12000 := by omega
  have hbo : b + 3 < o ∨ o + 28 < b := by omega
  let G1 := xup2 (xup2 (xup2 (xup2 G (o + 5) L.length rd) (o + 6) L.length sg) (o + 8) L.length (F.getD i dFc).1) (o + 7) L.length ((F.getD i dFc).2.length : Int)
  have z1 : ∀ a j, ¬ (o + 5 ≤ a ∧ a ≤ o + 8 ∧ j = L.length) → G1 a j = G a j := fun a j y => by
    show xup2 _ _ _ _ _ _ = _
    rw [xup2_n (by omega), xup2_n (by omega), xup2_n (by omega), xup2_n (by omega)]
  have e0 : g303 f o sg b (i : Int) G = g303_58 f f o b (i : Int) 0 G1 := by
    have t1 : xup2 G (o + 5) L.length rd o 10 = (L.length : Int) := by rw [xup2_n (by omega)]; exact l1
    have t2 : xup2 (xup2 G (o + 5) L.length rd) (o + 6) L.length sg o 10 = (L.length : Int) := by rw [xup2_n (by omega)]; exact t1
    have t3 : xup2 (xup2 G (o + 5) L.length rd) (o + 6) L.length sg (b + 1) i = (F.getD i dFc).1 := by rw [xup2_n (by omega), xup2_n (by omega)]; exact q1
    have t4 : xup2 (xup2 (xup2 G (o + 5) L.length rd) (o + 6) L.length sg) (o + 8) L.length (F.getD i dFc).1 o 10 = (L.length : Int) := by rw [xup2_n (by omega)]; exact t2
    have t5 : xup2 (xup2 (xup2 G (o + 5) L.length rd) (o + 6) L.length sg) (o + 8) L.length (F.getD i dFc).1 (b + 3) i = ((F.getD i dFc).2.length : Int) := by rw [xup2_n (by omega), xup2_n (by omega), xup2_n (by omega)]; exact q2
    unfold g303
    rw [l1, hrd, if_pos hLL, Int.toNat_natCast, Option.bind_some, t1, if_pos hLL, Int.toNat_natCast, Option.bind_some, if_pos hii, t2, if_pos hLL, Int.toNat_natCast, Int.toNat_natCast, t3, Option.bind_some, if_pos hii, t4, if_pos hLL, t5, Int.toNat_natCast, Option.bind_some]
  have loop : ∀ (d k fu : Nat) (Z : xG_), k + d = 4 → d < fu → (∀ a j, ¬ (a = o + 9 ∧ 4 * L.length ≤ j ∧ j < 4 * L.length + 4) → Z a j = G1 a j) → (∀ j, j < k → Z (o + 9) (4 * L.length + j) = (F.getD i dFc).2.getD j 0) → ∃ Z' fu', g303_58 f fu o b (i : Int) (k : Int) Z = g303_58 f (fu' + 1) o b (i : Int) 4 Z' ∧ (∀ a j, ¬ (a = o + 9 ∧ 4 * L.length ≤ j ∧ j < 4 * L.length + 4) → Z' a j = G1 a j) ∧ ∀ j, j < 4 → Z' (o + 9) (4 * L.length + j) = (F.getD i dFc).2.getD j 0 := by
    intro d
    induction d with
    | zero =>
      intro k fu Z h1 h2 h3 h4
      obtain ⟨fu, rfl⟩ : ∃ t, fu = t + 1 := ⟨fu - 1, by omega⟩
      have : k = 4 := by omega
      subst this
      exact ⟨Z, fu, rfl, h3, h4⟩
    | succ d ih =>
      intro k fu Z h1 h2 h3 h4
      obtain ⟨fu, rfl⟩ : ∃ t, fu = t + 1 := ⟨fu - 1, by omega⟩
      have e1 : xwr (xwr (4 * (i : Int)) + (k : Int)) = ((4 * i + k : Nat) : Int) := by
        rw [xwr_g (4 * (i : Int)) (by omega) (by omega), xwr_g _ (by omega) (by omega)]; omega
      have e2 : xwr (xwr (4 * (L.length : Int)) + (k : Int)) = ((4 * L.length + k : Nat) : Int) := by
        rw [xwr_g (4 * (L.length : Int)) (by omega) (by omega), xwr_g _ (by omega) (by omega)]; omega
      have e3 : xwr ((k : Int) + 1) = ((k + 1 : Nat) : Int) := by rw [xwr_g _ (by omega) (by omega)]; omega
      have z10 : Z o 10 = (L.length : Int) := by rw [h3 _ _ (by omega), z1 _ _ (by omega)]; exact l1
      have zv : Z (b + 2) (4 * i + k) = (F.getD i dFc).2.getD k 0 := by rw [h3 _ _ (by omega), z1 _ _ (by omega)]; exact q4 k (by omega)
      obtain ⟨Z', fu', k1, k2, k3⟩ := ih (k + 1) fu (xup2 Z (o + 9) (4 * L.length + k) ((F.getD i dFc).2.getD k 0)) (by omega) (by omega) (fun a j y => by rw [xup2_n (by omega)]; exact h3 a j y) (fun j hj => by
        by_cases cj : j = k
        · rw [cj, xup2_s]
        · rw [xup2_n (by omega)]; exact h4 j (by omega))
      refine ⟨Z', fu', ?_, k2, k3⟩
      rw [← k1]
      show g303_58b (g303_58 f fu) f _ _ _ _ _ = _
      unfold g303_58b
      rw [if_neg (by omega), e1, z10, e2, if_pos (by omega), if_pos (by omega), Int.toNat_natCast, Int.toNat_natCast, zv, Option.bind_some, e3]
  obtain ⟨Z, fu, k1, k2, k3⟩ := loop 4 0 f G1 (by omega) (by omega) (fun _ _ _ => rfl) (fun j hj => absurd hj (by omega))
  have k1' : g303_58 f f o b (i : Int) 0 G1 = _ := k1
  let G2 := xup2 Z o 10 ((L.length + 1 : Nat) : Int)
  have z2 : ∀ a j, ¬ (a = o ∧ j = 10) → G2 a j = Z a j := fun a j y => xup2_n y
  have zz : ∀ a j, ¬ (a = o ∧ j = 10) → ¬ (o + 5 ≤ a ∧ a ≤ o + 9) → G2 a j = G a j := fun a j y1 y2 => by rw [z2 a j y1, k2 a j (by omega), z1 a j (by omega)]
  have hN2 : rNs G2 2 s.1 := ⟨by rw [zz _ _ (by omega) (by omega)]; exact hN.1, hN.2.1, fun k hk => by rw [zz _ _ (by omega) (by omega)]; exact hN.2.2 k hk⟩
  have hLog : rLg G2 o (L ++ [(rd, sg, F.getD i dFc)]) := by
    refine ⟨by rw [List.length_append]; exact xup2_s _ _ _ _, by rw [List.length_append]; exact hl, fun k hk => ?_⟩
    rw [List.length_append] at hk
    have hk' : k < L.length + 1 := hk
    by_cases ck : k = L.length
    · have e : (L ++ [(rd, sg, F.getD i dFc)]).getD k dLg = (rd, sg, F.getD i dFc) := by rw [getD_1, if_pos ck]
      rw [e, ck]
      refine ⟨?_, ?_, ?_, ?_, q3, fun j hj => by rw [z2 _ _ (by omega)]; exact k3 j hj⟩
      · rw [z2 _ _ (by omega), k2 _ _ (by omega)]; show xup2 _ _ _ _ _ _ = _; rw [xup2_n (by omega), xup2_n (by omega), xup2_n (by omega), xup2_s]
      · rw [z2 _ _ (by omega), k2 _ _ (by omega)]; show xup2 _ _ _ _ _ _ = _; rw [xup2_n (by omega), xup2_n (by omega), xup2_s]
      · rw [z2 _ _ (by omega), k2 _ _ (by omega)]; show xup2 _ _ _ _ _ _ = _; rw [xup2_n (by omega), xup2_s]
      · rw [z2 _ _ (by omega), k2 _ _ (by omega)]; exact xup2_s _ _ _ _
    · have e : (L ++ [(rd, sg, F.getD i dFc)]).getD k dLg = L.getD k dLg := by rw [getD_1, if_neg ck]
      rw [e]
      obtain ⟨b1, b2, b3, b4, b5, b6⟩ := l3 k (by omega)
      refine ⟨by rw [z2 _ _ (by omega), k2 _ _ (by omega), z1 _ _ (by omega)]; exact b1, by rw [z2 _ _ (by omega), k2 _ _ (by omega), z1 _ _ (by omega)]; exact b2, by rw [z2 _ _ (by omega), k2 _ _ (by omega), z1 _ _ (by omega)]; exact b3, by rw [z2 _ _ (by omega), k2 _ _ (by omega), z1 _ _ (by omega)]; exact b4, b5, fun j hj => by rw [z2 _ _ (by omega), k2 _ _ (by omega), z1 _ _ (by omega)]; exact b6 j hj⟩
  have ef : g303_58 f (fu + 1) o b (i : Int) 4 Z = (if pIdx s.1 (F.getD i dFc).1 = -1 then some G2 else (if 0 ≤ pIdx s.1 (F.getD i dFc).1 ∧ pIdx s.1 (F.getD i dFc).1 < 16 then (if ¬ G2 4 (pIdx s.1 (F.getD i dFc).1).toNat = ((F.getD i dFc).2.length : Int) then some G2 else some (xup2 G2 (o + 19) (pIdx s.1 (F.getD i dFc).1).toNat 1)) else none)) := by
    have z10 : Z o 10 = (L.length : Int) := by rw [k2 _ _ (by omega), z1 _ _ (by omega)]; exact l1
    have e1 : xwr ((L.length : Int) + 1) = ((L.length + 1 : Nat) : Int) := by rw [xwr_g _ (by omega) (by omega)]; omega
    have g1 : G2 (b + 1) i = (F.getD i dFc).1 := by rw [zz _ _ (by omega) (by omega)]; exact q1
    have g3 : G2 (b + 3) i = ((F.getD i dFc).2.length : Int) := by rw [zz _ _ (by omega) (by omega)]; exact q2
    show g303_58b (g303_58 f fu) f _ _ _ _ _ = _
    unfold g303_58b g303_156
    rw [if_pos (by decide), z10, e1, Option.bind_some, if_pos hii, Int.toNat_natCast]
    show Option.bind (g205 f 2 (G2 (b + 1) i) G2) _ = _
    rw [g1, hN2.idx (by omega) (by omega), Option.bind_some]
    simp only [Nat.reduceAdd, if_pos hii, g3]
    by_cases cc : 0 ≤ pIdx s.1 (F.getD i dFc).1 ∧ pIdx s.1 (F.getD i dFc).1 < 16
    · simp only [if_pos cc, Option.bind_some]
    · simp only [if_neg cc]
  rw [e0, k1', ef]
  rcases pIdx_get (x := (F.getD i dFc).1) hw.2.1 with ⟨c1, c2⟩ | ⟨p, p1, p2, p3, p4⟩
  · rw [if_pos c1]
    have nof : ∀ p, ¬ ofP s (F.getD i dFc) p := fun p hp => c2 (by
      rw [← hp.2.1]
      unfold qNm
      rw [getD_e hp.1]
      exact List.getElem_mem _)
    exact ⟨G2, rfl, hLog, fun p hp => .inl (zz _ _ (by omega) (by omega)), fun p hp => absurd hp (nof p), fun p hp _ => zz _ _ (by omega) (by omega), fun a j y1 y2 y3 => zz a j y1 y2⟩
  · have hnp := hw.1
    have h4 : G2 4 p = (qN s p : Int) := by
      rw [zz _ _ (by omega) (by omega), (qN_c hw p).1]
      exact hPn p p1
    have onlyp : ∀ p', ofP s (F.getD i dFc) p' → p' = p := fun p' h => p4 p' h.1 h.2.1
    rw [p2, if_neg (by omega), if_pos (by omega), Int.toNat_natCast, h4]
    by_cases cn : qN s p = (F.getD i dFc).2.length
    · have nn : ¬ ¬ (qN s p : Int) = ((F.getD i dFc).2.length : Int) := fun q => q (by omega)
      rw [if_neg nn]
      refine ⟨xup2 G2 (o + 19) p 1, rfl, hLog.ge (xup2_n (by omega)) (fun a j _ _ => xup2_n (by omega)), fun p' hp' => ?_, fun p' hp' => ?_, fun p' hp' hno => ?_, fun a j y1 y2 y3 => by rw [xup2_n (by omega)]; exact zz a j y1 y2⟩
      · by_cases cp : p' = p
        · rw [cp, xup2_s]; exact .inr rfl
        · rw [xup2_n (by omega)]; exact .inl (zz _ _ (by omega) (by omega))
      · rw [onlyp p' hp', xup2_s]
      · have : p' ≠ p := fun q => hno (by rw [q]; exact ⟨p1, p3, cn⟩)
        rw [xup2_n (by omega)]
        exact zz _ _ (by omega) (by omega)
    · have nn : ¬ (qN s p : Int) = ((F.getD i dFc).2.length : Int) := by omega
      rw [if_pos nn]
      refine ⟨G2, rfl, hLog, fun p hp => .inl (zz _ _ (by omega) (by omega)), fun p' hp' => ?_, fun p hp _ => zz _ _ (by omega) (by omega), fun a j y1 y2 y3 => zz a j y1 y2⟩
      have := onlyp p' hp'
      subst this
      exact absurd hp'.2.2 cn
end
