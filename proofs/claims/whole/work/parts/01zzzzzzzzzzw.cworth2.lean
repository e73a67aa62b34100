/-! THE CLASS: worth() whole -/
theorem qVm_m {x : Int × Int} {xn : Nat} : ∀ {E : pCd}, x ∈ E → x.1 = 2 → x.2.toNat = xn → (qVm E).testBit xn = true
  | y :: E, hm, h1, h2 => by
    show ((if y.1 = 2 then 2 ^ y.2.toNat else 0) ||| qVm E).testBit xn = true
    rw [Nat.testBit_or]
    rcases List.mem_cons.mp hm with q | q
    · rw [← q, if_pos h1, h2, Nat.testBit_two_pow_self]; rfl
    · rw [qVm_m q h1 h2, Bool.or_true]
section
variable {f u s nv : Nat} {S : Nat → Nat × Nat × Nat} {G G' : xG_} {m : Nat × Nat} {K A C E : pCd} {vl : Nat → Int}
/-- the stack of the class -/
def cOk (G : xG_) (ST : List (Option Int)) : Prop := ∀ k, k < ST.length → eVl (ST.getD k none) (G 92 (ST.length - 1 - k))
theorem cOk.put {ST : List (Option Int)} {o : Option Int} {v : Int} (h : cOk G ST) (hv : eVl o v) : cOk (xup2 G 92 ST.length v) (o :: ST) := by
  intro k hk
  rw [List.length_cons] at hk ⊢
  cases k with
  | zero =>
    rw [show ST.length + 1 - 1 - 0 = ST.length by omega, xup2_s]
    exact hv
  | succ k =>
    rw [show ST.length + 1 - 1 - (k + 1) = ST.length - 1 - k by omega, xup2_n (by omega)]
    exact h k (by omega)
theorem cOk.two {T : List (Option Int)} {a b o : Option Int} {v : Int} (h : cOk G (b :: a :: T)) (hv : eVl o v) : cOk (xup2 G 92 T.length v) (o :: T) := by
  intro k hk
  rw [List.length_cons] at hk ⊢
  cases k with
  | zero =>
    rw [show T.length + 1 - 1 - 0 = T.length by omega, xup2_s]
    exact hv
  | succ k =>
    rw [show T.length + 1 - 1 - (k + 1) = T.length - 1 - k by omega, xup2_n (by omega)]
    have := h (k + 2) (by rw [List.length_cons, List.length_cons]; omega)
    rw [List.length_cons, List.length_cons, show T.length + 1 + 1 - 1 - (k + 2) = T.length - 1 - k by omega] at this
    exact this
theorem cWy.ge (h : cWy S G u K) (hf : ∀ a j, a ≠ 84 → a ≠ 87 → a ≠ 88 → a ≠ 89 → a ≠ 90 → a ≠ 91 → a ≠ 92 → ¬ (a = 83 ∧ (j = 6 ∨ j = 7)) → G' a j = G a j) : cWy S G' u K := by
  obtain ⟨a1, a2, a3, a4, a5, a6, ⟨b1, b2, b3, b4, b5⟩, a8⟩ := h
  have z : ∀ a j, u ≤ a → G' a j = G a j := fun a j ha => hf a j (by omega) (by omega) (by omega) (by omega) (by omega) (by omega) (by omega) (by omega)
  refine ⟨a1, a2.ge (fun a j hz => hf a j ?_ ?_ ?_ ?_ ?_ ?_ ?_ ?_), by rw [hf _ _ (by omega) (by omega) (by omega) (by omega) (by omega) (by omega) (by omega) (by omega)]; exact a3, a4, a5, ?_, ⟨by rw [z _ _ (by omega)]; exact b1, by rw [z _ _ (by omega)]; exact b2, b3, b4, fun k hk => by rw [z _ _ (by omega), z _ _ (by omega)]; exact b5 k hk⟩, a8⟩
  any_goals (rcases hz with z | z | z | z | z | z | z | ⟨z, z1, z2, k, z3⟩ | z | z | z | ⟨k, z1, z2, z3⟩ <;> omega)
  unfold cRuP at a6 ⊢
  simp only [z _ _ (Nat.le_refl _)]
  exact a6
/-- values of VARIABLES, as far as a mask tells -/
def cVl (G : xG_) (b : Nat) (vl : Nat → Int) : Prop := ∀ k, b.testBit k = true → k < 8 ∧ G 84 k = vl k ∧ vOk (vl k)
theorem cVl.ge {b : Nat} (h : cVl G b vl) (hf : ∀ k, G' 84 k = G 84 k) : cVl G' b vl := fun k hk => by rw [hf]; exact h k hk
theorem k_141l (hf : 3010 < f) (hs20 : s < 20) (hK : K = A ++ E.map cOp ++ C) (hwc : wC nv E) (hdb : dB 12 E) : ∀ (q : pCd) (j fu : Nat) (ST : List (Option Int)) (G : xG_), E.drop j = q → j ≤ E.length → q.length < fu → wSt 0 (E.take j) = some ST.length → wSt ST.length q = some 1 → cWy S G u K → G (u + 8) s = ((A.length + E.length : Nat) : Int) → cVl G (qVm E) vl → cOk G ST → ∃ v G' o, c141_12 f fu 83 (s : Int) (ST.length : Int) ((A.length + j : Nat) : Int) (S, G, m) = some (v, (S, G', m)) ∧ (∀ a k, a ≠ 92 → G' a k = G a k) ∧ oEs vl q ST = [o] ∧ eVl o v := by
  have hl := K_len hK
  intro q
  induction q with
  | nil =>
    intro j fu ST G e1 e2 e3 e4 e5 hW h8 hV hO
    obtain ⟨fu, rfl⟩ : ∃ t, fu = t + 1 := ⟨fu - 1, by omega⟩
    obtain ⟨a1, a2, a3, a4, a5, a6, a7, a8⟩ := hW
    have hj : j = E.length := by
      have := congrArg List.length e1
      rw [List.length_drop] at this
      simp at this
      omega
    subst hj
    have hl1 : ST.length = 1 := by injection e5
    obtain ⟨o, rfl⟩ : ∃ o, ST = [o] := by
      match ST, hl1 with
      | [o], _ => exact ⟨o, rfl⟩
    refine ⟨G 92 0, G, o, st_141z (r := c141_12 f fu) a1 a2 a3 a4 a5.1 a5.2.2.2.2.2.2.2.2.1 a6.2.2.2.2.2.2.2.1 hs20 h8 rfl, fun _ _ _ => rfl, rfl, ?_⟩
    exact hO 0 (Nat.lt_succ_self 0)
  | cons x q ih =>
    intro j fu ST G e1 e2 e3 e4 e5 hW h8 hV hO
    obtain ⟨fu, rfl⟩ : ∃ t, fu = t + 1 := ⟨fu - 1, by omega⟩
    obtain ⟨a1, a2, a3, a4, a5, a6, ⟨b1, b2, b3, b4, b5⟩, a8⟩ := id hW
    have hj : j < E.length := by
      have := congrArg List.length e1
      rw [List.length_drop, List.length_cons] at this
      omega
    have hx : E.getD j (0, 0) = x := by
      have : E.drop j = E[j] :: E.drop (j + 1) := List.drop_eq_getElem_cons hj
      rw [this] at e1
      injection e1 with e1 _
      rw [getD_e hj]; exact e1
    have e1' : E.drop (j + 1) = q := by
      have : E.drop j = E[j] :: E.drop (j + 1) := List.drop_eq_getElem_cons hj
      rw [this] at e1
      injection e1
    have hm : x ∈ E := by rw [← hx, getD_e hj]; exact List.getElem_mem hj
    have hw1 := hwc x hm
    have et : E.take (j + 1) = E.take j ++ [x] := by
      rw [List.take_add_one, List.getElem?_eq_getElem hj, ← getD_e (d := (0, 0)) hj, hx]
      rfl
    have hkj := K_get hK hj
    rw [hx] at hkj
    obtain ⟨k1, k2⟩ := b5 (A.length + j) (by omega)
    rw [hkj] at k1 k2
    have hN := a8
    have ei : xwr (((A.length + j : Nat) : Int) + 1) = ((A.length + j + 1 : Nat) : Int) := by rw [xwr_g _ (by omega) (by omega)]; omega
    have h4 : wSt 0 (E.take (j + 1)) = wSt ST.length [x] := by rw [et, wSt_ap, e4]; rfl
    rw [wSt_c] at e5 h4
    rw [e3 |> fun _ => show A.length + j + 1 = A.length + (j + 1) by omega] at ei
    by_cases c : x.1 = 3
    · rw [if_pos c] at e5 h4
      by_cases c2 : 2 ≤ ST.length
      · rw [if_pos c2] at e5 h4
        match ST, c2, e4, e5, h4, hO with
        | b :: a :: T, _, e4, e5, h4, hO =>
          have h12 : T.length + 2 ≤ 12 := hdb j _ e4
          have co : cOp x = (x.2, 0) := by unfold cOp; rw [if_pos c]
          rw [co] at k1
          have hsg : wSg x.2 := by
            rcases hw1 with q1 | q1 | q1
            · omega
            · omega
            · exact q1.2
          have ho := hsg
          unfold wSg at ho
          have va := hO 1 (by rw [List.length_cons, List.length_cons]; omega)
          have vb := hO 0 (by rw [List.length_cons]; omega)
          rw [List.length_cons, List.length_cons, show T.length + 1 + 1 - 1 - 1 = T.length by omega] at va
          rw [List.length_cons, List.length_cons, show T.length + 1 + 1 - 1 - 0 = T.length + 1 by omega] at vb
          obtain ⟨w, w1, w2⟩ := k_192 (f := f) (T := (S, G, m)) (op := x.2) (oa := a) (ob := b) (by omega) va vb
          have st : c141_12 f (fu + 1) 83 (s : Int) ((T.length + 2 : Nat) : Int) ((A.length + j : Nat) : Int) (S, G, m) = _ := st_141o (r := c141_12 f fu) a1 a2 a3 a4 a5.1 a5.2.2.2.2.2.2.2.2.1 b3 a6.2.2.2.2.2.2.2.1 b1 hs20 h8 (by omega) (by omega) k1 (by omega) (by omega) (by omega) rfl rfl w1 (by rw [xwr_g _ (by omega) (by omega)]; omega) (by rw [xwr_g _ (by omega) (by omega)]; omega) ei
          have z : ∀ a k, a ≠ 92 → xup2 G 92 T.length w a k = G a k := fun a k y => xup2_n (by omega)
          obtain ⟨v, G2, o, g1, g2, g3, g4⟩ := ih (j + 1) fu ((a.bind fun a => b.bind fun b => qWk x.2 a b) :: T) (xup2 G 92 T.length w) e1' (by omega) (by rw [List.length_cons] at e3; omega) (by rw [h4]; rfl) e5 (hW.ge (fun a k _ _ _ _ _ _ y _ => z a k y)) (by rw [z _ _ (by omega)]; exact h8) (hV.ge (fun k => z _ _ (by omega))) (hO.two w2)
          refine ⟨v, G2, o, st.trans g1, fun a k y => by rw [g2 a k y, z a k y], ?_, g4⟩
          show (if x.1 = 3 then _ else _) = _
          rw [if_pos c]
          exact g3
      · rw [if_neg c2] at e5; cases e5
    · rw [if_neg c] at e5 h4
      have h12 : ST.length + 1 ≤ 12 := hdb (j + 1) _ h4
      have co : cOp x = x := by unfold cOp; rw [if_neg c]
      rw [co] at k1 k2
      have eh : xwr ((ST.length : Int) + 1) = ((ST.length + 1 : Nat) : Int) := by rw [xwr_g _ (by omega) (by omega)]; omega
      have fin : ∀ v : Int, eVl (some (if x.1 = 1 then x.2 else vl x.2.toNat)) v → c141_12 f (fu + 1) 83 (s : Int) (ST.length : Int) ((A.length + j : Nat) : Int) (S, G, m) = c141_12 f fu 83 (s : Int) ((ST.length + 1 : Nat) : Int) ((A.length + (j + 1) : Nat) : Int) (S, xup2 G 92 ST.length v, m) → ∃ v G' o, c141_12 f (fu + 1) 83 (s : Int) (ST.length : Int) ((A.length + j : Nat) : Int) (S, G, m) = some (v, (S, G', m)) ∧ (∀ a k, a ≠ 92 → G' a k = G a k) ∧ oEs vl (x :: q) ST = [o] ∧ eVl o v := fun v0 hv0 st => by
        have z : ∀ a k, a ≠ 92 → xup2 G 92 ST.length v0 a k = G a k := fun a k y => xup2_n (by omega)
        obtain ⟨v, G2, o, g1, g2, g3, g4⟩ := ih (j + 1) fu (some (if x.1 = 1 then x.2 else vl x.2.toNat) :: ST) (xup2 G 92 ST.length v0) e1' (by omega) (by rw [List.length_cons] at e3; omega) (by rw [h4]; rfl) e5 (hW.ge (fun a k _ _ _ _ _ _ y _ => z a k y)) (by rw [z _ _ (by omega)]; exact h8) (hV.ge (fun k => z _ _ (by omega))) (hO.put hv0)
        refine ⟨v, G2, o, st.trans g1, fun a k y => by rw [g2 a k y, z a k y], ?_, g4⟩
        show (if x.1 = 3 then _ else _) = _
        rw [if_neg c]
        exact g3
      rcases hw1 with q1 | q1 | q1
      · rw [q1.1] at k1
        refine fin x.2 ?_ (st_141v (r := c141_12 f fu) a1 a2 a3 a4 a5.1 a5.2.2.2.2.2.2.2.2.1 b3 b4 a6.2.2.2.2.2.2.2.1 b1 b2 hs20 h8 (by omega) (by omega) k1 k2 (by omega) eh ei)
        rw [if_pos q1.1]
        exact ⟨rfl, q1.2⟩
      · rw [q1.1] at k1
        obtain ⟨xn, hxn⟩ : ∃ xn : Nat, x.2 = (xn : Int) := ⟨x.2.toNat, by have := q1.2.1; omega⟩
        have hbit : (qVm E).testBit xn = true := by
          exact qVm_m hm q1.1 (by rw [hxn]; rfl)
        obtain ⟨v1, v2, v3⟩ := hV xn hbit
        rw [hxn] at k2
        refine fin (vl xn) ?_ (st_141x (r := c141_12 f fu) a1 a2 a3 a4 a5.1 a5.2.2.2.2.2.2.2.2.1 b3 b4 a6.2.2.2.2.2.2.2.1 b1 b2 hs20 h8 (by omega) (by omega) k1 k2 v1 (xwr_g _ (by omega) (by omega)) v2 (by omega) eh ei)
        rw [if_neg (by omega), hxn]
        exact ⟨rfl, v3⟩
      · exact absurd q1.1 c
theorem st_141 {a : Nat} (hs : cSs S) (h3 : G 83 3 = (u : Int)) (hu : 278 < u) (us : S u = (1, 6, 20)) (us7 : S (u + 7) = (2, 3, 20)) (w14 : G u 14 = ((u + 7 : Nat) : Int)) (hsl : s < 20) (h7 : G (u + 7) s = (a : Int)) : c141 f 83 (s : Int) (S, G, m) = c141_12 f f 83 (s : Int) 0 (a : Int) (S, G, m) := by
  unfold c141
  simp (disch := omega) only [cq_gi, cq_gr, cq_a, cq_s, cq_p, cq_pr, cq_is, cq_ar, cq_ab, cq_ln, xq_nz, Option.bind_some, xup2_n, xup2_s, Int.toNat_natCast, Int.reduceToNat, if_pos, if_neg, true_and, and_true, and_self, eq_self, if_true, reduceIte, not_true_eq_false, not_false_eq_true, or_true, true_or, s83 hs, h3, us, us7, w14, h7]
/-- worth() -/
theorem k_141w (hf : 3010 < f) (hs20 : s < 20) (hW : cWy S G u K) (hg : cSg G u K s E) (hw : wEx nv E) (hdb : dB 12 E) (hV : cVl G (qVm E) vl) : ∃ v G', c141 f 83 (s : Int) (S, G, m) = some (v, (S, G', m)) ∧ (∀ a k, a ≠ 92 → G' a k = G a k) ∧ eVl (qEv vl E) v := by
  obtain ⟨A, C, hK, h7, h8⟩ := hg
  have hl := K_len hK
  have hN := hW.2.2.2.2.2.2.2
  obtain ⟨v, G', o, g1, g2, g3, g4⟩ := k_141l (f := f) (m := m) (vl := vl) hf hs20 hK hw.1 hdb E 0 f [] G (List.drop_zero) (Nat.zero_le _) (by omega) (by rw [List.take_zero]; rfl) hw.2 hW h8 hV (fun k hk => absurd hk (Nat.not_lt_zero k))
  have e := (oEs_ev (v := vl) E [] hw.2).1 [] rfl
  rw [e] at g3
  injection g3 with g3 _
  refine ⟨v, G', (st_141 hW.1 hW.2.2.1 hW.2.2.2.1 hW.2.2.2.2.1.1 hW.2.2.2.2.1.2.2.2.2.2.2.2.1 hW.2.2.2.2.2.1.2.2.2.2.2.2.1 hs20 h7).trans g1, g2, ?_⟩
  unfold qEv
  rw [g3]
  exact g4
end
