/-! EXPRESSIONS: codes worked over values of VARIABLES -/
def qEs (v : Nat → Int) : pCd → List Int → Option (List Int)
  | [], st => some st
  | x :: q, st => if x.1 = 3 then (match st with
      | b :: a :: st => (qWk x.2 a b).bind fun w => qEs v q (w :: st)
      | _ => none) else qEs v q ((if x.1 = 1 then x.2 else v x.2.toNat) :: st)
/-- what an EXPRESSION is worth; none if it has no value -/
def qEv (v : Nat → Int) (Q : pCd) : Option Int := (qEs v Q []).bind List.head?
def rSk (G : xG_) (st : List Int) : Prop := ∀ k, k < st.length → G 111 (st.length - 1 - k) = st.getD k 0
def xfu (G G' : xG_) : Prop := ∀ o j, ¬ (o = 0 ∧ j = 42) → o ≠ 111 → G' o j = G o j
/-- values of VARIABLES, as far as a mask tells -/
def rVl (G : xG_) (m : Nat) (v : Nat → Int) : Prop := ∀ k, m.testBit k = true → k < 8 ∧ G 110 k = v k ∧ vOk (v k)
theorem xl111 : ((xl_t 111).2.2 : Int) = 6200 := by decide +kernel
theorem xwr_v8 {a : Int} (h1 : 0 ≤ a) (h2 : a < 8) : xwr a = a := xwr_g _ (by omega) (by omega)
theorem two_up {l : List Int} (h : 2 ≤ l.length) : ∃ b a t, l = b :: a :: t := by
  cases l with
  | nil => exact absurd h (by decide)
  | cons b l =>
    cases l with
    | nil => exact absurd h (by show ¬ 2 ≤ 1; decide)
    | cons a t => exact ⟨b, a, t, rfl⟩
section
variable {f nv a : Nat} {v : Nat → Int}
theorem l_266_10 {Q : pCd} (hv : nv ≤ 8) (ha : a + Q.length ≤ 6200) : ∀ (Qr : pCd) (i fu : Nat) (G : xG_) (st : List Int), Q.drop i = Qr → i ≤ Q.length → Qr.length < fu → rCo G 2 a Q → wC nv Qr → wSt st.length Qr = some 1 → st.length ≤ i → rVl G (qVm Qr) v → G 0 42 = 0 → rSk G st → (∀ x ∈ st, vOk x) →
    ∃ G' w, g266_10 f fu ((a + Q.length : Nat) : Int) (st.length : Int) ((a + i : Nat) : Int) G = some (w, G') ∧ xfu G G' ∧ ((∃ x, qEs v Qr st = some [x] ∧ w = x ∧ vOk x ∧ G' 0 42 = 0) ∨ qEs v Qr st = none ∧ w = 0 ∧ G' 0 42 = 1) := by
  intro Qr
  induction Qr with
  | nil =>
    intro i fu G st h1 h2 h3 h4 h5 h6 h7 h8 h9 h10 h11
    obtain ⟨fu, rfl⟩ : ∃ t, fu = t + 1 := ⟨fu - 1, by have : 0 < fu := h3; omega⟩
    have hi : i = Q.length := by
      have : (Q.drop i).length = 0 := by rw [h1]; rfl
      rw [List.length_drop] at this
      omega
    have hst : st.length = 1 := by
      have : some st.length = some 1 := h6
      injection this
    obtain ⟨x, rfl⟩ : ∃ x, st = [x] := List.length_eq_one_iff.mp hst
    refine ⟨G, x, ?_, fun _ _ _ _ => rfl, .inl ⟨x, rfl, rfl, h11 x List.mem_cons_self, h9⟩⟩
    have e : G 111 0 = x := h10 0 Nat.zero_lt_one
    show g266_10b (g266_10 f fu) f _ _ _ _ = _
    unfold g266_10b g266_148 g266_165
    rw [if_pos (by omega), if_pos h9, if_pos (by decide)]
    show some (G 111 0, G) = _
    rw [e]
  | cons x q ih =>
    intro i fu G st h1 h2 h3 h4 h5 h6 h7 h8 h9 h10 h11
    have h3' : q.length + 1 < fu := h3
    obtain ⟨fu, rfl⟩ : ∃ t, fu = t + 1 := ⟨fu - 1, by omega⟩
    have hi : i < Q.length := by
      have : (Q.drop i).length = (x :: q).length := by rw [h1]
      rw [List.length_drop, List.length_cons] at this
      omega
    have hx : Q.getD i (0, 0) = x ∧ Q.drop (i + 1) = q := by
      rw [List.drop_eq_getElem_cons hi] at h1
      injection h1 with e1 e2
      exact ⟨by rw [getD_e hi]; exact e1, e2⟩
    obtain ⟨c1, c2⟩ := h4 i hi
    rw [hx.1] at c1 c2
    have c1' : G 35 (a + i) = x.1 := c1
    have c2' : G 36 (a + i) = x.2 := c2
    have hx1 := h5 x List.mem_cons_self
    have hq : wC nv q := fun y hy => h5 y (List.mem_cons_of_mem _ hy)
    have ei : xwr (((a + i : Nat) : Int) + 1) = ((a + (i + 1) : Nat) : Int) := by rw [xwr_g _ (by omega) (by omega)]; omega
    have hvq : rVl G (qVm q) v := fun k hk => h8 k (by
      show ((if x.1 = 2 then 2 ^ x.2.toNat else 0) ||| qVm q).testBit k = true
      rw [Nat.testBit_or, hk, Bool.or_true])
    have head : ∀ Z : Option (Int × xG_), g266_10b (g266_10 f fu) f ((a + Q.length : Nat) : Int) (st.length : Int) ((a + i : Nat) : Int) G = Z → g266_10 f (fu + 1) ((a + Q.length : Nat) : Int) (st.length : Int) ((a + i : Nat) : Int) G = Z := fun Z h => h
    by_cases cs : x.1 = 3
    · have hw : wSg x.2 := by
        rcases hx1 with z | z | z
        · omega
        · omega
        · exact z.2
      have hw2 : xwr x.2 = x.2 := xwr_g _ (by unfold wSg at hw; omega) (by unfold wSg at hw; omega)
      rw [wSt_c, if_pos cs] at h6
      by_cases c3 : 2 ≤ st.length
      · rw [if_pos c3] at h6
        obtain ⟨b', a', st', rfl⟩ : ∃ b' a' st', st = b' :: a' :: st' := two_up c3
        have hl : (b' :: a' :: st').length = st'.length + 2 := rfl
        have g1 : G 111 (st'.length + 1) = b' := by
          have := h10 0 (by rw [hl]; omega)
          rw [hl] at this
          exact this
        have g2 : G 111 st'.length = a' := by
          have := h10 1 (by rw [hl]; omega)
          rw [hl] at this
          exact this
        obtain ⟨w, k1, k2⟩ := l_268 (f := f) (G := G) hw (h11 a' (List.mem_cons_of_mem _ List.mem_cons_self)) (h11 b' List.mem_cons_self)
        have e1 : xwr (((b' :: a' :: st').length : Int) - 1) = ((st'.length + 1 : Nat) : Int) := by rw [hl, xwr_g _ (by omega) (by omega)]; omega
        have e2 : xwr (((b' :: a' :: st').length : Int) - 2) = (st'.length : Int) := by rw [hl, xwr_g _ (by omega) (by omega)]; omega
        have e3 : xwr (((b' :: a' :: st').length : Int) + -1) = ((st'.length + 1 : Nat) : Int) := by rw [hl, xwr_g _ (by omega) (by omega)]; omega
        have e4 : xwr (((st'.length + 1 : Nat) : Int) - 1) = (st'.length : Int) := by rw [xwr_g _ (by omega) (by omega)]; omega
        have hlen : st'.length < 6200 := by rw [hl] at h7; omega
        have step : g266_10 f (fu + 1) ((a + Q.length : Nat) : Int) ((b' :: a' :: st').length : Int) ((a + i : Nat) : Int) G = g266_10 f fu ((a + Q.length : Nat) : Int) ((st'.length + 1 : Nat) : Int) ((a + (i + 1) : Nat) : Int) (xup2 (xup2 G 0 42 (if (qWk x.2 a' b').isSome then 0 else 1)) 111 st'.length w) := by
          refine head _ ?_
          unfold g266_10b g266_142
          rw [if_neg (by omega), if_neg (fun z => z h9), if_pos (by omega), Int.toNat_natCast]
          show (if G 35 (a + i) = 3 then _ else _) = _
          rw [c1', if_pos cs, e1, e2, e3, if_pos (by omega), if_pos (by omega), if_pos (by omega)]
          show Option.bind (g268 f (xwr (G 36 (a + i))) _ _ G) _ = _
          rw [c2', hw2, Int.toNat_natCast, Int.toNat_natCast, g1, g2, k1, Option.bind_some, e4, if_pos (by omega), Int.toNat_natCast, Option.bind_some, ei]
        have hes : qEs v (x :: q) (b' :: a' :: st') = (qWk x.2 a' b').bind fun w => qEs v q (w :: st') := by
          show (if x.1 = 3 then _ else _) = _
          rw [if_pos cs]
        cases hk : qWk x.2 a' b' with
        | none =>
          rw [hk] at step hes
          refine ⟨xup2 (xup2 G 0 42 1) 111 st'.length w, 0, ?_, ?_, .inr ⟨hes, rfl, ?_⟩⟩
          · rw [step]
            obtain ⟨fu, rfl⟩ : ∃ t, fu = t + 1 := ⟨fu - 1, by omega⟩
            show g266_10b (g266_10 f fu) f _ _ _ _ = _
            have e42 : xup2 (xup2 G 0 42 (if (none : Option Int).isSome = true then 0 else 1)) 111 st'.length w 0 42 = 1 := by
              rw [xup2_n (by omega), xup2_s]
              rfl
            have en : g266_148 f (xup2 (xup2 G 0 42 (if (none : Option Int).isSome = true then 0 else 1)) 111 st'.length w) = some (0, xup2 (xup2 G 0 42 1) 111 st'.length w) := by
              unfold g266_148 g266_165
              rw [e42, if_neg (by decide)]
              rfl
            unfold g266_10b
            rw [e42, en, if_pos (by decide : ¬ (1 : Int) = 0)]
            exact ite_self _
          · intro o j z1 z2
            rw [xup2_n (fun z => z2 z.1), xup2_n z1]
          · rw [xup2_n (by omega), xup2_s]
        | some w' =>
          have := k2 w' hk
          subst this
          rw [hk] at step hes
          have e0 : (if (some w : Option Int).isSome = true then (0 : Int) else 1) = 0 := rfl
          rw [e0] at step
          have fr : ∀ o j, ¬ (o = 111 ∧ j = st'.length) → xup2 (xup2 G 0 42 0) 111 st'.length w o j = G o j := fun o j z => by
            rw [xup2_n z]
            by_cases c : o = 0 ∧ j = 42
            · rw [c.1, c.2, xup2_s, h9]
            · exact xup2_n c
          obtain ⟨G', w1, m1, m2, m3⟩ := ih (i + 1) fu (xup2 (xup2 G 0 42 0) 111 st'.length w) (w :: st') hx.2 (by omega) (by omega) (fun j hj => by rw [fr _ _ (by omega), fr _ _ (by omega)]; exact h4 j hj) hq (by have : (b' :: a' :: st').length - 1 = (w :: st').length := rfl; rw [this] at h6; exact h6) (by show st'.length + 1 ≤ i + 1; rw [hl] at h7; omega) (fun k hk => by rw [fr _ _ (by omega)]; exact hvq k hk) (by rw [fr _ _ (by omega)]; exact h9) (fun k hk => by
              have hk' : k < st'.length + 1 := hk
              show xup2 _ _ _ _ 111 (st'.length + 1 - 1 - k) = _
              by_cases ck : k = 0
              · rw [ck]
                show xup2 _ _ _ _ 111 st'.length = _
                rw [xup2_s]
                rfl
              · obtain ⟨k, rfl⟩ : ∃ t, k = t + 1 := ⟨k - 1, by omega⟩
                have := h10 (k + 2) (by rw [hl]; omega)
                rw [hl] at this
                rw [fr _ _ (by omega), show st'.length + 1 - 1 - (k + 1) = st'.length + 2 - 1 - (k + 2) by omega, this]
                rfl) (fun y hy => by
              rcases List.mem_cons.mp hy with z | z
              · rw [z]; exact qWk_ok hk
              · exact h11 y (List.mem_cons_of_mem _ (List.mem_cons_of_mem _ z)))
          refine ⟨G', w1, by rw [step]; exact m1, fun o j z1 z2 => by rw [m2 o j z1 z2, fr o j (fun z => z2 z.1)], ?_⟩
          rw [hes]
          exact m3
      · rw [if_neg c3] at h6
        cases h6
    · rw [wSt_c, if_neg cs] at h6
      have push : ∃ y, (if x.1 = 1 then x.2 else v x.2.toNat) = y ∧ vOk y ∧ g266_10 f (fu + 1) ((a + Q.length : Nat) : Int) (st.length : Int) ((a + i : Nat) : Int) G = g266_10 f fu ((a + Q.length : Nat) : Int) ((st.length + 1 : Nat) : Int) ((a + (i + 1) : Nat) : Int) (xup2 G 111 st.length y) := by
        have e1 : xwr ((st.length : Int) + 1) = ((st.length + 1 : Nat) : Int) := by rw [xwr_g _ (by omega) (by omega)]; omega
        by_cases c4 : x.1 = 1
        · have hvx : vOk x.2 := by
            rcases hx1 with z | z | z
            · exact z.2
            · omega
            · omega
          refine ⟨x.2, by rw [if_pos c4], hvx, ?_⟩
          refine head _ ?_
          unfold g266_10b g266_85 g266_142
          rw [if_neg (by omega), if_neg (fun z => z h9), if_pos (by omega), Int.toNat_natCast]
          show (if G 35 (a + i) = 3 then _ else (if _ then (if ¬ G 35 (a + i) = 1 then _ else (if _ then (if 0 ≤ (st.length : Int) ∧ (st.length : Int) < ((xl_t 111).2.2 : Int) then Option.bind (some (xup2 G 111 _ (G 36 (a + i)))) _ else _) else _)) else _)) = _
          rw [c1', c2', if_neg cs, if_pos (by omega), if_neg (fun z => z c4), if_pos (by omega), xl111, if_pos (by omega), Int.toNat_natCast, Option.bind_some, e1, ei]
        · have hvx : x.1 = 2 ∧ 0 ≤ x.2 ∧ x.2 < nv := by
            rcases hx1 with z | z | z
            · omega
            · exact z
            · omega
          obtain ⟨z1, z2, z3⟩ := hvx
          obtain ⟨u1, u2, u3⟩ := h8 x.2.toNat (by
            show ((if x.1 = 2 then 2 ^ x.2.toNat else 0) ||| qVm q).testBit x.2.toNat = true
            rw [if_pos z1, Nat.testBit_or, Nat.testBit_two_pow_self, Bool.true_or])
          refine ⟨v x.2.toNat, by rw [if_neg c4], u3, ?_⟩
          refine head _ ?_
          unfold g266_10b g266_85 g266_142
          rw [if_neg (by omega), if_neg (fun z => z h9), if_pos (by omega), Int.toNat_natCast]
          show (if G 35 (a + i) = 3 then _ else (if _ then (if ¬ G 35 (a + i) = 1 then (if _ then (if 0 ≤ xwr (G 36 (a + i)) ∧ xwr (G 36 (a + i)) < 8 then (if 0 ≤ (st.length : Int) ∧ (st.length : Int) < ((xl_t 111).2.2 : Int) then Option.bind (some (xup2 G 111 _ (G 110 (xwr (G 36 (a + i))).toNat))) _ else _) else _) else _) else _) else _)) = _
          rw [c1', c2', if_neg cs, if_pos (by omega), if_pos c4, if_pos (by omega), xwr_v8 z2 (by omega), if_pos (by omega), xl111, if_pos (by omega), Int.toNat_natCast, u2, Option.bind_some, e1, ei]
      obtain ⟨y, hy, hvy, step⟩ := push
      have hes : qEs v (x :: q) st = qEs v q (y :: st) := by
        show (if x.1 = 3 then _ else _) = _
        rw [if_neg cs, hy]
      have fr : ∀ o j, ¬ (o = 111 ∧ j = st.length) → xup2 G 111 st.length y o j = G o j := fun o j z => xup2_n z
      obtain ⟨G', w1, m1, m2, m3⟩ := ih (i + 1) fu (xup2 G 111 st.length y) (y :: st) hx.2 (by omega) (by omega) (fun j hj => by rw [fr _ _ (by omega), fr _ _ (by omega)]; exact h4 j hj) hq h6 (by show st.length + 1 ≤ i + 1; omega) (fun k hk => by rw [fr _ _ (by omega)]; exact hvq k hk) (by rw [fr _ _ (by omega)]; exact h9) (fun k hk => by
          have hk' : k < st.length + 1 := hk
          show xup2 _ _ _ _ 111 (st.length + 1 - 1 - k) = _
          by_cases ck : k = 0
          · rw [ck]
            show xup2 _ _ _ _ 111 st.length = _
            rw [xup2_s]
            rfl
          · obtain ⟨k, rfl⟩ : ∃ t, k = t + 1 := ⟨k - 1, by omega⟩
            have := h10 k (by omega)
            rw [fr _ _ (by omega), show st.length + 1 - 1 - (k + 1) = st.length - 1 - k by omega, this]
            rfl) (fun z hz => by
          rcases List.mem_cons.mp hz with q | q
          · rw [q]; exact hvy
          · exact h11 z q)
      refine ⟨G', w1, by rw [step]; exact m1, fun o j z1 z2 => by rw [m2 o j z1 z2, fr o j (fun z => z2 z.1)], ?_⟩
      rw [hes]
      exact m3
/-- worth -/
theorem l_266 {Q : pCd} {G : xG_} (hf : 6300 < f) (hv : nv ≤ 8) (ha : a + Q.length ≤ 6200) (hc : rCo G 2 a Q) (hw : wEx nv Q) (hl : rVl G (qVm Q) v) :
    ∃ G' w, g266 f (a : Int) ((a + Q.length : Nat) : Int) G = some (w, G') ∧ xfu G G' ∧ ((qEv v Q = some w ∧ vOk w ∧ G' 0 42 = 0) ∨ qEv v Q = none ∧ w = 0 ∧ G' 0 42 = 1) := by
  obtain ⟨G', w, k1, k2, k3⟩ := l_266_10 (f := f) (v := v) hv ha Q 0 f (xup2 G 0 42 0) [] rfl (by omega) (by omega) (fun j hj => by rw [xup2_n (by omega), xup2_n (by omega)]; exact hc j hj) hw.1 hw.2 (Nat.le_refl _) (fun k hk => by rw [xup2_n (by omega)]; exact hl k hk) (xup2_s _ _ _ _) (fun k hk => absurd hk (Nat.not_lt_zero _)) (fun x hx => absurd hx (by simp))
  refine ⟨G', w, ?_, fun o j z1 z2 => by rw [k2 o j z1 z2, xup2_n z1], ?_⟩
  · unfold g266
    rw [Option.bind_some]
    exact k1
  · unfold qEv
    rcases k3 with ⟨x, m1, m2, m3, m4⟩ | ⟨m1, m2, m3⟩
    · rw [m1, m2]
      exact .inl ⟨rfl, m3, m4⟩
    · rw [m1]
      exact .inr ⟨rfl, m2, m3⟩
end
