/-! THE CLASS: program() and cell() in the house -/
theorem qPrg_u {t : List Int} {v a v' a' : Int} (h : qPrg t v a) (h' : qPrg t v' a') : v = v' ∧ a = a' := by
  unfold qPrg at h h'
  cases hq : qPr t with
  | inl w =>
    rw [hq] at h h'
    exact ⟨h.1.trans h'.1.symm, h.2.trans h'.2.symm⟩
  | inr s =>
    rw [hq] at h h'
    obtain ⟨z, z1, z2, z3⟩ := h
    obtain ⟨y, y1, y2, y3⟩ := h'
    have e1 := z2 y a' y1
    have e2 := y2 z a z1
    have e3 : z = y ∧ a = a' := by omega
    exact ⟨by rw [z3, y3, e3.1], e3.2⟩
theorem qPrg_n {t : List Int} {v a : Int} {s : pPg} (h : qPrg t v a) (hs : qPr t = .inr s) (hn : ∀ k a, ¬ pFa s 0 k a) : False := by
  unfold qPrg at h
  rw [hs] at h
  obtain ⟨z, z1, _⟩ := h
  exact hn _ _ z1
section
variable {f A A' hr n sl ln : Nat} {S S' : Nat → Nat × Nat × Nat} {G G' : xG_} {m : Nat × Nat} {T : List (List Int)} {P P' : Nat → Nat} {l : sLn} {lns : Nat → sLn} {tx t : List Int} {kp : Nat × List (List Int)} {mt : Int × List Int} {pl rf : Int}
theorem cLn.app (t : List Int) (h : cLn T S G A P ln l) (hE : cEd T S G A P) (hW : ceOk T l.2.2.2.1.2.2) (hP : ∀ e, e < T.length → P' e = P e) : cLn (T ++ [t]) S G A P' ln l := by
  obtain ⟨s0, M0, hm⟩ := h.mo
  obtain ⟨h1, h2, h4, ⟨s, h5, h6⟩, h7, h8⟩ := h
  have hT : 0 < T.length := Nat.lt_of_le_of_lt (Nat.zero_le _) hm.1
  have hl : lnE l < T.length := by
    unfold lnE
    rcases h4 with ⟨e, _⟩ | ⟨e1, e2, _⟩
    · rw [if_pos e]; exact hm.1
    · rw [if_neg (by omega)]; exact (hE.1 _ e2).1
  refine ⟨h1.app t hP, h2, ?_, ⟨s, by rw [getD_app _ hl]; exact h5, h6⟩, h7.app t (fun c hc => ?_), h8⟩
  · rcases h4 with z | ⟨e1, e2, e3⟩
    · exact .inl z
    · have e4 := hP _ (hE.1 _ e2).1
      exact .inr ⟨e1, by rw [e4]; exact e2, by rw [e4]; exact e3⟩
  · rcases hW c with z | z
    · rw [z]; exact hT
    · exact z.2.1
theorem cTx.nil (h : G 65 1 = 0) : cTx G (tBt []) ([] : List Int).length := ⟨h, Nat.zero_le _, fun p => ⟨fun hp => absurd hp (Nat.not_lt_zero p), fun _ => rfl⟩, fun p hp => absurd hp (Nat.not_lt_zero p)⟩
/-- program() -/
theorem k_pg {v pl' : Int} {T' : List (List Int)} {lns' : Nat → sLn} (hf : 3100 < f) (hn : n ≤ 100000) (h : cHs S G A (T, lns, hr, tx, kp, mt, pl, rf) n) (hW : ∀ y, y < 4 → ceOk T (lns y).2.2.2.1.2.2) (hst : stPg T lns hr tx v pl' T' lns') : ∃ S' G' m', c1000 f 64 (S, G, (A, sl)) = some (v, (S', G', m')) ∧ (A ≤ m'.1 ∧ m'.1 ≤ A + 325 ∧ m'.2 ≤ sl + 10342) ∧ (∀ a, a < A → S' a = S a) ∧ cHs S' G' m'.1 (T', lns', hr, [], kp, mt, pl', rf) (n + 1) := by
  obtain ⟨⟨a1, a2, a3, a4⟩, ⟨P, b1, b2, b3⟩, ⟨c1, c2⟩, ⟨c3, c4⟩, c5, c6, c7, c8, c9⟩ := h
  obtain ⟨v', S', G', m', k1, k2, k3, k4, k5, k6, k7, k8, k9⟩ := k_1000 (f := f) (A := A) (sl := sl) (sn := G 64 7) a1 a2 c7 (by omega) c2 c1 rfl ⟨c3, by omega⟩ hf
  have s1 : cSs S' := fun k hk => by rw [k2 _ (by omega)]; exact a1 k hk
  rcases k9 with ⟨d1, d2⟩ | ⟨s, d1, d2, d3, d4, d5, d6, d7, d8, d9⟩
  · rcases hst with ⟨e1, e2, e3⟩ | ⟨s, e1, e2, _⟩
    · obtain ⟨u1, u2⟩ := qPrg_u d1 e1
      rw [e2, e3, ← u1, ← u2]
      have g : ∀ a j, a < A → (a = 64 ∧ j ≠ 7 ∧ j ≠ 9 ∨ 82 < a) → G' a j = G a j := fun a j y1 y2 => d2 a j y1 (by omega) (by omega)
      have sf : xSf A G G' := fun a j y1 y2 => g a j y1 (by omega)
      refine ⟨S', G', m', k1, ⟨k3, k4, k5⟩, k2, ⟨s1, k6, a3.ge (fun a j y1 y2 => g a j (by omega) (by omega)), by omega⟩, ⟨P, b1.ge k3 k2 sf (by rw [k8]; omega), fun y hy => (b2 y hy).ge k3 k2 sf (fun a j y1 y2 => g a j (by omega) (by omega)), b3.ge k3 k2 sf ⟨g _ _ (by omega) (by omega), g _ _ (by omega) (by omega)⟩⟩, ⟨c1, by rw [g _ _ (by omega) (by omega)]; exact c2⟩, ⟨by omega, by omega⟩, by rw [g _ _ (by omega) (by omega)]; exact c5, rfl, cTx.nil k7, c8.ge (fun a y => k2 a (by omega)) (fun a j y1 y2 => g a j (by omega) (by omega)) ⟨g _ _ (by omega) (by omega), g _ _ (by omega) (by omega)⟩, c9.ge ⟨g _ _ (by omega) (by omega), g _ _ (by omega) (by omega)⟩ (fun j => g _ _ (by omega) (by omega))⟩
    · exact (qPrg_n d1 e1 e2).elim
  · rcases hst with ⟨e1, _⟩ | ⟨s', e1, e2, e3, e4, e5, e6⟩
    · exact (qPrg_n e1 d1 d2).elim
    · have es : s' = s := by
        rw [d1] at e1
        injection e1 with z
        exact z.symm
      subst es
      rw [e5, e6, e4, e3, ← d3]
      have hok : qOk s' := qOk_of c7.2.2.1 c7.2.1 d1 d2
      have g : ∀ a j, a < A → (a = 64 ∧ j ≠ 7 ∧ j ≠ 9 ∨ 82 < a) → ¬ (a = 243 + 9 * hr ∧ (j = 7 ∨ j = 8)) → G' a j = G a j := fun a j y1 y2 y3 => d5 a j y1 (by omega) (by omega) y3
      have sf : xSf A G G' := fun a j y1 y2 => g a j y1 (by omega) (by omega)
      have hP : ∀ e, e < T.length → (fun e => if e = T.length then A else P e) e = P e := fun e he => if_neg (by omega)
      have hPn : (fun e => if e = T.length then A else P e) T.length = A := if_pos rfl
      obtain ⟨P', eP⟩ : ∃ P', P' = (fun e => if e = T.length then A else P e) := ⟨_, rfl⟩
      rw [← eP] at hP hPn
      have pE : cEd T S' G' m'.1 P := b1.ge k3 k2 sf (by rw [k8]; omega)
      have gl : (T ++ [tx]).getD T.length [] = tx := by
        have := getD_apr (l := T) (d := []) [tx] 0
        rw [Nat.add_zero] at this
        exact this
      have gl2 : (T ++ [tx]).length = T.length + 1 := by rw [List.length_append]; rfl
      have ser : ∀ e, P e ≠ 0 → G' (P e) 0 ≤ G 64 7 := fun e he => by
        obtain ⟨_, ⟨_, nq, _, _, q3, q4, q5⟩, _, q7⟩ := b1.1 e he
        have := q3.2.2.2.2.2.2.2.2
        rw [sf _ _ (by omega) (by omega)]
        exact q7
      have pN : ∀ e, P' e ≠ 0 → e = T.length ∨ e < T.length ∧ P' e = P e := fun e he => by
        by_cases q : e = T.length
        · exact .inl q
        · have : P' e = P e := by rw [eP]; exact if_neg q
          rw [this] at he
          exact .inr ⟨(b1.1 e he).1, this⟩
      have qE : cEd (T ++ [tx]) S' G' m'.1 P' := by
        refine ⟨fun e he => ?_, fun e e' he he' hs => ?_⟩
        · rcases pN e he with q | ⟨q1, q2⟩
          · subst q
            rw [hPn, gl2]
            exact ⟨by omega, ⟨s', m'.1, by rw [gl]; exact d1, qOc_of c7.2.2.1 d1 hok, d8, Nat.le_refl _, .inr (by omega)⟩, by rw [d9]; omega, by rw [d9, k8]; exact Int.le_refl _⟩
          · rw [q2] at he ⊢
            obtain ⟨w1, w2, w3, w4⟩ := pE.1 e he
            exact ⟨by omega, w2.app tx q1, w3, w4⟩
        · rcases pN e he with q | ⟨q1, q2⟩
          · rcases pN e' he' with q' | ⟨q1', q2'⟩
            · rw [q, q']
            · rw [q2'] at he' hs
              rw [q, hPn, d9] at hs
              have := ser e' he'
              omega
          · rcases pN e' he' with q' | ⟨q1', q2'⟩
            · rw [q2] at he hs
              rw [q', hPn, d9] at hs
              have := ser e he
              omega
            · rw [q2, q2'] at hs
              exact pE.2 e e' (by rw [← q2]; exact he) (by rw [← q2']; exact he') hs
      refine ⟨S', G', m', k1, ⟨k3, k4, k5⟩, k2, ⟨s1, k6, a3.ge (fun a j y1 y2 => g a j (by omega) (by omega) (by omega)), by omega⟩, ⟨P', qE, fun y hy => ?_, ?_⟩, ⟨c1, by rw [g _ _ (by omega) (by omega) (by omega)]; exact c2⟩, ⟨by omega, by omega⟩, by rw [g _ _ (by omega) (by omega) (by omega)]; exact c5, d4, cTx.nil k7, c8.ge (fun a y => k2 a (by omega)) (fun a j y1 y2 => g a j (by omega) (by omega) (by omega)) ⟨g _ _ (by omega) (by omega) (by omega), g _ _ (by omega) (by omega) (by omega)⟩, c9.ge ⟨g _ _ (by omega) (by omega) (by omega), g _ _ (by omega) (by omega) (by omega)⟩ (fun j => g _ _ (by omega) (by omega) (by omega))⟩
      · unfold lUp
        by_cases d : y = hr
        · subst d
          rw [if_pos rfl]
          obtain ⟨Yr, ⟨Yw, Yc⟩, Ye, _, Yt, Y3, Y4⟩ := b2 y hy
          obtain ⟨s0, M0, hm⟩ := (b2 y hy).mo
          have hT : 0 < T.length := Nat.lt_of_le_of_lt (Nat.zero_le _) hm.1
          have zy : ∀ a j, 243 + 9 * y ≤ a → a ≤ 243 + 9 * y + 8 → ¬ (a = 243 + 9 * y ∧ (j = 7 ∨ j = 8)) → G' a j = G a j := fun a j y1 y2 y3 => g a j (by omega) (by omega) y3
          refine ⟨(Yr.ge k3 k2 sf ⟨zy _ _ (by omega) (by omega) (by omega), zy _ _ (by omega) (by omega) (by omega), fun j _ _ => zy _ _ (by omega) (by omega) (by omega)⟩).app tx hP, ⟨fun p hp => by rw [zy _ _ (by omega) (by omega) (by omega)]; exact Yw p hp, fun c hc => by rw [zy _ _ (by omega) (by omega) (by omega)]; exact Yc c hc⟩, .inr ⟨by show (0 : Int) ≤ (T.length : Int); omega, ?_, ?_⟩, ⟨s', ?_, cPn.nil d7⟩, (Yt.ge k3 k2 sf (fun c _ => ⟨zy _ _ (by omega) (by omega) (by omega), zy _ _ (by omega) (by omega) (by omega)⟩)).app tx (fun c hc => ?_), by rw [zy _ _ (by omega) (by omega) (by omega)]; exact Y3, fun hne => by rw [zy _ _ (by omega) (by omega) (by omega)]; exact Y4 hne⟩
          · show P' ((T.length : Int)).toNat ≠ 0
            rw [Int.toNat_natCast, hPn]
            omega
          · show G' (243 + 9 * y) 7 = ((P' ((T.length : Int)).toNat : Nat) : Int)
            rw [Int.toNat_natCast, hPn]
            exact d6
          · have : lnE (lnD (lns y) [] (T.length : Int) (lns y).2.2.2.1.2.2) = T.length := by
              show (if (T.length : Int) = -1 then _ else (T.length : Int).toNat) = _
              rw [if_neg (by omega), Int.toNat_natCast]
            rw [this, gl]
            exact d1
          · rcases hW y hy c with z | z
            · rw [z]; exact hT
            · exact z.2.1
        · rw [if_neg d]
          exact ((b2 y hy).ge k3 k2 sf (fun a j y1 y2 => g a j (by omega) (by omega) (by omega))).app tx pE (hW y hy) hP
      · unfold lUp
        rw [if_pos rfl]
        have := (b3.ge k3 k2 sf ⟨g _ _ (by omega) (by omega) (by omega), g _ _ (by omega) (by omega) (by omega)⟩).app tx hP
        exact this
end
