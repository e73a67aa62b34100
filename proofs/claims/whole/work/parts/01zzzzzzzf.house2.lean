/-! The house: what waits in a line -/
def lnD (ln : sLn) (ps : List pPe) (e : Int) (W : Nat → Int) : sLn := (ln.1, ln.2.1, ln.2.2.1, (ps, e, W), ln.2.2.2.2)
/-- a text that a house took as an edition -/
def edOk (T : List (List Int)) (e : Int) : Prop := e = -1 ∨ 0 ≤ e ∧ e.toNat < T.length ∧ ∃ s, qPr (T.getD e.toNat []) = .inr s ∧ qOk s ∧ wNh s
def ceOk (T : List (List Int)) (W : Nat → Int) : Prop := ∀ c, W c = -1 ∨ 0 ≤ W c ∧ (W c).toNat < T.length ∧ (c < 72 → (W c).toNat ≠ 0 → ∃ r, qCt (T.getD (W c).toNat []) = .inr r ∧ r.1 = (c : Int) ∧ r.2.2 ≠ -1)
theorem edOk.app {T : List (List Int)} {e : Int} (t : List Int) (h : edOk T e) : edOk (T ++ [t]) e := by
  rcases h with q | ⟨q1, q2, q3⟩
  · exact .inl q
  · exact .inr ⟨q1, by rw [List.length_append]; omega, by rw [getD_app _ q2]; exact q3⟩
theorem ceOk.app {T : List (List Int)} {W : Nat → Int} (t : List Int) (h : ceOk T W) : ceOk (T ++ [t]) W := fun c => by
  rcases h c with q | ⟨q1, q2, q3⟩
  · exact .inl q
  · exact .inr ⟨q1, by rw [List.length_append]; omega, by rw [getD_app _ q2]; exact q3⟩
theorem sOk.ed {T : List (List Int)} {ln : sLn} {n : Nat} (h : sOk T ln n) : edOk T ln.2.2.2.1.2.1 ∧ ceOk T ln.2.2.2.1.2.2 ∧ ∀ e ∈ ln.2.2.2.1.1, ∀ x ∈ e.2.2, vOk x := ⟨h.2.2.2.2.2.2.2.2.1, h.2.2.2.2.2.2.2.2.2, h.2.2.2.2.2.2.2.1⟩
theorem sOk.pd {T : List (List Int)} {ln : sLn} {n : Nat} {ps : List pPe} {e : Int} {W : Nat → Int} (h : sOk T ln n) (hps : ∀ e ∈ ps, ∀ x ∈ e.2.2, vOk x) (he : edOk T e) (hW : ceOk T W) : sOk T (lnD ln ps e W) n := by
  obtain ⟨a1, a2, a3, a4, a5, a6, a7, a8, a9, a10⟩ := h
  exact ⟨a1, a2, a3, a4, a5, a6, a7, hps, he, hW⟩
theorem rLn.pd {G G' : xG_} {o : Nat} {T : List (List Int)} {ln : sLn} {s : pPg} {M : Nat → List pRw} {ps : List pPe} {e : Int} {W : Nat → Int} (h : rLn G o T ln s M) (hx : ∀ a j, o ≤ a → a ≤ o + 28 → ¬ (a = o ∧ (j = 33 ∨ j = 34)) → a ≠ o + 24 → a ≠ o + 25 → a ≠ o + 26 → a ≠ o + 27 → a ≠ o + 28 → G' a j = G a j) (hp : rPe G' o ps) (he : G' o 34 = e) (hW : ∀ c, c < 72 → G' (o + 26) c = W c) : rLn G' o T (lnD ln ps e W) s M := by
  obtain ⟨r1, ⟨r2, r3, r4, r5⟩, r6, r7, r8, r9, r10, ⟨E, r11, r12⟩, r18, ⟨r13, r14, r15⟩, r16, r17⟩ := h
  have zl : ∀ a j, o ≤ a → a ≤ o + 23 → ¬ (a = o ∧ (j = 33 ∨ j = 34)) → G' a j = G a j := fun a j q1 q2 q3 => hx _ _ q1 (by omega) q3 (by omega) (by omega) (by omega) (by omega) (by omega)
  refine ⟨⟨r1.1.ge (zl _ _ (by omega) (by omega) (by omega)) (fun a j _ _ => zl _ _ (by omega) (by omega) (by omega)), r1.2.1.ge (zl _ _ (by omega) (by omega) (by omega)) (fun a j _ _ => zl _ _ (by omega) (by omega) (by omega)), r1.2.2.1.ge (zl _ _ (by omega) (by omega) (by omega)) (fun a j _ _ => zl _ _ (by omega) (by omega) (by omega)), r1.2.2.2⟩, ⟨by rw [zl _ _ (by omega) (by omega) (by omega)]; exact r2, by rw [zl _ _ (by omega) (by omega) (by omega)]; exact r3, by rw [zl _ _ (by omega) (by omega) (by omega)]; exact r4, by rw [zl _ _ (by omega) (by omega) (by omega)]; exact r5⟩, r6.ge (zl _ _ (by omega) (by omega) (by omega)) (fun a j _ _ => zl _ _ (by omega) (by omega) (by omega)), fun c hc => by rw [zl _ _ (by omega) (by omega) (by omega)]; exact r7 c hc, fun c hc => by rw [zl _ _ (by omega) (by omega) (by omega), zl _ _ (by omega) (by omega) (by omega)]; exact r8 c hc, fun p hp => by rw [zl _ _ (by omega) (by omega) (by omega)]; exact r9 p hp, fun c hc => by rw [zl _ _ (by omega) (by omega) (by omega)]; exact r10 c hc, ⟨E, ⟨by rw [zl _ _ (by omega) (by omega) (by omega)]; exact r11.1, r11.2.1, fun i hi => ?_⟩, r12⟩, r18.ge (fun j => zl _ _ (by omega) (by omega) (by omega)), ⟨hp, he, hW⟩, by rw [zl _ _ (by omega) (by omega) (by omega)]; exact r16, by rw [zl _ _ (by omega) (by omega) (by omega)]; exact r17⟩
  obtain ⟨b1, b2, b3⟩ := r11.2.2 i hi
  exact ⟨by rw [zl _ _ (by omega) (by omega) (by omega)]; exact b1, by rw [zl _ _ (by omega) (by omega) (by omega)]; exact b2, fun j hj => by rw [zl _ _ (by omega) (by omega) (by omega)]; exact b3 j hj⟩
/-- one line is another -/
def lUp (lns : Nat → sLn) (hr : Nat) (ln : sLn) : Nat → sLn := fun k => if k = hr then ln else lns k
theorem lUp_s {lns : Nat → sLn} {hr : Nat} {ln : sLn} : lUp lns hr ln hr = ln := if_pos rfl
theorem lUp_n {lns : Nat → sLn} {hr k : Nat} {ln : sLn} (h : k ≠ hr) : lUp lns hr ln k = lns k := if_neg h
section
variable {f m n hr : Nat} {T : List (List Int)} {lns : Nat → sLn} {t : List Int}
theorem rHb.pd {G G' : xG_} {ps : List pPe} {e : Int} {W : Nat → Int} {T' : List (List Int)} {m' : Nat} (h : rHb G T m lns hr n) (hT : T' = T ∨ ∃ t, T' = T ++ [t]) (hTx : rTxs G' T' m') (h0 : ∀ j, 12 ≤ j ∧ j ≤ 20 ∨ 62 ≤ j ∧ j ≤ 66 → G' 0 j = G 0 j) (h1 : ∀ a j, 2 ≤ a → a ≤ 36 → G' a j = G a j) (h2 : ∀ a j, 107 ≤ a → a ≤ 109 → G' a j = G a j)
    (hx : ∀ a j, 123 ≤ a → a ≤ 238 → ¬ (a = 123 + 29 * hr ∧ (j = 33 ∨ j = 34)) → a ≠ 123 + 29 * hr + 24 → a ≠ 123 + 29 * hr + 25 → a ≠ 123 + 29 * hr + 26 → a ≠ 123 + 29 * hr + 27 → a ≠ 123 + 29 * hr + 28 → G' a j = G a j) (hp : rPe G' (123 + 29 * hr) ps) (he : G' (123 + 29 * hr) 34 = e) (hW : ∀ c, c < 72 → G' (123 + 29 * hr + 26) c = W c) (hps : ∀ e ∈ ps, ∀ x ∈ e.2.2, vOk x) (he2 : edOk T' e) (hW2 : ceOk T' W) : rHb G' T' m' (lUp lns hr (lnD (lns hr) ps e W)) hr n := by
  have hc := h.c
  obtain ⟨a1, a2, a3, a4, a5, a6, a7, a8, a9⟩ := h
  have up : ∀ {ln : sLn} {s : pPg} {M : Nat → List pRw} {Z : xG_} {o : Nat}, isMo T (lMo ln) s M → rLn Z o T ln s M → sOk T ln n → isMo T' (lMo ln) s M ∧ rLn Z o T' ln s M ∧ sOk T' ln n := fun {ln s M Z o} y1 y2 y3 => by
    rcases hT with q | ⟨t, q⟩
    · rw [q]; exact ⟨y1, y2, y3⟩
    · rw [q]; exact ⟨y1.app t, y2.app t (y1.2.2.2.2.2.2.1), y3.app t⟩
  refine rHb.of ⟨a1.ge (fun j _ _ => h0 j (by omega)), hTx, fun k hk => ?_⟩ (by rw [h0 _ (by omega)]; exact a3) a4 (by rw [h0 _ (by omega)]; exact a6) (by rw [h0 _ (by omega)]; exact a7) (by rw [h0 _ (by omega), h0 _ (by omega)]; exact a8) ?_
  · obtain ⟨s, M, x1, x2, x3⟩ := a5 k hk
    obtain ⟨y1, y2, y3⟩ := up x1 x2 x3
    by_cases d : k = hr
    · rw [d] at y1 y2 y3 ⊢
      rw [lUp_s]
      exact ⟨s, M, y1, y2.pd (fun a j q1 q2 q3 q4 q5 q6 q7 q8 => hx a j (by omega) (by omega) q3 q4 q5 q6 q7 q8) hp he hW, y3.pd hps he2 hW2⟩
    · rw [lUp_n d]
      exact ⟨s, M, y1, y2.ge (fun a j _ _ => hx _ _ (by omega) (by omega) (by omega) (by omega) (by omega) (by omega) (by omega) (by omega)), y3⟩
  · intro e1 k hk e2 s M hM
    rw [h0 _ (by omega), h0 _ (by omega)] at e1
    rw [h0 _ (by omega)] at e2
    obtain ⟨s', M', x1, x2, x3⟩ := a5 k hk
    obtain ⟨q, c, hE⟩ := a9 e1 k hk e2 s' M' x1
    have hM' : isMo T' (lMo (lns k)) s M := by
      by_cases d : k = hr
      · rw [d] at hM ⊢
        rw [lUp_s] at hM
        exact hM
      · rw [lUp_n d] at hM
        exact hM
    obtain ⟨e3, e4⟩ := isMo_u (up x1 x2 x3).1 hM'
    subst e3
    exact ⟨q, c, (hE.ge h1 h2).ext e4⟩
/-- program() -/
def stPg (T : List (List Int)) (lns : Nat → sLn) (hr : Nat) (t : List Int) (v pl : Int) (T' : List (List Int)) (lns' : Nat → sLn) : Prop :=
  (qPrg t v pl ∧ T' = T ∧ lns' = lns) ∨ (∃ s, qPr t = .inr s ∧ (∀ k a, ¬ pFa s 0 k a) ∧ v = (s.2.2.2.2.1.length : Int) ∧ pl = -1 ∧ T' = T ++ [t] ∧ lns' = lUp lns hr (lnD (lns hr) [] (T.length : Int) (lns hr).2.2.2.1.2.2))
def xfPg (G G' : xG_) : Prop := ∀ a j, ¬ (a = 0 ∧ (j ≤ 11 ∨ 21 ≤ j ∧ j ≤ 27 ∨ 71 ≤ j ∧ j ≤ 75 ∨ 89 ≤ j ∧ j ≤ 91)) → a ≠ 1 → ¬ (72 ≤ a ∧ a ≤ 106) → ¬ (123 ≤ a ∧ a ≤ 242 ∧ a ≠ 240) → ¬ (258 ≤ a ∧ a ≤ 274) → G' a j = G a j
theorem lUp_same {hr : Nat} : lUp lns hr (lnD (lns hr) (lns hr).2.2.2.1.1 (lns hr).2.2.2.1.2.1 (lns hr).2.2.2.1.2.2) = lns := by
  funext k
  by_cases d : k = hr
  · rw [d, lUp_s]; rfl
  · rw [lUp_n d]
theorem l_363h {G : xG_} (hf : 6400 < f) (h : rHb G T m lns hr n) (hp : rTp G t) (hc : T.length < 4200) (hm : m + t.length ≤ 90000) :
    ∃ v G' T' m' lns', g363 f G = some (v, G') ∧ stPg T lns hr t v (G' 0 75) T' lns' ∧ rHb G' T' m' lns' hr n ∧ m' ≤ m + t.length ∧ G' 0 73 = 0 ∧ G' 0 74 = 0 ∧ xfPg G G' := by
  have h' := h
  obtain ⟨a1, a2, a3, a4, a5, a6, a7, a8, a9⟩ := h
  obtain ⟨s0, M0, b1, b2, b3⟩ := a5 hr a4
  obtain ⟨G', v, u1, u2, u3, u4, u5⟩ := l_363 (f := f) (h := hr) (o := 123 + 29 * hr) hf a4 rfl a3 a1 a2 hp hc hm
  have hpp := b2.2.2.2.2.2.2.2.2.2.1
  have fr : xfPg G G' := fun a j q1 q2 q3 q4 q5 => u4 a j (by omega) (by omega) q2 q3 (by omega) (by omega) (by omega)
  have z : ∀ a j, ¬ (a = 123 + 29 * hr ∧ (j = 33 ∨ j = 34)) → 123 ≤ a → a ≤ 238 → G' a j = G a j := fun a j q1 q2 q3 => u4 a j q1 (by omega) (by omega) (by omega) (by omega) (by omega) (by omega)
  have g0 : ∀ j, 12 ≤ j ∧ j ≤ 20 ∨ 62 ≤ j ∧ j ≤ 66 → G' 0 j = G 0 j := fun j _ => u4 _ _ (by omega) (by omega) (by omega) (by omega) (by omega) (by omega) (by omega)
  have g1 : ∀ a j, 2 ≤ a → a ≤ 36 → G' a j = G a j := fun a j _ _ => u4 _ _ (by omega) (by omega) (by omega) (by omega) (by omega) (by omega) (by omega)
  have g2 : ∀ a j, 107 ≤ a → a ≤ 109 → G' a j = G a j := fun a j _ _ => u4 _ _ (by omega) (by omega) (by omega) (by omega) (by omega) (by omega) (by omega)
  obtain ⟨ed1, ed2, ed3⟩ := b3.ed
  rcases u5 with ⟨w1, w2, w3, w4⟩ | ⟨s, w1, w2, w3, w4, w5, w6, w7⟩
  · have hH : rHb G' T m (lUp lns hr (lnD (lns hr) (lns hr).2.2.2.1.1 (lns hr).2.2.2.1.2.1 (lns hr).2.2.2.1.2.2)) hr n := h'.pd (.inl rfl) w2 g0 g1 g2 (fun a j q1 q2 q3 _ _ _ _ _ => z a j q3 q1 q2) (hpp.1.ge w3 (fun a j _ _ => z _ _ (by omega) (by omega) (by omega))) (w4.trans hpp.2.1) (fun c hc => by rw [z _ _ (by omega) (by omega) (by omega)]; exact hpp.2.2 c hc) ed3 ed1 ed2
    rw [lUp_same] at hH
    exact ⟨v, G', T, m, lns, u1, .inl ⟨w1, rfl, rfl⟩, hH, by omega, u2, u3, fr⟩
  · have htx := hp.2.2.tx
    refine ⟨v, G', T ++ [t], m + t.length, _, u1, .inr ⟨s, w1, w2, w3, w4, rfl, rfl⟩, ?_, Nat.le_refl _, u2, u3, fr⟩
    refine h'.pd (.inr ⟨t, rfl⟩) w5 g0 g1 g2 (fun a j q1 q2 q3 _ _ _ _ _ => z a j q3 q1 q2) ⟨w6, Nat.zero_le _, fun k hk => absurd hk (Nat.not_lt_zero k)⟩ w7 (fun c hc => by rw [z _ _ (by omega) (by omega) (by omega)]; exact hpp.2.2 c hc) (fun e he => absurd he (by simp)) (.inr ⟨by omega, by rw [List.length_append, List.length_singleton]; omega, s, ?_, qOk_of htx hp.2.1 w1 w2, wNh_of w1 w2⟩) (ed2.app t)
    rw [Int.toNat_natCast]
    exact (congrArg qPr (getD_apr [t] 0)).trans w1
end
