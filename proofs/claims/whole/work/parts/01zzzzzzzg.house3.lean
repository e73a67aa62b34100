/-! The house: change(), cell(), round(), sheet() -/
theorem pVals_ok {t : tStr} (ht : tOk t) : ∀ (m : Nat) (vs : List Int) (i : Nat) (r : List Int × Nat), pVals t m vs i = .inr r → (∀ x ∈ vs, vOk x) → ∀ x ∈ r.1, vOk x := by
  intro m
  induction m with
  | zero => intro vs i r h hv; cases h; exact hv
  | succ m ih =>
    intro vs i r h hv
    unfold pVals at h
    split at h
    · obtain ⟨v, h1, h2⟩ := pbind_inr h
      refine ih _ _ _ h2 (fun x hx => ?_)
      rcases List.mem_append.mp hx with q | q
      · exact hv x q
      · rw [List.mem_singleton.mp q]; exact ht _ _ h1
    · cases h; exact hv
theorem pCs_ok {t : tStr} (ht : tOk t) : ∀ (k : Nat) (cs : List pCh) (i : Nat) (r : List pCh), pCs t k cs i = .inr r → (∀ c ∈ cs, ∀ x ∈ c.2.2.2, vOk x) → ∀ c ∈ r, ∀ x ∈ c.2.2.2, vOk x := by
  intro k
  induction k with
  | zero => intro cs i r h _; cases h
  | succ k ih =>
    intro cs i r h hc
    unfold pCs at h
    split at h
    · cases h; exact hc
    split at h
    · cases h
    obtain ⟨y, h1, h2⟩ := pbind_inr h
    refine ih _ _ _ h2 (fun c hcm => ?_)
    rcases List.mem_append.mp hcm with q | q
    · exact hc c q
    · rw [List.mem_singleton.mp q]
      show ∀ x ∈ y.2.1, vOk x
      unfold pC1 at h1
      obtain ⟨n, _, h1⟩ := pbind_inr h1
      obtain ⟨j, _, h1⟩ := pbind_inr h1
      obtain ⟨z, h3, h4⟩ := pbind_inr h1
      cases h4
      show ∀ x ∈ z.1, vOk x
      unfold pCv at h3
      obtain ⟨v, h5, h3⟩ := pbind_inr h3
      obtain ⟨w, h6, h3⟩ := pbind_inr h3
      obtain ⟨j2, _, h7⟩ := pbind_inr h3
      cases h7
      show ∀ x ∈ w.1, vOk x
      refine pVals_ok ht _ _ _ w h6 (fun x hx => ?_)
      rw [List.nil_append] at hx
      rw [List.mem_singleton.mp hx]
      exact ht _ _ h5
theorem qChg_ok {s : pPg} {ps : List pPe} {t : List Int} (hB : tTx (tBt t) t.length) (h : ∀ e ∈ ps, ∀ x ∈ e.2.2, vOk x) : ∀ e ∈ (qChg s ps t).2.2, ∀ x ∈ e.2.2, vOk x := by
  unfold qChg
  cases hq : pCs (tstr (tBt t) t.length false) (t.length + 1) [] 0 with
  | inl w => exact h
  | inr cs =>
    simp only []
    split
    · exact h
    split
    · exact h
    · intro e he
      rcases List.mem_append.mp he with q | q
      · exact h e q
      · obtain ⟨c, c1, c2⟩ := List.mem_map.mp q
        rw [← c2]
        exact pCs_ok (tstr_ck hB).2 _ _ _ _ hq (fun c hc => absurd hc (by simp)) c c1
section
variable {f m n hr : Nat} {T : List (List Int)} {lns : Nat → sLn} {t : List Int}
/-- the program that CHANGES are told to -/
def stCh (T : List (List Int)) (lns : Nat → sLn) (hr : Nat) (t : List Int) (v pl : Int) (lns' : Nat → sLn) : Prop :=
  ∃ s, qPr (T.getD (lnE (lns hr)) []) = .inr s ∧ qOk s ∧ v = (qChg s (lns hr).2.2.2.1.1 t).1 ∧ pl = (qChg s (lns hr).2.2.2.1.1 t).2.1 ∧ lns' = lUp lns hr (lnP (lns hr) (qChg s (lns hr).2.2.2.1.1 t).2.2)
theorem l_365h {G : xG_} (hf : 6400 < f) (h : rHb G T m lns hr n) (hp : rTp G t) :
    ∃ v G' lns', g365 f G = some (v, G') ∧ stCh T lns hr t v (G' 0 75) lns' ∧ rHb G' T m lns' hr n ∧ G' 0 73 = 0 ∧ G' 0 74 = 0 ∧ xfPg G G' := by
  have h' := h
  obtain ⟨a1, a2, a3, a4, a5, a6, a7, a8, a9⟩ := h
  obtain ⟨s0, M0, b1, b2, b3⟩ := a5 hr a4
  obtain ⟨ed1, ed2, ed3⟩ := b3.ed
  have hpp := b2.2.2.2.2.2.2.2.2.2.1
  have hs : ∃ s, lnE (lns hr) < T.length ∧ qPr (T.getD (lnE (lns hr)) []) = .inr s ∧ qOk s ∧ (G (123 + 29 * hr) 34 = (lnE (lns hr) : Int) ∨ G (123 + 29 * hr) 34 = -1 ∧ G (123 + 29 * hr) 1 = (lnE (lns hr) : Int)) := by
    unfold lnE
    by_cases c : (lns hr).2.2.2.1.2.1 = -1
    · simp only [if_pos c]
      exact ⟨s0, b1.1, b1.2.1, b1.2.2.1, .inr ⟨by rw [hpp.2.1]; exact c, b2.2.1.1⟩⟩
    · simp only [if_neg c]
      rcases ed1 with q | ⟨q1, q2, s, q3, q4, _⟩
      · exact absurd q c
      · exact ⟨s, q2, q3, q4, .inl (by rw [hpp.2.1]; omega)⟩
  obtain ⟨s, s1, s2, s3, s4⟩ := hs
  obtain ⟨G', u1, u2, u3, u4, u5, u6⟩ := l_365 (f := f) (h := hr) (o := 123 + 29 * hr) (e := lnE (lns hr)) hf a4 rfl a3 a1 a2 hp s1 s4 s2 hpp.1
  have z : ∀ a j, 123 ≤ a → a ≤ 238 → ¬ (a = 123 + 29 * hr ∧ j = 33) → a ≠ 123 + 29 * hr + 24 → a ≠ 123 + 29 * hr + 25 → a ≠ 123 + 29 * hr + 27 → a ≠ 123 + 29 * hr + 28 → G' a j = G a j := fun a j q1 q2 q3 q4 q5 q6 q7 => u6 a j (by omega) (by omega) (by omega) (by omega) q3 q4 q5 q6 q7
  have g0 : ∀ a j, ¬ (a = 0 ∧ (j ≤ 11 ∨ 21 ≤ j ∧ j ≤ 27 ∨ 73 ≤ j ∧ j ≤ 75)) → a ≠ 1 → ¬ (72 ≤ a ∧ a ≤ 106) → ¬ (271 ≤ a ∧ a ≤ 274) → ¬ (123 ≤ a ∧ a ≤ 238) → G' a j = G a j := fun a j q1 q2 q3 q4 q5 => u6 a j q1 q2 q3 q4 (by omega) (by omega) (by omega) (by omega) (by omega)
  refine ⟨_, G', _, u1, ⟨s, s2, s3, rfl, u2, rfl⟩, ?_, u4, u5, fun a j q1 q2 q3 q4 q5 => u6 a j (by omega) q2 q3 (by omega) (by omega) (by omega) (by omega) (by omega) (by omega)⟩
  exact h'.pd (.inl rfl) (a2.ge (g0 _ _ (by omega) (by omega) (by omega) (by omega) (by omega)) (g0 _ _ (by omega) (by omega) (by omega) (by omega) (by omega)) (fun a j _ => g0 _ _ (by omega) (by omega) (by omega) (by omega) (by omega))) (fun j _ => g0 _ _ (by omega) (by omega) (by omega) (by omega) (by omega)) (fun a j _ _ => g0 _ _ (by omega) (by omega) (by omega) (by omega) (by omega)) (fun a j _ _ => g0 _ _ (by omega) (by omega) (by omega) (by omega) (by omega)) (fun a j q1 q2 q3 q4 q5 q6 q7 q8 => z a j q1 q2 (by omega) q4 q5 q7 q8) u3 (by rw [z _ _ (by omega) (by omega) (by omega) (by omega) (by omega) (by omega) (by omega)]; exact hpp.2.1) (fun c hc => by rw [z _ _ (by omega) (by omega) (by omega) (by omega) (by omega) (by omega) (by omega)]; exact hpp.2.2 c hc) (qChg_ok hp.2.2.tx ed3) ed1 ed2
/-- cell() -/
def stCe (T : List (List Int)) (lns : Nat → sLn) (hr : Nat) (t : List Int) (v : Int) (T' : List (List Int)) (lns' : Nat → sLn) : Prop := pok (qCt t) (fun w => v = xwr (-1 - (w : Int)) ∧ T' = T ∧ lns' = lns)
  (fun r => v = r.1 ∧ ((r.2.2 = -1 ∧ T' = T ∧ lns' = lUp lns hr (lnD (lns hr) (lns hr).2.2.2.1.1 (lns hr).2.2.2.1.2.1 (fun c => if c = r.1.toNat then 0 else (lns hr).2.2.2.1.2.2 c))) ∨ (r.2.2 ≠ -1 ∧ T' = T ++ [t] ∧ lns' = lUp lns hr (lnD (lns hr) (lns hr).2.2.2.1.1 (lns hr).2.2.2.1.2.1 (fun c => if c = r.1.toNat then (T.length : Int) else (lns hr).2.2.2.1.2.2 c)))))
theorem l_356h {G : xG_} (hf : 6400 < f) (h : rHb G T m lns hr n) (hp : rTp G t) (hc : T.length < 4200) (hm : m + t.length ≤ 90000) :
    ∃ v G' T' m' lns', g356 f G = some (v, G') ∧ stCe T lns hr t v T' lns' ∧ rHb G' T' m' lns' hr n ∧ m' ≤ m + t.length ∧ G' 0 73 = 0 ∧ G' 0 74 = 0 ∧ G' 0 75 = G 0 75 ∧ xfPg G G' := by
  have h' := h
  obtain ⟨a1, a2, a3, a4, a5, a6, a7, a8, a9⟩ := h
  obtain ⟨s0, M0, b1, b2, b3⟩ := a5 hr a4
  obtain ⟨ed1, ed2, ed3⟩ := b3.ed
  have hpp := b2.2.2.2.2.2.2.2.2.2.1
  obtain ⟨G', v, u1, u2, u3, u4, u5⟩ := l_356 (f := f) (h := hr) (o := 123 + 29 * hr) hf a4 rfl a3 a1 a2 hp hc hm
  have fr : xfPg G G' := fun a j q1 q2 q3 q4 q5 => u4 a j (by omega) (by omega) (by omega) (by omega) (by omega) (by omega)
  have z : ∀ a j, 123 ≤ a → a ≤ 238 → a ≠ 123 + 29 * hr + 26 → G' a j = G a j := fun a j q1 q2 q3 => u4 a j (by omega) (by omega) (by omega) (by omega) (by omega) q3
  have g0 : ∀ j, 12 ≤ j ∧ j ≤ 20 ∨ 62 ≤ j ∧ j ≤ 66 → G' 0 j = G 0 j := fun j _ => u4 _ _ (by omega) (by omega) (by omega) (by omega) (by omega) (by omega)
  have g1 : ∀ a j, 2 ≤ a → a ≤ 36 → G' a j = G a j := fun a j _ _ => u4 _ _ (by omega) (by omega) (by omega) (by omega) (by omega) (by omega)
  have g2 : ∀ a j, 107 ≤ a → a ≤ 109 → G' a j = G a j := fun a j _ _ => u4 _ _ (by omega) (by omega) (by omega) (by omega) (by omega) (by omega)
  have h75 : G' 0 75 = G 0 75 := u4 _ _ (by omega) (by omega) (by omega) (by omega) (by omega) (by omega)
  have h34 : G' (123 + 29 * hr) 34 = (lns hr).2.2.2.1.2.1 := by rw [z _ _ (by omega) (by omega) (by omega)]; exact hpp.2.1
  have hpe : rPe G' (123 + 29 * hr) (lns hr).2.2.2.1.1 := by
    obtain ⟨y1, y2, y3⟩ := hpp.1
    refine ⟨by rw [z _ _ (by omega) (by omega) (by omega)]; exact y1, y2, fun k hk => ?_⟩
    obtain ⟨w1, w2, w3, w4, w5⟩ := y3 k hk
    exact ⟨by rw [z _ _ (by omega) (by omega) (by omega)]; exact w1, by rw [z _ _ (by omega) (by omega) (by omega)]; exact w2, by rw [z _ _ (by omega) (by omega) (by omega)]; exact w3, w4, fun j hj => by rw [z _ _ (by omega) (by omega) (by omega)]; exact w5 j hj⟩
  unfold stCe
  cases hq : qCt t with
  | inl w =>
    rw [hq] at u5
    obtain ⟨w1, w2, w3⟩ := u5
    have hH : rHb G' T m (lUp lns hr (lnD (lns hr) (lns hr).2.2.2.1.1 (lns hr).2.2.2.1.2.1 (lns hr).2.2.2.1.2.2)) hr n := h'.pd (.inl rfl) w2 g0 g1 g2 (fun a j q1 q2 q3 _ _ q4 _ _ => z a j q1 q2 q4) hpe h34 (fun c hc => by rw [w3]; exact hpp.2.2 c hc) ed3 ed1 ed2
    rw [lUp_same] at hH
    exact ⟨v, G', T, m, lns, u1, ⟨w1, rfl, rfl⟩, hH, by omega, u2, u3, h75, fr⟩
  | inr r =>
    rw [hq] at u5
    obtain ⟨w1, w2, w3, w4, w5⟩ := u5
    rcases w5 with ⟨y1, y2, y3⟩ | ⟨y1, y2, y3⟩
    · refine ⟨v, G', T, m, _, u1, ⟨w1, .inl ⟨y1, rfl, rfl⟩⟩, ?_, by omega, u2, u3, h75, fr⟩
      refine h'.pd (.inl rfl) y3 g0 g1 g2 (fun a j q1 q2 q3 _ _ q4 _ _ => z a j q1 q2 q4) hpe h34 (fun c hc => ?_) ed3 ed1 (fun c => ?_)
      · by_cases d : c = r.1.toNat
        · simp only [if_pos d]; rw [d]; exact y2
        · simp only [if_neg d]; rw [w4 c d]; exact hpp.2.2 c hc
      · by_cases d : c = r.1.toNat
        · simp only [if_pos d]
          exact .inr ⟨Int.le_refl _, by have := b1.1; show 0 < T.length; omega, fun _ q => absurd rfl q⟩
        · simp only [if_neg d]; exact ed2 c
    · refine ⟨v, G', T ++ [t], m + t.length, _, u1, ⟨w1, .inr ⟨y1, rfl, rfl⟩⟩, ?_, Nat.le_refl _, u2, u3, h75, fr⟩
      refine h'.pd (.inr ⟨t, rfl⟩) y3 g0 g1 g2 (fun a j q1 q2 q3 _ _ q4 _ _ => z a j q1 q2 q4) hpe h34 (fun c hc => ?_) ed3 (ed1.app t) (fun c => ?_)
      · by_cases d : c = r.1.toNat
        · simp only [if_pos d]; rw [d]; exact y2
        · simp only [if_neg d]; rw [w4 c d]; exact hpp.2.2 c hc
      · by_cases d : c = r.1.toNat
        · simp only [if_pos d]
          refine .inr ⟨by omega, by rw [Int.toNat_natCast, List.length_append, List.length_singleton]; omega, fun _ _ => ⟨r, ?_, by omega, y1⟩⟩
          rw [Int.toNat_natCast]
          exact (congrArg qCt (getD_apr [t] 0)).trans hq
        · simp only [if_neg d]; exact ed2.app t c
/-- round() -/
theorem l_298h {G : xG_} (hf : 1000100 < f) (hn : n < 900) (h : rHb G T m lns hr n) :
    ∃ v G' ln' good, g298 f G = some (v, G') ∧ stRd T (lns hr) v ln' good ∧ rHb G' T m (lUp lns hr ln') hr (n + 1) ∧ G' 0 63 = (if good = true then G 0 63 else G 0 63 + 1) ∧ G' 0 74 = 0 ∧ xfHo G G' := by
  have h' := h.mo (Nat.le_succ n)
  obtain ⟨a1, a2, a3, a4, a5, a6, a7, a8, a9⟩ := h
  obtain ⟨s0, M0, b1, b2, b3⟩ := a5 hr a4
  obtain ⟨v, G', ln', good, s', M', u1, u2, u3, u4, u5, u6, u7, u8, u9⟩ := l_298 (f := f) (h := hr) (o := 123 + 29 * hr) hf (by omega : n < 1000) a4 rfl a3 a1 a2 b2 b1 b3 (by omega) (by omega)
  have e63 : G' 0 63 = (if good = true then G 0 63 else G 0 63 + 1) := by
    rcases u6 with ⟨q1, q2, _⟩ | ⟨q1, q2, _⟩
    · rw [if_pos q1]; exact q2
    · rw [if_neg (by rw [q1]; decide)]; exact q2
  refine ⟨v, G', ln', good, u1, u2, ?_, e63, u8, fun a j q1 q2 q3 q4 q5 => u9 a j (by omega) q2 (by omega) (by omega) (by omega) q5⟩
  refine rHb.of ⟨a1.ge (fun j _ _ => u9 _ _ (by omega) (by omega) (by omega) (by omega) (by omega) (by omega)), a2.ge (u9 _ _ (by omega) (by omega) (by omega) (by omega) (by omega) (by omega)) (u9 _ _ (by omega) (by omega) (by omega) (by omega) (by omega) (by omega)) (fun a j _ => u9 _ _ (by omega) (by omega) (by omega) (by omega) (by omega) (by omega)), fun k hk => ?_⟩ (by rw [u9 _ _ (by omega) (by omega) (by omega) (by omega) (by omega) (by omega)]; exact a3) a4 ?_ ?_ ?_ (fun e1 => ?_)
  · by_cases d : k = hr
    · rw [d, lUp_s]
      exact ⟨s', M', u4, u3, u5⟩
    · rw [lUp_n d]
      obtain ⟨s, M, x1, x2, x3⟩ := a5 k hk
      exact ⟨s, M, x1, x2.ge (fun a j _ _ => u9 _ _ (by omega) (by omega) (by omega) (by omega) (by omega) (by omega)), x3.mo (Nat.le_succ n)⟩
  · rcases u6 with ⟨q1, q2, q3⟩ | ⟨q1, q2, q3⟩ <;> omega
  · rcases u6 with ⟨q1, q2, q3⟩ | ⟨q1, q2, q3⟩ <;> omega
  · rcases u6 with ⟨q1, q2, q3⟩ | ⟨q1, q2, q3⟩ <;> omega
  · exfalso
    rcases u6 with ⟨q1, q2, q3⟩ | ⟨q1, q2, q3⟩ <;> omega
end
