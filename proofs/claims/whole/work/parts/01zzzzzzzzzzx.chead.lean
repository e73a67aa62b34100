/-! THE CLASS: headRow() -/
section
variable {f u a n c kz nv : Nat} {S : Nat → Nat × Nat × Nat} {G G' : xG_} {m : Nat × Nat} {K : pCd} {I : List pCd} {g : Int × Int × Int} {vl : Nat → Int} {gt v : Int} {r : Nat → Nat → Int → xT_ → Option (Int × xT_)}
theorem st_142z (hs : cSs S) (h3 : G 83 3 = (u : Int)) (hu : 278 < u) (us : S u = (1, 6, 20)) (h2 : G u 2 = (n : Int)) : c142_2b r f 83 a (n : Int) (S, G, m) = some (1, (S, G, m)) := by
  unfold c142_2b
  simp (disch := omega) only [cq_gi, cq_gr, cq_a, cq_s, cq_p, cq_pr, cq_is, cq_ar, cq_ab, cq_ln, xq_nz, Option.bind_some, xup2_n, xup2_s, Int.toNat_natCast, Int.reduceToNat, if_pos, if_neg, true_and, and_true, and_self, eq_self, if_true, reduceIte, not_true_eq_false, not_false_eq_true, or_true, true_or, s83 hs, h3, us, h2]
theorem st_142g (hs : cSs S) (h3 : G 83 3 = (u : Int)) (hu : 278 < u) (us : S u = (1, 6, 20)) (h2 : G u 2 = (n : Int)) (hg : G u 3 = gt) (hc : c < n) (e : (c : Int) = gt) (as : S a = (2, 4, kz)) (hck : c < kz) : c142_2b r f 83 a (c : Int) (S, G, m) = r 83 a (xwr ((c : Int) + 1)) (S, xup2 G a c 0, m) := by
  unfold c142_2b c142_35
  simp (disch := omega) only [cq_gi, cq_gr, cq_a, cq_s, cq_p, cq_pr, cq_is, cq_ar, cq_ab, cq_ln, xq_nz, Option.bind_some, xup2_n, xup2_s, Int.toNat_natCast, Int.reduceToNat, if_pos, if_neg, true_and, and_true, and_self, eq_self, if_true, reduceIte, not_true_eq_false, not_false_eq_true, or_true, true_or, s83 hs, h3, us, h2, hg, e.symm, as]
theorem st_142w (hs : cSs S) (h3 : G 83 3 = (u : Int)) (hu : 278 < u) (us : S u = (1, 6, 20)) (h2 : G u 2 = (n : Int)) (hg : G u 3 = gt) (hc : c < n) (e : ¬ (c : Int) = gt) (as : S a = (2, 4, kz)) (hck : c < kz) (ew : c141 f 83 (c : Int) (S, G, m) = some (v, (S, G', m))) : c142_2b r f 83 a (c : Int) (S, G, m) = if -1000000000000 ≤ v then r 83 a (xwr ((c : Int) + 1)) (S, xup2 G' a c v, m) else some (0, (S, xup2 G' a c v, m)) := by
  by_cases q : -1000000000000 ≤ v
  · rw [if_pos q]
    unfold c142_2b c142_35
    simp (disch := omega) only [cq_gi, cq_gr, cq_a, cq_s, cq_p, cq_pr, cq_is, cq_ar, cq_ab, cq_ln, xq_nz, Option.bind_some, xup2_n, xup2_s, Int.toNat_natCast, Int.reduceToNat, if_pos, if_neg, true_and, and_true, and_self, eq_self, if_true, reduceIte, not_true_eq_false, not_false_eq_true, or_true, true_or, s83 hs, h3, us, h2, hg, e, as, ew, q]
  · rw [if_neg q]
    unfold c142_2b c142_35
    simp (disch := omega) only [cq_gi, cq_gr, cq_a, cq_s, cq_p, cq_pr, cq_is, cq_ar, cq_ab, cq_ln, xq_nz, Option.bind_some, xup2_n, xup2_s, Int.toNat_natCast, Int.reduceToNat, if_pos, if_neg, true_and, and_true, and_self, eq_self, if_true, reduceIte, not_true_eq_false, not_false_eq_true, or_true, true_or, s83 hs, h3, us, h2, hg, e, as, ew, q]
/-- the HEAD's row: ITEMS that have a value -/
def wIe (nv : Nat) (I : List pCd) (gt : Int) : Prop := ∀ c, c < I.length → (c : Int) ≠ gt → wEx nv (I.getD c []) ∧ dB 12 (I.getD c [])
theorem cWy.row {v : Int} (h : cWy S G u K) : cWy S (xup2 G 103 c v) u K := by
  obtain ⟨a1, a2, a3, a4, a5, a6, ⟨b1, b2, b3, b4, b5⟩, a8⟩ := h
  have z : ∀ a j, a ≠ 103 → xup2 G 103 c v a j = G a j := fun a j ha => xup2_n (by omega)
  refine ⟨a1, a2.ge (fun a j hz => z a j ?_), by rw [z _ _ (by omega)]; exact a3, a4, a5, ?_, ⟨by rw [z _ _ (by omega)]; exact b1, by rw [z _ _ (by omega)]; exact b2, b3, b4, fun k hk => by rw [z _ _ (by omega), z _ _ (by omega)]; exact b5 k hk⟩, a8⟩
  · rcases hz with z | z | z | z | z | z | z | ⟨z, z1, z2, k, z3⟩ | z | z | z | ⟨k, z1, z2, z3⟩ <;> omega
  · unfold cRuP at a6 ⊢
    simp only [z u _ (by omega)]
    exact a6
theorem cIt.fx (h : cIt G u K g I) (hu : 278 < u) (hf : ∀ a j, 278 < a → G' a j = G a j) : cIt G' u K g I := by
  refine h.rule (fun k _ _ => hf _ _ hu) (fun a k _ _ => hf _ _ (by omega))
theorem k_142 (hf : 3010 < f) (hnI : I.length ≤ 4) (hwI : wIe nv I gt) : ∀ (d c fu : Nat) (G : xG_) (xs : List Int), c + d = I.length → d < fu → cWy S G u K → cIt G u K g I → G u 3 = gt → (∀ c, c < I.length → (c : Int) ≠ gt → cVl G (qVm (I.getD c [])) vl) → qMk I gt vl c = some xs → (∀ k, k < c → G 103 k = xs.getD k 0) → ∃ b G', c142_2 f fu 83 103 (c : Int) (S, G, m) = some (b, (S, G', m)) ∧ (∀ a k, a ≠ 92 → a ≠ 103 → G' a k = G a k) ∧ ((b = 1 ∧ ∃ ys, qMk I gt vl I.length = some ys ∧ ∀ k, k < I.length → G' 103 k = ys.getD k 0) ∨ (b = 0 ∧ qMk I gt vl I.length = none)) := by
  have nn : ∀ (d c : Nat), c + d = I.length → qMk I gt vl c = none → qMk I gt vl I.length = none := by
    intro d
    induction d with
    | zero => intro c h1 h2; rw [← h1]; exact h2
    | succ d ih =>
      intro c h1 h2
      refine ih (c + 1) (by omega) ?_
      show (qMk I gt vl c).bind _ = none
      rw [h2]; rfl
  intro d
  induction d with
  | zero =>
    intro c fu G xs e1 e2 hW hI hg hV hm hx
    obtain ⟨fu, rfl⟩ : ∃ t, fu = t + 1 := ⟨fu - 1, by omega⟩
    have hc : c = I.length := by omega
    subst hc
    exact ⟨1, G, st_142z (r := c142_2 f fu) hW.1 hW.2.2.1 hW.2.2.2.1 hW.2.2.2.2.1.1 hI.1, fun _ _ _ _ => rfl, .inl ⟨rfl, xs, hm, hx⟩⟩
  | succ d ih =>
    intro c fu G xs e1 e2 hW hI hg hV hm hx
    obtain ⟨fu, rfl⟩ : ∃ t, fu = t + 1 := ⟨fu - 1, by omega⟩
    have hc : c < I.length := by omega
    have ek : xwr ((c : Int) + 1) = ((c + 1 : Nat) : Int) := by rw [xwr_g _ (by omega) (by omega)]; omega
    have hu := hW.2.2.2.1
    have lx := qMk_len c xs hm
    have next : ∀ (G1 : xG_) (v : Int), (∀ a k, a ≠ 92 → G1 a k = G a k) → qMk I gt vl (c + 1) = some (xs ++ [v]) → cWy S G1 u K → ∃ b G', c142_2 f fu 83 103 ((c + 1 : Nat) : Int) (S, xup2 G1 103 c v, m) = some (b, (S, G', m)) ∧ (∀ a k, a ≠ 92 → a ≠ 103 → G' a k = G a k) ∧ ((b = 1 ∧ ∃ ys, qMk I gt vl I.length = some ys ∧ ∀ k, k < I.length → G' 103 k = ys.getD k 0) ∨ (b = 0 ∧ qMk I gt vl I.length = none)) := fun G1 v z1 hq hW1 => by
      have z2 : ∀ a k, a ≠ 92 → a ≠ 103 → xup2 G1 103 c v a k = G a k := fun a k y1 y2 => by rw [xup2_n (by omega), z1 a k y1]
      obtain ⟨b, G2, g1, g2, g3⟩ := ih (c + 1) fu (xup2 G1 103 c v) (xs ++ [v]) (by omega) (by omega) hW1.row (hI.fx hu (fun a j y => z2 a j (by omega) (by omega))) (by rw [z2 _ _ (by omega) (by omega)]; exact hg) (fun c' hc' hn => (hV c' hc' hn).ge (fun k => z2 _ _ (by omega) (by omega))) hq (fun k hk => by
        rw [getD_1]
        by_cases ck : k = xs.length
        · rw [if_pos ck, ck, lx, xup2_s]
        · rw [if_neg ck, xup2_n (by omega), z1 _ _ (by omega)]; exact hx k (by omega))
      exact ⟨b, G2, g1, fun a k y1 y2 => by rw [g2 a k y1 y2, z2 a k y1 y2], g3⟩
    by_cases cg : (c : Int) = gt
    · have st : c142_2 f (fu + 1) 83 103 (c : Int) (S, G, m) = _ := st_142g (r := c142_2 f fu) hW.1 hW.2.2.1 hu hW.2.2.2.2.1.1 hI.1 hg hc cg (s103 hW.1) (by omega)
      rw [ek] at st
      obtain ⟨b, G2, g1, g2, g3⟩ := next G 0 (fun _ _ _ => rfl) (by show (qMk I gt vl c).bind _ = _; rw [hm, Option.bind_some, if_pos cg]) hW
      exact ⟨b, G2, st.trans g1, g2, g3⟩
    · obtain ⟨w1, w2⟩ := hwI c hc cg
      obtain ⟨v, G1, g1, g2, g3⟩ := k_141w (f := f) (m := m) (s := c) hf (by omega) hW (hI.2.2.1 c hc) w1 w2 (hV c hc cg)
      have st : c142_2 f (fu + 1) 83 103 (c : Int) (S, G, m) = _ := st_142w (r := c142_2 f fu) hW.1 hW.2.2.1 hu hW.2.2.2.2.1.1 hI.1 hg hc cg (s103 hW.1) (by omega) g1
      have hW1 : cWy S G1 u K := hW.ge (fun a k _ _ _ _ _ _ y _ => g2 a k y)
      cases ho : qEv vl (I.getD c []) with
      | some x =>
        rw [ho] at g3
        obtain ⟨rfl, hx2⟩ : v = x ∧ vOk x := g3
        rw [if_pos (by rcases hx2 with q | q <;> omega), ek] at st
        obtain ⟨b, G2, i1, i2, i3⟩ := next G1 v g2 (by show (qMk I gt vl c).bind _ = _; rw [hm, Option.bind_some, if_neg cg, ho]; rfl) hW1
        exact ⟨b, G2, st.trans i1, i2, i3⟩
      | none =>
        rw [ho] at g3
        have g3' : v < -1000000000000 := g3
        rw [if_neg (by omega)] at st
        refine ⟨0, _, st, fun a k y1 y2 => by rw [xup2_n (by omega), g2 a k y1], .inr ⟨rfl, nn d (c + 1) (by omega) ?_⟩⟩
        show (qMk I gt vl c).bind _ = none
        rw [hm, Option.bind_some, if_neg cg, ho]
        rfl
/-- headRow() -/
theorem k_142h (hf : 3010 < f) (hnI : I.length ≤ 4) (hwI : wIe nv I gt) (hW : cWy S G u K) (hI : cIt G u K g I) (hg : G u 3 = gt) (hV : ∀ c, c < I.length → (c : Int) ≠ gt → cVl G (qVm (I.getD c [])) vl) : ∃ b G', c142 f 83 103 (S, G, m) = some (b, (S, G', m)) ∧ (∀ a k, a ≠ 92 → a ≠ 103 → G' a k = G a k) ∧ ((b = 1 ∧ ∃ ys, qMk I gt vl I.length = some ys ∧ ∀ k, k < I.length → G' 103 k = ys.getD k 0) ∨ (b = 0 ∧ qMk I gt vl I.length = none)) := k_142 hf hnI hwI I.length 0 f G [] (by omega) (by omega) hW hI hg hV rfl (fun k hk => absurd hk (Nat.not_lt_zero k))
end
