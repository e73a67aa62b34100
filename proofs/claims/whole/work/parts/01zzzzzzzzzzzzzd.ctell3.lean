/-! THE CLASS: tell() whole -/
section
variable {f q nx p kk ln np : Nat} {S : Nat → Nat × Nat × Nat} {G G' : xG_} {m : Nat × Nat} {s : pPg} {xp cp yp ap : Nat → Nat} {R R' Ri Rf A : Nat → List pRw} {E : List pPe} {r2 : Nat → Nat → Int → xT_ → Option (Int × xT_)} {T : xT_}
theorem cWk.cg (h : cWk S G q nx s xp cp R) (e : ∀ j, j < s.1.length → R j = R' j) : cWk S G q nx s xp cp R' := ⟨h.1, fun p hp => by rw [← e p hp]; exact h.2 p hp⟩
theorem st_t2z (hs : cSs S) (h1 : G 93 1 = (q : Int)) (qs : S q = (1, 3, 14)) (hn : G q 1 = (np : Int)) : c146_2b r2 f 93 ln (np : Int) (S, G, m) = some (1, (S, G, m)) := by
  unfold c146_2b
  simp (disch := omega) only [cq_gi, cq_gr, cq_a, cq_s, cq_p, cq_pr, cq_is, cq_ar, cq_ab, cq_ln, xq_nz, Option.bind_some, xup2_n, xup2_s, Int.toNat_natCast, Int.reduceToNat, if_pos, if_neg, true_and, and_true, and_self, eq_self, if_true, reduceIte, not_true_eq_false, not_false_eq_true, or_true, true_or, s93 hs, h1, qs, hn]
theorem st_t2y (hs : cSs S) (h1 : G 93 1 = (q : Int)) (qs : S q = (1, 3, 14)) (hn : G q 1 = (np : Int)) (hp : p < np) : c146_2b r2 f 93 ln (p : Int) (S, G, m) = c146_18 r2 f f 93 ln (p : Int) 0 0 (S, G, m) := by
  unfold c146_2b
  simp (disch := omega) only [cq_gi, cq_gr, cq_a, cq_s, cq_p, cq_pr, cq_is, cq_ar, cq_ab, cq_ln, xq_nz, Option.bind_some, xup2_n, xup2_s, Int.toNat_natCast, Int.reduceToNat, if_pos, if_neg, true_and, and_true, and_self, eq_self, if_true, reduceIte, not_true_eq_false, not_false_eq_true, or_true, true_or, s93 hs, h1, qs, hn]
theorem st_143n (hs : cSs S) (h1 : G 93 1 = (q : Int)) (qs : S q = (1, 3, 14)) (q4 : S (q + 4) = (2, 0, 16)) (h5 : G q 5 = ((q + 4 : Nat) : Int)) (hp : p < 16) (hi : G (q + 4) p = 0) (ep : xwr ((p : Int) + 1) = ((p + 1 : Nat) : Int)) : c146_143 r2 f 93 ln (p : Int) (S, G, m) = r2 93 ln ((p + 1 : Nat) : Int) (S, G, m) := by
  unfold c146_143 c146_160
  simp (disch := omega) only [cq_gi, cq_gr, cq_a, cq_s, cq_p, cq_pr, cq_is, cq_ar, cq_ab, cq_ln, xq_nz, Option.bind_some, xup2_n, xup2_s, Int.toNat_natCast, Int.reduceToNat, if_pos, if_neg, true_and, and_true, and_self, eq_self, if_true, reduceIte, not_true_eq_false, not_false_eq_true, or_true, true_or, s93 hs, h1, qs, q4, h5, hi, ep, Nat.reduceLT]
theorem st_143y (hs : cSs S) (h1 : G 93 1 = (q : Int)) (qs : S q = (1, 3, 14)) (q4 : S (q + 4) = (2, 0, 16)) (h5 : G q 5 = ((q + 4 : Nat) : Int)) (hp : p < 16) (hi : G (q + 4) p = 1) (ep : xwr ((p : Int) + 1) = ((p + 1 : Nat) : Int)) (e : c148 f 93 (p : Int) (S, G, m) = some T) : c146_143 r2 f 93 ln (p : Int) (S, G, m) = r2 93 ln ((p + 1 : Nat) : Int) T := by
  unfold c146_143 c146_160
  simp (disch := omega) only [cq_gi, cq_gr, cq_a, cq_s, cq_p, cq_pr, cq_is, cq_ar, cq_ab, cq_ln, xq_nz, Option.bind_some, xup2_n, xup2_s, Int.toNat_natCast, Int.reduceToNat, if_pos, if_neg, true_and, and_true, and_self, eq_self, if_true, reduceIte, not_true_eq_false, not_false_eq_true, or_true, true_or, s93 hs, h1, qs, q4, h5, hi, ep, e, Nat.reduceLT, Int.reduceEq]
theorem k_146 (hf : 600 < f) (hkk : kk < 4) (hA1 : ∀ j, j < s.1.length → chA1 s j E (Ri j) (Rf j)) (hU : ∀ j, j < s.1.length → kU (qKy s j) (Ri j)) (hRf : ∀ j, j < s.1.length → ∀ r ∈ Rf j, (∀ x ∈ r.1, vOk x) ∧ 0 ≤ r.2 ∧ r.2 ≤ 1700) (hNi : ∀ j, j < s.1.length → pIn s.2.1 (j : Int) = false → Rf j = Ri j) :
    ∀ (d p fu : Nat) (G : xG_) (xp cp : Nat → Nat) (R : Nat → List pRw) (ch : Nat), p + d = s.1.length → d < fu → cWk S G q nx s xp cp R → cAh S G nx s yp ap A → cPn G (243 + 9 * kk) s E → (∀ j, j < p → R j = Rf j) → (∀ j, j < s.1.length → p ≤ j → R j = Ri j) → G 93 13 = (ch : Int) → ch < 2 ^ 16 → (∀ j, ch.testBit j = true ↔ j < p ∧ pIn s.2.1 (j : Int) = true ∧ ¬ vEq (Rf j) (A j)) →
      ∃ v G', c146_2 f fu 93 (243 + 9 * kk) (p : Int) (S, G, m) = some (v, (S, G', m)) ∧ (xWs G G' ∧ G' 93 14 = G 93 14) ∧ cPs G' ∧ ((v = 0 ∧ ∃ j, j < s.1.length ∧ pIn s.2.1 (j : Int) = true ∧ 100 < (Rf j).length) ∨ (v = 1 ∧ ∃ xp' cp' ch', xpO s xp xp' ∧ cWk S G' q nx s xp' cp' Rf ∧ G' 93 13 = ((ch' : Nat) : Int) ∧ ch' < 2 ^ 16 ∧ ∀ j, ch'.testBit j = true ↔ j < s.1.length ∧ pIn s.2.1 (j : Int) = true ∧ ¬ vEq (Rf j) (A j))) := by
  intro d
  induction d with
  | zero =>
    intro p fu G xp cp R ch e1 e2 h hA hE hR1 hR2 h13 hch hb
    obtain ⟨fu, rfl⟩ : ∃ t, fu = t + 1 := ⟨fu - 1, by omega⟩
    have e : p = s.1.length := by omega
    subst e
    exact ⟨1, G, st_t2z (r2 := c146_2 f fu) h.1.1 h.1.2.2.1 h.1.2.2.2.2.1.1.1 h.1.2.2.2.2.1.2.2.1.1, ⟨xWs.id G, rfl⟩, h.1.2.1, .inr ⟨rfl, xp, cp, ch, xpO.id, h.cg hR1, h13, hch, hb⟩⟩
  | succ d ih =>
    intro p fu G xp cp R ch e1 e2 h hA hE hR1 hR2 h13 hch hb
    obtain ⟨fu, rfl⟩ : ∃ t, fu = t + 1 := ⟨fu - 1, by omega⟩
    obtain ⟨⟨a1, a2, a3, a4, a5, a6⟩, b⟩ := id h
    have hnp : s.1.length ≤ 16 := a6.1.1.1
    have hp : p < s.1.length := by omega
    have ep : xwr ((p : Int) + 1) = ((p + 1 : Nat) : Int) := by rw [xwr_g _ (by omega) (by omega)]; omega
    obtain ⟨b1, b2, b3, b4, b5, b6, b7⟩ := b p hp
    have eRp := hR2 p hp (Nat.le_refl _)
    have st : c146_2 f (fu + 1) 93 (243 + 9 * kk) (p : Int) (S, G, m) = _ := st_t2y (r2 := c146_2 f fu) (ln := 243 + 9 * kk) a1 a3 a5.1.1 a5.2.2.1.1 hp
    have hE4 := hE.2.1
    obtain ⟨G1, i1, i2, i3⟩ := k_146i (f := f) (m := m) (r2 := c146_2 f fu) (Lf := Rf p) hf hp hkk E.length 0 f G (R p) 0 (by omega) (by omega) h hE (by rw [List.drop_zero, eRp]; exact hA1 p hp) b4 (by omega) (by rw [eRp]; exact hU p hp) (fun y hy => (h.tb p hp).2.2 y hy |>.1) (.inl ⟨rfl, rfl⟩)
    have g14 : G1 93 14 = G 93 14 := i1 _ _ (by omega) (by omega) (by omega) (by omega)
    have fr1 : xWs G G1 := fun c j y1 y2 y3 y4 y5 => i1 c j (by omega) (by omega) (by omega) (by omega)
    have hin : G (q + 4) p = b01 (pIn s.2.1 (p : Int)) := (a5.2.2.2.2.1 p (by omega)).2.1
    have zq : ∀ c j, 203 < c → G1 c j = G c j := fun c j y => i1 c j (by omega) (by omega) (by omega) (by omega)
    -- behind the predicate
    have next : ∀ (xp1 cp1 : Nat → Nat) (R1 : Nat → List pRw), xpO s xp xp1 → cWk S G1 q nx s xp1 cp1 R1 → (∀ j, j < p + 1 → R1 j = Rf j) → (∀ j, j < s.1.length → p + 1 ≤ j → R1 j = Ri j) → c146_2 f (fu + 1) 93 (243 + 9 * kk) (p : Int) (S, G, m) = c146_143 (c146_2 f fu) f 93 (243 + 9 * kk) (p : Int) (S, G1, m) → ∃ v G', c146_2 f (fu + 1) 93 (243 + 9 * kk) (p : Int) (S, G, m) = some (v, (S, G', m)) ∧ (xWs G G' ∧ G' 93 14 = G 93 14) ∧ cPs G' ∧ ((v = 0 ∧ ∃ j, j < s.1.length ∧ pIn s.2.1 (j : Int) = true ∧ 100 < (Rf j).length) ∨ (v = 1 ∧ ∃ xp' cp' ch', xpO s xp xp' ∧ cWk S G' q nx s xp' cp' Rf ∧ G' 93 13 = ((ch' : Nat) : Int) ∧ ch' < 2 ^ 16 ∧ ∀ j, ch'.testBit j = true ↔ j < s.1.length ∧ pIn s.2.1 (j : Int) = true ∧ ¬ vEq (Rf j) (A j))) := fun xp1 cp1 R1 qx q1 q2 q3 q4 => by
      have lift : ∀ {v : Int} {G' : xG_}, ((v = 0 ∧ ∃ j, j < s.1.length ∧ pIn s.2.1 (j : Int) = true ∧ 100 < (Rf j).length) ∨ (v = 1 ∧ ∃ xp' cp' ch', xpO s xp1 xp' ∧ cWk S G' q nx s xp' cp' Rf ∧ G' 93 13 = ((ch' : Nat) : Int) ∧ ch' < 2 ^ 16 ∧ ∀ j, ch'.testBit j = true ↔ j < s.1.length ∧ pIn s.2.1 (j : Int) = true ∧ ¬ vEq (Rf j) (A j))) → ((v = 0 ∧ ∃ j, j < s.1.length ∧ pIn s.2.1 (j : Int) = true ∧ 100 < (Rf j).length) ∨ (v = 1 ∧ ∃ xp' cp' ch', xpO s xp xp' ∧ cWk S G' q nx s xp' cp' Rf ∧ G' 93 13 = ((ch' : Nat) : Int) ∧ ch' < 2 ^ 16 ∧ ∀ j, ch'.testBit j = true ↔ j < s.1.length ∧ pIn s.2.1 (j : Int) = true ∧ ¬ vEq (Rf j) (A j))) := fun {v G'} h => h.imp_right (fun ⟨y0, y1, y2, y3, y4, y5⟩ => ⟨y0, y1, y2, y3, qx.tr y4, y5⟩)
      have hA1' : cAh S G1 nx s yp ap A := hA.ge (fun j => fr1 _ _ (by omega) (by omega) (by omega) (by omega) (by omega)) zq
      have hE1 : cPn G1 (243 + 9 * kk) s E := hE.ge (fun a j y1 y2 => zq a j (by omega))
      have h131 : G1 93 13 = (ch : Int) := by rw [i1 _ _ (by omega) (by omega) (by omega) (by omega)]; exact h13
      cases hb' : pIn s.2.1 (p : Int) with
      | false =>
        have st2 := q4.trans (st_143n (r2 := c146_2 f fu) (ln := 243 + 9 * kk) a1 q1.1.2.2.1 a5.1.1 a5.1.2.2.2.2.1 (by rw [zq _ _ (by omega)]; exact a5.2.1.2.2.2.1) (by omega) (by rw [zq _ _ (by omega), hin, hb']; rfl) ep)
        obtain ⟨v, G2, j1, j2, j3, j4⟩ := ih (p + 1) fu G1 xp1 cp1 R1 ch (by omega) (by omega) q1 hA1' hE1 q2 q3 h131 hch (fun j => by
          rw [hb j]
          refine ⟨fun ⟨y1, y2⟩ => ⟨by omega, y2⟩, fun ⟨y1, y2, y3⟩ => ⟨?_, y2, y3⟩⟩
          by_cases cj : j = p
          · rw [cj, hb'] at y2; cases y2
          · omega)
        exact ⟨v, G2, st2.trans j1, ⟨fr1.tr j2.1, j2.2.trans g14⟩, j3, lift j4⟩
      | true =>
        obtain ⟨ch1, k1, k2, k3⟩ := k_nc (f := f) (m := m) hf q1 hA1' hp h131 hch
        have st2 := q4.trans (st_143y (r2 := c146_2 f fu) (ln := 243 + 9 * kk) a1 q1.1.2.2.1 a5.1.1 a5.1.2.2.2.2.1 (by rw [zq _ _ (by omega)]; exact a5.2.1.2.2.2.1) (by omega) (by rw [zq _ _ (by omega), hin, hb']; rfl) ep k2)
        obtain ⟨v, G2, j1, j2, j3, j4⟩ := ih (p + 1) fu (xup2 G1 93 13 (ch1 : Int)) xp1 cp1 R1 ch1 (by omega) (by omega) (q1.u93 (.inl rfl)) (hA1'.ge (fun j => xup2_n (by omega)) (fun a j y => xup2_n (by omega))) (hE1.ge (fun a j y1 y2 => xup2_n (by omega))) q2 q3 (xup2_s _ _ _ _) k1 (fun j => by
          rw [k3 j, hb j, q2 p (by omega)]
          constructor
          · rintro (⟨y1, y2⟩ | ⟨y1, y2⟩)
            · exact ⟨by omega, y2⟩
            · rw [y1]; exact ⟨by omega, hb', y2⟩
          · rintro ⟨y1, y2, y3⟩
            by_cases cj : j = p
            · exact .inr ⟨cj, by rw [← cj]; exact y3⟩
            · exact .inl ⟨by omega, y2, y3⟩)
        exact ⟨v, G2, st2.trans j1, ⟨fr1.tr (fun c j y1 y2 y3 y4 y5 => by rw [j2.1 c j y1 y2 y3 y4 y5, xup2_n (by omega)]), by rw [j2.2, xup2_n (by omega)]; exact g14⟩, j3, lift j4⟩
    rcases i3 with ⟨c1, c2, c3, c4⟩ | ⟨c1, c2⟩ | ⟨c1, c2, c3⟩
    · refine next xp cp R xpO.id (h.ge i2 (i1 _ _ (by omega) (by omega) (by omega) (by omega)) c3 (fun k hk c y1 y2 j => c4 c j (by omega)) zq) (fun j hj => ?_) (fun j hj hj2 => hR2 j hj (by omega)) (st.trans c1)
      by_cases cj : j = p
      · rw [cj]; exact c2.symm
      · exact hR1 j (by omega)
    · refine ⟨0, G1, st.trans c1, ⟨fr1, g14⟩, i2, .inl ⟨rfl, p, hp, ?_, c2⟩⟩
      cases hb' : pIn s.2.1 (p : Int) with
      | true => rfl
      | false =>
        rw [hNi p hp hb', ← eRp] at c2
        omega
    · refine next (fun j => if j = p then 108 + 6 * p else xp j) (fun j => if j = p then 100 else cp j) (fun j => if j = p then Rf p else R j) (fun j _ => ?_) ?_ (fun j hj => ?_) (fun j hj hj2 => ?_) (st.trans c1)
      · by_cases cj : j = p
        · right; rw [cj]; exact if_pos rfl
        · exact .inl (if_neg cj)
      · refine ⟨⟨a1, i2, by rw [i1 _ _ (by omega) (by omega) (by omega) (by omega)]; exact a3, a4, a5.ge (Nat.le_refl _) (fun _ _ => rfl) (fun a j y _ => zq a j (by omega)), a6⟩, fun j hj => ?_⟩
        by_cases cj : j = p
        · subst cj
          simp only [if_pos]
          exact ⟨c2, .inl trivial, c3, (hA1 j hj).srt (by rw [← eRp]; exact b4), c3.2.2.2.2.1, fun r hr => (hRf j hj r hr).1, fun r hr => (hRf j hj r hr).2⟩
        · simp only [if_neg cj]
          obtain ⟨d1, d2, d3, d4⟩ := b j hj
          have hz : ∀ c i, xp j ≤ c → c ≤ xp j + 2 → G1 c i = G c i := fun c i y1 y2 => by
            rcases d2 with e | e
            · exact i1 c i (by omega) (by omega) (by omega) (by omega)
            · exact zq c i (by omega)
          exact ⟨by rw [i1 _ _ (by omega) (by omega) (by omega) (by omega)]; exact d1, d2, d3.ge (fun _ _ _ => rfl) (fun i => hz _ _ (by omega) (by omega)) (fun i => hz _ _ (by omega) (by omega)) (fun i => hz _ _ (by omega) (by omega)), d4⟩
      · show (if j = p then Rf p else R j) = Rf j
        by_cases cj : j = p
        · rw [if_pos cj, cj]
        · rw [if_neg cj]; exact hR1 j (by omega)
      · show (if j = p then Rf p else R j) = Ri j
        rw [if_neg (by omega)]; exact hR2 j hj (by omega)
end
