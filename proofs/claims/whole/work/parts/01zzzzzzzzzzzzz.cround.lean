/-! THE CLASS: round(), its RINGS -/
def xWs (G G' : xG_) : Prop := ∀ b j, ¬ (83 ≤ b ∧ b ≤ 92) → ¬ (99 ≤ b ∧ b ≤ 105) → ¬ (b = 93 ∧ 13 ≤ j ∧ j ≤ 15) → b ≠ 94 → ¬ (108 ≤ b ∧ b ≤ 203) → G' b j = G b j
/-- where rows stand: as before, or in the rows of Works -/
def xpO (s : pPg) (xp xp' : Nat → Nat) : Prop := ∀ j, j < s.1.length → xp' j = xp j ∨ xp' j = 108 + 6 * j
theorem xpO.id {s : pPg} {xp : Nat → Nat} : xpO s xp xp := fun _ _ => .inl rfl
theorem xpO.tr {s : pPg} {xp xp1 xp2 : Nat → Nat} (h : xpO s xp xp1) (h' : xpO s xp1 xp2) : xpO s xp xp2 := fun j hj => by
  rcases h' j hj with z | z
  · rw [z]; exact h j hj
  · exact .inr z
theorem xWs.id (G : xG_) : xWs G G := fun _ _ _ _ _ _ _ => rfl
theorem xWs.tr {G G1 G2 : xG_} (h1 : xWs G G1) (h2 : xWs G1 G2) : xWs G G2 := fun b j y1 y2 y3 y4 y5 => (h2 b j y1 y2 y3 y4 y5).trans (h1 b j y1 y2 y3 y4 y5)
section
variable {f q nx ln mp i n rg : Nat} {S : Nat → Nat × Nat × Nat} {G G' : xG_} {m : Nat × Nat} {s : pPg} {yp ap : Nat → Nat} {tk v : Int} {O : List Nat} {fr : Prop} {In A B : Nat → List pRw} {r88 : Nat → Nat → Nat → Int → Nat → Int → Int → xT_ → Option (Int × xT_)} {T : xT_}
theorem xRw8.ws (hnp : s.1.length ≤ 16) (h : xRw8 s rg G G') : xWs G G' := fun b j y1 y2 y3 y4 y5 => h b j y1 y2 y3 (fun p hp _ => ⟨by omega, by omega⟩)
theorem st_88f : c173_88b r88 f 64 ln mp tk q 0 (i : Int) T = c173_127 f 64 ln mp tk 0 T := by
  unfold c173_88b
  rw [if_pos rfl]
theorem st_88z (qs : S q = (1, 3, 14)) (h12 : G q 12 = (i : Int)) : c173_88b r88 f 64 ln mp tk q 1 (i : Int) (S, G, m) = c173_127 f 64 ln mp tk 1 (S, G, m) := by
  have h10 : ¬ (1 : Int) = 0 := by decide
  unfold c173_88b
  simp (disch := omega) only [cq_gi, cq_gr, cq_a, cq_s, cq_p, cq_pr, cq_is, cq_ar, cq_ab, cq_ln, xq_nz, Option.bind_some, xup2_n, xup2_s, Int.toNat_natCast, Int.reduceToNat, if_pos, if_neg, true_and, and_true, and_self, eq_self, if_true, reduceIte, not_true_eq_false, not_false_eq_true, or_true, true_or, qs, h12, h10]
theorem st_88y (hs : cSs S) (hp : cPs G) (qs : S q = (1, 3, 14)) (q9 : S (q + 9) = (2, 3, 16)) (h11 : G q 11 = ((q + 9 : Nat) : Int)) (h12 : G q 12 = (n : Int)) (hi : i < n) (hn : n ≤ 16) (h9 : G (q + 9) i = (rg : Int)) (e : c149 f 93 (rg : Int) tk (S, G, m) = some (v, T)) (ei : xwr ((i : Int) + 1) = ((i + 1 : Nat) : Int)) : c173_88b r88 f 64 ln mp tk q 1 (i : Int) (S, G, m) = r88 64 ln mp tk q v ((i + 1 : Nat) : Int) T := by
  have h10 : ¬ (1 : Int) = 0 := by decide
  unfold c173_88b
  simp (disch := omega) only [cq_gi, cq_gr, cq_a, cq_s, cq_p, cq_pr, cq_is, cq_ar, cq_ab, cq_ln, xq_nz, Option.bind_some, xup2_n, xup2_s, Int.toNat_natCast, Int.reduceToNat, if_pos, if_neg, true_and, and_true, and_self, eq_self, if_true, reduceIte, not_true_eq_false, not_false_eq_true, or_true, true_or, s64 hs, s93 hs, p64_3 hp, qs, q9, h11, h12, h9, e, ei, h10]
theorem O_len (hO : oRd s O) : O.length ≤ s.1.length := by
  have := nodup_len O (List.range s.1.length) hO.1 (fun x hx => List.mem_range.mpr (hO.2.1 x hx).1)
  rw [List.length_range] at this
  exact this
/-- all RINGS of a round -/
theorem k_173r (hf : 100003010 < f) (hO : oRd s O) (htk : tk = 0 ∨ tk = 1) (hfr : fr ↔ tk = 1) (hB : ¬ fr → qTb s A ∧ ∀ p, p < s.1.length → pIn s.2.1 (p : Int) = false → dnR s A (qK s p) ∧ B p = A p) :
    ∀ (d i fu : Nat) (G : xG_) (xp cp : Nat → Nat) (R : Nat → List pRw) (ch wk : Nat), i + d = O.length → d + 1 < fu → cWk S G q nx s xp cp R → cAh S G nx s yp ap A → cOr G q O → G 93 13 = (ch : Int) → ch < 2 ^ 16 → G 93 14 = (wk : Int) → wk < 2 ^ 16 → rgI s fr In A B R O i ch wk →
      ∃ v G', c173_88 f fu 64 ln mp tk q 1 (i : Int) (S, G, m) = c173_127 f 64 ln mp tk v (S, G', m) ∧ xWs G G' ∧ cPs G' ∧ ((v = 0 ∧ ¬ ∃ M, qMod s In M) ∨ (v = 1 ∧ ∃ xp' cp' R' ch' wk', xpO s xp xp' ∧ cWk S G' q nx s xp' cp' R' ∧ G' 93 13 = ((ch' : Nat) : Int) ∧ ch' < 2 ^ 16 ∧ G' 93 14 = ((wk' : Nat) : Int) ∧ wk' < 2 ^ 16 ∧ rgI s fr In A B R' O O.length ch' wk')) := by
  intro d
  induction d with
  | zero =>
    intro i fu G xp cp R ch wk e1 e2 h hA hOr h13 hch h14 hwk hI
    obtain ⟨fu, rfl⟩ : ∃ t, fu = t + 1 := ⟨fu - 1, by omega⟩
    have e : i = O.length := by omega
    subst e
    exact ⟨1, G, st_88z (r88 := c173_88 f fu) h.1.2.2.2.2.1.1.1 hOr.1, xWs.id G, h.1.2.1, .inr ⟨rfl, xp, cp, R, ch, wk, xpO.id, h, h13, hch, h14, hwk, hI⟩⟩
  | succ d ih =>
    intro i fu G xp cp R ch wk e1 e2 h hA hOr h13 hch h14 hwk hI
    obtain ⟨fu, rfl⟩ : ∃ t, fu = t + 1 := ⟨fu - 1, by omega⟩
    have a5 := h.1.2.2.2.2.1
    have a6 := h.1.2.2.2.2.2
    have hw := a6.1.1
    have hN := a6.2.2.2.2.1
    have hnp : s.1.length ≤ 16 := hw.1
    have hOl := O_len hO
    have hi : i < O.length := by omega
    have ei : xwr ((i : Int) + 1) = ((i + 1 : Nat) : Int) := by rw [xwr_g _ (by omega) (by omega)]; omega
    have hm : O.getD i 0 ∈ O := by rw [getD_e hi]; exact List.getElem_mem hi
    obtain ⟨g1, g2⟩ := hO.2.1 _ hm
    obtain ⟨v, G1, k1, k2, k3, k4⟩ := k_149 (f := f) (m := m) (tk := tk) hf h hA h13 hch h14 hwk g1 htk
    have st : c173_88 f (fu + 1) 64 ln mp tk q 1 (i : Int) (S, G, m) = _ := st_88y (r88 := c173_88 f fu) (ln := ln) (mp := mp) h.1.1 h.1.2.1 a5.1.1 a5.1.2.2.2.2.2.2.2.2.2.1 a5.2.1.2.2.2.2.2.2.2.2.1 hOr.1 hi (by omega) (hOr.2 i hi) k1 ei
    have ws := k2.ws hnp
    have hq := h.1.2.2.2.1
    have next : ∀ (xp1 cp1 : Nat → Nat) (R1 : Nat → List pRw) (ch1 wk1 : Nat), v = 1 → xpO s xp xp1 → cWk S G1 q nx s xp1 cp1 R1 → G1 93 13 = (ch1 : Int) → ch1 < 2 ^ 16 → G1 93 14 = (wk1 : Int) → wk1 < 2 ^ 16 → rgI s fr In A B R1 O (i + 1) ch1 wk1 → ∃ v G', c173_88 f (fu + 1) 64 ln mp tk q 1 (i : Int) (S, G, m) = c173_127 f 64 ln mp tk v (S, G', m) ∧ xWs G G' ∧ cPs G' ∧ ((v = 0 ∧ ¬ ∃ M, qMod s In M) ∨ (v = 1 ∧ ∃ xp' cp' R' ch' wk', xpO s xp xp' ∧ cWk S G' q nx s xp' cp' R' ∧ G' 93 13 = ((ch' : Nat) : Int) ∧ ch' < 2 ^ 16 ∧ G' 93 14 = ((wk' : Nat) : Int) ∧ wk' < 2 ^ 16 ∧ rgI s fr In A B R' O O.length ch' wk')) := fun xp1 cp1 R1 ch1 wk1 ev qx q1 q2 q3 q4 q5 q6 => by
      subst ev
      obtain ⟨v, G2, i1, i2, i3, i4⟩ := ih (i + 1) fu G1 xp1 cp1 R1 ch1 wk1 (by omega) (by omega) q1 (hA.ge (fun j => ws _ _ (by omega) (by omega) (by omega) (by omega) (by omega)) (fun a j y => ws _ _ (by omega) (by omega) (by omega) (by omega) (by omega))) ⟨by rw [ws _ _ (by omega) (by omega) (by omega) (by omega) (by have := h.1.2.2.2.1; omega)]; exact hOr.1, fun k hk => by rw [ws _ _ (by omega) (by omega) (by omega) (by omega) (by have := h.1.2.2.2.1; omega)]; exact hOr.2 k hk⟩ q2 q3 q4 q5 q6
      refine ⟨v, G2, st.trans i1, ws.tr i2, i3, i4.imp_right ?_⟩
      rintro ⟨y0, y1, y2, y3, y4, y5, y6, y7⟩
      exact ⟨y0, y1, y2, y3, y4, y5, qx.tr y6, y7⟩
    rcases k4 with ⟨b1, b2, b3⟩ | ⟨b1, b2, b3⟩
    · subst b2
      cases hb : pIn s.2.1 ((O.getD i 0 : Nat) : Int) with
      | true => exact next xp cp R ch wk b1 xpO.id h h13 hch h14 hwk (hI.inp hO hi hN hb)
      | false =>
        obtain ⟨c1, c2⟩ := b3.resolve_left (fun q => by rw [q] at hb; cases hb)
        have hnf : ¬ fr := fun q => by have := hfr.mp q; omega
        obtain ⟨d1, d2⟩ := hB hnf
        exact next xp cp R ch wk b1 xpO.id h h13 hch h14 hwk (hI.skip hw hO hi hN h.tb hb hnf d1 d2 c2)
    · rcases b3 with ⟨c1, c2⟩ | ⟨c1, R', ch', wk', c2, c3, c4, c5, c6, c7, c8, c9⟩
      · subst c1
        obtain ⟨fu, rfl⟩ : ∃ t, fu = t + 1 := ⟨fu - 1, by omega⟩
        exact ⟨0, G1, st.trans (st_88f (r88 := c173_88 f fu)), ws, k3, .inl ⟨rfl, hI.fail hw hO hi hN h.tb b1 c2⟩⟩
      · exact next _ _ R' ch' wk' c1 (fun j _ => by
          by_cases q : qK s j = O.getD i 0
          · exact .inr (if_pos q)
          · exact .inl (if_neg q)) c2 c4 c5 c7 c8 (hI.work hw hO hi hN h.tb c2.tb b1 c3 (b2.imp (fun q => hfr.mpr q) id) c6 c9)
end
