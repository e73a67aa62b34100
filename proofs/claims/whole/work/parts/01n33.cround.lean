section
/-! THE CLASS: round(), its RINGS -/
def xWs (G G' : xG_) : Prop := ∀ b j, ¬ (83 ≤ b ∧ b ≤ 92) → ¬ (99 ≤ b ∧ b ≤ 105) → ¬ (b = 93 ∧ 13 ≤ j ∧ j ≤ 15) → b ≠ 94 → ¬ (108 ≤ b ∧ b ≤ 203) → G' b j = G b j
/-- where rows stand: as before, or in the rows of Works -/
def xpO (s : pPg) (xp xp' : Nat → Nat) : Prop := ∀ j, j < s.1.length → xp' j = xp j ∨ xp' j = 108 + 6 * j
theorem xpO.id {s : pPg} {xp : Nat → Nat} : xpO s xp xp := fun _ _ => .inl rfl
theorem xpO.tr {s : pPg} {xp xp1 xp2 : Nat → Nat} (h : xpO s xp xp1) (h' : xpO s xp1 xp2) : xpO s xp xp2 := fun j hj => by
  rcases h' j hj with z | z
  · rw [z]; exact h j hj
  · exact .inr z
theorem xWs.id (G : xG_) : xWs G G := fun _ _ _ _ _ _ _ => rfl
theorem xWs.tr {G G1 G2 : xG_} (h1 : xWs G G1) (h2 : xWs G1 G2) : xWs G G2 := fun b j y1 y2 y3 y4 y5 => (h2 b j y1 y2 y3 y4 y5).trans (h1 b j y1 y2 y3 y4 y5)
section
variable {f q nx ln mp i n rg : Nat} {S : Nat → Nat × Nat × Nat} {G G' : xG_} {m : Nat × Nat} {s : pPg} {yp ap : Nat → Nat} {tk v : Int} {O : List Nat} {fr : Prop} {In A B : Nat → List pRw} {r88 : Nat → Nat → Nat → Int → Nat → Int → Int → xT_ → Option (Int × xT_)} {T : xT_}
theorem xRw8.ws (hnp : s.1.length ≤ 16) (h : xRw8 s rg G G') : xWs G G' := fun b j y1 y2 y3 y4 y5 => h b j y1 y2 y3 (fun p hp _ => ⟨by omega, by omega⟩)
theorem st_88f : c173_88b r88 f 64 ln mp tk q 0 (i : Int) T = c173_127 f 64 ln mp tk 0 T := by
  unfold c173_88b
  rw [if_pos rfl]
theorem st_88z (qs : S q = (1, 3, 14)) (h12 : G q 12 = (i : Int)) : c173_88b r88 f 64 ln mp tk q 1 (i : Int) (S, G, m) = c173_127 f 64 ln mp tk 1 (S, G, m) := by
  have h10 : ¬ (1 : Int) = 0 := by decide
  unfold c173_88b
  simp (disch := omega) only [cq_gi, cq_gr, cq_a, cq_s, cq_p, cq_pr, cq_is, cq_ar, cq_ab, cq_ln, xq_nz, Option.bind_some, xup2_n, xup2_s, Int.toNat_natCast, Int.reduceToNat, if_pos, if_neg, true_and, and_true, and_self, eq_self, if_true, reduceIte, not_true_eq_false, not_false_eq_true, or_true, true_or, qs, h12, h10]
theorem st_88y (hs : cSs S) (hp : cPs G) (qs : S q = (1, 3, 14)) (q9 : S (q + 9) = (2, 3, 16)) (h11 : G q 11 = ((q + 9 : Nat) : Int)) (h12 : G q 12 = (n : Int)) (hi : i < n) (hn : n ≤ 16) (h9 : G (q + 9) i = (rg : Int)) (e : c149 f 93 (rg : Int) tk (S, G, m) = some (v, T)) (ei : xwr ((i : Int) + 1) = ((i + 1 : Nat) : Int)) : c173_88b r88 f 64 ln mp tk q 1 (i : Int) (S, G, m) = r88 64 ln mp tk q v ((i + 1 : Nat) : Int) T := by
  have h10 : ¬ (1 : Int) = 0 := by decide
  unfold c173_88b
  simp (disch := omega) only [cq_gi, cq_gr, cq_a, cq_s, cq_p, cq_pr, cq_is, cq_ar, cq_ab, cq_ln, xq_nz, Option.bind_some, xup2_n, xup2_s, Int.toNat_natCast, Int.reduceToNat, if_pos, if_neg, true_and, and_true, and_self, eq_self, if_true, reduceIte, not_true_eq_false, not_false_eq_true, or_true, true_or, s64 hs, s93 hs, p64_3 hp, qs, q9, h11, h12, h9, e, ei, h10]
theorem O_len (hO : oRd s O) : O.length ≤ s.1.length := by
  have := nodup_len O (List.range s.1.length) hO.1 (fun x hx => List.mem_range.mpr (hO.2.1 x hx).1)
  rw [List.length_range] at this
  exact this
/-- all RINGS of a round -/
theorem k_173r (hf : 100003010 < f) (hO : oRd s O) (htk : tk = 0 ∨ tk = 1) (hfr : fr ↔ tk = 1) (hB : ¬ fr → qTb s A ∧ ∀ p, p < s.1.length → pIn s.2.1 (p : Int) = false → dnR s A (qK s p) ∧ B p = A p) :
    ∀ (d i fu : Nat) (G : xG_) (xp cp : Nat → Nat) (R : Nat → List pRw) (ch wk : Nat), i + d = O.length → d + 1 < fu → cWk S G q nx s xp cp R → cAh S G nx s yp ap A → cOr G q O → G 93 13 = (ch : Int) → ch < 2 ^ 16 → G 93 14 = (wk : Int) → wk < 2 ^ 16 → rgI s fr In A B R O i ch wk →
      ∃ v G', c173_88 f fu 64 ln mp tk q 1 (i : Int) (S, G, m) = c173_127 f 64 ln mp tk v (S, G', m) ∧ xWs G G' ∧ cPs G' ∧ ((v = 0 ∧ ¬ ∃ M, qMod s In M) ∨ (v = 1 ∧ ∃ xp' cp' R' ch' wk', xpO s xp xp' ∧ cWk S G' q nx s xp' cp' R' ∧ G' 93 13 = ((ch' : Nat) : Int) ∧ ch' < 2 ^ 16 ∧ G' 93 14 = ((wk' : Nat) : Int) ∧ wk' < 2 ^ 16 ∧ rgI s fr In A B R' O O.length ch' wk')) := by
  intro d
  induction d with
  | zero =>
    intro i fu G xp cp R ch wk e1 e2 h hA hOr h13 hch h14 hwk hI
    obtain ⟨fu, rfl⟩ : ∃ t, fu = t + 1 := ⟨fu - 1, by omega⟩
    have e : i = O.length := by omega
    subst e
    exact ⟨1, G, st_88z (r88 := c173_88 f fu) h.1.2.2.2.2.1.1.1 hOr.1, xWs.id G, h.1.2.1, .inr ⟨rfl, xp, cp, R, ch, wk, xpO.id, h, h13, hch, h14, hwk, hI⟩⟩
  | succ d ih =>
    intro i fu G xp cp R ch wk e1 e2 h hA hOr h13 hch h14 hwk hI
    obtain ⟨fu, rfl⟩ : ∃ t, fu = t + 1 := ⟨fu - 1, by omega⟩
    have a5 := h.1.2.2.2.2.1
    have a6 := h.1.2.2.2.2.2
    have hw := a6.1.1
    have hN := a6.2.2.2.2.1
    have hnp : s.1.length ≤ 16 := hw.1
    have hOl := O_len hO
    have hi : i < O.length := by omega
    have ei : xwr ((i : Int) + 1) = ((i + 1 : Nat) : Int) := by rw [xwr_g _ (by omega) (by omega)]; omega
    have hm : O.getD i 0 ∈ O := by rw [getD_e hi]; exact List.getElem_mem hi
    obtain ⟨g1, g2⟩ := hO.2.1 _ hm
    obtain ⟨v, G1, k1, k2, k3, k4⟩ := k_149 (f := f) (m := m) (tk := tk) hf h hA h13 hch h14 hwk g1 htk
    have st : c173_88 f (fu + 1) 64 ln mp tk q 1 (i : Int) (S, G, m) = _ := st_88y (r88 := c173_88 f fu) (ln := ln) (mp := mp) h.1.1 h.1.2.1 a5.1.1 a5.1.2.2.2.2.2.2.2.2.2.1 a5.2.1.2.2.2.2.2.2.2.2.1 hOr.1 hi (by omega) (hOr.2 i hi) k1 ei
    have ws := k2.ws hnp
    have hq := h.1.2.2.2.1
    have next : ∀ (xp1 cp1 : Nat → Nat) (R1 : Nat → List pRw) (ch1 wk1 : Nat), v = 1 → xpO s xp xp1 → cWk S G1 q nx s xp1 cp1 R1 → G1 93 13 = (ch1 : Int) → ch1 < 2 ^ 16 → G1 93 14 = (wk1 : Int) → wk1 < 2 ^ 16 → rgI s fr In A B R1 O (i + 1) ch1 wk1 → ∃ v G', c173_88 f (fu + 1) 64 ln mp tk q 1 (i : Int) (S, G, m) = c173_127 f 64 ln mp tk v (S, G', m) ∧ xWs G G' ∧ cPs G' ∧ ((v = 0 ∧ ¬ ∃ M, qMod s In M) ∨ (v = 1 ∧ ∃ xp' cp' R' ch' wk', xpO s xp xp' ∧ cWk S G' q nx s xp' cp' R' ∧ G' 93 13 = ((ch' : Nat) : Int) ∧ ch' < 2 ^ 16 ∧ G' 93 14 = ((wk' : Nat) : Int) ∧ wk' < 2 ^ 16 ∧ rgI s fr In A B R' O O.length ch' wk')) := fun xp1 cp1 R1 ch1 wk1 ev qx q1 q2 q3 q4 q5 q6 => by
      subst ev
      obtain ⟨v, G2, i1, i2, i3, i4⟩ := ih (i + 1) fu G1 xp1 cp1 R1 ch1 wk1 (by omega) (by omega) q1 (hA.ge (fun j => ws _ _ (by omega) (by omega) (by omega) (by omega) (by omega)) (fun a j y => ws _ _ (by omega) (by omega) (by omega) (by omega) (by omega))) ⟨by rw [ws _ _ (by omega) (by omega) (by omega) (by omega) (by have := h.1.2.2.2.1; omega)]; exact hOr.1, fun k hk => by rw [ws _ _ (by omega) (by omega) (by omega) (by omega) (by have := h.1.2.2.2.1; omega)]; exact hOr.2 k hk⟩ q2 q3 q4 q5 q6
      refine ⟨v, G2, st.trans i1, ws.tr i2, i3, i4.imp_right ?_⟩
      rintro ⟨y0, y1, y2, y3, y4, y5, y6, y7⟩
      exact ⟨y0, y1, y2, y3, y4, y5, qx.tr y6, y7⟩
    rcases k4 with ⟨b1, b2, b3⟩ | ⟨b1, b2, b3⟩
    · subst b2
      cases hb : pIn s.2.1 ((O.getD i 0 : Nat) : Int) with
      | true => exact next xp cp R ch wk b1 xpO.id h h13 hch h14 hwk (hI.inp hO hi hN hb)
      | false =>
        obtain ⟨c1, c2⟩ := b3.resolve_left (fun q => by rw [q] at hb; cases hb)
        have hnf : ¬ fr := fun q => by have := hfr.mp q; omega
        obtain ⟨d1, d2⟩ := hB hnf
        exact next xp cp R ch wk b1 xpO.id h h13 hch h14 hwk (hI.skip hw hO hi hN h.tb hb hnf d1 d2 c2)
    · rcases b3 with ⟨c1, c2⟩ | ⟨c1, R', ch', wk', c2, c3, c4, c5, c6, c7, c8, c9⟩
      · subst c1
        obtain ⟨fu, rfl⟩ : ∃ t, fu = t + 1 := ⟨fu - 1, by omega⟩
        exact ⟨0, G1, st.trans (st_88f (r88 := c173_88 f fu)), ws, k3, .inl ⟨rfl, hI.fail hw hO hi hN h.tb b1 c2⟩⟩
      · exact next _ _ R' ch' wk' c1 (fun j _ => by
          by_cases q : qK s j = O.getD i 0
          · exact .inr (if_pos q)
          · exact .inl (if_neg q)) c2 c4 c5 c7 c8 (hI.work hw hO hi hN h.tb c2.tb b1 c3 (b2.imp (fun q => hfr.mpr q) id) c6 c9)
end
end
section
/-! THE CLASS: changeLoose() -/
/-- what a CHANGE makes of the rows of its predicate -/
def chY1 (ad : Int) (k : Nat) (kl : List Int) (L : List pRw) (y : pRw) : Prop := (ad = 0 ∧ y ∈ L ∧ y.1 ≠ kl) ∨ (ad ≠ 0 ∧ (∃ w, w ∈ L ∧ w.1 = kl) ∧ y ∈ L) ∨ (ad ≠ 0 ∧ (∀ w, w ∈ L → w.1 ≠ kl) ∧ ((y ∈ L ∧ ¬ (0 < k ∧ y.1.take k = kl.take k)) ∨ y = (kl, 0)))
/-- keys are told once -/
def kU (k : Nat) (L : List pRw) : Prop := 0 < k → ∀ a ∈ L, ∀ b ∈ L, a.1.take k = b.1.take k → a = b
theorem rw_one {L : List pRw} (h : L.Pairwise rwLt) {a b : pRw} (ha : a ∈ L) (hb : b ∈ L) (e : a.1 = b.1) : a = b := by
  obtain ⟨i, hi, ei⟩ := List.getElem_of_mem ha
  obtain ⟨j, hj, ej⟩ := List.getElem_of_mem hb
  have key : ∀ {i j : Nat} (hi : i < L.length) (hj : j < L.length), i < j → L[i].1 = L[j].1 → False := fun {i j} hi hj hij e => by
    have h' : vLt L[i].1 L[j].1 := List.pairwise_iff_getElem.mp h i j hi hj hij
    rw [e] at h'
    exact vLt_irr _ h'
  by_cases c : i < j
  · exact (key hi hj c (by rw [ei, ej]; exact e)).elim
  · by_cases c2 : j < i
    · exact (key hj hi c2 (by rw [ei, ej]; exact e.symm)).elim
    · have : i = j := by omega
      subst this
      rw [← ei, ← ej]
theorem rm_mem {L : List pRw} (h : L.Pairwise rwLt) {lo : Nat} (hl : lo < L.length) : (L.take lo ++ L.drop (lo + 1)).Pairwise rwLt ∧ (L.take lo ++ L.drop (lo + 1)).length + 1 = L.length ∧ ∀ z, z ∈ L.take lo ++ L.drop (lo + 1) ↔ z ∈ L ∧ z.1 ≠ (L.getD lo dRw).1 := by
  rw [← List.eraseIdx_eq_take_drop_succ]
  refine ⟨h.sublist (List.eraseIdx_sublist L lo), by rw [List.length_eraseIdx_of_lt hl]; omega, fun z => ?_⟩
  rw [List.mem_eraseIdx_iff_getElem, getD_e hl]
  constructor
  · rintro ⟨i, hi, ne, rfl⟩
    refine ⟨List.getElem_mem hi, fun e => ne ?_⟩
    by_cases c : i < lo
    · have h' : vLt L[i].1 L[lo].1 := List.pairwise_iff_getElem.mp h i lo hi hl c
      rw [e] at h'
      exact (vLt_irr _ h').elim
    · by_cases c2 : lo < i
      · have h' : vLt L[lo].1 L[i].1 := List.pairwise_iff_getElem.mp h lo i hl hi c2
        rw [e] at h'
        exact (vLt_irr _ h').elim
      · omega
  · rintro ⟨hz, ne⟩
    obtain ⟨i, hi, ei⟩ := List.getElem_of_mem hz
    refine ⟨i, hi, fun e => ne ?_, ei⟩
    subst e
    rw [ei]
section
variable {f n k : Nat} {S : Nat → Nat × Nat × Nat} {G G1 G2 : xG_} {m : Nat × Nat} {L : List pRw} {kl : List Int} {ad v w v2 : Int} {T : xT_} {lo : Nat}
theorem st_77m (hv : v < 0) : c77 f 99 v T = some T := by
  unfold c77 c77_12
  rw [if_pos hv]
theorem st_147d (hs : cSs S) (hp : cPs G) (e : c74 f 99 103 (S, G, m) = some (v, (S, G, m))) (e2 : c77 f 99 v (S, G, m) = some T) : c147 f 93 0 (k : Int) (S, G, m) = some T := by
  have h0 : ¬ ¬ (0 : Int) = 0 := fun q => q rfl
  unfold c147
  simp (disch := omega) only [cq_gi, cq_gr, cq_a, cq_s, cq_p, cq_pr, cq_is, cq_ar, cq_ab, cq_ln, xq_nz, Option.bind_some, xup2_n, xup2_s, Int.toNat_natCast, Int.reduceToNat, if_pos, if_neg, true_and, and_true, and_self, eq_self, if_true, reduceIte, not_true_eq_false, not_false_eq_true, or_true, true_or, s93 hs, s99 hs, p93_7 hp, p93_9 hp, e, e2, h0]
theorem st_147o (hs : cSs S) (hp : cPs G) (ha : ad ≠ 0) (e : c74 f 99 103 (S, G, m) = some (v, (S, G, m))) (hv : 0 ≤ v ∨ k = 0) : c147 f 93 ad (k : Int) (S, G, m) = c147_64 f 93 v (S, G, m) := by
  by_cases c : 0 ≤ v
  · unfold c147
    simp (disch := omega) only [cq_gi, cq_gr, cq_a, cq_s, cq_p, cq_pr, cq_is, cq_ar, cq_ab, cq_ln, xq_nz, Option.bind_some, xup2_n, xup2_s, Int.toNat_natCast, Int.reduceToNat, if_pos, if_neg, true_and, and_true, and_self, eq_self, if_true, reduceIte, not_true_eq_false, not_false_eq_true, or_true, true_or, s93 hs, s99 hs, p93_7 hp, p93_9 hp, e, ha, c]
  · have hk : (k : Int) ≤ 0 := by omega
    unfold c147
    simp (disch := omega) only [cq_gi, cq_gr, cq_a, cq_s, cq_p, cq_pr, cq_is, cq_ar, cq_ab, cq_ln, xq_nz, Option.bind_some, xup2_n, xup2_s, Int.toNat_natCast, Int.reduceToNat, if_pos, if_neg, true_and, and_true, and_self, eq_self, if_true, reduceIte, not_true_eq_false, not_false_eq_true, or_true, true_or, s93 hs, s99 hs, p93_7 hp, p93_9 hp, e, ha, c, hk]
theorem st_147k (hs : cSs S) (hp : cPs G) (hp1 : cPs G1) (ha : ad ≠ 0) (e : c74 f 99 103 (S, G, m) = some (v, (S, G, m))) (hv : v < 0) (hk : 0 < k) (e2 : c75 f 99 103 (k : Int) (S, G, m) = some (w, (S, G, m))) (e3 : c77 f 99 w (S, G, m) = some (S, G1, m)) (e4 : c74 f 99 103 (S, G1, m) = some (v2, (S, G1, m))) : c147 f 93 ad (k : Int) (S, G, m) = c147_64 f 93 v2 (S, G1, m) := by
  have c : ¬ 0 ≤ v := by omega
  have hk : ¬ (k : Int) ≤ 0 := by omega
  unfold c147
  simp (disch := omega) only [cq_gi, cq_gr, cq_a, cq_s, cq_p, cq_pr, cq_is, cq_ar, cq_ab, cq_ln, xq_nz, Option.bind_some, xup2_n, xup2_s, Int.toNat_natCast, Int.reduceToNat, if_pos, if_neg, true_and, and_true, and_self, eq_self, if_true, reduceIte, not_true_eq_false, not_false_eq_true, or_true, true_or, s93 hs, s99 hs, p93_7 hp, p93_9 hp, p93_7 hp1, p93_9 hp1, e, ha, c, hk, e2, e3, e4]
theorem st_147y (hv : 0 ≤ v) : c147_64 f 93 v T = some T := by
  unfold c147_64 c147_83
  rw [if_pos hv]
theorem st_147i (hs : cSs S) (hp : cPs G) (hv : ¬ 0 ≤ v) (ev : xwr (-1 - v) = (lo : Int)) (e : c76 f 99 (lo : Int) 103 0 (S, G, m) = some T) : c147_64 f 93 v (S, G, m) = some T := by
  unfold c147_64 c147_83
  simp (disch := omega) only [cq_gi, cq_gr, cq_a, cq_s, cq_p, cq_pr, cq_is, cq_ar, cq_ab, cq_ln, xq_nz, Option.bind_some, xup2_n, xup2_s, Int.toNat_natCast, Int.reduceToNat, if_pos, if_neg, true_and, and_true, and_self, eq_self, if_true, reduceIte, not_true_eq_false, not_false_eq_true, or_true, true_or, s93 hs, s99 hs, p93_7 hp, p93_9 hp, hv, ev, e]
theorem ps_lo {G G' : xG_} (hp : cPs G) (h : xFx 99 G G') : cPs G' := hp.ge (fun b j hz => by
  have : ¬ (b = 99 ∧ j = 1) ∧ b ≠ 99 + 1 ∧ b ≠ 99 + 2 := by
    rcases hz with z | z | z | z | z | z | z | ⟨z, z1, z2, k, z3⟩ | z | z | z | ⟨k, z1, z2, z3⟩ <;> omega
  exact h b j this.1 this.2.1 this.2.2)
/-- changeLoose() -/
theorem k_147 (hf : 600 < f) (hs : cSs S) (hp : cPs G) (hL : cRw S G 99 n 512 L) (hLs : L.Pairwise rwLt) (hk : kl.length = n) (hn4 : n ≤ 4) (hK : cKl S G 103 kl) (hl : L.length < 512) (hkn : k ≤ n) (hU : kU k L) : ∃ G' L', c147 f 93 ad (k : Int) (S, G, m) = some (S, G', m) ∧ xFx 99 G G' ∧ cPs G' ∧ cRw S G' 99 n 512 L' ∧ L'.Pairwise rwLt ∧ L'.length ≤ L.length + 1 ∧ ∀ y, y ∈ L' ↔ chY1 ad k kl L y := by
  have hLl : ∀ {G' : xG_} {M : List pRw}, cRw S G' 99 n 512 M → ∀ r ∈ M, r.1.length = kl.length := fun {G' M} hM r hr => by
    obtain ⟨j, hj, ej⟩ := List.getElem_of_mem hr
    have := (hM.2.2.2.2.2.2.2 j hj).1
    rw [getD_e hj, ej] at this
    rw [hk]; exact this
  obtain ⟨v, v1, l0, v2, v3⟩ := k_74 (f := f) (m := m) hf hL hLs hk hK
  -- the row is put in
  have ins : ∀ (G1 : xG_) (M : List pRw) (v : Int) (lo : Nat), xFx 99 G G1 → cPs G1 → cRw S G1 99 n 512 M → M.Pairwise rwLt → M.length ≤ L.length → isSr M kl 0 lo → v = -1 - (lo : Int) → (∀ r ∈ M, r.1 ≠ kl) → ∃ G' L', c147_64 f 93 v (S, G1, m) = some (S, G', m) ∧ xFx 99 G G' ∧ cPs G' ∧ cRw S G' 99 n 512 L' ∧ L'.Pairwise rwLt ∧ L'.length ≤ L.length + 1 ∧ ∀ y, y ∈ L' ↔ y ∈ M ∨ y = (kl, 0) := by
    intro G1 M v lo q1 q2 q3 q4 q5 q6 q7 q8
    have hlo := q6.1
    obtain ⟨G2, g1, g2, g3⟩ := k_76 (f := f) (m := m) (rk := 0) (p := lo) (a := 103) q3 hlo (by omega) (s103 hs) (by omega) (by decide) hk (fun c hc => by rw [q1 _ _ (by omega) (by omega) (by omega)]; exact hK.2 c (by omega))
    obtain ⟨s1, s2⟩ := ins_s (rk := 0) q4 (hLl q3) q6 q8
    refine ⟨G2, _, st_147i hs q2 (by omega) (by rw [q7, xwr_g _ (by omega) (by omega)]; omega) g1, fun b j y1 y2 y3 => by rw [g2 b j y1 y2 y3, q1 b j y1 y2 y3], ps_lo q2 g2, g3, s1, by rw [len_i9 hlo]; omega, s2⟩
  by_cases ca : ad = 0
  · subst ca
    rcases v3 with ⟨y1, y2, y3⟩ | ⟨y1, y2⟩
    · subst y1
      obtain ⟨G1, g1, g2, g3⟩ := k_77 (f := f) (m := m) hL y2
      obtain ⟨r1, r2, r3⟩ := rm_mem hLs y2
      refine ⟨G1, _, st_147d hs hp v1 g1, g2, ps_lo hp g2, g3, r1, by omega, fun y => ?_⟩
      rw [r3 y, y3]
      unfold chY1
      exact ⟨fun q => .inl ⟨rfl, q⟩, fun q => q.elim (fun q => q.2) (fun q => q.elim (fun q => absurd rfl q.1) (fun q => absurd rfl q.1))⟩
    · refine ⟨G, L, st_147d hs hp v1 (st_77m (by omega)), fun _ _ _ _ _ => rfl, hp, hL, hLs, by omega, fun y => ?_⟩
      unfold chY1
      exact ⟨fun q => .inl ⟨rfl, q, y2 y q⟩, fun q => q.elim (fun q => q.2.1) (fun q => q.elim (fun q => absurd rfl q.1) (fun q => absurd rfl q.1))⟩
  · rcases v3 with ⟨y1, y2, y3⟩ | ⟨y1, y2⟩
    · refine ⟨G, L, (st_147o hs hp ca v1 (.inl (by omega))).trans (st_147y (by omega)), fun _ _ _ _ _ => rfl, hp, hL, hLs, by omega, fun y => ?_⟩
      have hw : L.getD l0 dRw ∈ L := by rw [getD_e y2]; exact List.getElem_mem y2
      unfold chY1
      exact ⟨fun q => .inr (.inl ⟨ca, ⟨_, hw, y3⟩, q⟩), fun q => q.elim (fun q => absurd q.1 ca) (fun q => q.elim (fun q => q.2.2) (fun q => absurd y3 (q.2.1 _ hw)))⟩
    · by_cases ck : k = 0
      · obtain ⟨G2, L', i1, i2, i3, i4, i5, i6, i7⟩ := ins G L v l0 (fun _ _ _ _ _ => rfl) hp hL hLs (Nat.le_refl _) v2 y1 y2
        refine ⟨G2, L', (st_147o hs hp ca v1 (.inr ck)).trans i1, i2, i3, i4, i5, i6, fun y => ?_⟩
        rw [i7 y]
        unfold chY1
        constructor
        · rintro (q | q)
          · exact .inr (.inr ⟨ca, y2, .inl ⟨q, fun z => by omega⟩⟩)
          · exact .inr (.inr ⟨ca, y2, .inr q⟩)
        · rintro (q | ⟨_, ⟨w, q1, q2⟩, _⟩ | ⟨_, _, q | q⟩)
          · exact absurd q.1 ca
          · exact absurd q2 (y2 w q1)
          · exact .inl q.1
          · exact .inr q
      · have hkl : (kl.take k).length = k := by rw [List.length_take]; omega
        have hK' : cKl S G 103 (kl.take k) := ⟨⟨4, s103 hs, by omega⟩, fun c hc => by
          rw [hK.2 c (by omega)]
          rw [List.getD_eq_getElem?_getD, List.getD_eq_getElem?_getD, List.getElem?_take_of_lt (by omega)]⟩
        obtain ⟨w, w1, w2⟩ := k_75 (f := f) (m := m) (kl := kl.take k) hf hL hLs (by omega) hK'
        rw [hkl] at w1 w2
        have rest : ∀ (G1 : xG_) (M : List pRw), c77 f 99 w (S, G, m) = some (S, G1, m) → xFx 99 G G1 → cPs G1 → cRw S G1 99 n 512 M → M.Pairwise rwLt → M.length ≤ L.length → (∀ z, z ∈ M ↔ z ∈ L ∧ ¬ z.1.take k = kl.take k) → ∃ G' L', c147 f 93 ad (k : Int) (S, G, m) = some (S, G', m) ∧ xFx 99 G G' ∧ cPs G' ∧ cRw S G' 99 n 512 L' ∧ L'.Pairwise rwLt ∧ L'.length ≤ L.length + 1 ∧ ∀ y, y ∈ L' ↔ chY1 ad k kl L y := by
          intro G1 M q1 q2 q3 q4 q5 q6 q7
          have hn : ∀ r ∈ M, r.1 ≠ kl := fun r hr => y2 r ((q7 r).mp hr).1
          obtain ⟨u, u1, l1, u2, u3⟩ := k_74 (f := f) (m := m) hf q4 q5 hk ⟨hK.1, fun c hc => by rw [q2 _ _ (by omega) (by omega) (by omega)]; exact hK.2 c hc⟩
          have eu : u = -1 - (l1 : Int) := by
            rcases u3 with ⟨z1, z2, z3⟩ | ⟨z1, z2⟩
            · exact absurd z3 (hn _ (by rw [getD_e z2]; exact List.getElem_mem z2))
            · exact z1
          obtain ⟨G2, L', i1, i2, i3, i4, i5, i6, i7⟩ := ins G1 M u l1 q2 q3 q4 q5 q6 u2 eu hn
          refine ⟨G2, L', (st_147k hs hp q3 ca v1 (by omega) (by omega) w1 q1 u1).trans i1, i2, i3, i4, i5, i6, fun y => ?_⟩
          rw [i7 y, q7 y]
          unfold chY1
          constructor
          · rintro (⟨q1, q2⟩ | q)
            · exact .inr (.inr ⟨ca, y2, .inl ⟨q1, fun z => q2 z.2⟩⟩)
            · exact .inr (.inr ⟨ca, y2, .inr q⟩)
          · rintro (q | ⟨_, ⟨w, q1, q2⟩, _⟩ | ⟨_, _, q | q⟩)
            · exact absurd q.1 ca
            · exact absurd q2 (y2 w q1)
            · exact .inl ⟨q.1, fun z => q.2 ⟨Nat.pos_of_ne_zero ck, z⟩⟩
            · exact .inr q
        rcases w2 with ⟨z1, z2⟩ | ⟨lo, z1, z2, z3, z4⟩
        · exact rest G L (st_77m (by omega)) (fun _ _ _ _ _ => rfl) hp hL hLs (Nat.le_refl _) (fun z => ⟨fun q => ⟨q, z2 z q⟩, fun q => q.1⟩)
        · subst z1
          obtain ⟨G1, g1, g2, g3⟩ := k_77 (f := f) (m := m) hL z2
          obtain ⟨r1, r2, r3⟩ := rm_mem hLs z2
          have hw : L.getD lo dRw ∈ L := by rw [getD_e z2]; exact List.getElem_mem z2
          refine rest G1 _ g1 g2 (ps_lo hp g2) g3 r1 (by omega) (fun z => ?_)
          rw [r3 z]
          refine and_congr_right (fun hz => ⟨fun q e => q ?_, fun q e => q ?_⟩)
          · rw [hU (by omega) z hz _ hw (by rw [e, z3])]
          · rw [e, z3]
end
end
section
/-! THE CLASS: a line's cells; tell(), one predicate -/
def lnSt (S : Nat → Nat × Nat × Nat) (ln : Nat) : Prop := S ln = (1, 1, 14) ∧ S (ln + 1) = (2, 7, 520) ∧ S (ln + 2) = (2, 3, 16) ∧ S (ln + 3) = (2, 3, 72) ∧ S (ln + 4) = (2, 3, 400) ∧ S (ln + 5) = (2, 0, 400) ∧ S (ln + 6) = (2, 4, 1600) ∧ S (ln + 7) = (2, 0, 72) ∧ S (ln + 8) = (2, 5, 72)
def lnPt (G : xG_) (ln : Nat) : Prop := G ln 0 = ((ln + 1 : Nat) : Int) ∧ G ln 5 = ((ln + 2 : Nat) : Int) ∧ G ln 6 = ((ln + 3 : Nat) : Int) ∧ G ln 9 = ((ln + 4 : Nat) : Int) ∧ G ln 10 = ((ln + 5 : Nat) : Int) ∧ G ln 11 = ((ln + 6 : Nat) : Int) ∧ G ln 12 = ((ln + 7 : Nat) : Int) ∧ G ln 13 = ((ln + 8 : Nat) : Int)
theorem lnSt_of {S : Nat → Nat × Nat × Nat} {k : Nat} (h : cSs S) (hk : k < 4) : lnSt S (243 + 9 * k) := by
  rcases (by omega : k = 0 ∨ k = 1 ∨ k = 2 ∨ k = 3) with rfl | rfl | rfl | rfl
  · exact ⟨h 179 (by decide), h 180 (by decide), h 181 (by decide), h 182 (by decide), h 183 (by decide), h 184 (by decide), h 185 (by decide), h 186 (by decide), h 187 (by decide)⟩
  · exact ⟨h 188 (by decide), h 189 (by decide), h 190 (by decide), h 191 (by decide), h 192 (by decide), h 193 (by decide), h 194 (by decide), h 195 (by decide), h 196 (by decide)⟩
  · exact ⟨h 197 (by decide), h 198 (by decide), h 199 (by decide), h 200 (by decide), h 201 (by decide), h 202 (by decide), h 203 (by decide), h 204 (by decide), h 205 (by decide)⟩
  · exact ⟨h 206 (by decide), h 207 (by decide), h 208 (by decide), h 209 (by decide), h 210 (by decide), h 211 (by decide), h 212 (by decide), h 213 (by decide), h 214 (by decide)⟩
theorem ln_pt : ∀ k : Fin 4, (243 + 9 * k.val, 0, 244 + 9 * k.val) ∈ cl_P ∧ (243 + 9 * k.val, 5, 245 + 9 * k.val) ∈ cl_P ∧ (243 + 9 * k.val, 6, 246 + 9 * k.val) ∈ cl_P ∧ (243 + 9 * k.val, 9, 247 + 9 * k.val) ∈ cl_P := by decide +kernel
theorem ln_pt2 : ∀ k : Fin 4, (243 + 9 * k.val, 10, 248 + 9 * k.val) ∈ cl_P ∧ (243 + 9 * k.val, 11, 249 + 9 * k.val) ∈ cl_P ∧ (243 + 9 * k.val, 12, 250 + 9 * k.val) ∈ cl_P ∧ (243 + 9 * k.val, 13, 251 + 9 * k.val) ∈ cl_P := by decide +kernel
theorem lnPt_of {G : xG_} {k : Nat} (h : cPs G) (hk : k < 4) : lnPt G (243 + 9 * k) := by
  obtain ⟨a1, a2, a3, a4⟩ := ln_pt ⟨k, hk⟩
  obtain ⟨a5, a6, a7, a8⟩ := ln_pt2 ⟨k, hk⟩
  refine ⟨?_, ?_, ?_, ?_, ?_, ?_, ?_, ?_⟩
  · rw [h _ a1]; show ((244 + 9 * k : Nat) : Int) = _; omega
  · rw [h _ a2]; show ((245 + 9 * k : Nat) : Int) = _; omega
  · rw [h _ a3]; show ((246 + 9 * k : Nat) : Int) = _; omega
  · rw [h _ a4]; show ((247 + 9 * k : Nat) : Int) = _; omega
  · rw [h _ a5]; show ((248 + 9 * k : Nat) : Int) = _; omega
  · rw [h _ a6]; show ((249 + 9 * k : Nat) : Int) = _; omega
  · rw [h _ a7]; show ((250 + 9 * k : Nat) : Int) = _; omega
  · rw [h _ a8]; show ((251 + 9 * k : Nat) : Int) = _; omega
/-- CHANGES that are PENDING, for the program s -/
def cPn (G : xG_) (ln : Nat) (s : pPg) (E : List pPe) : Prop := G ln 8 = (E.length : Int) ∧ E.length ≤ 400 ∧ ∀ i, i < E.length → ((∃ p : Nat, p < s.1.length ∧ chT s (E.getD i dPe) p ∧ G (ln + 4) i = (p : Int)) ∨ ((∀ p, p < s.1.length → ¬ chT s (E.getD i dPe) p) ∧ G (ln + 4) i = -1)) ∧ G (ln + 5) i = (if (E.getD i dPe).1 < 0 then 0 else 1) ∧ ∀ c, c < (E.getD i dPe).2.2.length → G (ln + 6) (4 * i + c) = (E.getD i dPe).2.2.getD c 0
theorem cPn.ge {G G' : xG_} {ln : Nat} {s : pPg} {E : List pPe} (h : cPn G ln s E) (hf : ∀ a j, ln ≤ a → a ≤ ln + 6 → G' a j = G a j) : cPn G' ln s E := by
  obtain ⟨a1, a2, a3⟩ := h
  refine ⟨by rw [hf _ _ (by omega) (by omega)]; exact a1, a2, fun i hi => ?_⟩
  obtain ⟨b1, b2, b3⟩ := a3 i hi
  exact ⟨by rw [hf _ _ (by omega) (by omega)]; exact b1, by rw [hf _ _ (by omega) (by omega)]; exact b2, fun c hc => by rw [hf _ _ (by omega) (by omega)]; exact b3 c hc⟩
/-- a CHANGE, one predicate -/
def chP (s : pPg) (p : Nat) (e : pPe) (L L1 : List pRw) : Prop := L1.Pairwise rwLt ∧ L1.length ≤ L.length + 1 ∧ ∀ y, y ∈ L1 ↔ (¬ chT s e p ∧ y ∈ L) ∨ (chT s e p ∧ chY1 (if e.1 < 0 then 0 else 1) (qKy s p) e.2.2 L y)
def chA1 (s : pPg) (p : Nat) : List pPe → List pRw → List pRw → Prop
  | [], L, L' => L' = L
  | e :: ps, L, L' => ∃ L1, chP s p e L L1 ∧ chA1 s p ps L1 L'
theorem chY_1 {s : pPg} {e : pPe} {R : Nat → List pRw} {p : Nat} {y : pRw} : chY s e R p y ↔ (¬ chT s e p ∧ y ∈ R p) ∨ (chT s e p ∧ chY1 (if e.1 < 0 then 0 else 1) (qKy s p) e.2.2 (R p) y) := by
  unfold chY chY1
  by_cases c : e.1 < 0
  · rw [if_pos c]
    refine or_congr Iff.rfl (and_congr_right (fun _ => ⟨fun q => ?_, fun q => ?_⟩))
    · rcases q with q | q | q
      · exact .inl ⟨rfl, q.2⟩
      · omega
      · omega
    · rcases q with q | q | q
      · exact .inl ⟨c, q.2⟩
      · exact absurd rfl q.1
      · exact absurd rfl q.1
  · rw [if_neg c]
    refine or_congr Iff.rfl (and_congr_right (fun _ => ⟨fun q => ?_, fun q => ?_⟩))
    · rcases q with q | q | q
      · exact absurd q.1 c
      · exact .inr (.inl ⟨by decide, q.2⟩)
      · exact .inr (.inr ⟨by decide, q.2⟩)
    · rcases q with q | q | q
      · exact absurd q.1 (by decide)
      · exact .inr (.inl ⟨by omega, q.2⟩)
      · exact .inr (.inr ⟨by omega, q.2⟩)
theorem chA1_of {s : pPg} : ∀ {E : List pPe} {R R' : Nat → List pRw}, chA s E R R' → ∀ p, p < s.1.length → chA1 s p E (R p) (R' p)
  | [], R, R', h, p, hp => by
    have h' : R' = R := h
    rw [h']; exact rfl
  | e :: ps, R, R', h, p, hp => by
    obtain ⟨R1, h1, h2⟩ := h
    obtain ⟨a1, a2, a3⟩ := h1 p hp
    exact ⟨R1 p, ⟨a1, a2, fun y => (a3 y).trans chY_1⟩, chA1_of h2 p hp⟩
theorem chA1_no {s : pPg} {p : Nat} (hi : pIn s.2.1 (p : Int) = false) {L : List pRw} (hL : L.Pairwise rwLt) : ∀ (E : List pPe), chA1 s p E L L
  | [] => rfl
  | e :: ps => ⟨L, ⟨hL, by omega, fun y => by
      have : ¬ chT s e p := fun q => by rw [q.2.1] at hi; cases hi
      exact ⟨fun q => .inl ⟨this, q⟩, fun q => q.elim (fun q => q.2) (fun q => absurd q.1 this)⟩⟩, chA1_no hi hL ps⟩
theorem kU.ch {k : Nat} {L L1 : List pRw} {ad : Int} {kl : List Int} (h : kU k L) (hm : ∀ y, y ∈ L1 ↔ chY1 ad k kl L y) : kU k L1 := fun hk a ha b hb e => by
  rcases (hm a).mp ha with ⟨a0, a1, _⟩ | ⟨_, ⟨u, u1, u2⟩, a1⟩ | ⟨a0, a3, ⟨a1, a2⟩ | a1⟩
  · rcases (hm b).mp hb with ⟨_, b1, _⟩ | ⟨_, _, b1⟩ | ⟨c1, _⟩
    · exact h hk a a1 b b1 e
    · exact h hk a a1 b b1 e
    · exact absurd a0 c1
  · rcases (hm b).mp hb with ⟨_, b1, _⟩ | ⟨_, _, b1⟩ | ⟨_, c1, _⟩
    · exact h hk a a1 b b1 e
    · exact h hk a a1 b b1 e
    · exact absurd u2 (c1 u u1)
  · rcases (hm b).mp hb with ⟨_, b1, _⟩ | ⟨_, _, b1⟩ | ⟨_, _, ⟨b1, _⟩ | b1⟩
    · exact h hk a a1 b b1 e
    · exact h hk a a1 b b1 e
    · exact h hk a a1 b b1 e
    · subst b1; exact absurd ⟨hk, e⟩ a2
  · rcases (hm b).mp hb with ⟨c1, _⟩ | ⟨_, ⟨w, w1, w2⟩, _⟩ | ⟨_, _, ⟨b1, b2⟩ | b1⟩
    · exact absurd c1 a0
    · exact absurd w2 (a3 w w1)
    · subst a1; exact absurd ⟨hk, e.symm⟩ b2
    · rw [a1, b1]
theorem chP.ku {s : pPg} {p : Nat} {e : pPe} {L L1 : List pRw} (h : chP s p e L L1) (hU : kU (qKy s p) L) : kU (qKy s p) L1 := by
  obtain ⟨h1, h2, h3⟩ := h
  by_cases c : chT s e p
  · exact hU.ch (fun y => (h3 y).trans ⟨fun q => q.elim (fun q => absurd c q.1) (fun q => q.2), fun q => .inr ⟨c, q⟩⟩)
  · intro hk a ha b hb
    have : ∀ y, y ∈ L1 → y ∈ L := fun y hy => ((h3 y).mp hy).elim (fun q => q.2) (fun q => absurd q.1 c)
    exact hU hk a (this a ha) b (this b hb)
theorem chA1.ku {s : pPg} {p : Nat} : ∀ {E : List pPe} {L L' : List pRw}, chA1 s p E L L' → kU (qKy s p) L → kU (qKy s p) L'
  | [], L, L', h, hU => by
    have h' : L' = L := h
    rw [h']; exact hU
  | e :: ps, L, L', h, hU => by
    obtain ⟨L1, h1, h2⟩ := h
    exact chA1.ku h2 (h1.ku hU)
theorem chA1.ok {s : pPg} {p : Nat} : ∀ {E : List pPe} {L L' : List pRw}, chA1 s p E L L' → (∀ e ∈ E, ∀ x ∈ e.2.2, vOk x) → (∀ y ∈ L, y.2 = 0 ∧ ∀ x ∈ y.1, vOk x) → ∀ y ∈ L', y.2 = 0 ∧ ∀ x ∈ y.1, vOk x
  | [], L, L', h, hE, hL => by
    have h' : L' = L := h
    rw [h']; exact hL
  | e :: ps, L, L', h, hE, hL => by
    obtain ⟨L1, h1, h2⟩ := h
    refine chA1.ok h2 (fun e he => hE e (List.mem_cons_of_mem _ he)) (fun y hy => ?_)
    rcases (h1.2.2 y).mp hy with q | ⟨_, q⟩
    · exact hL y q.2
    · rcases q with q | q | ⟨_, _, q | q⟩
      · exact hL y q.2.1
      · exact hL y q.2.2
      · exact hL y q.1
      · rw [q]; exact ⟨rfl, hE e List.mem_cons_self⟩
theorem chA1.srt {s : pPg} {p : Nat} : ∀ {E : List pPe} {L L' : List pRw}, chA1 s p E L L' → L.Pairwise rwLt → L'.Pairwise rwLt
  | [], L, L', h, hL => by
    have h' : L' = L := h
    rw [h']; exact hL
  | e :: ps, L, L', h, hL => by
    obtain ⟨L1, h1, h2⟩ := h
    exact chA1.srt h2 h1.1
theorem md_pt : ∀ p : Fin 16, (96, p.val, 108 + 6 * p.val) ∈ cl_P := by decide +kernel
theorem p_md {G : xG_} {p : Nat} (h : cPs G) (hp : p < 16) : G 96 p = ((108 + 6 * p : Nat) : Int) := h _ (md_pt ⟨p, hp⟩)
section
variable {f q p i ln n x y np : Nat} {S : Nat → Nat × Nat × Nat} {G G1 G2 : xG_} {m : Nat × Nat} {tt v ad : Int} {r2 : Nat → Nat → Int → xT_ → Option (Int × xT_)} {r18 : Nat → Nat → Int → Int → Int → xT_ → Option (Int × xT_)} {T : xT_} {k sz : Nat}
theorem st_18z (ls : S ln = (1, 1, 14)) (h8 : G ln 8 = (n : Int)) : c146_18b r2 r18 f 93 ln (p : Int) 0 (n : Int) (S, G, m) = c146_143 r2 f 93 ln (p : Int) (S, G, m) := by
  unfold c146_18b
  simp (disch := omega) only [cq_gi, cq_gr, cq_a, cq_s, cq_p, cq_pr, cq_is, cq_ar, cq_ab, cq_ln, xq_nz, Option.bind_some, xup2_n, xup2_s, Int.toNat_natCast, Int.reduceToNat, if_pos, if_neg, true_and, and_true, and_self, eq_self, if_true, reduceIte, not_true_eq_false, not_false_eq_true, or_true, true_or, ls, h8]
theorem st_18f (hs : cSs S) (hp : cPs G) (ls : S ln = (1, 1, 14)) (h8 : G ln 8 = (n : Int)) (h1 : G 99 1 = (sz : Int)) (hz : 100 < sz) : c146_18b r2 r18 f 93 ln (p : Int) 1 (n : Int) (S, G, m) = some (0, (S, G, m)) := by
  have h10 : ¬ (1 : Int) = 0 := by decide
  have hz' : ¬ (sz : Int) ≤ 100 := by omega
  unfold c146_18b
  simp (disch := omega) only [cq_gi, cq_gr, cq_a, cq_s, cq_p, cq_pr, cq_is, cq_ar, cq_ab, cq_ln, xq_nz, Option.bind_some, xup2_n, xup2_s, Int.toNat_natCast, Int.reduceToNat, if_pos, if_neg, true_and, and_true, and_self, eq_self, if_true, reduceIte, not_true_eq_false, not_false_eq_true, or_true, true_or, s93 hs, s99 hs, p93_7 hp, ls, h8, h1, hz', h10]
theorem st_18w (hs : cSs S) (hp : cPs G) (hp1 : cPs G1) (hp16 : p < 16) (ls : S ln = (1, 1, 14)) (h8 : G ln 8 = (n : Int)) (h1 : G 99 1 = (sz : Int)) (hz : sz ≤ 100) (e : c79 f (108 + 6 * p) 99 (S, G, m) = some (S, G1, m)) : c146_18b r2 r18 f 93 ln (p : Int) 1 (n : Int) (S, G, m) = c146_143 r2 f 93 ln (p : Int) (S, xup2 G1 94 p ((108 + 6 * p : Nat) : Int), m) := by
  have h10 : ¬ (1 : Int) = 0 := by decide
  have hz' : (sz : Int) ≤ 100 := by omega
  have hm : G 96 p = ((108 + 6 * p : Nat) : Int) := p_md hp hp16
  have hm1 : G1 96 p = ((108 + 6 * p : Nat) : Int) := p_md hp1 hp16
  have sm : S (108 + 6 * p) = (1, 5, 4) := (s_mk hs hp16).1
  have hsr : cq_sr 94 (p : Int) (108 + 6 * p) (S, G1, m) = some (S, xup2 G1 94 p ((108 + 6 * p : Nat) : Int), m) := by
    unfold cq_sr
    simp only [s94 hs, sm]
    rw [if_pos ⟨trivial, by decide, by omega, by omega, .inr ⟨trivial, trivial⟩⟩, Int.toNat_natCast]
  unfold c146_18b
  simp (disch := omega) only [cq_gi, cq_gr, cq_a, cq_s, cq_p, cq_pr, cq_is, cq_ar, cq_ab, cq_ln, xq_nz, Option.bind_some, xup2_n, xup2_s, Int.toNat_natCast, Int.reduceToNat, if_pos, if_neg, true_and, and_true, and_self, eq_self, if_true, reduceIte, not_true_eq_false, not_false_eq_true, or_true, true_or, s93 hs, s99 hs, s96 hs, p93_7 hp, p93_4 hp, p93_2 hp1, p93_4 hp1, ls, h8, h1, hz', h10, hm, hm1, sm, e, hsr]
theorem st_18n (ls : S ln = (1, 1, 14)) (l4 : S (ln + 4) = (2, 3, 400)) (h9 : G ln 9 = ((ln + 4 : Nat) : Int)) (h8 : G ln 8 = (n : Int)) (hi : i < n) (hn : n ≤ 400) (hv : G (ln + 4) i = v) (hne : v ≠ (p : Int)) (ei : xwr ((i : Int) + 1) = ((i + 1 : Nat) : Int)) : c146_18b r2 r18 f 93 ln (p : Int) tt (i : Int) (S, G, m) = r18 93 ln (p : Int) tt ((i + 1 : Nat) : Int) (S, G, m) := by
  unfold c146_18b c146_94
  simp (disch := omega) only [cq_gi, cq_gr, cq_a, cq_s, cq_p, cq_pr, cq_is, cq_ar, cq_ab, cq_ln, xq_nz, Option.bind_some, xup2_n, xup2_s, Int.toNat_natCast, Int.reduceToNat, if_pos, if_neg, true_and, and_true, and_self, eq_self, if_true, reduceIte, not_true_eq_false, not_false_eq_true, or_true, true_or, ls, l4, h9, h8, hv, hne, ei]
theorem st_18t (ls : S ln = (1, 1, 14)) (l4 : S (ln + 4) = (2, 3, 400)) (h9 : G ln 9 = ((ln + 4 : Nat) : Int)) (h8 : G ln 8 = (n : Int)) (hi : i < n) (hn : n ≤ 400) (hv : G (ln + 4) i = (p : Int)) : c146_18b r2 r18 f 93 ln (p : Int) 1 (i : Int) (S, G, m) = c146_57 r2 r18 f 93 ln (p : Int) 1 (i : Int) (S, G, m) := by
  have h10 : ¬ (1 : Int) = 0 := by decide
  unfold c146_18b
  simp (disch := omega) only [cq_gi, cq_gr, cq_a, cq_s, cq_p, cq_pr, cq_is, cq_ar, cq_ab, cq_ln, xq_nz, Option.bind_some, xup2_n, xup2_s, Int.toNat_natCast, Int.reduceToNat, if_pos, if_neg, true_and, and_true, and_self, eq_self, if_true, reduceIte, not_true_eq_false, not_false_eq_true, or_true, true_or, ls, l4, h9, h8, hv, h10]
theorem st_18u (hs : cSs S) (hp : cPs G) (hp16 : p < 16) (ls : S ln = (1, 1, 14)) (l4 : S (ln + 4) = (2, 3, 400)) (h9 : G ln 9 = ((ln + 4 : Nat) : Int)) (h8 : G ln 8 = (n : Int)) (hi : i < n) (hn : n ≤ 400) (hv : G (ln + 4) i = (p : Int)) (h94 : G 94 p = (x : Int)) (e : c79 f 99 x (S, G, m) = some T) : c146_18b r2 r18 f 93 ln (p : Int) 0 (i : Int) (S, G, m) = c146_57 r2 r18 f 93 ln (p : Int) 1 (i : Int) T := by
  unfold c146_18b
  simp (disch := omega) only [cq_gi, cq_gr, cq_a, cq_s, cq_p, cq_pr, cq_is, cq_ar, cq_ab, cq_ln, xq_nz, Option.bind_some, xup2_n, xup2_s, Int.toNat_natCast, Int.reduceToNat, if_pos, if_neg, true_and, and_true, and_self, eq_self, if_true, reduceIte, not_true_eq_false, not_false_eq_true, or_true, true_or, s93 hs, s99 hs, s94 hs, p93_7 hp, p93_2 hp, ls, l4, h9, h8, hv, h94, e]
theorem st_57 (hs : cSs S) (hp : cPs G) (hp1 : cPs G1) (hp16 : p < 16) (ls : S ln = (1, 1, 14)) (l5 : S (ln + 5) = (2, 0, 400)) (h10 : G1 ln 10 = ((ln + 5 : Nat) : Int)) (h11 : G ln 11 = ((ln + 6 : Nat) : Int)) (hi : i < 400) (e4 : xwr (4 * (i : Int)) = ((4 * i : Nat) : Int)) (ec : cq_cp (ln + 6) ((4 * i : Nat) : Int) 103 0 4 (S, G, m) = some (S, G1, m)) (ha : G1 (ln + 5) i = ad) (h1 : G1 93 1 = (q : Int)) (qs : S q = (1, 3, 14)) (q3 : S (q + 3) = (2, 3, 16)) (h4 : G1 q 4 = ((q + 3 : Nat) : Int)) (hk : G1 (q + 3) p = (k : Int)) (e : c147 f 93 ad (k : Int) (S, G1, m) = some T) (ei : xwr ((i : Int) + 1) = ((i + 1 : Nat) : Int)) : c146_57 r2 r18 f 93 ln (p : Int) tt (i : Int) (S, G, m) = r18 93 ln (p : Int) tt ((i + 1 : Nat) : Int) T := by
  unfold c146_57 c146_94
  simp (disch := omega) only [cq_gi, cq_gr, cq_a, cq_s, cq_p, cq_pr, cq_is, cq_ar, cq_ab, cq_ln, xq_nz, Option.bind_some, xup2_n, xup2_s, Int.toNat_natCast, Int.reduceToNat, if_pos, if_neg, true_and, and_true, and_self, eq_self, if_true, reduceIte, not_true_eq_false, not_false_eq_true, or_true, true_or, s93 hs, p93_9 hp, ls, l5, h10, h11, e4, ec, ha, h1, qs, q3, h4, hk, e, ei, Nat.reduceLT]
end
end
section
/-! THE CLASS: tell() -/
def xTl (p : Nat) (G G' : xG_) : Prop := ∀ b j, ¬ (99 ≤ b ∧ b ≤ 101) → b ≠ 103 → ¬ (b = 94 ∧ j = p) → ¬ (108 + 6 * p ≤ b ∧ b ≤ 110 + 6 * p) → G' b j = G b j
theorem ps_tl {p : Nat} {G G' : xG_} (hp16 : p < 16) (hp : cPs G) (z : ∀ b j, ¬ (b = 99 ∧ j ≤ 1) → ¬ (100 ≤ b ∧ b ≤ 101) → b ≠ 103 → ¬ (b = 94 ∧ j = p) → ¬ (b = 108 + 6 * p ∧ j ≤ 1) → ¬ (109 + 6 * p ≤ b ∧ b ≤ 110 + 6 * p) → G' b j = G b j) : cPs G' := hp.ge (fun b j hz => by
  have : ¬ (b = 99 ∧ j ≤ 1) ∧ ¬ (100 ≤ b ∧ b ≤ 101) ∧ b ≠ 103 ∧ ¬ (b = 94 ∧ j = p) ∧ ¬ (b = 108 + 6 * p ∧ j ≤ 1) ∧ ¬ (109 + 6 * p ≤ b ∧ b ≤ 110 + 6 * p) := by
    rcases hz with z | z | z | z | z | z | z | ⟨z, z1, z2, k, z3⟩ | z | z | z | ⟨k, z1, z2, z3⟩ <;> omega
  exact z b j this.1 this.2.1 this.2.2.1 this.2.2.2.1 this.2.2.2.2.1 this.2.2.2.2.2)
section
variable {f q nx p i kk : Nat} {S : Nat → Nat × Nat × Nat} {m : Nat × Nat} {s : pPg} {xp cp yp ap : Nat → Nat} {R Ri Rf A : Nat → List pRw} {E : List pPe} {Lf : List pRw} {r2 : Nat → Nat → Int → xT_ → Option (Int × xT_)}
/-- one predicate: all CHANGES for it -/
theorem k_146i (hf : 600 < f) (hp : p < s.1.length) (hkk : kk < 4) : ∀ (d i fu : Nat) (G : xG_) (L : List pRw) (t : Int), i + d = E.length → d < fu → cWk S G q nx s xp cp R → cPn G (243 + 9 * kk) s E → chA1 s p (E.drop i) L Lf → L.Pairwise rwLt → L.length ≤ 100 + i → kU (qKy s p) L → (∀ y ∈ L, y.1.length = qN s p) → (t = 0 ∧ L = R p ∨ t = 1 ∧ cRw S G 99 (qN s p) 512 L) →
    ∃ G', xTl p G G' ∧ cPs G' ∧ ((c146_18 r2 f fu 93 (243 + 9 * kk) (p : Int) t (i : Int) (S, G, m) = c146_143 r2 f 93 (243 + 9 * kk) (p : Int) (S, G', m) ∧ Lf = R p ∧ (∀ j, G' 94 j = G 94 j) ∧ ∀ b j, 105 < b → G' b j = G b j) ∨
      (c146_18 r2 f fu 93 (243 + 9 * kk) (p : Int) t (i : Int) (S, G, m) = some (0, (S, G', m)) ∧ 100 < Lf.length) ∨
      (c146_18 r2 f fu 93 (243 + 9 * kk) (p : Int) t (i : Int) (S, G, m) = c146_143 r2 f 93 (243 + 9 * kk) (p : Int) (S, G', m) ∧ G' 94 p = ((108 + 6 * p : Nat) : Int) ∧ cRw S G' (108 + 6 * p) (qN s p) 100 Lf)) := by
  intro d
  induction d with
  | zero =>
    intro i fu G L t e1 e2 h hE hA hLs hLl hU hLn ht
    obtain ⟨fu, rfl⟩ : ∃ t, fu = t + 1 := ⟨fu - 1, by omega⟩
    obtain ⟨⟨a1, a2, a3, a4, a5, a6⟩, b⟩ := id h
    have hnp : s.1.length ≤ 16 := a6.1.1.1
    have e : i = E.length := by omega
    subst e
    rw [List.drop_length] at hA
    have hA' : Lf = L := hA
    have ls := lnSt_of a1 hkk
    rcases ht with ⟨rfl, hL⟩ | ⟨rfl, hL⟩
    · exact ⟨G, fun _ _ _ _ _ _ => rfl, a2, .inl ⟨st_18z (r18 := c146_18 r2 f fu) ls.1 hE.1, hA'.trans hL, fun _ => rfl, fun _ _ _ => rfl⟩⟩
    · by_cases c : L.length ≤ 100
      · obtain ⟨s1, s2, s3, _⟩ := s_mk (p := p) a1 (by omega)
        obtain ⟨t1, t2, _⟩ := p_pt (p := p) a2 (by omega)
        have hW := (qN_c a6.1.1 p).2
        obtain ⟨G1, g1, g2, g3⟩ := k_79 (f := f) (m := m) (x := 108 + 6 * p) (z := 400) (cap := 100) (y := 99) ⟨s1, by rw [show 108 + 6 * p + 1 = 109 + 6 * p by omega]; exact s2, by rw [show 108 + 6 * p + 2 = 110 + 6 * p by omega]; exact s3, by rw [t1]; omega, by rw [t2]; omega⟩ ⟨by omega, by decide⟩ (by decide) (by omega) hL c
        have hp1 : cPs G1 := ps_tl (p := p) (by omega) a2 (fun b j _ _ _ _ y1 y2 => g2 b j y1 (by omega) (by omega))
        have zz : ∀ b j, ¬ (b = 94 ∧ j = p) → ¬ (108 + 6 * p ≤ b ∧ b ≤ 110 + 6 * p) → xup2 G1 94 p ((108 + 6 * p : Nat) : Int) b j = G b j := fun b j y1 y2 => by rw [xup2_n y1, g2 b j (by omega) (by omega) (by omega)]
        refine ⟨_, fun b j y1 y2 y3 y4 => zz b j y3 y4, ps_tl (p := p) (by omega) hp1 (fun b j _ _ _ y3 _ _ => xup2_n y3), .inr (.inr ⟨st_18w (r18 := c146_18 r2 f fu) a1 a2 hp1 (by omega) ls.1 hE.1 hL.2.2.2.1.2.1 c g1, xup2_s _ _ _ _, ?_⟩)⟩
        rw [hA']
        exact g3.ge (fun _ _ _ => rfl) (fun j => xup2_n (by omega)) (fun j => xup2_n (by omega)) (fun j => xup2_n (by omega))
      · exact ⟨G, fun _ _ _ _ _ _ => rfl, a2, .inr (.inl ⟨st_18f (r18 := c146_18 r2 f fu) a1 a2 ls.1 hE.1 hL.2.2.2.1.2.1 (by omega), by rw [hA']; omega⟩)⟩
  | succ d ih =>
    intro i fu G L t e1 e2 h hE hA hLs hLl hU hLn ht
    obtain ⟨fu, rfl⟩ : ∃ t, fu = t + 1 := ⟨fu - 1, by omega⟩
    obtain ⟨⟨a1, a2, a3, a4, a5, a6⟩, b⟩ := id h
    have hnp : s.1.length ≤ 16 := a6.1.1.1
    have ls := lnSt_of a1 hkk
    have lp := lnPt_of a2 hkk
    have hE4 := hE.2.1
    have hi : i < E.length := by omega
    have ei : xwr ((i : Int) + 1) = ((i + 1 : Nat) : Int) := by rw [xwr_g _ (by omega) (by omega)]; omega
    rw [List.drop_eq_getElem_cons hi, ← getD_e (d := dPe) hi] at hA
    obtain ⟨L1, c1, c2⟩ := hA
    obtain ⟨b1, b2, b3⟩ := hE.2.2 i hi
    have hW := (qN_c a6.1.1 p).2
    by_cases ct : chT s (E.getD i dPe) p
    · -- this one is for p
      have hv : G (243 + 9 * kk + 4) i = (p : Int) := by
        rcases b1 with ⟨p', y1, y2, y3⟩ | ⟨y1, _⟩
        · have : p' = p := nm_inj a6.1 y1 hp (y2.1.trans ct.1.symm)
          rw [y3, this]
        · exact absurd ct (y1 p hp)
      have hkl : (E.getD i dPe).2.2.length = qN s p := ct.2.2
      -- loose has L in it
      have main : ∀ (G0 : xG_), xTl p G G0 → cPs G0 → (∀ j, G0 94 j = G 94 j) → (∀ b j, 105 < b → G0 b j = G b j) → cRw S G0 99 (qN s p) 512 L → c146_18 r2 f (fu + 1) 93 (243 + 9 * kk) (p : Int) t (i : Int) (S, G, m) = c146_57 r2 (c146_18 r2 f fu) f 93 (243 + 9 * kk) (p : Int) 1 (i : Int) (S, G0, m) → ∃ G', xTl p G G' ∧ cPs G' ∧ ((c146_18 r2 f (fu + 1) 93 (243 + 9 * kk) (p : Int) t (i : Int) (S, G, m) = c146_143 r2 f 93 (243 + 9 * kk) (p : Int) (S, G', m) ∧ Lf = R p ∧ (∀ j, G' 94 j = G 94 j) ∧ ∀ b j, 105 < b → G' b j = G b j) ∨ (c146_18 r2 f (fu + 1) 93 (243 + 9 * kk) (p : Int) t (i : Int) (S, G, m) = some (0, (S, G', m)) ∧ 100 < Lf.length) ∨ (c146_18 r2 f (fu + 1) 93 (243 + 9 * kk) (p : Int) t (i : Int) (S, G, m) = c146_143 r2 f 93 (243 + 9 * kk) (p : Int) (S, G', m) ∧ G' 94 p = ((108 + 6 * p : Nat) : Int) ∧ cRw S G' (108 + 6 * p) (qN s p) 100 Lf)) := by
        intro G0 f0 p0 n0 z0 hL0 st0
        have ec := cp_ok (G := G0) (m := m) (a0 := 243 + 9 * kk + 6) (a := 103) (sp := 4 * i) (dp := 0) (n := 4) ls.2.2.2.2.2.2.1 (s103 a1) (.inr rfl) (by omega) (by omega)
        obtain ⟨G1, hG1⟩ : ∃ G1, G1 = cpG G0 (243 + 9 * kk + 6) (4 * i) 103 0 4 := ⟨_, rfl⟩
        rw [← hG1] at ec
        have z1 : ∀ b j, b ≠ 103 → G1 b j = G0 b j := fun b j y => by rw [hG1, cpG_n y]
        have p1 : cPs G1 := ps_tl (p := p) (by omega) p0 (fun b j _ _ y _ _ _ => z1 b j y)
        have hK1 : cKl S G1 103 (E.getD i dPe).2.2 := ⟨⟨4, s103 a1, by omega⟩, fun c hc => by
          rw [hG1, cpG_i (Nat.zero_le _) (by omega), Nat.sub_zero, z0 _ _ (by omega), b3 c hc]⟩
        have hL1 : cRw S G1 99 (qN s p) 512 L := hL0.ge (fun _ _ _ => rfl) (fun j => z1 _ _ (by omega)) (fun j => z1 _ _ (by omega)) (fun j => z1 _ _ (by omega))
        have hky : qKy s p ≤ qN s p := Nat.le_of_lt (a6.2.2.2.2.2.2 p hp ct.2.1)
        obtain ⟨G2, L2, k1, k2, k3, k4, k5, k6, k7⟩ := k_147 (f := f) (m := m) (ad := (if (E.getD i dPe).1 < 0 then 0 else 1)) (k := qKy s p) hf a1 p1 hL1 hLs hkl hW hK1 (by omega) hky hU
        have eL : L2 = L1 := srt_ext (lt := rwLt) (fun a => vLt_irr a.1) (fun a b c => vLt_tr) _ _ k5 c1.1 (fun y => by
          rw [k7 y, c1.2.2 y]
          exact ⟨fun q => .inr ⟨ct, q⟩, fun q => q.elim (fun q => absurd ct q.1) (fun q => q.2)⟩)
        subst eL
        have zq : ∀ j, G1 q j = G q j := fun j => by rw [z1 _ _ (by omega), z0 _ _ (by omega)]
        have st1 := st0.trans (st_57 (r18 := c146_18 r2 f fu) (k := qKy s p) (q := q) a1 p0 p1 (by omega : p < 16) ls.1 ls.2.2.2.2.2.1 (by rw [z1 _ _ (by omega), z0 _ _ (by omega)]; exact lp.2.2.2.2.1) (by rw [z0 _ _ (by omega)]; exact lp.2.2.2.2.2.1) (by omega) (by rw [xwr_g _ (by omega) (by omega)]; omega) ec (by rw [z1 _ _ (by omega), z0 _ _ (by omega)]; exact b2) (by rw [z1 _ _ (by omega), f0 _ _ (by omega) (by omega) (by omega) (by omega)]; exact a3) a5.1.1 a5.1.2.2.2.1 (by rw [zq]; exact a5.2.1.2.2.1) (by
          rw [z1 _ _ (by omega), z0 _ _ (by omega), (a5.2.2.2.2.1 p (by omega)).1, pKl_e a6.2.2.2.2.2.1]
          unfold qKy
          have := (pKy_in a6.1.1 p).1
          omega) k1 ei)
        have z2 : ∀ b j, ¬ (99 ≤ b ∧ b ≤ 101) → b ≠ 103 → G2 b j = G0 b j := fun b j y1 y2 => by rw [k2 b j (by omega) (by omega) (by omega), z1 b j y2]
        have z3 : ∀ b j, ¬ (99 ≤ b ∧ b ≤ 101) → b ≠ 103 → ¬ (b = 94 ∧ j = p) → ¬ (108 + 6 * p ≤ b ∧ b ≤ 110 + 6 * p) → G2 b j = G b j := fun b j y1 y2 y3 y4 => by rw [z2 b j y1 y2, f0 b j y1 y2 y3 y4]
        have hW2 : cWk S G2 q nx s xp cp R := h.ge k3 (z3 _ _ (by omega) (by omega) (by omega) (by omega)) (fun j => by rw [z2 _ _ (by omega) (by omega), n0]) (fun k hk b y1 y2 j => by rw [z2 _ _ (by omega) (by omega), z0 _ _ (by omega)]) (fun b j y => by rw [z2 _ _ (by omega) (by omega), z0 _ _ (by omega)])
        obtain ⟨G3, i1, i2, i3⟩ := ih (i + 1) fu G2 L2 1 (by omega) (by omega) hW2 (hE.ge (fun a j y1 y2 => by rw [z2 _ _ (by omega) (by omega), z0 _ _ (by omega)])) c2 k5 (by omega) (c1.ku hU) (fun y hy => by
          obtain ⟨j, hj, ej⟩ := List.getElem_of_mem hy
          have := (k4.2.2.2.2.2.2.2 j hj).1
          rw [getD_e hj, ej] at this
          exact this) (.inr ⟨rfl, k4⟩)
        refine ⟨G3, fun b j y1 y2 y3 y4 => by rw [i1 b j y1 y2 y3 y4, z3 b j y1 y2 y3 y4], i2, ?_⟩
        rw [st1]
        rcases i3 with ⟨j1, j2, j3, j4⟩ | j1 | j1
        · exact .inl ⟨j1, j2, fun j => by rw [j3, z2 _ _ (by omega) (by omega), n0], fun b j y => by rw [j4 b j y, z2 _ _ (by omega) (by omega), z0 _ _ y]⟩
        · exact .inr (.inl j1)
        · exact .inr (.inr j1)
      rcases ht with ⟨rfl, hL⟩ | ⟨rfl, hL⟩
      · obtain ⟨d1, d2, d3, d4, d5, _⟩ := b p hp
        obtain ⟨G1, g1, g2, g3⟩ := k_79 (f := f) (m := m) (x := 99) (z := 2048) (cap := 512) (y := xp p) ⟨s99 a1, s100 a1, s101 a1, p99_2 a2, p99_3 a2⟩ ⟨by omega, by decide⟩ (by decide) (by omega) d3 (by omega)
        have z1 : ∀ b j, ¬ (99 ≤ b ∧ b ≤ 101) → G1 b j = G b j := fun b j y => g2 b j (by omega) (by omega) (by omega)
        refine main G1 (fun b j y1 _ _ _ => z1 b j y1) (ps_tl (p := p) (by omega) a2 (fun b j y1 y2 _ _ _ _ => g2 b j y1 (by omega) (by omega))) (fun j => z1 _ _ (by omega)) (fun b j y => z1 b j (by omega)) (by rw [hL]; exact g3) ?_
        exact st_18u (r18 := c146_18 r2 f fu) a1 a2 (by omega) ls.1 ls.2.2.2.2.1 lp.2.2.2.1 hE.1 hi hE4 hv d1 g1
      · exact main G (fun _ _ _ _ _ _ => rfl) a2 (fun _ => rfl) (fun _ _ _ => rfl) hL (st_18t (r18 := c146_18 r2 f fu) ls.1 ls.2.2.2.2.1 lp.2.2.2.1 hE.1 hi hE4 hv)
    · have eL : L1 = L := srt_ext (lt := rwLt) (fun a => vLt_irr a.1) (fun a b c => vLt_tr) _ _ c1.1 hLs (fun y => by
        rw [c1.2.2 y]
        exact ⟨fun q => q.elim (fun q => q.2) (fun q => absurd q.1 ct), fun q => .inl ⟨ct, q⟩⟩)
      rw [eL] at c2
      have hv : ∃ v, G (243 + 9 * kk + 4) i = v ∧ v ≠ (p : Int) := by
        rcases b1 with ⟨p', y1, y2, y3⟩ | ⟨y1, y2⟩
        · refine ⟨_, y3, fun e => ct ?_⟩
          have : p' = p := by omega
          rw [← this]; exact y2
        · exact ⟨_, y2, by omega⟩
      obtain ⟨v, v1, v2⟩ := hv
      have st : c146_18 r2 f (fu + 1) 93 (243 + 9 * kk) (p : Int) t (i : Int) (S, G, m) = _ := st_18n (r18 := c146_18 r2 f fu) ls.1 ls.2.2.2.2.1 lp.2.2.2.1 hE.1 hi hE4 v1 v2 ei
      rw [st]
      exact ih (i + 1) fu G L t (by omega) (by omega) h hE c2 hLs (by omega) hU hLn ht
end
end
section
/-! THE CLASS: tell() whole -/
section
variable {f q nx p kk ln np : Nat} {S : Nat → Nat × Nat × Nat} {G G' : xG_} {m : Nat × Nat} {s : pPg} {xp cp yp ap : Nat → Nat} {R R' Ri Rf A : Nat → List pRw} {E : List pPe} {r2 : Nat → Nat → Int → xT_ → Option (Int × xT_)} {T : xT_}
theorem cWk.cg (h : cWk S G q nx s xp cp R) (e : ∀ j, j < s.1.length → R j = R' j) : cWk S G q nx s xp cp R' := ⟨h.1, fun p hp => by rw [← e p hp]; exact h.2 p hp⟩
theorem st_t2z (hs : cSs S) (h1 : G 93 1 = (q : Int)) (qs : S q = (1, 3, 14)) (hn : G q 1 = (np : Int)) : c146_2b r2 f 93 ln (np : Int) (S, G, m) = some (1, (S, G, m)) := by
  unfold c146_2b
  simp (disch := omega) only [cq_gi, cq_gr, cq_a, cq_s, cq_p, cq_pr, cq_is, cq_ar, cq_ab, cq_ln, xq_nz, Option.bind_some, xup2_n, xup2_s, Int.toNat_natCast, Int.reduceToNat, if_pos, if_neg, true_and, and_true, and_self, eq_self, if_true, reduceIte, not_true_eq_false, not_false_eq_true, or_true, true_or, s93 hs, h1, qs, hn]
theorem st_t2y (hs : cSs S) (h1 : G 93 1 = (q : Int)) (qs : S q = (1, 3, 14)) (hn : G q 1 = (np : Int)) (hp : p < np) : c146_2b r2 f 93 ln (p : Int) (S, G, m) = c146_18 r2 f f 93 ln (p : Int) 0 0 (S, G, m) := by
  unfold c146_2b
  simp (disch := omega) only [cq_gi, cq_gr, cq_a, cq_s, cq_p, cq_pr, cq_is, cq_ar, cq_ab, cq_ln, xq_nz, Option.bind_some, xup2_n, xup2_s, Int.toNat_natCast, Int.reduceToNat, if_pos, if_neg, true_and, and_true, and_self, eq_self, if_true, reduceIte, not_true_eq_false, not_false_eq_true, or_true, true_or, s93 hs, h1, qs, hn]
theorem st_143n (hs : cSs S) (h1 : G 93 1 = (q : Int)) (qs : S q = (1, 3, 14)) (q4 : S (q + 4) = (2, 0, 16)) (h5 : G q 5 = ((q + 4 : Nat) : Int)) (hp : p < 16) (hi : G (q + 4) p = 0) (ep : xwr ((p : Int) + 1) = ((p + 1 : Nat) : Int)) : c146_143 r2 f 93 ln (p : Int) (S, G, m) = r2 93 ln ((p + 1 : Nat) : Int) (S, G, m) := by
  unfold c146_143 c146_160
  simp (disch := omega) only [cq_gi, cq_gr, cq_a, cq_s, cq_p, cq_pr, cq_is, cq_ar, cq_ab, cq_ln, xq_nz, Option.bind_some, xup2_n, xup2_s, Int.toNat_natCast, Int.reduceToNat, if_pos, if_neg, true_and, and_true, and_self, eq_self, if_true, reduceIte, not_true_eq_false, not_false_eq_true, or_true, true_or, s93 hs, h1, qs, q4, h5, hi, ep, Nat.reduceLT]
theorem st_143y (hs : cSs S) (h1 : G 93 1 = (q : Int)) (qs : S q = (1, 3, 14)) (q4 : S (q + 4) = (2, 0, 16)) (h5 : G q 5 = ((q + 4 : Nat) : Int)) (hp : p < 16) (hi : G (q + 4) p = 1) (ep : xwr ((p : Int) + 1) = ((p + 1 : Nat) : Int)) (e : c148 f 93 (p : Int) (S, G, m) = some T) : c146_143 r2 f 93 ln (p : Int) (S, G, m) = r2 93 ln ((p + 1 : Nat) : Int) T := by
  unfold c146_143 c146_160
  simp (disch := omega) only [cq_gi, cq_gr, cq_a, cq_s, cq_p, cq_pr, cq_is, cq_ar, cq_ab, cq_ln, xq_nz, Option.bind_some, xup2_n, xup2_s, Int.toNat_natCast, Int.reduceToNat, if_pos, if_neg, true_and, and_true, and_self, eq_self, if_true, reduceIte, not_true_eq_false, not_false_eq_true, or_true, true_or, s93 hs, h1, qs, q4, h5, hi, ep, e, Nat.reduceLT, Int.reduceEq]
theorem k_146 (hf : 600 < f) (hkk : kk < 4) (hA1 : ∀ j, j < s.1.length → chA1 s j E (Ri j) (Rf j)) (hU : ∀ j, j < s.1.length → kU (qKy s j) (Ri j)) (hRf : ∀ j, j < s.1.length → ∀ r ∈ Rf j, (∀ x ∈ r.1, vOk x) ∧ 0 ≤ r.2 ∧ r.2 ≤ 1700) (hNi : ∀ j, j < s.1.length → pIn s.2.1 (j : Int) = false → Rf j = Ri j) :
    ∀ (d p fu : Nat) (G : xG_) (xp cp : Nat → Nat) (R : Nat → List pRw) (ch : Nat), p + d = s.1.length → d < fu → cWk S G q nx s xp cp R → cAh S G nx s yp ap A → cPn G (243 + 9 * kk) s E → (∀ j, j < p → R j = Rf j) → (∀ j, j < s.1.length → p ≤ j → R j = Ri j) → G 93 13 = (ch : Int) → ch < 2 ^ 16 → (∀ j, ch.testBit j = true ↔ j < p ∧ pIn s.2.1 (j : Int) = true ∧ ¬ vEq (Rf j) (A j)) →
      ∃ v G', c146_2 f fu 93 (243 + 9 * kk) (p : Int) (S, G, m) = some (v, (S, G', m)) ∧ (xWs G G' ∧ G' 93 14 = G 93 14) ∧ cPs G' ∧ ((v = 0 ∧ ∃ j, j < s.1.length ∧ pIn s.2.1 (j : Int) = true ∧ 100 < (Rf j).length) ∨ (v = 1 ∧ ∃ xp' cp' ch', xpO s xp xp' ∧ cWk S G' q nx s xp' cp' Rf ∧ G' 93 13 = ((ch' : Nat) : Int) ∧ ch' < 2 ^ 16 ∧ ∀ j, ch'.testBit j = true ↔ j < s.1.length ∧ pIn s.2.1 (j : Int) = true ∧ ¬ vEq (Rf j) (A j))) := by
  intro d
  induction d with
  | zero =>
    intro p fu G xp cp R ch e1 e2 h hA hE hR1 hR2 h13 hch hb
    obtain ⟨fu, rfl⟩ : ∃ t, fu = t + 1 := ⟨fu - 1, by omega⟩
    have e : p = s.1.length := by omega
    subst e
    exact ⟨1, G, st_t2z (r2 := c146_2 f fu) h.1.1 h.1.2.2.1 h.1.2.2.2.2.1.1.1 h.1.2.2.2.2.1.2.2.1.1, ⟨xWs.id G, rfl⟩, h.1.2.1, .inr ⟨rfl, xp, cp, ch, xpO.id, h.cg hR1, h13, hch, hb⟩⟩
  | succ d ih =>
    intro p fu G xp cp R ch e1 e2 h hA hE hR1 hR2 h13 hch hb
    obtain ⟨fu, rfl⟩ : ∃ t, fu = t + 1 := ⟨fu - 1, by omega⟩
    obtain ⟨⟨a1, a2, a3, a4, a5, a6⟩, b⟩ := id h
    have hnp : s.1.length ≤ 16 := a6.1.1.1
    have hp : p < s.1.length := by omega
    have ep : xwr ((p : Int) + 1) = ((p + 1 : Nat) : Int) := by rw [xwr_g _ (by omega) (by omega)]; omega
    obtain ⟨b1, b2, b3, b4, b5, b6, b7⟩ := b p hp
    have eRp := hR2 p hp (Nat.le_refl _)
    have st : c146_2 f (fu + 1) 93 (243 + 9 * kk) (p : Int) (S, G, m) = _ := st_t2y (r2 := c146_2 f fu) (ln := 243 + 9 * kk) a1 a3 a5.1.1 a5.2.2.1.1 hp
    have hE4 := hE.2.1
    obtain ⟨G1, i1, i2, i3⟩ := k_146i (f := f) (m := m) (r2 := c146_2 f fu) (Lf := Rf p) hf hp hkk E.length 0 f G (R p) 0 (by omega) (by omega) h hE (by rw [List.drop_zero, eRp]; exact hA1 p hp) b4 (by omega) (by rw [eRp]; exact hU p hp) (fun y hy => (h.tb p hp).2.2 y hy |>.1) (.inl ⟨rfl, rfl⟩)
    have g14 : G1 93 14 = G 93 14 := i1 _ _ (by omega) (by omega) (by omega) (by omega)
    have fr1 : xWs G G1 := fun c j y1 y2 y3 y4 y5 => i1 c j (by omega) (by omega) (by omega) (by omega)
    have hin : G (q + 4) p = b01 (pIn s.2.1 (p : Int)) := (a5.2.2.2.2.1 p (by omega)).2.1
    have zq : ∀ c j, 203 < c → G1 c j = G c j := fun c j y => i1 c j (by omega) (by omega) (by omega) (by omega)
    -- behind the predicate
    have next : ∀ (xp1 cp1 : Nat → Nat) (R1 : Nat → List pRw), xpO s xp xp1 → cWk S G1 q nx s xp1 cp1 R1 → (∀ j, j < p + 1 → R1 j = Rf j) → (∀ j, j < s.1.length → p + 1 ≤ j → R1 j = Ri j) → c146_2 f (fu + 1) 93 (243 + 9 * kk) (p : Int) (S, G, m) = c146_143 (c146_2 f fu) f 93 (243 + 9 * kk) (p : Int) (S, G1, m) → ∃ v G', c146_2 f (fu + 1) 93 (243 + 9 * kk) (p : Int) (S, G, m) = some (v, (S, G', m)) ∧ (xWs G G' ∧ G' 93 14 = G 93 14) ∧ cPs G' ∧ ((v = 0 ∧ ∃ j, j < s.1.length ∧ pIn s.2.1 (j : Int) = true ∧ 100 < (Rf j).length) ∨ (v = 1 ∧ ∃ xp' cp' ch', xpO s xp xp' ∧ cWk S G' q nx s xp' cp' Rf ∧ G' 93 13 = ((ch' : Nat) : Int) ∧ ch' < 2 ^ 16 ∧ ∀ j, ch'.testBit j = true ↔ j < s.1.length ∧ pIn s.2.1 (j : Int) = true ∧ ¬ vEq (Rf j) (A j))) := fun xp1 cp1 R1 qx q1 q2 q3 q4 => by
      have lift : ∀ {v : Int} {G' : xG_}, ((v = 0 ∧ ∃ j, j < s.1.length ∧ pIn s.2.1 (j : Int) = true ∧ 100 < (Rf j).length) ∨ (v = 1 ∧ ∃ xp' cp' ch', xpO s xp1 xp' ∧ cWk S G' q nx s xp' cp' Rf ∧ G' 93 13 = ((ch' : Nat) : Int) ∧ ch' < 2 ^ 16 ∧ ∀ j, ch'.testBit j = true ↔ j < s.1.length ∧ pIn s.2.1 (j : Int) = true ∧ ¬ vEq (Rf j) (A j))) → ((v = 0 ∧ ∃ j, j < s.1.length ∧ pIn s.2.1 (j : Int) = true ∧ 100 < (Rf j).length) ∨ (v = 1 ∧ ∃ xp' cp' ch', xpO s xp xp' ∧ cWk S G' q nx s xp' cp' Rf ∧ G' 93 13 = ((ch' : Nat) : Int) ∧ ch' < 2 ^ 16 ∧ ∀ j, ch'.testBit j = true ↔ j < s.1.length ∧ pIn s.2.1 (j : Int) = true ∧ ¬ vEq (Rf j) (A j))) := fun {v G'} h => h.imp_right (fun ⟨y0, y1, y2, y3, y4, y5⟩ => ⟨y0, y1, y2, y3, qx.tr y4, y5⟩)
      have hA1' : cAh S G1 nx s yp ap A := hA.ge (fun j => fr1 _ _ (by omega) (by omega) (by omega) (by omega) (by omega)) zq
      have hE1 : cPn G1 (243 + 9 * kk) s E := hE.ge (fun a j y1 y2 => zq a j (by omega))
      have h131 : G1 93 13 = (ch : Int) := by rw [i1 _ _ (by omega) (by omega) (by omega) (by omega)]; exact h13
      cases hb' : pIn s.2.1 (p : Int) with
      | false =>
        have st2 := q4.trans (st_143n (r2 := c146_2 f fu) (ln := 243 + 9 * kk) a1 q1.1.2.2.1 a5.1.1 a5.1.2.2.2.2.1 (by rw [zq _ _ (by omega)]; exact a5.2.1.2.2.2.1) (by omega) (by rw [zq _ _ (by omega), hin, hb']; rfl) ep)
        obtain ⟨v, G2, j1, j2, j3, j4⟩ := ih (p + 1) fu G1 xp1 cp1 R1 ch (by omega) (by omega) q1 hA1' hE1 q2 q3 h131 hch (fun j => by
          rw [hb j]
          refine ⟨fun ⟨y1, y2⟩ => ⟨by omega, y2⟩, fun ⟨y1, y2, y3⟩ => ⟨?_, y2, y3⟩⟩
          by_cases cj : j = p
          · rw [cj, hb'] at y2; cases y2
          · omega)
        exact ⟨v, G2, st2.trans j1, ⟨fr1.tr j2.1, j2.2.trans g14⟩, j3, lift j4⟩
      | true =>
        obtain ⟨ch1, k1, k2, k3⟩ := k_nc (f := f) (m := m) hf q1 hA1' hp h131 hch
        have st2 := q4.trans (st_143y (r2 := c146_2 f fu) (ln := 243 + 9 * kk) a1 q1.1.2.2.1 a5.1.1 a5.1.2.2.2.2.1 (by rw [zq _ _ (by omega)]; exact a5.2.1.2.2.2.1) (by omega) (by rw [zq _ _ (by omega), hin, hb']; rfl) ep k2)
        obtain ⟨v, G2, j1, j2, j3, j4⟩ := ih (p + 1) fu (xup2 G1 93 13 (ch1 : Int)) xp1 cp1 R1 ch1 (by omega) (by omega) (q1.u93 (.inl rfl)) (hA1'.ge (fun j => xup2_n (by omega)) (fun a j y => xup2_n (by omega))) (hE1.ge (fun a j y1 y2 => xup2_n (by omega))) q2 q3 (xup2_s _ _ _ _) k1 (fun j => by
          rw [k3 j, hb j, q2 p (by omega)]
          constructor
          · rintro (⟨y1, y2⟩ | ⟨y1, y2⟩)
            · exact ⟨by omega, y2⟩
            · rw [y1]; exact ⟨by omega, hb', y2⟩
          · rintro ⟨y1, y2, y3⟩
            by_cases cj : j = p
            · exact .inr ⟨cj, by rw [← cj]; exact y3⟩
            · exact .inl ⟨by omega, y2, y3⟩)
        exact ⟨v, G2, st2.trans j1, ⟨fr1.tr (fun c j y1 y2 y3 y4 y5 => by rw [j2.1 c j y1 y2 y3 y4 y5, xup2_n (by omega)]), by rw [j2.2, xup2_n (by omega)]; exact g14⟩, j3, lift j4⟩
    rcases i3 with ⟨c1, c2, c3, c4⟩ | ⟨c1, c2⟩ | ⟨c1, c2, c3⟩
    · refine next xp cp R xpO.id (h.ge i2 (i1 _ _ (by omega) (by omega) (by omega) (by omega)) c3 (fun k hk c y1 y2 j => c4 c j (by omega)) zq) (fun j hj => ?_) (fun j hj hj2 => hR2 j hj (by omega)) (st.trans c1)
      by_cases cj : j = p
      · rw [cj]; exact c2.symm
      · exact hR1 j (by omega)
    · refine ⟨0, G1, st.trans c1, ⟨fr1, g14⟩, i2, .inl ⟨rfl, p, hp, ?_, c2⟩⟩
      cases hb' : pIn s.2.1 (p : Int) with
      | true => rfl
      | false =>
        rw [hNi p hp hb', ← eRp] at c2
        omega
    · refine next (fun j => if j = p then 108 + 6 * p else xp j) (fun j => if j = p then 100 else cp j) (fun j => if j = p then Rf p else R j) (fun j _ => ?_) ?_ (fun j hj => ?_) (fun j hj hj2 => ?_) (st.trans c1)
      · by_cases cj : j = p
        · right; rw [cj]; exact if_pos rfl
        · exact .inl (if_neg cj)
      · refine ⟨⟨a1, i2, by rw [i1 _ _ (by omega) (by omega) (by omega) (by omega)]; exact a3, a4, a5.ge (Nat.le_refl _) (fun _ _ => rfl) (fun a j y _ => zq a j (by omega)), a6⟩, fun j hj => ?_⟩
        by_cases cj : j = p
        · subst cj
          simp only [if_pos]
          exact ⟨c2, .inl trivial, c3, (hA1 j hj).srt (by rw [← eRp]; exact b4), c3.2.2.2.2.1, fun r hr => (hRf j hj r hr).1, fun r hr => (hRf j hj r hr).2⟩
        · simp only [if_neg cj]
          obtain ⟨d1, d2, d3, d4⟩ := b j hj
          have hz : ∀ c i, xp j ≤ c → c ≤ xp j + 2 → G1 c i = G c i := fun c i y1 y2 => by
            rcases d2 with e | e
            · exact i1 c i (by omega) (by omega) (by omega) (by omega)
            · exact zq c i (by omega)
          exact ⟨by rw [i1 _ _ (by omega) (by omega) (by omega) (by omega)]; exact d1, d2, d3.ge (fun _ _ _ => rfl) (fun i => hz _ _ (by omega) (by omega)) (fun i => hz _ _ (by omega) (by omega)) (fun i => hz _ _ (by omega) (by omega)), d4⟩
      · show (if j = p then Rf p else R j) = Rf j
        by_cases cj : j = p
        · rw [if_pos cj, cj]
        · rw [if_neg cj]; exact hR1 j (by omega)
      · show (if j = p then Rf p else R j) = Ri j
        rw [if_neg (by omega)]; exact hR2 j hj (by omega)
end
end
section
/-! THE CLASS: like(), a moment's rows, begin() -/
/-- the predicate of so with the NAME and n of p in s -/
def lkP (so s : pPg) (p : Nat) (v : Int) : Prop := (∃ r : Nat, v = (r : Int) ∧ r < so.1.length ∧ qNm so r = qNm s p ∧ qN so r = qN s p) ∨ (v = -1 ∧ ∀ r, r < so.1.length → qNm so r = qNm s p → qN so r ≠ qN s p)
theorem qN_pos {s : pPg} (hok : qOc s) {p : Nat} (hp : p < s.1.length) : 1 ≤ qN s p ∧ qN s p ≤ 4 := by
  refine ⟨?_, (qN_c hok.1.1 p).2⟩
  rcases hok.2.2.2.1 p hp with h | h
  · have := hok.2.2.2.2.2.2 p hp h
    omega
  · unfold pHd at h
    obtain ⟨u, u1, u2⟩ := List.any_eq_true.mp h
    have e := of_decide_eq_true u2
    have o2 := (hok.1.2.1 u u1).2
    have w3 := (hok.1.1.2.2.2.2.2.2 u u1).2.2.1
    rw [e] at o2
    have := (qN_c hok.1.1 p).1
    omega
section
variable {f q qo nx nxo p np mp : Nat} {S : Nat → Nat × Nat × Nat} {G : xG_} {m : Nat × Nat} {s so : pPg} {v w x a b : Int} {T : xT_}
theorem st_21n (qs : S q = (1, 3, 14)) (q1 : S (q + 1) = (2, 4, 16)) (h2 : G q 2 = ((q + 1 : Nat) : Int)) (os : S qo = (1, 3, 14)) (hp : p < 16) (hx : G (q + 1) p = x) (e : c20 f qo x (S, G, m) = some (-1, (S, G, m))) : c21 f qo q (p : Int) (S, G, m) = some (-1, (S, G, m)) := by
  unfold c21 c21_35 c21_36
  simp (disch := omega) only [cq_gi, cq_gr, cq_a, cq_s, cq_p, cq_pr, cq_is, cq_ar, cq_ab, cq_ln, xq_nz, Option.bind_some, xup2_n, xup2_s, Int.toNat_natCast, Int.reduceToNat, if_pos, if_neg, true_and, and_true, and_self, eq_self, if_true, reduceIte, not_true_eq_false, not_false_eq_true, or_true, true_or, qs, q1, h2, os, hx, e]
theorem st_21y {r : Nat} (qs : S q = (1, 3, 14)) (q1 : S (q + 1) = (2, 4, 16)) (q2 : S (q + 2) = (2, 3, 16)) (h2 : G q 2 = ((q + 1 : Nat) : Int)) (h3 : G q 3 = ((q + 2 : Nat) : Int)) (os : S qo = (1, 3, 14)) (o2 : S (qo + 2) = (2, 3, 16)) (g3 : G qo 3 = ((qo + 2 : Nat) : Int)) (hp : p < 16) (hr : r < 16) (hx : G (q + 1) p = x) (ha : G (qo + 2) r = a) (hb : G (q + 2) p = b) (e : c20 f qo x (S, G, m) = some ((r : Int), (S, G, m))) : c21 f qo q (p : Int) (S, G, m) = some (if a = b then (r : Int) else -1, (S, G, m)) := by
  have hr1 : ¬ (r : Int) = -1 := by omega
  by_cases c : a = b
  · rw [if_pos c]
    unfold c21 c21_36
    simp (disch := omega) only [cq_gi, cq_gr, cq_a, cq_s, cq_p, cq_pr, cq_is, cq_ar, cq_ab, cq_ln, xq_nz, Option.bind_some, xup2_n, xup2_s, Int.toNat_natCast, Int.reduceToNat, if_pos, if_neg, true_and, and_true, and_self, eq_self, if_true, reduceIte, not_true_eq_false, not_false_eq_true, or_true, true_or, qs, q1, q2, h2, h3, os, o2, g3, hx, e, hr1, ha, hb, c]
  · rw [if_neg c]
    unfold c21 c21_35 c21_36
    simp (disch := omega) only [cq_gi, cq_gr, cq_a, cq_s, cq_p, cq_pr, cq_is, cq_ar, cq_ab, cq_ln, xq_nz, Option.bind_some, xup2_n, xup2_s, Int.toNat_natCast, Int.reduceToNat, if_pos, if_neg, true_and, and_true, and_self, eq_self, if_true, reduceIte, not_true_eq_false, not_false_eq_true, or_true, true_or, qs, q1, q2, h2, h3, os, o2, g3, hx, e, hr1, ha, hb, c]
/-- like() -/
theorem k_21 (hf : 20 < f) (hq : cPgm S G q nx s) (ho : cPgm S G qo nxo so) (hoks : qOk s) (hoko : qOk so) (hp : p < s.1.length) : ∃ v, c21 f qo q (p : Int) (S, G, m) = some (v, (S, G, m)) ∧ lkP so s p v := by
  have hnp : s.1.length ≤ 16 := hq.2.2.1.2.1
  have hnpo : so.1.length ≤ 16 := ho.2.2.1.2.1
  have e20 := k_20 (f := f) (m := m) (x := qNm s p) hf ho.1 ho.2.1 ho.2.2.1
  have hx : G (q + 1) p = qNm s p := hq.2.2.1.2.2 p hp
  have hwd : ∀ {q' nx' : Nat} {s' : pPg} {k : Nat}, cPgm S G q' nx' s' → qOk s' → k < 16 → G (q' + 2) k = ((qN s' k : Nat) : Int) := fun {q' nx' s' k} h hk hk16 => by rw [(qN_c hk.1 k).1]; exact h.2.2.2.1 k hk16
  by_cases c : pIdx so.1 (qNm s p) = -1
  · rw [c] at e20
    refine ⟨-1, st_21n hq.1.1 hq.1.2.1 hq.2.1.1 ho.1.1 (by omega) hx e20, .inr ⟨rfl, fun r hr e => ?_⟩⟩
    exfalso
    have hm : qNm s p ∈ so.1 := by rw [← e]; unfold qNm; rw [getD_e hr]; exact List.getElem_mem hr
    exact pIdx_mem c hm
  · obtain ⟨r, r2, r1, r3, _⟩ := (pIdx_get (x := qNm s p) hoko.1.2.1).resolve_left (fun q => c q.1)
    rw [r1] at e20
    have er : qNm so r = qNm s p := r3
    have st := st_21y (f := f) (m := m) hq.1.1 hq.1.2.1 hq.1.2.2.1 hq.2.1.1 hq.2.1.2.1 ho.1.1 ho.1.2.2.1 ho.2.1.2.1 (by omega : p < 16) (by omega : r < 16) hx (hwd ho hoko (by omega)) (hwd hq hoks (by omega)) e20
    by_cases c2 : ((qN so r : Nat) : Int) = ((qN s p : Nat) : Int)
    · rw [if_pos c2] at st
      exact ⟨_, st, .inl ⟨r, rfl, r2, er, by omega⟩⟩
    · rw [if_neg c2] at st
      refine ⟨_, st, .inr ⟨rfl, fun r' hr' e => ?_⟩⟩
      have : r' = r := nm_inj hoko hr' r2 (e.trans er.symm)
      rw [this]; omega
end
/-- the rows of a moment -/
def cMr (S : Nat → Nat × Nat × Nat) (G : xG_) (nx mp q rp : Nat) (s : pPg) (xr cr : Nat → Nat) (M : Nat → List pRw) : Prop := S mp = (1, 2, 8) ∧ G mp 0 = (q : Int) ∧ G mp 1 = (rp : Int) ∧ S rp = (2, 10, s.1.length) ∧ ∀ p, p < s.1.length → G rp p = ((xr p : Nat) : Int) ∧ (203 < xr p ∧ xr p + 2 < nx) ∧ cRw S G (xr p) (qN s p) (cr p) (M p)
/-- the rows that are never there -/
def cEm (G : xG_) : Prop := ∀ w, 1 ≤ w → w ≤ 4 → G (201 + 3 * w) 0 = (w : Int) ∧ G (201 + 3 * w) 1 = 0
section
variable {S : Nat → Nat × Nat × Nat} {G G' : xG_} {w : Nat}
theorem em_s (h : cSs S) (h1 : 1 ≤ w) (h4 : w ≤ 4) : S (201 + 3 * w) = (1, 5, 4) ∧ S (202 + 3 * w) = (2, 4, 0) ∧ S (203 + 3 * w) = (2, 3, 0) := by
  rcases (by omega : w = 1 ∨ w = 2 ∨ w = 3 ∨ w = 4) with rfl | rfl | rfl | rfl
  · exact ⟨h 140 (by decide), h 141 (by decide), h 142 (by decide)⟩
  · exact ⟨h 143 (by decide), h 144 (by decide), h 145 (by decide)⟩
  · exact ⟨h 146 (by decide), h 147 (by decide), h 148 (by decide)⟩
  · exact ⟨h 149 (by decide), h 150 (by decide), h 151 (by decide)⟩
theorem em_p (h : cPs G) (h1 : 1 ≤ w) (h4 : w ≤ 4) : G 98 w = ((201 + 3 * w : Nat) : Int) ∧ G (201 + 3 * w) 2 = ((202 + 3 * w : Nat) : Int) ∧ G (201 + 3 * w) 3 = ((203 + 3 * w : Nat) : Int) := by
  rcases (by omega : w = 1 ∨ w = 2 ∨ w = 3 ∨ w = 4) with rfl | rfl | rfl | rfl
  · exact ⟨h (98, 1, 204) (by decide +kernel), h (204, 2, 205) (by decide +kernel), h (204, 3, 206) (by decide +kernel)⟩
  · exact ⟨h (98, 2, 207) (by decide +kernel), h (207, 2, 208) (by decide +kernel), h (207, 3, 209) (by decide +kernel)⟩
  · exact ⟨h (98, 3, 210) (by decide +kernel), h (210, 2, 211) (by decide +kernel), h (210, 3, 212) (by decide +kernel)⟩
  · exact ⟨h (98, 4, 213) (by decide +kernel), h (213, 2, 214) (by decide +kernel), h (213, 3, 215) (by decide +kernel)⟩
theorem em_r (hs : cSs S) (hp : cPs G) (he : cEm G) (h1 : 1 ≤ w) (h4 : w ≤ 4) : cRw S G (201 + 3 * w) w 0 [] := by
  obtain ⟨a1, a2, a3⟩ := em_s hs h1 h4
  obtain ⟨b1, b2, b3⟩ := em_p hp h1 h4
  obtain ⟨c1, c2⟩ := he w h1 h4
  exact ⟨a1, ⟨0, by rw [show 201 + 3 * w + 1 = 202 + 3 * w by omega]; exact a2, by omega, by omega⟩, by rw [show 201 + 3 * w + 2 = 203 + 3 * w by omega]; exact a3, ⟨c1, c2, by rw [b2]; omega, by rw [b3]; omega⟩, Nat.zero_le _, by decide, by omega, fun i hi => absurd hi (Nat.not_lt_zero i)⟩
end
section
variable {f q qo p np mp rp ra e0 w r : Nat} {S : Nat → Nat × Nat × Nat} {G : xG_} {m : Nat × Nat} {tk v : Int} {r38 : Nat → Nat → Nat → Int → Int → xT_ → Option (xT_)} {T : xT_}
theorem st_38z (qs : S q = (1, 3, 14)) (hn : G q 1 = (np : Int)) : c145_38b r38 f 93 mp q tk (np : Int) (S, G, m) = some (S, G, m) := by
  unfold c145_38b
  simp (disch := omega) only [cq_gi, cq_gr, cq_a, cq_s, cq_p, cq_pr, cq_is, cq_ar, cq_ab, cq_ln, xq_nz, Option.bind_some, xup2_n, xup2_s, Int.toNat_natCast, Int.reduceToNat, if_pos, if_neg, true_and, and_true, and_self, eq_self, if_true, reduceIte, not_true_eq_false, not_false_eq_true, or_true, true_or, qs, hn]
theorem st_38n (qs : S q = (1, 3, 14)) (hn : G q 1 = (np : Int)) (hp : p < np) : c145_38b r38 f 93 mp q 0 (p : Int) (S, G, m) = c145_66 r38 f 93 mp q 0 (p : Int) (p : Int) (S, G, m) := by
  unfold c145_38b
  simp (disch := omega) only [cq_gi, cq_gr, cq_a, cq_s, cq_p, cq_pr, cq_is, cq_ar, cq_ab, cq_ln, xq_nz, Option.bind_some, xup2_n, xup2_s, Int.toNat_natCast, Int.reduceToNat, if_pos, if_neg, true_and, and_true, and_self, eq_self, if_true, reduceIte, not_true_eq_false, not_false_eq_true, or_true, true_or, qs, hn]
theorem st_38t (qs : S q = (1, 3, 14)) (hn : G q 1 = (np : Int)) (hp : p < np) (ms : S mp = (1, 2, 8)) (h0 : G mp 0 = (qo : Int)) (os : S qo = (1, 3, 14)) (e : c21 f qo q (p : Int) (S, G, m) = some (v, (S, G, m))) : c145_38b r38 f 93 mp q 1 (p : Int) (S, G, m) = c145_66 r38 f 93 mp q 1 (p : Int) v (S, G, m) := by
  have h10 : ¬ (1 : Int) = 0 := by decide
  unfold c145_38b
  simp (disch := omega) only [cq_gi, cq_gr, cq_a, cq_s, cq_p, cq_pr, cq_is, cq_ar, cq_ab, cq_ln, xq_nz, Option.bind_some, xup2_n, xup2_s, Int.toNat_natCast, Int.reduceToNat, if_pos, if_neg, true_and, and_true, and_self, eq_self, if_true, reduceIte, not_true_eq_false, not_false_eq_true, or_true, true_or, qs, hn, ms, h0, os, e, h10]
theorem st_66y' (hs : cSs S) (hp : cPs G) (qs : S q = (1, 3, 14)) (q2 : S (q + 2) = (2, 3, 16)) (h3 : G q 3 = ((q + 2 : Nat) : Int)) (hp16 : p < 16) (hw : G (q + 2) p = (w : Int)) (hw4 : w < 5) (h98 : G 98 w = (e0 : Int)) (ms : S mp = (1, 2, 8)) (h1 : G mp 1 = (rp : Int)) (rs : S rp = (2, 10, np)) (hr : r < np) (hra : G rp r = (ra : Int)) : c145_66 r38 f 93 mp q tk (p : Int) (r : Int) (S, G, m) = c145_106 r38 f 93 mp q tk (p : Int) (r : Int) e0 ra (p : Int) 95 (S, G, m) := by
  have hr1 : ¬ (r : Int) = -1 := by omega
  unfold c145_66
  simp (disch := omega) only [cq_gi, cq_gr, cq_a, cq_s, cq_p, cq_pr, cq_is, cq_ar, cq_ab, cq_ln, xq_nz, Option.bind_some, xup2_n, xup2_s, Int.toNat_natCast, Int.reduceToNat, if_pos, if_neg, true_and, and_true, and_self, eq_self, if_true, reduceIte, not_true_eq_false, not_false_eq_true, or_true, true_or, s93 hs, s98 hs, p93_6 hp, p93_3 hp, qs, q2, h3, hw, h98, ms, h1, rs, hra, hr1]
theorem st_66n' (hs : cSs S) (hp : cPs G) (qs : S q = (1, 3, 14)) (q2 : S (q + 2) = (2, 3, 16)) (h3 : G q 3 = ((q + 2 : Nat) : Int)) (hp16 : p < 16) (hw : G (q + 2) p = (w : Int)) (hw4 : w < 5) (h98 : G 98 w = (e0 : Int)) : c145_66 r38 f 93 mp q tk (p : Int) (-1) (S, G, m) = c145_106 r38 f 93 mp q tk (p : Int) (-1) e0 e0 (p : Int) 95 (S, G, m) := by
  unfold c145_66
  simp (disch := omega) only [cq_gi, cq_gr, cq_a, cq_s, cq_p, cq_pr, cq_is, cq_ar, cq_ab, cq_ln, xq_nz, Option.bind_some, xup2_n, xup2_s, Int.toNat_natCast, Int.reduceToNat, if_pos, if_neg, true_and, and_true, and_self, eq_self, if_true, reduceIte, not_true_eq_false, not_false_eq_true, or_true, true_or, s93 hs, s98 hs, p93_6 hp, p93_3 hp, qs, q2, h3, hw, h98]
theorem sr_95 {x : Nat} (hx : x = 94 ∨ x = 95) (hs : cSs S) (hp16 : p < 16) (rs : S ra = (1, 5, 4)) : cq_sr x (p : Int) ra (S, G, m) = some (S, xup2 G x p (ra : Int), m) := by
  have sx : S x = (2, 10, 16) := by rcases hx with rfl | rfl; exact s94 hs; exact s95 hs
  unfold cq_sr
  simp only [sx, rs]
  rw [if_pos ⟨trivial, by decide, by omega, by omega, .inr ⟨trivial, trivial⟩⟩, Int.toNat_natCast]
theorem st_165 (hs : cSs S) (hp : cPs G) (hp16 : p < 16) (b : Bool) (h95 : G 95 p = (ra : Int)) (rs : S ra = (1, 5, 4)) (es : S e0 = (1, 5, 4)) (ep : xwr ((p : Int) + 1) = ((p + 1 : Nat) : Int)) : c145_165 r38 f 93 mp q tk (p : Int) e0 (b01 b) (S, G, m) = r38 93 mp q tk ((p + 1 : Nat) : Int) (S, xup2 G 94 p ((if b = true then ra else e0 : Nat) : Int), m) := by
  cases b with
  | false =>
    have e0' : b01 false = 0 := rfl
    rw [e0', if_neg (by decide)]
    unfold c145_165 c145_190
    simp (disch := omega) only [cq_gi, cq_gr, cq_a, cq_s, cq_p, cq_pr, cq_is, cq_ar, cq_ab, cq_ln, xq_nz, Option.bind_some, xup2_n, xup2_s, Int.toNat_natCast, Int.reduceToNat, if_pos, if_neg, true_and, and_true, and_self, eq_self, if_true, reduceIte, not_true_eq_false, not_false_eq_true, or_true, true_or, s93 hs, p93_2 hp, sr_95 (.inl rfl) hs hp16 es, ep]
  | true =>
    have e0' : b01 true = 1 := rfl
    rw [e0', if_pos rfl]
    unfold c145_165 c145_190
    simp (disch := omega) only [cq_gi, cq_gr, cq_a, cq_s, cq_p, cq_pr, cq_is, cq_ar, cq_ab, cq_ln, xq_nz, Option.bind_some, xup2_n, xup2_s, Int.toNat_natCast, Int.reduceToNat, if_pos, if_neg, true_and, and_true, and_self, eq_self, if_true, reduceIte, not_true_eq_false, not_false_eq_true, or_true, true_or, s93 hs, s95 hs, p93_2 hp, p93_3 hp, h95, sr_95 (.inl rfl) hs hp16 rs, ep, Int.reduceEq]
theorem st_106n (hs : cSs S) (hp16 : p < 16) (rs : S ra = (1, 5, 4)) : c145_106 r38 f 93 mp q 0 (p : Int) v e0 ra (p : Int) 95 (S, G, m) = c145_165 r38 f 93 mp q 0 (p : Int) e0 1 (S, xup2 G 95 p (ra : Int), m) := by
  unfold c145_106 c145_160
  simp (disch := omega) only [cq_gi, cq_gr, cq_a, cq_s, cq_p, cq_pr, cq_is, cq_ar, cq_ab, cq_ln, xq_nz, Option.bind_some, xup2_n, xup2_s, Int.toNat_natCast, Int.reduceToNat, if_pos, if_neg, true_and, and_true, and_self, eq_self, if_true, reduceIte, not_true_eq_false, not_false_eq_true, or_true, true_or, sr_95 (.inr rfl) hs hp16 rs]
theorem st_106o (hs : cSs S) (hp16 : p < 16) (rs : S ra = (1, 5, 4)) : c145_106 r38 f 93 mp q 1 (p : Int) (-1) e0 ra (p : Int) 95 (S, G, m) = c145_165 r38 f 93 mp q 1 (p : Int) e0 0 (S, xup2 G 95 p (ra : Int), m) := by
  have h10 : ¬ (1 : Int) = 0 := by decide
  unfold c145_106 c145_164
  simp (disch := omega) only [cq_gi, cq_gr, cq_a, cq_s, cq_p, cq_pr, cq_is, cq_ar, cq_ab, cq_ln, xq_nz, Option.bind_some, xup2_n, xup2_s, Int.toNat_natCast, Int.reduceToNat, if_pos, if_neg, true_and, and_true, and_self, eq_self, if_true, reduceIte, not_true_eq_false, not_false_eq_true, or_true, true_or, sr_95 (.inr rfl) hs hp16 rs, h10]
theorem st_106t {i1 i2 : Bool} {k1 k2 : Int} (hs : cSs S) (hp16 : p < 16) (rs : S ra = (1, 5, 4)) (hq : 203 < q) (hqo : 203 < qo) (hmp : 203 < mp) (hr : r < 16) (qs : S q = (1, 3, 14)) (q3 : S (q + 3) = (2, 3, 16)) (q4 : S (q + 4) = (2, 0, 16)) (h4 : G q 4 = ((q + 3 : Nat) : Int)) (h5 : G q 5 = ((q + 4 : Nat) : Int)) (ms : S mp = (1, 2, 8)) (h0 : G mp 0 = (qo : Int)) (os : S qo = (1, 3, 14)) (o3 : S (qo + 3) = (2, 3, 16)) (o4 : S (qo + 4) = (2, 0, 16)) (g4 : G qo 4 = ((qo + 3 : Nat) : Int)) (g5 : G qo 5 = ((qo + 4 : Nat) : Int)) (hi1 : G (q + 4) p = b01 i1) (hi2 : G (qo + 4) r = b01 i2) (hk1 : G (q + 3) p = k1) (hk2 : G (qo + 3) r = k2) : c145_106 r38 f 93 mp q 1 (p : Int) (r : Int) e0 ra (p : Int) 95 (S, G, m) = c145_165 r38 f 93 mp q 1 (p : Int) e0 (b01 (i1 && i2 && decide (k1 = k2))) (S, xup2 G 95 p (ra : Int), m) := by
  have h10 : ¬ (1 : Int) = 0 := by decide
  have hr1 : ¬ (r : Int) = -1 := by omega
  cases i1 with
  | false =>
    have e : b01 false = 0 := rfl
    rw [e] at hi1
    show _ = c145_165 r38 f 93 mp q 1 (p : Int) e0 0 (S, xup2 G 95 p (ra : Int), m)
    unfold c145_106 c145_164
    simp (disch := omega) only [cq_gi, cq_gr, cq_a, cq_s, cq_p, cq_pr, cq_is, cq_ar, cq_ab, cq_ln, xq_nz, Option.bind_some, xup2_n, xup2_s, Int.toNat_natCast, Int.reduceToNat, if_pos, if_neg, true_and, and_true, and_self, eq_self, if_true, reduceIte, not_true_eq_false, not_false_eq_true, or_true, true_or, sr_95 (.inr rfl) hs hp16 rs, h10, hr1, qs, q4, h5, hi1, Nat.reduceLT]
  | true =>
    have e : b01 true = 1 := rfl
    rw [e] at hi1
    cases i2 with
    | false =>
      have e : b01 false = 0 := rfl
      rw [e] at hi2
      show _ = c145_165 r38 f 93 mp q 1 (p : Int) e0 0 (S, xup2 G 95 p (ra : Int), m)
      unfold c145_106 c145_164
      simp (disch := omega) only [cq_gi, cq_gr, cq_a, cq_s, cq_p, cq_pr, cq_is, cq_ar, cq_ab, cq_ln, xq_nz, Option.bind_some, xup2_n, xup2_s, Int.toNat_natCast, Int.reduceToNat, if_pos, if_neg, true_and, and_true, and_self, eq_self, if_true, reduceIte, not_true_eq_false, not_false_eq_true, or_true, true_or, sr_95 (.inr rfl) hs hp16 rs, h10, hr1, qs, q4, h5, hi1, ms, h0, os, o4, g5, hi2, Nat.reduceLT]
    | true =>
      have e : b01 true = 1 := rfl
      rw [e] at hi2
      by_cases c : k1 = k2
      · have ed : b01 (true && true && decide (k1 = k2)) = 1 := by rw [decide_eq_true c]; rfl
        rw [ed]
        unfold c145_106 c145_160
        simp (disch := omega) only [cq_gi, cq_gr, cq_a, cq_s, cq_p, cq_pr, cq_is, cq_ar, cq_ab, cq_ln, xq_nz, Option.bind_some, xup2_n, xup2_s, Int.toNat_natCast, Int.reduceToNat, if_pos, if_neg, true_and, and_true, and_self, eq_self, if_true, reduceIte, not_true_eq_false, not_false_eq_true, or_true, true_or, sr_95 (.inr rfl) hs hp16 rs, h10, hr1, qs, q3, q4, h4, h5, hi1, ms, h0, os, o3, o4, g4, g5, hi2, hk1, hk2, c, Nat.reduceLT]
      · have ed : b01 (true && true && decide (k1 = k2)) = 0 := by rw [decide_eq_false c]; rfl
        rw [ed]
        unfold c145_106 c145_164
        simp (disch := omega) only [cq_gi, cq_gr, cq_a, cq_s, cq_p, cq_pr, cq_is, cq_ar, cq_ab, cq_ln, xq_nz, Option.bind_some, xup2_n, xup2_s, Int.toNat_natCast, Int.reduceToNat, if_pos, if_neg, true_and, and_true, and_self, eq_self, if_true, reduceIte, not_true_eq_false, not_false_eq_true, or_true, true_or, sr_95 (.inr rfl) hs hp16 rs, h10, hr1, qs, q3, q4, h4, h5, hi1, ms, h0, os, o3, o4, g4, g5, hi2, hk1, hk2, c, Nat.reduceLT]
end
end
section
/-! THE CLASS: begin() -/
/-- where the rows of a predicate ahead of a round, and at its start, lie -/
def bgP (so s : pPg) (xr : Nat → Nat) (tk : Int) (p a x : Nat) : Prop := (tk = 0 ∧ a = xr p ∧ x = xr p) ∨ (tk = 1 ∧ (∃ r, r < so.1.length ∧ qNm so r = qNm s p ∧ qN so r = qN s p ∧ a = xr r ∧ ((kpC so s p ∧ x = a) ∨ (¬ kpC so s p ∧ x = 201 + 3 * qN s p)))) ∨ (tk = 1 ∧ (∀ r, r < so.1.length → qNm so r = qNm s p → qN so r ≠ qN s p) ∧ a = 201 + 3 * qN s p ∧ x = 201 + 3 * qN s p)
section
variable {f q qo nx nxo mp rp : Nat} {S : Nat → Nat × Nat × Nat} {m : Nat × Nat} {s so : pPg} {xr cr : Nat → Nat} {Mo : Nat → List pRw} {tk : Int}
theorem kpC_i (hoko : qOk so) {p r : Nat} (hr : r < so.1.length) (h1 : qNm so r = qNm s p) (h2 : qN so r = qN s p) : kpC so s p ↔ pIn s.2.1 (p : Int) = true ∧ pIn so.2.1 (r : Int) = true ∧ pKy so.2.1 (r : Int) = pKy s.2.1 (p : Int) := by
  constructor
  · rintro ⟨a1, r', a2, a3, a4, a5, a6⟩
    have : r' = r := nm_inj hoko a2 hr (a3.trans h1.symm)
    subst this
    exact ⟨a1, a4, a6⟩
  · rintro ⟨a1, a2, a3⟩
    exact ⟨a1, r, hr, h1, a2, h2, a3⟩
theorem k_145i (hf : 20 < f) (hs : cSs S) (hmp : 203 < mp) (hrp : 203 < rp) (hq226 : 226 < q) (ho226 : 226 < qo) (hoks : qOc s) (hoko : qOc so) (htk : tk = 0 ∧ s = so ∨ tk = 1) :
    ∀ (d p fu : Nat) (G : xG_), p + d = s.1.length → d < fu → cPs G → cPgm S G q nx s → cPgm S G qo nxo so → cMr S G nx mp qo rp so xr cr Mo → (∀ j, j < p → ∃ a x : Nat, G 95 j = (a : Int) ∧ G 94 j = (x : Int) ∧ bgP so s xr tk j a x) → ∃ G', c145_38 f fu 93 mp q tk (p : Int) (S, G, m) = some (S, G', m) ∧ (∀ b j, b ≠ 94 → b ≠ 95 → G' b j = G b j) ∧ cPs G' ∧ ∀ j, j < s.1.length → ∃ a x : Nat, G' 95 j = (a : Int) ∧ G' 94 j = (x : Int) ∧ bgP so s xr tk j a x := by
  intro d
  induction d with
  | zero =>
    intro p fu G e1 e2 hp hP ho hM hD
    obtain ⟨fu, rfl⟩ : ∃ t, fu = t + 1 := ⟨fu - 1, by omega⟩
    have e : p = s.1.length := by omega
    subst e
    exact ⟨G, st_38z (r38 := c145_38 f fu) hP.1.1 hP.2.2.1.1, fun _ _ _ _ => rfl, hp, hD⟩
  | succ d ih =>
    intro p fu G e1 e2 hp hP ho hM hD
    obtain ⟨fu, rfl⟩ : ∃ t, fu = t + 1 := ⟨fu - 1, by omega⟩
    have hnp : s.1.length ≤ 16 := hoks.1.1.1
    have hnpo : so.1.length ≤ 16 := hoko.1.1.1
    have hpn : p < s.1.length := by omega
    have ep : xwr ((p : Int) + 1) = ((p + 1 : Nat) : Int) := by rw [xwr_g _ (by omega) (by omega)]; omega
    obtain ⟨w1, w4⟩ := qN_pos hoks hpn
    obtain ⟨m1, m2, m3, m4, m5⟩ := hM
    obtain ⟨es, _, _⟩ := em_s (w := qN s p) hs w1 w4
    obtain ⟨g98, _, _⟩ := em_p (w := qN s p) hp w1 w4
    have hwd : G (q + 2) p = ((qN s p : Nat) : Int) := by rw [(qN_c hoks.1.1 p).1]; exact hP.2.2.2.1 p (by omega)
    have p95 : ∀ {a : Nat}, cPs (xup2 G 95 p (a : Int)) := fun {a} => hp.ge (fun b j hz => xup2_n (by
      rcases hz with z | z | z | z | z | z | z | ⟨z, z1, z2, k, z3⟩ | z | z | z | ⟨k, z1, z2, z3⟩ <;> omega))
    -- the step
    have step : ∃ a x : Nat, bgP so s xr tk p a x ∧ c145_38 f (fu + 1) 93 mp q tk (p : Int) (S, G, m) = c145_38 f fu 93 mp q tk ((p + 1 : Nat) : Int) (S, xup2 (xup2 G 95 p (a : Int)) 94 p (x : Int), m) := by
      rcases htk with ⟨rfl, rfl⟩ | rfl
      · obtain ⟨n1, n2, n3⟩ := m5 p hpn
        refine ⟨xr p, xr p, .inl ⟨rfl, rfl, rfl⟩, ?_⟩
        have t1 : c145_38 f (fu + 1) 93 mp q 0 (p : Int) (S, G, m) = _ := st_38n (r38 := c145_38 f fu) hP.1.1 hP.2.2.1.1 hpn
        have t2 := t1.trans (st_66y' hs hp hP.1.1 hP.1.2.2.1 hP.2.1.2.1 (by omega) hwd (by omega) g98 m1 m3 m4 hpn n1)
        have t3 := t2.trans (st_106n hs (by omega) n3.1)
        exact t3.trans (st_165 hs p95 (by omega) true (xup2_s _ _ _ _) n3.1 es ep)
      · obtain ⟨v, v1, v2⟩ := k_21 (f := f) (m := m) hf hP ho hoks.1 hoko.1 hpn
        have t1 : c145_38 f (fu + 1) 93 mp q 1 (p : Int) (S, G, m) = _ := st_38t (r38 := c145_38 f fu) hP.1.1 hP.2.2.1.1 hpn m1 m2 ho.1.1 v1
        rcases v2 with ⟨r, rfl, r1, r2, r3⟩ | ⟨rfl, r1⟩
        · obtain ⟨n1, n2, n3⟩ := m5 r r1
          have t2 := t1.trans (st_66y' hs hp hP.1.1 hP.1.2.2.1 hP.2.1.2.1 (by omega) hwd (by omega) g98 m1 m3 m4 r1 n1)
          have hki : ∀ {q' nx' : Nat} {s' : pPg} {k : Nat}, cPgm S G q' nx' s' → qOc s' → k < 16 → G (q' + 3) k = pKy s'.2.1 (k : Int) ∧ G (q' + 4) k = b01 (pIn s'.2.1 (k : Int)) := fun {q' nx' s' k} h hk hk16 => by
            have := h.2.2.2.2.1 k hk16
            exact ⟨by rw [this.1, pKl_e hk.2.2.2.2.2.1], this.2.1⟩
          obtain ⟨k1, k2⟩ := hki hP hoks (by omega : p < 16)
          obtain ⟨k3, k4⟩ := hki ho hoko (by omega : r < 16)
          have t3 := t2.trans (st_106t hs (by omega) n3.1 (by omega) (by omega) hmp (by omega) hP.1.1 hP.1.2.2.2.1 hP.1.2.2.2.2.1 hP.2.1.2.2.1 hP.2.1.2.2.2.1 m1 m2 ho.1.1 ho.1.2.2.2.1 ho.1.2.2.2.2.1 ho.2.1.2.2.1 ho.2.1.2.2.2.1 k2 k4 k1 k3)
          have t4 := t3.trans (st_165 hs p95 (by omega) _ (xup2_s _ _ _ _) n3.1 es ep)
          refine ⟨_, _, .inr (.inl ⟨rfl, r, r1, r2, r3, rfl, ?_⟩), t4⟩
          rw [kpC_i hoko.1 r1 r2 r3]
          by_cases c : pIn s.2.1 (p : Int) = true ∧ pIn so.2.1 (r : Int) = true ∧ pKy so.2.1 (r : Int) = pKy s.2.1 (p : Int)
          · refine .inl ⟨c, ?_⟩
            rw [if_pos (by rw [c.1, c.2.1, decide_eq_true c.2.2.symm]; rfl)]
          · refine .inr ⟨c, ?_⟩
            rw [if_neg]
            intro hb
            simp only [Bool.and_eq_true, decide_eq_true_eq] at hb
            exact c ⟨hb.1.1, hb.1.2, hb.2.symm⟩
        · have t2 := t1.trans (st_66n' hs hp hP.1.1 hP.1.2.2.1 hP.2.1.2.1 (by omega) hwd (by omega) g98)
          have t3 := t2.trans (st_106o hs (by omega) es)
          have t4 := t3.trans (st_165 hs p95 (by omega) false (xup2_s _ _ _ _) es es ep)
          exact ⟨_, _, .inr (.inr ⟨rfl, r1, rfl, rfl⟩), t4⟩
    obtain ⟨a, x, b1, b2⟩ := step
    have z : ∀ b j, b ≠ 94 → b ≠ 95 → xup2 (xup2 G 95 p (a : Int)) 94 p (x : Int) b j = G b j := fun b j y1 y2 => by rw [xup2_n (by omega), xup2_n (by omega)]
    obtain ⟨G', i1, i2, i3, i4⟩ := ih (p + 1) fu (xup2 (xup2 G 95 p (a : Int)) 94 p (x : Int)) (by omega) (by omega) ((p95 (a := a)).ge (fun b j hz => xup2_n (by
      rcases hz with z | z | z | z | z | z | z | ⟨z, z1, z2, k, z3⟩ | z | z | z | ⟨k, z1, z2, z3⟩ <;> omega))) (hP.ge (Nat.le_refl _) (fun _ _ => rfl) (fun b j y _ => z b j (by omega) (by omega))) (ho.ge (Nat.le_refl _) (fun _ _ => rfl) (fun b j y _ => z b j (by omega) (by omega))) ⟨m1, by rw [z _ _ (by omega) (by omega)]; exact m2, by rw [z _ _ (by omega) (by omega)]; exact m3, m4, fun r hr => by
        obtain ⟨n1, n2, n3⟩ := m5 r hr
        have hrp : rp ≠ 94 ∧ rp ≠ 95 := by omega
        exact ⟨by rw [z _ _ hrp.1 hrp.2]; exact n1, n2, n3.ge (fun _ _ _ => rfl) (fun j => z _ _ (by omega) (by omega)) (fun j => z _ _ (by omega) (by omega)) (fun j => z _ _ (by omega) (by omega))⟩⟩ (fun j hj => by
      by_cases c : j = p
      · subst c
        exact ⟨a, x, by rw [xup2_n (by omega), xup2_s], xup2_s _ _ _ _, b1⟩
      · obtain ⟨a', x', y1, y2, y3⟩ := hD j (by omega)
        exact ⟨a', x', by rw [xup2_n (by omega), xup2_n (by omega)]; exact y1, by rw [xup2_n (by omega), xup2_n (by omega)]; exact y2, y3⟩)
    exact ⟨G', b2.trans i1, fun b j y1 y2 => by rw [i2 b j y1 y2, z b j y1 y2], i3, i4⟩
end
end
section
/-! THE CLASS: begin() whole, and what a round starts from -/
def bgR (so s : pPg) (Mo : Nat → List pRw) (tk : Int) (p : Nat) (a x : List pRw) : Prop := (tk = 0 ∧ a = Mo p ∧ x = Mo p) ∨ (tk = 1 ∧ (∃ r, r < so.1.length ∧ qNm so r = qNm s p ∧ qN so r = qN s p ∧ a = Mo r ∧ ((kpC so s p ∧ x = a) ∨ (¬ kpC so s p ∧ x = [])))) ∨ (tk = 1 ∧ (∀ r, r < so.1.length → qNm so r = qNm s p → qN so r ≠ qN s p) ∧ a = [] ∧ x = [])
/-- rows of a moment that are in order -/
def okM8 (s : pPg) (M : Nat → List pRw) : Prop := ∀ p, p < s.1.length → (M p).Pairwise rwLt ∧ (M p).length ≤ 100 ∧ (∀ r ∈ M p, ∀ x ∈ r.1, vOk x) ∧ ∀ r ∈ M p, 0 ≤ r.2 ∧ r.2 ≤ 1700
section
variable {f q qo nx nxo mp rp : Nat} {S : Nat → Nat × Nat × Nat} {G : xG_} {m : Nat × Nat} {s so : pPg} {xr cr : Nat → Nat} {Mo : Nat → List pRw} {tk : Int} {sn so' : Int}
theorem st_145 (hs : cSs S) (hq : q ≠ 93) (hmp : mp ≠ 93) (hqo : qo ≠ 93) (qs : S q = (1, 3, 14)) (ms : S mp = (1, 2, 8)) (h0 : G mp 0 = (qo : Int)) (os : S qo = (1, 3, 14)) (e1 : G q 0 = sn) (e2 : G qo 0 = so') : c145 f 93 mp q (S, G, m) = c145_38 f f 93 mp q (if sn = so' then 0 else 1) 0 (S, xup2 (xup2 (xup2 G 93 1 (q : Int)) 93 13 0) 93 14 0, m) := by
  by_cases c : sn = so'
  · rw [if_pos c]
    unfold c145 c145_34
    simp (disch := omega) only [cq_gi, cq_gr, cq_a, cq_s, cq_p, cq_pr, cq_is, cq_ar, cq_ab, cq_ln, xq_nz, Option.bind_some, xup2_n, xup2_s, Int.toNat_natCast, Int.reduceToNat, if_pos, if_neg, true_and, and_true, and_self, eq_self, if_true, reduceIte, not_true_eq_false, not_false_eq_true, or_true, true_or, s93 hs, qs, ms, h0, os, e1, e2, c]
  · rw [if_neg c]
    unfold c145 c145_34
    simp (disch := omega) only [cq_gi, cq_gr, cq_a, cq_s, cq_p, cq_pr, cq_is, cq_ar, cq_ab, cq_ln, xq_nz, Option.bind_some, xup2_n, xup2_s, Int.toNat_natCast, Int.reduceToNat, if_pos, if_neg, true_and, and_true, and_self, eq_self, if_true, reduceIte, not_true_eq_false, not_false_eq_true, or_true, true_or, s93 hs, qs, ms, h0, os, e1, e2, c]
theorem k_145 (hf : 20 < f) (hs : cSs S) (hp : cPs G) (hem : cEm G) (hmp : 203 < mp) (hrp : 203 < rp) (hq226 : 226 < q) (ho226 : 226 < qo) (hoks : qOc s) (hoko : qOc so) (htk : G q 0 = G qo 0 ∧ tk = 0 ∧ s = so ∨ G q 0 ≠ G qo 0 ∧ tk = 1) (hP : cPgm S G q nx s) (ho : cPgm S G qo nxo so) (hM : cMr S G nx mp qo rp so xr cr Mo) (hMo : okM8 so Mo) :
    ∃ (G' : xG_) (xp cp yp ap : Nat → Nat) (Ri A : Nat → List pRw), c145 f 93 mp q (S, G, m) = some (S, G', m) ∧ (∀ b j, ¬ (b = 93 ∧ (j = 1 ∨ j = 13 ∨ j = 14)) → b ≠ 94 → b ≠ 95 → G' b j = G b j) ∧ cPs G' ∧ G' 93 13 = 0 ∧ G' 93 14 = 0 ∧ cWk S G' q nx s xp cp Ri ∧ cAh S G' nx s yp ap A ∧ (∀ p, p < s.1.length → bgR so s Mo tk p (A p) (Ri p)) ∧ ∀ p, p < s.1.length → ((∃ r, r < so.1.length ∧ xp p = xr r) ∨ xp p + 2 < 216) ∧ ((∃ r, r < so.1.length ∧ yp p = xr r) ∨ yp p + 2 < 216) := by
  obtain ⟨G0, hG0⟩ : ∃ G0, G0 = xup2 (xup2 (xup2 G 93 1 (q : Int)) 93 13 0) 93 14 0 := ⟨_, rfl⟩
  have z0 : ∀ b j, ¬ (b = 93 ∧ (j = 1 ∨ j = 13 ∨ j = 14)) → G0 b j = G b j := fun b j y => by rw [hG0, xup2_n (by omega), xup2_n (by omega), xup2_n (by omega)]
  have hp0 : cPs G0 := hp.ge (fun b j hz => z0 b j (by
    rcases hz with z | z | z | z | z | z | z | ⟨z, z1, z2, k, z3⟩ | z | z | z | ⟨k, z1, z2, z3⟩ <;> omega))
  have st := st_145 (f := f) (m := m) hs (by omega) (by omega) (by omega) hP.1.1 hM.1 hM.2.1 ho.1.1 rfl rfl
  have etk : (if G q 0 = G qo 0 then (0 : Int) else 1) = tk := by
    rcases htk with ⟨y1, y2, _⟩ | ⟨y1, y2⟩
    · rw [if_pos y1, y2]
    · rw [if_neg y1, y2]
  rw [etk, ← hG0] at st
  have htk' : tk = 0 ∧ s = so ∨ tk = 1 := htk.imp (fun y => y.2) (fun y => y.2)
  obtain ⟨m1, m2, m3, m4, m5⟩ := hM
  have hP0 : cPgm S G0 q nx s := hP.ge (Nat.le_refl _) (fun _ _ => rfl) (fun b j y _ => z0 b j (by omega))
  have ho0 : cPgm S G0 qo nxo so := ho.ge (Nat.le_refl _) (fun _ _ => rfl) (fun b j y _ => z0 b j (by omega))
  have hM0 : cMr S G0 nx mp qo rp so xr cr Mo := ⟨m1, by rw [z0 _ _ (by omega)]; exact m2, by rw [z0 _ _ (by omega)]; exact m3, m4, fun r hr => by
    obtain ⟨n1, n2, n3⟩ := m5 r hr
    exact ⟨by rw [z0 _ _ (by omega)]; exact n1, n2, n3.ge (fun _ _ _ => rfl) (fun j => z0 _ _ (by omega)) (fun j => z0 _ _ (by omega)) (fun j => z0 _ _ (by omega))⟩⟩
  have hnp : s.1.length ≤ 16 := hoks.1.1.1
  obtain ⟨G1, i1, i2, i3, i4⟩ := k_145i (f := f) (m := m) hf hs hmp hrp hq226 ho226 hoks hoko htk' s.1.length 0 f G0 (by omega) (by omega) hp0 hP0 ho0 hM0 (fun j hj => absurd hj (Nat.not_lt_zero j))
  have z1 : ∀ b j, ¬ (b = 93 ∧ (j = 1 ∨ j = 13 ∨ j = 14)) → b ≠ 94 → b ≠ 95 → G1 b j = G b j := fun b j y1 y2 y3 => by rw [i2 b j y2 y3, z0 b j y1]
  have hem1 : cEm G1 := fun w w1 w4 => by rw [z1 _ _ (by omega) (by omega) (by omega), z1 _ _ (by omega) (by omega) (by omega)]; exact hem w w1 w4
  have hM1 : ∀ r, r < so.1.length → cRw S G1 (xr r) (qN so r) (cr r) (Mo r) ∧ (203 < xr r ∧ xr r + 2 < nx) := fun r hr => by
    obtain ⟨n1, n2, n3⟩ := m5 r hr
    exact ⟨n3.ge (fun _ _ _ => rfl) (fun j => z1 _ _ (by omega) (by omega) (by omega)) (fun j => z1 _ _ (by omega) (by omega) (by omega)) (fun j => z1 _ _ (by omega) (by omega) (by omega)), n2⟩
  have hqn : q + 10 < nx := hP.2.2.2.2.2.2.2.2
  -- one predicate
  have hex : ∀ p, ∃ w : (Nat × Nat × Nat × Nat) × List pRw × List pRw, p < s.1.length → G1 95 p = ((w.1.1 : Nat) : Int) ∧ G1 94 p = ((w.1.2.1 : Nat) : Int) ∧ ((203 < w.1.1 ∧ w.1.1 + 2 < nx) ∧ cRw S G1 w.1.1 (qN s p) w.1.2.2.1 w.2.1) ∧ ((203 < w.1.2.1 ∧ w.1.2.1 + 2 < nx) ∧ cRw S G1 w.1.2.1 (qN s p) w.1.2.2.2 w.2.2 ∧ w.2.2.Pairwise rwLt ∧ w.2.2.length ≤ 100 ∧ (∀ r ∈ w.2.2, ∀ x ∈ r.1, vOk x) ∧ ∀ r ∈ w.2.2, 0 ≤ r.2 ∧ r.2 ≤ 1700) ∧ bgR so s Mo tk p w.2.1 w.2.2 ∧ ((∃ r, r < so.1.length ∧ w.1.2.1 = xr r) ∨ w.1.2.1 + 2 < 216) ∧ ((∃ r, r < so.1.length ∧ w.1.1 = xr r) ∨ w.1.1 + 2 < 216) := fun p => by
    by_cases hpn : p < s.1.length
    · obtain ⟨a, x, y1, y2, y3⟩ := i4 p hpn
      obtain ⟨w1, w4⟩ := qN_pos hoks hpn
      have er := em_r (w := qN s p) hs i3 hem1 w1 w4
      rcases y3 with ⟨rfl, rfl, rfl⟩ | ⟨rfl, r, r1, r2, r3, rfl, r5⟩ | ⟨rfl, r1, rfl, rfl⟩
      · have e : s = so := by
          rcases htk' with y | y
          · exact y.2
          · omega
        subst e
        obtain ⟨n1, n2⟩ := hM1 p hpn
        exact ⟨((xr p, xr p, cr p, cr p), Mo p, Mo p), fun _ => ⟨y1, y2, ⟨n2, n1⟩, ⟨n2, n1, hMo p hpn⟩, .inl ⟨rfl, rfl, rfl⟩, .inl ⟨p, hpn, rfl⟩, .inl ⟨p, hpn, rfl⟩⟩⟩
      · obtain ⟨n1, n2⟩ := hM1 r r1
        rw [r3] at n1
        rcases r5 with ⟨k1, rfl⟩ | ⟨k1, rfl⟩
        · exact ⟨((xr r, xr r, cr r, cr r), Mo r, Mo r), fun _ => ⟨y1, y2, ⟨n2, n1⟩, ⟨n2, n1, hMo r r1⟩, .inr (.inl ⟨rfl, r, r1, r2, r3, rfl, .inl ⟨k1, rfl⟩⟩), .inl ⟨r, r1, rfl⟩, .inl ⟨r, r1, rfl⟩⟩⟩
        · exact ⟨((xr r, 201 + 3 * qN s p, cr r, 0), Mo r, []), fun _ => ⟨y1, y2, ⟨n2, n1⟩, ⟨by show 203 < 201 + 3 * qN s p ∧ 201 + 3 * qN s p + 2 < nx; omega, er, List.Pairwise.nil, Nat.zero_le _, (fun r hr => by cases hr), (fun r hr => by cases hr)⟩, .inr (.inl ⟨rfl, r, r1, r2, r3, rfl, .inr ⟨k1, rfl⟩⟩), .inr (by show 201 + 3 * qN s p + 2 < 216; omega), .inl ⟨r, r1, rfl⟩⟩⟩
      · exact ⟨((201 + 3 * qN s p, 201 + 3 * qN s p, 0, 0), [], []), fun _ => ⟨y1, y2, ⟨by show 203 < 201 + 3 * qN s p ∧ 201 + 3 * qN s p + 2 < nx; omega, er⟩, ⟨by show 203 < 201 + 3 * qN s p ∧ 201 + 3 * qN s p + 2 < nx; omega, er, List.Pairwise.nil, Nat.zero_le _, (fun r hr => by cases hr), (fun r hr => by cases hr)⟩, .inr (.inr ⟨rfl, r1, rfl, rfl⟩), .inr (by show 201 + 3 * qN s p + 2 < 216; omega), .inr (by show 201 + 3 * qN s p + 2 < 216; omega)⟩⟩
    · exact ⟨((0, 0, 0, 0), [], []), fun y => absurd y hpn⟩
  obtain ⟨W, hW⟩ := Classical.axiomOfChoice hex
  refine ⟨G1, fun p => (W p).1.2.1, fun p => (W p).1.2.2.2, fun p => (W p).1.1, fun p => (W p).1.2.2.1, fun p => (W p).2.2, fun p => (W p).2.1, st.trans i1, z1, i3, ?_, ?_, ⟨⟨hs, i3, ?_, hq226, hP.ge (Nat.le_refl _) (fun _ _ => rfl) (fun b j y _ => z1 b j (by omega) (by omega) (by omega)), hoks⟩, fun p hpn => ?_⟩, fun p hpn => ?_, fun p hpn => (hW p hpn).2.2.2.2.1, fun p hpn => (hW p hpn).2.2.2.2.2⟩
  · rw [i2 _ _ (by omega) (by omega), hG0, xup2_n (by omega), xup2_s]
  · rw [i2 _ _ (by omega) (by omega), hG0, xup2_s]
  · rw [i2 _ _ (by omega) (by omega), hG0, xup2_n (by omega), xup2_n (by omega), xup2_s]
  · obtain ⟨y1, y2, y3, ⟨y4, y5, y6⟩, y7⟩ := hW p hpn
    exact ⟨y2, .inr y4, y5, y6⟩
  · obtain ⟨y1, y2, y3, y4, y5⟩ := hW p hpn
    exact ⟨y1, y3.1, y3.2⟩
end
/-! what the reference starts from is the same -/
section
variable {so s : pPg} {Mo R0 : Nat → List pRw} {F : List pFc} {tk : Int}
theorem bg_R0 {fr : Prop} (hoko : qOk so) (hoks : qOk s) (hm : qSt1 so Mo) (hF : qFa so Mo F) (hfr : fr ↔ tk = 1) (ht : tk = 0 ∧ s = so ∨ tk = 1) (h : qR0 so s fr F R0) {p : Nat} {a x : List pRw} (hp : p < s.1.length) (hi : pIn s.2.1 (p : Int) = true) (hb : bgR so s Mo tk p a x) : R0 p = x := by
  -- rows of a kept INPUT
  have kept : ∀ r, r < so.1.length → qNm so r = qNm s p → qN so r = qN s p → pIn so.2.1 (r : Int) = true → ∀ (cd : Prop), cd → (R0 p).Pairwise rwLt → (∀ y, y ∈ R0 p ↔ cd ∧ y.2 = 0 ∧ (qNm s p, y.1) ∈ F ∧ y.1.length = qN s p) → R0 p = Mo r := fun r r1 r2 r3 r4 cd hc hs hy => by
    refine srt_ext (lt := rwLt) (fun a => vLt_irr a.1) (fun a b c => vLt_tr) _ _ hs (hm.1.1 r r1).2.1 (fun y => ?_)
    rw [hy y]
    constructor
    · rintro ⟨_, y1, y2, y3⟩
      obtain ⟨r', z1, z2, w, z3, z4⟩ := (hF.2 _).mp y2
      have : r' = r := nm_inj hoko z1 r1 (z2.symm.trans r2.symm)
      subst this
      have e : w = y := Prod.ext z4 (by rw [y1]; exact hm.2 r' r1 r4 w z3)
      rw [← e]; exact z3
    · intro y1
      exact ⟨hc, hm.2 r r1 r4 y y1, (hF.2 _).mpr ⟨r, r1, r2.symm, y, y1, rfl⟩, by rw [((hm.1.1 r r1).2.2 y y1).1, r3]⟩
  rcases h with ⟨h1, h2⟩ | ⟨h1, h2⟩
  · have e1 := hfr.mp h1
    obtain ⟨c1, c2, c3⟩ := h2 p hp
    have none : ¬ kpC so s p → R0 p = [] := fun hk => by
      cases hq : R0 p with
      | nil => rfl
      | cons y l => exact absurd ((c3 y).mp (by rw [hq]; exact List.mem_cons_self)).1 hk
    rcases hb with ⟨b1, _⟩ | ⟨_, r, r1, r2, r3, rfl, ⟨k1, rfl⟩ | ⟨k1, rfl⟩⟩ | ⟨_, r1, _, rfl⟩
    · omega
    · have hk := (kpC_i hoko r1 r2 r3).mp k1
      exact kept r r1 r2 r3 hk.2.1 _ k1 c1 c3
    · exact none k1
    · exact none (fun ⟨_, r, y1, y2, _, y3, _⟩ => r1 r y1 y2 y3)
  · have e1 : tk = 0 ∧ s = so := ht.resolve_right (fun q => h1 (hfr.mpr q))
    obtain ⟨e1, rfl⟩ := e1
    obtain ⟨c1, c2, c3⟩ := h2 p hp
    rcases hb with ⟨_, _, rfl⟩ | ⟨b1, _⟩ | ⟨b1, _⟩
    · exact kept p hp rfl rfl hi _ hi c1 c3
    · omega
    · omega
end
end
section
/-! THE CLASS: differing() -/
/-- a row with these values is there -/
def hasV (L : List pRw) (xs : List Int) : Bool := L.any (fun z => decide (z.1 = xs))
theorem hasV_t {L : List pRw} {xs : List Int} : hasV L xs = true ↔ ∃ z ∈ L, z.1 = xs := by
  unfold hasV
  rw [List.any_eq_true]
  exact ⟨fun ⟨z, z1, z2⟩ => ⟨z, z1, of_decide_eq_true z2⟩, fun ⟨z, z1, z2⟩ => ⟨z, z1, decide_eq_true z2⟩⟩
/-- rows that came or went -/
def dfN (R R2 : List pRw) : Nat := R.countP (fun r => ! hasV R2 r.1) + R2.countP (fun r => ! hasV R r.1)
theorem cmp_lt {W : Nat} {a b : List Int} (ha : a.length = W) (hb : b.length = W) : vLt a b ↔ vCmp a b < 0 := by
  show fCmp (0, a) (0, b) < 0 ↔ _
  unfold fCmp
  rw [if_pos rfl, if_pos (by show a.length = b.length; omega)]
theorem countP_not {α : Type} (p : α → Bool) (l : List α) : l.countP p + l.countP (fun x => ! p x) = l.length := by
  induction l with
  | nil => rfl
  | cons a l ih =>
    rw [List.length_cons]
    cases h : p a with
    | true => rw [List.countP_cons_of_pos h, List.countP_cons_of_neg (by rw [h]; decide)]; omega
    | false => rw [List.countP_cons_of_neg (by rw [h]; decide), List.countP_cons_of_pos (by rw [h]; rfl)]; omega
theorem same_c {R R2 : List pRw} (h : R.Pairwise rwLt) (h2 : R2.Pairwise rwLt) : R.countP (fun r => hasV R2 r.1) = R2.countP (fun r => hasV R r.1) := by
  have side : ∀ {A B : List pRw}, A.Pairwise rwLt → B.Pairwise rwLt → A.countP (fun r => hasV B r.1) ≤ B.countP (fun r => hasV A r.1) := fun {A B} hA hB => by
    rw [List.countP_eq_length_filter, List.countP_eq_length_filter]
    have hnd : ((A.filter (fun r => hasV B r.1)).map (·.1)).Nodup := by
      rw [List.nodup_iff_pairwise_ne, List.pairwise_map]
      exact (hA.filter _).imp (fun {r1 r2} hab => fun (e : r1.1 = r2.1) => vLt_irr r2.1 (by have hab' : vLt r1.1 r2.1 := hab; rw [e] at hab'; exact hab'))
    have := nodup_len _ ((B.filter (fun r => hasV A r.1)).map (·.1)) hnd (fun x hx => by
      obtain ⟨r, r1, rfl⟩ := List.mem_map.mp hx
      obtain ⟨r2, r3⟩ := List.mem_filter.mp r1
      obtain ⟨z, z1, z2⟩ := hasV_t.mp r3
      exact List.mem_map.mpr ⟨z, List.mem_filter.mpr ⟨z1, hasV_t.mpr ⟨r, r2, z2.symm⟩⟩, z2⟩)
    rw [List.length_map, List.length_map] at this
    exact this
  exact Nat.le_antisymm (side h h2) (side h2 h)
theorem dfN_e {R R2 : List pRw} (h : R.Pairwise rwLt) (h2 : R2.Pairwise rwLt) : dfN R R2 + 2 * R.countP (fun r => hasV R2 r.1) = R.length + R2.length := by
  have a1 := countP_not (fun r => hasV R2 r.1) R
  have a2 := countP_not (fun r => hasV R r.1) R2
  have a3 := same_c h h2
  unfold dfN
  omega
section
variable {f x y W cap cap2 i j n n2 sm : Nat} {S : Nat → Nat × Nat × Nat} {G : xG_} {m : Nat × Nat} {R R2 : List pRw} {v : Int} {r7 r16 : Nat → Nat → Int → Int → Int → xT_ → Option (Int × xT_)}
theorem st_83z (xs : S x = (1, 5, 4)) (ys : S y = (1, 5, 4)) (h1 : G x 1 = (n : Int)) (h2 : G y 1 = (n2 : Int)) (e : xwr (xwr ((n : Int) + (n2 : Int)) - xwr (2 * (sm : Int))) = v) : c83_7b r7 f x y (sm : Int) (j : Int) (n : Int) (S, G, m) = some (v, (S, G, m)) := by
  unfold c83_7b
  simp (disch := omega) only [cq_gi, cq_gr, cq_a, cq_s, cq_p, cq_pr, cq_is, cq_ar, cq_ab, cq_ln, xq_nz, Option.bind_some, xup2_n, xup2_s, Int.toNat_natCast, Int.reduceToNat, if_pos, if_neg, true_and, and_true, and_self, eq_self, if_true, reduceIte, not_true_eq_false, not_false_eq_true, or_true, true_or, xs, ys, h1, h2, e]
theorem st_83s (xs : S x = (1, 5, 4)) (h1 : G x 1 = (n : Int)) (hi : i < n) : c83_7b r7 f x y (sm : Int) (j : Int) (i : Int) (S, G, m) = c83_16 r7 f f x y (sm : Int) (j : Int) (i : Int) (S, G, m) := by
  unfold c83_7b
  simp (disch := omega) only [cq_gi, cq_gr, cq_a, cq_s, cq_p, cq_pr, cq_is, cq_ar, cq_ab, cq_ln, xq_nz, Option.bind_some, xup2_n, xup2_s, Int.toNat_natCast, Int.reduceToNat, if_pos, if_neg, true_and, and_true, and_self, eq_self, if_true, reduceIte, not_true_eq_false, not_false_eq_true, or_true, true_or, xs, h1]
theorem st_83e (ys : S y = (1, 5, 4)) (h2 : G y 1 = (n2 : Int)) (hj : n2 ≤ j) (ei : xwr ((i : Int) + 1) = ((i + 1 : Nat) : Int)) (es : xwr ((sm : Int) + 0) = (sm : Int)) : c83_16b r7 r16 f x y (sm : Int) (j : Int) (i : Int) (S, G, m) = r7 x y (sm : Int) (j : Int) ((i + 1 : Nat) : Int) (S, G, m) := by
  unfold c83_16b c83_45 c83_73 c83_74
  simp (disch := omega) only [cq_gi, cq_gr, cq_a, cq_s, cq_p, cq_pr, cq_is, cq_ar, cq_ab, cq_ln, xq_nz, Option.bind_some, xup2_n, xup2_s, Int.toNat_natCast, Int.reduceToNat, if_pos, if_neg, true_and, and_true, and_self, eq_self, if_true, reduceIte, not_true_eq_false, not_false_eq_true, or_true, true_or, ys, h2, ei, es]
theorem st_83n (xs : S x = (1, 5, 4)) (ys : S y = (1, 5, 4)) (h0 : G x 0 = (W : Int)) (h2 : G y 1 = (n2 : Int)) (hj : j < n2) (e : c72 f y (j : Int) x (i : Int) (W : Int) (S, G, m) = some (v, (S, G, m))) (hv : v < 0) (ej : xwr ((j : Int) + 1) = ((j + 1 : Nat) : Int)) : c83_16b r7 r16 f x y (sm : Int) (j : Int) (i : Int) (S, G, m) = r16 x y (sm : Int) ((j + 1 : Nat) : Int) (i : Int) (S, G, m) := by
  have hv' : ¬ 0 ≤ v := by omega
  unfold c83_16b
  simp (disch := omega) only [cq_gi, cq_gr, cq_a, cq_s, cq_p, cq_pr, cq_is, cq_ar, cq_ab, cq_ln, xq_nz, Option.bind_some, xup2_n, xup2_s, Int.toNat_natCast, Int.reduceToNat, if_pos, if_neg, true_and, and_true, and_self, eq_self, if_true, reduceIte, not_true_eq_false, not_false_eq_true, or_true, true_or, xs, ys, h0, h2, e, hv', ej]
theorem st_83y (xs : S x = (1, 5, 4)) (ys : S y = (1, 5, 4)) (h0 : G x 0 = (W : Int)) (h2 : G y 1 = (n2 : Int)) (hj : j < n2) (e : c72 f y (j : Int) x (i : Int) (W : Int) (S, G, m) = some (v, (S, G, m))) (hv : 0 ≤ v) (ei : xwr ((i : Int) + 1) = ((i + 1 : Nat) : Int)) (es : xwr ((sm : Int) + 0) = (sm : Int)) (es1 : xwr ((sm : Int) + 1) = ((sm + 1 : Nat) : Int)) : c83_16b r7 r16 f x y (sm : Int) (j : Int) (i : Int) (S, G, m) = r7 x y ((if v = 0 then sm + 1 else sm : Nat) : Int) (j : Int) ((i + 1 : Nat) : Int) (S, G, m) := by
  by_cases c : v = 0
  · subst c
    rw [if_pos rfl]
    unfold c83_16b c83_45 c83_74
    simp (disch := omega) only [cq_gi, cq_gr, cq_a, cq_s, cq_p, cq_pr, cq_is, cq_ar, cq_ab, cq_ln, xq_nz, Option.bind_some, xup2_n, xup2_s, Int.toNat_natCast, Int.reduceToNat, if_pos, if_neg, true_and, and_true, and_self, eq_self, if_true, reduceIte, not_true_eq_false, not_false_eq_true, or_true, true_or, xs, ys, h0, h2, e, ei, es1, Int.le_refl]
  · rw [if_neg c]
    unfold c83_16b c83_45 c83_73 c83_74
    simp (disch := omega) only [cq_gi, cq_gr, cq_a, cq_s, cq_p, cq_pr, cq_is, cq_ar, cq_ab, cq_ln, xq_nz, Option.bind_some, xup2_n, xup2_s, Int.toNat_natCast, Int.reduceToNat, if_pos, if_neg, true_and, and_true, and_self, eq_self, if_true, reduceIte, not_true_eq_false, not_false_eq_true, or_true, true_or, xs, ys, h0, h2, e, hv, c, ei, es]
theorem k_83i (hf : 20 < f) (h : cRw S G x W cap R) (h2 : cRw S G y W cap2 R2) (hi : i < R.length) (hs2 : R2.Pairwise rwLt) (hsm : sm ≤ i) : ∀ (d j fu : Nat), j + d = R2.length → d < fu → (∀ t, t < j → vLt (R2.getD t dRw).1 (R.getD i dRw).1) → ∃ j', j ≤ j' ∧ j' ≤ R2.length ∧ (∀ t, t < j' → vLt (R2.getD t dRw).1 (R.getD i dRw).1) ∧ c83_16 r7 f fu x y (sm : Int) (j : Int) (i : Int) (S, G, m) = r7 x y ((if hasV R2 (R.getD i dRw).1 = true then sm + 1 else sm : Nat) : Int) (j' : Int) ((i + 1 : Nat) : Int) (S, G, m) := by
  have hR := h.2.2.2.2.1
  have hR2 := h2.2.2.2.2.1
  have hcap := h.2.2.2.2.2.1
  have hcap2 := h2.2.2.2.2.2.1
  have hx := (h.2.2.2.2.2.2.2 i hi).1
  have ei : xwr ((i : Int) + 1) = ((i + 1 : Nat) : Int) := by rw [xwr_g _ (by omega) (by omega)]; omega
  have es : xwr ((sm : Int) + 0) = (sm : Int) := by rw [xwr_g _ (by omega) (by omega)]; omega
  have es1 : xwr ((sm : Int) + 1) = ((sm + 1 : Nat) : Int) := by rw [xwr_g _ (by omega) (by omega)]; omega
  intro d
  induction d with
  | zero =>
    intro j fu e1 e2 hj
    obtain ⟨fu, rfl⟩ : ∃ t, fu = t + 1 := ⟨fu - 1, by omega⟩
    have hn : ¬ hasV R2 (R.getD i dRw).1 = true := fun q => by
      obtain ⟨z, z1, z2⟩ := hasV_t.mp q
      obtain ⟨t, ht, et⟩ := mem_get.mp z1
      have := hj t (by omega)
      rw [et, z2] at this
      exact vLt_irr _ this
    refine ⟨j, Nat.le_refl _, by omega, hj, ?_⟩
    rw [if_neg hn]
    exact st_83e (r16 := c83_16 r7 f fu) h2.1 h2.2.2.2.1.2.1 (by omega) ei es
  | succ d ih =>
    intro j fu e1 e2 hj
    obtain ⟨fu, rfl⟩ : ∃ t, fu = t + 1 := ⟨fu - 1, by omega⟩
    have hjl : j < R2.length := by omega
    have hy := (h2.2.2.2.2.2.2.2 j hjl).1
    have ec := k_72 (f := f) (m := m) (k := W) hf h2 h hjl hi (Nat.le_refl _) (Nat.le_refl _)
    rw [List.take_of_length_le (by omega), List.take_of_length_le (by omega)] at ec
    by_cases c : vCmp (R2.getD j dRw).1 (R.getD i dRw).1 < 0
    · have st : c83_16 r7 f (fu + 1) x y (sm : Int) (j : Int) (i : Int) (S, G, m) = _ := st_83n (r16 := c83_16 r7 f fu) h.1 h2.1 h.2.2.2.1.1 h2.2.2.2.1.2.1 hjl ec c (by rw [xwr_g _ (by omega) (by omega)]; omega)
      obtain ⟨j', i1, i2, i3, i4⟩ := ih (j + 1) fu (by omega) (by omega) (fun t ht => by
        by_cases ct : t = j
        · rw [ct]; exact (cmp_lt hy hx).mpr c
        · exact hj t (by omega))
      exact ⟨j', by omega, i2, i3, st.trans i4⟩
    · have st : c83_16 r7 f (fu + 1) x y (sm : Int) (j : Int) (i : Int) (S, G, m) = _ := st_83y (r16 := c83_16 r7 f fu) h.1 h2.1 h.2.2.2.1.1 h2.2.2.2.1.2.1 hjl ec (by omega) ei es es1
      refine ⟨j, Nat.le_refl _, by omega, hj, ?_⟩
      have hiff : hasV R2 (R.getD i dRw).1 = true ↔ vCmp (R2.getD j dRw).1 (R.getD i dRw).1 = 0 := by
        constructor
        · intro q
          obtain ⟨z, z1, z2⟩ := hasV_t.mp q
          obtain ⟨t, ht, et⟩ := mem_get.mp z1
          by_cases c1 : t < j
          · have := hj t c1
            rw [et, z2] at this
            exact (vLt_irr _ this).elim
          · by_cases c2 : t = j
            · rw [← c2, et, z2]; exact vCmp_self _
            · have hlt : vLt (R2.getD j dRw).1 (R2.getD t dRw).1 := srt_get (d := dRw) hs2 (by omega) ht
              rw [et, z2] at hlt
              exact absurd ((cmp_lt hy hx).mp hlt) c
        · intro q
          exact hasV_t.mpr ⟨_, mem_get.mpr ⟨j, hjl, rfl⟩, vCmp_eq (by omega) q⟩
      rw [st]
      by_cases c0 : vCmp (R2.getD j dRw).1 (R.getD i dRw).1 = 0
      · rw [if_pos c0, if_pos (hiff.mpr c0)]
      · rw [if_neg c0, if_neg (fun q => c0 (hiff.mp q))]
/-- differing() -/
theorem k_83 (hf : 600 < f) (h : cRw S G x W cap R) (h2 : cRw S G y W cap2 R2) (hs : R.Pairwise rwLt) (hs2 : R2.Pairwise rwLt) : c83 f x y (S, G, m) = some ((dfN R R2 : Int), (S, G, m)) := by
  have hR := h.2.2.2.2.1
  have hR2 := h2.2.2.2.2.1
  have hcap := h.2.2.2.2.2.1
  have hcap2 := h2.2.2.2.2.2.1
  have hd := dfN_e hs hs2
  have loop : ∀ (d i fu j : Nat), i + d = R.length → d < fu → j ≤ R2.length → (i < R.length → ∀ t, t < j → vLt (R2.getD t dRw).1 (R.getD i dRw).1) → c83_7 f fu x y ((((R.take i).countP (fun r => hasV R2 r.1) : Nat)) : Int) (j : Int) (i : Int) (S, G, m) = some ((dfN R R2 : Int), (S, G, m)) := by
    intro d
    induction d with
    | zero =>
      intro i fu j e1 e2 e3 _
      obtain ⟨fu, rfl⟩ : ∃ t, fu = t + 1 := ⟨fu - 1, by omega⟩
      have e : i = R.length := by omega
      subst e
      rw [List.take_length]
      have hc := List.countP_le_length (p := fun r : pRw => hasV R2 r.1) (l := R)
      exact st_83z (r7 := c83_7 f fu) h.1 h2.1 h.2.2.2.1.2.1 h2.2.2.2.1.2.1 (by rw [xwr_g ((R.length : Int) + (R2.length : Int)) (by omega) (by omega), xwr_g (2 * _) (by omega) (by omega), xwr_g _ (by omega) (by omega)]; omega)
    | succ d ih =>
      intro i fu j e1 e2 e3 hj
      obtain ⟨fu, rfl⟩ : ∃ t, fu = t + 1 := ⟨fu - 1, by omega⟩
      have hi : i < R.length := by omega
      have st : c83_7 f (fu + 1) x y ((((R.take i).countP (fun r => hasV R2 r.1) : Nat)) : Int) (j : Int) (i : Int) (S, G, m) = _ := st_83s (r7 := c83_7 f fu) h.1 h.2.2.2.1.2.1 hi
      have hc := List.countP_le_length (p := fun r : pRw => hasV R2 r.1) (l := R.take i)
      rw [List.length_take] at hc
      obtain ⟨j', i1, i2, i3, i4⟩ := k_83i (f := f) (m := m) (r7 := c83_7 f fu) (sm := (R.take i).countP (fun r => hasV R2 r.1)) (by omega) h h2 hi hs2 (by omega) (R2.length - j) j f (by omega) (by omega) (hj hi)
      rw [st, i4]
      have ec : (if hasV R2 (R.getD i dRw).1 = true then (R.take i).countP (fun r => hasV R2 r.1) + 1 else (R.take i).countP (fun r => hasV R2 r.1)) = (R.take (i + 1)).countP (fun r => hasV R2 r.1) := by
        rw [List.take_succ_eq_append_getElem hi, List.countP_append, getD_e hi]
        by_cases c : hasV R2 R[i].1 = true
        · rw [if_pos c, List.countP_cons_of_pos (p := fun r : pRw => hasV R2 r.1) c]; rfl
        · rw [if_neg c, List.countP_cons_of_neg (p := fun r : pRw => hasV R2 r.1) c]; rfl
      rw [ec]
      refine ih (i + 1) fu j' (by omega) (by omega) i2 (fun hi1 t ht => ?_)
      exact vLt_tr (i3 t ht) (srt_get (d := dRw) hs (Nat.lt_succ_self i) hi1)
  have := loop R.length 0 f 0 (by omega) (by omega) (Nat.zero_le _) (fun _ t ht => absurd ht (Nat.not_lt_zero t))
  rw [List.take_zero] at this
  exact this
end
end
