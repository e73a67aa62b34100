/-! THE CLASS: like(), a moment's rows, begin() -/
/-- the predicate of so with the NAME and n of p in s -/
def lkP (so s : pPg) (p : Nat) (v : Int) : Prop := (∃ r : Nat, v = (r : Int) ∧ r < so.1.length ∧ qNm so r = qNm s p ∧ qN so r = qN s p) ∨ (v = -1 ∧ ∀ r, r < so.1.length → qNm so r = qNm s p → qN so r ≠ qN s p)
theorem qN_pos {s : pPg} (hok : qOc s) {p : Nat} (hp : p < s.1.length) : 1 ≤ qN s p ∧ qN s p ≤ 4 := by
  refine ⟨?_, (qN_c hok.1.1 p).2⟩
  rcases hok.2.2.2.1 p hp with h | h
  · have := hok.2.2.2.2.2.2 p hp h
    omega
  · unfold pHd at h
    obtain ⟨u, u1, u2⟩ := List.any_eq_true.mp h
    have e := of_decide_eq_true u2
    have o2 := (hok.1.2.1 u u1).2
    have w3 := (hok.1.1.2.2.2.2.2.2 u u1).2.2.1
    rw [e] at o2
    have := (qN_c hok.1.1 p).1
    omega
section
variable {f q qo nx nxo p np mp : Nat} {S : Nat → Nat × Nat × Nat} {G : xG_} {m : Nat × Nat} {s so : pPg} {v w x a b : Int} {T : xT_}
theorem st_21n (qs : S q = (1, 3, 14)) (q1 : S (q + 1) = (2, 4, 16)) (h2 : G q 2 = ((q + 1 : Nat) : Int)) (os : S qo = (1, 3, 14)) (hp : p < 16) (hx : G (q + 1) p = x) (e : c20 f qo x (S, G, m) = some (-1, (S, G, m))) : c21 f qo q (p : Int) (S, G, m) = some (-1, (S, G, m)) := by
  unfold c21 c21_35 c21_36
  simp (disch := omega) only [cq_gi, cq_gr, cq_a, cq_s, cq_p, cq_pr, cq_is, cq_ar, cq_ab, cq_ln, xq_nz, Option.bind_some, xup2_n, xup2_s, Int.toNat_natCast, Int.reduceToNat, if_pos, if_neg, true_and, and_true, and_self, eq_self, if_true, reduceIte, not_true_eq_false, not_false_eq_true, or_true, true_or, qs, q1, h2, os, hx, e]
theorem st_21y {r : Nat} (qs : S q = (1, 3, 14)) (q1 : S (q + 1) = (2, 4, 16)) (q2 : S (q + 2) = (2, 3, 16)) (h2 : G q 2 = ((q + 1 : Nat) : Int)) (h3 : G q 3 = ((q + 2 : Nat) : Int)) (os : S qo = (1, 3, 14)) (o2 : S (qo + 2) = (2, 3, 16)) (g3 : G qo 3 = ((qo + 2 : Nat) : Int)) (hp : p < 16) (hr : r < 16) (hx : G (q + 1) p = x) (ha : G (qo + 2) r = a) (hb : G (q + 2) p = b) (e : c20 f qo x (S, G, m) = some ((r : Int), (S, G, m))) : c21 f qo q (p : Int) (S, G, m) = some (if a = b then (r : Int) else -1, (S, G, m)) := by
  have hr1 : ¬ (r : Int) = -1 := by omega
  by_cases c : a = b
  · rw [if_pos c]
    unfold c21 c21_36
    simp (disch := omega) only [cq_gi, cq_gr, cq_a, cq_s, cq_p, cq_pr, cq_is, cq_ar, cq_ab, cq_ln, xq_nz, Option.bind_some, xup2_n, xup2_s, Int.toNat_natCast, Int.reduceToNat, if_pos, if_neg, true_and, and_true, and_self, eq_self, if_true, reduceIte, not_true_eq_false, not_false_eq_true, or_true, true_or, qs, q1, q2, h2, h3, os, o2, g3, hx, e, hr1, ha, hb, c]
  · rw [if_neg c]
    unfold c21 c21_35 c21_36
    simp (disch := omega) only [cq_gi, cq_gr, cq_a, cq_s, cq_p, cq_pr, cq_is, cq_ar, cq_ab, cq_ln, xq_nz, Option.bind_some, xup2_n, xup2_s, Int.toNat_natCast, Int.reduceToNat, if_pos, if_neg, true_and, and_true, and_self, eq_self, if_true, reduceIte, not_true_eq_false, not_false_eq_true, or_true, true_or, qs, q1, q2, h2, h3, os, o2, g3, hx, e, hr1, ha, hb, c]
/-- like() -/
theorem k_21 (hf : 20 < f) (hq : cPgm S G q nx s) (ho : cPgm S G qo nxo so) (hoks : qOk s) (hoko : qOk so) (hp : p < s.1.length) : ∃ v, c21 f qo q (p : Int) (S, G, m) = some (v, (S, G, m)) ∧ lkP so s p v := by
  have hnp : s.1.length ≤ 16 := hq.2.2.1.2.1
  have hnpo : so.1.length ≤ 16 := ho.2.2.1.2.1
  have e20 := k_20 (f := f) (m := m) (x := qNm s p) hf ho.1 ho.2.1 ho.2.2.1
  have hx : G (q + 1) p = qNm s p := hq.2.2.1.2.2 p hp
  have hwd : ∀ {q' nx' : Nat} {s' : pPg} {k : Nat}, cPgm S G q' nx' s' → qOk s' → k < 16 → G (q' + 2) k = ((qN s' k : Nat) : Int) := fun {q' nx' s' k} h hk hk16 => by rw [(qN_c hk.1 k).1]; exact h.2.2.2.1 k hk16
  by_cases c : pIdx so.1 (qNm s p) = -1
  · rw [c] at e20
    refine ⟨-1, st_21n hq.1.1 hq.1.2.1 hq.2.1.1 ho.1.1 (by omega) hx e20, .inr ⟨rfl, fun r hr e => ?_⟩⟩
    exfalso
    have hm : qNm s p ∈ so.1 := by rw [← e]; unfold qNm; rw [getD_e hr]; exact List.getElem_mem hr
    exact pIdx_mem c hm
  · obtain ⟨r, r2, r1, r3, _⟩ := (pIdx_get (x := qNm s p) hoko.1.2.1).resolve_left (fun q => c q.1)
    rw [r1] at e20
    have er : qNm so r = qNm s p := r3
    have st := st_21y (f := f) (m := m) hq.1.1 hq.1.2.1 hq.1.2.2.1 hq.2.1.1 hq.2.1.2.1 ho.1.1 ho.1.2.2.1 ho.2.1.2.1 (by omega : p < 16) (by omega : r < 16) hx (hwd ho hoko (by omega)) (hwd hq hoks (by omega)) e20
    by_cases c2 : ((qN so r : Nat) : Int) = ((qN s p : Nat) : Int)
    · rw [if_pos c2] at st
      exact ⟨_, st, .inl ⟨r, rfl, r2, er, by omega⟩⟩
    · rw [if_neg c2] at st
      refine ⟨_, st, .inr ⟨rfl, fun r' hr' e => ?_⟩⟩
      have : r' = r := nm_inj hoko hr' r2 (e.trans er.symm)
      rw [this]; omega
end
/-- the rows of a moment -/
def cMr (S : Nat → Nat × Nat × Nat) (G : xG_) (nx mp q rp : Nat) (s : pPg) (xr cr : Nat → Nat) (M : Nat → List pRw) : Prop := S mp = (1, 2, 8) ∧ G mp 0 = (q : Int) ∧ G mp 1 = (rp : Int) ∧ S rp = (2, 10, s.1.length) ∧ ∀ p, p < s.1.length → G rp p = ((xr p : Nat) : Int) ∧ (203 < xr p ∧ xr p + 2 < nx) ∧ cRw S G (xr p) (qN s p) (cr p) (M p)
/-- the rows that are never there -/
def cEm (G : xG_) : Prop := ∀ w, 1 ≤ w → w ≤ 4 → G (201 + 3 * w) 0 = (w : Int) ∧ G (201 + 3 * w) 1 = 0
section
variable {S : Nat → Nat × Nat × Nat} {G G' : xG_} {w : Nat}
theorem em_s (h : cSs S) (h1 : 1 ≤ w) (h4 : w ≤ 4) : S (201 + 3 * w) = (1, 5, 4) ∧ S (202 + 3 * w) = (2, 4, 0) ∧ S (203 + 3 * w) = (2, 3, 0) := by
  rcases (by omega : w = 1 ∨ w = 2 ∨ w = 3 ∨ w = 4) with rfl | rfl | rfl | rfl
  · exact ⟨h 140 (by decide), h 141 (by decide), h 142 (by decide)⟩
  · exact ⟨h 143 (by decide), h 144 (by decide), h 145 (by decide)⟩
  · exact ⟨h 146 (by decide), h 147 (by decide), h 148 (by decide)⟩
  · exact ⟨h 149 (by decide), h 150 (by decide), h 151 (by decide)⟩
theorem em_p (h : cPs G) (h1 : 1 ≤ w) (h4 : w ≤ 4) : G 98 w = ((201 + 3 * w : Nat) : Int) ∧ G (201 + 3 * w) 2 = ((202 + 3 * w : Nat) : Int) ∧ G (201 + 3 * w) 3 = ((203 + 3 * w : Nat) : Int) := by
  rcases (by omega : w = 1 ∨ w = 2 ∨ w = 3 ∨ w = 4) with rfl | rfl | rfl | rfl
  · exact ⟨h (98, 1, 204) (by decide +kernel), h (204, 2, 205) (by decide +kernel), h (204, 3, 206) (by decide +kernel)⟩
  · exact ⟨h (98, 2, 207) (by decide +kernel), h (207, 2, 208) (by decide +kernel), h (207, 3, 209) (by decide +kernel)⟩
  · exact ⟨h (98, 3, 210) (by decide +kernel), h (210, 2, 211) (by decide +kernel), h (210, 3, 212) (by decide +kernel)⟩
  · exact ⟨h (98, 4, 213) (by decide +kernel), h (213, 2, 214) (by decide +kernel), h (213, 3, 215) (by decide +kernel)⟩
theorem em_r (hs : cSs S) (hp : cPs G) (he : cEm G) (h1 : 1 ≤ w) (h4 : w ≤ 4) : cRw S G (201 + 3 * w) w 0 [] := by
  obtain ⟨a1, a2, a3⟩ := em_s hs h1 h4
  obtain ⟨b1, b2, b3⟩ := em_p hp h1 h4
  obtain ⟨c1, c2⟩ := he w h1 h4
  exact ⟨a1, ⟨0, by rw [show 201 + 3 * w + 1 = 202 + 3 * w by omega]; exact a2, by omega, by omega⟩, by rw [show 201 + 3 * w + 2 = 203 + 3 * w by omega]; exact a3, ⟨c1, c2, by rw [b2]; omega, by rw [b3]; omega⟩, Nat.zero_le _, by decide, by omega, fun i hi => absurd hi (Nat.not_lt_zero i)⟩
end
section
variable {f q qo p np mp rp ra e0 w r : Nat} {S : Nat → Nat × Nat × Nat} {G : xG_} {m : Nat × Nat} {tk v : Int} {r38 : Nat → Nat → Nat → Int → Int → xT_ → Option (xT_)} {T : xT_}
theorem st_38z (qs : S q = (1, 3, 14)) (hn : G q 1 = (np : Int)) : c145_38b r38 f 93 mp q tk (np : Int) (S, G, m) = some (S, G, m) := by
  unfold c145_38b
  simp (disch := omega) only [cq_gi, cq_gr, cq_a, cq_s, cq_p, cq_pr, cq_is, cq_ar, cq_ab, cq_ln, xq_nz, Option.bind_some, xup2_n, xup2_s, Int.toNat_natCast, Int.reduceToNat, if_pos, if_neg, true_and, and_true, and_self, eq_self, if_true, reduceIte, not_true_eq_false, not_false_eq_true, or_true, true_or, qs, hn]
theorem st_38n (qs : S q = (1, 3, 14)) (hn : G q 1 = (np : Int)) (hp : p < np) : c145_38b r38 f 93 mp q 0 (p : Int) (S, G, m) = c145_66 r38 f 93 mp q 0 (p : Int) (p : Int) (S, G, m) := by
  unfold c145_38b
  simp (disch := omega) only [cq_gi, cq_gr, cq_a, cq_s, cq_p, cq_pr, cq_is, cq_ar, cq_ab, cq_ln, xq_nz, Option.bind_some, xup2_n, xup2_s, Int.toNat_natCast, Int.reduceToNat, if_pos, if_neg, true_and, and_true, and_self, eq_self, if_true, reduceIte, not_true_eq_false, not_false_eq_true, or_true, true_or, qs, hn]
theorem st_38t (qs : S q = (1, 3, 14)) (hn : G q 1 = (np : Int)) (hp : p < np) (ms : S mp = (1, 2, 8)) (h0 : G mp 0 = (qo : Int)) (os : S qo = (1, 3, 14)) (e : c21 f qo q (p : Int) (S, G, m) = some (v, (S, G, m))) : c145_38b r38 f 93 mp q 1 (p : Int) (S, G, m) = c145_66 r38 f 93 mp q 1 (p : Int) v (S, G, m) := by
  have h10 : ¬ (1 : Int) = 0 := by decide
  unfold c145_38b
  simp (disch := omega) only [cq_gi, cq_gr, cq_a, cq_s, cq_p, cq_pr, cq_is, cq_ar, cq_ab, cq_ln, xq_nz, Option.bind_some, xup2_n, xup2_s, Int.toNat_natCast, Int.reduceToNat, if_pos, if_neg, true_and, and_true, and_self, eq_self, if_true, reduceIte, not_true_eq_false, not_false_eq_true, or_true, true_or, qs, hn, ms, h0, os, e, h10]
theorem st_66y' (hs : cSs S) (hp : cPs G) (qs : S q = (1, 3, 14)) (q2 : S (q + 2) = (2, 3, 16)) (h3 : G q 3 = ((q + 2 : Nat) : Int)) (hp16 : p < 16) (hw : G (q + 2) p = (w : Int)) (hw4 : w < 5) (h98 : G 98 w = (e0 : Int)) (ms : S mp = (1, 2, 8)) (h1 : G mp 1 = (rp : Int)) (rs : S rp = (2, 10, np)) (hr : r < np) (hra : G rp r = (ra : Int)) : c145_66 r38 f 93 mp q tk (p : Int) (r : Int) (S, G, m) = c145_106 r38 f 93 mp q tk (p : Int) (r : Int) e0 ra (p : Int) 95 (S, G, m) := by
  have hr1 : ¬ (r : Int) = -1 := by omega
  unfold c145_66
  simp (disch := omega) only [cq_gi, cq_gr, cq_a, cq_s, cq_p, cq_pr, cq_is, cq_ar, cq_ab, cq_ln, xq_nz, Option.bind_some, xup2_n, xup2_s, Int.toNat_natCast, Int.reduceToNat, if_pos, if_neg, true_and, and_true, and_self, eq_self, if_true, reduceIte, not_true_eq_false, not_false_eq_true, or_true, true_or, s93 hs, s98 hs, p93_6 hp, p93_3 hp, qs, q2, h3, hw, h98, ms, h1, rs, hra, hr1]
theorem st_66n' (hs : cSs S) (hp : cPs G) (qs : S q = (1, 3, 14)) (q2 : S (q + 2) = (2, 3, 16)) (h3 : G q 3 = ((q + 2 : Nat) : Int)) (hp16 : p < 16) (hw : G (q + 2) p = (w : Int)) (hw4 : w < 5) (h98 : G 98 w = (e0 : Int)) : c145_66 r38 f 93 mp q tk (p : Int) (-1) (S, G, m) = c145_106 r38 f 93 mp q tk (p : Int) (-1) e0 e0 (p : Int) 95 (S, G, m) := by
  unfold c145_66
  simp (disch := omega) only [cq_gi, cq_gr, cq_a, cq_s, cq_p, cq_pr, cq_is, cq_ar, cq_ab, cq_ln, xq_nz, Option.bind_some, xup2_n, xup2_s, Int.toNat_natCast, Int.reduceToNat, if_pos, if_neg, true_and, and_true, and_self, eq_self, if_true, reduceIte, not_true_eq_false, not_false_eq_true, or_true, true_or, s93 hs, s98 hs, p93_6 hp, p93_3 hp, qs, q2, h3, hw, h98]
theorem sr_95 {x : Nat} (hx : x = 94 ∨ x = 95) (hs : cSs S) (hp16 : p < 16) (rs : S ra = (1, 5, 4)) : cq_sr x (p : Int) ra (S, G, m) = some (S, xup2 G x p (ra : Int), m) := by
  have sx : S x = (2, 10, 16) := by rcases hx with rfl | rfl; exact s94 hs; exact s95 hs
  unfold cq_sr
  simp only [sx, rs]
  rw [if_pos ⟨trivial, by decide, by omega, by omega, .inr ⟨trivial, trivial⟩⟩, Int.toNat_natCast]
theorem st_165 (hs : cSs S) (hp : cPs G) (hp16 : p < 16) (b : Bool) (h95 : G 95 p = (ra : Int)) (rs : S ra = (1, 5, 4)) (es : S e0 = (1, 5, 4)) (ep : xwr ((p : Int) + 1) = ((p + 1 : Nat) : Int)) : c145_165 r38 f 93 mp q tk (p : Int) e0 (b01 b) (S, G, m) = r38 93 mp q tk ((p + 1 : Nat) : Int) (S, xup2 G 94 p ((if b = true then ra else e0 : Nat) : Int), m) := by
  cases b with
  | false =>
    have e0' : b01 false = 0 := rfl
    rw [e0', if_neg (by decide)]
    unfold c145_165 c145_190
    simp (disch := omega) only [cq_gi, cq_gr, cq_a, cq_s, cq_p, cq_pr, cq_is, cq_ar, cq_ab, cq_ln, xq_nz, Option.bind_some, xup2_n, xup2_s, Int.toNat_natCast, Int.reduceToNat, if_pos, if_neg, true_and, and_true, and_self, eq_self, if_true, reduceIte, not_true_eq_false, not_false_eq_true, or_true, true_or, s93 hs, p93_2 hp, sr_95 (.inl rfl) hs hp16 es, ep]
  | true =>
    have e0' : b01 true = 1 := rfl
    rw [e0', if_pos rfl]
    unfold c145_165 c145_190
    simp (disch := omega) only [cq_gi, cq_gr, cq_a, cq_s, cq_p, cq_pr, cq_is, cq_ar, cq_ab, cq_ln, xq_nz, Option.bind_some, xup2_n, xup2_s, Int.toNat_natCast, Int.reduceToNat, if_pos, if_neg, true_and, and_true, and_self, eq_self, if_true, reduceIte, not_true_eq_false, not_false_eq_true, or_true, true_or, s93 hs, s95 hs, p93_2 hp, p93_3 hp, h95, sr_95 (.inl rfl) hs hp16 rs, ep, Int.reduceEq]
theorem st_106n (hs : cSs S) (hp16 : p < 16) (rs : S ra = (1, 5, 4)) : c145_106 r38 f 93 mp q 0 (p : Int) v e0 ra (p : Int) 95 (S, G, m) = c145_165 r38 f 93 mp q 0 (p : Int) e0 1 (S, xup2 G 95 p (ra : Int), m) := by
  unfold c145_106 c145_160
  simp (disch := omega) only [cq_gi, cq_gr, cq_a, cq_s, cq_p, cq_pr, cq_is, cq_ar, cq_ab, cq_ln, xq_nz, Option.bind_some, xup2_n, xup2_s, Int.toNat_natCast, Int.reduceToNat, if_pos, if_neg, true_and, and_true, and_self, eq_self, if_true, reduceIte, not_true_eq_false, not_false_eq_true, or_true, true_or, sr_95 (.inr rfl) hs hp16 rs]
theorem st_106o (hs : cSs S) (hp16 : p < 16) (rs : S ra = (1, 5, 4)) : c145_106 r38 f 93 mp q 1 (p : Int) (-1) e0 ra (p : Int) 95 (S, G, m) = c145_165 r38 f 93 mp q 1 (p : Int) e0 0 (S, xup2 G 95 p (ra : Int), m) := by
  have h10 : ¬ (1 : Int) = 0 := by decide
  unfold c145_106 c145_164
  simp (disch := omega) only [cq_gi, cq_gr, cq_a, cq_s, cq_p, cq_pr, cq_is, cq_ar, cq_ab, cq_ln, xq_nz, Option.bind_some, xup2_n, xup2_s, Int.toNat_natCast, Int.reduceToNat, if_pos, if_neg, true_and, and_true, and_self, eq_self, if_true, reduceIte, not_true_eq_false, not_false_eq_true, or_true, true_or, sr_95 (.inr rfl) hs hp16 rs, h10]
theorem st_106t {i1 i2 : Bool} {k1 k2 : Int} (hs : cSs S) (hp16 : p < 16) (rs : S ra = (1, 5, 4)) (hq : 203 < q) (hqo : 203 < qo) (hmp : 203 < mp) (hr : r < 16) (qs : S q = (1, 3, 14)) (q3 : S (q + 3) = (2, 3, 16)) (q4 : S (q + 4) = (2, 0, 16)) (h4 : G q 4 = ((q + 3 : Nat) : Int)) (h5 : G q 5 = ((q + 4 : Nat) : Int)) (ms : S mp = (1, 2, 8)) (h0 : G mp 0 = (qo : Int)) (os : S qo = (1, 3, 14)) (o3 : S (qo + 3) = (2, 3, 16)) (o4 : S (qo + 4) = (2, 0, 16)) (g4 : G qo 4 = ((qo + 3 : Nat) : Int)) (g5 : G qo 5 = ((qo + 4 : Nat) : Int)) (hi1 : G (q + 4) p = b01 i1) (hi2 : G (qo + 4) r = b01 i2) (hk1 : G (q + 3) p = k1) (hk2 : G (qo + 3) r = k2) : c145_106 r38 f 93 mp q 1 (p : Int) (r : Int) e0 ra (p : Int) 95 (S, G, m) = c145_165 r38 f 93 mp q 1 (p : Int) e0 (b01 (i1 && i2 && decide (k1 = k2))) (S, xup2 G 95 p (ra : Int), m) := by
  have h10 : ¬ (1 : Int) = 0 := by decide
  have hr1 : ¬ (r : Int) = -1 := by omega
  cases i1 with
  | false =>
    have e : b01 false = 0 := rfl
    rw [e] at hi1
    show _ = c145_165 r38 f 93 mp q 1 (p : Int) e0 0 (S, xup2 G 95 p (ra : Int), m)
    unfold c145_106 c145_164
    simp (disch := omega) only [cq_gi, cq_gr, cq_a, cq_s, cq_p, cq_pr, cq_is, cq_ar, cq_ab, cq_ln, xq_nz, Option.bind_some, xup2_n, xup2_s, Int.toNat_natCast, Int.reduceToNat, if_pos, if_neg, true_and, and_true, and_self, eq_self, if_true, reduceIte, not_true_eq_false, not_false_eq_true, or_true, true_or, sr_95 (.inr rfl) hs hp16 rs, h10, hr1, qs, q4, h5, hi1, Nat.reduceLT]
  | true =>
    have e : b01 true = 1 := rfl
    rw [e] at hi1
    cases i2 with
    | false =>
      have e : b01 false = 0 := rfl
      rw [e] at hi2
      show _ = c145_165 r38 f 93 mp q 1 (p : Int) e0 0 (S, xup2 G 95 p (ra : Int), m)
      unfold c145_106 c145_164
      simp (disch := omega) only [cq_gi, cq_gr, cq_a, cq_s, cq_p, cq_pr, cq_is, cq_ar, cq_ab, cq_ln, xq_nz, Option.bind_some, xup2_n, xup2_s, Int.toNat_natCast, Int.reduceToNat, if_pos, if_neg, true_and, and_true, and_self, eq_self, if_true, reduceIte, not_true_eq_false, not_false_eq_true, or_true, true_or, sr_95 (.inr rfl) hs hp16 rs, h10, hr1, qs, q4, h5, hi1, ms, h0, os, o4, g5, hi2, Nat.reduceLT]
    | true =>
      have e : b01 true = 1 := rfl
      rw [e] at hi2
      by_cases c : k1 = k2
      · have ed : b01 (true && true && decide (k1 = k2)) = 1 := by rw [decide_eq_true c]; rfl
        rw [ed]
        unfold c145_106 c145_160
        simp (disch := omega) only [cq_gi, cq_gr, cq_a, cq_s, cq_p, cq_pr, cq_is, cq_ar, cq_ab, cq_ln, xq_nz, Option.bind_some, xup2_n, xup2_s, Int.toNat_natCast, Int.reduceToNat, if_pos, if_neg, true_and, and_true, and_self, eq_self, if_true, reduceIte, not_true_eq_false, not_false_eq_true, or_true, true_or, sr_95 (.inr rfl) hs hp16 rs, h10, hr1, qs, q3, q4, h4, h5, hi1, ms, h0, os, o3, o4, g4, g5, hi2, hk1, hk2, c, Nat.reduceLT]
      · have ed : b01 (true && true && decide (k1 = k2)) = 0 := by rw [decide_eq_false c]; rfl
        rw [ed]
        unfold c145_106 c145_164
        simp (disch := omega) only [cq_gi, cq_gr, cq_a, cq_s, cq_p, cq_pr, cq_is, cq_ar, cq_ab, cq_ln, xq_nz, Option.bind_some, xup2_n, xup2_s, Int.toNat_natCast, Int.reduceToNat, if_pos, if_neg, true_and, and_true, and_self, eq_self, if_true, reduceIte, not_true_eq_false, not_false_eq_true, or_true, true_or, sr_95 (.inr rfl) hs hp16 rs, h10, hr1, qs, q3, q4, h4, h5, hi1, ms, h0, os, o3, o4, g4, g5, hi2, hk1, hk2, c, Nat.reduceLT]
end
