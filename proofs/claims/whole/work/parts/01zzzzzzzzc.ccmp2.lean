/-! THE CLASS reads comparisons -/
def c45_177t (f : Nat) (x0 : Nat) (v169 : Int) (R182 : ((Nat ⊕ Unit) × xT_)) : Option ((Nat ⊕ Unit) × xT_) := cth R182 (fun _ => ((cq_gr 4 5 20 (x0) R182.2).bind fun v190 => ((cq_gr 6 15 20 (v190) R182.2).bind fun v192 => ((cq_gi 4 9 20 (x0) R182.2).bind fun v194 => ((cq_s 3 (v192) (xwr ((4) + (xwr ((2) * (v169))))) (v194) R182.2).bind fun T197 => ((cq_gr 4 0 20 (x0) T197).bind fun v201 => ((cq_gr 8 3 8 (v201) T197).bind fun v203 => ((cq_gi 4 1 20 (x0) T197).bind fun v205 => ((cq_a 3 (v203) (v205) T197).bind fun v207 => (if (v207) = (61) then c45_288  f (x0) (xwr ((4) + (xwr ((2) * (v169))))) (v207) T197 else (if (v207) = (60) then c45_288  f (x0) (xwr ((4) + (xwr ((2) * (v169))))) (v207) T197 else (if (v207) = (62) then c45_288  f (x0) (xwr ((4) + (xwr ((2) * (v169))))) (v207) T197 else (if (v207) = (257) then c45_288  f (x0) (xwr ((4) + (xwr ((2) * (v169))))) (v207) T197 else (if (v207) = (258) then c45_288  f (x0) (xwr ((4) + (xwr ((2) * (v169))))) (v207) T197 else (if (v207) = (259) then c45_288  f (x0) (xwr ((4) + (xwr ((2) * (v169))))) (v207) T197 else ((cq_gr 4 0 20 (x0) T197).bind fun v215 => ((cq_gr 8 4 8 (v215) T197).bind fun v217 => ((cq_gi 4 1 20 (x0) T197).bind fun v219 => ((cq_a 3 (v217) (v219) T197).bind fun v221 => ((cq_is 4 20 (x0) T197).bind fun _ => ((c36 f (x0) (v221) T197).bind fun R223 => cth R223 (fun _ => c45_288  f (x0) (xwr ((4) + (xwr ((2) * (v169))))) (v207) R223.2))))))))))))))))))))))
theorem c45_177t_e (f : Nat) (x0 : Nat) (T : xT_) : c45_177 f x0 T = ((cq_gr 4 5 20 (x0) T).bind fun v167 => ((cq_gi 6 8 20 (v167) T).bind fun v169 => ((cq_gr 4 5 20 (x0) T).bind fun v171 => ((cq_gr 6 14 20 (v171) T).bind fun v173 => ((cq_gi 4 9 20 (x0) T).bind fun v175 => ((cq_s 3 (v173) (xwr ((4) + (xwr ((2) * (v169))))) (v175) T).bind fun T178 => ((cq_is 4 20 (x0) T178).bind fun _ => ((c53 f (x0) (0) T178).bind fun R182 => c45_177t f x0 v169 R182)))))))) := rfl
def c45_288t (f : Nat) (x0 : Nat) (x2 : Int) (x3 : Int) (R126 : ((Nat ⊕ Unit) × xT_)) : Option ((Nat ⊕ Unit) × xT_) := cth R126 (fun _ => ((cq_gr 4 5 20 (x0) R126.2).bind fun v134 => ((cq_gr 6 15 20 (v134) R126.2).bind fun v136 => ((cq_gi 4 9 20 (x0) R126.2).bind fun v138 => ((cq_s 3 (v136) (xwr ((x2) + (1))) (v138) R126.2).bind fun T141 => ((cq_gr 4 5 20 (x0) T141).bind fun v145 => ((cq_gr 6 9 20 (v145) T141).bind fun v147 => ((cq_gr 4 5 20 (x0) T141).bind fun v149 => ((cq_gi 6 8 20 (v149) T141).bind fun v151 => ((cq_s 3 (v147) (v151) (x3) T141).bind fun T154 => ((cq_gr 4 5 20 (x0) T154).bind fun v158 => ((cq_gi 6 8 20 (v158) T154).bind fun v160 => ((cq_p 6 8 20 (v158) (xwr ((v160) + (1))) T154).bind fun T163 => (some (.inr (), T163)))))))))))))))
theorem c45_288t_e (f : Nat) (x0 : Nat) (x2 : Int) (x3 : Int) (T : xT_) : c45_288 f x0 x2 x3 T = ((cq_is 4 20 (x0) T).bind fun _ => ((c37 f (x0) T).bind fun R109 => ((cq_gr 4 5 20 (x0) R109).bind fun v115 => ((cq_gr 6 14 20 (v115) R109).bind fun v117 => ((cq_gi 4 9 20 (x0) R109).bind fun v119 => ((cq_s 3 (v117) (xwr ((x2) + (1))) (v119) R109).bind fun T122 => ((cq_is 4 20 (x0) T122).bind fun _ => ((c53 f (x0) (0) T122).bind fun R126 => c45_288t f x0 x2 x3 R126)))))))) := rfl
def c45_177u (f : Nat) (x0 : Nat) (v169 : Int) (T197 : xT_) (v207 : Int) : Option ((Nat ⊕ Unit) × xT_) := (if (v207) = (61) then c45_288  f (x0) (xwr ((4) + (xwr ((2) * (v169))))) (v207) T197 else (if (v207) = (60) then c45_288  f (x0) (xwr ((4) + (xwr ((2) * (v169))))) (v207) T197 else (if (v207) = (62) then c45_288  f (x0) (xwr ((4) + (xwr ((2) * (v169))))) (v207) T197 else (if (v207) = (257) then c45_288  f (x0) (xwr ((4) + (xwr ((2) * (v169))))) (v207) T197 else (if (v207) = (258) then c45_288  f (x0) (xwr ((4) + (xwr ((2) * (v169))))) (v207) T197 else (if (v207) = (259) then c45_288  f (x0) (xwr ((4) + (xwr ((2) * (v169))))) (v207) T197 else ((cq_gr 4 0 20 (x0) T197).bind fun v215 => ((cq_gr 8 4 8 (v215) T197).bind fun v217 => ((cq_gi 4 1 20 (x0) T197).bind fun v219 => ((cq_a 3 (v217) (v219) T197).bind fun v221 => ((cq_is 4 20 (x0) T197).bind fun _ => ((c36 f (x0) (v221) T197).bind fun R223 => cth R223 (fun _ => c45_288  f (x0) (xwr ((4) + (xwr ((2) * (v169))))) (v207) R223.2)))))))))))))
theorem c45_177u_e (f : Nat) (x0 : Nat) (v169 : Int) (R182 : ((Nat ⊕ Unit) × xT_)) : c45_177t f x0 v169 R182 = cth R182 (fun _ => ((cq_gr 4 5 20 (x0) R182.2).bind fun v190 => ((cq_gr 6 15 20 (v190) R182.2).bind fun v192 => ((cq_gi 4 9 20 (x0) R182.2).bind fun v194 => ((cq_s 3 (v192) (xwr ((4) + (xwr ((2) * (v169))))) (v194) R182.2).bind fun T197 => ((cq_gr 4 0 20 (x0) T197).bind fun v201 => ((cq_gr 8 3 8 (v201) T197).bind fun v203 => ((cq_gi 4 1 20 (x0) T197).bind fun v205 => ((cq_a 3 (v203) (v205) T197).bind fun v207 => c45_177u f x0 v169 T197 v207))))))))) := rfl
def c45_177w (f : Nat) (x0 : Nat) (v169 : Int) (v207 : Int) (R223 : ((Nat ⊕ Unit) × xT_)) : Option ((Nat ⊕ Unit) × xT_) := cth R223 (fun _ => c45_288  f (x0) (xwr ((4) + (xwr ((2) * (v169))))) (v207) R223.2)
theorem c45_177w_e (f : Nat) (x0 : Nat) (v169 : Int) (T197 : xT_) (v207 : Int) : c45_177u f x0 v169 T197 v207 = (if (v207) = (61) then c45_288  f (x0) (xwr ((4) + (xwr ((2) * (v169))))) (v207) T197 else (if (v207) = (60) then c45_288  f (x0) (xwr ((4) + (xwr ((2) * (v169))))) (v207) T197 else (if (v207) = (62) then c45_288  f (x0) (xwr ((4) + (xwr ((2) * (v169))))) (v207) T197 else (if (v207) = (257) then c45_288  f (x0) (xwr ((4) + (xwr ((2) * (v169))))) (v207) T197 else (if (v207) = (258) then c45_288  f (x0) (xwr ((4) + (xwr ((2) * (v169))))) (v207) T197 else (if (v207) = (259) then c45_288  f (x0) (xwr ((4) + (xwr ((2) * (v169))))) (v207) T197 else ((cq_gr 4 0 20 (x0) T197).bind fun v215 => ((cq_gr 8 4 8 (v215) T197).bind fun v217 => ((cq_gi 4 1 20 (x0) T197).bind fun v219 => ((cq_a 3 (v217) (v219) T197).bind fun v221 => ((cq_is 4 20 (x0) T197).bind fun _ => ((c36 f (x0) (v221) T197).bind fun R223 => c45_177w f x0 v169 v207 R223)))))))))))) := rfl
section
variable {f n N w i i' u q l F : Nat} {S : Nat → Nat × Nat × Nat} {G G' G'' : xG_} {m : Nat × Nat} {B : Nat → Int} {t : tStr} {V V' : List (Int × Nat)} {K K' : pCd} {L L' : List Int} {tell : Bool} {M : List pMn} {s : pRs}
def xFc (u sl l : Nat) (G G' : xG_) : Prop := ∀ a j, ¬ (a = 72 ∧ (j = 1 ∨ j = 2 ∨ j = 9 ∨ j = 12)) → ¬ (73 ≤ a ∧ a ≤ 77) → ¬ (a = u ∧ (j = 6 ∨ j = 8)) → a ≠ u + 1 → ¬ (a = u + 2 ∧ j = l) → ¬ ((a = u + 7 ∨ a = u + 8) ∧ j = sl) → G' a j = G a j
theorem xFs.c {sl : Nat} (h : xFs u sl G G') : xFc u sl l G G' := fun a j p1 p2 p3 p4 p5 p6 => h a j p1 p2 (by omega) p4 p6
theorem xFs.ca {sl : Nat} {v : Int} (h : xFs u sl (xup2 G 72 1 v) G') : xFc u sl l G G' := fun a j z1 z2 z3 z4 z5 z6 => by
  rw [h a j z1 z2 (fun y => z3 ⟨y.1, .inl y.2⟩) z4 z6, xup2_n (fun y => z1 ⟨y.1, .inl y.2⟩)]
theorem xFs.cb {sl : Nat} {v sg v' : Int} (h : xFs u sl (xup2 G 72 1 v) G') : xFc u sl l G (xup2 (xup2 G' (u + 2) l sg) u 8 v') := fun a j z1 z2 z3 z4 z5 z6 => by
  rw [xup2_n (fun y => z3 ⟨y.1, .inr y.2⟩), xup2_n z5, h a j z1 z2 (fun y => z3 ⟨y.1, .inl y.2⟩) z4 z6, xup2_n (fun y => z1 ⟨y.1, .inl y.2⟩)]
theorem xFs.u8 {sl : Nat} {v : Int} (hu : 278 < u) (h : xFs u sl (xup2 G 72 1 v) G') : G' u 8 = G u 8 := by
  rw [h u 8 (by omega) (by omega) (by omega) (by omega) (by omega), xup2_n (by omega)]
theorem cXr.k288 {sg v : Int} (h : cXr S G B n t N w u V K i) : cXr S (xup2 (xup2 G (u + 2) l sg) u 8 v) B n t N w u V K i := by
  have hu := h.2.2.2.1.2.1
  have h1 : cXr S (xup2 G (u + 2) l sg) B n t N w u V K i := h.st1 (by omega) (by omega) (by omega)
  exact h1.st1 (by omega) (by omega) (by omega)
theorem cSg.k288 {sg v : Int} {sl : Nat} {E : pCd} (h : cSg G u K sl E) : cSg (xup2 (xup2 G (u + 2) l sg) u 8 v) u K sl E := by
  have := cSg.ge (D := []) (G' := xup2 (xup2 G (u + 2) l sg) u 8 v) h (by rw [xup2_n (by omega), xup2_n (by omega)]) (by rw [xup2_n (by omega), xup2_n (by omega)])
  rw [List.append_nil] at this
  exact this
theorem k288_s {sg v : Int} : xup2 (xup2 G (u + 2) l sg) u 8 v (u + 2) l = sg := by rw [xup2_n (by omega), xup2_s]
theorem st_288 {sg lK : Int} {G1 : xG_} (hs : cSs S) (hl : l < 8) (u2 : 278 < u) (us : S u = (1, 6, 20)) (us7 : S (u + 7) = (2, 3, 20)) (d1 : c37 f 72 (S, G, m) = some (S, G1, m)) (u1 : G1 72 5 = (u : Int)) (w14 : G1 u 14 = ((u + 7 : Nat) : Int)) (h9 : G1 72 9 = lK) (el : xwr (((4 + 2 * l : Nat) : Int) + 1) = ((5 + 2 * l : Nat) : Int)) : c45_288 f 72 ((4 + 2 * l : Nat) : Int) sg (S, G, m) = ((c53 f 72 0 (S, xup2 G1 (u + 7) (5 + 2 * l) lK, m)).bind fun R => c45_288t f 72 ((4 + 2 * l : Nat) : Int) sg R) := by
  rw [c45_288t_e]
  simp (disch := omega) only [cq_gi, cq_gr, cq_a, cq_s, cq_p, cq_pr, cq_is, cq_ar, cq_ab, cq_ln, xq_nz, Option.bind_some, xup2_n, xup2_s, Int.toNat_natCast, Int.reduceToNat, if_pos, if_neg, true_and, and_true, and_self, eq_self, if_true, reduceIte, not_true_eq_false, not_false_eq_true, or_true, true_or, s72 hs, us, us7, d1, u1, w14, h9, el]
theorem st_288t {sg lK : Int} {G1 : xG_} (hs : cSs S) (hl : l < 8) (u2 : 278 < u) (us : S u = (1, 6, 20)) (us2 : S (u + 2) = (2, 3, 8)) (us8 : S (u + 8) = (2, 3, 20)) (a3 : G1 72 9 = lK) (a4 : G1 72 5 = (u : Int)) (v9 : G1 u 9 = ((u + 2 : Nat) : Int)) (v15 : G1 u 15 = ((u + 8 : Nat) : Int)) (q8 : G1 u 8 = (l : Int)) (el : xwr (((4 + 2 * l : Nat) : Int) + 1) = ((5 + 2 * l : Nat) : Int)) (el1 : xwr ((l : Int) + 1) = ((l + 1 : Nat) : Int)) : c45_288t f 72 ((4 + 2 * l : Nat) : Int) sg (.inr (), (S, G1, m)) = some (.inr (), (S, xup2 (xup2 (xup2 G1 (u + 8) (5 + 2 * l) lK) (u + 2) l sg) u 8 ((l + 1 : Nat) : Int), m)) := by
  unfold c45_288t
  simp (disch := omega) only [cq_gi, cq_gr, cq_a, cq_s, cq_p, cq_pr, cq_is, cq_ar, cq_ab, cq_ln, xq_nz, Option.bind_some, xup2_n, xup2_s, Int.toNat_natCast, Int.reduceToNat, if_pos, if_neg, true_and, and_true, and_self, eq_self, if_true, reduceIte, not_true_eq_false, not_false_eq_true, or_true, true_or, s72 hs, us, us2, us8, cth, a3, a4, v9, v15, q8, el, el1]
theorem st_177 {lK : Int} (hs : cSs S) (hl : l < 8) (u2 : 278 < u) (us : S u = (1, 6, 20)) (us7 : S (u + 7) = (2, 3, 20)) (u1 : G 72 5 = (u : Int)) (w14 : G u 14 = ((u + 7 : Nat) : Int)) (h9 : G 72 9 = lK) (hl8 : G u 8 = (l : Int)) (el : xwr (4 + xwr (2 * (l : Int))) = ((4 + 2 * l : Nat) : Int)) : c45_177 f 72 (S, G, m) = ((c53 f 72 0 (S, xup2 G (u + 7) (4 + 2 * l) lK, m)).bind fun R => c45_177t f 72 (l : Int) R) := by
  rw [c45_177t_e]
  simp (disch := omega) only [cq_gi, cq_gr, cq_a, cq_s, cq_p, cq_pr, cq_is, cq_ar, cq_ab, cq_ln, xq_nz, Option.bind_some, xup2_n, xup2_s, Int.toNat_natCast, Int.reduceToNat, if_pos, if_neg, true_and, and_true, and_self, eq_self, if_true, reduceIte, not_true_eq_false, not_false_eq_true, or_true, true_or, s72 hs, us, us7, u1, w14, h9, hl8, el]
theorem st_177t {lK k s' : Int} {G1 : xG_} {x : Nat} (hs : cSs S) (hl : l < 8) (hx : x ≤ 3000) (u2 : 278 < u) (us : S u = (1, 6, 20)) (us8 : S (u + 8) = (2, 3, 20)) (a3 : G1 72 9 = lK) (a4 : G1 72 5 = (u : Int)) (v15 : G1 u 15 = ((u + 8 : Nat) : Int)) (el : xwr (4 + xwr (2 * (l : Int))) = ((4 + 2 * l : Nat) : Int)) (p0 : G1 72 0 = 65) (p3 : G1 65 3 = 67) (p4 : G1 65 4 = 68) (k1 : G1 67 x = k) (k2 : G1 68 x = s') (k3 : G1 72 1 = (x : Int)) : c45_177t f 72 (l : Int) (.inr (), (S, G1, m)) = if k = 61 ∨ k = 60 ∨ k = 62 ∨ k = 257 ∨ k = 258 ∨ k = 259 then c45_288 f 72 ((4 + 2 * l : Nat) : Int) k (S, xup2 G1 (u + 8) (4 + 2 * l) lK, m) else some (.inl 0, cWr S (xup2 G1 (u + 8) (4 + 2 * l) lK) m s') := by
  have e : c45_177t f 72 (l : Int) (.inr (), (S, G1, m)) = c45_177u f 72 (l : Int) (S, xup2 G1 (u + 8) (4 + 2 * l) lK, m) k := by
    rw [c45_177u_e]
    simp (disch := omega) only [cq_gi, cq_gr, cq_a, cq_s, cq_p, cq_pr, cq_is, cq_ar, cq_ab, cq_ln, xq_nz, Option.bind_some, xup2_n, xup2_s, Int.toNat_natCast, Int.reduceToNat, if_pos, if_neg, true_and, and_true, and_self, eq_self, if_true, reduceIte, not_true_eq_false, not_false_eq_true, or_true, true_or, s72 hs, s65 hs, s67 hs, us, us8, el, cth, a3, a4, v15, p0, p3, k1, k3]
  have e' : ((cq_gr 4 0 20 72 (S, xup2 G1 (u + 8) (4 + 2 * l) lK, m)).bind fun v215 => ((cq_gr 8 4 8 (v215) (S, xup2 G1 (u + 8) (4 + 2 * l) lK, m)).bind fun v217 => ((cq_gi 4 1 20 72 (S, xup2 G1 (u + 8) (4 + 2 * l) lK, m)).bind fun v219 => ((cq_a 3 (v217) (v219) (S, xup2 G1 (u + 8) (4 + 2 * l) lK, m)).bind fun v221 => ((cq_is 4 20 72 (S, xup2 G1 (u + 8) (4 + 2 * l) lK, m)).bind fun _ => ((c36 f 72 (v221) (S, xup2 G1 (u + 8) (4 + 2 * l) lK, m)).bind fun R223 => c45_177w f 72 (l : Int) k R223)))))) = some (.inl 0, cWr S (xup2 G1 (u + 8) (4 + 2 * l) lK) m s') := by
    simp (disch := omega) only [cq_gi, cq_gr, cq_a, cq_s, cq_p, cq_pr, cq_is, cq_ar, cq_ab, cq_ln, xq_nz, Option.bind_some, xup2_n, xup2_s, Int.toNat_natCast, Int.reduceToNat, if_pos, if_neg, true_and, and_true, and_self, eq_self, if_true, reduceIte, not_true_eq_false, not_false_eq_true, or_true, true_or, s72 hs, s65 hs, s68 hs, p0, p4, k2, k3, k_36 hs]
    rfl
  rw [e, c45_177w_e, el, e']
  by_cases c1 : k = 61
  · rw [if_pos c1, if_pos (.inl c1)]
  rw [if_neg c1]
  by_cases c2 : k = 60
  · rw [if_pos c2, if_pos (.inr (.inl c2))]
  rw [if_neg c2]
  by_cases c3 : k = 62
  · rw [if_pos c3, if_pos (.inr (.inr (.inl c3)))]
  rw [if_neg c3]
  by_cases c4 : k = 257
  · rw [if_pos c4, if_pos (.inr (.inr (.inr (.inl c4))))]
  rw [if_neg c4]
  by_cases c5 : k = 258
  · rw [if_pos c5, if_pos (.inr (.inr (.inr (.inr (.inl c5)))))]
  rw [if_neg c5]
  by_cases c6 : k = 259
  · rw [if_pos c6, if_pos (.inr (.inr (.inr (.inr (.inr c6)))))]
  rw [if_neg c6, if_neg (by omega)]
theorem k177_tk {G1 : xG_} {a sl : Nat} {v : Int} (ha : 278 < a) (hX : cXr S (xup2 G1 a sl v) B n t N w u V K i) : G1 67 (min i N) = kK t i ∧ G1 68 (min i N) = (kS t i : Int) ∧ G1 72 1 = ((min i N : Nat) : Int) ∧ min i N ≤ 3000 ∧ G1 72 0 = 65 ∧ G1 65 3 = 67 ∧ G1 65 4 = 68 := by
  obtain ⟨k1, k2, k3, k4⟩ := hX.1.tk hX.2.1
  have z : ∀ b j, b < 279 → xup2 G1 a sl v b j = G1 b j := fun b j hb => xup2_n (by omega)
  have p0 := p72_0 hX.1.2.1
  have p3 := p65_3 hX.1.2.1
  have p4 := p65_4 hX.1.2.1
  rw [z _ _ (by decide)] at k1 k2 k3 p0 p3 p4
  exact ⟨k1, k2, k3, k4, p0, p3, p4⟩
theorem k_288 {sg : Int} {i0 : Nat} (hf : 3010 < f) (hok : tOk t) (hvi : vIn t B n) (hF : 4 * N + 2 ≤ F) (h : cXr S G B n t N w u V K i) (hK : K.length + i0 ≤ i) (hl : l < 8) (hl8 : G u 8 = (l : Int)) (h0 : kK t i ≠ 0) (h5 : kK t i ≠ 5) :
    pok (pX t F 1 0 (V, [], i + 1)) (fun x => ∃ G', c45_288 f 72 ((4 + 2 * l : Nat) : Int) sg (S, G, m) = some (.inl 0, cWr S G' m (x : Int)) ∧ xFc u (5 + 2 * l) l G G')
      (fun e => ∃ G', c45_288 f 72 ((4 + 2 * l : Nat) : Int) sg (S, G, m) = some (.inr (), (S, G', m)) ∧ xFc u (5 + 2 * l) l G G' ∧ cXr S G' B n t N w u e.1 (K ++ e.2.1.map cOp) e.2.2 ∧ i < e.2.2 ∧ (K ++ e.2.1.map cOp).length + i0 ≤ e.2.2 ∧ cSg G' u (K ++ e.2.1.map cOp) (5 + 2 * l) e.2.1 ∧ G' (u + 2) l = sg ∧ G' u 8 = ((l + 1 : Nat) : Int)) := by
  have hs := h.1.1
  obtain ⟨u1, u2, ⟨us, us1, us2, us3, us4, us5, us6, us7, us8, _⟩, w7, w9, w10, w11, w12, w13, w14, w15, _⟩ := h.2.2.2.1
  obtain ⟨l1, l2⟩ := h.1.lt h.2.1 h0
  obtain ⟨d1, d2⟩ := k_37 (f := f) (m := m) h.1 h.2.1 h5
  obtain ⟨y1, y2⟩ := h.at d2 (by omega)
  have h9 := h.2.2.2.2.2.2.1
  have el : xwr (((4 + 2 * l : Nat) : Int) + 1) = ((5 + 2 * l : Nat) : Int) := by rw [xwr_g _ (by omega) (by omega)]; omega
  have el1 : xwr ((l : Int) + 1) = ((l + 1 : Nat) : Int) := by rw [xwr_g _ (by omega) (by omega)]; omega
  have p := k_seg (f := f) (m := m) (F := F) (sl := 5 + 2 * l) (i0 := i0) hf hok hvi hF y2 (by omega)
  have e0 := st_288 (f := f) (m := m) (sg := sg) hs hl u2 us us7 d1 y2.2.2.2.1.1 y2.2.2.2.1.2.2.2.2.2.2.2.2.2.1 y2.2.2.2.2.2.2.1 el
  cases hp : pX t F 1 0 (V, [], i + 1) with
  | inl x =>
    rw [hp] at p
    obtain ⟨G1, a1, a2⟩ := p
    refine ⟨G1, ?_, a2.ca⟩
    rw [e0, a1]
    rfl
  | inr e =>
    rw [hp] at p
    obtain ⟨G1, a1, a3, a4, a5, a6, a7, a8, a9, a10, a11⟩ := p
    have q8 : G1 u 8 = (l : Int) := by rw [a6.u8 u2]; exact hl8
    obtain ⟨_, v9, _, _, _, _, _, v15, _⟩ := a5
    have e1 := st_288t (f := f) (m := m) (sg := sg) hs hl u2 us us2 us8 a3 a4 v9 v15 q8 el el1
    exact ⟨_, by rw [e0, a1]; exact e1, a9.cb, a10.k288, by omega, a8, a11.k288, k288_s, xup2_s _ _ _ _⟩
theorem cPr0.fc {sl : Nat} (h : cPr0 S G q tell L) (hx : xFc u sl l G G') (hqu : q + 10 < u) : cPr0 S G' q tell L := by
  have hq := h.2.1
  exact h.ge (hx _ _ (by omega) (by omega) (by omega) (by omega) (by omega) (by omega)) (hx _ _ (by omega) (by omega) (by omega) (by omega) (by omega) (by omega)) (fun j _ _ _ => hx _ _ (by omega) (by omega) (by omega) (by omega) (by omega) (by omega)) (fun j => hx _ _ (by omega) (by omega) (by omega) (by omega) (by omega) (by omega))
theorem cWd.fc {sl : Nat} (h : cWd G q M) (hx : xFc u sl l G G') (hq : 82 < q) (hqu : q + 10 < u) : cWd G' q M := h.ge (fun j => hx _ _ (by omega) (by omega) (by omega) (by omega) (by omega) (by omega))
theorem cMe.fc {sl : Nat} (h : cMe G M) (hx : xFc u sl l G G') (hu : 278 < u) : cMe G' M := h.ge (hx _ _ (by omega) (by omega) (by omega) (by omega) (by omega) (by omega)) (fun a k z1 z2 => hx _ _ (by omega) (by omega) (by omega) (by omega) (by omega) (by omega))
theorem xFc.f2 {sl : Nat} (h : xFc u sl l G G') (h4 : 4 ≤ sl) : xF2 tell q u G G' := fun a j p1 p2 p3 p4 p5 p6 => h a j (by omega) (by omega) (by omega) (by omega) (by omega) (by omega)
def cSgn (x : Int) : Prop := x = 61 ∨ x = 257 ∨ x = 60 ∨ x = 258 ∨ x = 62 ∨ x = 259
/-- the first side and the sign -/
theorem k_177 {i0 : Nat} (hf : 3010 < f) (hok : tOk t) (hvi : vIn t B n) (hF : 4 * N + 2 ≤ F) (h : cXr S G B n t N w u V K i) (hK : K.length + i0 ≤ i) (hl : l < 8) (hl8 : G u 8 = (l : Int)) :
    pok (pX t F 1 0 (V, [], i)) (fun x => ∃ G', c45_177 f 72 (S, G, m) = some (.inl 0, cWr S G' m (x : Int)) ∧ xFs u (4 + 2 * l) G G')
      (fun e => ∃ G', (cSgn (kK t e.2.2) → c45_177 f 72 (S, G, m) = c45_288 f 72 ((4 + 2 * l : Nat) : Int) (kK t e.2.2) (S, G', m)) ∧ (¬ cSgn (kK t e.2.2) → c45_177 f 72 (S, G, m) = some (.inl 0, cWr S G' m (kS t e.2.2 : Int))) ∧ xFs u (4 + 2 * l) G G' ∧ cXr S G' B n t N w u e.1 (K ++ e.2.1.map cOp) e.2.2 ∧ i < e.2.2 ∧ (K ++ e.2.1.map cOp).length + i0 ≤ e.2.2 ∧ cSg G' u (K ++ e.2.1.map cOp) (4 + 2 * l) e.2.1) := by
  have hs := h.1.1
  have hpp := h.1.2.1
  obtain ⟨u1, u2, ⟨us, us1, us2, us3, us4, us5, us6, us7, us8, _⟩, w7, w9, w10, w11, w12, w13, w14, w15, _⟩ := h.2.2.2.1
  have h9 := h.2.2.2.2.2.2.1
  have el : xwr (4 + xwr (2 * (l : Int))) = ((4 + 2 * l : Nat) : Int) := by rw [xwr_g (2 * (l : Int)) (by omega) (by omega), xwr_g _ (by omega) (by omega)]; omega
  have p := k_seg (f := f) (m := m) (F := F) (sl := 4 + 2 * l) hf hok hvi hF h hK
  have e0 := st_177 (f := f) (m := m) hs hl u2 us us7 u1 w14 h9 hl8 el
  cases hp : pX t F 1 0 (V, [], i) with
  | inl x =>
    rw [hp] at p
    obtain ⟨G1, a1, a2⟩ := p
    refine ⟨G1, ?_, a2⟩
    rw [e0, a1]
    rfl
  | inr e =>
    rw [hp] at p
    obtain ⟨G1, a1, a3, a4, a5, a6, a7, a8, a9, a10, a11⟩ := p
    obtain ⟨_, v9, _, _, _, _, _, v15, _⟩ := a5
    obtain ⟨k1, k2, k3, k4, p0, p3, p4⟩ := k177_tk (Nat.lt_add_right 8 u2) a10
    have e1 := st_177t (f := f) (m := m) hs hl k4 u2 us us8 a3 a4 v15 el p0 p3 p4 k1 k2 k3
    have e2 : c45_177 f 72 (S, G, m) = c45_177t f 72 (l : Int) (.inr (), (S, G1, m)) := by rw [e0, a1]; rfl
    refine ⟨_, fun c => ?_, fun c => ?_, a9, a10, a7, a8, a11⟩
    · unfold cSgn at c
      rw [e2, e1, if_pos (by clear e0 e1 e2 a1; omega)]
    · unfold cSgn at c
      rw [e2, e1, if_neg (by clear e0 e1 e2 a1; omega)]
end
