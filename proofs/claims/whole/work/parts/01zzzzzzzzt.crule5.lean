/-! THE CLASS reads rules: the end of one -/
def c43_208t (f : Nat) (x0 : Nat) (R101 : ((Nat ⊕ Unit) × xT_)) : Option ((Nat ⊕ Unit) × xT_) := cth R101 (fun _ => ((cq_gr 4 5 20 (x0) R101.2).bind fun v109 => ((cq_gr 4 7 20 (x0) R101.2).bind fun v111 => ((cq_gr 4 8 20 (x0) R101.2).bind fun v113 => ((cq_gi 4 9 20 (x0) R101.2).bind fun v115 => ((cq_is 6 20 (v109) R101.2).bind fun _ => ((c88 f (v109) (v111) (v113) (v115) R101.2).bind fun R117 => ((cq_gr 4 3 20 (x0) R117).bind fun v123 => ((cq_gr 3 9 14 (v123) R117).bind fun v125 => ((cq_gr 4 3 20 (x0) R117).bind fun v127 => ((cq_gi 3 8 14 (v127) R117).bind fun v129 => ((cq_gr 4 5 20 (x0) R117).bind fun v131 => ((cq_sr (v125) (v129) (v131) R117).bind fun T134 => ((cq_gr 4 3 20 (x0) T134).bind fun v138 => ((cq_gi 3 8 14 (v138) T134).bind fun v140 => ((cq_p 3 8 14 (v138) (xwr ((v140) + (1))) T134).bind fun T143 => (some (.inr (), T143))))))))))))))))))
theorem c43_208t_e (f : Nat) (x0 : Nat) (T : xT_) : c43_208 f x0 T = ((cq_is 4 20 (x0) T).bind fun _ => ((c38 f (x0) (46) T).bind fun R101 => c43_208t f x0 R101)) := rfl
def c43_208u (f : Nat) (x0 : Nat) (R117 : (xT_)) : Option ((Nat ⊕ Unit) × xT_) := ((cq_gr 4 3 20 (x0) R117).bind fun v123 => ((cq_gr 3 9 14 (v123) R117).bind fun v125 => ((cq_gr 4 3 20 (x0) R117).bind fun v127 => ((cq_gi 3 8 14 (v127) R117).bind fun v129 => ((cq_gr 4 5 20 (x0) R117).bind fun v131 => ((cq_sr (v125) (v129) (v131) R117).bind fun T134 => ((cq_gr 4 3 20 (x0) T134).bind fun v138 => ((cq_gi 3 8 14 (v138) T134).bind fun v140 => ((cq_p 3 8 14 (v138) (xwr ((v140) + (1))) T134).bind fun T143 => (some (.inr (), T143)))))))))))
theorem c43_208u_e (f : Nat) (x0 : Nat) (R101 : ((Nat ⊕ Unit) × xT_)) : c43_208t f x0 R101 = cth R101 (fun _ => ((cq_gr 4 5 20 (x0) R101.2).bind fun v109 => ((cq_gr 4 7 20 (x0) R101.2).bind fun v111 => ((cq_gr 4 8 20 (x0) R101.2).bind fun v113 => ((cq_gi 4 9 20 (x0) R101.2).bind fun v115 => ((cq_is 6 20 (v109) R101.2).bind fun _ => ((c88 f (v109) (v111) (v113) (v115) R101.2).bind fun R117 => c43_208u f x0 R117))))))) := rfl
/-- the rules of a program, below nx -/
def cRl (S : Nat → Nat × Nat × Nat) (G : xG_) (q nx : Nat) (R : List pRu) : Prop := G q 8 = (R.length : Int) ∧ R.length ≤ 24 ∧ ∀ r, r < R.length → ∃ u : Nat, G (q + 7) r = (u : Int) ∧ q + 10 < u ∧ u + 12 < nx ∧ cRul S G u (R.getD r dRu).2.2.2.2.1 (R.getD r dRu).2.2.1 (R.getD r dRu).2.2.2.1 (R.getD r dRu).2.2.2.2.2 ∧ G u 0 = (R.getD r dRu).1 ∧ G u 1 = ((R.getD r dRu).2.1 : Int)
section
variable {f n N w i i' u q l F i0 sl p nx nx' : Nat} {S S' : Nat → Nat × Nat × Nat} {G G1 G2 G' G'' : xG_} {m : Nat × Nat} {B : Nat → Int} {t : tStr} {V V' : List (Int × Nat)} {K K' : pCd} {tell : Bool} {M : List pMn} {g : Int × Int × Int} {I : List pCd} {Ls : List pLt} {R : List pRu} {s : pRs} {hd : Int} {pl : Nat}
theorem cPl.ge {nv a : Nat} (h : cPl G u nv Ls a) (h0 : ∀ b j, u + 9 ≤ b → b ≤ u + 10 → G' b j = G b j) : cPl G' u nv Ls a := by
  obtain ⟨pl, p1, p2, p3⟩ := h
  exact ⟨pl, p1, fun k hk => by rw [h0 _ _ (by omega) (by omega), h0 _ _ (by omega) (by omega)]; exact p2 k hk, p3⟩
theorem cRul.ge (h : cRul S G u V g I Ls) (hS : ∀ a, u ≤ a → a ≤ u + 12 → S' a = S a) (hG : ∀ a j, u ≤ a → a ≤ u + 12 → G' a j = G a j) : cRul S' G' u V g I Ls := by
  obtain ⟨K, ⟨a1, a2, ⟨k1, k2, k3, k4, k5⟩, a4, a5, a6⟩, b2, b3, b4, b5, b6⟩ := h
  refine ⟨K, ⟨?_, a2.ge (fun j _ _ => hG u j (by omega) (by omega)), ⟨by rw [hG _ _ (by omega) (by omega)]; exact k1, by rw [hG _ _ (by omega) (by omega)]; exact k2, by rw [hS _ (by omega) (by omega)]; exact k3, by rw [hS _ (by omega) (by omega)]; exact k4, fun k hk => by rw [hG _ _ (by omega) (by omega), hG _ _ (by omega) (by omega)]; exact k5 k hk⟩, a4.rule (hG _ _ (by omega) (by omega)) (fun a j _ _ => hG a j (by omega) (by omega)), a5, a6⟩, b2.rule (fun j _ _ => hG u j (by omega) (by omega)) (fun a j _ _ => hG a j (by omega) (by omega)), b3.ge (fun b j _ _ => hG b j (by omega) (by omega)), by rw [hG _ _ (by omega) (by omega)]; exact b4, b5, fun v hv => by rw [hG _ _ (by omega) (by omega)]; exact b6 v hv⟩
  unfold cRuS at a1 ⊢
  rw [hS u (by omega) (by omega), hS (u + 1) (by omega) (by omega), hS (u + 2) (by omega) (by omega), hS (u + 3) (by omega) (by omega), hS (u + 4) (by omega) (by omega), hS (u + 5) (by omega) (by omega), hS (u + 6) (by omega) (by omega), hS (u + 7) (by omega) (by omega), hS (u + 8) (by omega) (by omega), hS (u + 9) (by omega) (by omega), hS (u + 10) (by omega) (by omega)]
  exact a1
/-- the rules stay -/
theorem cRl.ge (h : cRl S G q nx R) (hn : nx ≤ nx') (h8 : G' q 8 = G q 8) (h7 : ∀ j, j < R.length → G' (q + 7) j = G (q + 7) j) (hS : ∀ a, a < nx → S' a = S a) (hG : ∀ a j, q + 10 < a → a < nx → G' a j = G a j) : cRl S' G' q nx' R := by
  refine ⟨by rw [h8]; exact h.1, h.2.1, fun r hr => ?_⟩
  obtain ⟨u, u1, u2, u3, u4, u5, u6⟩ := h.2.2 r hr
  exact ⟨u, by rw [h7 r hr]; exact u1, u2, by omega, u4.ge (fun a _ _ => hS a (by omega)) (fun a j _ _ => hG a j (by omega) (by omega)), by rw [hG u 0 (by omega) (by omega)]; exact u5, by rw [hG u 1 (by omega) (by omega)]; exact u6⟩
theorem st_208 {Rr : (Nat ⊕ Unit) × xT_} (hs : cSs S) (e : c38 f 72 46 (S, G, m) = some Rr) : c43_208 f 72 (S, G, m) = c43_208t f 72 Rr := by
  rw [c43_208t_e]
  simp (disch := omega) only [cq_gi, cq_gr, cq_a, cq_s, cq_p, cq_pr, cq_is, cq_ar, cq_ab, cq_ln, xq_nz, Option.bind_some, xup2_n, xup2_s, Int.toNat_natCast, Int.reduceToNat, if_pos, if_neg, true_and, and_true, and_self, eq_self, if_true, reduceIte, not_true_eq_false, not_false_eq_true, or_true, true_or, s72 hs, e]
theorem st_208t {T : xT_} {kl : Nat} (hs : cSs S) (hp : cPs G) (us : S u = (1, 6, 20)) (u1 : G 72 5 = (u : Int)) (h9 : G 72 9 = (kl : Int)) (e : c88 f u 73 74 (kl : Int) (S, G, m) = some T) : c43_208t f 72 (.inr (), (S, G, m)) = c43_208u f 72 T := by
  rw [c43_208u_e]
  simp (disch := omega) only [cq_gi, cq_gr, cq_a, cq_s, cq_p, cq_pr, cq_is, cq_ar, cq_ab, cq_ln, xq_nz, Option.bind_some, xup2_n, xup2_s, Int.toNat_natCast, Int.reduceToNat, if_pos, if_neg, true_and, and_true, and_self, eq_self, if_true, reduceIte, not_true_eq_false, not_false_eq_true, or_true, true_or, s72 hs, us, u1, p72_7 hp, p72_8 hp, h9, e, cth]
theorem st_208u {r : Nat} (hr : r < 24) (s72' : S 72 = (1, 4, 20)) (u2 : 278 < u) (hq : 82 < q) (hqu : q + 10 < u) (us : S u = (1, 6, 20)) (qs : S q = (1, 3, 14)) (q7 : S (q + 7) = (2, 11, 24)) (u1 : G 72 5 = (u : Int)) (h3 : G 72 3 = (q : Int)) (w9 : G q 9 = ((q + 7 : Nat) : Int)) (h8 : G q 8 = (r : Int)) (er : xwr ((r : Int) + 1) = ((r + 1 : Nat) : Int)) : c43_208u f 72 (S, G, m) = some (.inr (), (S, xup2 (xup2 G (q + 7) r (u : Int)) q 8 ((r + 1 : Nat) : Int), m)) := by
  have esr : cq_sr (q + 7) (r : Int) u (S, G, m) = some (S, xup2 G (q + 7) r (u : Int), m) := by
    unfold cq_sr
    show (if (S (q + 7)).1 = 2 ∧ 5 ≤ (S (q + 7)).2.1 ∧ 0 ≤ (r : Int) ∧ (r : Int) < (((S (q + 7)).2.2 : Nat) : Int) ∧ (u = 0 ∨ (S u).1 = 1 ∧ (S (q + 7)).2.1 = (S u).2.1 + 5) then some (S, xup2 G (q + 7) (r : Int).toNat (u : Int), m) else none) = _
    rw [q7, us, if_pos ⟨rfl, by decide, by omega, by show (r : Int) < 24; omega, .inr ⟨rfl, rfl⟩⟩, Int.toNat_natCast]
  unfold c43_208u
  simp (disch := omega) only [cq_gi, cq_gr, cq_a, cq_s, cq_p, cq_pr, cq_is, cq_ar, cq_ab, cq_ln, xq_nz, Option.bind_some, xup2_n, xup2_s, Int.toNat_natCast, Int.reduceToNat, if_pos, if_neg, true_and, and_true, and_self, eq_self, if_true, reduceIte, not_true_eq_false, not_false_eq_true, or_true, true_or, s72', us, qs, u1, h3, w9, h8, er, esr]
theorem k_208 (hf : 3010 < f) (h : cRL S G B n t N w q u true s K i0) (hI : cIt G u K g I) (hz : ∀ k, k < 8 → G (u + 9) k = 0) (h0 : G u 0 = hd) (h1 : G u 1 = (pl : Int)) (hR : cRl S G q u R) (hR24 : R.length < 24) (hwf : ∀ j, pNeed t 46 s.2.2.2.2 = .inr j → (∀ y ∈ s.2.2.1, wLv s.2.1.length y) ∧ (∀ E ∈ I, wC s.2.1.length E) ∧ (g.1 = 0 ∨ g.1 = 10 ∨ 0 ≤ g.2.2 ∧ g.2.2 < s.2.1.length)) :
    pok (pNeed t 46 s.2.2.2.2) (fun x => c43_208 f 72 (S, G, (u + 11, sl)) = some (.inl 0, cWr S G (u + 11, sl) (x : Int)))
      (fun j => ∃ S' G', c43_208 f 72 (S, G, (u + 11, sl)) = some (.inr (), (S', G', (u + 13, sl + 2 * K.length))) ∧ j = s.2.2.2.2 + 1 ∧ j ≤ N ∧ cAt G' N w j ∧ (∀ a, a < u → S' a = S a) ∧ (∀ a k, a < u → ¬ (a = 72 ∧ k = 1) → ¬ (a = q ∧ k = 8) → ¬ (a = q + 7 ∧ k = R.length) → G' a k = G a k) ∧ cRl S' G' q (u + 13) (R ++ [(hd, pl, g, I, s.2.1, s.2.2.1)])) := by
  obtain ⟨g1, g2, g3, g4, g5, g6, g7, g8⟩ := h
  have hs := g1.1.1
  have hN := g1.1.2.2.2.1.2
  have hiN := g1.2.2.1
  obtain ⟨u1, u2, hrs, hrp⟩ := g1.2.2.2.1
  have p38 := k_38 (f := f) (m := (u + 11, sl)) (c := 46) (by decide) g1.1 g1.2.1
  cases hn : pNeed t 46 s.2.2.2.2 with
  | inl x =>
    rw [hn] at p38
    show c43_208 f 72 (S, G, (u + 11, sl)) = _
    rw [st_208 hs p38]
    rfl
  | inr j =>
    rw [hn] at p38
    obtain ⟨a1, a2, a3, a4⟩ := p38
    obtain ⟨w1, w2, w3⟩ := hwf j hn
    have hlt := (g1.1.lt g1.2.1 (by omega)).1
    obtain ⟨b1, b2⟩ := g1.at a4 (by omega)
    obtain ⟨G1, hG1⟩ : ∃ G1, G1 = xup2 G 72 1 ((min j N : Nat) : Int) := ⟨_, rfl⟩
    rw [← hG1] at a1 a4 b2
    have zG1 : ∀ a k, ¬ (a = 72 ∧ k = 1) → G1 a k = G a k := fun a k z => by rw [hG1, xup2_n z]
    have hq82 := g2.2.1
    obtain ⟨S2, G2, e1, e2, e3, e4⟩ := k_88 (f := f) (sl := sl) (V := s.2.1) hf hs u2 hrs b2.2.2.2.1.2.2.2 (g6.rule (zG1 u 8 (by omega)) (fun a k _ _ => zG1 a k (by omega))) (hI.rule (fun k _ _ => zG1 u k (by omega)) (fun a k _ _ => zG1 a k (by omega))) b2.2.2.2.2.2.2 (by omega) ⟨b2.2.2.2.2.1.1, b2.2.2.2.2.1.2.1, fun v hv => (b2.2.2.2.2.1.2.2 v hv).2⟩ w1 w2 w3 (fun k hk => by rw [zG1 _ _ (by omega)]; exact hz k hk)
    have z2 : ∀ a k, a < u → ¬ (a = 72 ∧ k = 1) → G2 a k = G a k := fun a k z z' => by rw [e3 a k (by omega) (by omega) (by omega) (by omega), zG1 a k z']
    have us2 : S2 u = (1, 6, 20) := by rw [e2 u (by omega)]; exact hrs.1
    have s72' : S2 72 = (1, 4, 20) := by rw [e2 72 (by omega)]; exact s72 hs
    have er : xwr ((R.length : Int) + 1) = ((R.length + 1 : Nat) : Int) := by rw [xwr_g _ (by omega) (by omega)]; omega
    have e5 := st_208u (f := f) (G := G2) (m := (u + 13, sl + 2 * K.length)) hR24 s72' u2 hq82 g3 us2 (by rw [e2 q (by omega)]; exact g2.2.2.2.2.1.1) (by rw [e2 (q + 7) (by omega)]; exact g2.2.2.2.2.1.2.2.2.2.2.2.2.1) (by rw [z2 72 5 (by omega) (by omega)]; exact u1) (by rw [z2 72 3 (by omega) (by omega)]; exact g2.1) (by rw [z2 q 9 (by omega) (by omega)]; exact g2.2.2.2.2.2.1.2.2.2.2.2.2.1) (by rw [z2 q 8 (by omega) (by omega)]; exact hR.1) er
    have e6 := st_208t (f := f) (m := (u + 11, sl)) hs b2.1.2.1 hrs.1 b2.2.2.2.1.1 b2.2.2.2.2.2.2.1 e1
    have z3 : ∀ a k, ¬ (a = q ∧ k = 8) → ¬ (a = q + 7 ∧ k = R.length) → xup2 (xup2 G2 (q + 7) R.length (u : Int)) q 8 ((R.length + 1 : Nat) : Int) a k = G2 a k := fun a k z z' => by rw [xup2_n z, xup2_n z']
    refine ⟨S2, _, by rw [st_208 hs a1, e6, e5], a2, by omega, ?_, fun a ha => e2 a (by omega), fun a k y1 y2 y3 y4 => by rw [z3 a k y3 y4, z2 a k y1 y2], ?_⟩
    · refine ⟨?_, a4.2⟩
      rw [z3 72 1 (by omega) (by omega), e3 72 1 (by omega) (by omega) (by omega) (by omega)]
      exact a4.1
    · refine ⟨by rw [xup2_s, len1], by rw [len1]; omega, fun r hr => ?_⟩
      rw [len1] at hr
      rw [getD_1]
      by_cases cr : r = R.length
      · rw [if_pos cr, cr]
        refine ⟨u, by rw [xup2_n (by omega), xup2_s], g3, by omega, e4.ge (fun _ _ _ => rfl) (fun a k y1 y2 => z3 a k (by omega) (by omega)), ?_, ?_⟩
        · rw [z3 u 0 (by omega) (by omega), e3 u 0 (by omega) (by omega) (by omega) (by omega), zG1 u 0 (by omega)]; exact h0
        · rw [z3 u 1 (by omega) (by omega), e3 u 1 (by omega) (by omega) (by omega) (by omega), zG1 u 1 (by omega)]; exact h1
      · rw [if_neg cr]
        obtain ⟨v, v1, v2, v3, v4, v5, v6⟩ := hR.2.2 r (by omega)
        refine ⟨v, by rw [z3 _ _ (by omega) (by omega), z2 _ _ (by omega) (by omega)]; exact v1, v2, by omega, v4.ge (fun a _ _ => e2 a (by omega)) (fun a k y1 y2 => by rw [z3 a k (by omega) (by omega), z2 a k (by omega) (by omega)]), ?_, ?_⟩
        · rw [z3 v 0 (by omega) (by omega), z2 v 0 (by omega) (by omega)]; exact v5
        · rw [z3 v 1 (by omega) (by omega), z2 v 1 (by omega) (by omega)]; exact v6
end
