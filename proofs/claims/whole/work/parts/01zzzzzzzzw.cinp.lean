/-! THE CLASS reads inputs and outputs -/
def c41t (f : Nat) (a0 : Nat) (v153 : Int) (v169 : Int) (R179 : ((Nat ⊕ Int) × xT_)) : Option ((Nat ⊕ Unit) × xT_) := cth R179 (fun v185 => ((cq_gr 4 0 20 (a0) R179.2).bind fun v187 => ((cq_gr 8 3 8 (v187) R179.2).bind fun v189 => ((cq_gi 4 1 20 (a0) R179.2).bind fun v191 => ((cq_a 3 (v189) (v191) R179.2).bind fun v193 => (if ¬ (v193) = (8) then c41_72  f (a0) (v153) (v169) (v185) (0) R179.2 else ((cq_is 4 20 (a0) R179.2).bind fun _ => ((c37 f (a0) R179.2).bind fun R196 => ((cq_is 4 20 (a0) R196).bind fun _ => ((c50 f (a0) (xwr ((v185) - (1))) R196).bind fun R202 => cth R202 (fun v208 => c41_72  f (a0) (v153) (v169) (v185) (v208) R202.2)))))))))))
theorem c41t_e (f : Nat) (a0 : Nat) (T : xT_) : c41 f a0 T = ((cq_is 4 20 (a0) T).bind fun _ => ((c37 f (a0) T).bind fun R141 => ((cq_gr 4 0 20 (a0) R141).bind fun v147 => ((cq_gr 8 4 8 (v147) R141).bind fun v149 => ((cq_gi 4 1 20 (a0) R141).bind fun v151 => ((cq_a 3 (v149) (v151) R141).bind fun v153 => ((cq_is 4 20 (a0) R141).bind fun _ => ((c47 f (a0) R141).bind fun R155 => cth R155 (fun v161 => ((cq_is 4 20 (a0) R155.2).bind fun _ => ((c48 f (a0) (v161) (v153) R155.2).bind fun R163 => cth R163 (fun v169 => ((cq_is 4 20 (a0) R163.2).bind fun _ => ((c38 f (a0) (47) R163.2).bind fun R171 => cth R171 (fun _ => ((cq_is 4 20 (a0) R171.2).bind fun _ => ((c50 f (a0) (4) R171.2).bind fun R179 => c41t f a0 v153 v169 R179))))))))))))))))) := rfl
def c41_72t (f : Nat) (x0 : Nat) (x1 : Int) (x2 : Int) (x3 : Int) (x4 : Int) (R101 : ((Nat ⊕ Unit) × xT_)) : Option ((Nat ⊕ Unit) × xT_) := cth R101 (fun _ => ((cq_is 4 20 (x0) R101.2).bind fun _ => ((c40 f (x0) (6) (x2) (x1) (x3) R101.2).bind fun R109 => ((cq_gr 4 3 20 (x0) R109).bind fun v115 => ((cq_gr 3 5 14 (v115) R109).bind fun v117 => ((cq_sb (v117) (x2) (1) R109).bind fun T120 => ((cq_gr 4 3 20 (x0) T120).bind fun v124 => ((cq_gr 3 4 14 (v124) T120).bind fun v126 => ((cq_s 3 (v126) (x2) (x4) T120).bind fun T129 => ((cq_gr 4 3 20 (x0) T129).bind fun v133 => ((cq_is 3 14 (v133) T129).bind fun _ => ((c23 f (v133) (x2) (x3) T129).bind fun R135 => (some (.inr (), R135))))))))))))))
theorem c41_72t_e (f : Nat) (x0 : Nat) (x1 : Int) (x2 : Int) (x3 : Int) (x4 : Int) (T : xT_) : c41_72 f x0 x1 x2 x3 x4 T = ((cq_is 4 20 (x0) T).bind fun _ => ((c38 f (x0) (46) T).bind fun R101 => c41_72t f x0 x1 x2 x3 x4 R101)) := rfl
def c41_72u (f : Nat) (x0 : Nat) (x2 : Int) (x3 : Int) (x4 : Int) (R109 : (xT_)) : Option ((Nat ⊕ Unit) × xT_) := ((cq_gr 4 3 20 (x0) R109).bind fun v115 => ((cq_gr 3 5 14 (v115) R109).bind fun v117 => ((cq_sb (v117) (x2) (1) R109).bind fun T120 => ((cq_gr 4 3 20 (x0) T120).bind fun v124 => ((cq_gr 3 4 14 (v124) T120).bind fun v126 => ((cq_s 3 (v126) (x2) (x4) T120).bind fun T129 => ((cq_gr 4 3 20 (x0) T129).bind fun v133 => ((cq_is 3 14 (v133) T129).bind fun _ => ((c23 f (v133) (x2) (x3) T129).bind fun R135 => (some (.inr (), R135)))))))))))
theorem c41_72u_e (f : Nat) (x0 : Nat) (x1 : Int) (x2 : Int) (x3 : Int) (x4 : Int) (R101 : ((Nat ⊕ Unit) × xT_)) : c41_72t f x0 x1 x2 x3 x4 R101 = cth R101 (fun _ => ((cq_is 4 20 (x0) R101.2).bind fun _ => ((c40 f (x0) (6) (x2) (x1) (x3) R101.2).bind fun R109 => c41_72u f x0 x2 x3 x4 R109))) := rfl
def c42t (f : Nat) (a0 : Nat) (v113 : Int) (v129 : Int) (R131 : ((Nat ⊕ Unit) × xT_)) : Option ((Nat ⊕ Unit) × xT_) := cth R131 (fun _ => ((cq_is 4 20 (a0) R131.2).bind fun _ => ((c40 f (a0) (7) (v129) (v113) (0) R131.2).bind fun R139 => ((cq_gr 4 3 20 (a0) R139).bind fun v145 => ((cq_gr 3 6 14 (v145) R139).bind fun v147 => ((cq_sb (v147) (v129) (1) R139).bind fun T150 => (some (.inr (), T150))))))))
theorem c42t_e (f : Nat) (a0 : Nat) (T : xT_) : c42 f a0 T = ((cq_is 4 20 (a0) T).bind fun _ => ((c37 f (a0) T).bind fun R101 => ((cq_gr 4 0 20 (a0) R101).bind fun v107 => ((cq_gr 8 4 8 (v107) R101).bind fun v109 => ((cq_gi 4 1 20 (a0) R101).bind fun v111 => ((cq_a 3 (v109) (v111) R101).bind fun v113 => ((cq_is 4 20 (a0) R101).bind fun _ => ((c47 f (a0) R101).bind fun R115 => cth R115 (fun v121 => ((cq_is 4 20 (a0) R115.2).bind fun _ => ((c48 f (a0) (v121) (v113) R115.2).bind fun R123 => cth R123 (fun v129 => ((cq_is 4 20 (a0) R123.2).bind fun _ => ((c38 f (a0) (46) R123.2).bind fun R131 => c42t f a0 v113 v129 R131)))))))))))))) := rfl
def c42u (f : Nat) (a0 : Nat) (v129 : Int) (R139 : (xT_)) : Option ((Nat ⊕ Unit) × xT_) := ((cq_gr 4 3 20 (a0) R139).bind fun v145 => ((cq_gr 3 6 14 (v145) R139).bind fun v147 => ((cq_sb (v147) (v129) (1) R139).bind fun T150 => (some (.inr (), T150)))))
theorem c42u_e (f : Nat) (a0 : Nat) (v113 : Int) (v129 : Int) (R131 : ((Nat ⊕ Unit) × xT_)) : c42t f a0 v113 v129 R131 = cth R131 (fun _ => ((cq_is 4 20 (a0) R131.2).bind fun _ => ((c40 f (a0) (7) (v129) (v113) (0) R131.2).bind fun R139 => c42u f a0 v129 R139))) := rfl
section
variable {f n N w i j u q F sl p nx : Nat} {S : Nat → Nat × Nat × Nat} {G G1 G2 G3 G' : xG_} {m : Nat × Nat} {B : Nat → Int} {t : tStr} {s : pPg} {L : List Int} {v sp : Int}
theorem cPS.at (h : cPS S G B n t N w q nx s) (h1 : cAt (xup2 G 72 1 ((min j N : Nat) : Int)) N w j) (h2 : j ≤ N) (h3 : s.2.2.2.2.2 ≤ j) : cPS S (xup2 G 72 1 ((min j N : Nat) : Int)) B n t N w q nx (s.1, s.2.1, s.2.2.1, s.2.2.2.1, s.2.2.2.2.1, j) ∧ xFp q nx G (xup2 G 72 1 ((min j N : Nat) : Int)) := by
  obtain ⟨hE, hA, hi, hr, ⟨hM, hW, hmp, h3'⟩, hP, hH, hqu⟩ := h
  have hq := hr.2.2.1 rfl
  exact ⟨⟨hE.u1, h1, h2, hr.at, ⟨at_m hM, hW.at hr.2.1, hmp, by show 3 * s.2.2.2.1.length ≤ j; omega⟩, hP.ge (fun _ _ => rfl) (fun a k z => xup2_n (by omega)), hH.ge (fun k => xup2_n (by omega)), hqu⟩, fun a k z1 z2 z3 z4 => xup2_n (by omega)⟩
theorem cPS.fn (h : cPS S G B n t N w q nx s) (hx : xFn true q G G') (hn : cNs G' q L) (h1 : cAt G' N w j) (h2 : j ≤ N) (h3 : s.2.2.2.2.2 ≤ j) : cPS S G' B n t N w q nx (L, s.2.1, s.2.2.1, s.2.2.2.1, s.2.2.2.2.1, j) ∧ xFp q nx G G' := by
  obtain ⟨hE, hA, hi, hr, ⟨hM, hW, hmp, h3'⟩, hP, hH, hqu⟩ := h
  have hq := hr.2.2.1 rfl
  have z : ∀ a k, ¬ (a = 72 ∧ k = 1) → ¬ (a = q ∧ k = 1) → a ≠ q + 1 → G' a k = G a k := fun a k z1 z2 z3 => hx a k z1 (fun y => by rcases y.2 with q | q; exact z2 q; exact z3 q)
  exact ⟨⟨hE.ge (fun _ _ => rfl) (fun a k z1 z2 z3 => z a k (by omega) (by omega) (by omega)), h1, h2, hr.fn hx hn, ⟨hM.fn hx hr.2.2.1, hW.fn hx hr.2.1, hmp, by show 3 * s.2.2.2.1.length ≤ j; omega⟩, hP.ge (fun _ _ => rfl) (fun a k y => z a k (by omega) (by omega) (by omega)), hH.ge (fun k => z _ _ (by omega) (by omega) (by omega)), hqu⟩, fun a k z1 z2 z3 z4 => z a k (by omega) (by omega) (by omega)⟩
/-- WRONG ahead of any rule -/
def iW (S : Nat → Nat × Nat × Nat) (G : xG_) (q nx : Nat) (m : Nat × Nat) (T : Option ((Nat ⊕ Unit) × xT_)) (x : Nat) : Prop := ∃ G' : xG_, T = some (.inl 0, cWr S G' m (x : Int)) ∧ xFp q nx G G'
/-- the TOKEN behind input or output, its NAME -/
theorem k_io (hf : 20 < f) (h : cPS S G B n t N w q nx s) (h0 : kK t s.2.2.2.2.2 ≠ 0) (h5 : kK t s.2.2.2.2.2 ≠ 5) : ∃ G1, c37 f 72 (S, G, m) = some (S, G1, m) ∧ (G1 68 (s.2.2.2.2.2 + 1) = (kS t (s.2.2.2.2.2 + 1) : Int) ∧ G1 72 1 = ((s.2.2.2.2.2 + 1 : Nat) : Int) ∧ s.2.2.2.2.2 + 1 ≤ 3000 ∧ cPs G1) ∧ pok (pPred t s.1 (s.2.2.2.2.2 + 1)) (fun x => ∃ G' : xG_, xFp q nx G G' ∧ (c47 f 72 (S, G1, m) = some (.inl 0, cWr S G' m (x : Int)) ∨ ∃ v, c47 f 72 (S, G1, m) = some (.inr v, (S, G', m)) ∧ c48 f 72 v (kS t (s.2.2.2.2.2 + 1) : Int) (S, G', m) = some (.inl 0, cWr S G' m (x : Int))))
    (fun r => ∃ v G2 G3, c47 f 72 (S, G1, m) = some (.inr v, (S, G2, m)) ∧ c48 f 72 v (kS t (s.2.2.2.2.2 + 1) : Int) (S, G2, m) = some (.inr r.1, (S, G3, m)) ∧ xFp q nx G G3 ∧ r.2.2 = s.2.2.2.2.2 + 2 ∧ (∃ p : Nat, r.1 = p ∧ p < 16) ∧ cPS S G3 B n t N w q nx (r.2.1, s.2.1, s.2.2.1, s.2.2.2.1, s.2.2.2.2.1, s.2.2.2.2.2 + 2)) := by
  obtain ⟨l1, l2⟩ := h.1.lt h.2.1 h0
  have hN := h.1.2.2.2.1.2
  obtain ⟨d1, d2⟩ := k_37 (f := f) (m := m) h.1 h.2.1 h5
  obtain ⟨r1, r2⟩ := h.at d2 (by omega) (by omega)
  obtain ⟨k1, k2, k3, k4⟩ := r1.1.tk r1.2.1
  have em : min (s.2.2.2.2.2 + 1) N = s.2.2.2.2.2 + 1 := Nat.min_eq_left (by omega)
  have k2' : xup2 G 72 1 ((min (s.2.2.2.2.2 + 1) N : Nat) : Int) 68 (s.2.2.2.2.2 + 1) = (kS t (s.2.2.2.2.2 + 1) : Int) := by
    rw [xup2_n (by omega)]
    rw [xup2_n (by omega)] at k2
    have k2'' : G 68 (min (s.2.2.2.2.2 + 1) N) = (kS t (s.2.2.2.2.2 + 1) : Int) := k2
    rw [em] at k2''
    exact k2''
  refine ⟨_, d1, ⟨k2', by rw [xup2_s, em], by omega, r1.1.2.1⟩, ?_⟩
  have pp := k_pred (m := m) (tell := true) hf r1.1 r1.2.1 r1.2.2.2.1
  rw [if_pos rfl] at pp
  have hq := h.2.2.2.1.2.2.1 rfl
  show pok (pPred t s.1 (s.2.2.2.2.2 + 1)) _ _
  cases hX : pPred t s.1 (s.2.2.2.2.2 + 1) with
  | inl x =>
    have pp' : pok (pPred t s.1 (s.2.2.2.2.2 + 1)) _ _ := pp
    rw [hX] at pp'
    rcases pp' with p1 | ⟨v, G2, p1, p2, p3⟩
    · exact ⟨_, r2, .inl p1⟩
    · exact ⟨G2, r2.tr (fun a k z1 z2 z3 z4 => p3 a k (by omega) (fun y => nomatch y.1)), .inr ⟨v, p1, p2⟩⟩
  | inr r =>
    have pp' : pok (pPred t s.1 (s.2.2.2.2.2 + 1)) _ _ := pp
    rw [hX] at pp'
    obtain ⟨v, G2, G3, p1, p2, p3, p4, p5, p6, p7⟩ := pp'
    obtain ⟨y1, y2⟩ := r1.fn p3 p7 p6 p5 (Nat.le_succ _)
    exact ⟨v, G2, G3, p1, p2, r2.tr y2, p4, pPred_nat hX h.2.2.2.1.2.2.2.2.2.2.2.1, y1⟩
theorem st_42w {R : (Nat ⊕ Int) × xT_} {x : Nat} {T : xT_} (hs : cSs S) (hp : cPs G1) (hx : x ≤ 3000) (d1 : c37 f 72 (S, G, m) = some (S, G1, m)) (k2 : G1 68 x = sp) (k3 : G1 72 1 = (x : Int)) (h : c47 f 72 (S, G1, m) = some (.inl 0, T) ∨ ∃ v, c47 f 72 (S, G1, m) = some (.inr v, (S, G2, m)) ∧ c48 f 72 v sp (S, G2, m) = some (.inl 0, T)) : c42 f 72 (S, G, m) = some (.inl 0, T) := by
  rcases h with p1 | ⟨v, p1, p2⟩
  · rw [c42t_e]
    simp (disch := omega) only [cq_gi, cq_gr, cq_a, cq_s, cq_p, cq_pr, cq_is, cq_ar, cq_ab, cq_ln, xq_nz, Option.bind_some, xup2_n, xup2_s, Int.toNat_natCast, Int.reduceToNat, if_pos, if_neg, true_and, and_true, and_self, eq_self, if_true, reduceIte, not_true_eq_false, not_false_eq_true, or_true, true_or, s72 hs, s65 hs, s68 hs, p72_0 hp, p65_4 hp, d1, k2, k3, p1, cth]
  · rw [c42t_e]
    simp (disch := omega) only [cq_gi, cq_gr, cq_a, cq_s, cq_p, cq_pr, cq_is, cq_ar, cq_ab, cq_ln, xq_nz, Option.bind_some, xup2_n, xup2_s, Int.toNat_natCast, Int.reduceToNat, if_pos, if_neg, true_and, and_true, and_self, eq_self, if_true, reduceIte, not_true_eq_false, not_false_eq_true, or_true, true_or, s72 hs, s65 hs, s68 hs, p72_0 hp, p65_4 hp, d1, k2, k3, p1, p2, cth]
theorem st_42 {x : Nat} {pr : Int} {R : (Nat ⊕ Unit) × xT_} (hs : cSs S) (hp : cPs G1) (hx : x ≤ 3000) (d1 : c37 f 72 (S, G, m) = some (S, G1, m)) (k2 : G1 68 x = sp) (k3 : G1 72 1 = (x : Int)) (p1 : c47 f 72 (S, G1, m) = some (.inr v, (S, G2, m))) (p2 : c48 f 72 v sp (S, G2, m) = some (.inr pr, (S, G3, m))) (p3 : c38 f 72 46 (S, G3, m) = some R) : c42 f 72 (S, G, m) = c42t f 72 sp pr R := by
  rw [c42t_e]
  simp (disch := omega) only [cq_gi, cq_gr, cq_a, cq_s, cq_p, cq_pr, cq_is, cq_ar, cq_ab, cq_ln, xq_nz, Option.bind_some, xup2_n, xup2_s, Int.toNat_natCast, Int.reduceToNat, if_pos, if_neg, true_and, and_true, and_self, eq_self, if_true, reduceIte, not_true_eq_false, not_false_eq_true, or_true, true_or, s72 hs, s65 hs, s68 hs, p72_0 hp, p65_4 hp, d1, k2, k3, p1, p2, p3, cth]
theorem st_42t {pr : Int} (hs : cSs S) (e : c40 f 72 7 pr sp 0 (S, G, m) = some (S, G1, m)) : c42t f 72 sp pr (.inr (), (S, G, m)) = c42u f 72 pr (S, G1, m) := by
  rw [c42u_e]
  simp (disch := omega) only [cq_gi, cq_gr, cq_a, cq_s, cq_p, cq_pr, cq_is, cq_ar, cq_ab, cq_ln, xq_nz, Option.bind_some, xup2_n, xup2_s, Int.toNat_natCast, Int.reduceToNat, if_pos, if_neg, true_and, and_true, and_self, eq_self, if_true, reduceIte, not_true_eq_false, not_false_eq_true, or_true, true_or, s72 hs, e, cth]
theorem st_42u (hs : cSs S) (hp : p < 16) (hq : 82 < q) (qs : S q = (1, 3, 14)) (q5 : S (q + 5) = (2, 0, 16)) (h3 : G 72 3 = (q : Int)) (w6 : G q 6 = ((q + 5 : Nat) : Int)) : c42u f 72 (p : Int) (S, G, m) = some (.inr (), (S, xup2 G (q + 5) p 1, m)) := by
  have eb := cq_sb_ok (G := G) (m := m) q5 hp
  unfold c42u
  simp (disch := omega) only [cq_gi, cq_gr, cq_a, cq_s, cq_p, cq_pr, cq_is, cq_ar, cq_ab, cq_ln, xq_nz, Option.bind_some, xup2_n, xup2_s, Int.toNat_natCast, Int.reduceToNat, if_pos, if_neg, true_and, and_true, and_self, eq_self, if_true, reduceIte, not_true_eq_false, not_false_eq_true, or_true, true_or, s72 hs, qs, h3, w6, eb]
/-- one mention more, of a program -/
theorem cPS.men {k pr sp' d : Int} {y : pMn} (h : cPS S G B n t N w q nx s) (h1 : pr = y.1) (h2 : k = mKd y.2.2.2) (h3 : sp' = (y.2.1 : Int)) (h4 : y.2.2.1 ≠ -1 → d = y.2.2.1) : cEv S (mSt G s.2.2.2.1.length k pr sp' d) B n t N w ∧ cAt (mSt G s.2.2.2.1.length k pr sp' d) N w s.2.2.2.2.2 ∧ cPr0 S (mSt G s.2.2.2.1.length k pr sp' d) q true s.1 ∧ cMe (mSt G s.2.2.2.1.length k pr sp' d) (s.2.2.2.1 ++ [y]) ∧ cWd (mSt G s.2.2.2.1.length k pr sp' d) q s.2.2.2.1 ∧ cPp S (mSt G s.2.2.2.1.length k pr sp' d) q nx s.2.1 s.2.2.1 s.2.2.2.2.1 ∧ cHd (mSt G s.2.2.2.1.length k pr sp' d) q s.2.2.2.2.1 ∧ xFp q nx G (mSt G s.2.2.2.1.length k pr sp' d) := by
  obtain ⟨hE, hA, hi, hr, ⟨hM, hW, hmp, h3'⟩, hP, hH, hqu⟩ := h
  have hq := hr.2.2.1 rfl
  refine ⟨hE.ge (fun _ _ => rfl) (fun a j z1 z2 z3 => mSt_n a j (by omega) (by omega)), ⟨by rw [mSt_n _ _ (by omega) (by omega)]; exact hA.1, hA.2⟩, hr.ge (mSt_n _ _ (by omega) (by omega)) (mSt_n _ _ (by omega) (by omega)) (fun j _ _ _ => mSt_n _ _ (by omega) (by omega)) (fun j => mSt_n _ _ (by omega) (by omega)), mSt_m hM h1 h2 h3 h4, hW.ge (fun j => mSt_n _ _ (by omega) (by omega)), hP.ge (fun _ _ => rfl) (fun a j z => mSt_n _ _ (by omega) (by omega)), hH.ge (fun j => mSt_n _ _ (by omega) (by omega)), fun a j z1 z2 z3 z4 => mSt_n _ _ (by omega) (by omega)⟩
/-- readOutput() -/
theorem k_42 (hf : 20 < f) (hk : kK t s.2.2.2.2.2 = 7) (h : cPS S G B n t N w q nx s) : pok (pOutput t s) (iW S G q nx m (c42 f 72 (S, G, m))) (fun s' => ∃ G', c42 f 72 (S, G, m) = some (.inr (), (S, G', m)) ∧ xFp q nx G G' ∧ cPS S G' B n t N w q nx s' ∧ s.2.2.2.2.2 < s'.2.2.2.2.2) := by
  have hs := h.1.1
  have hN := h.1.2.2.2.1.2
  obtain ⟨G1, d1, ⟨k2, k3, k4, kp⟩, pp⟩ := k_io (m := m) hf h (by omega) (by omega)
  unfold pOutput
  cases hX : pPred t s.1 (s.2.2.2.2.2 + 1) with
  | inl x =>
    rw [hX] at pp
    obtain ⟨G2, a1, a2⟩ := pp
    exact ⟨G2, st_42w (R := (.inl 0, (S, G, m))) hs kp k4 d1 k2 k3 a2, a1⟩
  | inr r =>
    rw [hX] at pp
    obtain ⟨v, G2, G3, p1, p2, p3, p4, ⟨pn, p5, p6⟩, p7⟩ := pp
    have p38 := k_38 (f := f) (m := m) (c := 46) (by decide) p7.1 p7.2.1
    show pok (pbind (pNeed t 46 r.2.2) fun i => .inr (r.2.1, s.2.1, s.2.2.1 ++ [r.1], s.2.2.2.1 ++ [(r.1, kS t (s.2.2.2.2.2 + 1), -1, 2)], s.2.2.2.2.1, i)) _ _
    rw [p4]
    have p38' : pok (pNeed t 46 (s.2.2.2.2.2 + 2)) _ _ := p38
    cases hn : pNeed t 46 (s.2.2.2.2.2 + 2) with
    | inl x =>
      rw [hn] at p38'
      exact ⟨G3, by rw [st_42 hs kp k4 d1 k2 k3 p1 p2 p38']; rfl, p3⟩
    | inr j =>
      rw [hn] at p38'
      obtain ⟨a1, a2, a3, a4⟩ := p38'
      replace a2 : j = s.2.2.2.2.2 + 2 + 1 := a2
      replace a3 : kK t (s.2.2.2.2.2 + 2) = 46 := a3
      have hlt := (p7.1.lt p7.2.1 (by show kK t (s.2.2.2.2.2 + 2) ≠ 0; omega)).1
      have hlt' : s.2.2.2.2.2 + 2 < N := hlt
      obtain ⟨r1, r2⟩ := p7.at a4 (by omega) (by show s.2.2.2.2.2 + 2 ≤ j; omega)
      have hM1 : cMe _ s.2.2.2.1 := r1.2.2.2.2.1.1
      have h3m : 3 * s.2.2.2.1.length ≤ s.2.2.2.2.2 := h.2.2.2.2.1.2.2.2
      have e40 := mSt_40 (f := f) (m := m) (k := 7) (p := r.1) (s := (kS t (s.2.2.2.2.2 + 1) : Int)) (d := 0) hs r1.1.2.1 hM1.1 (by omega)
      obtain ⟨z1, z2, z3, z4, z5, z6, z7, z8⟩ := r1.men (k := 7) (pr := r.1) (sp' := (kS t (s.2.2.2.2.2 + 1) : Int)) (d := 0) (y := (r.1, kS t (s.2.2.2.2.2 + 1), -1, 2)) rfl rfl rfl (fun y => absurd rfl y)
      have hq := z3.2.2.1 rfl
      have e2 := st_42u (f := f) (m := m) hs p6 z3.2.1 z3.2.2.2.2.1.1 z3.2.2.2.2.1.2.2.2.2.2.1 z3.1 z3.2.2.2.2.2.1.2.2.2.2.1
      obtain ⟨G5, hG5⟩ : ∃ G5, G5 = mSt (xup2 G3 72 1 ((min j N : Nat) : Int)) s.2.2.2.1.length 7 r.1 (kS t (s.2.2.2.2.2 + 1) : Int) 0 := ⟨_, rfl⟩
      have e3 : c42 f 72 (S, G, m) = c42u f 72 r.1 (S, G5, m) := by rw [st_42 hs kp k4 d1 k2 k3 p1 p2 a1, hG5]; exact st_42t hs e40
      rw [show mSt (xup2 G3 72 1 ((min j N : Nat) : Int)) (r.2.1, s.2.1, s.2.2.1, s.2.2.2.1, s.2.2.2.2.1, j).2.2.2.1.length 7 r.1 (kS t (s.2.2.2.2.2 + 1) : Int) 0 = G5 from hG5.symm] at z1 z2 z3 z4 z5 z6 z7 z8 e2
      rw [p5, e2] at e3
      have hqu := h.2.2.2.2.2.2.2
      refine ⟨xup2 G5 (q + 5) pn 1, e3, ((p3.tr r2).tr z8).tr (fun a k y1 y2 y3 y4 => xup2_n (by omega)), ⟨z1.ge (fun _ _ => rfl) (fun a k y1 y2 y3 => xup2_n (by omega)), ⟨by rw [xup2_n (by omega)]; exact z2.1, z2.2⟩, by show j ≤ N; omega, z3.ge (xup2_n (by omega)) (xup2_n (by omega)) (fun k _ _ _ => xup2_n (by omega)) (fun k => xup2_n (by omega)), ⟨z4.ge (xup2_n (by omega)) (fun a k y1 y2 => xup2_n (by omega)), ?_, mPos_1 h.2.2.2.2.1.2.2.1 (.inl rfl), by show 3 * (s.2.2.2.1 ++ [_]).length ≤ j; rw [len1]; omega⟩, ⟨?_, z6.2.1.ge (Nat.le_refl _) (xup2_n (by omega)) (fun k _ => xup2_n (by omega)) (fun _ _ => rfl) (fun a k y1 y2 => xup2_n (by omega)), fun a k y1 y2 => by rw [xup2_n (by omega)]; exact z6.2.2.1 a k y1 y2, by rw [xup2_n (by omega)]; exact z6.2.2.2⟩, z7.ge (fun k => xup2_n (by omega)), hqu⟩, by show s.2.2.2.2.2 < j; omega⟩
      · intro x hx
        rw [xup2_n (by omega), z5 x hx]
        show pNn s.2.2.2.1 (x : Int) = pNn (s.2.2.2.1 ++ [(r.1, kS t (s.2.2.2.2.2 + 1), -1, 2)]) (x : Int)
        rw [pNn_1 h.2.2.2.2.1.2.2.1, if_neg (fun y : r.1 = (x : Int) ∧ (-1 : Int) ≠ -1 => y.2 rfl)]
        split
        · assumption
        · rfl
      · intro x hx
        obtain ⟨y1, y2, y3⟩ := z6.1 x hx
        rw [xup2_n (by omega), xup2_n (by omega)]
        refine ⟨y1, y2, ?_⟩
        show _ = b01 (pOu (s.2.2.1 ++ [r.1]) (x : Int))
        rw [pOu_1, p5]
        by_cases cx : x = pn
        · rw [if_pos (by omega), cx, xup2_s]
        · rw [if_neg (by omega), xup2_n (by omega)]; exact y3
end
