/-! THE CLASS: nextRow() whole, hasNone(), hasMore() -/
def c138a (f : Nat) (a0 : Nat) (a1 : Int) (R115 : (xT_)) : Option (Int × xT_) := ((cq_gr 9 4 14 (a0) R115).bind fun v121 => ((cq_gr 9 3 14 (a0) R115).bind fun v123 => ((cq_gr 6 10 20 (v123) R115).bind fun v125 => ((cq_a 3 (v125) (a1) R115).bind fun v127 => ((cq_ar (v121) (v127) R115).bind fun v129 => ((cq_gr 9 9 14 (a0) R115).bind fun v131 => ((cq_gi 9 6 14 (a0) R115).bind fun v133 => ((cq_a 3 (v131) (v133) R115).bind fun v135 => c138_30  f f (a0) (a1) (v129) (v135) R115))))))))
theorem c138a_e (f : Nat) (a0 : Nat) (a1 : Int) (T : xT_) : c138 f a0 a1 T = ((cq_is 9 14 (a0) T).bind fun _ => ((c134 f (a0) (a1) T).bind fun R115 => c138a f a0 a1 R115)) := rfl
section
variable {f u x l st b nv W cap fa fn p fi la i bp lt cu : Nat} {S : Nat → Nat × Nat × Nat} {G G1 G' : xG_} {m : Nat × Nat} {K T : pCd} {R : List pRw} {lo hi v br : Int} {vl : Nat → Int} {r30 : Nat → Int → Nat → Int → xT_ → Option (Int × xT_)}
theorem st_135 (hs : cSs S) (hp : cPs G) (h3 : G 83 3 = (u : Int)) (h4 : G 83 4 = (fa : Int)) (hu : 278 < u) (us : S u = (1, 6, 20)) (us3 : S (u + 3) = (2, 3, 8)) (w10 : G u 10 = ((u + 3 : Nat) : Int)) (hl : l < 8) (hpr : G (u + 3) l = (p : Int)) (fs : S fa = (2, 10, fn)) (hpn : p < fn) (hx : G fa p = (x : Int)) (h6 : G 83 6 = (st : Int)) (hst : st < 8) (h89 : G 89 st = (cu : Int)) : c135 f 83 (l : Int) (S, G, m) = c135_25 f f 83 (l : Int) x (cu : Int) (S, G, m) := by
  unfold c135
  simp (disch := omega) only [cq_gi, cq_gr, cq_a, cq_s, cq_p, cq_pr, cq_is, cq_ar, cq_ab, cq_ln, xq_nz, Option.bind_some, xup2_n, xup2_s, Int.toNat_natCast, Int.reduceToNat, if_pos, if_neg, true_and, and_true, and_self, eq_self, if_true, reduceIte, not_true_eq_false, not_false_eq_true, or_true, true_or, s83 hs, s89 hs, p83_10 hp, h3, h4, us, us3, w10, hpr, fs, hx, h6, h89]
theorem k_135 (hf : 600 < f) (h : cLv S G u x l st b nv W cap K T R lo hi) (hF : cFs S G u l fa fn p x) (h5 : G 83 5 = br) (h88 : G 88 st = (fi : Int)) (h90 : G 90 st = (la : Int)) (h89 : G 89 st = (cu : Int)) (hcu : cu ≤ R.length) (hrn : isRn R T b vl fi la) (hv : ∀ k, b.testBit k = true → G 84 k = vl k) : ∃ v G', c135 f 83 (l : Int) (S, G, m) = some (v, (S, G', m)) ∧ (∀ a j, a ≠ 84 → ¬ (a = 89 ∧ j = st) → ¬ (a = 87 ∧ j = st + 1) → G' a j = G a j) ∧ (∀ k, b.testBit k = true → G' 84 k = G 84 k) ∧ ((v = 1 ∧ ∃ i' b' vl', cu ≤ i' ∧ i' < R.length ∧ fitR T lo hi b vl (R.getD i' dRw) = some (b', vl') ∧ accR T lo hi R b vl br i' ∧ (∀ j, cu ≤ j → j < i' → ¬ accR T lo hi R b vl br j) ∧ G' 89 st = ((i' + 1 : Nat) : Int) ∧ G' 87 (st + 1) = ((b' : Nat) : Int) ∧ ∀ k, b'.testBit k = true → G' 84 k = vl' k) ∨ (v = 0 ∧ ∀ j, cu ≤ j → j < R.length → ¬ accR T lo hi R b vl br j)) := by
  obtain ⟨q1, q2, q3, q4, q5, q6⟩ := hF
  have hb := h
  obtain ⟨h1, h2, h3, h4, h5', h6, h7, h8, h9, h10, h11, h12, h13⟩ := h
  have e := st_135 (f := f) (m := m) h1.1 h1.2.1 h1.2.2.1 q1 h1.2.2.2.1 h1.2.2.2.2.1.1 h1.2.2.2.2.1.2.2.2.1 h1.2.2.2.2.2.1.2.2.1 h2.1 q5 q2 q3 q4 h8 h9 h89
  rw [e]
  exact k_135l hf (R.length - cu) cu f G (by omega) (by have := h3.2.2.2.2.1; have := h3.2.2.2.2.2.1; omega) hb h5 h88 h90 hrn hv
theorem st_138z (hs : cSs S) (hp : cPs G) (h6 : G 83 6 = (st : Int)) (hst : st < 8) (h90 : G 90 st = (la : Int)) (hi2 : la ≤ i) : c138_30b r30 f 83 (l : Int) x (i : Int) (S, G, m) = some (1, (S, G, m)) := by
  unfold c138_30b
  simp (disch := omega) only [cq_gi, cq_gr, cq_a, cq_s, cq_p, cq_pr, cq_is, cq_ar, cq_ab, cq_ln, xq_nz, Option.bind_some, xup2_n, xup2_s, Int.toNat_natCast, Int.reduceToNat, if_pos, if_neg, true_and, and_true, and_self, eq_self, if_true, reduceIte, not_true_eq_false, not_false_eq_true, or_true, true_or, s83 hs, s90 hs, p83_11 hp, h6, h90]
theorem st_138n (hs : cSs S) (hp : cPs G) (h6 : G 83 6 = (st : Int)) (hst : st < 8) (h90 : G 90 st = (la : Int)) (hi2 : i < la) (e : c136 f 83 (l : Int) x (i : Int) (S, G, m) = some (v, (S, G1, m))) (ei : xwr ((i : Int) + 1) = ((i + 1 : Nat) : Int)) : c138_30b r30 f 83 (l : Int) x (i : Int) (S, G, m) = if v = -1 then r30 83 (l : Int) x ((i + 1 : Nat) : Int) (S, G1, m) else some (0, (S, G1, m)) := by
  by_cases q : v = -1
  · rw [if_pos q]
    unfold c138_30b
    simp (disch := omega) only [cq_gi, cq_gr, cq_a, cq_s, cq_p, cq_pr, cq_is, cq_ar, cq_ab, cq_ln, xq_nz, Option.bind_some, xup2_n, xup2_s, Int.toNat_natCast, Int.reduceToNat, if_pos, if_neg, true_and, and_true, and_self, eq_self, if_true, reduceIte, not_true_eq_false, not_false_eq_true, or_true, true_or, s83 hs, s90 hs, p83_11 hp, h6, h90, e, q, ei]
  · rw [if_neg q]
    unfold c138_30b
    simp (disch := omega) only [cq_gi, cq_gr, cq_a, cq_s, cq_p, cq_pr, cq_is, cq_ar, cq_ab, cq_ln, xq_nz, Option.bind_some, xup2_n, xup2_s, Int.toNat_natCast, Int.reduceToNat, if_pos, if_neg, true_and, and_true, and_self, eq_self, if_true, reduceIte, not_true_eq_false, not_false_eq_true, or_true, true_or, s83 hs, s90 hs, p83_11 hp, h6, h90, e, q]
theorem st_138 {T1 : xT_} (hs : cSs S) (e : c134 f 83 (l : Int) (S, G, m) = some T1) : c138 f 83 (l : Int) (S, G, m) = c138a f 83 (l : Int) T1 := by
  rw [c138a_e]
  simp (disch := omega) only [cq_gi, cq_gr, cq_a, cq_s, cq_p, cq_pr, cq_is, cq_ar, cq_ab, cq_ln, xq_nz, Option.bind_some, xup2_n, xup2_s, Int.toNat_natCast, Int.reduceToNat, if_pos, if_neg, true_and, and_true, and_self, eq_self, if_true, reduceIte, not_true_eq_false, not_false_eq_true, or_true, true_or, s83 hs, e]
theorem st_138a (hs : cSs S) (hp : cPs G) (h3 : G 83 3 = (u : Int)) (h4 : G 83 4 = (fa : Int)) (hu : 278 < u) (us : S u = (1, 6, 20)) (us3 : S (u + 3) = (2, 3, 8)) (w10 : G u 10 = ((u + 3 : Nat) : Int)) (hl : l < 8) (hpr : G (u + 3) l = (p : Int)) (fs : S fa = (2, 10, fn)) (hpn : p < fn) (hx : G fa p = (x : Int)) (h6 : G 83 6 = (st : Int)) (hst : st < 8) (h88 : G 88 st = (cu : Int)) : c138a f 83 (l : Int) (S, G, m) = c138_30 f f 83 (l : Int) x (cu : Int) (S, G, m) := by
  unfold c138a
  simp (disch := omega) only [cq_gi, cq_gr, cq_a, cq_s, cq_p, cq_pr, cq_is, cq_ar, cq_ab, cq_ln, xq_nz, Option.bind_some, xup2_n, xup2_s, Int.toNat_natCast, Int.reduceToNat, if_pos, if_neg, true_and, and_true, and_self, eq_self, if_true, reduceIte, not_true_eq_false, not_false_eq_true, or_true, true_or, s83 hs, s88 hs, p83_9 hp, h3, h4, us, us3, w10, hpr, fs, hx, h6, h88]
theorem fit_84 {r : pRw} {b' : Nat} {w vl' : Nat → Int} (hT : ∀ y ∈ T, wT1 nv y) (hl : T.length ≤ r.1.length) (hf : fitR T lo hi b w r = some (b', vl')) : (∀ k, b.testBit k = true → vl' k = w k) ∧ b' = b ||| qT T := by
  unfold fitR at hf
  split at hf
  · have := mtc_ok T r.1 b w b' vl' hT hl hf
    exact ⟨this.2.1, this.1⟩
  · cases hf
theorem tb8 {b k : Nat} (hb : b < 2 ^ 8) (hk : b.testBit k = true) : k < 8 := Nat.lt_of_not_le (fun q => by rw [Nat.testBit_lt_two_pow (Nat.lt_of_lt_of_le hb (Nat.pow_le_pow_right (by decide) q))] at hk; cases hk)
theorem k_138l (hf : 600 < f) : ∀ (d i fu : Nat) (G : xG_), i + d = R.length → d < fu → cLv S G u x l st b nv W cap K T R lo hi → G 90 st = (la : Int) → isRn R T b vl fi la → (∀ k, b.testBit k = true → G 84 k = vl k) → (∀ j, j < i → fitR T lo hi b vl (R.getD j dRw) = none) → ∃ v G', c138_30 f fu 83 (l : Int) x (i : Int) (S, G, m) = some (v, (S, G', m)) ∧ (∀ a j, a ≠ 84 → G' a j = G a j) ∧ (∀ k, b.testBit k = true → G' 84 k = G 84 k) ∧ (v = 0 ∨ v = 1) ∧ (v = 1 ↔ ∀ j, j < R.length → fitR T lo hi b vl (R.getD j dRw) = none) := by
  intro d
  have outl : ∀ {G : xG_}, cLv S G u x l st b nv W cap K T R lo hi → isRn R T b vl fi la → ∀ j, j < R.length → la ≤ j → fitR T lo hi b vl (R.getD j dRw) = none := fun h hrn j hj hlj => by
    obtain ⟨h1, h2, h3, h4, h5', h6, _⟩ := h
    obtain ⟨kl, kl1, kl2⟩ := hrn.2.2
    cases hq : fitR T lo hi b vl (R.getD j dRw) with
    | none => rfl
    | some z =>
      have := (kl2 j hj (kl1.fit h6 (by rw [(h3.2.2.2.2.2.2.2 j hj).1, h5']) hq)).2
      omega
  induction d with
  | zero =>
    intro i fu G e1 e2 h h90 hrn hv hn
    obtain ⟨fu, rfl⟩ : ∃ t, fu = t + 1 := ⟨fu - 1, by omega⟩
    exact ⟨1, G, st_138z (r30 := c138_30 f fu) h.1.1 h.1.2.1 h.2.2.2.2.2.2.2.1 h.2.2.2.2.2.2.2.2.1 h90 (by have := hrn.2.1; omega), fun _ _ _ => rfl, fun _ _ => rfl, .inr rfl, fun _ j hj => hn j (by omega), fun _ => rfl⟩
  | succ d ih =>
    intro i fu G e1 e2 h h90 hrn hv hn
    obtain ⟨fu, rfl⟩ : ∃ t, fu = t + 1 := ⟨fu - 1, by omega⟩
    have hb := h
    obtain ⟨h1, h2, h3, h4, h5', h6, h7, h8, h9, h10, h11, h12, h13⟩ := h
    have hlc := h3.2.2.2.2.1
    have hcap := h3.2.2.2.2.2.1
    have hi2 : i < R.length := by omega
    have lT : (R.getD i dRw).1.length = T.length := by rw [(h3.2.2.2.2.2.2.2 i hi2).1, h5']
    by_cases hla : la ≤ i
    · refine ⟨1, G, st_138z (r30 := c138_30 f fu) h1.1 h1.2.1 h8 h9 h90 hla, fun _ _ _ => rfl, fun _ _ => rfl, .inr rfl, fun _ j hj => ?_, fun _ => rfl⟩
      by_cases cj : j < i
      · exact hn j cj
      · exact outl hb hrn j hj (by omega)
    · have ei : xwr ((i : Int) + 1) = ((i + 1 : Nat) : Int) := by rw [xwr_g _ (by omega) (by omega)]; omega
      obtain ⟨v, G1, g1, g2, g3⟩ := k_136 (f := f) (m := m) (vl := fun k => G 84 k) (by omega) hb hi2 (fun k _ => rfl)
      have hb1 : cLv S G1 u x l st b nv W cap K T R lo hi := hb.ge (fun a j y _ _ _ _ _ _ _ => g2 a j y)
      have st1 : c138_30 f (fu + 1) 83 (l : Int) x (i : Int) (S, G, m) = _ := st_138n (r30 := c138_30 f fu) h1.1 h1.2.1 h8 h9 h90 (by omega) g1 ei
      rcases g3 with ⟨b', vl', y1, y2, y3⟩ | ⟨y1, y2, y3⟩
      · rw [if_neg (by omega)] at st1
        obtain ⟨f1, f2⟩ := fit_84 h6 (Nat.le_of_eq lT.symm) y1
        obtain ⟨v2, w1, _⟩ := fit_xt h6 (Nat.le_of_eq lT.symm) hv y1
        refine ⟨0, G1, st1, g2, fun k hk => by rw [y3 k (tb8 h11 hk), f1 k hk], .inl rfl, fun y => by omega, fun y => ?_⟩
        rw [y i hi2] at w1
        cases w1
      · rw [if_pos y1] at st1
        have ni : fitR T lo hi b vl (R.getD i dRw) = none := by
          cases hq : fitR T lo hi b vl (R.getD i dRw) with
          | none => rfl
          | some z =>
            obtain ⟨z1, z2⟩ := z
            obtain ⟨v4, w1, _⟩ := fit_xt (v := fun k => G 84 k) h6 (Nat.le_of_eq lT.symm) (fun k hk => (hv k hk).symm) hq
            rw [y2] at w1
            cases w1
        obtain ⟨v2, G2, i1, i2, i3, i4, i5⟩ := ih (i + 1) fu G1 (by omega) (by omega) hb1 (by rw [g2 _ _ (by omega)]; exact h90) hrn (fun k hk => by rw [y3 k hk, hv k hk]) (fun j hj => by
          by_cases cj : j = i
          · rw [cj]; exact ni
          · exact hn j (by omega))
        exact ⟨v2, G2, st1.trans i1, fun a j y => by rw [i2 a j y, g2 a j y], fun k hk => by rw [i3 k hk, y3 k hk], i4, i5⟩
/-- hasNone() -/
theorem k_138 (hf : 600 < f) (h : cLv S G u x l st b nv W cap K T R lo hi) (hF : cFs S G u l fa fn p x) (hs : R.Pairwise rwLt) (hv : ∀ k, b.testBit k = true → G 84 k = vl k) : ∃ v G', c138 f 83 (l : Int) (S, G, m) = some (v, (S, G', m)) ∧ (∀ a j, a ≠ 84 → a ≠ 88 → a ≠ 89 → a ≠ 90 → a ≠ 91 → G' a j = G a j) ∧ (∀ a j, j ≠ st → 88 ≤ a → a ≤ 90 → G' a j = G a j) ∧ (∀ k, b.testBit k = true → G' 84 k = G 84 k) ∧ (v = 0 ∨ v = 1) ∧ (v = 1 ↔ ∀ j, j < R.length → fitR T lo hi b vl (R.getD j dRw) = none) := by
  obtain ⟨G1, fi, la, g1, g2, g3, g4, g5, g6, g7⟩ := k_134 (f := f) (m := m) hf h hF hs hv
  have hb1 : cLv S G1 u x l st b nv W cap K T R lo hi := h.ge (fun a j _ _ y3 y4 y5 y6 _ _ => g2 a j y3 y4 y5 y6)
  have hu := h.1.2.2.2.1
  have hF1 : cFs S G1 u l fa fn p x := hF.ge hu (g2 _ _ (by omega) (by omega) (by omega) (by omega)) (fun a j y => g2 _ _ (by omega) (by omega) (by omega) (by omega))
  obtain ⟨q1, q2, q3, q4, q5, q6⟩ := hF1
  obtain ⟨h1, h2, h3, h4, h5', h6, h7, h8, h9, h10, h11, h12, h13⟩ := id hb1
  have e := (st_138 h.1.1 g1).trans (st_138a (f := f) (m := m) h1.1 h1.2.1 h1.2.2.1 q1 hu h1.2.2.2.2.1.1 h1.2.2.2.2.1.2.2.2.1 h1.2.2.2.2.2.1.2.2.1 h2.1 q5 q2 q3 q4 h8 h9 g4)
  obtain ⟨kl, kl1, kl2⟩ := g7.2.2
  have hv1 : ∀ k, b.testBit k = true → G1 84 k = vl k := fun k hk => by rw [g2 _ _ (by omega) (by omega) (by omega) (by omega)]; exact hv k hk
  obtain ⟨v, G2, i1, i2, i3, i4, i5⟩ := k_138l (f := f) (m := m) hf (R.length - fi) fi f G1 (by have := g7.1; omega) (by have := h3.2.2.2.2.1; have := h3.2.2.2.2.2.1; omega) hb1 g6 g7 hv1 (fun j hj => by
    have hjl : j < R.length := by have := g7.1; omega
    cases hq : fitR T lo hi b vl (R.getD j dRw) with
    | none => rfl
    | some z =>
      have := (kl2 j hjl (kl1.fit h6 (by rw [(h3.2.2.2.2.2.2.2 j hjl).1, h5']) hq)).1
      omega)
  exact ⟨v, G2, e.trans i1, fun a j y1 y2 y3 y4 y5 => by rw [i2 a j y1, g2 a j y2 y3 y4 y5], fun a j y1 y2 y3 => by rw [i2 a j (by omega), g3 a j y1 y2 y3], fun k hk => by rw [i3 k hk, g2 _ _ (by omega) (by omega) (by omega) (by omega)], i4, i5⟩
/-- hasMore() -/
theorem k_133 (hs : cSs S) (hp : cPs G) (h3 : G 83 3 = (u : Int)) (hu : 278 < u) (us : S u = (1, 6, 20)) (us10 : S (u + 10) = (2, 3, 8)) (w19 : G u 19 = ((u + 10 : Nat) : Int)) (h6 : G 83 6 = (st : Int)) (hst : st < 8) (h5 : G 83 5 = br) (hb : G 87 st = (b : Int)) (hb8 : b < 2 ^ 8) (hbp : G 87 (st + 1) = (bp : Int)) (hbp8 : bp < 2 ^ 8) (hl : G (u + 10) st = (lt : Int)) (hl8 : lt < 2 ^ 8) : ∃ v : Int, c133 f 83 (S, G, m) = some (v, (S, G, m)) ∧ (v = 0 ∨ v = 1) ∧ (v = 1 ↔ ∃ j, bp.testBit j = true ∧ b.testBit j = false ∧ (br ≠ 0 → lt.testBit j = true)) := by
  have es : xwr ((st : Int) + 1) = ((st + 1 : Nat) : Int) := by rw [xwr_g _ (by omega) (by omega)]; omega
  obtain ⟨w, w1, w2, w3⟩ := xandn (a := bp) (b := b) (by omega) (by omega)
  have nz : ∀ z : Nat, z = 0 ↔ ∀ j, z.testBit j = false := fun z => ⟨fun e j => by rw [e, Nat.zero_testBit], fun e => Nat.eq_of_testBit_eq (fun j => by rw [e j, Nat.zero_testBit])⟩
  by_cases c : br = 0
  · have e : c133 f 83 (S, G, m) = c133_49 f (w : Int) (S, G, m) := by
      unfold c133
      rw [c] at h5
      simp (disch := omega) only [cq_gi, cq_gr, cq_a, cq_s, cq_p, cq_pr, cq_is, cq_ar, cq_ab, cq_ln, xq_nz, Option.bind_some, xup2_n, xup2_s, Int.toNat_natCast, Int.reduceToNat, if_pos, if_neg, true_and, and_true, and_self, eq_self, if_true, reduceIte, not_true_eq_false, not_false_eq_true, or_true, true_or, s83 hs, s87 hs, p83_8 hp, h6, es, hb, hbp, h5, w2]
    by_cases cw : w = 0
    · refine ⟨0, by rw [e]; unfold c133_49 c133_57; rw [if_pos (by omega), if_pos (.inl rfl)], .inl rfl, fun y => by omega, fun ⟨j, y1, y2, _⟩ => ?_⟩
      have := (w3 j).mpr ⟨y1, y2⟩
      rw [cw, Nat.zero_testBit] at this
      cases this
    · refine ⟨1, by rw [e]; unfold c133_49 c133_57; rw [if_neg (by omega), if_pos (.inr rfl)], .inr rfl, fun _ => ?_, fun _ => rfl⟩
      obtain ⟨j, hj⟩ : ∃ j, w.testBit j = true := Classical.byContradiction (fun y => cw ((nz w).mpr (fun j => by cases hq : w.testBit j; rfl; exact absurd ⟨j, hq⟩ y)))
      exact ⟨j, ((w3 j).mp hj).1, ((w3 j).mp hj).2, fun y => absurd c y⟩
  · have x1 : xand (w : Int) (lt : Int) = ((w &&& lt : Nat) : Int) := xand_nat (by omega) (by omega)
    have e : c133 f 83 (S, G, m) = c133_49 f ((w &&& lt : Nat) : Int) (S, G, m) := by
      unfold c133
      simp (disch := omega) only [cq_gi, cq_gr, cq_a, cq_s, cq_p, cq_pr, cq_is, cq_ar, cq_ab, cq_ln, xq_nz, Option.bind_some, xup2_n, xup2_s, Int.toNat_natCast, Int.reduceToNat, if_pos, if_neg, true_and, and_true, and_self, eq_self, if_true, reduceIte, not_true_eq_false, not_false_eq_true, or_true, true_or, s83 hs, s87 hs, p83_8 hp, h3, us, us10, w19, h6, es, hb, hbp, h5, c, w2, hl, x1]
    by_cases cw : w &&& lt = 0
    · refine ⟨0, by rw [e]; unfold c133_49 c133_57; rw [if_pos (by omega), if_pos (.inl rfl)], .inl rfl, fun y => by omega, fun ⟨j, y1, y2, y3⟩ => ?_⟩
      have := (nz _).mp cw j
      rw [Nat.testBit_and, (w3 j).mpr ⟨y1, y2⟩, y3 c] at this
      cases this
    · refine ⟨1, by rw [e]; unfold c133_49 c133_57; rw [if_neg (by omega), if_pos (.inr rfl)], .inr rfl, fun _ => ?_, fun _ => rfl⟩
      obtain ⟨j, hj⟩ : ∃ j, (w &&& lt).testBit j = true := Classical.byContradiction (fun y => cw ((nz _).mpr (fun j => by cases hq : (w &&& lt).testBit j; rfl; exact absurd ⟨j, hq⟩ y)))
      rw [Nat.testBit_and, Bool.and_eq_true] at hj
      exact ⟨j, ((w3 j).mp hj.1).1, ((w3 j).mp hj.1).2, fun _ => hj.2⟩
end
