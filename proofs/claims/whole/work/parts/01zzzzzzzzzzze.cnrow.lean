/-! THE CLASS: nextRow() -/
theorem fit_xt {T : pCd} {lo hi : Int} {b nv : Nat} {v w : Nat → Int} {r : pRw} (hT : ∀ y ∈ T, wT1 nv y) (hl : T.length ≤ r.1.length) (h : ∀ k, b.testBit k = true → w k = v k) {b' : Nat} {v' : Nat → Int} (hf : fitR T lo hi b w r = some (b', v')) : ∃ v2, fitR T lo hi b v r = some (b', v2) ∧ ∀ k, b'.testBit k = true → v2 k = v' k := by
  unfold fitR at hf ⊢
  split at hf
  · rename_i c
    rw [if_pos c]
    obtain ⟨m1, m2, m3, m4⟩ := mtc_ok T r.1 b w b' v' hT hl hf
    obtain ⟨b2, v2, n1, n2⟩ := mtc_some (w := v') T r.1 b v hT hl (fun k hk => by rw [m2 k hk, h k hk]) m3
    have n3 := (mtc_ok T r.1 b v b2 v2 hT hl n1).1
    have e : b2 = b' := by rw [n3, m1]
    subst e
    exact ⟨v2, n1, n2⟩
  · cases hf
section
variable {f u x l st b nv W cap fa fn p fi la i bp : Nat} {S : Nat → Nat × Nat × Nat} {G G1 : xG_} {m : Nat × Nat} {K T : pCd} {R : List pRw} {lo hi v br : Int} {vl : Nat → Int} {r25 : Nat → Int → Nat → Int → xT_ → Option (Int × xT_)}
theorem st_135z (hs : cSs S) (hp : cPs G) (h6 : G 83 6 = (st : Int)) (hst : st < 8) (h90 : G 90 st = (la : Int)) (hi2 : la ≤ i) : c135_25b r25 f 83 (l : Int) x (i : Int) (S, G, m) = some (0, (S, G, m)) := by
  unfold c135_25b
  simp (disch := omega) only [cq_gi, cq_gr, cq_a, cq_s, cq_p, cq_pr, cq_is, cq_ar, cq_ab, cq_ln, xq_nz, Option.bind_some, xup2_n, xup2_s, Int.toNat_natCast, Int.reduceToNat, if_pos, if_neg, true_and, and_true, and_self, eq_self, if_true, reduceIte, not_true_eq_false, not_false_eq_true, or_true, true_or, s83 hs, s90 hs, p83_11 hp, h6, h90]
theorem st_135n (hs : cSs S) (hp : cPs G) (h6 : G 83 6 = (st : Int)) (hst : st < 8) (h90 : G 90 st = (la : Int)) (hi2 : i < la) (e : c136 f 83 (l : Int) x (i : Int) (S, G, m) = some (-1, (S, G1, m))) (ei : xwr ((i : Int) + 1) = ((i + 1 : Nat) : Int)) : c135_25b r25 f 83 (l : Int) x (i : Int) (S, G, m) = r25 83 (l : Int) x ((i + 1 : Nat) : Int) (S, G1, m) := by
  unfold c135_25b c135_111
  simp (disch := omega) only [cq_gi, cq_gr, cq_a, cq_s, cq_p, cq_pr, cq_is, cq_ar, cq_ab, cq_ln, xq_nz, Option.bind_some, xup2_n, xup2_s, Int.toNat_natCast, Int.reduceToNat, if_pos, if_neg, true_and, and_true, and_self, eq_self, if_true, reduceIte, not_true_eq_false, not_false_eq_true, or_true, true_or, s83 hs, s90 hs, p83_11 hp, h6, h90, e, ei]
theorem st_135g (hs : cSs S) (hp : cPs G) (h6 : G 83 6 = (st : Int)) (hst : st < 8) (ei : xwr ((i : Int) + 1) = ((i + 1 : Nat) : Int)) (es : xwr ((st : Int) + 1) = ((st + 1 : Nat) : Int)) : c135_84 f 83 (i : Int) (bp : Int) (S, G, m) = some (1, (S, xup2 (xup2 G 89 st ((i + 1 : Nat) : Int)) 87 (st + 1) (bp : Int), m)) := by
  unfold c135_84
  simp (disch := omega) only [cq_gi, cq_gr, cq_a, cq_s, cq_p, cq_pr, cq_is, cq_ar, cq_ab, cq_ln, xq_nz, Option.bind_some, xup2_n, xup2_s, Int.toNat_natCast, Int.reduceToNat, if_pos, if_neg, true_and, and_true, and_self, eq_self, if_true, reduceIte, not_true_eq_false, not_false_eq_true, or_true, true_or, s83 hs, s87 hs, s89 hs, p83_8 hp, p83_10 hp, h6, ei, es]
theorem st_135b (hs : cSs S) (hp : cPs G) (h6 : G 83 6 = (st : Int)) (hst : st < 8) (h90 : G 90 st = (la : Int)) (hi2 : i < la) (e : c136 f 83 (l : Int) x (i : Int) (S, G, m) = some ((bp : Int), (S, G1, m))) (hbr : G1 83 5 = br) (hbr0 : br ≠ 0) : c135_25b r25 f 83 (l : Int) x (i : Int) (S, G, m) = c135_84 f 83 (i : Int) (bp : Int) (S, G1, m) := by
  have hb : ¬ (bp : Int) = -1 := by omega
  unfold c135_25b
  simp (disch := omega) only [cq_gi, cq_gr, cq_a, cq_s, cq_p, cq_pr, cq_is, cq_ar, cq_ab, cq_ln, xq_nz, Option.bind_some, xup2_n, xup2_s, Int.toNat_natCast, Int.reduceToNat, if_pos, if_neg, true_and, and_true, and_self, eq_self, if_true, reduceIte, not_true_eq_false, not_false_eq_true, or_true, true_or, s83 hs, s90 hs, p83_11 hp, h6, h90, e, hb, hbr, hbr0]
theorem st_135e (hs : cSs S) (hp : cPs G) (hp1 : cPs G1) (h6 : G 83 6 = (st : Int)) (h61 : G1 83 6 = (st : Int)) (hst : st < 8) (h90 : G 90 st = (la : Int)) (hi2 : i < la) (e : c136 f 83 (l : Int) x (i : Int) (S, G, m) = some ((bp : Int), (S, G1, m))) (hbr : G1 83 5 = 0) (hbb : G1 87 st = (bp : Int)) : c135_25b r25 f 83 (l : Int) x (i : Int) (S, G, m) = c135_84 f 83 (i : Int) (bp : Int) (S, G1, m) := by
  have hb : ¬ (bp : Int) = -1 := by omega
  unfold c135_25b
  simp (disch := omega) only [cq_gi, cq_gr, cq_a, cq_s, cq_p, cq_pr, cq_is, cq_ar, cq_ab, cq_ln, xq_nz, Option.bind_some, xup2_n, xup2_s, Int.toNat_natCast, Int.reduceToNat, if_pos, if_neg, true_and, and_true, and_self, eq_self, if_true, reduceIte, not_true_eq_false, not_false_eq_true, or_true, true_or, s83 hs, s87 hs, s90 hs, p83_8 hp1, p83_11 hp, h6, h61, h90, e, hb, hbr, hbb]
theorem st_135r (hs : cSs S) (hp : cPs G) (hp1 : cPs G1) (h6 : G 83 6 = (st : Int)) (h61 : G1 83 6 = (st : Int)) (hst : st < 8) (h90 : G 90 st = (la : Int)) (hi2 : i < la) (e : c136 f 83 (l : Int) x (i : Int) (S, G, m) = some ((bp : Int), (S, G1, m))) (hbr : G1 83 5 = 0) (hbb : G1 87 st = (b : Int)) (hne : bp ≠ b) (e2 : c137 f 83 (l : Int) x (i : Int) (S, G1, m) = some (v, (S, G1, m))) (ei : xwr ((i : Int) + 1) = ((i + 1 : Nat) : Int)) : c135_25b r25 f 83 (l : Int) x (i : Int) (S, G, m) = if v = 0 then c135_84 f 83 (i : Int) (bp : Int) (S, G1, m) else r25 83 (l : Int) x ((i + 1 : Nat) : Int) (S, G1, m) := by
  have hb : ¬ (bp : Int) = -1 := by omega
  have hn : ¬ (bp : Int) = (b : Int) := by omega
  by_cases q : v = 0
  · rw [if_pos q]
    unfold c135_25b
    simp (disch := omega) only [cq_gi, cq_gr, cq_a, cq_s, cq_p, cq_pr, cq_is, cq_ar, cq_ab, cq_ln, xq_nz, Option.bind_some, xup2_n, xup2_s, Int.toNat_natCast, Int.reduceToNat, if_pos, if_neg, true_and, and_true, and_self, eq_self, if_true, reduceIte, not_true_eq_false, not_false_eq_true, or_true, true_or, s83 hs, s87 hs, s90 hs, p83_8 hp1, p83_11 hp, h6, h61, h90, e, hb, hbr, hbb, hn, e2, q]
  · rw [if_neg q]
    unfold c135_25b c135_111
    simp (disch := omega) only [cq_gi, cq_gr, cq_a, cq_s, cq_p, cq_pr, cq_is, cq_ar, cq_ab, cq_ln, xq_nz, Option.bind_some, xup2_n, xup2_s, Int.toNat_natCast, Int.reduceToNat, if_pos, if_neg, true_and, and_true, and_self, eq_self, if_true, reduceIte, not_true_eq_false, not_false_eq_true, or_true, true_or, s83 hs, s87 hs, s90 hs, p83_8 hp1, p83_11 hp, h6, h61, h90, e, hb, hbr, hbb, hn, e2, q, ei]
/-- a row that is taken -/
def accR (T : pCd) (lo hi : Int) (R : List pRw) (b : Nat) (vl : Nat → Int) (br : Int) (i : Nat) : Prop := ∃ b' vl', fitR T lo hi b vl (R.getD i dRw) = some (b', vl') ∧ (br ≠ 0 ∨ b' = b ∨ ¬ isRp T lo hi R i)
theorem k_135l (hf : 600 < f) : ∀ (d i fu : Nat) (G : xG_), i + d = R.length → d < fu → cLv S G u x l st b nv W cap K T R lo hi → G 83 5 = br → G 88 st = (fi : Int) → G 90 st = (la : Int) → isRn R T b vl fi la → (∀ k, b.testBit k = true → G 84 k = vl k) → ∃ v G', c135_25 f fu 83 (l : Int) x (i : Int) (S, G, m) = some (v, (S, G', m)) ∧ (∀ a j, a ≠ 84 → ¬ (a = 89 ∧ j = st) → ¬ (a = 87 ∧ j = st + 1) → G' a j = G a j) ∧ (∀ k, b.testBit k = true → G' 84 k = G 84 k) ∧ ((v = 1 ∧ ∃ i' b' vl', i ≤ i' ∧ i' < R.length ∧ fitR T lo hi b vl (R.getD i' dRw) = some (b', vl') ∧ accR T lo hi R b vl br i' ∧ (∀ j, i ≤ j → j < i' → ¬ accR T lo hi R b vl br j) ∧ G' 89 st = ((i' + 1 : Nat) : Int) ∧ G' 87 (st + 1) = ((b' : Nat) : Int) ∧ ∀ k, b'.testBit k = true → G' 84 k = vl' k) ∨ (v = 0 ∧ ∀ j, i ≤ j → j < R.length → ¬ accR T lo hi R b vl br j)) := by
  intro d
  induction d with
  | zero =>
    intro i fu G e1 e2 h h5 h88 h90 hrn hv
    obtain ⟨fu, rfl⟩ : ∃ t, fu = t + 1 := ⟨fu - 1, by omega⟩
    obtain ⟨h1, h2, h3, h4, h5', h6, h7, h8, h9, h10, h11, h12, h13⟩ := h
    exact ⟨0, G, st_135z (r25 := c135_25 f fu) h1.1 h1.2.1 h8 h9 h90 (by have := hrn.2.1; omega), fun _ _ _ _ _ => rfl, fun _ _ => rfl, .inr ⟨rfl, fun j y1 y2 => by omega⟩⟩
  | succ d ih =>
    intro i fu G e1 e2 h h5 h88 h90 hrn hv
    obtain ⟨fu, rfl⟩ : ∃ t, fu = t + 1 := ⟨fu - 1, by omega⟩
    have hb := h
    obtain ⟨h1, h2, h3, h4, h5', h6, h7, h8, h9, h10, h11, h12, h13⟩ := h
    have hR := h3.2.2.2.2.2.2.2
    have hlc := h3.2.2.2.2.1
    have hcap := h3.2.2.2.2.2.1
    have hi2 : i < R.length := by omega
    have ei : xwr ((i : Int) + 1) = ((i + 1 : Nat) : Int) := by rw [xwr_g _ (by omega) (by omega)]; omega
    have es : xwr ((st : Int) + 1) = ((st + 1 : Nat) : Int) := by rw [xwr_g _ (by omega) (by omega)]; omega
    obtain ⟨kl, kl1, kl2⟩ := hrn.2.2
    have lT : ∀ j, j < R.length → (R.getD j dRw).1.length = T.length := fun j hj => by rw [(hR j hj).1, h5']
    have out : ∀ j, j < R.length → la ≤ j → ¬ accR T lo hi R b vl br j := fun j hj hlj ⟨b', vl', y1, _⟩ => by
      have := (kl2 j hj (kl1.fit h6 (lT j hj) y1)).2
      omega
    by_cases hla : la ≤ i
    · exact ⟨0, G, st_135z (r25 := c135_25 f fu) h1.1 h1.2.1 h8 h9 h90 hla, fun _ _ _ _ _ => rfl, fun _ _ => rfl, .inr ⟨rfl, fun j y1 y2 => out j y2 (by omega)⟩⟩
    · obtain ⟨v, G1, g1, g2, g3⟩ := k_136 (f := f) (m := m) (vl := fun k => G 84 k) (by omega) hb hi2 (fun k _ => rfl)
      have hb1 : cLv S G1 u x l st b nv W cap K T R lo hi := hb.ge (fun a j y _ _ _ _ _ _ _ => g2 a j y)
      have h51 : G1 83 5 = br := by rw [g2 _ _ (by omega)]; exact h5
      have h881 : G1 88 st = (fi : Int) := by rw [g2 _ _ (by omega)]; exact h88
      have h901 : G1 90 st = (la : Int) := by rw [g2 _ _ (by omega)]; exact h90
      have h871 : G1 87 st = (b : Int) := by rw [g2 _ _ (by omega)]; exact h10
      have h61 : G1 83 6 = (st : Int) := by rw [g2 _ _ (by omega)]; exact h8
      have h84 : ∀ k, b.testBit k = true → G1 84 k = G 84 k := by
        rcases g3 with ⟨b', vl', y1, y2, y3⟩ | ⟨_, _, y3⟩
        · intro k hk
          have hk8 : k < 8 := Nat.lt_of_not_le (fun q => by rw [Nat.testBit_lt_two_pow (Nat.lt_of_lt_of_le h11 (Nat.pow_le_pow_right (by decide) q))] at hk; cases hk)
          rw [y3 k hk8]
          unfold fitR at y1
          split at y1
          · exact (mtc_ok T _ b _ b' vl' h6 (Nat.le_of_eq (lT i hi2).symm) y1).2.1 k hk
          · cases y1
        · exact y3
      have hv1 : ∀ k, b.testBit k = true → G1 84 k = vl k := fun k hk => by rw [h84 k hk, hv k hk]
      have go : ¬ accR T lo hi R b vl br i → c135_25 f (fu + 1) 83 (l : Int) x (i : Int) (S, G, m) = c135_25 f fu 83 (l : Int) x ((i + 1 : Nat) : Int) (S, G1, m) → ∃ v G', c135_25 f (fu + 1) 83 (l : Int) x (i : Int) (S, G, m) = some (v, (S, G', m)) ∧ (∀ a j, a ≠ 84 → ¬ (a = 89 ∧ j = st) → ¬ (a = 87 ∧ j = st + 1) → G' a j = G a j) ∧ (∀ k, b.testBit k = true → G' 84 k = G 84 k) ∧ ((v = 1 ∧ ∃ i' b' vl', i ≤ i' ∧ i' < R.length ∧ fitR T lo hi b vl (R.getD i' dRw) = some (b', vl') ∧ accR T lo hi R b vl br i' ∧ (∀ j, i ≤ j → j < i' → ¬ accR T lo hi R b vl br j) ∧ G' 89 st = ((i' + 1 : Nat) : Int) ∧ G' 87 (st + 1) = ((b' : Nat) : Int) ∧ ∀ k, b'.testBit k = true → G' 84 k = vl' k) ∨ (v = 0 ∧ ∀ j, i ≤ j → j < R.length → ¬ accR T lo hi R b vl br j)) := fun hn e => by
        obtain ⟨v2, G2, i1, i2, i3, i4⟩ := ih (i + 1) fu G1 (by omega) (by omega) hb1 h51 h881 h901 hrn hv1
        refine ⟨v2, G2, e.trans i1, fun a j y1 y2 y3 => by rw [i2 a j y1 y2 y3, g2 a j y1], fun k hk => by rw [i3 k hk, h84 k hk], ?_⟩
        rcases i4 with ⟨j1, i', b', vl', j2, j3, j4, j5, j6, j7, j8, j9⟩ | ⟨j1, j2⟩
        · refine .inl ⟨j1, i', b', vl', by omega, j3, j4, j5, fun j y1 y2 => ?_, j7, j8, j9⟩
          by_cases cj : j = i
          · rw [cj]; exact hn
          · exact j6 j (by omega) y2
        · refine .inr ⟨j1, fun j y1 y2 => ?_⟩
          by_cases cj : j = i
          · rw [cj]; exact hn
          · exact j2 j (by omega) y2
      have hv0 : ∀ k, b.testBit k = true → (fun k => G 84 k) k = vl k := hv
      have hv0' : ∀ k, b.testBit k = true → vl k = (fun k => G 84 k) k := fun k hk => (hv k hk).symm
      rcases g3 with ⟨b', vl', y1, y2, y3⟩ | ⟨y1, y2, y3⟩
      · subst y2
        obtain ⟨v2, w1, w2⟩ := fit_xt h6 (Nat.le_of_eq (lT i hi2).symm) hv0 y1
        have b8 : ∀ k, b'.testBit k = true → k < 8 := fun k hk => by
          have e : b' = b ||| qT T := by
            unfold fitR at y1
            split at y1
            · exact (mtc_ok T _ b _ b' vl' h6 (Nat.le_of_eq (lT i hi2).symm) y1).1
            · cases y1
          have hlt : b' < 2 ^ 8 := by rw [e]; exact Nat.or_lt_two_pow h11 (qT_lt h6 h7)
          exact Nat.lt_of_not_le (fun q => by rw [Nat.testBit_lt_two_pow (Nat.lt_of_lt_of_le hlt (Nat.pow_le_pow_right (by decide) q))] at hk; cases hk)
        have take : accR T lo hi R b vl br i → c135_25 f (fu + 1) 83 (l : Int) x (i : Int) (S, G, m) = c135_84 f 83 (i : Int) (b' : Int) (S, G1, m) → _ := fun ha e => by
          have e' := e.trans (st_135g (f := f) (m := m) (bp := b') hb1.1.1 hb1.1.2.1 h61 h9 ei es)
          exact (⟨1, _, e', fun a j z1 z2 z3 => by rw [xup2_n z3, xup2_n z2, g2 a j z1], fun k hk => by rw [xup2_n (by omega), xup2_n (by omega), h84 k hk], .inl ⟨rfl, i, b', v2, Nat.le_refl _, hi2, w1, ha, fun j z1 z2 => by omega, by rw [xup2_n (by omega), xup2_s], xup2_s _ _ _ _, fun k hk => by rw [xup2_n (by omega), xup2_n (by omega), y3 k (b8 k hk), w2 k hk]⟩⟩ : ∃ v G', c135_25 f (fu + 1) 83 (l : Int) x (i : Int) (S, G, m) = some (v, (S, G', m)) ∧ (∀ a j, a ≠ 84 → ¬ (a = 89 ∧ j = st) → ¬ (a = 87 ∧ j = st + 1) → G' a j = G a j) ∧ (∀ k, b.testBit k = true → G' 84 k = G 84 k) ∧ ((v = 1 ∧ ∃ i' b' vl', i ≤ i' ∧ i' < R.length ∧ fitR T lo hi b vl (R.getD i' dRw) = some (b', vl') ∧ accR T lo hi R b vl br i' ∧ (∀ j, i ≤ j → j < i' → ¬ accR T lo hi R b vl br j) ∧ G' 89 st = ((i' + 1 : Nat) : Int) ∧ G' 87 (st + 1) = ((b' : Nat) : Int) ∧ ∀ k, b'.testBit k = true → G' 84 k = vl' k) ∨ (v = 0 ∧ ∀ j, i ≤ j → j < R.length → ¬ accR T lo hi R b vl br j)))
        by_cases cbr : br ≠ 0
        · exact take ⟨b', v2, w1, .inl cbr⟩ (st_135b (r25 := c135_25 f fu) h1.1 h1.2.1 h8 h9 h90 (by omega) g1 h51 cbr)
        · have cbr0 : br = 0 := Decidable.not_not.mp cbr
          rw [cbr0] at h51
          by_cases cb : b' = b
          · exact take ⟨b', v2, w1, .inr (.inl cb)⟩ (st_135e (r25 := c135_25 f fu) h1.1 h1.2.1 hb1.1.2.1 h8 h61 h9 h90 (by omega) g1 h51 (by rw [cb]; exact h871))
          · obtain ⟨w, c1, c2, c3⟩ := k_137 (f := f) (m := m) hf hb1 hi2 h881 hrn w1
            have e := st_135r (r25 := c135_25 f fu) h1.1 h1.2.1 hb1.1.2.1 h8 h61 h9 h90 (by omega) g1 h51 h871 cb c1 ei
            rcases c2 with c2 | c2
            · rw [if_pos c2] at e
              exact take ⟨b', v2, w1, .inr (.inr (fun y => by have := c3.mpr y; omega))⟩ e
            · rw [if_neg (by omega)] at e
              refine go (fun ⟨b3, v3, z1, z2⟩ => ?_) e
              rw [w1] at z1
              injection z1 with z1
              injection z1 with z1 _
              rcases z2 with z2 | z2 | z2
              · exact cbr z2
              · exact cb (z1.trans z2)
              · exact z2 (c3.mp c2)
      · subst y1
        refine go (fun ⟨b3, v3, z1, _⟩ => ?_) (st_135n (r25 := c135_25 f fu) h1.1 h1.2.1 h8 h9 h90 (by omega) g1 ei)
        obtain ⟨v4, w1, _⟩ := fit_xt h6 (Nat.le_of_eq (lT i hi2).symm) hv0' z1
        rw [y2] at w1
        cases w1
end
