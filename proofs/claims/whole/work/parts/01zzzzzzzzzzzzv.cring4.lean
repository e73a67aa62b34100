/-! THE CLASS: workRing(), level after level -/
def xRg8 (s : pPg) (rg : Nat) (G G' : xG_) : Prop := ∀ b j, ¬ (83 ≤ b ∧ b ≤ 92) → ¬ (99 ≤ b ∧ b ≤ 105) → ¬ (b = 93 ∧ j = 15) → (∀ p, p < s.1.length → qK s p = rg → ¬ (108 + 6 * p ≤ b ∧ b ≤ 113 + 6 * p)) → G' b j = G b j
section
variable {f q nx r n rg mb p : Nat} {S : Nat → Nat × Nat × Nat} {G G' : xG_} {m : Nat × Nat} {s : pPg} {xp cp : Nat → Nat} {R R0 : Nat → List pRw} {cm lv x : Int} {r66 : Nat → Int → Int → Int → xT_ → Option (Int × xT_)}
theorem cWk.tb (h : cWk S G q nx s xp cp R) : qTb s R := fun p hp => by
  obtain ⟨b1, b2, b3, b4, b5, b6, b7⟩ := h.2 p hp
  refine ⟨b5, b4, fun w hw => ⟨?_, b6 w hw⟩⟩
  obtain ⟨j, hj, ej⟩ := List.getElem_of_mem hw
  have := (b3.2.2.2.2.2.2.2 j hj).1
  rw [getD_e hj, ej] at this
  exact this
theorem cWk.rl (h : cWk S G q nx s xp cp R) (hr : r < s.2.2.2.2.1.length) {xs : List Int} (hD : rlD (s.2.2.2.2.1.getD r dRu) R xs) : xs.length = (s.2.2.2.2.1.getD r dRu).2.2.2.1.length ∧ ∀ x ∈ xs, vOk x := by
  obtain ⟨u, K, pl, x7, x0, hX, hI, hnd, dd, hpB⟩ := h.rule hr
  have a6 := h.1.2.2.2.2.2
  have hm : s.2.2.2.2.1.getD r dRu ∈ s.2.2.2.2.1 := by rw [getD_e hr]; exact List.getElem_mem hr
  obtain ⟨w1, w2, w3, w4, w5, w6, w7, w8, w9⟩ := a6.1.1.2.2.2.2.2.2 _ hm
  refine rlD_ok a6.1 hm h.tb (fun _ => wx_all hX w8 (a6.1.2.1 _ hm).1 hnd hpB (fun l hl h3 => ?_)) hD
  obtain ⟨y1, y2⟩ := w9 _ (lt_in hl)
  have y3 := y2 h3
  have y4 : ((s.2.2.2.2.1.getD r dRu).2.2.2.2.2.getD l dLt).2.1 < s.1.length := by
    rcases y1 with ⟨_, _, z, _⟩ | ⟨z, _⟩
    · exact z
    · exact absurd z h3
  exact (h.2 ((s.2.2.2.2.1.getD r dRu).2.2.2.2.2.getD l dLt).2.1.toNat (by omega)).2.2.2.2.2.2
theorem cWk.wp (h : cWk S G q nx s xp cp R) : cWp S G q s.1.length (qK s) := by
  obtain ⟨⟨a1, a2, a3, a4, a5, a6⟩, b⟩ := h
  exact ⟨a3, a4, a5.1.1, a5.1.2.2.2.2.2.2.2.2.1, a5.2.2.1.1, a5.2.2.1.2.1, a5.2.1.2.2.2.2.2.2.2.1, fun j hj => a5.2.2.2.2.2.2.2.1.1 j hj⟩
theorem st_66y (hs : cSs S) (h15 : G 93 15 = cm) (hc : 0 < cm) (hlv : lv ≤ 1700) : c149_66b r66 f 93 (rg : Int) x lv (S, G, m) = c149_89 r66 f f 93 (rg : Int) x lv 0 (S, xup2 G 93 15 0, m) := by
  unfold c149_66b
  simp (disch := omega) only [cq_gi, cq_gr, cq_a, cq_s, cq_p, cq_pr, cq_is, cq_ar, cq_ab, cq_ln, xq_nz, Option.bind_some, xup2_n, xup2_s, Int.toNat_natCast, Int.reduceToNat, if_pos, if_neg, true_and, and_true, and_self, eq_self, if_true, reduceIte, not_true_eq_false, not_false_eq_true, or_true, true_or, s93 hs, h15]
theorem st_66n (hs : cSs S) (h15 : G 93 15 = 0) : c149_66b r66 f 93 (rg : Int) x lv (S, G, m) = c149_234 f 93 (rg : Int) (S, G, m) := by
  unfold c149_66b
  by_cases c : 1700 < lv
  · rw [if_pos c]
  · rw [if_neg c]
    simp (disch := omega) only [cq_gi, cq_gr, cq_a, cq_s, cq_p, cq_pr, cq_is, cq_ar, cq_ab, cq_ln, xq_nz, Option.bind_some, xup2_n, xup2_s, Int.toNat_natCast, Int.reduceToNat, if_pos, if_neg, true_and, and_true, and_self, eq_self, if_true, reduceIte, not_true_eq_false, not_false_eq_true, or_true, true_or, s93 hs, h15, Int.le_refl]
theorem ps_15 {v : Int} (hp : cPs G) : cPs (xup2 G 93 15 v) := hp.ge (fun b j hz => xup2_n (by
  rcases hz with z | z | z | z | z | z | z | ⟨z, z1, z2, k, z3⟩ | z | z | z | ⟨k, z1, z2, z3⟩ <;> omega))
/-- level after level -/
theorem k_149l (hf : 100003010 < f) (hxr : ∀ p, p < s.1.length → qK s p = rg → xp p = 108 + 6 * p ∧ cp p = 100) (hmb : ∀ j, mb.testBit j = true ↔ j < s.1.length ∧ qK s j = rg) (hmb16 : mb < 2 ^ 16) (h0 : ∀ p, p < s.1.length → qK s p = rg → R0 p = []) (hs0 : ∀ p, p < s.1.length → (R0 p).Pairwise rwLt) :
    ∀ (d n fu : Nat) (G : xG_) (R : Nat → List pRw) (cm : Int), 1601 ≤ qTo R s.1.length + d → d + 1 < fu → n ≤ qTo R s.1.length → cWk S G q nx s xp cp R → (∀ p, p < s.1.length → qK s p = rg → cRw S G (111 + 6 * p) (qN s p) 100 []) → wkC s rg R0 n R → G 93 15 = cm → 0 < cm →
      ∃ G', xRg8 s rg G G' ∧ cPs G' ∧ ((c149_66 f fu 93 (rg : Int) (mb : Int) ((n + 1 : Nat) : Int) (S, G, m) = some (0, (S, G', m)) ∧ wkO s rg R0) ∨
        ∃ R', c149_66 f fu 93 (rg : Int) (mb : Int) ((n + 1 : Nat) : Int) (S, G, m) = c149_234 f 93 (rg : Int) (S, G', m) ∧ cWk S G' q nx s xp cp R' ∧ wkE s rg R0 R') := by
  intro d
  induction d with
  | zero =>
    intro n fu G R cm h1 _ _ h _ _ _ _
    exfalso
    have := qTo_le (R := R) s.1.length (fun p hp => (h.2 p hp).2.2.2.2.1)
    have := h.1.2.2.2.2.2.1.1.1
    omega
  | succ d ih =>
    intro n fu G R cm h1 hfu hnq h hE hC hcm hc
    obtain ⟨fu, rfl⟩ : ∃ t, fu = t + 1 := ⟨fu - 1, by omega⟩
    have hnp : s.1.length ≤ 16 := h.1.2.2.2.2.2.1.1.1
    have hq1 := qTo_le (R := R) s.1.length (fun p hp => (h.2 p hp).2.2.2.2.1)
    have hn : n ≤ 1600 := by omega
    have hs := h.1.1
    have a6 := h.1.2.2.2.2.2
    obtain ⟨G1, hG1⟩ : ∃ G1, G1 = xup2 G 93 15 0 := ⟨_, rfl⟩
    have z1 : ∀ b j, ¬ (b = 93 ∧ j = 15) → G1 b j = G b j := fun b j y => by rw [hG1, xup2_n y]
    have hW1 : cWk S G1 q nx s xp cp R := h.ge (by rw [hG1]; exact ps_15 h.1.2.1) (z1 _ _ (by omega)) (fun j => z1 _ _ (by omega)) (fun k hk b y1 y2 j => z1 b j (by omega)) (fun b j y => z1 b j (by omega))
    have st : c149_66 f (fu + 1) 93 (rg : Int) (mb : Int) ((n + 1 : Nat) : Int) (S, G, m) = _ := st_66y (r66 := c149_66 f fu) (lv := ((n + 1 : Nat) : Int)) hs hcm hc (by omega)
    rw [← hG1] at st
    have hF1 : cLw S G1 s rg R (fun _ => []) := ⟨fun p hp hk => ⟨(hE p hp hk).ge (fun _ _ _ => rfl) (fun j => z1 _ _ (by omega)) (fun j => z1 _ _ (by omega)) (fun j => z1 _ _ (by omega)), List.Pairwise.nil, (fun r hr => by cases hr), (h.2 p hp).2.2.2.2.1⟩, fun _ _ _ => rfl, by rw [hG1, xup2_s, (qTo_0 s.1.length).mpr (fun _ _ => rfl)]; rfl⟩
    obtain ⟨G2, i1, i2, i3⟩ := k_149r (f := f) (m := m) (r66 := c149_66 f fu) hf (by omega : n ≤ 1700) hxr hmb hmb16 h0 hs0 hC s.2.2.2.2.1.length 0 f G1 (fun _ => []) (by omega) (by have := a6.1.1.2.2.2.2.2.1; omega) hW1 hF1 (fun p hp hk xs => ⟨fun ⟨y, y1, _⟩ => (nomatch y1), fun ⟨k, k1, _⟩ => by omega⟩)
    have fr12 : xRg8 s rg G G2 := fun b j y1 y2 y3 y4 => by rw [i1 b j y1 y2 y3 (fun p hp hk => by have := y4 p hp hk; omega), z1 b j y3]
    rcases i3 with ⟨j1, j2⟩ | ⟨F', j1, j2, j3⟩
    · exact ⟨G2, fr12, i2, .inl ⟨st.trans j1, n, R, hC, j2⟩⟩
    · have hW2 : cWk S G2 q nx s xp cp R := hW1.ge i2 (i1 _ _ (by omega) (by omega) (by omega) (fun p hp _ => by omega)) (fun j => i1 _ _ (by omega) (by omega) (by omega) (fun p hp _ => by omega)) (fun k hk b y1 y2 j => i1 b j (by omega) (by omega) (by omega) (fun p hp _ => by omega)) (fun b j y => i1 b j (by omega) (by omega) (by omega) (fun p hp _ => by omega))
      obtain ⟨G3, t1, t2, t3, t4⟩ := k_154 (f := f) (m := m) (rg := rg) (lv := ((n + 1 : Nat) : Int)) (W := qN s) (M := R) (F := F') (by omega) hs s.1.length 0 f G2 (by omega) (by omega) i2 hW2.wp (fun k _ hk1 hk2 => by
        obtain ⟨b1, b2, b3, b4, b5, b6, b7⟩ := hW2.2 k hk1
        obtain ⟨c1, c2⟩ := hxr k hk1 hk2
        rw [c1, c2] at b3
        obtain ⟨d1, d2, d3, d4⟩ := j2.1 k hk1 hk2
        refine ⟨(qN_c a6.1.1 k).2, b3, d1, b4, d2, d4, fun r hr z hz e => ?_⟩
        obtain ⟨_, _, _, _, _, _, _, y⟩ := (j3 k hk1 hk2 r.1).mp ⟨r, hr, rfl⟩
        exact y z hz e)
      have st2 := st.trans j1
      have e154 : c154 f 93 (rg : Int) ((n + 1 : Nat) : Int) (S, G2, m) = some (S, G3, m) := t1
      rw [e154, Option.bind_some] at st2
      -- the rows behind the level
      have hex : ∀ k, ∃ M' : List pRw, ((k < s.1.length ∧ qK s k = rg) → cRw S G3 (108 + 6 * k) (qN s k) 100 M' ∧ cRw S G3 (111 + 6 * k) (qN s k) 100 [] ∧ M'.Pairwise rwLt ∧ M'.length = (R k).length + (F' k).length ∧ ∀ z, z ∈ M' ↔ z ∈ R k ∨ ∃ r ∈ F' k, z = (r.1, ((n + 1 : Nat) : Int))) ∧ (¬ (k < s.1.length ∧ qK s k = rg) → M' = R k) := fun k => by
        by_cases c : k < s.1.length ∧ qK s k = rg
        · obtain ⟨M', y⟩ := t4 k (Nat.zero_le _) c.1 c.2
          exact ⟨M', fun _ => y, fun y => absurd c y⟩
        · exact ⟨R k, fun y => absurd y c, fun _ => rfl⟩
      obtain ⟨R', hR'⟩ := Classical.axiomOfChoice hex
      have z3 : ∀ b j, b ≠ 103 → (∀ p, p < s.1.length → qK s p = rg → ¬ (108 + 6 * p ≤ b ∧ b ≤ 113 + 6 * p)) → G3 b j = G2 b j := fun b j y1 y2 => t2 b j y1 (fun k _ hk1 hk2 => y2 k hk1 hk2)
      have fr3 : xRg8 s rg G G3 := fun b j y1 y2 y3 y4 => by rw [z3 b j (by omega) y4, fr12 b j y1 y2 y3 y4]
      have mem : ∀ k, k < s.1.length → qK s k = rg → ∀ z, z ∈ R' k ↔ z ∈ R k ∨ (z.2 = ((n + 1 : Nat) : Int) ∧ stD s rg ((n + 1 : Nat) : Int) R s.2.2.2.2.1.length k z.1) := fun k hk1 hk2 z => by
        rw [((hR' k).1 ⟨hk1, hk2⟩).2.2.2.2 z]
        constructor
        · rintro (y | ⟨r, r1, r2⟩)
          · exact .inl y
          · exact .inr ⟨by rw [r2], (j3 k hk1 hk2 z.1).mp ⟨r, r1, by rw [r2]⟩⟩
        · rintro (y | ⟨y1, y2⟩)
          · exact .inl y
          · obtain ⟨r, r1, r2⟩ := (j3 k hk1 hk2 z.1).mpr y2
            exact .inr ⟨r, r1, Prod.ext r2.symm y1⟩
      have hW3 : cWk S G3 q nx s xp cp R' := by
        obtain ⟨⟨a1, a2, a3, a4, a5, a6⟩, b⟩ := hW2
        refine ⟨⟨a1, t3, by rw [z3 _ _ (by omega) (fun p hp _ => by omega)]; exact a3, a4, a5.ge (Nat.le_refl _) (fun _ _ => rfl) (fun a j y _ => z3 a j (by omega) (fun p hp _ => by omega)), a6⟩, fun k hk => ?_⟩
        obtain ⟨b1, b2, b3, b4, b5, b6, b7⟩ := b k hk
        have e94 : G3 94 k = G2 94 k := z3 _ _ (by omega) (fun p hp _ => by omega)
        by_cases ck : qK s k = rg
        · obtain ⟨y1, y2, y3, y4, y5⟩ := (hR' k).1 ⟨hk, ck⟩
          obtain ⟨c1, c2⟩ := hxr k hk ck
          obtain ⟨d1, d2, d3, d4⟩ := j2.1 k hk ck
          refine ⟨by rw [e94]; exact b1, b2, by rw [c1, c2]; exact y1, y3, by omega, fun r hr => ?_, fun r hr => ?_⟩
          · rcases (mem k hk ck r).mp hr with w | ⟨_, k', k1, k2, k3, k4, k5, k6, k7⟩
            · exact b6 r w
            · exact (hW1.rl k2 k6).2
          · rcases (mem k hk ck r).mp hr with w | ⟨w, _⟩
            · exact b7 r w
            · omega
        · have hz : ∀ c j, xp k ≤ c → c ≤ xp k + 2 → G3 c j = G2 c j := fun c j y1 y2 => z3 c j (by omega) (fun p hp hk' => by
            have : k ≠ p := fun e => by rw [e] at ck; exact ck hk'
            omega)
          rw [(hR' k).2 (fun y => ck y.2)]
          exact ⟨by rw [e94]; exact b1, b2, b3.ge (fun _ _ _ => rfl) (fun j => hz _ _ (by omega) (by omega)) (fun j => hz _ _ (by omega) (by omega)) (fun j => hz _ _ (by omega) (by omega)), b4, b5, b6, b7⟩
      have hcm3 : G3 93 15 = (qTo F' s.1.length : Int) := by rw [z3 _ _ (by omega) (fun p hp _ => by omega)]; exact j2.2.2
      have isl : isLv s rg ((n + 1 : Nat) : Int) R R' := fun k hk => by
        by_cases ck : qK s k = rg
        · exact ⟨((hR' k).1 ⟨hk, ck⟩).2.2.1, mem k hk ck⟩
        · rw [(hR' k).2 (fun y => ck y.2)]
          refine ⟨(h.2 k hk).2.2.2.1, fun y => ⟨.inl, fun w => w.elim id (fun w => ?_)⟩⟩
          obtain ⟨_, _, _, _, _, w5, _⟩ := w
          exact absurd w5 ck
      by_cases cz : qTo F' s.1.length = 0
      · -- nothing came
        have hno := (qTo_0 s.1.length).mp cz
        obtain ⟨fu, rfl⟩ : ∃ t, fu = t + 1 := ⟨fu - 1, by omega⟩
        have st3 := st2.trans (st_66n (r66 := c149_66 f fu) (rg := rg) (x := (mb : Int)) (lv := ((n + 2 : Nat) : Int)) (m := m) hs (by rw [hcm3, cz]; rfl))
        have eR : ∀ k, R' k = R k := fun k => by
          by_cases c : k < s.1.length ∧ qK s k = rg
          · refine srt_ext (lt := rwLt) (fun a => vLt_irr a.1) (fun a b c => vLt_tr) _ _ ((hR' k).1 c).2.2.1 (h.2 k c.1).2.2.2.1 (fun z => ?_)
            rw [((hR' k).1 c).2.2.2.2 z, hno k c.1]
            exact ⟨fun y => y.elim id (fun ⟨r, r1, _⟩ => (nomatch r1)), .inl⟩
          · exact (hR' k).2 c
        refine ⟨G3, fr3, t3, .inr ⟨R', st3, hW3, n, ?_, fun p xs hp hst => ?_⟩⟩
        · rw [funext eR]; exact hC
        · rw [funext eR] at hst
          have hk : qK s p = rg := by obtain ⟨_, _, _, _, w5, _⟩ := hst; exact w5
          obtain ⟨y, y1, _⟩ := (j3 p hp hk xs).mpr hst
          rw [hno p hp] at y1
          cases y1
      · have hne : ∃ p, p < s.1.length ∧ F' p ≠ [] := Classical.byContradiction (fun q => cz ((qTo_0 s.1.length).mpr (fun p hp => Classical.byContradiction (fun w => q ⟨p, hp, w⟩))))
        obtain ⟨p0, hp0, hne0⟩ := hne
        have hk0 : qK s p0 = rg := Classical.byContradiction (fun q => hne0 (j2.2.1 p0 hp0 q))
        have hlen : ∀ k, k < s.1.length → (R k).length ≤ (R' k).length := fun k hk => by
          by_cases ck : qK s k = rg
          · rw [((hR' k).1 ⟨hk, ck⟩).2.2.2.1]; omega
          · rw [(hR' k).2 (fun y => ck y.2)]; exact Nat.le_refl _
        have hq2 : qTo R s.1.length < qTo R' s.1.length := (qTo_lt s.1.length hlen).2 ⟨p0, hp0, by
          rw [((hR' p0).1 ⟨hp0, hk0⟩).2.2.2.1]
          have := List.length_pos_iff.mpr hne0
          omega⟩
        obtain ⟨y0, hy0⟩ := List.exists_mem_of_ne_nil _ hne0
        obtain ⟨G4, u1, u2, u3⟩ := ih (n + 1) fu G3 R' (qTo F' s.1.length : Int) (by omega) (by omega) (by omega) hW3 (fun p hp hk => ((hR' p).1 ⟨hp, hk⟩).2.1) ⟨R, hC, ⟨p0, y0.1, hp0, (j3 p0 hp0 hk0 y0.1).mp ⟨y0, hy0, rfl⟩⟩, isl⟩ hcm3 (by omega)
        refine ⟨G4, fun b j y1 y2 y3 y4 => (u1 b j y1 y2 y3 y4).trans (fr3 b j y1 y2 y3 y4), u2, ?_⟩
        rw [st2]
        exact u3
end
