/-! THE CLASS: changeLoose() -/
/-- what a CHANGE makes of the rows of its predicate -/
def chY1 (ad : Int) (k : Nat) (kl : List Int) (L : List pRw) (y : pRw) : Prop := (ad = 0 ∧ y ∈ L ∧ y.1 ≠ kl) ∨ (ad ≠ 0 ∧ (∃ w, w ∈ L ∧ w.1 = kl) ∧ y ∈ L) ∨ (ad ≠ 0 ∧ (∀ w, w ∈ L → w.1 ≠ kl) ∧ ((y ∈ L ∧ ¬ (0 < k ∧ y.1.take k = kl.take k)) ∨ y = (kl, 0)))
/-- keys are told once -/
def kU (k : Nat) (L : List pRw) : Prop := 0 < k → ∀ a ∈ L, ∀ b ∈ L, a.1.take k = b.1.take k → a = b
theorem rw_one {L : List pRw} (h : L.Pairwise rwLt) {a b : pRw} (ha : a ∈ L) (hb : b ∈ L) (e : a.1 = b.1) : a = b := by
  obtain ⟨i, hi, ei⟩ := List.getElem_of_mem ha
  obtain ⟨j, hj, ej⟩ := List.getElem_of_mem hb
  have key : ∀ {i j : Nat} (hi : i < L.length) (hj : j < L.length), i < j → L[i].1 = L[j].1 → False := fun {i j} hi hj hij e => by
    have h' : vLt L[i].1 L[j].1 := List.pairwise_iff_getElem.mp h i j hi hj hij
    rw [e] at h'
    exact vLt_irr _ h'
  by_cases c : i < j
  · exact (key hi hj c (by rw [ei, ej]; exact e)).elim
  · by_cases c2 : j < i
    · exact (key hj hi c2 (by rw [ei, ej]; exact e.symm)).elim
    · have : i = j := by omega
      subst this
      rw [← ei, ← ej]
theorem rm_mem {L : List pRw} (h : L.Pairwise rwLt) {lo : Nat} (hl : lo < L.length) : (L.take lo ++ L.drop (lo + 1)).Pairwise rwLt ∧ (L.take lo ++ L.drop (lo + 1)).length + 1 = L.length ∧ ∀ z, z ∈ L.take lo ++ L.drop (lo + 1) ↔ z ∈ L ∧ z.1 ≠ (L.getD lo dRw).1 := by
  rw [← List.eraseIdx_eq_take_drop_succ]
  refine ⟨h.sublist (List.eraseIdx_sublist L lo), by rw [List.length_eraseIdx_of_lt hl]; omega, fun z => ?_⟩
  rw [List.mem_eraseIdx_iff_getElem, getD_e hl]
  constructor
  · rintro ⟨i, hi, ne, rfl⟩
    refine ⟨List.getElem_mem hi, fun e => ne ?_⟩
    by_cases c : i < lo
    · have h' : vLt L[i].1 L[lo].1 := List.pairwise_iff_getElem.mp h i lo hi hl c
      rw [e] at h'
      exact (vLt_irr _ h').elim
    · by_cases c2 : lo < i
      · have h' : vLt L[lo].1 L[i].1 := List.pairwise_iff_getElem.mp h lo i hl hi c2
        rw [e] at h'
        exact (vLt_irr _ h').elim
      · omega
  · rintro ⟨hz, ne⟩
    obtain ⟨i, hi, ei⟩ := List.getElem_of_mem hz
    refine ⟨i, hi, fun e => ne ?_, ei⟩
    subst e
    rw [ei]
section
variable {f n k : Nat} {S : Nat → Nat × Nat × Nat} {G G1 G2 : xG_} {m : Nat × Nat} {L : List pRw} {kl : List Int} {ad v w v2 : Int} {T : xT_} {lo : Nat}
theorem st_77m (hv : v < 0) : c77 f 99 v T = some T := by
  unfold c77 c77_12
  rw [if_pos hv]
theorem st_147d (hs : cSs S) (hp : cPs G) (e : c74 f 99 103 (S, G, m) = some (v, (S, G, m))) (e2 : c77 f 99 v (S, G, m) = some T) : c147 f 93 0 (k : Int) (S, G, m) = some T := by
  have h0 : ¬ ¬ (0 : Int) = 0 := fun q => q rfl
  unfold c147
  simp (disch := omega) only [cq_gi, cq_gr, cq_a, cq_s, cq_p, cq_pr, cq_is, cq_ar, cq_ab, cq_ln, xq_nz, Option.bind_some, xup2_n, xup2_s, Int.toNat_natCast, Int.reduceToNat, if_pos, if_neg, true_and, and_true, and_self, eq_self, if_true, reduceIte, not_true_eq_false, not_false_eq_true, or_true, true_or, s93 hs, s99 hs, p93_7 hp, p93_9 hp, e, e2, h0]
theorem st_147o (hs : cSs S) (hp : cPs G) (ha : ad ≠ 0) (e : c74 f 99 103 (S, G, m) = some (v, (S, G, m))) (hv : 0 ≤ v ∨ k = 0) : c147 f 93 ad (k : Int) (S, G, m) = c147_64 f 93 v (S, G, m) := by
  by_cases c : 0 ≤ v
  · unfold c147
    simp (disch := omega) only [cq_gi, cq_gr, cq_a, cq_s, cq_p, cq_pr, cq_is, cq_ar, cq_ab, cq_ln, xq_nz, Option.bind_some, xup2_n, xup2_s, Int.toNat_natCast, Int.reduceToNat, if_pos, if_neg, true_and, and_true, and_self, eq_self, if_true, reduceIte, not_true_eq_false, not_false_eq_true, or_true, true_or, s93 hs, s99 hs, p93_7 hp, p93_9 hp, e, ha, c]
  · have hk : (k : Int) ≤ 0 := by omega
    unfold c147
    simp (disch := omega) only [cq_gi, cq_gr, cq_a, cq_s, cq_p, cq_pr, cq_is, cq_ar, cq_ab, cq_ln, xq_nz, Option.bind_some, xup2_n, xup2_s, Int.toNat_natCast, Int.reduceToNat, if_pos, if_neg, true_and, and_true, and_self, eq_self, if_true, reduceIte, not_true_eq_false, not_false_eq_true, or_true, true_or, s93 hs, s99 hs, p93_7 hp, p93_9 hp, e, ha, c, hk]
theorem st_147k (hs : cSs S) (hp : cPs G) (hp1 : cPs G1) (ha : ad ≠ 0) (e : c74 f 99 103 (S, G, m) = some (v, (S, G, m))) (hv : v < 0) (hk : 0 < k) (e2 : c75 f 99 103 (k : Int) (S, G, m) = some (w, (S, G, m))) (e3 : c77 f 99 w (S, G, m) = some (S, G1, m)) (e4 : c74 f 99 103 (S, G1, m) = some (v2, (S, G1, m))) : c147 f 93 ad (k : Int) (S, G, m) = c147_64 f 93 v2 (S, G1, m) := by
  have c : ¬ 0 ≤ v := by omega
  have hk : ¬ (k : Int) ≤ 0 := by omega
  unfold c147
  simp (disch := omega) only [cq_gi, cq_gr, cq_a, cq_s, cq_p, cq_pr, cq_is, cq_ar, cq_ab, cq_ln, xq_nz, Option.bind_some, xup2_n, xup2_s, Int.toNat_natCast, Int.reduceToNat, if_pos, if_neg, true_and, and_true, and_self, eq_self, if_true, reduceIte, not_true_eq_false, not_false_eq_true, or_true, true_or, s93 hs, s99 hs, p93_7 hp, p93_9 hp, p93_7 hp1, p93_9 hp1, e, ha, c, hk, e2, e3, e4]
theorem st_147y (hv : 0 ≤ v) : c147_64 f 93 v T = some T := by
  unfold c147_64 c147_83
  rw [if_pos hv]
theorem st_147i (hs : cSs S) (hp : cPs G) (hv : ¬ 0 ≤ v) (ev : xwr (-1 - v) = (lo : Int)) (e : c76 f 99 (lo : Int) 103 0 (S, G, m) = some T) : c147_64 f 93 v (S, G, m) = some T := by
  unfold c147_64 c147_83
  simp (disch := omega) only [cq_gi, cq_gr, cq_a, cq_s, cq_p, cq_pr, cq_is, cq_ar, cq_ab, cq_ln, xq_nz, Option.bind_some, xup2_n, xup2_s, Int.toNat_natCast, Int.reduceToNat, if_pos, if_neg, true_and, and_true, and_self, eq_self, if_true, reduceIte, not_true_eq_false, not_false_eq_true, or_true, true_or, s93 hs, s99 hs, p93_7 hp, p93_9 hp, hv, ev, e]
theorem ps_lo {G G' : xG_} (hp : cPs G) (h : xFx 99 G G') : cPs G' := hp.ge (fun b j hz => by
  have : ¬ (b = 99 ∧ j = 1) ∧ b ≠ 99 + 1 ∧ b ≠ 99 + 2 := by
    rcases hz with z | z | z | z | z | z | z | ⟨z, z1, z2, k, z3⟩ | z | z | z | ⟨k, z1, z2, z3⟩ <;> omega
  exact h b j this.1 this.2.1 this.2.2)
/-- changeLoose() -/
theorem k_147 (hf : 600 < f) (hs : cSs S) (hp : cPs G) (hL : cRw S G 99 n 512 L) (hLs : L.Pairwise rwLt) (hk : kl.length = n) (hn4 : n ≤ 4) (hK : cKl S G 103 kl) (hl : L.length < 512) (hkn : k ≤ n) (hU : kU k L) : ∃ G' L', c147 f 93 ad (k : Int) (S, G, m) = some (S, G', m) ∧ xFx 99 G G' ∧ cPs G' ∧ cRw S G' 99 n 512 L' ∧ L'.Pairwise rwLt ∧ L'.length ≤ L.length + 1 ∧ ∀ y, y ∈ L' ↔ chY1 ad k kl L y := by
  have hLl : ∀ {G' : xG_} {M : List pRw}, cRw S G' 99 n 512 M → ∀ r ∈ M, r.1.length = kl.length := fun {G' M} hM r hr => by
    obtain ⟨j, hj, ej⟩ := List.getElem_of_mem hr
    have := (hM.2.2.2.2.2.2.2 j hj).1
    rw [getD_e hj, ej] at this
    rw [hk]; exact this
  obtain ⟨v, v1, l0, v2, v3⟩ := k_74 (f := f) (m := m) hf hL hLs hk hK
  -- the row is put in
  have ins : ∀ (G1 : xG_) (M : List pRw) (v : Int) (lo : Nat), xFx 99 G G1 → cPs G1 → cRw S G1 99 n 512 M → M.Pairwise rwLt → M.length ≤ L.length → isSr M kl 0 lo → v = -1 - (lo : Int) → (∀ r ∈ M, r.1 ≠ kl) → ∃ G' L', c147_64 f 93 v (S, G1, m) = some (S, G', m) ∧ xFx 99 G G' ∧ cPs G' ∧ cRw S G' 99 n 512 L' ∧ L'.Pairwise rwLt ∧ L'.length ≤ L.length + 1 ∧ ∀ y, y ∈ L' ↔ y ∈ M ∨ y = (kl, 0) := by
    intro G1 M v lo q1 q2 q3 q4 q5 q6 q7 q8
    have hlo := q6.1
    obtain ⟨G2, g1, g2, g3⟩ := k_76 (f := f) (m := m) (rk := 0) (p := lo) (a := 103) q3 hlo (by omega) (s103 hs) (by omega) (by decide) hk (fun c hc => by rw [q1 _ _ (by omega) (by omega) (by omega)]; exact hK.2 c (by omega))
    obtain ⟨s1, s2⟩ := ins_s (rk := 0) q4 (hLl q3) q6 q8
    refine ⟨G2, _, st_147i hs q2 (by omega) (by rw [q7, xwr_g _ (by omega) (by omega)]; omega) g1, fun b j y1 y2 y3 => by rw [g2 b j y1 y2 y3, q1 b j y1 y2 y3], ps_lo q2 g2, g3, s1, by rw [len_i9 hlo]; omega, s2⟩
  by_cases ca : ad = 0
  · subst ca
    rcases v3 with ⟨y1, y2, y3⟩ | ⟨y1, y2⟩
    · subst y1
      obtain ⟨G1, g1, g2, g3⟩ := k_77 (f := f) (m := m) hL y2
      obtain ⟨r1, r2, r3⟩ := rm_mem hLs y2
      refine ⟨G1, _, st_147d hs hp v1 g1, g2, ps_lo hp g2, g3, r1, by omega, fun y => ?_⟩
      rw [r3 y, y3]
      unfold chY1
      exact ⟨fun q => .inl ⟨rfl, q⟩, fun q => q.elim (fun q => q.2) (fun q => q.elim (fun q => absurd rfl q.1) (fun q => absurd rfl q.1))⟩
    · refine ⟨G, L, st_147d hs hp v1 (st_77m (by omega)), fun _ _ _ _ _ => rfl, hp, hL, hLs, by omega, fun y => ?_⟩
      unfold chY1
      exact ⟨fun q => .inl ⟨rfl, q, y2 y q⟩, fun q => q.elim (fun q => q.2.1) (fun q => q.elim (fun q => absurd rfl q.1) (fun q => absurd rfl q.1))⟩
  · rcases v3 with ⟨y1, y2, y3⟩ | ⟨y1, y2⟩
    · refine ⟨G, L, (st_147o hs hp ca v1 (.inl (by omega))).trans (st_147y (by omega)), fun _ _ _ _ _ => rfl, hp, hL, hLs, by omega, fun y => ?_⟩
      have hw : L.getD l0 dRw ∈ L := by rw [getD_e y2]; exact List.getElem_mem y2
      unfold chY1
      exact ⟨fun q => .inr (.inl ⟨ca, ⟨_, hw, y3⟩, q⟩), fun q => q.elim (fun q => absurd q.1 ca) (fun q => q.elim (fun q => q.2.2) (fun q => absurd y3 (q.2.1 _ hw)))⟩
    · by_cases ck : k = 0
      · obtain ⟨G2, L', i1, i2, i3, i4, i5, i6, i7⟩ := ins G L v l0 (fun _ _ _ _ _ => rfl) hp hL hLs (Nat.le_refl _) v2 y1 y2
        refine ⟨G2, L', (st_147o hs hp ca v1 (.inr ck)).trans i1, i2, i3, i4, i5, i6, fun y => ?_⟩
        rw [i7 y]
        unfold chY1
        constructor
        · rintro (q | q)
          · exact .inr (.inr ⟨ca, y2, .inl ⟨q, fun z => by omega⟩⟩)
          · exact .inr (.inr ⟨ca, y2, .inr q⟩)
        · rintro (q | ⟨_, ⟨w, q1, q2⟩, _⟩ | ⟨_, _, q | q⟩)
          · exact absurd q.1 ca
          · exact absurd q2 (y2 w q1)
          · exact .inl q.1
          · exact .inr q
      · have hkl : (kl.take k).length = k := by rw [List.length_take]; omega
        have hK' : cKl S G 103 (kl.take k) := ⟨⟨4, s103 hs, by omega⟩, fun c hc => by
          rw [hK.2 c (by omega)]
          rw [List.getD_eq_getElem?_getD, List.getD_eq_getElem?_getD, List.getElem?_take_of_lt (by omega)]⟩
        obtain ⟨w, w1, w2⟩ := k_75 (f := f) (m := m) (kl := kl.take k) hf hL hLs (by omega) hK'
        rw [hkl] at w1 w2
        have rest : ∀ (G1 : xG_) (M : List pRw), c77 f 99 w (S, G, m) = some (S, G1, m) → xFx 99 G G1 → cPs G1 → cRw S G1 99 n 512 M → M.Pairwise rwLt → M.length ≤ L.length → (∀ z, z ∈ M ↔ z ∈ L ∧ ¬ z.1.take k = kl.take k) → ∃ G' L', c147 f 93 ad (k : Int) (S, G, m) = some (S, G', m) ∧ xFx 99 G G' ∧ cPs G' ∧ cRw S G' 99 n 512 L' ∧ L'.Pairwise rwLt ∧ L'.length ≤ L.length + 1 ∧ ∀ y, y ∈ L' ↔ chY1 ad k kl L y := by
          intro G1 M q1 q2 q3 q4 q5 q6 q7
          have hn : ∀ r ∈ M, r.1 ≠ kl := fun r hr => y2 r ((q7 r).mp hr).1
          obtain ⟨u, u1, l1, u2, u3⟩ := k_74 (f := f) (m := m) hf q4 q5 hk ⟨hK.1, fun c hc => by rw [q2 _ _ (by omega) (by omega) (by omega)]; exact hK.2 c hc⟩
          have eu : u = -1 - (l1 : Int) := by
            rcases u3 with ⟨z1, z2, z3⟩ | ⟨z1, z2⟩
            · exact absurd z3 (hn _ (by rw [getD_e z2]; exact List.getElem_mem z2))
            · exact z1
          obtain ⟨G2, L', i1, i2, i3, i4, i5, i6, i7⟩ := ins G1 M u l1 q2 q3 q4 q5 q6 u2 eu hn
          refine ⟨G2, L', (st_147k hs hp q3 ca v1 (by omega) (by omega) w1 q1 u1).trans i1, i2, i3, i4, i5, i6, fun y => ?_⟩
          rw [i7 y, q7 y]
          unfold chY1
          constructor
          · rintro (⟨q1, q2⟩ | q)
            · exact .inr (.inr ⟨ca, y2, .inl ⟨q1, fun z => q2 z.2⟩⟩)
            · exact .inr (.inr ⟨ca, y2, .inr q⟩)
          · rintro (q | ⟨_, ⟨w, q1, q2⟩, _⟩ | ⟨_, _, q | q⟩)
            · exact absurd q.1 ca
            · exact absurd q2 (y2 w q1)
            · exact .inl ⟨q.1, fun z => q.2 ⟨Nat.pos_of_ne_zero ck, z⟩⟩
            · exact .inr q
        rcases w2 with ⟨z1, z2⟩ | ⟨lo, z1, z2, z3, z4⟩
        · exact rest G L (st_77m (by omega)) (fun _ _ _ _ _ => rfl) hp hL hLs (Nat.le_refl _) (fun z => ⟨fun q => ⟨q, z2 z q⟩, fun q => q.1⟩)
        · subst z1
          obtain ⟨G1, g1, g2, g3⟩ := k_77 (f := f) (m := m) hL z2
          obtain ⟨r1, r2, r3⟩ := rm_mem hLs z2
          have hw : L.getD lo dRw ∈ L := by rw [getD_e z2]; exact List.getElem_mem z2
          refine rest G1 _ g1 g2 (ps_lo hp g2) g3 r1 (by omega) (fun z => ?_)
          rw [r3 z]
          refine and_congr_right (fun hz => ⟨fun q e => q ?_, fun q e => q ?_⟩)
          · rw [hU (by omega) z hz _ hw (by rw [e, z3])]
          · rw [e, z3]
end
