/-! The reference's facts: one less, all copied -/
section
variable {f b : Nat}
theorem l_199_70 {N : Nat} (hf : 10 < f) (hN : N < 3400) : ∀ (d k fu : Nat) (G : xG_), k + d = N → d < fu → G b 3 = (N : Int) → ∃ G', g199_70 f fu b (k : Int) G = some G' ∧ (∀ j, k ≤ j → j < N → fRw b G (j + 1) G' j) ∧ (∀ j, j < k → fRw b G j G' j) ∧ ∀ a j, a ≠ b + 1 → a ≠ b + 2 → a ≠ b + 3 → G' a j = G a j := by
  intro d
  induction d with
  | zero =>
    intro k fu G h1 h2 h3
    obtain ⟨fu, rfl⟩ : ∃ t, fu = t + 1 := ⟨fu - 1, by omega⟩
    refine ⟨G, ?_, fun j _ _ => by omega, fun j _ => .rf _ _ _, fun _ _ _ _ _ => rfl⟩
    show g199_70b (g199_70 f fu) f _ _ _ = _
    unfold g199_70b
    rw [h3, if_pos (by omega)]
  | succ d ih =>
    intro k fu G h1 h2 h3
    obtain ⟨fu, rfl⟩ : ∃ t, fu = t + 1 := ⟨fu - 1, by omega⟩
    obtain ⟨G1, q1, q2, q3, q4⟩ := l_200 (f := f) (b := b) (x := k + 1) (y := k) hf (by omega) (by omega) (by omega) G
    obtain ⟨G', k1, k2, k3, k4⟩ := ih (k + 1) fu G1 (by omega) (by omega) (by rw [q4 _ _ (by omega) (by omega) (by omega)]; exact h3)
    have e1 : xwr ((k : Int) + 1) = ((k + 1 : Nat) : Int) := by rw [xwr_g _ (by omega) (by omega)]; omega
    refine ⟨G', ?_, fun j h1 h2 => ?_, fun j h => (q3 j (by omega)).tr (k3 j (by omega)), fun a j h1 h2 h3 => by rw [k4 a j h1 h2 h3, q4 a j h1 h2 h3]⟩
    · show g199_70b (g199_70 f fu) f _ _ _ = _
      unfold g199_70b
      rw [h3, if_neg (by omega), e1, q1, Option.bind_some]
      exact k1
    · by_cases cj : j = k
      · rw [cj]
        exact q2.tr (k3 k (by omega))
      · exact (q3 (j + 1) (by omega)).tr (k2 j (by omega) h2)
/-- remove -/
theorem l_199 {c i : Nat} {G : xG_} {F : List pFc} {x : pFc} (hf : 3500 < f) (hb : isFb b) (h : rFa G b F) (hs : F.Pairwise fLt) (hx : rVe G c i x.2) :
    ∃ G' F', g199 f b x.1 (x.2.length : Int) c (i : Int) G = some G' ∧ rFa G' b F' ∧ F'.Pairwise fLt ∧ (∀ y, y ∈ F' ↔ y ∈ F ∧ y ≠ x) ∧ xfy b G G' := by
  obtain ⟨k, e1, e2⟩ := l_196 hf hb h hs hx
  have hm := e2.mem hs
  have hk := e2.1
  have hl := h.2.1
  by_cases c0 : x ∈ F
  · obtain ⟨c1, c2⟩ := hm.mp c0
    obtain ⟨q1, q2, q3, q4⟩ := h.2.2 _ c1
    have e4 : xwr (4 * (k : Int)) = ((4 * k : Nat) : Int) := by rw [xwr_g _ (by omega) (by omega)]; omega
    obtain ⟨G1, a1, a2, a3, a4⟩ := l_199_70 (f := f) (b := b) (N := F.length - 1) (by omega) (by omega) (F.length - 1 - k) k f (xup2 G b 3 ((F.length - 1 : Nat) : Int)) (by omega) (by omega) (xup2_s _ _ _ _)
    have r0 : ∀ j, fRw b G j (xup2 G b 3 ((F.length - 1 : Nat) : Int)) j := fun j => ⟨xup2_n (by omega), xup2_n (by omega), fun z _ => xup2_n (by omega)⟩
    refine ⟨G1, F.take k ++ F.drop (k + 1), ?_, ⟨by rw [len_del c1, a4 _ _ (by omega) (by omega) (by omega), xup2_s], by rw [len_del c1]; omega, fun j hj => ?_⟩, srt_del hs k, fun y => by rw [srt_del_mem fLt_irr (d := dFc) hs c1, c2], fun a j h1 h2 h3 h4 => by rw [a4 a j h2 h3 h4, xup2_n h1]⟩
    · unfold g199
      rw [e1, Option.bind_some]
      show (if (k : Int) = G b 3 then _ else _) = _
      rw [h.1, if_neg (by omega), if_pos (by omega), if_pos (by omega)]
      show Option.bind (g195 f (G (b + 1) ((k : Int)).toNat) (G (b + 3) ((k : Int)).toNat) (b + 2) (xwr (4 * (k : Int))) _ _ _ _ G) _ = _
      rw [Int.toNat_natCast, q1, q2, e4, l_195 (by omega) (h.ve hb c1) hx, Option.bind_some]
      have c3 : (fCmp ((F.getD k dFc).1, (F.getD k dFc).2) (x.1, x.2), G).1 = 0 := by rw [c2]; exact fCmp_self x
      have e5 : xwr ((F.length : Int) - 1) = ((F.length - 1 : Nat) : Int) := by rw [xwr_g _ (by omega) (by omega)]; omega
      rw [if_pos c3]
      show Option.bind (some (xup2 G b 3 (xwr (G b 3 - 1)))) _ = _
      rw [h.1, e5, Option.bind_some]
      exact a1
    · rw [len_del c1] at hj
      rw [getD_del c1]
      by_cases j1 : j < k
      · rw [if_pos j1]
        exact h.at (by omega) ((r0 j).tr (a3 j j1))
      · rw [if_neg j1]
        exact h.at (by omega) ((r0 (j + 1)).tr (a2 j (by omega) hj))
  · refine ⟨G, F, ?_, h, hs, fun y => ⟨fun q => ⟨q, fun z => c0 (z ▸ q)⟩, fun q => q.1⟩, fun _ _ _ _ _ _ => rfl⟩
    unfold g199
    rw [e1, Option.bind_some]
    show (if (k : Int) = G b 3 then _ else _) = _
    rw [h.1]
    by_cases c1 : k < F.length
    · obtain ⟨q1, q2, q3, q4⟩ := h.2.2 _ c1
      have e4 : xwr (4 * (k : Int)) = ((4 * k : Nat) : Int) := by rw [xwr_g _ (by omega) (by omega)]; omega
      rw [if_neg (by omega), if_pos (by omega), if_pos (by omega)]
      show Option.bind (g195 f (G (b + 1) ((k : Int)).toNat) (G (b + 3) ((k : Int)).toNat) (b + 2) (xwr (4 * (k : Int))) _ _ _ _ G) _ = _
      rw [Int.toNat_natCast, q1, q2, e4, l_195 (by omega) (h.ve hb c1) hx, Option.bind_some]
      have c3 : ¬ (fCmp ((F.getD k dFc).1, (F.getD k dFc).2) (x.1, x.2), G).1 = 0 := fun q => c0 (hm.mpr ⟨c1, fCmp_eq q⟩)
      rw [if_neg c3]
      rfl
    · rw [if_pos (by omega)]
      rfl
variable {b1 : Nat}
theorem l_194_44 {r10 : Nat → Nat → Int → xG_ → Option xG_} {i : Nat} (hi : i < 3400) (hne : b1 ≠ b) : ∀ (d k fu : Nat) (G : xG_), k + d = 4 → d < fu → ∃ G', g194_44 r10 f fu b b1 (i : Int) (k : Int) G = r10 b b1 ((i + 1 : Nat) : Int) G' ∧ (∀ j, k ≤ j → j < 4 → G' (b + 2) (4 * i + j) = G (b1 + 2) (4 * i + j)) ∧ ∀ a j, ¬ (a = b + 2 ∧ 4 * i + k ≤ j ∧ j < 4 * i + 4) → G' a j = G a j := by
  intro d
  induction d with
  | zero =>
    intro k fu G hk hfu
    obtain ⟨fu, rfl⟩ : ∃ t, fu = t + 1 := ⟨fu - 1, by omega⟩
    have e3 : xwr ((i : Int) + 1) = ((i + 1 : Nat) : Int) := by rw [xwr_g _ (by omega) (by omega)]; omega
    refine ⟨G, ?_, fun j _ _ => by omega, fun _ _ _ => rfl⟩
    show g194_44b r10 (g194_44 r10 f fu) f _ _ _ _ _ = _
    unfold g194_44b
    rw [if_pos (by omega), e3]
  | succ d ih =>
    intro k fu G hk hfu
    obtain ⟨fu, rfl⟩ : ∃ t, fu = t + 1 := ⟨fu - 1, by omega⟩
    obtain ⟨G', k1, k2, k3⟩ := ih (k + 1) fu (xup2 G (b + 2) (4 * i + k) (G (b1 + 2) (4 * i + k))) (by omega) (by omega)
    have e1 : xwr ((xwr (4 * (i : Int))) + (k : Int)) = ((4 * i + k : Nat) : Int) := by
      rw [xwr_g (4 * (i : Int)) (by omega) (by omega), xwr_g _ (by omega) (by omega)]; omega
    have e3 : xwr ((k : Int) + 1) = ((k + 1 : Nat) : Int) := by rw [xwr_g _ (by omega) (by omega)]; omega
    refine ⟨G', ?_, fun j h1 h2 => ?_, fun a j h => by rw [k3 a j (by omega), xup2_n (by omega)]⟩
    · show g194_44b r10 (g194_44 r10 f fu) f _ _ _ _ _ = _
      unfold g194_44b
      rw [if_neg (by omega), e1, if_pos (by omega), if_pos (by omega), Int.toNat_natCast, Option.bind_some, e3]
      exact k1
    · by_cases c : j = k
      · rw [c, k3 _ _ (by omega), xup2_s]
      · rw [k2 j (by omega) h2, xup2_n (by omega)]
theorem isFb.far {b b1 : Nat} (h : isFb b) (h1 : isFb b1) (hne : b1 ≠ b) : b + 4 ≤ b1 ∨ b1 + 4 ≤ b := by
  unfold isFb at h h1
  omega
/-- copy -/
theorem l_194 {G : xG_} {F : List pFc} (hf : 3500 < f) (hb : isFb b) (hb1 : isFb b1) (hne : b1 ≠ b) (h : rFa G b1 F) : ∃ G', g194 f b b1 G = some G' ∧ rFa G' b F ∧ xfy b G G' := by
  have far := hb.far hb1 hne
  have hl := h.2.1
  have loop : ∀ (d i fu : Nat) (G1 : xG_), i + d = F.length → d < fu → G1 b 3 = (F.length : Int) → (∀ a j, b1 ≤ a → a ≤ b1 + 3 → G1 a j = G a j) → (∀ k, k < i → G1 (b + 1) k = (F.getD k dFc).1 ∧ G1 (b + 3) k = ((F.getD k dFc).2.length : Int) ∧ (F.getD k dFc).2.length ≤ 4 ∧ ∀ j, j < 4 → G1 (b + 2) (4 * k + j) = (F.getD k dFc).2.getD j 0) →
      ∃ G', g194_10 f fu b b1 (i : Int) G1 = some G' ∧ rFa G' b F ∧ ∀ a j, a ≠ b + 1 → a ≠ b + 2 → a ≠ b + 3 → G' a j = G1 a j := by
    intro d
    induction d with
    | zero =>
      intro i fu G1 h1 h2 h3 h4 h5
      obtain ⟨fu, rfl⟩ : ∃ t, fu = t + 1 := ⟨fu - 1, by omega⟩
      refine ⟨G1, ?_, ⟨h3, hl, fun k hk => h5 k (by omega)⟩, fun _ _ _ _ _ => rfl⟩
      show g194_10b (g194_10 f fu) f _ _ _ _ = _
      unfold g194_10b
      rw [h3, if_pos (by omega)]
    | succ d ih =>
      intro i fu G1 h1 h2 h3 h4 h5
      obtain ⟨fu, rfl⟩ : ∃ t, fu = t + 1 := ⟨fu - 1, by omega⟩
      obtain ⟨q1, q2, q3, q4⟩ := h.2.2 i (by omega)
      obtain ⟨G2, k1, k2, k3⟩ := l_194_44 (f := f) (b := b) (b1 := b1) (r10 := g194_10 f fu) (i := i) (by omega) hne 4 0 f (xup2 (xup2 G1 (b + 1) i (G1 (b1 + 1) i)) (b + 3) i (G1 (b1 + 3) i)) (by omega) (by omega)
      obtain ⟨G', u1, u2, u3⟩ := ih (i + 1) fu G2 (by omega) (by omega) (by rw [k3 _ _ (by omega), xup2_n (by omega), xup2_n (by omega)]; exact h3) (fun a j _ _ => by rw [k3 _ _ (by omega), xup2_n (by omega), xup2_n (by omega)]; exact h4 a j (by omega) (by omega)) (fun k hk => by
        by_cases ck : k = i
        · rw [ck]
          refine ⟨?_, ?_, q3, fun j hj => ?_⟩
          · rw [k3 _ _ (by omega), xup2_n (by omega), xup2_s, h4 _ _ (by omega) (by omega)]; exact q1
          · rw [k3 _ _ (by omega), xup2_s, h4 _ _ (by omega) (by omega)]; exact q2
          · rw [k2 j (by omega) hj, xup2_n (by omega), xup2_n (by omega), h4 _ _ (by omega) (by omega)]; exact q4 j hj
        · obtain ⟨z1, z2, z3, z4⟩ := h5 k (by omega)
          refine ⟨?_, ?_, z3, fun j hj => ?_⟩
          · rw [k3 _ _ (by omega), xup2_n (by omega), xup2_n (by omega)]; exact z1
          · rw [k3 _ _ (by omega), xup2_n (by omega), xup2_n (by omega)]; exact z2
          · rw [k3 _ _ (by omega), xup2_n (by omega), xup2_n (by omega)]; exact z4 j hj)
      refine ⟨G', ?_, u2, fun a j y1 y2 y3 => by rw [u3 a j y1 y2 y3, k3 _ _ (by omega), xup2_n (by omega), xup2_n (by omega)]⟩
      show g194_10b (g194_10 f fu) f _ _ _ _ = _
      unfold g194_10b
      rw [h3, if_neg (by omega), if_pos (by omega), if_pos (by omega), Int.toNat_natCast, Option.bind_some, if_pos (by omega), if_pos (by omega), xup2_n (by omega), Option.bind_some]
      exact k1.trans u1
  obtain ⟨G', k1, k2, k3⟩ := loop F.length 0 f (xup2 G b 3 (F.length : Int)) (by omega) (by omega) (xup2_s _ _ _ _) (fun a j _ _ => xup2_n (by omega)) (fun k hk => absurd hk (by omega))
  refine ⟨G', ?_, k2, fun a j h1 h2 h3 h4 => by rw [k3 a j h2 h3 h4, xup2_n h1]⟩
  unfold g194
  rw [h.1, Option.bind_some]
  exact k1
end
