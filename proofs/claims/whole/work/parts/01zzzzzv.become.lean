/-! become: a line goes back -/
section
variable {f o h : Nat} {H : Nat → sMo}
theorem rLg.tk {G G' : xG_} {L0 L1 : List pLg} (h : rLg G o (L0 ++ L1)) (h0 : G' o 10 = (L0.length : Int)) (hf : ∀ a j, o + 5 ≤ a → a ≤ o + 9 → G' a j = G a j) : rLg G' o L0 := by
  obtain ⟨a1, a2, a3⟩ := h
  rw [List.length_append] at a2
  refine ⟨h0, by omega, fun i hi => ?_⟩
  have := a3 i (by rw [List.length_append]; omega)
  rw [getD_app _ hi] at this
  obtain ⟨b1, b2, b3, b4, b5, b6⟩ := this
  exact ⟨by rw [hf _ _ (by omega) (by omega)]; exact b1, by rw [hf _ _ (by omega) (by omega)]; exact b2, by rw [hf _ _ (by omega) (by omega)]; exact b3, by rw [hf _ _ (by omega) (by omega)]; exact b4, b5, fun j hj => by rw [hf _ _ (by omega) (by omega)]; exact b6 j hj⟩
theorem rEg.tk {G G' : xG_} {L0 L1 : List pEg} (h : rEg G o (L0 ++ L1)) (h0 : G' o 17 = (L0.length : Int)) (hf : ∀ a j, o + 13 ≤ a → a ≤ o + 14 → G' a j = G a j) : rEg G' o L0 := by
  obtain ⟨a1, a2, a3⟩ := h
  rw [List.length_append] at a2
  refine ⟨h0, by omega, fun i hi => ?_⟩
  have := a3 i (by rw [List.length_append]; omega)
  rw [getD_app _ hi] at this
  exact ⟨by rw [hf _ _ (by omega) (by omega)]; exact this.1, by rw [hf _ _ (by omega) (by omega)]; exact this.2⟩
theorem rCg.tk {G G' : xG_} {L0 L1 : List pCg} (h : rCg G o (L0 ++ L1)) (h0 : G' o 16 = (L0.length : Int)) (hf : ∀ a j, o + 10 ≤ a → a ≤ o + 12 → G' a j = G a j) : rCg G' o L0 := by
  obtain ⟨a1, a2, a3⟩ := h
  rw [List.length_append] at a2
  refine ⟨h0, by omega, fun i hi => ?_⟩
  have := a3 i (by rw [List.length_append]; omega)
  rw [getD_app _ hi] at this
  exact ⟨by rw [hf _ _ (by omega) (by omega)]; exact this.1, by rw [hf _ _ (by omega) (by omega)]; exact this.2.1, by rw [hf _ _ (by omega) (by omega)]; exact this.2.2⟩
theorem l_312_42 {L0 L1 : List pLg} {r x4 : Int} (h0 : ∀ a ∈ L0, a.1 ≤ r) (h1 : ∀ a ∈ L1, r < a.1) : ∀ (d fu : Nat) (G : xG_), d ≤ L1.length → d < fu → G o 10 = ((L0.length + d : Nat) : Int) → (∀ i, i < (L0 ++ L1).length → G (o + 5) i = ((L0 ++ L1).getD i dLg).1) → (L0 ++ L1).length ≤ 12000 →
    ∃ G', g312_42 f fu o r x4 G = g312_77 f f o r x4 G' ∧ G' o 10 = (L0.length : Int) ∧ ∀ a j, ¬ (a = o ∧ j = 10) → G' a j = G a j := by
  intro d
  induction d with
  | zero =>
    intro fu G k1 k2 k3 k4 k5
    rw [List.length_append] at k5
    obtain ⟨fu, rfl⟩ : ∃ t, fu = t + 1 := ⟨fu - 1, by omega⟩
    refine ⟨G, ?_, by rw [k3]; omega, fun _ _ _ => rfl⟩
    show g312_42b (g312_42 f fu) f o r x4 G = _
    unfold g312_42b
    rw [k3]
    by_cases c : L0.length = 0
    · rw [if_pos (by omega)]
    · have e1 : xwr (((L0.length + 0 : Nat) : Int) - 1) = ((L0.length - 1 : Nat) : Int) := by rw [xwr_g _ (by omega) (by omega)]; omega
      have hm : (L0 ++ L1).getD (L0.length - 1) dLg ∈ L0 := by
        rw [getD_app _ (by omega), getD_e (by omega)]
        exact List.getElem_mem _
      have := h0 _ hm
      rw [if_neg (by omega), e1, if_pos (by omega), Int.toNat_natCast, k4 _ (by rw [List.length_append]; omega), if_pos this]
  | succ d ih =>
    intro fu G k1 k2 k3 k4 k5
    have k5' := k5
    rw [List.length_append] at k5'
    obtain ⟨fu, rfl⟩ : ∃ t, fu = t + 1 := ⟨fu - 1, by omega⟩
    have e1 : xwr (((L0.length + (d + 1) : Nat) : Int) - 1) = ((L0.length + d : Nat) : Int) := by rw [xwr_g _ (by omega) (by omega)]; omega
    have hm : (L0 ++ L1).getD (L0.length + d) dLg ∈ L1 := by
      rw [getD_apr, getD_e (by omega)]
      exact List.getElem_mem _
    have := h1 _ hm
    obtain ⟨G', u1, u2, u3⟩ := ih fu (xup2 G o 10 ((L0.length + d : Nat) : Int)) (by omega) (by omega) (xup2_s _ _ _ _) (fun i hi => by rw [xup2_n (by omega)]; exact k4 i hi) k5
    refine ⟨G', ?_, u2, fun a j q => by rw [u3 a j q, xup2_n (by omega)]⟩
    show g312_42b (g312_42 f fu) f o r x4 G = _
    unfold g312_42b
    rw [k3, if_neg (by omega), e1, if_pos (by omega), Int.toNat_natCast, k4 _ (by rw [List.length_append]; omega), if_neg (by omega), Option.bind_some]
    exact u1
theorem l_312_77 {L0 L1 : List pEg} {r x4 : Int} (h0 : ∀ a ∈ L0, a.1 ≤ r) (h1 : ∀ a ∈ L1, r < a.1) : ∀ (d fu ed : Nat) (G : xG_), d ≤ L1.length → d < fu → G o 17 = ((L0.length + d : Nat) : Int) → G o 4 = ((ed + d : Nat) : Int) → ed < 1000000 → (∀ i, i < (L0 ++ L1).length → G (o + 13) i = ((L0 ++ L1).getD i (0, 0)).1) → (L0 ++ L1).length ≤ 20 →
    ∃ G', g312_77 f fu o r x4 G = g312_122 f f o r x4 G' ∧ G' o 17 = (L0.length : Int) ∧ G' o 4 = (ed : Int) ∧ ∀ a j, ¬ (a = o ∧ (j = 17 ∨ j = 4)) → G' a j = G a j := by
  intro d
  induction d with
  | zero =>
    intro fu ed G k1 k2 k3 k6 k7 k4 k5
    rw [List.length_append] at k5
    obtain ⟨fu, rfl⟩ : ∃ t, fu = t + 1 := ⟨fu - 1, by omega⟩
    refine ⟨G, ?_, by rw [k3]; omega, by rw [k6]; omega, fun _ _ _ => rfl⟩
    show g312_77b (g312_77 f fu) f o r x4 G = _
    unfold g312_77b
    rw [k3]
    by_cases c : L0.length = 0
    · rw [if_pos (by omega)]
    · have e1 : xwr (((L0.length + 0 : Nat) : Int) - 1) = ((L0.length - 1 : Nat) : Int) := by rw [xwr_g _ (by omega) (by omega)]; omega
      have hm : (L0 ++ L1).getD (L0.length - 1) (0, 0) ∈ L0 := by
        rw [getD_app _ (by omega), getD_e (by omega)]
        exact List.getElem_mem _
      have := h0 _ hm
      rw [if_neg (by omega), e1, if_pos (by omega), Int.toNat_natCast, k4 _ (by rw [List.length_append]; omega), if_pos this]
  | succ d ih =>
    intro fu ed G k1 k2 k3 k6 k7 k4 k5
    have k5' := k5
    rw [List.length_append] at k5'
    obtain ⟨fu, rfl⟩ : ∃ t, fu = t + 1 := ⟨fu - 1, by omega⟩
    have e1 : xwr (((L0.length + (d + 1) : Nat) : Int) - 1) = ((L0.length + d : Nat) : Int) := by rw [xwr_g _ (by omega) (by omega)]; omega
    have e2 : xwr (((ed + (d + 1) : Nat) : Int) - 1) = ((ed + d : Nat) : Int) := by rw [xwr_g _ (by omega) (by omega)]; omega
    have hm : (L0 ++ L1).getD (L0.length + d) (0, 0) ∈ L1 := by
      rw [getD_apr, getD_e (by omega)]
      exact List.getElem_mem _
    have := h1 _ hm
    obtain ⟨G', u1, u2, u4, u3⟩ := ih fu ed (xup2 (xup2 G o 17 ((L0.length + d : Nat) : Int)) o 4 ((ed + d : Nat) : Int)) (by omega) (by omega) (by rw [xup2_n (by omega), xup2_s]) (xup2_s _ _ _ _) k7 (fun i hi => by rw [xup2_n (by omega), xup2_n (by omega)]; exact k4 i hi) k5
    refine ⟨G', ?_, u2, u4, fun a j q => by rw [u3 a j q, xup2_n (by omega), xup2_n (by omega)]⟩
    show g312_77b (g312_77 f fu) f o r x4 G = _
    unfold g312_77b
    rw [k3, if_neg (by omega), e1, if_pos (by omega), Int.toNat_natCast, k4 _ (by rw [List.length_append]; omega), if_neg (by omega), Option.bind_some, xup2_n (by omega), k6, e2, Option.bind_some]
    exact u1
/-- a round's CELLS -/
theorem l_312_122b {r x4 : Int} {rd : Int} (hr : r < rd) (ho : 122 < o ∧ o < 211) {L0 : List pCg} {K : Nat → Nat} {W : Nat → Int} : ∀ (x fu : Nat) (L1 : List pCg) (G : xG_), x ≤ 72 → (cgN rd K W x).length < fu → rCg G o (L0 ++ (cgN rd K W x ++ L1)) ∨ (G o 16 = ((L0 ++ cgN rd K W x).length : Int) ∧ (∀ i, i < (L0 ++ (cgN rd K W x ++ L1)).length → G (o + 10) i = ((L0 ++ (cgN rd K W x ++ L1)).getD i (0, 0, 0)).1 ∧ G (o + 11) i = ((L0 ++ (cgN rd K W x ++ L1)).getD i (0, 0, 0)).2.1 ∧ G (o + 12) i = ((L0 ++ (cgN rd K W x ++ L1)).getD i (0, 0, 0)).2.2) ∧ (L0 ++ (cgN rd K W x ++ L1)).length ≤ 200) → G o 16 = ((L0 ++ cgN rd K W x).length : Int) → (∀ c, c < 72 → G (o + 15) c = (kNx K W x c : Int)) →
    ∃ G' fu', g312_122 f fu o r x4 G = g312_122 f fu' o r x4 G' ∧ fu - (cgN rd K W x).length ≤ fu' ∧ G' o 16 = (L0.length : Int) ∧ (∀ c, c < 72 → G' (o + 15) c = (K c : Int)) ∧ ∀ a j, ¬ (a = o ∧ j = 16) → a ≠ o + 15 → G' a j = G a j := by
  intro x
  induction x with
  | zero =>
    intro fu L1 G k1 k2 k3 k4 k5
    refine ⟨G, fu, rfl, Nat.sub_le _ _, ?_, fun c hc => ?_, fun _ _ _ _ => rfl⟩
    · rw [k4]
      show ((L0 ++ []).length : Int) = _
      rw [List.append_nil]
    · rw [k5 c hc]
      unfold kNx
      rw [if_neg (fun q => absurd q.1 (Nat.not_lt_zero c))]
  | succ x ih =>
    intro fu L1 G k1 k2 k3 k4 k5
    have kn : ∀ c, c ≠ x → kNx K W (x + 1) c = kNx K W x c := fun c hc => by
      unfold kNx
      by_cases d : c < x ∧ W c ≠ -1
      · rw [if_pos d, if_pos ⟨by omega, d.2⟩]
      · rw [if_neg d, if_neg (fun q => d ⟨by omega, q.2⟩)]
    have kx : kNx K W x x = K x := by
      unfold kNx
      rw [if_neg (fun q => absurd q.1 (Nat.lt_irrefl x))]
    have k3' : (∀ i, i < (L0 ++ (cgN rd K W (x + 1) ++ L1)).length → G (o + 10) i = ((L0 ++ (cgN rd K W (x + 1) ++ L1)).getD i (0, 0, 0)).1 ∧ G (o + 11) i = ((L0 ++ (cgN rd K W (x + 1) ++ L1)).getD i (0, 0, 0)).2.1 ∧ G (o + 12) i = ((L0 ++ (cgN rd K W (x + 1) ++ L1)).getD i (0, 0, 0)).2.2) ∧ (L0 ++ (cgN rd K W (x + 1) ++ L1)).length ≤ 200 := by
      rcases k3 with q | q
      · exact ⟨q.2.2, q.2.1⟩
      · exact q.2
    clear k3
    by_cases c : W x = -1
    · have en : cgN rd K W (x + 1) = cgN rd K W x := by
        show cgN rd K W x ++ (if W x = -1 then [] else _) = _
        rw [if_pos c, List.append_nil]
      rw [en] at k2 k3' k4 ⊢
      refine ih fu L1 G (by omega) k2 (.inr ⟨k4, k3'⟩) k4 (fun y hy => ?_)
      rw [k5 y hy]
      by_cases d : y = x
      · rw [d, kx]
        unfold kNx
        rw [if_neg (fun q => q.2 c)]
      · rw [kn y d]
    · have en : cgN rd K W (x + 1) = cgN rd K W x ++ [(rd, (x : Int), (K x : Int))] := by
        show cgN rd K W x ++ (if W x = -1 then [] else _) = _
        rw [if_neg c]
      have el : (cgN rd K W (x + 1)).length = (cgN rd K W x).length + 1 := by rw [en, List.length_append]; rfl
      have eL : L0 ++ (cgN rd K W (x + 1) ++ L1) = (L0 ++ cgN rd K W x) ++ ((rd, (x : Int), (K x : Int)) :: L1) := by rw [en]; simp only [List.append_assoc, List.singleton_append]
      have eL2 : (L0 ++ cgN rd K W x) ++ ((rd, (x : Int), (K x : Int)) :: L1) = L0 ++ (cgN rd K W x ++ ((rd, (x : Int), (K x : Int)) :: L1)) := List.append_assoc _ _ _
      obtain ⟨fu, rfl⟩ : ∃ t, fu = t + 1 := ⟨fu - 1, by omega⟩
      let n := (L0 ++ cgN rd K W x).length
      have hn : n = (L0 ++ cgN rd K W x).length := rfl
      have e16 : G o 16 = ((n + 1 : Nat) : Int) := by
        rw [k4, en, ← List.append_assoc, List.length_append]; rfl
      obtain ⟨p1, p2⟩ := k3'
      have hlen : (L0 ++ (cgN rd K W (x + 1) ++ L1)).length = n + (L1.length + 1) := by rw [eL, List.length_append]; rfl
      obtain ⟨q1, q2, q3⟩ := p1 n (by omega)
      have hg : (L0 ++ (cgN rd K W (x + 1) ++ L1)).getD n (0, 0, 0) = (rd, (x : Int), (K x : Int)) := by
        rw [eL]
        exact getD_apr (l := L0 ++ cgN rd K W x) ((rd, (x : Int), (K x : Int)) :: L1) 0
      rw [hg] at q1 q2 q3
      replace q1 : G (o + 10) n = rd := q1
      replace q2 : G (o + 11) n = (x : Int) := q2
      replace q3 : G (o + 12) n = (K x : Int) := q3
      have e1 : xwr (((n + 1 : Nat) : Int) - 1) = (n : Int) := by rw [xwr_g _ (by omega) (by omega)]; omega
      let G1 := xup2 (xup2 G o 16 (n : Int)) (o + 15) x (K x : Int)
      have z : ∀ a j, ¬ (a = o ∧ j = 16) → ¬ (a = o + 15 ∧ j = x) → G1 a j = G a j := fun a j y1 y2 => by
        show xup2 _ _ _ _ _ _ = _
        rw [xup2_n (by omega), xup2_n (by omega)]
      have z16 : G1 o 16 = (n : Int) := by
        show xup2 _ _ _ _ _ _ = _
        rw [xup2_n (by omega), xup2_s]
      have z15 : G1 (o + 15) x = (K x : Int) := xup2_s _ _ _ _
      obtain ⟨G', fu', u1, u2, u3, u4, u5⟩ := ih fu ((rd, (x : Int), (K x : Int)) :: L1) G1 (by omega) (by omega) (.inr ⟨z16, fun i hi => by
        rw [z _ _ (by omega) (by omega), z _ _ (by omega) (by omega), z _ _ (by omega) (by omega)]
        rw [← eL2, ← eL] at hi ⊢
        exact p1 i hi, by rw [← eL2, ← eL]; exact p2⟩) z16 (fun y hy => by
        by_cases d : y = x
        · rw [d, z15, kx]
        · rw [z _ _ (by omega) (by omega), k5 y hy, kn y d])
      refine ⟨G', fu', ?_, by omega, u3, u4, fun a j y1 y2 => by rw [u5 a j y1 y2, z _ _ (by omega) (by omega)]⟩
      rw [← u1]
      show g312_122b (g312_122 f fu) f o r x4 G = _
      unfold g312_122b
      have s16 : xup2 G o 16 (n : Int) o 16 = (n : Int) := xup2_s _ _ _ _
      rw [e16, if_neg (by omega), e1, if_pos (by omega), Int.toNat_natCast, q1, if_neg (by omega), Option.bind_some, s16, if_pos (by omega), if_pos (by omega), Int.toNat_natCast, xup2_n (by omega), q2, if_pos (by omega), Int.toNat_natCast, xup2_n (by omega), q3, Option.bind_some]
end
