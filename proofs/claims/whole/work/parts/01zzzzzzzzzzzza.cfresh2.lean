/-! THE CLASS: takeFresh() whole -/
section
variable {f q np p rg : Nat} {S : Nat → Nat × Nat × Nat} {G : xG_} {m : Nat × Nat} {lv : Int} {r2 : Nat → Int → Int → Int → xT_ → Option (xT_)} {rgs W : Nat → Nat} {M F : Nat → List pRw}
/-- the program that is worked -/
def cWp (S : Nat → Nat × Nat × Nat) (G : xG_) (q np : Nat) (rgs : Nat → Nat) : Prop := G 93 1 = (q : Int) ∧ 226 < q ∧ S q = (1, 3, 14) ∧ S (q + 8) = (2, 3, 16) ∧ G q 1 = (np : Int) ∧ np ≤ 16 ∧ G q 10 = ((q + 8 : Nat) : Int) ∧ ∀ j, j < np → G (q + 8) j = ((rgs j : Nat) : Int)
theorem cWp.ge {G' : xG_} (h : cWp S G q np rgs) (h1 : G' 93 1 = G 93 1) (hf : ∀ a j, 226 < a → G' a j = G a j) : cWp S G' q np rgs := by
  obtain ⟨a1, a2, a3, a4, a5, a6, a7, a8⟩ := h
  exact ⟨by rw [h1]; exact a1, a2, a3, a4, by rw [hf _ _ a2]; exact a5, a6, by rw [hf _ _ a2]; exact a7, fun j hj => by rw [hf _ _ (by omega)]; exact a8 j hj⟩
theorem st_154e (hs : cSs S) (h : cWp S G q np rgs) : c154_2b r2 f 93 (rg : Int) lv (np : Int) (S, G, m) = some (S, G, m) := by
  obtain ⟨a1, a2, a3, a4, a5, a6, a7, a8⟩ := h
  unfold c154_2b
  simp (disch := omega) only [cq_gi, cq_gr, cq_a, cq_s, cq_p, cq_pr, cq_is, cq_ar, cq_ab, cq_ln, xq_nz, Option.bind_some, xup2_n, xup2_s, Int.toNat_natCast, Int.reduceToNat, if_pos, if_neg, true_and, and_true, and_self, eq_self, if_true, reduceIte, not_true_eq_false, not_false_eq_true, or_true, true_or, s93 hs, a1, a3, a5]
theorem st_154o (hs : cSs S) (h : cWp S G q np rgs) (hp : p < np) (ep : xwr ((p : Int) + 1) = ((p + 1 : Nat) : Int)) : c154_2b r2 f 93 (rg : Int) lv (p : Int) (S, G, m) = if rgs p = rg then c154_29 r2 f f 93 (rg : Int) lv (p : Int) 0 (S, G, m) else r2 93 (rg : Int) lv ((p + 1 : Nat) : Int) (S, G, m) := by
  obtain ⟨a1, a2, a3, a4, a5, a6, a7, a8⟩ := h
  have h8 := a8 p hp
  by_cases c : rgs p = rg
  · rw [if_pos c]
    rw [c] at h8
    unfold c154_2b
    simp (disch := omega) only [cq_gi, cq_gr, cq_a, cq_s, cq_p, cq_pr, cq_is, cq_ar, cq_ab, cq_ln, xq_nz, Option.bind_some, xup2_n, xup2_s, Int.toNat_natCast, Int.reduceToNat, if_pos, if_neg, true_and, and_true, and_self, eq_self, if_true, reduceIte, not_true_eq_false, not_false_eq_true, or_true, true_or, s93 hs, a1, a3, a4, a5, a7, h8]
  · rw [if_neg c]
    have c' : ¬ ((rgs p : Nat) : Int) = (rg : Int) := by omega
    unfold c154_2b c154_103
    simp (disch := omega) only [cq_gi, cq_gr, cq_a, cq_s, cq_p, cq_pr, cq_is, cq_ar, cq_ab, cq_ln, xq_nz, Option.bind_some, xup2_n, xup2_s, Int.toNat_natCast, Int.reduceToNat, if_pos, if_neg, true_and, and_true, and_self, eq_self, if_true, reduceIte, not_true_eq_false, not_false_eq_true, or_true, true_or, s93 hs, a1, a3, a4, a5, a7, h8, c', ep]
theorem k_154 (hf : 600 < f) (hs : cSs S) : ∀ (d p fu : Nat) (G : xG_), p + d = np → d < fu → cPs G → cWp S G q np rgs → (∀ j, p ≤ j → j < np → rgs j = rg → W j ≤ 4 ∧ cRw S G (108 + 6 * j) (W j) 100 (M j) ∧ cRw S G (111 + 6 * j) (W j) 100 (F j) ∧ (M j).Pairwise rwLt ∧ (F j).Pairwise rwLt ∧ (M j).length + (F j).length ≤ 100 ∧ ∀ r ∈ F j, ∀ z ∈ M j, z.1 ≠ r.1) → ∃ G', c154_2 f fu 93 (rg : Int) lv (p : Int) (S, G, m) = some (S, G', m) ∧ (∀ b j, b ≠ 103 → (∀ k, p ≤ k → k < np → rgs k = rg → ¬ (108 + 6 * k ≤ b ∧ b ≤ 113 + 6 * k)) → G' b j = G b j) ∧ cPs G' ∧ ∀ j, p ≤ j → j < np → rgs j = rg → ∃ M', cRw S G' (108 + 6 * j) (W j) 100 M' ∧ cRw S G' (111 + 6 * j) (W j) 100 [] ∧ M'.Pairwise rwLt ∧ M'.length = (M j).length + (F j).length ∧ ∀ z, z ∈ M' ↔ z ∈ M j ∨ ∃ r ∈ F j, z = (r.1, lv) := by
  intro d
  induction d with
  | zero =>
    intro p fu G e1 e2 hp hw hM
    obtain ⟨fu, rfl⟩ : ∃ t, fu = t + 1 := ⟨fu - 1, by omega⟩
    have e : p = np := by omega
    subst e
    exact ⟨G, st_154e (r2 := c154_2 f fu) hs hw, fun _ _ _ _ => rfl, hp, fun j y1 y2 => by omega⟩
  | succ d ih =>
    intro p fu G e1 e2 hp hw hM
    obtain ⟨fu, rfl⟩ : ∃ t, fu = t + 1 := ⟨fu - 1, by omega⟩
    have hnp := hw.2.2.2.2.2.1
    have hpn : p < np := by omega
    have ep : xwr ((p : Int) + 1) = ((p + 1 : Nat) : Int) := by rw [xwr_g _ (by omega) (by omega)]; omega
    have st : c154_2 f (fu + 1) 93 (rg : Int) lv (p : Int) (S, G, m) = _ := st_154o (r2 := c154_2 f fu) (rg := rg) hs hw hpn ep
    by_cases c : rgs p = rg
    · rw [if_pos c] at st
      obtain ⟨m1, m2, m3, m4, m5, m6, m7⟩ := hM p (Nat.le_refl _) hpn c
      have hF100 := m3.2.2.2.2.1
      obtain ⟨G1, M', g1, g2, g3, g4, g5, g6, g7, g8⟩ := k_154i (f := f) (m := m) (r2 := c154_2 f fu) (rg := (rg : Int)) (lv := lv) hf hs (by omega : p < 16) m1 m5 (F p).length 0 f G (M p) (by omega) (by omega) hp m2 m3 m4 m6 (by rw [List.drop_zero]; exact m7)
      rw [List.drop_zero] at g8
      have z : ∀ b j, b ≠ 103 → ¬ (108 + 6 * p ≤ b ∧ b ≤ 113 + 6 * p) → G1 b j = G b j := fun b j y1 y2 => g2 b j y1 (by omega) (by omega) (by omega) (by omega)
      obtain ⟨G2, i1, i2, i3, i4⟩ := ih (p + 1) fu G1 (by omega) (by omega) g3 (hw.ge (z _ _ (by omega) (by omega)) (fun a j y => z a j (by omega) (by omega))) (fun j y1 y2 y3 => by
        obtain ⟨n1, n2, n3, n4⟩ := hM j (by omega) y2 y3
        exact ⟨n1, n2.ge (fun _ _ _ => rfl) (fun k => z _ _ (by omega) (by omega)) (fun k => z _ _ (by omega) (by omega)) (fun k => z _ _ (by omega) (by omega)), n3.ge (fun _ _ _ => rfl) (fun k => z _ _ (by omega) (by omega)) (fun k => z _ _ (by omega) (by omega)) (fun k => z _ _ (by omega) (by omega)), n4⟩)
      have zz : ∀ b j, 108 + 6 * p ≤ b → b ≤ 113 + 6 * p → G2 b j = G1 b j := fun b j y1 y2 => i2 b j (by omega) (fun k k1 k2 k3 => by omega)
      refine ⟨G2, (st.trans g1).trans i1, fun b j y1 y2 => by rw [i2 b j y1 (fun k k1 k2 k3 => y2 k (by omega) k2 k3), z b j y1 (y2 p (Nat.le_refl _) hpn c)], i3, fun j y1 y2 y3 => ?_⟩
      by_cases cj : j = p
      · subst cj
        exact ⟨M', g4.ge (fun _ _ _ => rfl) (fun k => zz _ _ (by omega) (by omega)) (fun k => zz _ _ (by omega) (by omega)) (fun k => zz _ _ (by omega) (by omega)), g5.ge (fun _ _ _ => rfl) (fun k => zz _ _ (by omega) (by omega)) (fun k => zz _ _ (by omega) (by omega)) (fun k => zz _ _ (by omega) (by omega)), g6, g7, g8⟩
      · exact i4 j (by omega) y2 y3
    · rw [if_neg c] at st
      obtain ⟨G2, i1, i2, i3, i4⟩ := ih (p + 1) fu G (by omega) (by omega) hp hw (fun j y1 y2 y3 => hM j (by omega) y2 y3)
      refine ⟨G2, st.trans i1, fun b j y1 y2 => i2 b j y1 (fun k k1 k2 k3 => y2 k (by omega) k2 k3), i3, fun j y1 y2 y3 => ?_⟩
      by_cases cj : j = p
      · subst cj; exact absurd y3 c
      · exact i4 j (by omega) y2 y3
end
