/-! THE CLASS: startRing() -/
theorem mk_pt : ∀ p : Fin 16, (108 + 6 * p.val, 2, 109 + 6 * p.val) ∈ cl_P ∧ (108 + 6 * p.val, 3, 110 + 6 * p.val) ∈ cl_P ∧ (111 + 6 * p.val, 2, 112 + 6 * p.val) ∈ cl_P ∧ (111 + 6 * p.val, 3, 113 + 6 * p.val) ∈ cl_P := by decide +kernel
section
variable {f q np p rg wd : Nat} {S : Nat → Nat × Nat × Nat} {G : xG_} {m : Nat × Nat} {r2 : Nat → Int → Int → xT_ → Option (xT_)} {rgs W : Nat → Nat}
theorem p_pt (h : cPs G) (hp : p < 16) : G (108 + 6 * p) 2 = ((109 + 6 * p : Nat) : Int) ∧ G (108 + 6 * p) 3 = ((110 + 6 * p : Nat) : Int) ∧ G (111 + 6 * p) 2 = ((112 + 6 * p : Nat) : Int) ∧ G (111 + 6 * p) 3 = ((113 + 6 * p : Nat) : Int) := ⟨h _ (mk_pt ⟨p, hp⟩).1, h _ (mk_pt ⟨p, hp⟩).2.1, h _ (mk_pt ⟨p, hp⟩).2.2.1, h _ (mk_pt ⟨p, hp⟩).2.2.2⟩
theorem st_150e (hs : cSs S) (h : cWp S G q np rgs) : c150_2b r2 f 93 (rg : Int) (np : Int) (S, G, m) = some (S, G, m) := by
  obtain ⟨a1, a2, a3, a4, a5, a6, a7, a8⟩ := h
  unfold c150_2b
  simp (disch := omega) only [cq_gi, cq_gr, cq_a, cq_s, cq_p, cq_pr, cq_is, cq_ar, cq_ab, cq_ln, xq_nz, Option.bind_some, xup2_n, xup2_s, Int.toNat_natCast, Int.reduceToNat, if_pos, if_neg, true_and, and_true, and_self, eq_self, if_true, reduceIte, not_true_eq_false, not_false_eq_true, or_true, true_or, s93 hs, a1, a3, a5]
theorem st_150n (hs : cSs S) (h : cWp S G q np rgs) (hp : p < np) (ep : xwr ((p : Int) + 1) = ((p + 1 : Nat) : Int)) (c : rgs p ≠ rg) : c150_2b r2 f 93 (rg : Int) (p : Int) (S, G, m) = r2 93 (rg : Int) ((p + 1 : Nat) : Int) (S, G, m) := by
  obtain ⟨a1, a2, a3, a4, a5, a6, a7, a8⟩ := h
  have h8 := a8 p hp
  have c' : ¬ ((rgs p : Nat) : Int) = (rg : Int) := by omega
  unfold c150_2b c150_74
  simp (disch := omega) only [cq_gi, cq_gr, cq_a, cq_s, cq_p, cq_pr, cq_is, cq_ar, cq_ab, cq_ln, xq_nz, Option.bind_some, xup2_n, xup2_s, Int.toNat_natCast, Int.reduceToNat, if_pos, if_neg, true_and, and_true, and_self, eq_self, if_true, reduceIte, not_true_eq_false, not_false_eq_true, or_true, true_or, s93 hs, a1, a3, a4, a5, a7, h8, c', ep]
theorem st_150y (hs : cSs S) (hpp : cPs G) (h : cWp S G q np rgs) (hp : p < np) (ep : xwr ((p : Int) + 1) = ((p + 1 : Nat) : Int)) (c : rgs p = rg) (hp16 : p < 16) (q2 : S (q + 2) = (2, 3, 16)) (w3 : G q 3 = ((q + 2 : Nat) : Int)) (hwd : G (q + 2) p = (wd : Int)) : c150_2b r2 f 93 (rg : Int) (p : Int) (S, G, m) = r2 93 (rg : Int) ((p + 1 : Nat) : Int) (S, xup2 (xup2 (xup2 (xup2 (xup2 G (108 + 6 * p) 0 (wd : Int)) (108 + 6 * p) 1 0) (111 + 6 * p) 0 (wd : Int)) (111 + 6 * p) 1 0) 94 p ((108 + 6 * p : Nat) : Int), m) := by
  obtain ⟨a1, a2, a3, a4, a5, a6, a7, a8⟩ := h
  have h8 := a8 p hp
  rw [c] at h8
  have x1 := (s_mk hs hp16).1
  have x2 := (s_mk hs hp16).2.2.2.1
  have m1 := (p_mk hpp hp16).1
  have m2 := (p_mk hpp hp16).2
  have es : ∀ {G : xG_}, cq_sr 94 (p : Int) (108 + 6 * p) (S, G, m) = some (S, xup2 G 94 p ((108 + 6 * p : Nat) : Int), m) := fun {G} => by
    unfold cq_sr
    rw [if_pos]
    · rfl
    · show (S 94).1 = 2 ∧ 5 ≤ (S 94).2.1 ∧ 0 ≤ (p : Int) ∧ (p : Int) < ((S 94).2.2 : Nat) ∧ (108 + 6 * p = 0 ∨ (S (108 + 6 * p)).1 = 1 ∧ (S 94).2.1 = (S (108 + 6 * p)).2.1 + 5)
      rw [s94 hs, x1]
      exact ⟨rfl, by decide, by omega, by show (p : Int) < 16; omega, .inr ⟨rfl, rfl⟩⟩
  unfold c150_2b c150_74
  simp (disch := omega) only [cq_gi, cq_gr, cq_a, cq_s, cq_p, cq_pr, cq_is, cq_ar, cq_ab, cq_ln, xq_nz, Option.bind_some, xup2_n, xup2_s, Int.toNat_natCast, Int.reduceToNat, if_pos, if_neg, true_and, and_true, and_self, eq_self, if_true, reduceIte, not_true_eq_false, not_false_eq_true, or_true, true_or, s93 hs, s96 hs, s97 hs, p93_2 hpp, p93_4 hpp, p93_5 hpp, a1, a3, a4, a5, a7, h8, x1, x2, m1, m2, q2, w3, hwd, k_69 x1, k_69 x2, es, ep]
/-- startRing(): nothing is made yet -/
theorem k_150 (hs : cSs S) (q2 : S (q + 2) = (2, 3, 16)) : ∀ (d p fu : Nat) (G : xG_), p + d = np → d < fu → cPs G → cWp S G q np rgs → G q 3 = ((q + 2 : Nat) : Int) → (∀ j, j < np → G (q + 2) j = ((W j : Nat) : Int) ∧ W j ≤ 4) → ∃ G', c150_2 f fu 93 (rg : Int) (p : Int) (S, G, m) = some (S, G', m) ∧ (∀ b j, (∀ k, p ≤ k → k < np → rgs k = rg → ¬ (b = 94 ∧ j = k) ∧ ¬ (b = 108 + 6 * k ∧ j ≤ 1) ∧ ¬ (b = 111 + 6 * k ∧ j ≤ 1)) → G' b j = G b j) ∧ cPs G' ∧ ∀ j, p ≤ j → j < np → rgs j = rg → G' 94 j = ((108 + 6 * j : Nat) : Int) ∧ cRw S G' (108 + 6 * j) (W j) 100 [] ∧ cRw S G' (111 + 6 * j) (W j) 100 [] := by
  intro d
  induction d with
  | zero =>
    intro p fu G e1 e2 hp hw h3 hW
    obtain ⟨fu, rfl⟩ : ∃ t, fu = t + 1 := ⟨fu - 1, by omega⟩
    have e : p = np := by omega
    subst e
    exact ⟨G, st_150e (r2 := c150_2 f fu) hs hw, fun _ _ _ => rfl, hp, fun j y1 y2 => by omega⟩
  | succ d ih =>
    intro p fu G e1 e2 hp hw h3 hW
    obtain ⟨fu, rfl⟩ : ∃ t, fu = t + 1 := ⟨fu - 1, by omega⟩
    have hnp := hw.2.2.2.2.2.1
    have hq := hw.2.1
    have hpn : p < np := by omega
    have ep : xwr ((p : Int) + 1) = ((p + 1 : Nat) : Int) := by rw [xwr_g _ (by omega) (by omega)]; omega
    by_cases c : rgs p = rg
    · have st : c150_2 f (fu + 1) 93 (rg : Int) (p : Int) (S, G, m) = _ := st_150y (r2 := c150_2 f fu) (rg := rg) hs hp hw hpn ep c (by omega) q2 h3 (hW p hpn).1
      obtain ⟨G1, hG1⟩ : ∃ G1, G1 = xup2 (xup2 (xup2 (xup2 (xup2 G (108 + 6 * p) 0 ((W p : Nat) : Int)) (108 + 6 * p) 1 0) (111 + 6 * p) 0 ((W p : Nat) : Int)) (111 + 6 * p) 1 0) 94 p ((108 + 6 * p : Nat) : Int) := ⟨_, rfl⟩
      rw [← hG1] at st
      have z : ∀ b j, ¬ (b = 94 ∧ j = p) → ¬ (b = 108 + 6 * p ∧ j ≤ 1) → ¬ (b = 111 + 6 * p ∧ j ≤ 1) → G1 b j = G b j := fun b j y1 y2 y3 => by rw [hG1, xup2_n (by omega), xup2_n (by omega), xup2_n (by omega), xup2_n (by omega), xup2_n (by omega)]
      have hp1 : cPs G1 := hp.ge (fun b j hz => by
        have : ¬ (b = 94 ∧ j = p) ∧ ¬ (b = 108 + 6 * p ∧ j ≤ 1) ∧ ¬ (b = 111 + 6 * p ∧ j ≤ 1) := by
          rcases hz with z | z | z | z | z | z | z | ⟨z, z1, z2, k, z3⟩ | z | z | z | ⟨k, z1, z2, z3⟩ <;> omega
        exact z b j this.1 this.2.1 this.2.2)
      obtain ⟨G2, i1, i2, i3, i4⟩ := ih (p + 1) fu G1 (by omega) (by omega) hp1 (hw.ge (z _ _ (by omega) (by omega) (by omega)) (fun a j y => z a j (by omega) (by omega) (by omega))) (by rw [z _ _ (by omega) (by omega) (by omega)]; exact h3) (fun j hj => by rw [z _ _ (by omega) (by omega) (by omega)]; exact hW j hj)
      have zz : ∀ b j, 108 + 6 * p ≤ b → b ≤ 113 + 6 * p → G2 b j = G1 b j := fun b j y1 y2 => i2 b j (fun k k1 k2 k3 => by omega)
      refine ⟨G2, st.trans i1, fun b j y => by rw [i2 b j (fun k k1 k2 k3 => y k (by omega) k2 k3), z b j (y p (Nat.le_refl _) hpn c).1 (y p (Nat.le_refl _) hpn c).2.1 (y p (Nat.le_refl _) hpn c).2.2], i3, fun j y1 y2 y3 => ?_⟩
      by_cases cj : j = p
      · subst cj
        obtain ⟨s1, s2, s3, s4, s5, s6⟩ := s_mk (p := j) hs (by omega)
        obtain ⟨t1, t2, t3, t4⟩ := p_pt (p := j) i3 (by omega)
        have w4 := (hW j y2).2
        refine ⟨?_, ⟨s1, ⟨400, by rw [show 108 + 6 * j + 1 = 109 + 6 * j by omega]; exact s2, by omega, by decide⟩, by rw [show 108 + 6 * j + 2 = 110 + 6 * j by omega]; exact s3, ⟨?_, ?_, by rw [t1]; omega, by rw [t2]; omega⟩, Nat.zero_le _, by decide, by omega, fun i hi => absurd hi (Nat.not_lt_zero i)⟩, ⟨s4, ⟨400, by rw [show 111 + 6 * j + 1 = 112 + 6 * j by omega]; exact s5, by omega, by decide⟩, by rw [show 111 + 6 * j + 2 = 113 + 6 * j by omega]; exact s6, ⟨?_, ?_, by rw [t3]; omega, by rw [t4]; omega⟩, Nat.zero_le _, by decide, by omega, fun i hi => absurd hi (Nat.not_lt_zero i)⟩⟩
        · rw [i2 94 j (fun k k1 k2 k3 => by omega), hG1, xup2_s]
        · rw [zz _ _ (by omega) (by omega), hG1, xup2_n (by omega), xup2_n (by omega), xup2_n (by omega), xup2_n (by omega), xup2_s]
        · rw [zz _ _ (by omega) (by omega), hG1, xup2_n (by omega), xup2_n (by omega), xup2_n (by omega), xup2_s]; rfl
        · rw [zz _ _ (by omega) (by omega), hG1, xup2_n (by omega), xup2_n (by omega), xup2_s]
        · rw [zz _ _ (by omega) (by omega), hG1, xup2_n (by omega), xup2_s]; rfl
      · exact i4 j (by omega) y2 y3
    · have st : c150_2 f (fu + 1) 93 (rg : Int) (p : Int) (S, G, m) = _ := st_150n (r2 := c150_2 f fu) hs hw hpn ep c
      obtain ⟨G2, i1, i2, i3, i4⟩ := ih (p + 1) fu G (by omega) (by omega) hp hw h3 hW
      refine ⟨G2, st.trans i1, fun b j y => i2 b j (fun k k1 k2 k3 => y k (by omega) k2 k3), i3, fun j y1 y2 y3 => ?_⟩
      by_cases cj : j = p
      · subst cj; exact absurd y3 c
      · exact i4 j (by omega) y2 y3
end
