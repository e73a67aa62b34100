/-! THE CLASS: startRing() -/
theorem mk_pt : ∀ p : Fin 16, (108 + 6 * p.val, 2, 109 + 6 * p.val) ∈ cl_P ∧ (108 + 6 * p.val, 3, 110 + 6 * p.val) ∈ cl_P ∧ (111 + 6 * p.val, 2, 112 + 6 * p.val) ∈ cl_P ∧ (111 + 6 * p.val, 3, 113 + 6 * p.val) ∈ cl_P := by decide +kernel
section
variable {f q np p rg wd : Nat} {S : Nat → Nat × Nat × Nat} {G : xG_} {m : Nat × Nat} {r2 : Nat → Int → Int → xT_ → Option (xT_)} {rgs W : Nat → Nat}
theorem p_pt (h : cPs G) (hp : p < 16) : G (108 + 6 * p) 2 = ((109 + 6 * p : Nat) : Int) ∧ G (108 + 6 * p) 3 = ((110 + 6 * p : Nat) : Int) ∧ G (111 + 6 * p) 2 = ((112 + 6 * p : Nat) : Int) ∧ G (111 + 6 * p) 3 = ((113 + 6 * p : Nat) : Int) := ⟨h _ (mk_pt ⟨p, hp⟩).1, h _ (mk_pt ⟨p, hp⟩).2.1, h _ (mk_pt ⟨p, hp⟩).2.2.1, h _ (mk_pt ⟨p, hp⟩).2.2.2⟩
theorem st_150e (hs : cSs S) (h : cWp S G q np rgs) : c150_2b r2 f 93 (rg : Int) (np : Int) (S, G, m) = some (S, G, m) := by
  obtain ⟨a1, a2, a3, a4, a5, a6, a7, a8⟩ := h
  unfold c150_2b
  simp (disch := omega) only [cq_gi, cq_gr, cq_a, cq_s, cq_p, cq_pr, cq_is, cq_ar, cq_ab, cq_ln, xq_nz, Option.bind_some, xup2_n, xup2_s, Int.toNat_natCast, Int.reduceToNat, if_pos, if_neg, true_and, and_true, and_self, eq_self, if_true, reduceIte, not_true_eq_false, not_false_eq_true, or_true, true_or, s93 hs, a1, a3, a5]
theorem st_150n (hs : cSs S) (h : cWp S G q np rgs) (hp : p < np) (ep : xwr ((p : Int) + 1) = ((p + 1 : Nat) : Int)) (c : rgs p ≠ rg) : c150_2b r2 f 93 (rg : Int) (p : Int) (S, G, m) = r2 93 (rg : Int) ((p + 1 : Nat) : Int) (S, G, m) := by
  obtain ⟨a1, a2, a3, a4, a5, a6, a7, a8⟩ := h
  have h8 := a8 p hp
  have c' : ¬ ((rgs p : Nat) : Int) = (rg : Int) := by omega
  unfold c150_2b c150_74
  simp (disch := omega) only [cq_gi, cq_gr, cq_a, cq_s, cq_p, cq_pr, cq_is, cq_ar, cq_ab, cq_ln, xq_nz, Option.bind_some, xup2_n, xup2_s, Int.toNat_natCast, Int.reduceToNat, if_pos, if_neg, true_and, and_true, and_self, eq_self, if_true, reduceIte, not_true_eq_false, not_false_eq_true, or_true, true_or, s93 hs, a1, a3, a4, a5, a7, h8, c', ep]
theorem st_150y (hs : cSs S) (hpp : cPs G) (h : cWp S G q np rgs) (hp : p < np) (ep : xwr ((p : Int) + 1) = ((p + 1 : Nat) : Int)) (c : rgs p = rg) (hp16 : p < 16) (q2 : S (q + 2) = (2, 3, 16)) (w3 : G q 3 = ((q + 2 : Nat) : Int)) (hwd : G (q + 2) p = (wd : Int)) : c150_2b r2 f 93 (rg : Int) (p : Int) (S, G, m) = r2 93 (rg : Int) ((p + 1 : Nat) : Int) (S, xup2 (xup2 (xup2 (xup2 (xup2 G (108 + 6 * p) 0 (wd : Int)) (108 + 6 * p) 1 0) (111 + 6 * p) 0 (wd : Int)) (111 + 6 * p) 1 0) 94 p ((108 + 6 * p : Nat) : Int), m) := by
  obtain ⟨a1, a2, a3, a4, a5, a6, a7, a8⟩ := h
  have h8 := a8 p hp
  rw [c] at h8
  have x1 := (s_mk hs hp16).1
  have x2 := (s_mk hs hp16).2.2.2.1
  have m1 := (p_mk hpp hp16).1
  have m2 := (p_mk hpp hp16).2
  have es : ∀ {G : xG_}, cq_sr 94 (p : Int) (108 + 6 * p) (S, G, m) = some (S, xup2 G 94 p ((108 + 6 * p : Nat) : Int), m) := fun {G} => by
    unfold cq_sr
    rw [if_pos]
    · rfl
    · show (S 94).1 = 2 ∧ 5 ≤ (S 94).2.1 ∧ 0 ≤ (p : Int) ∧ (p : Int) < ((S 94).2.2 : Nat) ∧ (108 + 6 * p = 0 ∨ (S (108 + 6 * p)).1 = 1 ∧ (S 94).2.1 = (S (108 + 6 * p)).2.1 + 5)
      rw [s94 hs, x1]
      exact ⟨rfl, by decide, by omega, by show (p : Int) < 16; omega, .inr ⟨rfl, rfl⟩⟩
  unfold c150_2b c150_74
  simp (disch := omega) only [cq_gi, cq_gr, cq_a, cq_s, cq_p, cq_pr, cq_is, cq_ar, cq_ab, cq_ln, xq_nz, Option.bind_some, xup2_n, xup2_s, Int.toNat_natCast, Int.reduceToNat, if_pos, if_neg, true_and, and_true, and_self, eq_self, if_true, reduceIte, not_true_eq_false, not_false_eq_true, or_true, true_or, s93 hs, s96 hs, s97 hs, p93_2 hpp, p93_4 hpp, p93_5 hpp, a1, a3, a4, a5, a7, h8, x1, x2, m1, m2, q2, w3, hwd, k_69 x1, k_69 x2, es, ep]
end
