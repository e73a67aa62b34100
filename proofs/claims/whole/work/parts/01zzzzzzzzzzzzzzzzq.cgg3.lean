/-! THE CLASS: reason: gathersGiven() whole -/
section
variable {f u gA : Nat} {S : Nat → Nat × Nat × Nat} {G : xG_} {m : Nat × Nat} {kk fd al y : Int}
theorem st_167e (hs : cSs S) (hp : cPs G) (us : S u = (1, 6, 20)) (h3 : G u 3 = (gA : Int)) (hgA : gA < 4) (h4 : G u 4 = kk + 9) (h5 : G 105 gA = y) (hfd : fd = 0 ∨ fd = 1) : c167_144 f 93 u fd al (S, G, m) = some ((if fd = 1 ∧ al = y ∧ ¬ (kk = 2 ∧ (1000000000000 < al ∨ al < -1000000000000)) then 1 else 0), (S, G, m)) := by
  have h10 : ¬ (1 : Int) = 0 := by decide
  rcases hfd with rfl | rfl
  · rw [if_neg (fun z => absurd z.1 (by decide))]
    unfold c167_144 c167_176 c167_177
    simp (disch := omega) only [cq_gi, cq_gr, cq_a, cq_s, cq_p, cq_pr, cq_is, cq_ar, cq_ab, cq_ln, xq_nz, Option.bind_some, xup2_n, xup2_s, Int.toNat_natCast, Int.reduceToNat, if_pos, if_neg, true_and, and_true, and_self, eq_self, if_true, reduceIte, not_true_eq_false, not_false_eq_true, or_true, true_or, h10]
  · have e := st_397 (f := f) (m := m) (x := al) us h4
    by_cases co : kk = 2 ∧ (1000000000000 < al ∨ al < -1000000000000)
    · rw [if_pos co] at e
      rw [if_neg (fun z => z.2.2 co)]
      unfold c167_144 c167_176 c167_177
      simp (disch := omega) only [cq_gi, cq_gr, cq_a, cq_s, cq_p, cq_pr, cq_is, cq_ar, cq_ab, cq_ln, xq_nz, Option.bind_some, xup2_n, xup2_s, Int.toNat_natCast, Int.reduceToNat, if_pos, if_neg, true_and, and_true, and_self, eq_self, if_true, reduceIte, not_true_eq_false, not_false_eq_true, or_true, true_or, e, h10]
    · rw [if_neg co] at e
      by_cases ca : al = y
      · rw [if_pos ⟨rfl, ca, co⟩]
        unfold c167_144 c167_177
        simp (disch := omega) only [cq_gi, cq_gr, cq_a, cq_s, cq_p, cq_pr, cq_is, cq_ar, cq_ab, cq_ln, xq_nz, Option.bind_some, xup2_n, xup2_s, Int.toNat_natCast, Int.reduceToNat, if_pos, if_neg, true_and, and_true, and_self, eq_self, if_true, reduceIte, not_true_eq_false, not_false_eq_true, or_true, true_or, e, h10, s93 hs, s105 hs, p93_11 hp, us, h3, h5, ca]
      · rw [if_neg (fun z => ca z.2.1)]
        unfold c167_144 c167_176 c167_177
        simp (disch := omega) only [cq_gi, cq_gr, cq_a, cq_s, cq_p, cq_pr, cq_is, cq_ar, cq_ab, cq_ln, xq_nz, Option.bind_some, xup2_n, xup2_s, Int.toNat_natCast, Int.reduceToNat, if_pos, if_neg, true_and, and_true, and_self, eq_self, if_true, reduceIte, not_true_eq_false, not_false_eq_true, or_true, true_or, e, h10, s93 hs, s105 hs, p93_11 hp, us, h3, h5, ca]
end
theorem gg : ∀ (S : Nat → Nat × Nat × Nat) (m : Nat × Nat), gG2 f00 S m := by
  intro S m q nq nx mp rp s xr cr M p as G0 hs hP hok hM hMo hrp hq hpn has hav r u G hr hu hhd hg hp hG hq1 hgv
  obtain ⟨G', fd, al, e1, e2, e3, e4, ⟨us, hu8, h3, h3l, h4⟩, e5⟩ := k_167g (f := f00) (m := m) (by show 100003010 < 100003011; omega) hs hP hok hM hMo hrp hpn has hr hu hhd hg hp hG hgv
  have h16 := (qN_c hok.1.1 p).1
  have z : ∀ b j, 107 < b → G' b j = G0 b j := fun b j y => by rw [e3 b j (by omega) (by omega), hG b j y]
  have e6 := st_167e (f := f00) (m := m) (al := al) hs e2 us (by rw [z _ _ (by omega)]; exact h3) (by omega) (by rw [z _ _ (by omega)]; exact h4) (by rw [e3 _ _ (by omega) (by omega)]; exact hgv _ h3l) e4
  by_cases c : fd = 1 ∧ al = as.getD (s.2.2.2.2.1.getD r dRu).2.2.1.2.1.toNat 0 ∧ ¬ (qG (s.2.2.2.2.1.getD r dRu) = 2 ∧ (1000000000000 < al ∨ al < -1000000000000))
  · rw [if_pos c] at e6
    exact ⟨1, G', e1.trans e6, e2, e3, .inl ⟨rfl, e5.mpr c⟩⟩
  · rw [if_neg c] at e6
    exact ⟨0, G', e1.trans e6, e2, e3, .inr ⟨rfl, fun y => c (e5.mp y)⟩⟩
