/-! THE CLASS: rows: copyFrom(), frozen() -/
def c79a (f : Nat) (a0 : Nat) (a1 : Nat) (R103 : (xT_)) : Option (xT_) := ((cq_gi 5 1 4 (a1) R103).bind fun v109 => ((cq_gr 5 3 4 (a0) R103).bind fun v111 => ((cq_ln (v111) R103).bind fun v113 => ((cq_p 5 1 4 (a0) (xmin (v109) (v113)) R103).bind fun T116 => ((cq_gr 5 2 4 (a1) T116).bind fun v120 => ((cq_gr 5 2 4 (a0) T116).bind fun v122 => ((cq_gi 5 1 4 (a0) T116).bind fun v124 => ((cq_gi 5 0 4 (a0) T116).bind fun v126 => ((cq_cp (v120) (0) (v122) (0) (xwr ((v124) * (v126))) T116).bind fun T129 => ((cq_gr 5 3 4 (a1) T129).bind fun v133 => ((cq_gr 5 3 4 (a0) T129).bind fun v135 => ((cq_gi 5 1 4 (a0) T129).bind fun v137 => ((cq_cp (v133) (0) (v135) (0) (v137) T129).bind fun T140 => (some T140))))))))))))))
theorem c79a_e (f : Nat) (a0 : Nat) (a1 : Nat) (T : xT_) : c79 f a0 a1 T = ((cq_gi 5 0 4 (a1) T).bind fun v101 => ((cq_is 5 4 (a0) T).bind fun _ => ((c69 f (a0) (v101) T).bind fun R103 => c79a f a0 a1 R103))) := rfl
def c79b (f : Nat) (a0 : Nat) (a1 : Nat) (T129 : xT_) : Option (xT_) := ((cq_gr 5 3 4 (a1) T129).bind fun v133 => ((cq_gr 5 3 4 (a0) T129).bind fun v135 => ((cq_gi 5 1 4 (a0) T129).bind fun v137 => ((cq_cp (v133) (0) (v135) (0) (v137) T129).bind fun T140 => (some T140)))))
theorem c79b_e (f : Nat) (a0 : Nat) (a1 : Nat) (R103 : (xT_)) : c79a f a0 a1 R103 = ((cq_gi 5 1 4 (a1) R103).bind fun v109 => ((cq_gr 5 3 4 (a0) R103).bind fun v111 => ((cq_ln (v111) R103).bind fun v113 => ((cq_p 5 1 4 (a0) (xmin (v109) (v113)) R103).bind fun T116 => ((cq_gr 5 2 4 (a1) T116).bind fun v120 => ((cq_gr 5 2 4 (a0) T116).bind fun v122 => ((cq_gi 5 1 4 (a0) T116).bind fun v124 => ((cq_gi 5 0 4 (a0) T116).bind fun v126 => ((cq_cp (v120) (0) (v122) (0) (xwr ((v124) * (v126))) T116).bind fun T129 => c79b f a0 a1 T129))))))))) := rfl
def c79c (f : Nat) (T140 : xT_) : Option (xT_) := (some T140)
theorem c79c_e (f : Nat) (a0 : Nat) (a1 : Nat) (T129 : xT_) : c79b f a0 a1 T129 = ((cq_gr 5 3 4 (a1) T129).bind fun v133 => ((cq_gr 5 3 4 (a0) T129).bind fun v135 => ((cq_gi 5 1 4 (a0) T129).bind fun v137 => ((cq_cp (v133) (0) (v135) (0) (v137) T129).bind fun T140 => c79c f T140)))) := rfl
/-- a place for rows -/
def cRs (S : Nat → Nat × Nat × Nat) (G : xG_) (x z cap : Nat) : Prop := S x = (1, 5, 4) ∧ S (x + 1) = (2, 4, z) ∧ S (x + 2) = (2, 3, cap) ∧ G x 2 = ((x + 1 : Nat) : Int) ∧ G x 3 = ((x + 2 : Nat) : Int)
/-- only this place for rows has changed -/
def xFy (x : Nat) (G G' : xG_) : Prop := ∀ b j, ¬ (b = x ∧ j ≤ 1) → b ≠ x + 1 → b ≠ x + 2 → G' b j = G b j
section
variable {f x y W cap cap2 n z e1 A sl : Nat} {S : Nat → Nat × Nat × Nat} {G G1 : xG_} {m : Nat × Nat} {R : List pRw} {T : xT_}
theorem st_79a (xs : S x = (1, 5, 4)) (ys : S y = (1, 5, 4)) (v0 : G y 0 = (W : Int)) : c79 f x y (S, G, m) = c79a f x y (S, xup2 (xup2 G x 0 (W : Int)) x 1 0, m) := by
  rw [c79a_e]
  simp (disch := omega) only [cq_gi, cq_gr, cq_a, cq_s, cq_p, cq_pr, cq_is, cq_ar, cq_ab, cq_ln, xq_nz, Option.bind_some, xup2_n, xup2_s, Int.toNat_natCast, Int.reduceToNat, if_pos, if_neg, true_and, and_true, and_self, eq_self, if_true, reduceIte, not_true_eq_false, not_false_eq_true, or_true, true_or, xs, ys, v0, k_69 xs]
theorem st_79b (hcap : cap ≤ 512) (xs : S x = (1, 5, 4)) (ds : S (x + 2) = (2, 3, cap)) (ys : S y = (1, 5, 4)) (hxy : x ≠ y) (v1 : G y 1 = (n : Int)) (hn : n ≤ cap) (v2 : G y 2 = ((y + 1 : Nat) : Int)) (w0 : G x 0 = (W : Int)) (w2 : G x 2 = ((x + 1 : Nat) : Int)) (w3 : G x 3 = ((x + 2 : Nat) : Int)) (q : xwr ((n : Int) * (W : Int)) = (e1 : Int)) (em : xmin (n : Int) (cap : Int) = (n : Int)) (ec : cq_cp (y + 1) 0 (x + 1) 0 (e1 : Int) (S, xup2 G x 1 (n : Int), m) = some T) : c79a f x y (S, G, m) = c79b f x y T := by
  rw [c79b_e]
  simp (disch := omega) only [cq_gi, cq_gr, cq_a, cq_s, cq_p, cq_pr, cq_is, cq_ar, cq_ab, cq_ln, xq_nz, Option.bind_some, xup2_n, xup2_s, Int.toNat_natCast, Int.reduceToNat, if_pos, if_neg, true_and, and_true, and_self, eq_self, if_true, reduceIte, not_true_eq_false, not_false_eq_true, or_true, true_or, xs, ys, ds, v1, v2, w0, w2, w3, em, q, ec]
theorem st_79c (xs : S x = (1, 5, 4)) (ys : S y = (1, 5, 4)) (w1 : G x 1 = (n : Int)) (v3 : G y 3 = ((y + 2 : Nat) : Int)) (w3 : G x 3 = ((x + 2 : Nat) : Int)) (ec : cq_cp (y + 2) 0 (x + 2) 0 (n : Int) (S, G, m) = some T) : c79b f x y (S, G, m) = some T := by
  rw [c79c_e]
  unfold c79c
  simp (disch := omega) only [cq_gi, cq_gr, cq_a, cq_s, cq_p, cq_pr, cq_is, cq_ar, cq_ab, cq_ln, xq_nz, Option.bind_some, xup2_n, xup2_s, Int.toNat_natCast, Int.reduceToNat, if_pos, if_neg, true_and, and_true, and_self, eq_self, if_true, reduceIte, not_true_eq_false, not_false_eq_true, or_true, true_or, xs, ys, w1, w3, v3, ec]
theorem cRw.rs (h : cRw S G x W cap R) : ∃ z, cRs S G x z cap ∧ cap * W ≤ z ∧ z ≤ 4096 := by
  obtain ⟨xs, ⟨z, cs, z1, z2⟩, ds, ⟨w0, w1, w2, w3⟩, hl, hcap, hW, hR⟩ := h
  exact ⟨z, ⟨xs, cs, ds, w2, w3⟩, z1, z2⟩
theorem k_79 (hx : cRs S G x z cap) (hz : cap * W ≤ z ∧ z ≤ 4096) (hcap : cap ≤ 512) (hxy : x ≠ y) (h : cRw S G y W cap2 R) (hn : R.length ≤ cap) : ∃ G', c79 f x y (S, G, m) = some (S, G', m) ∧ xFy x G G' ∧ cRw S G' x W cap R := by
  obtain ⟨xs, cs, ds, w2, w3⟩ := hx
  obtain ⟨ys, ⟨z', cs', z1', z2'⟩, ds', ⟨v0, v1, v2, v3⟩, hl, hcap2, hW, hR⟩ := id h
  have n1 : y ≠ x + 1 := fun q => by rw [q, cs] at ys; injection ys with ys _; omega
  have n2 : y ≠ x + 2 := fun q => by rw [q, ds] at ys; injection ys with ys _; omega
  have n3 : x ≠ y + 1 := fun q => by rw [q, cs'] at xs; injection xs with xs _; omega
  have n4 : x ≠ y + 2 := fun q => by rw [q, ds'] at xs; injection xs with xs _; omega
  have m1 : R.length * W ≤ cap * W := Nat.mul_le_mul_right W hn
  have m2 : R.length * W ≤ cap2 * W := Nat.mul_le_mul_right W hl
  have e1 := st_79a (f := f) (m := m) xs ys v0
  obtain ⟨G1, hG1⟩ : ∃ G1, G1 = xup2 (xup2 G x 0 (W : Int)) x 1 0 := ⟨_, rfl⟩
  rw [← hG1] at e1
  have f1 : ∀ b j, ¬ (b = x ∧ j ≤ 1) → G1 b j = G b j := fun b j hb => by rw [hG1, xup2_n (by omega), xup2_n (by omega)]
  have c2 := cp_ok (G := xup2 G1 x 1 (R.length : Int)) (m := m) (sp := 0) (dp := 0) (n := R.length * W) cs' cs (.inr rfl) (by omega) (by omega)
  obtain ⟨G2, hG2⟩ : ∃ G2, G2 = cpG (xup2 G1 x 1 (R.length : Int)) (y + 1) 0 (x + 1) 0 (R.length * W) := ⟨_, rfl⟩
  rw [← hG2] at c2
  have f2 : ∀ b j, b ≠ x + 1 → G2 b j = xup2 G1 x 1 (R.length : Int) b j := fun b j hb => by rw [hG2]; exact cpG_n hb
  have em : xmin (R.length : Int) (cap : Int) = (R.length : Int) := by
    unfold xmin
    rw [if_neg (by omega)]
  have g0 : G1 x 0 = (W : Int) := by rw [hG1, xup2_n (by omega), xup2_s]
  have e2 := st_79b (f := f) (m := m) hcap xs ds ys hxy (by rw [f1 _ _ (by omega)]; exact v1) hn (by rw [f1 _ _ (by omega)]; exact v2) g0 (by rw [f1 _ _ (by omega)]; exact w2) (by rw [f1 _ _ (by omega)]; exact w3) (mulw (by omega)) em c2
  have c3 := cp_ok (G := G2) (m := m) (sp := 0) (dp := 0) (n := R.length) ds' ds (.inl rfl) (by omega) (by omega)
  obtain ⟨G3, hG3⟩ : ∃ G3, G3 = cpG G2 (y + 2) 0 (x + 2) 0 R.length := ⟨_, rfl⟩
  rw [← hG3] at c3
  have f3 : ∀ b j, b ≠ x + 2 → G3 b j = G2 b j := fun b j hb => by rw [hG3]; exact cpG_n hb
  have g2 : ∀ b j, b ≠ x + 1 → ¬ (b = x ∧ j ≤ 1) → G2 b j = G b j := fun b j y1 y2 => by rw [f2 b j y1, xup2_n (by omega), f1 b j y2]
  have e3 := st_79c (f := f) (m := m) (G := G2) (n := R.length) xs ys (by rw [f2 _ _ (by omega), xup2_s]) (by rw [g2 _ _ (by omega) (by omega)]; exact v3) (by rw [g2 _ _ (by omega) (by omega)]; exact w3) c3
  refine ⟨G3, e1.trans (e2.trans e3), fun b j y1 y2 y3 => by rw [f3 b j y3, g2 b j y2 y1], xs, ⟨z, cs, hz⟩, ds, ⟨?_, ?_, ?_, ?_⟩, hn, hcap, hW, fun i hi => ⟨(hR i hi).1, fun c hc => ?_, ?_⟩⟩
  · rw [f3 _ _ (by omega), f2 _ _ (by omega), xup2_n (by omega)]; exact g0
  · rw [f3 _ _ (by omega), f2 _ _ (by omega), xup2_s]
  · rw [f3 _ _ (by omega), g2 _ _ (by omega) (by omega)]; exact w2
  · rw [f3 _ _ (by omega), g2 _ _ (by omega) (by omega)]; exact w3
  · have b2 : i * W + W ≤ R.length * W := by
      have := Nat.mul_le_mul_right W (by omega : i + 1 ≤ R.length)
      rw [Nat.succ_mul] at this
      exact this
    rw [f3 _ _ (by omega), hG2, cpG_i (Nat.zero_le _) (by omega), Nat.zero_add, Nat.sub_zero, xup2_n (by omega), f1 _ _ (by omega)]
    exact (hR i hi).2.1 c hc
  · rw [hG3, cpG_i (Nat.zero_le _) (by omega), Nat.zero_add, Nat.sub_zero, g2 _ _ (by omega) (by omega)]
    exact (hR i hi).2.2
/-- new Rows(W, n) -/
theorem k_68 (hA : 0 < A) (hb : W * n ≤ 4096) (hn : n ≤ 512) (hS : S A = (1, 5, 4)) : c68 f A (W : Int) (n : Int) (S, G, (A + 1, sl)) = some (xup1 (xup1 S (A + 1) (2, 4, W * n)) (A + 2) (2, 3, n), xup2 (xz1 (xup2 (xz1 (xup2 G A 0 (W : Int)) (A + 1) (fun _ => 0)) A 2 ((A + 1 : Nat) : Int)) (A + 2) (fun _ => 0)) A 3 ((A + 2 : Nat) : Int), (A + 3, sl + W * n + n)) := by
  unfold c68
  rw [xq_nz, if_neg (Nat.ne_of_gt hA), Option.bind_some]
  have e0 : cq_p 5 0 4 A (W : Int) (S, G, (A + 1, sl)) = some (S, xup2 G A 0 (W : Int), (A + 1, sl)) := if_pos hS
  rw [e0, Option.bind_some, mulw (by omega)]
  rw [alc' (zn := W * n) (a := A + 1) (A + 2) (sl + W * n) hS (by omega) (by decide) (by omega) (by omega) (by omega) rfl rfl]
  rw [alc' (zn := n) (a := A + 2) (A + 3) (sl + W * n + n) (by rw [xup1_n (by omega)]; exact hS) (by omega) (by decide) (by omega) (by omega) (by omega) rfl rfl]
/-- frozen() -/
theorem st_80 {T1 T2 : xT_} {S1 : Nat → Nat × Nat × Nat} (hx : x < A) (xs : S x = (1, 5, 4)) (w0 : G x 0 = (W : Int)) (w1 : G x 1 = (n : Int)) (e : c68 f A (W : Int) (n : Int) (xup1 S A (1, 5, 4), xz1 G A (fun _ => 0), (A + 1, sl + 4)) = some (S1, G1, m)) (s1 : S1 A = (1, 5, 4)) (e2 : c79 f A x (S1, G1, m) = some T2) : c80 f x (S, G, (A, sl)) = some (A, T2) := by
  have xs' : xup1 S A (1, 5, 4) x = (1, 5, 4) := by rw [xup1_n (by omega)]; exact xs
  have w0' : xz1 G A (fun _ => 0) x 0 = (W : Int) := by rw [xz1_n _ (by omega)]; exact w0
  have w1' : xz1 G A (fun _ => 0) x 1 = (n : Int) := by rw [xz1_n _ (by omega)]; exact w1
  unfold c80 cq_nw cq_mk
  simp (disch := omega) only [cq_gi, cq_gr, cq_a, cq_s, cq_p, cq_pr, cq_is, cq_ar, cq_ab, cq_ln, xq_nz, Option.bind_some, xup2_n, xup2_s, Int.toNat_natCast, Int.reduceToNat, if_pos, if_neg, true_and, and_true, and_self, eq_self, if_true, reduceIte, not_true_eq_false, not_false_eq_true, or_true, true_or, xs', w0', w1', e, s1, e2]
theorem k_80f (hx : x + 2 < A) (h : cRw S G x W cap R) : ∃ S' G', c80 f x (S, G, (A, sl)) = some (A, (S', G', (A + 3, sl + 4 + W * R.length + R.length))) ∧ (∀ a, a < A → S' a = S a) ∧ (∀ a j, a < A → G' a j = G a j) ∧ cRw S' G' A W R.length R := by
  obtain ⟨xs, ⟨z, cs, z1, z2⟩, ds, ⟨w0, w1, w2, w3⟩, hl, hcap, hW, hR⟩ := id h
  have m2 : R.length * W ≤ cap * W := Nat.mul_le_mul_right W hl
  have m3 : W * R.length = R.length * W := Nat.mul_comm _ _
  have e1 := k_68 (f := f) (A := A) (W := W) (n := R.length) (sl := sl + 4) (S := xup1 S A (1, 5, 4)) (G := xz1 G A (fun _ => 0)) (by omega) (by omega) (by omega) (xup1_s _ _ _)
  obtain ⟨S1, hS1⟩ : ∃ S1, S1 = xup1 (xup1 (xup1 S A (1, 5, 4)) (A + 1) (2, 4, W * R.length)) (A + 2) (2, 3, R.length) := ⟨_, rfl⟩
  obtain ⟨G1, hG1⟩ : ∃ G1, G1 = xup2 (xz1 (xup2 (xz1 (xup2 (xz1 G A (fun _ => 0)) A 0 (W : Int)) (A + 1) (fun _ => 0)) A 2 ((A + 1 : Nat) : Int)) (A + 2) (fun _ => 0)) A 3 ((A + 2 : Nat) : Int) := ⟨_, rfl⟩
  rw [← hS1, ← hG1] at e1
  have sA : S1 A = (1, 5, 4) := by rw [hS1, xup1_n (by omega), xup1_n (by omega), xup1_s]
  have sA1 : S1 (A + 1) = (2, 4, W * R.length) := by rw [hS1, xup1_n (by omega), xup1_s]
  have sA2 : S1 (A + 2) = (2, 3, R.length) := by rw [hS1, xup1_s]
  have sL : ∀ a, a < A → S1 a = S a := fun a ha => by rw [hS1, xup1_n (by omega), xup1_n (by omega), xup1_n (by omega)]
  have gL : ∀ a j, a < A → G1 a j = G a j := fun a j ha => by rw [hG1, xup2_n (by omega), xz1_n _ (by omega), xup2_n (by omega), xz1_n _ (by omega), xup2_n (by omega), xz1_n _ (by omega)]
  have g2 : G1 A 2 = ((A + 1 : Nat) : Int) := by rw [hG1, xup2_n (by omega), xz1_n _ (by omega), xup2_s]
  have g3 : G1 A 3 = ((A + 2 : Nat) : Int) := by rw [hG1, xup2_s]
  have h1 : cRw S1 G1 x W cap R := h.ge (fun b _ _ => sL b (by omega)) (fun j => gL _ _ (by omega)) (fun j => gL _ _ (by omega)) (fun j => gL _ _ (by omega))
  obtain ⟨G2, i1, i2, i3⟩ := k_79 (f := f) (m := (A + 3, sl + 4 + W * R.length + R.length)) (z := W * R.length) (cap := R.length) ⟨sA, sA1, sA2, g2, g3⟩ (by omega) (by omega) (by omega : A ≠ x) h1 (Nat.le_refl _)
  exact ⟨S1, G2, st_80 (T1 := (S1, G1, (A + 3, sl + 4 + W * R.length + R.length))) (by omega) xs w0 w1 e1 sA i1, sL, fun a j ha => by rw [i2 a j (by omega) (by omega) (by omega), gL a j ha], i3⟩
end
