/-! THE CLASS: who reads whom, over all rules -/
theorem qRd_1 : ∀ (R : List pRu) (u : pRu) (p : Nat), qRd (R ++ [u]) p = qRd R p ||| (if (p : Int) = u.1 then qLm u.2.2.2.2.2 else 0)
  | [], u, p => by
    show (if (p : Int) = u.1 then qLm u.2.2.2.2.2 else 0) ||| 0 = 0 ||| _
    rw [Nat.or_zero, Nat.zero_or]
  | x :: R, u, p => by
    show (if (p : Int) = x.1 then qLm x.2.2.2.2.2 else 0) ||| qRd (R ++ [u]) p = (if (p : Int) = x.1 then qLm x.2.2.2.2.2 else 0) ||| qRd R p ||| _
    rw [qRd_1 R u p, Nat.or_assoc]
section
variable {f q nx r n : Nat} {S : Nat → Nat × Nat × Nat} {G : xG_} {m : Nat × Nat} {R : List pRu} {r2 : Nat → Int → xT_ → Option (xT_)}
theorem st_24r {u : Nat} (hq : 82 < q) (hr : r < n) (hn : n ≤ 24) (qs : S q = (1, 3, 14)) (q7 : S (q + 7) = (2, 11, 24)) (h8 : G q 8 = (n : Int)) (w9 : G q 9 = ((q + 7 : Nat) : Int)) (h7 : G (q + 7) r = (u : Int)) : c24_2b r2 f q (r : Int) (S, G, m) = c24_19 r2 f f q (r : Int) u ((0 : Nat) : Int) (S, G, m) := by
  unfold c24_2b
  simp (disch := omega) only [cq_gi, cq_gr, cq_a, cq_s, cq_p, cq_pr, cq_is, cq_ar, cq_ab, cq_ln, xq_nz, Option.bind_some, xup2_n, xup2_s, Int.toNat_natCast, Int.reduceToNat, if_pos, if_neg, true_and, and_true, and_self, eq_self, if_true, reduceIte, not_true_eq_false, not_false_eq_true, or_true, true_or, qs, q7, h8, w9, h7]
  rfl
theorem st_24e {A sl : Nat} (hq : 82 < q) (qs : S q = (1, 3, 14)) (q10 : S (q + 10) = (2, 3, 16)) (h8 : G q 8 = (n : Int)) (w13 : G q 13 = ((q + 10 : Nat) : Int)) : c24_2b r2 f q (n : Int) (S, G, (A, sl)) = c24_80 f f q A ((0 : Nat) : Int) (xup1 S A (2, 3, 16), xz1 G A (G (q + 10)), (A + 1, sl + 16)) := by
  have e1 : cq_cl 3 (q + 10) (S, G, (A, sl)) = some (A, (xup1 S A (2, 3, 16), xz1 G A (G (q + 10)), (A + 1, sl + 16))) := by
    have e0 : cq_cl 3 (q + 10) (S, G, (A, sl)) = some (A, cq_mk (S (q + 10)) (G (q + 10)) (S (q + 10)).2.2 (S, G, (A, sl))) := if_pos ⟨by show (S (q + 10)).1 = 2; rw [q10], by show (S (q + 10)).2.1 = 3; rw [q10], .inl rfl⟩
    rw [e0, q10]
    rfl
  have e2 : cq_ca 3 A (xup1 S A (2, 3, 16), xz1 G A (G (q + 10)), (A + 1, sl + 16)) = some () := by
    exact if_pos ⟨by show (xup1 S A (2, 3, 16) A).1 = 2; rw [xup1_s], by show (xup1 S A (2, 3, 16) A).2.1 = 3; rw [xup1_s]⟩
  unfold c24_2b
  simp (disch := omega) only [cq_gi, cq_gr, cq_a, cq_s, cq_p, cq_pr, cq_is, cq_ar, cq_ab, cq_ln, xq_nz, Option.bind_some, xup2_n, xup2_s, Int.toNat_natCast, Int.reduceToNat, if_pos, if_neg, true_and, and_true, and_self, eq_self, if_true, reduceIte, not_true_eq_false, not_false_eq_true, or_true, true_or, qs, h8, w13, e1, e2]
  rfl
theorem k_24r {A sl : Nat} (hf : 30 < f) (hq : 82 < q) (hP : cPgS S q) (hw : ∀ u ∈ R, (0 ≤ u.1 ∧ u.1 < 16) ∧ ∀ y ∈ u.2.2.2.2.2, y.1 ≠ 3 → 0 ≤ y.2.1 ∧ y.2.1 < 16) : ∀ (d r fu : Nat) (G : xG_), r + d = R.length → d < fu → cPgP G q → cRl S G q nx R → b16 (qRd (R.take r)) → cRd G q (qRd (R.take r)) → ∃ G', c24_2 f fu q (r : Int) (S, G, (A, sl)) = c24_80 f f q A ((0 : Nat) : Int) (xup1 S A (2, 3, 16), xz1 G' A (G' (q + 10)), (A + 1, sl + 16)) ∧ (∀ a j, a ≠ q + 10 → G' a j = G a j) ∧ b16 (qRd R) ∧ cRd G' q (qRd R) := by
  intro d
  induction d with
  | zero =>
    intro r fu G h1 h2 hG hR hT hC
    obtain ⟨fu, rfl⟩ : ∃ t, fu = t + 1 := ⟨fu - 1, by omega⟩
    have : r = R.length := by omega
    rw [this, List.take_length] at hT hC
    rw [this]
    exact ⟨G, st_24e (r2 := c24_2 f fu) hq hP.1 hP.2.2.2.2.2.2.2.2.2.2 hR.1 hG.2.2.2.2.2.2.2.2.2, fun _ _ _ => rfl, hT, hC⟩
  | succ d ih =>
    intro r fu G h1 h2 hG hR hT hC
    obtain ⟨fu, rfl⟩ : ∃ t, fu = t + 1 := ⟨fu - 1, by omega⟩
    have hr : r < R.length := by omega
    have hR24 := hR.2.1
    obtain ⟨u, u1, u2, u3, ⟨K, u4, _⟩, u5, u6⟩ := hR.2.2 r hr
    have hm : R.getD r dRu ∈ R := by rw [getD_e hr]; exact List.getElem_mem hr
    obtain ⟨w1, w2⟩ := hw _ hm
    obtain ⟨h, hh⟩ : ∃ h : Nat, (R.getD r dRu).1 = (h : Int) := ⟨(R.getD r dRu).1.toNat, by omega⟩
    have ek : xwr ((r : Int) + 1) = ((r + 1 : Nat) : Int) := by rw [xwr_g _ (by omega) (by omega)]; omega
    have hl8 := u4.2.2.2.1.2.1
    obtain ⟨G1, x1, x2, x3, x4⟩ := k_24i (f := f) (m := (A, sl)) (r := r) (r2 := c24_2 f fu) hq u2 (by omega : h < 16) hP w2 _ 0 f G (qRd (R.take r)) (Nat.zero_add _) (by omega) u4 hG.2.2.2.2.2.2.2.2.2 (by rw [u5, hh]) hT hC
    rw [List.drop_zero] at x3 x4
    have et : tUp (qRd (R.take r)) h (qLm (R.getD r dRu).2.2.2.2.2) = qRd (R.take (r + 1)) := by
      funext p
      rw [List.take_add_one, List.getElem?_eq_getElem hr, ← getD_e (d := dRu) hr]
      show _ = qRd (R.take r ++ [R.getD r dRu]) p
      rw [qRd_1]
      unfold tUp
      by_cases c : p = h
      · rw [if_pos c, if_pos (by rw [hh, c])]
      · rw [if_neg c, if_neg (by rw [hh]; omega), Nat.or_zero]
    rw [et] at x3 x4
    obtain ⟨G2, y1, y2, y3, y4⟩ := ih (r + 1) fu G1 (by omega) (by omega) (hG.ge (fun j _ _ _ => x2 q j (by omega))) (hR.ge (Nat.le_refl _) (x2 q 8 (by omega)) (fun j _ => x2 (q + 7) j (by omega)) (fun _ _ => rfl) (fun a j z1 z2 => x2 a j (by omega))) x3 x4
    refine ⟨G2, ?_, fun a j ha => by rw [y2 a j ha, x2 a j ha], y3, y4⟩
    have st : c24_2 f (fu + 1) q (r : Int) (S, G, (A, sl)) = _ := st_24r (r2 := c24_2 f fu) hq hr hR24 hP.1 hP.2.2.2.2.2.2.2.1 hR.1 hG.2.2.2.2.2.2.1 u1
    rw [st, x1, ek]
    exact y1
end
