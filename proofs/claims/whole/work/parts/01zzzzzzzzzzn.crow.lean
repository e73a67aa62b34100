/-! THE CLASS: rows -/
/-- a Rows of the class at x: width W, place for cap -/
def cRw (S : Nat → Nat × Nat × Nat) (G : xG_) (x W cap : Nat) (R : List pRw) : Prop := S x = (1, 5, 4) ∧ (∃ z, S (x + 1) = (2, 4, z) ∧ cap * W ≤ z ∧ z ≤ 4096) ∧ S (x + 2) = (2, 3, cap) ∧ (G x 0 = (W : Int) ∧ G x 1 = (R.length : Int) ∧ G x 2 = ((x + 1 : Nat) : Int) ∧ G x 3 = ((x + 2 : Nat) : Int)) ∧ R.length ≤ cap ∧ cap ≤ 512 ∧ W ≤ 8 ∧ ∀ i, i < R.length → (R.getD i dRw).1.length = W ∧ (∀ c, c < W → G (x + 1) (i * W + c) = (R.getD i dRw).1.getD c 0) ∧ G (x + 2) i = (R.getD i dRw).2
/-- how two rows of values stand, from the c-th on -/
def nCmp (u v : Nat → Int) : Nat → Nat → Int
  | 0, _ => 0
  | d + 1, c => if u c = v c then nCmp u v d (c + 1) else if u c < v c then -1 else 1
theorem nCmp_l : ∀ (xs ys : List Int) (d c : Nat), c + d ≤ xs.length → c + d ≤ ys.length → nCmp (fun k => xs.getD k 0) (fun k => ys.getD k 0) d c = vCmp ((xs.drop c).take d) ((ys.drop c).take d)
  | xs, ys, 0, c, _, _ => by rw [List.take_zero, List.take_zero]; rfl
  | xs, ys, d + 1, c, h1, h2 => by
    have e1 : xs.drop c = xs.getD c 0 :: xs.drop (c + 1) := by rw [getD_e (by omega)]; exact List.drop_eq_getElem_cons (by omega)
    have e2 : ys.drop c = ys.getD c 0 :: ys.drop (c + 1) := by rw [getD_e (by omega)]; exact List.drop_eq_getElem_cons (by omega)
    rw [e1, e2, List.take_succ_cons, List.take_succ_cons]
    show (if _ = _ then nCmp _ _ d (c + 1) else _) = _
    unfold vCmp
    rw [nCmp_l xs ys d (c + 1) (by omega) (by omega)]
theorem nCmp_x {u v u' v' : Nat → Int} : ∀ (d c : Nat), (∀ k, c ≤ k → k < c + d → u k = u' k ∧ v k = v' k) → nCmp u v d c = nCmp u' v' d c
  | 0, _, _ => rfl
  | d + 1, c, h => by
    show (if u c = v c then nCmp u v d (c + 1) else _) = (if u' c = v' c then nCmp u' v' d (c + 1) else _)
    rw [(h c (Nat.le_refl _) (by omega)).1, (h c (Nat.le_refl _) (by omega)).2, nCmp_x d (c + 1) (fun k h1 h2 => h k (by omega) (by omega))]
section
variable {f x y i j c k e e2 W W2 z z2 kz a cap cap2 : Nat} {S : Nat → Nat × Nat × Nat} {G : xG_} {m : Nat × Nat} {R R2 : List pRw} {vi vj w1 : Int}
theorem st_71z {r3 : Nat → Int → Nat → Int → Int → xT_ → Option (Int × xT_)} : c71_3b r3 f x (i : Int) a (k : Int) (k : Int) (S, G, m) = some (0, (S, G, m)) := by
  unfold c71_3b
  rw [if_pos (Int.le_refl _)]
theorem st_71r {r3 : Nat → Int → Nat → Int → Int → xT_ → Option (Int × xT_)} (hc : c < k) (xs : S x = (1, 5, 4)) (cs : S (x + 1) = (2, 4, z)) (as : S a = (2, 4, kz)) (hck : c < kz) (w0 : G x 0 = w1) (w2 : G x 2 = ((x + 1 : Nat) : Int)) (ee : xwr ((xwr ((i : Int) * w1)) + (c : Int)) = (e : Int)) (he : e < z) (hi : G (x + 1) e = vi) (hj : G a c = vj) : c71_3b r3 f x (i : Int) a (k : Int) (c : Int) (S, G, m) = if vi = vj then r3 x (i : Int) a (k : Int) (xwr ((c : Int) + 1)) (S, G, m) else some (if vi < vj then -1 else 1, (S, G, m)) := by
  by_cases q1 : vi = vj
  · rw [if_pos q1]
    unfold c71_3b
    simp (disch := omega) only [cq_gi, cq_gr, cq_a, cq_s, cq_p, cq_pr, cq_is, cq_ar, cq_ab, cq_ln, xq_nz, Option.bind_some, xup2_n, xup2_s, Int.toNat_natCast, Int.reduceToNat, if_pos, if_neg, true_and, and_true, and_self, eq_self, if_true, reduceIte, not_true_eq_false, not_false_eq_true, or_true, true_or, xs, cs, as, w0, w2, ee, hi, hj, q1]
  · rw [if_neg q1]
    by_cases q2 : vi < vj
    · rw [if_pos q2]
      unfold c71_3b c71_50
      simp (disch := omega) only [cq_gi, cq_gr, cq_a, cq_s, cq_p, cq_pr, cq_is, cq_ar, cq_ab, cq_ln, xq_nz, Option.bind_some, xup2_n, xup2_s, Int.toNat_natCast, Int.reduceToNat, if_pos, if_neg, true_and, and_true, and_self, eq_self, if_true, reduceIte, not_true_eq_false, not_false_eq_true, or_true, true_or, xs, cs, as, w0, w2, ee, hi, hj, q1]
    · rw [if_neg q2]
      unfold c71_3b c71_50
      simp (disch := omega) only [cq_gi, cq_gr, cq_a, cq_s, cq_p, cq_pr, cq_is, cq_ar, cq_ab, cq_ln, xq_nz, Option.bind_some, xup2_n, xup2_s, Int.toNat_natCast, Int.reduceToNat, if_pos, if_neg, true_and, and_true, and_self, eq_self, if_true, reduceIte, not_true_eq_false, not_false_eq_true, or_true, true_or, xs, cs, as, w0, w2, ee, hi, hj, q1]
theorem ix_b (h : cRw S G x W cap R) (hi : i < R.length) (hc : c < W) : i * W + c < 4096 ∧ ∀ z, cap * W ≤ z → i * W + c < z := by
  have h1 : (i + 1) * W ≤ cap * W := Nat.mul_le_mul_right _ (by have := h.2.2.2.2.1; omega)
  rw [Nat.succ_mul] at h1
  obtain ⟨z, z1, z2, z3⟩ := h.2.1
  exact ⟨by omega, fun z hz => by omega⟩
theorem ix_e {W i c e : Nat} (h : e = i * W + c) (hb : e < 4096) : xwr ((xwr ((i : Int) * (W : Int))) + (c : Int)) = (e : Int) := by
  have e1 : (i : Int) * (W : Int) = ((i * W : Nat) : Int) := by rw [Int.natCast_mul]
  rw [e1]
  generalize i * W = p at h
  rw [xwr_g (p : Int) (by omega) (by omega), xwr_g _ (by omega) (by omega)]
  omega
/-- compare() -/
theorem k_71r (hf : 20 < f) (h : cRw S G x W cap R) (hi : i < R.length) (hk : k ≤ W) (as : S a = (2, 4, kz)) (hkz : k ≤ kz) : c71 f x (i : Int) a (k : Int) (S, G, m) = some (nCmp (fun c => (R.getD i dRw).1.getD c 0) (fun c => G a c) k 0, (S, G, m)) := by
  obtain ⟨xs, ⟨z, cs, z1, z2⟩, _, ⟨w0, w1, w2, w3⟩, hl, hcap, hW, hR⟩ := id h
  obtain ⟨r1, r2, r3⟩ := hR i hi
  have loop : ∀ (d c fu : Nat), c + d = k → d < fu → c71_3 f fu x (i : Int) a (k : Int) (c : Int) (S, G, m) = some (nCmp (fun c => (R.getD i dRw).1.getD c 0) (fun c => G a c) d c, (S, G, m)) := by
    intro d
    induction d with
    | zero =>
      intro c fu h1 h2
      obtain ⟨fu, rfl⟩ : ∃ t, fu = t + 1 := ⟨fu - 1, by omega⟩
      have : c = k := by omega
      subst this
      exact st_71z (r3 := c71_3 f fu)
    | succ d ih =>
      intro c fu h1 h2
      obtain ⟨fu, rfl⟩ : ∃ t, fu = t + 1 := ⟨fu - 1, by omega⟩
      obtain ⟨b1, b2⟩ := ix_b h hi (show c < W by omega)
      have st : c71_3 f (fu + 1) x (i : Int) a (k : Int) (c : Int) (S, G, m) = _ := st_71r (r3 := c71_3 f fu) (e := i * W + c) (by omega) xs cs as (by omega) w0 w2 (ix_e rfl b1) (b2 z z1) (r2 c (by omega)) rfl
      have ek : xwr ((c : Int) + 1) = ((c + 1 : Nat) : Int) := by rw [xwr_g _ (by omega) (by omega)]; omega
      rw [ek, ih (c + 1) fu (by omega) (by omega)] at st
      rw [st]
      show _ = some (if _ = _ then nCmp _ _ d (c + 1) else _, _)
      split <;> rfl
  exact loop k 0 f (by omega) (by omega)
theorem st_72z {r3 : Nat → Int → Nat → Int → Int → Int → xT_ → Option (Int × xT_)} : c72_3b r3 f x (i : Int) y (j : Int) (k : Int) (k : Int) (S, G, m) = some (0, (S, G, m)) := by
  unfold c72_3b
  rw [if_pos (Int.le_refl _)]
theorem st_72r {r3 : Nat → Int → Nat → Int → Int → Int → xT_ → Option (Int × xT_)} {w2' : Int} (hc : c < k) (xs : S x = (1, 5, 4)) (cs : S (x + 1) = (2, 4, z)) (ys : S y = (1, 5, 4)) (ds : S (y + 1) = (2, 4, z2)) (w0 : G x 0 = w1) (w2 : G x 2 = ((x + 1 : Nat) : Int)) (v0 : G y 0 = w2') (v2 : G y 2 = ((y + 1 : Nat) : Int)) (ee : xwr ((xwr ((i : Int) * w1)) + (c : Int)) = (e : Int)) (he : e < z) (ee2 : xwr ((xwr ((j : Int) * w2')) + (c : Int)) = (e2 : Int)) (he2 : e2 < z2) (hi : G (x + 1) e = vi) (hj : G (y + 1) e2 = vj) : c72_3b r3 f x (i : Int) y (j : Int) (k : Int) (c : Int) (S, G, m) = if vi = vj then r3 x (i : Int) y (j : Int) (k : Int) (xwr ((c : Int) + 1)) (S, G, m) else some (if vi < vj then -1 else 1, (S, G, m)) := by
  by_cases q1 : vi = vj
  · rw [if_pos q1]
    unfold c72_3b
    simp (disch := omega) only [cq_gi, cq_gr, cq_a, cq_s, cq_p, cq_pr, cq_is, cq_ar, cq_ab, cq_ln, xq_nz, Option.bind_some, xup2_n, xup2_s, Int.toNat_natCast, Int.reduceToNat, if_pos, if_neg, true_and, and_true, and_self, eq_self, if_true, reduceIte, not_true_eq_false, not_false_eq_true, or_true, true_or, xs, cs, ys, ds, w0, w2, v0, v2, ee, ee2, hi, hj, q1]
  · rw [if_neg q1]
    by_cases q2 : vi < vj
    · rw [if_pos q2]
      unfold c72_3b c72_63
      simp (disch := omega) only [cq_gi, cq_gr, cq_a, cq_s, cq_p, cq_pr, cq_is, cq_ar, cq_ab, cq_ln, xq_nz, Option.bind_some, xup2_n, xup2_s, Int.toNat_natCast, Int.reduceToNat, if_pos, if_neg, true_and, and_true, and_self, eq_self, if_true, reduceIte, not_true_eq_false, not_false_eq_true, or_true, true_or, xs, cs, ys, ds, w0, w2, v0, v2, ee, ee2, hi, hj, q1]
    · rw [if_neg q2]
      unfold c72_3b c72_63
      simp (disch := omega) only [cq_gi, cq_gr, cq_a, cq_s, cq_p, cq_pr, cq_is, cq_ar, cq_ab, cq_ln, xq_nz, Option.bind_some, xup2_n, xup2_s, Int.toNat_natCast, Int.reduceToNat, if_pos, if_neg, true_and, and_true, and_self, eq_self, if_true, reduceIte, not_true_eq_false, not_false_eq_true, or_true, true_or, xs, cs, ys, ds, w0, w2, v0, v2, ee, ee2, hi, hj, q1]
/-- compareRow() -/
theorem k_72 (hf : 20 < f) (h : cRw S G x W cap R) (h2 : cRw S G y W2 cap2 R2) (hi : i < R.length) (hj : j < R2.length) (hk : k ≤ W) (hk2 : k ≤ W2) : c72 f x (i : Int) y (j : Int) (k : Int) (S, G, m) = some (vCmp ((R.getD i dRw).1.take k) ((R2.getD j dRw).1.take k), (S, G, m)) := by
  obtain ⟨xs, ⟨z, cs, z1, z2⟩, _, ⟨w0, w1, w2, w3⟩, hl, hcap, hW, hR⟩ := id h
  obtain ⟨r1, r2, r3⟩ := hR i hi
  obtain ⟨ys, ⟨z', ds, z1', z2'⟩, _, ⟨v0, v1, v2, v3⟩, hl2, hcap2, hW2, hR2⟩ := id h2
  obtain ⟨t1, t2, t3⟩ := hR2 j hj
  have loop : ∀ (d c fu : Nat), c + d = k → d < fu → c72_3 f fu x (i : Int) y (j : Int) (k : Int) (c : Int) (S, G, m) = some (nCmp (fun c => (R.getD i dRw).1.getD c 0) (fun c => (R2.getD j dRw).1.getD c 0) d c, (S, G, m)) := by
    intro d
    induction d with
    | zero =>
      intro c fu h1 h2
      obtain ⟨fu, rfl⟩ : ∃ t, fu = t + 1 := ⟨fu - 1, by omega⟩
      have : c = k := by omega
      subst this
      exact st_72z (r3 := c72_3 f fu)
    | succ d ih =>
      intro c fu h1 h2'
      obtain ⟨fu, rfl⟩ : ∃ t, fu = t + 1 := ⟨fu - 1, by omega⟩
      obtain ⟨b1, b2⟩ := ix_b h hi (show c < W by omega)
      obtain ⟨b1', b2'⟩ := ix_b h2 hj (show c < W2 by omega)
      have st : c72_3 f (fu + 1) x (i : Int) y (j : Int) (k : Int) (c : Int) (S, G, m) = _ := st_72r (r3 := c72_3 f fu) (e := i * W + c) (e2 := j * W2 + c) (by omega) xs cs ys ds w0 w2 v0 v2 (ix_e rfl b1) (b2 z z1) (ix_e rfl b1') (b2' z' z1') (r2 c (by omega)) (t2 c (by omega))
      have ek : xwr ((c : Int) + 1) = ((c + 1 : Nat) : Int) := by rw [xwr_g _ (by omega) (by omega)]; omega
      rw [ek, ih (c + 1) fu (by omega) (by omega)] at st
      rw [st]
      show _ = some (if _ = _ then nCmp _ _ d (c + 1) else _, _)
      split <;> rfl
  have e := loop k 0 f (by omega) (by omega)
  rw [nCmp_l _ _ k 0 (by omega) (by omega)] at e
  exact e
end
