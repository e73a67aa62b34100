/-! THE CLASS: rows: find(), findKey(), read(), at() -/
def cpG (G : xG_) (a0 sp a dp n : Nat) : xG_ := xz1 G a (fun i => if dp ≤ i ∧ i < dp + n then G a0 (sp + (i - dp)) else G a i)
theorem cpG_n {G : xG_} {a0 sp a dp n b j : Nat} (h : b ≠ a) : cpG G a0 sp a dp n b j = G b j := xz1_n _ h
theorem cpG_i {G : xG_} {a0 sp a dp n j : Nat} (h1 : dp ≤ j) (h2 : j < dp + n) : cpG G a0 sp a dp n a j = G a0 (sp + (j - dp)) := by
  unfold cpG
  rw [xz1_s, if_pos ⟨h1, h2⟩]
theorem cpG_o {G : xG_} {a0 sp a dp n j : Nat} (h : ¬ (dp ≤ j ∧ j < dp + n)) : cpG G a0 sp a dp n a j = G a j := by
  unfold cpG
  rw [xz1_s, if_neg h]
theorem cp_ok {S : Nat → Nat × Nat × Nat} {G : xG_} {m : Nat × Nat} {a0 a sp dp n z0 z kk : Nat} (h0 : S a0 = (2, kk, z0)) (h1 : S a = (2, kk, z)) (hk : kk = 3 ∨ kk = 4) (b0 : sp + n ≤ z0) (b1 : dp + n ≤ z) : cq_cp a0 (sp : Int) a (dp : Int) (n : Int) (S, G, m) = some (S, cpG G a0 sp a dp n, m) := by
  unfold cq_cp
  rw [if_pos]
  · rfl
  · show (S a0).1 = 2 ∧ (S a).1 = 2 ∧ (S a0).2.1 = (S a).2.1 ∧ ((S a).2.1 = 3 ∨ (S a).2.1 = 4) ∧ _ ∧ _ ∧ _ ∧ _ ≤ (S a0).2.2 ∧ _ ≤ (S a).2.2
    rw [h0, h1]
    exact ⟨rfl, rfl, rfl, hk, by omega, by omega, by omega, by simpa using b0, by simpa using b1⟩
section
variable {f x y i j c k W kz a cap p : Nat} {S S' : Nat → Nat × Nat × Nat} {G G' : xG_} {m : Nat × Nat} {R : List pRw} {kl : List Int} {ab v : Int} {lo : Nat}
theorem cRw.ge (h : cRw S G x W cap R) (hS : ∀ b, x ≤ b → b ≤ x + 2 → S' b = S b) (h0 : ∀ j, G' x j = G x j) (h1 : ∀ j, G' (x + 1) j = G (x + 1) j) (h2 : ∀ j, G' (x + 2) j = G (x + 2) j) : cRw S' G' x W cap R := by
  obtain ⟨a1, ⟨z, a2, a3⟩, a4, ⟨b1, b2, b3, b4⟩, a5, a6, a7, a8⟩ := h
  exact ⟨by rw [hS _ (by omega) (by omega)]; exact a1, ⟨z, by rw [hS _ (by omega) (by omega)]; exact a2, a3⟩, by rw [hS _ (by omega) (by omega)]; exact a4, ⟨by rw [h0]; exact b1, by rw [h0]; exact b2, by rw [h0]; exact b3, by rw [h0]; exact b4⟩, a5, a6, a7, fun i hi => ⟨(a8 i hi).1, fun c hc => by rw [h1]; exact (a8 i hi).2.1 c hc, by rw [h2]; exact (a8 i hi).2.2⟩⟩
theorem st_74a (xs : S x = (1, 5, 4)) (w0 : G x 0 = (W : Int)) (w1 : G x 1 = (R.length : Int)) (e : c73 f x a (W : Int) 0 (S, G, m) = some ((lo : Int), (S, G, m))) (hlo : R.length ≤ lo) : c74 f x a (S, G, m) = some (xwr (-1 - (lo : Int)), (S, G, m)) := by
  unfold c74 c74_36 c74_39
  simp (disch := omega) only [cq_gi, cq_gr, cq_a, cq_s, cq_p, cq_pr, cq_is, cq_ar, cq_ab, cq_ln, xq_nz, Option.bind_some, xup2_n, xup2_s, Int.toNat_natCast, Int.reduceToNat, if_pos, if_neg, true_and, and_true, and_self, eq_self, if_true, reduceIte, not_true_eq_false, not_false_eq_true, or_true, true_or, xs, w0, w1, e]
theorem st_74b (xs : S x = (1, 5, 4)) (w0 : G x 0 = (W : Int)) (w1 : G x 1 = (R.length : Int)) (e : c73 f x a (W : Int) 0 (S, G, m) = some ((lo : Int), (S, G, m))) (hlo : lo < R.length) (e2 : c71 f x (lo : Int) a (W : Int) (S, G, m) = some (v, (S, G, m))) : c74 f x a (S, G, m) = some (if v = 0 then (lo : Int) else xwr (-1 - (lo : Int)), (S, G, m)) := by
  by_cases c : v = 0
  · rw [if_pos c]
    unfold c74 c74_39
    simp (disch := omega) only [cq_gi, cq_gr, cq_a, cq_s, cq_p, cq_pr, cq_is, cq_ar, cq_ab, cq_ln, xq_nz, Option.bind_some, xup2_n, xup2_s, Int.toNat_natCast, Int.reduceToNat, if_pos, if_neg, true_and, and_true, and_self, eq_self, if_true, reduceIte, not_true_eq_false, not_false_eq_true, or_true, true_or, xs, w0, w1, e, e2, c]
  · rw [if_neg c]
    unfold c74 c74_36 c74_39
    simp (disch := omega) only [cq_gi, cq_gr, cq_a, cq_s, cq_p, cq_pr, cq_is, cq_ar, cq_ab, cq_ln, xq_nz, Option.bind_some, xup2_n, xup2_s, Int.toNat_natCast, Int.reduceToNat, if_pos, if_neg, true_and, and_true, and_self, eq_self, if_true, reduceIte, not_true_eq_false, not_false_eq_true, or_true, true_or, xs, w0, w1, e, e2, c]
/-- what find() answers: v is where kl stands, or lo tells where it would -/
def isFd (R : List pRw) (kl : List Int) (v : Int) : Prop := ∃ lo : Nat, isSr R kl 0 lo ∧ ((v = (lo : Int) ∧ lo < R.length ∧ (R.getD lo dRw).1 = kl) ∨ (v = -1 - (lo : Int) ∧ ∀ r ∈ R, r.1 ≠ kl))
theorem k_74 (hf : 600 < f) (h : cRw S G x W cap R) (hs : R.Pairwise rwLt) (hk : kl.length = W) (hK : cKl S G a kl) : ∃ v, c74 f x a (S, G, m) = some (v, (S, G, m)) ∧ isFd R kl v := by
  obtain ⟨xs, ⟨z, cs, z1, z2⟩, _, ⟨w0, w1, w2, w3⟩, hl, hcap, hW, hR⟩ := id h
  obtain ⟨lo, l1, l2⟩ := k_73 (f := f) (m := m) (ab := 0) hf h hs (Nat.le_of_eq hk) hK
  rw [hk] at l1
  have hn : R.length ≤ 512 := by omega
  have hlo := l2.1
  have tk : ∀ i, i < R.length → (R.getD i dRw).1.take kl.length = (R.getD i dRw).1 := fun i hi => by rw [hk, ← (hR i hi).1, List.take_length]
  have ew : xwr (-1 - (lo : Int)) = -1 - (lo : Int) := xwr_g _ (by omega) (by omega)
  have nm : (lo < R.length → (R.getD lo dRw).1 ≠ kl) → ∀ r ∈ R, r.1 ≠ kl := fun hne r hr er => by
    obtain ⟨j, hj, ej⟩ := List.getElem_of_mem hr
    have e0 : (R.getD j dRw).1 = kl := by rw [getD_e hj, ej]; exact er
    have c0 : vCmp ((R.getD j dRw).1.take kl.length) kl = 0 := by rw [tk j hj, e0, vCmp_self]
    by_cases c1 : j < lo
    · have := l2.2.1 j c1
      omega
    · by_cases c2 : j = lo
      · rw [c2] at e0
        exact hne (by omega) e0
      · have hp := List.pairwise_iff_getElem.mp hs lo j (by omega) hj (by omega)
        rw [← getD_e (d := dRw) (by omega : lo < R.length), ← getD_e (d := dRw) hj] at hp
        have hp' := (vLt_iff (by rw [(hR lo (by omega)).1, (hR j hj).1])).mp hp
        have := l2.2.2 lo (Nat.le_refl _) (by omega)
        rw [tk lo (by omega)] at this
        rw [e0] at hp'
        omega
  by_cases c : lo < R.length
  · have st := st_74b xs w0 w1 l1 c (by have := k_71k (m := m) (by omega : 20 < f) h c (Nat.le_of_eq hk) hK; rw [hk] at this; exact this)
    rw [← hk, tk lo c] at st
    by_cases d : vCmp (R.getD lo dRw).1 kl = 0
    · rw [if_pos d] at st
      exact ⟨_, st, lo, l2, .inl ⟨rfl, c, vCmp_eq (by rw [(hR lo c).1, hk]) d⟩⟩
    · rw [if_neg d, ew] at st
      exact ⟨_, st, lo, l2, .inr ⟨rfl, nm (fun _ e => d (by rw [e, vCmp_self]))⟩⟩
  · have st := st_74a xs w0 w1 l1 (by omega)
    rw [ew] at st
    exact ⟨_, st, lo, l2, .inr ⟨rfl, nm (fun q => absurd q c)⟩⟩
theorem st_75a (xs : S x = (1, 5, 4)) (w1 : G x 1 = (R.length : Int)) (e : c73 f x a (k : Int) 0 (S, G, m) = some ((lo : Int), (S, G, m))) (hlo : R.length ≤ lo) : c75 f x a (k : Int) (S, G, m) = some (-1, (S, G, m)) := by
  unfold c75 c75_30 c75_31
  simp (disch := omega) only [cq_gi, cq_gr, cq_a, cq_s, cq_p, cq_pr, cq_is, cq_ar, cq_ab, cq_ln, xq_nz, Option.bind_some, xup2_n, xup2_s, Int.toNat_natCast, Int.reduceToNat, if_pos, if_neg, true_and, and_true, and_self, eq_self, if_true, reduceIte, not_true_eq_false, not_false_eq_true, or_true, true_or, xs, w1, e]
theorem st_75b (xs : S x = (1, 5, 4)) (w1 : G x 1 = (R.length : Int)) (e : c73 f x a (k : Int) 0 (S, G, m) = some ((lo : Int), (S, G, m))) (hlo : lo < R.length) (e2 : c71 f x (lo : Int) a (k : Int) (S, G, m) = some (v, (S, G, m))) : c75 f x a (k : Int) (S, G, m) = some (if v = 0 then (lo : Int) else -1, (S, G, m)) := by
  by_cases c : v = 0
  · rw [if_pos c]
    unfold c75 c75_31
    simp (disch := omega) only [cq_gi, cq_gr, cq_a, cq_s, cq_p, cq_pr, cq_is, cq_ar, cq_ab, cq_ln, xq_nz, Option.bind_some, xup2_n, xup2_s, Int.toNat_natCast, Int.reduceToNat, if_pos, if_neg, true_and, and_true, and_self, eq_self, if_true, reduceIte, not_true_eq_false, not_false_eq_true, or_true, true_or, xs, w1, e, e2, c]
  · rw [if_neg c]
    unfold c75 c75_30 c75_31
    simp (disch := omega) only [cq_gi, cq_gr, cq_a, cq_s, cq_p, cq_pr, cq_is, cq_ar, cq_ab, cq_ln, xq_nz, Option.bind_some, xup2_n, xup2_s, Int.toNat_natCast, Int.reduceToNat, if_pos, if_neg, true_and, and_true, and_self, eq_self, if_true, reduceIte, not_true_eq_false, not_false_eq_true, or_true, true_or, xs, w1, e, e2, c]
/-- the first row with these first values -/
theorem k_75 (hf : 600 < f) (h : cRw S G x W cap R) (hs : R.Pairwise rwLt) (hk : kl.length ≤ W) (hK : cKl S G a kl) : ∃ v, c75 f x a (kl.length : Int) (S, G, m) = some (v, (S, G, m)) ∧ ((v = -1 ∧ ∀ r ∈ R, r.1.take kl.length ≠ kl) ∨ ∃ lo : Nat, v = (lo : Int) ∧ lo < R.length ∧ (R.getD lo dRw).1.take kl.length = kl ∧ ∀ i, i < lo → (R.getD i dRw).1.take kl.length ≠ kl) := by
  obtain ⟨xs, ⟨z, cs, z1, z2⟩, _, ⟨w0, w1, w2, w3⟩, hl, hcap, hW, hR⟩ := id h
  obtain ⟨lo, l1, l2⟩ := k_73 (f := f) (m := m) (ab := 0) hf h hs hk hK
  have hlo := l2.1
  have nm : (lo < R.length → vCmp ((R.getD lo dRw).1.take kl.length) kl ≠ 0) → ∀ r ∈ R, r.1.take kl.length ≠ kl := fun hne r hr er => by
    obtain ⟨j, hj, ej⟩ := List.getElem_of_mem hr
    have c0 : vCmp ((R.getD j dRw).1.take kl.length) kl = 0 := by rw [getD_e hj, ej, er, vCmp_self]
    by_cases c1 : j < lo
    · have := l2.2.1 j c1
      omega
    · by_cases c2 : j = lo
      · rw [c2] at c0
        exact hne (by omega) c0
      · have q1 := rw_mn (kl := kl) h hs hk (by omega : lo < j) hj
        have q2 := l2.2.2 lo (Nat.le_refl _) (by omega)
        exact hne (by omega) (by omega)
  by_cases c : lo < R.length
  · have st := st_75b xs w1 l1 c (k_71k (m := m) (by omega : 20 < f) h c hk hK)
    by_cases d : vCmp ((R.getD lo dRw).1.take kl.length) kl = 0
    · rw [if_pos d] at st
      refine ⟨_, st, .inr ⟨lo, rfl, c, vCmp_eq (by rw [List.length_take, (hR lo c).1]; omega) d, fun i hi e => ?_⟩⟩
      have := l2.2.1 i hi
      rw [e, vCmp_self] at this
      omega
    · rw [if_neg d] at st
      exact ⟨_, st, .inl ⟨rfl, nm (fun _ => d)⟩⟩
  · exact ⟨_, st_75a xs w1 l1 (by omega), .inl ⟨rfl, nm (fun q => absurd q c)⟩⟩
/-- at() -/
theorem st_70 {z e : Nat} {w1 : Int} (xs : S x = (1, 5, 4)) (cs : S (x + 1) = (2, 4, z)) (w0 : G x 0 = w1) (w2 : G x 2 = ((x + 1 : Nat) : Int)) (ee : xwr ((xwr ((i : Int) * w1)) + (c : Int)) = (e : Int)) (he : e < z) (hv : G (x + 1) e = v) : c70 f x (i : Int) (c : Int) (S, G, m) = some (v, (S, G, m)) := by
  unfold c70
  simp (disch := omega) only [cq_gi, cq_gr, cq_a, cq_s, cq_p, cq_pr, cq_is, cq_ar, cq_ab, cq_ln, xq_nz, Option.bind_some, xup2_n, xup2_s, Int.toNat_natCast, Int.reduceToNat, if_pos, if_neg, true_and, and_true, and_self, eq_self, if_true, reduceIte, not_true_eq_false, not_false_eq_true, or_true, true_or, xs, cs, w0, w2, ee, hv]
theorem k_70 (h : cRw S G x W cap R) (hi : i < R.length) (hc : c < W) : c70 f x (i : Int) (c : Int) (S, G, m) = some ((R.getD i dRw).1.getD c 0, (S, G, m)) := by
  obtain ⟨xs, ⟨z, cs, z1, z2⟩, _, ⟨w0, w1, w2, w3⟩, hl, hcap, hW, hR⟩ := id h
  obtain ⟨b1, b2⟩ := ix_b h hi hc
  exact st_70 xs cs w0 w2 (ix_e rfl b1) (b2 z z1) ((hR i hi).2.1 c hc)
theorem k_69 (xs : S x = (1, 5, 4)) : c69 f x v (S, G, m) = some (S, xup2 (xup2 G x 0 v) x 1 0, m) := by
  unfold c69
  simp (disch := omega) only [cq_gi, cq_gr, cq_a, cq_s, cq_p, cq_pr, cq_is, cq_ar, cq_ab, cq_ln, xq_nz, Option.bind_some, xup2_n, xup2_s, Int.toNat_natCast, Int.reduceToNat, if_pos, if_neg, true_and, and_true, and_self, eq_self, if_true, reduceIte, not_true_eq_false, not_false_eq_true, or_true, true_or, xs]
/-- read() -/
theorem st_78 {e : Nat} {T : xT_} (xs : S x = (1, 5, 4)) (w0 : G x 0 = (W : Int)) (w2 : G x 2 = ((x + 1 : Nat) : Int)) (ee : xwr ((i : Int) * (W : Int)) = (e : Int)) (ec : cq_cp (x + 1) (e : Int) a 0 (W : Int) (S, G, m) = some T) : c78 f x (i : Int) a (S, G, m) = some T := by
  unfold c78
  simp (disch := omega) only [cq_gi, cq_gr, cq_a, cq_s, cq_p, cq_pr, cq_is, cq_ar, cq_ab, cq_ln, xq_nz, Option.bind_some, xup2_n, xup2_s, Int.toNat_natCast, Int.reduceToNat, if_pos, if_neg, true_and, and_true, and_self, eq_self, if_true, reduceIte, not_true_eq_false, not_false_eq_true, or_true, true_or, xs, w0, w2, ee, ec]
theorem k_78 (h : cRw S G x W cap R) (hi : i < R.length) (as : S a = (2, 4, kz)) (hkz : W ≤ kz) (hax : a ≠ x + 1) : ∃ G', c78 f x (i : Int) a (S, G, m) = some (S, G', m) ∧ (∀ b j, ¬ (b = a ∧ j < W) → G' b j = G b j) ∧ ∀ c, c < W → G' a c = (R.getD i dRw).1.getD c 0 := by
  obtain ⟨xs, ⟨z, cs, z1, z2⟩, _, ⟨w0, w1, w2, w3⟩, hl, hcap, hW, hR⟩ := id h
  have hb : i * W + W ≤ z := by
    have h1 : (i + 1) * W ≤ cap * W := Nat.mul_le_mul_right _ (by omega)
    rw [Nat.succ_mul] at h1
    omega
  have ee : xwr ((i : Int) * (W : Int)) = ((i * W : Nat) : Int) := by
    have e1 : (i : Int) * (W : Int) = ((i * W : Nat) : Int) := by rw [Int.natCast_mul]
    rw [e1]
    exact xwr_g _ (by omega) (by omega)
  have ec := cp_ok (G := G) (m := m) (sp := i * W) (dp := 0) (n := W) cs as (.inr rfl) (by omega) (by omega)
  refine ⟨_, st_78 xs w0 w2 ee ec, fun b j hn => ?_, fun c hc => ?_⟩
  · by_cases cb : b = a
    · rw [cb]
      exact cpG_o (fun q => hn ⟨cb, by omega⟩)
    · exact cpG_n cb
  · rw [cpG_i (Nat.zero_le _) (by omega), Nat.sub_zero]
    exact (hR i hi).2.1 c hc
end
