/-! THE CLASS: what a FORMULA reads -/
def rM9 (lo hi : Int) (a : Nat) : Prop := rM8 lo hi a ∧ ∀ x, 8 ≤ x → x < 64 → (BitVec.ofInt 64 hi).getLsbD x = false
theorem rM9.z : rM9 0 0 0 := ⟨.z, fun x _ _ => by
  have : BitVec.ofInt 64 0 = 0#64 := by decide
  rw [this]
  exact BitVec.getLsbD_zero⟩
theorem rM9.lo {lo hi : Int} {a m : Nat} (h1 : rM9 lo hi a) (hm : m < 64) : rM9 (xor8 lo (xshl8 1 (m : Int))) hi (a ||| 2 ^ m) := ⟨h1.1.lo hm, h1.2⟩
theorem rM9.hi {lo hi : Int} {a m : Nat} (h1 : rM9 lo hi a) (hm : 64 ≤ m) (hm2 : m < 72) : rM9 lo (xor8 hi (xshl8 1 ((m - 64 : Nat) : Int))) (a ||| 2 ^ m) := by
  refine ⟨h1.1.hi hm hm2, fun x x1 x2 => ?_⟩
  rw [xor8_bv, xshl8_bv ⟨m - 64, by omega⟩, BitVec.getLsbD_or, BitVec.getLsbD_twoPow, h1.2 x x1 x2]
  have : ¬ m - 64 = x := by omega
  simp [this]
theorem rM9.or {lo hi lo' hi' : Int} {a b : Nat} (h1 : rM9 lo hi a) (h2 : rM9 lo' hi' b) : rM9 (xor8 lo lo') (xor8 hi hi') (a ||| b) := by
  refine ⟨h1.1.or h2.1, fun x x1 x2 => ?_⟩
  rw [xor8_bv, BitVec.getLsbD_or, h1.2 x x1 x2, h2.2 x x1 x2]
  rfl
def cR1 (c : Int × Int) : Nat := if c.1 % 256 = 2 then 2 ^ c.2.toNat else if c.1 % 256 = 3 ∨ c.1 % 256 = 4 then nBx (c.2 % 72) (c.2 / 72) 72 else 0
def cRm : pCd → Nat
  | [] => 0
  | c :: C => cR1 c ||| cRm C
def cNm : pCd → Bool
  | [] => false
  | c :: C => decide (10 ≤ c.1 % 256 ∧ c.1 % 256 ≤ 13) || cNm C
def okCd (C : pCd) : Prop := ∀ c ∈ C, (0 ≤ c.1 ∧ c.1 < 1100) ∧ (c.1 % 256 = 2 → 0 ≤ c.2 ∧ c.2 < 72) ∧ (c.1 % 256 = 3 ∨ c.1 % 256 = 4 → 0 ≤ c.2 ∧ c.2 < 5184)
def xO (o : Nat) (G G' : xG_) : Prop := ∀ a j, ¬ (a = o ∧ (j = 2 ∨ j = 3 ∨ j = 4)) → G' a j = G a j
theorem x_a255 : ∀ n : Fin 1100, xand ((n.val : Nat) : Int) 255 = ((n.val % 256 : Nat) : Int) := by decide +kernel
theorem x_d72 : ∀ b : Fin 72, ∀ a : Fin 72, xrem ((a.val + 72 * b.val : Nat) : Int) 72 = (a.val : Int) ∧ xdiv ((a.val + 72 * b.val : Nat) : Int) 72 = (b.val : Int) := by decide +kernel
theorem x_a255' {c : Int} (h : 0 ≤ c ∧ c < 1100) : xand c 255 = c % 256 := by
  have := x_a255 ⟨c.toNat, by omega⟩
  have e : ((c.toNat : Nat) : Int) = c := by omega
  rw [show ((⟨c.toNat, by omega⟩ : Fin 1100).val) = c.toNat from rfl, e] at this
  rw [this]
  omega
theorem x_d72' {c : Int} (h : 0 ≤ c ∧ c < 5184) : xrem c 72 = c % 72 ∧ xdiv c 72 = c / 72 := by
  have := x_d72 ⟨c.toNat / 72, by omega⟩ ⟨c.toNat % 72, by omega⟩
  have e : ((c.toNat % 72 + 72 * (c.toNat / 72) : Nat) : Int) = c := by omega
  have t : xrem ((c.toNat % 72 + 72 * (c.toNat / 72) : Nat) : Int) 72 = ((c.toNat % 72 : Nat) : Int) ∧ xdiv ((c.toNat % 72 + 72 * (c.toNat / 72) : Nat) : Int) 72 = ((c.toNat / 72 : Nat) : Int) := this
  rw [e] at t
  rw [t.1, t.2]
  omega
section
variable {f o : Nat} {S : Nat → Nat × Nat × Nat} {G G' G'' : xG_} {m : Nat × Nat}
theorem xO.id : xO o G G := fun _ _ _ => rfl
theorem xO.tr (h : xO o G G') (h' : xO o G' G'') : xO o G G'' := fun a j p => by rw [h' a j p, h a j p]
/-- addRead() -/
theorem k_2 {x a : Nat} (hs : S o = (1, 0, 5)) (hx : x < 72) (h : rM9 (G o 2) (G o 3) a) : ∃ G', c2 f o (x : Int) (S, G, m) = some (S, G', m) ∧ xO o G G' ∧ G' o 4 = G o 4 ∧ rM9 (G' o 2) (G' o 3) (a ||| 2 ^ x) := by
  by_cases c : x < 64
  · refine ⟨xup2 G o 2 (xor8 (G o 2) (xshl8 1 (x : Int))), ?_, fun a j p => xup2_n (by omega), xup2_n (by omega), ?_⟩
    · unfold c2 c2_36
      rw [if_neg (by omega)]
      simp (disch := omega) only [cq_gi, cq_gr, cq_a, cq_s, cq_p, cq_pr, cq_is, cq_ar, cq_ab, cq_ln, xq_nz, Option.bind_some, xup2_n, xup2_s, Int.toNat_natCast, Int.reduceToNat, if_pos, if_neg, true_and, and_true, and_self, eq_self, if_true, reduceIte, not_true_eq_false, not_false_eq_true, or_true, true_or, hs]
    · rw [xup2_s, xup2_n (by omega)]
      exact h.lo c
  · have e : xwr ((x : Int) - 64) = ((x - 64 : Nat) : Int) := by rw [xwr_g _ (by omega) (by omega)]; omega
    refine ⟨xup2 G o 3 (xor8 (G o 3) (xshl8 1 ((x - 64 : Nat) : Int))), ?_, fun a j p => xup2_n (by omega), xup2_n (by omega), ?_⟩
    · unfold c2 c2_36
      rw [if_pos (by omega)]
      simp (disch := omega) only [cq_gi, cq_gr, cq_a, cq_s, cq_p, cq_pr, cq_is, cq_ar, cq_ab, cq_ln, xq_nz, Option.bind_some, xup2_n, xup2_s, Int.toNat_natCast, Int.reduceToNat, if_pos, if_neg, true_and, and_true, and_self, eq_self, if_true, reduceIte, not_true_eq_false, not_false_eq_true, or_true, true_or, hs, e]
    · rw [xup2_s, xup2_n (by omega)]
      exact h.hi (by omega) hx
/-- addReads() -/
theorem k_1l {a b : Nat} (hs : S o = (1, 0, 5)) (ha : a < 72) (hb : b < 72) (A : Nat) : ∀ (d c fu : Nat) (G : xG_), c + d = b + 1 → d < fu → a ≤ c → rM9 (G o 2) (G o 3) (A ||| nBx (a : Int) (b : Int) c) → ∃ G', c1_2 f fu o (a : Int) (b : Int) (c : Int) (S, G, m) = some (S, G', m) ∧ xO o G G' ∧ G' o 4 = G o 4 ∧ rM9 (G' o 2) (G' o 3) (A ||| nBx (a : Int) (b : Int) (b + 1)) := by
  intro d
  induction d with
  | zero =>
    intro c fu G h1 h2 h3 h
    obtain ⟨fu, rfl⟩ : ∃ t, fu = t + 1 := ⟨fu - 1, by omega⟩
    refine ⟨G, ?_, .id, rfl, ?_⟩
    · show c1_2b (c1_2 f fu) f o _ _ _ _ = _
      unfold c1_2b
      rw [if_pos (by omega)]
    · have : c = b + 1 := by omega
      rw [← this]; exact h
  | succ d ih =>
    intro c fu G h1 h2 h3 h
    obtain ⟨fu, rfl⟩ : ∃ t, fu = t + 1 := ⟨fu - 1, by omega⟩
    have ec : xwr ((c : Int) + 1) = ((c + 1 : Nat) : Int) := by rw [xwr_g _ (by omega) (by omega)]; omega
    obtain ⟨_, a2⟩ := x6 a ha
    obtain ⟨_, b2⟩ := x6 b hb
    obtain ⟨_, c2'⟩ := x6 c (by omega)
    have e1 : ∀ G, c1_2 f (fu + 1) o (a : Int) (b : Int) (c : Int) (S, G, m) = if fIn c (a : Int) (b : Int) then (c2 f o (c : Int) (S, G, m)).bind fun R => c1_2 f fu o (a : Int) (b : Int) ((c + 1 : Nat) : Int) R else c1_2 f fu o (a : Int) (b : Int) ((c + 1 : Nat) : Int) (S, G, m) := by
      intro G
      show c1_2b (c1_2 f fu) f o _ _ _ _ = _
      unfold c1_2b c1_34
      rw [if_neg (by omega), a2, b2, c2', ec]
      unfold fIn
      by_cases q1 : c % 6 < a % 6
      · rw [if_pos (by omega), if_neg (by omega)]
      · rw [if_neg (by omega)]
        by_cases q2 : b % 6 < c % 6
        · rw [if_pos (by omega), if_neg (by omega)]
        · rw [if_neg (by omega), if_pos (by omega)]
          simp (disch := omega) only [cq_gi, cq_gr, cq_a, cq_s, cq_p, cq_pr, cq_is, cq_ar, cq_ab, cq_ln, xq_nz, Option.bind_some, xup2_n, xup2_s, Int.toNat_natCast, Int.reduceToNat, if_pos, if_neg, true_and, and_true, and_self, eq_self, if_true, reduceIte, not_true_eq_false, not_false_eq_true, or_true, true_or, hs]
    rw [e1]
    have en : nBx (a : Int) (b : Int) (c + 1) = if fIn c (a : Int) (b : Int) then nBx (a : Int) (b : Int) c ||| 2 ^ c else nBx (a : Int) (b : Int) c := rfl
    by_cases q : fIn c (a : Int) (b : Int)
    · rw [if_pos q] at en ⊢
      obtain ⟨G1, y1, y2, y3, y4⟩ := k_2 (f := f) (m := m) hs (by omega : c < 72) h
      rw [Nat.or_assoc, ← en] at y4
      obtain ⟨G2, z1, z2, z3, z4⟩ := ih (c + 1) fu G1 (by omega) (by omega) (by omega) y4
      refine ⟨G2, ?_, y2.tr z2, by rw [z3, y3], z4⟩
      rw [y1, Option.bind_some]
      exact z1
    · rw [if_neg q] at en ⊢
      rw [← en] at h
      exact ih (c + 1) fu G (by omega) (by omega) (by omega) h
theorem nBx_lo {a b : Nat} : nBx (a : Int) (b : Int) a = 0 := by
  apply Nat.eq_of_testBit_eq
  intro i
  rw [Nat.zero_testBit]
  cases h : (nBx (a : Int) (b : Int) a).testBit i with
  | false => rfl
  | true =>
    have := (nBx_t a i).mp h
    unfold fIn at this
    omega
theorem nBx_hi {a b : Nat} (hb : b < 72) : nBx (a : Int) (b : Int) (b + 1) = nBx (a : Int) (b : Int) 72 := by
  apply Nat.eq_of_testBit_eq
  intro i
  rw [Bool.eq_iff_iff, nBx_t, nBx_t]
  unfold fIn
  omega
theorem nBx_0 {a b : Nat} (hb : b < a) : nBx (a : Int) (b : Int) 72 = 0 := by
  apply Nat.eq_of_testBit_eq
  intro i
  rw [Nat.zero_testBit]
  cases h : (nBx (a : Int) (b : Int) 72).testBit i with
  | false => rfl
  | true =>
    have := (nBx_t 72 i).mp h
    unfold fIn at this
    omega
theorem k_1 {a b A : Nat} (hf : 100 < f) (hs : S o = (1, 0, 5)) (ha : a < 72) (hb : b < 72) (h : rM9 (G o 2) (G o 3) A) : ∃ G', c1 f o (a : Int) (b : Int) (S, G, m) = some (S, G', m) ∧ xO o G G' ∧ G' o 4 = G o 4 ∧ rM9 (G' o 2) (G' o 3) (A ||| nBx (a : Int) (b : Int) 72) := by
  by_cases c : a ≤ b + 1
  · obtain ⟨G', h1, h2, h3, h4⟩ := k_1l (f := f) (m := m) hs ha hb A (b + 1 - a) a f G (by omega) (by omega) (Nat.le_refl _) (by rw [nBx_lo, Nat.or_zero]; exact h)
    rw [nBx_hi hb] at h4
    exact ⟨G', h1, h2, h3, h4⟩
  · rw [nBx_0 (by omega), Nat.or_zero]
    refine ⟨G, ?_, .id, rfl, h⟩
    unfold c1
    obtain ⟨g, rfl⟩ : ∃ t, f = t + 1 := ⟨f - 1, by omega⟩
    show c1_2b (c1_2 (g + 1) g) (g + 1) o _ _ _ _ = _
    unfold c1_2b
    rw [if_pos (by omega)]
/-- a FORMULA comes to be -/
theorem k_0l {L : Nat} (hf : 100 < f) (hs : S o = (1, 0, 5)) (h1 : S (o + 1) = (2, 3, L)) (h2 : S (o + 2) = (2, 4, L)) (hL : L ≤ 100) : ∀ (D P : pCd) (fu a : Nat) (G : xG_), P.length + D.length = L → D.length < fu → okCd D → (∀ k, k < D.length → G (o + 1) (P.length + k) = (D.getD k (0, 0)).1 ∧ G (o + 2) (P.length + k) = (D.getD k (0, 0)).2) → rM9 (G o 2) (G o 3) a → (G o 4 = 0 ∨ G o 4 = 1) → ∃ G', c0_16 f fu o (o + 1) (o + 2) (P.length : Int) (S, G, m) = some (S, G', m) ∧ xO o G G' ∧ rM9 (G' o 2) (G' o 3) (a ||| cRm D) ∧ G' o 4 = if cNm D = true then 1 else G o 4 := by
  intro D
  induction D with
  | nil =>
    intro P fu a G e1 e2 e3 e4 e5 e6
    obtain ⟨fu, rfl⟩ : ∃ t, fu = t + 1 := ⟨fu - 1, by omega⟩
    rw [List.length_nil] at e1
    refine ⟨G, ?_, .id, by show rM9 _ _ (a ||| 0); rw [Nat.or_zero]; exact e5, rfl⟩
    show c0_16b (c0_16 f fu) f o _ _ _ _ = _
    unfold c0_16b
    have el : cq_ln (o + 1) (S, G, m) = some (L : Int) := by
      unfold cq_ln
      show (if (S (o + 1)).1 = 2 ∧ (S (o + 1)).2.2 < 2147483648 then some ((S (o + 1)).2.2 : Int) else none) = _
      rw [h1, if_pos ⟨rfl, by show L < _; omega⟩]
    rw [el, Option.bind_some, if_pos (by omega)]
  | cons x D ih =>
    intro P fu a G e1 e2 e3 e4 e5 e6
    obtain ⟨fu, rfl⟩ : ∃ t, fu = t + 1 := ⟨fu - 1, by omega⟩
    rw [List.length_cons] at e1 e2
    obtain ⟨x1, x2, x3⟩ := e3 x (List.mem_cons_self ..)
    have q0 := e4 0 (by simp)
    have q1 : G (o + 1) P.length = x.1 := q0.1
    have q2 : G (o + 2) P.length = x.2 := q0.2
    have el : cq_ln (o + 1) (S, G, m) = some (L : Int) := by
      unfold cq_ln
      show (if (S (o + 1)).1 = 2 ∧ (S (o + 1)).2.2 < 2147483648 then some ((S (o + 1)).2.2 : Int) else none) = _
      rw [h1, if_pos ⟨rfl, by show L < _; omega⟩]
    have ek : xwr ((P.length : Int) + 1) = ((P.length + 1 : Nat) : Int) := by rw [xwr_g _ (by omega) (by omega)]; omega
    have hz := x_a255' x1
    -- behind this one
    have nx : ∀ G1, xO o G G1 → (G1 o 4 = 0 ∨ G1 o 4 = 1) → rM9 (G1 o 2) (G1 o 3) (a ||| cR1 x) → ∃ G', c0_16 f fu o (o + 1) (o + 2) ((P.length + 1 : Nat) : Int) (S, G1, m) = some (S, G', m) ∧ xO o G G' ∧ rM9 (G' o 2) (G' o 3) (a ||| cRm (x :: D)) ∧ G' o 4 = if cNm D = true then 1 else G1 o 4 := by
      intro G1 z1 z2 z3
      obtain ⟨G', y1, y2, y3, y4⟩ := ih (P ++ [x]) fu (a ||| cR1 x) G1 (by rw [len1]; omega) (by omega) (fun c hc => e3 c (List.mem_cons_of_mem _ hc)) (fun k hk => by
        have := e4 (k + 1) (by rw [List.length_cons]; omega)
        rw [len1, z1 _ _ (by omega), z1 _ _ (by omega), Nat.add_assoc, Nat.add_comm 1 k]
        exact this) z3 z2
      rw [len1] at y1
      exact ⟨G', y1, z1.tr y2, by show rM9 _ _ (a ||| (cR1 x ||| cRm D)); rw [← Nat.or_assoc]; exact y3, y4⟩
    have e0 : c0_16 f (fu + 1) o (o + 1) (o + 2) (P.length : Int) (S, G, m) = (if ¬ x.1 % 256 = 2 then (if x.1 % 256 = 3 then c0_60 (c0_16 f fu) f o (o + 1) (o + 2) (P.length : Int) (S, G, m) else (if ¬ x.1 % 256 = 4 then (if x.1 % 256 < 10 then c0_16 f fu o (o + 1) (o + 2) ((P.length + 1 : Nat) : Int) (S, G, m) else (if 13 < x.1 % 256 then c0_16 f fu o (o + 1) (o + 2) ((P.length + 1 : Nat) : Int) (S, G, m) else c0_16 f fu o (o + 1) (o + 2) ((P.length + 1 : Nat) : Int) (S, xup2 G o 4 1, m))) else c0_60 (c0_16 f fu) f o (o + 1) (o + 2) (P.length : Int) (S, G, m))) else (c2 f o (xwr x.2) (S, G, m)).bind fun R128 => c0_16 f fu o (o + 1) (o + 2) ((P.length + 1 : Nat) : Int) R128) := by
      have epb : cq_pb 0 4 5 o 1 (S, G, m) = some (S, xup2 G o 4 1, m) := if_pos ⟨hs, .inr rfl⟩
      show c0_16b (c0_16 f fu) f o _ _ _ _ = _
      unfold c0_16b c0_100
      rw [el, Option.bind_some, if_neg (by omega)]
      simp (disch := omega) only [cq_gi, cq_gr, cq_a, cq_s, cq_p, cq_pr, cq_is, cq_ar, cq_ab, cq_ln, xq_nz, Option.bind_some, xup2_n, xup2_s, Int.toNat_natCast, Int.reduceToNat, if_pos, if_neg, true_and, and_true, and_self, eq_self, if_true, reduceIte, not_true_eq_false, not_false_eq_true, or_true, true_or, h1, h2, hs, q1, q2, ek, hz, epb]
    have e60 : ∀ (_ : x.1 % 256 = 3 ∨ x.1 % 256 = 4), c0_60 (c0_16 f fu) f o (o + 1) (o + 2) (P.length : Int) (S, G, m) = (c1 f o (x.2 % 72) (x.2 / 72) (S, G, m)).bind fun R => c0_16 f fu o (o + 1) (o + 2) ((P.length + 1 : Nat) : Int) R := by
      intro hh
      obtain ⟨w1, w2⟩ := x_d72' (x3 hh)
      have w0 : xwr x.2 = x.2 := by have := x3 hh; exact xwr_g _ (by omega) (by omega)
      unfold c0_60 c0_100
      simp (disch := omega) only [cq_gi, cq_gr, cq_a, cq_s, cq_p, cq_pr, cq_is, cq_ar, cq_ab, cq_ln, xq_nz, Option.bind_some, xup2_n, xup2_s, Int.toNat_natCast, Int.reduceToNat, if_pos, if_neg, true_and, and_true, and_self, eq_self, if_true, reduceIte, not_true_eq_false, not_false_eq_true, or_true, true_or, h1, h2, hs, q1, q2, ek, w0, w1, w2]
    rw [e0]
    by_cases c2' : x.1 % 256 = 2
    · rw [if_neg (fun q => q c2')]
      have hx := x2 c2'
      have w0 : xwr x.2 = ((x.2.toNat : Nat) : Int) := by rw [xwr_g _ (by omega) (by omega)]; omega
      obtain ⟨G1, y1, y2, y3, y4⟩ := k_2 (f := f) (m := m) hs (by omega : x.2.toNat < 72) e5
      obtain ⟨G', n1, n2, n3, n4⟩ := nx G1 y2 (by rw [y3]; exact e6) (by unfold cR1; rw [if_pos c2']; exact y4)
      refine ⟨G', by rw [w0, y1, Option.bind_some]; exact n1, n2, n3, ?_⟩
      rw [n4, y3]
      have : cNm (x :: D) = cNm D := by show (decide _ || _) = _; rw [decide_eq_false (by omega)]; rfl
      rw [this]
    · rw [if_pos c2']
      by_cases c34 : x.1 % 256 = 3 ∨ x.1 % 256 = 4
      · have hx := x3 c34
        have r1 : x.2 % 72 = (((x.2 % 72).toNat : Nat) : Int) := by omega
        have r2 : x.2 / 72 = (((x.2 / 72).toNat : Nat) : Int) := by omega
        obtain ⟨G1, y1, y2, y3, y4⟩ := k_1 (f := f) (m := m) hf hs (by omega : (x.2 % 72).toNat < 72) (by omega : (x.2 / 72).toNat < 72) e5
        rw [← r1, ← r2] at y1 y4
        obtain ⟨G', n1, n2, n3, n4⟩ := nx G1 y2 (by rw [y3]; exact e6) (by unfold cR1; rw [if_neg c2', if_pos c34]; exact y4)
        have en : cNm (x :: D) = cNm D := by show (decide _ || _) = _; rw [decide_eq_false (by omega)]; rfl
        refine ⟨G', ?_, n2, n3, by rw [n4, y3, en]⟩
        have e61 := e60 c34
        rw [y1, Option.bind_some] at e61
        rw [← n1, ← e61]
        by_cases c3 : x.1 % 256 = 3
        · rw [if_pos c3]
        · rw [if_neg c3, if_neg (by omega)]
      · have er : cR1 x = 0 := by unfold cR1; rw [if_neg c2', if_neg c34]
        rw [if_neg (by omega), if_pos (by omega)]
        by_cases cn : 10 ≤ x.1 % 256 ∧ x.1 % 256 ≤ 13
        · rw [if_neg (by omega), if_neg (by omega)]
          have zo : xO o G (xup2 G o 4 1) := fun a j p => xup2_n (by omega)
          obtain ⟨G', n1, n2, n3, n4⟩ := nx (xup2 G o 4 1) zo (.inr (xup2_s _ _ _ _)) (by rw [er, Nat.or_zero, xup2_n (by omega), xup2_n (by omega)]; exact e5)
          have en : cNm (x :: D) = true := by show (decide _ || _) = _; rw [decide_eq_true cn]; rfl
          refine ⟨G', n1, n2, n3, ?_⟩
          rw [n4, en, xup2_s, if_pos rfl]
          split <;> rfl
        · obtain ⟨G', n1, n2, n3, n4⟩ := nx G .id e6 (by rw [er, Nat.or_zero]; exact e5)
          have en : cNm (x :: D) = cNm D := by show (decide _ || _) = _; rw [decide_eq_false cn]; rfl
          refine ⟨G', ?_, n2, n3, by rw [n4, en]⟩
          rw [← n1]
          by_cases c10 : x.1 % 256 < 10
          · rw [if_pos c10]
          · rw [if_neg c10, if_pos (by omega)]
end
