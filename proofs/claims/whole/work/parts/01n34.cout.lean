section
/-! THE CLASS: outcome(), the rows behind a round -/
section
variable {f q nx qo mp rp p x y r n : Nat} {S S' : Nat → Nat × Nat × Nat} {G G' G1 : xG_} {m m' : Nat × Nat} {s : pPg} {xp cp yp ap : Nat → Nat} {R A : Nat → List pRw} {ch : Nat} {tk mv d v : Int} {b : Bool} {np mn : Nat} {r17 r161 : Nat → Nat → Int → Nat → Int → Int → xT_ → Option (Nat × xT_)} {T : xT_}
theorem cSs.al {B : Nat} (h : cSs S) (hB : 279 ≤ B) (hS : ∀ a, a < B → S' a = S a) : cSs S' := fun k hk => by rw [hS _ (by omega)]; exact h k hk
theorem cPs.al {B : Nat} (h : cPs G) (hB : 279 ≤ B) (hG : ∀ a j, a < B → G' a j = G a j) : cPs G' := h.ge (fun a j hz => hG a j (by
  rcases hz with z | z | z | z | z | z | z | ⟨z, z1, z2, k, z3⟩ | z | z | z | ⟨k, z1, z2, z3⟩ <;> omega))
theorem cWk.al (h : cWk S G q nx s xp cp R) (hn : 279 ≤ nx) (hS : ∀ a, a < nx → S' a = S a) (hG : ∀ a j, a < nx → G' a j = G a j) : cWk S' G' q nx s xp cp R := by
  obtain ⟨⟨a1, a2, a3, a4, a5, a6⟩, b⟩ := h
  have hnp : s.1.length ≤ 16 := a6.1.1.1
  refine ⟨⟨a1.al hn hS, a2.al hn hG, by rw [hG _ _ (by omega)]; exact a3, a4, a5.ge (Nat.le_refl _) hS (fun a j _ y => hG a j y), a6⟩, fun p hp => ?_⟩
  obtain ⟨b1, b2, b3, b4⟩ := b p hp
  have hx : xp p + 2 < nx := by omega
  exact ⟨by rw [hG _ _ (by omega)]; exact b1, b2, b3.ge (fun b _ _ => hS b (by omega)) (fun j => hG _ _ (by omega)) (fun j => hG _ _ (by omega)) (fun j => hG _ _ (by omega)), b4⟩
theorem cAh.al (h : cAh S G nx s yp ap A) (hn : 279 ≤ nx) (hS : ∀ a, a < nx → S' a = S a) (hG : ∀ a j, a < nx → G' a j = G a j) : cAh S' G' nx s yp ap A := fun p hp => by
  obtain ⟨a1, a2, a3⟩ := h p hp
  exact ⟨by rw [hG _ _ (by omega)]; exact a1, a2, a3.ge (fun b _ _ => hS b (by omega)) (fun j => hG _ _ (by omega)) (fun j => hG _ _ (by omega)) (fun j => hG _ _ (by omega))⟩
theorem st_17z (hs : cSs S) (h1 : G 93 1 = (q : Int)) (qs : S q = (1, 3, 14)) (hn : G q 1 = (np : Int)) : c162_17b r17 f 93 mp tk rp mv (np : Int) (S, G, m) = c162_161 f f 93 mp tk rp mv 0 (S, G, m) := by
  unfold c162_17b
  simp (disch := omega) only [cq_gi, cq_gr, cq_a, cq_s, cq_p, cq_pr, cq_is, cq_ar, cq_ab, cq_ln, xq_nz, Option.bind_some, xup2_n, xup2_s, Int.toNat_natCast, Int.reduceToNat, if_pos, if_neg, true_and, and_true, and_self, eq_self, if_true, reduceIte, not_true_eq_false, not_false_eq_true, or_true, true_or, s93 hs, h1, qs, hn]
theorem st_17c (hs : cSs S) (h1 : G 93 1 = (q : Int)) (qs : S q = (1, 3, 14)) (hn : G q 1 = (np : Int)) (hp : p < np) (hn16 : np ≤ 16) (h13 : G 93 13 = (ch : Int)) (hch : ch < 2 ^ 16) (hb : ch.testBit p = true) : c162_17b r17 f 93 mp tk rp mv (p : Int) (S, G, m) = c162_66 r17 f 93 mp tk rp mv (p : Int) 0 (S, G, m) := by
  have eb : ¬ xand (xshr (ch : Int) (p : Int)) 1 = 0 := fun y => by rw [(xbit0 (by omega) (by omega)).mp y] at hb; cases hb
  unfold c162_17b c162_65
  simp (disch := omega) only [cq_gi, cq_gr, cq_a, cq_s, cq_p, cq_pr, cq_is, cq_ar, cq_ab, cq_ln, xq_nz, Option.bind_some, xup2_n, xup2_s, Int.toNat_natCast, Int.reduceToNat, if_pos, if_neg, true_and, and_true, and_self, eq_self, if_true, reduceIte, not_true_eq_false, not_false_eq_true, or_true, true_or, s93 hs, h1, qs, hn, h13, eb]
theorem st_17r (hs : cSs S) (hpp : cPs G) (h1 : G 93 1 = (q : Int)) (qs : S q = (1, 3, 14)) (hn : G q 1 = (np : Int)) (hp : p < np) (hn16 : np ≤ 16) (h13 : G 93 13 = (ch : Int)) (hch : ch < 2 ^ 16) (hb : ch.testBit p = false) (h94 : G 94 p = (x : Int)) (h95 : G 95 p = (y : Int)) (xs : S x = (1, 5, 4)) (e : c82 f x y (S, G, m) = some (b01 b, (S, G, m))) : c162_17b r17 f 93 mp tk rp mv (p : Int) (S, G, m) = c162_66 r17 f 93 mp tk rp mv (p : Int) (b01 b) (S, G, m) := by
  have eb : xand (xshr (ch : Int) (p : Int)) 1 = 0 := (xbit0 (by omega) (by omega)).mpr hb
  cases b with
  | false =>
    have e0 : b01 false = 0 := rfl
    rw [e0] at e ⊢
    unfold c162_17b c162_65
    simp (disch := omega) only [cq_gi, cq_gr, cq_a, cq_s, cq_p, cq_pr, cq_is, cq_ar, cq_ab, cq_ln, xq_nz, Option.bind_some, xup2_n, xup2_s, Int.toNat_natCast, Int.reduceToNat, if_pos, if_neg, true_and, and_true, and_self, eq_self, if_true, reduceIte, not_true_eq_false, not_false_eq_true, or_true, true_or, s93 hs, s94 hs, s95 hs, p93_2 hpp, p93_3 hpp, h1, qs, hn, h13, eb, h94, h95, xs, e]
  | true =>
    have e0 : b01 true = 1 := rfl
    rw [e0] at e ⊢
    unfold c162_17b
    simp (disch := omega) only [cq_gi, cq_gr, cq_a, cq_s, cq_p, cq_pr, cq_is, cq_ar, cq_ab, cq_ln, xq_nz, Option.bind_some, xup2_n, xup2_s, Int.toNat_natCast, Int.reduceToNat, if_pos, if_neg, true_and, and_true, and_self, eq_self, if_true, reduceIte, not_true_eq_false, not_false_eq_true, or_true, true_or, s93 hs, s94 hs, s95 hs, p93_2 hpp, p93_3 hpp, h1, qs, hn, h13, eb, h94, h95, xs, e, Int.reduceEq]
theorem st_66f (hs : cSs S) (hpp : cPs G) (hp16 : p < 16) (h94 : G 94 p = ((108 + 6 * p : Nat) : Int)) (e : c80 f (108 + 6 * p) (S, G, m) = some (r, T)) : c162_66 r17 f 93 mp tk rp mv (p : Int) 0 (S, G, m) = c162_123 r17 f 93 mp tk rp mv (p : Int) 0 r (p : Int) rp T := by
  have hm : G 96 p = ((108 + 6 * p : Nat) : Int) := p_md hpp hp16
  have sm : S (108 + 6 * p) = (1, 5, 4) := (s_mk hs hp16).1
  have h64 : 64 ≤ 108 + 6 * p := by omega
  unfold c162_66
  simp (disch := omega) only [cq_gi, cq_gr, cq_a, cq_s, cq_p, cq_pr, cq_is, cq_ar, cq_ab, cq_ln, xq_nz, Option.bind_some, xup2_n, xup2_s, Int.toNat_natCast, Int.reduceToNat, if_pos, if_neg, true_and, and_true, and_self, eq_self, if_true, reduceIte, not_true_eq_false, not_false_eq_true, or_true, true_or, s93 hs, s94 hs, s96 hs, p93_2 hpp, p93_4 hpp, h94, hm, sm, e, h64]
theorem st_66k (hs : cSs S) (hpp : cPs G) (hp16 : p < 16) (h94 : G 94 p = (x : Int)) (hx : 203 < x) : c162_66 r17 f 93 mp tk rp mv (p : Int) 0 (S, G, m) = c162_123 r17 f 93 mp tk rp mv (p : Int) 0 x (p : Int) rp (S, G, m) := by
  have hm : G 96 p = ((108 + 6 * p : Nat) : Int) := p_md hpp hp16
  have h64 : 64 ≤ 108 + 6 * p := by omega
  have h64' : 64 ≤ x := by omega
  have hne : ¬ x = 108 + 6 * p := by omega
  unfold c162_66
  simp (disch := omega) only [cq_gi, cq_gr, cq_a, cq_s, cq_p, cq_pr, cq_is, cq_ar, cq_ab, cq_ln, xq_nz, Option.bind_some, xup2_n, xup2_s, Int.toNat_natCast, Int.reduceToNat, if_pos, if_neg, true_and, and_true, and_self, eq_self, if_true, reduceIte, not_true_eq_false, not_false_eq_true, or_true, true_or, s93 hs, s94 hs, s96 hs, p93_2 hpp, p93_4 hpp, h94, hm, h64, h64', hne]
theorem st_66s (hs : cSs S) (hpp : cPs G) (hp16 : p < 16) (h95 : G 95 p = (y : Int)) : c162_66 r17 f 93 mp tk rp mv (p : Int) 1 (S, G, m) = c162_123 r17 f 93 mp tk rp mv (p : Int) 1 y (p : Int) rp (S, G, m) := by
  have h10 : ¬ (1 : Int) = 0 := by decide
  unfold c162_66
  simp (disch := omega) only [cq_gi, cq_gr, cq_a, cq_s, cq_p, cq_pr, cq_is, cq_ar, cq_ab, cq_ln, xq_nz, Option.bind_some, xup2_n, xup2_s, Int.toNat_natCast, Int.reduceToNat, if_pos, if_neg, true_and, and_true, and_self, eq_self, if_true, reduceIte, not_true_eq_false, not_false_eq_true, or_true, true_or, s93 hs, s95 hs, p93_3 hpp, h95, h10]
theorem sr_rp (rs : S rp = (2, 10, np)) (hp : p < np) (xs : S r = (1, 5, 4)) : cq_sr rp (p : Int) r (S, G, m) = some (S, xup2 G rp p (r : Int), m) := by
  unfold cq_sr
  simp only [rs, xs]
  rw [if_pos ⟨trivial, by decide, by omega, by omega, .inr ⟨trivial, trivial⟩⟩, Int.toNat_natCast]
theorem st_123d (hs : cSs S) (hpp : cPs G) (hrp : 278 < rp) (rs : S rp = (2, 10, np)) (hp : p < np) (hn16 : np ≤ 16) (xs : S r = (1, 5, 4)) (h95 : G 95 p = (y : Int)) (e : c83 f r y (S, xup2 G rp p (r : Int), m) = some (d, (S, xup2 G rp p (r : Int), m))) (em : xwr (mv + d) = v) (ep : xwr ((p : Int) + 1) = ((p + 1 : Nat) : Int)) : c162_123 r17 f 93 mp tk rp mv (p : Int) 0 r (p : Int) rp (S, G, m) = r17 93 mp tk rp v ((p + 1 : Nat) : Int) (S, xup2 G rp p (r : Int), m) := by
  unfold c162_123 c162_149
  simp (disch := omega) only [cq_gi, cq_gr, cq_a, cq_s, cq_p, cq_pr, cq_is, cq_ar, cq_ab, cq_ln, xq_nz, Option.bind_some, xup2_n, xup2_s, Int.toNat_natCast, Int.reduceToNat, if_pos, if_neg, true_and, and_true, and_self, eq_self, if_true, reduceIte, not_true_eq_false, not_false_eq_true, or_true, true_or, s93 hs, s95 hs, p93_3 hpp, sr_rp rs hp xs, rs, xs, h95, e, em, ep, Nat.reduceLeDiff]
theorem st_123s (rs : S rp = (2, 10, np)) (hp : p < np) (xs : S r = (1, 5, 4)) (em : xwr (mv + 0) = mv) (ep : xwr ((p : Int) + 1) = ((p + 1 : Nat) : Int)) : c162_123 r17 f 93 mp tk rp mv (p : Int) 1 r (p : Int) rp (S, G, m) = r17 93 mp tk rp mv ((p + 1 : Nat) : Int) (S, xup2 G rp p (r : Int), m) := by
  have h10 : ¬ (1 : Int) = 0 := by decide
  unfold c162_123 c162_149
  simp (disch := omega) only [cq_gi, cq_gr, cq_a, cq_s, cq_p, cq_pr, cq_is, cq_ar, cq_ab, cq_ln, xq_nz, Option.bind_some, xup2_n, xup2_s, Int.toNat_natCast, Int.reduceToNat, if_pos, if_neg, true_and, and_true, and_self, eq_self, if_true, reduceIte, not_true_eq_false, not_false_eq_true, or_true, true_or, sr_rp rs hp xs, em, ep, h10]
end
theorem eq_of_vr {R A : List pRw} (h : vEq R A) (hr : ∀ i, i < R.length → i < A.length ∧ (R.getD i dRw).2 = (A.getD i dRw).2) : R = A := by
  have hl : R.length = A.length := by
    have := congrArg List.length h
    rw [List.length_map, List.length_map] at this
    exact this
  refine List.ext_getElem hl (fun i h1 h2 => Prod.ext ?_ ?_)
  · have := List.getElem_of_eq h (i := i) (by rw [List.length_map]; exact h1)
    rw [List.getElem_map, List.getElem_map] at this
    exact this
  · have := (hr i h1).2
    rw [getD_e h1, getD_e h2] at this
    exact this
theorem dfN_self {R : List pRw} : dfN R R = 0 := by
  unfold dfN
  have : R.countP (fun r => ! hasV R r.1) = 0 := List.countP_eq_zero.mpr (fun r hr => by
    rw [hasV_t.mpr ⟨r, hr, rfl⟩]; decide)
  rw [this]
theorem dfN_le {R R2 : List pRw} : dfN R R2 ≤ R.length + R2.length := by
  unfold dfN
  have := List.countP_le_length (p := fun r : pRw => ! hasV R2 r.1) (l := R)
  have := List.countP_le_length (p := fun r : pRw => ! hasV R r.1) (l := R2)
  omega
/-- rows that came or went, all predicates -/
def dfS (R A : Nat → List pRw) : Nat → Nat
  | 0 => 0
  | p + 1 => dfS R A p + dfN (R p) (A p)
section
variable {f q nx mp rp B : Nat} {s : pPg} {xp cp yp ap : Nat → Nat} {R A : Nat → List pRw} {ch : Nat} {tk : Int}
theorem k_162i (hf : 600 < f) (hn : 279 ≤ nx) (hrp : nx ≤ rp) (hch : ch < 2 ^ 16) (hcb : ∀ j, j < s.1.length → (ch.testBit j = true ↔ ¬ vEq (R j) (A j))) (hA1 : ∀ j, j < s.1.length → (A j).Pairwise rwLt ∧ (A j).length ≤ 100) :
    ∀ (d p fu : Nat) (S : Nat → Nat × Nat × Nat) (G : xG_) (B sl : Nat), p + d = s.1.length → d < fu → cWk S G q nx s xp cp R → cAh S G nx s yp ap A → G 93 13 = (ch : Int) → rp < B → S rp = (2, 10, s.1.length) → (∀ j, j < p → ∃ x c : Nat, G rp j = (x : Int) ∧ (203 < x ∧ x + 2 < B) ∧ x ≠ rp ∧ x + 1 ≠ rp ∧ x + 2 ≠ rp ∧ cRw S G x (qN s j) c (R j) ∧ (nx ≤ x ∨ x = yp j ∨ x = xp j ∧ 203 < xp j)) →
      ∃ S' G' B' sl', c162_17 f fu 93 mp tk rp ((dfS R A p : Nat) : Int) (p : Int) (S, G, (B, sl)) = c162_161 f f 93 mp tk rp ((dfS R A s.1.length : Nat) : Int) 0 (S', G', (B', sl')) ∧ (∀ a, a < B → S' a = S a) ∧ (∀ a j, a < B → a ≠ rp → G' a j = G a j) ∧ B ≤ B' ∧ B' ≤ B + 3 * d ∧ sl ≤ sl' ∧ sl' ≤ sl + 504 * d ∧ S' rp = (2, 10, s.1.length) ∧ ∀ j, j < s.1.length → ∃ x c : Nat, G' rp j = (x : Int) ∧ (203 < x ∧ x + 2 < B') ∧ x ≠ rp ∧ x + 1 ≠ rp ∧ x + 2 ≠ rp ∧ cRw S' G' x (qN s j) c (R j) ∧ (nx ≤ x ∨ x = yp j ∨ x = xp j ∧ 203 < xp j) := by
  intro d
  induction d with
  | zero =>
    intro p fu S G B sl e1 e2 h hA h13 hB hrs hD
    obtain ⟨fu, rfl⟩ : ∃ t, fu = t + 1 := ⟨fu - 1, by omega⟩
    have e : p = s.1.length := by omega
    subst e
    exact ⟨S, G, B, sl, st_17z (r17 := c162_17 f fu) h.1.1 h.1.2.2.1 h.1.2.2.2.2.1.1.1 h.1.2.2.2.2.1.2.2.1.1, fun _ _ => rfl, fun _ _ _ _ => rfl, Nat.le_refl _, by omega, Nat.le_refl _, by omega, hrs, hD⟩
  | succ d ih =>
    intro p fu S G B sl e1 e2 h hA h13 hB hrs hD
    obtain ⟨fu, rfl⟩ : ∃ t, fu = t + 1 := ⟨fu - 1, by omega⟩
    obtain ⟨⟨a1, a2, a3, a4, a5, a6⟩, b⟩ := id h
    have hnp : s.1.length ≤ 16 := a6.1.1.1
    have hp : p < s.1.length := by omega
    have ep : xwr ((p : Int) + 1) = ((p + 1 : Nat) : Int) := by rw [xwr_g _ (by omega) (by omega)]; omega
    obtain ⟨b1, b2, b3, b4, b5, b6, b7⟩ := b p hp
    obtain ⟨c1, c2, c3⟩ := hA p hp
    obtain ⟨hAs, hAl⟩ := hA1 p hp
    have hW := (qN_c a6.1.1 p).2
    have hmv : dfS R A p ≤ 200 * p := by
      have key : ∀ k, k ≤ p → dfS R A k ≤ 200 * k := by
        intro k
        induction k with
        | zero => intro _; exact Nat.le_refl _
        | succ k ihk =>
          intro hk
          have h1 := ihk (by omega)
          have h2 := dfN_le (R := R k) (R2 := A k)
          have h3 := (b k (by omega)).2.2.2.2.1
          have h4 := (hA1 k (by omega)).2
          show dfS R A k + dfN (R k) (A k) ≤ _
          omega
      exact key p (Nat.le_refl _)
    have hdn := dfN_le (R := R p) (R2 := A p)
    -- one row array is put in
    have main : ∀ (S1 : Nat → Nat × Nat × Nat) (G1 : xG_) (B1 sl1 x c : Nat), (∀ a, a < B → S1 a = S a) → (∀ a j, a < B → G1 a j = G a j) → B ≤ B1 → B1 ≤ B + 3 → sl ≤ sl1 → sl1 ≤ sl + 504 → (203 < x ∧ x + 2 < B1) → x ≠ rp → x + 1 ≠ rp → x + 2 ≠ rp → cRw S1 G1 x (qN s p) c (R p) → (nx ≤ x ∨ x = yp p ∨ x = xp p ∧ 203 < xp p) → c162_17 f (fu + 1) 93 mp tk rp ((dfS R A p : Nat) : Int) (p : Int) (S, G, (B, sl)) = c162_17 f fu 93 mp tk rp ((dfS R A (p + 1) : Nat) : Int) ((p + 1 : Nat) : Int) (S1, xup2 G1 rp p (x : Int), (B1, sl1)) → ∃ S' G' B' sl', c162_17 f (fu + 1) 93 mp tk rp ((dfS R A p : Nat) : Int) (p : Int) (S, G, (B, sl)) = c162_161 f f 93 mp tk rp ((dfS R A s.1.length : Nat) : Int) 0 (S', G', (B', sl')) ∧ (∀ a, a < B → S' a = S a) ∧ (∀ a j, a < B → a ≠ rp → G' a j = G a j) ∧ B ≤ B' ∧ B' ≤ B + 3 * (d + 1) ∧ sl ≤ sl' ∧ sl' ≤ sl + 504 * (d + 1) ∧ S' rp = (2, 10, s.1.length) ∧ ∀ j, j < s.1.length → ∃ x c : Nat, G' rp j = (x : Int) ∧ (203 < x ∧ x + 2 < B') ∧ x ≠ rp ∧ x + 1 ≠ rp ∧ x + 2 ≠ rp ∧ cRw S' G' x (qN s j) c (R j) ∧ (nx ≤ x ∨ x = yp j ∨ x = xp j ∧ 203 < xp j) := by
      intro S1 G1 B1 sl1 x c q1 q2 q3 q4 q5 q6 q7 q8 q9 q10 q11 qo st
      have z : ∀ a j, a < B → a ≠ rp → xup2 G1 rp p (x : Int) a j = G a j := fun a j y1 y2 => by rw [xup2_n (by omega), q2 a j y1]
      obtain ⟨S2, G2, B2, sl2, i1, i2, i3, i4, i5, i6, i7, i8, i9⟩ := ih (p + 1) fu S1 (xup2 G1 rp p (x : Int)) B1 sl1 (by omega) (by omega) (h.al hn (fun a y => q1 a (by omega)) (fun a j y => z a j (by omega) (by omega))) (hA.al hn (fun a y => q1 a (by omega)) (fun a j y => z a j (by omega) (by omega))) (by rw [z _ _ (by omega) (by omega)]; exact h13) (by omega) (by rw [q1 _ hB]; exact hrs) (fun j hj => by
        by_cases cj : j = p
        · subst cj
          exact ⟨x, c, xup2_s _ _ _ _, q7, q8, q9, q10, q11.ge (fun _ _ _ => rfl) (fun i => xup2_n (by omega)) (fun i => xup2_n (by omega)) (fun i => xup2_n (by omega)), qo⟩
        · obtain ⟨x', c', y1, y2, y3, y4, y5, y6, y7⟩ := hD j (by omega)
          exact ⟨x', c', by rw [xup2_n (by omega), q2 _ _ hB]; exact y1, ⟨y2.1, by omega⟩, y3, y4, y5, y6.ge (fun b _ _ => q1 b (by omega)) (fun i => z _ _ (by omega) (by omega)) (fun i => z _ _ (by omega) (by omega)) (fun i => z _ _ (by omega) (by omega)), y7⟩)
      exact ⟨S2, G2, B2, sl2, st.trans i1, fun a y => by rw [i2 a (by omega), q1 a y], fun a j y1 y2 => by rw [i3 a j (by omega) y2, z a j y1 y2], by omega, by omega, by omega, by omega, i8, i9⟩
    -- the rows are other ones
    have other : c162_17 f (fu + 1) 93 mp tk rp ((dfS R A p : Nat) : Int) (p : Int) (S, G, (B, sl)) = c162_66 (c162_17 f fu) f 93 mp tk rp ((dfS R A p : Nat) : Int) (p : Int) 0 (S, G, (B, sl)) → ∃ S' G' B' sl', c162_17 f (fu + 1) 93 mp tk rp ((dfS R A p : Nat) : Int) (p : Int) (S, G, (B, sl)) = c162_161 f f 93 mp tk rp ((dfS R A s.1.length : Nat) : Int) 0 (S', G', (B', sl')) ∧ (∀ a, a < B → S' a = S a) ∧ (∀ a j, a < B → a ≠ rp → G' a j = G a j) ∧ B ≤ B' ∧ B' ≤ B + 3 * (d + 1) ∧ sl ≤ sl' ∧ sl' ≤ sl + 504 * (d + 1) ∧ S' rp = (2, 10, s.1.length) ∧ ∀ j, j < s.1.length → ∃ x c : Nat, G' rp j = (x : Int) ∧ (203 < x ∧ x + 2 < B') ∧ x ≠ rp ∧ x + 1 ≠ rp ∧ x + 2 ≠ rp ∧ cRw S' G' x (qN s j) c (R j) ∧ (nx ≤ x ∨ x = yp j ∨ x = xp j ∧ 203 < xp j) := fun st => by
      have go : ∀ (S1 : Nat → Nat × Nat × Nat) (G1 : xG_) (B1 sl1 x c : Nat), (∀ a, a < B → S1 a = S a) → (∀ a j, a < B → G1 a j = G a j) → x ≠ rp → x + 1 ≠ rp → x + 2 ≠ rp → cRw S1 G1 x (qN s p) c (R p) → c162_123 (c162_17 f fu) f 93 mp tk rp ((dfS R A p : Nat) : Int) (p : Int) 0 x (p : Int) rp (S1, G1, (B1, sl1)) = c162_17 f fu 93 mp tk rp ((dfS R A (p + 1) : Nat) : Int) ((p + 1 : Nat) : Int) (S1, xup2 G1 rp p (x : Int), (B1, sl1)) := fun S1 G1 B1 sl1 x c q1 q2 q8 q9 q10 q11 => by
        have s1 : cSs S1 := a1.al hn (fun a y => q1 a (by omega))
        have p1 : cPs G1 := a2.al hn (fun a j y => q2 a j (by omega))
        have hy := c3.ge (S' := S1) (G' := xup2 G1 rp p (x : Int)) (fun b _ _ => q1 b (by omega)) (fun j => by rw [xup2_n (by omega), q2 _ _ (by omega)]) (fun j => by rw [xup2_n (by omega), q2 _ _ (by omega)]) (fun j => by rw [xup2_n (by omega), q2 _ _ (by omega)])
        have e83 := k_83 (f := f) (m := (B1, sl1)) hf (q11.ge (G' := xup2 G1 rp p (x : Int)) (fun _ _ _ => rfl) (fun i => xup2_n (by omega)) (fun i => xup2_n (by omega)) (fun i => xup2_n (by omega))) hy b4 hAs
        exact st_123d s1 p1 (by omega) (by rw [q1 _ hB]; exact hrs) hp hnp q11.1 (by rw [q2 _ _ (by omega)]; exact c1) e83 (by
          rw [xwr_g _ (by omega) (by omega)]
          show _ = ((dfS R A p + dfN (R p) (A p) : Nat) : Int)
          omega) ep
      rcases b2 with e | ⟨e, e'⟩
      · rw [e] at b3 b1
        obtain ⟨S1, G1, k1, k2, k3, k4⟩ := k_80f (f := f) (A := B) (sl := sl) (by omega) b3
        have st2 := st.trans (st_66f (mp := mp) (rp := rp) (tk := tk) (mv := ((dfS R A p : Nat) : Int)) (r17 := c162_17 f fu) a1 a2 (by omega : p < 16) b1 k1)
        have hmul : qN s p * (R p).length ≤ 4 * 100 := Nat.mul_le_mul hW b5
        exact main S1 G1 (B + 3) _ B _ k2 k3 (by omega) (by omega) (by omega) (by omega) ⟨by omega, by omega⟩ (by omega) (by omega) (by omega) k4 (.inl (by omega)) (st2.trans (go S1 G1 _ _ B _ k2 k3 (by omega) (by omega) (by omega) k4))
      · have st2 := st.trans (st_66k (mp := mp) (rp := rp) (tk := tk) (mv := ((dfS R A p : Nat) : Int)) (r17 := c162_17 f fu) a1 a2 (by omega : p < 16) b1 e)
        exact main S G B sl (xp p) (cp p) (fun _ _ => rfl) (fun _ _ _ => rfl) (Nat.le_refl _) (by omega) (Nat.le_refl _) (by omega) ⟨e, by omega⟩ (by omega) (by omega) (by omega) b3 (.inr (.inr ⟨rfl, e⟩)) (st2.trans (go S G _ _ (xp p) (cp p) (fun _ _ => rfl) (fun _ _ _ => rfl) (by omega) (by omega) (by omega) b3))
    cases hbt : ch.testBit p with
    | true => exact other (st_17c (r17 := c162_17 f fu) a1 a3 a5.1.1 a5.2.2.1.1 hp hnp h13 hch hbt)
    | false =>
      obtain ⟨bb, k1, k2⟩ := k_82 (f := f) (m := (B, sl)) hf b3 c3
      have st : c162_17 f (fu + 1) 93 mp tk rp ((dfS R A p : Nat) : Int) (p : Int) (S, G, (B, sl)) = _ := st_17r (r17 := c162_17 f fu) a1 a2 a3 a5.1.1 a5.2.2.1.1 hp hnp h13 hch hbt b1 c1 b3.1 k1
      cases bb with
      | false => exact other st
      | true =>
        have hv : vEq (R p) (A p) := Classical.byContradiction (fun q => by rw [(hcb p hp).mpr q] at hbt; cases hbt)
        have eRA : R p = A p := eq_of_vr hv (k2.mp rfl)
        have st2 := st.trans ((st_66s (mp := mp) (rp := rp) (tk := tk) (mv := ((dfS R A p : Nat) : Int)) (r17 := c162_17 f fu) a1 a2 (by omega : p < 16) c1).trans (st_123s hrs hp c3.1 (by rw [xwr_g _ (by omega) (by omega)]; omega) ep))
        have e0 : dfS R A (p + 1) = dfS R A p := by
          show dfS R A p + dfN (R p) (A p) = _
          rw [eRA, dfN_self]; rfl
        exact main S G B sl (yp p) (ap p) (fun _ _ => rfl) (fun _ _ _ => rfl) (Nat.le_refl _) (by omega) (Nat.le_refl _) (by omega) ⟨c2.1, by omega⟩ (by omega) (by omega) (by omega) (by rw [eRA]; exact c3) (.inr (.inl rfl)) (by rw [e0]; exact st2)
end
end
section
/-! THE CLASS: outcome() whole -/
def lkB (s so : pPg) (r : Nat) : Bool := (List.range s.1.length).any (fun p => decide (qNm s p = qNm so r) && decide (qN s p = qN so r))
theorem lkB_t {s so : pPg} {r : Nat} : lkB s so r = true ↔ ∃ p, p < s.1.length ∧ qNm s p = qNm so r ∧ qN s p = qN so r := by
  unfold lkB
  rw [List.any_eq_true]
  constructor
  · rintro ⟨p, p1, p2⟩
    rw [Bool.and_eq_true, decide_eq_true_iff, decide_eq_true_iff] at p2
    exact ⟨p, List.mem_range.mp p1, p2⟩
  · rintro ⟨p, p1, p2, p3⟩
    exact ⟨p, List.mem_range.mpr p1, by rw [Bool.and_eq_true, decide_eq_true_iff, decide_eq_true_iff]; exact ⟨p2, p3⟩⟩
/-- rows of predicates that are gone -/
def dfG (s so : pPg) (Mo : Nat → List pRw) : Nat → Nat
  | 0 => 0
  | r + 1 => dfG s so Mo r + (if lkB s so r = true then 0 else (Mo r).length)
section
variable {f q qo nx nxo mp rp ro r x n npo B sl : Nat} {S : Nat → Nat × Nat × Nat} {G : xG_} {m : Nat × Nat} {s so : pPg} {tk mv v w e : Int} {r161 : Nat → Nat → Int → Nat → Int → Int → xT_ → Option (Nat × xT_)}
theorem st_161n' {T : xT_} : c162_161b r161 f 93 mp 0 rp mv (r : Int) T = c162_219 f 93 mp 0 rp mv T := by
  unfold c162_161b
  rw [if_pos rfl]
theorem st_161z' (ms : S mp = (1, 2, 8)) (h0 : G mp 0 = (qo : Int)) (os : S qo = (1, 3, 14)) (hn : G qo 1 = (npo : Int)) : c162_161b r161 f 93 mp 1 rp mv (npo : Int) (S, G, m) = c162_219 f 93 mp 1 rp mv (S, G, m) := by
  have h10 : ¬ (1 : Int) = 0 := by decide
  unfold c162_161b
  simp (disch := omega) only [cq_gi, cq_gr, cq_a, cq_s, cq_p, cq_pr, cq_is, cq_ar, cq_ab, cq_ln, xq_nz, Option.bind_some, xup2_n, xup2_s, Int.toNat_natCast, Int.reduceToNat, if_pos, if_neg, true_and, and_true, and_self, eq_self, if_true, reduceIte, not_true_eq_false, not_false_eq_true, or_true, true_or, ms, h0, os, hn, h10]
theorem st_161y' (hs : cSs S) (h1 : G 93 1 = (q : Int)) (qs : S q = (1, 3, 14)) (ms : S mp = (1, 2, 8)) (h0 : G mp 0 = (qo : Int)) (os : S qo = (1, 3, 14)) (hn : G qo 1 = (npo : Int)) (hr : r < npo) (e : c21 f q qo (r : Int) (S, G, m) = some (v, (S, G, m))) (hv : v ≠ -1) (em : xwr (mv + 0) = mv) (er : xwr ((r : Int) + 1) = ((r + 1 : Nat) : Int)) : c162_161b r161 f 93 mp 1 rp mv (r : Int) (S, G, m) = r161 93 mp 1 rp mv ((r + 1 : Nat) : Int) (S, G, m) := by
  have h10 : ¬ (1 : Int) = 0 := by decide
  unfold c162_161b c162_210
  simp (disch := omega) only [cq_gi, cq_gr, cq_a, cq_s, cq_p, cq_pr, cq_is, cq_ar, cq_ab, cq_ln, xq_nz, Option.bind_some, xup2_n, xup2_s, Int.toNat_natCast, Int.reduceToNat, if_pos, if_neg, true_and, and_true, and_self, eq_self, if_true, reduceIte, not_true_eq_false, not_false_eq_true, or_true, true_or, s93 hs, h1, qs, ms, h0, os, hn, h10, e, hv, em, er]
theorem st_161g' (hs : cSs S) (h1 : G 93 1 = (q : Int)) (qs : S q = (1, 3, 14)) (ms : S mp = (1, 2, 8)) (h0 : G mp 0 = (qo : Int)) (os : S qo = (1, 3, 14)) (hn : G qo 1 = (npo : Int)) (hr : r < npo) (e : c21 f q qo (r : Int) (S, G, m) = some (-1, (S, G, m))) (hm1 : G mp 1 = (ro : Int)) (rs : S ro = (2, 10, npo)) (hx : G ro r = (x : Int)) (xs : S x = (1, 5, 4)) (hsz : G x 1 = (n : Int)) (em : xwr (mv + (n : Int)) = w) (er : xwr ((r : Int) + 1) = ((r + 1 : Nat) : Int)) : c162_161b r161 f 93 mp 1 rp mv (r : Int) (S, G, m) = r161 93 mp 1 rp w ((r + 1 : Nat) : Int) (S, G, m) := by
  have h10 : ¬ (1 : Int) = 0 := by decide
  unfold c162_161b c162_210
  simp (disch := omega) only [cq_gi, cq_gr, cq_a, cq_s, cq_p, cq_pr, cq_is, cq_ar, cq_ab, cq_ln, xq_nz, Option.bind_some, xup2_n, xup2_s, Int.toNat_natCast, Int.reduceToNat, if_pos, if_neg, true_and, and_true, and_self, eq_self, if_true, reduceIte, not_true_eq_false, not_false_eq_true, or_true, true_or, s93 hs, h1, qs, ms, h0, os, hn, h10, e, hm1, rs, hx, xs, hsz, em, er, Nat.reduceLeDiff]
/-- predicates that are gone -/
theorem k_161g {nr : Nat} {xr cr : Nat → Nat} {Mo : Nat → List pRw} (hf : 20 < f) (hs : cSs S) (h1 : G 93 1 = (q : Int)) (hP : cPgm S G q nx s) (ho : cPgm S G qo nxo so) (hoks : qOk s) (hoko : qOk so) (hM : cMr S G nr mp qo ro so xr cr Mo) (hMl : ∀ r, r < so.1.length → (Mo r).length ≤ 100) (mv0 : Nat) (hmv : mv0 ≤ 100000) : ∀ (d r fu : Nat), r + d = so.1.length → d < fu → c162_161 f fu 93 mp 1 rp ((mv0 + dfG s so Mo r : Nat) : Int) (r : Int) (S, G, m) = c162_219 f 93 mp 1 rp ((mv0 + dfG s so Mo so.1.length : Nat) : Int) (S, G, m) := by
  obtain ⟨m1, m2, m3, m4, m5⟩ := hM
  have hnpo : so.1.length ≤ 16 := hoko.1.1
  have hle : ∀ k, k ≤ so.1.length → dfG s so Mo k ≤ 100 * k := by
    intro k
    induction k with
    | zero => intro _; exact Nat.le_refl _
    | succ k ih =>
      intro hk
      have i1 := ih (by omega)
      have i2 := hMl k (by omega)
      show dfG s so Mo k + (if lkB s so k = true then 0 else (Mo k).length) ≤ _
      split <;> omega
  intro d
  induction d with
  | zero =>
    intro r fu e1 e2
    obtain ⟨fu, rfl⟩ : ∃ t, fu = t + 1 := ⟨fu - 1, by omega⟩
    have e : r = so.1.length := by omega
    subst e
    exact st_161z' (r161 := c162_161 f fu) m1 m2 ho.1.1 ho.2.2.1.1
  | succ d ih =>
    intro r fu e1 e2
    obtain ⟨fu, rfl⟩ : ∃ t, fu = t + 1 := ⟨fu - 1, by omega⟩
    have hr : r < so.1.length := by omega
    have er : xwr ((r : Int) + 1) = ((r + 1 : Nat) : Int) := by rw [xwr_g _ (by omega) (by omega)]; omega
    obtain ⟨v, v1, v2⟩ := k_21 (f := f) (m := m) hf ho hP hoko hoks hr
    have hd := hle r (by omega)
    have i := ih (r + 1) fu (by omega) (by omega)
    have es : dfG s so Mo (r + 1) = dfG s so Mo r + (if lkB s so r = true then 0 else (Mo r).length) := rfl
    rcases v2 with ⟨p, rfl, p1, p2, p3⟩ | ⟨rfl, p1⟩
    · have hb : lkB s so r = true := lkB_t.mpr ⟨p, p1, p2, p3⟩
      rw [if_pos hb, Nat.add_zero] at es
      rw [es] at i
      exact (st_161y' (r161 := c162_161 f fu) hs h1 hP.1.1 m1 m2 ho.1.1 ho.2.2.1.1 hr v1 (by omega) (by rw [xwr_g _ (by omega) (by omega)]; omega) er).trans i
    · have hb : ¬ lkB s so r = true := fun q => by
        obtain ⟨p, q1, q2, q3⟩ := lkB_t.mp q
        exact p1 p q1 q2 q3
      rw [if_neg hb] at es
      rw [es] at i
      obtain ⟨n1, n2, n3⟩ := m5 r hr
      have hl := hMl r hr
      exact (st_161g' (r161 := c162_161 f fu) hs h1 hP.1.1 m1 m2 ho.1.1 ho.2.2.1.1 hr v1 m3 m4 n1 n3.1 n3.2.2.2.1.2.1 (by rw [xwr_g _ (by omega) (by omega)]; omega) er).trans i
theorem st_219 (hs : cSs S) (hB : 279 ≤ B) (hmp : mp < B) (h1 : G 93 1 = (q : Int)) (ms : S mp = (1, 2, 8)) (h7 : G mp 7 = e) (htk : tk = 0 ∨ tk = 1) (ee : xwr (e + tk) = e + tk) : c162_219 f 93 mp tk rp mv (S, G, (B, sl)) = some (B, (xup1 S B (1, 2, 8), xup2 (xup2 (xup2 (xup2 (xup2 (xz1 G B (fun _ => 0)) B 0 (q : Int)) B 1 (rp : Int)) B 4 mv) B 6 tk) B 7 (e + tk), (B + 1, sl + 8))) := by
  have s93' : xup1 S B (1, 2, 8) 93 = (1, 10, 18) := by rw [xup1_n (by omega)]; exact s93 hs
  have sB : xup1 S B (1, 2, 8) B = (1, 2, 8) := xup1_s _ _ _
  have ms' : xup1 S B (1, 2, 8) mp = (1, 2, 8) := by rw [xup1_n (by omega)]; exact ms
  have h1' : xz1 G B (fun _ => 0) 93 1 = (q : Int) := by rw [xz1_n _ (by omega)]; exact h1
  have h7' : xz1 G B (fun _ => 0) mp 7 = e := by rw [xz1_n _ (by omega)]; exact h7
  have hB0 : ¬ B = 0 := by omega
  have hne : ¬ mp = B := by omega
  have h10 : ¬ (1 : Int) = 0 := by decide
  rcases htk with rfl | rfl
  · unfold c162_219 c162_251 cq_nw cq_mk c14
    simp (disch := omega) only [cq_gi, cq_gr, cq_a, cq_s, cq_p, cq_pr, cq_is, cq_ar, cq_ab, cq_ln, xq_nz, Option.bind_some, xup2_n, xup2_s, Int.toNat_natCast, Int.reduceToNat, if_pos, if_neg, true_and, and_true, and_self, eq_self, if_true, reduceIte, not_true_eq_false, not_false_eq_true, or_true, true_or, s93', sB, ms', h1', h7', hB0, hne, ee]
  · unfold c162_219 c162_251 cq_nw cq_mk c14
    simp (disch := omega) only [cq_gi, cq_gr, cq_a, cq_s, cq_p, cq_pr, cq_is, cq_ar, cq_ab, cq_ln, xq_nz, Option.bind_some, xup2_n, xup2_s, Int.toNat_natCast, Int.reduceToNat, if_pos, if_neg, true_and, and_true, and_self, eq_self, if_true, reduceIte, not_true_eq_false, not_false_eq_true, or_true, true_or, s93', sB, ms', h1', h7', hB0, hne, ee, h10]
theorem st_162 {np : Nat} (hs : cSs S) (hB : 279 ≤ B) (hq : q < B) (h1 : G 93 1 = (q : Int)) (qs : S q = (1, 3, 14)) (hn : G q 1 = (np : Int)) (hn16 : np ≤ 16) : c162 f 93 mp tk (S, G, (B, sl)) = c162_17 f f 93 mp tk B 0 0 (xup1 S B (2, 10, np), xz1 G B (fun _ => 0), (B + 1, sl + np)) := by
  have ea : cq_an 5 (np : Int) (S, G, (B, sl)) = some (B, (xup1 S B (2, 10, np), xz1 G B (fun _ => 0), (B + 1, sl + np))) := by
    unfold cq_an cq_mk
    rw [if_pos ⟨by omega, by omega⟩, Int.toNat_natCast]
  unfold c162
  simp (disch := omega) only [cq_gi, cq_gr, cq_a, cq_s, cq_p, cq_pr, cq_is, cq_ar, cq_ab, cq_ln, xq_nz, Option.bind_some, xup2_n, xup2_s, Int.toNat_natCast, Int.reduceToNat, if_pos, if_neg, true_and, and_true, and_self, eq_self, if_true, reduceIte, not_true_eq_false, not_false_eq_true, or_true, true_or, s93 hs, h1, qs, hn, ea]
end
section
variable {f q qo nx nxo mp ro B sl : Nat} {S : Nat → Nat × Nat × Nat} {G : xG_} {s so : pPg} {xp cp yp ap xr cr : Nat → Nat} {R A Mo : Nat → List pRw} {ch : Nat} {tk e : Int}
/-- outcome() -/
theorem k_162 (hf : 600 < f) (hn : 279 ≤ B) (h : cWk S G q B s xp cp R) (hA : cAh S G B s yp ap A) (ho : cPgm S G qo B so) (hoko : qOk so) (hM : cMr S G B mp qo ro so xr cr Mo) (hmpB : mp < B) (hroB : ro < B) (hMl : ∀ r, r < so.1.length → (Mo r).length ≤ 100) (h13 : G 93 13 = (ch : Int)) (hch : ch < 2 ^ 16) (hcb : ∀ j, j < s.1.length → (ch.testBit j = true ↔ ¬ vEq (R j) (A j))) (hA1 : ∀ j, j < s.1.length → (A j).Pairwise rwLt ∧ (A j).length ≤ 100) (htk : tk = 0 ∨ tk = 1) (h7 : G mp 7 = e) (he : 0 ≤ e ∧ e ≤ 1000) :
    ∃ S' G' B' sl' xr' cr', c162 f 93 mp tk (S, G, (B, sl)) = some (B', (S', G', (B' + 1, sl'))) ∧ (∀ a, a < B → S' a = S a) ∧ (∀ a j, a < B → G' a j = G a j) ∧ B < B' ∧ B' ≤ B + 49 ∧ sl ≤ sl' ∧ sl' ≤ sl + 8088 ∧ cMr S' G' (B' + 1) B' q B s xr' cr' R ∧ (∀ j, j < s.1.length → B < xr' j ∨ xr' j = yp j ∨ xr' j = xp j ∧ 203 < xp j) ∧ G' B' 2 = 0 ∧ G' B' 3 = 0 ∧ G' B' 4 = ((dfS R A s.1.length + (if tk = 0 then 0 else dfG s so Mo so.1.length) : Nat) : Int) ∧ G' B' 5 = 0 ∧ G' B' 6 = tk ∧ G' B' 7 = e + tk := by
  obtain ⟨⟨a1, a2, a3, a4, a5, a6⟩, b⟩ := id h
  have hnp : s.1.length ≤ 16 := a6.1.1.1
  have hqB : q + 10 < B := a5.2.2.2.2.2.2.2.2
  have st0 := st_162 (f := f) (mp := mp) (tk := tk) (sl := sl) a1 hn (by omega) a3 a5.1.1 a5.2.2.1.1 hnp
  have hS0 : ∀ a, a < B → xup1 S B (2, 10, s.1.length) a = S a := fun a y => xup1_n (by omega)
  have hG0 : ∀ a j, a < B → xz1 G B (fun _ => 0) a j = G a j := fun a j y => xz1_n _ (by omega)
  obtain ⟨S1, G1, B1, sl1, i1, i2, i3, i4, i5, i6, i7, i8, i9⟩ := k_162i (f := f) (mp := mp) (tk := tk) (rp := B) hf hn (Nat.le_refl B) hch hcb hA1 s.1.length 0 f (xup1 S B (2, 10, s.1.length)) (xz1 G B (fun _ => 0)) (B + 1) (sl + s.1.length) (by omega) (by omega) (h.al hn hS0 hG0) (hA.al hn hS0 hG0) (by rw [hG0 _ _ (by omega)]; exact h13) (by omega) (xup1_s _ _ _) (fun j hj => absurd hj (Nat.not_lt_zero j))
  have hS1 : ∀ a, a < B → S1 a = S a := fun a y => by rw [i2 a (by omega), hS0 a y]
  have hG1 : ∀ a j, a < B → G1 a j = G a j := fun a j y => by rw [i3 a j (by omega) (by omega), hG0 a j y]
  have s1 := a1.al hn hS1
  have h11 : G1 93 1 = (q : Int) := by rw [hG1 _ _ (by omega)]; exact a3
  obtain ⟨m1, m2, m3, m4, m5⟩ := hM
  have hdS : dfS R A s.1.length ≤ 200 * s.1.length := by
    have key : ∀ k, k ≤ s.1.length → dfS R A k ≤ 200 * k := by
      intro k
      induction k with
      | zero => intro _; exact Nat.le_refl _
      | succ k ihk =>
        intro hk
        have h1 := ihk (by omega)
        have h2 := dfN_le (R := R k) (R2 := A k)
        have h3 := (b k (by omega)).2.2.2.2.1
        have h4 := (hA1 k (by omega)).2
        show dfS R A k + dfN (R k) (A k) ≤ _
        omega
    exact key _ (Nat.le_refl _)
  obtain ⟨mv, hmv⟩ : ∃ mv : Nat, mv = dfS R A s.1.length + (if tk = 0 then 0 else dfG s so Mo so.1.length) := ⟨_, rfl⟩
  have st1 : c162_161 f f 93 mp tk B ((dfS R A s.1.length : Nat) : Int) 0 (S1, G1, (B1, sl1)) = c162_219 f 93 mp tk B (mv : Int) (S1, G1, (B1, sl1)) := by
    rcases htk with rfl | rfl
    · obtain ⟨fu, rfl⟩ : ∃ t, f = t + 1 := ⟨f - 1, by omega⟩
      rw [if_pos rfl, Nat.add_zero] at hmv
      rw [hmv]
      exact st_161n' (r161 := c162_161 (fu + 1) fu) (r := 0)
    · rw [if_neg (by decide)] at hmv
      have hM1 : cMr S1 G1 B mp qo ro so xr cr Mo := ⟨by rw [hS1 _ hmpB]; exact m1, by rw [hG1 _ _ hmpB]; exact m2, by rw [hG1 _ _ hmpB]; exact m3, by rw [hS1 _ hroB]; exact m4, fun r hr => by
        obtain ⟨n1, n2, n3⟩ := m5 r hr
        exact ⟨by rw [hG1 _ _ hroB]; exact n1, n2, n3.ge (fun b _ _ => hS1 b (by omega)) (fun j => hG1 _ _ (by omega)) (fun j => hG1 _ _ (by omega)) (fun j => hG1 _ _ (by omega))⟩⟩
      have hnpo := hoko.1.1
      rw [hmv]
      exact k_161g (f := f) (m := (B1, sl1)) (rp := B) (by omega) s1 h11 (a5.ge (Nat.le_refl _) hS1 (fun a j _ y => hG1 a j y)) (ho.ge (Nat.le_refl _) hS1 (fun a j _ y => hG1 a j y)) a6.1 hoko hM1 hMl (dfS R A s.1.length) (by omega) so.1.length 0 f (by omega) (by omega)
  have st2 := st_219 (f := f) (e := e) (q := q) (mp := mp) (rp := B) (mv := (mv : Int)) (B := B1) (sl := sl1) s1 (by omega) (by omega) h11 (by rw [hS1 _ hmpB]; exact m1) (by rw [hG1 _ _ hmpB]; exact h7) htk (by rw [xwr_g _ (by omega) (by omega)])
  have st := (st0.trans i1).trans (st1.trans st2)
  have gz : ∀ a j, a < B1 → xup2 (xup2 (xup2 (xup2 (xup2 (xz1 G1 B1 (fun _ => 0)) B1 0 (q : Int)) B1 1 (B : Int)) B1 4 (mv : Int)) B1 6 tk) B1 7 (e + tk) a j = G1 a j := fun a j y => by
    rw [xup2_n (by omega), xup2_n (by omega), xup2_n (by omega), xup2_n (by omega), xup2_n (by omega), xz1_n _ (by omega)]
  have sz : ∀ a, a < B1 → xup1 S1 B1 (1, 2, 8) a = S1 a := fun a y => xup1_n (by omega)
  have hex : ∀ j, ∃ w : Nat × Nat, j < s.1.length → G1 B j = ((w.1 : Nat) : Int) ∧ (203 < w.1 ∧ w.1 + 2 < B1) ∧ cRw S1 G1 w.1 (qN s j) w.2 (R j) ∧ (B < w.1 ∨ w.1 = yp j ∨ w.1 = xp j ∧ 203 < xp j) := fun j => by
    by_cases hj : j < s.1.length
    · obtain ⟨x, c, y1, y2, yn, _, _, y3, y4⟩ := i9 j hj
      exact ⟨(x, c), fun _ => ⟨y1, y2, y3, y4.imp_left (fun z => Nat.lt_of_le_of_ne z (fun e => yn e.symm))⟩⟩
    · exact ⟨(0, 0), fun y => absurd y hj⟩
  obtain ⟨W, hW⟩ := Classical.axiomOfChoice hex
  refine ⟨_, _, B1, sl1 + 8, fun j => (W j).1, fun j => (W j).2, st, fun a y => by rw [sz a (by omega), hS1 a y], fun a j y => by rw [gz a j (by omega), hG1 a j y], by omega, by omega, by omega, by omega, ⟨xup1_s _ _ _, ?_, ?_, by rw [sz B (by omega)]; exact i8, fun j hj => ?_⟩, fun j hj => (hW j hj).2.2.2, ?_, ?_, ?_, ?_, ?_, ?_⟩
  · rw [xup2_n (by omega), xup2_n (by omega), xup2_n (by omega), xup2_n (by omega), xup2_s]
  · rw [xup2_n (by omega), xup2_n (by omega), xup2_n (by omega), xup2_s]
  · obtain ⟨y1, y2, y3, _⟩ := hW j hj
    exact ⟨by rw [gz _ _ (by omega)]; exact y1, ⟨y2.1, Nat.lt_succ_of_lt y2.2⟩, y3.ge (fun b _ _ => sz b (by omega)) (fun i => gz _ _ (by omega)) (fun i => gz _ _ (by omega)) (fun i => gz _ _ (by omega))⟩
  · rw [xup2_n (by omega), xup2_n (by omega), xup2_n (by omega), xup2_n (by omega), xup2_n (by omega), xz1_s]
  · rw [xup2_n (by omega), xup2_n (by omega), xup2_n (by omega), xup2_n (by omega), xup2_n (by omega), xz1_s]
  · rw [xup2_n (by omega), xup2_n (by omega), xup2_s, hmv]
  · rw [xup2_n (by omega), xup2_n (by omega), xup2_n (by omega), xup2_n (by omega), xup2_n (by omega), xz1_s]
  · rw [xup2_n (by omega), xup2_s]
  · rw [xup2_s]
end
end
section
/-! What a round moved: facts, and rows one predicate after another -/
def fcL (nm : Nat → Int) (L : Nat → List pRw) (n : Nat) : List pFc := (List.range n).flatMap (fun p => (L p).map (fun w => (nm p, w.1)))
theorem fcL_m {nm : Nat → Int} {L : Nat → List pRw} {n : Nat} {y : pFc} : y ∈ fcL nm L n ↔ ∃ p, p < n ∧ ∃ w ∈ L p, y = (nm p, w.1) := by
  unfold fcL
  rw [List.mem_flatMap]
  constructor
  · rintro ⟨p, p1, p2⟩
    obtain ⟨w, w1, w2⟩ := List.mem_map.mp p2
    exact ⟨p, List.mem_range.mp p1, w, w1, w2.symm⟩
  · rintro ⟨p, p1, w, w1, w2⟩
    exact ⟨p, List.mem_range.mpr p1, List.mem_map.mpr ⟨w, w1, w2.symm⟩⟩
theorem fcL_s {nm : Nat → Int} {L : Nat → List pRw} {n : Nat} : fcL nm L (n + 1) = fcL nm L n ++ (L n).map (fun w => (nm n, w.1)) := by
  unfold fcL
  rw [List.range_succ, List.flatMap_append]
  simp
theorem fcL_nd {nm : Nat → Int} {L : Nat → List pRw} : ∀ (n : Nat), (∀ p q, p < n → q < n → nm p = nm q → p = q) → (∀ p, p < n → (L p).Pairwise rwLt) → (fcL nm L n).Nodup
  | 0, _, _ => List.nodup_nil
  | n + 1, hi, hs => by
    rw [fcL_s, List.nodup_append]
    refine ⟨fcL_nd n (fun p q h1 h2 => hi p q (by omega) (by omega)) (fun p hp => hs p (by omega)), ?_, fun a ha b hb e => ?_⟩
    · rw [List.nodup_iff_pairwise_ne, List.pairwise_map]
      refine (hs n (by omega)).imp (fun {r1 r2} hab => fun e => ?_)
      injection e with _ e
      have hab' : vLt r1.1 r2.1 := hab
      rw [e] at hab'
      exact vLt_irr _ hab'
    · obtain ⟨p, p1, w, w1, w2⟩ := fcL_m.mp ha
      obtain ⟨w', w3, w4⟩ := List.mem_map.mp hb
      rw [w2, ← w4] at e
      injection e with e _
      have := hi p n (by omega) (by omega) e
      omega
theorem fcL_len {nm : Nat → Int} {L : Nat → List pRw} : ∀ (n : Nat), (fcL nm L n).length = qTo L n
  | 0 => rfl
  | n + 1 => by
    rw [fcL_s, List.length_append, List.length_map, fcL_len n]
    rfl
theorem lgD_ln2 {rd sg : Int} {A B : List pFc} : (lgD rd sg A B).length = (A.filter (fun y => ! decide (y ∈ B))).length := by
  unfold lgD
  rw [List.length_map]
/-- which rows stand for the rows A of so in s -/
def isAh (so s : pPg) (Mo A : Nat → List pRw) : Prop := ∀ p, p < s.1.length → (∃ r, r < so.1.length ∧ qNm so r = qNm s p ∧ qN so r = qN s p ∧ A p = Mo r) ∨ ((∀ r, r < so.1.length → qNm so r = qNm s p → qN so r ≠ qN s p) ∧ A p = [])
section
variable {s so : pPg} {R A Mo : Nat → List pRw} {F Fo : List pFc} {rd : Int}
theorem isAh.srt (h : isAh so s Mo A) (hM : qTb so Mo) : ∀ p, p < s.1.length → (A p).Pairwise rwLt ∧ (A p).length ≤ 100 ∧ ∀ w ∈ A p, w.1.length = qN s p := fun p hp => by
  rcases h p hp with ⟨r, r1, r2, r3, e⟩ | ⟨_, e⟩
  · rw [e, ← r3]; exact ⟨(hM r r1).2.1, (hM r r1).1, fun w hw => ((hM r r1).2.2 w hw).1⟩
  · rw [e]; exact ⟨List.Pairwise.nil, Nat.zero_le _, fun w hw => by cases hw⟩
/-- a fact of p was there -/
theorem fo_iff (hoko : qOk so) (hM : qTb so Mo) (hFo : qFa so Mo Fo) (hA : isAh so s Mo A) {p : Nat} (hp : p < s.1.length) {xs : List Int} (hx : xs.length = qN s p) : (qNm s p, xs) ∈ Fo ↔ hasV (A p) xs = true := by
  rw [hFo.2, hasV_t]
  constructor
  · rintro ⟨r, r1, r2, w, w1, w2⟩
    have r2' : qNm s p = qNm so r := r2
    have w2' : w.1 = xs := w2
    have hl := ((hM r r1).2.2 w w1).1
    rcases hA p hp with ⟨r', a1, a2, a3, e⟩ | ⟨a1, e⟩
    · have : r' = r := nm_inj hoko a1 r1 (a2.trans r2')
      subst this
      exact ⟨w, by rw [e]; exact w1, w2'⟩
    · exact absurd (by rw [← hl, w2', hx]) (a1 r r1 r2'.symm)
  · rintro ⟨z, z1, z2⟩
    rcases hA p hp with ⟨r, a1, a2, a3, e⟩ | ⟨a1, e⟩
    · rw [e] at z1
      exact ⟨r, a1, a2.symm, z, z1, z2⟩
    · rw [e] at z1; cases z1
theorem fn_iff (hok : qOk s) (hF : qFa s R F) {p : Nat} (hp : p < s.1.length) {xs : List Int} : (qNm s p, xs) ∈ F ↔ hasV (R p) xs = true := by
  rw [hF.2, hasV_t]
  constructor
  · rintro ⟨r, r1, r2, w, w1, w2⟩
    have : p = r := nm_inj hok hp r1 r2
    subst this
    exact ⟨w, w1, w2⟩
  · rintro ⟨z, z1, z2⟩
    exact ⟨p, hp, rfl, z, z1, z2⟩
/-- new facts -/
theorem lg_new (hok : qOk s) (hoko : qOk so) (hR : qTb s R) (hM : qTb so Mo) (hF : qFa s R F) (hFo : qFa so Mo Fo) (hA : isAh so s Mo A) : (F.filter (fun y => ! decide (y ∈ Fo))).length = qTo (fun p => (R p).filter (fun w => ! hasV (A p) w.1)) s.1.length := by
  rw [← fcL_len (nm := qNm s)]
  refine ((List.perm_ext_iff_of_nodup ((fc_nd hF.1).sublist List.filter_sublist) (fcL_nd _ (fun p q h1 h2 e => nm_inj hok h1 h2 e) (fun p hp => (hR p hp).2.1.filter _))).mpr (fun y => ?_)).length_eq
  rw [List.mem_filter, fcL_m]
  constructor
  · rintro ⟨y1, y2⟩
    obtain ⟨p, p1, p2, w, w1, w2⟩ := (hF.2 y).mp y1
    have ey : y = (qNm s p, w.1) := Prod.ext p2 w2.symm
    refine ⟨p, p1, w, List.mem_filter.mpr ⟨w1, ?_⟩, ey⟩
    rw [ey] at y2
    have hl := ((hR p p1).2.2 w w1).1
    cases hb : hasV (A p) w.1 with
    | false => rfl
    | true =>
      rw [decide_eq_true ((fo_iff hoko hM hFo hA p1 hl).mpr hb)] at y2
      cases y2
  · rintro ⟨p, p1, w, w1, rfl⟩
    obtain ⟨w2, w3⟩ := List.mem_filter.mp w1
    have hl := ((hR p p1).2.2 w w2).1
    refine ⟨(fn_iff hok hF p1).mpr (hasV_t.mpr ⟨w, w2, rfl⟩), ?_⟩
    rw [decide_eq_false (fun q => ?_)]
    · rfl
    · rw [(fo_iff hoko hM hFo hA p1 hl).mp q] at w3
      cases w3
/-- facts that went -/
theorem lg_old (hok : qOk s) (hoko : qOk so) (hR : qTb s R) (hM : qTb so Mo) (hF : qFa s R F) (hFo : qFa so Mo Fo) (hA : isAh so s Mo A) : (Fo.filter (fun y => ! decide (y ∈ F))).length = qTo (fun p => (A p).filter (fun w => ! hasV (R p) w.1)) s.1.length + dfG s so Mo so.1.length := by
  have eG : ∀ k, dfG s so Mo k = qTo (fun r => if lkB s so r = true then [] else Mo r) k := by
    intro k
    induction k with
    | zero => rfl
    | succ k ih =>
      show dfG s so Mo k + (if lkB s so k = true then 0 else (Mo k).length) = qTo _ k + (if lkB s so k = true then [] else Mo k).length
      rw [ih]
      split <;> rfl
  rw [eG, ← fcL_len (nm := qNm s), ← fcL_len (nm := qNm so), ← List.length_append]
  have hAs := hA.srt hM
  refine ((List.perm_ext_iff_of_nodup ((fc_nd hFo.1).sublist List.filter_sublist) ?_).mpr (fun y => ?_)).length_eq
  · rw [List.nodup_append]
    refine ⟨fcL_nd _ (fun p q h1 h2 e => nm_inj hok h1 h2 e) (fun p hp => (hAs p hp).1.filter _), fcL_nd _ (fun p q h1 h2 e => nm_inj hoko h1 h2 e) (fun r hr => ?_), fun a ha b hb e => ?_⟩
    · split
      · exact List.Pairwise.nil
      · exact (hM r hr).2.1
    · obtain ⟨p, p1, w, w1, w2⟩ := fcL_m.mp ha
      obtain ⟨r, r1, z, z1, z2⟩ := fcL_m.mp hb
      by_cases c : lkB s so r = true
      · rw [if_pos c] at z1; cases z1
      · rw [if_neg c] at z1
        rw [w2, z2] at e
        injection e with e1 e2
        have h1 := (hAs p p1).2.2 w (List.mem_filter.mp w1).1
        have h2 := ((hM r r1).2.2 z z1).1
        exact c (lkB_t.mpr ⟨p, p1, e1, by rw [← h1, ← h2, e2]⟩)
  · rw [List.mem_filter, List.mem_append, fcL_m, fcL_m]
    constructor
    · rintro ⟨y1, y2⟩
      obtain ⟨r, r1, r2, w, w1, w2⟩ := (hFo.2 y).mp y1
      have ey : y = (qNm so r, w.1) := Prod.ext r2 w2.symm
      have hl := ((hM r r1).2.2 w w1).1
      by_cases c : lkB s so r = true
      · obtain ⟨p, p1, p2, p3⟩ := lkB_t.mp c
        refine .inl ⟨p, p1, w, List.mem_filter.mpr ⟨?_, ?_⟩, by rw [ey, p2]⟩
        · rcases hA p p1 with ⟨r', a1, a2, a3, e⟩ | ⟨a1, e⟩
          · have : r' = r := nm_inj hoko a1 r1 (a2.trans p2)
            rw [e, this]; exact w1
          · exact absurd p3.symm (a1 r r1 p2.symm)
        · rw [ey, ← p2] at y2
          cases hb : hasV (R p) w.1 with
          | false => rfl
          | true =>
            rw [decide_eq_true ((fn_iff hok hF p1).mpr hb)] at y2
            cases y2
      · exact .inr ⟨r, r1, w, by rw [if_neg c]; exact w1, ey⟩
    · rintro (⟨p, p1, w, w1, rfl⟩ | ⟨r, r1, w, w1, rfl⟩)
      · obtain ⟨w2, w3⟩ := List.mem_filter.mp w1
        refine ⟨(fo_iff hoko hM hFo hA p1 ((hAs p p1).2.2 w w2)).mpr (hasV_t.mpr ⟨w, w2, rfl⟩), ?_⟩
        rw [decide_eq_false (fun q => ?_)]
        · rfl
        · rw [(fn_iff hok hF p1).mp q] at w3
          cases w3
      · by_cases c : lkB s so r = true
        · rw [if_pos c] at w1; cases w1
        · rw [if_neg c] at w1
          refine ⟨(hFo.2 _).mpr ⟨r, r1, rfl, w, w1, rfl⟩, ?_⟩
          rw [decide_eq_false (fun q => ?_)]
          · rfl
          · obtain ⟨p, p1, p2, z, z1, z2⟩ := (hF.2 _).mp q
            have h1 := ((hR p p1).2.2 z z1).1
            have h2 := ((hM r r1).2.2 w w1).1
            exact c (lkB_t.mpr ⟨p, p1, p2.symm, by rw [← h1, ← h2, z2]⟩)
/-- what a round moved -/
theorem lg_len (hok : qOk s) (hoko : qOk so) (hR : qTb s R) (hM : qTb so Mo) (hF : qFa s R F) (hFo : qFa so Mo Fo) (hA : isAh so s Mo A) : (lgR rd F Fo).length = dfS R A s.1.length + dfG s so Mo so.1.length := by
  unfold lgR
  rw [List.length_append, lgD_ln2, lgD_ln2, lg_new hok hoko hR hM hF hFo hA, lg_old hok hoko hR hM hF hFo hA]
  have : ∀ k, dfS R A k = qTo (fun p => (R p).filter (fun w => ! hasV (A p) w.1)) k + qTo (fun p => (A p).filter (fun w => ! hasV (R p) w.1)) k := by
    intro k
    induction k with
    | zero => rfl
    | succ k ih =>
      show dfS R A k + dfN (R k) (A k) = (qTo _ k + ((R k).filter _).length) + (qTo _ k + ((A k).filter _).length)
      rw [ih]
      unfold dfN
      rw [List.countP_eq_length_filter, List.countP_eq_length_filter]
      omega
  rw [this]
  omega
theorem dfG_self {Mo : Nat → List pRw} : ∀ k, k ≤ s.1.length → dfG s s Mo k = 0
  | 0, _ => rfl
  | k + 1, hk => by
    show dfG s s Mo k + (if lkB s s k = true then 0 else (Mo k).length) = 0
    rw [dfG_self k (by omega), if_pos (lkB_t.mpr ⟨k, by omega, rfl, rfl⟩)]
/-- which predicates changed -/
theorem chg_iff (hok : qOk s) (hoko : qOk so) (hR : qTb s R) (hM : qTb so Mo) (hF : qFa s R F) (hFo : qFa so Mo Fo) (hA : isAh so s Mo A) (p : Nat) : (∃ x, x ∈ lgR rd F Fo ∧ ofP s x.2.2 p) ↔ p < s.1.length ∧ ¬ vEq (R p) (A p) := by
  have hAs := hA.srt hM
  have mem : ∀ y : pFc, (∃ x, x ∈ lgR rd F Fo ∧ x.2.2 = y) ↔ (y ∈ F ∧ y ∉ Fo) ∨ (y ∈ Fo ∧ y ∉ F) := fun y => by
    unfold lgR lgD
    constructor
    · rintro ⟨x, x1, rfl⟩
      rcases List.mem_append.mp x1 with q | q
      · obtain ⟨z, z1, rfl⟩ := List.mem_map.mp q
        obtain ⟨z2, z3⟩ := List.mem_filter.mp z1
        exact .inr ⟨z2, fun q => by rw [decide_eq_true q] at z3; cases z3⟩
      · obtain ⟨z, z1, rfl⟩ := List.mem_map.mp q
        obtain ⟨z2, z3⟩ := List.mem_filter.mp z1
        exact .inl ⟨z2, fun q => by rw [decide_eq_true q] at z3; cases z3⟩
    · rintro (⟨q1, q2⟩ | ⟨q1, q2⟩)
      · exact ⟨(rd, 1, y), List.mem_append.mpr (.inr (List.mem_map.mpr ⟨y, List.mem_filter.mpr ⟨q1, by rw [decide_eq_false q2]; rfl⟩, rfl⟩)), rfl⟩
      · exact ⟨(rd, -1, y), List.mem_append.mpr (.inl (List.mem_map.mpr ⟨y, List.mem_filter.mpr ⟨q1, by rw [decide_eq_false q2]; rfl⟩, rfl⟩)), rfl⟩
  constructor
  · rintro ⟨x, x1, x2, x3, x4⟩
    refine ⟨x2, fun e => ?_⟩
    have ex : x.2.2 = (qNm s p, x.2.2.2) := Prod.ext x3.symm rfl
    have hl : x.2.2.2.length = qN s p := x4.symm
    have hv : ∀ xs, hasV (R p) xs = true ↔ hasV (A p) xs = true := fun xs => by
      rw [hasV_t, hasV_t]
      constructor
      · rintro ⟨z, z1, z2⟩
        obtain ⟨z', a1, a2⟩ := e.mem z1
        exact ⟨z', a1, a2.trans z2⟩
      · rintro ⟨z, z1, z2⟩
        obtain ⟨z', a1, a2⟩ := vEq.mem e.symm z1
        exact ⟨z', a1, a2.trans z2⟩
    have key : x.2.2 ∈ F ↔ x.2.2 ∈ Fo := by
      rw [ex, fn_iff hok hF x2, fo_iff hoko hM hFo hA x2 hl]
      exact hv _
    rcases (mem x.2.2).mp ⟨x, x1, rfl⟩ with ⟨q1, q2⟩ | ⟨q1, q2⟩
    · exact q2 (key.mp q1)
    · exact q2 (key.mpr q1)
  · rintro ⟨hp, hne⟩
    -- a value that is but once there
    have : ∃ xs, xs.length = qN s p ∧ ¬ (hasV (R p) xs = true ↔ hasV (A p) xs = true) := Classical.byContradiction (fun q => by
      apply hne
      have hv : ∀ xs, xs.length = qN s p → (hasV (R p) xs = true ↔ hasV (A p) xs = true) := fun xs hx => Classical.byContradiction (fun w => q ⟨xs, hx, w⟩)
      refine srt_ext (lt := vLt) vLt_irr (fun a b c => vLt_tr) _ _ (List.pairwise_map.mpr (hR p hp).2.1) (List.pairwise_map.mpr (hAs p hp).1) (fun y => ?_)
      rw [List.mem_map, List.mem_map]
      constructor
      · rintro ⟨z, z1, z2⟩
        exact hasV_t.mp ((hv y (by rw [← z2]; exact ((hR p hp).2.2 z z1).1)).mp (hasV_t.mpr ⟨z, z1, z2⟩))
      · rintro ⟨z, z1, z2⟩
        exact hasV_t.mp ((hv y (by rw [← z2]; exact (hAs p hp).2.2 z z1)).mpr (hasV_t.mpr ⟨z, z1, z2⟩)))
    obtain ⟨xs, h1, h2⟩ := this
    have : (((qNm s p, xs) : pFc) ∈ F ∧ ((qNm s p, xs) : pFc) ∉ Fo) ∨ (((qNm s p, xs) : pFc) ∈ Fo ∧ ((qNm s p, xs) : pFc) ∉ F) := by
      rw [fn_iff hok hF hp, fo_iff hoko hM hFo hA hp h1]
      by_cases c1 : hasV (R p) xs = true
      · exact .inl ⟨c1, fun q => h2 ⟨fun _ => q, fun _ => c1⟩⟩
      · by_cases c2 : hasV (A p) xs = true
        · exact .inr ⟨c2, c1⟩
        · exact absurd ⟨fun q => absurd q c1, fun q => absurd q c2⟩ h2
    obtain ⟨x, x1, x2⟩ := (mem (qNm s p, xs)).mpr this
    exact ⟨x, x1, hp, by rw [x2], by rw [x2]; exact h1.symm⟩
end
end
section
/-! THE CLASS reads FORMULAS: code, signs that wait -/
def cYs (S : Nat → Nat × Nat × Nat) (G : xG_) (B : Nat → Int) (n : Nat) (t : tStr) (N w : Nat) (K : pCd) (st : List Int) (i : Nat) : Prop := cEv S G B n t N w ∧ cAt G N w i ∧ i ≤ N ∧ cCo G K ∧ cSk G st
/-- what reading a FORMULA leaves as it was, at depth h -/
def xY (h : Nat) (G G' : xG_) : Prop := ∀ a j, ¬ (a = 72 ∧ (j = 1 ∨ j = 2 ∨ j = 9 ∨ j = 12)) → ¬ (73 ≤ a ∧ a ≤ 75) → ¬ (a = 76 ∧ h ≤ j) → G' a j = G a j
section
variable {f n N w i hh : Nat} {S : Nat → Nat × Nat × Nat} {G G' G'' : xG_} {m : Nat × Nat} {B : Nat → Int} {t : tStr} {K K' : pCd} {st st' : List Int}
theorem xY.id : xY hh G G := fun _ _ _ _ _ => rfl
theorem xY.tr (h : xY hh G G') (h' : xY hh G' G'') : xY hh G G'' := fun a j p q r => by rw [h' a j p q r, h a j p q r]
theorem xY.mo {h2 : Nat} (h : xY h2 G G') (hl : hh ≤ h2) : xY hh G G' := fun a j p q r => h a j p q (by omega)
theorem xY.ev (h : xY hh G G') (hE : cEv S G B n t N w) : cEv S G' B n t N w := hE.ge (fun _ _ => rfl) (fun a j h1 h2 h3 => h a j (by omega) (by omega) (by omega))
theorem cYs.mv {i' : Nat} (h : cYs S G B n t N w K st i) (hx : xY hh G G') (h1 : cAt G' N w i') (h2 : i' ≤ N) (h5 : cCo G' K') (h6 : cSk G' st') : cYs S G' B n t N w K' st' i' :=
  ⟨hx.ev h.1, h1, h2, h5, h6⟩
theorem cYs.at {i' : Nat} (h : cYs S G B n t N w K st i) (h1 : cAt (xup2 G 72 1 ((min i' N : Nat) : Int)) N w i') (h2 : i' ≤ N) : xY hh G (xup2 G 72 1 ((min i' N : Nat) : Int)) ∧ cYs S (xup2 G 72 1 ((min i' N : Nat) : Int)) B n t N w K st i' := by
  have hx : xY hh G (xup2 G 72 1 ((min i' N : Nat) : Int)) := fun a j p q r => xup2_n (by omega)
  exact ⟨hx, h.mv hx h1 h2 (h.2.2.2.1.ge (xup2_n (by omega)) (fun j => xup2_n (by omega)) (fun j => xup2_n (by omega))) (h.2.2.2.2.ge (xup2_n (by omega)) (fun j => xup2_n (by omega)))⟩
/-- emit() -/
theorem ky_56 {a b : Int} (h : cYs S G B n t N w K st i) (hl : K.length < 3001) : ∃ G', c56 f 72 a b (S, G, m) = some (S, G', m) ∧ xY hh G G' ∧ (∀ j, G' 76 j = G 76 j) ∧ cYs S G' B n t N w (K ++ [(a, b)]) st i := by
  have hs := h.1.1
  have hp := h.1.2.1
  have h9 := h.2.2.2.1.1
  have e : xwr ((K.length : Int) + 1) = ((K.length + 1 : Nat) : Int) := by rw [xwr_g _ (by omega) (by omega)]; omega
  have hx : xY hh G (xup2 (xup2 (xup2 G 73 K.length a) 74 K.length b) 72 9 ((K.length + 1 : Nat) : Int)) := fun a j p q r => by rw [xup2_n (by omega), xup2_n (by omega), xup2_n (by omega)]
  refine ⟨xup2 (xup2 (xup2 G 73 K.length a) 74 K.length b) 72 9 ((K.length + 1 : Nat) : Int), ?_, hx, fun j => ?_, ?_⟩
  · unfold c56 c56_42
    simp (disch := omega) only [cq_gi, cq_gr, cq_a, cq_s, cq_p, cq_pr, cq_is, cq_ar, cq_ab, cq_ln, xq_nz, Option.bind_some, xup2_n, xup2_s, Int.toNat_natCast, Int.reduceToNat, if_pos, if_neg, true_and, and_true, and_self, eq_self, if_true, reduceIte, not_true_eq_false, not_false_eq_true, or_true, true_or, s72 hs, s73 hs, s74 hs, p72_7 hp, p72_8 hp, h9, e]
  · rw [xup2_n (by omega), xup2_n (by omega), xup2_n (by omega)]
  · refine h.mv hx ⟨?_, h.2.1.2⟩ h.2.2.1 ⟨?_, fun k hk => ?_⟩ (h.2.2.2.2.ge ?_ (fun j => ?_))
    · rw [xup2_n (by omega), xup2_n (by omega), xup2_n (by omega)]; exact h.2.1.1
    · rw [xup2_s, len1]
    · rw [len1] at hk
      rw [getD_1, xup2_n (by omega), xup2_n (by omega), xup2_n (by omega : ¬ (74 = 72 ∧ k = 9))]
      by_cases ck : k = K.length
      · rw [if_pos ck, ck, xup2_s, xup2_s]; exact ⟨rfl, rfl⟩
      · rw [if_neg ck, xup2_n (by omega), xup2_n (by omega), xup2_n (by omega)]
        exact h.2.2.2.1.2 k (by omega)
    · rw [xup2_n (by omega), xup2_n (by omega), xup2_n (by omega)]
    · rw [xup2_n (by omega), xup2_n (by omega), xup2_n (by omega)]
/-- push() -/
theorem ky_57 {x : Int} (h : cYs S G B n t N w K st i) (hl : st.length < 32) : ∃ G', c57 f 72 x (S, G, m) = some (S, G', m) ∧ xY hh G G' ∧ cYs S G' B n t N w K (st ++ [x]) i := by
  have hs := h.1.1
  have hp := h.1.2.1
  have h12 := h.2.2.2.2.1
  have e : xwr ((st.length : Int) + 1) = ((st.length + 1 : Nat) : Int) := by rw [xwr_g _ (by omega) (by omega)]; omega
  have hx : xY hh G (xup2 (xup2 G 75 st.length x) 72 12 ((st.length + 1 : Nat) : Int)) := fun a j p q r => by rw [xup2_n (by omega), xup2_n (by omega)]
  refine ⟨xup2 (xup2 G 75 st.length x) 72 12 ((st.length + 1 : Nat) : Int), ?_, hx, ?_⟩
  · unfold c57 c57_29
    simp (disch := omega) only [cq_gi, cq_gr, cq_a, cq_s, cq_p, cq_pr, cq_is, cq_ar, cq_ab, cq_ln, xq_nz, Option.bind_some, xup2_n, xup2_s, Int.toNat_natCast, Int.reduceToNat, if_pos, if_neg, true_and, and_true, and_self, eq_self, if_true, reduceIte, not_true_eq_false, not_false_eq_true, or_true, true_or, s72 hs, s75 hs, p72_10 hp, h12, e]
  · refine h.mv hx ⟨?_, h.2.1.2⟩ h.2.2.1 (h.2.2.2.1.ge ?_ (fun j => ?_) (fun j => ?_)) ⟨?_, fun k hk => ?_⟩
    · rw [xup2_n (by omega), xup2_n (by omega)]; exact h.2.1.1
    · rw [xup2_n (by omega), xup2_n (by omega)]
    · rw [xup2_n (by omega), xup2_n (by omega)]
    · rw [xup2_n (by omega), xup2_n (by omega)]
    · rw [xup2_s, len1]
    · rw [len1] at hk
      rw [getD_1, xup2_n (by omega)]
      by_cases ck : k = st.length
      · rw [if_pos ck, ck, xup2_s]
      · rw [if_neg ck, xup2_n (by omega)]
        exact h.2.2.2.2.2 k (by omega)
/-- height less -/
theorem cYs.pop {x : Int} (h : cYs S G B n t N w K (st ++ [x]) i) : xY hh G (xup2 G 72 12 (st.length : Int)) ∧ cYs S (xup2 G 72 12 (st.length : Int)) B n t N w K st i := by
  have hx : xY hh G (xup2 G 72 12 (st.length : Int)) := fun a j p q r => xup2_n (by omega)
  refine ⟨hx, h.mv hx ⟨?_, h.2.1.2⟩ h.2.2.1 (h.2.2.2.1.ge ?_ (fun j => ?_) (fun j => ?_)) ⟨xup2_s _ _ _ _, fun k hk => ?_⟩⟩
  · rw [xup2_n (by omega)]; exact h.2.1.1
  · rw [xup2_n (by omega)]
  · rw [xup2_n (by omega)]
  · rw [xup2_n (by omega)]
  · rw [xup2_n (by omega)]
    have := h.2.2.2.2.2 k (by rw [len1]; omega)
    rw [getD_1, if_neg (by omega)] at this
    exact this
theorem ky_58 (hf : 33 < f) (h : cYs S G B n t N w K st i) (hl : st.length ≤ 32) : c58 f 72 (S, G, m) = some ((nBr st : Int), (S, G, m)) := by
  have := k_58_4 (f := f) (m := m) h.1.1 h.1.2.1 h.2.2.2.2 hl st.length 0 0 f (by omega) (by omega) (Nat.le_refl _)
  rw [List.drop_zero, Nat.zero_add] at this
  exact this
/-- settleSigns() -/
theorem ky_59 {ls : Int} (hls : 0 < ls) (hb : st = [] ∨ ∃ z x, st = z ++ [x] ∧ cStr x < ls) : ∀ (Q : List Int) (G : xG_) (K : pCd) (fu : Nat), (∀ x, x ∈ Q → ls ≤ cStr x) → Q.length < fu → (st ++ Q.reverse).length ≤ 32 → K.length + Q.length ≤ 3001 → cYs S G B n t N w K (st ++ Q.reverse) i → ∃ G', c59_0 f fu 72 ls (S, G, m) = some (S, G', m) ∧ xY hh G G' ∧ (∀ j, G' 76 j = G 76 j) ∧ cYs S G' B n t N w (K ++ Q.map cZ) st i := by
  intro Q
  induction Q with
  | nil =>
    intro G K fu h1 h2 hl h3 h
    obtain ⟨fu, rfl⟩ : ∃ t, fu = t + 1 := ⟨fu - 1, by omega⟩
    rw [List.reverse_nil, List.append_nil] at h hl
    refine ⟨G, ?_, .id, fun _ => rfl, by rw [List.map_nil, List.append_nil]; exact h⟩
    have hs := h.1.1
    have hp := h.1.2.1
    have h12 := h.2.2.2.2.1
    show c59_0b (c59_0 f fu) f 72 _ _ = _
    unfold c59_0b c59_52
    rcases hb with q | ⟨z, x, q1, q2⟩
    · rw [q] at h12
      have h12' : G 72 12 = 0 := h12
      simp (disch := omega) only [cq_gi, cq_gr, cq_a, cq_s, cq_p, cq_pr, cq_is, cq_ar, cq_ab, cq_ln, xq_nz, Option.bind_some, xup2_n, xup2_s, Int.toNat_natCast, Int.reduceToNat, if_pos, if_neg, true_and, and_true, and_self, eq_self, if_true, reduceIte, not_true_eq_false, not_false_eq_true, or_true, true_or, s72 hs, h12']
    · have hv := h.2.2.2.2.2 z.length (by rw [q1, len1]; omega)
      rw [q1, len1] at h12
      rw [q1, len1] at hl
      rw [q1, getD_1, if_pos rfl] at hv
      have e1 : xwr (((z.length + 1 : Nat) : Int) - 1) = (z.length : Int) := by rw [xwr_g _ (by omega) (by omega)]; omega
      simp (disch := omega) only [cq_gi, cq_gr, cq_a, cq_s, cq_p, cq_pr, cq_is, cq_ar, cq_ab, cq_ln, xq_nz, Option.bind_some, xup2_n, xup2_s, Int.toNat_natCast, Int.reduceToNat, if_pos, if_neg, true_and, and_true, and_self, eq_self, if_true, reduceIte, not_true_eq_false, not_false_eq_true, or_true, true_or, s72 hs, s75 hs, p72_10 hp, h12, hv, k_55, e1]
  | cons s Q ih =>
    intro G K fu h1 h2 hl h3 h
    obtain ⟨fu, rfl⟩ : ∃ t, fu = t + 1 := ⟨fu - 1, by omega⟩
    rw [List.length_cons] at h2 h3
    rw [List.reverse_cons, ← List.append_assoc] at h hl
    rw [len1] at hl
    have hs := h.1.1
    have hp := h.1.2.1
    have h12 := h.2.2.2.2.1
    rw [len1] at h12
    have hv := h.2.2.2.2.2 (st ++ Q.reverse).length (by rw [len1]; omega)
    rw [getD_1, if_pos rfl] at hv
    have e1 : xwr ((((st ++ Q.reverse).length + 1 : Nat) : Int) - 1) = ((st ++ Q.reverse).length : Int) := by rw [xwr_g _ (by omega) (by omega)]; omega
    have hls' := h1 s (List.mem_cons_self ..)
    obtain ⟨x1, x2⟩ := h.pop (hh := hh)
    obtain ⟨G2, y1, y2, y4, y3⟩ := ky_56 (f := f) (m := m) (a := s) (b := 0) (hh := hh) x2 (by omega)
    obtain ⟨G3, z1, z2, z4, z3⟩ := ih G2 (K ++ [(s, 0)]) fu (fun x hx => h1 x (List.mem_cons_of_mem _ hx)) (by omega) (by omega) (by rw [len1]; omega) y3
    refine ⟨G3, ?_, (x1.tr y2).tr z2, fun j => ?_, ?_⟩
    · rw [← z1]
      show c59_0b (c59_0 f fu) f 72 _ _ = _
      unfold c59_0b
      simp (disch := omega) only [cq_gi, cq_gr, cq_a, cq_s, cq_p, cq_pr, cq_is, cq_ar, cq_ab, cq_ln, xq_nz, Option.bind_some, xup2_n, xup2_s, Int.toNat_natCast, Int.reduceToNat, if_pos, if_neg, true_and, and_true, and_self, eq_self, if_true, reduceIte, not_true_eq_false, not_false_eq_true, or_true, true_or, s72 hs, s75 hs, p72_10 hp, h12, hv, k_55, e1, y1]
    · rw [z4, y4, xup2_n (by omega)]
    · rw [List.append_assoc] at z3
      exact z3
/-- isIf() -/
theorem k_125 (hf : 100 < f) (hE : cEv S G B n t N w) (hA : cAt G N w i) (hif : ∀ i, i ≤ w → kK t i = 1 → (spl B (kS t i) (kE t i) 10 ↔ kC t i = 348)) : c125 f 65 ((min i N : Nat) : Int) (S, G, m) = some (if kK t i = 1 ∧ kC t i = 348 then 1 else 0, (S, G, m)) := by
  obtain ⟨k1, k2, k3, k4⟩ := hE.tk hA
  have hs := hE.1
  have hp := hE.2.1
  by_cases c : kK t i = 1
  · obtain ⟨l1, l2⟩ := hE.lt hA (by omega)
    have em : min i N = i := Nat.min_eq_left (by omega)
    rw [em] at k1 k2 k3 k4 ⊢
    obtain ⟨⟨_, _, a3⟩, _, _, a6, a7, _⟩ := hE.2.2.2.2.2.2 i l2
    obtain ⟨b, b1, b2⟩ := k_116 (f := f) (m := m) (x := 10) hs hp hE.2.2.1 hf (by decide) a6 a7
    have hq := hif i l2 c
    have e1 : c125 f 65 (i : Int) (S, G, m) = if b = 0 then some (0, (S, G, m)) else some (1, (S, G, m)) := by
      unfold c125 c125_35 c125_36
      simp (disch := omega) only [cq_gi, cq_gr, cq_a, cq_s, cq_p, cq_pr, cq_is, cq_ar, cq_ab, cq_ln, xq_nz, Option.bind_some, xup2_n, xup2_s, Int.toNat_natCast, Int.reduceToNat, if_pos, if_neg, true_and, and_true, and_self, eq_self, if_true, reduceIte, not_true_eq_false, not_false_eq_true, or_true, true_or, s65 hs, s67 hs, s68 hs, s69 hs, p65_3 hp, p65_4 hp, p65_5 hp, k1, k2, a3, c, b1]
    rw [e1]
    unfold isB at b2
    grind
  · rw [if_neg (fun q => c q.1)]
    unfold c125 c125_35 c125_36
    simp (disch := omega) only [cq_gi, cq_gr, cq_a, cq_s, cq_p, cq_pr, cq_is, cq_ar, cq_ab, cq_ln, xq_nz, Option.bind_some, xup2_n, xup2_s, Int.toNat_natCast, Int.reduceToNat, if_pos, if_neg, true_and, and_true, and_self, eq_self, if_true, reduceIte, not_true_eq_false, not_false_eq_true, or_true, true_or, s65 hs, s67 hs, p65_3 hp, k1, c]
end
end
section
/-! THE CLASS reads FORMULAS: turns of the loop -/
section
variable {f n N w i it hh : Nat} {S : Nat → Nat × Nat × Nat} {G G' G'' : xG_} {m : Nat × Nat} {B : Nat → Int} {t : tStr} {K K' : pCd} {st st' : List Int}
theorem ky_turn {wn : Int} (hf : 100 < f) (hif : ∀ i, i ≤ w → kK t i = 1 → (spl B (kS t i) (kE t i) 10 ↔ kC t i = 348)) (h : cYs S G B n t N w K st i) (hi : it ≤ i) (fu : Nat) : c53_9 f (fu + 1) 72 1 wn (it : Int) (S, G, m) = (if wn = 0 then c53_68 (c53_9 f fu) f 72 1 wn (it : Int) (kK t i) (S, G, m) else if kK t i = 40 then c53_59 (c53_9 f fu) f 72 1 wn (it : Int) (kK t i) (S, G, m) else if kK t i = 1 ∧ kC t i = 348 then c53_59 (c53_9 f fu) f 72 1 wn (it : Int) (kK t i) (S, G, m) else c53_68 (c53_9 f fu) f 72 1 wn (it : Int) (kK t i) (S, G, m)) := by
  have hE := h.1
  obtain ⟨k1, k2, k3, k4⟩ := hE.tk h.2.1
  have hs := hE.1
  have hp := hE.2.1
  have hN := hE.2.2.2.1.2
  have hi' := h.2.2.1
  show c53_9b (c53_9 f fu) f 72 _ _ _ _ = _
  unfold c53_9b
  rw [if_neg (by omega)]
  by_cases c : wn = 0
  · rw [if_pos c]
    simp (disch := omega) only [cq_gi, cq_gr, cq_a, cq_s, cq_p, cq_pr, cq_is, cq_ar, cq_ab, cq_ln, xq_nz, Option.bind_some, xup2_n, xup2_s, Int.toNat_natCast, Int.reduceToNat, if_pos, if_neg, true_and, and_true, and_self, eq_self, if_true, reduceIte, not_true_eq_false, not_false_eq_true, or_true, true_or, s72 hs, s65 hs, s67 hs, p72_0 hp, p65_3 hp, k1, k3]
  · rw [if_neg c]
    by_cases c2 : kK t i = 40
    · rw [if_pos c2]
      simp (disch := omega) only [cq_gi, cq_gr, cq_a, cq_s, cq_p, cq_pr, cq_is, cq_ar, cq_ab, cq_ln, xq_nz, Option.bind_some, xup2_n, xup2_s, Int.toNat_natCast, Int.reduceToNat, if_pos, if_neg, true_and, and_true, and_self, eq_self, if_true, reduceIte, not_true_eq_false, not_false_eq_true, or_true, true_or, s72 hs, s65 hs, s67 hs, p72_0 hp, p65_3 hp, k1, k3]
    · rw [if_neg c2]
      have e125 := k_125 (f := f) (m := m) hf hE h.2.1 hif
      by_cases c3 : kK t i = 1 ∧ kC t i = 348
      · rw [if_pos c3] at e125 ⊢
        simp (disch := omega) only [cq_gi, cq_gr, cq_a, cq_s, cq_p, cq_pr, cq_is, cq_ar, cq_ab, cq_ln, xq_nz, Option.bind_some, xup2_n, xup2_s, Int.toNat_natCast, Int.reduceToNat, if_pos, if_neg, true_and, and_true, and_self, eq_self, if_true, reduceIte, not_true_eq_false, not_false_eq_true, or_true, true_or, s72 hs, s65 hs, s67 hs, p72_0 hp, p65_3 hp, k1, k3, c, c2, e125]
      · rw [if_neg c3] at e125 ⊢
        simp (disch := omega) only [cq_gi, cq_gr, cq_a, cq_s, cq_p, cq_pr, cq_is, cq_ar, cq_ab, cq_ln, xq_nz, Option.bind_some, xup2_n, xup2_s, Int.toNat_natCast, Int.reduceToNat, if_pos, if_neg, true_and, and_true, and_self, eq_self, if_true, reduceIte, not_true_eq_false, not_false_eq_true, or_true, true_or, s72 hs, s65 hs, s67 hs, p72_0 hp, p65_3 hp, k1, k3, c, c2, e125]
theorem ity_1 (h : cYs S G B n t N w K st i) (hi : it ≤ i) : xwr ((it : Int) + 1) = ((it + 1 : Nat) : Int) := by
  have hN := h.1.2.2.2.1.2
  have hi' := h.2.2.1
  rw [xwr_g _ (by omega) (by omega)]; omega
/-- a sign -/
theorem ky_sign {Q : List Int} (hf : 100 < f) (hif : ∀ i, i ≤ w → kK t i = 1 → (spl B (kS t i) (kE t i) 10 ↔ kC t i = 348)) (h : cYs S G B n t N w K (st ++ Q.reverse) i) (hi : it ≤ i) (hk : 0 < cStr (kK t i)) (hb : st = [] ∨ ∃ z x, st = z ++ [x] ∧ cStr x < cStr (kK t i)) (hQ : ∀ x, x ∈ Q → cStr (kK t i) ≤ cStr x) (hl : (st ++ Q.reverse).length ≤ 31) (hK : K.length + Q.length ≤ 3001) : ∃ G', lSt f 1 0 1 it 1 (S, G, m) (S, G', m) ∧ xY hh G G' ∧ cYs S G' B n t N w (K ++ Q.map cZ) (st ++ [kK t i]) (i + 1) := by
  have hs := h.1.1
  rw [List.length_append, List.length_reverse] at hl
  obtain ⟨G1, a1, a2, _, a3⟩ := ky_59 (f := f) (m := m) (hh := hh) hk hb Q G K f hQ (by omega) (by rw [List.length_append, List.length_reverse]; omega) hK h
  obtain ⟨G2, b1, b2, b3⟩ := ky_57 (f := f) (m := m) (hh := hh) (x := kK t i) a3 (by omega)
  have hne : kK t i ≠ 0 ∧ kK t i ≠ 5 := by
    refine ⟨fun q => ?_, fun q => ?_⟩ <;> (rw [q] at hk; exact absurd hk (by decide))
  obtain ⟨l1, l2⟩ := b3.1.lt b3.2.1 hne.1
  obtain ⟨d1, d2⟩ := k_37 (f := f) (m := m) b3.1 b3.2.1 hne.2
  obtain ⟨e1, e2⟩ := b3.at (hh := hh) d2 (by omega)
  refine ⟨_, fun fu => ?_, (a2.tr b2).tr e1, e2⟩
  have ei := ity_1 h hi
  rw [ky_turn hf hif h hi fu, if_pos rfl]
  unfold c53_68 c53_202
  rw [if_pos rfl]
  have a1' : c59 f 72 (cStr (kK t i)) (S, G, m) = some (S, G1, m) := a1
  simp (disch := omega) only [cq_gi, cq_gr, cq_a, cq_s, cq_p, cq_pr, cq_is, cq_ar, cq_ab, cq_ln, xq_nz, Option.bind_some, xup2_n, xup2_s, Int.toNat_natCast, Int.reduceToNat, if_pos, if_neg, true_and, and_true, and_self, eq_self, if_true, reduceIte, not_true_eq_false, not_false_eq_true, or_true, true_or, s72 hs, k_55, a1', b1, d1, ei]
/-- behind a FORMULA -/
theorem ky_end {Q : List Int} (hf : 100 < f) (hif : ∀ i, i ≤ w → kK t i = 1 → (spl B (kS t i) (kE t i) 10 ↔ kC t i = 348)) (h : cYs S G B n t N w K (st ++ Q.reverse) i) (hi : it ≤ i) (hk : cStr (kK t i) = 0) (hb : st = [] ∨ ∃ z x, st = z ++ [x] ∧ cStr x < 1) (hQ : ∀ x, x ∈ Q → 1 ≤ cStr x) (hl : (st ++ Q.reverse).length ≤ 32) (hK : K.length + Q.length ≤ 3001) : ∃ G', xY hh G G' ∧ (∀ j, G' 76 j = G 76 j) ∧ cYs S G' B n t N w (K ++ Q.map cZ) st i ∧
    ∀ fu, c53_9 f (fu + 1) 72 1 0 (it : Int) (S, G, m) = if st = [] then some (.inr (), (S, G', m)) else ((c61 f 72 (kK t i) (S, G', m)).bind fun R163 => cth R163 (fun v169 => ((cq_is 4 20 72 R163.2).bind fun _ => ((c37 f 72 R163.2).bind fun R171 => c53_9 f fu 72 1 v169 ((it + 1 : Nat) : Int) R171)))) := by
  have hs := h.1.1
  rw [List.length_append, List.length_reverse] at hl
  obtain ⟨G1, a1, a2, a4, a3⟩ := ky_59 (f := f) (m := m) (hh := hh) (ls := 1) (by decide) hb Q G K f hQ (by omega) (by rw [List.length_append, List.length_reverse]; omega) hK h
  refine ⟨G1, a2, a4, a3, fun fu => ?_⟩
  have ei := ity_1 h hi
  have h12 := a3.2.2.2.2.1
  rw [ky_turn hf hif h hi fu, if_pos rfl]
  unfold c53_68 c53_202 c53_208
  rw [if_pos rfl]
  have a1' : c59 f 72 1 (S, G, m) = some (S, G1, m) := a1
  by_cases c : st = []
  · rw [if_pos c]
    rw [c] at h12
    have h12' : G1 72 12 = 0 := h12
    simp (disch := omega) only [cq_gi, cq_gr, cq_a, cq_s, cq_p, cq_pr, cq_is, cq_ar, cq_ab, cq_ln, xq_nz, Option.bind_some, xup2_n, xup2_s, Int.toNat_natCast, Int.reduceToNat, if_pos, if_neg, true_and, and_true, and_self, eq_self, if_true, reduceIte, not_true_eq_false, not_false_eq_true, or_true, true_or, s72 hs, k_55, hk, a1', h12']
  · rw [if_neg c]
    have hl' : 0 < st.length := List.length_pos_iff.mpr c
    simp (disch := omega) only [cq_gi, cq_gr, cq_a, cq_s, cq_p, cq_pr, cq_is, cq_ar, cq_ab, cq_ln, xq_nz, Option.bind_some, xup2_n, xup2_s, Int.toNat_natCast, Int.reduceToNat, if_pos, if_neg, true_and, and_true, and_self, eq_self, if_true, reduceIte, not_true_eq_false, not_false_eq_true, or_true, true_or, s72 hs, k_55, hk, a1', h12, ei]
theorem cCo.mend {X Y : pCd} {a b v : Int} (h : cCo G (X ++ [(a, b)] ++ Y)) : cCo (xup2 G 74 X.length v) (X ++ [(a, v)] ++ Y) := by
  obtain ⟨h1, h2⟩ := h
  refine ⟨?_, fun k hk => ?_⟩
  · rw [xup2_n (by omega), h1]; simp
  · have hk' : k < (X ++ [(a, b)] ++ Y).length := by
      simp only [List.length_append, List.length_singleton] at hk ⊢; exact hk
    obtain ⟨q1, q2⟩ := h2 k hk'
    have hg : ∀ z : Int × Int, (X ++ [z] ++ Y).getD k (0, 0) = if k < X.length then X.getD k (0, 0) else if k = X.length then z else Y.getD (k - X.length - 1) (0, 0) := by
      intro z
      simp only [List.getD_eq_getElem?_getD]
      by_cases c1 : k < X.length
      · rw [if_pos c1, List.append_assoc, List.getElem?_append_left c1]
      · rw [if_neg c1]
        by_cases c2 : k = X.length
        · rw [if_pos c2, c2]; simp
        · rw [if_neg c2, List.getElem?_append_right (by simp; omega)]
          congr 2
          simp
          omega
    rw [hg] at q1 q2 ⊢
    rw [xup2_n (by omega)]
    by_cases c1 : k < X.length
    · rw [if_pos c1] at q1 q2 ⊢
      rw [xup2_n (by omega)]
      exact ⟨q1, q2⟩
    · rw [if_neg c1] at q1 q2 ⊢
      by_cases c2 : k = X.length
      · rw [if_pos c2] at q1 q2 ⊢
        rw [c2, xup2_s]
        exact ⟨by rw [← c2]; exact q1, rfl⟩
      · rw [if_neg c2] at q1 q2 ⊢
        rw [xup2_n (by omega)]
        exact ⟨q1, q2⟩
/-- passPart(): what is asked for does not stand there -/
theorem k_61w {y : Int} (hy : 1 ≤ y ∧ y ≤ 4) (h : cYs S G B n t N w K (st ++ [y]) i) (hl : st.length ≤ 31) (hk : kK t i ≠ if y = 1 ∨ y = 4 then 41 else 44) : c61 f 72 (kK t i) (S, G, m) = some (.inl 0, cWr S G m (kS t i : Int)) := by
  have hs := h.1.1
  have hp := h.1.2.1
  obtain ⟨k1, k2, k3, k4⟩ := h.1.tk h.2.1
  have h12 := h.2.2.2.2.1
  rw [len1] at h12
  have hv := h.2.2.2.2.2 st.length (by rw [len1]; omega)
  rw [getD_1, if_pos rfl] at hv
  have e1 : xwr (((st.length + 1 : Nat) : Int) - 1) = (st.length : Int) := by rw [xwr_g _ (by omega) (by omega)]; omega
  have e0 : ∀ (b c : Int), kK t i ≠ c → c61_52 f 72 (st.length : Int) y b c (kK t i) (S, G, m) = some (.inl 0, cWr S G m (kS t i : Int)) := by
    intro b c hc
    unfold c61_52
    rw [if_neg hc]
    simp (disch := omega) only [cq_gi, cq_gr, cq_a, cq_s, cq_p, cq_pr, cq_is, cq_ar, cq_ab, cq_ln, xq_nz, Option.bind_some, xup2_n, xup2_s, Int.toNat_natCast, Int.reduceToNat, if_pos, if_neg, true_and, and_true, and_self, eq_self, if_true, reduceIte, not_true_eq_false, not_false_eq_true, or_true, true_or, s72 hs, s65 hs, s68 hs, p72_0 hp, p65_4 hp, h12, e1, k2, k3, k_36 hs, cth]
  have e2 : c61 f 72 (kK t i) (S, G, m) = c61_21 f 72 (kK t i) (st.length : Int) y (S, G, m) := by
    unfold c61
    simp (disch := omega) only [cq_gi, cq_gr, cq_a, cq_s, cq_p, cq_pr, cq_is, cq_ar, cq_ab, cq_ln, xq_nz, Option.bind_some, xup2_n, xup2_s, Int.toNat_natCast, Int.reduceToNat, if_pos, if_neg, true_and, and_true, and_self, eq_self, if_true, reduceIte, not_true_eq_false, not_false_eq_true, or_true, true_or, s72 hs, s75 hs, p72_10 hp, h12, hv, e1]
  rw [e2]
  unfold c61_21 c61_32 c61_37
  by_cases c1 : y = 1
  · rw [if_pos (.inl c1)] at hk
    rw [if_pos c1, if_neg (by decide)]
    exact e0 _ _ hk
  · rw [if_neg c1]
    by_cases c4 : y = 4
    · rw [if_pos (.inr c4)] at hk
      rw [if_neg (fun q => q c4), if_neg (by decide)]
      exact e0 _ _ hk
    · rw [if_neg (by omega)] at hk
      rw [if_pos c4, if_pos rfl]
      exact e0 _ _ hk
theorem k_61_1 (h : cYs S G B n t N w K (st ++ [1]) i) (hl : st.length ≤ 31) (hk : kK t i = 41) : c61 f 72 (kK t i) (S, G, m) = some (.inr 0, (S, xup2 G 72 12 (st.length : Int), m)) := by
  have hs := h.1.1
  have hp := h.1.2.1
  have h12 := h.2.2.2.2.1
  rw [len1] at h12
  have hv := h.2.2.2.2.2 st.length (by rw [len1]; omega)
  rw [getD_1, if_pos rfl] at hv
  have e1 : xwr (((st.length + 1 : Nat) : Int) - 1) = (st.length : Int) := by rw [xwr_g _ (by omega) (by omega)]; omega
  unfold c61
  simp (disch := omega) only [cq_gi, cq_gr, cq_a, cq_s, cq_p, cq_pr, cq_is, cq_ar, cq_ab, cq_ln, xq_nz, Option.bind_some, xup2_n, xup2_s, Int.toNat_natCast, Int.reduceToNat, if_pos, if_neg, true_and, and_true, and_self, eq_self, if_true, reduceIte, not_true_eq_false, not_false_eq_true, or_true, true_or, s72 hs, s75 hs, p72_10 hp, h12, hv, e1]
  unfold c61_21 c61_32 c61_37
  rw [if_pos rfl, if_neg (by decide)]
  unfold c61_52 c61_71 c61_160 c61_187 c61_197
  rw [if_neg (by decide : ¬ ((1 : Int) = 0)), if_pos (by decide : ¬ ((1 : Int) = 2)), if_pos (by decide : ¬ ((1 : Int) = 3)), if_pos (by decide : ¬ ((1 : Int) = 4))]
  simp (disch := omega) only [cq_gi, cq_gr, cq_a, cq_s, cq_p, cq_pr, cq_is, cq_ar, cq_ab, cq_ln, xq_nz, Option.bind_some, xup2_n, xup2_s, Int.toNat_natCast, Int.reduceToNat, if_pos, if_neg, true_and, and_true, and_self, eq_self, if_true, reduceIte, not_true_eq_false, not_false_eq_true, or_true, true_or, s72 hs, h12, e1, hk]
/-- behind what is asked -/
theorem k_61_2 (h : cYs S G B n t N w K (st ++ [2]) i) (hl : st.length ≤ 31) (hK : K.length < 3001) (hk : kK t i = 44) : ∃ G', c61 f 72 (kK t i) (S, G, m) = some (.inr 1, (S, G', m)) ∧ xY st.length G G' ∧ G' 76 st.length = (K.length : Int) ∧ cYs S G' B n t N w (K ++ [(14, 0)]) (st ++ [3]) i := by
  have hs := h.1.1
  have hp := h.1.2.1
  have h9 := h.2.2.2.1.1
  have h12 := h.2.2.2.2.1
  rw [len1] at h12
  have hv := h.2.2.2.2.2 st.length (by rw [len1]; omega)
  rw [getD_1, if_pos rfl] at hv
  have e1 : xwr (((st.length + 1 : Nat) : Int) - 1) = (st.length : Int) := by rw [xwr_g _ (by omega) (by omega)]; omega
  have x1 : xY st.length G (xup2 G 76 st.length (K.length : Int)) := fun a j p q r => xup2_n (by omega)
  have y1 : cYs S (xup2 G 76 st.length (K.length : Int)) B n t N w K (st ++ [2]) i := h.mv x1 ⟨by rw [xup2_n (by omega)]; exact h.2.1.1, h.2.1.2⟩ h.2.2.1 (h.2.2.2.1.ge (xup2_n (by omega)) (fun j => xup2_n (by omega)) (fun j => xup2_n (by omega))) (h.2.2.2.2.ge (xup2_n (by omega)) (fun j => xup2_n (by omega)))
  obtain ⟨G2, a1, a2, a3, a4⟩ := ky_56 (f := f) (m := m) (a := 14) (b := 0) (hh := st.length) y1 hK
  have x3 : xY st.length G2 (xup2 G2 75 st.length 3) := fun a j p q r => xup2_n (by omega)
  refine ⟨xup2 G2 75 st.length 3, ?_, (x1.tr a2).tr x3, ?_, ?_⟩
  · have q1 : xwr ((2 : Int) + 1) = 3 := by decide
    unfold c61
    simp (disch := omega) only [cq_gi, cq_gr, cq_a, cq_s, cq_p, cq_pr, cq_is, cq_ar, cq_ab, cq_ln, xq_nz, Option.bind_some, xup2_n, xup2_s, Int.toNat_natCast, Int.reduceToNat, if_pos, if_neg, true_and, and_true, and_self, eq_self, if_true, reduceIte, not_true_eq_false, not_false_eq_true, or_true, true_or, s72 hs, s75 hs, p72_10 hp, h12, hv, e1]
    unfold c61_21
    rw [if_neg (by decide), if_pos (by decide)]
    unfold c61_37
    rw [if_pos rfl]
    unfold c61_52
    rw [if_pos hk]
    unfold c61_71
    rw [if_neg (by decide)]
    have hp2 := a4.1.2.1
    unfold c61_160 c61_187 c61_197
    simp (disch := omega) only [cq_gi, cq_gr, cq_a, cq_s, cq_p, cq_pr, cq_is, cq_ar, cq_ab, cq_ln, xq_nz, Option.bind_some, xup2_n, xup2_s, Int.toNat_natCast, Int.reduceToNat, if_pos, if_neg, true_and, and_true, and_self, eq_self, if_true, reduceIte, not_true_eq_false, not_false_eq_true, or_true, true_or, s72 hs, s75 hs, s76 hs, p72_11 hp, p72_10 hp2, h9, a1, q1]
  · rw [xup2_n (by omega), a3, xup2_s]
  · refine a4.mv x3 ⟨by rw [xup2_n (by omega)]; exact a4.2.1.1, a4.2.1.2⟩ a4.2.2.1 (a4.2.2.2.1.ge (xup2_n (by omega)) (fun j => xup2_n (by omega)) (fun j => xup2_n (by omega))) ⟨?_, fun k hk => ?_⟩
    · rw [xup2_n (by omega), a4.2.2.2.2.1, len1, len1]
    · rw [len1] at hk
      have := a4.2.2.2.2.2 k (by rw [len1]; exact hk)
      rw [getD_1] at this ⊢
      by_cases ck : k = st.length
      · rw [if_pos ck, ck, xup2_s]
      · rw [if_neg ck] at this ⊢
        rw [xup2_n (by omega)]; exact this
/-- behind the first of two -/
theorem k_61_3 {X Y : pCd} {a b : Int} (h : cYs S G B n t N w (X ++ [(a, b)] ++ Y) (st ++ [3]) i) (hm : G 76 st.length = (X.length : Int)) (hl : st.length ≤ 31) (hK : (X ++ [(a, b)] ++ Y).length < 3001) (hk : kK t i = 44) : ∃ G', c61 f 72 (kK t i) (S, G, m) = some (.inr 1, (S, G', m)) ∧ xY st.length G G' ∧ G' 76 st.length = ((X ++ [(a, b)] ++ Y).length : Int) ∧ cYs S G' B n t N w (X ++ [(a, (((X ++ [(a, b)] ++ Y).length + 1 : Nat) : Int))] ++ Y ++ [(15, 0)]) (st ++ [4]) i := by
  have hs := h.1.1
  have hp := h.1.2.1
  have h9 := h.2.2.2.1.1
  have h12 := h.2.2.2.2.1
  rw [len1] at h12
  have hv := h.2.2.2.2.2 st.length (by rw [len1]; omega)
  rw [getD_1, if_pos rfl] at hv
  have e1 : xwr (((st.length + 1 : Nat) : Int) - 1) = (st.length : Int) := by rw [xwr_g _ (by omega) (by omega)]; omega
  generalize hZ : (X ++ [(a, b)] ++ Y).length = L at *
  have e2 : xwr ((L : Int) + 1) = ((L + 1 : Nat) : Int) := by rw [xwr_g _ (by omega) (by omega)]; omega
  have hXL : X.length < L := by rw [← hZ]; simp only [List.length_append, List.length_singleton]; omega
  have hL2 : (X ++ [(a, ((L + 1 : Nat) : Int))] ++ Y).length = L := by rw [← hZ]; simp only [List.length_append, List.length_singleton]
  have x1 : xY st.length G (xup2 (xup2 G 74 X.length ((L + 1 : Nat) : Int)) 76 st.length (L : Int)) := fun a j p q r => by rw [xup2_n (by omega), xup2_n (by omega)]
  have y1 : cYs S (xup2 (xup2 G 74 X.length ((L + 1 : Nat) : Int)) 76 st.length (L : Int)) B n t N w (X ++ [(a, ((L + 1 : Nat) : Int))] ++ Y) (st ++ [3]) i := h.mv x1 ⟨by rw [xup2_n (by omega), xup2_n (by omega)]; exact h.2.1.1, h.2.1.2⟩ h.2.2.1 ((h.2.2.2.1.mend (v := ((L + 1 : Nat) : Int))).ge (xup2_n (by omega)) (fun j => xup2_n (by omega)) (fun j => xup2_n (by omega))) (h.2.2.2.2.ge (by rw [xup2_n (by omega), xup2_n (by omega)]) (fun j => by rw [xup2_n (by omega), xup2_n (by omega)]))
  obtain ⟨G2, a1, a2, a3, a4⟩ := ky_56 (f := f) (m := m) (a := 15) (b := 0) (hh := st.length) y1 (by rw [hL2]; exact hK)
  have x3 : xY st.length G2 (xup2 G2 75 st.length 4) := fun a j p q r => xup2_n (by omega)
  refine ⟨xup2 G2 75 st.length 4, ?_, (x1.tr a2).tr x3, ?_, ?_⟩
  · have q1 : xwr ((3 : Int) + 1) = 4 := by decide
    unfold c61
    simp (disch := omega) only [cq_gi, cq_gr, cq_a, cq_s, cq_p, cq_pr, cq_is, cq_ar, cq_ab, cq_ln, xq_nz, Option.bind_some, xup2_n, xup2_s, Int.toNat_natCast, Int.reduceToNat, if_pos, if_neg, true_and, and_true, and_self, eq_self, if_true, reduceIte, not_true_eq_false, not_false_eq_true, or_true, true_or, s72 hs, s75 hs, p72_10 hp, h12, hv, e1]
    unfold c61_21
    rw [if_neg (by decide), if_pos (by decide)]
    unfold c61_37
    rw [if_pos rfl]
    unfold c61_52
    rw [if_pos hk]
    unfold c61_71
    rw [if_pos (by decide), if_neg (by decide)]
    have hp2 := a4.1.2.1
    unfold c61_160 c61_187 c61_197
    simp (disch := omega) only [cq_gi, cq_gr, cq_a, cq_s, cq_p, cq_pr, cq_is, cq_ar, cq_ab, cq_ln, xq_nz, Option.bind_some, xup2_n, xup2_s, Int.toNat_natCast, Int.reduceToNat, if_pos, if_neg, true_and, and_true, and_self, eq_self, if_true, reduceIte, not_true_eq_false, not_false_eq_true, or_true, true_or, s72 hs, s74 hs, s75 hs, s76 hs, p72_8 hp, p72_11 hp, p72_10 hp2, h9, hm, e2, a1, q1]
  · rw [xup2_n (by omega), a3, xup2_s]
  · refine a4.mv x3 ⟨by rw [xup2_n (by omega)]; exact a4.2.1.1, a4.2.1.2⟩ a4.2.2.1 (a4.2.2.2.1.ge (xup2_n (by omega)) (fun j => xup2_n (by omega)) (fun j => xup2_n (by omega))) ⟨?_, fun k hk => ?_⟩
    · rw [xup2_n (by omega), a4.2.2.2.2.1, len1, len1]
    · rw [len1] at hk
      have := a4.2.2.2.2.2 k (by rw [len1]; exact hk)
      rw [getD_1] at this ⊢
      by_cases ck : k = st.length
      · rw [if_pos ck, ck, xup2_s]
      · rw [if_neg ck] at this ⊢
        rw [xup2_n (by omega)]; exact this
/-- behind the last of three -/
theorem k_61_4 {X Y : pCd} {a b : Int} (h : cYs S G B n t N w (X ++ [(a, b)] ++ Y) (st ++ [4]) i) (hm : G 76 st.length = (X.length : Int)) (hl : st.length ≤ 31) (hK : (X ++ [(a, b)] ++ Y).length ≤ 3001) (hk : kK t i = 41) : ∃ G', c61 f 72 (kK t i) (S, G, m) = some (.inr 0, (S, G', m)) ∧ xY st.length G G' ∧ cYs S G' B n t N w (X ++ [(a, ((X ++ [(a, b)] ++ Y).length : Int))] ++ Y) st i := by
  have hs := h.1.1
  have hp := h.1.2.1
  have h9 := h.2.2.2.1.1
  have h12 := h.2.2.2.2.1
  rw [len1] at h12
  have hv := h.2.2.2.2.2 st.length (by rw [len1]; omega)
  rw [getD_1, if_pos rfl] at hv
  have e1 : xwr (((st.length + 1 : Nat) : Int) - 1) = (st.length : Int) := by rw [xwr_g _ (by omega) (by omega)]; omega
  generalize hZ : (X ++ [(a, b)] ++ Y).length = L at *
  have hXL : X.length < L := by rw [← hZ]; simp only [List.length_append, List.length_singleton]; omega
  have x1 : xY st.length G (xup2 G 74 X.length (L : Int)) := fun a j p q r => by rw [xup2_n (by omega)]
  have y1 : cYs S (xup2 G 74 X.length (L : Int)) B n t N w (X ++ [(a, (L : Int))] ++ Y) (st ++ [4]) i := h.mv x1 ⟨by rw [xup2_n (by omega)]; exact h.2.1.1, h.2.1.2⟩ h.2.2.1 (h.2.2.2.1.mend (v := (L : Int))) (h.2.2.2.2.ge (by rw [xup2_n (by omega)]) (fun j => by rw [xup2_n (by omega)]))
  obtain ⟨x2, y2⟩ := y1.pop (hh := st.length)
  refine ⟨_, ?_, x1.tr x2, y2⟩
  unfold c61
  simp (disch := omega) only [cq_gi, cq_gr, cq_a, cq_s, cq_p, cq_pr, cq_is, cq_ar, cq_ab, cq_ln, xq_nz, Option.bind_some, xup2_n, xup2_s, Int.toNat_natCast, Int.reduceToNat, if_pos, if_neg, true_and, and_true, and_self, eq_self, if_true, reduceIte, not_true_eq_false, not_false_eq_true, or_true, true_or, s72 hs, s75 hs, p72_10 hp, h12, hv, e1]
  unfold c61_21 c61_32
  rw [if_neg (by decide), if_neg (by decide)]
  unfold c61_37
  rw [if_neg (by decide)]
  unfold c61_52
  rw [if_pos hk]
  unfold c61_71
  rw [if_pos (by decide), if_pos (by decide), if_neg (by decide)]
  unfold c61_160 c61_187 c61_197
  simp (disch := omega) only [cq_gi, cq_gr, cq_a, cq_s, cq_p, cq_pr, cq_is, cq_ar, cq_ab, cq_ln, xq_nz, Option.bind_some, xup2_n, xup2_s, Int.toNat_natCast, Int.reduceToNat, if_pos, if_neg, true_and, and_true, and_self, eq_self, if_true, reduceIte, not_true_eq_false, not_false_eq_true, or_true, true_or, s72 hs, s74 hs, s75 hs, s76 hs, p72_8 hp, p72_11 hp, h9, hm, h12, e1]
end
end
section
/-! THE CLASS reads FORMULAS: operands -/
/-- the code of a node that begins at b, worked out within h cells -/
def isC (N : List pNd) : Nat → Int → Nat → Nat → pCd → Prop
  | 0, _, _, _, _ => False
  | F + 1, r, b, h, C => (0 ≤ r ∧ r < N.length) ∧ 1 ≤ h ∧ (
    (N.getD r.toNat dNd).1 = 1 ∧ C = [(1, (N.getD r.toNat dNd).2.2.2.2)] ∨
    (N.getD r.toNat dNd).1 = 2 ∧ C = [(2, (N.getD r.toNat dNd).2.1)] ∨
    (N.getD r.toNat dNd).1 = 3 ∧ (∃ A D, isC N F (N.getD r.toNat dNd).2.1 b h A ∧ isC N F (N.getD r.toNat dNd).2.2.1 (b + A.length) (h - 1) D ∧ C = A ++ D ++ [((N.getD r.toNat dNd).2.2.2.1, 0)]) ∨
    ((N.getD r.toNat dNd).1 = 4 ∨ (N.getD r.toNat dNd).1 = 5) ∧ C = [((N.getD r.toNat dNd).1 - 1, (N.getD r.toNat dNd).2.1 + 72 * (N.getD r.toNat dNd).2.2.1)] ∨
    (6 ≤ (N.getD r.toNat dNd).1 ∧ (N.getD r.toNat dNd).1 ≤ 9) ∧ C = [((N.getD r.toNat dNd).1 + 4 + 256 * (N.getD r.toNat dNd).2.1, (N.getD r.toNat dNd).2.2.2.2)] ∨
    (N.getD r.toNat dNd).1 = 10 ∧ (∃ A D E, isC N F (N.getD r.toNat dNd).2.1 b h A ∧ isC N F (N.getD r.toNat dNd).2.2.1 (b + A.length + 1) h D ∧ isC N F (N.getD r.toNat dNd).2.2.2.1 (b + A.length + 1 + D.length + 1) h E ∧ C = A ++ [(14, ((b + A.length + D.length + 2 : Nat) : Int))] ++ D ++ [(15, ((b + A.length + D.length + E.length + 2 : Nat) : Int))] ++ E))
theorem isC.mo {N M : List pNd} : ∀ (F F' : Nat) (r : Int) (b h h' : Nat) (C : pCd), F ≤ F' → h ≤ h' → isC N F r b h C → isC (N ++ M) F' r b h' C := by
  intro F
  induction F with
  | zero => intro F' r b h h' C _ _ h; exact h.elim
  | succ F ih =>
    intro F' r b k k' C hF hk h
    obtain ⟨F', rfl⟩ : ∃ t, F' = t + 1 := ⟨F' - 1, by omega⟩
    obtain ⟨⟨h1, h2⟩, h0, h3⟩ := h
    have hg : (N ++ M).getD r.toNat dNd = N.getD r.toNat dNd := by
      simp only [List.getD_eq_getElem?_getD]
      rw [List.getElem?_append_left (by omega)]
    refine ⟨⟨h1, by rw [List.length_append]; omega⟩, by omega, ?_⟩
    rw [hg]
    rcases h3 with q | q | ⟨q, A, D, a1, a2, a3⟩ | q | q | ⟨q, A, D, E, a1, a2, a3, a4⟩
    · exact .inl q
    · exact .inr (.inl q)
    · exact .inr (.inr (.inl ⟨q, A, D, ih F' _ _ _ _ _ (by omega) hk a1, ih F' _ _ _ _ _ (by omega) (by omega) a2, a3⟩))
    · exact .inr (.inr (.inr (.inl q)))
    · exact .inr (.inr (.inr (.inr (.inl q))))
    · exact .inr (.inr (.inr (.inr (.inr ⟨q, A, D, E, ih F' _ _ _ _ _ (by omega) hk a1, ih F' _ _ _ _ _ (by omega) hk a2, ih F' _ _ _ _ _ (by omega) hk a3, a4⟩))))
/-- what a node that has no parts is in code -/
def lf (y : pNd) : Option (Int × Int) := if y.1 = 1 then some (1, y.2.2.2.2) else if y.1 = 2 then some (2, y.2.1) else if y.1 = 4 ∨ y.1 = 5 then some (y.1 - 1, y.2.1 + 72 * y.2.2.1) else if 6 ≤ y.1 ∧ y.1 ≤ 9 then some (y.1 + 4 + 256 * y.2.1, y.2.2.2.2) else none
def lfC (c : Int × Int) : Bool := decide (c.1 % 256 ≤ 13)
theorem gD_last {N : List pNd} {y : pNd} : (N ++ [y]).getD ((N.length : Nat) : Int).toNat dNd = y := by
  rw [Int.toNat_natCast, getD_1, if_pos rfl]
theorem isC_new {N : List pNd} {y : pNd} {b k : Nat} {C : pCd} {F : Nat} (hk : 1 ≤ k) (h : y.1 = 1 ∧ C = [(1, y.2.2.2.2)] ∨ y.1 = 2 ∧ C = [(2, y.2.1)] ∨
    y.1 = 3 ∧ (∃ A D, isC N F y.2.1 b k A ∧ isC N F y.2.2.1 (b + A.length) (k - 1) D ∧ C = A ++ D ++ [(y.2.2.2.1, 0)]) ∨
    (y.1 = 4 ∨ y.1 = 5) ∧ C = [(y.1 - 1, y.2.1 + 72 * y.2.2.1)] ∨
    (6 ≤ y.1 ∧ y.1 ≤ 9) ∧ C = [(y.1 + 4 + 256 * y.2.1, y.2.2.2.2)] ∨
    y.1 = 10 ∧ (∃ A D E, isC N F y.2.1 b k A ∧ isC N F y.2.2.1 (b + A.length + 1) k D ∧ isC N F y.2.2.2.1 (b + A.length + 1 + D.length + 1) k E ∧ C = A ++ [(14, ((b + A.length + D.length + 2 : Nat) : Int))] ++ D ++ [(15, ((b + A.length + D.length + E.length + 2 : Nat) : Int))] ++ E)) : isC (N ++ [y]) (F + 1) (N.length : Int) b k C := by
  refine ⟨⟨by omega, by rw [len1]; omega⟩, hk, ?_⟩
  rw [gD_last]
  rcases h with q | q | ⟨q, A, D, a1, a2, a3⟩ | q | q | ⟨q, A, D, E, a1, a2, a3, a4⟩
  · exact .inl q
  · exact .inr (.inl q)
  · exact .inr (.inr (.inl ⟨q, A, D, a1.mo F F _ _ _ _ _ (Nat.le_refl _) (Nat.le_refl _), a2.mo F F _ _ _ _ _ (Nat.le_refl _) (Nat.le_refl _), a3⟩))
  · exact .inr (.inr (.inr (.inl q)))
  · exact .inr (.inr (.inr (.inr (.inl q))))
  · exact .inr (.inr (.inr (.inr (.inr ⟨q, A, D, E, a1.mo F F _ _ _ _ _ (Nat.le_refl _) (Nat.le_refl _), a2.mo F F _ _ _ _ _ (Nat.le_refl _) (Nat.le_refl _), a3.mo F F _ _ _ _ _ (Nat.le_refl _) (Nat.le_refl _), a4⟩))))
section
variable {f n N w i it hh : Nat} {S : Nat → Nat × Nat × Nat} {G G' G'' : xG_} {m : Nat × Nat} {B : Nat → Int} {t : tStr} {K K' : pCd} {st st' : List Int}
/-- a bracket is opened, that of an if too -/
theorem ky_openb (hf : 100 < f) (hif : ∀ i, i ≤ w → kK t i = 1 → (spl B (kS t i) (kE t i) 10 ↔ kC t i = 348)) (h : cYs S G B n t N w K st i) (hi : it ≤ i) (hk : kK t i = 40) (hl : st.length ≤ 31) : pok (pOpen t (nBr st) i) (fun x => lWr f 1 1 it 1 (S, G, m) (cWr S G m (x : Int))) (fun j => j = i + 1 ∧ ∃ G', lSt f 1 1 1 it 1 (S, G, m) (S, G', m) ∧ xY hh G G' ∧ cYs S G' B n t N w K (st ++ [1]) j) := by
  have hE := h.1
  obtain ⟨k1, k2, k3, k4⟩ := hE.tk h.2.1
  have hs := hE.1
  have hp := hE.2.1
  have e58 := ky_58 (m := m) (f := f) (by omega) h (by omega)
  have ei := ity_1 h hi
  have e60 : ∀ r9 : Nat → Int → Int → Int → xT_ → Option ((Nat ⊕ Unit) × xT_), c53_59 r9 f 72 1 1 (it : Int) 40 (S, G, m) = ((c60_20 f 72 1 (S, G, m)).bind fun R101 => cth R101 (fun _ => c53_202 r9 f 72 1 1 (it : Int) R101.2)) := by
    intro r9
    unfold c53_59 c60 c60_11
    rw [if_neg (by decide : ¬ ¬ ((40 : Int) = 40)), if_pos (by decide : ¬ ((1 : Int) = 0))]
    simp (disch := omega) only [cq_gi, cq_gr, cq_a, cq_s, cq_p, cq_pr, cq_is, cq_ar, cq_ab, cq_ln, xq_nz, Option.bind_some, xup2_n, xup2_s, Int.toNat_natCast, Int.reduceToNat, if_pos, if_neg, true_and, and_true, and_self, eq_self, if_true, reduceIte, not_true_eq_false, not_false_eq_true, or_true, true_or, s72 hs]
  unfold pOpen
  by_cases c : nBr st = 4
  · rw [if_neg (fun q => q.2 c)]
    intro fu
    rw [ky_turn hf hif h hi fu, if_neg (by decide), if_pos hk, hk, e60]
    rw [c] at e58
    have e58' : c58 f 72 (S, G, m) = some (4, (S, G, m)) := e58
    unfold c60_20 c60_45
    simp (disch := omega) only [cq_gi, cq_gr, cq_a, cq_s, cq_p, cq_pr, cq_is, cq_ar, cq_ab, cq_ln, xq_nz, Option.bind_some, xup2_n, xup2_s, Int.toNat_natCast, Int.reduceToNat, if_pos, if_neg, true_and, and_true, and_self, eq_self, if_true, reduceIte, not_true_eq_false, not_false_eq_true, or_true, true_or, s72 hs, s65 hs, s67 hs, s68 hs, p72_0 hp, p65_3 hp, p65_4 hp, k1, k2, k3, hk, e58', k_36 hs, cth]
  · rw [if_pos ⟨hk, c⟩]
    obtain ⟨l1, l2⟩ := hE.lt h.2.1 (by omega)
    obtain ⟨d1, d2⟩ := k_37 (f := f) (m := m) hE h.2.1 (by omega)
    obtain ⟨y1, y2⟩ := h.at (hh := hh) d2 (by omega)
    obtain ⟨G2, b1, b2, b3⟩ := ky_57 (f := f) (m := m) (hh := hh) (x := 1) y2 (by omega)
    refine ⟨rfl, G2, fun fu => ?_, y1.tr b2, b3⟩
    rw [ky_turn hf hif h hi fu, if_neg (by decide), if_pos hk, hk, e60]
    unfold c60_20 c60_61 c60_75 c53_202
    simp (disch := omega) only [cq_gi, cq_gr, cq_a, cq_s, cq_p, cq_pr, cq_is, cq_ar, cq_ab, cq_ln, xq_nz, Option.bind_some, xup2_n, xup2_s, Int.toNat_natCast, Int.reduceToNat, if_pos, if_neg, true_and, and_true, and_self, eq_self, if_true, reduceIte, not_true_eq_false, not_false_eq_true, or_true, true_or, s72 hs, s65 hs, s67 hs, s68 hs, p72_0 hp, p65_3 hp, p65_4 hp, k1, k2, k3, hk, e58, cth, d1, b1, ei]
theorem ky_openi (hf : 100 < f) (hif : ∀ i, i ≤ w → kK t i = 1 → (spl B (kS t i) (kE t i) 10 ↔ kC t i = 348)) (h : cYs S G B n t N w K st i) (hi : it ≤ i) (hk : kK t i = 1 ∧ kC t i = 348) (hl : st.length ≤ 31) : pok (pOpen t (nBr st) (i + 1)) (fun x => ∃ G', lWr f 1 1 it 1 (S, G, m) (cWr S G' m (x : Int)) ∧ xY hh G G') (fun j => j = i + 2 ∧ ∃ G', lSt f 1 1 1 it 1 (S, G, m) (S, G', m) ∧ xY hh G G' ∧ cYs S G' B n t N w K (st ++ [2]) j) := by
  have hE0 := h.1
  have hs := hE0.1
  obtain ⟨l1, l2⟩ := hE0.lt h.2.1 (by omega)
  obtain ⟨d1, d2⟩ := k_37 (f := f) (m := m) hE0 h.2.1 (by omega)
  obtain ⟨y1, y2⟩ := h.at (hh := hh) d2 (by omega)
  have hE := y2.1
  obtain ⟨k1, k2, k3, k4⟩ := hE.tk y2.2.1
  have hp := hE.2.1
  have e58 := ky_58 (m := m) (f := f) (by omega) y2 (by omega)
  have ei := ity_1 h hi
  have e0 : ∀ fu, c53_9 f (fu + 1) 72 1 1 (it : Int) (S, G, m) = c53_59 (c53_9 f fu) f 72 1 1 (it : Int) (kK t i) (S, G, m) := by
    intro fu
    rw [ky_turn hf hif h hi fu, if_neg (by decide), if_neg (by omega), if_pos hk]
  have e60 : ∀ r9 : Nat → Int → Int → Int → xT_ → Option ((Nat ⊕ Unit) × xT_), c53_59 r9 f 72 1 1 (it : Int) (kK t i) (S, G, m) = ((c60_20 f 72 0 (S, xup2 G 72 1 ((min (i + 1) N : Nat) : Int), m)).bind fun R101 => cth R101 (fun _ => c53_202 r9 f 72 1 1 (it : Int) R101.2)) := by
    intro r9
    unfold c53_59 c60 c60_11
    rw [if_pos (by omega), if_neg (by decide : ¬ ¬ ((0 : Int) = 0))]
    simp (disch := omega) only [cq_gi, cq_gr, cq_a, cq_s, cq_p, cq_pr, cq_is, cq_ar, cq_ab, cq_ln, xq_nz, Option.bind_some, xup2_n, xup2_s, Int.toNat_natCast, Int.reduceToNat, if_pos, if_neg, true_and, and_true, and_self, eq_self, if_true, reduceIte, not_true_eq_false, not_false_eq_true, or_true, true_or, s72 hs, d1]
  generalize hG : xup2 G 72 1 ((min (i + 1) N : Nat) : Int) = G1 at *
  unfold pOpen
  by_cases c1 : kK t (i + 1) = 40
  · by_cases c : nBr st = 4
    · rw [if_neg (fun q => q.2 c)]
      refine ⟨G1, fun fu => ?_, y1⟩
      rw [e0, e60]
      rw [c] at e58
      have e58' : c58 f 72 (S, G1, m) = some (4, (S, G1, m)) := e58
      unfold c60_20 c60_45
      simp (disch := omega) only [cq_gi, cq_gr, cq_a, cq_s, cq_p, cq_pr, cq_is, cq_ar, cq_ab, cq_ln, xq_nz, Option.bind_some, xup2_n, xup2_s, Int.toNat_natCast, Int.reduceToNat, if_pos, if_neg, true_and, and_true, and_self, eq_self, if_true, reduceIte, not_true_eq_false, not_false_eq_true, or_true, true_or, s72 hs, s65 hs, s67 hs, s68 hs, p72_0 hp, p65_3 hp, p65_4 hp, k1, k2, k3, c1, e58', k_36 hs, cth]
    · rw [if_pos ⟨c1, c⟩]
      obtain ⟨l1, l2⟩ := hE.lt y2.2.1 (by omega)
      obtain ⟨d1', d2'⟩ := k_37 (f := f) (m := m) hE y2.2.1 (by omega)
      obtain ⟨z1, z2⟩ := y2.at (hh := hh) d2' (by omega)
      obtain ⟨G2, b1, b2, b3⟩ := ky_57 (f := f) (m := m) (hh := hh) (x := 2) z2 (by omega)
      refine ⟨rfl, G2, fun fu => ?_, (y1.tr z1).tr b2, b3⟩
      rw [e0, e60]
      unfold c60_20 c60_61 c60_75 c53_202
      simp (disch := omega) only [cq_gi, cq_gr, cq_a, cq_s, cq_p, cq_pr, cq_is, cq_ar, cq_ab, cq_ln, xq_nz, Option.bind_some, xup2_n, xup2_s, Int.toNat_natCast, Int.reduceToNat, if_pos, if_neg, true_and, and_true, and_self, eq_self, if_true, reduceIte, not_true_eq_false, not_false_eq_true, or_true, true_or, s72 hs, s65 hs, s67 hs, s68 hs, p72_0 hp, p65_3 hp, p65_4 hp, k1, k2, k3, c1, e58, c, cth, d1', b1, ei]
  · rw [if_neg (fun q => c1 q.1)]
    refine ⟨G1, fun fu => ?_, y1⟩
    rw [e0, e60]
    unfold c60_20 c60_45
    simp (disch := omega) only [cq_gi, cq_gr, cq_a, cq_s, cq_p, cq_pr, cq_is, cq_ar, cq_ab, cq_ln, xq_nz, Option.bind_some, xup2_n, xup2_s, Int.toNat_natCast, Int.reduceToNat, if_pos, if_neg, true_and, and_true, and_self, eq_self, if_true, reduceIte, not_true_eq_false, not_false_eq_true, or_true, true_or, s72 hs, s65 hs, s67 hs, s68 hs, p72_0 hp, p65_3 hp, p65_4 hp, k1, k2, k3, c1, k_36 hs, cth]
end
end
section
/-! THE CLASS reads FORMULAS: what gathers -/
theorem pok_m {α : Type} {x : Nat ⊕ α} {P P' : Nat → Prop} {Q Q' : α → Prop} (h : pok x P Q) (h1 : ∀ w, P w → P' w) (h2 : ∀ a, Q a → Q' a) : pok x P' Q' := by
  cases x with
  | inl w => exact h1 w h
  | inr a => exact h2 a h
section
variable {f n N w i it hh b : Nat} {S : Nat → Nat × Nat × Nat} {G G' G'' : xG_} {m : Nat × Nat} {B : Nat → Int} {t : tStr} {K K' : pCd} {st st' : List Int} {N0 : List pNd}
theorem ky_38 {c : Int} (hc : c ≠ 5 ∧ c ≠ 0) (h : cYs S G B n t N w K st i) : pok (pNeed t c i) (fun x => c38 f 72 c (S, G, m) = some (.inl 0, cWr S G m (x : Int))) (fun j => ∃ G', c38 f 72 c (S, G, m) = some (.inr (), (S, G', m)) ∧ xY hh G G' ∧ cYs S G' B n t N w K st j ∧ j = i + 1) := by
  have p := k_38 (f := f) (m := m) hc.1 h.1 h.2.1
  cases hn : pNeed t c i with
  | inl x => rw [hn] at p; exact p
  | inr j =>
    rw [hn] at p
    obtain ⟨p1, p2, p3, p4⟩ := p
    obtain ⟨q1, q2⟩ := h.at (hh := hh) p4 (by have := (h.1.lt h.2.1 (by omega)).1; omega)
    exact ⟨_, p1, q1, q2, p2⟩
theorem ky_52 (hck : tCk t) (h : cYs S G B n t N w K st i) : pok (pCell t i) (fun x => c52 f 72 (S, G, m) = some (.inl 0, cWr S G m (x : Int))) (fun r => ∃ G', c52 f 72 (S, G, m) = some (.inr r.1, (S, G', m)) ∧ xY hh G G' ∧ cYs S G' B n t N w K st r.2 ∧ r.2 = i + 1 ∧ 0 ≤ r.1 ∧ r.1 < 72) := by
  have p := k_52 (f := f) (m := m) hck.1 h.1 h.2.1
  cases hn : pCell t i with
  | inl x => rw [hn] at p; exact p
  | inr r =>
    rw [hn] at p
    obtain ⟨p1, p2, p3, p5, p4⟩ := p
    obtain ⟨q1, q2⟩ := h.at (hh := hh) p4 (by have := (h.1.lt h.2.1 (by rw [(pCell_in hn).1]; decide)).1; omega)
    exact ⟨_, p1, q1, q2, p2, p3, p5⟩
theorem ky_47 (h : cYs S G B n t N w K st i) : pok (pName t i) (fun x => c47 f 72 (S, G, m) = some (.inl 0, cWr S G m (x : Int))) (fun r => ∃ G', c47 f 72 (S, G, m) = some (.inr r.1, (S, G', m)) ∧ xY hh G G' ∧ cYs S G' B n t N w K st r.2 ∧ r.2 = i + 1) := by
  have p := k_47 (f := f) (m := m) h.1 h.2.1
  cases hn : pName t i with
  | inl x => rw [hn] at p; exact p
  | inr r =>
    rw [hn] at p
    obtain ⟨p1, p2, p3, p4⟩ := p
    obtain ⟨q1, q2⟩ := h.at (hh := hh) p4 (by have := (h.1.lt h.2.1 (by omega)).1; omega)
    exact ⟨_, p1, q1, q2, p2⟩
theorem ky_50 (h : cYs S G B n t N w K st i) : pok (pNum t 4 i) (fun x => c50 f 72 4 (S, G, m) = some (.inl 0, cWr S G m (x : Int))) (fun r => ∃ G', c50 f 72 4 (S, G, m) = some (.inr r.1, (S, G', m)) ∧ xY hh G G' ∧ cYs S G' B n t N w K st r.2 ∧ r.2 = i + 1 ∧ 1 ≤ r.1 ∧ r.1 ≤ 4) := by
  have p := k_50 (f := f) (m := m) (hi := 4) (by decide) h.1 h.2.1
  have p' : pok (pNum t 4 i) (fun x => c50 f 72 4 (S, G, m) = some (.inl 0, cWr S G m (x : Int))) (fun r => c50 f 72 4 (S, G, m) = some (.inr r.1, (S, xup2 G 72 1 ((min r.2 N : Nat) : Int), m)) ∧ r.2 = i + 1 ∧ 1 ≤ r.1 ∧ r.1 ≤ (4 : Nat) ∧ cAt (xup2 G 72 1 ((min r.2 N : Nat) : Int)) N w r.2) := p
  cases hn : pNum t 4 i with
  | inl x => rw [hn] at p'; exact p'
  | inr r =>
    rw [hn] at p'
    obtain ⟨p1, p2, p3, p5, p4⟩ := p'
    have hk : kK t i = 4 := by
      unfold pNum at hn
      split at hn
      · rename_i q; exact q.1
      · cases hn
    obtain ⟨q1, q2⟩ := h.at (hh := hh) p4 (by have := (h.1.lt h.2.1 (by omega)).1; omega)
    exact ⟨_, p1, q1, q2, p2, p3, p5⟩
theorem k_54z (h : cYs S G B n t N w K st i) : pok (pNeed t 41 i) (fun x => c54_186 f 72 (S, G, m) = some (.inl 0, cWr S G m (x : Int))) (fun j => ∃ G', c54_186 f 72 (S, G, m) = some (.inr (), (S, G', m)) ∧ xY hh G G' ∧ cYs S G' B n t N w K st j ∧ j = i + 1) := by
  have hs := h.1.1
  have p := ky_38 (f := f) (m := m) (hh := hh) (c := 41) (by decide) h
  cases hn : pNeed t 41 i with
  | inl x =>
    rw [hn] at p
    have p' : c38 f 72 41 (S, G, m) = _ := p
    show c54_186 f 72 (S, G, m) = _
    unfold c54_186
    simp (disch := omega) only [cq_gi, cq_gr, cq_a, cq_s, cq_p, cq_pr, cq_is, cq_ar, cq_ab, cq_ln, xq_nz, Option.bind_some, xup2_n, xup2_s, Int.toNat_natCast, Int.reduceToNat, if_pos, if_neg, true_and, and_true, and_self, eq_self, if_true, reduceIte, not_true_eq_false, not_false_eq_true, or_true, true_or, s72 hs, p', cth]
  | inr j =>
    rw [hn] at p
    obtain ⟨G1, p1, p2, p3, p4⟩ := p
    refine ⟨G1, ?_, p2, p3, p4⟩
    unfold c54_186
    simp (disch := omega) only [cq_gi, cq_gr, cq_a, cq_s, cq_p, cq_pr, cq_is, cq_ar, cq_ab, cq_ln, xq_nz, Option.bind_some, xup2_n, xup2_s, Int.toNat_natCast, Int.reduceToNat, if_pos, if_neg, true_and, and_true, and_self, eq_self, if_true, reduceIte, not_true_eq_false, not_false_eq_true, or_true, true_or, s72 hs, p1, cth]
/-- over CELLS -/
theorem k_54c {g : Int} (hg : g = 10 ∨ g = 11) (hck : tCk t) (h : cYs S G B n t N w K st i) (hK : K.length < 3001) : pok (pbind (pCell t i) fun a => pbind (pNeed t 58 a.2) fun k => pbind (pCell t k) fun c =>
    if c.1 % 6 < a.1 % 6 ∨ c.1 / 6 < a.1 / 6 then .inl (kS t k) else
    pbind (pNeed t 41 c.2) fun j => (.inr (N0 ++ [(if g = 11 then 4 else 5, a.1, c.1, 0, 0)], (N0.length : Int), j) : Nat ⊕ pFm))
    (fun x => ∃ G', c54_62 f 72 g (S, G, m) = some (.inl 0, cWr S G' m (x : Int)) ∧ xY hh G G')
    (fun e => ∃ G' C, c54_62 f 72 g (S, G, m) = some (.inr (), (S, G', m)) ∧ xY hh G G' ∧ cYs S G' B n t N w (K ++ [C]) st e.2.2 ∧ isC e.1 1 e.2.1 K.length 1 [C] ∧ i < e.2.2 ∧ ∃ y, e.1 = N0 ++ [y] ∧ lf y = some C ∧ lfC C = true) := by
  have hs := h.1.1
  have p1 := ky_52 (f := f) (m := m) (hh := hh) hck h
  cases h1 : pCell t i with
  | inl x =>
    rw [h1] at p1
    have p1' : c52 f 72 (S, G, m) = _ := p1
    refine ⟨G, ?_, .id⟩
    unfold c54_62
    simp (disch := omega) only [cq_gi, cq_gr, cq_a, cq_s, cq_p, cq_pr, cq_is, cq_ar, cq_ab, cq_ln, xq_nz, Option.bind_some, xup2_n, xup2_s, Int.toNat_natCast, Int.reduceToNat, if_pos, if_neg, true_and, and_true, and_self, eq_self, if_true, reduceIte, not_true_eq_false, not_false_eq_true, or_true, true_or, s72 hs, p1', cth]
  | inr a =>
    rw [h1] at p1
    obtain ⟨G1, a1, a2, a3, a4, a5, a6⟩ := p1
    have p2 := ky_38 (f := f) (m := m) (hh := hh) (c := 58) (by decide) a3
    show pok (pbind (pNeed t 58 a.2) _) _ _
    cases h2 : pNeed t 58 a.2 with
    | inl x =>
      rw [h2] at p2
      have p2' : c38 f 72 58 (S, G1, m) = _ := p2
      refine ⟨G1, ?_, a2⟩
      unfold c54_62
      simp (disch := omega) only [cq_gi, cq_gr, cq_a, cq_s, cq_p, cq_pr, cq_is, cq_ar, cq_ab, cq_ln, xq_nz, Option.bind_some, xup2_n, xup2_s, Int.toNat_natCast, Int.reduceToNat, if_pos, if_neg, true_and, and_true, and_self, eq_self, if_true, reduceIte, not_true_eq_false, not_false_eq_true, or_true, true_or, s72 hs, a1, p2', cth]
    | inr k =>
      rw [h2] at p2
      obtain ⟨G2, b1, b2, b3, b4⟩ := p2
      have hp2 := b3.1.2.1
      obtain ⟨k1, k2, k3, k4⟩ := b3.1.tk b3.2.1
      have p3 := ky_52 (f := f) (m := m) (hh := hh) hck b3
      show pok (pbind (pCell t k) _) _ _
      cases h3 : pCell t k with
      | inl x =>
        rw [h3] at p3
        have p3' : c52 f 72 (S, G2, m) = _ := p3
        refine ⟨G2, ?_, a2.tr b2⟩
        unfold c54_62
        simp (disch := omega) only [cq_gi, cq_gr, cq_a, cq_s, cq_p, cq_pr, cq_is, cq_ar, cq_ab, cq_ln, xq_nz, Option.bind_some, xup2_n, xup2_s, Int.toNat_natCast, Int.reduceToNat, if_pos, if_neg, true_and, and_true, and_self, eq_self, if_true, reduceIte, not_true_eq_false, not_false_eq_true, or_true, true_or, s72 hs, s65 hs, s68 hs, p72_0 hp2, p65_4 hp2, k2, k3, a1, b1, p3', cth]
      | inr c =>
        rw [h3] at p3
        obtain ⟨G3, c1, c2, c3, c4, c5, c6⟩ := p3
        have hp3 := c3.1.2.1
        obtain ⟨xa1, xa2⟩ := x6i a5 a6
        obtain ⟨xc1, xc2⟩ := x6i c5 c6
        have e1 : c54_62 f 72 g (S, G, m) = if c.1 % 6 < a.1 % 6 then c54_116 f 72 g a.1 (kS t k : Int) c.1 (S, G3, m) else if a.1 / 6 ≤ c.1 / 6 then c54_121 f 72 g a.1 c.1 (S, G3, m) else c54_116 f 72 g a.1 (kS t k : Int) c.1 (S, G3, m) := by
          unfold c54_62
          simp (disch := omega) only [cq_gi, cq_gr, cq_a, cq_s, cq_p, cq_pr, cq_is, cq_ar, cq_ab, cq_ln, xq_nz, Option.bind_some, xup2_n, xup2_s, Int.toNat_natCast, Int.reduceToNat, if_pos, if_neg, true_and, and_true, and_self, eq_self, if_true, reduceIte, not_true_eq_false, not_false_eq_true, or_true, true_or, s72 hs, s65 hs, s68 hs, p72_0 hp2, p65_4 hp2, k2, k3, a1, b1, c1, cth, xa1, xa2, xc1, xc2]
        show pok (if c.1 % 6 < a.1 % 6 ∨ c.1 / 6 < a.1 / 6 then _ else _) _ _
        by_cases cb : c.1 % 6 < a.1 % 6 ∨ c.1 / 6 < a.1 / 6
        · rw [if_pos cb]
          refine ⟨G3, ?_, (a2.tr b2).tr c2⟩
          have e2 : c54_62 f 72 g (S, G, m) = c54_116 f 72 g a.1 (kS t k : Int) c.1 (S, G3, m) := by
            rw [e1]
            by_cases q : c.1 % 6 < a.1 % 6
            · rw [if_pos q]
            · rw [if_neg q, if_neg (by omega)]
          rw [e2]
          unfold c54_116
          simp (disch := omega) only [cq_gi, cq_gr, cq_a, cq_s, cq_p, cq_pr, cq_is, cq_ar, cq_ab, cq_ln, xq_nz, Option.bind_some, xup2_n, xup2_s, Int.toNat_natCast, Int.reduceToNat, if_pos, if_neg, true_and, and_true, and_self, eq_self, if_true, reduceIte, not_true_eq_false, not_false_eq_true, or_true, true_or, s72 hs, k_36 hs, cth]
        · rw [if_neg cb]
          rw [if_neg (fun q => cb (.inl q)), if_pos (by omega)] at e1
          have w1 : xwr (72 * c.1) = 72 * c.1 := xwr_g _ (by omega) (by omega)
          have w2 : xwr (a.1 + 72 * c.1) = a.1 + 72 * c.1 := xwr_g _ (by omega) (by omega)
          obtain ⟨G4, d1, d2, _, d3⟩ := ky_56 (f := f) (m := m) (hh := hh) (a := if g = 11 then 3 else 4) (b := a.1 + 72 * c.1) c3 hK
          have e3 : c54_62 f 72 g (S, G, m) = c54_186 f 72 (S, G4, m) := by
            rw [e1]
            unfold c54_121 c54_133
            rcases hg with q | q
            · rw [if_pos (by omega)]
              rw [if_neg (by omega)] at d1
              simp (disch := omega) only [cq_gi, cq_gr, cq_a, cq_s, cq_p, cq_pr, cq_is, cq_ar, cq_ab, cq_ln, xq_nz, Option.bind_some, xup2_n, xup2_s, Int.toNat_natCast, Int.reduceToNat, if_pos, if_neg, true_and, and_true, and_self, eq_self, if_true, reduceIte, not_true_eq_false, not_false_eq_true, or_true, true_or, s72 hs, w1, w2, d1]
            · rw [if_neg (by omega)]
              rw [if_pos q] at d1
              simp (disch := omega) only [cq_gi, cq_gr, cq_a, cq_s, cq_p, cq_pr, cq_is, cq_ar, cq_ab, cq_ln, xq_nz, Option.bind_some, xup2_n, xup2_s, Int.toNat_natCast, Int.reduceToNat, if_pos, if_neg, true_and, and_true, and_self, eq_self, if_true, reduceIte, not_true_eq_false, not_false_eq_true, or_true, true_or, s72 hs, w1, w2, d1]
          have p4 := k_54z (f := f) (m := m) (hh := hh) d3
          show pok (pbind (pNeed t 41 c.2) _) _ _
          cases h4 : pNeed t 41 c.2 with
          | inl x =>
            rw [h4] at p4
            exact ⟨G4, by rw [e3]; exact p4, ((a2.tr b2).tr c2).tr d2⟩
          | inr j =>
            rw [h4] at p4
            obtain ⟨G5, f1, f2, f3, f4⟩ := p4
            refine ⟨G5, _, by rw [e3]; exact f1, (((a2.tr b2).tr c2).tr d2).tr f2, f3, isC_new (F := 0) (Nat.le_refl _) (.inr (.inr (.inr (.inl ⟨?_, ?_⟩)))), by show i < j; omega, _, rfl, ?_, ?_⟩
            · show (if g = 11 then (4 : Int) else 5) = 4 ∨ (if g = 11 then (4 : Int) else 5) = 5
              split
              · exact .inl rfl
              · exact .inr rfl
            · show [((if g = 11 then (3 : Int) else 4), a.1 + 72 * c.1)] = [((if g = 11 then (4 : Int) else 5) - 1, a.1 + 72 * c.1)]
              split <;> rfl
            · rcases hg with q | q
              · rw [q]; rfl
              · rw [q]; rfl
            · unfold lfC
              rw [decide_eq_true_iff]
              show (if g = 11 then (3 : Int) else 4) % 256 ≤ 13
              split <;> decide
theorem x_orsh : ∀ g : Nat, g < 4 → ∀ c : Nat, c < 5 → xor_ ((g + 10 : Nat) : Int) (xshl (c : Int) 8) = ((g + 10 : Nat) : Int) + 256 * (c : Int) := by decide +kernel
theorem x_orsh' {g c : Int} (hg : 10 ≤ g ∧ g ≤ 13) (hc : 0 ≤ c ∧ c ≤ 4) : xor_ g (xshl c 8) = g + 256 * c := by
  have := x_orsh (g.toNat - 10) (by omega) c.toNat (by omega)
  have e1 : ((g.toNat - 10 + 10 : Nat) : Int) = g := by omega
  have e2 : ((c.toNat : Nat) : Int) = c := by omega
  rw [e1, e2] at this
  exact this
/-- over rows -/
theorem k_54n {g : Int} (hg : 10 ≤ g ∧ g ≤ 13) (h : cYs S G B n t N w K st i) (hK : K.length < 3001) : pok (pbind (pName t i) fun x => pbind (if g = 10 then .inr ((0 : Int), x.2) else pbind (pNeed t 44 x.2) fun k => pNum t 4 k) fun k =>
    pbind (pNeed t 41 k.2) fun j => (.inr (N0 ++ [(g - 4, k.1, 0, 0, x.1)], (N0.length : Int), j) : Nat ⊕ pFm))
    (fun x => ∃ G', c54_147 f 72 g (S, G, m) = some (.inl 0, cWr S G' m (x : Int)) ∧ xY hh G G')
    (fun e => ∃ G' C, c54_147 f 72 g (S, G, m) = some (.inr (), (S, G', m)) ∧ xY hh G G' ∧ cYs S G' B n t N w (K ++ [C]) st e.2.2 ∧ isC e.1 1 e.2.1 K.length 1 [C] ∧ i < e.2.2 ∧ ∃ y, e.1 = N0 ++ [y] ∧ lf y = some C ∧ lfC C = true) := by
  have hs := h.1.1
  have p1 := ky_47 (f := f) (m := m) (hh := hh) h
  -- behind the column
  have last : ∀ (x k : Int × Nat) (G3 : xG_), i < k.2 → 0 ≤ k.1 ∧ k.1 ≤ 4 → c54_147 f 72 g (S, G, m) = c54_174 f 72 g x.1 k.1 (S, G3, m) → xY hh G G3 → cYs S G3 B n t N w K st k.2 → pok (pbind (pNeed t 41 k.2) fun j => (.inr (N0 ++ [(g - 4, k.1, 0, 0, x.1)], (N0.length : Int), j) : Nat ⊕ pFm))
    (fun x => ∃ G', c54_147 f 72 g (S, G, m) = some (.inl 0, cWr S G' m (x : Int)) ∧ xY hh G G')
    (fun e => ∃ G' C, c54_147 f 72 g (S, G, m) = some (.inr (), (S, G', m)) ∧ xY hh G G' ∧ cYs S G' B n t N w (K ++ [C]) st e.2.2 ∧ isC e.1 1 e.2.1 K.length 1 [C] ∧ i < e.2.2 ∧ ∃ y, e.1 = N0 ++ [y] ∧ lf y = some C ∧ lfC C = true) := by
    intro x k G3 hik hk e1 x3 y3
    obtain ⟨G4, d1, d2, _, d3⟩ := ky_56 (f := f) (m := m) (hh := hh) (a := g + 256 * k.1) (b := x.1) y3 hK
    have w1 := x_orsh' hg hk
    have e3 : c54_147 f 72 g (S, G, m) = c54_186 f 72 (S, G4, m) := by
      rw [e1]
      unfold c54_174
      simp (disch := omega) only [cq_gi, cq_gr, cq_a, cq_s, cq_p, cq_pr, cq_is, cq_ar, cq_ab, cq_ln, xq_nz, Option.bind_some, xup2_n, xup2_s, Int.toNat_natCast, Int.reduceToNat, if_pos, if_neg, true_and, and_true, and_self, eq_self, if_true, reduceIte, not_true_eq_false, not_false_eq_true, or_true, true_or, s72 hs, w1, d1]
    have p4 := k_54z (f := f) (m := m) (hh := hh) d3
    cases h4 : pNeed t 41 k.2 with
    | inl x =>
      rw [h4] at p4
      exact ⟨G4, by rw [e3]; exact p4, x3.tr d2⟩
    | inr j =>
      rw [h4] at p4
      obtain ⟨G5, f1, f2, f3, f4⟩ := p4
      refine ⟨G5, _, by rw [e3]; exact f1, (x3.tr d2).tr f2, f3, isC_new (F := 0) (Nat.le_refl _) (.inr (.inr (.inr (.inr (.inl ⟨by show 6 ≤ g - 4 ∧ g - 4 ≤ 9; omega, ?_⟩))))), by show i < j; omega, _, rfl, ?_, ?_⟩
      · show [(g + 256 * k.1, x.1)] = [(g - 4 + 4 + 256 * k.1, x.1)]
        have : g - 4 + 4 = g := by omega
        rw [this]
      · unfold lf
        have : g - 4 + 4 = g := by omega
        rw [if_neg (by show ¬ g - 4 = 1; omega), if_neg (by show ¬ g - 4 = 2; omega), if_neg (by show ¬ (g - 4 = 4 ∨ g - 4 = 5); omega), if_pos (by show 6 ≤ g - 4 ∧ g - 4 ≤ 9; omega)]
        show some (g - 4 + 4 + 256 * k.1, x.1) = _
        rw [this]
      · unfold lfC
        rw [decide_eq_true_iff]
        show (g + 256 * k.1) % 256 ≤ 13
        omega
  cases h1 : pName t i with
  | inl x =>
    rw [h1] at p1
    have p1' : c47 f 72 (S, G, m) = _ := p1
    refine ⟨G, ?_, .id⟩
    unfold c54_147
    simp (disch := omega) only [cq_gi, cq_gr, cq_a, cq_s, cq_p, cq_pr, cq_is, cq_ar, cq_ab, cq_ln, xq_nz, Option.bind_some, xup2_n, xup2_s, Int.toNat_natCast, Int.reduceToNat, if_pos, if_neg, true_and, and_true, and_self, eq_self, if_true, reduceIte, not_true_eq_false, not_false_eq_true, or_true, true_or, s72 hs, p1', cth]
  | inr x =>
    rw [h1] at p1
    obtain ⟨G1, a1, a2, a3, a4⟩ := p1
    show pok (pbind (if g = 10 then _ else _) _) _ _
    by_cases c10 : g = 10
    · rw [if_pos c10]
      refine last x (0, x.2) G1 (by show i < x.2; omega) (by show (0 : Int) ≤ 0 ∧ (0 : Int) ≤ 4; decide) ?_ a2 a3
      unfold c54_147
      simp (disch := omega) only [cq_gi, cq_gr, cq_a, cq_s, cq_p, cq_pr, cq_is, cq_ar, cq_ab, cq_ln, xq_nz, Option.bind_some, xup2_n, xup2_s, Int.toNat_natCast, Int.reduceToNat, if_pos, if_neg, true_and, and_true, and_self, eq_self, if_true, reduceIte, not_true_eq_false, not_false_eq_true, or_true, true_or, s72 hs, a1, cth, c10]
    · rw [if_neg c10]
      have p2 := ky_38 (f := f) (m := m) (hh := hh) (c := 44) (by decide) a3
      cases h2 : pNeed t 44 x.2 with
      | inl y =>
        rw [h2] at p2
        have p2' : c38 f 72 44 (S, G1, m) = _ := p2
        refine ⟨G1, ?_, a2⟩
        unfold c54_147
        simp (disch := omega) only [cq_gi, cq_gr, cq_a, cq_s, cq_p, cq_pr, cq_is, cq_ar, cq_ab, cq_ln, xq_nz, Option.bind_some, xup2_n, xup2_s, Int.toNat_natCast, Int.reduceToNat, if_pos, if_neg, true_and, and_true, and_self, eq_self, if_true, reduceIte, not_true_eq_false, not_false_eq_true, or_true, true_or, s72 hs, a1, p2', cth, c10]
      | inr k =>
        rw [h2] at p2
        obtain ⟨G2, b1, b2, b3, b4⟩ := p2
        have p3 := ky_50 (f := f) (m := m) (hh := hh) b3
        show pok (pbind (pNum t 4 k) _) _ _
        cases h3 : pNum t 4 k with
        | inl y =>
          rw [h3] at p3
          have p3' : c50 f 72 4 (S, G2, m) = _ := p3
          refine ⟨G2, ?_, a2.tr b2⟩
          unfold c54_147
          simp (disch := omega) only [cq_gi, cq_gr, cq_a, cq_s, cq_p, cq_pr, cq_is, cq_ar, cq_ab, cq_ln, xq_nz, Option.bind_some, xup2_n, xup2_s, Int.toNat_natCast, Int.reduceToNat, if_pos, if_neg, true_and, and_true, and_self, eq_self, if_true, reduceIte, not_true_eq_false, not_false_eq_true, or_true, true_or, s72 hs, a1, b1, p3', cth, c10]
        | inr r =>
          rw [h3] at p3
          obtain ⟨G3, c1, c2, c3, c4, c5, c6⟩ := p3
          refine last x r G3 (by omega) (by omega) ?_ ((a2.tr b2).tr c2) c3
          unfold c54_147
          simp (disch := omega) only [cq_gi, cq_gr, cq_a, cq_s, cq_p, cq_pr, cq_is, cq_ar, cq_ab, cq_ln, xq_nz, Option.bind_some, xup2_n, xup2_s, Int.toNat_natCast, Int.reduceToNat, if_pos, if_neg, true_and, and_true, and_self, eq_self, if_true, reduceIte, not_true_eq_false, not_false_eq_true, or_true, true_or, s72 hs, a1, b1, c1, cth, c10]
/-- readGathering() -/
theorem k_54 (hf : 100 < f) (hck : tCk t) (h : cYs S G B n t N w K st i) (hg : 10 ≤ kK t i ∧ kK t i ≤ 13) (hl : st.length ≤ 31) (hK : K.length < 3001) (hb : nBr st = b) : pok (pOf t b N0 i)
    (fun x => ∃ G', c54 f 72 (kK t i) (S, G, m) = some (.inl 0, cWr S G' m (x : Int)) ∧ xY hh G G')
    (fun e => ∃ G' C, c54 f 72 (kK t i) (S, G, m) = some (.inr (), (S, G', m)) ∧ xY hh G G' ∧ cYs S G' B n t N w (K ++ [C]) st e.2.2 ∧ isC e.1 1 e.2.1 K.length 1 [C] ∧ i < e.2.2 ∧ ∃ y, e.1 = N0 ++ [y] ∧ lf y = some C ∧ lfC C = true) := by
  have hs := h.1.1
  obtain ⟨l1, l2⟩ := h.1.lt h.2.1 (by omega)
  obtain ⟨d1, d2⟩ := k_37 (f := f) (m := m) h.1 h.2.1 (by omega)
  obtain ⟨y1, y2⟩ := h.at (hh := hh) d2 (by omega)
  generalize hG : xup2 G 72 1 ((min (i + 1) N : Nat) : Int) = G1 at *
  have hE := y2.1
  obtain ⟨k1, k2, k3, k4⟩ := hE.tk y2.2.1
  have hp := hE.2.1
  have e58 := ky_58 (m := m) (f := f) (by omega) y2 (by omega)
  unfold pOf pOpen
  by_cases c4 : b = 4
  · rw [if_neg (fun q => q.2 c4)]
    refine ⟨G1, ?_, y1⟩
    rw [hb, c4] at e58
    have e58' : c58 f 72 (S, G1, m) = some (4, (S, G1, m)) := e58
    unfold c54
    simp (disch := omega) only [cq_gi, cq_gr, cq_a, cq_s, cq_p, cq_pr, cq_is, cq_ar, cq_ab, cq_ln, xq_nz, Option.bind_some, xup2_n, xup2_s, Int.toNat_natCast, Int.reduceToNat, if_pos, if_neg, true_and, and_true, and_self, eq_self, if_true, reduceIte, not_true_eq_false, not_false_eq_true, or_true, true_or, s72 hs, s65 hs, s68 hs, p72_0 hp, p65_4 hp, k2, k3, d1, e58', k_36 hs, cth]
  · have e1 : c54 f 72 (kK t i) (S, G, m) = c54_28 f 72 (kK t i) (S, G1, m) := by
      unfold c54
      have : ¬ (nBr st : Int) = 4 := by omega
      simp (disch := omega) only [cq_gi, cq_gr, cq_a, cq_s, cq_p, cq_pr, cq_is, cq_ar, cq_ab, cq_ln, xq_nz, Option.bind_some, xup2_n, xup2_s, Int.toNat_natCast, Int.reduceToNat, if_pos, if_neg, true_and, and_true, and_self, eq_self, if_true, reduceIte, not_true_eq_false, not_false_eq_true, or_true, true_or, s72 hs, d1, e58, this]
    have p2 := ky_38 (f := f) (m := m) (hh := hh) (c := 40) (by decide) y2
    unfold pNeed at p2
    by_cases c40 : kK t (i + 1) = 40
    · rw [if_pos c40] at p2
      rw [if_pos ⟨c40, c4⟩]
      obtain ⟨G2, b1, b2, b3, b4⟩ := p2
      have hp2 := b3.1.2.1
      obtain ⟨j1, j2, j3, j4⟩ := b3.1.tk b3.2.1
      have e2 : c54 f 72 (kK t i) (S, G, m) = if ¬ kK t (i + 1 + 1) = 2 then c54_147 f 72 (kK t i) (S, G2, m) else if kK t i = 11 then c54_62 f 72 (kK t i) (S, G2, m) else if ¬ kK t i = 10 then c54_147 f 72 (kK t i) (S, G2, m) else c54_62 f 72 (kK t i) (S, G2, m) := by
        rw [e1]
        unfold c54_28
        simp (disch := omega) only [cq_gi, cq_gr, cq_a, cq_s, cq_p, cq_pr, cq_is, cq_ar, cq_ab, cq_ln, xq_nz, Option.bind_some, xup2_n, xup2_s, Int.toNat_natCast, Int.reduceToNat, if_pos, if_neg, true_and, and_true, and_self, eq_self, if_true, reduceIte, not_true_eq_false, not_false_eq_true, or_true, true_or, s72 hs, s65 hs, s67 hs, p72_0 hp2, p65_3 hp2, j1, j3, b1, cth]
      show pok (if (kK t i = 10 ∨ kK t i = 11) ∧ kK t (i + 1 + 1) = 2 then _ else _) _ _
      by_cases cc : (kK t i = 10 ∨ kK t i = 11) ∧ kK t (i + 1 + 1) = 2
      · rw [if_pos cc]
        have e3 : c54 f 72 (kK t i) (S, G, m) = c54_62 f 72 (kK t i) (S, G2, m) := by
          rw [e2, if_neg (fun q => q cc.2)]
          by_cases q : kK t i = 11
          · rw [if_pos q]
          · rw [if_neg q, if_neg (by omega)]
        have p := k_54c (f := f) (m := m) (hh := hh) (N0 := N0) cc.1 hck b3 hK
        rw [e3]
        refine pok_m p ?_ ?_
        · rintro x ⟨G', q1, q2⟩
          exact ⟨G', q1, (y1.tr b2).tr q2⟩
        · rintro e ⟨G', C, q1, q2, q3, q4, q5, q6⟩
          exact ⟨G', C, q1, (y1.tr b2).tr q2, q3, q4, by omega, q6⟩
      · rw [if_neg cc]
        have e3 : c54 f 72 (kK t i) (S, G, m) = c54_147 f 72 (kK t i) (S, G2, m) := by
          rw [e2]
          by_cases q : kK t (i + 1 + 1) = 2
          · rw [if_neg (fun z => z q), if_neg (by omega), if_pos (by omega)]
          · rw [if_pos q]
        have p := k_54n (f := f) (m := m) (hh := hh) (N0 := N0) hg b3 hK
        rw [e3]
        refine pok_m p ?_ ?_
        · rintro x ⟨G', q1, q2⟩
          exact ⟨G', q1, (y1.tr b2).tr q2⟩
        · rintro e ⟨G', C, q1, q2, q3, q4, q5, q6⟩
          exact ⟨G', C, q1, (y1.tr b2).tr q2, q3, q4, by omega, q6⟩
    · rw [if_neg c40] at p2
      rw [if_neg (fun q => c40 q.1)]
      refine ⟨G1, ?_, y1⟩
      have p2' : c38 f 72 40 (S, G1, m) = _ := p2
      rw [e1]
      unfold c54_28
      simp (disch := omega) only [cq_gi, cq_gr, cq_a, cq_s, cq_p, cq_pr, cq_is, cq_ar, cq_ab, cq_ln, xq_nz, Option.bind_some, xup2_n, xup2_s, Int.toNat_natCast, Int.reduceToNat, if_pos, if_neg, true_and, and_true, and_self, eq_self, if_true, reduceIte, not_true_eq_false, not_false_eq_true, or_true, true_or, s72 hs, p2', cth]
end
end
