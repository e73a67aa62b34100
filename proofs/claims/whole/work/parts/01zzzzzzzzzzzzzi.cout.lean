/-! THE CLASS: outcome(), the rows behind a round -/
section
variable {f q nx qo mp rp p x y r n : Nat} {S S' : Nat → Nat × Nat × Nat} {G G' G1 : xG_} {m m' : Nat × Nat} {s : pPg} {xp cp yp ap : Nat → Nat} {R A : Nat → List pRw} {ch : Nat} {tk mv d v : Int} {b : Bool} {np mn : Nat} {r17 r161 : Nat → Nat → Int → Nat → Int → Int → xT_ → Option (Nat × xT_)} {T : xT_}
theorem cSs.al {B : Nat} (h : cSs S) (hB : 279 ≤ B) (hS : ∀ a, a < B → S' a = S a) : cSs S' := fun k hk => by rw [hS _ (by omega)]; exact h k hk
theorem cPs.al {B : Nat} (h : cPs G) (hB : 279 ≤ B) (hG : ∀ a j, a < B → G' a j = G a j) : cPs G' := h.ge (fun a j hz => hG a j (by
  rcases hz with z | z | z | z | z | z | z | ⟨z, z1, z2, k, z3⟩ | z | z | z | ⟨k, z1, z2, z3⟩ <;> omega))
theorem cWk.al (h : cWk S G q nx s xp cp R) (hn : 279 ≤ nx) (hS : ∀ a, a < nx → S' a = S a) (hG : ∀ a j, a < nx → G' a j = G a j) : cWk S' G' q nx s xp cp R := by
  obtain ⟨⟨a1, a2, a3, a4, a5, a6⟩, b⟩ := h
  have hnp : s.1.length ≤ 16 := a6.1.1.1
  refine ⟨⟨a1.al hn hS, a2.al hn hG, by rw [hG _ _ (by omega)]; exact a3, a4, a5.ge (Nat.le_refl _) hS (fun a j _ y => hG a j y), a6⟩, fun p hp => ?_⟩
  obtain ⟨b1, b2, b3, b4⟩ := b p hp
  have hx : xp p + 2 < nx := by omega
  exact ⟨by rw [hG _ _ (by omega)]; exact b1, b2, b3.ge (fun b _ _ => hS b (by omega)) (fun j => hG _ _ (by omega)) (fun j => hG _ _ (by omega)) (fun j => hG _ _ (by omega)), b4⟩
theorem cAh.al (h : cAh S G nx s yp ap A) (hn : 279 ≤ nx) (hS : ∀ a, a < nx → S' a = S a) (hG : ∀ a j, a < nx → G' a j = G a j) : cAh S' G' nx s yp ap A := fun p hp => by
  obtain ⟨a1, a2, a3⟩ := h p hp
  exact ⟨by rw [hG _ _ (by omega)]; exact a1, a2, a3.ge (fun b _ _ => hS b (by omega)) (fun j => hG _ _ (by omega)) (fun j => hG _ _ (by omega)) (fun j => hG _ _ (by omega))⟩
theorem st_17z (hs : cSs S) (h1 : G 93 1 = (q : Int)) (qs : S q = (1, 3, 14)) (hn : G q 1 = (np : Int)) : c162_17b r17 f 93 mp tk rp mv (np : Int) (S, G, m) = c162_161 f f 93 mp tk rp mv 0 (S, G, m) := by
  unfold c162_17b
  simp (disch := omega) only [cq_gi, cq_gr, cq_a, cq_s, cq_p, cq_pr, cq_is, cq_ar, cq_ab, cq_ln, xq_nz, Option.bind_some, xup2_n, xup2_s, Int.toNat_natCast, Int.reduceToNat, if_pos, if_neg, true_and, and_true, and_self, eq_self, if_true, reduceIte, not_true_eq_false, not_false_eq_true, or_true, true_or, s93 hs, h1, qs, hn]
theorem st_17c (hs : cSs S) (h1 : G 93 1 = (q : Int)) (qs : S q = (1, 3, 14)) (hn : G q 1 = (np : Int)) (hp : p < np) (hn16 : np ≤ 16) (h13 : G 93 13 = (ch : Int)) (hch : ch < 2 ^ 16) (hb : ch.testBit p = true) : c162_17b r17 f 93 mp tk rp mv (p : Int) (S, G, m) = c162_66 r17 f 93 mp tk rp mv (p : Int) 0 (S, G, m) := by
  have eb : ¬ xand (xshr (ch : Int) (p : Int)) 1 = 0 := fun y => by rw [(xbit0 (by omega) (by omega)).mp y] at hb; cases hb
  unfold c162_17b c162_65
  simp (disch := omega) only [cq_gi, cq_gr, cq_a, cq_s, cq_p, cq_pr, cq_is, cq_ar, cq_ab, cq_ln, xq_nz, Option.bind_some, xup2_n, xup2_s, Int.toNat_natCast, Int.reduceToNat, if_pos, if_neg, true_and, and_true, and_self, eq_self, if_true, reduceIte, not_true_eq_false, not_false_eq_true, or_true, true_or, s93 hs, h1, qs, hn, h13, eb]
theorem st_17r (hs : cSs S) (hpp : cPs G) (h1 : G 93 1 = (q : Int)) (qs : S q = (1, 3, 14)) (hn : G q 1 = (np : Int)) (hp : p < np) (hn16 : np ≤ 16) (h13 : G 93 13 = (ch : Int)) (hch : ch < 2 ^ 16) (hb : ch.testBit p = false) (h94 : G 94 p = (x : Int)) (h95 : G 95 p = (y : Int)) (xs : S x = (1, 5, 4)) (e : c82 f x y (S, G, m) = some (b01 b, (S, G, m))) : c162_17b r17 f 93 mp tk rp mv (p : Int) (S, G, m) = c162_66 r17 f 93 mp tk rp mv (p : Int) (b01 b) (S, G, m) := by
  have eb : xand (xshr (ch : Int) (p : Int)) 1 = 0 := (xbit0 (by omega) (by omega)).mpr hb
  cases b with
  | false =>
    have e0 : b01 false = 0 := rfl
    rw [e0] at e ⊢
    unfold c162_17b c162_65
    simp (disch := omega) only [cq_gi, cq_gr, cq_a, cq_s, cq_p, cq_pr, cq_is, cq_ar, cq_ab, cq_ln, xq_nz, Option.bind_some, xup2_n, xup2_s, Int.toNat_natCast, Int.reduceToNat, if_pos, if_neg, true_and, and_true, and_self, eq_self, if_true, reduceIte, not_true_eq_false, not_false_eq_true, or_true, true_or, s93 hs, s94 hs, s95 hs, p93_2 hpp, p93_3 hpp, h1, qs, hn, h13, eb, h94, h95, xs, e]
  | true =>
    have e0 : b01 true = 1 := rfl
    rw [e0] at e ⊢
    unfold c162_17b
    simp (disch := omega) only [cq_gi, cq_gr, cq_a, cq_s, cq_p, cq_pr, cq_is, cq_ar, cq_ab, cq_ln, xq_nz, Option.bind_some, xup2_n, xup2_s, Int.toNat_natCast, Int.reduceToNat, if_pos, if_neg, true_and, and_true, and_self, eq_self, if_true, reduceIte, not_true_eq_false, not_false_eq_true, or_true, true_or, s93 hs, s94 hs, s95 hs, p93_2 hpp, p93_3 hpp, h1, qs, hn, h13, eb, h94, h95, xs, e, Int.reduceEq]
theorem st_66f (hs : cSs S) (hpp : cPs G) (hp16 : p < 16) (h94 : G 94 p = ((108 + 6 * p : Nat) : Int)) (e : c80 f (108 + 6 * p) (S, G, m) = some (r, T)) : c162_66 r17 f 93 mp tk rp mv (p : Int) 0 (S, G, m) = c162_123 r17 f 93 mp tk rp mv (p : Int) 0 r (p : Int) rp T := by
  have hm : G 96 p = ((108 + 6 * p : Nat) : Int) := p_md hpp hp16
  have sm : S (108 + 6 * p) = (1, 5, 4) := (s_mk hs hp16).1
  have h64 : 64 ≤ 108 + 6 * p := by omega
  unfold c162_66
  simp (disch := omega) only [cq_gi, cq_gr, cq_a, cq_s, cq_p, cq_pr, cq_is, cq_ar, cq_ab, cq_ln, xq_nz, Option.bind_some, xup2_n, xup2_s, Int.toNat_natCast, Int.reduceToNat, if_pos, if_neg, true_and, and_true, and_self, eq_self, if_true, reduceIte, not_true_eq_false, not_false_eq_true, or_true, true_or, s93 hs, s94 hs, s96 hs, p93_2 hpp, p93_4 hpp, h94, hm, sm, e, h64]
theorem st_66k (hs : cSs S) (hpp : cPs G) (hp16 : p < 16) (h94 : G 94 p = (x : Int)) (hx : 203 < x) : c162_66 r17 f 93 mp tk rp mv (p : Int) 0 (S, G, m) = c162_123 r17 f 93 mp tk rp mv (p : Int) 0 x (p : Int) rp (S, G, m) := by
  have hm : G 96 p = ((108 + 6 * p : Nat) : Int) := p_md hpp hp16
  have h64 : 64 ≤ 108 + 6 * p := by omega
  have h64' : 64 ≤ x := by omega
  have hne : ¬ x = 108 + 6 * p := by omega
  unfold c162_66
  simp (disch := omega) only [cq_gi, cq_gr, cq_a, cq_s, cq_p, cq_pr, cq_is, cq_ar, cq_ab, cq_ln, xq_nz, Option.bind_some, xup2_n, xup2_s, Int.toNat_natCast, Int.reduceToNat, if_pos, if_neg, true_and, and_true, and_self, eq_self, if_true, reduceIte, not_true_eq_false, not_false_eq_true, or_true, true_or, s93 hs, s94 hs, s96 hs, p93_2 hpp, p93_4 hpp, h94, hm, h64, h64', hne]
theorem st_66s (hs : cSs S) (hpp : cPs G) (hp16 : p < 16) (h95 : G 95 p = (y : Int)) : c162_66 r17 f 93 mp tk rp mv (p : Int) 1 (S, G, m) = c162_123 r17 f 93 mp tk rp mv (p : Int) 1 y (p : Int) rp (S, G, m) := by
  have h10 : ¬ (1 : Int) = 0 := by decide
  unfold c162_66
  simp (disch := omega) only [cq_gi, cq_gr, cq_a, cq_s, cq_p, cq_pr, cq_is, cq_ar, cq_ab, cq_ln, xq_nz, Option.bind_some, xup2_n, xup2_s, Int.toNat_natCast, Int.reduceToNat, if_pos, if_neg, true_and, and_true, and_self, eq_self, if_true, reduceIte, not_true_eq_false, not_false_eq_true, or_true, true_or, s93 hs, s95 hs, p93_3 hpp, h95, h10]
theorem sr_rp (rs : S rp = (2, 10, np)) (hp : p < np) (xs : S r = (1, 5, 4)) : cq_sr rp (p : Int) r (S, G, m) = some (S, xup2 G rp p (r : Int), m) := by
  unfold cq_sr
  simp only [rs, xs]
  rw [if_pos ⟨trivial, by decide, by omega, by omega, .inr ⟨trivial, trivial⟩⟩, Int.toNat_natCast]
theorem st_123d (hs : cSs S) (hpp : cPs G) (hrp : 278 < rp) (rs : S rp = (2, 10, np)) (hp : p < np) (hn16 : np ≤ 16) (xs : S r = (1, 5, 4)) (h95 : G 95 p = (y : Int)) (e : c83 f r y (S, xup2 G rp p (r : Int), m) = some (d, (S, xup2 G rp p (r : Int), m))) (em : xwr (mv + d) = v) (ep : xwr ((p : Int) + 1) = ((p + 1 : Nat) : Int)) : c162_123 r17 f 93 mp tk rp mv (p : Int) 0 r (p : Int) rp (S, G, m) = r17 93 mp tk rp v ((p + 1 : Nat) : Int) (S, xup2 G rp p (r : Int), m) := by
  unfold c162_123 c162_149
  simp (disch := omega) only [cq_gi, cq_gr, cq_a, cq_s, cq_p, cq_pr, cq_is, cq_ar, cq_ab, cq_ln, xq_nz, Option.bind_some, xup2_n, xup2_s, Int.toNat_natCast, Int.reduceToNat, if_pos, if_neg, true_and, and_true, and_self, eq_self, if_true, reduceIte, not_true_eq_false, not_false_eq_true, or_true, true_or, s93 hs, s95 hs, p93_3 hpp, sr_rp rs hp xs, rs, xs, h95, e, em, ep, Nat.reduceLeDiff]
theorem st_123s (rs : S rp = (2, 10, np)) (hp : p < np) (xs : S r = (1, 5, 4)) (em : xwr (mv + 0) = mv) (ep : xwr ((p : Int) + 1) = ((p + 1 : Nat) : Int)) : c162_123 r17 f 93 mp tk rp mv (p : Int) 1 r (p : Int) rp (S, G, m) = r17 93 mp tk rp mv ((p + 1 : Nat) : Int) (S, xup2 G rp p (r : Int), m) := by
  have h10 : ¬ (1 : Int) = 0 := by decide
  unfold c162_123 c162_149
  simp (disch := omega) only [cq_gi, cq_gr, cq_a, cq_s, cq_p, cq_pr, cq_is, cq_ar, cq_ab, cq_ln, xq_nz, Option.bind_some, xup2_n, xup2_s, Int.toNat_natCast, Int.reduceToNat, if_pos, if_neg, true_and, and_true, and_self, eq_self, if_true, reduceIte, not_true_eq_false, not_false_eq_true, or_true, true_or, sr_rp rs hp xs, em, ep, h10]
end
theorem eq_of_vr {R A : List pRw} (h : vEq R A) (hr : ∀ i, i < R.length → i < A.length ∧ (R.getD i dRw).2 = (A.getD i dRw).2) : R = A := by
  have hl : R.length = A.length := by
    have := congrArg List.length h
    rw [List.length_map, List.length_map] at this
    exact this
  refine List.ext_getElem hl (fun i h1 h2 => Prod.ext ?_ ?_)
  · have := List.getElem_of_eq h (i := i) (by rw [List.length_map]; exact h1)
    rw [List.getElem_map, List.getElem_map] at this
    exact this
  · have := (hr i h1).2
    rw [getD_e h1, getD_e h2] at this
    exact this
theorem dfN_self {R : List pRw} : dfN R R = 0 := by
  unfold dfN
  have : R.countP (fun r => ! hasV R r.1) = 0 := List.countP_eq_zero.mpr (fun r hr => by
    rw [hasV_t.mpr ⟨r, hr, rfl⟩]; decide)
  rw [this]
theorem dfN_le {R R2 : List pRw} : dfN R R2 ≤ R.length + R2.length := by
  unfold dfN
  have := List.countP_le_length (p := fun r : pRw => ! hasV R2 r.1) (l := R)
  have := List.countP_le_length (p := fun r : pRw => ! hasV R r.1) (l := R2)
  omega
/-- rows that came or went, all predicates -/
def dfS (R A : Nat → List pRw) : Nat → Nat
  | 0 => 0
  | p + 1 => dfS R A p + dfN (R p) (A p)
section
variable {f q nx mp rp B : Nat} {s : pPg} {xp cp yp ap : Nat → Nat} {R A : Nat → List pRw} {ch : Nat} {tk : Int}
theorem k_162i (hf : 600 < f) (hn : 279 ≤ nx) (hrp : nx ≤ rp) (hch : ch < 2 ^ 16) (hcb : ∀ j, j < s.1.length → (ch.testBit j = true ↔ ¬ vEq (R j) (A j))) (hA1 : ∀ j, j < s.1.length → (A j).Pairwise rwLt ∧ (A j).length ≤ 100) :
    ∀ (d p fu : Nat) (S : Nat → Nat × Nat × Nat) (G : xG_) (B sl : Nat), p + d = s.1.length → d < fu → cWk S G q nx s xp cp R → cAh S G nx s yp ap A → G 93 13 = (ch : Int) → rp < B → S rp = (2, 10, s.1.length) → (∀ j, j < p → ∃ x c : Nat, G rp j = (x : Int) ∧ (203 < x ∧ x + 2 < B) ∧ x ≠ rp ∧ x + 1 ≠ rp ∧ x + 2 ≠ rp ∧ cRw S G x (qN s j) c (R j) ∧ (nx ≤ x ∨ x = yp j ∨ x = xp j ∧ 203 < xp j)) →
      ∃ S' G' B' sl', c162_17 f fu 93 mp tk rp ((dfS R A p : Nat) : Int) (p : Int) (S, G, (B, sl)) = c162_161 f f 93 mp tk rp ((dfS R A s.1.length : Nat) : Int) 0 (S', G', (B', sl')) ∧ (∀ a, a < B → S' a = S a) ∧ (∀ a j, a < B → a ≠ rp → G' a j = G a j) ∧ B ≤ B' ∧ B' ≤ B + 3 * d ∧ sl ≤ sl' ∧ sl' ≤ sl + 504 * d ∧ S' rp = (2, 10, s.1.length) ∧ ∀ j, j < s.1.length → ∃ x c : Nat, G' rp j = (x : Int) ∧ (203 < x ∧ x + 2 < B') ∧ x ≠ rp ∧ x + 1 ≠ rp ∧ x + 2 ≠ rp ∧ cRw S' G' x (qN s j) c (R j) ∧ (nx ≤ x ∨ x = yp j ∨ x = xp j ∧ 203 < xp j) := by
  intro d
  induction d with
  | zero =>
    intro p fu S G B sl e1 e2 h hA h13 hB hrs hD
    obtain ⟨fu, rfl⟩ : ∃ t, fu = t + 1 := ⟨fu - 1, by omega⟩
    have e : p = s.1.length := by omega
    subst e
    exact ⟨S, G, B, sl, st_17z (r17 := c162_17 f fu) h.1.1 h.1.2.2.1 h.1.2.2.2.2.1.1.1 h.1.2.2.2.2.1.2.2.1.1, fun _ _ => rfl, fun _ _ _ _ => rfl, Nat.le_refl _, by omega, Nat.le_refl _, by omega, hrs, hD⟩
  | succ d ih =>
    intro p fu S G B sl e1 e2 h hA h13 hB hrs hD
    obtain ⟨fu, rfl⟩ : ∃ t, fu = t + 1 := ⟨fu - 1, by omega⟩
    obtain ⟨⟨a1, a2, a3, a4, a5, a6⟩, b⟩ := id h
    have hnp : s.1.length ≤ 16 := a6.1.1.1
    have hp : p < s.1.length := by omega
    have ep : xwr ((p : Int) + 1) = ((p + 1 : Nat) : Int) := by rw [xwr_g _ (by omega) (by omega)]; omega
    obtain ⟨b1, b2, b3, b4, b5, b6, b7⟩ := b p hp
    obtain ⟨c1, c2, c3⟩ := hA p hp
    obtain ⟨hAs, hAl⟩ := hA1 p hp
    have hW := (qN_c a6.1.1 p).2
    have hmv : dfS R A p ≤ 200 * p := by
      have key : ∀ k, k ≤ p → dfS R A k ≤ 200 * k := by
        intro k
        induction k with
        | zero => intro _; exact Nat.le_refl _
        | succ k ihk =>
          intro hk
          have h1 := ihk (by omega)
          have h2 := dfN_le (R := R k) (R2 := A k)
          have h3 := (b k (by omega)).2.2.2.2.1
          have h4 := (hA1 k (by omega)).2
          show dfS R A k + dfN (R k) (A k) ≤ _
          omega
      exact key p (Nat.le_refl _)
    have hdn := dfN_le (R := R p) (R2 := A p)
    -- one row array is put in
    have main : ∀ (S1 : Nat → Nat × Nat × Nat) (G1 : xG_) (B1 sl1 x c : Nat), (∀ a, a < B → S1 a = S a) → (∀ a j, a < B → G1 a j = G a j) → B ≤ B1 → B1 ≤ B + 3 → sl ≤ sl1 → sl1 ≤ sl + 504 → (203 < x ∧ x + 2 < B1) → x ≠ rp → x + 1 ≠ rp → x + 2 ≠ rp → cRw S1 G1 x (qN s p) c (R p) → (nx ≤ x ∨ x = yp p ∨ x = xp p ∧ 203 < xp p) → c162_17 f (fu + 1) 93 mp tk rp ((dfS R A p : Nat) : Int) (p : Int) (S, G, (B, sl)) = c162_17 f fu 93 mp tk rp ((dfS R A (p + 1) : Nat) : Int) ((p + 1 : Nat) : Int) (S1, xup2 G1 rp p (x : Int), (B1, sl1)) → ∃ S' G' B' sl', c162_17 f (fu + 1) 93 mp tk rp ((dfS R A p : Nat) : Int) (p : Int) (S, G, (B, sl)) = c162_161 f f 93 mp tk rp ((dfS R A s.1.length : Nat) : Int) 0 (S', G', (B', sl')) ∧ (∀ a, a < B → S' a = S a) ∧ (∀ a j, a < B → a ≠ rp → G' a j = G a j) ∧ B ≤ B' ∧ B' ≤ B + 3 * (d + 1) ∧ sl ≤ sl' ∧ sl' ≤ sl + 504 * (d + 1) ∧ S' rp = (2, 10, s.1.length) ∧ ∀ j, j < s.1.length → ∃ x c : Nat, G' rp j = (x : Int) ∧ (203 < x ∧ x + 2 < B') ∧ x ≠ rp ∧ x + 1 ≠ rp ∧ x + 2 ≠ rp ∧ cRw S' G' x (qN s j) c (R j) ∧ (nx ≤ x ∨ x = yp j ∨ x = xp j ∧ 203 < xp j) := by
      intro S1 G1 B1 sl1 x c q1 q2 q3 q4 q5 q6 q7 q8 q9 q10 q11 qo st
      have z : ∀ a j, a < B → a ≠ rp → xup2 G1 rp p (x : Int) a j = G a j := fun a j y1 y2 => by rw [xup2_n (by omega), q2 a j y1]
      obtain ⟨S2, G2, B2, sl2, i1, i2, i3, i4, i5, i6, i7, i8, i9⟩ := ih (p + 1) fu S1 (xup2 G1 rp p (x : Int)) B1 sl1 (by omega) (by omega) (h.al hn (fun a y => q1 a (by omega)) (fun a j y => z a j (by omega) (by omega))) (hA.al hn (fun a y => q1 a (by omega)) (fun a j y => z a j (by omega) (by omega))) (by rw [z _ _ (by omega) (by omega)]; exact h13) (by omega) (by rw [q1 _ hB]; exact hrs) (fun j hj => by
        by_cases cj : j = p
        · subst cj
          exact ⟨x, c, xup2_s _ _ _ _, q7, q8, q9, q10, q11.ge (fun _ _ _ => rfl) (fun i => xup2_n (by omega)) (fun i => xup2_n (by omega)) (fun i => xup2_n (by omega)), qo⟩
        · obtain ⟨x', c', y1, y2, y3, y4, y5, y6, y7⟩ := hD j (by omega)
          exact ⟨x', c', by rw [xup2_n (by omega), q2 _ _ hB]; exact y1, ⟨y2.1, by omega⟩, y3, y4, y5, y6.ge (fun b _ _ => q1 b (by omega)) (fun i => z _ _ (by omega) (by omega)) (fun i => z _ _ (by omega) (by omega)) (fun i => z _ _ (by omega) (by omega)), y7⟩)
      exact ⟨S2, G2, B2, sl2, st.trans i1, fun a y => by rw [i2 a (by omega), q1 a y], fun a j y1 y2 => by rw [i3 a j (by omega) y2, z a j y1 y2], by omega, by omega, by omega, by omega, i8, i9⟩
    -- the rows are other ones
    have other : c162_17 f (fu + 1) 93 mp tk rp ((dfS R A p : Nat) : Int) (p : Int) (S, G, (B, sl)) = c162_66 (c162_17 f fu) f 93 mp tk rp ((dfS R A p : Nat) : Int) (p : Int) 0 (S, G, (B, sl)) → ∃ S' G' B' sl', c162_17 f (fu + 1) 93 mp tk rp ((dfS R A p : Nat) : Int) (p : Int) (S, G, (B, sl)) = c162_161 f f 93 mp tk rp ((dfS R A s.1.length : Nat) : Int) 0 (S', G', (B', sl')) ∧ (∀ a, a < B → S' a = S a) ∧ (∀ a j, a < B → a ≠ rp → G' a j = G a j) ∧ B ≤ B' ∧ B' ≤ B + 3 * (d + 1) ∧ sl ≤ sl' ∧ sl' ≤ sl + 504 * (d + 1) ∧ S' rp = (2, 10, s.1.length) ∧ ∀ j, j < s.1.length → ∃ x c : Nat, G' rp j = (x : Int) ∧ (203 < x ∧ x + 2 < B') ∧ x ≠ rp ∧ x + 1 ≠ rp ∧ x + 2 ≠ rp ∧ cRw S' G' x (qN s j) c (R j) ∧ (nx ≤ x ∨ x = yp j ∨ x = xp j ∧ 203 < xp j) := fun st => by
      have go : ∀ (S1 : Nat → Nat × Nat × Nat) (G1 : xG_) (B1 sl1 x c : Nat), (∀ a, a < B → S1 a = S a) → (∀ a j, a < B → G1 a j = G a j) → x ≠ rp → x + 1 ≠ rp → x + 2 ≠ rp → cRw S1 G1 x (qN s p) c (R p) → c162_123 (c162_17 f fu) f 93 mp tk rp ((dfS R A p : Nat) : Int) (p : Int) 0 x (p : Int) rp (S1, G1, (B1, sl1)) = c162_17 f fu 93 mp tk rp ((dfS R A (p + 1) : Nat) : Int) ((p + 1 : Nat) : Int) (S1, xup2 G1 rp p (x : Int), (B1, sl1)) := fun S1 G1 B1 sl1 x c q1 q2 q8 q9 q10 q11 => by
        have s1 : cSs S1 := a1.al hn (fun a y => q1 a (by omega))
        have p1 : cPs G1 := a2.al hn (fun a j y => q2 a j (by omega))
        have hy := c3.ge (S' := S1) (G' := xup2 G1 rp p (x : Int)) (fun b _ _ => q1 b (by omega)) (fun j => by rw [xup2_n (by omega), q2 _ _ (by omega)]) (fun j => by rw [xup2_n (by omega), q2 _ _ (by omega)]) (fun j => by rw [xup2_n (by omega), q2 _ _ (by omega)])
        have e83 := k_83 (f := f) (m := (B1, sl1)) hf (q11.ge (G' := xup2 G1 rp p (x : Int)) (fun _ _ _ => rfl) (fun i => xup2_n (by omega)) (fun i => xup2_n (by omega)) (fun i => xup2_n (by omega))) hy b4 hAs
        exact st_123d s1 p1 (by omega) (by rw [q1 _ hB]; exact hrs) hp hnp q11.1 (by rw [q2 _ _ (by omega)]; exact c1) e83 (by
          rw [xwr_g _ (by omega) (by omega)]
          show _ = ((dfS R A p + dfN (R p) (A p) : Nat) : Int)
          omega) ep
      rcases b2 with e | ⟨e, e'⟩
      · rw [e] at b3 b1
        obtain ⟨S1, G1, k1, k2, k3, k4⟩ := k_80f (f := f) (A := B) (sl := sl) (by omega) b3
        have st2 := st.trans (st_66f (mp := mp) (rp := rp) (tk := tk) (mv := ((dfS R A p : Nat) : Int)) (r17 := c162_17 f fu) a1 a2 (by omega : p < 16) b1 k1)
        have hmul : qN s p * (R p).length ≤ 4 * 100 := Nat.mul_le_mul hW b5
        exact main S1 G1 (B + 3) _ B _ k2 k3 (by omega) (by omega) (by omega) (by omega) ⟨by omega, by omega⟩ (by omega) (by omega) (by omega) k4 (.inl (by omega)) (st2.trans (go S1 G1 _ _ B _ k2 k3 (by omega) (by omega) (by omega) k4))
      · have st2 := st.trans (st_66k (mp := mp) (rp := rp) (tk := tk) (mv := ((dfS R A p : Nat) : Int)) (r17 := c162_17 f fu) a1 a2 (by omega : p < 16) b1 e)
        exact main S G B sl (xp p) (cp p) (fun _ _ => rfl) (fun _ _ _ => rfl) (Nat.le_refl _) (by omega) (Nat.le_refl _) (by omega) ⟨e, by omega⟩ (by omega) (by omega) (by omega) b3 (.inr (.inr ⟨rfl, e⟩)) (st2.trans (go S G _ _ (xp p) (cp p) (fun _ _ => rfl) (fun _ _ _ => rfl) (by omega) (by omega) (by omega) b3))
    cases hbt : ch.testBit p with
    | true => exact other (st_17c (r17 := c162_17 f fu) a1 a3 a5.1.1 a5.2.2.1.1 hp hnp h13 hch hbt)
    | false =>
      obtain ⟨bb, k1, k2⟩ := k_82 (f := f) (m := (B, sl)) hf b3 c3
      have st : c162_17 f (fu + 1) 93 mp tk rp ((dfS R A p : Nat) : Int) (p : Int) (S, G, (B, sl)) = _ := st_17r (r17 := c162_17 f fu) a1 a2 a3 a5.1.1 a5.2.2.1.1 hp hnp h13 hch hbt b1 c1 b3.1 k1
      cases bb with
      | false => exact other st
      | true =>
        have hv : vEq (R p) (A p) := Classical.byContradiction (fun q => by rw [(hcb p hp).mpr q] at hbt; cases hbt)
        have eRA : R p = A p := eq_of_vr hv (k2.mp rfl)
        have st2 := st.trans ((st_66s (mp := mp) (rp := rp) (tk := tk) (mv := ((dfS R A p : Nat) : Int)) (r17 := c162_17 f fu) a1 a2 (by omega : p < 16) c1).trans (st_123s hrs hp c3.1 (by rw [xwr_g _ (by omega) (by omega)]; omega) ep))
        have e0 : dfS R A (p + 1) = dfS R A p := by
          show dfS R A p + dfN (R p) (A p) = _
          rw [eRA, dfN_self]; rfl
        exact main S G B sl (yp p) (ap p) (fun _ _ => rfl) (fun _ _ _ => rfl) (Nat.le_refl _) (by omega) (Nat.le_refl _) (by omega) ⟨c2.1, by omega⟩ (by omega) (by omega) (by omega) (by rw [eRA]; exact c3) (.inr (.inl rfl)) (by rw [e0]; exact st2)
end
