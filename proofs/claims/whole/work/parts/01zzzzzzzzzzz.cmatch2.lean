/-! THE CLASS: match() whole; hasNone(), rows that fit -/
def fitR (T : pCd) (lo hi : Int) (b : Nat) (vl : Nat → Int) (r : pRw) : Option (Nat × (Nat → Int)) := if lo ≤ r.2 ∧ r.2 ≤ hi then mtc T r.1 b vl else none
section
variable {f u x i l nv W cap st b : Nat} {S : Nat → Nat × Nat × Nat} {G G' : xG_} {m : Nat × Nat} {K T : pCd} {R : List pRw} {lo hi rk : Int} {vl : Nat → Int}
theorem st_136 (hs : cSs S) (hp : cPs G) (h6 : G 83 6 = (st : Int)) (hst : st < 9) (hb : G 87 st = (b : Int)) (xs : S x = (1, 5, 4)) (ds : S (x + 2) = (2, 3, cap)) (hi2 : i < cap) (w3 : G x 3 = ((x + 2 : Nat) : Int)) (hr : G (x + 2) i = rk) (hl : l < 8) (h85 : G 85 l = lo) (h86 : G 86 l = hi) : c136 f 83 (l : Int) x (i : Int) (S, G, m) = if lo ≤ rk ∧ rk ≤ hi then c136_46 f f 83 (l : Int) x (i : Int) (b : Int) 0 (S, G, m) else some (-1, (S, G, m)) := by
  by_cases q1 : lo ≤ rk
  · by_cases q2 : rk ≤ hi
    · rw [if_pos ⟨q1, q2⟩]
      unfold c136
      simp (disch := omega) only [cq_gi, cq_gr, cq_a, cq_s, cq_p, cq_pr, cq_is, cq_ar, cq_ab, cq_ln, xq_nz, Option.bind_some, xup2_n, xup2_s, Int.toNat_natCast, Int.reduceToNat, if_pos, if_neg, true_and, and_true, and_self, eq_self, if_true, reduceIte, not_true_eq_false, not_false_eq_true, or_true, true_or, s83 hs, s85 hs, s86 hs, s87 hs, p83_1 hp, p83_2 hp, p83_8 hp, h6, hb, xs, ds, w3, hr, h85, h86, q1, q2]
    · rw [if_neg (fun y => q2 y.2)]
      unfold c136 c136_41
      simp (disch := omega) only [cq_gi, cq_gr, cq_a, cq_s, cq_p, cq_pr, cq_is, cq_ar, cq_ab, cq_ln, xq_nz, Option.bind_some, xup2_n, xup2_s, Int.toNat_natCast, Int.reduceToNat, if_pos, if_neg, true_and, and_true, and_self, eq_self, if_true, reduceIte, not_true_eq_false, not_false_eq_true, or_true, true_or, s83 hs, s85 hs, s86 hs, s87 hs, p83_1 hp, p83_2 hp, p83_8 hp, h6, hb, xs, ds, w3, hr, h85, h86, q1, q2]
  · rw [if_neg (fun y => q1 y.1)]
    unfold c136 c136_41
    simp (disch := omega) only [cq_gi, cq_gr, cq_a, cq_s, cq_p, cq_pr, cq_is, cq_ar, cq_ab, cq_ln, xq_nz, Option.bind_some, xup2_n, xup2_s, Int.toNat_natCast, Int.reduceToNat, if_pos, if_neg, true_and, and_true, and_self, eq_self, if_true, reduceIte, not_true_eq_false, not_false_eq_true, or_true, true_or, s83 hs, s85 hs, s86 hs, s87 hs, p83_1 hp, p83_2 hp, p83_8 hp, h6, hb, xs, ds, w3, hr, h85, h86, q1]
/-- all that a step of the ways reads: a LITERAL l with TERMS T over rows R at x, at step st with mask b -/
def cLv (S : Nat → Nat × Nat × Nat) (G : xG_) (u x l st b nv W cap : Nat) (K T : pCd) (R : List pRw) (lo hi : Int) : Prop := cWy S G u K ∧ cTl1 G u l T ∧ cRw S G x W cap R ∧ 92 < x ∧ T.length = W ∧ (∀ y ∈ T, wT1 nv y) ∧ nv ≤ 8 ∧ G 83 6 = (st : Int) ∧ st < 8 ∧ G 87 st = (b : Int) ∧ b < 2 ^ 8 ∧ G 85 l = lo ∧ G 86 l = hi
theorem cLv.ge (h : cLv S G u x l st b nv W cap K T R lo hi) (hf : ∀ a j, a ≠ 84 → ¬ (a = 87 ∧ j = st + 1) → a ≠ 88 → a ≠ 89 → a ≠ 90 → a ≠ 91 → a ≠ 92 → ¬ (a = 83 ∧ j = 7) → G' a j = G a j) : cLv S G' u x l st b nv W cap K T R lo hi := by
  obtain ⟨h1, h2, h3, h4, h5, h6, h7, h8, h9, h10, h11, h12, h13⟩ := h
  have hu := h1.2.2.2.1
  have z : ∀ a j, 92 < a → G' a j = G a j := fun a j y => hf a j (by omega) (by omega) (by omega) (by omega) (by omega) (by omega) (by omega) (by omega)
  refine ⟨?_, h2.ge (fun a j _ _ => z a j (by omega)), h3.ge (fun _ _ _ => rfl) (fun j => z _ _ (by omega)) (fun j => z _ _ (by omega)) (fun j => z _ _ (by omega)), h4, h5, h6, h7, by rw [hf _ _ (by omega) (by omega) (by omega) (by omega) (by omega) (by omega) (by omega) (by omega)]; exact h8, h9, by rw [hf _ _ (by omega) (by omega) (by omega) (by omega) (by omega) (by omega) (by omega) (by omega)]; exact h10, h11, by rw [hf _ _ (by omega) (by omega) (by omega) (by omega) (by omega) (by omega) (by omega) (by omega)]; exact h12, by rw [hf _ _ (by omega) (by omega) (by omega) (by omega) (by omega) (by omega) (by omega) (by omega)]; exact h13⟩
  exact h1.ge (fun a j y1 y2 y3 y4 y5 y6 y7 y8 => hf a j y1 (fun y => y2 y.1) y3 y4 y5 y6 y7 (fun y => y8 ⟨y.1, .inr y.2⟩))
theorem k_136 (hf : 10 < f) (h : cLv S G u x l st b nv W cap K T R lo hi) (hi2 : i < R.length) (hv : ∀ k, k < 8 → G 84 k = vl k) : ∃ v G', c136 f 83 (l : Int) x (i : Int) (S, G, m) = some (v, (S, G', m)) ∧ (∀ a k, a ≠ 84 → G' a k = G a k) ∧ ((∃ b' vl', fitR T lo hi b vl (R.getD i dRw) = some (b', vl') ∧ v = ((b' : Nat) : Int) ∧ ∀ k, k < 8 → G' 84 k = vl' k) ∨ (v = -1 ∧ fitR T lo hi b vl (R.getD i dRw) = none ∧ ∀ k, b.testBit k = true → G' 84 k = G 84 k)) := by
  obtain ⟨h1, h2, h3, h4, h5, h6, h7, h8, h9, h10, h11, h12, h13⟩ := h
  obtain ⟨xs, _, ds, ⟨w0, w1, w2, w3⟩, hl, hcap, hW, hR⟩ := id h3
  have e := st_136 (f := f) (m := m) h1.1 h1.2.1 h8 (by omega) h10 xs ds (by omega : i < cap) w3 (hR i hi2).2.2 h2.1 h12 h13
  unfold fitR
  by_cases q : lo ≤ (R.getD i dRw).2 ∧ (R.getD i dRw).2 ≤ hi
  · rw [if_pos q] at e
    simp only [if_pos q]
    obtain ⟨v, G', g1, g2, g3⟩ := k_136l (f := f) (m := m) h6 h7 h5 hi2 T 0 f b G vl (List.drop_zero) (Nat.zero_le _) (by have := h2.2.2.1; omega) h1 h2 h3 h4 h11 hv
    rw [List.drop_zero] at g3
    exact ⟨v, G', e.trans g1, g2, g3⟩
  · rw [if_neg q] at e
    simp only [if_neg q]
    exact ⟨-1, G, e, fun _ _ _ => rfl, .inr ⟨rfl, trivial, fun _ _ => rfl⟩⟩
/-! what match() says -/
theorem mtc_ok {nv : Nat} : ∀ (T : pCd) (xs : List Int) (b : Nat) (v : Nat → Int) (b' : Nat) (v' : Nat → Int), (∀ y ∈ T, wT1 nv y) → T.length ≤ xs.length → mtc T xs b v = some (b', v') → b' = b ||| qT T ∧ (∀ k, b.testBit k = true → v' k = v k) ∧ sTs v' T xs ∧ ∀ k, (∀ t ∈ T, ¬ (t.1 = 1 ∧ t.2.toNat = k)) → v' k = v k
  | [], xs, b, v, b', v', _, _, h => by
    injection h with h
    injection h with h1 h2
    subst h1 h2
    exact ⟨by show b = b ||| 0; rw [Nat.or_zero], fun _ _ => rfl, fun k hk => absurd hk (Nat.not_lt_zero k), fun _ _ => rfl⟩
  | t :: T, xs, b, v, b', v', hw, hl, h => by
    obtain ⟨x, ys, rfl⟩ : ∃ x ys, xs = x :: ys := by
      match xs, hl with
      | x :: ys, _ => exact ⟨x, ys, rfl⟩
      | [], hl => simp at hl
    have hl' : T.length ≤ ys.length := by simpa using hl
    have hwT : ∀ y ∈ T, wT1 nv y := fun y hy => hw y (List.mem_cons_of_mem _ hy)
    have hq : qT (t :: T) = (if t.1 = 1 then 2 ^ t.2.toNat else 0) ||| qT T := rfl
    have up : ∀ {v' : Nat → Int}, sTs v' T ys → ((t.1 = 1 → v' t.2.toNat = x) ∧ (t.1 = 3 → t.2 = x)) → sTs v' (t :: T) (x :: ys) := fun hs hx k hk => by
      cases k with
      | zero => exact hx
      | succ k => exact hs k (by simpa using hk)
    have h' : (if t.1 = 3 then (if t.2 = x then mtc T ys b v else none) else if t.1 = 1 then (if b.testBit t.2.toNat = true ∧ v t.2.toNat ≠ x then none else mtc T ys (b ||| 2 ^ t.2.toNat) (fUpd v t.2.toNat x)) else mtc T ys b v) = some (b', v') := h
    by_cases c3 : t.1 = 3
    · rw [if_pos c3] at h'
      by_cases cx : t.2 = x
      · rw [if_pos cx] at h'
        obtain ⟨i1, i2, i3, i4⟩ := mtc_ok T ys b v b' v' hwT hl' h'
        refine ⟨by rw [i1, hq, if_neg (by omega), Nat.zero_or], i2, up i3 ⟨fun y => by omega, fun _ => cx⟩, fun k hk => i4 k (fun t' ht' => hk t' (List.mem_cons_of_mem _ ht'))⟩
      · rw [if_neg cx] at h'; cases h'
    · rw [if_neg c3] at h'
      by_cases c1 : t.1 = 1
      · rw [if_pos c1] at h'
        by_cases cb : b.testBit t.2.toNat = true ∧ v t.2.toNat ≠ x
        · rw [if_pos cb] at h'; cases h'
        · rw [if_neg cb] at h'
          obtain ⟨i1, i2, i3, i4⟩ := mtc_ok T ys (b ||| 2 ^ t.2.toNat) (fUpd v t.2.toNat x) b' v' hwT hl' h'
          have hx : v' t.2.toNat = x := by
            rw [i2 t.2.toNat (by rw [Nat.testBit_or, Nat.testBit_two_pow_self, Bool.or_true])]
            unfold fUpd
            rw [if_pos rfl]
          refine ⟨by rw [i1, hq, if_pos c1, Nat.or_assoc], fun k hk => ?_, up i3 ⟨fun _ => hx, fun y => absurd y c3⟩, fun k hk => ?_⟩
          · rw [i2 k (by rw [Nat.testBit_or, hk]; rfl)]
            unfold fUpd
            by_cases ck : k = t.2.toNat
            · rw [if_pos ck]
              subst ck
              exact (Classical.byContradiction (fun y => cb ⟨hk, y⟩) : v t.2.toNat = x).symm
            · rw [if_neg ck]
          · rw [i4 k (fun t' ht' => hk t' (List.mem_cons_of_mem _ ht'))]
            unfold fUpd
            rw [if_neg (fun y => hk t List.mem_cons_self ⟨c1, y.symm⟩)]
      · rw [if_neg c1] at h'
        obtain ⟨i1, i2, i3, i4⟩ := mtc_ok T ys b v b' v' hwT hl' h'
        exact ⟨by rw [i1, hq, if_neg c1, Nat.zero_or], i2, up i3 ⟨fun y => absurd y c1, fun y => absurd y c3⟩, fun k hk => i4 k (fun t' ht' => hk t' (List.mem_cons_of_mem _ ht'))⟩
/-- a row fits where some values let it -/
theorem mtc_some {nv : Nat} {w : Nat → Int} : ∀ (T : pCd) (xs : List Int) (b : Nat) (v : Nat → Int), (∀ y ∈ T, wT1 nv y) → T.length ≤ xs.length → (∀ k, b.testBit k = true → w k = v k) → sTs w T xs → ∃ b' v', mtc T xs b v = some (b', v') ∧ ∀ k, b'.testBit k = true → v' k = w k
  | [], xs, b, v, _, _, hx, _ => ⟨b, v, rfl, fun k hk => (hx k hk).symm⟩
  | t :: T, xs, b, v, hw, hl, hx, hs => by
    obtain ⟨x, ys, rfl⟩ : ∃ x ys, xs = x :: ys := by
      match xs, hl with
      | x :: ys, _ => exact ⟨x, ys, rfl⟩
      | [], hl => simp at hl
    have hl' : T.length ≤ ys.length := by simpa using hl
    have hwT : ∀ y ∈ T, wT1 nv y := fun y hy => hw y (List.mem_cons_of_mem _ hy)
    have hs' : sTs w T ys := fun k hk => hs (k + 1) (by simpa using hk)
    have h0 := hs 0 (Nat.succ_pos _)
    have h01 : t.1 = 1 → w t.2.toNat = x := h0.1
    have h03 : t.1 = 3 → t.2 = x := h0.2
    have e : mtc (t :: T) (x :: ys) b v = (if t.1 = 3 then (if t.2 = x then mtc T ys b v else none) else if t.1 = 1 then (if b.testBit t.2.toNat = true ∧ v t.2.toNat ≠ x then none else mtc T ys (b ||| 2 ^ t.2.toNat) (fUpd v t.2.toNat x)) else mtc T ys b v) := rfl
    rw [e]
    by_cases c3 : t.1 = 3
    · rw [if_pos c3, if_pos (h03 c3)]
      exact mtc_some T ys b v hwT hl' hx hs'
    · rw [if_neg c3]
      by_cases c1 : t.1 = 1
      · rw [if_pos c1, if_neg (fun y => y.2 (by rw [← hx _ y.1, h01 c1]))]
        refine mtc_some T ys _ _ hwT hl' (fun k hk => ?_) hs'
        unfold fUpd
        by_cases ck : k = t.2.toNat
        · rw [if_pos ck, ck, h01 c1]
        · rw [if_neg ck]
          refine hx k ?_
          rw [Nat.testBit_or, Nat.testBit_two_pow_of_ne (fun y => ck y.symm), Bool.or_false] at hk
          exact hk
      · rw [if_neg c1]
        exact mtc_some T ys b v hwT hl' hx hs'
end
