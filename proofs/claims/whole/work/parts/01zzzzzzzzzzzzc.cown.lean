/-! THE CLASS: isOwn(), leadersOf() -/
/-- an ATOM of the RING -/
def ownL (Ls : List pLt) (mb l : Nat) : Prop := (Ls.getD l dLt).1 = 1 ∧ mb.testBit (Ls.getD l dLt).2.1.toNat = true
section
variable {f u l mb p nl ow : Nat} {S : Nat → Nat × Nat × Nat} {G : xG_} {m : Nat × Nat} {K : pCd} {Ls : List pLt} {kd lv v : Int} {r6 : Nat → Int → Int → Int → Int → xT_ → Option (Int × xT_)}
theorem st_152n (us : S u = (1, 6, 20)) (us2 : S (u + 2) = (2, 3, 8)) (w9 : G u 9 = ((u + 2 : Nat) : Int)) (hl : l < 8) (hk : G (u + 2) l = kd) (hkd : kd ≠ 15) : c152 f u (l : Int) v (S, G, m) = some (0, (S, G, m)) := by
  unfold c152 c152_29 c152_30
  simp (disch := omega) only [cq_gi, cq_gr, cq_a, cq_s, cq_p, cq_pr, cq_is, cq_ar, cq_ab, cq_ln, xq_nz, Option.bind_some, xup2_n, xup2_s, Int.toNat_natCast, Int.reduceToNat, if_pos, if_neg, true_and, and_true, and_self, eq_self, if_true, reduceIte, not_true_eq_false, not_false_eq_true, or_true, true_or, us, us2, w9, hk, hkd]
theorem st_152y (us : S u = (1, 6, 20)) (us2 : S (u + 2) = (2, 3, 8)) (us3 : S (u + 3) = (2, 3, 8)) (w9 : G u 9 = ((u + 2 : Nat) : Int)) (w10 : G u 10 = ((u + 3 : Nat) : Int)) (hl : l < 8) (hk : G (u + 2) l = 15) (hp : G (u + 3) l = (p : Int)) (hp16 : p < 16) (hmb : mb < 2 ^ 16) : c152 f u (l : Int) (mb : Int) (S, G, m) = some (if mb.testBit p = true then 1 else 0, (S, G, m)) := by
  by_cases q : mb.testBit p = true
  · rw [if_pos q]
    have eb : xand (xshr (mb : Int) (p : Int)) 1 = 1 := (xbit (by omega) (by omega)).mpr q
    unfold c152 c152_30
    simp (disch := omega) only [cq_gi, cq_gr, cq_a, cq_s, cq_p, cq_pr, cq_is, cq_ar, cq_ab, cq_ln, xq_nz, Option.bind_some, xup2_n, xup2_s, Int.toNat_natCast, Int.reduceToNat, if_pos, if_neg, true_and, and_true, and_self, eq_self, if_true, reduceIte, not_true_eq_false, not_false_eq_true, or_true, true_or, us, us2, us3, w9, w10, hk, hp, eb, Int.reduceEq]
  · rw [if_neg q]
    have eb : ¬ xand (xshr (mb : Int) (p : Int)) 1 = 1 := fun y => q ((xbit (by omega) (by omega)).mp y)
    unfold c152 c152_29 c152_30
    simp (disch := omega) only [cq_gi, cq_gr, cq_a, cq_s, cq_p, cq_pr, cq_is, cq_ar, cq_ab, cq_ln, xq_nz, Option.bind_some, xup2_n, xup2_s, Int.toNat_natCast, Int.reduceToNat, if_pos, if_neg, true_and, and_true, and_self, eq_self, if_true, reduceIte, not_true_eq_false, not_false_eq_true, or_true, true_or, us, us2, us3, w9, w10, hk, hp, eb]
theorem k_152 (hR : cRq S G u K Ls) (hl : l < Ls.length) (hmb : mb < 2 ^ 16) (hw : (Ls.getD l dLt).1 = 1 → 0 ≤ (Ls.getD l dLt).2.1 ∧ (Ls.getD l dLt).2.1 < 16) : ∃ w : Int, c152 f u (l : Int) (mb : Int) (S, G, m) = some (w, (S, G, m)) ∧ (w = 0 ∨ w = 1) ∧ (w = 1 ↔ ownL Ls mb l) := by
  obtain ⟨⟨us, us1, us2, us3, _⟩, ⟨w7, w9, w10, _⟩, _, hls, hu, _⟩ := hR
  have hl8 := hls.2.1
  unfold ownL
  rcases hls.2.2 l hl with ⟨z1, z2, z3, _⟩ | ⟨z1, z2, z3, _⟩
  · have z1' : (Ls.getD l dLt).1 = 1 ∨ (Ls.getD l dLt).1 = 2 := z1
    have z2' : G (u + 2) l = (if (Ls.getD l dLt).1 = 1 then 15 else 9) := z2
    have z3' : G (u + 3) l = (Ls.getD l dLt).2.1 := z3
    by_cases c : (Ls.getD l dLt).1 = 1
    · rw [if_pos c] at z2'
      obtain ⟨h0, h16⟩ := hw c
      obtain ⟨p, hp⟩ : ∃ p : Nat, (Ls.getD l dLt).2.1 = (p : Int) := ⟨(Ls.getD l dLt).2.1.toNat, by omega⟩
      rw [hp] at z3'
      have e := st_152y (f := f) (m := m) us us2 us3 w9 w10 (by omega) z2' z3' (by omega) hmb
      rw [hp, Int.toNat_natCast]
      by_cases q : mb.testBit p = true
      · rw [if_pos q] at e
        exact ⟨1, e, .inr rfl, fun _ => ⟨c, q⟩, fun _ => rfl⟩
      · rw [if_neg q] at e
        exact ⟨0, e, .inl rfl, fun y => by omega, fun y => absurd y.2 q⟩
    · rw [if_neg c] at z2'
      exact ⟨0, st_152n us us2 w9 (by omega) z2' (by decide), .inl rfl, fun y => by omega, fun y => absurd y.1 c⟩
  · have z1' : (Ls.getD l dLt).1 = 3 := z1
    have z2' : G (u + 2) l = (Ls.getD l dLt).2.1 := z2
    have z3' : (Ls.getD l dLt).2.1 = 61 ∨ (Ls.getD l dLt).2.1 = 257 ∨ (Ls.getD l dLt).2.1 = 60 ∨ (Ls.getD l dLt).2.1 = 258 ∨ (Ls.getD l dLt).2.1 = 62 ∨ (Ls.getD l dLt).2.1 = 259 := z3
    exact ⟨0, st_152n us us2 w9 (by omega) z2' (by omega), .inl rfl, fun y => by omega, fun y => by omega⟩
theorem st_151z (us : S u = (1, 6, 20)) (h8 : G u 8 = (nl : Int)) : c151_6b r6 f u v lv (ow : Int) (nl : Int) (S, G, m) = some (if ow = 0 then (if lv = 1 then 1 else 0) else (if lv = 1 then 0 else (ow : Int)), (S, G, m)) := by
  by_cases c : ow = 0
  · rw [if_pos c, c]
    by_cases d : lv = 1
    · rw [if_pos d]
      unfold c151_6b c151_59
      simp (disch := omega) only [cq_gi, cq_gr, cq_a, cq_s, cq_p, cq_pr, cq_is, cq_ar, cq_ab, cq_ln, xq_nz, Option.bind_some, xup2_n, xup2_s, Int.toNat_natCast, Int.reduceToNat, if_pos, if_neg, true_and, and_true, and_self, eq_self, if_true, reduceIte, not_true_eq_false, not_false_eq_true, or_true, true_or, us, h8, d, Int.ofNat_zero]
    · rw [if_neg d]
      unfold c151_6b c151_59
      simp (disch := omega) only [cq_gi, cq_gr, cq_a, cq_s, cq_p, cq_pr, cq_is, cq_ar, cq_ab, cq_ln, xq_nz, Option.bind_some, xup2_n, xup2_s, Int.toNat_natCast, Int.reduceToNat, if_pos, if_neg, true_and, and_true, and_self, eq_self, if_true, reduceIte, not_true_eq_false, not_false_eq_true, or_true, true_or, us, h8, d, Int.ofNat_zero]
  · have c' : ¬ (ow : Int) = 0 := by omega
    rw [if_neg c]
    by_cases d : lv = 1
    · rw [if_pos d]
      unfold c151_6b c151_71
      simp (disch := omega) only [cq_gi, cq_gr, cq_a, cq_s, cq_p, cq_pr, cq_is, cq_ar, cq_ab, cq_ln, xq_nz, Option.bind_some, xup2_n, xup2_s, Int.toNat_natCast, Int.reduceToNat, if_pos, if_neg, true_and, and_true, and_self, eq_self, if_true, reduceIte, not_true_eq_false, not_false_eq_true, or_true, true_or, us, h8, d, c']
    · rw [if_neg d]
      unfold c151_6b c151_71
      simp (disch := omega) only [cq_gi, cq_gr, cq_a, cq_s, cq_p, cq_pr, cq_is, cq_ar, cq_ab, cq_ln, xq_nz, Option.bind_some, xup2_n, xup2_s, Int.toNat_natCast, Int.reduceToNat, if_pos, if_neg, true_and, and_true, and_self, eq_self, if_true, reduceIte, not_true_eq_false, not_false_eq_true, or_true, true_or, us, h8, d, c']
theorem st_151s {w : Int} (us : S u = (1, 6, 20)) (h8 : G u 8 = (nl : Int)) (hl : l < nl) (hl8 : nl ≤ 8) (e : c152 f u (l : Int) v (S, G, m) = some (w, (S, G, m))) (how : ow < 2 ^ 8) (ei : xwr ((l : Int) + 1) = ((l + 1 : Nat) : Int)) : c151_6b r6 f u v lv (ow : Int) (l : Int) (S, G, m) = r6 u v lv ((if w = 0 then ow else ow ||| 2 ^ l : Nat) : Int) ((l + 1 : Nat) : Int) (S, G, m) := by
  by_cases c : w = 0
  · rw [if_pos c]
    have eo : xor_ (ow : Int) 0 = (ow : Int) := by
      have := xor_nat (a := ow) (b := 0) (by omega) (by decide)
      rw [Nat.or_zero] at this
      exact this
    unfold c151_6b c151_35
    simp (disch := omega) only [cq_gi, cq_gr, cq_a, cq_s, cq_p, cq_pr, cq_is, cq_ar, cq_ab, cq_ln, xq_nz, Option.bind_some, xup2_n, xup2_s, Int.toNat_natCast, Int.reduceToNat, if_pos, if_neg, true_and, and_true, and_self, eq_self, if_true, reduceIte, not_true_eq_false, not_false_eq_true, or_true, true_or, us, h8, e, c, eo, ei]
  · rw [if_neg c]
    have eo : xor_ (ow : Int) (xshl 1 (l : Int)) = ((ow ||| 2 ^ l : Nat) : Int) := xorb (by omega) (by omega)
    unfold c151_6b c151_35
    simp (disch := omega) only [cq_gi, cq_gr, cq_a, cq_s, cq_p, cq_pr, cq_is, cq_ar, cq_ab, cq_ln, xq_nz, Option.bind_some, xup2_n, xup2_s, Int.toNat_natCast, Int.reduceToNat, if_pos, if_neg, true_and, and_true, and_self, eq_self, if_true, reduceIte, not_true_eq_false, not_false_eq_true, or_true, true_or, us, h8, e, c, eo, ei]
/-- leadersOf() -/
theorem k_151o (hf : 20 < f) (hR : cRq S G u K Ls) (hmb : mb < 2 ^ 16) (hw : ∀ l, l < Ls.length → (Ls.getD l dLt).1 = 1 → 0 ≤ (Ls.getD l dLt).2.1 ∧ (Ls.getD l dLt).2.1 < 16) : ∃ ow : Nat, ow < 2 ^ 8 ∧ (∀ l, ow.testBit l = true ↔ l < Ls.length ∧ ownL Ls mb l) ∧ c151 f 93 u (mb : Int) lv (S, G, m) = some (if ow = 0 then (if lv = 1 then 1 else 0) else (if lv = 1 then 0 else (ow : Int)), (S, G, m)) := by
  have us := hR.1.1
  have h8 := hR.2.2.2.1.1
  have hl8 := hR.2.2.2.1.2.1
  have loop : ∀ (d l fu ow : Nat), l + d = Ls.length → d < fu → ow < 2 ^ 8 → (∀ j, ow.testBit j = true ↔ j < l ∧ ownL Ls mb j) → ∃ ow' : Nat, ow' < 2 ^ 8 ∧ (∀ j, ow'.testBit j = true ↔ j < Ls.length ∧ ownL Ls mb j) ∧ c151_6 f fu u (mb : Int) lv (ow : Int) (l : Int) (S, G, m) = some (if ow' = 0 then (if lv = 1 then 1 else 0) else (if lv = 1 then 0 else (ow' : Int)), (S, G, m)) := by
    intro d
    induction d with
    | zero =>
      intro l fu ow e1 e2 e3 e4
      obtain ⟨fu, rfl⟩ : ∃ t, fu = t + 1 := ⟨fu - 1, by omega⟩
      have e : l = Ls.length := by omega
      subst e
      exact ⟨ow, e3, e4, st_151z (r6 := c151_6 f fu) us h8⟩
    | succ d ih =>
      intro l fu ow e1 e2 e3 e4
      obtain ⟨fu, rfl⟩ : ∃ t, fu = t + 1 := ⟨fu - 1, by omega⟩
      obtain ⟨w, w1, w2, w3⟩ := k_152 (f := f) (m := m) (l := l) hR (by omega) hmb (hw l (by omega))
      have st : c151_6 f (fu + 1) u (mb : Int) lv (ow : Int) (l : Int) (S, G, m) = _ := st_151s (r6 := c151_6 f fu) us h8 (by omega) hl8 w1 e3 (by rw [xwr_g _ (by omega) (by omega)]; omega)
      rw [st]
      refine ih (l + 1) fu _ (by omega) (by omega) ?_ (fun j => ?_)
      · split
        · exact e3
        · exact or_lt e3 (by omega)
      · by_cases c : w = 0
        · rw [if_pos c, e4 j]
          constructor
          · exact fun ⟨q1, q2⟩ => ⟨by omega, q2⟩
          · rintro ⟨q1, q2⟩
            by_cases cj : j = l
            · subst cj; have := w3.mpr q2; omega
            · exact ⟨by omega, q2⟩
        · rw [if_neg c, Nat.testBit_or, Bool.or_eq_true, e4 j, Nat.testBit_two_pow]
          constructor
          · rintro (⟨q1, q2⟩ | q)
            · exact ⟨by omega, q2⟩
            · have := of_decide_eq_true q
              subst this
              exact ⟨by omega, w3.mp (by omega)⟩
          · rintro ⟨q1, q2⟩
            by_cases cj : j = l
            · subst cj; exact .inr (decide_eq_true rfl)
            · exact .inl ⟨by omega, q2⟩
  exact loop Ls.length 0 f 0 (by omega) (by omega) (by decide) (fun j => ⟨fun q => (by rw [Nat.zero_testBit] at q; cases q), fun q => (by omega)⟩)
end
