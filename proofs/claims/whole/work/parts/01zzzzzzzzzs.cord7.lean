/-! THE CLASS: orderRings(), all turns -/
section
variable {f q np : Nat} {S : Nat → Nat × Nat × Nat} {m : Nat × Nat} {T D : Nat → Nat} {r4 : Nat → Int → Int → xT_ → Option (xT_)} {G : xG_} {dn tn : Nat}
theorem st_25t (qs : S q = (1, 3, 14)) (h1 : G q 1 = (np : Int)) (ht : tn < np) : c25_4b r4 f q (dn : Int) (tn : Int) (S, G, m) = c25_14 r4 f f q (dn : Int) (tn : Int) ((0 : Nat) : Int) (S, G, m) := by
  unfold c25_4b
  simp (disch := omega) only [cq_gi, cq_gr, cq_a, cq_s, cq_p, cq_pr, cq_is, cq_ar, cq_ab, cq_ln, xq_nz, Option.bind_some, xup2_n, xup2_s, Int.toNat_natCast, Int.reduceToNat, if_pos, if_neg, true_and, and_true, and_self, eq_self, if_true, reduceIte, not_true_eq_false, not_false_eq_true, or_true, true_or, qs, h1]
  rfl
theorem st_25u (qs : S q = (1, 3, 14)) (h1 : G q 1 = (np : Int)) : c25_4b r4 f q (dn : Int) (np : Int) (S, G, m) = some (S, G, m) := by
  unfold c25_4b
  simp (disch := omega) only [cq_gi, cq_gr, cq_a, cq_s, cq_p, cq_pr, cq_is, cq_ar, cq_ab, cq_ln, xq_nz, Option.bind_some, xup2_n, xup2_s, Int.toNat_natCast, Int.reduceToNat, if_pos, if_neg, true_and, and_true, and_self, eq_self, if_true, reduceIte, not_true_eq_false, not_false_eq_true, or_true, true_or, qs, h1]
def allO (T : Nat → Nat) (np : Nat) (O : List Nat) : Prop := ∀ x, x < np → qRing T x = x → x ∈ O
theorem k_25t (hf : 30 < f) (hq : 82 < q) (hn : np ≤ 16) (qs : cPgS S q) (hD : b16 D) (hA : ∀ x j y, x < np → j < np → (T x).testBit j = true → (T j).testBit y = true → (T x).testBit y = true) (hDA : ∀ x, x < np → ∀ j, (D x).testBit j = true → (T x).testBit j = true ∧ j < np) : ∀ (d tn fu dn : Nat) (G : xG_) (O : List Nat), tn + d = np → d < fu → cPgP G q → G q 1 = (np : Int) → (∀ x, x < np → G (q + 8) x = ((qRing T x : Nat) : Int)) → cRd G q D → isOr T D np dn O → cOr G q O → (tn ≤ O.length ∨ allO T np O) → ∃ G' O', c25_4 f fu q (dn : Int) (tn : Int) (S, G, m) = some (S, G', m) ∧ (∀ a j, a ≠ q + 9 → ¬ (a = q ∧ j = 12) → G' a j = G a j) ∧ (∃ dn', isOr T D np dn' O') ∧ cOr G' q O' ∧ allO T np O' := by
  intro d
  induction d with
  | zero =>
    intro tn fu dn G O e1 e2 hG h1 hR hC hO hc ht
    obtain ⟨fu, rfl⟩ : ∃ t, fu = t + 1 := ⟨fu - 1, by omega⟩
    have : tn = np := by omega
    rw [this] at ht ⊢
    refine ⟨G, O, st_25u (r4 := c25_4 f fu) qs.1 h1, fun _ _ _ _ => rfl, ⟨dn, hO⟩, hc, ?_⟩
    rcases ht with z | z
    · intro x hx _
      refine Classical.byContradiction (fun hxO => ?_)
      have := nodup_len (x :: O) (List.range np) (List.nodup_cons.mpr ⟨hxO, hO.2.2.1⟩) (fun y hy => by
        rcases List.mem_cons.mp hy with w | w
        · rw [w]; exact List.mem_range.mpr hx
        · exact List.mem_range.mpr (hO.2.2.2.1 y w).1)
      rw [List.length_cons, List.length_range] at this
      omega
    · exact z
  | succ d ih =>
    intro tn fu dn G O e1 e2 hG h1 hR hC hO hc ht
    obtain ⟨fu, rfl⟩ : ∃ t, fu = t + 1 := ⟨fu - 1, by omega⟩
    have ek : xwr ((tn : Int) + 1) = ((tn + 1 : Nat) : Int) := by rw [xwr_g _ (by omega) (by omega)]; omega
    obtain ⟨G1, dn1, O1, x1, x2, x3, x4, x5, x6, x7, x8⟩ := k_25i (f := f) (m := m) (tn := tn) (r4 := c25_4 f fu) (T := T) hf hq hn qs hD (fun p hp y hy => (hDA p hp y hy).2) np 0 f dn G O (by omega) (by omega) hG h1 hR hC hO hc
    have st : c25_4 f (fu + 1) q (dn : Int) (tn : Int) (S, G, m) = _ := st_25t (r4 := c25_4 f fu) qs.1 h1 (by omega)
    have ht1 : tn + 1 ≤ O1.length ∨ allO T np O1 := by
      by_cases ca : allO T np O
      · exact .inr (fun x z1 z2 => x7 x (ca x z1 z2))
      · left
        have htn : tn ≤ O.length := by rcases ht with z | z; exact z; exact absurd z ca
        obtain ⟨r, r1, r2, r3⟩ : ∃ r, r < np ∧ qRing T r = r ∧ r ∉ O := by
          refine Classical.byContradiction (fun hno => ca (fun x z1 z2 => Classical.byContradiction (fun z3 => hno ⟨x, z1, z2, z3⟩)))
        have hd : ∀ p, p < np → (dn.testBit p = true ↔ dn.testBit (qRing T p) = true) := fun p hp => by
          rw [hO.2.1, hO.2.1, qRing_id hA hp]
          obtain ⟨a1, _, _⟩ := qRing_is T p
          exact ⟨fun y => ⟨by omega, y.2⟩, fun y => ⟨hp, y.2⟩⟩
        have hdr : dn.testBit r = false := by
          cases hb : dn.testBit r with
          | false => rfl
          | true =>
            have := ((hO.2.1 r).mp hb).2
            rw [r2] at this
            exact absurd this r3
        obtain ⟨s, s1, s2, s3, s4⟩ := rdy hA (Rd := D) (dn := dn) hDA hd _ r (Nat.le_refl _) r1 r2 hdr
        have hsO : s ∉ O := fun y => by
          have := (hO.2.1 s).mpr ⟨s1, by rw [s2]; exact y⟩
          rw [s3] at this
          cases this
        have hsO1 := x8 s (Nat.zero_le _) s1 s2 s4
        have := nodup_len (s :: O) O1 (List.nodup_cons.mpr ⟨hsO, hO.2.2.1⟩) (fun y hy => by
          rcases List.mem_cons.mp hy with w | w
          · rw [w]; exact hsO1
          · exact x7 y w)
        rw [List.length_cons] at this
        omega
    obtain ⟨G2, O2, y1, y2, y3, y4, y5⟩ := ih (tn + 1) fu dn1 G1 O1 (by omega) (by omega) (hG.ge (fun j _ _ z3 => x2 q j (by omega) (fun y => z3 y.2))) (by rw [x2 q 1 (by omega) (by omega)]; exact h1) (fun x hx => by rw [x2 _ _ (by omega) (by omega)]; exact hR x hx) (fun x hx => by rw [x2 _ _ (by omega) (by omega)]; exact hC x hx) x3 x4 ht1
    refine ⟨G2, O2, ?_, fun a j z1 z2 => by rw [y2 a j z1 z2, x2 a j z1 z2], y3, y4, y5⟩
    rw [st, x1, ek]
    exact y1
end
