/-! THE CLASS makes programs -/
theorem alcn' {α : Type} {c k nn x ci zn : Nat} {z : Int} {S : Nat → Nat × Nat × Nat} {G : xG_} {a sl : Nat} (a' sl' : Nat) {F : xT_ → Option α} (hx : S x = (1, c, nn)) (hxa : x ≠ a) (h0 : 0 ≤ z) (h1 : z ≤ 100000) (hz : z.toNat = zn) (ha : a + 1 = a') (hsl : sl + zn = sl') : ((cq_an ci z (S, G, a, sl)).bind fun p => ((cq_pr c k nn x p.1 p.2).bind F)) = F (xup1 S a (2, ci + 5, zn), xup2 (xz1 G a (fun _ => 0)) x k (a : Int), a', sl') := by
  have e : cq_an ci z (S, G, a, sl) = some (a, (xup1 S a (2, ci + 5, zn), xz1 G a (fun _ => 0), a', sl')) := by
    unfold cq_an
    rw [if_pos ⟨h0, by omega⟩, hz, ← ha, ← hsl]
    rfl
  rw [e, Option.bind_some]
  show ((cq_pr c k nn x a (xup1 S a (2, ci + 5, zn), xz1 G a (fun _ => 0), a', sl')).bind F) = _
  unfold cq_pr
  rw [if_pos (by show xup1 S a _ x = _; rw [xup1_n hxa]; exact hx)]
  rfl
def pSn (S : Nat → Nat × Nat × Nat) (q : Nat) : Nat → Nat × Nat × Nat := (xup1 (xup1 (xup1 (xup1 (xup1 (xup1 (xup1 (xup1 (xup1 (xup1 S (q + 1) (2, 4, 16)) (q + 2) (2, 3, 16)) (q + 3) (2, 3, 16)) (q + 4) (2, 0, 16)) (q + 5) (2, 0, 16)) (q + 6) (2, 0, 16)) (q + 7) (2, 11, 24)) (q + 8) (2, 3, 16)) (q + 9) (2, 3, 16)) (q + 10) (2, 3, 16))
def pGn (G : xG_) (q : Nat) : xG_ := (xup2 (xz1 (xup2 (xz1 (xup2 (xz1 (xup2 (xz1 (xup2 (xz1 (xup2 (xz1 (xup2 (xz1 (xup2 (xz1 (xup2 (xz1 (xup2 (xz1 G (q + 1) (fun _ => 0)) q 2 ((q + 1 : Nat) : Int)) (q + 2) (fun _ => 0)) q 3 ((q + 2 : Nat) : Int)) (q + 3) (fun _ => 0)) q 4 ((q + 3 : Nat) : Int)) (q + 4) (fun _ => 0)) q 5 ((q + 4 : Nat) : Int)) (q + 5) (fun _ => 0)) q 6 ((q + 5 : Nat) : Int)) (q + 6) (fun _ => 0)) q 7 ((q + 6 : Nat) : Int)) (q + 7) (fun _ => 0)) q 9 ((q + 7 : Nat) : Int)) (q + 8) (fun _ => 0)) q 10 ((q + 8 : Nat) : Int)) (q + 9) (fun _ => 0)) q 11 ((q + 9 : Nat) : Int)) (q + 10) (fun _ => 0)) q 13 ((q + 10 : Nat) : Int))
section
variable {f q sl : Nat} {S : Nat → Nat × Nat × Nat} {G : xG_} {v : Int}
theorem k_19e (hq : 0 < q) (hS : S q = (1, 3, 14)) : c19 f q v (S, G, (q + 1, sl)) = some (pSn S q, xup2 (pGn G q) q 0 v, (q + 11, sl + 168)) := by
  have n1 : q ≠ q + 1 := by omega
  have n2 : q ≠ q + 2 := by omega
  have n3 : q ≠ q + 3 := by omega
  have n4 : q ≠ q + 4 := by omega
  have n5 : q ≠ q + 5 := by omega
  have n6 : q ≠ q + 6 := by omega
  have n7 : q ≠ q + 7 := by omega
  have n8 : q ≠ q + 8 := by omega
  have n9 : q ≠ q + 9 := by omega
  have n10 : q ≠ q + 10 := by omega
  unfold c19
  rw [xq_nz, if_neg (Nat.ne_of_gt hq), Option.bind_some]
  rw [alc' (zn := 16) (a := q + 1) (q + 2) (sl + 16) hS n1 (by decide) (by decide) (by decide) rfl rfl rfl]
  rw [alc' (zn := 16) (a := q + 2) (q + 3) (sl + 32) (by rw [xup1_n n1]; exact hS) n2 (by decide) (by decide) (by decide) rfl rfl (Nat.add_assoc sl _ _)]
  rw [alc' (zn := 16) (a := q + 3) (q + 4) (sl + 48) (by rw [xup1_n n2, xup1_n n1]; exact hS) n3 (by decide) (by decide) (by decide) rfl rfl (Nat.add_assoc sl _ _)]
  rw [alc' (zn := 16) (a := q + 4) (q + 5) (sl + 64) (by rw [xup1_n n3, xup1_n n2, xup1_n n1]; exact hS) n4 (by decide) (by decide) (by decide) rfl rfl (Nat.add_assoc sl _ _)]
  rw [alc' (zn := 16) (a := q + 5) (q + 6) (sl + 80) (by rw [xup1_n n4, xup1_n n3, xup1_n n2, xup1_n n1]; exact hS) n5 (by decide) (by decide) (by decide) rfl rfl (Nat.add_assoc sl _ _)]
  rw [alc' (zn := 16) (a := q + 6) (q + 7) (sl + 96) (by rw [xup1_n n5, xup1_n n4, xup1_n n3, xup1_n n2, xup1_n n1]; exact hS) n6 (by decide) (by decide) (by decide) rfl rfl (Nat.add_assoc sl _ _)]
  rw [alcn' (zn := 24) (a := q + 7) (q + 8) (sl + 120) (by rw [xup1_n n6, xup1_n n5, xup1_n n4, xup1_n n3, xup1_n n2, xup1_n n1]; exact hS) n7 (by decide) (by decide) rfl rfl (Nat.add_assoc sl _ _)]
  rw [alc' (zn := 16) (a := q + 8) (q + 9) (sl + 136) (by rw [xup1_n n7, xup1_n n6, xup1_n n5, xup1_n n4, xup1_n n3, xup1_n n2, xup1_n n1]; exact hS) n8 (by decide) (by decide) (by decide) rfl rfl (Nat.add_assoc sl _ _)]
  rw [alc' (zn := 16) (a := q + 9) (q + 10) (sl + 152) (by rw [xup1_n n8, xup1_n n7, xup1_n n6, xup1_n n5, xup1_n n4, xup1_n n3, xup1_n n2, xup1_n n1]; exact hS) n9 (by decide) (by decide) (by decide) rfl rfl (Nat.add_assoc sl _ _)]
  rw [alc' (zn := 16) (a := q + 10) (q + 11) (sl + 168) (by rw [xup1_n n9, xup1_n n8, xup1_n n7, xup1_n n6, xup1_n n5, xup1_n n4, xup1_n n3, xup1_n n2, xup1_n n1]; exact hS) n10 (by decide) (by decide) (by decide) rfl rfl (Nat.add_assoc sl _ _)]
  unfold pSn pGn
  unfold cq_p
  rw [if_pos (by show xup1 _ _ _ q = _; rw [xup1_n n10, xup1_n n9, xup1_n n8, xup1_n n7, xup1_n n6, xup1_n n5, xup1_n n4, xup1_n n3, xup1_n n2, xup1_n n1]; exact hS)]
  rfl
theorem pSn_lt (a : Nat) (ha : a ≤ q) : pSn S q a = S a := by
  unfold pSn
  rw [xup1_n (Nat.ne_of_lt (Nat.lt_of_le_of_lt ha (Nat.lt_add_of_pos_right (by decide)))), xup1_n (Nat.ne_of_lt (Nat.lt_of_le_of_lt ha (Nat.lt_add_of_pos_right (by decide)))), xup1_n (Nat.ne_of_lt (Nat.lt_of_le_of_lt ha (Nat.lt_add_of_pos_right (by decide)))), xup1_n (Nat.ne_of_lt (Nat.lt_of_le_of_lt ha (Nat.lt_add_of_pos_right (by decide)))), xup1_n (Nat.ne_of_lt (Nat.lt_of_le_of_lt ha (Nat.lt_add_of_pos_right (by decide)))), xup1_n (Nat.ne_of_lt (Nat.lt_of_le_of_lt ha (Nat.lt_add_of_pos_right (by decide)))), xup1_n (Nat.ne_of_lt (Nat.lt_of_le_of_lt ha (Nat.lt_add_of_pos_right (by decide)))), xup1_n (Nat.ne_of_lt (Nat.lt_of_le_of_lt ha (Nat.lt_add_of_pos_right (by decide)))), xup1_n (Nat.ne_of_lt (Nat.lt_of_le_of_lt ha (Nat.lt_add_of_pos_right (by decide)))), xup1_n (Nat.ne_of_lt (Nat.lt_of_le_of_lt ha (Nat.lt_add_of_pos_right (by decide))))]
theorem pGn_lt (a j : Nat) (ha : a ≠ q) (h : a < q) : pGn G q a j = G a j := by
  unfold pGn
  rw [xup2_n (fun y => ha y.1), xz1_n _ (Nat.ne_of_lt (Nat.lt_add_right _ h)), xup2_n (fun y => ha y.1), xz1_n _ (Nat.ne_of_lt (Nat.lt_add_right _ h)), xup2_n (fun y => ha y.1), xz1_n _ (Nat.ne_of_lt (Nat.lt_add_right _ h)), xup2_n (fun y => ha y.1), xz1_n _ (Nat.ne_of_lt (Nat.lt_add_right _ h)), xup2_n (fun y => ha y.1), xz1_n _ (Nat.ne_of_lt (Nat.lt_add_right _ h)), xup2_n (fun y => ha y.1), xz1_n _ (Nat.ne_of_lt (Nat.lt_add_right _ h)), xup2_n (fun y => ha y.1), xz1_n _ (Nat.ne_of_lt (Nat.lt_add_right _ h)), xup2_n (fun y => ha y.1), xz1_n _ (Nat.ne_of_lt (Nat.lt_add_right _ h)), xup2_n (fun y => ha y.1), xz1_n _ (Nat.ne_of_lt (Nat.lt_add_right _ h)), xup2_n (fun y => ha y.1), xz1_n _ (Nat.ne_of_lt (Nat.lt_add_right _ h))]
theorem pSn_s (hS : S q = (1, 3, 14)) : cPgS (pSn S q) q := by
  refine ⟨by rw [pSn_lt q (Nat.le_refl q)]; exact hS, ?_, ?_, ?_, ?_, ?_, ?_, ?_, ?_, ?_, ?_⟩
  · unfold pSn; rw [xup1_n (by omega), xup1_n (by omega), xup1_n (by omega), xup1_n (by omega), xup1_n (by omega), xup1_n (by omega), xup1_n (by omega), xup1_n (by omega), xup1_n (by omega), xup1_s]
  · unfold pSn; rw [xup1_n (by omega), xup1_n (by omega), xup1_n (by omega), xup1_n (by omega), xup1_n (by omega), xup1_n (by omega), xup1_n (by omega), xup1_n (by omega), xup1_s]
  · unfold pSn; rw [xup1_n (by omega), xup1_n (by omega), xup1_n (by omega), xup1_n (by omega), xup1_n (by omega), xup1_n (by omega), xup1_n (by omega), xup1_s]
  · unfold pSn; rw [xup1_n (by omega), xup1_n (by omega), xup1_n (by omega), xup1_n (by omega), xup1_n (by omega), xup1_n (by omega), xup1_s]
  · unfold pSn; rw [xup1_n (by omega), xup1_n (by omega), xup1_n (by omega), xup1_n (by omega), xup1_n (by omega), xup1_s]
  · unfold pSn; rw [xup1_n (by omega), xup1_n (by omega), xup1_n (by omega), xup1_n (by omega), xup1_s]
  · unfold pSn; rw [xup1_n (by omega), xup1_n (by omega), xup1_n (by omega), xup1_s]
  · unfold pSn; rw [xup1_n (by omega), xup1_n (by omega), xup1_s]
  · unfold pSn; rw [xup1_n (by omega), xup1_s]
  · unfold pSn; rw [xup1_s]
theorem pGn_p : cPgP (pGn G q) q := by
  refine ⟨?_, ?_, ?_, ?_, ?_, ?_, ?_, ?_, ?_, ?_⟩
  · unfold pGn; rw [xup2_n (by omega), xz1_n _ (by omega), xup2_n (by omega), xz1_n _ (by omega), xup2_n (by omega), xz1_n _ (by omega), xup2_n (by omega), xz1_n _ (by omega), xup2_n (by omega), xz1_n _ (by omega), xup2_n (by omega), xz1_n _ (by omega), xup2_n (by omega), xz1_n _ (by omega), xup2_n (by omega), xz1_n _ (by omega), xup2_n (by omega), xz1_n _ (by omega), xup2_s]
  · unfold pGn; rw [xup2_n (by omega), xz1_n _ (by omega), xup2_n (by omega), xz1_n _ (by omega), xup2_n (by omega), xz1_n _ (by omega), xup2_n (by omega), xz1_n _ (by omega), xup2_n (by omega), xz1_n _ (by omega), xup2_n (by omega), xz1_n _ (by omega), xup2_n (by omega), xz1_n _ (by omega), xup2_n (by omega), xz1_n _ (by omega), xup2_s]
  · unfold pGn; rw [xup2_n (by omega), xz1_n _ (by omega), xup2_n (by omega), xz1_n _ (by omega), xup2_n (by omega), xz1_n _ (by omega), xup2_n (by omega), xz1_n _ (by omega), xup2_n (by omega), xz1_n _ (by omega), xup2_n (by omega), xz1_n _ (by omega), xup2_n (by omega), xz1_n _ (by omega), xup2_s]
  · unfold pGn; rw [xup2_n (by omega), xz1_n _ (by omega), xup2_n (by omega), xz1_n _ (by omega), xup2_n (by omega), xz1_n _ (by omega), xup2_n (by omega), xz1_n _ (by omega), xup2_n (by omega), xz1_n _ (by omega), xup2_n (by omega), xz1_n _ (by omega), xup2_s]
  · unfold pGn; rw [xup2_n (by omega), xz1_n _ (by omega), xup2_n (by omega), xz1_n _ (by omega), xup2_n (by omega), xz1_n _ (by omega), xup2_n (by omega), xz1_n _ (by omega), xup2_n (by omega), xz1_n _ (by omega), xup2_s]
  · unfold pGn; rw [xup2_n (by omega), xz1_n _ (by omega), xup2_n (by omega), xz1_n _ (by omega), xup2_n (by omega), xz1_n _ (by omega), xup2_n (by omega), xz1_n _ (by omega), xup2_s]
  · unfold pGn; rw [xup2_n (by omega), xz1_n _ (by omega), xup2_n (by omega), xz1_n _ (by omega), xup2_n (by omega), xz1_n _ (by omega), xup2_s]
  · unfold pGn; rw [xup2_n (by omega), xz1_n _ (by omega), xup2_n (by omega), xz1_n _ (by omega), xup2_s]
  · unfold pGn; rw [xup2_n (by omega), xz1_n _ (by omega), xup2_s]
  · unfold pGn; rw [xup2_s]
theorem pGn_f (j : Nat) (hj : j = 0 ∨ j = 1 ∨ j = 8 ∨ j = 12) : pGn G q q j = G q j := by
  unfold pGn
  rw [xup2_n (by omega), xz1_n _ (by omega), xup2_n (by omega), xz1_n _ (by omega), xup2_n (by omega), xz1_n _ (by omega), xup2_n (by omega), xz1_n _ (by omega), xup2_n (by omega), xz1_n _ (by omega), xup2_n (by omega), xz1_n _ (by omega), xup2_n (by omega), xz1_n _ (by omega), xup2_n (by omega), xz1_n _ (by omega), xup2_n (by omega), xz1_n _ (by omega), xup2_n (by omega), xz1_n _ (by omega)]
theorem pGn_z (a j : Nat) (h1 : q < a) (h2 : a ≤ q + 10) : pGn G q a j = 0 := by
  have n0 : a ≠ q := by omega
  unfold pGn
  rw [xup2_n (fun y => n0 y.1)]
  by_cases c10 : a = q + 10
  · rw [c10, xz1_s]
  rw [xz1_n _ c10]
  rw [xup2_n (fun y => n0 y.1)]
  by_cases c9 : a = q + 9
  · rw [c9, xz1_s]
  rw [xz1_n _ c9]
  rw [xup2_n (fun y => n0 y.1)]
  by_cases c8 : a = q + 8
  · rw [c8, xz1_s]
  rw [xz1_n _ c8]
  rw [xup2_n (fun y => n0 y.1)]
  by_cases c7 : a = q + 7
  · rw [c7, xz1_s]
  rw [xz1_n _ c7]
  rw [xup2_n (fun y => n0 y.1)]
  by_cases c6 : a = q + 6
  · rw [c6, xz1_s]
  rw [xz1_n _ c6]
  rw [xup2_n (fun y => n0 y.1)]
  by_cases c5 : a = q + 5
  · rw [c5, xz1_s]
  rw [xz1_n _ c5]
  rw [xup2_n (fun y => n0 y.1)]
  by_cases c4 : a = q + 4
  · rw [c4, xz1_s]
  rw [xz1_n _ c4]
  rw [xup2_n (fun y => n0 y.1)]
  by_cases c3 : a = q + 3
  · rw [c3, xz1_s]
  rw [xz1_n _ c3]
  rw [xup2_n (fun y => n0 y.1)]
  by_cases c2 : a = q + 2
  · rw [c2, xz1_s]
  rw [xz1_n _ c2]
  rw [xup2_n (fun y => n0 y.1)]
  by_cases c1 : a = q + 1
  · rw [c1, xz1_s]
  rw [xz1_n _ c1]
  exact absurd h2 (by omega)
/-- new Program() -/
theorem k_19 (hq : 0 < q) : ∃ S' G', c19 f q v (xup1 S q (1, 3, 14), xz1 G q (fun _ => 0), (q + 1, sl)) = some (S', G', (q + 11, sl + 168)) ∧ (∀ a, a < q → S' a = S a) ∧ (∀ a j, a < q → G' a j = G a j) ∧ cPgS S' q ∧ cPgP G' q ∧ G' q 0 = v ∧ G' q 1 = 0 ∧ G' q 8 = 0 ∧ G' q 12 = 0 ∧ ∀ a j, q < a → a ≤ q + 10 → G' a j = 0 := by
  refine ⟨_, _, k_19e hq (xup1_s _ _ _), fun a ha => by rw [pSn_lt a (by omega), xup1_n (by omega)], fun a j ha => by rw [xup2_n (by omega), pGn_lt a j (by omega) ha, xz1_n _ (by omega)], pSn_s (xup1_s _ _ _), (pGn_p).ge (fun j h1 _ _ => xup2_n (by omega)), xup2_s _ _ _ _, ?_, ?_, ?_, fun a j h1 h2 => by rw [xup2_n (by omega), pGn_z a j h1 h2]⟩
  · rw [xup2_n (by omega), pGn_f 1 (by omega), xz1_s]
  · rw [xup2_n (by omega), pGn_f 8 (by omega), xz1_s]
  · rw [xup2_n (by omega), pGn_f 12 (by omega), xz1_s]
end
