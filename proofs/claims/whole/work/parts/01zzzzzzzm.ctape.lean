/-! THE CLASS: its TAPE -/
/-- where a reference stands that never changes -/
def cPz (a i : Nat) : Prop := (a = 64 ∧ (i ≤ 5 ∨ i = 14)) ∨ (a = 65 ∧ (i = 0 ∨ 3 ≤ i)) ∨ (a = 72 ∧ (i = 0 ∨ 7 ≤ i ∧ i ≤ 8 ∨ 10 ≤ i ∧ i ≤ 11 ∨ i = 13 ∨ 15 ≤ i)) ∨ (a = 83 ∧ (i ≤ 2 ∨ 8 ≤ i)) ∨ (a = 93 ∧ (i = 0 ∨ 2 ≤ i ∧ i ≤ 12 ∨ i = 17)) ∨ (96 ≤ a ∧ a ≤ 98) ∨ (a = 99 ∧ 2 ≤ i) ∨ (108 ≤ a ∧ a ≤ 215 ∧ 2 ≤ i ∧ ∃ k, a = 108 + 3 * k) ∨ (a = 216 ∧ 2 ≤ i) ∨ a = 220 ∨ ((a = 221 ∨ a = 224) ∧ 2 ≤ i) ∨ (∃ k, k < 4 ∧ a = 243 + 9 * k ∧ (i = 0 ∨ 5 ≤ i ∧ i ≤ 6 ∨ 9 ≤ i))
theorem cl_P_z : ∀ q, q ∈ cl_P → cPz q.1 q.2.1 := by
  intro q hq
  have key : ∀ q ∈ cl_P, (q.1 = 64 ∧ (q.2.1 ≤ 5 ∨ q.2.1 = 14)) ∨ (q.1 = 65 ∧ (q.2.1 = 0 ∨ 3 ≤ q.2.1)) ∨ (q.1 = 72 ∧ (q.2.1 = 0 ∨ 7 ≤ q.2.1 ∧ q.2.1 ≤ 8 ∨ 10 ≤ q.2.1 ∧ q.2.1 ≤ 11 ∨ q.2.1 = 13 ∨ 15 ≤ q.2.1)) ∨ (q.1 = 83 ∧ (q.2.1 ≤ 2 ∨ 8 ≤ q.2.1)) ∨ (q.1 = 93 ∧ (q.2.1 = 0 ∨ 2 ≤ q.2.1 ∧ q.2.1 ≤ 12 ∨ q.2.1 = 17)) ∨ (96 ≤ q.1 ∧ q.1 ≤ 98) ∨ (q.1 = 99 ∧ 2 ≤ q.2.1) ∨ (108 ≤ q.1 ∧ q.1 ≤ 215 ∧ 2 ≤ q.2.1 ∧ (q.1 - 108) % 3 = 0) ∨ (q.1 = 216 ∧ 2 ≤ q.2.1) ∨ q.1 = 220 ∨ ((q.1 = 221 ∨ q.1 = 224) ∧ 2 ≤ q.2.1) ∨ (243 ≤ q.1 ∧ q.1 ≤ 270 ∧ (q.1 - 243) % 9 = 0 ∧ (q.2.1 = 0 ∨ 5 ≤ q.2.1 ∧ q.2.1 ≤ 6 ∨ 9 ≤ q.2.1)) := by decide +kernel
  unfold cPz
  rcases key q hq with h | h | h | h | h | h | h | h | h | h | h | h
  · exact .inl h
  · exact .inr (.inl h)
  · exact .inr (.inr (.inl h))
  · exact .inr (.inr (.inr (.inl h)))
  · exact .inr (.inr (.inr (.inr (.inl h))))
  · exact .inr (.inr (.inr (.inr (.inr (.inl h)))))
  · exact .inr (.inr (.inr (.inr (.inr (.inr (.inl h))))))
  · exact .inr (.inr (.inr (.inr (.inr (.inr (.inr (.inl ⟨h.1, h.2.1, h.2.2.1, (q.1 - 108) / 3, by omega⟩)))))))
  · exact .inr (.inr (.inr (.inr (.inr (.inr (.inr (.inr (.inl h))))))))
  · exact .inr (.inr (.inr (.inr (.inr (.inr (.inr (.inr (.inr (.inl h)))))))))
  · exact .inr (.inr (.inr (.inr (.inr (.inr (.inr (.inr (.inr (.inr (.inl h))))))))))
  · exact .inr (.inr (.inr (.inr (.inr (.inr (.inr (.inr (.inr (.inr (.inr ⟨(q.1 - 243) / 9, by omega, by omega, h.2.2.2⟩))))))))))
theorem cPs.ge {G G' : xG_} (h : cPs G) (hf : ∀ a j, cPz a j → G' a j = G a j) : cPs G' := fun q hq => by
  rw [hf _ _ (cl_P_z q hq)]
  exact h q hq
/-- cells of the TAPE alone change -/
theorem cPs.tape {G G' : xG_} (h : cPs G) (hf : ∀ a j, ¬ (a = 65 ∧ 1 ≤ j ∧ j ≤ 2) → ¬ (66 ≤ a ∧ a ≤ 71) → G' a j = G a j) : cPs G' := h.ge (fun a j hz => hf a j (by
  rcases hz with z | z | z | z | z | z | z | ⟨z, z1, z2, k, z3⟩ | z | z | z | ⟨k, z1, z2, z3⟩ <;> omega) (by
  rcases hz with z | z | z | z | z | z | z | ⟨z, z1, z2, k, z3⟩ | z | z | z | ⟨k, z1, z2, z3⟩ <;> omega))
section
variable {f : Nat} {S : Nat → Nat × Nat × Nat} {m : Nat × Nat}
theorem k_120 {G : xG_} {k a b c : Int} {t : Nat} (hs : cSs S) (hp : cPs G) (ht : G 65 2 = (t : Int)) (h : t < 3001) : c120 f 65 k a b c (S, G, m) = some (S, xup2 (xup2 (xup2 (xup2 (xup2 G 67 t k) 68 t a) 69 t b) 70 t c) 65 2 ((t + 1 : Nat) : Int), m) := by
  have e : xwr ((t : Int) + 1) = ((t + 1 : Nat) : Int) := by rw [xwr_g _ (by omega) (by omega)]; omega
  unfold c120
  simp (disch := omega) only [cq_gi, cq_gr, cq_a, cq_s, cq_p, cq_pr, cq_is, cq_ar, cq_ab, cq_ln, xq_nz, Option.bind_some, xup2_n, xup2_s, Int.toNat_natCast, Int.reduceToNat, if_pos, if_neg, true_and, and_true, and_self, eq_self, if_true, reduceIte, not_true_eq_false, not_false_eq_true, or_true, true_or, s65 hs, s67 hs, s68 hs, s69 hs, s70 hs, p65_3 hp, p65_4 hp, p65_5 hp, p65_6 hp, ht, e]
end
