/-! THE CLASS makes rules -/
theorem xup1_e (S : Nat → Nat × Nat × Nat) (a : Nat) (s : Nat × Nat × Nat) (b : Nat) : xup1 S a s b = if b = a then s else S b := rfl
theorem xup1_s (S : Nat → Nat × Nat × Nat) (a : Nat) (s : Nat × Nat × Nat) : xup1 S a s a = s := if_pos rfl
theorem xup1_n {S : Nat → Nat × Nat × Nat} {a b : Nat} {s : Nat × Nat × Nat} (h : b ≠ a) : xup1 S a s b = S b := if_neg h
theorem xz1_s (G : xG_) (a : Nat) (g : Nat → Int) (j : Nat) : xz1 G a g a j = g j := if_pos rfl
theorem xz1_n {G : xG_} {a b : Nat} {g : Nat → Int} (j : Nat) (h : b ≠ a) : xz1 G a g b j = G b j := if_neg h
/-- an array is made -/
theorem cq_na_ok {kk : Nat} {z : Int} {S : Nat → Nat × Nat × Nat} {G : xG_} {a sl : Nat} (hk : kk ≤ 4) (h0 : 0 ≤ z) (h1 : z ≤ 100000) : cq_na kk z (S, G, a, sl) = some (a, (xup1 S a (2, kk, z.toNat), xz1 G a (fun _ => 0), a + 1, sl + z.toNat)) := by
  unfold cq_na
  have hb : componentBytes (xj_kty kk) ≤ 8 := by
    match kk, hk with
    | 0, _ => decide
    | 1, _ => decide
    | 2, _ => decide
    | 3, _ => decide
    | 4, _ => decide
  have hm : z.toNat * componentBytes (xj_kty kk) ≤ z.toNat * 8 := Nat.mul_le_mul_left _ hb
  rw [if_pos ⟨h0, by omega⟩]
  rfl
theorem alc {α : Type} {c k nn x kk : Nat} {z : Int} {S : Nat → Nat × Nat × Nat} {G : xG_} {a sl : Nat} {F : xT_ → Option α} (hx : S x = (1, c, nn)) (hxa : x ≠ a) (hk : kk ≤ 4) (h0 : 0 ≤ z) (h1 : z ≤ 100000) : ((cq_na kk z (S, G, a, sl)).bind fun p => ((cq_pr c k nn x p.1 p.2).bind F)) = F (xup1 S a (2, kk, z.toNat), xup2 (xz1 G a (fun _ => 0)) x k (a : Int), a + 1, sl + z.toNat) := by
  rw [cq_na_ok hk h0 h1, Option.bind_some]
  show ((cq_pr c k nn x a (xup1 S a (2, kk, z.toNat), xz1 G a (fun _ => 0), a + 1, sl + z.toNat)).bind F) = _
  unfold cq_pr
  rw [if_pos (by show xup1 S a _ x = _; rw [xup1_n hxa]; exact hx)]
  rfl
theorem alc' {α : Type} {c k nn x kk zn : Nat} {z : Int} {S : Nat → Nat × Nat × Nat} {G : xG_} {a sl : Nat} (a' sl' : Nat) {F : xT_ → Option α} (hx : S x = (1, c, nn)) (hxa : x ≠ a) (hk : kk ≤ 4) (h0 : 0 ≤ z) (h1 : z ≤ 100000) (hz : z.toNat = zn) (ha : a + 1 = a') (hsl : sl + zn = sl') : ((cq_na kk z (S, G, a, sl)).bind fun p => ((cq_pr c k nn x p.1 p.2).bind F)) = F (xup1 S a (2, kk, zn), xup2 (xz1 G a (fun _ => 0)) x k (a : Int), a', sl') := by
  rw [alc hx hxa hk h0 h1, hz, ha, hsl]
/-- what stands in a new rule -/
def cRu1 (G : xG_) (u : Nat) : Prop := G u 0 = -1 ∧ G u 3 = -1 ∧ G u 2 = 0 ∧ G u 6 = 0 ∧ G u 8 = 0 ∧ ∀ a j, u < a → a ≤ u + 10 → G a j = 0
def rSn (S : Nat → Nat × Nat × Nat) (u : Nat) : Nat → Nat × Nat × Nat := (xup1 (xup1 (xup1 (xup1 (xup1 (xup1 (xup1 (xup1 (xup1 (xup1 S (u + 1) (2, 3, 8)) (u + 2) (2, 3, 8)) (u + 3) (2, 3, 8)) (u + 4) (2, 3, 8)) (u + 5) (2, 3, 32)) (u + 6) (2, 4, 32)) (u + 7) (2, 3, 20)) (u + 8) (2, 3, 20)) (u + 9) (2, 3, 8)) (u + 10) (2, 3, 8))
def rGn (G : xG_) (u : Nat) : xG_ := (xup2 (xz1 (xup2 (xz1 (xup2 (xz1 (xup2 (xz1 (xup2 (xz1 (xup2 (xz1 (xup2 (xz1 (xup2 (xz1 (xup2 (xz1 (xup2 (xz1 (xup2 (xup2 G u 0 (-1)) u 3 (-1)) (u + 1) (fun _ => 0)) u 7 ((u + 1 : Nat) : Int)) (u + 2) (fun _ => 0)) u 9 ((u + 2 : Nat) : Int)) (u + 3) (fun _ => 0)) u 10 ((u + 3 : Nat) : Int)) (u + 4) (fun _ => 0)) u 11 ((u + 4 : Nat) : Int)) (u + 5) (fun _ => 0)) u 12 ((u + 5 : Nat) : Int)) (u + 6) (fun _ => 0)) u 13 ((u + 6 : Nat) : Int)) (u + 7) (fun _ => 0)) u 14 ((u + 7 : Nat) : Int)) (u + 8) (fun _ => 0)) u 15 ((u + 8 : Nat) : Int)) (u + 9) (fun _ => 0)) u 18 ((u + 9 : Nat) : Int)) (u + 10) (fun _ => 0)) u 19 ((u + 10 : Nat) : Int))
section
variable {f u sl : Nat} {S : Nat → Nat × Nat × Nat} {G : xG_}
theorem k_87e (hu : 0 < u) (hS : S u = (1, 6, 20)) : c87 f u (S, G, (u + 1, sl)) = some (rSn S u, rGn G u, (u + 11, sl + 152)) := by
  have n1 : u ≠ u + 1 := by omega
  have n2 : u ≠ u + 2 := by omega
  have n3 : u ≠ u + 3 := by omega
  have n4 : u ≠ u + 4 := by omega
  have n5 : u ≠ u + 5 := by omega
  have n6 : u ≠ u + 6 := by omega
  have n7 : u ≠ u + 7 := by omega
  have n8 : u ≠ u + 8 := by omega
  have n9 : u ≠ u + 9 := by omega
  have n10 : u ≠ u + 10 := by omega
  unfold c87
  rw [xq_nz, if_neg (Nat.ne_of_gt hu), Option.bind_some]
  rw [show cq_p 6 0 20 u (-1) (S, G, u + 1, sl) = some (S, xup2 G u 0 (-1), u + 1, sl) from if_pos hS, Option.bind_some]
  rw [show cq_p 6 3 20 u (-1) (S, xup2 G u 0 (-1), u + 1, sl) = some (S, xup2 (xup2 G u 0 (-1)) u 3 (-1), u + 1, sl) from if_pos hS, Option.bind_some]
  rw [alc' (zn := 8) (a := u + 1) (u + 2) (sl + 8) hS n1 (by decide) (by decide) (by decide) rfl rfl rfl]
  rw [alc' (zn := 8) (a := u + 2) (u + 3) (sl + 16) (by rw [xup1_n n1]; exact hS) n2 (by decide) (by decide) (by decide) rfl rfl (Nat.add_assoc sl _ _)]
  rw [alc' (zn := 8) (a := u + 3) (u + 4) (sl + 24) (by rw [xup1_n n2, xup1_n n1]; exact hS) n3 (by decide) (by decide) (by decide) rfl rfl (Nat.add_assoc sl _ _)]
  rw [alc' (zn := 8) (a := u + 4) (u + 5) (sl + 32) (by rw [xup1_n n3, xup1_n n2, xup1_n n1]; exact hS) n4 (by decide) (by decide) (by decide) rfl rfl (Nat.add_assoc sl _ _)]
  rw [alc' (zn := 32) (a := u + 5) (u + 6) (sl + 64) (by rw [xup1_n n4, xup1_n n3, xup1_n n2, xup1_n n1]; exact hS) n5 (by decide) (by decide) (by decide) rfl rfl (Nat.add_assoc sl _ _)]
  rw [alc' (zn := 32) (a := u + 6) (u + 7) (sl + 96) (by rw [xup1_n n5, xup1_n n4, xup1_n n3, xup1_n n2, xup1_n n1]; exact hS) n6 (by decide) (by decide) (by decide) rfl rfl (Nat.add_assoc sl _ _)]
  rw [alc' (zn := 20) (a := u + 7) (u + 8) (sl + 116) (by rw [xup1_n n6, xup1_n n5, xup1_n n4, xup1_n n3, xup1_n n2, xup1_n n1]; exact hS) n7 (by decide) (by decide) (by decide) rfl rfl (Nat.add_assoc sl _ _)]
  rw [alc' (zn := 20) (a := u + 8) (u + 9) (sl + 136) (by rw [xup1_n n7, xup1_n n6, xup1_n n5, xup1_n n4, xup1_n n3, xup1_n n2, xup1_n n1]; exact hS) n8 (by decide) (by decide) (by decide) rfl rfl (Nat.add_assoc sl _ _)]
  rw [alc' (zn := 8) (a := u + 9) (u + 10) (sl + 144) (by rw [xup1_n n8, xup1_n n7, xup1_n n6, xup1_n n5, xup1_n n4, xup1_n n3, xup1_n n2, xup1_n n1]; exact hS) n9 (by decide) (by decide) (by decide) rfl rfl (Nat.add_assoc sl _ _)]
  rw [alc' (zn := 8) (a := u + 10) (u + 11) (sl + 152) (by rw [xup1_n n9, xup1_n n8, xup1_n n7, xup1_n n6, xup1_n n5, xup1_n n4, xup1_n n3, xup1_n n2, xup1_n n1]; exact hS) n10 (by decide) (by decide) (by decide) rfl rfl (Nat.add_assoc sl _ _)]
  unfold rSn rGn
  with_reducible rfl
theorem rSn_lt (a : Nat) (ha : a ≤ u) : rSn S u a = S a := by
  unfold rSn
  rw [xup1_n (Nat.ne_of_lt (Nat.lt_of_le_of_lt ha (Nat.lt_add_of_pos_right (by decide)))), xup1_n (Nat.ne_of_lt (Nat.lt_of_le_of_lt ha (Nat.lt_add_of_pos_right (by decide)))), xup1_n (Nat.ne_of_lt (Nat.lt_of_le_of_lt ha (Nat.lt_add_of_pos_right (by decide)))), xup1_n (Nat.ne_of_lt (Nat.lt_of_le_of_lt ha (Nat.lt_add_of_pos_right (by decide)))), xup1_n (Nat.ne_of_lt (Nat.lt_of_le_of_lt ha (Nat.lt_add_of_pos_right (by decide)))), xup1_n (Nat.ne_of_lt (Nat.lt_of_le_of_lt ha (Nat.lt_add_of_pos_right (by decide)))), xup1_n (Nat.ne_of_lt (Nat.lt_of_le_of_lt ha (Nat.lt_add_of_pos_right (by decide)))), xup1_n (Nat.ne_of_lt (Nat.lt_of_le_of_lt ha (Nat.lt_add_of_pos_right (by decide)))), xup1_n (Nat.ne_of_lt (Nat.lt_of_le_of_lt ha (Nat.lt_add_of_pos_right (by decide)))), xup1_n (Nat.ne_of_lt (Nat.lt_of_le_of_lt ha (Nat.lt_add_of_pos_right (by decide))))]
theorem rGn_lt (a j : Nat) (ha : a ≠ u) (h : a < u) : rGn G u a j = G a j := by
  unfold rGn
  rw [xup2_n (fun y => ha y.1), xz1_n _ (Nat.ne_of_lt (Nat.lt_add_right _ h)), xup2_n (fun y => ha y.1), xz1_n _ (Nat.ne_of_lt (Nat.lt_add_right _ h)), xup2_n (fun y => ha y.1), xz1_n _ (Nat.ne_of_lt (Nat.lt_add_right _ h)), xup2_n (fun y => ha y.1), xz1_n _ (Nat.ne_of_lt (Nat.lt_add_right _ h)), xup2_n (fun y => ha y.1), xz1_n _ (Nat.ne_of_lt (Nat.lt_add_right _ h)), xup2_n (fun y => ha y.1), xz1_n _ (Nat.ne_of_lt (Nat.lt_add_right _ h)), xup2_n (fun y => ha y.1), xz1_n _ (Nat.ne_of_lt (Nat.lt_add_right _ h)), xup2_n (fun y => ha y.1), xz1_n _ (Nat.ne_of_lt (Nat.lt_add_right _ h)), xup2_n (fun y => ha y.1), xz1_n _ (Nat.ne_of_lt (Nat.lt_add_right _ h)), xup2_n (fun y => ha y.1), xz1_n _ (Nat.ne_of_lt (Nat.lt_add_right _ h)), xup2_n (fun y => ha y.1), xup2_n (fun y => ha y.1)]
theorem rSn_s (hS : S u = (1, 6, 20)) : cRuS (rSn S u) u := by
  refine ⟨by rw [rSn_lt u (Nat.le_refl u)]; exact hS, ?_, ?_, ?_, ?_, ?_, ?_, ?_, ?_, ?_, ?_⟩
  · unfold rSn; rw [xup1_n (by omega), xup1_n (by omega), xup1_n (by omega), xup1_n (by omega), xup1_n (by omega), xup1_n (by omega), xup1_n (by omega), xup1_n (by omega), xup1_n (by omega), xup1_s]
  · unfold rSn; rw [xup1_n (by omega), xup1_n (by omega), xup1_n (by omega), xup1_n (by omega), xup1_n (by omega), xup1_n (by omega), xup1_n (by omega), xup1_n (by omega), xup1_s]
  · unfold rSn; rw [xup1_n (by omega), xup1_n (by omega), xup1_n (by omega), xup1_n (by omega), xup1_n (by omega), xup1_n (by omega), xup1_n (by omega), xup1_s]
  · unfold rSn; rw [xup1_n (by omega), xup1_n (by omega), xup1_n (by omega), xup1_n (by omega), xup1_n (by omega), xup1_n (by omega), xup1_s]
  · unfold rSn; rw [xup1_n (by omega), xup1_n (by omega), xup1_n (by omega), xup1_n (by omega), xup1_n (by omega), xup1_s]
  · unfold rSn; rw [xup1_n (by omega), xup1_n (by omega), xup1_n (by omega), xup1_n (by omega), xup1_s]
  · unfold rSn; rw [xup1_n (by omega), xup1_n (by omega), xup1_n (by omega), xup1_s]
  · unfold rSn; rw [xup1_n (by omega), xup1_n (by omega), xup1_s]
  · unfold rSn; rw [xup1_n (by omega), xup1_s]
  · unfold rSn; rw [xup1_s]
theorem rGn_p : cRuP (rGn G u) u := by
  refine ⟨?_, ?_, ?_, ?_, ?_, ?_, ?_, ?_, ?_, ?_⟩
  · unfold rGn; rw [xup2_n (by omega), xz1_n _ (by omega), xup2_n (by omega), xz1_n _ (by omega), xup2_n (by omega), xz1_n _ (by omega), xup2_n (by omega), xz1_n _ (by omega), xup2_n (by omega), xz1_n _ (by omega), xup2_n (by omega), xz1_n _ (by omega), xup2_n (by omega), xz1_n _ (by omega), xup2_n (by omega), xz1_n _ (by omega), xup2_n (by omega), xz1_n _ (by omega), xup2_s]
  · unfold rGn; rw [xup2_n (by omega), xz1_n _ (by omega), xup2_n (by omega), xz1_n _ (by omega), xup2_n (by omega), xz1_n _ (by omega), xup2_n (by omega), xz1_n _ (by omega), xup2_n (by omega), xz1_n _ (by omega), xup2_n (by omega), xz1_n _ (by omega), xup2_n (by omega), xz1_n _ (by omega), xup2_n (by omega), xz1_n _ (by omega), xup2_s]
  · unfold rGn; rw [xup2_n (by omega), xz1_n _ (by omega), xup2_n (by omega), xz1_n _ (by omega), xup2_n (by omega), xz1_n _ (by omega), xup2_n (by omega), xz1_n _ (by omega), xup2_n (by omega), xz1_n _ (by omega), xup2_n (by omega), xz1_n _ (by omega), xup2_n (by omega), xz1_n _ (by omega), xup2_s]
  · unfold rGn; rw [xup2_n (by omega), xz1_n _ (by omega), xup2_n (by omega), xz1_n _ (by omega), xup2_n (by omega), xz1_n _ (by omega), xup2_n (by omega), xz1_n _ (by omega), xup2_n (by omega), xz1_n _ (by omega), xup2_n (by omega), xz1_n _ (by omega), xup2_s]
  · unfold rGn; rw [xup2_n (by omega), xz1_n _ (by omega), xup2_n (by omega), xz1_n _ (by omega), xup2_n (by omega), xz1_n _ (by omega), xup2_n (by omega), xz1_n _ (by omega), xup2_n (by omega), xz1_n _ (by omega), xup2_s]
  · unfold rGn; rw [xup2_n (by omega), xz1_n _ (by omega), xup2_n (by omega), xz1_n _ (by omega), xup2_n (by omega), xz1_n _ (by omega), xup2_n (by omega), xz1_n _ (by omega), xup2_s]
  · unfold rGn; rw [xup2_n (by omega), xz1_n _ (by omega), xup2_n (by omega), xz1_n _ (by omega), xup2_n (by omega), xz1_n _ (by omega), xup2_s]
  · unfold rGn; rw [xup2_n (by omega), xz1_n _ (by omega), xup2_n (by omega), xz1_n _ (by omega), xup2_s]
  · unfold rGn; rw [xup2_n (by omega), xz1_n _ (by omega), xup2_s]
  · unfold rGn; rw [xup2_s]
theorem rGn_f (j : Nat) (hj : j = 2 ∨ j = 6 ∨ j = 8 ∨ j = 0 ∨ j = 3) : rGn G u u j = xup2 (xup2 G u 0 (-1)) u 3 (-1) u j := by
  unfold rGn
  rw [xup2_n (by omega), xz1_n _ (by omega), xup2_n (by omega), xz1_n _ (by omega), xup2_n (by omega), xz1_n _ (by omega), xup2_n (by omega), xz1_n _ (by omega), xup2_n (by omega), xz1_n _ (by omega), xup2_n (by omega), xz1_n _ (by omega), xup2_n (by omega), xz1_n _ (by omega), xup2_n (by omega), xz1_n _ (by omega), xup2_n (by omega), xz1_n _ (by omega), xup2_n (by omega), xz1_n _ (by omega)]
theorem rGn_z (a j : Nat) (h1 : u < a) (h2 : a ≤ u + 10) : rGn G u a j = 0 := by
  have n0 : a ≠ u := by omega
  unfold rGn
  rw [xup2_n (fun y => n0 y.1)]
  by_cases c10 : a = u + 10
  · rw [c10, xz1_s]
  rw [xz1_n _ c10]
  rw [xup2_n (fun y => n0 y.1)]
  by_cases c9 : a = u + 9
  · rw [c9, xz1_s]
  rw [xz1_n _ c9]
  rw [xup2_n (fun y => n0 y.1)]
  by_cases c8 : a = u + 8
  · rw [c8, xz1_s]
  rw [xz1_n _ c8]
  rw [xup2_n (fun y => n0 y.1)]
  by_cases c7 : a = u + 7
  · rw [c7, xz1_s]
  rw [xz1_n _ c7]
  rw [xup2_n (fun y => n0 y.1)]
  by_cases c6 : a = u + 6
  · rw [c6, xz1_s]
  rw [xz1_n _ c6]
  rw [xup2_n (fun y => n0 y.1)]
  by_cases c5 : a = u + 5
  · rw [c5, xz1_s]
  rw [xz1_n _ c5]
  rw [xup2_n (fun y => n0 y.1)]
  by_cases c4 : a = u + 4
  · rw [c4, xz1_s]
  rw [xz1_n _ c4]
  rw [xup2_n (fun y => n0 y.1)]
  by_cases c3 : a = u + 3
  · rw [c3, xz1_s]
  rw [xz1_n _ c3]
  rw [xup2_n (fun y => n0 y.1)]
  by_cases c2 : a = u + 2
  · rw [c2, xz1_s]
  rw [xz1_n _ c2]
  rw [xup2_n (fun y => n0 y.1)]
  by_cases c1 : a = u + 1
  · rw [c1, xz1_s]
  rw [xz1_n _ c1]
  exact absurd h2 (by omega)
theorem k_87 (hu : 0 < u) (hS : S u = (1, 6, 20)) (hG : ∀ j, G u j = 0) : ∃ S' G', c87 f u (S, G, (u + 1, sl)) = some (S', G', (u + 11, sl + 152)) ∧ (∀ a, a ≤ u → S' a = S a) ∧ (∀ a j, a < u → G' a j = G a j) ∧ cRuS S' u ∧ cRuP G' u ∧ cRu1 G' u := by
  refine ⟨_, _, k_87e hu hS, fun a ha => rSn_lt a ha, fun a j ha => rGn_lt a j (Nat.ne_of_lt ha) ha, rSn_s hS, rGn_p, ?_, ?_, ?_, ?_, ?_, fun a j h1 h2 => rGn_z a j h1 h2⟩
  · rw [rGn_f 0 (by omega), xup2_n (by omega), xup2_s]
  · rw [rGn_f 3 (by omega), xup2_s]
  · rw [rGn_f 2 (by omega), xup2_n (by omega), xup2_n (by omega)]; exact hG 2
  · rw [rGn_f 6 (by omega), xup2_n (by omega), xup2_n (by omega)]; exact hG 6
  · rw [rGn_f 8 (by omega), xup2_n (by omega), xup2_n (by omega)]; exact hG 8
/-- beginRule() -/
theorem k_35 (hs : cSs S) (hu : 278 < u) : ∃ S' G', c35 f 72 (S, G, (u, sl)) = some (S', G', (u + 11, sl + 172)) ∧ (∀ a, a < u → S' a = S a) ∧ (∀ a j, a < u → ¬ (a = 72 ∧ (j = 5 ∨ j = 9)) → G' a j = G a j) ∧ cRuS S' u ∧ cRuP G' u ∧ cRu1 G' u ∧ G' 72 5 = (u : Int) ∧ G' 72 9 = 0 := by
  obtain ⟨S', G', a1, a2, a3, a4, a5, a6⟩ := k_87 (f := f) (u := u) (sl := sl + 20) (S := xup1 S u (1, 6, 20)) (G := xz1 G u (fun _ => 0)) (by omega) (xup1_s _ _ _) (fun j => xz1_s _ _ _ _)
  have s72' : S' 72 = (1, 4, 20) := by rw [a2 72 (by omega), xup1_n (by omega)]; exact s72 hs
  refine ⟨S', xup2 (xup2 G' 72 5 (u : Int)) 72 9 0, ?_, fun a ha => by rw [a2 a (by omega), xup1_n (by omega)], fun a j ha hn => by rw [xup2_n (by omega), xup2_n (by omega), a3 a j ha, xz1_n j (by omega)], a4, ?_, ?_, by rw [xup2_n (by omega), xup2_s], xup2_s _ _ _ _⟩
  · unfold c35 cq_nw
    rw [Option.bind_some]
    show ((c87 f u (xup1 S u (1, 6, 20), xz1 G u (fun _ => 0), (u + 1, sl + 20))).bind _) = _
    rw [a1, Option.bind_some]
    simp (disch := omega) only [cq_gi, cq_gr, cq_a, cq_s, cq_p, cq_pr, cq_is, cq_ar, cq_ab, cq_ln, xq_nz, Option.bind_some, xup2_n, xup2_s, Int.toNat_natCast, Int.reduceToNat, if_pos, if_neg, true_and, and_true, and_self, eq_self, if_true, reduceIte, not_true_eq_false, not_false_eq_true, or_true, true_or, s72']
  · unfold cRuP at a5 ⊢
    simp (disch := omega) only [xup2_n]
    exact a5
  · obtain ⟨b1, b2, b3, b4, b5, b6⟩ := a6
    refine ⟨?_, ?_, ?_, ?_, ?_, fun a j h1 h2 => ?_⟩
    · rw [xup2_n (by omega), xup2_n (by omega)]; exact b1
    · rw [xup2_n (by omega), xup2_n (by omega)]; exact b2
    · rw [xup2_n (by omega), xup2_n (by omega)]; exact b3
    · rw [xup2_n (by omega), xup2_n (by omega)]; exact b4
    · rw [xup2_n (by omega), xup2_n (by omega)]; exact b5
    · rw [xup2_n (by omega), xup2_n (by omega)]; exact b6 a j h1 h2
end
