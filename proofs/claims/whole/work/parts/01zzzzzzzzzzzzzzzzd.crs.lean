/-! THE CLASS: reason: isGiven, isBelowBest, fix -/
section
variable {f u n nv x b : Nat} {S : Nat → Nat × Nat × Nat} {G G' : xG_} {m : Nat × Nat} {gt : Int} {as xs : List Int} {I : List pCd} {K : pCd} {g : Int × Int × Int}
theorem o_s {x kk L z : Nat} {v : Int} (h : S x = (2, kk, L)) (hz : z < L) : cq_s kk x (z : Int) v (S, G, m) = some (S, xup2 G x z v, m) := by
  unfold cq_s
  show (if (S x).1 = 2 ∧ (S x).2.1 = kk ∧ 0 ≤ (z : Int) ∧ (z : Int) < (S x).2.2 then some (S, xup2 G x (z : Int).toNat v, m) else none) = _
  rw [h, if_pos ⟨rfl, rfl, by omega, by show (z : Int) < (L : Int); omega⟩]
  rfl
theorem k_165l (hs : cSs S) (hp : cPs G) (su : S u = (1, 6, 20)) (h2 : G u 2 = (n : Int)) (hn : n ≤ 4) (h3 : G u 3 = gt) : ∀ (d c fu : Nat), c + d = n → d < fu → ∃ v, c165_2 f fu 93 u (c : Int) (S, G, m) = some (v, (S, G, m)) ∧ (v = 1 ∧ (∀ k, c ≤ k → k < n → (k : Int) ≠ gt → G 103 k = G 105 k) ∨ v = 0 ∧ ∃ k, c ≤ k ∧ k < n ∧ (k : Int) ≠ gt ∧ G 103 k ≠ G 105 k) := by
  intro d
  induction d with
  | zero =>
    intro c fu e1 e2
    obtain ⟨fu, rfl⟩ : ∃ t, fu = t + 1 := ⟨fu - 1, by omega⟩
    refine ⟨1, ?_, .inl ⟨rfl, fun k k1 k2 => by omega⟩⟩
    show c165_2b (c165_2 f fu) f _ _ _ _ = _
    unfold c165_2b
    rw [o_gi su, Option.bind_some, h2, if_pos (by omega)]
  | succ d ih =>
    intro c fu e1 e2
    obtain ⟨fu, rfl⟩ : ∃ t, fu = t + 1 := ⟨fu - 1, by omega⟩
    have w1 : xwr ((c : Int) + 1) = ((c + 1 : Nat) : Int) := by rw [xwr_g _ (by omega) (by omega)]; omega
    obtain ⟨v, i1, i2⟩ := ih (c + 1) fu (by omega) (by omega)
    have ee : c165_2 f (fu + 1) 93 u (c : Int) (S, G, m) = c165_2b (c165_2 f fu) f 93 u (c : Int) (S, G, m) := rfl
    rw [ee]
    unfold c165_2b c165_36
    rw [o_gi su, Option.bind_some, h2, if_neg (by omega), o_gi su, Option.bind_some, h3, w1]
    by_cases cg : (c : Int) = gt
    · rw [if_pos cg]
      refine ⟨v, i1, ?_⟩
      rcases i2 with ⟨e, z⟩ | ⟨e, k, k1, k2, k3⟩
      · refine .inl ⟨e, fun k q1 q2 q3 => z k ?_ q2 q3⟩
        by_cases ek : k = c
        · rw [ek] at q3; exact absurd cg q3
        · omega
      · exact .inr ⟨e, k, by omega, k2, k3⟩
    · rw [if_neg cg, o_gr (y := 103) (s93 hs) (p93_9 hp), Option.bind_some, o_a (s103 hs) (by omega), Option.bind_some, o_gr (y := 105) (s93 hs) (p93_11 hp), Option.bind_some, o_a (s105 hs) (by omega), Option.bind_some]
      by_cases ce : G 103 c = G 105 c
      · rw [if_pos ce]
        refine ⟨v, i1, ?_⟩
        rcases i2 with ⟨e, z⟩ | ⟨e, k, k1, k2, k3⟩
        · refine .inl ⟨e, fun k q1 q2 q3 => ?_⟩
          by_cases ek : k = c
          · rw [ek]; exact ce
          · exact z k (by omega) q2 q3
        · exact .inr ⟨e, k, by omega, k2, k3⟩
      · rw [if_neg ce]
        exact ⟨0, rfl, .inr ⟨rfl, c, Nat.le_refl _, by omega, cg, ce⟩⟩
/-- isGiven() -/
theorem k_165 (hf : 20 < f) (hs : cSs S) (hp : cPs G) (su : S u = (1, 6, 20)) (h2 : G u 2 = (n : Int)) (hn : n ≤ 4) (h3 : G u 3 = gt) : ∃ v, c165 f 93 u (S, G, m) = some (v, (S, G, m)) ∧ (v = 1 ∧ (∀ k, k < n → (k : Int) ≠ gt → G 103 k = G 105 k) ∨ v = 0 ∧ ∃ k, k < n ∧ (k : Int) ≠ gt ∧ G 103 k ≠ G 105 k) := by
  obtain ⟨v, v1, v2⟩ := k_165l (f := f) (m := m) hs hp su h2 hn h3 n 0 f (by omega) (by omega)
  refine ⟨v, v1, ?_⟩
  rcases v2 with ⟨e, z⟩ | ⟨e, k, k1, k2⟩
  · exact .inl ⟨e, fun k => z k (Nat.zero_le _)⟩
  · exact .inr ⟨e, k, k2⟩
/-- isBelowBest() -/
def vcN (g h : Nat → Int) : Nat → Nat → Int
  | _, 0 => 0
  | v, d + 1 => if g v = h v then vcN g h (v + 1) d else if g v < h v then -1 else 1
theorem vcN_e (g h : Nat → Int) : ∀ (d v : Nat), vCmp ((List.range' v d).map g) ((List.range' v d).map h) = vcN g h v d
  | 0, v => rfl
  | d + 1, v => by
    show (if g v = h v then vCmp ((List.range' (v + 1) d).map g) ((List.range' (v + 1) d).map h) else if g v < h v then -1 else 1) = if g v = h v then vcN g h (v + 1) d else if g v < h v then -1 else 1
    rw [vcN_e g h d (v + 1)]
theorem vcN_v (g h : Nat → Int) : vcN g h 0 nv = vCmp (vec nv g) (vec nv h) := by
  unfold vec
  rw [List.range_eq_range', vcN_e]
theorem k_166 (hs : cSs S) (hp : cPs G) (hnv : nv ≤ 8) : ∀ (d v fu : Nat), v + d = nv → d < fu → c166_2 f fu 93 (nv : Int) (v : Int) (S, G, m) = some (if vcN (G 84) (G 106) v d < 0 then 1 else 0, (S, G, m)) := by
  intro d
  induction d with
  | zero =>
    intro v fu e1 e2
    obtain ⟨fu, rfl⟩ : ∃ t, fu = t + 1 := ⟨fu - 1, by omega⟩
    show c166_2b (c166_2 f fu) f _ _ _ _ = some (if (0 : Int) < 0 then 1 else 0, (S, G, m))
    unfold c166_2b
    rw [if_pos (by omega), if_neg (by omega)]
  | succ d ih =>
    intro v fu e1 e2
    obtain ⟨fu, rfl⟩ : ∃ t, fu = t + 1 := ⟨fu - 1, by omega⟩
    have w1 : xwr ((v : Int) + 1) = ((v + 1 : Nat) : Int) := by rw [xwr_g _ (by omega) (by omega)]; omega
    have e50 : ∀ w : Int, w = 0 ∨ w = 1 → c166_50 f w (S, G, m) = some (w, (S, G, m)) := fun w hw => if_pos hw
    show c166_2b (c166_2 f fu) f _ _ _ _ = some (if (if G 84 v = G 106 v then vcN (G 84) (G 106) (v + 1) d else if G 84 v < G 106 v then -1 else 1) < 0 then 1 else 0, (S, G, m))
    unfold c166_2b
    rw [if_neg (by omega), o_gr (y := 83) (s93 hs) (p93_0 hp), Option.bind_some, o_gr (y := 84) (s83 hs) (p83_0 hp), Option.bind_some, o_a (s84 hs) (by omega), Option.bind_some, o_gr (y := 106) (s93 hs) (p93_12 hp), Option.bind_some, o_a (s106 hs) (by omega), Option.bind_some]
    by_cases c : G 84 v = G 106 v
    · rw [if_pos c, if_pos c, w1]
      exact ih (v + 1) fu (by omega) (by omega)
    · rw [if_neg c, if_neg c, Option.bind_some, o_gr (y := 84) (s83 hs) (p83_0 hp), Option.bind_some, o_a (s84 hs) (by omega), Option.bind_some, Option.bind_some, o_a (s106 hs) (by omega), Option.bind_some]
      by_cases c2 : G 106 v ≤ G 84 v
      · rw [if_pos c2, e50 0 (.inl rfl), if_neg (show ¬ G 84 v < G 106 v by omega), if_neg (by decide)]
      · rw [if_neg c2, e50 1 (.inr rfl), if_pos (show G 84 v < G 106 v by omega), if_pos (by decide)]
/-- fix() -/
theorem k_131 {vl : Nat → Int} {w : Int} (hs : cSs S) (hp : cPs G) (hx : x < 8) (hl : lvE G 0 b vl) (hw : vOk w) : ∃ v G', c131 f 83 (x : Int) w (S, G, m) = some (v, (S, G', m)) ∧ (∀ a j, ¬ (a = 84 ∧ j = x) → ¬ (a = 87 ∧ j = 0) → G' a j = G a j) ∧ ((v = 0 ∧ b.testBit x = true ∧ vl x ≠ w) ∨ (v = 1 ∧ ∃ vl', lvE G' 0 (b ||| 2 ^ x) vl' ∧ vl' x = w ∧ ∀ j, b.testBit j = true → vl' j = vl j)) := by
  obtain ⟨l1, l2, l3⟩ := hl
  have e30 : ∀ w : Int, w = 0 ∨ w = 1 → c131_30 f w (S, G, m) = some (w, (S, G, m)) := fun w hw => if_pos hw
  have ea : cq_a 3 87 0 (S, G, m) = some (b : Int) := by rw [← l1]; exact o_a (z := 0) (s87 hs) (by omega)
  have b31 : b < 2147483648 := by omega
  have b8 : b < 256 := l2
  unfold c131
  rw [o_gr (y := 87) (s83 hs) (p83_8 hp), Option.bind_some, ea, Option.bind_some]
  cases hb : b.testBit x with
  | true =>
    have z := (xbit b31 (by omega : x < 32)).mpr hb
    obtain ⟨q1, q2, q3⟩ := l3 x hb
    rw [if_neg (fun y => y z), o_gr (y := 84) (s83 hs) (p83_0 hp), Option.bind_some, o_a (s84 hs) hx, Option.bind_some, q2]
    by_cases c : vl x = w
    · rw [if_neg (fun y => y c), e30 1 (.inr rfl)]
      have eb : b ||| 2 ^ x = b := by
        apply Nat.eq_of_testBit_eq
        intro j
        rw [Nat.testBit_or, Nat.testBit_two_pow]
        by_cases ej : x = j
        · rw [← ej, hb]; rfl
        · rw [decide_eq_false ej, Bool.or_false]
      exact ⟨1, G, rfl, fun _ _ _ _ => rfl, .inr ⟨rfl, vl, by rw [eb]; exact ⟨l1, l2, l3⟩, c, fun _ _ => rfl⟩⟩
    · rw [if_pos c, e30 0 (.inl rfl)]
      exact ⟨0, G, rfl, fun _ _ _ _ => rfl, .inl ⟨rfl, rfl, c⟩⟩
  | false =>
    have z : ¬ xand (xshr (b : Int) (x : Int)) 1 = 1 := fun y => by rw [(xbit b31 (by omega : x < 32)).mp y] at hb; cases hb
    have es : cq_s 4 84 (x : Int) w (S, G, m) = some (S, xup2 G 84 x w, m) := o_s (s84 hs) hx
    have p1 : cPs (xup2 G 84 x w) := hp.ge (fun a j hz => xup2_n (by
      rcases hz with z | z | z | z | z | z | z | ⟨z, z1, z2, k, z3⟩ | z | z | z | ⟨k, z1, z2, z3⟩ <;> omega))
    have ea2 : cq_a 3 87 0 (S, xup2 G 84 x w, m) = some (b : Int) := by
      have : cq_a 3 87 0 (S, xup2 G 84 x w, m) = some (xup2 G 84 x w 87 0) := o_a (z := 0) (s87 hs) (by omega)
      rw [this, xup2_n (by omega), l1]
    have lt : b ||| 2 ^ x < 2 ^ 8 := Nat.or_lt_two_pow l2 (Nat.pow_lt_pow_right (by decide) hx)
    have eo : xor_ (b : Int) (xshl 1 (x : Int)) = ((b ||| 2 ^ x : Nat) : Int) := by
      rw [xshl_nat (by omega : x < 31), xor_nat b31 (by have : 2 ^ x < 2 ^ 8 := Nat.pow_lt_pow_right (by decide) hx; omega)]
    have es2 : cq_s 3 87 0 ((b ||| 2 ^ x : Nat) : Int) (S, xup2 G 84 x w, m) = some (S, xup2 (xup2 G 84 x w) 87 0 ((b ||| 2 ^ x : Nat) : Int), m) := o_s (z := 0) (s87 hs) (by omega)
    rw [if_pos z, o_gr (y := 84) (s83 hs) (p83_0 hp), Option.bind_some, es, Option.bind_some, o_gr (y := 87) (s83 hs) (p83_8 p1), Option.bind_some, ea2, Option.bind_some, eo, es2, Option.bind_some]
    refine ⟨1, _, rfl, fun a j y1 y2 => by rw [xup2_n y2, xup2_n y1], .inr ⟨rfl, fun j => if j = x then w else vl j, ⟨by rw [xup2_s], lt, fun j hj => ?_⟩, if_pos rfl, fun j hj => if_neg (fun e => by rw [e, hb] at hj; cases hj)⟩⟩
    rw [xup2_n (by omega)]
    by_cases ej : j = x
    · subst ej
      refine ⟨hx, ?_, ?_⟩
      · rw [xup2_s]; exact (if_pos rfl).symm
      · show vOk (if j = j then w else vl j)
        rw [if_pos rfl]; exact hw
    · rw [Nat.testBit_or, Nat.testBit_two_pow, decide_eq_false (fun e => ej e.symm), Bool.or_false] at hj
      obtain ⟨q1, q2, q3⟩ := l3 j hj
      refine ⟨q1, ?_, ?_⟩
      · rw [xup2_n (by omega), q2]; exact (if_neg ej).symm
      · show vOk (if j = x then w else vl j)
        rw [if_neg ej]; exact q3
end
