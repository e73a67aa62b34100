/-! THE CLASS reads EXPRESSIONS as the spec says -/
def xWr (f : Nat) (S : Nat → Nat × Nat × Nat) (m : Nat × Nat) (u N : Nat) (x1 wn : Int) (it : Nat) (G : xG_) (x : Nat) : Prop := ∃ d G', lWr f x1 wn it d (S, G, m) (cWr S G' m (x : Int)) ∧ xF1 u G G' ∧ it + d ≤ N + 1
/-- what comes behind an EXPRESSION whose last signs still wait -/
def xRt (f : Nat) (S : Nat → Nat × Nat × Nat) (m : Nat × Nat) (B : Nat → Int) (n : Nat) (t : tStr) (N w u : Nat) (K0 : pCd) (st : List Int) (l q : Nat) (wn : Int) (it : Nat) (G : xG_) (e : pEx) : Prop := ∃ (d : Nat) (G' : xG_) (K : pCd) (Q : List Int), lSt f 0 wn 0 it d (S, G, m) (S, G', m) ∧ xF1 u G G' ∧ cXs S G' B n t N w u e.1 K (st ++ Q.reverse) e.2.2 ∧ K ++ Q.map cZ = K0 ++ e.2.1.map cOp ∧ (∀ x, x ∈ Q → (l : Int) ≤ cStr x) ∧ Q.length ≤ q ∧ it + d ≤ e.2.2 ∧ cStr (kK t e.2.2) < l
theorem cStr_w {x : Int} (h : x = 43 ∨ x = 45) : cStr x = 1 := by rcases h with q | q <;> rw [q] <;> rfl
theorem cStr_s {x : Int} (h : x = 42 ∨ x = 47 ∨ x = 37) : cStr x = 2 := by rcases h with q | q | q <;> rw [q] <;> rfl
theorem cStr_0 {x : Int} (h : ¬ (x = 42 ∨ x = 47 ∨ x = 37)) (h' : ¬ (x = 43 ∨ x = 45)) : cStr x = 0 := by unfold cStr; rw [if_neg h, if_neg h']
theorem cStr_1 {x : Int} (h : ¬ (x = 42 ∨ x = 47 ∨ x = 37)) : cStr x < 2 := by unfold cStr; rw [if_neg h]; split <;> decide
theorem cStr_nn (x : Int) : 0 ≤ cStr x ∧ cStr x ≤ 2 := by
  by_cases c : x = 42 ∨ x = 47 ∨ x = 37
  · rw [cStr_s c]; decide
  · by_cases c2 : x = 43 ∨ x = 45
    · rw [cStr_w c2]; decide
    · rw [cStr_0 c c2]; decide
theorem cStr_n2 {x : Int} (h : cStr x < 2) : ¬ (x = 42 ∨ x = 47 ∨ x = 37) := fun q => by have := cStr_s q; omega
section
variable {f n N w u : Nat} {S : Nat → Nat × Nat × Nat} {m : Nat × Nat} {B : Nat → Int} {t : tStr} {K0 : pCd}
theorem cOp_1 {E : pCd} {x : Int} {Q : List Int} {K : pCd} (h : K ++ Q.map cZ = K0 ++ E.map cOp) : K ++ (Q ++ [x]).map cZ = K0 ++ (E ++ [(3, x)]).map cOp := by
  rw [List.map_append, ← List.append_assoc, h, List.map_append, List.append_assoc]
  rfl
theorem kx_all (hf : 33 < f) (hok : tOk t) (hvi : vIn t B n) (hN : N ≤ 3000) : ∀ F,
    (∀ (G : xG_) (V : List (Int × Nat)) (E : pCd) (i it : Nat) (st : List Int) (b : Nat), cXs S G B n t N w u V (K0 ++ E.map cOp) st i → K0.length + E.length ≤ i → it ≤ i → nBr st = b → b ≤ 4 → st.length ≤ 3 * b + 2 → 4 * (N - i) + 1 ≤ F → pok (pX t F 0 b (V, E, i)) (xWr f S m u N 0 1 it G) (fun e => ∃ d G', lSt f 0 1 0 it d (S, G, m) (S, G', m) ∧ xF1 u G G' ∧ cXs S G' B n t N w u e.1 (K0 ++ e.2.1.map cOp) st e.2.2 ∧ it + d ≤ e.2.2)) ∧
    (∀ (G : xG_) (V : List (Int × Nat)) (E : pCd) (i it : Nat) (st : List Int) (b : Nat), cXs S G B n t N w u V (K0 ++ E.map cOp) st i → K0.length + E.length ≤ i → it ≤ i → nBr st = b → b ≤ 4 → st.length ≤ 3 * b → (st = [] ∨ ∃ z x, st = z ++ [x] ∧ cStr x < 1) → 4 * (N - i) + 2 ≤ F → pok (pX t F 1 b (V, E, i)) (xWr f S m u N 0 1 it G) (xRt f S m B n t N w u K0 st 1 2 1 it G)) ∧
    (∀ (G : xG_) (V : List (Int × Nat)) (E : pCd) (i it : Nat) (st : List Int) (b : Nat), cXs S G B n t N w u V (K0 ++ E.map cOp) st i → K0.length + E.length ≤ i → it ≤ i → nBr st = b → b ≤ 4 → st.length ≤ 3 * b → (st = [] ∨ ∃ z x, st = z ++ [x] ∧ cStr x < 1) → 4 * (N - i) + 2 ≤ F → pok (pX t F 2 b (V, E, i)) (xWr f S m u N 0 0 it G) (xRt f S m B n t N w u K0 st 1 2 0 it G)) ∧
    (∀ (G : xG_) (V : List (Int × Nat)) (E K : pCd) (i it : Nat) (st Q : List Int) (b : Nat), cXs S G B n t N w u V K (st ++ Q.reverse) i → K ++ Q.map cZ = K0 ++ E.map cOp → (∀ x, x ∈ Q → 2 ≤ cStr x) → Q.length ≤ 1 → K0.length + E.length ≤ i → it ≤ i → nBr st = b → b ≤ 4 → st.length ≤ 3 * b + 1 → (st = [] ∨ ∃ z x, st = z ++ [x] ∧ cStr x < 2) → 4 * (N - i) + 1 ≤ F → pok (pX t F 3 b (V, E, i)) (xWr f S m u N 0 0 it G) (xRt f S m B n t N w u K0 st 2 1 0 it G)) ∧
    (∀ (G : xG_) (V : List (Int × Nat)) (E K : pCd) (i it : Nat) (st Q : List Int) (b : Nat), cXs S G B n t N w u V K (st ++ Q.reverse) i → K ++ Q.map cZ = K0 ++ E.map cOp → (∀ x, x ∈ Q → 1 ≤ cStr x) → Q.length ≤ 2 → K0.length + E.length ≤ i → it ≤ i → nBr st = b → b ≤ 4 → st.length ≤ 3 * b → (st = [] ∨ ∃ z x, st = z ++ [x] ∧ cStr x < 1) → cStr (kK t i) < 2 → 4 * (N - i) + 1 ≤ F → pok (pX t F 4 b (V, E, i)) (xWr f S m u N 0 0 it G) (xRt f S m B n t N w u K0 st 1 2 0 it G)) := by
  intro F
  induction F with
  | zero =>
    refine ⟨?_, ?_, ?_, ?_, ?_⟩ <;> intros <;> omega
  | succ F ih =>
    obtain ⟨P0, P1, P2, P3, P4⟩ := ih
    refine ⟨?_, ?_, ?_, ?_, ?_⟩
    · -- an operand
      intro G V E i it st b h hK hi hb hb4 hl hF
      have hlen : (K0 ++ E.map cOp).length = K0.length + E.length := by rw [List.length_append, List.length_map]
      have hiN := h.2.2.1
      rw [pX_0]
      show pok (if kK t i = 2 then pbind (pVar t V i) fun r => .inr (r.2.1, E ++ [(2, r.1)], r.2.2) else if kK t i = 40 then (if b = 4 then .inl (kS t i) else pbind (pX t F 1 (b + 1) (V, E, i + 1)) fun e' => pbind (pNeed t 41 e'.2.2) fun i => .inr (e'.1, e'.2.1, i)) else pbind (pVal t i) fun r => .inr (V, E ++ [(1, r.1)], r.2)) _ _
      by_cases c : kK t i = 40
      · rw [if_neg (by omega), if_pos c]
        obtain ⟨o1, o2⟩ := kx_openb (f := f) (m := m) (x1 := 0) hf h hi c (by omega)
        by_cases c4 : b = 4
        · rw [if_pos c4]
          exact ⟨1, G, o1 (by omega), .id, by omega⟩
        · rw [if_neg c4]
          obtain ⟨G1, a1, a2, a3⟩ := o2 (by omega)
          have hlt := (h.1.lt h.2.1 (by omega)).1
          have p1 := P1 G1 V E (i + 1) (it + 1) (st ++ [1]) (b + 1) a3 (by omega) (by omega) (by rw [nBr_1, if_pos (by decide)]; omega) (by omega) (by rw [len1]; omega) (.inr ⟨st, 1, rfl, by decide⟩) (by omega)
          cases hp : pX t F 1 (b + 1) (V, E, i + 1) with
          | inl x =>
            rw [hp] at p1
            obtain ⟨d, G2, b1, b2, b3⟩ := p1
            exact ⟨1 + d, G2, a1.wr b1, a2.tr b2, by omega⟩
          | inr e =>
            rw [hp] at p1
            obtain ⟨d, G2, K, Q, b1, b2, b3, b4, b5, b6, b7, b8⟩ := p1
            obtain ⟨_, _, _, q4, _, _⟩ := pX_le F 1 (b + 1) _ e (by decide) hp
            have hle := congrArg List.length b4
            rw [List.length_append, List.length_append, List.length_map, List.length_map] at hle
            have he2 := b3.2.2.1
            have q4' : e.2.1.length + (i + 1) ≤ E.length + e.2.2 := q4
            have cl := kx_close (f := f) (m := m) (x1 := 0) (it := it + (1 + d)) hf b3 (by omega) (by have := (cStr_nn (kK t e.2.2)).1; omega) b5 (by rw [List.length_append, len1, List.length_reverse]; omega) (by omega)
            show pok (pbind (pNeed t 41 e.2.2) fun i => .inr (e.1, e.2.1, i)) _ _
            cases hn : pNeed t 41 e.2.2 with
            | inl x =>
              rw [hn] at cl
              obtain ⟨G3, d1, d2⟩ := cl
              exact ⟨1 + d + 1, G3, (a1.tr b1).wr d1, (a2.tr b2).tr d2, by omega⟩
            | inr j =>
              rw [hn] at cl
              obtain ⟨G3, d1, d2, d3⟩ := cl
              have hj := (pNeed_le hn).1
              rw [b4] at d3
              exact ⟨1 + d + 1, G3, (a1.tr b1).tr d1, (a2.tr b2).tr d2, d3, by show it + (1 + d + 1) ≤ j; omega⟩
      · have op := kx_opnd (f := f) (m := m) (it := it) hf hok hvi h hi c (by omega)
        by_cases c2 : kK t i = 2
        · rw [if_pos c2] at op ⊢
          cases hp : pVar t V i with
          | inl x =>
            rw [hp] at op
            obtain ⟨G1, a1, a2⟩ := op
            exact ⟨1, G1, a1, a2, by omega⟩
          | inr r =>
            rw [hp] at op
            obtain ⟨G1, a1, a2, a3⟩ := op
            have hr := (pVar_le hp).1
            refine ⟨1, G1, a1, a2, ?_, by show it + 1 ≤ r.2.2; omega⟩
            show cXs S G1 B n t N w u r.2.1 (K0 ++ (E ++ [((2 : Int), r.1)]).map cOp) st r.2.2
            rw [List.map_append, ← List.append_assoc]
            exact a3
        · rw [if_neg c2] at op ⊢
          rw [if_neg c]
          cases hp : pVal t i with
          | inl x =>
            rw [hp] at op
            obtain ⟨G1, a1, a2⟩ := op
            exact ⟨1, G1, a1, a2, by omega⟩
          | inr r =>
            rw [hp] at op
            obtain ⟨G1, a1, a2, a3⟩ := op
            have hr := (pVal_le hp).1
            refine ⟨1, G1, a1, a2, ?_, by show it + 1 ≤ r.2; omega⟩
            show cXs S G1 B n t N w u V (K0 ++ (E ++ [((1 : Int), r.1)]).map cOp) st r.2
            rw [List.map_append, ← List.append_assoc]
            exact a3
    · -- all
      intro G V E i it st b h hK hi hb hb4 hl hbt hF
      rw [pX_1]
      have p0 := P0 G V E i it st b h hK hi hb hb4 (by omega) (by omega)
      cases hp : pX t F 0 b (V, E, i) with
      | inl x =>
        rw [hp] at p0
        exact p0
      | inr e =>
        rw [hp] at p0
        obtain ⟨d, G1, a1, a2, a3, a4⟩ := p0
        obtain ⟨_, q2, _, q4, _, _⟩ := pX_le F 0 b _ e (by decide) hp
        have q2' : i < e.2.2 := q2 (by decide)
        have q4' : e.2.1.length + i ≤ E.length + e.2.2 := q4
        have hiN := a3.2.2.1
        have p2 := P2 G1 e.1 e.2.1 e.2.2 (it + d) st b a3 (by omega) a4 hb hb4 hl hbt (by omega)
        show pok (pX t F 2 b e) _ _
        cases hq : pX t F 2 b e with
        | inl x =>
          rw [hq] at p2
          obtain ⟨d', G2, b1, b2, b3⟩ := p2
          exact ⟨d + d', G2, a1.wr b1, a2.tr b2, by omega⟩
        | inr e' =>
          rw [hq] at p2
          obtain ⟨d', G2, K, Q, b1, b2, b3, b4, b5, b6, b7, b8⟩ := p2
          exact ⟨d + d', G2, K, Q, a1.tr b1, a2.tr b2, b3, b4, b5, b6, by omega, b8⟩
    · -- behind the first operand
      intro G V E i it st b h hK hi hb hb4 hl hbt hF
      rw [pX_2]
      have p0 := P3 G V E (K0 ++ E.map cOp) i it st [] b (by rw [List.reverse_nil, List.append_nil]; exact h) (by rw [List.map_nil, List.append_nil]) (fun x hx => by cases hx) (by simp) hK hi hb hb4 (by omega) (by rcases hbt with q | ⟨z, x, q1, q2⟩; exact .inl q; exact .inr ⟨z, x, q1, by omega⟩) (by omega)
      cases hp : pX t F 3 b (V, E, i) with
      | inl x =>
        rw [hp] at p0
        exact p0
      | inr e =>
        rw [hp] at p0
        obtain ⟨d, G1, K, Q, a1, a2, a3, a4, a5, a6, a7, a8⟩ := p0
        obtain ⟨q1, _, _, q4, _, _⟩ := pX_le F 3 b _ e (by decide) hp
        have q1' : i ≤ e.2.2 := q1
        have q4' : e.2.1.length + i ≤ E.length + e.2.2 := q4
        have hiN := a3.2.2.1
        have p2 := P4 G1 e.1 e.2.1 K e.2.2 (it + d) st Q b a3 a4 (fun x hx => by have := a5 x hx; omega) (by omega) (by omega) a7 hb hb4 hl hbt a8 (by omega)
        show pok (pX t F 4 b e) _ _
        cases hq : pX t F 4 b e with
        | inl x =>
          rw [hq] at p2
          obtain ⟨d', G2, b1, b2, b3⟩ := p2
          exact ⟨d + d', G2, a1.wr b1, a2.tr b2, by omega⟩
        | inr e' =>
          rw [hq] at p2
          obtain ⟨d', G2, K, Q, b1, b2, b3, b4, b5, b6, b7, b8⟩ := p2
          exact ⟨d + d', G2, K, Q, a1.tr b1, a2.tr b2, b3, b4, b5, b6, by omega, b8⟩
    · -- strong signs
      intro G V E K i it st Q b h hE hQ hQ1 hK hi hb hb4 hl hbt hF
      rw [pX_3]
      show pok (if kK t i = 42 ∨ kK t i = 47 ∨ kK t i = 37 then pbind (pX t F 0 b (V, E, i + 1)) fun e' => pX t F 3 b (e'.1, e'.2.1 ++ [(3, kK t i)], e'.2.2) else .inr (V, E, i)) _ _
      by_cases c : kK t i = 42 ∨ kK t i = 47 ∨ kK t i = 37
      · rw [if_pos c]
        have hs2 := cStr_s c
        have hle := congrArg List.length hE
        rw [List.length_append, List.length_append, List.length_map, List.length_map] at hle
        obtain ⟨G1, a1, a2, a3⟩ := kx_sign (f := f) (m := m) (x1 := 0) hf h hi (by omega) (by rw [hs2]; exact hbt) (by rw [hs2]; exact hQ) (by rw [List.length_append, List.length_reverse]; omega) (by have := h.2.2.1; omega)
        rw [hE] at a3
        have hlt := (h.1.lt h.2.1 (by omega)).1
        have p0 := P0 G1 V E (i + 1) (it + 1) (st ++ [kK t i]) b a3 (by omega) (by omega) (by rw [nBr_1, if_neg (by omega)]; omega) hb4 (by rw [len1]; omega) (by omega)
        cases hp : pX t F 0 b (V, E, i + 1) with
        | inl x =>
          rw [hp] at p0
          obtain ⟨d, G2, b1, b2, b3⟩ := p0
          exact ⟨1 + d, G2, a1.wr b1, a2.tr b2, by omega⟩
        | inr e =>
          rw [hp] at p0
          obtain ⟨d, G2, b1, b2, b3, b4⟩ := p0
          obtain ⟨_, q2, _, q4, _, _⟩ := pX_le F 0 b _ e (by decide) hp
          have q2' : i + 1 < e.2.2 := q2 (by decide)
          have q4' : e.2.1.length + (i + 1) ≤ E.length + e.2.2 := q4
          have hiN := b3.2.2.1
          have p2 := P3 G2 e.1 (e.2.1 ++ [(3, kK t i)]) (K0 ++ e.2.1.map cOp) e.2.2 (it + (1 + d)) st [kK t i] b b3 (by have := cOp_1 (K0 := K0) (E := e.2.1) (x := kK t i) (Q := []) (K := K0 ++ e.2.1.map cOp) (by rw [List.map_nil, List.append_nil]); exact this) (fun x hx => by rw [List.mem_singleton] at hx; rw [hx]; omega) (by simp) (by rw [len1]; omega) (by omega) hb hb4 hl hbt (by omega)
          show pok (pX t F 3 b (e.1, e.2.1 ++ [(3, kK t i)], e.2.2)) _ _
          cases hq : pX t F 3 b (e.1, e.2.1 ++ [(3, kK t i)], e.2.2) with
          | inl x =>
            rw [hq] at p2
            obtain ⟨d', G3, c1, c2, c3⟩ := p2
            exact ⟨1 + d + d', G3, (a1.tr b1).wr c1, (a2.tr b2).tr c2, by omega⟩
          | inr e' =>
            rw [hq] at p2
            obtain ⟨d', G3, K3, Q3, c1, c2, c3, c4, c5, c6, c7, c8⟩ := p2
            exact ⟨1 + d + d', G3, K3, Q3, (a1.tr b1).tr c1, (a2.tr b2).tr c2, c3, c4, c5, c6, by omega, c8⟩
      · rw [if_neg c]
        exact ⟨0, G, K, Q, .id, .id, h, hE, hQ, hQ1, hi, by show cStr (kK t i) < 2; exact cStr_1 c⟩
    · -- weak signs
      intro G V E K i it st Q b h hE hQ hQ1 hK hi hb hb4 hl hbt hk2 hF
      rw [pX_4]
      show pok (if kK t i = 43 ∨ kK t i = 45 then pbind (pX t F 0 b (V, E, i + 1)) fun e1 => pbind (pX t F 3 b e1) fun e' => pX t F 4 b (e'.1, e'.2.1 ++ [(3, kK t i)], e'.2.2) else .inr (V, E, i)) _ _
      by_cases c : kK t i = 43 ∨ kK t i = 45
      · rw [if_pos c]
        have hs2 := cStr_w c
        have hle := congrArg List.length hE
        rw [List.length_append, List.length_append, List.length_map, List.length_map] at hle
        obtain ⟨G1, a1, a2, a3⟩ := kx_sign (f := f) (m := m) (x1 := 0) hf h hi (by omega) (by rw [hs2]; exact hbt) (by rw [hs2]; exact hQ) (by rw [List.length_append, List.length_reverse]; omega) (by have := h.2.2.1; omega)
        rw [hE] at a3
        have hlt := (h.1.lt h.2.1 (by omega)).1
        have p0 := P0 G1 V E (i + 1) (it + 1) (st ++ [kK t i]) b a3 (by omega) (by omega) (by rw [nBr_1, if_neg (by omega)]; omega) hb4 (by rw [len1]; omega) (by omega)
        cases hp : pX t F 0 b (V, E, i + 1) with
        | inl x =>
          rw [hp] at p0
          obtain ⟨d, G2, b1, b2, b3⟩ := p0
          exact ⟨1 + d, G2, a1.wr b1, a2.tr b2, by omega⟩
        | inr e =>
          rw [hp] at p0
          obtain ⟨d, G2, b1, b2, b3, b4⟩ := p0
          obtain ⟨_, q2, _, q4, _, _⟩ := pX_le F 0 b _ e (by decide) hp
          have q2' : i + 1 < e.2.2 := q2 (by decide)
          have q4' : e.2.1.length + (i + 1) ≤ E.length + e.2.2 := q4
          have hiN := b3.2.2.1
          have p2 := P3 G2 e.1 e.2.1 (K0 ++ e.2.1.map cOp) e.2.2 (it + (1 + d)) (st ++ [kK t i]) [] b (by rw [List.reverse_nil, List.append_nil]; exact b3) (by rw [List.map_nil, List.append_nil]) (fun x hx => by cases hx) (by simp) (by omega) (by omega) (by rw [nBr_1, if_neg (by omega)]; omega) hb4 (by rw [len1]; omega) (.inr ⟨st, kK t i, rfl, by omega⟩) (by omega)
          show pok (pbind (pX t F 3 b e) fun e' => pX t F 4 b (e'.1, e'.2.1 ++ [(3, kK t i)], e'.2.2)) _ _
          cases hq : pX t F 3 b e with
          | inl x =>
            rw [hq] at p2
            obtain ⟨d', G3, c1, c2, c3⟩ := p2
            exact ⟨1 + d + d', G3, (a1.tr b1).wr c1, (a2.tr b2).tr c2, by omega⟩
          | inr e' =>
            rw [hq] at p2
            obtain ⟨d', G3, K3, Q3, c1, c2, c3, c4, c5, c6, c7, c8⟩ := p2
            obtain ⟨r1, _, _, r4, _, _⟩ := pX_le F 3 b _ e' (by decide) hq
            have hiN' := c3.2.2.1
            have c3' : cXs S G3 B n t N w u e'.1 K3 (st ++ (Q3 ++ [kK t i]).reverse) e'.2.2 := by
              rw [List.reverse_append, ← List.append_assoc]
              exact c3
            have p4 := P4 G3 e'.1 (e'.2.1 ++ [(3, kK t i)]) K3 e'.2.2 (it + (1 + d + d')) st (Q3 ++ [kK t i]) b c3' (cOp_1 c4) (fun x hx => by
              rw [List.mem_append, List.mem_singleton] at hx
              rcases hx with q | q
              · have := c5 x q; omega
              · rw [q]; omega) (by rw [len1]; omega) (by rw [len1]; omega) (by omega) hb hb4 hl hbt c8 (by omega)
            show pok (pX t F 4 b (e'.1, e'.2.1 ++ [(3, kK t i)], e'.2.2)) _ _
            cases hz : pX t F 4 b (e'.1, e'.2.1 ++ [(3, kK t i)], e'.2.2) with
            | inl x =>
              rw [hz] at p4
              obtain ⟨d2, G4, y1, y2, y3⟩ := p4
              exact ⟨1 + d + d' + d2, G4, ((a1.tr b1).tr c1).wr y1, ((a2.tr b2).tr c2).tr y2, by omega⟩
            | inr e2 =>
              rw [hz] at p4
              obtain ⟨d2, G4, K4, Q4, y1, y2, y3, y4, y5, y6, y7, y8⟩ := p4
              exact ⟨1 + d + d' + d2, G4, K4, Q4, ((a1.tr b1).tr c1).tr y1, ((a2.tr b2).tr c2).tr y2, y3, y4, y5, y6, by omega, y8⟩
      · rw [if_neg c]
        exact ⟨0, G, K, Q, .id, .id, h, hE, hQ, hQ1, hi, by show cStr (kK t i) < 1; rw [cStr_0 (cStr_n2 hk2) c]; decide⟩
/-- readExpression() of a rule -/
theorem k_53 {F i : Nat} {G : xG_} {V : List (Int × Nat)} (hf : 3010 < f) (hok : tOk t) (hvi : vIn t B n) (h : cXr S G B n t N w u V K0 i) (hK : K0.length ≤ i) (hF : 4 * (N - i) + 2 ≤ F) : pok (pX t F 1 0 (V, [], i)) (fun x => ∃ G', c53 f 72 0 (S, G, m) = some (.inl 0, cWr S G' m (x : Int)) ∧ xF1 u G G') (fun e => ∃ G', c53 f 72 0 (S, G, m) = some (.inr (), (S, G', m)) ∧ xF1 u G G' ∧ cXr S G' B n t N w u e.1 (K0 ++ e.2.1.map cOp) e.2.2) := by
  have hs := h.1.1
  have hu := h.2.2.2.1.2.1
  have hN := h.1.2.2.2.1.2
  have hx : xF1 u G (xup2 G 72 12 0) := fun a j p q r s => xup2_n (by omega)
  have h' : cXs S (xup2 G 72 12 0) B n t N w u V (K0 ++ ([] : pCd).map cOp) [] i := by
    rw [List.map_nil, List.append_nil]
    refine (h.mv hx ⟨?_, h.2.1.2⟩ h.2.2.1 (h.2.2.2.2.1.ge ?_ (fun j => ?_) (fun j => ?_)) h.2.2.2.2.2.1 (h.2.2.2.2.2.2.ge ?_ (fun j => ?_) (fun j => ?_))).s ⟨xup2_s _ _ _ _, fun k hk => absurd hk (Nat.not_lt_zero k)⟩
    · rw [xup2_n (by omega)]; exact h.2.1.1
    · rw [xup2_n (by omega)]
    · rw [xup2_n (by omega)]
    · rw [xup2_n (by omega)]
    · rw [xup2_n (by omega)]
    · rw [xup2_n (by omega)]
    · rw [xup2_n (by omega)]
  have e1 : c53 f 72 0 (S, G, m) = c53_9 f f 72 0 1 ((0 : Nat) : Int) (S, xup2 G 72 12 0, m) := by
    unfold c53
    simp (disch := omega) only [cq_gi, cq_gr, cq_a, cq_s, cq_p, cq_pr, cq_is, cq_ar, cq_ab, cq_ln, xq_nz, Option.bind_some, xup2_n, xup2_s, Int.toNat_natCast, Int.reduceToNat, if_pos, if_neg, true_and, and_true, and_self, eq_self, if_true, reduceIte, not_true_eq_false, not_false_eq_true, or_true, true_or, s72 hs]
    rfl
  have p := (kx_all (f := f) (m := m) (w := w) (u := u) (S := S) (K0 := K0) (by omega) hok hvi hN F).2.1 _ V [] i 0 [] 0 h' (by simp; omega) (by omega) rfl (by omega) (by simp) (.inl rfl) hF
  cases hp : pX t F 1 0 (V, [], i) with
  | inl x =>
    rw [hp] at p
    obtain ⟨d, G', a1, a2, a3⟩ := p
    refine ⟨G', ?_, hx.tr a2⟩
    rw [e1]
    have := a1 (f - d)
    have q : f - d + d = f := by omega
    rw [q] at this
    exact this
  | inr e =>
    rw [hp] at p
    obtain ⟨d, G', K, Q, a1, a2, a3, a4, a5, a6, a7, a8⟩ := p
    obtain ⟨_, _, _, q4, _, _⟩ := pX_le F 1 0 _ e (by decide) hp
    have q4' : e.2.1.length + i ≤ 0 + e.2.2 := q4
    have hle := congrArg List.length a4
    rw [List.length_append, List.length_append, List.length_map, List.length_map] at hle
    have he := a3.2.2.1
    obtain ⟨G2, b1, b2, b3⟩ := kx_end (f := f) (m := m) (x1 := 0) (it := 0 + d) (by omega) a3 a7 (by have := (cStr_nn (kK t e.2.2)).1; omega) (.inl rfl) a5 (by simp; omega) (by omega)
    refine ⟨G2, ?_, (hx.tr a2).tr b1, ?_⟩
    · rw [e1]
      have := a1 (f - d)
      have q : f - d + d = f := by omega
      rw [q] at this
      rw [this]
      have q' : f - d = (f - d - 1) + 1 := by omega
      rw [q', b3, if_pos rfl]
    · rw [← a4]; exact b2.r
end
