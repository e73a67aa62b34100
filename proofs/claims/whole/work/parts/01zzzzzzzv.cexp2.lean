/-! THE CLASS reads EXPRESSIONS: the loop -/
/-- turns of the loop lead from here to there -/
def lSt (f : Nat) (x1 wn wn' : Int) (it d : Nat) (T T' : xT_) : Prop := ∀ fu, c53_9 f (fu + d) 72 x1 wn (it : Int) T = c53_9 f fu 72 x1 wn' ((it + d : Nat) : Int) T'
def lWr (f : Nat) (x1 wn : Int) (it d : Nat) (T T' : xT_) : Prop := ∀ fu, c53_9 f (fu + d) 72 x1 wn (it : Int) T = some (.inl 0, T')
section
variable {f n N w i u it : Nat} {S : Nat → Nat × Nat × Nat} {G G' G'' : xG_} {m : Nat × Nat} {B : Nat → Int} {t : tStr} {V V' : List (Int × Nat)} {K K' : pCd} {st st' : List Int} {x1 : Int}
theorem lSt.id {a : Int} {T : xT_} : lSt f x1 a a it 0 T T := fun _ => rfl
theorem lSt.tr {a b c : Int} {d e : Nat} {T T' T'' : xT_} (h : lSt f x1 a b it d T T') (h' : lSt f x1 b c (it + d) e T' T'') : lSt f x1 a c it (d + e) T T'' := fun fu => by
  have q : fu + (d + e) = fu + e + d := by omega
  rw [q, h (fu + e), h' fu, Nat.add_assoc]
theorem lSt.wr {a b : Int} {d e : Nat} {T T' T'' : xT_} (h : lSt f x1 a b it d T T') (h' : lWr f x1 b (it + d) e T' T'') : lWr f x1 a it (d + e) T T'' := fun fu => by
  have q : fu + (d + e) = fu + e + d := by omega
  rw [q, h (fu + e), h' fu]
/-- a turn: the kind of the TOKEN -/
theorem kx_turn {wn : Int} (h : cXs S G B n t N w u V K st i) (hi : it ≤ i) (fu : Nat) (hw : wn = 0 ∨ kK t i = 40 ∨ x1 = 0) : c53_9 f (fu + 1) 72 x1 wn (it : Int) (S, G, m) = (if wn = 0 then c53_68 (c53_9 f fu) f 72 x1 wn (it : Int) (kK t i) (S, G, m) else if kK t i = 40 then c53_59 (c53_9 f fu) f 72 x1 wn (it : Int) (kK t i) (S, G, m) else c53_68 (c53_9 f fu) f 72 x1 wn (it : Int) (kK t i) (S, G, m)) := by
  have hE := h.1
  obtain ⟨k1, k2, k3, k4⟩ := hE.tk h.2.1
  have hs := hE.1
  have hp := hE.2.1
  have hN := hE.2.2.2.1.2
  have hi' := h.2.2.1
  show c53_9b (c53_9 f fu) f 72 _ _ _ _ = _
  unfold c53_9b
  rw [if_neg (by omega)]
  by_cases c : wn = 0
  · rw [if_pos c]
    simp (disch := omega) only [cq_gi, cq_gr, cq_a, cq_s, cq_p, cq_pr, cq_is, cq_ar, cq_ab, cq_ln, xq_nz, Option.bind_some, xup2_n, xup2_s, Int.toNat_natCast, Int.reduceToNat, if_pos, if_neg, true_and, and_true, and_self, eq_self, if_true, reduceIte, not_true_eq_false, not_false_eq_true, or_true, true_or, s72 hs, s65 hs, s67 hs, p72_0 hp, p65_3 hp, k1, k3]
  · rw [if_neg c]
    by_cases c2 : kK t i = 40
    · rw [if_pos c2]
      simp (disch := omega) only [cq_gi, cq_gr, cq_a, cq_s, cq_p, cq_pr, cq_is, cq_ar, cq_ab, cq_ln, xq_nz, Option.bind_some, xup2_n, xup2_s, Int.toNat_natCast, Int.reduceToNat, if_pos, if_neg, true_and, and_true, and_self, eq_self, if_true, reduceIte, not_true_eq_false, not_false_eq_true, or_true, true_or, s72 hs, s65 hs, s67 hs, p72_0 hp, p65_3 hp, k1, k3]
    · rw [if_neg c2]
      have hx : x1 = 0 := by rcases hw with q | q | q <;> first | exact absurd q c | exact absurd q c2 | exact q
      simp (disch := omega) only [cq_gi, cq_gr, cq_a, cq_s, cq_p, cq_pr, cq_is, cq_ar, cq_ab, cq_ln, xq_nz, Option.bind_some, xup2_n, xup2_s, Int.toNat_natCast, Int.reduceToNat, if_pos, if_neg, true_and, and_true, and_self, eq_self, if_true, reduceIte, not_true_eq_false, not_false_eq_true, or_true, true_or, s72 hs, s65 hs, s67 hs, p72_0 hp, p65_3 hp, k1, k3]
theorem it_1 (h : cXs S G B n t N w u V K st i) (hi : it ≤ i) : xwr ((it : Int) + 1) = ((it + 1 : Nat) : Int) := by
  have hN := h.1.2.2.2.1.2
  have hi' := h.2.2.1
  rw [xwr_g _ (by omega) (by omega)]; omega
/-- a sign -/
theorem kx_sign {Q : List Int} (hf : 33 < f) (h : cXs S G B n t N w u V K (st ++ Q.reverse) i) (hi : it ≤ i) (hk : 0 < cStr (kK t i)) (hb : st = [] ∨ ∃ z x, st = z ++ [x] ∧ cStr x < cStr (kK t i)) (hQ : ∀ x, x ∈ Q → cStr (kK t i) ≤ cStr x) (hl : (st ++ Q.reverse).length ≤ 31) (hK : K.length + Q.length ≤ 3001) : ∃ G', lSt f x1 0 1 it 1 (S, G, m) (S, G', m) ∧ xF1 u G G' ∧ cXs S G' B n t N w u V (K ++ Q.map cZ) (st ++ [kK t i]) (i + 1) := by
  have hs := h.1.1
  rw [List.length_append, List.length_reverse] at hl
  obtain ⟨G1, a1, a2, a3⟩ := k_59_0 (f := f) (m := m) hk hb Q G K f hQ (by omega) (by rw [List.length_append, List.length_reverse]; omega) hK h
  obtain ⟨G2, b1, b2, b3⟩ := k_57 (f := f) (m := m) (x := kK t i) a3 (by omega)
  have hne : kK t i ≠ 0 ∧ kK t i ≠ 5 := by
    refine ⟨fun q => ?_, fun q => ?_⟩ <;> (rw [q] at hk; exact absurd hk (by decide))
  obtain ⟨l1, l2⟩ := b3.1.lt b3.2.1 hne.1
  obtain ⟨d1, d2⟩ := k_37 (f := f) (m := m) b3.1 b3.2.1 hne.2
  obtain ⟨e1, e2⟩ := b3.at d2 (by omega)
  refine ⟨_, fun fu => ?_, (a2.tr b2).tr e1, e2⟩
  have ei := it_1 h hi
  rw [kx_turn h hi fu (.inl rfl), if_pos rfl]
  unfold c53_68 c53_202
  rw [if_pos rfl]
  have a1' : c59 f 72 (cStr (kK t i)) (S, G, m) = some (S, G1, m) := a1
  simp (disch := omega) only [cq_gi, cq_gr, cq_a, cq_s, cq_p, cq_pr, cq_is, cq_ar, cq_ab, cq_ln, xq_nz, Option.bind_some, xup2_n, xup2_s, Int.toNat_natCast, Int.reduceToNat, if_pos, if_neg, true_and, and_true, and_self, eq_self, if_true, reduceIte, not_true_eq_false, not_false_eq_true, or_true, true_or, s72 hs, k_55, a1', b1, d1, ei]
/-- behind an EXPRESSION -/
theorem kx_end {Q : List Int} (hf : 33 < f) (h : cXs S G B n t N w u V K (st ++ Q.reverse) i) (hi : it ≤ i) (hk : cStr (kK t i) = 0) (hb : st = [] ∨ ∃ z x, st = z ++ [x] ∧ cStr x < 1) (hQ : ∀ x, x ∈ Q → 1 ≤ cStr x) (hl : (st ++ Q.reverse).length ≤ 32) (hK : K.length + Q.length ≤ 3001) : ∃ G', xF1 u G G' ∧ cXs S G' B n t N w u V (K ++ Q.map cZ) st i ∧
    ∀ fu, c53_9 f (fu + 1) 72 x1 0 (it : Int) (S, G, m) = if st = [] then some (.inr (), (S, G', m)) else ((c61 f 72 (kK t i) (S, G', m)).bind fun R163 => cth R163 (fun v169 => ((cq_is 4 20 72 R163.2).bind fun _ => ((c37 f 72 R163.2).bind fun R171 => c53_9 f fu 72 x1 v169 ((it + 1 : Nat) : Int) R171)))) := by
  have hs := h.1.1
  rw [List.length_append, List.length_reverse] at hl
  obtain ⟨G1, a1, a2, a3⟩ := k_59_0 (f := f) (m := m) (ls := 1) (by decide) hb Q G K f hQ (by omega) (by rw [List.length_append, List.length_reverse]; omega) hK h
  refine ⟨G1, a2, a3, fun fu => ?_⟩
  have ei := it_1 h hi
  have h12 := a3.2.2.2.2.2.2.2.1
  rw [kx_turn h hi fu (.inl rfl), if_pos rfl]
  unfold c53_68 c53_202 c53_208
  rw [if_pos rfl]
  have a1' : c59 f 72 1 (S, G, m) = some (S, G1, m) := a1
  by_cases c : st = []
  · rw [if_pos c]
    rw [c] at h12
    have h12' : G1 72 12 = 0 := h12
    simp (disch := omega) only [cq_gi, cq_gr, cq_a, cq_s, cq_p, cq_pr, cq_is, cq_ar, cq_ab, cq_ln, xq_nz, Option.bind_some, xup2_n, xup2_s, Int.toNat_natCast, Int.reduceToNat, if_pos, if_neg, true_and, and_true, and_self, eq_self, if_true, reduceIte, not_true_eq_false, not_false_eq_true, or_true, true_or, s72 hs, k_55, hk, a1', h12']
  · rw [if_neg c]
    have hl' : 0 < st.length := List.length_pos_iff.mpr c
    simp (disch := omega) only [cq_gi, cq_gr, cq_a, cq_s, cq_p, cq_pr, cq_is, cq_ar, cq_ab, cq_ln, xq_nz, Option.bind_some, xup2_n, xup2_s, Int.toNat_natCast, Int.reduceToNat, if_pos, if_neg, true_and, and_true, and_self, eq_self, if_true, reduceIte, not_true_eq_false, not_false_eq_true, or_true, true_or, s72 hs, k_55, hk, a1', h12, ei]
/-- a bracket is closed -/
theorem kx_close {Q : List Int} (hf : 33 < f) (h : cXs S G B n t N w u V K (st ++ [1] ++ Q.reverse) i) (hi : it ≤ i) (hk : cStr (kK t i) = 0) (hQ : ∀ x, x ∈ Q → 1 ≤ cStr x) (hl : (st ++ [1] ++ Q.reverse).length ≤ 32) (hK : K.length + Q.length ≤ 3001) : pok (pNeed t 41 i) (fun x => ∃ G', lWr f x1 0 it 1 (S, G, m) (cWr S G' m (x : Int)) ∧ xF1 u G G') (fun j => ∃ G', lSt f x1 0 0 it 1 (S, G, m) (S, G', m) ∧ xF1 u G G' ∧ cXs S G' B n t N w u V (K ++ Q.map cZ) st j) := by
  have hs := h.1.1
  obtain ⟨G1, a1, a2, a3⟩ := kx_end (f := f) (m := m) (x1 := x1) hf h hi hk (.inr ⟨st, 1, rfl, by decide⟩) hQ hl hK
  have hne : st ++ [1] ≠ [] := by simp
  have hE := a2.1
  have hp := hE.2.1
  obtain ⟨k1, k2, k3, k4⟩ := hE.tk a2.2.1
  have h12 := a2.2.2.2.2.2.2.2.1
  rw [len1] at h12
  have hl1 : st.length ≤ 31 := by rw [List.length_append, len1] at hl; omega
  have hv := a2.2.2.2.2.2.2.2.2 st.length (by rw [len1]; omega)
  rw [getD_1, if_pos rfl] at hv
  have e1 : xwr (((st.length + 1 : Nat) : Int) - 1) = (st.length : Int) := by rw [xwr_g _ (by omega) (by omega)]; omega
  have e61 : c61 f 72 (kK t i) (S, G1, m) = if kK t i = 41 then some (.inr 0, (S, xup2 G1 72 12 (st.length : Int), m)) else some (.inl 0, cWr S G1 m (kS t i : Int)) := by
    unfold c61
    simp (disch := omega) only [cq_gi, cq_gr, cq_a, cq_s, cq_p, cq_pr, cq_is, cq_ar, cq_ab, cq_ln, xq_nz, Option.bind_some, xup2_n, xup2_s, Int.toNat_natCast, Int.reduceToNat, if_pos, if_neg, true_and, and_true, and_self, eq_self, if_true, reduceIte, not_true_eq_false, not_false_eq_true, or_true, true_or, s72 hs, s75 hs, p72_10 hp, h12, hv, e1]
    unfold c61_21 c61_32 c61_37
    rw [if_pos rfl, if_neg (by decide)]
    unfold c61_52 c61_71 c61_160 c61_187 c61_197
    rw [if_neg (by decide : ¬ ((1 : Int) = 0)), if_pos (by decide : ¬ ((1 : Int) = 2)), if_pos (by decide : ¬ ((1 : Int) = 3)), if_pos (by decide : ¬ ((1 : Int) = 4))]
    simp (disch := omega) only [cq_gi, cq_gr, cq_a, cq_s, cq_p, cq_pr, cq_is, cq_ar, cq_ab, cq_ln, xq_nz, Option.bind_some, xup2_n, xup2_s, Int.toNat_natCast, Int.reduceToNat, if_pos, if_neg, true_and, and_true, and_self, eq_self, if_true, reduceIte, not_true_eq_false, not_false_eq_true, or_true, true_or, s72 hs, s65 hs, s68 hs, p72_0 hp, p65_4 hp, h12, e1, k2, k3, k_36 hs, cth]
  unfold pNeed
  by_cases c : kK t i = 41
  · rw [if_pos c] at e61 ⊢
    obtain ⟨x2, x3⟩ := a2.pop
    obtain ⟨l1, l2⟩ := x3.1.lt x3.2.1 (by omega)
    obtain ⟨d1, d2⟩ := k_37 (f := f) (m := m) x3.1 x3.2.1 (by omega)
    obtain ⟨y1, y2⟩ := x3.at d2 (by omega)
    refine ⟨_, fun fu => ?_, (a1.tr x2).tr y1, y2⟩
    rw [a3 fu, if_neg hne, e61]
    simp (disch := omega) only [cq_gi, cq_gr, cq_a, cq_s, cq_p, cq_pr, cq_is, cq_ar, cq_ab, cq_ln, xq_nz, Option.bind_some, xup2_n, xup2_s, Int.toNat_natCast, Int.reduceToNat, if_pos, if_neg, true_and, and_true, and_self, eq_self, if_true, reduceIte, not_true_eq_false, not_false_eq_true, or_true, true_or, s72 hs, cth, d1]
  · rw [if_neg c] at e61 ⊢
    refine ⟨G1, fun fu => ?_, a1⟩
    rw [a3 fu, if_neg hne, e61]
    rfl
/-- a bracket is opened -/
theorem kx_openb (hf : 33 < f) (h : cXs S G B n t N w u V K st i) (hi : it ≤ i) (hk : kK t i = 40) (hl : st.length ≤ 31) : (nBr st = 4 → lWr f x1 1 it 1 (S, G, m) (cWr S G m (kS t i : Int))) ∧ (nBr st ≠ 4 → ∃ G', lSt f x1 1 1 it 1 (S, G, m) (S, G', m) ∧ xF1 u G G' ∧ cXs S G' B n t N w u V K (st ++ [1]) (i + 1)) := by
  have hE := h.1
  obtain ⟨k1, k2, k3, k4⟩ := hE.tk h.2.1
  have hs := hE.1
  have hp := hE.2.1
  have e58 := k_58 (m := m) hf h (by omega)
  have ei := it_1 h hi
  have e60 : ∀ r9 : Nat → Int → Int → Int → xT_ → Option ((Nat ⊕ Unit) × xT_), c53_59 r9 f 72 x1 1 (it : Int) 40 (S, G, m) = ((c60_20 f 72 1 (S, G, m)).bind fun R101 => cth R101 (fun _ => c53_202 r9 f 72 x1 1 (it : Int) R101.2)) := by
    intro r9
    unfold c53_59 c60 c60_11
    rw [if_neg (by decide : ¬ ¬ ((40 : Int) = 40)), if_pos (by decide : ¬ ((1 : Int) = 0))]
    simp (disch := omega) only [cq_gi, cq_gr, cq_a, cq_s, cq_p, cq_pr, cq_is, cq_ar, cq_ab, cq_ln, xq_nz, Option.bind_some, xup2_n, xup2_s, Int.toNat_natCast, Int.reduceToNat, if_pos, if_neg, true_and, and_true, and_self, eq_self, if_true, reduceIte, not_true_eq_false, not_false_eq_true, or_true, true_or, s72 hs]
  refine ⟨fun c fu => ?_, fun c => ?_⟩
  · rw [kx_turn h hi fu (.inr (.inl hk)), if_neg (by decide), if_pos hk, hk, e60]
    rw [c] at e58
    have e58' : c58 f 72 (S, G, m) = some (4, (S, G, m)) := e58
    unfold c60_20 c60_45
    simp (disch := omega) only [cq_gi, cq_gr, cq_a, cq_s, cq_p, cq_pr, cq_is, cq_ar, cq_ab, cq_ln, xq_nz, Option.bind_some, xup2_n, xup2_s, Int.toNat_natCast, Int.reduceToNat, if_pos, if_neg, true_and, and_true, and_self, eq_self, if_true, reduceIte, not_true_eq_false, not_false_eq_true, or_true, true_or, s72 hs, s65 hs, s67 hs, s68 hs, p72_0 hp, p65_3 hp, p65_4 hp, k1, k2, k3, hk, e58', k_36 hs, cth]
  · obtain ⟨l1, l2⟩ := hE.lt h.2.1 (by omega)
    obtain ⟨d1, d2⟩ := k_37 (f := f) (m := m) hE h.2.1 (by omega)
    obtain ⟨y1, y2⟩ := h.at d2 (by omega)
    obtain ⟨G2, b1, b2, b3⟩ := k_57 (f := f) (m := m) (x := 1) y2 (by omega)
    refine ⟨G2, fun fu => ?_, y1.tr b2, b3⟩
    rw [kx_turn h hi fu (.inr (.inl hk)), if_neg (by decide), if_pos hk, hk, e60]
    unfold c60_20 c60_61 c60_75 c53_202
    simp (disch := omega) only [cq_gi, cq_gr, cq_a, cq_s, cq_p, cq_pr, cq_is, cq_ar, cq_ab, cq_ln, xq_nz, Option.bind_some, xup2_n, xup2_s, Int.toNat_natCast, Int.reduceToNat, if_pos, if_neg, true_and, and_true, and_self, eq_self, if_true, reduceIte, not_true_eq_false, not_false_eq_true, or_true, true_or, s72 hs, s65 hs, s67 hs, s68 hs, p72_0 hp, p65_3 hp, p65_4 hp, k1, k2, k3, hk, e58, cth, d1, b1, ei]
/-- an operand of a rule -/
theorem kx_opnd (hf : 33 < f) (hok : tOk t) (hvi : vIn t B n) (h : cXs S G B n t N w u V K st i) (hi : it ≤ i) (hk : kK t i ≠ 40) (hK : K.length < 3001) : pok (if kK t i = 2 then pbind (pVar t V i) fun r => .inr (r.2.1, [((2 : Int), r.1)], r.2.2) else pbind (pVal t i) fun r => .inr (V, [((1 : Int), r.1)], r.2)) (fun x => ∃ G', lWr f 0 1 it 1 (S, G, m) (cWr S G' m (x : Int)) ∧ xF1 u G G') (fun e => ∃ G', lSt f 0 1 0 it 1 (S, G, m) (S, G', m) ∧ xF1 u G G' ∧ cXs S G' B n t N w u e.1 (K ++ e.2.1) st e.2.2) := by
  have hs := h.1.1
  have ei := it_1 h hi
  have hu := h.2.2.2.1.2.1
  have e1 : ∀ fu, c53_9 f (fu + 1) 72 0 1 (it : Int) (S, G, m) = c53_99 (c53_9 f fu) f 72 0 (it : Int) (kK t i) (S, G, m) := by
    intro fu
    rw [kx_turn h hi fu (.inr (.inr rfl)), if_neg (by decide), if_neg hk]
    unfold c53_68
    rw [if_neg (by decide), if_pos rfl]
  by_cases c : kK t i = 2
  · rw [if_pos c]
    have h49 := k_49 (m := m) (by omega : 20 < f) hvi h
    cases hp : pVar t V i with
    | inl x =>
      rw [hp] at h49
      refine ⟨G, fun fu => ?_, .id⟩
      rw [e1]
      unfold c53_99
      rw [if_neg (fun q => q c), if_pos rfl]
      have h49' : c49 f 72 (S, G, m) = _ := h49
      simp (disch := omega) only [cq_gi, cq_gr, cq_a, cq_s, cq_p, cq_pr, cq_is, cq_ar, cq_ab, cq_ln, xq_nz, Option.bind_some, xup2_n, xup2_s, Int.toNat_natCast, Int.reduceToNat, if_pos, if_neg, true_and, and_true, and_self, eq_self, if_true, reduceIte, not_true_eq_false, not_false_eq_true, or_true, true_or, s72 hs, h49', cth]
    | inr r =>
      rw [hp] at h49
      obtain ⟨G1, a1, a2, a3⟩ := h49
      obtain ⟨G2, b1, b2, b3⟩ := k_56 (f := f) (m := m) (a := 2) (b := r.1) a3 hK
      refine ⟨G2, fun fu => ?_, a2.tr b2, b3⟩
      rw [e1]
      unfold c53_99 c53_124 c53_139 c53_202
      rw [if_neg (fun q => q c), if_pos rfl]
      simp (disch := omega) only [cq_gi, cq_gr, cq_a, cq_s, cq_p, cq_pr, cq_is, cq_ar, cq_ab, cq_ln, xq_nz, Option.bind_some, xup2_n, xup2_s, Int.toNat_natCast, Int.reduceToNat, if_pos, if_neg, true_and, and_true, and_self, eq_self, if_true, reduceIte, not_true_eq_false, not_false_eq_true, or_true, true_or, s72 hs, a1, cth, b1, ei]
  · rw [if_neg c]
    have h51 := k_51 (f := f) (m := m) hok h.1 h.2.1
    cases hp : pVal t i with
    | inl x =>
      rw [hp] at h51
      obtain ⟨v, h51⟩ := h51
      refine ⟨xup2 G 72 1 v, fun fu => ?_, fun a j p q r s => xup2_n (by omega)⟩
      rw [e1]
      unfold c53_99
      rw [if_pos c]
      simp (disch := omega) only [cq_gi, cq_gr, cq_a, cq_s, cq_p, cq_pr, cq_is, cq_ar, cq_ab, cq_ln, xq_nz, Option.bind_some, xup2_n, xup2_s, Int.toNat_natCast, Int.reduceToNat, if_pos, if_neg, true_and, and_true, and_self, eq_self, if_true, reduceIte, not_true_eq_false, not_false_eq_true, or_true, true_or, s72 hs, h51, cth]
    | inr r =>
      rw [hp] at h51
      obtain ⟨a1, a2⟩ := h51
      have hr : r.2 ≤ N := by
        unfold pVal at hp
        repeat' split at hp
        all_goals first
          | (cases hp; done)
          | skip
        · rename_i q
          cases hp
          exact (h.1.lt h.2.1 (by omega)).1
        · rename_i q1 q2 q3
          cases hp
          have z0 := h.1.lt h.2.1 (by omega)
          exact Nat.lt_of_not_le (fun q => by have := (h.1.2.2.2.2.1 (i + 1) q).1; omega)
        · rename_i q1 q2 q3
          cases hp
          exact (h.1.lt h.2.1 (by omega)).1
      obtain ⟨y1, y2⟩ := h.at a2 hr
      obtain ⟨G2, b1, b2, b3⟩ := k_56 (f := f) (m := m) (a := 1) (b := r.1) y2 hK
      refine ⟨G2, fun fu => ?_, y1.tr b2, b3⟩
      rw [e1]
      unfold c53_99 c53_139 c53_202
      rw [if_pos c]
      simp (disch := omega) only [cq_gi, cq_gr, cq_a, cq_s, cq_p, cq_pr, cq_is, cq_ar, cq_ab, cq_ln, xq_nz, Option.bind_some, xup2_n, xup2_s, Int.toNat_natCast, Int.reduceToNat, if_pos, if_neg, true_and, and_true, and_self, eq_self, if_true, reduceIte, not_true_eq_false, not_false_eq_true, or_true, true_or, s72 hs, a1, cth, b1, ei]
end
