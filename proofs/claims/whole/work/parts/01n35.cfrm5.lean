section
/-! THE CLASS reads FORMULAS: operands, ends of parts -/
section
variable {f n N w i it hh b : Nat} {S : Nat → Nat × Nat × Nat} {G G' G'' : xG_} {m : Nat × Nat} {B : Nat → Int} {t : tStr} {K K' : pCd} {st st' : List Int} {N0 : List pNd}
theorem ky_opnd (hf : 100 < f) (hif : ∀ i, i ≤ w → kK t i = 1 → (spl B (kS t i) (kE t i) 10 ↔ kC t i = 348)) (hck : tCk t) (h : cYs S G B n t N w K st i) (hi : it ≤ i) (hk : kK t i ≠ 40) (hk2 : ¬ (kK t i = 1 ∧ kC t i = 348)) (hl : st.length ≤ 31) (hK : K.length < 3001) (hb : nBr st = b) : pok (if kK t i = 2 then pbind (pCell t i) fun r => .inr (N0 ++ [(2, r.1, 0, 0, 0)], (N0.length : Int), r.2) else if 10 ≤ kK t i ∧ kK t i ≤ 13 then pOf t b N0 i
    else pbind (pVal t i) fun r => (.inr (N0 ++ [(1, 0, 0, 0, r.1)], (N0.length : Int), r.2) : Nat ⊕ pFm)) (fun x => ∃ G', lWr f 1 1 it 1 (S, G, m) (cWr S G' m (x : Int)) ∧ xY hh G G') (fun e => ∃ G' C, lSt f 1 1 0 it 1 (S, G, m) (S, G', m) ∧ xY hh G G' ∧ cYs S G' B n t N w (K ++ [C]) st e.2.2 ∧ isC e.1 1 e.2.1 K.length 1 [C] ∧ i < e.2.2 ∧ ∃ y, e.1 = N0 ++ [y] ∧ lf y = some C ∧ lfC C = true) := by
  have hs := h.1.1
  have ei := ity_1 h hi
  have e0 : ∀ fu, c53_9 f (fu + 1) 72 1 1 (it : Int) (S, G, m) = c53_68 (c53_9 f fu) f 72 1 1 (it : Int) (kK t i) (S, G, m) := by
    intro fu
    rw [ky_turn hf hif h hi fu, if_neg (by decide), if_neg hk, if_neg hk2]
  by_cases cg : 10 ≤ kK t i ∧ kK t i ≤ 13
  · rw [if_neg (by omega), if_pos cg]
    have p := k_54 (f := f) (m := m) (hh := hh) (N0 := N0) hf hck h cg hl hK hb
    refine pok_m p ?_ ?_
    · rintro x ⟨G', q1, q2⟩
      refine ⟨G', fun fu => ?_, q2⟩
      rw [e0]
      unfold c53_68
      rw [if_neg (by decide), if_neg (by decide), if_neg (by omega), if_neg (by omega)]
      simp (disch := omega) only [cq_gi, cq_gr, cq_a, cq_s, cq_p, cq_pr, cq_is, cq_ar, cq_ab, cq_ln, xq_nz, Option.bind_some, xup2_n, xup2_s, Int.toNat_natCast, Int.reduceToNat, if_pos, if_neg, true_and, and_true, and_self, eq_self, if_true, reduceIte, not_true_eq_false, not_false_eq_true, or_true, true_or, s72 hs, q1, cth]
    · rintro e ⟨G', C, q1, q2, q3⟩
      refine ⟨G', C, fun fu => ?_, q2, q3⟩
      rw [e0]
      unfold c53_68 c53_139 c53_202
      rw [if_neg (by decide), if_neg (by decide), if_neg (by omega), if_neg (by omega)]
      simp (disch := omega) only [cq_gi, cq_gr, cq_a, cq_s, cq_p, cq_pr, cq_is, cq_ar, cq_ab, cq_ln, xq_nz, Option.bind_some, xup2_n, xup2_s, Int.toNat_natCast, Int.reduceToNat, if_pos, if_neg, true_and, and_true, and_self, eq_self, if_true, reduceIte, not_true_eq_false, not_false_eq_true, or_true, true_or, s72 hs, q1, cth, ei]
  · have e1 : ∀ fu, c53_9 f (fu + 1) 72 1 1 (it : Int) (S, G, m) = c53_99 (c53_9 f fu) f 72 1 (it : Int) (kK t i) (S, G, m) := by
      intro fu
      rw [e0]
      unfold c53_68
      rw [if_neg (by decide), if_neg (by decide)]
      by_cases q : kK t i < 10
      · rw [if_pos q]
      · rw [if_neg q, if_pos (by omega)]
    by_cases c : kK t i = 2
    · rw [if_pos c]
      have p := ky_52 (f := f) (m := m) (hh := hh) hck h
      cases hp : pCell t i with
      | inl x =>
        rw [hp] at p
        refine ⟨G, fun fu => ?_, .id⟩
        rw [e1]
        unfold c53_99
        rw [if_neg (fun q => q c), if_neg (by decide)]
        have p' : c52 f 72 (S, G, m) = _ := p
        simp (disch := omega) only [cq_gi, cq_gr, cq_a, cq_s, cq_p, cq_pr, cq_is, cq_ar, cq_ab, cq_ln, xq_nz, Option.bind_some, xup2_n, xup2_s, Int.toNat_natCast, Int.reduceToNat, if_pos, if_neg, true_and, and_true, and_self, eq_self, if_true, reduceIte, not_true_eq_false, not_false_eq_true, or_true, true_or, s72 hs, p', cth]
      | inr r =>
        rw [hp] at p
        obtain ⟨G1, a1, a2, a3, a4, a5, a6⟩ := p
        obtain ⟨G2, b1, b2, _, b3⟩ := ky_56 (f := f) (m := m) (hh := hh) (a := 2) (b := r.1) a3 hK
        refine ⟨G2, _, fun fu => ?_, a2.tr b2, b3, isC_new (F := 0) (Nat.le_refl _) (.inr (.inl ⟨rfl, rfl⟩)), by show i < r.2; omega, _, rfl, rfl, rfl⟩
        rw [e1]
        unfold c53_99 c53_124 c53_139 c53_202
        rw [if_neg (fun q => q c), if_neg (by decide)]
        simp (disch := omega) only [cq_gi, cq_gr, cq_a, cq_s, cq_p, cq_pr, cq_is, cq_ar, cq_ab, cq_ln, xq_nz, Option.bind_some, xup2_n, xup2_s, Int.toNat_natCast, Int.reduceToNat, if_pos, if_neg, true_and, and_true, and_self, eq_self, if_true, reduceIte, not_true_eq_false, not_false_eq_true, or_true, true_or, s72 hs, a1, cth, b1, ei]
    · rw [if_neg c, if_neg cg]
      have p := k_51 (f := f) (m := m) hck.2 h.1 h.2.1
      cases hp : pVal t i with
      | inl x =>
        rw [hp] at p
        obtain ⟨v, p⟩ := p
        refine ⟨xup2 G 72 1 v, fun fu => ?_, fun a j p q r => xup2_n (by omega)⟩
        rw [e1]
        unfold c53_99
        rw [if_pos c]
        simp (disch := omega) only [cq_gi, cq_gr, cq_a, cq_s, cq_p, cq_pr, cq_is, cq_ar, cq_ab, cq_ln, xq_nz, Option.bind_some, xup2_n, xup2_s, Int.toNat_natCast, Int.reduceToNat, if_pos, if_neg, true_and, and_true, and_self, eq_self, if_true, reduceIte, not_true_eq_false, not_false_eq_true, or_true, true_or, s72 hs, p, cth]
      | inr r =>
        rw [hp] at p
        obtain ⟨a1, a2⟩ := p
        have hr : r.2 ≤ N := by
          unfold pVal at hp
          repeat' split at hp
          all_goals first
            | (cases hp; done)
            | skip
          · rename_i q
            cases hp
            exact (h.1.lt h.2.1 (by omega)).1
          · rename_i q1 q2 q3
            cases hp
            have z0 := h.1.lt h.2.1 (by omega)
            exact Nat.lt_of_not_le (fun q => by have := (h.1.2.2.2.2.1 (i + 1) q).1; omega)
          · rename_i q1 q2 q3
            cases hp
            exact (h.1.lt h.2.1 (by omega)).1
        obtain ⟨y1, y2⟩ := h.at (hh := hh) a2 hr
        obtain ⟨G2, b1, b2, _, b3⟩ := ky_56 (f := f) (m := m) (hh := hh) (a := 1) (b := r.1) y2 hK
        refine ⟨G2, _, fun fu => ?_, y1.tr b2, b3, isC_new (F := 0) (Nat.le_refl _) (.inl ⟨rfl, rfl⟩), (by have := pVal_in hp; exact this), _, rfl, rfl, rfl⟩
        rw [e1]
        unfold c53_99 c53_139 c53_202
        rw [if_pos c]
        simp (disch := omega) only [cq_gi, cq_gr, cq_a, cq_s, cq_p, cq_pr, cq_is, cq_ar, cq_ab, cq_ln, xq_nz, Option.bind_some, xup2_n, xup2_s, Int.toNat_natCast, Int.reduceToNat, if_pos, if_neg, true_and, and_true, and_self, eq_self, if_true, reduceIte, not_true_eq_false, not_false_eq_true, or_true, true_or, s72 hs, a1, cth, b1, ei]
/-- the end of a part, over all -/
theorem ky_part {Q : List Int} {y c wn : Int} {Z : xG_ → pCd → List Int → Prop} (hf : 100 < f) (hif : ∀ i, i ≤ w → kK t i = 1 → (spl B (kS t i) (kE t i) 10 ↔ kC t i = 348)) (hy : 1 ≤ y ∧ y ≤ 4) (hc : c = if y = 1 ∨ y = 4 then 41 else 44)
    (h : cYs S G B n t N w K (st ++ [y] ++ Q.reverse) i) (hi : it ≤ i) (hk : cStr (kK t i) = 0) (hQ : ∀ x, x ∈ Q → 1 ≤ cStr x) (hl : (st ++ [y] ++ Q.reverse).length ≤ 32) (hK : K.length + Q.length ≤ 3001)
    (hst : ∀ G1, xY st.length G G1 → (∀ j, G1 76 j = G 76 j) → cYs S G1 B n t N w (K ++ Q.map cZ) (st ++ [y]) i → kK t i = c → ∃ G2 K2 st2, c61 f 72 (kK t i) (S, G1, m) = some (.inr wn, (S, G2, m)) ∧ xY st.length G1 G2 ∧ cYs S G2 B n t N w K2 st2 i ∧ Z G2 K2 st2) :
    pok (pNeed t c i) (fun x => ∃ G', lWr f 1 0 it 1 (S, G, m) (cWr S G' m (x : Int)) ∧ xY st.length G G') (fun j => j = i + 1 ∧ ∃ G' G2 K2 st2, lSt f 1 0 wn it 1 (S, G, m) (S, G', m) ∧ xY st.length G G' ∧ cYs S G' B n t N w K2 st2 j ∧ Z G2 K2 st2 ∧ (∀ j, G' 76 j = G2 76 j)) := by
  have hs := h.1.1
  obtain ⟨G1, a1, a0, a2, a3⟩ := ky_end (f := f) (m := m) (hh := st.length) hf hif h hi hk (.inr ⟨st, y, rfl, by
    unfold cStr
    rw [if_neg (by omega), if_neg (by omega)]; decide⟩) hQ hl hK
  have hne : st ++ [y] ≠ [] := by simp
  have hl1 : st.length ≤ 31 := by rw [List.length_append, len1] at hl; omega
  unfold pNeed
  by_cases cc : kK t i = c
  · rw [if_pos cc]
    obtain ⟨G2, K2, st2, b1, b2, b3, b4⟩ := hst G1 a1 a0 a2 cc
    have hc2 : c = 41 ∨ c = 44 := by rw [hc]; split; exact .inl rfl; exact .inr rfl
    obtain ⟨l1, l2⟩ := b3.1.lt b3.2.1 (by omega)
    obtain ⟨d1, d2⟩ := k_37 (f := f) (m := m) b3.1 b3.2.1 (by omega)
    obtain ⟨y1, y2⟩ := b3.at (hh := st.length) d2 (by omega)
    refine ⟨rfl, _, G2, K2, st2, fun fu => ?_, (a1.tr b2).tr y1, y2, b4, fun j => xup2_n (by omega)⟩
    rw [a3 fu, if_neg hne, b1]
    simp (disch := omega) only [cq_gi, cq_gr, cq_a, cq_s, cq_p, cq_pr, cq_is, cq_ar, cq_ab, cq_ln, xq_nz, Option.bind_some, xup2_n, xup2_s, Int.toNat_natCast, Int.reduceToNat, if_pos, if_neg, true_and, and_true, and_self, eq_self, if_true, reduceIte, not_true_eq_false, not_false_eq_true, or_true, true_or, s72 hs, cth, d1]
  · rw [if_neg cc]
    have e61 := k_61w (f := f) (m := m) hy a2 hl1 (by rw [← hc]; exact cc)
    refine ⟨G1, fun fu => ?_, a1⟩
    rw [a3 fu, if_neg hne, e61]
    rfl
end
end
section
/-! THE CLASS reads FORMULAS as the spec says -/
def yWr (f : Nat) (S : Nat → Nat × Nat × Nat) (m : Nat × Nat) (h N : Nat) (wn : Int) (it : Nat) (G : xG_) (x : Nat) : Prop := ∃ d G', lWr f 1 wn it d (S, G, m) (cWr S G' m (x : Int)) ∧ xY h G G' ∧ it + d ≤ N + 1
/-- behind an operand -/
def yO (f : Nat) (S : Nat → Nat × Nat × Nat) (m : Nat × Nat) (B : Nat → Int) (n : Nat) (t : tStr) (N w : Nat) (K : pCd) (st : List Int) (N0 : List pNd) (i h : Nat) (wn : Int) (it : Nat) (G : xG_) (e : pFm) : Prop := ∃ (d : Nat) (G' : xG_) (C : pCd) (F : Nat), lSt f 1 wn 0 it d (S, G, m) (S, G', m) ∧ xY st.length G G' ∧ cYs S G' B n t N w (K ++ C) st e.2.2 ∧ isC e.1 F e.2.1 K.length h C ∧ C.length + i ≤ e.2.2 ∧ it + d ≤ e.2.2 ∧ i < e.2.2 ∧ e.1.filterMap lf = N0.filterMap lf ++ C.filter lfC ∧ ∃ M, e.1 = N0 ++ M
/-- behind a FORMULA whose last signs still wait -/
def yR (f : Nat) (S : Nat → Nat × Nat × Nat) (m : Nat × Nat) (B : Nat → Int) (n : Nat) (t : tStr) (N w : Nat) (K0 : pCd) (st : List Int) (N0 : List pNd) (A : pCd) (h i0 i l q : Nat) (wn : Int) (it : Nat) (G : xG_) (e : pFm) : Prop := ∃ (d : Nat) (G' : xG_) (K C : pCd) (Q : List Int) (F : Nat), lSt f 1 wn 0 it d (S, G, m) (S, G', m) ∧ xY st.length G G' ∧ cYs S G' B n t N w K (st ++ Q.reverse) e.2.2 ∧ K ++ Q.map cZ = K0 ++ C ∧ isC e.1 F e.2.1 K0.length h C ∧ C.length + i0 ≤ e.2.2 ∧ (∀ x, x ∈ Q → (l : Int) ≤ cStr x) ∧ Q.length ≤ q ∧ it + d ≤ e.2.2 ∧ cStr (kK t e.2.2) < l ∧ i ≤ e.2.2 ∧ e.1.filterMap lf = A ++ C.filter lfC ∧ ∃ M, e.1 = N0 ++ M
section
variable {f n N w : Nat} {S : Nat → Nat × Nat × Nat} {m : Nat × Nat} {B : Nat → Int} {t : tStr}
theorem pFy_0 {F b i : Nat} {r0 : Int} {N0 : List pNd} : pF t (F + 1) 0 b (N0, r0, i) = if kK t i = 2 then pbind (pCell t i) fun r => .inr (N0 ++ [(2, r.1, 0, 0, 0)], (N0.length : Int), r.2)
    else if kK t i = 40 then pbind (pOpen t b i) fun i => pbind (pF t F 1 (b + 1) (N0, 0, i)) fun e' => pbind (pNeed t 41 e'.2.2) fun i => .inr (e'.1, e'.2.1, i)
    else if kK t i = 1 ∧ kC t i = 348 then
      pbind (pOpen t b (i + 1)) fun i => pbind (pF t F 1 (b + 1) (N0, 0, i)) fun x => pbind (pNeed t 44 x.2.2) fun i => pbind (pF t F 1 (b + 1) (x.1, 0, i)) fun y =>
      pbind (pNeed t 44 y.2.2) fun i => pbind (pF t F 1 (b + 1) (y.1, 0, i)) fun z => pbind (pNeed t 41 z.2.2) fun i => .inr (z.1 ++ [(10, x.2.1, y.2.1, z.2.1, 0)], (z.1.length : Int), i)
    else if 10 ≤ kK t i ∧ kK t i ≤ 13 then pOf t b N0 i
    else pbind (pVal t i) fun r => .inr (N0 ++ [(1, 0, 0, 0, r.1)], (N0.length : Int), r.2) := rfl
theorem pFy_3 {F b : Nat} {e : pFm} : pF t (F + 1) 3 b e = if kK t e.2.2 = 42 ∨ kK t e.2.2 = 47 ∨ kK t e.2.2 = 37 then pbind (pF t F 0 b (e.1, 0, e.2.2 + 1)) fun y => pF t F 3 b (y.1 ++ [(3, e.2.1, y.2.1, kK t e.2.2, 0)], (y.1.length : Int), y.2.2)
    else .inr e := rfl
theorem pFy_4 {F b : Nat} {e : pFm} : pF t (F + 1) 4 b e = if kK t e.2.2 = 43 ∨ kK t e.2.2 = 45 then pbind (pF t F 2 b (e.1, 0, e.2.2 + 1)) fun y => pF t F 4 b (y.1 ++ [(3, e.2.1, y.2.1, kK t e.2.2, 0)], (y.1.length : Int), y.2.2)
    else .inr e := rfl
theorem yWr.pre {h h' it d : Nat} {wn wn' : Int} {G G' : xG_} {x : Nat} (q : yWr f S m h' N wn' (it + d) G' x) (hs : lSt f 1 wn wn' it d (S, G, m) (S, G', m)) (hx : xY h G G') (hh : h ≤ h') : yWr f S m h N wn it G x := by
  obtain ⟨d', G2, a1, a2, a3⟩ := q
  exact ⟨d + d', G2, hs.wr a1, hx.tr (a2.mo hh), by omega⟩
/-- what the statements of a level say -/
def yP0 (f n N w : Nat) (S : Nat → Nat × Nat × Nat) (m : Nat × Nat) (B : Nat → Int) (t : tStr) (F : Nat) : Prop := ∀ (G : xG_) (K : pCd) (N0 : List pNd) (r0 : Int) (i it : Nat) (st : List Int) (b : Nat), cYs S G B n t N w K st i → K.length ≤ i → it ≤ i → nBr st = b → b ≤ 4 → st.length ≤ 3 * b + 2 → 4 * (w + 1 - i) + 1 ≤ F → pok (pF t F 0 b (N0, r0, i)) (yWr f S m st.length N 1 it G) (yO f S m B n t N w K st N0 i (2 * (4 - b) + 1) 1 it G)
def yP1 (f n N w : Nat) (S : Nat → Nat × Nat × Nat) (m : Nat × Nat) (B : Nat → Int) (t : tStr) (F : Nat) : Prop := ∀ (G : xG_) (K : pCd) (N0 : List pNd) (r0 : Int) (i it : Nat) (st : List Int) (b : Nat), cYs S G B n t N w K st i → K.length ≤ i → it ≤ i → nBr st = b → b ≤ 4 → st.length ≤ 3 * b → (st = [] ∨ ∃ z x, st = z ++ [x] ∧ cStr x < 1) → 4 * (w + 1 - i) + 3 ≤ F → pok (pF t F 1 b (N0, r0, i)) (yWr f S m st.length N 1 it G) (yR f S m B n t N w K st N0 (N0.filterMap lf) (2 * (4 - b) + 3) i (i + 1) 1 2 1 it G)
def yP2 (f n N w : Nat) (S : Nat → Nat × Nat × Nat) (m : Nat × Nat) (B : Nat → Int) (t : tStr) (F : Nat) : Prop := ∀ (G : xG_) (K : pCd) (N0 : List pNd) (r0 : Int) (i it : Nat) (st : List Int) (b : Nat), cYs S G B n t N w K st i → K.length ≤ i → it ≤ i → nBr st = b → b ≤ 4 → st.length ≤ 3 * b + 1 → (st = [] ∨ ∃ z x, st = z ++ [x] ∧ cStr x < 2) → 4 * (w + 1 - i) + 2 ≤ F → pok (pF t F 2 b (N0, r0, i)) (yWr f S m st.length N 1 it G) (yR f S m B n t N w K st N0 (N0.filterMap lf) (2 * (4 - b) + 2) i (i + 1) 2 1 1 it G)
def yP3 (f n N w : Nat) (S : Nat → Nat × Nat × Nat) (m : Nat × Nat) (B : Nat → Int) (t : tStr) (F : Nat) : Prop := ∀ (G : xG_) (K K0 C A : pCd) (Q : List Int) (N1 : List pNd) (r : Int) (F0 i0 i it : Nat) (st : List Int) (b : Nat), cYs S G B n t N w K (st ++ Q.reverse) i → K ++ Q.map cZ = K0 ++ C → isC N1 F0 r K0.length (2 * (4 - b) + 2) C → N1.filterMap lf = A ++ C.filter lfC → C.length + i0 ≤ i → K0.length ≤ i0 → (∀ x, x ∈ Q → 2 ≤ cStr x) → Q.length ≤ 1 → it ≤ i → nBr st = b → b ≤ 4 → st.length ≤ 3 * b + 1 → (st = [] ∨ ∃ z x, st = z ++ [x] ∧ cStr x < 2) → 4 * (w + 1 - i) + 1 ≤ F → pok (pF t F 3 b (N1, r, i)) (yWr f S m st.length N 0 it G) (yR f S m B n t N w K0 st N1 A (2 * (4 - b) + 2) i0 i 2 1 0 it G)
def yP4 (f n N w : Nat) (S : Nat → Nat × Nat × Nat) (m : Nat × Nat) (B : Nat → Int) (t : tStr) (F : Nat) : Prop := ∀ (G : xG_) (K K0 C A : pCd) (Q : List Int) (N1 : List pNd) (r : Int) (F0 i0 i it : Nat) (st : List Int) (b : Nat), cYs S G B n t N w K (st ++ Q.reverse) i → K ++ Q.map cZ = K0 ++ C → isC N1 F0 r K0.length (2 * (4 - b) + 3) C → N1.filterMap lf = A ++ C.filter lfC → C.length + i0 ≤ i → K0.length ≤ i0 → (∀ x, x ∈ Q → 1 ≤ cStr x) → Q.length ≤ 2 → it ≤ i → nBr st = b → b ≤ 4 → st.length ≤ 3 * b → (st = [] ∨ ∃ z x, st = z ++ [x] ∧ cStr x < 1) → cStr (kK t i) < 2 → 4 * (w + 1 - i) + 1 ≤ F → pok (pF t F 4 b (N1, r, i)) (yWr f S m st.length N 0 it G) (yR f S m B n t N w K0 st N1 A (2 * (4 - b) + 3) i0 i 1 2 0 it G)
theorem lf_sg {N1 N2 : List pNd} {A C D : pCd} {x r y : Int} (hx : 13 < x ∧ x < 256) (h : N2.filterMap lf = N1.filterMap lf ++ D.filter lfC) (h1 : N1.filterMap lf = A ++ C.filter lfC) : (N2 ++ [((3 : Int), r, y, x, (0 : Int))]).filterMap lf = A ++ (C ++ D ++ [(x, 0)]).filter lfC := by
  have e : lfC (x, 0) = false := by
    unfold lfC
    rw [decide_eq_false_iff_not]
    show ¬ x % 256 ≤ 13
    omega
  have e2 : [((3 : Int), r, y, x, (0 : Int))].filterMap lf = [] := rfl
  have e3 : [(x, (0 : Int))].filter lfC = [] := by rw [List.filter_cons_of_neg (by rw [e]; decide)]; rfl
  rw [List.filterMap_append, e2, h, h1, List.filter_append, List.filter_append, e3]
  simp only [List.append_nil, List.append_assoc]
theorem ky_2 {F : Nat} (P0 : yP0 f n N w S m B t F) (P3 : yP3 f n N w S m B t F) : yP2 f n N w S m B t (F + 1) := by
  intro G K N0 r0 i it st b h hK hi hb hb4 hl hbt hF
  show pok (pbind (pF t F 0 b (N0, r0, i)) fun e' => pF t F 3 b e') _ _
  have p0 := P0 G K N0 r0 i it st b h hK hi hb hb4 (by omega) (by omega)
  cases hp : pF t F 0 b (N0, r0, i) with
  | inl x => rw [hp] at p0; exact p0
  | inr e =>
    rw [hp] at p0
    obtain ⟨d, G1, C, F0, a1, a2, a3, a4, a5, a6, a7, aL, M, a8⟩ := p0
    have hN := a3.2.2.1
    have p3 := P3 G1 (K ++ C) K C (N0.filterMap lf) [] e.1 e.2.1 F0 i e.2.2 (it + d) st b (by rw [List.reverse_nil, List.append_nil]; exact a3) (by rw [List.map_nil, List.append_nil]) (by have := a4.mo (M := []) _ _ _ _ _ (2 * (4 - b) + 2) _ (Nat.le_refl _) (by omega); rw [List.append_nil] at this; exact this) aL a5 hK (fun x hx => by cases hx) (by simp) a6 hb hb4 hl hbt (by omega)
    show pok (pF t F 3 b e) _ _
    cases hq : pF t F 3 b e with
    | inl x =>
      have hq' : pF t F 3 b (e.1, e.2.1, e.2.2) = .inl x := hq
      rw [hq'] at p3
      exact p3.pre a1 a2 (Nat.le_refl _)
    | inr e' =>
      have hq' : pF t F 3 b (e.1, e.2.1, e.2.2) = .inr e' := hq
      rw [hq'] at p3
      obtain ⟨d', G2, K2, C2, Q2, F2, b1, b2, b3, b4, b5, b6, b7, b8, b9, b10, b11, bL, M2, b12⟩ := p3
      exact ⟨d + d', G2, K2, C2, Q2, F2, a1.tr b1, a2.tr b2, b3, b4, b5, b6, b7, b8, by omega, b10, by omega, bL, M ++ M2, by rw [b12, a8, List.append_assoc]⟩
theorem ky_1 {F : Nat} (P2 : yP2 f n N w S m B t F) (P4 : yP4 f n N w S m B t F) : yP1 f n N w S m B t (F + 1) := by
  intro G K N0 r0 i it st b h hK hi hb hb4 hl hbt hF
  show pok (pbind (pF t F 2 b (N0, r0, i)) fun e' => pF t F 4 b e') _ _
  have p0 := P2 G K N0 r0 i it st b h hK hi hb hb4 (by omega) (by rcases hbt with q | ⟨z, x, q1, q2⟩; exact .inl q; exact .inr ⟨z, x, q1, by omega⟩) (by omega)
  cases hp : pF t F 2 b (N0, r0, i) with
  | inl x => rw [hp] at p0; exact p0
  | inr e =>
    rw [hp] at p0
    obtain ⟨d, G1, K1, C, Q, F0, a1, a2, a3, a4, a5, a6, a7, a8, a9, a10, a11, aL, M, a12⟩ := p0
    have hN := a3.2.2.1
    have p3 := P4 G1 K1 K C (N0.filterMap lf) Q e.1 e.2.1 F0 i e.2.2 (it + d) st b a3 a4 (by have := a5.mo (M := []) _ _ _ _ _ (2 * (4 - b) + 3) _ (Nat.le_refl _) (by omega); rw [List.append_nil] at this; exact this) aL a6 hK (fun x hx => by have := a7 x hx; omega) (by omega) a9 hb hb4 hl hbt a10 (by omega)
    show pok (pF t F 4 b e) _ _
    cases hq : pF t F 4 b e with
    | inl x =>
      have hq' : pF t F 4 b (e.1, e.2.1, e.2.2) = .inl x := hq
      rw [hq'] at p3
      exact p3.pre a1 a2 (Nat.le_refl _)
    | inr e' =>
      have hq' : pF t F 4 b (e.1, e.2.1, e.2.2) = .inr e' := hq
      rw [hq'] at p3
      obtain ⟨d', G2, K2, C2, Q2, F2, b1, b2, b3, b4, b5, b6, b7, b8, b9, b10, b11, bL, M2, b12⟩ := p3
      exact ⟨d + d', G2, K2, C2, Q2, F2, a1.tr b1, a2.tr b2, b3, b4, b5, b6, b7, b8, by omega, b10, by omega, bL, M ++ M2, by rw [b12, a12, List.append_assoc]⟩
/-- signs of more strength -/
theorem ky_3 {F : Nat} (hf : 100 < f) (hN3 : N ≤ 3000) (hif : ∀ i, i ≤ w → kK t i = 1 → (spl B (kS t i) (kE t i) 10 ↔ kC t i = 348)) (P0 : yP0 f n N w S m B t F) (P3 : yP3 f n N w S m B t F) : yP3 f n N w S m B t (F + 1) := by
  intro G K K0 C A Q N1 r F0 i0 i it st b h hE hC hL hCl hK hQ hQ1 hi hb hb4 hl hbt hF
  rw [pFy_3]
  show pok (if kK t i = 42 ∨ kK t i = 47 ∨ kK t i = 37 then pbind (pF t F 0 b (N1, 0, i + 1)) fun y => pF t F 3 b (y.1 ++ [(3, r, y.2.1, kK t i, 0)], (y.1.length : Int), y.2.2) else .inr (N1, r, i)) _ _
  have hle := congrArg List.length hE
  rw [List.length_append, List.length_append, List.length_map] at hle
  have hiN := h.2.2.1
  by_cases c : kK t i = 42 ∨ kK t i = 47 ∨ kK t i = 37
  · rw [if_pos c]
    have hs2 := cStr_s c
    have c' : 13 < kK t i ∧ kK t i < 256 := by omega
    obtain ⟨G1, a1, a2, a3⟩ := ky_sign (f := f) (m := m) (hh := st.length) hf hif h hi (by omega) (by rw [hs2]; exact hbt) (by rw [hs2]; exact hQ) (by rw [List.length_append, List.length_reverse]; omega) (by omega)
    rw [hE] at a3
    have hlt := h.1.lt h.2.1 (by omega)
    have p0 := P0 G1 (K0 ++ C) N1 0 (i + 1) (it + 1) (st ++ [kK t i]) b a3 (by rw [List.length_append]; omega) (by omega) (by rw [nBr_1, if_neg (by omega)]; omega) hb4 (by rw [len1]; omega) (by omega)
    cases hp : pF t F 0 b (N1, 0, i + 1) with
    | inl x =>
      rw [hp] at p0
      exact p0.pre a1 a2 (by rw [len1]; omega)
    | inr e =>
      rw [hp] at p0
      obtain ⟨d, G2, D, F2, b1, b2, b3, b4, b5, b6, b7, bL, M, b8⟩ := p0
      have hN := b3.2.2.1
      have hC' : isC e.1 (max F0 F2) r K0.length (2 * (4 - b) + 2) C := by rw [b8]; exact hC.mo _ _ _ _ _ _ _ (Nat.le_max_left _ _) (Nat.le_refl _)
      have hD' : isC (e.1 ++ []) (max F0 F2) e.2.1 (K0 ++ C).length (2 * (4 - b) + 2 - 1) D := b4.mo _ _ _ _ _ _ _ (Nat.le_max_right _ _) (by omega)
      rw [List.append_nil, List.length_append] at hD'
      have b3' : cYs S G2 B n t N w (K0 ++ C ++ D) (st ++ [kK t i].reverse) e.2.2 := b3
      have p3 := P3 G2 (K0 ++ C ++ D) K0 (C ++ D ++ [(kK t i, 0)]) A [kK t i] (e.1 ++ [(3, r, e.2.1, kK t i, 0)]) (e.1.length : Int) (max F0 F2 + 1) i0 e.2.2 (it + (1 + d)) st b b3' (by
          simp only [List.append_assoc, List.map_cons, List.map_nil]
          rfl) (isC_new (by omega) (.inr (.inr (.inl ⟨rfl, C, D, hC', hD', rfl⟩)))) (lf_sg c' bL hL) (by simp only [List.length_append, List.length_singleton]; omega) hK (fun x hx => by rw [List.mem_singleton] at hx; rw [hx]; omega) (by simp) (by omega) hb hb4 hl hbt (by omega)
      show pok (pF t F 3 b (e.1 ++ [(3, r, e.2.1, kK t i, 0)], (e.1.length : Int), e.2.2)) _ _
      cases hq : pF t F 3 b (e.1 ++ [(3, r, e.2.1, kK t i, 0)], (e.1.length : Int), e.2.2) with
      | inl x =>
        rw [hq] at p3
        have b2' : xY st.length G1 G2 := b2.mo (by rw [len1]; omega)
        exact p3.pre (a1.tr b1) (a2.tr b2') (Nat.le_refl _)
      | inr e' =>
        rw [hq] at p3
        obtain ⟨d', G3, K2, C2, Q2, F3, c1, c2, c3, c4, c5, c6, c7, c8, c9, c10, c11, cL, M2, c12⟩ := p3
        have b2' : xY st.length G1 G2 := b2.mo (by rw [len1]; omega)
        exact ⟨1 + d + d', G3, K2, C2, Q2, F3, (a1.tr b1).tr c1, (a2.tr b2').tr c2, c3, c4, c5, c6, c7, c8, by omega, c10, by omega, cL, M ++ ([(3, r, e.2.1, kK t i, 0)] ++ M2), by rw [c12, b8]; simp only [List.append_assoc]⟩
  · rw [if_neg c]
    exact ⟨0, G, K, C, Q, F0, .id, .id, h, hE, hC, hCl, hQ, hQ1, hi, by show cStr (kK t i) < 2; exact cStr_1 c, Nat.le_refl _, hL, [], by rw [List.append_nil]⟩
/-- signs of less strength -/
theorem ky_4 {F : Nat} (hf : 100 < f) (hN3 : N ≤ 3000) (hif : ∀ i, i ≤ w → kK t i = 1 → (spl B (kS t i) (kE t i) 10 ↔ kC t i = 348)) (P2 : yP2 f n N w S m B t F) (P4 : yP4 f n N w S m B t F) : yP4 f n N w S m B t (F + 1) := by
  intro G K K0 C A Q N1 r F0 i0 i it st b h hE hC hL hCl hK hQ hQ1 hi hb hb4 hl hbt hk2 hF
  rw [pFy_4]
  show pok (if kK t i = 43 ∨ kK t i = 45 then pbind (pF t F 2 b (N1, 0, i + 1)) fun y => pF t F 4 b (y.1 ++ [(3, r, y.2.1, kK t i, 0)], (y.1.length : Int), y.2.2) else .inr (N1, r, i)) _ _
  have hle := congrArg List.length hE
  rw [List.length_append, List.length_append, List.length_map] at hle
  have hiN := h.2.2.1
  by_cases c : kK t i = 43 ∨ kK t i = 45
  · rw [if_pos c]
    have hs2 := cStr_w c
    have c' : 13 < kK t i ∧ kK t i < 256 := by omega
    obtain ⟨G1, a1, a2, a3⟩ := ky_sign (f := f) (m := m) (hh := st.length) hf hif h hi (by omega) (by rw [hs2]; exact hbt) (by rw [hs2]; exact hQ) (by rw [List.length_append, List.length_reverse]; omega) (by omega)
    rw [hE] at a3
    have hlt := h.1.lt h.2.1 (by omega)
    have p0 := P2 G1 (K0 ++ C) N1 0 (i + 1) (it + 1) (st ++ [kK t i]) b a3 (by rw [List.length_append]; omega) (by omega) (by rw [nBr_1, if_neg (by omega)]; omega) hb4 (by rw [len1]; omega) (.inr ⟨st, kK t i, rfl, by omega⟩) (by omega)
    cases hp : pF t F 2 b (N1, 0, i + 1) with
    | inl x =>
      rw [hp] at p0
      exact p0.pre a1 a2 (by rw [len1]; omega)
    | inr e =>
      rw [hp] at p0
      obtain ⟨d, G2, K2, D, Q2, F2, b1, b2, b3, b4, b5, b6, b7, b8, b9, b10, b11, bL, M, b12⟩ := p0
      have hN := b3.2.2.1
      have hC' : isC e.1 (max F0 F2) r K0.length (2 * (4 - b) + 3) C := by rw [b12]; exact hC.mo _ _ _ _ _ _ _ (Nat.le_max_left _ _) (Nat.le_refl _)
      have hD' : isC (e.1 ++ []) (max F0 F2) e.2.1 (K0 ++ C).length (2 * (4 - b) + 3 - 1) D := b5.mo _ _ _ _ _ _ _ (Nat.le_max_right _ _) (by omega)
      rw [List.append_nil, List.length_append] at hD'
      have b3' : cYs S G2 B n t N w K2 (st ++ (Q2 ++ [kK t i]).reverse) e.2.2 := by
        rw [List.reverse_append, ← List.append_assoc]
        exact b3
      have p3 := P4 G2 K2 K0 (C ++ D ++ [(kK t i, 0)]) A (Q2 ++ [kK t i]) (e.1 ++ [(3, r, e.2.1, kK t i, 0)]) (e.1.length : Int) (max F0 F2 + 1) i0 e.2.2 (it + (1 + d)) st b b3' (by
          rw [List.map_append, ← List.append_assoc, b4]
          simp only [List.append_assoc, List.map_cons, List.map_nil]
          rfl) (isC_new (by omega) (.inr (.inr (.inl ⟨rfl, C, D, hC', hD', rfl⟩)))) (lf_sg c' bL hL) (by simp only [List.length_append, List.length_singleton]; omega) hK (fun x hx => by
          rw [List.mem_append, List.mem_singleton] at hx
          rcases hx with q | q
          · have := b7 x q; omega
          · rw [q]; omega) (by rw [len1]; omega) (by omega) hb hb4 hl hbt b10 (by omega)
      show pok (pF t F 4 b (e.1 ++ [(3, r, e.2.1, kK t i, 0)], (e.1.length : Int), e.2.2)) _ _
      have b2' : xY st.length G1 G2 := b2.mo (by rw [len1]; omega)
      cases hq : pF t F 4 b (e.1 ++ [(3, r, e.2.1, kK t i, 0)], (e.1.length : Int), e.2.2) with
      | inl x =>
        rw [hq] at p3
        exact p3.pre (a1.tr b1) (a2.tr b2') (Nat.le_refl _)
      | inr e' =>
        rw [hq] at p3
        obtain ⟨d', G3, K2, C2, Q2, F3, c1, c2, c3, c4, c5, c6, c7, c8, c9, c10, c11, cL, M2, c12⟩ := p3
        exact ⟨1 + d + d', G3, K2, C2, Q2, F3, (a1.tr b1).tr c1, (a2.tr b2').tr c2, c3, c4, c5, c6, c7, c8, by omega, c10, by omega, cL, M ++ ([(3, r, e.2.1, kK t i, 0)] ++ M2), by rw [c12, b12]; simp only [List.append_assoc]⟩
  · rw [if_neg c]
    exact ⟨0, G, K, C, Q, F0, .id, .id, h, hE, hC, hCl, hQ, hQ1, hi, by show cStr (kK t i) < 1; rw [cStr_0 (cStr_n2 hk2) c]; decide, Nat.le_refl _, hL, [], by rw [List.append_nil]⟩
end
end
section
/-! THE CLASS reads FORMULAS: all -/
section
variable {f n N w : Nat} {S : Nat → Nat × Nat × Nat} {m : Nat × Nat} {B : Nat → Int} {t : tStr}
/-- what stands in brackets, or is a part of an if -/
theorem ky_sub {F b i it : Nat} {y : Int} {G : xG_} {K : pCd} {st : List Int} {N0 : List pNd} (P1 : yP1 f n N w S m B t F) (hy : 1 ≤ y ∧ y ≤ 4) (h : cYs S G B n t N w K (st ++ [y]) i) (hK : K.length ≤ i) (hi : it ≤ i) (hb : nBr st = b) (hb4 : b < 4) (hl : st.length ≤ 3 * b + 2) (hF : 4 * (w + 1 - i) + 3 ≤ F) : pok (pF t F 1 (b + 1) (N0, 0, i)) (yWr f S m (st.length + 1) N 1 it G)
    (fun e => ∃ (d : Nat) (G' : xG_) (K' C : pCd) (Q : List Int) (F : Nat), lSt f 1 1 0 it d (S, G, m) (S, G', m) ∧ xY (st.length + 1) G G' ∧ cYs S G' B n t N w K' (st ++ [y] ++ Q.reverse) e.2.2 ∧ K' ++ Q.map cZ = K ++ C ∧ isC e.1 F e.2.1 K.length (2 * (4 - b) + 1) C ∧ C.length + i ≤ e.2.2 ∧ (∀ x, x ∈ Q → 1 ≤ cStr x) ∧ (st ++ [y] ++ Q.reverse).length ≤ 32 ∧ K'.length + Q.length ≤ e.2.2 ∧ it + d ≤ e.2.2 ∧ cStr (kK t e.2.2) = 0 ∧ i < e.2.2 ∧ e.1.filterMap lf = N0.filterMap lf ++ C.filter lfC ∧ ∃ M, e.1 = N0 ++ M) := by
  have hcy : cStr y = 0 := by
    unfold cStr
    rw [if_neg (by omega), if_neg (by omega)]
  have p := P1 G K N0 0 i it (st ++ [y]) (b + 1) h hK hi (by rw [nBr_1, if_pos hcy]; omega) (by omega) (by rw [len1]; omega) (.inr ⟨st, y, rfl, by omega⟩) hF
  rw [len1] at p
  refine pok_m p (fun _ q => q) ?_
  rintro e ⟨d, G', K', C, Q, F', a1, a2, a3, a4, a5, a6, a7, a8, a9, a10, a11, a12⟩
  have eh : 2 * (4 - (b + 1)) + 3 = 2 * (4 - b) + 1 := by omega
  rw [eh] at a5
  rw [len1] at a2
  have hle := congrArg List.length a4
  rw [List.length_append, List.length_append, List.length_map] at hle
  refine ⟨d, G', K', C, Q, F', a1, a2, a3, a4, a5, a6, fun x hx => by have := a7 x hx; omega, by rw [List.length_append, len1, List.length_reverse]; omega, by omega, a9, by have := (cStr_nn (kK t e.2.2)).1; omega, a11, a12⟩
/-- an if -/
theorem ky_if {F b i it : Nat} {G : xG_} {K : pCd} {st : List Int} {N0 : List pNd} (hf : 100 < f) (hN3 : N ≤ 3000) (hif : ∀ i, i ≤ w → kK t i = 1 → (spl B (kS t i) (kE t i) 10 ↔ kC t i = 348)) (P1 : yP1 f n N w S m B t F) (h : cYs S G B n t N w K st i) (hk : kK t i = 1 ∧ kC t i = 348) (hK : K.length ≤ i) (hi : it ≤ i) (hb : nBr st = b) (hb4 : b ≤ 4) (hl : st.length ≤ 3 * b + 2) (hF : 4 * (w + 1 - i) + 1 ≤ F + 1) : pok (pbind (pOpen t b (i + 1)) fun i => pbind (pF t F 1 (b + 1) (N0, 0, i)) fun x => pbind (pNeed t 44 x.2.2) fun i => pbind (pF t F 1 (b + 1) (x.1, 0, i)) fun y =>
      pbind (pNeed t 44 y.2.2) fun i => pbind (pF t F 1 (b + 1) (y.1, 0, i)) fun z => pbind (pNeed t 41 z.2.2) fun i => (.inr (z.1 ++ [(10, x.2.1, y.2.1, z.2.1, 0)], (z.1.length : Int), i) : Nat ⊕ pFm)) (yWr f S m st.length N 1 it G) (yO f S m B n t N w K st N0 i (2 * (4 - b) + 1) 1 it G) := by
  have hlt := h.1.lt h.2.1 (by omega)
  have o := ky_openi (f := f) (m := m) (hh := st.length) hf hif h hi hk (by omega)
  rw [hb] at o
  cases ho : pOpen t b (i + 1) with
  | inl x =>
    rw [ho] at o
    obtain ⟨G1, a1, a2⟩ := o
    exact ⟨1, G1, a1, a2, by omega⟩
  | inr j =>
    obtain ⟨_, hb3, _⟩ := pOpen_in ho
    rw [ho] at o
    obtain ⟨hj, G1, a1, a2, a3⟩ := o
    subst hj
    have hj2 := a3.2.2.1
    have p1 := ky_sub (N0 := N0) (it := it + 1) P1 (by decide) a3 (by omega) (by omega) hb (by omega) hl (by omega)
    show pok (pbind (pF t F 1 (b + 1) (N0, 0, i + 2)) _) _ _
    cases h1 : pF t F 1 (b + 1) (N0, 0, i + 2) with
    | inl x =>
      rw [h1] at p1
      exact p1.pre a1 a2 (by omega)
    | inr x =>
      rw [h1] at p1
      obtain ⟨d1, G2, K2, A, Q2, F2, b1, b2, b3, b4, b5, b6, b7, b8, b9, b10, b11, b12, bL, M1, b13⟩ := p1
      have hN2 := b3.2.2.1
      have b2' : xY st.length G1 G2 := b2.mo (by omega)
      have hle := congrArg List.length b4
      rw [List.length_append, List.length_append, List.length_map] at hle
      have pp := ky_part (f := f) (m := m) (it := it + (1 + d1)) (y := 2) (c := 44) (wn := 1) (Z := fun G' K' st' => K' = K ++ A ++ [(14, 0)] ∧ st' = st ++ [3] ∧ G' 76 st.length = ((K ++ A).length : Int)) hf hif (by decide) (by decide) b3 (by omega) b11 b7 b8 (by omega) (fun G1 x1 x2 x3 x4 => by
        rw [b4] at x3
        obtain ⟨G4, y1, y2, y3, y4⟩ := k_61_2 (f := f) (m := m) x3 (by omega) (by rw [List.length_append]; omega) x4
        exact ⟨G4, _, _, y1, y2, y4, rfl, rfl, y3⟩)
      show pok (pbind (pNeed t 44 x.2.2) _) _ _
      cases h2 : pNeed t 44 x.2.2 with
      | inl v =>
        rw [h2] at pp
        obtain ⟨G3, c1, c2⟩ := pp
        exact ⟨1 + d1 + 1, G3, (a1.tr b1).wr c1, (a2.tr b2').tr c2, by omega⟩
      | inr j =>
        rw [h2] at pp
        obtain ⟨hj, G3, G3', K3, st3, c1, c2, c3, ⟨z1, z2, z3⟩, c4⟩ := pp
        subst hj z1 z2
        have hm3 : G3 76 st.length = ((K ++ A).length : Int) := by rw [c4, z3]
        have hj3 := c3.2.2.1
        have hKA : (K ++ A ++ [((14 : Int), (0 : Int))]).length = K.length + A.length + 1 := by simp only [List.length_append, List.length_singleton]
        have p2 := ky_sub (N0 := x.1) (it := it + (1 + d1 + 1)) P1 (by decide) c3 (by omega) (by omega) hb (by omega) hl (by omega)
        show pok (pbind (pF t F 1 (b + 1) (x.1, 0, x.2.2 + 1)) _) _ _
        cases h3 : pF t F 1 (b + 1) (x.1, 0, x.2.2 + 1) with
        | inl v =>
          rw [h3] at p2
          exact p2.pre ((a1.tr b1).tr c1) ((a2.tr b2').tr c2) (by omega)
        | inr y =>
          rw [h3] at p2
          obtain ⟨d2, G4, K4, D, Q4, F4, e1, e2, e3, e4, e5, e6, e7, e8, e9, e10, e11, e12, eL, M2, e13⟩ := p2
          have hN4 := e3.2.2.1
          have e2' : xY st.length G3 G4 := e2.mo (by omega)
          have hm4 : G4 76 st.length = ((K ++ A).length : Int) := by rw [e2 76 st.length (by omega) (by omega) (by omega)]; exact hm3
          have hle4 := congrArg List.length e4
          rw [List.length_append, List.length_append, List.length_map, hKA] at hle4
          have hKD : (K ++ A ++ [((14 : Int), (0 : Int))] ++ D).length = K.length + A.length + 1 + D.length := by rw [List.length_append, hKA]
          have pp := ky_part (f := f) (m := m) (it := it + (1 + d1 + 1 + d2)) (y := 3) (c := 44) (wn := 1) (Z := fun G' K' st' => K' = K ++ A ++ [(14, ((K.length + A.length + D.length + 2 : Nat) : Int))] ++ D ++ [(15, 0)] ∧ st' = st ++ [4] ∧ G' 76 st.length = ((K.length + A.length + 1 + D.length : Nat) : Int)) hf hif (by decide) (by decide) e3 (by omega) e11 e7 e8 (by omega) (fun G1 x1 x2 x3 x4 => by
            rw [e4] at x3
            obtain ⟨G4, y1, y2, y3, y4⟩ := k_61_3 (f := f) (m := m) x3 (by rw [x2]; exact hm4) (by omega) (by omega) x4
            rw [hKD] at y3 y4
            have hq : K.length + A.length + 1 + D.length + 1 = K.length + A.length + D.length + 2 := by omega
            rw [hq] at y4
            exact ⟨G4, _, _, y1, y2, y4, rfl, rfl, y3⟩)
          show pok (pbind (pNeed t 44 y.2.2) _) _ _
          cases h4 : pNeed t 44 y.2.2 with
          | inl v =>
            rw [h4] at pp
            obtain ⟨G5, g1, g2⟩ := pp
            exact ⟨1 + d1 + 1 + d2 + 1, G5, (((a1.tr b1).tr c1).tr e1).wr g1, (((a2.tr b2').tr c2).tr e2').tr g2, by omega⟩
          | inr j =>
            rw [h4] at pp
            obtain ⟨hj, G5, G5', K5, st5, g1, g2, g3, ⟨z1, z2, z3⟩, g4⟩ := pp
            subst hj z1 z2
            have hm5 : G5 76 st.length = ((K.length + A.length + 1 + D.length : Nat) : Int) := by rw [g4, z3]
            have hj5 := g3.2.2.1
            have hX : (K ++ A ++ [((14 : Int), ((K.length + A.length + D.length + 2 : Nat) : Int))] ++ D).length = K.length + A.length + 1 + D.length := by simp only [List.length_append, List.length_singleton]
            have hX1 : (K ++ A ++ [((14 : Int), ((K.length + A.length + D.length + 2 : Nat) : Int))] ++ D ++ [((15 : Int), (0 : Int))]).length = K.length + A.length + 1 + D.length + 1 := by rw [len1, hX]
            have p3 := ky_sub (N0 := y.1) (it := it + (1 + d1 + 1 + d2 + 1)) P1 (by decide) g3 (by omega) (by omega) hb (by omega) hl (by omega)
            show pok (pbind (pF t F 1 (b + 1) (y.1, 0, y.2.2 + 1)) _) _ _
            cases h5 : pF t F 1 (b + 1) (y.1, 0, y.2.2 + 1) with
            | inl v =>
              rw [h5] at p3
              exact p3.pre ((((a1.tr b1).tr c1).tr e1).tr g1) ((((a2.tr b2').tr c2).tr e2').tr g2) (by omega)
            | inr z =>
              rw [h5] at p3
              obtain ⟨d3, G6, K6, E, Q6, F6, k1, k2, k3, k4, k5, k6, k7, k8, k9, k10, k11, k12, kL, M3, k13⟩ := p3
              have hN6 := k3.2.2.1
              have k2' : xY st.length G5 G6 := k2.mo (by omega)
              have hm6 : G6 76 st.length = ((K.length + A.length + 1 + D.length : Nat) : Int) := by rw [k2 76 st.length (by omega) (by omega) (by omega)]; exact hm5
              have hle6 := congrArg List.length k4
              rw [List.length_append, List.length_append, List.length_map, hX1] at hle6
              have hXE : (K ++ A ++ [((14 : Int), ((K.length + A.length + D.length + 2 : Nat) : Int))] ++ D ++ [((15 : Int), (0 : Int))] ++ E).length = K.length + A.length + D.length + E.length + 2 := by rw [List.length_append, hX1]; omega
              have pp := ky_part (f := f) (m := m) (it := it + (1 + d1 + 1 + d2 + 1 + d3)) (y := 4) (c := 41) (wn := 0) (Z := fun G' K' st' => K' = K ++ A ++ [(14, ((K.length + A.length + D.length + 2 : Nat) : Int))] ++ D ++ [(15, ((K.length + A.length + D.length + E.length + 2 : Nat) : Int))] ++ E ∧ st' = st) hf hif (by decide) (by decide) k3 (by omega) k11 k7 k8 (by omega) (fun G1 x1 x2 x3 x4 => by
                rw [k4] at x3
                obtain ⟨G4, y1, y2, y4⟩ := k_61_4 (f := f) (m := m) x3 (by rw [x2, hX]; exact hm6) (by omega) (by omega) x4
                rw [hXE] at y4
                exact ⟨G4, _, _, y1, y2, y4, rfl, rfl⟩)
              show pok (pbind (pNeed t 41 z.2.2) _) _ _
              cases h6 : pNeed t 41 z.2.2 with
              | inl v =>
                rw [h6] at pp
                obtain ⟨G7, n1, n2⟩ := pp
                exact ⟨1 + d1 + 1 + d2 + 1 + d3 + 1, G7, (((((a1.tr b1).tr c1).tr e1).tr g1).tr k1).wr n1, (((((a2.tr b2').tr c2).tr e2').tr g2).tr k2').tr n2, by omega⟩
              | inr j =>
                rw [h6] at pp
                obtain ⟨hj, G7, G7', K7, st7, n1, n2, n3, ⟨z1, z2⟩, n4⟩ := pp
                subst hj z1 z2
                have hFm : F2 ≤ max F2 (max F4 F6) ∧ F4 ≤ max F2 (max F4 F6) ∧ F6 ≤ max F2 (max F4 F6) := by omega
                have hA : isC z.1 (max F2 (max F4 F6)) x.2.1 K.length (2 * (4 - b) + 1) A := by
                  rw [k13, e13, List.append_assoc]
                  exact b5.mo _ _ _ _ _ _ _ hFm.1 (Nat.le_refl _)
                have hD : isC z.1 (max F2 (max F4 F6)) y.2.1 (K.length + A.length + 1) (2 * (4 - b) + 1) D := by
                  rw [k13, ← hKA]
                  exact e5.mo _ _ _ _ _ _ _ hFm.2.1 (Nat.le_refl _)
                have hE : isC (z.1 ++ []) (max F2 (max F4 F6)) z.2.1 (K.length + A.length + 1 + D.length + 1) (2 * (4 - b) + 1) E := by
                  rw [← hX1]
                  exact k5.mo _ _ _ _ _ _ _ hFm.2.2 (Nat.le_refl _)
                rw [List.append_nil] at hE
                refine ⟨1 + d1 + 1 + d2 + 1 + d3 + 1, G7, A ++ [(14, ((K.length + A.length + D.length + 2 : Nat) : Int))] ++ D ++ [(15, ((K.length + A.length + D.length + E.length + 2 : Nat) : Int))] ++ E, max F2 (max F4 F6) + 1, (((((a1.tr b1).tr c1).tr e1).tr g1).tr k1).tr n1, (((((a2.tr b2').tr c2).tr e2').tr g2).tr k2').tr n2, ?_, isC_new (by omega) (.inr (.inr (.inr (.inr (.inr ⟨rfl, A, D, E, hA, hD, hE, rfl⟩))))), ?_, ?_, ?_, ?_, M1 ++ (M2 ++ (M3 ++ [(10, x.2.1, y.2.1, z.2.1, 0)])), ?_⟩
                · simp only [List.append_assoc] at n3 ⊢
                  exact n3
                · simp only [List.length_append, List.length_singleton]
                  show _ ≤ z.2.2 + 1
                  omega
                · show _ ≤ z.2.2 + 1
                  omega
                · show _ < z.2.2 + 1
                  omega
                · show (z.1 ++ [((10 : Int), x.2.1, y.2.1, z.2.1, (0 : Int))]).filterMap lf = _
                  have e2 : [((10 : Int), x.2.1, y.2.1, z.2.1, (0 : Int))].filterMap lf = [] := rfl
                  have e3 : ∀ v : Int, [((14 : Int), v)].filter lfC = [] := fun v => rfl
                  have e4 : ∀ v : Int, [((15 : Int), v)].filter lfC = [] := fun v => rfl
                  rw [List.filterMap_append, e2, kL, eL, bL, List.filter_append, List.filter_append, List.filter_append, List.filter_append, e3, e4]
                  simp only [List.append_nil, List.append_assoc]
                · show z.1 ++ _ = _
                  rw [k13, e13, b13]
                  simp only [List.append_assoc]
theorem ky_0 {F : Nat} (hf : 100 < f) (hN3 : N ≤ 3000) (hif : ∀ i, i ≤ w → kK t i = 1 → (spl B (kS t i) (kE t i) 10 ↔ kC t i = 348)) (hck : tCk t) (P1 : yP1 f n N w S m B t F) : yP0 f n N w S m B t (F + 1) := by
  intro G K N0 r0 i it st b h hK hi hb hb4 hl hF
  rw [pFy_0]
  have hiN := h.2.2.1
  by_cases c40 : kK t i = 40
  · rw [if_neg (by omega), if_pos c40]
    have hlt := h.1.lt h.2.1 (by omega)
    have o := ky_openb (f := f) (m := m) (hh := st.length) hf hif h hi c40 (by omega)
    rw [hb] at o
    cases ho : pOpen t b i with
    | inl x =>
      rw [ho] at o
      exact ⟨1, G, o, .id, by omega⟩
    | inr j =>
      obtain ⟨_, hb3, _⟩ := pOpen_in ho
      rw [ho] at o
      obtain ⟨hj, G1, a1, a2, a3⟩ := o
      subst hj
      have hj2 := a3.2.2.1
      have p1 := ky_sub (N0 := N0) (it := it + 1) P1 (by decide) a3 (by omega) (by omega) hb (by omega) hl (by omega)
      show pok (pbind (pF t F 1 (b + 1) (N0, 0, i + 1)) _) _ _
      cases h1 : pF t F 1 (b + 1) (N0, 0, i + 1) with
      | inl x =>
        rw [h1] at p1
        exact p1.pre a1 a2 (by omega)
      | inr x =>
        rw [h1] at p1
        obtain ⟨d1, G2, K2, A, Q2, F2, b1, b2, b3, b4, b5, b6, b7, b8, b9, b10, b11, b12, bL, M1, b13⟩ := p1
        have hN2 := b3.2.2.1
        have b2' : xY st.length G1 G2 := b2.mo (by omega)
        have pp := ky_part (f := f) (m := m) (it := it + (1 + d1)) (y := 1) (c := 41) (wn := 0) (Z := fun G' K' st' => K' = K ++ A ∧ st' = st) hf hif (by decide) (by decide) b3 (by omega) b11 b7 b8 (by omega) (fun G1 x1 x2 x3 x4 => by
          rw [b4] at x3
          have y1 := k_61_1 (f := f) (m := m) x3 (by omega) x4
          obtain ⟨y2, y3⟩ := x3.pop (hh := st.length)
          exact ⟨_, _, _, y1, y2, y3, rfl, rfl⟩)
        show pok (pbind (pNeed t 41 x.2.2) _) _ _
        cases h2 : pNeed t 41 x.2.2 with
        | inl v =>
          rw [h2] at pp
          obtain ⟨G3, c1, c2⟩ := pp
          exact ⟨1 + d1 + 1, G3, (a1.tr b1).wr c1, (a2.tr b2').tr c2, by omega⟩
        | inr j =>
          rw [h2] at pp
          obtain ⟨hj, G3, G3', K3, st3, c1, c2, c3, ⟨z1, z2⟩, c4⟩ := pp
          subst hj z1 z2
          exact ⟨1 + d1 + 1, G3, A, F2, (a1.tr b1).tr c1, (a2.tr b2').tr c2, c3, b5, by show _ ≤ x.2.2 + 1; omega, by show _ ≤ x.2.2 + 1; omega, by show _ < x.2.2 + 1; omega, bL, M1, b13⟩
  · by_cases ci : kK t i = 1 ∧ kC t i = 348
    · rw [if_neg (by omega), if_neg c40, if_pos ci]
      exact ky_if hf hN3 hif P1 h ci hK hi hb hb4 hl hF
    · rw [if_neg c40, if_neg ci]
      have p := ky_opnd (f := f) (m := m) (hh := st.length) (N0 := N0) hf hif hck h hi c40 ci (by omega) (by omega) hb
      refine pok_m p ?_ ?_
      · rintro x ⟨G', q1, q2⟩
        exact ⟨1, G', q1, q2, by omega⟩
      · rintro e ⟨G', C, q1, q2, q3, q4, q5, y, q6, q7, q8⟩
        refine ⟨1, G', [C], 1, q1, q2, q3, (by have := q4.mo (M := []) _ _ _ _ _ (2 * (4 - b) + 1) _ (Nat.le_refl _) (by omega); rw [List.append_nil] at this; exact this), by simp only [List.length_singleton]; omega, by omega, q5, ?_, [y], q6⟩
        rw [q6, List.filterMap_append, List.filter_cons_of_pos q8, List.filterMap_cons_some q7]
        rfl
theorem ky_all (hf : 100 < f) (hN3 : N ≤ 3000) (hif : ∀ i, i ≤ w → kK t i = 1 → (spl B (kS t i) (kE t i) 10 ↔ kC t i = 348)) (hck : tCk t) : ∀ F, yP0 f n N w S m B t F ∧ yP1 f n N w S m B t F ∧ yP2 f n N w S m B t F ∧ yP3 f n N w S m B t F ∧ yP4 f n N w S m B t F := by
  intro F
  induction F with
  | zero =>
    refine ⟨?_, ?_, ?_, ?_, ?_⟩
    · intro G K N0 r0 i it st b h hK hi hb hb4 hl hF; exact absurd hF (by omega)
    · intro G K N0 r0 i it st b h hK hi hb hb4 hl hbt hF; exact absurd hF (by omega)
    · intro G K N0 r0 i it st b h hK hi hb hb4 hl hbt hF; exact absurd hF (by omega)
    · intro G K K0 C A Q N1 r F0 i0 i it st b h hE hC hL hCl hK hQ hQ1 hi hb hb4 hl hbt hF; exact absurd hF (by omega)
    · intro G K K0 C A Q N1 r F0 i0 i it st b h hE hC hL hCl hK hQ hQ1 hi hb hb4 hl hbt hk2 hF; exact absurd hF (by omega)
  | succ F ih =>
    obtain ⟨P0, P1, P2, P3, P4⟩ := ih
    exact ⟨ky_0 hf hN3 hif hck P1, ky_1 P2 P4, ky_2 P0 P3, ky_3 hf hN3 hif P0 P3, ky_4 hf hN3 hif P2 P4⟩
/-- readExpression() of a FORMULA -/
theorem ky_53 {F i : Nat} {G : xG_} (hf : 3010 < f) (hif : ∀ i, i ≤ w → kK t i = 1 → (spl B (kS t i) (kE t i) 10 ↔ kC t i = 348)) (hck : tCk t) (hE : cEv S G B n t N w) (hA : cAt G N w i) (hi : i ≤ N) (hC : cCo G []) (hF : 4 * (w + 1 - i) + 3 ≤ F) : pok (pF t F 1 0 ([], 0, i)) (fun x => ∃ G', c53 f 72 1 (S, G, m) = some (.inl 0, cWr S G' m (x : Int)) ∧ xY 0 G G') (fun e => ∃ G' C F', c53 f 72 1 (S, G, m) = some (.inr (), (S, G', m)) ∧ xY 0 G G' ∧ cEv S G' B n t N w ∧ cAt G' N w e.2.2 ∧ e.2.2 ≤ N ∧ cCo G' C ∧ isC e.1 F' e.2.1 0 11 C ∧ C.length + i ≤ e.2.2 ∧ e.1.filterMap lf = C.filter lfC) := by
  have hs := hE.1
  have hN := hE.2.2.2.1.2
  have hx : xY 0 G (xup2 G 72 12 0) := fun a j p q r => xup2_n (by omega)
  have h' : cYs S (xup2 G 72 12 0) B n t N w [] [] i := ⟨hx.ev hE, ⟨by rw [xup2_n (by omega)]; exact hA.1, hA.2⟩, hi, hC.ge (xup2_n (by omega)) (fun j => xup2_n (by omega)) (fun j => xup2_n (by omega)), ⟨xup2_s _ _ _ _, fun k hk => absurd hk (Nat.not_lt_zero k)⟩⟩
  have e1 : c53 f 72 1 (S, G, m) = c53_9 f f 72 1 1 ((0 : Nat) : Int) (S, xup2 G 72 12 0, m) := by
    unfold c53
    simp (disch := omega) only [cq_gi, cq_gr, cq_a, cq_s, cq_p, cq_pr, cq_is, cq_ar, cq_ab, cq_ln, xq_nz, Option.bind_some, xup2_n, xup2_s, Int.toNat_natCast, Int.reduceToNat, if_pos, if_neg, true_and, and_true, and_self, eq_self, if_true, reduceIte, not_true_eq_false, not_false_eq_true, or_true, true_or, s72 hs]
    rfl
  have p := (ky_all (f := f) (m := m) (w := w) (S := S) (by omega) hN hif hck F).2.1 _ [] [] 0 i 0 [] 0 h' (by simp) (by omega) rfl (by omega) (by simp) (.inl rfl) hF
  cases hp : pF t F 1 0 ([], 0, i) with
  | inl x =>
    rw [hp] at p
    obtain ⟨d, G', a1, a2, a3⟩ := p
    refine ⟨G', ?_, hx.tr a2⟩
    rw [e1]
    have := a1 (f - d)
    have q : f - d + d = f := by omega
    rw [q] at this
    exact this
  | inr e =>
    rw [hp] at p
    obtain ⟨d, G', K, C, Q, F', a1, a2, a3, a4, a5, a6, a7, a8, a9, a10, a11, aL, M, a12⟩ := p
    have hle := congrArg List.length a4
    rw [List.length_append, List.length_append, List.length_map] at hle
    have hle' : K.length + Q.length = 0 + C.length := hle
    have he := a3.2.2.1
    obtain ⟨G2, b1, _, b2, b3⟩ := ky_end (f := f) (m := m) (hh := 0) (it := 0 + d) (by omega) hif a3 a9 (by have := (cStr_nn (kK t e.2.2)).1; omega) (.inl rfl) a7 (by simp; omega) (by omega)
    rw [a4, List.nil_append] at b2
    refine ⟨G2, C, F', ?_, (hx.tr a2).tr b1, b2.1, b2.2.1, b2.2.2.1, b2.2.2.2.1, a5, a6, aL⟩
    rw [e1]
    have := a1 (f - d)
    have q : f - d + d = f := by omega
    rw [q] at this
    rw [this]
    have q' : f - d = (f - d - 1) + 1 := by omega
    rw [q', b3, if_pos rfl]
end
end
section
/-! THE CLASS: the TOKENS of a CELL TEXT -/
section
variable {f n N : Nat} {S : Nat → Nat × Nat × Nat} {G : xG_} {m : Nat × Nat} {B : Nat → Int}
theorem kK_tr (i : Nat) : kK (tstr B n true) i = if 0 ≤ B (tS B n i) ∧ 62 ≤ i then 5 else kK (tstr B n false) i := by
  have e1 : kK (tstr B n true) i = if 0 ≤ B (tS B n i) ∧ true = true ∧ 62 ≤ i then 5 else tkd B n (tS B n i) := rfl
  have e2 : kK (tstr B n false) i = tkd B n (tS B n i) := if_neg (fun q => nomatch q.2.1)
  rw [e1, e2]
  by_cases c : 0 ≤ B (tS B n i) ∧ 62 ≤ i
  · rw [if_pos c, if_pos ⟨c.1, rfl, c.2⟩]
  · rw [if_neg c, if_neg (fun q => c ⟨q.1, q.2.2⟩)]
/-- the 63rd TOKEN can't stand -/
theorem cEv_lm (h : cEv S G B n (tstr B n false) N N) (hb : ∀ i, N ≤ i → B (tS B n i) < 0) (hn : ∀ i, i < N → 0 ≤ B (tS B n i)) : cEv S (if N ≤ 62 then G else xup2 G 67 62 5) B n (tstr B n true) N (if N ≤ 62 then N else 62) := by
  obtain ⟨h1, h2, h3, h4, h5, h6, h7⟩ := h
  have g : ∀ a j, ¬ (a = 67 ∧ j = 62 ∧ 62 < N) → (if N ≤ 62 then G else xup2 G 67 62 5) a j = G a j := fun a j q => by
    split
    · rfl
    · exact xup2_n (by omega)
  have hp : cPs (if N ≤ 62 then G else xup2 G 67 62 5) := h2.ge (fun a j hz => g a j (by
    rcases hz with z | z | z | z | z | z | z | ⟨z, z1, z2, k, z3⟩ | z | z | z | ⟨k, z1, z2, z3⟩ <;> omega))
  have ke : ∀ i, N ≤ i → kK (tstr B n true) i = kK (tstr B n false) i := fun i hi => by
    rw [kK_tr, if_neg (fun q => by have := hb i hi; omega)]
  refine ⟨h1, hp, h3.ge (g _ _ (by omega)) (fun p => g _ _ (by omega)), ⟨by rw [g _ _ (by omega)]; exact h4.1, h4.2⟩, fun i hi => ?_, ?_, fun i hi => ?_⟩
  · rw [ke i hi]
    exact h5 i hi
  · by_cases c : N ≤ 62
    · rw [if_pos c]; exact .inl rfl
    · rw [if_neg c]
      refine .inr ⟨by omega, ?_⟩
      rw [kK_tr, if_pos ⟨hn 62 (by omega), Nat.le_refl _⟩]
  · have hi2 : i ≤ N ∧ (N ≤ 62 ∨ i ≤ 62) := by
      split at hi <;> omega
    obtain ⟨⟨a1, a2, a3⟩, a4, a5, a6⟩ := h7 i hi2.1
    have e68 : (if N ≤ 62 then G else xup2 G 67 62 5) 68 i = G 68 i := g _ _ (by omega)
    have e69 : (if N ≤ 62 then G else xup2 G 67 62 5) 69 i = G 69 i := g _ _ (by omega)
    have e70 : (if N ≤ 62 then G else xup2 G 67 62 5) 70 i = G 70 i := g _ _ (by omega)
    have e71 : (if N ≤ 62 then G else xup2 G 67 62 5) 71 i = G 71 i := g _ _ (by omega)
    rw [e68, e69, e70, e71]
    by_cases c : 62 < N ∧ i = 62
    · have k5 : kK (tstr B n true) i = 5 := by
        rw [kK_tr, if_pos ⟨hn i (by omega), by omega⟩]
      rw [k5]
      refine ⟨⟨?_, a2, a3⟩, fun q => by omega, fun q => by omega, a6.1, a6.2.1, a6.2.2.1, fun q => by omega⟩
      rw [if_neg (by omega), c.2, xup2_s]
    · have ek : kK (tstr B n true) i = kK (tstr B n false) i := by
        by_cases ci : i < 62
        · exact kK_lm ci
        · exact ke i (by omega)
      rw [ek, g 67 i (by omega)]
      exact ⟨⟨a1, a2, a3⟩, a4, a5, a6⟩
theorem wS_if : (∀ j : Fin 12, j.val < wL 10 → tNm (wS 10 j.val)) ∧ wL 10 < 12 ∧ tenc 38 xdig (wS 10) 0 (wL 10) = 348 := by decide +kernel
theorem if_spl (hB : tTx B n) {lm : Bool} {i : Nat} (h1 : kK (tstr B n lm) i = 1) : spl B (kS (tstr B n lm) i) (kE (tstr B n lm) i) 10 ↔ kC (tstr B n lm) i = 348 := by
  have hk : tkd B n (tS B n i) = 1 := by
    have e1 : kK (tstr B n lm) i = if 0 ≤ B (tS B n i) ∧ lm = true ∧ 62 ≤ i then 5 else tkd B n (tS B n i) := rfl
    rw [e1] at h1
    split at h1
    · exact absurd h1 (by decide)
    · exact h1
  obtain ⟨b1, b2⟩ := tkd_inv.2 hk
  have hle := (tS_le hB i).1
  have e1 : kE (tstr B n lm) i = tnend B n (tS B n i) := by
    show ten B n (tS B n i) = _
    unfold ten
    rw [if_neg b1, if_pos b2]
  have e2 : kC (tstr B n lm) i = tncode B (tS B n i) (tnend B n (tS B n i)) := by
    show tco B n (tS B n i) = _
    unfold tco
    rw [if_pos b2]
  obtain ⟨w1, w2, w3⟩ := wS_if
  have hr := trun_is (P := tNm) hB (by decide) (n - tS B n i) (tS B n i) (Nat.le_refl _) hle
  rw [e1, e2, ← w3]
  exact spl_code (fun j hj => w1 ⟨j, by omega⟩ hj) w2 hr.2.2.1
end
end
section
/-! THE CLASS: what a FORMULA reads -/
def rM9 (lo hi : Int) (a : Nat) : Prop := rM8 lo hi a ∧ ∀ x, 8 ≤ x → x < 64 → (BitVec.ofInt 64 hi).getLsbD x = false
theorem rM9.z : rM9 0 0 0 := ⟨.z, fun x _ _ => by
  have : BitVec.ofInt 64 0 = 0#64 := by decide
  rw [this]
  exact BitVec.getLsbD_zero⟩
theorem rM9.lo {lo hi : Int} {a m : Nat} (h1 : rM9 lo hi a) (hm : m < 64) : rM9 (xor8 lo (xshl8 1 (m : Int))) hi (a ||| 2 ^ m) := ⟨h1.1.lo hm, h1.2⟩
theorem rM9.hi {lo hi : Int} {a m : Nat} (h1 : rM9 lo hi a) (hm : 64 ≤ m) (hm2 : m < 72) : rM9 lo (xor8 hi (xshl8 1 ((m - 64 : Nat) : Int))) (a ||| 2 ^ m) := by
  refine ⟨h1.1.hi hm hm2, fun x x1 x2 => ?_⟩
  rw [xor8_bv, xshl8_bv ⟨m - 64, by omega⟩, BitVec.getLsbD_or, BitVec.getLsbD_twoPow, h1.2 x x1 x2]
  have : ¬ m - 64 = x := by omega
  simp [this]
theorem rM9.or {lo hi lo' hi' : Int} {a b : Nat} (h1 : rM9 lo hi a) (h2 : rM9 lo' hi' b) : rM9 (xor8 lo lo') (xor8 hi hi') (a ||| b) := by
  refine ⟨h1.1.or h2.1, fun x x1 x2 => ?_⟩
  rw [xor8_bv, BitVec.getLsbD_or, h1.2 x x1 x2, h2.2 x x1 x2]
  rfl
def cR1 (c : Int × Int) : Nat := if c.1 % 256 = 2 then 2 ^ c.2.toNat else if c.1 % 256 = 3 ∨ c.1 % 256 = 4 then nBx (c.2 % 72) (c.2 / 72) 72 else 0
def cRm : pCd → Nat
  | [] => 0
  | c :: C => cR1 c ||| cRm C
def cNm : pCd → Bool
  | [] => false
  | c :: C => decide (10 ≤ c.1 % 256 ∧ c.1 % 256 ≤ 13) || cNm C
def okCd (C : pCd) : Prop := ∀ c ∈ C, (0 ≤ c.1 ∧ c.1 < 1100) ∧ (c.1 % 256 = 2 → 0 ≤ c.2 ∧ c.2 < 72) ∧ (c.1 % 256 = 3 ∨ c.1 % 256 = 4 → 0 ≤ c.2 ∧ c.2 < 5184)
def xO (o : Nat) (G G' : xG_) : Prop := ∀ a j, ¬ (a = o ∧ (j = 2 ∨ j = 3 ∨ j = 4)) → G' a j = G a j
theorem x_a255 : ∀ n : Fin 1100, xand ((n.val : Nat) : Int) 255 = ((n.val % 256 : Nat) : Int) := by decide +kernel
theorem x_d72 : ∀ b : Fin 72, ∀ a : Fin 72, xrem ((a.val + 72 * b.val : Nat) : Int) 72 = (a.val : Int) ∧ xdiv ((a.val + 72 * b.val : Nat) : Int) 72 = (b.val : Int) := by decide +kernel
theorem x_a255' {c : Int} (h : 0 ≤ c ∧ c < 1100) : xand c 255 = c % 256 := by
  have := x_a255 ⟨c.toNat, by omega⟩
  have e : ((c.toNat : Nat) : Int) = c := by omega
  rw [show ((⟨c.toNat, by omega⟩ : Fin 1100).val) = c.toNat from rfl, e] at this
  rw [this]
  omega
theorem x_d72' {c : Int} (h : 0 ≤ c ∧ c < 5184) : xrem c 72 = c % 72 ∧ xdiv c 72 = c / 72 := by
  have := x_d72 ⟨c.toNat / 72, by omega⟩ ⟨c.toNat % 72, by omega⟩
  have e : ((c.toNat % 72 + 72 * (c.toNat / 72) : Nat) : Int) = c := by omega
  have t : xrem ((c.toNat % 72 + 72 * (c.toNat / 72) : Nat) : Int) 72 = ((c.toNat % 72 : Nat) : Int) ∧ xdiv ((c.toNat % 72 + 72 * (c.toNat / 72) : Nat) : Int) 72 = ((c.toNat / 72 : Nat) : Int) := this
  rw [e] at t
  rw [t.1, t.2]
  omega
section
variable {f o : Nat} {S : Nat → Nat × Nat × Nat} {G G' G'' : xG_} {m : Nat × Nat}
theorem xO.id : xO o G G := fun _ _ _ => rfl
theorem xO.tr (h : xO o G G') (h' : xO o G' G'') : xO o G G'' := fun a j p => by rw [h' a j p, h a j p]
/-- addRead() -/
theorem k_2 {x a : Nat} (hs : S o = (1, 0, 5)) (hx : x < 72) (h : rM9 (G o 2) (G o 3) a) : ∃ G', c2 f o (x : Int) (S, G, m) = some (S, G', m) ∧ xO o G G' ∧ G' o 4 = G o 4 ∧ rM9 (G' o 2) (G' o 3) (a ||| 2 ^ x) := by
  by_cases c : x < 64
  · refine ⟨xup2 G o 2 (xor8 (G o 2) (xshl8 1 (x : Int))), ?_, fun a j p => xup2_n (by omega), xup2_n (by omega), ?_⟩
    · unfold c2 c2_36
      rw [if_neg (by omega)]
      simp (disch := omega) only [cq_gi, cq_gr, cq_a, cq_s, cq_p, cq_pr, cq_is, cq_ar, cq_ab, cq_ln, xq_nz, Option.bind_some, xup2_n, xup2_s, Int.toNat_natCast, Int.reduceToNat, if_pos, if_neg, true_and, and_true, and_self, eq_self, if_true, reduceIte, not_true_eq_false, not_false_eq_true, or_true, true_or, hs]
    · rw [xup2_s, xup2_n (by omega)]
      exact h.lo c
  · have e : xwr ((x : Int) - 64) = ((x - 64 : Nat) : Int) := by rw [xwr_g _ (by omega) (by omega)]; omega
    refine ⟨xup2 G o 3 (xor8 (G o 3) (xshl8 1 ((x - 64 : Nat) : Int))), ?_, fun a j p => xup2_n (by omega), xup2_n (by omega), ?_⟩
    · unfold c2 c2_36
      rw [if_pos (by omega)]
      simp (disch := omega) only [cq_gi, cq_gr, cq_a, cq_s, cq_p, cq_pr, cq_is, cq_ar, cq_ab, cq_ln, xq_nz, Option.bind_some, xup2_n, xup2_s, Int.toNat_natCast, Int.reduceToNat, if_pos, if_neg, true_and, and_true, and_self, eq_self, if_true, reduceIte, not_true_eq_false, not_false_eq_true, or_true, true_or, hs, e]
    · rw [xup2_s, xup2_n (by omega)]
      exact h.hi (by omega) hx
/-- addReads() -/
theorem k_1l {a b : Nat} (hs : S o = (1, 0, 5)) (ha : a < 72) (hb : b < 72) (A : Nat) : ∀ (d c fu : Nat) (G : xG_), c + d = b + 1 → d < fu → a ≤ c → rM9 (G o 2) (G o 3) (A ||| nBx (a : Int) (b : Int) c) → ∃ G', c1_2 f fu o (a : Int) (b : Int) (c : Int) (S, G, m) = some (S, G', m) ∧ xO o G G' ∧ G' o 4 = G o 4 ∧ rM9 (G' o 2) (G' o 3) (A ||| nBx (a : Int) (b : Int) (b + 1)) := by
  intro d
  induction d with
  | zero =>
    intro c fu G h1 h2 h3 h
    obtain ⟨fu, rfl⟩ : ∃ t, fu = t + 1 := ⟨fu - 1, by omega⟩
    refine ⟨G, ?_, .id, rfl, ?_⟩
    · show c1_2b (c1_2 f fu) f o _ _ _ _ = _
      unfold c1_2b
      rw [if_pos (by omega)]
    · have : c = b + 1 := by omega
      rw [← this]; exact h
  | succ d ih =>
    intro c fu G h1 h2 h3 h
    obtain ⟨fu, rfl⟩ : ∃ t, fu = t + 1 := ⟨fu - 1, by omega⟩
    have ec : xwr ((c : Int) + 1) = ((c + 1 : Nat) : Int) := by rw [xwr_g _ (by omega) (by omega)]; omega
    obtain ⟨_, a2⟩ := x6 a ha
    obtain ⟨_, b2⟩ := x6 b hb
    obtain ⟨_, c2'⟩ := x6 c (by omega)
    have e1 : ∀ G, c1_2 f (fu + 1) o (a : Int) (b : Int) (c : Int) (S, G, m) = if fIn c (a : Int) (b : Int) then (c2 f o (c : Int) (S, G, m)).bind fun R => c1_2 f fu o (a : Int) (b : Int) ((c + 1 : Nat) : Int) R else c1_2 f fu o (a : Int) (b : Int) ((c + 1 : Nat) : Int) (S, G, m) := by
      intro G
      show c1_2b (c1_2 f fu) f o _ _ _ _ = _
      unfold c1_2b c1_34
      rw [if_neg (by omega), a2, b2, c2', ec]
      unfold fIn
      by_cases q1 : c % 6 < a % 6
      · rw [if_pos (by omega), if_neg (by omega)]
      · rw [if_neg (by omega)]
        by_cases q2 : b % 6 < c % 6
        · rw [if_pos (by omega), if_neg (by omega)]
        · rw [if_neg (by omega), if_pos (by omega)]
          simp (disch := omega) only [cq_gi, cq_gr, cq_a, cq_s, cq_p, cq_pr, cq_is, cq_ar, cq_ab, cq_ln, xq_nz, Option.bind_some, xup2_n, xup2_s, Int.toNat_natCast, Int.reduceToNat, if_pos, if_neg, true_and, and_true, and_self, eq_self, if_true, reduceIte, not_true_eq_false, not_false_eq_true, or_true, true_or, hs]
    rw [e1]
    have en : nBx (a : Int) (b : Int) (c + 1) = if fIn c (a : Int) (b : Int) then nBx (a : Int) (b : Int) c ||| 2 ^ c else nBx (a : Int) (b : Int) c := rfl
    by_cases q : fIn c (a : Int) (b : Int)
    · rw [if_pos q] at en ⊢
      obtain ⟨G1, y1, y2, y3, y4⟩ := k_2 (f := f) (m := m) hs (by omega : c < 72) h
      rw [Nat.or_assoc, ← en] at y4
      obtain ⟨G2, z1, z2, z3, z4⟩ := ih (c + 1) fu G1 (by omega) (by omega) (by omega) y4
      refine ⟨G2, ?_, y2.tr z2, by rw [z3, y3], z4⟩
      rw [y1, Option.bind_some]
      exact z1
    · rw [if_neg q] at en ⊢
      rw [← en] at h
      exact ih (c + 1) fu G (by omega) (by omega) (by omega) h
theorem nBx_lo {a b : Nat} : nBx (a : Int) (b : Int) a = 0 := by
  apply Nat.eq_of_testBit_eq
  intro i
  rw [Nat.zero_testBit]
  cases h : (nBx (a : Int) (b : Int) a).testBit i with
  | false => rfl
  | true =>
    have := (nBx_t a i).mp h
    unfold fIn at this
    omega
theorem nBx_hi {a b : Nat} (hb : b < 72) : nBx (a : Int) (b : Int) (b + 1) = nBx (a : Int) (b : Int) 72 := by
  apply Nat.eq_of_testBit_eq
  intro i
  rw [Bool.eq_iff_iff, nBx_t, nBx_t]
  unfold fIn
  omega
theorem nBx_0 {a b : Nat} (hb : b < a) : nBx (a : Int) (b : Int) 72 = 0 := by
  apply Nat.eq_of_testBit_eq
  intro i
  rw [Nat.zero_testBit]
  cases h : (nBx (a : Int) (b : Int) 72).testBit i with
  | false => rfl
  | true =>
    have := (nBx_t 72 i).mp h
    unfold fIn at this
    omega
theorem k_1 {a b A : Nat} (hf : 100 < f) (hs : S o = (1, 0, 5)) (ha : a < 72) (hb : b < 72) (h : rM9 (G o 2) (G o 3) A) : ∃ G', c1 f o (a : Int) (b : Int) (S, G, m) = some (S, G', m) ∧ xO o G G' ∧ G' o 4 = G o 4 ∧ rM9 (G' o 2) (G' o 3) (A ||| nBx (a : Int) (b : Int) 72) := by
  by_cases c : a ≤ b + 1
  · obtain ⟨G', h1, h2, h3, h4⟩ := k_1l (f := f) (m := m) hs ha hb A (b + 1 - a) a f G (by omega) (by omega) (Nat.le_refl _) (by rw [nBx_lo, Nat.or_zero]; exact h)
    rw [nBx_hi hb] at h4
    exact ⟨G', h1, h2, h3, h4⟩
  · rw [nBx_0 (by omega), Nat.or_zero]
    refine ⟨G, ?_, .id, rfl, h⟩
    unfold c1
    obtain ⟨g, rfl⟩ : ∃ t, f = t + 1 := ⟨f - 1, by omega⟩
    show c1_2b (c1_2 (g + 1) g) (g + 1) o _ _ _ _ = _
    unfold c1_2b
    rw [if_pos (by omega)]
/-- a FORMULA comes to be -/
theorem k_0l {L : Nat} (hf : 100 < f) (hs : S o = (1, 0, 5)) (h1 : S (o + 1) = (2, 3, L)) (h2 : S (o + 2) = (2, 4, L)) (hL : L ≤ 100) : ∀ (D P : pCd) (fu a : Nat) (G : xG_), P.length + D.length = L → D.length < fu → okCd D → (∀ k, k < D.length → G (o + 1) (P.length + k) = (D.getD k (0, 0)).1 ∧ G (o + 2) (P.length + k) = (D.getD k (0, 0)).2) → rM9 (G o 2) (G o 3) a → (G o 4 = 0 ∨ G o 4 = 1) → ∃ G', c0_16 f fu o (o + 1) (o + 2) (P.length : Int) (S, G, m) = some (S, G', m) ∧ xO o G G' ∧ rM9 (G' o 2) (G' o 3) (a ||| cRm D) ∧ G' o 4 = if cNm D = true then 1 else G o 4 := by
  intro D
  induction D with
  | nil =>
    intro P fu a G e1 e2 e3 e4 e5 e6
    obtain ⟨fu, rfl⟩ : ∃ t, fu = t + 1 := ⟨fu - 1, by omega⟩
    rw [List.length_nil] at e1
    refine ⟨G, ?_, .id, by show rM9 _ _ (a ||| 0); rw [Nat.or_zero]; exact e5, rfl⟩
    show c0_16b (c0_16 f fu) f o _ _ _ _ = _
    unfold c0_16b
    have el : cq_ln (o + 1) (S, G, m) = some (L : Int) := by
      unfold cq_ln
      show (if (S (o + 1)).1 = 2 ∧ (S (o + 1)).2.2 < 2147483648 then some ((S (o + 1)).2.2 : Int) else none) = _
      rw [h1, if_pos ⟨rfl, by show L < _; omega⟩]
    rw [el, Option.bind_some, if_pos (by omega)]
  | cons x D ih =>
    intro P fu a G e1 e2 e3 e4 e5 e6
    obtain ⟨fu, rfl⟩ : ∃ t, fu = t + 1 := ⟨fu - 1, by omega⟩
    rw [List.length_cons] at e1 e2
    obtain ⟨x1, x2, x3⟩ := e3 x (List.mem_cons_self ..)
    have q0 := e4 0 (by simp)
    have q1 : G (o + 1) P.length = x.1 := q0.1
    have q2 : G (o + 2) P.length = x.2 := q0.2
    have el : cq_ln (o + 1) (S, G, m) = some (L : Int) := by
      unfold cq_ln
      show (if (S (o + 1)).1 = 2 ∧ (S (o + 1)).2.2 < 2147483648 then some ((S (o + 1)).2.2 : Int) else none) = _
      rw [h1, if_pos ⟨rfl, by show L < _; omega⟩]
    have ek : xwr ((P.length : Int) + 1) = ((P.length + 1 : Nat) : Int) := by rw [xwr_g _ (by omega) (by omega)]; omega
    have hz := x_a255' x1
    -- behind this one
    have nx : ∀ G1, xO o G G1 → (G1 o 4 = 0 ∨ G1 o 4 = 1) → rM9 (G1 o 2) (G1 o 3) (a ||| cR1 x) → ∃ G', c0_16 f fu o (o + 1) (o + 2) ((P.length + 1 : Nat) : Int) (S, G1, m) = some (S, G', m) ∧ xO o G G' ∧ rM9 (G' o 2) (G' o 3) (a ||| cRm (x :: D)) ∧ G' o 4 = if cNm D = true then 1 else G1 o 4 := by
      intro G1 z1 z2 z3
      obtain ⟨G', y1, y2, y3, y4⟩ := ih (P ++ [x]) fu (a ||| cR1 x) G1 (by rw [len1]; omega) (by omega) (fun c hc => e3 c (List.mem_cons_of_mem _ hc)) (fun k hk => by
        have := e4 (k + 1) (by rw [List.length_cons]; omega)
        rw [len1, z1 _ _ (by omega), z1 _ _ (by omega), Nat.add_assoc, Nat.add_comm 1 k]
        exact this) z3 z2
      rw [len1] at y1
      exact ⟨G', y1, z1.tr y2, by show rM9 _ _ (a ||| (cR1 x ||| cRm D)); rw [← Nat.or_assoc]; exact y3, y4⟩
    have e0 : c0_16 f (fu + 1) o (o + 1) (o + 2) (P.length : Int) (S, G, m) = (if ¬ x.1 % 256 = 2 then (if x.1 % 256 = 3 then c0_60 (c0_16 f fu) f o (o + 1) (o + 2) (P.length : Int) (S, G, m) else (if ¬ x.1 % 256 = 4 then (if x.1 % 256 < 10 then c0_16 f fu o (o + 1) (o + 2) ((P.length + 1 : Nat) : Int) (S, G, m) else (if 13 < x.1 % 256 then c0_16 f fu o (o + 1) (o + 2) ((P.length + 1 : Nat) : Int) (S, G, m) else c0_16 f fu o (o + 1) (o + 2) ((P.length + 1 : Nat) : Int) (S, xup2 G o 4 1, m))) else c0_60 (c0_16 f fu) f o (o + 1) (o + 2) (P.length : Int) (S, G, m))) else (c2 f o (xwr x.2) (S, G, m)).bind fun R128 => c0_16 f fu o (o + 1) (o + 2) ((P.length + 1 : Nat) : Int) R128) := by
      have epb : cq_pb 0 4 5 o 1 (S, G, m) = some (S, xup2 G o 4 1, m) := if_pos ⟨hs, .inr rfl⟩
      show c0_16b (c0_16 f fu) f o _ _ _ _ = _
      unfold c0_16b c0_100
      rw [el, Option.bind_some, if_neg (by omega)]
      simp (disch := omega) only [cq_gi, cq_gr, cq_a, cq_s, cq_p, cq_pr, cq_is, cq_ar, cq_ab, cq_ln, xq_nz, Option.bind_some, xup2_n, xup2_s, Int.toNat_natCast, Int.reduceToNat, if_pos, if_neg, true_and, and_true, and_self, eq_self, if_true, reduceIte, not_true_eq_false, not_false_eq_true, or_true, true_or, h1, h2, hs, q1, q2, ek, hz, epb]
    have e60 : ∀ (_ : x.1 % 256 = 3 ∨ x.1 % 256 = 4), c0_60 (c0_16 f fu) f o (o + 1) (o + 2) (P.length : Int) (S, G, m) = (c1 f o (x.2 % 72) (x.2 / 72) (S, G, m)).bind fun R => c0_16 f fu o (o + 1) (o + 2) ((P.length + 1 : Nat) : Int) R := by
      intro hh
      obtain ⟨w1, w2⟩ := x_d72' (x3 hh)
      have w0 : xwr x.2 = x.2 := by have := x3 hh; exact xwr_g _ (by omega) (by omega)
      unfold c0_60 c0_100
      simp (disch := omega) only [cq_gi, cq_gr, cq_a, cq_s, cq_p, cq_pr, cq_is, cq_ar, cq_ab, cq_ln, xq_nz, Option.bind_some, xup2_n, xup2_s, Int.toNat_natCast, Int.reduceToNat, if_pos, if_neg, true_and, and_true, and_self, eq_self, if_true, reduceIte, not_true_eq_false, not_false_eq_true, or_true, true_or, h1, h2, hs, q1, q2, ek, w0, w1, w2]
    rw [e0]
    by_cases c2' : x.1 % 256 = 2
    · rw [if_neg (fun q => q c2')]
      have hx := x2 c2'
      have w0 : xwr x.2 = ((x.2.toNat : Nat) : Int) := by rw [xwr_g _ (by omega) (by omega)]; omega
      obtain ⟨G1, y1, y2, y3, y4⟩ := k_2 (f := f) (m := m) hs (by omega : x.2.toNat < 72) e5
      obtain ⟨G', n1, n2, n3, n4⟩ := nx G1 y2 (by rw [y3]; exact e6) (by unfold cR1; rw [if_pos c2']; exact y4)
      refine ⟨G', by rw [w0, y1, Option.bind_some]; exact n1, n2, n3, ?_⟩
      rw [n4, y3]
      have : cNm (x :: D) = cNm D := by show (decide _ || _) = _; rw [decide_eq_false (by omega)]; rfl
      rw [this]
    · rw [if_pos c2']
      by_cases c34 : x.1 % 256 = 3 ∨ x.1 % 256 = 4
      · have hx := x3 c34
        have r1 : x.2 % 72 = (((x.2 % 72).toNat : Nat) : Int) := by omega
        have r2 : x.2 / 72 = (((x.2 / 72).toNat : Nat) : Int) := by omega
        obtain ⟨G1, y1, y2, y3, y4⟩ := k_1 (f := f) (m := m) hf hs (by omega : (x.2 % 72).toNat < 72) (by omega : (x.2 / 72).toNat < 72) e5
        rw [← r1, ← r2] at y1 y4
        obtain ⟨G', n1, n2, n3, n4⟩ := nx G1 y2 (by rw [y3]; exact e6) (by unfold cR1; rw [if_neg c2', if_pos c34]; exact y4)
        have en : cNm (x :: D) = cNm D := by show (decide _ || _) = _; rw [decide_eq_false (by omega)]; rfl
        refine ⟨G', ?_, n2, n3, by rw [n4, y3, en]⟩
        have e61 := e60 c34
        rw [y1, Option.bind_some] at e61
        rw [← n1, ← e61]
        by_cases c3 : x.1 % 256 = 3
        · rw [if_pos c3]
        · rw [if_neg c3, if_neg (by omega)]
      · have er : cR1 x = 0 := by unfold cR1; rw [if_neg c2', if_neg c34]
        rw [if_neg (by omega), if_pos (by omega)]
        by_cases cn : 10 ≤ x.1 % 256 ∧ x.1 % 256 ≤ 13
        · rw [if_neg (by omega), if_neg (by omega)]
          have zo : xO o G (xup2 G o 4 1) := fun a j p => xup2_n (by omega)
          obtain ⟨G', n1, n2, n3, n4⟩ := nx (xup2 G o 4 1) zo (.inr (xup2_s _ _ _ _)) (by rw [er, Nat.or_zero, xup2_n (by omega), xup2_n (by omega)]; exact e5)
          have en : cNm (x :: D) = true := by show (decide _ || _) = _; rw [decide_eq_true cn]; rfl
          refine ⟨G', n1, n2, n3, ?_⟩
          rw [n4, en, xup2_s, if_pos rfl]
          split <;> rfl
        · obtain ⟨G', n1, n2, n3, n4⟩ := nx G .id e6 (by rw [er, Nat.or_zero]; exact e5)
          have en : cNm (x :: D) = cNm D := by show (decide _ || _) = _; rw [decide_eq_false cn]; rfl
          refine ⟨G', ?_, n2, n3, by rw [n4, en]⟩
          rw [← n1]
          by_cases c10 : x.1 % 256 < 10
          · rw [if_pos c10]
          · rw [if_neg c10, if_pos (by omega)]
end
end
section
/-! THE CLASS: a FORMULA of the class, readCell() -/
theorem okCd_of {N : List pNd} (hw : wFm N) : ∀ (F : Nat) (r : Int) (b k : Nat) (C : pCd), isC N F r b k C → okCd C := by
  intro F
  induction F with
  | zero => intro r b k C h; exact h.elim
  | succ F ih =>
    intro r b k C h
    obtain ⟨⟨h1, h2⟩, _, h3⟩ := h
    have hy := hw r.toNat (by omega)
    generalize N.getD r.toNat dNd = y at h3 hy
    unfold wNd at hy
    have one : ∀ z : Int × Int, (0 ≤ z.1 ∧ z.1 < 1100) ∧ (z.1 % 256 = 2 → 0 ≤ z.2 ∧ z.2 < 72) ∧ (z.1 % 256 = 3 ∨ z.1 % 256 = 4 → 0 ≤ z.2 ∧ z.2 < 5184) → okCd [z] := fun z hz c hc => by rw [List.mem_singleton] at hc; rw [hc]; exact hz
    have app : ∀ A D : pCd, okCd A → okCd D → okCd (A ++ D) := fun A D hA hD c hc => by
      rcases List.mem_append.mp hc with q | q
      · exact hA c q
      · exact hD c q
    rcases h3 with ⟨q, q2⟩ | ⟨q, q2⟩ | ⟨q, A, D, a1, a2, a3⟩ | ⟨q, q2⟩ | ⟨q, q2⟩ | ⟨q, A, D, E, a1, a2, a3, a4⟩
    · rw [q2]; exact one _ ⟨by show (0 : Int) ≤ 1 ∧ (1 : Int) < 1100; decide, (fun z => absurd z (by show ¬ (1 : Int) % 256 = 2; decide)), (fun z => absurd z (by show ¬ ((1 : Int) % 256 = 3 ∨ (1 : Int) % 256 = 4); decide))⟩
    · rw [q2]; refine one _ ⟨by show (0 : Int) ≤ 2 ∧ (2 : Int) < 1100; decide, fun _ => ?_, (fun z => absurd z (by show ¬ ((2 : Int) % 256 = 3 ∨ (2 : Int) % 256 = 4); decide))⟩
      show 0 ≤ y.2.1 ∧ y.2.1 < 72
      omega
    · rw [a3]
      refine app _ _ (app _ _ (ih _ _ _ _ a1) (ih _ _ _ _ a2)) (one _ ⟨?_, ?_, ?_⟩)
      · show 0 ≤ y.2.2.2.1 ∧ y.2.2.2.1 < 1100; omega
      · intro z; have z' : y.2.2.2.1 % 256 = 2 := z; omega
      · intro z; have z' : y.2.2.2.1 % 256 = 3 ∨ y.2.2.2.1 % 256 = 4 := z; omega
    · rw [q2]
      refine one _ ⟨?_, ?_, ?_⟩
      · show 0 ≤ y.1 - 1 ∧ y.1 - 1 < 1100; omega
      · intro z; have z' : (y.1 - 1) % 256 = 2 := z; omega
      · intro _; show 0 ≤ y.2.1 + 72 * y.2.2.1 ∧ y.2.1 + 72 * y.2.2.1 < 5184; omega
    · rw [q2]
      refine one _ ⟨?_, ?_, ?_⟩
      · show 0 ≤ y.1 + 4 + 256 * y.2.1 ∧ y.1 + 4 + 256 * y.2.1 < 1100; omega
      · intro z; have z' : (y.1 + 4 + 256 * y.2.1) % 256 = 2 := z; omega
      · intro z; have z' : (y.1 + 4 + 256 * y.2.1) % 256 = 3 ∨ (y.1 + 4 + 256 * y.2.1) % 256 = 4 := z; omega
    · rw [a4]
      refine app _ _ (app _ _ (app _ _ (app _ _ (ih _ _ _ _ a1) (one _ ⟨by show (0 : Int) ≤ 14 ∧ (14 : Int) < 1100; decide, (fun z => absurd z (by show ¬ (14 : Int) % 256 = 2; decide)), (fun z => absurd z (by show ¬ ((14 : Int) % 256 = 3 ∨ (14 : Int) % 256 = 4); decide))⟩)) (ih _ _ _ _ a2)) (one _ ⟨by show (0 : Int) ≤ 15 ∧ (15 : Int) < 1100; decide, (fun z => absurd z (by show ¬ (15 : Int) % 256 = 2; decide)), (fun z => absurd z (by show ¬ ((15 : Int) % 256 = 3 ∨ (15 : Int) % 256 = 4); decide))⟩)) (ih _ _ _ _ a3)
theorem cRm_f : ∀ C : pCd, cRm (C.filter lfC) = cRm C ∧ cNm (C.filter lfC) = cNm C
  | [] => ⟨rfl, rfl⟩
  | c :: C => by
    have ih := cRm_f C
    by_cases h : lfC c = true
    · rw [List.filter_cons_of_pos h]
      exact ⟨by show cR1 c ||| _ = cR1 c ||| _; rw [ih.1], by show (_ || _) = (_ || _); rw [ih.2]⟩
    · rw [List.filter_cons_of_neg h, ih.1, ih.2]
      unfold lfC at h
      rw [decide_eq_true_iff] at h
      have e : cR1 c = 0 := by unfold cR1; rw [if_neg (by omega), if_neg (by omega)]
      refine ⟨by show _ = cR1 c ||| _; rw [e, Nat.zero_or], ?_⟩
      show _ = (decide _ || _)
      rw [decide_eq_false (by omega)]
      rfl
theorem cRm_n : ∀ N : List pNd, (∀ y ∈ N, ∃ M k, wNd M k y) → cRm (N.filterMap lf) = nRd N ∧ cNm (N.filterMap lf) = nNm N
  | [], _ => ⟨rfl, rfl⟩
  | y :: N, h => by
    have ih := cRm_n N (fun z hz => h z (List.mem_cons_of_mem _ hz))
    obtain ⟨M, k, hy⟩ := h y (List.mem_cons_self ..)
    unfold wNd at hy
    have fin : ∀ c : Int × Int, lf y = some c → cR1 c = nR1 y → (10 ≤ c.1 % 256 ∧ c.1 % 256 ≤ 13 ↔ 6 ≤ y.1 ∧ y.1 ≤ 9) → cRm ((y :: N).filterMap lf) = nRd (y :: N) ∧ cNm ((y :: N).filterMap lf) = nNm (y :: N) := fun c h1 h2 h3 => by
      rw [List.filterMap_cons_some h1]
      refine ⟨by show cR1 c ||| _ = nR1 y ||| _; rw [h2, ih.1], ?_⟩
      show (decide _ || _) = (decide _ || _)
      rw [ih.2, decide_eq_decide.mpr h3]
    by_cases c1 : y.1 = 1
    · refine fin (1, y.2.2.2.2) (if_pos c1) ?_ (by show 10 ≤ (1 : Int) % 256 ∧ _ ↔ _; omega)
      unfold nR1
      rw [if_neg (by omega), if_neg (by omega)]
      rfl
    · by_cases c2 : y.1 = 2
      · refine fin (2, y.2.1) (by unfold lf; rw [if_neg c1, if_pos c2]) ?_ (by show 10 ≤ (2 : Int) % 256 ∧ _ ↔ _; omega)
        unfold nR1
        rw [if_pos c2]
        rfl
      · by_cases c4 : y.1 = 4 ∨ y.1 = 5
        · refine fin (y.1 - 1, y.2.1 + 72 * y.2.2.1) (by unfold lf; rw [if_neg c1, if_neg c2, if_pos c4]) ?_ (by show 10 ≤ (y.1 - 1) % 256 ∧ (y.1 - 1) % 256 ≤ 13 ↔ _; omega)
          unfold nR1 cR1
          rw [if_neg c2, if_pos c4]
          rw [if_neg (show ¬ (y.1 - 1) % 256 = 2 by omega), if_pos (show (y.1 - 1) % 256 = 3 ∨ (y.1 - 1) % 256 = 4 by omega)]
          have e1 : (y.2.1 + 72 * y.2.2.1) % 72 = y.2.1 := by omega
          have e2 : (y.2.1 + 72 * y.2.2.1) / 72 = y.2.2.1 := by omega
          show nBx ((y.2.1 + 72 * y.2.2.1) % 72) ((y.2.1 + 72 * y.2.2.1) / 72) 72 = _
          rw [e1, e2]
        · by_cases c6 : 6 ≤ y.1 ∧ y.1 ≤ 9
          · refine fin (y.1 + 4 + 256 * y.2.1, y.2.2.2.2) (by unfold lf; rw [if_neg c1, if_neg c2, if_neg c4, if_pos c6]) ?_ (by show 10 ≤ (y.1 + 4 + 256 * y.2.1) % 256 ∧ (y.1 + 4 + 256 * y.2.1) % 256 ≤ 13 ↔ _; omega)
            unfold nR1 cR1
            rw [if_neg c2, if_neg c4, if_neg (show ¬ (y.1 + 4 + 256 * y.2.1) % 256 = 2 by omega), if_neg (show ¬ ((y.1 + 4 + 256 * y.2.1) % 256 = 3 ∨ (y.1 + 4 + 256 * y.2.1) % 256 = 4) by omega)]
          · have e : lf y = none := by unfold lf; rw [if_neg c1, if_neg c2, if_neg c4, if_neg c6]
            rw [List.filterMap_cons_none e, ih.1, ih.2]
            refine ⟨?_, ?_⟩
            · show _ = nR1 y ||| _
              have : nR1 y = 0 := by unfold nR1; rw [if_neg c2, if_neg c4]
              rw [this, Nat.zero_or]
            · show _ = (decide _ || _)
              rw [decide_eq_false c6]
              rfl
theorem wFm.all {N : List pNd} (h : wFm N) : ∀ y ∈ N, ∃ M k, wNd M k y := fun y hy => by
  obtain ⟨k, hk, e⟩ := List.getElem_of_mem hy
  have := h k hk
  rw [getD_e hk, e] at this
  exact ⟨_, _, this⟩
/-- a FORMULA of the class -/
def cFm (S : Nat → Nat × Nat × Nat) (G : xG_) (o : Nat) (e : List pNd × Int) : Prop := ∃ (C : pCd) (F : Nat), (S o = (1, 0, 5) ∧ S (o + 1) = (2, 3, C.length) ∧ S (o + 2) = (2, 4, C.length)) ∧ (G o 0 = ((o + 1 : Nat) : Int) ∧ G o 1 = ((o + 2 : Nat) : Int)) ∧ (∀ k, k < C.length → G (o + 1) k = (C.getD k (0, 0)).1 ∧ G (o + 2) k = (C.getD k (0, 0)).2) ∧ rM9 (G o 2) (G o 3) (nRd e.1) ∧ (G o 4 = if nNm e.1 = true then 1 else 0) ∧ isC e.1 F e.2 0 11 C ∧ e.1.filterMap lf = C.filter lfC ∧ wFm e.1 ∧ C.length ≤ 62 ∧ okCd C
theorem cFm.ge {S S' : Nat → Nat × Nat × Nat} {G G' : xG_} {o : Nat} {e : List pNd × Int} (h : cFm S G o e) (hS : ∀ a, o ≤ a → a ≤ o + 2 → S' a = S a) (hG : ∀ a j, o ≤ a → a ≤ o + 2 → G' a j = G a j) : cFm S' G' o e := by
  obtain ⟨C, F, ⟨h1, h2, h3⟩, ⟨h4, h5⟩, h6, h7, h8, h9⟩ := h
  refine ⟨C, F, ⟨?_, ?_, ?_⟩, ⟨?_, ?_⟩, fun k hk => ?_, ?_, ?_, h9⟩
  · rw [hS _ (by omega) (by omega)]; exact h1
  · rw [hS _ (by omega) (by omega)]; exact h2
  · rw [hS _ (by omega) (by omega)]; exact h3
  · rw [hG _ _ (by omega) (by omega)]; exact h4
  · rw [hG _ _ (by omega) (by omega)]; exact h5
  · rw [hG _ _ (by omega) (by omega), hG _ _ (by omega) (by omega)]; exact h6 k hk
  · rw [hG _ _ (by omega) (by omega), hG _ _ (by omega) (by omega)]; exact h7
  · rw [hG _ _ (by omega) (by omega)]; exact h8
section
variable {f n N w A sl : Nat} {S : Nat → Nat × Nat × Nat} {G : xG_} {B : Nat → Int} {t : tStr}
/-- the FORMULA is made -/
theorem k_33f {C : pCd} {F : Nat} {e : List pNd × Int} {x : Int} (hf : 100 < f) (hs : cSs S) (hp : cPs G) (hA : 278 < A) (hC : cCo G C) (hl : C.length ≤ 62) (h1 : isC e.1 F e.2 0 11 C) (h2 : e.1.filterMap lf = C.filter lfC) (h3 : wFm e.1) : ∃ S' G', c33_99 f 72 x (S, G, (A, sl)) = some (.inr x, (S', G', (A + 3, sl + 5 + C.length + C.length))) ∧ (∀ a, a < A → S' a = S a) ∧ (∀ a j, a < A → ¬ (a = 72 ∧ j = 6) → G' a j = G a j) ∧ G' 72 6 = (A : Int) ∧ cFm S' G' A e := by
  have e0 : cq_nw 0 5 (S, G, (A, sl)) = some (A, (xup1 S A (1, 0, 5), xz1 G A (fun _ => 0), (A + 1, sl + 5))) := rfl
  have z72 : ∀ a, a < A → xup1 S A (1, 0, 5) a = S a := fun a ha => xup1_n (by omega)
  have hs0 : cSs (xup1 S A (1, 0, 5)) := fun k hk => by rw [z72 _ (by omega)]; exact hs k hk
  have g0 : ∀ a j, a < A → xz1 G A (fun _ => 0) a j = G a j := fun a j ha => xz1_n _ (by omega)
  obtain ⟨S1, G1, a1, a2, a3, a4, a5⟩ := cpy (S := xup1 S A (1, 0, 5)) (G := xz1 G A (fun _ => 0)) (sl := sl + 5) (kk := 3) (n := C.length) (x := 73) (a := A + 1) (L := 3001) (.inl rfl) (s73 hs0) (by omega) (by omega) (by omega)
  have hs1 : cSs S1 := fun k hk => by rw [a2 _ (by omega)]; exact hs0 k hk
  have e1 : c383 f 73 (C.length : Int) (xup1 S A (1, 0, 5), xz1 G A (fun _ => 0), (A + 1, sl + 5)) = some (A + 1, (S1, G1, (A + 2, sl + 5 + C.length))) := by
    rw [st_383 (s73 hs0) (by omega)]
    exact a1
  obtain ⟨S2, G2, b1, b2, b3, b4, b5⟩ := cpy (S := S1) (G := G1) (sl := sl + 5 + C.length) (kk := 4) (n := C.length) (x := 74) (a := A + 2) (L := 3001) (.inr rfl) (s74 hs1) (by omega) (by omega) (by omega)
  have e2 : c384 f 74 (C.length : Int) (S1, G1, (A + 2, sl + 5 + C.length)) = some (A + 2, (S2, G2, (A + 3, sl + 5 + C.length + C.length))) := by
    rw [st_384 (s74 hs1) (by omega)]
    exact b1
  have hs2 : cSs S2 := fun k hk => by rw [b2 _ (by omega)]; exact hs1 k hk
  have sA : S2 A = (1, 0, 5) := by rw [b2 _ (by omega), a2 _ (by omega), xup1_s]
  have sA1 : S2 (A + 1) = (2, 3, C.length) := by rw [b2 _ (by omega)]; exact a3
  have gz : ∀ a j, a < A → G2 a j = G a j := fun a j ha => by rw [b4 _ _ (by omega), a4 _ _ (by omega), g0 _ _ ha]
  have gA : ∀ j, G2 A j = 0 := fun j => by rw [b4 _ _ (by omega), a4 _ _ (by omega), xz1_s]
  have okC := okCd_of h3 F e.2 0 11 C h1
  let G3 := xup2 (xup2 G2 A 0 ((A + 1 : Nat) : Int)) A 1 ((A + 2 : Nat) : Int)
  have g3 : ∀ a j, ¬ (a = A ∧ j ≤ 1) → G3 a j = G2 a j := fun a j q => by
    show xup2 _ _ _ _ _ _ = _
    rw [xup2_n (by omega), xup2_n (by omega)]
  obtain ⟨G4, c1, c2, c3, c4⟩ := k_0l (f := f) (m := (A + 3, sl + 5 + C.length + C.length)) (S := S2) (o := A) (L := C.length) hf sA sA1 b3 (by omega) C [] f 0 G3 (by simp) (by omega) okC (fun k hk => by
    rw [g3 _ _ (by omega), g3 _ _ (by omega)]
    have hk' := hC.2 k hk
    show G2 (A + 1) (0 + k) = _ ∧ G2 (A + 2) (0 + k) = _
    rw [Nat.zero_add, b4 _ _ (by omega), a5 k hk, b5 k hk, a4 _ _ (by omega), g0 _ _ (by omega), g0 _ _ (by omega)]
    exact hk') (by rw [g3 _ _ (by omega), g3 _ _ (by omega), gA, gA]; exact .z) (.inl (by rw [g3 _ _ (by omega), gA]))
  rw [Nat.zero_or] at c3
  have c1' : c0_16 f f A (A + 1) (A + 2) 0 (S2, G3, (A + 3, sl + 5 + C.length + C.length)) = some (S2, G4, (A + 3, sl + 5 + C.length + C.length)) := c1
  have ec0 : c0 f A (A + 1) (A + 2) (S2, G2, (A + 3, sl + 5 + C.length + C.length)) = some (S2, G4, (A + 3, sl + 5 + C.length + C.length)) := by
    rw [← c1']
    have hnz : xq_nz A = some () := if_neg (by omega)
    unfold c0
    rw [hnz, Option.bind_some]
    simp (disch := omega) only [cq_gi, cq_gr, cq_a, cq_s, cq_p, cq_pr, cq_is, cq_ar, cq_ab, cq_ln, xq_nz, Option.bind_some, xup2_n, xup2_s, Int.toNat_natCast, Int.reduceToNat, if_pos, if_neg, true_and, and_true, and_self, eq_self, if_true, reduceIte, not_true_eq_false, not_false_eq_true, or_true, true_or, sA]
    rfl
  have hp1 : cPs (xz1 G A (fun _ => 0)) := hp.ge (fun a j hz => g0 a j (by
    rcases hz with z | z | z | z | z | z | z | ⟨z, z1, z2, k, z3⟩ | z | z | z | ⟨k, z1, z2, z3⟩ <;> omega))
  have p7 : xz1 G A (fun _ => 0) 72 7 = 73 := by rw [g0 _ _ (by omega)]; exact p72_7 hp
  have p9 : xz1 G A (fun _ => 0) 72 9 = (C.length : Int) := by rw [g0 _ _ (by omega)]; exact hC.1
  have p8 : G1 72 8 = 74 := by rw [a4 _ _ (by omega), g0 _ _ (by omega)]; exact p72_8 hp
  have p9' : G1 72 9 = (C.length : Int) := by rw [a4 _ _ (by omega)]; exact p9
  refine ⟨S2, xup2 G4 72 6 (A : Int), ?_, fun a ha => ?_, fun a j ha hz => ?_, xup2_s _ _ _ _, C, F, ⟨sA, sA1, b3⟩, ⟨?_, ?_⟩, fun k hk => ?_, ?_, ?_, h1, h2, h3, hl, okC⟩
  · unfold c33_99 c33_132
    rw [e0, Option.bind_some]
    simp (disch := omega) only [cq_gi, cq_gr, cq_a, cq_s, cq_p, cq_pr, cq_is, cq_ar, cq_ab, cq_ln, xq_nz, Option.bind_some, xup2_n, xup2_s, Int.toNat_natCast, Int.reduceToNat, if_pos, if_neg, true_and, and_true, and_self, eq_self, if_true, reduceIte, not_true_eq_false, not_false_eq_true, or_true, true_or, s72 hs0, s72 hs1, s72 hs2, p7, p8, p9, p9', e1, e2, ec0]
  · rw [b2 _ (by omega), a2 _ (by omega), z72 _ ha]
  · rw [xup2_n (by omega), c2 _ _ (by omega), g3 _ _ (by omega), gz _ _ ha]
  · rw [xup2_n (by omega), c2 _ _ (by omega)]
    show xup2 _ _ _ _ _ _ = _
    rw [xup2_n (by omega), xup2_s]
  · rw [xup2_n (by omega), c2 _ _ (by omega)]
    exact xup2_s _ _ _ _
  · rw [xup2_n (by omega), xup2_n (by omega), c2 _ _ (by omega), c2 _ _ (by omega), g3 _ _ (by omega), g3 _ _ (by omega), b4 _ _ (by omega), a5 k hk, b5 k hk, a4 _ _ (by omega), g0 _ _ (by omega), g0 _ _ (by omega)]
    exact hC.2 k hk
  · rw [xup2_n (by omega), xup2_n (by omega), ← (cRm_n e.1 h3.all).1, h2, (cRm_f C).1]
    exact c3
  · rw [xup2_n (by omega), c4, g3 _ _ (by omega), gA, ← (cRm_n e.1 h3.all).2, h2, (cRm_f C).2]
end
end
section
/-! THE CLASS: readCell(), cell() -/
def xFC (G G' : xG_) : Prop := ∀ a j, ¬ (a = 72 ∧ (1 ≤ j ∧ j ≤ 6 ∨ j = 9 ∨ j = 12 ∨ j = 14)) → ¬ (73 ≤ a ∧ a ≤ 82) → a ≠ 67 → G' a j = G a j
section
variable {f n N w A sl hr : Nat} {S : Nat → Nat × Nat × Nat} {G G' G'' : xG_} {m : Nat × Nat} {tx : List Int}
theorem xFC.id : xFC G G := fun _ _ _ _ _ => rfl
theorem xFC.tr (h : xFC G G') (h' : xFC G' G'') : xFC G G'' := fun a j p q r => by rw [h' a j p q r, h a j p q r]
theorem xY.fc {h : Nat} (h1 : xY h G G') : xFC G G' := fun a j p q _ => h1 a j (by omega) (by omega) (by omega)
theorem st_33 (hs : cSs S) (hp : cPs G) (h2 : G 65 2 = ((N + 1 : Nat) : Int)) (hN : N ≤ 3000) : c33 f 72 (S, G, m) = c33_32 f 72 (S, (if N ≤ 62 then bUp G 0 0 else xup2 (bUp G 0 0) 67 62 5), m) := by
  have e34 := k_34 (f := f) (G := G) (m := m) (q := 0) (b := 0) hs (.inl rfl)
  have z : ∀ a j, a ≠ 72 → bUp G 0 0 a j = G a j := fun a j h => bUp_n a j (fun y => h y.1)
  have p0 : bUp G 0 0 72 0 = 65 := by rw [bUp_n _ _ (by omega)]; exact p72_0 hp
  have q2 : bUp G 0 0 65 2 = ((N + 1 : Nat) : Int) := by rw [z _ _ (by omega)]; exact h2
  have q3 : bUp G 0 0 65 3 = 67 := by rw [z _ _ (by omega)]; exact p65_3 hp
  have e1 : xwr (((N + 1 : Nat) : Int) - 1) = (N : Int) := by rw [xwr_g _ (by omega) (by omega)]; omega
  unfold c33
  by_cases c : N ≤ 62
  · rw [if_pos c]
    have c' : (N : Int) ≤ 62 := by omega
    simp (disch := omega) only [cq_gi, cq_gr, cq_a, cq_s, cq_p, cq_pr, cq_is, cq_ar, cq_ab, cq_ln, xq_nz, Option.bind_some, xup2_n, xup2_s, Int.toNat_natCast, Int.reduceToNat, if_pos, if_neg, true_and, and_true, and_self, eq_self, if_true, reduceIte, not_true_eq_false, not_false_eq_true, or_true, true_or, s72 hs, s65 hs, p0, q2, e34, e1, c']
  · rw [if_neg c]
    have c' : ¬ (N : Int) ≤ 62 := by omega
    simp (disch := omega) only [cq_gi, cq_gr, cq_a, cq_s, cq_p, cq_pr, cq_is, cq_ar, cq_ab, cq_ln, xq_nz, Option.bind_some, xup2_n, xup2_s, Int.toNat_natCast, Int.reduceToNat, if_pos, if_neg, true_and, and_true, and_self, eq_self, if_true, reduceIte, not_true_eq_false, not_false_eq_true, or_true, true_or, s72 hs, s65 hs, s67 hs, p0, q2, q3, e34, e1, c']
theorem st_33b {G1 G2 : xG_} {c kk : Int} {x : Nat} (hs : cSs S) (a1 : c52 f 72 (S, G1, m) = some (.inr c, (S, G', m))) (c1 : c38 f 72 61 (S, G', m) = some (.inr (), (S, G2, m))) (p0 : G2 72 0 = 65) (p3 : G2 65 3 = 67) (k1 : G2 67 x = kk) (k3 : G2 72 1 = (x : Int)) (k4 : x ≤ 3000) : c33_32 f 72 (S, G1, m) = if kk = 0 then c33_132 f c (S, xup2 G2 72 6 ((0 : Nat) : Int), m) else ((c53 f 72 1 (S, xup2 G2 72 6 ((0 : Nat) : Int), m)).bind fun R164 => cth R164 (fun _ => ((cq_gr 4 0 20 72 R164.2).bind fun v172 => ((cq_gr 8 3 8 (v172) R164.2).bind fun v174 => ((cq_gi 4 1 20 72 R164.2).bind fun v176 => ((cq_a 3 (v174) (v176) R164.2).bind fun v178 => (if (v178) = 0 then c33_99 f 72 c R164.2 else ((cq_gr 4 0 20 72 R164.2).bind fun v181 => ((cq_gr 8 4 8 (v181) R164.2).bind fun v183 => ((cq_gi 4 1 20 72 R164.2).bind fun v185 => ((cq_a 3 (v183) (v185) R164.2).bind fun v187 => ((cq_is 4 20 72 R164.2).bind fun _ => ((c36 f 72 (v187) R164.2).bind fun R189 => cth R189 (fun _ => c33_99 f 72 c R189.2)))))))))))))) := by
  unfold c33_32
  simp (disch := omega) only [cq_gi, cq_gr, cq_a, cq_s, cq_p, cq_pr, cq_is, cq_ar, cq_ab, cq_ln, xq_nz, Option.bind_some, xup2_n, xup2_s, Int.toNat_natCast, Int.reduceToNat, if_pos, if_neg, true_and, and_true, and_self, eq_self, if_true, reduceIte, not_true_eq_false, not_false_eq_true, or_true, true_or, s72 hs, s65 hs, s67 hs, a1, c1, cth, p0, p3, k1, k3]
/-- readCell() -/
theorem k_33 (hf : 3100 < f) (hs : cSs S) (hp : cPs G) (hx : cTx G (tBt tx) tx.length) (hT : cTks G (tBt tx) tx.length N) (hA : 278 < A) : pok (qCt tx)
    (fun x => ∃ G', c33 f 72 (S, G, (A, sl)) = some (.inl 0, cWr S G' (A, sl) (x : Int)) ∧ xFC G G')
    (fun r => ∃ S' G' m', c33 f 72 (S, G, (A, sl)) = some (.inr r.1, (S', G', m')) ∧ (∀ a, a < A → S' a = S a) ∧ (∀ a j, a < A → ¬ (a = 72 ∧ (1 ≤ j ∧ j ≤ 6 ∨ j = 9 ∨ j = 12 ∨ j = 14)) → ¬ (73 ≤ a ∧ a ≤ 82) → a ≠ 67 → G' a j = G a j) ∧ (0 ≤ r.1 ∧ r.1 < 72) ∧ A ≤ m'.1 ∧ m'.1 ≤ A + 3 ∧ m'.2 ≤ sl + 129 ∧ (r.2.2 = -1 ∧ G' 72 6 = 0 ∨ r.2.2 ≠ -1 ∧ G' 72 6 = (A : Int) ∧ m'.1 = A + 3 ∧ cFm S' G' A r.2)) := by
  have hB := hx.2.2.1
  have hn := hx.2.1
  have hE0 := cEv_of hs hp hx hT
  obtain ⟨t1, t2, t3, t4, t5⟩ := hT
  have hEb := bUp_e (q := 0) (b := 0) hE0
  have hE := cEv_lm hEb (fun i hi => by
    have e := tS_end hB t3 (i - N)
    rw [show N + (i - N) = i by omega] at e
    rw [e, (hB _).2 (Nat.le_refl _)]; decide) (fun i hi => ((hB _).1 (t4 i hi)).1)
  have e0 := st_33 (f := f) (m := (A, sl)) hs hp t2 (by omega)
  have fr0 : xFC G (if N ≤ 62 then bUp G 0 0 else xup2 (bUp G 0 0) 67 62 5) := fun a j p q r => by
    split
    · rw [bUp_n _ _ (by omega)]
    · rw [xup2_n (by omega), bUp_n _ _ (by omega)]
  have b1 : (if N ≤ 62 then bUp G 0 0 else xup2 (bUp G 0 0) 67 62 5) 72 1 = 0 := by
    obtain ⟨_, _, q, _⟩ := bUp_s (G := G) (q := 0) (b := 0)
    split
    · exact q
    · rw [xup2_n (by omega)]; exact q
  have b9 : (if N ≤ 62 then bUp G 0 0 else xup2 (bUp G 0 0) 67 62 5) 72 9 = 0 := by
    obtain ⟨_, _, _, q, _⟩ := bUp_s (G := G) (q := 0) (b := 0)
    split
    · exact q
    · rw [xup2_n (by omega)]; exact q
  generalize (if N ≤ 62 then bUp G 0 0 else xup2 (bUp G 0 0) 67 62 5) = G1 at hE e0 fr0 b1 b9
  have hwN : (if N ≤ 62 then N else 62) ≤ 62 := by split <;> omega
  generalize (if N ≤ 62 then N else 62) = w at hE hwN
  have hck : tCk (tstr (tBt tx) tx.length true) := tstr_ck hB
  have hif : ∀ i, i ≤ w → kK (tstr (tBt tx) tx.length true) i = 1 → (spl (tBt tx) (kS (tstr (tBt tx) tx.length true) i) (kE (tstr (tBt tx) tx.length true) i) 10 ↔ kC (tstr (tBt tx) tx.length true) i = 348) := fun i _ h1 => if_spl hB h1
  unfold qCt
  generalize hst : tstr (tBt tx) tx.length true = t at hE hck hif
  have hA0 : cAt G1 N w 0 := ⟨by rw [b1]; show (0 : Int) = ((min 0 N : Nat) : Int); omega, .inl (Nat.zero_le _)⟩
  have p1 := k_52 (f := f) (m := (A, sl)) hck.1 hE hA0
  cases h1 : pCell t 0 with
  | inl x =>
    rw [h1] at p1
    have p1' : c52 f 72 (S, G1, (A, sl)) = _ := p1
    refine ⟨G1, ?_, fr0⟩
    rw [e0]
    unfold c33_32
    simp (disch := omega) only [cq_gi, cq_gr, cq_a, cq_s, cq_p, cq_pr, cq_is, cq_ar, cq_ab, cq_ln, xq_nz, Option.bind_some, xup2_n, xup2_s, Int.toNat_natCast, Int.reduceToNat, if_pos, if_neg, true_and, and_true, and_self, eq_self, if_true, reduceIte, not_true_eq_false, not_false_eq_true, or_true, true_or, s72 hs, p1', cth]
  | inr c =>
    rw [h1] at p1
    obtain ⟨a1, a2, a3, a4, a5⟩ := p1
    have hc0 := hE.lt hA0 (by rw [(pCell_in h1).1]; decide)
    have x1 : xFC G1 (xup2 G1 72 1 ((min c.2 N : Nat) : Int)) := fun a j p q r => xup2_n (by omega)
    have y1 : xY 0 G1 (xup2 G1 72 1 ((min c.2 N : Nat) : Int)) := fun a j p q r => xup2_n (by omega)
    have b9' : (xup2 G1 72 1 ((min c.2 N : Nat) : Int)) 72 9 = 0 := by rw [xup2_n (by omega)]; exact b9
    generalize xup2 G1 72 1 ((min c.2 N : Nat) : Int) = G2 at a1 a5 x1 y1 b9'
    have hE2 := y1.ev hE
    have p2 := k_38 (f := f) (m := (A, sl)) (c := 61) (by decide) hE2 a5
    show pok (pbind (pNeed t 61 c.2) _) _ _
    cases h2 : pNeed t 61 c.2 with
    | inl x =>
      rw [h2] at p2
      have p2' : c38 f 72 61 (S, G2, (A, sl)) = _ := p2
      refine ⟨G2, ?_, fr0.tr x1⟩
      rw [e0]
      unfold c33_32
      simp (disch := omega) only [cq_gi, cq_gr, cq_a, cq_s, cq_p, cq_pr, cq_is, cq_ar, cq_ab, cq_ln, xq_nz, Option.bind_some, xup2_n, xup2_s, Int.toNat_natCast, Int.reduceToNat, if_pos, if_neg, true_and, and_true, and_self, eq_self, if_true, reduceIte, not_true_eq_false, not_false_eq_true, or_true, true_or, s72 hs, a1, p2', cth]
    | inr i =>
      rw [h2] at p2
      obtain ⟨c1, c2, c3, c4⟩ := p2
      have hi0 := hE2.lt a5 (by omega)
      let G3 := xup2 (xup2 G2 72 1 ((min i N : Nat) : Int)) 72 6 0
      have g3 : ∀ a j, ¬ (a = 72 ∧ (j = 1 ∨ j = 6)) → G3 a j = G2 a j := fun a j q => by
        show xup2 _ _ _ _ _ _ = _
        rw [xup2_n (by omega), xup2_n (by omega)]
      have x3 : xFC G2 G3 := fun a j p q r => g3 a j (by omega)
      have hE3 : cEv S G3 (tBt tx) tx.length t N w := hE2.ge (fun _ _ => rfl) (fun a j z1 z2 z3 => g3 a j (by omega))
      have hA3 : cAt G3 N w i := ⟨by show xup2 _ _ _ _ _ _ = _; rw [xup2_n (by omega)]; exact c4.1, c4.2⟩
      have hp3 := hE3.2.1
      obtain ⟨k1, k2, k3, k4⟩ := hE3.tk hA3
      have g36 : G3 72 6 = 0 := xup2_s _ _ _ _
      have e3 : c33 f 72 (S, G, (A, sl)) = if kK t i = 0 then c33_132 f c.1 (S, G3, (A, sl)) else ((c53 f 72 1 (S, G3, (A, sl))).bind fun R164 => cth R164 (fun _ => ((cq_gr 4 0 20 72 R164.2).bind fun v172 => ((cq_gr 8 3 8 (v172) R164.2).bind fun v174 => ((cq_gi 4 1 20 72 R164.2).bind fun v176 => ((cq_a 3 (v174) (v176) R164.2).bind fun v178 => (if (v178) = 0 then c33_99 f 72 c.1 R164.2 else ((cq_gr 4 0 20 72 R164.2).bind fun v181 => ((cq_gr 8 4 8 (v181) R164.2).bind fun v183 => ((cq_gi 4 1 20 72 R164.2).bind fun v185 => ((cq_a 3 (v183) (v185) R164.2).bind fun v187 => ((cq_is 4 20 72 R164.2).bind fun _ => ((c36 f 72 (v187) R164.2).bind fun R189 => cth R189 (fun _ => c33_99 f 72 c.1 R189.2)))))))))))))) := by
        rw [e0]
        have q0 : ∀ a j, ¬ (a = 72 ∧ j = 6) → xup2 G2 72 1 ((min i N : Nat) : Int) a j = G3 a j := fun a j q => (xup2_n q).symm
        exact st_33b hs a1 c1 (by rw [q0 _ _ (by omega)]; exact p72_0 hp3) (by rw [q0 _ _ (by omega)]; exact p65_3 hp3) (by rw [q0 _ _ (by omega)]; exact k1) (by rw [q0 _ _ (by omega)]; exact k3) k4
      show pok (if kK t i = 0 then _ else _) _ _
      by_cases ck : kK t i = 0
      · rw [if_pos ck] at e3 ⊢
        exact ⟨S, G3, (A, sl), e3, fun _ _ => rfl, fun a j _ q1 q2 q3 => ((fr0.tr x1).tr x3) a j q1 q2 q3, ⟨a3, a4⟩, Nat.le_refl _, by show A ≤ A + 3; omega, by show sl ≤ sl + 129; omega, .inl ⟨rfl, g36⟩⟩
      · rw [if_neg ck] at e3 ⊢
        have hCo : cCo G3 [] := ⟨by rw [g3 _ _ (by omega)]; exact b9', fun k hk => absurd hk (Nat.not_lt_zero k)⟩
        have p3 := ky_53 (f := f) (m := (A, sl)) (F := 255) (by omega) hif hck hE3 hA3 (by omega) hCo (by omega)
        show pok (pbind (pF t 255 1 0 ([], 0, i)) _) _ _
        cases h3 : pF t 255 1 0 ([], 0, i) with
        | inl x =>
          rw [h3] at p3
          obtain ⟨G4, d1, d2⟩ := p3
          refine ⟨G4, ?_, ((fr0.tr x1).tr x3).tr d2.fc⟩
          rw [e3, d1]
          rfl
        | inr e =>
          rw [h3] at p3
          obtain ⟨G4, C, F', d1, d2, d3, d4, d5, d6, d7, d8, d9⟩ := p3
          have hp4 := d3.2.1
          obtain ⟨j1, j2, j3, j4⟩ := d3.tk d4
          obtain ⟨_, _, _, _, w5, w6, w7⟩ := pF_le hck 255 1 0 _ e (by decide) h3 (fun k hk => absurd hk (Nat.not_lt_zero k)) (fun q => absurd q (by decide))
          have e4 : c33 f 72 (S, G, (A, sl)) = if kK t e.2.2 = 0 then c33_99 f 72 c.1 (S, G4, (A, sl)) else some (.inl 0, cWr S G4 (A, sl) (kS t e.2.2 : Int)) := by
            rw [e3]
            simp (disch := omega) only [cq_gi, cq_gr, cq_a, cq_s, cq_p, cq_pr, cq_is, cq_ar, cq_ab, cq_ln, xq_nz, Option.bind_some, xup2_n, xup2_s, Int.toNat_natCast, Int.reduceToNat, if_pos, if_neg, true_and, and_true, and_self, eq_self, if_true, reduceIte, not_true_eq_false, not_false_eq_true, or_true, true_or, s72 hs, s65 hs, s67 hs, s68 hs, d1, cth, p72_0 hp4, p65_3 hp4, p65_4 hp4, j1, j2, j3, k_36 hs]
          show pok (if kK t e.2.2 = 0 then _ else _) _ _
          by_cases c0 : kK t e.2.2 = 0
          · rw [if_pos c0] at e4 ⊢
            have hCl : C.length ≤ 62 := by
              have hle : e.2.2 ≤ w := by
                rcases d4.2 with q | q
                · exact q
                · omega
              omega
            obtain ⟨S5, G5, f1, f2, f3, f4, f5⟩ := k_33f (f := f) (A := A) (sl := sl) (x := c.1) (e := (e.1, e.2.1)) (by omega) hs hp4 hA d6 hCl d7 d9 w5
            refine ⟨S5, G5, _, e4.trans f1, f2, fun a j y1 q1 q2 q3 => ?_, ⟨a3, a4⟩, by show A ≤ A + 3; omega, Nat.le_refl _, by show sl + 5 + C.length + C.length ≤ sl + 129; omega, .inr ⟨by show e.2.1 ≠ -1; omega, f4, rfl, f5⟩⟩
            rw [f3 a j y1 (by omega)]
            exact (((fr0.tr x1).tr x3).tr d2.fc) a j q1 q2 q3
          · rw [if_neg c0] at e4 ⊢
            exact ⟨G4, e4, ((fr0.tr x1).tr x3).tr d2.fc⟩
end
end
section
/-! THE CLASS: cell() -/
section
variable {f A sl hr : Nat} {S : Nat → Nat × Nat × Nat} {G G' : xG_} {m : Nat × Nat} {tx : List Int}
theorem st_1002_w {x : Int} (hs : cSs S) (hp : cPs G) (e2 : G 72 2 = x) : c1002_25 f 64 0 (-1) (S, G, m) = some (xwr (-1 - x), (S, xup2 G 65 1 0, m)) := by
  unfold c1002_25 c1002_41
  simp (disch := omega) only [cq_gi, cq_gr, cq_a, cq_s, cq_p, cq_pr, cq_is, cq_ar, cq_ab, cq_ln, xq_nz, Option.bind_some, xup2_n, xup2_s, Int.toNat_natCast, Int.reduceToNat, if_pos, if_neg, true_and, and_true, and_self, eq_self, if_true, reduceIte, not_true_eq_false, not_false_eq_true, or_true, true_or, s64 hs, s65 hs, s72 hs, p64_0 hp, p64_1 hp, e2]
theorem st_1002_1 {x o ln : Nat} (hs : cSs S) (hp : cPs G) (ls : lnSt S ln) (lp : lnPt G ln) (hl : 242 < ln) (h6 : G 64 6 = (hr : Int)) (hr4 : hr < 4) (h220 : G 220 hr = (ln : Int)) (hx : x < 72) (e6 : G 72 6 = (o : Int)) (ho : o = 0 ∨ S o = (1, 0, 5)) : c1002_25 f 64 1 (x : Int) (S, G, m) = some ((x : Int), (S, xup2 (xup2 (xup2 G 65 1 0) (ln + 7) x 1) (ln + 8) x (o : Int), m)) := by
  obtain ⟨l0, _, _, _, _, _, _, l7, l8⟩ := ls
  obtain ⟨_, _, _, _, _, _, q12, q13⟩ := lp
  have hln : ln ≠ 64 ∧ ln ≠ 65 ∧ ln ≠ 72 ∧ ln ≠ 220 := by omega
  have esb : cq_sb (ln + 7) (x : Int) 1 (S, xup2 G 65 1 0, m) = some (S, xup2 (xup2 G 65 1 0) (ln + 7) x 1, m) := by
    unfold cq_sb cq_s
    show (if (S (ln + 7)).2.1 = 1 then _ else if (S (ln + 7)).2.1 = 0 then (if (S (ln + 7)).1 = 2 ∧ (S (ln + 7)).2.1 = 0 ∧ 0 ≤ (x : Int) ∧ (x : Int) < ((S (ln + 7)).2.2 : Int) then _ else _) else _) = _
    rw [l7, if_neg (by decide), if_pos rfl, if_pos ⟨rfl, rfl, by omega, by show (x : Int) < ((72 : Nat) : Int); omega⟩]
    rfl
  have esr : cq_sr (ln + 8) (x : Int) o (S, xup2 (xup2 G 65 1 0) (ln + 7) x 1, m) = some (S, xup2 (xup2 (xup2 G 65 1 0) (ln + 7) x 1) (ln + 8) x (o : Int), m) := by
    unfold cq_sr
    show (if (S (ln + 8)).1 = 2 ∧ 5 ≤ (S (ln + 8)).2.1 ∧ 0 ≤ (x : Int) ∧ (x : Int) < ((S (ln + 8)).2.2 : Int) ∧ (o = 0 ∨ (S o).1 = 1 ∧ (S (ln + 8)).2.1 = (S o).2.1 + 5) then _ else _) = _
    rw [l8, if_pos ⟨rfl, by decide, by omega, by show (x : Int) < ((72 : Nat) : Int); omega, by
      rcases ho with q | q
      · exact .inl q
      · right; rw [q]; exact ⟨rfl, rfl⟩⟩]
    rfl
  have e220 : cq_ar 220 (hr : Int) (S, xup2 G 65 1 0, m) = some ln := by
    unfold cq_ar
    show (if (S 220).1 = 2 ∧ 5 ≤ (S 220).2.1 ∧ 0 ≤ (hr : Int) ∧ (hr : Int) < ((S 220).2.2 : Int) then some (xup2 G 65 1 0 220 (hr : Int).toNat).toNat else none) = _
    rw [s220 hs, if_pos ⟨rfl, by decide, by omega, by show (hr : Int) < ((4 : Nat) : Int); omega⟩, Int.toNat_natCast, xup2_n (by omega), h220, Int.toNat_natCast]
  have w1 : xup2 G 65 1 0 64 0 = 65 := by rw [xup2_n (by omega)]; exact p64_0 hp
  have w2 : xup2 G 65 1 0 64 5 = 220 := by rw [xup2_n (by omega)]; exact p64_5 hp
  have w3 : xup2 G 65 1 0 64 6 = (hr : Int) := by rw [xup2_n (by omega)]; exact h6
  have w4 : xup2 G 65 1 0 ln 12 = ((ln + 7 : Nat) : Int) := by rw [xup2_n (by omega)]; exact q12
  have w5 : xup2 (xup2 G 65 1 0) (ln + 7) x 1 ln 13 = ((ln + 8 : Nat) : Int) := by rw [xup2_n (by omega), xup2_n (by omega)]; exact q13
  have w6 : xup2 (xup2 G 65 1 0) (ln + 7) x 1 64 1 = 72 := by rw [xup2_n (by omega), xup2_n (by omega)]; exact p64_1 hp
  have w7 : xup2 (xup2 G 65 1 0) (ln + 7) x 1 72 6 = (o : Int) := by rw [xup2_n (by omega), xup2_n (by omega)]; exact e6
  have g0 : cq_gr 11 0 17 64 (S, G, m) = some 65 := by
    show (if S 64 = (1, 11, 17) then some (G 64 0).toNat else none) = _
    rw [if_pos (s64 hs), p64_0 hp]; rfl
  have g1 : cq_p 8 1 8 65 0 (S, G, m) = some (S, xup2 G 65 1 0, m) := if_pos (s65 hs)
  have g2 : cq_gr 11 5 17 64 (S, xup2 G 65 1 0, m) = some 220 := by
    show (if S 64 = (1, 11, 17) then some (xup2 G 65 1 0 64 5).toNat else none) = _
    rw [if_pos (s64 hs), w2]; rfl
  have g3 : cq_gi 11 6 17 64 (S, xup2 G 65 1 0, m) = some (hr : Int) := by
    show (if S 64 = (1, 11, 17) then some (xup2 G 65 1 0 64 6) else none) = _
    rw [if_pos (s64 hs), w3]
  have g4 : cq_gr 1 12 14 ln (S, xup2 G 65 1 0, m) = some (ln + 7) := by
    show (if S ln = (1, 1, 14) then some (xup2 G 65 1 0 ln 12).toNat else none) = _
    rw [if_pos l0, w4, Int.toNat_natCast]
  have g5 : cq_gr 1 13 14 ln (S, xup2 (xup2 G 65 1 0) (ln + 7) x 1, m) = some (ln + 8) := by
    show (if S ln = (1, 1, 14) then some (xup2 (xup2 G 65 1 0) (ln + 7) x 1 ln 13).toNat else none) = _
    rw [if_pos l0, w5, Int.toNat_natCast]
  have g6 : cq_gr 11 1 17 64 (S, xup2 (xup2 G 65 1 0) (ln + 7) x 1, m) = some 72 := by
    show (if S 64 = (1, 11, 17) then some (xup2 (xup2 G 65 1 0) (ln + 7) x 1 64 1).toNat else none) = _
    rw [if_pos (s64 hs), w6]; rfl
  have g7 : cq_gr 4 6 20 72 (S, xup2 (xup2 G 65 1 0) (ln + 7) x 1, m) = some o := by
    show (if S 72 = (1, 4, 20) then some (xup2 (xup2 G 65 1 0) (ln + 7) x 1 72 6).toNat else none) = _
    rw [if_pos (s72 hs), w7, Int.toNat_natCast]
  unfold c1002_25
  rw [g0, Option.bind_some, g1, Option.bind_some, if_neg (by decide), if_pos (by omega), g2, Option.bind_some, g3, Option.bind_some, e220, Option.bind_some, g4, Option.bind_some, esb, Option.bind_some, g5, Option.bind_some, g6, Option.bind_some, g7, Option.bind_some, esr, Option.bind_some]
theorem st_1002_0 (hs : cSs S) (hp : cPs G) (e : c112 f 65 (S, G, m) = some (S, G', m)) (hp' : cPs G') : c1002 f 64 (S, G, m) = ((c33 f 72 (S, G', m)).bind fun R148 => chd R148 0 (c1002_25 f 64 0 (-1) R148.2) (fun v154 => c1002_25 f 64 1 v154 R148.2)) := by
  unfold c1002
  simp (disch := omega) only [cq_gi, cq_gr, cq_a, cq_s, cq_p, cq_pr, cq_is, cq_ar, cq_ab, cq_ln, xq_nz, Option.bind_some, xup2_n, xup2_s, Int.toNat_natCast, Int.reduceToNat, if_pos, if_neg, true_and, and_true, and_self, eq_self, if_true, reduceIte, not_true_eq_false, not_false_eq_true, or_true, true_or, s64 hs, s65 hs, s72 hs, p64_0 hp, p64_1 hp', e]
/-- what cell() leaves as it was -/
def xFE (A ln : Nat) (G G' : xG_) : Prop := ∀ a j, a < A → ¬ (65 ≤ a ∧ a ≤ 82) → a ≠ ln + 7 → a ≠ ln + 8 → G' a j = G a j
theorem k_1002 (hs : cSs S) (hp : cPs G) (hx : cTx G (tBt tx) tx.length) (hA : 554 < A) (h6 : G 64 6 = (hr : Int)) (hr4 : hr < 4) (hf : 3100 < f) :
    ∃ v S' G' m', c1002 f 64 (S, G, (A, sl)) = some (v, (S', G', m')) ∧ (∀ a, a < A → S' a = S a) ∧ A ≤ m'.1 ∧ m'.1 ≤ A + 3 ∧ m'.2 ≤ sl + 129 ∧ cPs G' ∧ G' 65 1 = 0 ∧ xFE A (243 + 9 * hr) G G' ∧
      pok (qCt tx) (fun w => v = xwr (-1 - (w : Int)) ∧ ∀ c, G' (243 + 9 * hr + 7) c = G (243 + 9 * hr + 7) c ∧ G' (243 + 9 * hr + 8) c = G (243 + 9 * hr + 8) c)
        (fun r => v = r.1 ∧ (0 ≤ r.1 ∧ r.1 < 72) ∧ ∃ o : Nat, (r.2.2 = -1 ∧ o = 0 ∨ r.2.2 ≠ -1 ∧ o = A ∧ A + 2 < m'.1 ∧ cFm S' G' o r.2) ∧ ∀ c, G' (243 + 9 * hr + 7) c = (if c = r.1.toNat then 1 else G (243 + 9 * hr + 7) c) ∧ G' (243 + 9 * hr + 8) c = (if c = r.1.toNat then (o : Int) else G (243 + 9 * hr + 8) c)) := by
  have hB := hx.2.2.1
  have hn := hx.2.1
  obtain ⟨G1, N, b1, b2, b3⟩ := k_112 (m := (A, sl)) hs hp hx hf
  have hp1 : cPs G1 := hp.tape (fun a j y1 y2 => b3 a j (by omega) (by omega))
  have hx1 : cTx G1 (tBt tx) tx.length := hx.ge (b3 _ _ (by omega) (by omega)) (fun p => b3 _ _ (by omega) (by omega))
  have e0 := st_1002_0 hs hp b1 hp1
  have key := k_33 (f := f) (sl := sl) hf hs hp1 hx1 b2 (by omega : 278 < A)
  have frp : ∀ G2 : xG_, (∀ a j, a < A → ¬ (a = 72 ∧ (1 ≤ j ∧ j ≤ 6 ∨ j = 9 ∨ j = 12 ∨ j = 14)) → ¬ (73 ≤ a ∧ a ≤ 82) → a ≠ 67 → G2 a j = G1 a j) → cPs G2 := fun G2 h => hp1.ge (fun a j hz => by
    have hb : a < A ∧ ¬ (a = 72 ∧ (1 ≤ j ∧ j ≤ 6 ∨ j = 9 ∨ j = 12 ∨ j = 14)) ∧ ¬ (73 ≤ a ∧ a ≤ 82) ∧ a ≠ 67 := by
      rcases hz with z | z | z | z | z | z | z | ⟨z, z1, z2, k, z3⟩ | z | z | z | ⟨k, z1, z2, z3⟩ <;> omega
    exact h a j hb.1 hb.2.1 hb.2.2.1 hb.2.2.2)
  cases hX : qCt tx with
  | inl x =>
    rw [hX] at key
    obtain ⟨G2, g1, g2⟩ := key
    obtain ⟨S3, G3, q1, q2, q3⟩ := cWr_ex S G2 (A, sl) (x : Int)
    rw [g1, Option.bind_some, q1] at e0
    have fr : ∀ a j, a < A → ¬ (a = 72 ∧ (1 ≤ j ∧ j ≤ 6 ∨ j = 9 ∨ j = 12 ∨ j = 14)) → ¬ (73 ≤ a ∧ a ≤ 82) → a ≠ 67 → G3 a j = G1 a j := fun a j y1 y2 y3 y4 => by
      rw [q3 a j y1, xup2_n (by omega), g2 a j y2 y3 y4]
    have hs3 : cSs S3 := fun k hk => by rw [q2 _ (by show 64 + k < A; omega)]; exact hs k hk
    have hp3 := frp G3 fr
    have st := st_1002_w (f := f) (m := (A + 1, sl + 6)) (x := (x : Int)) hs3 hp3 (by rw [q3 _ _ (by show 72 < A; omega), xup2_s])
    have e0' : c1002 f 64 (S, G, (A, sl)) = c1002_25 f 64 0 (-1) (S3, G3, (A + 1, sl + 6)) := e0
    refine ⟨_, _, _, _, e0'.trans st, fun a ha => q2 a ha, by show A ≤ A + 1; omega, by show A + 1 ≤ A + 3; omega, by show sl + 6 ≤ sl + 129; omega, hp3.tape (fun a j y1 y2 => xup2_n (by omega)), xup2_s _ _ _ _, fun a j y1 y2 y3 y4 => ?_, rfl, fun c => ⟨?_, ?_⟩⟩
    · rw [xup2_n (by omega), fr _ _ y1 (by omega) (by omega) (by omega), b3 a j (by omega) (by omega)]
    · rw [xup2_n (by omega), fr _ _ (by omega) (by omega) (by omega) (by omega), b3 _ _ (by omega) (by omega)]
    · rw [xup2_n (by omega), fr _ _ (by omega) (by omega) (by omega) (by omega), b3 _ _ (by omega) (by omega)]
  | inr r =>
    rw [hX] at key
    obtain ⟨S2, G2, m2, g1, g2, g3, g4, g5, g6, g7, g8⟩ := key
    rw [g1, Option.bind_some] at e0
    have e0' : c1002 f 64 (S, G, (A, sl)) = c1002_25 f 64 1 r.1 (S2, G2, m2) := e0
    have hs2 : cSs S2 := fun k hk => by rw [g2 _ (by show 64 + k < A; omega)]; exact hs k hk
    have hp2 := frp G2 g3
    obtain ⟨o, o1, o2⟩ : ∃ o : Nat, G2 72 6 = (o : Int) ∧ (r.2.2 = -1 ∧ o = 0 ∨ r.2.2 ≠ -1 ∧ o = A ∧ A + 2 < m2.1 ∧ cFm S2 G2 o r.2) := by
      rcases g8 with ⟨z1, z2⟩ | ⟨z1, z2, z3, z4⟩
      · exact ⟨0, z2, .inl ⟨z1, rfl⟩⟩
      · exact ⟨A, z2, .inr ⟨z1, rfl, by omega, z4⟩⟩
    have er : r.1 = ((r.1.toNat : Nat) : Int) := by omega
    have h62 : G2 64 6 = (hr : Int) := by rw [g3 _ _ (by omega) (by omega) (by omega) (by omega), b3 _ _ (by omega) (by omega)]; exact h6
    have st := st_1002_1 (f := f) (m := m2) (x := r.1.toNat) (o := o) hs2 hp2 (lnSt_of hs2 hr4) (lnPt_of hp2 hr4) (by omega) h62 hr4 (p_ln hp2 hr4) (by omega) o1 (by
      rcases o2 with q | ⟨_, q2, _, q4⟩
      · exact .inl q.2
      · obtain ⟨C, F, ⟨z, _⟩, _⟩ := q4
        exact .inr z)
    rw [← er] at st
    have zz : ∀ a j, ¬ (a = 65 ∧ j = 1) → a ≠ 243 + 9 * hr + 7 → a ≠ 243 + 9 * hr + 8 → xup2 (xup2 (xup2 G2 65 1 0) (243 + 9 * hr + 7) r.1.toNat 1) (243 + 9 * hr + 8) r.1.toNat (o : Int) a j = G2 a j := fun a j y1 y2 y3 => by
      rw [xup2_n (by omega), xup2_n (by omega), xup2_n (by omega)]
    have g12 : ∀ a j, a < A → ¬ (65 ≤ a ∧ a ≤ 82) → G2 a j = G a j := fun a j y1 y2 => by
      rw [g3 _ _ y1 (by omega) (by omega) (by omega), b3 _ _ (by omega) (by omega)]
    refine ⟨_, _, _, _, e0'.trans st, g2, g5, g6, g7, hp2.ge (fun a j hz => zz a j ?_ ?_ ?_), ?_, fun a j y1 y2 y3 y4 => ?_, rfl, g4, o, ?_, fun c => ⟨?_, ?_⟩⟩
    · rcases hz with z | z | z | z | z | z | z | ⟨z, z1, z2, k, z3⟩ | z | z | z | ⟨k, z1, z2, z3⟩ <;> omega
    · rcases hz with z | z | z | z | z | z | z | ⟨z, z1, z2, k, z3⟩ | z | z | z | ⟨k, z1, z2, z3⟩ <;> omega
    · rcases hz with z | z | z | z | z | z | z | ⟨z, z1, z2, k, z3⟩ | z | z | z | ⟨k, z1, z2, z3⟩ <;> omega
    · rw [xup2_n (by omega), xup2_n (by omega), xup2_s]
    · rw [zz _ _ (by omega) y3 y4, g12 _ _ y1 y2]
    · rcases o2 with q | ⟨q1, q2, q3, q4⟩
      · exact .inl q
      · exact .inr ⟨q1, q2, q3, q4.ge (fun _ _ _ => rfl) (fun a j y1 y2 => zz _ _ (by omega) (by omega) (by omega))⟩
    · by_cases cc : c = r.1.toNat
      · rw [if_pos cc, cc, xup2_n (by omega), xup2_s]
      · rw [if_neg cc, xup2_n (by omega), xup2_n (by omega), xup2_n (by omega), g12 _ _ (by omega) (by omega)]
    · by_cases cc : c = r.1.toNat
      · rw [if_pos cc, cc, xup2_s]
      · rw [if_neg cc, xup2_n (by omega), xup2_n (by omega), xup2_n (by omega), g12 _ _ (by omega) (by omega)]
end
end
section
/-! THE CLASS: the SHEET: over CELLS, over rows -/
/-- how the class writes what a CELL shows -/
def eC (x : Int × Int) : Int := if x.1 = 0 then 9000000000000000000 else if x.1 = 1 then x.2 else -9000000000000000000 + x.2
def eW (x : fWo) : Int := match x with
  | .inl e => -9000000000000000000 + e
  | .inr v => v
/-- the SHEET of the class at work: the CELLS of D stand -/
def cSe (S : Nat → Nat × Nat × Nat) (G : xG_) (nx mo cc q rp : Nat) (s : pPg) (xr cr : Nat → Nat) (M : Nat → List pRw) (C : fCs) (D : Nat → Prop) : Prop := cSs S ∧ cPs G ∧ (G 216 0 = (mo : Int) ∧ G 216 1 = (cc : Int)) ∧ (S cc = (2, 4, 72) ∧ ∀ x, x < 72 → D x → G cc x = eC (C x)) ∧ cMr S G nx mo q rp s xr cr M ∧ cPgm S G q nx s ∧ qOk s ∧ okC C ∧ okM s M ∧ (∀ p, p < s.1.length → (M p).length ≤ 100) ∧ (226 < mo ∧ 226 < cc ∧ 226 < q ∧ 226 < rp) ∧ ∀ p, p < s.1.length → xr p + 2 < 216 ∨ 226 < xr p
section
variable {f nx mo cc q rp : Nat} {S : Nat → Nat × Nat × Nat} {G : xG_} {m : Nat × Nat} {s : pPg} {xr cr : Nat → Nat} {M : Nat → List pRw} {C : fCs} {D : Nat → Prop}
theorem k_108 {a : Int} {T : xT_} : c108 f a T = some (eW (fBd a), T) := by
  unfold c108 c108_16 c108_23 fBd
  by_cases c : 1000000000000 < a
  · rw [if_pos c, if_pos (.inl c)]; rfl
  · rw [if_neg c]
    by_cases d : -1000000000000 ≤ a
    · rw [if_pos d, if_neg (by omega)]; rfl
    · rw [if_neg d, if_pos (.inr (by omega))]; rfl
/-- the loop of overCells() -/
def eO (sm : Int) (x : Int ⊕ (Int × Int)) : Int := match x with
  | .inl e => -9000000000000000000 + e
  | .inr p => if sm = 0 then p.2 else eW (fBd p.1)
theorem fOc_past {a b : Int} : ∀ (k x : Nat) (v n : Int), b < (x : Int) → fOc C a b k x v n = .inr (v, n)
  | 0, _, _, _, _ => rfl
  | k + 1, x, v, n, h => by
    show (if fIn x a b ∧ ¬ (C x).1 = 0 then _ else fOc C a b k (x + 1) v n) = _
    rw [if_neg (fun q => by have := q.1; unfold fIn at this; omega)]
    exact fOc_past k (x + 1) v n (by omega)
theorem fOc_skip {a b : Int} {v n : Int} : ∀ (x k : Nat), (x : Int) ≤ a → fOc C a b (x + k) 0 v n = fOc C a b k x v n := by
  have gen : ∀ (d y k : Nat), ((y + d : Nat) : Int) ≤ a → fOc C a b (d + k) y v n = fOc C a b k (y + d) v n := by
    intro d
    induction d with
    | zero => intro y k _; rw [Nat.zero_add]; rfl
    | succ d ih =>
      intro y k h
      have e : d + 1 + k = (d + k) + 1 := by omega
      rw [e]
      show (if fIn y a b ∧ ¬ (C y).1 = 0 then _ else fOc C a b (d + k) (y + 1) v n) = _
      rw [if_neg (fun q => by have := q.1; unfold fIn at this; omega), ih (y + 1) k (by omega)]
      have e2 : y + 1 + d = y + (d + 1) := by omega
      rw [e2]
  intro x k h
  have := gen x 0 k (by rw [Nat.zero_add]; exact h)
  rw [Nat.zero_add] at this
  exact this
theorem st_107e {sm a b v n x : Int} {fu : Nat} {T : xT_} (h : b < x) : c107_9 f (fu + 1) 216 sm a b v n x T = some (if sm = 0 then n else eW (fBd v), T) := by
  show c107_9b (c107_9 f fu) f 216 _ _ _ _ _ _ _ = _
  unfold c107_9b c107_141
  rw [if_pos h]
  by_cases c : sm = 0
  · rw [if_pos c, if_pos c]
  · rw [if_neg c, if_neg c, k_108]; rfl
theorem st_107i {sm v n : Int} {a b x fu : Nat} (hs : cSs S) (h1 : G 216 1 = (cc : Int)) (hc : S cc = (2, 4, 72)) (ha : a < 72) (hb : b < 72) (hx : x ≤ b) (hax : a ≤ x) {w : Int} (hw : fIn x (a : Int) (b : Int) → G cc x = w) : c107_9 f (fu + 1) 216 sm (a : Int) (b : Int) v n (x : Int) (S, G, m) = if fIn x (a : Int) (b : Int) ∧ ¬ w = 9000000000000000000 then (if -1000000000000 ≤ w then c107_9 f fu 216 sm (a : Int) (b : Int) (xwl (v + (if w ≤ 1000000000000 then w else 0))) (xwr (n + 1)) ((x + 1 : Nat) : Int) (S, G, m) else some (w, (S, G, m))) else c107_9 f fu 216 sm (a : Int) (b : Int) v n ((x + 1 : Nat) : Int) (S, G, m) := by
  obtain ⟨_, a2⟩ := x6 a ha
  obtain ⟨_, b2⟩ := x6 b hb
  obtain ⟨_, c2'⟩ := x6 x (by omega)
  have ex : xwr ((x : Int) + 1) = ((x + 1 : Nat) : Int) := by rw [xwr_g _ (by omega) (by omega)]; omega
  show c107_9b (c107_9 f fu) f 216 _ _ _ _ _ _ _ = _
  unfold c107_9b
  rw [if_neg (by omega), a2, b2, c2']
  unfold c107_43
  have no : c107_44 (c107_9 f fu) f 216 sm (a : Int) (b : Int) v n (x : Int) 0 (S, G, m) = c107_9 f fu 216 sm (a : Int) (b : Int) v n ((x + 1 : Nat) : Int) (S, G, m) := by
    unfold c107_44 c107_120
    rw [if_pos rfl, ex]
  by_cases q : fIn x (a : Int) (b : Int)
  · have hw' := hw q
    have q' := q
    unfold fIn at q'
    rw [if_neg (by omega), if_neg (by omega)]
    unfold c107_44 c107_114 c107_120
    rw [if_neg (by decide)]
    by_cases c1 : w = 9000000000000000000
    · rw [if_neg (fun z => z.2 c1)]
      simp (disch := omega) only [cq_gi, cq_gr, cq_a, cq_s, cq_p, cq_pr, cq_is, cq_ar, cq_ab, cq_ln, xq_nz, Option.bind_some, xup2_n, xup2_s, Int.toNat_natCast, Int.reduceToNat, if_pos, if_neg, true_and, and_true, and_self, eq_self, if_true, reduceIte, not_true_eq_false, not_false_eq_true, or_true, true_or, s216 hs, h1, hc, hw', c1, ex]
    · rw [if_pos ⟨q, c1⟩]
      by_cases c2 : -1000000000000 ≤ w
      · rw [if_pos c2]
        by_cases c3 : w ≤ 1000000000000
        · rw [if_pos c3]
          simp (disch := omega) only [cq_gi, cq_gr, cq_a, cq_s, cq_p, cq_pr, cq_is, cq_ar, cq_ab, cq_ln, xq_nz, Option.bind_some, xup2_n, xup2_s, Int.toNat_natCast, Int.reduceToNat, if_pos, if_neg, true_and, and_true, and_self, eq_self, if_true, reduceIte, not_true_eq_false, not_false_eq_true, or_true, true_or, s216 hs, h1, hc, hw', c1, c2, c3, ex]
        · rw [if_neg c3]
          simp (disch := omega) only [cq_gi, cq_gr, cq_a, cq_s, cq_p, cq_pr, cq_is, cq_ar, cq_ab, cq_ln, xq_nz, Option.bind_some, xup2_n, xup2_s, Int.toNat_natCast, Int.reduceToNat, if_pos, if_neg, true_and, and_true, and_self, eq_self, if_true, reduceIte, not_true_eq_false, not_false_eq_true, or_true, true_or, s216 hs, h1, hc, hw', c1, c2, c3, ex]
      · rw [if_neg c2]
        simp (disch := omega) only [cq_gi, cq_gr, cq_a, cq_s, cq_p, cq_pr, cq_is, cq_ar, cq_ab, cq_ln, xq_nz, Option.bind_some, xup2_n, xup2_s, Int.toNat_natCast, Int.reduceToNat, if_pos, if_neg, true_and, and_true, and_self, eq_self, if_true, reduceIte, not_true_eq_false, not_false_eq_true, or_true, true_or, s216 hs, h1, hc, hw', c1, c2, ex]
  · rw [if_neg (show ¬ (fIn x (a : Int) (b : Int) ∧ ¬ w = 9000000000000000000) from fun z => q z.1)]
    unfold fIn at q
    by_cases c1 : x % 6 < a % 6
    · rw [if_pos (by omega)]; exact no
    · rw [if_neg (by omega), if_pos (by omega)]; exact no
theorem k_107l {sm : Int} {a b : Nat} (hs : cSs S) (h1 : G 216 1 = (cc : Int)) (hc : S cc = (2, 4, 72)) (ha : a < 72) (hb : b < 72) (hC : okC C) (hG : ∀ x, x < 72 → fIn x (a : Int) (b : Int) → G cc x = eC (C x)) : ∀ (d x fu : Nat) (v n : Int), x + d = b + 1 → d < fu → a ≤ x → (-(x : Int) * 1000000000000 ≤ v ∧ v ≤ (x : Int) * 1000000000000) → (0 ≤ n ∧ n ≤ x) → c107_9 f fu 216 sm (a : Int) (b : Int) v n (x : Int) (S, G, m) = some (eO sm (fOc C (a : Int) (b : Int) (72 - x) x v n), (S, G, m)) := by
  intro d
  induction d with
  | zero =>
    intro x fu v n e1 e2 e3 e4 e5
    obtain ⟨fu, rfl⟩ : ∃ t, fu = t + 1 := ⟨fu - 1, by omega⟩
    rw [st_107e (by omega), fOc_past _ _ _ _ (by omega)]
    rfl
  | succ d ih =>
    intro x fu v n e1 e2 e3 e4 e5
    obtain ⟨fu, rfl⟩ : ∃ t, fu = t + 1 := ⟨fu - 1, by omega⟩
    rw [st_107i hs h1 hc ha hb (by omega) e3 (hG x (by omega))]
    have ek : 72 - x = (72 - (x + 1)) + 1 := by omega
    rw [ek]
    have en : xwr (n + 1) = n + 1 := xwr_g _ (by omega) (by omega)
    show _ = some (eO sm (if fIn x (a : Int) (b : Int) ∧ ¬ (C x).1 = 0 then (if (C x).1 = 2 then .inl (C x).2 else fOc C (a : Int) (b : Int) (72 - (x + 1)) (x + 1) (if 2000000000000 ≤ (C x).2 then v else v + (C x).2) (n + 1)) else fOc C (a : Int) (b : Int) (72 - (x + 1)) (x + 1) v n), _)
    by_cases q : fIn x (a : Int) (b : Int)
    · rcases hC x (by omega) with ⟨z1, z2⟩ | ⟨z1, z2⟩ | ⟨z1, z2, z3⟩
      · have ee : eC (C x) = 9000000000000000000 := if_pos z1
        rw [if_neg (fun z => z.2 ee), if_neg (fun z => z.2 z1)]
        exact ih (x + 1) fu v n (by omega) (by omega) (by omega) (by omega) (by omega)
      · have ee : eC (C x) = (C x).2 := by unfold eC; rw [if_neg (by omega), if_pos z1]
        unfold vOk at z2
        rw [ee, if_pos (show fIn x (a : Int) (b : Int) ∧ ¬ (C x).2 = 9000000000000000000 from ⟨q, by omega⟩), if_pos (show -1000000000000 ≤ (C x).2 by omega), if_pos (show fIn x (a : Int) (b : Int) ∧ ¬ (C x).1 = 0 from ⟨q, by omega⟩), if_neg (show ¬ (C x).1 = 2 by omega), en]
        by_cases c3 : (C x).2 ≤ 1000000000000
        · rw [if_pos c3, if_neg (show ¬ 2000000000000 ≤ (C x).2 by omega), xwl_g _ (by omega) (by omega)]
          exact ih (x + 1) fu _ _ (by omega) (by omega) (by omega) (by omega) (by omega)
        · rw [if_neg c3, if_pos (show 2000000000000 ≤ (C x).2 by omega), Int.add_zero, xwl_g _ (by omega) (by omega)]
          exact ih (x + 1) fu _ _ (by omega) (by omega) (by omega) (by omega) (by omega)
      · have ee : eC (C x) = -9000000000000000000 + (C x).2 := by unfold eC; rw [if_neg (by omega), if_neg (by omega)]
        rw [ee, if_pos (show fIn x (a : Int) (b : Int) ∧ ¬ -9000000000000000000 + (C x).2 = 9000000000000000000 from ⟨q, by omega⟩), if_neg (show ¬ -1000000000000 ≤ -9000000000000000000 + (C x).2 by omega), if_pos (show fIn x (a : Int) (b : Int) ∧ ¬ (C x).1 = 0 from ⟨q, by omega⟩), if_pos z1]
        rfl
    · rw [if_neg (fun z => q z.1), if_neg (fun z => q z.1)]
      exact ih (x + 1) fu v n (by omega) (by omega) (by omega) (by omega) (by omega)
/-- overCells() -/
theorem k_107 {sm kd : Int} {a b : Nat} (hf : 100 < f) (h : cSe S G nx mo cc q rp s xr cr M C D) (ha : a < 72) (hb : b < 72) (hD : ∀ x, x < 72 → fIn x (a : Int) (b : Int) → D x) (hk : kd = 5 ∧ sm = 0 ∨ kd = 4 ∧ sm = 1) : c107 f 216 sm (a : Int) (b : Int) (S, G, m) = some (eW (fOv C kd (a : Int) (b : Int)), (S, G, m)) := by
  obtain ⟨hs, hp, ⟨_, h1⟩, ⟨hc, hG⟩, _, _, _, hC, _⟩ := h
  have fin : eO sm (fOc C (a : Int) (b : Int) (72 - a) a 0 0) = eW (fOv C kd (a : Int) (b : Int)) := by
    have e := fOc_skip (C := C) (a := (a : Int)) (b := (b : Int)) (v := 0) (n := 0) a (72 - a) (Int.le_refl _)
    rw [show a + (72 - a) = 72 by omega] at e
    unfold fOv
    rw [e]
    cases fOc C (a : Int) (b : Int) (72 - a) a 0 0 with
    | inl e => rfl
    | inr p =>
      rcases hk with ⟨k1, k2⟩ | ⟨k1, k2⟩
      · rw [k1, k2]; rfl
      · rw [k1, k2]; rfl
  rw [← fin]
  unfold c107
  by_cases c : a ≤ b + 1
  · exact k_107l hs h1 hc ha hb hC (fun x hx q => hG x hx (hD x hx q)) (b + 1 - a) a f 0 0 (by omega) (by omega) (Nat.le_refl _) (by omega) (by omega)
  · obtain ⟨g, rfl⟩ : ∃ t, f = t + 1 := ⟨f - 1, by omega⟩
    rw [st_107e (by omega), fOc_past _ _ _ _ (by omega)]
    rfl
end
end
