/-! THE CLASS reads FORMULAS: operands, ends of parts -/
section
variable {f n N w i it hh b : Nat} {S : Nat → Nat × Nat × Nat} {G G' G'' : xG_} {m : Nat × Nat} {B : Nat → Int} {t : tStr} {K K' : pCd} {st st' : List Int} {N0 : List pNd}
theorem ky_opnd (hf : 100 < f) (hif : ∀ i, i ≤ w → kK t i = 1 → (spl B (kS t i) (kE t i) 10 ↔ kC t i = 348)) (hck : tCk t) (h : cYs S G B n t N w K st i) (hi : it ≤ i) (hk : kK t i ≠ 40) (hk2 : ¬ (kK t i = 1 ∧ kC t i = 348)) (hl : st.length ≤ 31) (hK : K.length < 3001) (hb : nBr st = b) : pok (if kK t i = 2 then pbind (pCell t i) fun r => .inr (N0 ++ [(2, r.1, 0, 0, 0)], (N0.length : Int), r.2) else if 10 ≤ kK t i ∧ kK t i ≤ 13 then pOf t b N0 i
    else pbind (pVal t i) fun r => (.inr (N0 ++ [(1, 0, 0, 0, r.1)], (N0.length : Int), r.2) : Nat ⊕ pFm)) (fun x => ∃ G', lWr f 1 1 it 1 (S, G, m) (cWr S G' m (x : Int)) ∧ xY hh G G') (fun e => ∃ G' C, lSt f 1 1 0 it 1 (S, G, m) (S, G', m) ∧ xY hh G G' ∧ cYs S G' B n t N w (K ++ [C]) st e.2.2 ∧ isC e.1 1 e.2.1 K.length 1 [C] ∧ i < e.2.2 ∧ ∃ y, e.1 = N0 ++ [y] ∧ lf y = some C ∧ lfC C = true) := by
  have hs := h.1.1
  have ei := ity_1 h hi
  have e0 : ∀ fu, c53_9 f (fu + 1) 72 1 1 (it : Int) (S, G, m) = c53_68 (c53_9 f fu) f 72 1 1 (it : Int) (kK t i) (S, G, m) := by
    intro fu
    rw [ky_turn hf hif h hi fu, if_neg (by decide), if_neg hk, if_neg hk2]
  by_cases cg : 10 ≤ kK t i ∧ kK t i ≤ 13
  · rw [if_neg (by omega), if_pos cg]
    have p := k_54 (f := f) (m := m) (hh := hh) (N0 := N0) hf hck h cg hl hK hb
    refine pok_m p ?_ ?_
    · rintro x ⟨G', q1, q2⟩
      refine ⟨G', fun fu => ?_, q2⟩
      rw [e0]
      unfold c53_68
      rw [if_neg (by decide), if_neg (by decide), if_neg (by omega), if_neg (by omega)]
      simp (disch := omega) only [cq_gi, cq_gr, cq_a, cq_s, cq_p, cq_pr, cq_is, cq_ar, cq_ab, cq_ln, xq_nz, Option.bind_some, xup2_n, xup2_s, Int.toNat_natCast, Int.reduceToNat, if_pos, if_neg, true_and, and_true, and_self, eq_self, if_true, reduceIte, not_true_eq_false, not_false_eq_true, or_true, true_or, s72 hs, q1, cth]
    · rintro e ⟨G', C, q1, q2, q3⟩
      refine ⟨G', C, fun fu => ?_, q2, q3⟩
      rw [e0]
      unfold c53_68 c53_139 c53_202
      rw [if_neg (by decide), if_neg (by decide), if_neg (by omega), if_neg (by omega)]
      simp (disch := omega) only [cq_gi, cq_gr, cq_a, cq_s, cq_p, cq_pr, cq_is, cq_ar, cq_ab, cq_ln, xq_nz, Option.bind_some, xup2_n, xup2_s, Int.toNat_natCast, Int.reduceToNat, if_pos, if_neg, true_and, and_true, and_self, eq_self, if_true, reduceIte, not_true_eq_false, not_false_eq_true, or_true, true_or, s72 hs, q1, cth, ei]
  · have e1 : ∀ fu, c53_9 f (fu + 1) 72 1 1 (it : Int) (S, G, m) = c53_99 (c53_9 f fu) f 72 1 (it : Int) (kK t i) (S, G, m) := by
      intro fu
      rw [e0]
      unfold c53_68
      rw [if_neg (by decide), if_neg (by decide)]
      by_cases q : kK t i < 10
      · rw [if_pos q]
      · rw [if_neg q, if_pos (by omega)]
    by_cases c : kK t i = 2
    · rw [if_pos c]
      have p := ky_52 (f := f) (m := m) (hh := hh) hck h
      cases hp : pCell t i with
      | inl x =>
        rw [hp] at p
        refine ⟨G, fun fu => ?_, .id⟩
        rw [e1]
        unfold c53_99
        rw [if_neg (fun q => q c), if_neg (by decide)]
        have p' : c52 f 72 (S, G, m) = _ := p
        simp (disch := omega) only [cq_gi, cq_gr, cq_a, cq_s, cq_p, cq_pr, cq_is, cq_ar, cq_ab, cq_ln, xq_nz, Option.bind_some, xup2_n, xup2_s, Int.toNat_natCast, Int.reduceToNat, if_pos, if_neg, true_and, and_true, and_self, eq_self, if_true, reduceIte, not_true_eq_false, not_false_eq_true, or_true, true_or, s72 hs, p', cth]
      | inr r =>
        rw [hp] at p
        obtain ⟨G1, a1, a2, a3, a4, a5, a6⟩ := p
        obtain ⟨G2, b1, b2, _, b3⟩ := ky_56 (f := f) (m := m) (hh := hh) (a := 2) (b := r.1) a3 hK
        refine ⟨G2, _, fun fu => ?_, a2.tr b2, b3, isC_new (F := 0) (Nat.le_refl _) (.inr (.inl ⟨rfl, rfl⟩)), by show i < r.2; omega, _, rfl, rfl, rfl⟩
        rw [e1]
        unfold c53_99 c53_124 c53_139 c53_202
        rw [if_neg (fun q => q c), if_neg (by decide)]
        simp (disch := omega) only [cq_gi, cq_gr, cq_a, cq_s, cq_p, cq_pr, cq_is, cq_ar, cq_ab, cq_ln, xq_nz, Option.bind_some, xup2_n, xup2_s, Int.toNat_natCast, Int.reduceToNat, if_pos, if_neg, true_and, and_true, and_self, eq_self, if_true, reduceIte, not_true_eq_false, not_false_eq_true, or_true, true_or, s72 hs, a1, cth, b1, ei]
    · rw [if_neg c, if_neg cg]
      have p := k_51 (f := f) (m := m) hck.2 h.1 h.2.1
      cases hp : pVal t i with
      | inl x =>
        rw [hp] at p
        obtain ⟨v, p⟩ := p
        refine ⟨xup2 G 72 1 v, fun fu => ?_, fun a j p q r => xup2_n (by omega)⟩
        rw [e1]
        unfold c53_99
        rw [if_pos c]
        simp (disch := omega) only [cq_gi, cq_gr, cq_a, cq_s, cq_p, cq_pr, cq_is, cq_ar, cq_ab, cq_ln, xq_nz, Option.bind_some, xup2_n, xup2_s, Int.toNat_natCast, Int.reduceToNat, if_pos, if_neg, true_and, and_true, and_self, eq_self, if_true, reduceIte, not_true_eq_false, not_false_eq_true, or_true, true_or, s72 hs, p, cth]
      | inr r =>
        rw [hp] at p
        obtain ⟨a1, a2⟩ := p
        have hr : r.2 ≤ N := by
          unfold pVal at hp
          repeat' split at hp
          all_goals first
            | (cases hp; done)
            | skip
          · rename_i q
            cases hp
            exact (h.1.lt h.2.1 (by omega)).1
          · rename_i q1 q2 q3
            cases hp
            have z0 := h.1.lt h.2.1 (by omega)
            exact Nat.lt_of_not_le (fun q => by have := (h.1.2.2.2.2.1 (i + 1) q).1; omega)
          · rename_i q1 q2 q3
            cases hp
            exact (h.1.lt h.2.1 (by omega)).1
        obtain ⟨y1, y2⟩ := h.at (hh := hh) a2 hr
        obtain ⟨G2, b1, b2, _, b3⟩ := ky_56 (f := f) (m := m) (hh := hh) (a := 1) (b := r.1) y2 hK
        refine ⟨G2, _, fun fu => ?_, y1.tr b2, b3, isC_new (F := 0) (Nat.le_refl _) (.inl ⟨rfl, rfl⟩), (by have := pVal_in hp; exact this), _, rfl, rfl, rfl⟩
        rw [e1]
        unfold c53_99 c53_139 c53_202
        rw [if_pos c]
        simp (disch := omega) only [cq_gi, cq_gr, cq_a, cq_s, cq_p, cq_pr, cq_is, cq_ar, cq_ab, cq_ln, xq_nz, Option.bind_some, xup2_n, xup2_s, Int.toNat_natCast, Int.reduceToNat, if_pos, if_neg, true_and, and_true, and_self, eq_self, if_true, reduceIte, not_true_eq_false, not_false_eq_true, or_true, true_or, s72 hs, a1, cth, b1, ei]
/-- the end of a part, over all -/
theorem ky_part {Q : List Int} {y c wn : Int} {Z : xG_ → pCd → List Int → Prop} (hf : 100 < f) (hif : ∀ i, i ≤ w → kK t i = 1 → (spl B (kS t i) (kE t i) 10 ↔ kC t i = 348)) (hy : 1 ≤ y ∧ y ≤ 4) (hc : c = if y = 1 ∨ y = 4 then 41 else 44)
    (h : cYs S G B n t N w K (st ++ [y] ++ Q.reverse) i) (hi : it ≤ i) (hk : cStr (kK t i) = 0) (hQ : ∀ x, x ∈ Q → 1 ≤ cStr x) (hl : (st ++ [y] ++ Q.reverse).length ≤ 32) (hK : K.length + Q.length ≤ 3001)
    (hst : ∀ G1, xY st.length G G1 → (∀ j, G1 76 j = G 76 j) → cYs S G1 B n t N w (K ++ Q.map cZ) (st ++ [y]) i → kK t i = c → ∃ G2 K2 st2, c61 f 72 (kK t i) (S, G1, m) = some (.inr wn, (S, G2, m)) ∧ xY st.length G1 G2 ∧ cYs S G2 B n t N w K2 st2 i ∧ Z G2 K2 st2) :
    pok (pNeed t c i) (fun x => ∃ G', lWr f 1 0 it 1 (S, G, m) (cWr S G' m (x : Int)) ∧ xY st.length G G') (fun j => j = i + 1 ∧ ∃ G' G2 K2 st2, lSt f 1 0 wn it 1 (S, G, m) (S, G', m) ∧ xY st.length G G' ∧ cYs S G' B n t N w K2 st2 j ∧ Z G2 K2 st2 ∧ (∀ j, G' 76 j = G2 76 j)) := by
  have hs := h.1.1
  obtain ⟨G1, a1, a0, a2, a3⟩ := ky_end (f := f) (m := m) (hh := st.length) hf hif h hi hk (.inr ⟨st, y, rfl, by
    unfold cStr
    rw [if_neg (by omega), if_neg (by omega)]; decide⟩) hQ hl hK
  have hne : st ++ [y] ≠ [] := by simp
  have hl1 : st.length ≤ 31 := by rw [List.length_append, len1] at hl; omega
  unfold pNeed
  by_cases cc : kK t i = c
  · rw [if_pos cc]
    obtain ⟨G2, K2, st2, b1, b2, b3, b4⟩ := hst G1 a1 a0 a2 cc
    have hc2 : c = 41 ∨ c = 44 := by rw [hc]; split; exact .inl rfl; exact .inr rfl
    obtain ⟨l1, l2⟩ := b3.1.lt b3.2.1 (by omega)
    obtain ⟨d1, d2⟩ := k_37 (f := f) (m := m) b3.1 b3.2.1 (by omega)
    obtain ⟨y1, y2⟩ := b3.at (hh := st.length) d2 (by omega)
    refine ⟨rfl, _, G2, K2, st2, fun fu => ?_, (a1.tr b2).tr y1, y2, b4, fun j => xup2_n (by omega)⟩
    rw [a3 fu, if_neg hne, b1]
    simp (disch := omega) only [cq_gi, cq_gr, cq_a, cq_s, cq_p, cq_pr, cq_is, cq_ar, cq_ab, cq_ln, xq_nz, Option.bind_some, xup2_n, xup2_s, Int.toNat_natCast, Int.reduceToNat, if_pos, if_neg, true_and, and_true, and_self, eq_self, if_true, reduceIte, not_true_eq_false, not_false_eq_true, or_true, true_or, s72 hs, cth, d1]
  · rw [if_neg cc]
    have e61 := k_61w (f := f) (m := m) hy a2 hl1 (by rw [← hc]; exact cc)
    refine ⟨G1, fun fu => ?_, a1⟩
    rw [a3 fu, if_neg hne, e61]
    rfl
end
