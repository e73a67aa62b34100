/-! THE CLASS reads FORMULAS: operands -/
/-- the code of a node that begins at b, worked out within h cells -/
def isC (N : List pNd) : Nat → Int → Nat → Nat → pCd → Prop
  | 0, _, _, _, _ => False
  | F + 1, r, b, h, C => (0 ≤ r ∧ r < N.length) ∧ 1 ≤ h ∧ (
    (N.getD r.toNat dNd).1 = 1 ∧ C = [(1, (N.getD r.toNat dNd).2.2.2.2)] ∨
    (N.getD r.toNat dNd).1 = 2 ∧ C = [(2, (N.getD r.toNat dNd).2.1)] ∨
    (N.getD r.toNat dNd).1 = 3 ∧ (∃ A D, isC N F (N.getD r.toNat dNd).2.1 b h A ∧ isC N F (N.getD r.toNat dNd).2.2.1 (b + A.length) (h - 1) D ∧ C = A ++ D ++ [((N.getD r.toNat dNd).2.2.2.1, 0)]) ∨
    ((N.getD r.toNat dNd).1 = 4 ∨ (N.getD r.toNat dNd).1 = 5) ∧ C = [((N.getD r.toNat dNd).1 - 1, (N.getD r.toNat dNd).2.1 + 72 * (N.getD r.toNat dNd).2.2.1)] ∨
    (6 ≤ (N.getD r.toNat dNd).1 ∧ (N.getD r.toNat dNd).1 ≤ 9) ∧ C = [((N.getD r.toNat dNd).1 + 4 + 256 * (N.getD r.toNat dNd).2.1, (N.getD r.toNat dNd).2.2.2.2)] ∨
    (N.getD r.toNat dNd).1 = 10 ∧ (∃ A D E, isC N F (N.getD r.toNat dNd).2.1 b h A ∧ isC N F (N.getD r.toNat dNd).2.2.1 (b + A.length + 1) h D ∧ isC N F (N.getD r.toNat dNd).2.2.2.1 (b + A.length + 1 + D.length + 1) h E ∧ C = A ++ [(14, ((b + A.length + D.length + 2 : Nat) : Int))] ++ D ++ [(15, ((b + A.length + D.length + E.length + 2 : Nat) : Int))] ++ E))
theorem isC.mo {N M : List pNd} : ∀ (F F' : Nat) (r : Int) (b h h' : Nat) (C : pCd), F ≤ F' → h ≤ h' → isC N F r b h C → isC (N ++ M) F' r b h' C := by
  intro F
  induction F with
  | zero => intro F' r b h h' C _ _ h; exact h.elim
  | succ F ih =>
    intro F' r b k k' C hF hk h
    obtain ⟨F', rfl⟩ : ∃ t, F' = t + 1 := ⟨F' - 1, by omega⟩
    obtain ⟨⟨h1, h2⟩, h0, h3⟩ := h
    have hg : (N ++ M).getD r.toNat dNd = N.getD r.toNat dNd := by
      simp only [List.getD_eq_getElem?_getD]
      rw [List.getElem?_append_left (by omega)]
    refine ⟨⟨h1, by rw [List.length_append]; omega⟩, by omega, ?_⟩
    rw [hg]
    rcases h3 with q | q | ⟨q, A, D, a1, a2, a3⟩ | q | q | ⟨q, A, D, E, a1, a2, a3, a4⟩
    · exact .inl q
    · exact .inr (.inl q)
    · exact .inr (.inr (.inl ⟨q, A, D, ih F' _ _ _ _ _ (by omega) hk a1, ih F' _ _ _ _ _ (by omega) (by omega) a2, a3⟩))
    · exact .inr (.inr (.inr (.inl q)))
    · exact .inr (.inr (.inr (.inr (.inl q))))
    · exact .inr (.inr (.inr (.inr (.inr ⟨q, A, D, E, ih F' _ _ _ _ _ (by omega) hk a1, ih F' _ _ _ _ _ (by omega) hk a2, ih F' _ _ _ _ _ (by omega) hk a3, a4⟩))))
/-- what a node that has no parts is in code -/
def lf (y : pNd) : Option (Int × Int) := if y.1 = 1 then some (1, y.2.2.2.2) else if y.1 = 2 then some (2, y.2.1) else if y.1 = 4 ∨ y.1 = 5 then some (y.1 - 1, y.2.1 + 72 * y.2.2.1) else if 6 ≤ y.1 ∧ y.1 ≤ 9 then some (y.1 + 4 + 256 * y.2.1, y.2.2.2.2) else none
def lfC (c : Int × Int) : Bool := decide (c.1 % 256 ≤ 13)
theorem gD_last {N : List pNd} {y : pNd} : (N ++ [y]).getD ((N.length : Nat) : Int).toNat dNd = y := by
  rw [Int.toNat_natCast, getD_1, if_pos rfl]
theorem isC_new {N : List pNd} {y : pNd} {b k : Nat} {C : pCd} {F : Nat} (hk : 1 ≤ k) (h : y.1 = 1 ∧ C = [(1, y.2.2.2.2)] ∨ y.1 = 2 ∧ C = [(2, y.2.1)] ∨
    y.1 = 3 ∧ (∃ A D, isC N F y.2.1 b k A ∧ isC N F y.2.2.1 (b + A.length) (k - 1) D ∧ C = A ++ D ++ [(y.2.2.2.1, 0)]) ∨
    (y.1 = 4 ∨ y.1 = 5) ∧ C = [(y.1 - 1, y.2.1 + 72 * y.2.2.1)] ∨
    (6 ≤ y.1 ∧ y.1 ≤ 9) ∧ C = [(y.1 + 4 + 256 * y.2.1, y.2.2.2.2)] ∨
    y.1 = 10 ∧ (∃ A D E, isC N F y.2.1 b k A ∧ isC N F y.2.2.1 (b + A.length + 1) k D ∧ isC N F y.2.2.2.1 (b + A.length + 1 + D.length + 1) k E ∧ C = A ++ [(14, ((b + A.length + D.length + 2 : Nat) : Int))] ++ D ++ [(15, ((b + A.length + D.length + E.length + 2 : Nat) : Int))] ++ E)) : isC (N ++ [y]) (F + 1) (N.length : Int) b k C := by
  refine ⟨⟨by omega, by rw [len1]; omega⟩, hk, ?_⟩
  rw [gD_last]
  rcases h with q | q | ⟨q, A, D, a1, a2, a3⟩ | q | q | ⟨q, A, D, E, a1, a2, a3, a4⟩
  · exact .inl q
  · exact .inr (.inl q)
  · exact .inr (.inr (.inl ⟨q, A, D, a1.mo F F _ _ _ _ _ (Nat.le_refl _) (Nat.le_refl _), a2.mo F F _ _ _ _ _ (Nat.le_refl _) (Nat.le_refl _), a3⟩))
  · exact .inr (.inr (.inr (.inl q)))
  · exact .inr (.inr (.inr (.inr (.inl q))))
  · exact .inr (.inr (.inr (.inr (.inr ⟨q, A, D, E, a1.mo F F _ _ _ _ _ (Nat.le_refl _) (Nat.le_refl _), a2.mo F F _ _ _ _ _ (Nat.le_refl _) (Nat.le_refl _), a3.mo F F _ _ _ _ _ (Nat.le_refl _) (Nat.le_refl _), a4⟩))))
section
variable {f n N w i it hh : Nat} {S : Nat → Nat × Nat × Nat} {G G' G'' : xG_} {m : Nat × Nat} {B : Nat → Int} {t : tStr} {K K' : pCd} {st st' : List Int}
/-- a bracket is opened, that of an if too -/
theorem ky_openb (hf : 100 < f) (hif : ∀ i, i ≤ w → kK t i = 1 → (spl B (kS t i) (kE t i) 10 ↔ kC t i = 348)) (h : cYs S G B n t N w K st i) (hi : it ≤ i) (hk : kK t i = 40) (hl : st.length ≤ 31) : pok (pOpen t (nBr st) i) (fun x => lWr f 1 1 it 1 (S, G, m) (cWr S G m (x : Int))) (fun j => j = i + 1 ∧ ∃ G', lSt f 1 1 1 it 1 (S, G, m) (S, G', m) ∧ xY hh G G' ∧ cYs S G' B n t N w K (st ++ [1]) j) := by
  have hE := h.1
  obtain ⟨k1, k2, k3, k4⟩ := hE.tk h.2.1
  have hs := hE.1
  have hp := hE.2.1
  have e58 := ky_58 (m := m) (f := f) (by omega) h (by omega)
  have ei := ity_1 h hi
  have e60 : ∀ r9 : Nat → Int → Int → Int → xT_ → Option ((Nat ⊕ Unit) × xT_), c53_59 r9 f 72 1 1 (it : Int) 40 (S, G, m) = ((c60_20 f 72 1 (S, G, m)).bind fun R101 => cth R101 (fun _ => c53_202 r9 f 72 1 1 (it : Int) R101.2)) := by
    intro r9
    unfold c53_59 c60 c60_11
    rw [if_neg (by decide : ¬ ¬ ((40 : Int) = 40)), if_pos (by decide : ¬ ((1 : Int) = 0))]
    simp (disch := omega) only [cq_gi, cq_gr, cq_a, cq_s, cq_p, cq_pr, cq_is, cq_ar, cq_ab, cq_ln, xq_nz, Option.bind_some, xup2_n, xup2_s, Int.toNat_natCast, Int.reduceToNat, if_pos, if_neg, true_and, and_true, and_self, eq_self, if_true, reduceIte, not_true_eq_false, not_false_eq_true, or_true, true_or, s72 hs]
  unfold pOpen
  by_cases c : nBr st = 4
  · rw [if_neg (fun q => q.2 c)]
    intro fu
    rw [ky_turn hf hif h hi fu, if_neg (by decide), if_pos hk, hk, e60]
    rw [c] at e58
    have e58' : c58 f 72 (S, G, m) = some (4, (S, G, m)) := e58
    unfold c60_20 c60_45
    simp (disch := omega) only [cq_gi, cq_gr, cq_a, cq_s, cq_p, cq_pr, cq_is, cq_ar, cq_ab, cq_ln, xq_nz, Option.bind_some, xup2_n, xup2_s, Int.toNat_natCast, Int.reduceToNat, if_pos, if_neg, true_and, and_true, and_self, eq_self, if_true, reduceIte, not_true_eq_false, not_false_eq_true, or_true, true_or, s72 hs, s65 hs, s67 hs, s68 hs, p72_0 hp, p65_3 hp, p65_4 hp, k1, k2, k3, hk, e58', k_36 hs, cth]
  · rw [if_pos ⟨hk, c⟩]
    obtain ⟨l1, l2⟩ := hE.lt h.2.1 (by omega)
    obtain ⟨d1, d2⟩ := k_37 (f := f) (m := m) hE h.2.1 (by omega)
    obtain ⟨y1, y2⟩ := h.at (hh := hh) d2 (by omega)
    obtain ⟨G2, b1, b2, b3⟩ := ky_57 (f := f) (m := m) (hh := hh) (x := 1) y2 (by omega)
    refine ⟨rfl, G2, fun fu => ?_, y1.tr b2, b3⟩
    rw [ky_turn hf hif h hi fu, if_neg (by decide), if_pos hk, hk, e60]
    unfold c60_20 c60_61 c60_75 c53_202
    simp (disch := omega) only [cq_gi, cq_gr, cq_a, cq_s, cq_p, cq_pr, cq_is, cq_ar, cq_ab, cq_ln, xq_nz, Option.bind_some, xup2_n, xup2_s, Int.toNat_natCast, Int.reduceToNat, if_pos, if_neg, true_and, and_true, and_self, eq_self, if_true, reduceIte, not_true_eq_false, not_false_eq_true, or_true, true_or, s72 hs, s65 hs, s67 hs, s68 hs, p72_0 hp, p65_3 hp, p65_4 hp, k1, k2, k3, hk, e58, cth, d1, b1, ei]
theorem ky_openi (hf : 100 < f) (hif : ∀ i, i ≤ w → kK t i = 1 → (spl B (kS t i) (kE t i) 10 ↔ kC t i = 348)) (h : cYs S G B n t N w K st i) (hi : it ≤ i) (hk : kK t i = 1 ∧ kC t i = 348) (hl : st.length ≤ 31) : pok (pOpen t (nBr st) (i + 1)) (fun x => ∃ G', lWr f 1 1 it 1 (S, G, m) (cWr S G' m (x : Int)) ∧ xY hh G G') (fun j => j = i + 2 ∧ ∃ G', lSt f 1 1 1 it 1 (S, G, m) (S, G', m) ∧ xY hh G G' ∧ cYs S G' B n t N w K (st ++ [2]) j) := by
  have hE0 := h.1
  have hs := hE0.1
  obtain ⟨l1, l2⟩ := hE0.lt h.2.1 (by omega)
  obtain ⟨d1, d2⟩ := k_37 (f := f) (m := m) hE0 h.2.1 (by omega)
  obtain ⟨y1, y2⟩ := h.at (hh := hh) d2 (by omega)
  have hE := y2.1
  obtain ⟨k1, k2, k3, k4⟩ := hE.tk y2.2.1
  have hp := hE.2.1
  have e58 := ky_58 (m := m) (f := f) (by omega) y2 (by omega)
  have ei := ity_1 h hi
  have e0 : ∀ fu, c53_9 f (fu + 1) 72 1 1 (it : Int) (S, G, m) = c53_59 (c53_9 f fu) f 72 1 1 (it : Int) (kK t i) (S, G, m) := by
    intro fu
    rw [ky_turn hf hif h hi fu, if_neg (by decide), if_neg (by omega), if_pos hk]
  have e60 : ∀ r9 : Nat → Int → Int → Int → xT_ → Option ((Nat ⊕ Unit) × xT_), c53_59 r9 f 72 1 1 (it : Int) (kK t i) (S, G, m) = ((c60_20 f 72 0 (S, xup2 G 72 1 ((min (i + 1) N : Nat) : Int), m)).bind fun R101 => cth R101 (fun _ => c53_202 r9 f 72 1 1 (it : Int) R101.2)) := by
    intro r9
    unfold c53_59 c60 c60_11
    rw [if_pos (by omega), if_neg (by decide : ¬ ¬ ((0 : Int) = 0))]
    simp (disch := omega) only [cq_gi, cq_gr, cq_a, cq_s, cq_p, cq_pr, cq_is, cq_ar, cq_ab, cq_ln, xq_nz, Option.bind_some, xup2_n, xup2_s, Int.toNat_natCast, Int.reduceToNat, if_pos, if_neg, true_and, and_true, and_self, eq_self, if_true, reduceIte, not_true_eq_false, not_false_eq_true, or_true, true_or, s72 hs, d1]
  generalize hG : xup2 G 72 1 ((min (i + 1) N : Nat) : Int) = G1 at *
  unfold pOpen
  by_cases c1 : kK t (i + 1) = 40
  · by_cases c : nBr st = 4
    · rw [if_neg (fun q => q.2 c)]
      refine ⟨G1, fun fu => ?_, y1⟩
      rw [e0, e60]
      rw [c] at e58
      have e58' : c58 f 72 (S, G1, m) = some (4, (S, G1, m)) := e58
      unfold c60_20 c60_45
      simp (disch := omega) only [cq_gi, cq_gr, cq_a, cq_s, cq_p, cq_pr, cq_is, cq_ar, cq_ab, cq_ln, xq_nz, Option.bind_some, xup2_n, xup2_s, Int.toNat_natCast, Int.reduceToNat, if_pos, if_neg, true_and, and_true, and_self, eq_self, if_true, reduceIte, not_true_eq_false, not_false_eq_true, or_true, true_or, s72 hs, s65 hs, s67 hs, s68 hs, p72_0 hp, p65_3 hp, p65_4 hp, k1, k2, k3, c1, e58', k_36 hs, cth]
    · rw [if_pos ⟨c1, c⟩]
      obtain ⟨l1, l2⟩ := hE.lt y2.2.1 (by omega)
      obtain ⟨d1', d2'⟩ := k_37 (f := f) (m := m) hE y2.2.1 (by omega)
      obtain ⟨z1, z2⟩ := y2.at (hh := hh) d2' (by omega)
      obtain ⟨G2, b1, b2, b3⟩ := ky_57 (f := f) (m := m) (hh := hh) (x := 2) z2 (by omega)
      refine ⟨rfl, G2, fun fu => ?_, (y1.tr z1).tr b2, b3⟩
      rw [e0, e60]
      unfold c60_20 c60_61 c60_75 c53_202
      simp (disch := omega) only [cq_gi, cq_gr, cq_a, cq_s, cq_p, cq_pr, cq_is, cq_ar, cq_ab, cq_ln, xq_nz, Option.bind_some, xup2_n, xup2_s, Int.toNat_natCast, Int.reduceToNat, if_pos, if_neg, true_and, and_true, and_self, eq_self, if_true, reduceIte, not_true_eq_false, not_false_eq_true, or_true, true_or, s72 hs, s65 hs, s67 hs, s68 hs, p72_0 hp, p65_3 hp, p65_4 hp, k1, k2, k3, c1, e58, c, cth, d1', b1, ei]
  · rw [if_neg (fun q => c1 q.1)]
    refine ⟨G1, fun fu => ?_, y1⟩
    rw [e0, e60]
    unfold c60_20 c60_45
    simp (disch := omega) only [cq_gi, cq_gr, cq_a, cq_s, cq_p, cq_pr, cq_is, cq_ar, cq_ab, cq_ln, xq_nz, Option.bind_some, xup2_n, xup2_s, Int.toNat_natCast, Int.reduceToNat, if_pos, if_neg, true_and, and_true, and_self, eq_self, if_true, reduceIte, not_true_eq_false, not_false_eq_true, or_true, true_or, s72 hs, s65 hs, s67 hs, s68 hs, p72_0 hp, p65_3 hp, p65_4 hp, k1, k2, k3, c1, k_36 hs, cth]
end
