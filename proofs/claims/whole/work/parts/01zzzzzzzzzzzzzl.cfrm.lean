/-! THE CLASS reads FORMULAS: code, signs that wait -/
def cYs (S : Nat → Nat × Nat × Nat) (G : xG_) (B : Nat → Int) (n : Nat) (t : tStr) (N w : Nat) (K : pCd) (st : List Int) (i : Nat) : Prop := cEv S G B n t N w ∧ cAt G N w i ∧ i ≤ N ∧ cCo G K ∧ cSk G st
/-- what reading a FORMULA leaves as it was, at depth h -/
def xY (h : Nat) (G G' : xG_) : Prop := ∀ a j, ¬ (a = 72 ∧ (j = 1 ∨ j = 2 ∨ j = 9 ∨ j = 12)) → ¬ (73 ≤ a ∧ a ≤ 75) → ¬ (a = 76 ∧ h ≤ j) → G' a j = G a j
section
variable {f n N w i hh : Nat} {S : Nat → Nat × Nat × Nat} {G G' G'' : xG_} {m : Nat × Nat} {B : Nat → Int} {t : tStr} {K K' : pCd} {st st' : List Int}
theorem xY.id : xY hh G G := fun _ _ _ _ _ => rfl
theorem xY.tr (h : xY hh G G') (h' : xY hh G' G'') : xY hh G G'' := fun a j p q r => by rw [h' a j p q r, h a j p q r]
theorem xY.mo {h2 : Nat} (h : xY h2 G G') (hl : hh ≤ h2) : xY hh G G' := fun a j p q r => h a j p q (by omega)
theorem xY.ev (h : xY hh G G') (hE : cEv S G B n t N w) : cEv S G' B n t N w := hE.ge (fun _ _ => rfl) (fun a j h1 h2 h3 => h a j (by omega) (by omega) (by omega))
theorem cYs.mv {i' : Nat} (h : cYs S G B n t N w K st i) (hx : xY hh G G') (h1 : cAt G' N w i') (h2 : i' ≤ N) (h5 : cCo G' K') (h6 : cSk G' st') : cYs S G' B n t N w K' st' i' :=
  ⟨hx.ev h.1, h1, h2, h5, h6⟩
theorem cYs.at {i' : Nat} (h : cYs S G B n t N w K st i) (h1 : cAt (xup2 G 72 1 ((min i' N : Nat) : Int)) N w i') (h2 : i' ≤ N) : xY hh G (xup2 G 72 1 ((min i' N : Nat) : Int)) ∧ cYs S (xup2 G 72 1 ((min i' N : Nat) : Int)) B n t N w K st i' := by
  have hx : xY hh G (xup2 G 72 1 ((min i' N : Nat) : Int)) := fun a j p q r => xup2_n (by omega)
  exact ⟨hx, h.mv hx h1 h2 (h.2.2.2.1.ge (xup2_n (by omega)) (fun j => xup2_n (by omega)) (fun j => xup2_n (by omega))) (h.2.2.2.2.ge (xup2_n (by omega)) (fun j => xup2_n (by omega)))⟩
/-- emit() -/
theorem ky_56 {a b : Int} (h : cYs S G B n t N w K st i) (hl : K.length < 3001) : ∃ G', c56 f 72 a b (S, G, m) = some (S, G', m) ∧ xY hh G G' ∧ (∀ j, G' 76 j = G 76 j) ∧ cYs S G' B n t N w (K ++ [(a, b)]) st i := by
  have hs := h.1.1
  have hp := h.1.2.1
  have h9 := h.2.2.2.1.1
  have e : xwr ((K.length : Int) + 1) = ((K.length + 1 : Nat) : Int) := by rw [xwr_g _ (by omega) (by omega)]; omega
  have hx : xY hh G (xup2 (xup2 (xup2 G 73 K.length a) 74 K.length b) 72 9 ((K.length + 1 : Nat) : Int)) := fun a j p q r => by rw [xup2_n (by omega), xup2_n (by omega), xup2_n (by omega)]
  refine ⟨xup2 (xup2 (xup2 G 73 K.length a) 74 K.length b) 72 9 ((K.length + 1 : Nat) : Int), ?_, hx, fun j => ?_, ?_⟩
  · unfold c56 c56_42
    simp (disch := omega) only [cq_gi, cq_gr, cq_a, cq_s, cq_p, cq_pr, cq_is, cq_ar, cq_ab, cq_ln, xq_nz, Option.bind_some, xup2_n, xup2_s, Int.toNat_natCast, Int.reduceToNat, if_pos, if_neg, true_and, and_true, and_self, eq_self, if_true, reduceIte, not_true_eq_false, not_false_eq_true, or_true, true_or, s72 hs, s73 hs, s74 hs, p72_7 hp, p72_8 hp, h9, e]
  · rw [xup2_n (by omega), xup2_n (by omega), xup2_n (by omega)]
  · refine h.mv hx ⟨?_, h.2.1.2⟩ h.2.2.1 ⟨?_, fun k hk => ?_⟩ (h.2.2.2.2.ge ?_ (fun j => ?_))
    · rw [xup2_n (by omega), xup2_n (by omega), xup2_n (by omega)]; exact h.2.1.1
    · rw [xup2_s, len1]
    · rw [len1] at hk
      rw [getD_1, xup2_n (by omega), xup2_n (by omega), xup2_n (by omega : ¬ (74 = 72 ∧ k = 9))]
      by_cases ck : k = K.length
      · rw [if_pos ck, ck, xup2_s, xup2_s]; exact ⟨rfl, rfl⟩
      · rw [if_neg ck, xup2_n (by omega), xup2_n (by omega), xup2_n (by omega)]
        exact h.2.2.2.1.2 k (by omega)
    · rw [xup2_n (by omega), xup2_n (by omega), xup2_n (by omega)]
    · rw [xup2_n (by omega), xup2_n (by omega), xup2_n (by omega)]
/-- push() -/
theorem ky_57 {x : Int} (h : cYs S G B n t N w K st i) (hl : st.length < 32) : ∃ G', c57 f 72 x (S, G, m) = some (S, G', m) ∧ xY hh G G' ∧ cYs S G' B n t N w K (st ++ [x]) i := by
  have hs := h.1.1
  have hp := h.1.2.1
  have h12 := h.2.2.2.2.1
  have e : xwr ((st.length : Int) + 1) = ((st.length + 1 : Nat) : Int) := by rw [xwr_g _ (by omega) (by omega)]; omega
  have hx : xY hh G (xup2 (xup2 G 75 st.length x) 72 12 ((st.length + 1 : Nat) : Int)) := fun a j p q r => by rw [xup2_n (by omega), xup2_n (by omega)]
  refine ⟨xup2 (xup2 G 75 st.length x) 72 12 ((st.length + 1 : Nat) : Int), ?_, hx, ?_⟩
  · unfold c57 c57_29
    simp (disch := omega) only [cq_gi, cq_gr, cq_a, cq_s, cq_p, cq_pr, cq_is, cq_ar, cq_ab, cq_ln, xq_nz, Option.bind_some, xup2_n, xup2_s, Int.toNat_natCast, Int.reduceToNat, if_pos, if_neg, true_and, and_true, and_self, eq_self, if_true, reduceIte, not_true_eq_false, not_false_eq_true, or_true, true_or, s72 hs, s75 hs, p72_10 hp, h12, e]
  · refine h.mv hx ⟨?_, h.2.1.2⟩ h.2.2.1 (h.2.2.2.1.ge ?_ (fun j => ?_) (fun j => ?_)) ⟨?_, fun k hk => ?_⟩
    · rw [xup2_n (by omega), xup2_n (by omega)]; exact h.2.1.1
    · rw [xup2_n (by omega), xup2_n (by omega)]
    · rw [xup2_n (by omega), xup2_n (by omega)]
    · rw [xup2_n (by omega), xup2_n (by omega)]
    · rw [xup2_s, len1]
    · rw [len1] at hk
      rw [getD_1, xup2_n (by omega)]
      by_cases ck : k = st.length
      · rw [if_pos ck, ck, xup2_s]
      · rw [if_neg ck, xup2_n (by omega)]
        exact h.2.2.2.2.2 k (by omega)
/-- height less -/
theorem cYs.pop {x : Int} (h : cYs S G B n t N w K (st ++ [x]) i) : xY hh G (xup2 G 72 12 (st.length : Int)) ∧ cYs S (xup2 G 72 12 (st.length : Int)) B n t N w K st i := by
  have hx : xY hh G (xup2 G 72 12 (st.length : Int)) := fun a j p q r => xup2_n (by omega)
  refine ⟨hx, h.mv hx ⟨?_, h.2.1.2⟩ h.2.2.1 (h.2.2.2.1.ge ?_ (fun j => ?_) (fun j => ?_)) ⟨xup2_s _ _ _ _, fun k hk => ?_⟩⟩
  · rw [xup2_n (by omega)]; exact h.2.1.1
  · rw [xup2_n (by omega)]
  · rw [xup2_n (by omega)]
  · rw [xup2_n (by omega)]
  · rw [xup2_n (by omega)]
    have := h.2.2.2.2.2 k (by rw [len1]; omega)
    rw [getD_1, if_neg (by omega)] at this
    exact this
theorem ky_58 (hf : 33 < f) (h : cYs S G B n t N w K st i) (hl : st.length ≤ 32) : c58 f 72 (S, G, m) = some ((nBr st : Int), (S, G, m)) := by
  have := k_58_4 (f := f) (m := m) h.1.1 h.1.2.1 h.2.2.2.2 hl st.length 0 0 f (by omega) (by omega) (Nat.le_refl _)
  rw [List.drop_zero, Nat.zero_add] at this
  exact this
/-- settleSigns() -/
theorem ky_59 {ls : Int} (hls : 0 < ls) (hb : st = [] ∨ ∃ z x, st = z ++ [x] ∧ cStr x < ls) : ∀ (Q : List Int) (G : xG_) (K : pCd) (fu : Nat), (∀ x, x ∈ Q → ls ≤ cStr x) → Q.length < fu → (st ++ Q.reverse).length ≤ 32 → K.length + Q.length ≤ 3001 → cYs S G B n t N w K (st ++ Q.reverse) i → ∃ G', c59_0 f fu 72 ls (S, G, m) = some (S, G', m) ∧ xY hh G G' ∧ (∀ j, G' 76 j = G 76 j) ∧ cYs S G' B n t N w (K ++ Q.map cZ) st i := by
  intro Q
  induction Q with
  | nil =>
    intro G K fu h1 h2 hl h3 h
    obtain ⟨fu, rfl⟩ : ∃ t, fu = t + 1 := ⟨fu - 1, by omega⟩
    rw [List.reverse_nil, List.append_nil] at h hl
    refine ⟨G, ?_, .id, fun _ => rfl, by rw [List.map_nil, List.append_nil]; exact h⟩
    have hs := h.1.1
    have hp := h.1.2.1
    have h12 := h.2.2.2.2.1
    show c59_0b (c59_0 f fu) f 72 _ _ = _
    unfold c59_0b c59_52
    rcases hb with q | ⟨z, x, q1, q2⟩
    · rw [q] at h12
      have h12' : G 72 12 = 0 := h12
      simp (disch := omega) only [cq_gi, cq_gr, cq_a, cq_s, cq_p, cq_pr, cq_is, cq_ar, cq_ab, cq_ln, xq_nz, Option.bind_some, xup2_n, xup2_s, Int.toNat_natCast, Int.reduceToNat, if_pos, if_neg, true_and, and_true, and_self, eq_self, if_true, reduceIte, not_true_eq_false, not_false_eq_true, or_true, true_or, s72 hs, h12']
    · have hv := h.2.2.2.2.2 z.length (by rw [q1, len1]; omega)
      rw [q1, len1] at h12
      rw [q1, len1] at hl
      rw [q1, getD_1, if_pos rfl] at hv
      have e1 : xwr (((z.length + 1 : Nat) : Int) - 1) = (z.length : Int) := by rw [xwr_g _ (by omega) (by omega)]; omega
      simp (disch := omega) only [cq_gi, cq_gr, cq_a, cq_s, cq_p, cq_pr, cq_is, cq_ar, cq_ab, cq_ln, xq_nz, Option.bind_some, xup2_n, xup2_s, Int.toNat_natCast, Int.reduceToNat, if_pos, if_neg, true_and, and_true, and_self, eq_self, if_true, reduceIte, not_true_eq_false, not_false_eq_true, or_true, true_or, s72 hs, s75 hs, p72_10 hp, h12, hv, k_55, e1]
  | cons s Q ih =>
    intro G K fu h1 h2 hl h3 h
    obtain ⟨fu, rfl⟩ : ∃ t, fu = t + 1 := ⟨fu - 1, by omega⟩
    rw [List.length_cons] at h2 h3
    rw [List.reverse_cons, ← List.append_assoc] at h hl
    rw [len1] at hl
    have hs := h.1.1
    have hp := h.1.2.1
    have h12 := h.2.2.2.2.1
    rw [len1] at h12
    have hv := h.2.2.2.2.2 (st ++ Q.reverse).length (by rw [len1]; omega)
    rw [getD_1, if_pos rfl] at hv
    have e1 : xwr ((((st ++ Q.reverse).length + 1 : Nat) : Int) - 1) = ((st ++ Q.reverse).length : Int) := by rw [xwr_g _ (by omega) (by omega)]; omega
    have hls' := h1 s (List.mem_cons_self ..)
    obtain ⟨x1, x2⟩ := h.pop (hh := hh)
    obtain ⟨G2, y1, y2, y4, y3⟩ := ky_56 (f := f) (m := m) (a := s) (b := 0) (hh := hh) x2 (by omega)
    obtain ⟨G3, z1, z2, z4, z3⟩ := ih G2 (K ++ [(s, 0)]) fu (fun x hx => h1 x (List.mem_cons_of_mem _ hx)) (by omega) (by omega) (by rw [len1]; omega) y3
    refine ⟨G3, ?_, (x1.tr y2).tr z2, fun j => ?_, ?_⟩
    · rw [← z1]
      show c59_0b (c59_0 f fu) f 72 _ _ = _
      unfold c59_0b
      simp (disch := omega) only [cq_gi, cq_gr, cq_a, cq_s, cq_p, cq_pr, cq_is, cq_ar, cq_ab, cq_ln, xq_nz, Option.bind_some, xup2_n, xup2_s, Int.toNat_natCast, Int.reduceToNat, if_pos, if_neg, true_and, and_true, and_self, eq_self, if_true, reduceIte, not_true_eq_false, not_false_eq_true, or_true, true_or, s72 hs, s75 hs, p72_10 hp, h12, hv, k_55, e1, y1]
    · rw [z4, y4, xup2_n (by omega)]
    · rw [List.append_assoc] at z3
      exact z3
/-- isIf() -/
theorem k_125 (hf : 100 < f) (hE : cEv S G B n t N w) (hA : cAt G N w i) (hif : ∀ i, i ≤ w → kK t i = 1 → (spl B (kS t i) (kE t i) 10 ↔ kC t i = 348)) : c125 f 65 ((min i N : Nat) : Int) (S, G, m) = some (if kK t i = 1 ∧ kC t i = 348 then 1 else 0, (S, G, m)) := by
  obtain ⟨k1, k2, k3, k4⟩ := hE.tk hA
  have hs := hE.1
  have hp := hE.2.1
  by_cases c : kK t i = 1
  · obtain ⟨l1, l2⟩ := hE.lt hA (by omega)
    have em : min i N = i := Nat.min_eq_left (by omega)
    rw [em] at k1 k2 k3 k4 ⊢
    obtain ⟨⟨_, _, a3⟩, _, _, a6, a7, _⟩ := hE.2.2.2.2.2.2 i l2
    obtain ⟨b, b1, b2⟩ := k_116 (f := f) (m := m) (x := 10) hs hp hE.2.2.1 hf (by decide) a6 a7
    have hq := hif i l2 c
    have e1 : c125 f 65 (i : Int) (S, G, m) = if b = 0 then some (0, (S, G, m)) else some (1, (S, G, m)) := by
      unfold c125 c125_35 c125_36
      simp (disch := omega) only [cq_gi, cq_gr, cq_a, cq_s, cq_p, cq_pr, cq_is, cq_ar, cq_ab, cq_ln, xq_nz, Option.bind_some, xup2_n, xup2_s, Int.toNat_natCast, Int.reduceToNat, if_pos, if_neg, true_and, and_true, and_self, eq_self, if_true, reduceIte, not_true_eq_false, not_false_eq_true, or_true, true_or, s65 hs, s67 hs, s68 hs, s69 hs, p65_3 hp, p65_4 hp, p65_5 hp, k1, k2, a3, c, b1]
    rw [e1]
    unfold isB at b2
    grind
  · rw [if_neg (fun q => c q.1)]
    unfold c125 c125_35 c125_36
    simp (disch := omega) only [cq_gi, cq_gr, cq_a, cq_s, cq_p, cq_pr, cq_is, cq_ar, cq_ab, cq_ln, xq_nz, Option.bind_some, xup2_n, xup2_s, Int.toNat_natCast, Int.reduceToNat, if_pos, if_neg, true_and, and_true, and_self, eq_self, if_true, reduceIte, not_true_eq_false, not_false_eq_true, or_true, true_or, s65 hs, s67 hs, p65_3 hp, k1, c]
end
