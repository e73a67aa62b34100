/-! THE CLASS reads EXPRESSIONS: VARIABLES, code, signs that wait -/
def cOp (x : Int × Int) : Int × Int := if x.1 = 3 then (x.2, 0) else x
/-- the code so far -/
def cCo (G : xG_) (K : pCd) : Prop := G 72 9 = (K.length : Int) ∧ ∀ k, k < K.length → G 73 k = (K.getD k (0, 0)).1 ∧ G 74 k = (K.getD k (0, 0)).2
/-- signs and brackets that wait -/
def cSk (G : xG_) (st : List Int) : Prop := G 72 12 = (st.length : Int) ∧ ∀ k, k < st.length → G 75 k = st.getD k 0
/-- the rule that is read -/
def cRu0 (S : Nat → Nat × Nat × Nat) (G : xG_) (u : Nat) : Prop := G 72 5 = (u : Int) ∧ 278 < u ∧ cRuS S u ∧ cRuP G u
def cXs (S : Nat → Nat × Nat × Nat) (G : xG_) (B : Nat → Int) (n : Nat) (t : tStr) (N w u : Nat) (V : List (Int × Nat)) (K : pCd) (st : List Int) (i : Nat) : Prop := cEv S G B n t N w ∧ cAt G N w i ∧ i ≤ N ∧ cRu0 S G u ∧ cVs G B n u V ∧ vVs t V ∧ cCo G K ∧ cSk G st
/-- without what waits -/
def cXr (S : Nat → Nat × Nat × Nat) (G : xG_) (B : Nat → Int) (n : Nat) (t : tStr) (N w u : Nat) (V : List (Int × Nat)) (K : pCd) (i : Nat) : Prop := cEv S G B n t N w ∧ cAt G N w i ∧ i ≤ N ∧ cRu0 S G u ∧ cVs G B n u V ∧ vVs t V ∧ cCo G K
def xF0 (u : Nat) (G G' : xG_) : Prop := ∀ a j, ¬ (a = 72 ∧ (j = 1 ∨ j = 2)) → a ≠ 77 → ¬ (a = u ∧ j = 6) → a ≠ u + 1 → G' a j = G a j
/-- what reading an EXPRESSION leaves as it was -/
def xF1 (u : Nat) (G G' : xG_) : Prop := ∀ a j, ¬ (a = 72 ∧ (j = 1 ∨ j = 2 ∨ j = 9 ∨ j = 12)) → ¬ (73 ≤ a ∧ a ≤ 77) → ¬ (a = u ∧ j = 6) → a ≠ u + 1 → G' a j = G a j
def cStr (x : Int) : Int := if x = 42 ∨ x = 47 ∨ x = 37 then 2 else if x = 43 ∨ x = 45 then 1 else 0
def nBr (st : List Int) : Nat := (st.filter (fun x => decide (cStr x = 0))).length
def cZ (x : Int) : Int × Int := (x, 0)
section
variable {f n N w i u : Nat} {S : Nat → Nat × Nat × Nat} {G G' G'' : xG_} {m : Nat × Nat} {B : Nat → Int} {t : tStr} {V V' : List (Int × Nat)} {K K' : pCd} {st st' : List Int}
theorem xF1.id : xF1 u G G := fun _ _ _ _ _ _ => rfl
theorem xF1.tr (h : xF1 u G G') (h' : xF1 u G' G'') : xF1 u G G'' := fun a j p q r s => by rw [h' a j p q r s, h a j p q r s]
theorem xF1.ev (h : xF1 u G G') (hu : 278 < u) (hE : cEv S G B n t N w) : cEv S G' B n t N w := hE.ge (fun _ _ => rfl) (fun a j h1 h2 h3 => h a j (by omega) (by omega) (by omega) (by omega))
theorem xF1.ru (h : xF1 u G G') (hr : cRu0 S G u) : cRu0 S G' u := by
  obtain ⟨h1, h2, h3, h4, h5, h6, h7, h8, h9, h10, h11, h12, h13⟩ := hr
  have z : ∀ j, j ≠ 6 → G' u j = G u j := fun j hj => h u j (by omega) (by omega) (by omega) (by omega)
  refine ⟨by rw [h 72 5 (by omega) (by omega) (by omega) (by omega)]; exact h1, h2, h3, ?_⟩
  unfold cRuP
  rw [z 7 (by decide), z 9 (by decide), z 10 (by decide), z 11 (by decide), z 12 (by decide), z 13 (by decide), z 14 (by decide), z 15 (by decide), z 18 (by decide), z 19 (by decide)]
  exact ⟨h4, h5, h6, h7, h8, h9, h10, h11, h12, h13⟩
theorem cXs.mv {i' : Nat} (h : cXs S G B n t N w u V K st i) (hx : xF1 u G G') (h1 : cAt G' N w i') (h2 : i' ≤ N) (h3 : cVs G' B n u V') (h4 : vVs t V') (h5 : cCo G' K') (h6 : cSk G' st') : cXs S G' B n t N w u V' K' st' i' :=
  ⟨hx.ev h.2.2.2.1.2.1 h.1, h1, h2, hx.ru h.2.2.2.1, h3, h4, h5, h6⟩
theorem cVs.ge (h : cVs G B n u V) (h1 : G' u 6 = G u 6) (h2 : ∀ j, G' 77 j = G 77 j) (h3 : ∀ j, G' (u + 1) j = G (u + 1) j) : cVs G' B n u V := by
  refine ⟨by rw [h1]; exact h.1, h.2.1, fun v hv => ?_⟩
  rw [h2, h3]
  exact h.2.2 v hv
theorem cCo.ge (h : cCo G K) (h1 : G' 72 9 = G 72 9) (h2 : ∀ j, G' 73 j = G 73 j) (h3 : ∀ j, G' 74 j = G 74 j) : cCo G' K := by
  refine ⟨by rw [h1]; exact h.1, fun v hv => ?_⟩
  rw [h2, h3]
  exact h.2 v hv
theorem cSk.ge (h : cSk G st) (h1 : G' 72 12 = G 72 12) (h2 : ∀ j, G' 75 j = G 75 j) : cSk G' st := by
  refine ⟨by rw [h1]; exact h.1, fun v hv => ?_⟩
  rw [h2]
  exact h.2 v hv
/-- the class is at another TOKEN -/
theorem cXs.at {i' : Nat} (h : cXs S G B n t N w u V K st i) (h1 : cAt (xup2 G 72 1 ((min i' N : Nat) : Int)) N w i') (h2 : i' ≤ N) : xF1 u G (xup2 G 72 1 ((min i' N : Nat) : Int)) ∧ cXs S (xup2 G 72 1 ((min i' N : Nat) : Int)) B n t N w u V K st i' := by
  have hu := h.2.2.2.1.2.1
  have hx : xF1 u G (xup2 G 72 1 ((min i' N : Nat) : Int)) := fun a j p q r s => xup2_n (by omega)
  exact ⟨hx, h.mv hx h1 h2 (h.2.2.2.2.1.ge (xup2_n (by omega)) (fun j => xup2_n (by omega)) (fun j => xup2_n (by omega))) h.2.2.2.2.2.1 (h.2.2.2.2.2.2.1.ge (xup2_n (by omega)) (fun j => xup2_n (by omega)) (fun j => xup2_n (by omega))) (h.2.2.2.2.2.2.2.ge (xup2_n (by omega)) (fun j => xup2_n (by omega)))⟩
theorem xF0.id : xF0 u G G := fun _ _ _ _ _ _ => rfl
theorem xF0.tr (h : xF0 u G G') (h' : xF0 u G' G'') : xF0 u G G'' := fun a j p q r s => by rw [h' a j p q r s, h a j p q r s]
theorem xF0.f1 (h : xF0 u G G') : xF1 u G G' := fun a j p q r s => h a j (by omega) (by omega) (by omega) (by omega)
theorem cXs.r (h : cXs S G B n t N w u V K st i) : cXr S G B n t N w u V K i := ⟨h.1, h.2.1, h.2.2.1, h.2.2.2.1, h.2.2.2.2.1, h.2.2.2.2.2.1, h.2.2.2.2.2.2.1⟩
theorem cXr.s (h : cXr S G B n t N w u V K i) (hs : cSk G st) : cXs S G B n t N w u V K st i := ⟨h.1, h.2.1, h.2.2.1, h.2.2.2.1, h.2.2.2.2.1, h.2.2.2.2.2.1, h.2.2.2.2.2.2, hs⟩
theorem cXr.mv {i' : Nat} (h : cXr S G B n t N w u V K i) (hx : xF1 u G G') (h1 : cAt G' N w i') (h2 : i' ≤ N) (h3 : cVs G' B n u V') (h4 : vVs t V') (h5 : cCo G' K') : cXr S G' B n t N w u V' K' i' :=
  ⟨hx.ev h.2.2.2.1.2.1 h.1, h1, h2, hx.ru h.2.2.2.1, h3, h4, h5⟩
theorem cXr.at {i' : Nat} (h : cXr S G B n t N w u V K i) (h1 : cAt (xup2 G 72 1 ((min i' N : Nat) : Int)) N w i') (h2 : i' ≤ N) : xF0 u G (xup2 G 72 1 ((min i' N : Nat) : Int)) ∧ cXr S (xup2 G 72 1 ((min i' N : Nat) : Int)) B n t N w u V K i' := by
  have hu := h.2.2.2.1.2.1
  have hx : xF0 u G (xup2 G 72 1 ((min i' N : Nat) : Int)) := fun a j p q r s => xup2_n (by omega)
  exact ⟨hx, h.mv hx.f1 h1 h2 (h.2.2.2.2.1.ge (xup2_n (by omega)) (fun j => xup2_n (by omega)) (fun j => xup2_n (by omega))) h.2.2.2.2.2.1 (h.2.2.2.2.2.2.ge (xup2_n (by omega)) (fun j => xup2_n (by omega)) (fun j => xup2_n (by omega)))⟩
theorem k_55 {x : Int} {T : xT_} : c55 f x T = some (cStr x, T) := by
  unfold c55 c55_18 c55_32 c55_37 cStr
  by_cases c1 : x = 42
  · rw [if_pos c1, if_pos (.inl c1)]
  · rw [if_neg c1]
    by_cases c2 : x = 47
    · rw [if_pos c2, if_pos (.inr (.inl c2))]
    · rw [if_neg c2]
      by_cases c3 : x = 37
      · rw [if_neg (fun q => q c3), if_pos (.inr (.inr c3))]
      · rw [if_pos c3, if_neg (show ¬ (x = 42 ∨ x = 47 ∨ x = 37) by omega)]
        by_cases c4 : x = 43
        · rw [if_pos c4, if_pos (.inl c4)]
        · rw [if_neg c4]
          by_cases c5 : x = 45
          · rw [if_neg (fun q => q c5), if_pos (.inr c5)]
          · rw [if_pos c5, if_neg (show ¬ (x = 43 ∨ x = 45) by omega)]
/-- emit() -/
theorem k_56 {a b : Int} (h : cXs S G B n t N w u V K st i) (hl : K.length < 3001) : ∃ G', c56 f 72 a b (S, G, m) = some (S, G', m) ∧ xF1 u G G' ∧ cXs S G' B n t N w u V (K ++ [(a, b)]) st i := by
  have hs := h.1.1
  have hp := h.1.2.1
  have hu := h.2.2.2.1.2.1
  have h9 := h.2.2.2.2.2.2.1.1
  have e : xwr ((K.length : Int) + 1) = ((K.length + 1 : Nat) : Int) := by rw [xwr_g _ (by omega) (by omega)]; omega
  refine ⟨xup2 (xup2 (xup2 G 73 K.length a) 74 K.length b) 72 9 ((K.length + 1 : Nat) : Int), ?_, ?_, ?_⟩
  · unfold c56 c56_42
    simp (disch := omega) only [cq_gi, cq_gr, cq_a, cq_s, cq_p, cq_pr, cq_is, cq_ar, cq_ab, cq_ln, xq_nz, Option.bind_some, xup2_n, xup2_s, Int.toNat_natCast, Int.reduceToNat, if_pos, if_neg, true_and, and_true, and_self, eq_self, if_true, reduceIte, not_true_eq_false, not_false_eq_true, or_true, true_or, s72 hs, s73 hs, s74 hs, p72_7 hp, p72_8 hp, h9, e]
  · intro a j p q r s
    rw [xup2_n (by omega), xup2_n (by omega), xup2_n (by omega)]
  · refine h.mv (fun a j p q r s => by rw [xup2_n (by omega), xup2_n (by omega), xup2_n (by omega)]) ⟨?_, h.2.1.2⟩ h.2.2.1 (h.2.2.2.2.1.ge ?_ (fun j => ?_) (fun j => ?_)) h.2.2.2.2.2.1 ⟨?_, fun k hk => ?_⟩ (h.2.2.2.2.2.2.2.ge ?_ (fun j => ?_))
    · rw [xup2_n (by omega), xup2_n (by omega), xup2_n (by omega)]; exact h.2.1.1
    · rw [xup2_n (by omega), xup2_n (by omega), xup2_n (by omega)]
    · rw [xup2_n (by omega), xup2_n (by omega), xup2_n (by omega)]
    · rw [xup2_n (by omega), xup2_n (by omega), xup2_n (by omega)]
    · rw [xup2_s, len1]
    · rw [len1] at hk
      rw [getD_1, xup2_n (by omega), xup2_n (by omega), xup2_n (by omega : ¬ (74 = 72 ∧ k = 9))]
      by_cases ck : k = K.length
      · rw [if_pos ck, ck, xup2_s, xup2_s]; exact ⟨rfl, rfl⟩
      · rw [if_neg ck, xup2_n (by omega), xup2_n (by omega), xup2_n (by omega)]
        exact h.2.2.2.2.2.2.1.2 k (by omega)
    · rw [xup2_n (by omega), xup2_n (by omega), xup2_n (by omega)]
    · rw [xup2_n (by omega), xup2_n (by omega), xup2_n (by omega)]
/-- push() -/
theorem k_57 {x : Int} (h : cXs S G B n t N w u V K st i) (hl : st.length < 32) : ∃ G', c57 f 72 x (S, G, m) = some (S, G', m) ∧ xF1 u G G' ∧ cXs S G' B n t N w u V K (st ++ [x]) i := by
  have hs := h.1.1
  have hp := h.1.2.1
  have hu := h.2.2.2.1.2.1
  have h12 := h.2.2.2.2.2.2.2.1
  have e : xwr ((st.length : Int) + 1) = ((st.length + 1 : Nat) : Int) := by rw [xwr_g _ (by omega) (by omega)]; omega
  refine ⟨xup2 (xup2 G 75 st.length x) 72 12 ((st.length + 1 : Nat) : Int), ?_, ?_, ?_⟩
  · unfold c57 c57_29
    simp (disch := omega) only [cq_gi, cq_gr, cq_a, cq_s, cq_p, cq_pr, cq_is, cq_ar, cq_ab, cq_ln, xq_nz, Option.bind_some, xup2_n, xup2_s, Int.toNat_natCast, Int.reduceToNat, if_pos, if_neg, true_and, and_true, and_self, eq_self, if_true, reduceIte, not_true_eq_false, not_false_eq_true, or_true, true_or, s72 hs, s75 hs, p72_10 hp, h12, e]
  · intro a j p q r s
    rw [xup2_n (by omega), xup2_n (by omega)]
  · refine h.mv (fun a j p q r s => by rw [xup2_n (by omega), xup2_n (by omega)]) ⟨?_, h.2.1.2⟩ h.2.2.1 (h.2.2.2.2.1.ge ?_ (fun j => ?_) (fun j => ?_)) h.2.2.2.2.2.1 (h.2.2.2.2.2.2.1.ge ?_ (fun j => ?_) (fun j => ?_)) ⟨?_, fun k hk => ?_⟩
    · rw [xup2_n (by omega), xup2_n (by omega)]; exact h.2.1.1
    · rw [xup2_n (by omega), xup2_n (by omega)]
    · rw [xup2_n (by omega), xup2_n (by omega)]
    · rw [xup2_n (by omega), xup2_n (by omega)]
    · rw [xup2_n (by omega), xup2_n (by omega)]
    · rw [xup2_n (by omega), xup2_n (by omega)]
    · rw [xup2_n (by omega), xup2_n (by omega)]
    · rw [xup2_s, len1]
    · rw [len1] at hk
      rw [getD_1, xup2_n (by omega)]
      by_cases ck : k = st.length
      · rw [if_pos ck, ck, xup2_s]
      · rw [if_neg ck, xup2_n (by omega)]
        exact h.2.2.2.2.2.2.2.2 k (by omega)
/-- height less -/
theorem cXs.pop {x : Int} (h : cXs S G B n t N w u V K (st ++ [x]) i) : xF1 u G (xup2 G 72 12 (st.length : Int)) ∧ cXs S (xup2 G 72 12 (st.length : Int)) B n t N w u V K st i := by
  have hu := h.2.2.2.1.2.1
  have hx : xF1 u G (xup2 G 72 12 (st.length : Int)) := fun a j p q r s => xup2_n (by omega)
  refine ⟨hx, h.mv hx ⟨?_, h.2.1.2⟩ h.2.2.1 (h.2.2.2.2.1.ge ?_ (fun j => ?_) (fun j => ?_)) h.2.2.2.2.2.1 (h.2.2.2.2.2.2.1.ge ?_ (fun j => ?_) (fun j => ?_)) ⟨xup2_s _ _ _ _, fun k hk => ?_⟩⟩
  · rw [xup2_n (by omega)]; exact h.2.1.1
  · rw [xup2_n (by omega)]
  · rw [xup2_n (by omega)]
  · rw [xup2_n (by omega)]
  · rw [xup2_n (by omega)]
  · rw [xup2_n (by omega)]
  · rw [xup2_n (by omega)]
  · rw [xup2_n (by omega)]
    have := h.2.2.2.2.2.2.2.2 k (by rw [len1]; omega)
    rw [getD_1, if_neg (by omega)] at this
    exact this
theorem nBr_1 (x : Int) : nBr (st ++ [x]) = nBr st + if cStr x = 0 then 1 else 0 := by
  unfold nBr
  rw [List.filter_append, List.length_append]
  by_cases c : cStr x = 0
  · rw [if_pos c, List.filter_cons_of_pos (by simp [c])]; rfl
  · rw [if_neg c, List.filter_cons_of_neg (by simp [c])]; rfl
/-- countBrackets() -/
theorem k_58_4 (hs : cSs S) (hp : cPs G) (h : cSk G st) (hl : st.length ≤ 32) : ∀ (d k a fu : Nat), k + d = st.length → d < fu → a ≤ k → c58_4 f fu 72 (a : Int) (k : Int) (S, G, m) = some (((a + nBr (st.drop k) : Nat) : Int), (S, G, m)) := by
  intro d
  induction d with
  | zero =>
    intro k a fu h1 h2 h3
    obtain ⟨fu, rfl⟩ : ∃ t, fu = t + 1 := ⟨fu - 1, by omega⟩
    rw [List.drop_of_length_le (by omega)]
    show c58_4b (c58_4 f fu) f 72 _ _ _ = _
    have h12 := h.1
    unfold c58_4b
    simp (disch := omega) only [cq_gi, cq_gr, cq_a, cq_s, cq_p, cq_pr, cq_is, cq_ar, cq_ab, cq_ln, xq_nz, Option.bind_some, xup2_n, xup2_s, Int.toNat_natCast, Int.reduceToNat, if_pos, if_neg, true_and, and_true, and_self, eq_self, if_true, reduceIte, not_true_eq_false, not_false_eq_true, or_true, true_or, s72 hs, h12]
    rfl
  | succ d ih =>
    intro k a fu h1 h2 h3
    obtain ⟨fu, rfl⟩ : ∃ t, fu = t + 1 := ⟨fu - 1, by omega⟩
    have h12 := h.1
    have hv := h.2 k (by omega)
    have ek : xwr ((k : Int) + 1) = ((k + 1 : Nat) : Int) := by rw [xwr_g _ (by omega) (by omega)]; omega
    have ea : xwr ((a : Int) + 1) = ((a + 1 : Nat) : Int) := by rw [xwr_g _ (by omega) (by omega)]; omega
    have ea0 : xwr ((a : Int) + 0) = (a : Int) := by rw [xwr_g _ (by omega) (by omega)]; omega
    have e1 : c58_4 f (fu + 1) 72 (a : Int) (k : Int) (S, G, m) = if ¬ cStr (st.getD k 0) = 0 then c58_4 f fu 72 (a : Int) ((k + 1 : Nat) : Int) (S, G, m) else c58_4 f fu 72 ((a + 1 : Nat) : Int) ((k + 1 : Nat) : Int) (S, G, m) := by
      show c58_4b (c58_4 f fu) f 72 _ _ _ = _
      unfold c58_4b c58_30
      simp (disch := omega) only [cq_gi, cq_gr, cq_a, cq_s, cq_p, cq_pr, cq_is, cq_ar, cq_ab, cq_ln, xq_nz, Option.bind_some, xup2_n, xup2_s, Int.toNat_natCast, Int.reduceToNat, if_pos, if_neg, true_and, and_true, and_self, eq_self, if_true, reduceIte, not_true_eq_false, not_false_eq_true, or_true, true_or, s72 hs, s75 hs, p72_10 hp, h12, hv, k_55, ek, ea, ea0]
    have ed : nBr (st.drop k) = nBr (st.drop (k + 1)) + if cStr (st.getD k 0) = 0 then 1 else 0 := by
      rw [List.drop_eq_getElem_cons (by omega : k < st.length), getD_e (by omega : k < st.length)]
      unfold nBr
      by_cases c : cStr st[k] = 0
      · rw [if_pos c, List.filter_cons_of_pos (by simp [c])]; rfl
      · rw [if_neg c, List.filter_cons_of_neg (by simp [c])]; rfl
    rw [e1, ed]
    by_cases c : cStr (st.getD k 0) = 0
    · rw [if_neg (fun q => q c), if_pos c, ih (k + 1) (a + 1) fu (by omega) (by omega) (by omega)]
      have : a + 1 + nBr (st.drop (k + 1)) = a + (nBr (st.drop (k + 1)) + 1) := by omega
      rw [this]
    · rw [if_pos c, if_neg c, ih (k + 1) a fu (by omega) (by omega) (by omega)]
      rfl
theorem k_58 (hf : 33 < f) (h : cXs S G B n t N w u V K st i) (hl : st.length ≤ 32) : c58 f 72 (S, G, m) = some ((nBr st : Int), (S, G, m)) := by
  have := k_58_4 (f := f) (m := m) h.1.1 h.1.2.1 h.2.2.2.2.2.2.2 hl st.length 0 0 f (by omega) (by omega) (Nat.le_refl _)
  rw [List.drop_zero, Nat.zero_add] at this
  exact this
/-- settleSigns() -/
theorem k_59_0 {ls : Int} (hls : 0 < ls) (hb : st = [] ∨ ∃ z x, st = z ++ [x] ∧ cStr x < ls) : ∀ (Q : List Int) (G : xG_) (K : pCd) (fu : Nat), (∀ x, x ∈ Q → ls ≤ cStr x) → Q.length < fu → (st ++ Q.reverse).length ≤ 32 → K.length + Q.length ≤ 3001 → cXs S G B n t N w u V K (st ++ Q.reverse) i → ∃ G', c59_0 f fu 72 ls (S, G, m) = some (S, G', m) ∧ xF1 u G G' ∧ cXs S G' B n t N w u V (K ++ Q.map cZ) st i := by
  intro Q
  induction Q with
  | nil =>
    intro G K fu h1 h2 hl h3 h
    obtain ⟨fu, rfl⟩ : ∃ t, fu = t + 1 := ⟨fu - 1, by omega⟩
    rw [List.reverse_nil, List.append_nil] at h hl
    refine ⟨G, ?_, .id, by rw [List.map_nil, List.append_nil]; exact h⟩
    have hs := h.1.1
    have hp := h.1.2.1
    have h12 := h.2.2.2.2.2.2.2.1
    show c59_0b (c59_0 f fu) f 72 _ _ = _
    unfold c59_0b c59_52
    rcases hb with q | ⟨z, x, q1, q2⟩
    · rw [q] at h12
      have h12' : G 72 12 = 0 := h12
      simp (disch := omega) only [cq_gi, cq_gr, cq_a, cq_s, cq_p, cq_pr, cq_is, cq_ar, cq_ab, cq_ln, xq_nz, Option.bind_some, xup2_n, xup2_s, Int.toNat_natCast, Int.reduceToNat, if_pos, if_neg, true_and, and_true, and_self, eq_self, if_true, reduceIte, not_true_eq_false, not_false_eq_true, or_true, true_or, s72 hs, h12']
    · have hv := h.2.2.2.2.2.2.2.2 z.length (by rw [q1, len1]; omega)
      rw [q1, len1] at h12
      rw [q1, len1] at hl
      rw [q1, getD_1, if_pos rfl] at hv
      have e1 : xwr (((z.length + 1 : Nat) : Int) - 1) = (z.length : Int) := by rw [xwr_g _ (by omega) (by omega)]; omega
      simp (disch := omega) only [cq_gi, cq_gr, cq_a, cq_s, cq_p, cq_pr, cq_is, cq_ar, cq_ab, cq_ln, xq_nz, Option.bind_some, xup2_n, xup2_s, Int.toNat_natCast, Int.reduceToNat, if_pos, if_neg, true_and, and_true, and_self, eq_self, if_true, reduceIte, not_true_eq_false, not_false_eq_true, or_true, true_or, s72 hs, s75 hs, p72_10 hp, h12, hv, k_55, e1]
  | cons s Q ih =>
    intro G K fu h1 h2 hl h3 h
    obtain ⟨fu, rfl⟩ : ∃ t, fu = t + 1 := ⟨fu - 1, by omega⟩
    rw [List.length_cons] at h2 h3
    rw [List.reverse_cons, ← List.append_assoc] at h hl
    rw [len1] at hl
    have hs := h.1.1
    have hp := h.1.2.1
    have h12 := h.2.2.2.2.2.2.2.1
    rw [len1] at h12
    have hv := h.2.2.2.2.2.2.2.2 (st ++ Q.reverse).length (by rw [len1]; omega)
    rw [getD_1, if_pos rfl] at hv
    have e1 : xwr ((((st ++ Q.reverse).length + 1 : Nat) : Int) - 1) = ((st ++ Q.reverse).length : Int) := by rw [xwr_g _ (by omega) (by omega)]; omega
    have hls' := h1 s (List.mem_cons_self ..)
    obtain ⟨x1, x2⟩ := h.pop
    obtain ⟨G2, y1, y2, y3⟩ := k_56 (f := f) (m := m) (a := s) (b := 0) x2 (by omega)
    obtain ⟨G3, z1, z2, z3⟩ := ih G2 (K ++ [(s, 0)]) fu (fun x hx => h1 x (List.mem_cons_of_mem _ hx)) (by omega) (by omega) (by rw [len1]; omega) y3
    refine ⟨G3, ?_, (x1.tr y2).tr z2, ?_⟩
    · rw [← z1]
      show c59_0b (c59_0 f fu) f 72 _ _ = _
      unfold c59_0b
      simp (disch := omega) only [cq_gi, cq_gr, cq_a, cq_s, cq_p, cq_pr, cq_is, cq_ar, cq_ab, cq_ln, xq_nz, Option.bind_some, xup2_n, xup2_s, Int.toNat_natCast, Int.reduceToNat, if_pos, if_neg, true_and, and_true, and_self, eq_self, if_true, reduceIte, not_true_eq_false, not_false_eq_true, or_true, true_or, s72 hs, s75 hs, p72_10 hp, h12, hv, k_55, e1, y1]
    · rw [List.append_assoc] at z3
      exact z3
/-- readVariable() -/
theorem k_49_74 {x1 : Int} (hv : vIn t B n) (h : cXr S G B n t N w u V K i) (h2 : kK t i = 2) (h8 : kE t i - kS t i ≤ 8) : ∀ (d k fu : Nat), k + d = V.length → d < fu → (∀ j, j < k → (V.getD j (0, 0)).1 ≠ kC t i) → c49_74 f fu 72 x1 (cco B n (kS t i)) (k : Int) (S, G, m) = c49_104 f 72 x1 (cco B n (kS t i)) (if pVix V (kC t i) = -1 then (V.length : Int) else pVix V (kC t i)) (S, G, m) := by
  have hs := h.1.1
  have hp := h.1.2.1
  obtain ⟨u1, u2, ⟨us, _⟩, ⟨up, _⟩⟩ := h.2.2.2.1
  obtain ⟨v1, v2, v3⟩ := h.2.2.2.2.1
  have hvv := h.2.2.2.2.2.1
  intro d
  induction d with
  | zero =>
    intro k fu h1 h2' h3
    obtain ⟨fu, rfl⟩ : ∃ t, fu = t + 1 := ⟨fu - 1, by omega⟩
    rw [pVix_no (fun j hj => h3 j (by omega)), if_pos rfl]
    have hk : (V.length : Int) = (k : Int) := by omega
    rw [hk] at v1 ⊢
    show c49_74b (c49_74 f fu) f 72 _ _ _ _ = _
    unfold c49_74b
    simp (disch := omega) only [cq_gi, cq_gr, cq_a, cq_s, cq_p, cq_pr, cq_is, cq_ar, cq_ab, cq_ln, xq_nz, Option.bind_some, xup2_n, xup2_s, Int.toNat_natCast, Int.reduceToNat, if_pos, if_neg, true_and, and_true, and_self, eq_self, if_true, reduceIte, not_true_eq_false, not_false_eq_true, or_true, true_or, s72 hs, us, u1, v1]
  | succ d ih =>
    intro k fu h1 h2' h3
    obtain ⟨fu, rfl⟩ : ∃ t, fu = t + 1 := ⟨fu - 1, by omega⟩
    have e77 := (v3 k (by omega)).1
    have ek : xwr ((k : Int) + 1) = ((k + 1 : Nat) : Int) := by rw [xwr_g _ (by omega) (by omega)]; omega
    obtain ⟨j, j1, j2, j3⟩ := hvv k (by omega)
    rw [j3] at e77
    have hiff : cco B n (kS t j) = cco B n (kS t i) ↔ (V.getD k (0, 0)).1 = kC t i := by rw [j3]; exact hv j i j1 h2 j2 h8
    have e1 : c49_74 f (fu + 1) 72 x1 (cco B n (kS t i)) (k : Int) (S, G, m) = if cco B n (kS t j) = cco B n (kS t i) then c49_104 f 72 x1 (cco B n (kS t i)) (k : Int) (S, G, m) else c49_74 f fu 72 x1 (cco B n (kS t i)) ((k + 1 : Nat) : Int) (S, G, m) := by
      show c49_74b (c49_74 f fu) f 72 _ _ _ _ = _
      unfold c49_74b
      simp (disch := omega) only [cq_gi, cq_gr, cq_a, cq_s, cq_p, cq_pr, cq_is, cq_ar, cq_ab, cq_ln, xq_nz, Option.bind_some, xup2_n, xup2_s, Int.toNat_natCast, Int.reduceToNat, if_pos, if_neg, true_and, and_true, and_self, eq_self, if_true, reduceIte, not_true_eq_false, not_false_eq_true, or_true, true_or, s72 hs, s77 hs, p72_13 hp, us, u1, v1, e77, ek]
    rw [e1]
    by_cases c : (V.getD k (0, 0)).1 = kC t i
    · rw [if_pos (hiff.mpr c), pVix_yes (by omega) h3 c, if_neg (by omega)]
    · rw [if_neg (fun q => c (hiff.mp q))]
      refine ih (k + 1) fu (by omega) (by omega) (fun j hj => ?_)
      by_cases cj : j = k
      · rw [cj]; exact c
      · exact h3 j (by omega)
theorem k_49r (hf : 20 < f) (hv : vIn t B n) (h : cXr S G B n t N w u V K i) : pok (pVar t V i) (fun x => c49 f 72 (S, G, m) = some (.inl 0, cWr S G m (x : Int))) (fun r => ∃ G', c49 f 72 (S, G, m) = some (.inr r.1, (S, G', m)) ∧ xF0 u G G' ∧ cXr S G' B n t N w u r.2.1 K r.2.2) := by
  have hE := h.1
  have hA := h.2.1
  obtain ⟨k1, k2, k3, k4⟩ := hE.tk hA
  have hs := hE.1
  have hp := hE.2.1
  have hn := hE.2.2.1.2.1
  have hru := h.2.2.2.1
  obtain ⟨u1, u2, ⟨us, us1, _⟩, ⟨up, _⟩⟩ := hru
  obtain ⟨v1, v2, v3⟩ := h.2.2.2.2.1
  have e1 : c49 f 72 (S, G, m) = if kK t i = 2 then c49_34 f 72 (kS t i : Int) (S, G, m) else some (.inl 0, cWr S G m (kS t i : Int)) := by
    unfold c49
    simp (disch := omega) only [cq_gi, cq_gr, cq_a, cq_s, cq_p, cq_pr, cq_is, cq_ar, cq_ab, cq_ln, xq_nz, Option.bind_some, xup2_n, xup2_s, Int.toNat_natCast, Int.reduceToNat, if_pos, if_neg, true_and, and_true, and_self, eq_self, if_true, reduceIte, not_true_eq_false, not_false_eq_true, or_true, true_or, s72 hs, s65 hs, s67 hs, s68 hs, p72_0 hp, p65_3 hp, p65_4 hp, k1, k2, k3, k_36 hs, cth]
  unfold pVar
  by_cases c1 : kK t i = 2
  · rw [if_pos c1] at e1
    rw [if_neg (fun q => q c1)]
    obtain ⟨l1, l2⟩ := hE.lt hA (by omega)
    have em : min i N = i := Nat.min_eq_left (by omega)
    rw [em] at k1 k2 k3 k4
    have e124 := k_124 (f := f) (m := m) hE l2 k4
    obtain ⟨⟨_, _, a3⟩, _, _, a6, a7, _, a8⟩ := hE.2.2.2.2.2.2 i l2
    have e70 := a8 c1
    have e2 : xwr ((kS t i : Int) + 8) = ((kS t i + 8 : Nat) : Int) := by rw [xwr_g _ (by omega) (by omega)]; omega
    by_cases c2 : 8 < kE t i - kS t i
    · rw [if_pos c2]
      show c49 f 72 (S, G, m) = _
      rw [e1]
      unfold c49_34
      simp (disch := omega) only [cq_gi, cq_gr, cq_a, cq_s, cq_p, cq_pr, cq_is, cq_ar, cq_ab, cq_ln, xq_nz, Option.bind_some, xup2_n, xup2_s, Int.toNat_natCast, Int.reduceToNat, if_pos, if_neg, true_and, and_true, and_self, eq_self, if_true, reduceIte, not_true_eq_false, not_false_eq_true, or_true, true_or, s72 hs, s65 hs, p72_0 hp, k3, e124, e2, k_36 hs, cth]
    · rw [if_neg c2]
      have e3 : c49 f 72 (S, G, m) = c49_104 f 72 (kS t i : Int) (cco B n (kS t i)) (if pVix V (kC t i) = -1 then (V.length : Int) else pVix V (kC t i)) (S, G, m) := by
        rw [e1, ← k_49_74 hv h c1 (by omega) V.length 0 f (by omega) (by omega) (fun j hj => absurd hj (Nat.not_lt_zero j))]
        unfold c49_34 c49_58
        simp (disch := omega) only [cq_gi, cq_gr, cq_a, cq_s, cq_p, cq_pr, cq_is, cq_ar, cq_ab, cq_ln, xq_nz, Option.bind_some, xup2_n, xup2_s, Int.toNat_natCast, Int.reduceToNat, if_pos, if_neg, true_and, and_true, and_self, eq_self, if_true, reduceIte, not_true_eq_false, not_false_eq_true, or_true, true_or, s72 hs, s65 hs, s70 hs, p72_0 hp, p65_6 hp, k3, e124, e70]
        rfl
      by_cases c3 : pVix V (kC t i) = -1
      · rw [if_pos c3] at e3 ⊢
        by_cases c4 : V.length = 8
        · rw [if_pos c4]
          show c49 f 72 (S, G, m) = _
          rw [e3, c4]
          rw [c4] at v1
          unfold c49_104
          simp (disch := omega) only [cq_gi, cq_gr, cq_a, cq_s, cq_p, cq_pr, cq_is, cq_ar, cq_ab, cq_ln, xq_nz, Option.bind_some, xup2_n, xup2_s, Int.toNat_natCast, Int.reduceToNat, if_pos, if_neg, true_and, and_true, and_self, eq_self, if_true, reduceIte, not_true_eq_false, not_false_eq_true, or_true, true_or, s72 hs, us, u1, v1, k_36 hs, cth]
        · rw [if_neg c4]
          have ev : xwr ((V.length : Int) + 1) = ((V.length + 1 : Nat) : Int) := by rw [xwr_g _ (by omega) (by omega)]; omega
          have hx : xF0 u G (xup2 (xup2 (xup2 G 77 V.length (cco B n (kS t i))) (u + 1) V.length (kS t i : Int)) u 6 ((V.length + 1 : Nat) : Int)) := fun a j p q r s => by rw [xup2_n (by omega), xup2_n (by omega), xup2_n (by omega)]
          have hX : cXr S (xup2 (xup2 (xup2 G 77 V.length (cco B n (kS t i))) (u + 1) V.length (kS t i : Int)) u 6 ((V.length + 1 : Nat) : Int)) B n t N w u (V ++ [(kC t i, kS t i)]) K i := by
            refine h.mv hx.f1 ⟨?_, hA.2⟩ h.2.2.1 ⟨?_, ?_, fun v hv => ?_⟩ (fun v hv => ?_) (h.2.2.2.2.2.2.ge ?_ (fun j => ?_) (fun j => ?_))
            · rw [xup2_n (by omega), xup2_n (by omega), xup2_n (by omega)]; exact hA.1
            · rw [xup2_s, len1]
            · rw [len1]; omega
            · rw [len1] at hv
              rw [getD_1, xup2_n (by omega), xup2_n (by omega), xup2_n (by omega : ¬ (u + 1 = u ∧ v = 6))]
              by_cases ck : v = V.length
              · rw [if_pos ck, ck, xup2_s, xup2_s]; exact ⟨rfl, rfl⟩
              · rw [if_neg ck, xup2_n (by omega), xup2_n (by omega), xup2_n (by omega)]
                exact v3 v (by omega)
            · rw [len1] at hv
              rw [getD_1]
              by_cases ck : v = V.length
              · rw [if_pos ck]; exact ⟨i, c1, by omega, rfl⟩
              · rw [if_neg ck]; exact h.2.2.2.2.2.1 v (by omega)
            · rw [xup2_n (by omega), xup2_n (by omega), xup2_n (by omega)]
            · rw [xup2_n (by omega), xup2_n (by omega), xup2_n (by omega)]
            · rw [xup2_n (by omega), xup2_n (by omega), xup2_n (by omega)]
          obtain ⟨b1, b2⟩ := k_37 (f := f) (m := m) hX.1 hX.2.1 (by omega)
          obtain ⟨d1, d2⟩ := hX.at b2 (by omega)
          refine ⟨_, ?_, hx.tr d1, d2⟩
          rw [e3]
          unfold c49_104 c49_128 c49_160
          simp (disch := omega) only [cq_gi, cq_gr, cq_a, cq_s, cq_p, cq_pr, cq_is, cq_ar, cq_ab, cq_ln, xq_nz, Option.bind_some, xup2_n, xup2_s, Int.toNat_natCast, Int.reduceToNat, if_pos, if_neg, true_and, and_true, and_self, eq_self, if_true, reduceIte, not_true_eq_false, not_false_eq_true, or_true, true_or, s72 hs, s77 hs, us, us1, u1, up, p72_13 hp, v1, ev, b1]
      · rw [if_neg c3] at e3 ⊢
        obtain ⟨b1, b2⟩ := k_37 (f := f) (m := m) hE hA (by omega)
        obtain ⟨d1, d2⟩ := h.at b2 (by omega)
        refine ⟨_, ?_, d1, d2⟩
        rw [e3]
        have hr := pVix_in V (kC t i)
        unfold c49_104 c49_160
        simp (disch := omega) only [cq_gi, cq_gr, cq_a, cq_s, cq_p, cq_pr, cq_is, cq_ar, cq_ab, cq_ln, xq_nz, Option.bind_some, xup2_n, xup2_s, Int.toNat_natCast, Int.reduceToNat, if_pos, if_neg, true_and, and_true, and_self, eq_self, if_true, reduceIte, not_true_eq_false, not_false_eq_true, or_true, true_or, s72 hs, us, u1, v1, b1]
  · rw [if_neg c1] at e1
    rw [if_pos c1]
    exact e1
theorem k_49 (hf : 20 < f) (hv : vIn t B n) (h : cXs S G B n t N w u V K st i) : pok (pVar t V i) (fun x => c49 f 72 (S, G, m) = some (.inl 0, cWr S G m (x : Int))) (fun r => ∃ G', c49 f 72 (S, G, m) = some (.inr r.1, (S, G', m)) ∧ xF1 u G G' ∧ cXs S G' B n t N w u r.2.1 K st r.2.2) := by
  have p := k_49r (m := m) hf hv h.r
  have hu := h.2.2.2.1.2.1
  cases hp : pVar t V i with
  | inl x => rw [hp] at p; exact p
  | inr r =>
    rw [hp] at p
    obtain ⟨G1, a1, a2, a3⟩ := p
    exact ⟨G1, a1, a2.f1, a3.s (h.2.2.2.2.2.2.2.ge (a2 _ _ (by omega) (by omega) (by omega) (by omega)) (fun j => a2 _ _ (by omega) (by omega) (by omega) (by omega)))⟩
end
