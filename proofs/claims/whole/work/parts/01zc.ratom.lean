/-! The reference reads ATOMS -/
def xfa (o r v0 x m0 : Nat) (G G' : xG_) : Prop := ∀ a j, ¬ ((a = 0 ∧ j = 21) ∨ (a = o ∧ j = 14) ∨ (o + 9 ≤ a ∧ a ≤ o + 12 ∧ m0 ≤ j) ∨ (a = o + 20 ∧ j = r) ∨ ((a = o + 23 ∨ a = o + 24) ∧ 8 * r + v0 ≤ j) ∨ (a = o + 27 ∧ j = x) ∨ ((a = o + 31 ∨ a = o + 32) ∧ 4 * x ≤ j)) → G' a j = G a j
theorem xfa.fl {o r v0 x m0 c0 n0 : Nat} {G G1 : xG_} (h : xfa o r v0 x m0 G G1) : xfl o r x v0 c0 m0 n0 G G1 := fun a j hj => h a j (by omega)
theorem xfa.tr {o r v0 x m0 v1 m1 : Nat} {G G1 G2 : xG_} (h : xfa o r v0 x m0 G G1) (h1 : xfa o r v1 x m1 G1 G2) (hv : v0 ≤ v1) (hm : m0 ≤ m1) : xfa o r v0 x m0 G G2 := by
  intro a j hj
  rw [h1 a j (by omega), h a j hj]
theorem xfa.up {o r v0 x m0 a j : Nat} {v : Int} (G : xG_) (h : (a = 0 ∧ j = 21) ∨ (a = o ∧ j = 14) ∨ (o + 9 ≤ a ∧ a ≤ o + 12 ∧ m0 ≤ j) ∨ (a = o + 20 ∧ j = r) ∨ ((a = o + 23 ∨ a = o + 24) ∧ 8 * r + v0 ≤ j) ∨ (a = o + 27 ∧ j = x) ∨ ((a = o + 31 ∨ a = o + 32) ∧ 4 * x ≤ j)) : xfa o r v0 x m0 G (xup2 G a j v) := by
  intro a' j' hj
  exact xup2_n (fun e => hj (by rw [e.1, e.2]; exact h))
theorem xft.fa {o r v0 t0 x m0 : Nat} {G G1 : xG_} (h : xft o r v0 t0 G G1) (hx : 4 * x ≤ t0) : xfa o r v0 x m0 G G1 := fun a j hj => h a j (by omega)
theorem rMen_fa {o k r x v0 : Nat} {w y z u : Int} (G : xG_) : xfa o r v0 x k G (rMen G o k w y z u) := by
  intro a j hj
  unfold rMen
  split
  · rfl
  · rw [xup2_n (by omega), xup2_n (by omega), xup2_n (by omega), xup2_n (by omega), xup2_n (by omega)]
theorem pTerm_le {t : tStr} {V : List (Int × Nat)} {i : Nat} {y : (Int × Int) × List (Int × Nat) × Nat} (h : pTerm t V i = .inr y) : V.length ≤ y.2.1.length ∧ (V.length ≤ 8 → y.2.1.length ≤ 8) ∧ i < y.2.2 := by
  unfold pTerm at h
  split at h
  · obtain ⟨a, h1, h2⟩ := pbind_inr h
    have := pVar_le h1
    cases h2
    simp only
    omega
  · split at h
    · cases h
      simp only
      omega
    · obtain ⟨a, h1, h2⟩ := pbind_inr h
      have := pVal_le h1
      cases h2
      simp only
      omega
theorem pTerms_le {t : tStr} : ∀ {k : Nat} {T : pCd} {V : List (Int × Nat)} {i : Nat} {y : pCd × List (Int × Nat) × Nat}, pTerms t k T V i = .inr y → V.length ≤ y.2.1.length ∧ (V.length ≤ 8 → y.2.1.length ≤ 8) ∧ i ≤ y.2.2 ∧ T.length ≤ y.1.length ∧ y.1.length ≤ T.length + k := by
  intro k
  induction k with
  | zero => intro T V i y h; cases h; simp only; omega
  | succ k ih =>
    intro T V i y h
    unfold pTerms at h
    split at h
    · obtain ⟨a, h1, h2⟩ := pbind_inr h
      have h3 := pTerm_le h1
      have h4 := ih h2
      rw [len1] at h4
      omega
    · cases h; simp only; omega
section
variable {f q n o r x : Nat} {B : Nat → Int} {lm : Bool} {G G' : xG_} {L : Nat → Int}
theorem rMs.fr {M : List pMn} (h : rMs G o q M) (h0 : G' o 14 = G o 14) (h1 : ∀ a j, o + 9 ≤ a → a ≤ o + 12 → G' a j = G a j) : rMs G' o q M := ⟨by rw [h0]; exact h.1, fun k hk => by rw [h1 _ _ (by omega) (by omega), h1 _ _ (by omega) (by omega), h1 _ _ (by omega) (by omega), h1 _ _ (by omega) (by omega)]; exact h.2 k hk⟩
theorem rTs.add {T : pCd} {y : Int × Int} (h : rTs G o x T) (hf : ∀ a j, (a = o + 31 ∨ a = o + 32) → j < 4 * x + T.length → G' a j = G a j) (h1 : G' (o + 31) (4 * x + T.length) = y.1) (h2 : y.1 ≠ 2 → G' (o + 32) (4 * x + T.length) = y.2) : rTs G' o x (T ++ [y]) := by
  intro k hk
  rw [len1] at hk
  rw [getD_1]
  by_cases c : k = T.length
  · rw [if_pos c, c]
    exact ⟨h1, h2⟩
  · rw [if_neg c, hf _ _ (by omega) (by omega), hf _ _ (by omega) (by omega)]
    exact h k (by omega)
/-- behind the last TERM -/
theorem l_aend {M : List pMn} {V : List (Int × Nat)} {T : pCd} {i pl : Nat} {p : Int} (hf : n + 20 < f) (hE : rEv G q B n lm o) (hV : rVs G o q r V) (hM : rMs G o q M) (hT : rTs G o x T) (hA : rAt q B n lm i L) (hx : x < 200) :
    pok (pNeed (tstr B n lm) 41 i) (fun w => ∃ G' L', g249_111 f x ((q : Int) + pl) p (T.length : Int) (xlx G L) = some (xlx G' L') ∧ L' 7 = (q : Int) + w ∧ xfa o r V.length x (min M.length 420) G G' ∧ G' (o + 20) r = G (o + 20) r ∧ G' o 14 = G o 14)
      (fun j => ∃ G' L', g249_111 f x ((q : Int) + pl) p (T.length : Int) (xlx G L) = some (xlx G' L') ∧ rAt q B n lm j L' ∧ xfa o r V.length x (min M.length 420) G G' ∧ rVs G' o q r V ∧ rTs G' o x T ∧ G' (o + 27) x = (T.length : Int) ∧ rMs G' o q (M ++ [(p, pl, (T.length : Int), 4)])) := by
  have h22 := hE.2.2.2.1
  have ho := hE.2.2.2.2
  unfold pNeed
  have f1 : xfa o r V.length x (min M.length 420) G (xup2 G (o + 27) x (T.length : Int)) := xfa.up G (by omega)
  by_cases c : kK (tstr B n lm) i = 41
  · rw [if_pos c]
    obtain ⟨L', n1, n2⟩ := l_need hf hE hA (c := 41) (by unfold isSg; omega) c
    rw [show rsc 41 = 41 from rfl] at n1
    have hE1 : rEv (xup2 G (o + 27) x (T.length : Int)) q B n lm o := hE.fl (f1.fl (c0 := 0) (n0 := 0))
    have hM1 : rMs (xup2 G (o + 27) x (T.length : Int)) o q M := hM.fr (xup2_n (by omega)) (fun a j _ _ => xup2_n (by omega))
    refine ⟨rMen (xup2 G (o + 27) x (T.length : Int)) o (min M.length 420) p ((q : Int) + pl) (T.length : Int) 4, L', ?_, n2, f1.tr (rMen_fa _) (Nat.le_refl _) (Nat.le_refl _), hV.ot (fun j => ?_) (fun j => ?_) (fun j => ?_), ?_, ?_, hM1.add (p, pl, (T.length : Int), 4)⟩
    · unfold g249_111 g249_146
      rw [n1]
      simp only [Option.bind_some]
      rw [xlx_o _ _ (by omega), h22, if_neg (by omega), if_pos (by omega), Int.toNat_natCast, Int.toNat_natCast, xlx_upo _ _ _ (by omega)]
      rw [l_bad, if_pos n2.1]
      simp only [Option.bind_some]
      rw [if_neg (by simp), l_men hE1 hM1.1 (by omega)]
      rfl
    · rw [rMen_o (by omega), xup2_n (by omega)]
    · rw [rMen_o (by omega), xup2_n (by omega)]
    · rw [rMen_o (by omega), xup2_n (by omega)]
    · intro k hk
      rw [rMen_o (by omega), rMen_o (by omega), xup2_n (by omega), xup2_n (by omega)]
      exact hT k hk
    · rw [rMen_o (by omega), xup2_s]
  · rw [if_neg c]
    have n1 := l_need_no (f := f) hE hA (c := 41) (by unfold isSg; omega) c
    rw [show rsc 41 = 41 from rfl] at n1
    refine ⟨xup2 G (o + 27) x (T.length : Int), xu L 7 ((q : Int) + kS (tstr B n lm) i), ?_, rfl, f1, xup2_n (by omega), xup2_n (by omega)⟩
    unfold g249_111 g249_146
    rw [n1]
    simp only [Option.bind_some]
    rw [xlx_o _ _ (by omega), h22, if_neg (by omega), if_pos (by omega), Int.toNat_natCast, Int.toNat_natCast, xlx_upo _ _ _ (by omega)]
    rw [l_bad, if_neg (by show ¬ (q : Int) + _ = -1; omega)]
    simp only [Option.bind_some]
    rw [if_pos (by decide)]
theorem l_aend_bad {y p : Int} {m : Nat} (hE : rEv G q B n lm o) (h : L 7 ≠ -1) (hx : x < 200) : g249_111 f x y p m (xlx G L) = some (xlx (xup2 G (o + 27) x m) L) := by
  have h22 := hE.2.2.2.1
  have ho := hE.2.2.2.2
  unfold g249_111 g249_146
  rw [l_need_bad h]
  simp only [Option.bind_some]
  rw [xlx_o _ _ (by omega), h22, if_neg (by omega), if_pos (by omega), Int.toNat_natCast, Int.toNat_natCast, xlx_upo _ _ _ (by omega)]
  rw [l_bad, if_neg h]
  simp only [Option.bind_some]
  rw [if_pos (by decide)]
theorem l_aloop_bad {y p : Int} {fu m : Nat} (hE : rEv G q B n lm o) (h : L 7 ≠ -1) (hx : x < 200) (hfu : 0 < fu) : g249_79 f fu x y p m (xlx G L) = some (xlx (xup2 G (o + 27) x m) L) := by
  obtain ⟨fu, rfl⟩ : ∃ t, fu = t + 1 := ⟨fu - 1, by omega⟩
  show g249_79b (g249_79 f fu) f _ _ _ _ _ = _
  unfold g249_79b
  rw [l_sign, if_neg (fun q => h q.1)]
  simp only [Option.bind_some]
  rw [if_pos trivial, l_aend_bad hE h hx]
/-- further TERMS and what is behind them -/
theorem l_aloop {M : List pMn} {pl : Nat} {p : Int} (hf : n + 20 < f) (hr : r ≤ 24) (hx : x < 200) : ∀ (k fu : Nat), k < fu → ∀ (G : xG_) (L : Nat → Int) (V : List (Int × Nat)) (T : pCd) (i : Nat), T.length + k = 4 → rEv G q B n lm o → G 0 23 = (r : Int) → rVs G o q r V → rMs G o q M → rTs G o x T → rAt q B n lm i L →
    pok (pbind (pTerms (tstr B n lm) k T V i) fun y => pbind (pNeed (tstr B n lm) 41 y.2.2) fun j => .inr (y.1, y.2.1, j)) (fun w => ∃ G' L', g249_79 f fu x ((q : Int) + pl) p (T.length : Int) (xlx G L) = some (xlx G' L') ∧ L' 7 = (q : Int) + w ∧ xfa o r V.length x (min M.length 420) G G' ∧ 0 ≤ G' (o + 20) r ∧ G' (o + 20) r ≤ 8 ∧ 0 ≤ G' o 14 ∧ G' o 14 ≤ 420)
      (fun y => ∃ G' L', g249_79 f fu x ((q : Int) + pl) p (T.length : Int) (xlx G L) = some (xlx G' L') ∧ rAt q B n lm y.2.2 L' ∧ xfa o r V.length x (min M.length 420) G G' ∧ rVs G' o q r y.2.1 ∧ rTs G' o x y.1 ∧ G' (o + 27) x = (y.1.length : Int) ∧ rMs G' o q (M ++ [(p, pl, (y.1.length : Int), 4)])) := by
  have fin : ∀ (G : xG_) (L : Nat → Int) (V : List (Int × Nat)) (T : pCd) (i fu : Nat), rEv G q B n lm o → G 0 23 = (r : Int) → rVs G o q r V → rMs G o q M → rTs G o x T → rAt q B n lm i L → g249_79 f fu x ((q : Int) + pl) p (T.length : Int) (xlx G L) = g249_111 f x ((q : Int) + pl) p (T.length : Int) (xlx G L) →
      pok (pbind (pNeed (tstr B n lm) 41 i) fun j => .inr (T, V, j)) (fun w => ∃ G' L', g249_79 f fu x ((q : Int) + pl) p (T.length : Int) (xlx G L) = some (xlx G' L') ∧ L' 7 = (q : Int) + w ∧ xfa o r V.length x (min M.length 420) G G' ∧ 0 ≤ G' (o + 20) r ∧ G' (o + 20) r ≤ 8 ∧ 0 ≤ G' o 14 ∧ G' o 14 ≤ 420)
      (fun y => ∃ G' L', g249_79 f fu x ((q : Int) + pl) p (T.length : Int) (xlx G L) = some (xlx G' L') ∧ rAt q B n lm y.2.2 L' ∧ xfa o r V.length x (min M.length 420) G G' ∧ rVs G' o q r y.2.1 ∧ rTs G' o x y.1 ∧ G' (o + 27) x = (y.1.length : Int) ∧ rMs G' o q (M ++ [(p, pl, (y.1.length : Int), 4)])) := by
    intro G L V T i fu hE h23 hV hM hT hA e
    have h1 := l_aend (pl := pl) (p := p) (r := r) hf hE hV hM hT hA hx
    rw [e]
    cases hp : pNeed (tstr B n lm) 41 i with
    | inl w =>
      rw [hp] at h1
      obtain ⟨G', L', a1, a2, a3, a4, a5⟩ := h1
      exact ⟨G', L', a1, a2, a3, by rw [a4, hV.1]; omega, by rw [a4, hV.1]; have := hV.2.1; omega, by rw [a5, hM.1]; omega, by rw [a5, hM.1]; omega⟩
    | inr j =>
      rw [hp] at h1
      exact h1
  intro k
  induction k with
  | zero =>
    intro fu hfu G L V T i hk hE h23 hV hM hT hA
    obtain ⟨fu, rfl⟩ : ∃ t, fu = t + 1 := ⟨fu - 1, by omega⟩
    refine fin G L V T i (fu + 1) hE h23 hV hM hT hA ?_
    show g249_79b (g249_79 f fu) f _ _ _ _ _ = _
    unfold g249_79b
    rw [l_sign]
    simp only [Option.bind_some, i10]
    split
    · rfl
    · rw [if_pos (by omega)]
  | succ k ih =>
    intro fu hfu G L V T i hk hE h23 hV hM hT hA
    obtain ⟨fu, rfl⟩ : ∃ t, fu = t + 1 := ⟨fu - 1, by omega⟩
    obtain ⟨t4, tsg, tn, tv, tu, tnum, tend, tn9, tv9, tnum9, t6, t5, tlt, t3⟩ := hA.tk hE.1.2.1
    have s44 := tsg 44 (by unfold isSg; omega)
    rw [show rsc 44 = 44 from rfl] at s44
    have h7 := hA.1
    have es : g249_79 f (fu + 1) x ((q : Int) + pl) p (T.length : Int) (xlx G L) = if kK (tstr B n lm) i = 44 then ((g213 f (xlx G L)).bind fun R130 => ((g250 f x (T.length : Int) R130).bind fun R135 => g249_79 f fu x ((q : Int) + pl) p (T.length + 1 : Nat) R135)) else g249_111 f x ((q : Int) + pl) p (T.length : Int) (xlx G L) := by
      show g249_79b (g249_79 f fu) f _ _ _ _ _ = _
      unfold g249_79b
      rw [l_sign]
      simp only [Option.bind_some, i10, h7, true_and, s44]
      by_cases c : kK (tstr B n lm) i = 44
      · rw [if_neg (fun q => q c), if_neg (by omega), if_pos c, xwr_g _ (by omega) (by omega)]
        rfl
      · rw [if_pos c, if_neg c]
    unfold pTerms
    by_cases c : kK (tstr B n lm) i = 44
    · rw [if_pos c]
      rw [if_pos c] at es
      obtain ⟨_, L1, e1, a1⟩ := hA.sg (f := f) hf hE c (by unfold isSg; omega)
      have h1 := l_term (f := f) (x := x) (k := T.length) hf hE h23 hr hV a1 hx (by omega)
      rw [e1] at es
      simp only [Option.bind_some] at es
      cases hp : pTerm (tstr B n lm) V (i + 1) with
      | inl w =>
        rw [hp] at h1
        obtain ⟨G1, L2, e2, e3, e4, e5, e6⟩ := h1
        have hE1 := hE.ft e4
        refine ⟨xup2 G1 (o + 27) x (T.length + 1 : Nat), L2, ?_, e3, (e4.fa (by omega)).tr (xfa.up _ (by omega)) (Nat.le_refl _) (Nat.le_refl _), ?_⟩
        · rw [es, e2]
          simp only [Option.bind_some]
          rw [l_aloop_bad hE1 (by omega) hx (by omega)]
        · have ho := hE.2.2.2.2
          rw [xup2_n (by omega), xup2_n (by omega), e4 o 14 (by omega), hM.1]
          omega
      | inr y =>
        rw [hp] at h1
        obtain ⟨G1, L2, e2, e3, e4, e5, e6, e7⟩ := h1
        have ho := hE.2.2.2.2
        have hle := pTerm_le hp
        have hM1 : rMs G1 o q M := hM.fr (e4 _ _ (by omega)) (fun a j _ _ => e4 _ _ (by omega))
        have hT1 : rTs G1 o x (T ++ [y.1]) := hT.add (fun a j ha hj => e4 _ _ (by omega)) e6 e7
        have h2 := ih fu (by omega) G1 L2 y.2.1 (T ++ [y.1]) y.2.2 (by rw [len1]; omega) (hE.ft e4) (by rw [e4 _ _ (by omega)]; exact h23) e5 hM1 hT1 e3
        rw [len1] at h2
        have es2 : g249_79 f (fu + 1) x ((q : Int) + pl) p (T.length : Int) (xlx G L) = g249_79 f fu x ((q : Int) + pl) p (T.length + 1 : Nat) (xlx G1 L2) := by
          rw [es, e2]
          rfl
        rw [es2]
        show pok (pbind (pTerms (tstr B n lm) k (T ++ [y.1]) y.2.1 y.2.2) _) _ _
        cases hp2 : pbind (pTerms (tstr B n lm) k (T ++ [y.1]) y.2.1 y.2.2) (fun y => pbind (pNeed (tstr B n lm) 41 y.2.2) fun j => (.inr (y.1, y.2.1, j) : Nat ⊕ (pCd × List (Int × Nat) × Nat))) with
        | inl w =>
          rw [hp2] at h2
          obtain ⟨G2, L3, d1, d2, d3, d4⟩ := h2
          exact ⟨G2, L3, d1, d2, (e4.fa (by omega)).tr d3 hle.1 (Nat.le_refl _), d4⟩
        | inr z =>
          rw [hp2] at h2
          obtain ⟨G2, L3, d1, d2, d3, d4⟩ := h2
          exact ⟨G2, L3, d1, d2, (e4.fa (by omega)).tr d3 hle.1 (Nat.le_refl _), d4⟩
    · rw [if_neg c]
      rw [if_neg c] at es
      exact fin G L V T i (fu + 1) hE h23 hV hM hT hA es
end
