/-! The reference reads LITERALS: all of a rule -/
theorem pName_le {t : tStr} {i : Nat} {x : Int × Nat} (h : pName t i = .inr x) : x.2 = i + 1 ∧ kK t i = 1 ∧ x.1 = kC t i ∧ ¬ 12 < kE t i - kS t i := by
  unfold pName at h
  split at h
  · cases h
  split at h
  · cases h
  rename_i h1 h2
  cases h
  exact ⟨rfl, Classical.not_not.mp h1, rfl, h2⟩
theorem pPred_le {t : tStr} {N : List Int} {i : Nat} {p : Int × List Int × Nat} (h : pPred t N i = .inr p) : p.2.2 = i + 1 ∧ N.length ≤ p.2.1.length ∧ kK t i = 1 ∧ 0 ≤ p.1 ∧ p.1 < p.2.1.length := by
  unfold pPred at h
  obtain ⟨a, h1, h2⟩ := pbind_inr h
  have h3 := pName_le h1
  split at h2
  · split at h2
    · cases h2
    · cases h2
      simp only [len1]
      omega
  · cases h2
    have := pIdx_in N a.1
    simp only
    omega
theorem pAtom_le {t : tStr} {tell : Bool} {k : Int} {s s' : pRs} (h : pAtom t tell k s = .inr s') : s'.2.2.1.length = s.2.2.1.length + 1 ∧ s.1.length ≤ s'.1.length ∧ s.2.1.length ≤ s'.2.1.length ∧ s.2.2.2.1.length ≤ s'.2.2.2.1.length ∧ s.2.2.2.2 < s'.2.2.2.2 := by
  unfold pAtom at h
  obtain ⟨p, h1, h2⟩ := pbind_inr h
  obtain ⟨j, h3, h4⟩ := pbind_inr h2
  obtain ⟨y, h5, h6⟩ := pbind_inr h4
  obtain ⟨z, h7, h8⟩ := pbind_inr h6
  obtain ⟨u, h9, h10⟩ := pbind_inr h8
  have a1 := pNeed_le h3
  have a2 := pTerm_le h5
  have a3 := pTerms_le h7
  have a4 := pNeed_le h9
  have a0 : s.1.length ≤ p.2.1.length ∧ s.2.2.2.2 < p.2.2 := by
    split at h1
    · have := pPred_le h1
      omega
    · obtain ⟨x, g1, g2⟩ := pbind_inr h1
      have := pName_le g1
      cases g2
      simp only
      omega
  cases h10
  simp only [len1, true_and]
  omega
theorem pCmp_le {t : tStr} {F : Nat} {s s' : pRs} (h : pCmp t F s = .inr s') : s'.2.2.1.length = s.2.2.1.length + 1 ∧ s.1.length ≤ s'.1.length ∧ s.2.1.length ≤ s'.2.1.length ∧ s.2.2.2.1.length ≤ s'.2.2.2.1.length ∧ s.2.2.2.2 < s'.2.2.2.2 := by
  unfold pCmp at h
  obtain ⟨a, h1, h2⟩ := pbind_inr h
  split at h2
  · obtain ⟨b, h3, h4⟩ := pbind_inr h2
    have g1 := pX_le _ _ _ _ _ (by decide) h1
    have g2 := pX_le _ _ _ _ _ (by decide) h3
    cases h4
    simp only [len1, true_and] at g1 g2 ⊢
    omega
  · cases h2
theorem pLit_le {t : tStr} {tell : Bool} {F : Nat} {s s' : pRs} (h : pLit t tell F s = .inr s') : s'.2.2.1.length = s.2.2.1.length + 1 ∧ s.1.length ≤ s'.1.length ∧ s.2.1.length ≤ s'.2.1.length ∧ s.2.2.2.1.length ≤ s'.2.2.2.1.length ∧ s.2.2.2.2 < s'.2.2.2.2 := by
  unfold pLit at h
  split at h
  · cases h
  split at h
  · have := pAtom_le h
    simp only at this
    omega
  split at h
  · split at h
    · cases h
    split at h
    · split at h
      · cases h
      · exact pAtom_le h
    split at h
    · cases h
    · exact pCmp_le h
  · exact pCmp_le h
section
variable {f q n o r cb F : Nat} {B : Nat → Int} {lm tell : Bool}
theorem l_lits_bad {G : xG_} {L : Nat → Int} {fu : Nat} (hfu : 0 < fu) (h : L 7 ≠ -1) : g246_4 f fu (xlx G L) = some (xlx G L) := by
  obtain ⟨fu, rfl⟩ : ∃ t, fu = t + 1 := ⟨fu - 1, by omega⟩
  show g246_4b (g246_4 f fu) f _ = _
  unfold g246_4b
  rw [l_sign, if_neg (fun q => h q.1)]
  simp only [Option.bind_some]
  rw [if_pos trivial]
theorem l_litsl (hf : n + 20 < f) (hcb : cb + n + 3 ≤ 6200) (htell : tell = true ↔ r ≠ 24) : ∀ (k fu : Nat), k < fu → ∀ (i c : Nat) (G : xG_) (L : Nat → Int) (N : List Int) (V : List (Int × Nat)) (l : List pLt) (M : List pMn), 9 ≤ l.length + k → 4 * (n + 1 - i) + 4 ≤ F → rRS G q B n lm o r c N V l M → rAt q B n lm i L → c ≤ cb + i →
    rLP f q B n lm o r cb G L c N V l M (g246_4 f fu) (pLits (tstr B n lm) tell F k (N, V, l, M, i)) := by
  intro k
  induction k with
  | zero =>
    intro fu _ i c G L N V l M h9 hF hS
    have := hS.2.2.2.2.2.2.1.2.1
    omega
  | succ k ih =>
    intro fu hfu i c G L N V l M h9 hF hS hA hc
    obtain ⟨fu, rfl⟩ : ∃ t, fu = t + 1 := ⟨fu - 1, by omega⟩
    have hE := hS.1
    have es : g246_4 f (fu + 1) (xlx G L) = if kK (tstr B n lm) i = 44 then ((g213 f (xlx G L)).bind fun R107 => ((g247 f R107).bind fun R112 => g246_4 f fu R112)) else some (xlx G L) := by
      show g246_4b (g246_4 f fu) f _ = _
      unfold g246_4b
      have hs := hA.issign (f := f) hE (c := 44) (by unfold isSg; omega)
      rw [show rsc 44 = 44 from rfl] at hs
      rw [hs]
      simp only [Option.bind_some, i10]
      by_cases c1 : kK (tstr B n lm) i = 44
      · rw [if_neg (fun h => h c1), if_pos c1]
      · rw [if_pos c1, if_neg c1]
    unfold pLits
    by_cases c1 : kK (tstr B n lm) i = 44
    · show rLP f q B n lm o r cb G L c N V l M (g246_4 f (fu + 1)) (if kK (tstr B n lm) i = 44 then pbind (pLit (tstr B n lm) tell F (N, V, l, M, i + 1)) fun s' => pLits (tstr B n lm) tell F k s' else .inr (N, V, l, M, i))
      rw [if_pos c1]
      rw [if_pos c1] at es
      obtain ⟨_, L1, p1, p2⟩ := hA.sg (f := f) hf hE c1 (by unfold isSg; omega)
      rw [p1] at es
      simp only [Option.bind_some] at es
      have h1 := l_lit (f := f) (F := F) hf hcb htell (show 4 * (n + 1 - (i + 1)) + 4 ≤ F by omega) hS p2 (show c ≤ cb + (i + 1) by omega)
      unfold rLP at h1 ⊢
      cases hp : pLit (tstr B n lm) tell F (N, V, l, M, i + 1) with
      | inl w =>
        rw [hp] at h1
        obtain ⟨G1, L2, a1, a2, a3, a4⟩ := h1
        refine ⟨G1, L2, ?_, a2, a3, a4⟩
        rw [es, a1]
        simp only [Option.bind_some]
        exact l_lits_bad (by omega) (by omega)
      | inr s =>
        rw [hp] at h1
        obtain ⟨G1, L2, c1', a1, a2, a3, a4, a5, a6⟩ := h1
        have hle := pLit_le hp
        simp only at hle
        have h2 := ih fu (by omega) s.2.2.2.2 c1' G1 L2 s.1 s.2.1 s.2.2.1 s.2.2.2.1 (by omega) (by omega) a4 a2 a6
        have es2 : g246_4 f (fu + 1) (xlx G L) = g246_4 f fu (xlx G1 L2) := by
          rw [es, a1]
          rfl
        show pok (pLits (tstr B n lm) tell F k s) _ _
        unfold rLP at h2
        rw [es2]
        cases hp2 : pLits (tstr B n lm) tell F k s with
        | inl w =>
          have hp2' : pLits (tstr B n lm) tell F k (s.1, s.2.1, s.2.2.1, s.2.2.2.1, s.2.2.2.2) = .inl w := hp2
          rw [hp2'] at h2
          obtain ⟨G2, L3, b1, b2, b3, b4⟩ := h2
          exact ⟨G2, L3, b1, b2, a3.tr b3 (by omega) (by omega) (by omega) (by omega) (by omega), b4⟩
        | inr u =>
          have hp2' : pLits (tstr B n lm) tell F k (s.1, s.2.1, s.2.2.1, s.2.2.2.1, s.2.2.2.2) = .inr u := hp2
          rw [hp2'] at h2
          obtain ⟨G2, L3, c2, b1, b2, b3, b4, b5, b6⟩ := h2
          exact ⟨G2, L3, c2, b1, b2, a3.tr b3 (by omega) (by omega) (by omega) (by omega) (by omega), b4, by omega, b6⟩
    · show rLP f q B n lm o r cb G L c N V l M (g246_4 f (fu + 1)) (if kK (tstr B n lm) i = 44 then pbind (pLit (tstr B n lm) tell F (N, V, l, M, i + 1)) fun s' => pLits (tstr B n lm) tell F k s' else .inr (N, V, l, M, i))
      rw [if_neg c1]
      rw [if_neg c1] at es
      exact ⟨G, L, c, es, hA, .rf _ _ _ _ _ _ _ _, hS, Nat.le_refl _, hc⟩
theorem l_lits {i c : Nat} {G : xG_} {L : Nat → Int} {N : List Int} {V : List (Int × Nat)} {M : List pMn} (hf : n + 20 < f) (hcb : cb + n + 3 ≤ 6200) (htell : tell = true ↔ r ≠ 24) (hF : 4 * (n + 1 - i) + 4 ≤ F) (hS : rRS G q B n lm o r c N V [] M) (hA : rAt q B n lm i L) (hc : c ≤ cb + i) :
    rLP f q B n lm o r cb G L c N V [] M (g246 f) (pbind (pLit (tstr B n lm) tell F (N, V, [], M, i)) (pLits (tstr B n lm) tell F 9)) := by
  have h1 := l_lit (f := f) (F := F) hf hcb htell hF hS hA hc
  unfold rLP at h1 ⊢
  unfold g246
  cases hp : pLit (tstr B n lm) tell F (N, V, [], M, i) with
  | inl w =>
    rw [hp] at h1
    obtain ⟨G1, L2, a1, a2, a3, a4⟩ := h1
    refine ⟨G1, L2, ?_, a2, a3, a4⟩
    rw [a1]
    simp only [Option.bind_some]
    exact l_lits_bad (by omega) (by omega)
  | inr s =>
    rw [hp] at h1
    obtain ⟨G1, L2, c1', a1, a2, a3, a4, a5, a6⟩ := h1
    have hle := pLit_le hp
    simp only [List.length_nil] at hle
    have h2 := l_litsl (f := f) (F := F) (tell := tell) hf hcb htell 9 f (by omega) s.2.2.2.2 c1' G1 L2 s.1 s.2.1 s.2.2.1 s.2.2.2.1 (by omega) (by omega) a4 a2 a6
    have es2 : (g247 f (xlx G L)).bind (fun R117 => g246_4 f f R117) = g246_4 f f (xlx G1 L2) := by
      rw [a1]
      rfl
    show pok (pLits (tstr B n lm) tell F 9 s) _ _
    unfold rLP at h2
    rw [es2]
    cases hp2 : pLits (tstr B n lm) tell F 9 s with
    | inl w =>
      have hp2' : pLits (tstr B n lm) tell F 9 (s.1, s.2.1, s.2.2.1, s.2.2.2.1, s.2.2.2.2) = .inl w := hp2
      rw [hp2'] at h2
      obtain ⟨G2, L3, b1, b2, b3, b4⟩ := h2
      exact ⟨G2, L3, b1, b2, a3.tr b3 (by show 8 * r + 0 ≤ _; omega) (by omega) (by omega) (by omega) (by omega), b4⟩
    | inr u =>
      have hp2' : pLits (tstr B n lm) tell F 9 (s.1, s.2.1, s.2.2.1, s.2.2.2.1, s.2.2.2.2) = .inr u := hp2
      rw [hp2'] at h2
      obtain ⟨G2, L3, c2, b1, b2, b3, b4, b5, b6⟩ := h2
      exact ⟨G2, L3, c2, b1, b2, a3.tr b3 (by show 8 * r + 0 ≤ _; omega) (by omega) (by omega) (by omega) (by omega), b4, by omega, b6⟩
end
