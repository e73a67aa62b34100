/-! What is read is well made: values, VARIABLES, predicates in their bounds -/
def vOk (v : Int) : Prop := (-1000000000000 ≤ v ∧ v ≤ 1000000000000) ∨ (2000000000000 ≤ v ∧ v < 2282429536481)
def wSg (k : Int) : Prop := k = 42 ∨ k = 47 ∨ k = 37 ∨ k = 43 ∨ k = 45
def wC1 (nv : Nat) (x : Int × Int) : Prop := (x.1 = 1 ∧ vOk x.2) ∨ (x.1 = 2 ∧ 0 ≤ x.2 ∧ x.2 < nv) ∨ (x.1 = 3 ∧ wSg x.2)
def wC (nv : Nat) (Q : pCd) : Prop := ∀ x ∈ Q, wC1 nv x
/-- how many operands wait behind codes -/
def wSt : Nat → pCd → Option Nat
  | h, [] => some h
  | h, x :: q => if x.1 = 3 then (if 2 ≤ h then wSt (h - 1) q else none) else wSt (h + 1) q
theorem wSt_c (h : Nat) (x : Int × Int) (q : pCd) : wSt h (x :: q) = if x.1 = 3 then (if 2 ≤ h then wSt (h - 1) q else none) else wSt (h + 1) q := rfl
theorem wSt_ap : ∀ (h : Nat) (Q R : pCd), wSt h (Q ++ R) = (wSt h Q).bind (fun k => wSt k R) := by
  intro h Q
  induction Q generalizing h with
  | nil => intro R; rfl
  | cons x q ih =>
    intro R
    show wSt h (x :: (q ++ R)) = _
    rw [wSt_c, wSt_c]
    by_cases c : x.1 = 3
    · rw [if_pos c, if_pos c]
      by_cases c2 : 2 ≤ h
      · rw [if_pos c2, if_pos c2]
        exact ih _ _
      · rw [if_neg c2, if_neg c2]
        rfl
    · rw [if_neg c, if_neg c]
      exact ih _ _
theorem wC.mo {nv m : Nat} {Q : pCd} (h : wC nv Q) (hm : nv ≤ m) : wC m Q := fun x hx => by
  rcases h x hx with a | a | a
  · exact .inl a
  · exact .inr (.inl ⟨a.1, a.2.1, by omega⟩)
  · exact .inr (.inr a)
theorem wC.ap {nv : Nat} {Q : pCd} {x : Int × Int} (h : wC nv Q) (hx : wC1 nv x) : wC nv (Q ++ [x]) := fun y hy => by
  rcases List.mem_append.mp hy with a | a
  · exact h y a
  · rw [List.mem_singleton.mp a]; exact hx
/-- TOKENS whose values are values -/
def tOk (t : tStr) : Prop := ∀ i r, pVal t i = .inr r → vOk r.1
theorem tok_word2 {B : Nat → Int} {n i : Nat} {lm : Bool} (h : kK (tstr B n lm) i = 1) (hw : ¬ kW (tstr B n lm) i = -1) : 2000000000000 ≤ kW (tstr B n lm) i ∧ kW (tstr B n lm) i < 2282429536481 := by
  obtain ⟨c1, c2⟩ := tkd_inv.2 (kK_inv h (by decide))
  have eW : kW (tstr B n lm) i = tse B n (tS B n i) := rfl
  rw [eW] at hw ⊢
  have k4 : tse B n (tS B n i) = tsens B (tS B n i) (tnend B n (tS B n i)) := if_pos c2
  rw [k4] at hw ⊢
  unfold tsens at hw ⊢
  split at hw
  · rename_i c
    rw [if_pos c]
    have := tword_in (B := B) (s := tS B n i) (e := tnend B n (tS B n i)) (fun j j1 j2 => by have := c.1 (j - tS B n i) (by omega); rw [show tS B n i + (j - tS B n i) = j by omega] at this; exact this) 8
    have e8 : (27 : Int) ^ 8 = 282429536481 := by decide
    omega
  · exact absurd rfl hw
theorem tOk_of {B : Nat → Int} {n : Nat} (lm : Bool) (hB : tTx B n) : tOk (tstr B n lm) := by
  intro i r h
  unfold pVal at h
  split at h
  · rename_i c
    have := tok_num hB (lm := lm) c.1
    cases h
    left
    exact ⟨by show -1000000000000 ≤ kC (tstr B n lm) i; omega, c.2⟩
  · split at h
    · split at h
      · rename_i c
        have := tok_num hB (lm := lm) c.1
        have c2 := c.2
        cases h
        left
        show -1000000000000 ≤ -(kC (tstr B n lm) (i + 1)) ∧ -(kC (tstr B n lm) (i + 1)) ≤ 1000000000000
        omega
      · cases h
    · split at h
      · rename_i c
        have := tok_word2 (B := B) (n := n) (lm := lm) c.1 c.2
        cases h
        right
        exact this
      · cases h
theorem pVix_in (V : List (Int × Nat)) (x : Int) : pVix V x = -1 ∨ (0 ≤ pVix V x ∧ pVix V x < V.length) := by
  unfold pVix
  cases h : V.findIdx? (fun y => decide (y.1 = x)) with
  | none => exact .inl rfl
  | some p =>
    obtain ⟨hp, _⟩ := List.findIdx?_eq_some_iff_getElem.mp h
    exact .inr ⟨by show (0 : Int) ≤ (p : Int); omega, by show (p : Int) < _; omega⟩
theorem pVar_ok {t : tStr} {V : List (Int × Nat)} {i : Nat} {r : Int × List (Int × Nat) × Nat} (h : pVar t V i = .inr r) : 0 ≤ r.1 ∧ r.1 < r.2.1.length := by
  unfold pVar at h
  split at h
  · cases h
  split at h
  · cases h
  split at h
  · split at h
    · cases h
    · cases h
      simp only [len1]
      omega
  · rename_i c
    cases h
    have := pVix_in V (kC t i)
    simp only
    omega
theorem pX_wf {t : tStr} (ht : tOk t) : ∀ (F m b : Nat) (e x : pEx) (h : Nat), m ≤ 4 → pX t F m b e = .inr x → wC e.1.length e.2.1 → wSt 0 e.2.1 = some h → (2 ≤ m → 1 ≤ h) → wC x.1.length x.2.1 ∧ wSt 0 x.2.1 = some (if m ≤ 1 then h + 1 else h) := by
  intro F
  induction F with
  | zero => intro m b e x h _ hp; cases hp
  | succ F ih =>
    intro m b e x h hm hp hw hs h1
    have put : ∀ {V : List (Int × Nat)} {Q : pCd} {k : Nat} {y : Int × Int}, wC V.length Q → wSt 0 Q = some k → wC1 V.length y → ∀ k', (if y.1 = 3 then (2 ≤ k ∧ k' = k - 1) else k' = k + 1) → wC V.length (Q ++ [y]) ∧ wSt 0 (Q ++ [y]) = some k' := by
      intro V Q k y a1 a2 a3 k' a4
      refine ⟨a1.ap a3, ?_⟩
      rw [wSt_ap, a2]
      show wSt k [y] = some k'
      unfold wSt
      split
      · rename_i c
        rw [if_pos c] at a4
        rw [if_pos a4.1, a4.2]
        rfl
      · rename_i c
        rw [if_neg c] at a4
        rw [a4]
        rfl
    match m, hm, hp, h1 with
    | 0, _, hp, _ =>
      rw [pX_0] at hp
      split at hp
      · obtain ⟨r, g1, g2⟩ := pbind_inr hp
        have a1 := pVar_le g1
        have a2 := pVar_ok g1
        cases g2
        exact put (hw.mo a1.2.1) hs (.inr (.inl ⟨rfl, a2⟩)) _ (by rw [if_neg (show ¬ (2 : Int) = 3 by decide)]; rfl)
      · split at hp
        · split at hp
          · cases hp
          · obtain ⟨r, g1, g2⟩ := pbind_inr hp
            obtain ⟨j, g3, g4⟩ := pbind_inr g2
            have a1 := ih 1 (b + 1) _ _ h (by omega) g1 hw hs (fun q => by omega)
            cases g4
            exact a1
        · obtain ⟨r, g1, g2⟩ := pbind_inr hp
          have a2 := ht _ _ g1
          cases g2
          exact put hw hs (.inl ⟨rfl, a2⟩) _ (by rw [if_neg (show ¬ (1 : Int) = 3 by decide)]; rfl)
    | 1, _, hp, _ =>
      rw [pX_1] at hp
      obtain ⟨r, g1, g2⟩ := pbind_inr hp
      have a1 := ih 0 b _ _ h (by omega) g1 hw hs (fun q => by omega)
      have a2 := ih 2 b _ _ (h + 1) (by omega) g2 a1.1 a1.2 (fun _ => by omega)
      exact a2
    | 2, _, hp, h1 =>
      rw [pX_2] at hp
      obtain ⟨r, g1, g2⟩ := pbind_inr hp
      have a1 := ih 3 b _ _ h (by omega) g1 hw hs (fun q => h1 (by omega))
      exact ih 4 b _ _ h (by omega) g2 a1.1 a1.2 (fun _ => h1 (by omega))
    | 3, _, hp, h1 =>
      rw [pX_3] at hp
      split at hp
      · rename_i c
        obtain ⟨r, g1, g2⟩ := pbind_inr hp
        have a1 := ih 0 b _ _ h (by omega) g1 hw hs (fun q => by omega)
        have a2 := put a1.1 a1.2 (y := (3, kK t e.2.2)) (.inr (.inr ⟨rfl, by unfold wSg; show kK t e.2.2 = 42 ∨ _; omega⟩)) h (by rw [if_pos rfl]; have := h1 (by omega); exact ⟨by show 2 ≤ h + 1; omega, rfl⟩)
        exact ih 3 b (r.1, r.2.1 ++ [(3, kK t e.2.2)], r.2.2) _ h (by omega) g2 a2.1 a2.2 (fun _ => h1 (by omega))
      · cases hp
        exact ⟨hw, hs⟩
    | 4, _, hp, h1 =>
      rw [pX_4] at hp
      split at hp
      · rename_i c
        obtain ⟨r, g1, g2⟩ := pbind_inr hp
        obtain ⟨s, g3, g4⟩ := pbind_inr g2
        have a1 := ih 0 b _ _ h (by omega) g1 hw hs (fun q => by omega)
        have a3 := ih 3 b _ _ (h + 1) (by omega) g3 a1.1 a1.2 (fun _ => by omega)
        have a2 := put a3.1 a3.2 (y := (3, kK t e.2.2)) (.inr (.inr ⟨rfl, by unfold wSg; show kK t e.2.2 = 42 ∨ _; omega⟩)) h (by rw [if_pos rfl]; have := h1 (by omega); exact ⟨by show 2 ≤ h + 1; omega, rfl⟩)
        exact ih 4 b (s.1, s.2.1 ++ [(3, kK t e.2.2)], s.2.2) _ h (by omega) g4 a2.1 a2.2 (fun _ => h1 (by omega))
      · cases hp
        exact ⟨hw, hs⟩
/-- an EXPRESSION's codes: of VARIABLES below nv, one value at the end -/
def wEx (nv : Nat) (Q : pCd) : Prop := wC nv Q ∧ wSt 0 Q = some 1
theorem pX_ex {t : tStr} (ht : tOk t) {F b i : Nat} {V : List (Int × Nat)} {x : pEx} (h : pX t F 1 b (V, [], i) = .inr x) : wEx x.1.length x.2.1 := pX_wf ht F 1 b _ x 0 (by decide) h (fun y hy => absurd hy (by simp)) rfl (fun q => by omega)
theorem wEx.mo {nv m : Nat} {Q : pCd} (h : wEx nv Q) (hm : nv ≤ m) : wEx m Q := ⟨h.1.mo hm, h.2⟩
