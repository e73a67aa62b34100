/-! round, whole -/
abbrev lMo (ln : sLn) : sMo := ln.1 (ln.2.1.1 + ln.2.1.2.1)
/-- nothing is told -/
def lnF (ln : sLn) : sLn := (ln.1, ln.2.1, ln.2.2.1, ([], -1, fun _ => -1), ln.2.2.2.2)
/-- which edition a round takes -/
def lnE (ln : sLn) : Nat := if ln.2.2.2.1.2.1 = -1 then (lMo ln).1 else ln.2.2.2.1.2.1.toNat
/-- the moment behind a round -/
def lnM (ln : sLn) (F : List pFc) : sMo := (lnE ln, F, kNx (lMo ln).2.2.1 ln.2.2.2.1.2.2 72, ln.2.2.2.1.2.2, decide (ln.2.2.2.1.2.1 ≠ -1))
def lnH (ln : sLn) (F : List pFc) : Nat → sMo := hAd ln.1 (ln.2.1.1 + ln.2.1.2.1 + 1) (lnM ln F)
/-- a number grows by one where P is -/
def inc1 (n : Nat) (P : Nat → Prop) (w w' : Nat → Int) : Prop := ∀ y, y < n → (P y ∧ w' y = w y + 1) ∨ (¬ P y ∧ w' y = w y)
/-- round() of a line -/
def stRd (T : List (List Int)) (ln : sLn) (v : Int) (ln' : sLn) (good : Bool) : Prop :=
  ∃ so Mo s R0 R, isMo T (lMo ln) so Mo ∧ qPr (T.getD (lnE ln) []) = .inr s ∧ qR0 so s (ln.2.2.2.1.2.1 ≠ -1) (lMo ln).2.1 R0 ∧ chA s ln.2.2.2.1.1 R0 R ∧
  ((good = false ∧ (¬ ∃ M, qMod s R M) ∧ v = -1 ∧ ln' = lnF ln) ∨
   (good = true ∧ ∃ M F b k wk cw, qMod s R M ∧ qFa s M F ∧ v = ((lgR ((ln.2.1.1 + ln.2.1.2.1 + 1 : Nat) : Int) F (lMo ln).2.1).length : Int) ∧ ln' = (lnH ln F, (b, k, ln.2.1.2.2 + (if ln.2.2.2.1.2.1 = -1 then 0 else 1)), (wk, cw, true), ([], -1, fun _ => -1), ln.2.2.2.2) ∧ b + k = ln.2.1.1 + ln.2.1.2.1 + 1 ∧
    tmIs (hCat (hLg (lnH ln F)) ln.2.1.1 (ln.2.1.2.1 + 1)) (hCat (hCg (lnH ln F)) ln.2.1.1 (ln.2.1.2.1 + 1)) (hCat (hEg (lnH ln F)) ln.2.1.1 (ln.2.1.2.1 + 1)) (ln.2.1.1 : Int) (b : Int) ∧
    inc1 16 (fun y => y < s.1.length ∧ qWc s (ln.2.2.2.1.2.1 ≠ -1) (fun p => ∃ x, x ∈ lgR ((ln.2.1.1 + ln.2.1.2.1 + 1 : Nat) : Int) F (lMo ln).2.1 ∧ ofP s x.2.2 p) y) (fun y => if ln.2.2.2.1.2.1 = -1 then ln.2.2.1.1 y else 0) wk ∧
    inc1 72 (qCw (xOf T (kNx (lMo ln).2.2.1 ln.2.2.2.1.2.2 72)) s (ln.2.2.2.1.2.1 ≠ -1) ln.2.2.2.1.2.2 (fSh (xOf T (lMo ln).2.2.1) so Mo) (fSh (xOf T (kNx (lMo ln).2.2.1 ln.2.2.2.1.2.2 72)) s M) (fun p => ∃ x, x ∈ lgR ((ln.2.1.1 + ln.2.1.2.1 + 1 : Nat) : Int) F (lMo ln).2.1 ∧ ofP s x.2.2 p)) ln.2.2.1.2.1 cw))
theorem rIn_of {G : xG_} {q c : Nat} {s : pPg} {R : Nat → List pRw} (hE : rEn G q c s R) (hR : okR s R) : qIn s R := fun p hp _ => by
  obtain ⟨_, _, _, hT⟩ := hE
  refine ⟨(hR p hp).1, fun w hw => ⟨?_, ((hR p hp).2 w hw).2⟩⟩
  obtain ⟨i, hi, e⟩ := List.getElem_of_mem hw
  have := ((hT p hp).1.2.2 i hi).1
  rw [getD_e hi, e] at this
  exact this
section
variable {f o h : Nat}
theorem l_298_203 {fr : Int} (hf : 100 < f) (ho : 122 < o) : ∀ (d p fu : Nat) (Z : xG_), p + d = 16 → d < fu → (∀ j, j < p → Z (o + 18) j = 0) → ∃ Z', g298_203 f fu o fr (p : Int) Z = g298_222 f o fr Z' ∧ (∀ j, j < 16 → Z' (o + 18) j = 0) ∧ ∀ a j, a ≠ o + 18 → Z' a j = Z a j := by
  intro d
  induction d with
  | zero =>
    intro p fu Z h1 h2 h3
    obtain ⟨fu, rfl⟩ : ∃ t, fu = t + 1 := ⟨fu - 1, by omega⟩
    refine ⟨Z, ?_, fun j hj => h3 j (by omega), fun _ _ _ => rfl⟩
    show g298_203b (g298_203 f fu) f _ _ _ _ = _
    unfold g298_203b
    rw [if_pos (by omega)]
  | succ d ih =>
    intro p fu Z h1 h2 h3
    obtain ⟨fu, rfl⟩ : ∃ t, fu = t + 1 := ⟨fu - 1, by omega⟩
    have e : xwr ((p : Int) + 1) = ((p + 1 : Nat) : Int) := by rw [xwr_g _ (by omega) (by omega)]; omega
    obtain ⟨Z', q1, q2, q3⟩ := ih (p + 1) fu (xup2 Z (o + 18) p 0) (by omega) (by omega) (fun j hj => by
      by_cases c : j = p
      · rw [c, xup2_s]
      · rw [xup2_n (by omega)]; exact h3 j (by omega))
    refine ⟨Z', ?_, q2, fun a j q => by rw [q3 a j q, xup2_n (by omega)]⟩
    show g298_203b (g298_203 f fu) f _ _ _ _ = _
    unfold g298_203b
    rw [if_neg (by omega), if_pos (by omega), Int.toNat_natCast, Option.bind_some, e]
    exact q1
/-- the edition is taken -/
theorem l_298_ed {G : xG_} {fr nx : Int} {n rd e ed : Nat} (hf : 100 < f) (ho : 122 < o ∧ o < 211) (hn : n < 20) (h17 : G o 17 = (n : Int)) (h2 : G o 2 = (rd : Int)) (h1 : G o 1 = (e : Int)) (h34 : G o 34 = nx) (h4 : G o 4 = (ed : Int)) (hrd : rd < 100000) (hed : ed < 100000) :
    ∃ G', (if 0 ≤ (G o 17) ∧ (G o 17) < 20 then ((some (xup2 G (o + 13) (G o 17).toNat (xwr ((G o 2) + (1))))).bind fun G172 => (if 0 ≤ (G172 (o) 17) ∧ (G172 (o) 17) < 20 then ((some (xup2 G172 (o + 14) (G172 (o) 17).toNat (G172 (o) 1))).bind fun G177 => ((some (xup2 G177 (o) 17 (xwr ((G177 (o) 17) + (1))))).bind fun G181 => ((some (xup2 G181 (o) 1 (G181 (o) 34))).bind fun G185 => ((some (xup2 G185 (o) 4 (xwr ((G185 (o) 4) + (1))))).bind fun G189 => g298_203 f f (o) fr (0) G189)))) else none)) else none) = g298_222 f o fr G' ∧ G' (o + 13) n = ((rd + 1 : Nat) : Int) ∧ G' (o + 14) n = (e : Int) ∧ G' o 17 = ((n + 1 : Nat) : Int) ∧ G' o 1 = nx ∧ G' o 4 = ((ed + 1 : Nat) : Int) ∧ (∀ p, p < 16 → G' (o + 18) p = 0) ∧ ∀ a j, ¬ (a = o ∧ (j = 17 ∨ j = 1 ∨ j = 4)) → ¬ (a = o + 13 ∧ j = n) → ¬ (a = o + 14 ∧ j = n) → a ≠ o + 18 → G' a j = G a j := by
  have e1 : xwr ((rd : Int) + 1) = ((rd + 1 : Nat) : Int) := by rw [xwr_g _ (by omega) (by omega)]; omega
  have e2 : xwr ((n : Int) + 1) = ((n + 1 : Nat) : Int) := by rw [xwr_g _ (by omega) (by omega)]; omega
  have e3 : xwr ((ed : Int) + 1) = ((ed + 1 : Nat) : Int) := by rw [xwr_g _ (by omega) (by omega)]; omega
  let G5 := xup2 (xup2 (xup2 (xup2 (xup2 G (o + 13) n ((rd + 1 : Nat) : Int)) (o + 14) n (e : Int)) o 17 ((n + 1 : Nat) : Int)) o 1 nx) o 4 ((ed + 1 : Nat) : Int)
  obtain ⟨Z, z1, z2, z3⟩ := l_298_203 (f := f) (o := o) (fr := fr) hf (by omega) 16 0 f G5 rfl (by omega) (fun j hj => absurd hj (Nat.not_lt_zero j))
  refine ⟨Z, ?_, ?_, ?_, ?_, ?_, ?_, z2, fun a j q1 q2 q3 q4 => ?_⟩
  · rw [← z1]
    rw [h17, h2, if_pos (by omega), Int.toNat_natCast, e1, Option.bind_some, xup2_n (by omega), h17, if_pos (by omega), Int.toNat_natCast, xup2_n (by omega), h1, Option.bind_some, xup2_n (by omega), xup2_n (by omega), h17, e2, Option.bind_some, xup2_n (by omega), xup2_n (by omega), xup2_n (by omega), h34, Option.bind_some, xup2_n (by omega), xup2_n (by omega), xup2_n (by omega), xup2_n (by omega), h4, e3, Option.bind_some]
    rfl
  · rw [z3 _ _ (by omega)]
    show xup2 _ _ _ _ _ _ = _
    rw [xup2_n (by omega), xup2_n (by omega), xup2_n (by omega), xup2_n (by omega), xup2_s]
  · rw [z3 _ _ (by omega)]
    show xup2 _ _ _ _ _ _ = _
    rw [xup2_n (by omega), xup2_n (by omega), xup2_n (by omega), xup2_s]
  · rw [z3 _ _ (by omega)]
    show xup2 _ _ _ _ _ _ = _
    rw [xup2_n (by omega), xup2_n (by omega), xup2_s]
  · rw [z3 _ _ (by omega)]
    show xup2 _ _ _ _ _ _ = _
    rw [xup2_n (by omega), xup2_s]
  · rw [z3 _ _ (by omega)]
    exact xup2_s _ _ _ _
  · rw [z3 _ _ q4]
    show xup2 _ _ _ _ _ _ = _
    rw [xup2_n (by omega), xup2_n (by omega), xup2_n (by omega), xup2_n (by omega), xup2_n (by omega)]
end
