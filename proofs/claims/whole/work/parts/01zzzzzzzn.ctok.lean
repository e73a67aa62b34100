/-! THE CLASS: the signs of the TAPE -/
/-- the TAPE holds the text B of n bytes -/
def cTx (G : xG_) (B : Nat → Int) (n : Nat) : Prop := G 65 1 = (n : Int) ∧ n ≤ 3000 ∧ tTx B n ∧ ∀ p, p < n → G 66 p = B p
theorem cTx.ge {G G' : xG_} {B : Nat → Int} {n : Nat} (h : cTx G B n) (h0 : G' 65 1 = G 65 1) (h1 : ∀ p, G' 66 p = G 66 p) : cTx G' B n := ⟨by rw [h0]; exact h.1, h.2.1, h.2.2.1, fun p hp => by rw [h1]; exact h.2.2.2 p hp⟩
section
variable {f n : Nat} {S : Nat → Nat × Nat × Nat} {G : xG_} {m : Nat × Nat} {B : Nat → Int}
theorem k_113_53 {r4 : Nat → Int → Int → xT_ → Option (Int × xT_)} {x2 x3 x4 y0 : Int} {T : xT_} : c113_53 r4 f 65 x2 x3 x4 y0 T = if x4 ≠ 10 ∧ (x2 ≠ 0 ∨ x4 = 35) then r4 65 1 (xwr (x3 + 1)) T else if y0 ≠ 0 then r4 65 0 (xwr (x3 + 1)) T else some (x3, T) := by
  unfold c113_53 c113_77 c113_73 c113_78 c113_90
  by_cases c1 : x4 = 10
  · simp only [c1, ne_eq, not_true_eq_false, false_and, if_false, if_true, ite_not]
  · by_cases c2 : x2 = 0
    · by_cases c3 : x4 = 35
      · simp [c2, c3]
      · simp [c1, c2, c3]
    · simp [c1, c2]
theorem k_113_4 (hs : cSs S) (hp : cPs G) (hB : cTx G B n) : ∀ (d p fu : Nat) (r : Bool), p + d = n → d < fu → c113_4 f fu 65 (b01 r) (p : Int) (S, G, m) = some ((tsk B n r p : Int), (S, G, m)) := by
  obtain ⟨b1, b2, b3, b4⟩ := hB
  intro d
  induction d with
  | zero =>
    intro p fu r h1 h2
    obtain ⟨fu, rfl⟩ : ∃ t, fu = t + 1 := ⟨fu - 1, by omega⟩
    show c113_4b (c113_4 f fu) f 65 _ _ _ = _
    unfold c113_4b
    rw [tsk_eq b3 r (by omega), if_pos (b3.neg.mpr (by omega))]
    simp (disch := omega) only [cq_gi, cq_gr, cq_a, cq_s, cq_p, cq_pr, cq_is, cq_ar, cq_ab, cq_ln, xq_nz, Option.bind_some, xup2_n, xup2_s, Int.toNat_natCast, Int.reduceToNat, if_pos, if_neg, true_and, and_true, and_self, eq_self, if_true, reduceIte, not_true_eq_false, not_false_eq_true, or_true, true_or, s65 hs, b1]
    rw [show n = p by omega]
  | succ d ih =>
    intro p fu r h1 h2
    obtain ⟨fu, rfl⟩ : ∃ t, fu = t + 1 := ⟨fu - 1, by omega⟩
    have hlt : p < n := by omega
    have hb := b4 p hlt
    have hr := (b3 p).1 hlt
    have ep : xwr ((p : Int) + 1) = ((p + 1 : Nat) : Int) := by rw [xwr_g _ (by omega) (by omega)]; omega
    show c113_4b (c113_4 f fu) f 65 _ _ _ = _
    unfold c113_4b c113_48
    rw [tsk_eq b3 r (by omega), if_neg (by omega)]
    simp (disch := omega) only [cq_gi, cq_gr, cq_a, cq_s, cq_p, cq_pr, cq_is, cq_ar, cq_ab, cq_ln, xq_nz, Option.bind_some, xup2_n, xup2_s, Int.toNat_natCast, Int.reduceToNat, if_pos, if_neg, true_and, and_true, and_self, eq_self, if_true, reduceIte, not_true_eq_false, not_false_eq_true, or_true, true_or, s65 hs, s66 hs, p65_0 hp, b1, hb]
    have e1 := ih (p + 1) fu true (by omega) (by omega)
    have e2 := ih (p + 1) fu false (by omega) (by omega)
    have b1' : b01 true = 1 := rfl
    have b0' : b01 false = 0 := rfl
    rw [b1'] at e1
    rw [b0'] at e2
    have hr0 : b01 r ≠ 0 ↔ r = true := by cases r <;> decide
    simp only [k_113_53, ep, e1, e2]
    by_cases cA : B p ≠ 10 ∧ (r = true ∨ B p = 35)
    · have cA' : B p ≠ 10 ∧ (b01 r ≠ 0 ∨ B p = 35) := ⟨cA.1, cA.2.imp hr0.mpr id⟩
      simp only [if_pos cA, if_pos cA']
      split
      · rfl
      split
      · rfl
      split
      · rfl
      split <;> rfl
    · have cA' : ¬ (B p ≠ 10 ∧ (b01 r ≠ 0 ∨ B p = 35)) := fun q => cA ⟨q.1, q.2.imp hr0.mp id⟩
      simp only [if_neg cA, if_neg cA']
      by_cases cB : tBl (B p)
      · simp only [if_pos cB]
        by_cases d1 : B p = 9
        · rw [if_pos d1, if_pos (by decide)]
        rw [if_neg d1]
        by_cases d2 : B p = 10
        · rw [if_pos d2, if_pos (by decide)]
        rw [if_neg d2]
        by_cases d3 : B p = 13
        · rw [if_pos d3, if_pos (by decide)]
        rw [if_neg d3, if_neg (fun q => q (by omega)), if_pos (by decide)]
      · simp only [if_neg cB]
        rw [if_neg (fun q => cB (.inl q)), if_neg (fun q => cB (.inr (.inl q))), if_neg (fun q => cB (.inr (.inr (.inl q)))), if_pos (fun q => cB (.inr (.inr (.inr q)))), if_neg (by decide)]
theorem k_113 (hs : cSs S) (hp : cPs G) (hB : cTx G B n) (hf : 3001 < f) {p : Nat} (hle : p ≤ n) : c113 f 65 (p : Int) (S, G, m) = some ((tsk B n false p : Int), (S, G, m)) := k_113_4 hs hp hB (n - p) p f false (by omega) (by have := hB.2.1; omega)
theorem k_121 {c : Int} {T : xT_} : c121 f c T = some (if tSm c then 1 else 0, T) := by
  unfold c121 c121_16 c121_17
  by_cases c1 : c < 97
  · rw [if_pos c1, if_pos (by decide), if_neg (by omega)]
  · rw [if_neg c1]
    by_cases c2 : 122 < c
    · rw [if_pos c2, if_pos (by decide), if_neg (by omega)]
    · rw [if_neg c2, if_pos (by decide), if_pos (by omega)]
theorem k_122 {c : Int} {T : xT_} : c122 f c T = some (if tGr c then 1 else 0, T) := by
  unfold c122 c122_16 c122_17
  by_cases c1 : c < 65
  · rw [if_pos c1, if_pos (by decide), if_neg (by omega)]
  · rw [if_neg c1]
    by_cases c2 : 90 < c
    · rw [if_pos c2, if_pos (by decide), if_neg (by omega)]
    · rw [if_neg c2, if_pos (by decide), if_pos (by omega)]
theorem k_123 {c : Int} {T : xT_} : c123 f c T = some (if tDi c then 1 else 0, T) := by
  unfold c123 c123_16 c123_17
  by_cases c1 : c < 48
  · rw [if_pos c1, if_pos (by decide), if_neg (by omega)]
  · rw [if_neg c1]
    by_cases c2 : 57 < c
    · rw [if_pos c2, if_pos (by decide), if_neg (by omega)]
    · rw [if_neg c2, if_pos (by decide), if_pos (by omega)]
end
