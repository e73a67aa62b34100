/-! EXPRESSIONS: what one is worth -/
theorem i64_g (a : Int) (h1 : -9223372036854775808 ≤ a) (h2 : a < 9223372036854775808) : (Int64.ofInt a).toInt = a := Int64.toInt_ofInt_of_le h1 h2
theorem bmod_g (a : Int) (h1 : -9223372036854775808 ≤ a) (h2 : a < 9223372036854775808) : a.bmod (2 ^ 64) = a := by
  rw [Int.bmod_eq_of_le]
  · omega
  · omega
theorem xdiv8_g {a b : Int} (ha1 : -10000000000000 ≤ a) (ha2 : a ≤ 10000000000000) (hb1 : -10000000000000 ≤ b) (hb2 : b ≤ 10000000000000) : xdiv8 a b = a.tdiv b := by
  unfold xdiv8
  rw [Int64.toInt_div, i64_g a (by omega) (by omega), i64_g b (by omega) (by omega)]
  have h : (a.tdiv b).natAbs ≤ a.natAbs := by
    rw [Int.natAbs_tdiv]
    exact Nat.div_le_self _ _
  exact bmod_g _ (by omega) (by omega)
theorem xrem8_g {a b : Int} (ha1 : -10000000000000 ≤ a) (ha2 : a ≤ 10000000000000) (hb1 : -10000000000000 ≤ b) (hb2 : b ≤ 10000000000000) : xrem8 a b = a.tmod b := by
  unfold xrem8
  have hd : (a.tdiv b).natAbs ≤ a.natAbs := by
    rw [Int.natAbs_tdiv]
    exact Nat.div_le_self _ _
  have hm : (a.tmod b).natAbs ≤ a.natAbs := by
    rw [Int.natAbs_tmod]
    exact Nat.mod_le _ _
  have e : b * a.tdiv b = a - a.tmod b := by
    have := Int.tmod_def a b
    omega
  have e2 : a.tdiv b * b = a - a.tmod b := by rw [Int.mul_comm]; exact e
  rw [Int64.toInt_sub, Int64.toInt_mul, Int64.toInt_div, i64_g a (by omega) (by omega), i64_g b (by omega) (by omega), bmod_g (a.tdiv b) (by omega) (by omega), e2, bmod_g (a - a.tmod b) (by omega) (by omega), bmod_g _ (by omega) (by omega)]
  omega
theorem xabs8_g {a : Int} (ha1 : -10000000000000 ≤ a) (ha2 : a ≤ 10000000000000) : xabs8 a = (a.natAbs : Int) := by
  unfold xabs8
  by_cases c : 0 < a
  · rw [if_pos c]; omega
  · rw [if_neg c]
    unfold xneg8
    rw [Int64.toInt_neg, i64_g a (by omega) (by omega), bmod_g _ (by omega) (by omega)]
    omega
def qWv (op a b : Int) : Int := if op = 43 then a + b else if op = 45 then a - b else if op = 42 then a * b else if op = 47 then a.tdiv b else a.tmod b
/-- a sign between two values -/
def qWk (op a b : Int) : Option Int := if 2000000000000 ≤ a ∨ 2000000000000 ≤ b ∨ ((op = 47 ∨ op = 37) ∧ b = 0) ∨ 1000000000000 < qWv op a b ∨ qWv op a b < -1000000000000 then none else some (qWv op a b)
section
variable {f : Nat} {G : xG_}
theorem l_267 (a : Int) : g267 f a G = some (if a < 2000000000000 then 0 else 1, G) := by
  unfold g267 g267_13
  by_cases c : a < 2000000000000
  · rw [if_pos c, if_pos c]; rfl
  · rw [if_neg c, if_neg c]; rfl
theorem l_269 {a b : Int} (ha1 : -1000000000000 ≤ a) (ha2 : a < 2000000000000) (hb1 : -1000000000000 ≤ b) (hb2 : b < 2000000000000) : g269 f a b G = some (if 1000000000000 < (a * b).natAbs then 1 else 0, G) := by
  unfold g269 g269_26 g269_27
  by_cases c : a = 0
  · rw [if_pos c, if_pos (Or.inl rfl), c, Int.zero_mul]; rfl
  · have hp : 0 < a.natAbs := by omega
    rw [if_neg c, xabs8_g (by omega) (by omega), xabs8_g (by omega) (by omega), if_neg (by omega), xdiv8_g (by omega) (by omega) (by omega) (by omega)]
    have e1 : Int.tdiv 1000000000000 (a.natAbs : Int) = ((1000000000000 / a.natAbs : Nat) : Int) := rfl
    have e2 : (b.natAbs : Int) ≤ ((1000000000000 / a.natAbs : Nat) : Int) ↔ ¬ 1000000000000 < (a * b).natAbs := by
      rw [Int.natAbs_mul, Int.ofNat_le, Nat.le_div_iff_mul_le hp, Nat.mul_comm]
      omega
    rw [e1]
    by_cases c2 : 1000000000000 < (a * b).natAbs
    · rw [if_neg (fun h => (e2.mp h) c2), if_pos c2]; rfl
    · rw [if_pos (e2.mpr c2), if_neg c2]; rfl
theorem l_268_112 {y : Int} : g268_112 f y G = some (y, xup2 G 0 42 (if 1000000000000 < y ∨ y < -1000000000000 then 1 else 0)) := by
  unfold g268_112 g268_133 g268_138
  by_cases c1 : 1000000000000 < y
  · rw [if_pos c1, if_pos (Or.inl c1), if_pos (Or.inr rfl)]; rfl
  · rw [if_neg c1]
    by_cases c2 : -1000000000000 ≤ y
    · have c3 : ¬ (1000000000000 < y ∨ y < -1000000000000) := by omega
      rw [if_pos c2, if_neg c3, if_pos (Or.inl rfl)]; rfl
    · have c3 : 1000000000000 < y ∨ y < -1000000000000 := by omega
      rw [if_neg c2, if_pos c3, if_pos (Or.inr rfl)]; rfl
theorem l_268 {op a b : Int} (hop : wSg op) (ha : vOk a) (hb : vOk b) : ∃ v, g268 f op a b G = some (v, xup2 G 0 42 (if (qWk op a b).isSome then 0 else 1)) ∧ ∀ w, qWk op a b = some w → v = w := by
  unfold vOk at ha hb
  unfold wSg at hop
  have h0 : ¬ ¬ ((0 : Int), G).1 = 0 := fun k => k rfl
  have h1 : ¬ ((1 : Int), G).1 = 0 := fun h => absurd (show (1 : Int) = 0 from h) (by decide)
  have non : qWk op a b = none → ∀ v, g268 f op a b G = some (v, xup2 G 0 42 1) → ∃ v, g268 f op a b G = some (v, xup2 G 0 42 (if (qWk op a b).isSome then 0 else 1)) ∧ ∀ w, qWk op a b = some w → v = w := fun e v h => ⟨v, by rw [e]; exact h, fun w hw => by rw [e] at hw; cases hw⟩
  by_cases c1 : a < 2000000000000
  · by_cases c2 : b < 2000000000000
    · have fin : ∀ y : Int, y = qWv op a b → ¬ ((op = 47 ∨ op = 37) ∧ b = 0) → g268 f op a b G = g268_112 f y G → ∃ v, g268 f op a b G = some (v, xup2 G 0 42 (if (qWk op a b).isSome then 0 else 1)) ∧ ∀ w, qWk op a b = some w → v = w := by
        intro y hy hz h
        rw [l_268_112] at h
        by_cases c3 : 1000000000000 < y ∨ y < -1000000000000
        · rw [if_pos c3] at h
          exact non (by unfold qWk; rw [if_pos (by rw [← hy]; omega)]) y h
        · rw [if_neg c3] at h
          have e : qWk op a b = some y := by unfold qWk; rw [← hy, if_neg (by omega)]
          refine ⟨y, by rw [e]; exact h, fun w hw => ?_⟩
          rw [e] at hw
          injection hw
      have e34 : g268 f op a b G = if op = 47 ∨ op = 37 then g268_27 f op a b G else g268_34 f op a b G := by
        unfold g268
        rw [l_267, if_pos c1, Option.bind_some, if_neg h0]
        show Option.bind (g267 f b G) _ = _
        rw [l_267, if_pos c2, Option.bind_some, if_neg h0]
        by_cases c4 : op = 47
        · rw [if_pos c4, if_pos (Or.inl c4)]
        · rw [if_neg c4]
          by_cases c5 : op = 37
          · rw [if_neg (fun h => h c5), if_pos (Or.inr c5)]
          · rw [if_pos c5, if_neg (by omega)]
      by_cases c3 : op = 47 ∨ op = 37
      · rw [if_pos c3] at e34
        by_cases c4 : b = 0
        · refine non (by unfold qWk; rw [if_pos (by omega)]) 0 ?_
          rw [e34]
          unfold g268_27
          rw [if_pos c4]
          rfl
        · unfold g268_27 g268_34 g268_56 at e34
          rw [if_neg c4, if_pos (by omega), if_pos (by omega), if_pos (by omega), if_pos (by omega), if_neg c4, if_neg c4] at e34
          rcases c3 with c3 | c3
          · rw [if_neg (fun h => h c3), xdiv8_g (by omega) (by omega) (by omega) (by omega)] at e34
            exact fin _ (by unfold qWv; rw [if_neg (by omega), if_neg (by omega), if_neg (by omega), if_pos c3]) (by omega) e34
          · rw [if_pos (by omega), xrem8_g (by omega) (by omega) (by omega) (by omega)] at e34
            exact fin _ (by unfold qWv; rw [if_neg (by omega), if_neg (by omega), if_neg (by omega), if_neg (by omega)]) (by omega) e34
      · rw [if_neg c3] at e34
        by_cases c4 : op = 42
        · unfold g268_34 g268_56 at e34
          have e2 : qWv op a b = a * b := by unfold qWv; rw [if_neg (by omega), if_neg (by omega), if_pos c4]
          rw [if_neg (fun h => h c4), l_269 (by omega) c1 (by omega) c2, Option.bind_some] at e34
          by_cases c5 : 1000000000000 < (a * b).natAbs
          · rw [if_pos c5, if_neg h1] at e34
            refine non (by unfold qWk; rw [e2, if_pos (by omega)]) 0 ?_
            rw [e34]
            rfl
          · rw [if_neg c5] at e34
            have e35 : g268 f op a b G = g268_112 f (xwl (a * b)) G := by
              rw [e34, if_pos rfl, if_pos (by omega), if_pos (by omega), if_neg (fun h => h c4)]
            rw [xwl_g _ (by omega) (by omega)] at e35
            exact fin _ e2.symm (by omega) e35
        · unfold g268_34 g268_56 at e34
          rw [if_pos c4] at e34
          by_cases c5 : op = 43
          · rw [if_neg (fun h => h c5), xwl_g _ (by omega) (by omega)] at e34
            exact fin _ (by unfold qWv; rw [if_pos c5]) (by omega) e34
          · rw [if_pos c5, if_neg (by omega), xwl_g _ (by omega) (by omega)] at e34
            exact fin _ (by unfold qWv; rw [if_neg c5, if_pos (by omega)]) (by omega) e34
    · refine non (by unfold qWk; rw [if_pos (by omega)]) 0 ?_
      unfold g268
      rw [l_267, if_pos c1, Option.bind_some, if_neg h0]
      show Option.bind (g267 f b G) _ = _
      rw [l_267, if_neg c2, Option.bind_some, if_pos h1]
      rfl
  · refine non (by unfold qWk; rw [if_pos (by omega)]) 0 ?_
    unfold g268
    rw [l_267, if_neg c1, Option.bind_some, if_pos h1]
    rfl
theorem qWk_ok {op a b w : Int} (h : qWk op a b = some w) : vOk w := by
  unfold qWk at h
  by_cases c : 2000000000000 ≤ a ∨ 2000000000000 ≤ b ∨ ((op = 47 ∨ op = 37) ∧ b = 0) ∨ 1000000000000 < qWv op a b ∨ qWv op a b < -1000000000000
  · rw [if_pos c] at h; cases h
  · rw [if_neg c] at h
    injection h with h
    unfold vOk
    omega
end
