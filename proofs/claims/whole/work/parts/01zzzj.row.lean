/-! WAYS of the reference: a row's values are bound -/
theorem qT_in : ∀ (T : pCd) (k : Nat), (qT T).testBit k = true ↔ ∃ x ∈ T, x.1 = 1 ∧ x.2.toNat = k
  | [], k => by
    have : (qT []).testBit k = (0 : Nat).testBit k := rfl
    rw [this, Nat.zero_testBit]
    simp
  | x :: T, k => by
    have e : (qT (x :: T)).testBit k = ((if x.1 = 1 then 2 ^ x.2.toNat else 0) ||| qT T).testBit k := rfl
    rw [e, Nat.testBit_or, Bool.or_eq_true, qT_in T k]
    constructor
    · rintro (h | ⟨y, h1, h2⟩)
      · by_cases c : x.1 = 1
        · rw [if_pos c, Nat.testBit_two_pow] at h
          exact ⟨x, List.mem_cons_self, c, of_decide_eq_true h⟩
        · rw [if_neg c, Nat.zero_testBit] at h
          cases h
      · exact ⟨y, List.mem_cons_of_mem _ h1, h2⟩
    · rintro ⟨y, h1, h2, h3⟩
      rcases List.mem_cons.mp h1 with h1 | h1
      · refine .inl ?_
        rw [← h1, if_pos h2, Nat.testBit_two_pow]
        exact decide_eq_true h3
      · exact .inr ⟨y, h1, h2, h3⟩
theorem qT_get {T : pCd} {k : Nat} : (qT T).testBit k = true ↔ ∃ j, j < T.length ∧ (T.getD j (0, 0)).1 = 1 ∧ (T.getD j (0, 0)).2.toNat = k := by
  rw [qT_in]
  constructor
  · rintro ⟨x, h1, h2⟩
    obtain ⟨j, hj, rfl⟩ := List.getElem_of_mem h1
    exact ⟨j, hj, by rw [getD_e hj]; exact h2⟩
  · rintro ⟨j, hj, h2⟩
    exact ⟨T.getD j (0, 0), by rw [getD_e hj]; exact List.getElem_mem hj, h2⟩
theorem qA_ap (l l' : List pLt) : qA (l ++ l') = qA l ||| qA l' := by
  induction l with
  | nil => show qA l' = 0 ||| qA l'; rw [Nat.zero_or]
  | cons x l ih =>
    show (if x.1 = 1 then qT x.2.2.2.1 else 0) ||| qA (l ++ l') = ((if x.1 = 1 then qT x.2.2.2.1 else 0) ||| qA l) ||| qA l'
    rw [ih, Nat.or_assoc]
theorem vOk_0 : vOk 0 := .inl ⟨by decide, by decide⟩
section
variable {f p n x i m nv : Nat} {R : List pRw} {T : pCd} {q : Int → xG_ → Option xG_} {r79 : Int → Int → Int → Int → Int → xG_ → Option xG_}
theorem l_275_135 {z j : Nat} {xs : List Int} (hp : p < 16) (hj : j < 520) (hx : x < 200) (hz : z < 20) (hw : ∀ y ∈ T, wT1 nv y) (hnv : nv ≤ 8) (hl : T.length ≤ 4) (hvx : ∀ k, vOk (xs.getD k 0)) : ∀ (d k fu m1 : Nat) (G : xG_), k + d = T.length → d < fu → rTm G x T → (∀ j', j' < 4 → G 107 ((p * 520 + j) * 4 + j') = xs.getD j' 0) → rBn G m1 nv → pFit m1 (G 110) T xs →
    ∃ G1, g275_135 q r79 f fu (z : Int) (x : Int) (p : Int) (m : Int) (j : Int) (k : Int) G = (q ((z + 1 : Nat) : Int) G1).bind (fun R103 => r79 (z : Int) (x : Int) (p : Int) (m : Int) ((j + 1 : Nat) : Int) (xup2 R103 0 37 (m : Int))) ∧
      rBn G1 (m1 ||| qT (T.drop k)) nv ∧ (∀ k', k ≤ k' → k' < T.length → (T.getD k' (0, 0)).1 = 1 → G1 110 (T.getD k' (0, 0)).2.toNat = xs.getD k' 0) ∧ (∀ b, m1.testBit b = true → G1 110 b = G 110 b) ∧ ∀ o b, ¬ (o = 0 ∧ b = 37) → o ≠ 110 → G1 o b = G o b := by
  intro d
  induction d with
  | zero =>
    intro k fu m1 G h1 h2 hT hr hm hF
    obtain ⟨fu, rfl⟩ : ∃ t, fu = t + 1 := ⟨fu - 1, by omega⟩
    obtain ⟨t1, t2, t3, t4⟩ := hT
    have e1 : xwr ((z : Int) + 1) = ((z + 1 : Nat) : Int) := by rw [xwr_g _ (by omega) (by omega)]; omega
    have e2 : xwr ((j : Int) + 1) = ((j + 1 : Nat) : Int) := by rw [xwr_g _ (by omega) (by omega)]; omega
    have ed : m1 ||| qT (T.drop k) = m1 := by
      rw [List.drop_of_length_le (by omega)]
      show m1 ||| 0 = m1
      exact Nat.or_zero m1
    refine ⟨G, ?_, by rw [ed]; exact hm, fun k' _ _ => by omega, fun _ _ => rfl, fun _ _ _ _ => rfl⟩
    show g275_135b q r79 (g275_135 q r79 f fu) f _ _ _ _ _ _ _ = _
    unfold g275_135b g275_241
    rw [if_pos (by omega), Int.toNat_natCast]
    show (if G 29 x ≤ (k : Int) then _ else _) = _
    rw [t2, if_pos (by omega), e1, e2]
    cases q ((z + 1 : Nat) : Int) G <;> rfl
  | succ d ih =>
    intro k fu m1 G h1 h2 hT hr hm hF
    obtain ⟨fu, rfl⟩ : ∃ t, fu = t + 1 := ⟨fu - 1, by omega⟩
    obtain ⟨t1, t2, t3, t4⟩ := hT
    have hk : k < T.length := by omega
    obtain ⟨a1, a2⟩ := t4 k hk
    have hwk : wT1 nv (T.getD k (0, 0)) := hw _ (by rw [getD_e hk]; exact List.getElem_mem hk)
    have hd : T.drop k = T.getD k (0, 0) :: T.drop (k + 1) := by rw [List.drop_eq_getElem_cons hk, getD_e hk]
    have e1 : xwr (xwr ((x : Int) * 4) + (k : Int)) = ((4 * x + k : Nat) : Int) := by
      rw [xwr_g ((x : Int) * 4) (by omega) (by omega), xwr_g _ (by omega) (by omega)]; omega
    have e2 : xwr ((((p * 520 + j) * 4 : Nat) : Int) + (k : Int)) = (((p * 520 + j) * 4 + k : Nat) : Int) := by rw [xwr_g _ (by omega) (by omega)]; omega
    have e3 : xwr ((k : Int) + 1) = ((k + 1 : Nat) : Int) := by rw [xwr_g _ (by omega) (by omega)]; omega
    have h44 : 0 ≤ ((4 * x + k : Nat) : Int) ∧ ((4 * x + k : Nat) : Int) < 800 := by omega
    by_cases c1 : (T.getD k (0, 0)).1 = 1
    · obtain ⟨v, hv⟩ : ∃ v : Nat, (T.getD k (0, 0)).2 = (v : Int) := ⟨(T.getD k (0, 0)).2.toNat, by rcases hwk with y | y | y <;> omega⟩
      have hv8 : v < nv := by rcases hwk with y | y | y <;> omega
      have a2' : G 34 (4 * x + k) = (v : Int) := by rw [a2 (by omega)]; exact hv
      have ev : xwr (v : Int) = (v : Int) := xwr_g _ (by omega) (by omega)
      have h37 : xup2 G 110 v (xs.getD k 0) 0 37 = (m1 : Int) := by rw [xup2_n (by omega)]; exact hm.1
      have step : g275_135 q r79 f (fu + 1) (z : Int) (x : Int) (p : Int) (m : Int) (j : Int) (k : Int) G = g275_135 q r79 f fu (z : Int) (x : Int) (p : Int) (m : Int) (j : Int) ((k + 1 : Nat) : Int) (xup2 (xup2 G 110 v (xs.getD k 0)) 0 37 ((m1 ||| 2 ^ v : Nat) : Int)) := by
        show g275_135b q r79 (g275_135 q r79 f fu) f _ _ _ _ _ _ _ = _
        unfold g275_135b g275_222
        rw [if_pos (by omega)]
        simp only [Nat.reduceAdd, Int.toNat_natCast]
        rw [t2, if_neg (by omega)]
        simp only [e1, if_pos h44, Int.toNat_natCast]
        rw [a1, if_pos c1, l_261 hp (by omega), Option.bind_some]
        simp only [e2]
        rw [if_pos (by omega), a2', ev, if_pos (by omega), Int.toNat_natCast, Int.toNat_natCast, hr k (by omega), Option.bind_some, h37, xorb (by have := hm.2.1; omega) (by omega), Option.bind_some, e3]
      have vk := (hF k hk).2.1 c1
      have v3 := (hF k hk).2.2 c1
      rw [hv, Int.toNat_natCast] at vk
      have hm' : rBn (xup2 (xup2 G 110 v (xs.getD k 0)) 0 37 ((m1 ||| 2 ^ v : Nat) : Int)) (m1 ||| 2 ^ v) nv := by
        refine ⟨xup2_s _ _ _ _, or_lt (k := 8) hm.2.1 (by omega), fun b hb => ?_⟩
        rw [xup2_n (by omega)]
        by_cases cb : b = v
        · rw [cb, xup2_s]
          exact ⟨hv8, hvx k⟩
        · rw [xup2_n (by omega)]
          rw [or_bit, decide_eq_false (fun q => cb q.symm), Bool.or_false] at hb
          exact hm.2.2 b hb
      have hF' : pFit (m1 ||| 2 ^ v) (xup2 (xup2 G 110 v (xs.getD k 0)) 0 37 ((m1 ||| 2 ^ v : Nat) : Int) 110) T xs := by
        intro k' hk'
        obtain ⟨f1, f2, f3⟩ := hF k' hk'
        refine ⟨f1, fun y1 y2 => ?_, f3⟩
        rw [xup2_n (by omega)]
        by_cases cb : (T.getD k' (0, 0)).2.toNat = v
        · rw [cb, xup2_s]
          have hwk' : wT1 nv (T.getD k' (0, 0)) := hw _ (by rw [getD_e hk']; exact List.getElem_mem hk')
          have e2' : (T.getD k' (0, 0)).2 = (T.getD k (0, 0)).2 := by rcases hwk' with y | y | y <;> omega
          by_cases ckk : k' < k
          · exact (v3 k' ckk y1 e2').symm
          · by_cases ck2 : k' = k
            · rw [ck2]
            · exact f3 y1 k (by omega) c1 e2'.symm
        · rw [xup2_n (by omega)]
          rw [or_bit, decide_eq_false (fun q => cb q.symm), Bool.or_false] at y2
          exact f2 y1 y2
      obtain ⟨G1, u1, u2, u3, u4, u5⟩ := ih (k + 1) fu (m1 ||| 2 ^ v) _ (by omega) (by omega) ⟨t1, by rw [xup2_n (by omega), xup2_n (by omega)]; exact t2, t3, fun b hb => by rw [xup2_n (by omega), xup2_n (by omega), xup2_n (by omega), xup2_n (by omega)]; exact t4 b hb⟩ (fun b hb => by rw [xup2_n (by omega), xup2_n (by omega)]; exact hr b hb) hm' hF'
      have em : m1 ||| qT (T.drop k) = (m1 ||| 2 ^ v) ||| qT (T.drop (k + 1)) := by
        rw [hd]
        show m1 ||| ((if (T.getD k (0, 0)).1 = 1 then 2 ^ (T.getD k (0, 0)).2.toNat else 0) ||| qT (T.drop (k + 1))) = _
        rw [if_pos c1, hv, Int.toNat_natCast, Nat.or_assoc]
      refine ⟨G1, by rw [step]; exact u1, by rw [em]; exact u2, fun k' y1 y2 y3 => ?_, fun b hb => ?_, fun o b y1 y2 => by rw [u5 o b y1 y2, xup2_n y1, xup2_n (fun q => y2 q.1)]⟩
      · by_cases ck : k' = k
        · rw [ck, hv, Int.toNat_natCast, u4 v (by rw [or_bit]; simp), xup2_n (by omega), xup2_s]
        · exact u3 k' (by omega) y2 y3
      · rw [u4 b (by rw [or_bit, hb, Bool.true_or]), xup2_n (by omega)]
        by_cases cb : b = v
        · rw [cb, xup2_s]
          rw [cb] at hb
          exact (vk hb).symm
        · rw [xup2_n (by omega)]
    · have step : g275_135 q r79 f (fu + 1) (z : Int) (x : Int) (p : Int) (m : Int) (j : Int) (k : Int) G = g275_135 q r79 f fu (z : Int) (x : Int) (p : Int) (m : Int) (j : Int) ((k + 1 : Nat) : Int) G := by
        show g275_135b q r79 (g275_135 q r79 f fu) f _ _ _ _ _ _ _ = _
        unfold g275_135b g275_222
        rw [if_pos (by omega)]
        simp only [Nat.reduceAdd, Int.toNat_natCast]
        rw [t2, if_neg (by omega)]
        simp only [e1, if_pos h44, Int.toNat_natCast]
        rw [a1, if_neg c1, e3]
      obtain ⟨G1, u1, u2, u3, u4, u5⟩ := ih (k + 1) fu m1 G (by omega) (by omega) ⟨t1, t2, t3, t4⟩ hr hm hF
      have em : m1 ||| qT (T.drop k) = m1 ||| qT (T.drop (k + 1)) := by
        rw [hd]
        show m1 ||| ((if (T.getD k (0, 0)).1 = 1 then 2 ^ (T.getD k (0, 0)).2.toNat else 0) ||| qT (T.drop (k + 1))) = _
        rw [if_neg c1, Nat.zero_or]
      refine ⟨G1, by rw [step]; exact u1, by rw [em]; exact u2, fun k' y1 y2 y3 => ?_, u4, u5⟩
      by_cases ck : k' = k
      · rw [ck] at y3; exact absurd y3 c1
      · exact u3 k' (by omega) y2 y3
end
