/-! THE CLASS: unsafePlace() -/
section
variable {f u nv l b tn : Nat} {S : Nat → Nat × Nat × Nat} {G : xG_} {m : Nat × Nat} {K : pCd} {Ls : List pLt} {V : List (Int × Nat)} {r4 : Nat → Int → Int → xT_ → Option (Int × xT_)} {r12 : Nat → Int → Int → Int → xT_ → Option (Int × xT_)} {n : Nat} {v : Int}
theorem st_95a (us : S u = (1, 6, 20)) (h8 : G u 8 = (n : Int)) : c95_12b r4 r12 f u (b : Int) (tn : Int) (n : Int) (S, G, m) = r4 u (b : Int) (xwr ((tn : Int) + 1)) (S, G, m) := by
  unfold c95_12b
  simp (disch := omega) only [cq_gi, cq_gr, cq_a, cq_s, cq_p, cq_pr, cq_is, cq_ar, cq_ab, cq_ln, xq_nz, Option.bind_some, xup2_n, xup2_s, Int.toNat_natCast, Int.reduceToNat, if_pos, if_neg, true_and, and_true, and_self, eq_self, if_true, reduceIte, not_true_eq_false, not_false_eq_true, or_true, true_or, us, h8]
theorem st_95b (us : S u = (1, 6, 20)) (h8 : G u 8 = (n : Int)) (hl : l < n) (e : c94 f u (l : Int) (b : Int) (S, G, m) = some (v, (S, G, m))) : c95_12b r4 r12 f u (b : Int) (tn : Int) (l : Int) (S, G, m) = if v = -1 then r12 u (b : Int) (tn : Int) (xwr ((l : Int) + 1)) (S, G, m) else r12 u v (tn : Int) (xwr ((l : Int) + 1)) (S, G, m) := by
  by_cases c : v = -1
  · rw [if_pos c]
    rw [c] at e
    unfold c95_12b c95_40
    simp (disch := omega) only [cq_gi, cq_gr, cq_a, cq_s, cq_p, cq_pr, cq_is, cq_ar, cq_ab, cq_ln, xq_nz, Option.bind_some, xup2_n, xup2_s, Int.toNat_natCast, Int.reduceToNat, if_pos, if_neg, true_and, and_true, and_self, eq_self, if_true, reduceIte, not_true_eq_false, not_false_eq_true, or_true, true_or, us, h8, e]
  · rw [if_neg c]
    unfold c95_12b c95_40
    simp (disch := omega) only [cq_gi, cq_gr, cq_a, cq_s, cq_p, cq_pr, cq_is, cq_ar, cq_ab, cq_ln, xq_nz, Option.bind_some, xup2_n, xup2_s, Int.toNat_natCast, Int.reduceToNat, if_pos, if_neg, true_and, and_true, and_self, eq_self, if_true, reduceIte, not_true_eq_false, not_false_eq_true, or_true, true_or, us, h8, e, c]
theorem k_95i (hf : 3010 < f) (hR : cRq S G u K Ls) (hw : ∀ y ∈ Ls, wLv nv y) (hnv : nv ≤ 8) : ∀ (d l fu b : Nat), l + d = Ls.length → d < fu → b < 2 ^ 8 → c95_12 r4 f fu u (b : Int) (tn : Int) (l : Int) (S, G, m) = r4 u ((qCl (Ls.drop l) b : Nat) : Int) (xwr ((tn : Int) + 1)) (S, G, m) := by
  have us := hR.1.1
  have h8 := hR.2.2.2.1.1
  have hl8 := hR.2.2.2.1.2.1
  intro d
  induction d with
  | zero =>
    intro l fu b h1 h2 hb
    obtain ⟨fu, rfl⟩ : ∃ t, fu = t + 1 := ⟨fu - 1, by omega⟩
    have : l = Ls.length := by omega
    rw [this, List.drop_of_length_le (Nat.le_refl _)]
    show c95_12b r4 (c95_12 r4 f fu) f u _ _ _ _ = _
    rw [st_95a us h8]
    rfl
  | succ d ih =>
    intro l fu b h1 h2 hb
    obtain ⟨fu, rfl⟩ : ∃ t, fu = t + 1 := ⟨fu - 1, by omega⟩
    have hll : l < Ls.length := by omega
    have ek : xwr ((l : Int) + 1) = ((l + 1 : Nat) : Int) := by rw [xwr_g _ (by omega) (by omega)]; omega
    have hwl : wLv nv (Ls.getD l dLt) := by rw [getD_e hll]; exact hw _ (List.getElem_mem hll)
    have e94 := k_94 (f := f) (m := m) (b := b) hf hR (by omega) (hR.2.2.2.1.2.2 l hll) hwl hnv hb
    rw [show Ls.getD l (0, 0, 0, [], [], []) = Ls.getD l dLt from rfl] at e94
    have ed : qCl (Ls.drop l) b = qCl (Ls.drop (l + 1)) (qC1 (Ls.getD l dLt) b) := by
      rw [List.drop_eq_getElem_cons hll, getD_e hll]
      rfl
    show c95_12b r4 (c95_12 r4 f fu) f u _ _ _ _ = _
    rw [st_95b us h8 hll e94, ek, ed]
    obtain ⟨_, u2⟩ := qC1_up hwl hnv hb
    unfold qC1 at u2 ⊢
    cases hq : qBh (Ls.getD l dLt) b with
    | none =>
      rw [if_pos (show oNI none = -1 from rfl)]
      exact ih (l + 1) fu b (by omega) (by omega) hb
    | some y =>
      rw [hq] at u2
      rw [if_neg (by show ¬ (y : Int) = -1; omega)]
      exact ih (l + 1) fu y (by omega) (by omega) u2
theorem k_95t (hf : 3010 < f) (hR : cRq S G u K Ls) (hw : ∀ y ∈ Ls, wLv nv y) (hnv : nv ≤ 8) : ∀ (k tn fu b : Nat), tn + k = 9 → k < fu → b < 2 ^ 8 → c95_4 f fu u (b : Int) (tn : Int) (S, G, m) = c95_55 f f u ((qCi Ls k b : Nat) : Int) ((0 : Nat) : Int) (S, G, m) := by
  have hl8 := hR.2.2.2.1.2.1
  intro k
  induction k with
  | zero =>
    intro tn fu b h1 h2 hb
    obtain ⟨fu, rfl⟩ : ∃ t, fu = t + 1 := ⟨fu - 1, by omega⟩
    show c95_4b (c95_4 f fu) f u _ _ _ = _
    unfold c95_4b
    rw [if_pos (by omega)]
    rfl
  | succ k ih =>
    intro tn fu b h1 h2 hb
    obtain ⟨fu, rfl⟩ : ∃ t, fu = t + 1 := ⟨fu - 1, by omega⟩
    have ek : xwr ((tn : Int) + 1) = ((tn + 1 : Nat) : Int) := by rw [xwr_g _ (by omega) (by omega)]; omega
    show c95_4b (c95_4 f fu) f u _ _ _ = _
    unfold c95_4b
    rw [if_neg (by omega)]
    have e := k_95i (f := f) (m := m) (tn := tn) (r4 := c95_4 f fu) hf hR hw hnv Ls.length 0 f b (by omega) (by omega) hb
    rw [List.drop_zero, ek] at e
    have e' : c95_12 (c95_4 f fu) f f u (b : Int) (tn : Int) 0 (S, G, m) = c95_4 f fu u ((qCl Ls b : Nat) : Int) ((tn + 1 : Nat) : Int) (S, G, m) := e
    rw [e']
    exact ih (tn + 1) fu (qCl Ls b) (by omega) (by omega) (qCl_up hnv hw hb).2
theorem st_95v {k : Nat} {pl : Int} {r : Nat → Int → Int → xT_ → Option (Int × xT_)} (u2 : 278 < u) (hk : k < 8) (us : S u = (1, 6, 20)) (us1 : S (u + 1) = (2, 3, 8)) (w7 : G u 7 = ((u + 1 : Nat) : Int)) (h6 : G u 6 = (n : Int)) (hkn : k < n) (hp : G (u + 1) k = pl) : c95_55b r f u (b : Int) (k : Int) (S, G, m) = if xand (xshr (b : Int) (k : Int)) 1 = 0 then some (pl, (S, G, m)) else r u (b : Int) (xwr ((k : Int) + 1)) (S, G, m) := by
  by_cases c : xand (xshr (b : Int) (k : Int)) 1 = 0
  · rw [if_pos c]
    unfold c95_55b
    simp (disch := omega) only [cq_gi, cq_gr, cq_a, cq_s, cq_p, cq_pr, cq_is, cq_ar, cq_ab, cq_ln, xq_nz, Option.bind_some, xup2_n, xup2_s, Int.toNat_natCast, Int.reduceToNat, if_pos, if_neg, true_and, and_true, and_self, eq_self, if_true, reduceIte, not_true_eq_false, not_false_eq_true, or_true, true_or, us, us1, w7, h6, hp, c]
  · rw [if_neg c]
    unfold c95_55b
    simp (disch := omega) only [cq_gi, cq_gr, cq_a, cq_s, cq_p, cq_pr, cq_is, cq_ar, cq_ab, cq_ln, xq_nz, Option.bind_some, xup2_n, xup2_s, Int.toNat_natCast, Int.reduceToNat, if_pos, if_neg, true_and, and_true, and_self, eq_self, if_true, reduceIte, not_true_eq_false, not_false_eq_true, or_true, true_or, us, h6, c]
theorem st_95w {r : Nat → Int → Int → xT_ → Option (Int × xT_)} (us : S u = (1, 6, 20)) (h6 : G u 6 = (n : Int)) : c95_55b r f u (b : Int) (n : Int) (S, G, m) = some (-1, (S, G, m)) := by
  unfold c95_55b
  simp (disch := omega) only [cq_gi, cq_gr, cq_a, cq_s, cq_p, cq_pr, cq_is, cq_ar, cq_ab, cq_ln, xq_nz, Option.bind_some, xup2_n, xup2_s, Int.toNat_natCast, Int.reduceToNat, if_pos, if_neg, true_and, and_true, and_self, eq_self, if_true, reduceIte, not_true_eq_false, not_false_eq_true, or_true, true_or, us, h6]
/-- the first VARIABLE that is not bound -/
def uPl (V : List (Int × Nat)) (b : Nat) (k : Nat) (x : Int) : Prop := x = -1 ∧ (∀ v, k ≤ v → v < V.length → b.testBit v = true) ∨ ∃ v, k ≤ v ∧ v < V.length ∧ b.testBit v = false ∧ (∀ j, k ≤ j → j < v → b.testBit j = true) ∧ x = ((V.getD v (0, 0)).2 : Int)
theorem k_95v (hR : cRq S G u K Ls) (hb : b < 2 ^ 8) (h6 : G u 6 = (V.length : Int)) (hV : V.length ≤ 8) (hp : ∀ v, v < V.length → G (u + 1) v = ((V.getD v (0, 0)).2 : Int)) : ∀ (d k fu : Nat), k + d = V.length → d < fu → ∃ x, c95_55 f fu u (b : Int) (k : Int) (S, G, m) = some (x, (S, G, m)) ∧ uPl V b k x := by
  have us := hR.1.1
  have us1 := hR.1.2.1
  have w7 := hR.2.1.1
  have u2 := hR.2.2.2.2.1
  intro d
  induction d with
  | zero =>
    intro k fu h1 h2
    obtain ⟨fu, rfl⟩ : ∃ t, fu = t + 1 := ⟨fu - 1, by omega⟩
    have : k = V.length := by omega
    rw [this]
    exact ⟨-1, st_95w (r := c95_55 f fu) us h6, .inl ⟨rfl, fun v z1 z2 => by omega⟩⟩
  | succ d ih =>
    intro k fu h1 h2
    obtain ⟨fu, rfl⟩ : ∃ t, fu = t + 1 := ⟨fu - 1, by omega⟩
    have ek : xwr ((k : Int) + 1) = ((k + 1 : Nat) : Int) := by rw [xwr_g _ (by omega) (by omega)]; omega
    have e : c95_55 f (fu + 1) u (b : Int) (k : Int) (S, G, m) = _ := st_95v (r := c95_55 f fu) u2 (by omega) us us1 w7 h6 (by omega) (hp k (by omega))
    have hbit := xbit0 (a := b) (m := k) (by omega) (by omega)
    rw [e, ek]
    by_cases c : xand (xshr (b : Int) (k : Int)) 1 = 0
    · rw [if_pos c]
      exact ⟨_, rfl, .inr ⟨k, Nat.le_refl _, by omega, hbit.mp c, fun j z1 z2 => by omega, rfl⟩⟩
    · rw [if_neg c]
      have hb1 : b.testBit k = true := by cases hq : b.testBit k with
        | true => rfl
        | false => exact absurd (hbit.mpr hq) c
      obtain ⟨x, x1, x2⟩ := ih (k + 1) fu (by omega) (by omega)
      refine ⟨x, x1, ?_⟩
      rcases x2 with ⟨a1, a2⟩ | ⟨v, a1, a2, a3, a4, a5⟩
      · refine .inl ⟨a1, fun v z1 z2 => ?_⟩
        by_cases cv : v = k
        · rw [cv]; exact hb1
        · exact a2 v (by omega) z2
      · refine .inr ⟨v, by omega, a2, a3, fun j z1 z2 => ?_, a5⟩
        by_cases cv : j = k
        · rw [cv]; exact hb1
        · exact a4 j (by omega) z2
/-- unsafePlace() -/
theorem k_95 {np : Nat} (hf : 3010 < f) (hR : cRq S G u K Ls) (hw : ∀ y ∈ Ls, wLt np V.length y) (h6 : G u 6 = (V.length : Int)) (hV : V.length ≤ 8) (hp : ∀ v, v < V.length → G (u + 1) v = ((V.getD v (0, 0)).2 : Int)) : ∃ x, c95 f u (S, G, m) = some (x, (S, G, m)) ∧ uPl V (qBd Ls) 0 x := by
  have hlv : ∀ y ∈ Ls, wLv V.length y := fun y hy => (hw y hy).lv
  have e1 := k_95t (f := f) (m := m) hf hR hlv hV 9 0 f 0 rfl (by omega) (by decide)
  rw [qCi_bd hw hV] at e1
  obtain ⟨x, x1, x2⟩ := k_95v (f := f) (m := m) hR (qBd_lt hw hV) h6 hV hp V.length 0 f (by omega) (by omega)
  exact ⟨x, e1.trans x1, x2⟩
end
