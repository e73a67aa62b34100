/-! THE CLASS: makePlan(), its first half -/
/-- what is bound behind LITERALS in this order -/
def plB (Ls : List pLt) : List Nat → Nat → Option Nat
  | [], b => some b
  | p :: r, b => (qBh (Ls.getD p dLt) b).bind (plB Ls r)
theorem plB_ap (Ls : List pLt) (p : Nat) : ∀ (pl : List Nat) (b : Nat), plB Ls (pl ++ [p]) b = (plB Ls pl b).bind (qBh (Ls.getD p dLt))
  | [], b => by
    show (qBh (Ls.getD p dLt) b).bind (plB Ls []) = qBh (Ls.getD p dLt) b
    cases qBh (Ls.getD p dLt) b <;> rfl
  | q :: r, b => by
    show (qBh (Ls.getD q dLt) b).bind (plB Ls (r ++ [p])) = ((qBh (Ls.getD q dLt) b).bind (plB Ls r)).bind _
    cases qBh (Ls.getD q dLt) b with
    | none => rfl
    | some y => exact plB_ap Ls p r y
theorem qBh_some {x : pLt} {b y nv : Nat} (hw : wLv nv x) (hnv : nv ≤ 8) (hb : b < 2 ^ 8) (h : qBh x b = some y) : y = b ||| qLv x ∧ y < 2 ^ 8 := by
  have e : y = b ||| qLv x := by
    unfold qBh at h
    split at h
    · cases h; rfl
    · split at h
      · cases h; rfl
      · cases h
  exact ⟨e, by rw [e]; exact Nat.or_lt_two_pow hb (qLv_8 hw hnv)⟩
/-- the best LITERAL so far -/
def isBe (Ls : List pLt) (pm b : Nat) (be bc : Int) (l : Nat) : Prop := be = -1 ∧ bc = -1 ∧ (∀ j, j < l → pm.testBit j = false → qBh (Ls.getD j dLt) b = none) ∨ ∃ p : Nat, be = p ∧ p < Ls.length ∧ pm.testBit p = false ∧ qBh (Ls.getD p dLt) b ≠ none
section
variable {f u s nv l pm b st : Nat} {S : Nat → Nat × Nat × Nat} {G G' : xG_} {m : Nat × Nat} {K E : pCd} {Ls : List pLt} {x : pLt} {be bc : Int} {r6 : Nat → Int → Int → Int → xT_ → Option (xT_)} {r23 : Nat → Int → Int → Int → Int → Int → Int → xT_ → Option (xT_)}
theorem cRq.pl (h : cRq S G u K Ls) (h0 : ∀ a j, a ≠ u + 9 → a ≠ u + 10 → G' a j = G a j) : cRq S G' u K Ls := by
  obtain ⟨a1, a2, ⟨k1, k2, k3, k4, k5⟩, a4, a5, a6⟩ := h
  have hl : cLs G' u (K ++ []) Ls := ⟨by rw [h0 u 8 (by omega) (by omega)]; exact a4.1, a4.2.1, fun l hl => (a4.2.2 l hl).ge (fun a z1 z2 => h0 a l (by omega) (by omega)) (fun j _ => ⟨h0 _ j (by omega) (by omega), h0 _ j (by omega) (by omega)⟩) (fun j _ _ => ⟨h0 _ j (by omega) (by omega), h0 _ j (by omega) (by omega)⟩)⟩
  rw [List.append_nil] at hl
  refine ⟨a1, ?_, ⟨by rw [h0 _ _ (by omega) (by omega)]; exact k1, by rw [h0 _ _ (by omega) (by omega)]; exact k2, k3, k4, fun k hk => by rw [h0 _ _ (by omega) (by omega), h0 _ _ (by omega) (by omega)]; exact k5 k hk⟩, hl, a5, a6⟩
  unfold cRuP at a2 ⊢
  have z : ∀ j, G' u j = G u j := fun j => h0 u j (by omega) (by omega)
  rw [z, z, z, z, z, z, z, z, z, z]
  exact a2
theorem st_96A (us : S u = (1, 6, 20)) {n : Nat} (h8 : G u 8 = (n : Int)) (hl : l < n) (hx : ¬ xand (xshr (pm : Int) (l : Int)) 1 = 0) : c96_23b r6 r23 f u (pm : Int) (b : Int) (st : Int) be bc (l : Int) (S, G, m) = r23 u (pm : Int) (b : Int) (st : Int) be bc (xwr ((l : Int) + 1)) (S, G, m) := by
  unfold c96_23b c96_92
  simp (disch := omega) only [cq_gi, cq_gr, cq_a, cq_s, cq_p, cq_pr, cq_is, cq_ar, cq_ab, cq_ln, xq_nz, Option.bind_some, xup2_n, xup2_s, Int.toNat_natCast, Int.reduceToNat, if_pos, if_neg, true_and, and_true, and_self, eq_self, if_true, reduceIte, not_true_eq_false, not_false_eq_true, or_true, true_or, us, h8, hx]
theorem st_96B (us : S u = (1, 6, 20)) {n : Nat} (h8 : G u 8 = (n : Int)) (hl : l < n) (hx : xand (xshr (pm : Int) (l : Int)) 1 = 0) (e94 : c94 f u (l : Int) (b : Int) (S, G, m) = some (-1, (S, G, m))) : c96_23b r6 r23 f u (pm : Int) (b : Int) (st : Int) be bc (l : Int) (S, G, m) = r23 u (pm : Int) (b : Int) (st : Int) be bc (xwr ((l : Int) + 1)) (S, G, m) := by
  unfold c96_23b c96_92
  simp (disch := omega) only [cq_gi, cq_gr, cq_a, cq_s, cq_p, cq_pr, cq_is, cq_ar, cq_ab, cq_ln, xq_nz, Option.bind_some, xup2_n, xup2_s, Int.toNat_natCast, Int.reduceToNat, if_pos, if_neg, true_and, and_true, and_self, eq_self, if_true, reduceIte, not_true_eq_false, not_false_eq_true, or_true, true_or, us, h8, hx, e94]
theorem st_96C {v k co : Int} (u2 : 278 < u) (hl8 : l < 8) (us : S u = (1, 6, 20)) (us2 : S (u + 2) = (2, 3, 8)) (w9 : G u 9 = ((u + 2 : Nat) : Int)) {n : Nat} (h8 : G u 8 = (n : Int)) (hl : l < n) (hx : xand (xshr (pm : Int) (l : Int)) 1 = 0) (e94 : c94 f u (l : Int) (b : Int) (S, G, m) = some (v, (S, G, m))) (hv : ¬ v = -1) (hk : G (u + 2) l = k) (hc : k = 15 ∧ c97 f u (l : Int) (b : Int) (S, G, m) = some (co, (S, G, m)) ∨ k ≠ 15 ∧ co = 5) : c96_23b r6 r23 f u (pm : Int) (b : Int) (st : Int) be bc (l : Int) (S, G, m) = if co ≤ bc then r23 u (pm : Int) (b : Int) (st : Int) be bc (xwr ((l : Int) + 1)) (S, G, m) else r23 u (pm : Int) (b : Int) (st : Int) (l : Int) co (xwr ((l : Int) + 1)) (S, G, m) := by
  rcases hc with ⟨c1, c2⟩ | ⟨c1, c2⟩
  · rw [c1] at hk
    unfold c96_23b c96_75 c96_92
    simp (disch := omega) only [cq_gi, cq_gr, cq_a, cq_s, cq_p, cq_pr, cq_is, cq_ar, cq_ab, cq_ln, xq_nz, Option.bind_some, xup2_n, xup2_s, Int.toNat_natCast, Int.reduceToNat, if_pos, if_neg, true_and, and_true, and_self, eq_self, if_true, reduceIte, not_true_eq_false, not_false_eq_true, or_true, true_or, us, us2, w9, h8, hx, e94, hv, hk, c2]
  · rw [c2]
    have hk' : ¬ G (u + 2) l = 15 := by rw [hk]; exact c1
    clear hk c1
    unfold c96_23b c96_75 c96_92
    simp (disch := omega) only [cq_gi, cq_gr, cq_a, cq_s, cq_p, cq_pr, cq_is, cq_ar, cq_ab, cq_ln, xq_nz, Option.bind_some, xup2_n, xup2_s, Int.toNat_natCast, Int.reduceToNat, if_pos, if_neg, true_and, and_true, and_self, eq_self, if_true, reduceIte, not_true_eq_false, not_false_eq_true, or_true, true_or, us, us2, w9, h8, hx, e94, hv, hk']
theorem k_96i (hf : 3010 < f) (hR : cRq S G u K Ls) (hw : ∀ y ∈ Ls, wLv nv y) (hnv : nv ≤ 8) (hb : b < 2 ^ 8) (hpm : pm < 2 ^ 8) : ∀ (d l fu : Nat) (be bc : Int), l + d = Ls.length → d < fu → isBe Ls pm b be bc l → ∃ fu' be' bc', fu' + d = fu ∧ c96_23 r6 f fu u (pm : Int) (b : Int) (st : Int) be bc (l : Int) (S, G, m) = c96_23 r6 f fu' u (pm : Int) (b : Int) (st : Int) be' bc' (Ls.length : Int) (S, G, m) ∧ isBe Ls pm b be' bc' Ls.length := by
  have us := hR.1.1
  have us2 := hR.1.2.2.1
  have w9 := hR.2.1.2.1
  have u2 := hR.2.2.2.2.1
  have h8 := hR.2.2.2.1.1
  have hl8 := hR.2.2.2.1.2.1
  intro d
  induction d with
  | zero =>
    intro l fu be bc h1 h2 h3
    have : l = Ls.length := by omega
    rw [this] at h3 ⊢
    exact ⟨fu, be, bc, rfl, rfl, h3⟩
  | succ d ih =>
    intro l fu be bc h1 h2 h3
    obtain ⟨fu, rfl⟩ : ∃ t, fu = t + 1 := ⟨fu - 1, by omega⟩
    have hll : l < Ls.length := by omega
    have ek : xwr ((l : Int) + 1) = ((l + 1 : Nat) : Int) := by rw [xwr_g _ (by omega) (by omega)]; omega
    have hbit := xbit0 (a := pm) (m := l) (by omega) (by omega)
    have hwl : wLv nv (Ls.getD l dLt) := by rw [getD_e hll]; exact hw _ (List.getElem_mem hll)
    have hxl := hR.2.2.2.1.2.2 l hll
    have e94 := k_94 (f := f) (m := m) (b := b) hf hR (by omega) hxl hwl hnv hb
    -- the step goes on with be', bc'
    have go : ∀ be' bc', c96_23b r6 (c96_23 r6 f fu) f u (pm : Int) (b : Int) (st : Int) be bc (l : Int) (S, G, m) = c96_23 r6 f fu u (pm : Int) (b : Int) (st : Int) be' bc' (xwr ((l : Int) + 1)) (S, G, m) → isBe Ls pm b be' bc' (l + 1) → ∃ fu' be' bc', fu' + (d + 1) = fu + 1 ∧ c96_23 r6 f (fu + 1) u (pm : Int) (b : Int) (st : Int) be bc (l : Int) (S, G, m) = c96_23 r6 f fu' u (pm : Int) (b : Int) (st : Int) be' bc' (Ls.length : Int) (S, G, m) ∧ isBe Ls pm b be' bc' Ls.length := by
      intro be' bc' q1 q2
      obtain ⟨fu', be2, bc2, z1, z2, z3⟩ := ih (l + 1) fu be' bc' (by omega) (by omega) q2
      refine ⟨fu', be2, bc2, by omega, ?_, z3⟩
      rw [← z2, ← ek]
      exact q1
    have keep : ∀ P : pm.testBit l = false → qBh (Ls.getD l dLt) b = none, isBe Ls pm b be bc (l + 1) := by
      intro P
      rcases h3 with ⟨a1, a2, a3⟩ | a
      · refine .inl ⟨a1, a2, fun j hj hp => ?_⟩
        by_cases cj : j = l
        · rw [cj] at hp ⊢; exact P hp
        · exact a3 j (by omega) hp
      · exact .inr a
    by_cases c1 : pm.testBit l = true
    · exact go be bc (st_96A us h8 hll (fun q => by rw [hbit.mp q] at c1; cases c1)) (keep (fun q => by rw [c1] at q; cases q))
    · have c1' : pm.testBit l = false := by cases hq : pm.testBit l with
        | true => exact absurd hq c1
        | false => rfl
      have hx0 := hbit.mpr c1'
      cases hq : qBh (Ls.getD l dLt) b with
      | none =>
        rw [show Ls.getD l (0, 0, 0, [], [], []) = Ls.getD l dLt from rfl, hq] at e94
        exact go be bc (st_96B us h8 hll hx0 e94) (keep (fun _ => hq))
      | some y =>
        rw [show Ls.getD l (0, 0, 0, [], [], []) = Ls.getD l dLt from rfl, hq] at e94
        have hco : ∃ co : Int, 0 ≤ co ∧ (G (u + 2) l = 15 ∧ c97 f u (l : Int) (b : Int) (S, G, m) = some (co, (S, G, m)) ∨ G (u + 2) l ≠ 15 ∧ co = 5) := by
          by_cases c15 : G (u + 2) l = 15
          · have h4 : ∃ wd : Nat, G (u + 4) l = (wd : Int) ∧ wd ≤ 4 := by
              rcases hxl with ⟨_, _, _, a4, a5, _⟩ | ⟨_, a2, a3, _⟩
              · exact ⟨_, a4, a5⟩
              · rw [a2] at c15; omega
            obtain ⟨wd, h4, h5⟩ := h4
            obtain ⟨c, hc⟩ := k_97 (f := f) (m := m) (b := (b : Int)) (by omega) hR (by omega) h4 h5
            exact ⟨c, Int.natCast_nonneg c, .inl ⟨c15, hc⟩⟩
          · exact ⟨5, by decide, .inr ⟨c15, rfl⟩⟩
        obtain ⟨co, hco0, hco1⟩ := hco
        have hy : ¬ oNI (some y) = -1 := by show ¬ (y : Int) = -1; omega
        have e1 := st_96C (f := f) (m := m) (st := st) (r6 := r6) (r23 := c96_23 r6 f fu) (be := be) (bc := bc) u2 (by omega) us us2 w9 h8 hll hx0 e94 hy rfl hco1
        by_cases cb : co ≤ bc
        · rw [if_pos cb] at e1
          refine go be bc e1 ?_
          rcases h3 with ⟨a1, a2, a3⟩ | a
          · omega
          · exact .inr a
        · rw [if_neg cb] at e1
          exact go _ _ e1 (.inr ⟨l, rfl, hll, c1', by rw [hq]; exact fun z => by cases z⟩)
end
