/-! THE CLASS: the order in which WAYS look at LITERALS -/
theorem qBh_none {x : pLt} {b nv : Nat} (hw : wLv nv x) (h : qBh x b = none) : x.1 ≠ 1 ∧ qS1 x b = b ∧ ¬ qSub (qLv x) b := by
  unfold qBh at h
  split at h
  · cases h
  · rename_i c
    split at h
    · cases h
    · rename_i c2
      refine ⟨fun q => c (.inl q), ?_, fun q => c (.inr q)⟩
      unfold qS1
      split
      · rename_i c3
        have n1 : ¬ (qAl2 x.2.2.2.2.1 ∧ qSub (qVm x.2.2.2.2.2) b) := fun q => c2 ⟨c3.1, c3.2, .inl q⟩
        have n2 : ¬ (qAl2 x.2.2.2.2.2 ∧ qSub (qVm x.2.2.2.2.1) b) := fun q => c2 ⟨c3.1, c3.2, .inr q⟩
        unfold qL1
        rw [if_neg n1]
        unfold qR1
        rw [if_neg n2]
      · rfl
theorem qSub_or {a b c : Nat} (h : qSub (a ||| b) c) : qSub a c ∧ qSub b c := by
  rw [qSub_t] at h
  refine ⟨qSub_t.mpr (fun j hj => h j (by rw [Nat.testBit_or, hj, Bool.true_or])), qSub_t.mpr (fun j hj => h j (by rw [Nat.testBit_or, hj, Bool.or_true]))⟩
theorem or_sub {a b : Nat} (h : qSub a b) : b ||| a = b := by rw [Nat.or_comm]; exact h
theorem qS1_in {x : pLt} {b nv : Nat} (hw : wLv nv x) (h : qSub (qLv x) b) : qS1 x b = b := by
  unfold qS1
  split
  · rename_i c
    have e : qLv x = qVm x.2.2.2.2.1 ||| qVm x.2.2.2.2.2 := by unfold qLv; rw [if_pos c.1]
    rw [e] at h
    obtain ⟨h1, h2⟩ := qSub_or h
    have e1 : qL1 x b = b := by
      unfold qL1
      split
      · exact or_sub h1
      · rfl
    rw [e1]
    unfold qR1
    split
    · exact or_sub h2
    · rfl
  · rfl
theorem qSt_id : ∀ {Ls : List pLt} {b : Nat}, (∀ y ∈ Ls, qS1 y b = b) → qSt Ls b = b
  | [], _, _ => rfl
  | y :: r, b, h => by
    show qSt r (qS1 y b) = b
    rw [h y (List.mem_cons_self ..)]
    exact qSt_id (fun z hz => h z (List.mem_cons_of_mem _ hz))
theorem qA_sub : ∀ {Ls : List pLt} {b : Nat}, (∀ y ∈ Ls, y.1 = 1 → qSub (qT y.2.2.2.1) b) → ∀ k, (qA Ls).testBit k = true → b.testBit k = true
  | [], _, _, k, hk => by rw [show qA [] = 0 from rfl, Nat.zero_testBit] at hk; cases hk
  | y :: r, b, h, k, hk => by
    have e : qA (y :: r) = (if y.1 = 1 then qT y.2.2.2.1 else 0) ||| qA r := rfl
    rw [e, Nat.testBit_or, Bool.or_eq_true] at hk
    rcases hk with q | q
    · by_cases c : y.1 = 1
      · rw [if_pos c] at q
        exact qSub_t.mp (h y (List.mem_cons_self ..) c) k q
      · rw [if_neg c, Nat.zero_testBit] at q; cases q
    · exact qA_sub (fun z hz => h z (List.mem_cons_of_mem _ hz)) k q
theorem qLv_in {x : pLt} {nv : Nat} (hw : wLv nv x) (k : Nat) (h : (qLv x).testBit k = true) : k < nv := by
  unfold qLv at h
  rcases hw with ⟨a1, a2⟩ | ⟨a1, a2, a3⟩
  · rw [if_neg (by omega)] at h
    obtain ⟨y, hy, y1, y2⟩ := (qT_in _ _).mp h
    rcases a2 y hy with q | q | q <;> omega
  · rw [if_pos a1, Nat.testBit_or, Bool.or_eq_true] at h
    rcases h with q | q
    · exact qVm_in a2 k q
    · exact qVm_in a3 k q
/-- in a safe rule there is always a LITERAL that can come next -/
theorem plan_more {Ls : List pLt} {nv b : Nat} {P : Nat → Prop} (hw : ∀ y ∈ Ls, wLv nv y) (hsafe : ∀ k, k < nv → (qBd Ls).testBit k = true) (hb : ∀ l, l < Ls.length → P l → qSub (qLv (Ls.getD l dLt)) b) {x : Nat} (hx : x < Ls.length) (hnx : ¬ P x) : ∃ l, l < Ls.length ∧ ¬ P l ∧ qBh (Ls.getD l dLt) b ≠ none := by
  refine Classical.byContradiction (fun hno => ?_)
  have hn : ∀ l, l < Ls.length → ¬ P l → qBh (Ls.getD l dLt) b = none := fun l hl hp => Classical.byContradiction (fun q => hno ⟨l, hl, hp, q⟩)
  have hg : ∀ y ∈ Ls, ∃ l, l < Ls.length ∧ Ls.getD l dLt = y := fun y hy => by
    obtain ⟨l, hl, e⟩ := List.mem_iff_getElem.mp hy
    exact ⟨l, hl, by rw [getD_e hl]; exact e⟩
  have ht : qSt Ls b = b := qSt_id (fun y hy => by
    obtain ⟨l, hl, e⟩ := hg y hy
    by_cases c : P l
    · exact qS1_in (hw y hy) (by rw [← e]; exact hb l hl c)
    · have := hn l hl c
      rw [e] at this
      exact (qBh_none (hw y hy) this).2.1)
  have hA : ∀ k, (qA Ls).testBit k = true → b.testBit k = true := qA_sub (fun y hy h1 => by
    obtain ⟨l, hl, e⟩ := hg y hy
    by_cases c : P l
    · have := hb l hl c
      rw [e] at this
      unfold qLv at this
      rw [if_neg (by omega)] at this
      exact this
    · have := hn l hl c
      rw [e] at this
      exact absurd h1 (qBh_none (hw y hy) this).1)
  have hall := qBd_in ht hA
  have hwx : wLv nv (Ls.getD x dLt) := by rw [getD_e hx]; exact hw _ (List.getElem_mem hx)
  exact (qBh_none hwx (hn x hx hnx)).2.2 (qSub_t.mpr (fun k hk => hall k (hsafe k (qLv_in hwx k hk))))
section
variable {f u s nv l : Nat} {S : Nat → Nat × Nat × Nat} {G : xG_} {m : Nat × Nat} {K E : pCd} {Ls : List pLt} {x : pLt}
theorem st_97 {a c wd : Nat} {o v x2 : Int} {r : Nat → Int → Int → Int → Int → xT_ → Option (Int × xT_)} (u2 : 278 < u) (us : S u = (1, 6, 20)) (us4 : S (u + 4) = (2, 3, 8)) (us5 : S (u + 5) = (2, 3, 32)) (us6 : S (u + 6) = (2, 4, 32)) (w11 : G u 11 = ((u + 4 : Nat) : Int)) (w12 : G u 12 = ((u + 5 : Nat) : Int)) (w13 : G u 13 = ((u + 6 : Nat) : Int)) (hl : l < 8) (h4 : G (u + 4) l = (wd : Int)) (ha : a < wd) (hb : wd ≤ 4) (ho : G (u + 5) (4 * l + a) = o) (hv : G (u + 6) (4 * l + a) = v) (e1 : xwr ((a : Int) + 1) = ((a + 1 : Nat) : Int)) (ec : xwr ((c : Int) + 1) = ((c + 1 : Nat) : Int)) (e2 : xwr (xwr (4 * (l : Int)) + (a : Int)) = ((4 * l + a : Nat) : Int)) : c97_5b r f u (l : Int) x2 (c : Int) (a : Int) (S, G, m) = some ((c : Int), (S, G, m)) ∨ c97_5b r f u (l : Int) x2 (c : Int) (a : Int) (S, G, m) = r u (l : Int) x2 ((c + 1 : Nat) : Int) ((a + 1 : Nat) : Int) (S, G, m) := by
  by_cases c3 : o = 3
  · left
    rw [c3] at ho
    unfold c97_5b c97_72
    simp (disch := omega) only [cq_gi, cq_gr, cq_a, cq_s, cq_p, cq_pr, cq_is, cq_ar, cq_ab, cq_ln, xq_nz, Option.bind_some, xup2_n, xup2_s, Int.toNat_natCast, Int.reduceToNat, if_pos, if_neg, true_and, and_true, and_self, eq_self, if_true, reduceIte, not_true_eq_false, not_false_eq_true, or_true, true_or, us, us4, us5, w11, w12, h4, ho, e2]
  · by_cases c2 : o = 2
    · rw [c2] at ho
      by_cases c0 : xand (xshr x2 (xwr v)) 1 = 0
      · left
        unfold c97_5b c97_72
        simp (disch := omega) only [cq_gi, cq_gr, cq_a, cq_s, cq_p, cq_pr, cq_is, cq_ar, cq_ab, cq_ln, xq_nz, Option.bind_some, xup2_n, xup2_s, Int.toNat_natCast, Int.reduceToNat, if_pos, if_neg, true_and, and_true, and_self, eq_self, if_true, reduceIte, not_true_eq_false, not_false_eq_true, or_true, true_or, us, us4, us5, us6, w11, w12, w13, h4, ho, hv, e2, c0]
      · right
        unfold c97_5b c97_63
        simp (disch := omega) only [cq_gi, cq_gr, cq_a, cq_s, cq_p, cq_pr, cq_is, cq_ar, cq_ab, cq_ln, xq_nz, Option.bind_some, xup2_n, xup2_s, Int.toNat_natCast, Int.reduceToNat, if_pos, if_neg, true_and, and_true, and_self, eq_self, if_true, reduceIte, not_true_eq_false, not_false_eq_true, or_true, true_or, us, us4, us5, us6, w11, w12, w13, h4, ho, hv, e1, ec, e2, c0]
    · right
      unfold c97_5b c97_63
      simp (disch := omega) only [cq_gi, cq_gr, cq_a, cq_s, cq_p, cq_pr, cq_is, cq_ar, cq_ab, cq_ln, xq_nz, Option.bind_some, xup2_n, xup2_s, Int.toNat_natCast, Int.reduceToNat, if_pos, if_neg, true_and, and_true, and_self, eq_self, if_true, reduceIte, not_true_eq_false, not_false_eq_true, or_true, true_or, us, us4, us5, w11, w12, h4, ho, e1, ec, e2]
/-- columnsBound() -/
theorem k_97 {b : Int} (hf : 10 < f) (hR : cRq S G u K Ls) (hl : l < 8) {wd : Nat} (h4 : G (u + 4) l = (wd : Int)) (hw : wd ≤ 4) : ∃ c : Nat, c97 f u (l : Int) b (S, G, m) = some ((c : Int), (S, G, m)) := by
  obtain ⟨⟨us, us1, us2, us3, us4, us5, us6, us7, us8, _⟩, ⟨w7, w9, w10, w11, w12, w13, w14, w15, _⟩, _, _, u2, hk⟩ := hR
  have loop : ∀ (d a c fu : Nat), a + d = wd → d < fu → c ≤ a → ∃ c' : Nat, c97_5 f fu u (l : Int) b (c : Int) (a : Int) (S, G, m) = some ((c' : Int), (S, G, m)) := by
    intro d
    induction d with
    | zero =>
      intro a c fu h1 h2 h3
      obtain ⟨fu, rfl⟩ : ∃ t, fu = t + 1 := ⟨fu - 1, by omega⟩
      refine ⟨c, ?_⟩
      have ha : a = wd := by omega
      rw [ha]
      show c97_5b (c97_5 f fu) f u _ _ _ _ _ = _
      unfold c97_5b c97_72
      simp (disch := omega) only [cq_gi, cq_gr, cq_a, cq_s, cq_p, cq_pr, cq_is, cq_ar, cq_ab, cq_ln, xq_nz, Option.bind_some, xup2_n, xup2_s, Int.toNat_natCast, Int.reduceToNat, if_pos, if_neg, true_and, and_true, and_self, eq_self, if_true, reduceIte, not_true_eq_false, not_false_eq_true, or_true, true_or, us, us4, w11, h4]
    | succ d ih =>
      intro a c fu h1 h2 h3
      obtain ⟨fu, rfl⟩ : ∃ t, fu = t + 1 := ⟨fu - 1, by omega⟩
      have e1 : xwr ((a : Int) + 1) = ((a + 1 : Nat) : Int) := by rw [xwr_g _ (by omega) (by omega)]; omega
      have ec : xwr ((c : Int) + 1) = ((c + 1 : Nat) : Int) := by rw [xwr_g _ (by omega) (by omega)]; omega
      have e4 : xwr (xwr (4 * (l : Int)) + (a : Int)) = ((4 * l + a : Nat) : Int) := by rw [xwr_g (4 * (l : Int)) (by omega) (by omega), xwr_g _ (by omega) (by omega)]; omega
      rcases st_97 (f := f) (m := m) (r := c97_5 f fu) (x2 := b) u2 us us4 us5 us6 w11 w12 w13 hl h4 (by omega : a < wd) hw rfl rfl e1 ec e4 with q | q
      · exact ⟨c, q⟩
      · obtain ⟨c', hc⟩ := ih (a + 1) (c + 1) fu (by omega) (by omega) (by omega)
        exact ⟨c', q.trans hc⟩
  exact loop wd 0 0 f (by omega) (by omega) (Nat.le_refl _)
end
