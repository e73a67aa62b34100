/-! THE CLASS: changesFault() -/
section
variable {f q x n pn : Nat} {S : Nat → Nat × Nat × Nat} {G : xG_} {m : Nat × Nat} {pl w wd : Int} {r2 : Nat → Int → xT_ → Option (Int × xT_)} {b : Bool}
theorem st_64e (hs : cSs S) (h14 : G 72 14 = (n : Int)) : c64_2b r2 f 72 (n : Int) (S, G, m) = some (0, (S, G, m)) := by
  unfold c64_2b
  simp (disch := omega) only [cq_gi, cq_gr, cq_a, cq_s, cq_p, cq_pr, cq_is, cq_ar, cq_ab, cq_ln, xq_nz, Option.bind_some, xup2_n, xup2_s, Int.toNat_natCast, Int.reduceToNat, if_pos, if_neg, true_and, and_true, and_self, eq_self, if_true, reduceIte, not_true_eq_false, not_false_eq_true, or_true, true_or, s72 hs, h14]
theorem st_64n (hs : cSs S) (hp : cPs G) (hx : x < n) (hn : n ≤ 1024) (h14 : G 72 14 = (n : Int)) (g78 : G 78 x = -1) (g80 : G 80 x = pl) : c64_2b r2 f 72 (x : Int) (S, G, m) = some (2, (S, xup2 G 72 2 pl, m)) := by
  unfold c64_2b c64_44
  simp (disch := omega) only [cq_gi, cq_gr, cq_a, cq_s, cq_p, cq_pr, cq_is, cq_ar, cq_ab, cq_ln, xq_nz, Option.bind_some, xup2_n, xup2_s, Int.toNat_natCast, Int.reduceToNat, if_pos, if_neg, true_and, and_true, and_self, eq_self, if_true, reduceIte, not_true_eq_false, not_false_eq_true, or_true, true_or, s72 hs, s78 hs, s80 hs, p72_15 hp, p72_17 hp, h14, g78, g80]
theorem st_64q (hs : cSs S) (hp : cPs G) (hx : x < n) (hn : n ≤ 1024) (hpn : pn < 16) (hq : 82 < q) (qs : cPgS S q) (qp : cPgP G q) (h3 : G 72 3 = (q : Int)) (h14 : G 72 14 = (n : Int)) (g78 : G 78 x = (pn : Int)) (g80 : G 80 x = pl) (g81 : G 81 x = w) (gi : G (q + 4) pn = b01 b) (gw : G (q + 2) pn = wd) : c64_2b r2 f 72 (x : Int) (S, G, m) = if b = false then some (2, (S, xup2 G 72 2 pl, m)) else if wd = w then r2 72 (xwr ((x : Int) + 1)) (S, xup2 G 72 2 pl, m) else some (3, (S, xup2 G 72 2 pl, m)) := by
  have q0 := qs.1
  have q4 := qs.2.2.2.2.1
  have q2 := qs.2.2.1
  have w5 := qp.2.2.2.1
  have w3 := qp.2.1
  cases b with
  | false =>
    rw [if_pos rfl]
    have gi' : G (q + 4) pn = 0 := gi
    unfold c64_2b c64_44
    simp (disch := omega) only [cq_gi, cq_gr, cq_a, cq_s, cq_p, cq_pr, cq_is, cq_ar, cq_ab, cq_ln, xq_nz, Option.bind_some, xup2_n, xup2_s, Int.toNat_natCast, Int.reduceToNat, if_pos, if_neg, true_and, and_true, and_self, eq_self, if_true, reduceIte, not_true_eq_false, not_false_eq_true, or_true, true_or, s72 hs, s78 hs, s80 hs, p72_15 hp, p72_17 hp, h14, g78, g80, h3, q0, q4, w5, gi']
  | true =>
    rw [if_neg (by decide)]
    have gi' : G (q + 4) pn = 1 := gi
    by_cases c : wd = w
    · rw [if_pos c]
      unfold c64_2b
      simp (disch := omega) only [cq_gi, cq_gr, cq_a, cq_s, cq_p, cq_pr, cq_is, cq_ar, cq_ab, cq_ln, xq_nz, Option.bind_some, xup2_n, xup2_s, Int.toNat_natCast, Int.reduceToNat, if_pos, if_neg, true_and, and_true, and_self, eq_self, if_true, reduceIte, not_true_eq_false, not_false_eq_true, or_true, true_or, s72 hs, s78 hs, s80 hs, s81 hs, p72_15 hp, p72_17 hp, p72_18 hp, h14, g78, g80, g81, h3, q0, q4, q2, w5, w3, gi', gw, c]
    · rw [if_neg c]
      unfold c64_2b
      simp (disch := omega) only [cq_gi, cq_gr, cq_a, cq_s, cq_p, cq_pr, cq_is, cq_ar, cq_ab, cq_ln, xq_nz, Option.bind_some, xup2_n, xup2_s, Int.toNat_natCast, Int.reduceToNat, if_pos, if_neg, true_and, and_true, and_self, eq_self, if_true, reduceIte, not_true_eq_false, not_false_eq_true, or_true, true_or, s72 hs, s78 hs, s80 hs, s81 hs, p72_15 hp, p72_17 hp, p72_18 hp, h14, g78, g80, g81, h3, q0, q4, q2, w5, w3, gi', gw, c]
end
theorem qCk1_k {s : pPg} {q : Nat} : ∀ (cs : List pCh) (a : Int × Int), a.1 ≠ 0 → cs.foldl (qCk1 s q) a = a
  | [], a, _ => rfl
  | c :: cs, a, h => by
    have e : qCk1 s q a c = a := by
      unfold qCk1
      rw [if_neg h, if_neg (fun y => h y.1)]
    rw [List.foldl_cons, e]
    exact qCk1_k cs a h
/-- the first CHANGE with a FAULT -/
theorem qCk_1 {s : pPg} : ∀ (cs : List pCh) (x : Int), (∀ k, k < cs.length → qCq s (cs.getD k dCh) = 0) ∧ cs.foldl (qCk1 s 0) (0, x) = (0, x) ∨ ∃ j, j < cs.length ∧ qCq s (cs.getD j dCh) ≠ 0 ∧ (∀ k, k < j → qCq s (cs.getD k dCh) = 0) ∧ cs.foldl (qCk1 s 0) (0, x) = (qCq s (cs.getD j dCh), ((cs.getD j dCh).2.2.1 : Int))
  | [], x => .inl ⟨fun k hk => absurd hk (Nat.not_lt_zero k), rfl⟩
  | c :: cs, x => by
    by_cases h : qCq s c = 0
    · have e : qCk1 s 0 (0, x) c = (0, x) := by
        unfold qCk1
        rw [if_pos rfl, if_neg (fun y => y.2 h), h]
      rw [List.foldl_cons, e]
      rcases qCk_1 cs x with ⟨a1, a2⟩ | ⟨j, a1, a2, a3, a4⟩
      · refine .inl ⟨fun k hk => ?_, a2⟩
        cases k with
        | zero => exact h
        | succ k => exact a1 k (by rw [List.length_cons] at hk; omega)
      · refine .inr ⟨j + 1, by rw [List.length_cons]; omega, a2, fun k hk => ?_, a4⟩
        cases k with
        | zero => exact h
        | succ k => exact a3 k (by omega)
    · have e : qCk1 s 0 (0, x) c = (qCq s c, (c.2.2.1 : Int)) := by
        unfold qCk1
        rw [if_pos rfl, if_pos ⟨rfl, h⟩]
        show (qCq s c, ((0 : Nat) : Int) + (c.2.2.1 : Int)) = _
        rw [show ((0 : Nat) : Int) + (c.2.2.1 : Int) = (c.2.2.1 : Int) by omega]
      rw [List.foldl_cons, e, qCk1_k cs _ h]
      exact .inr ⟨0, Nat.succ_pos _, h, fun k hk => absurd hk (Nat.not_lt_zero k), rfl⟩
section
variable {f q : Nat} {S : Nat → Nat × Nat × Nat} {G : xG_} {m : Nat × Nat} {s : pPg} {cs : List pCh}
theorem pIdx_r {L : List Int} {x : Int} : pIdx L x = -1 ∨ ∃ p : Nat, pIdx L x = (p : Int) ∧ p < L.length := by
  unfold pIdx
  cases h : L.findIdx? (fun y => decide (y = x)) with
  | none => exact .inl rfl
  | some p => exact .inr ⟨p, rfl, (List.findIdx?_eq_some_iff_getElem.mp h).1⟩
/-- changesFault() from the k-th on -/
theorem k_64l (hs : cSs S) (hw : wPg s) (hc : cs.length ≤ 1000) (hq : 82 < q) (qs : cPgS S q) : ∀ (d k fu : Nat) (G : xG_), k + d = cs.length → d < fu → cPs G → cPgP G q → G 72 3 = (q : Int) → cCs G s.1 cs → cPg1 G q s.2.1 s.2.2.1 → cWd G q s.2.2.2.1 → ∃ v G', c64_2 f fu 72 (k : Int) (S, G, m) = some (v, (S, G', m)) ∧ (∀ a j, ¬ (a = 72 ∧ j = 2) → G' a j = G a j) ∧ (v = 0 ∧ (∀ i, k ≤ i → i < cs.length → qCq s (cs.getD i dCh) = 0) ∨ ∃ j, k ≤ j ∧ j < cs.length ∧ v = qCq s (cs.getD j dCh) ∧ v ≠ 0 ∧ G' 72 2 = ((cs.getD j dCh).2.2.1 : Int) ∧ ∀ i, k ≤ i → i < j → qCq s (cs.getD i dCh) = 0) := by
  intro d
  induction d with
  | zero =>
    intro k fu G e1 e2 hp hG h3 hC hP hW
    obtain ⟨fu, rfl⟩ : ∃ t, fu = t + 1 := ⟨fu - 1, by omega⟩
    have hk : k = cs.length := by omega
    rw [hk]
    exact ⟨0, G, st_64e (r2 := c64_2 f fu) hs hC.1, fun _ _ _ => rfl, .inl ⟨rfl, fun i z1 z2 => by omega⟩⟩
  | succ d ih =>
    intro k fu G e1 e2 hp hG h3 hC hP hW
    obtain ⟨fu, rfl⟩ : ∃ t, fu = t + 1 := ⟨fu - 1, by omega⟩
    have hk : k < cs.length := by omega
    obtain ⟨c1, c2, c3, c4, c5, c6⟩ := hC.2 k hk
    have z : ∀ v a j, ¬ (a = 72 ∧ j = 2) → xup2 G 72 2 v a j = G a j := fun v a j y => xup2_n y
    have h16 := hw.1
    rcases pIdx_r (L := s.1) (x := (cs.getD k dCh).2.1) with e | ⟨pn, e, hpn⟩
    · rw [e] at c2
      have hq2 : qCq s (cs.getD k dCh) = 2 := by unfold qCq qCf; rw [if_pos e]
      exact ⟨2, _, st_64n (r2 := c64_2 f fu) hs hp hk (by omega) hC.1 c2 c3, z _, .inr ⟨k, Nat.le_refl _, hk, hq2.symm, by decide, xup2_s _ _ _ _, fun i z1 z2 => by omega⟩⟩
    · rw [e] at c2
      have st : c64_2 f (fu + 1) 72 (k : Int) (S, G, m) = _ := st_64q (r2 := c64_2 f fu) hs hp hk (by omega) (by omega : pn < 16) hq qs hG h3 hC.1 c2 c3 c4 (hP pn (by omega)).2.1 (hW pn (by omega))
      have eq : qCq s (cs.getD k dCh) = if pIn s.2.1 (pn : Int) = true then (if pNn s.2.2.2.1 (pn : Int) = ((cs.getD k dCh).2.2.2.length : Int) then 0 else 3) else 2 := by
        unfold qCq qCf
        rw [e, if_neg (by omega)]
      by_cases cb : pIn s.2.1 (pn : Int) = false
      · rw [if_pos cb] at st
        rw [if_neg (by rw [cb]; decide)] at eq
        exact ⟨2, _, st, z _, .inr ⟨k, Nat.le_refl _, hk, eq.symm, by decide, xup2_s _ _ _ _, fun i z1 z2 => by omega⟩⟩
      · rw [if_neg cb] at st
        rw [if_pos (by cases h : pIn s.2.1 (pn : Int); exact absurd h cb; rfl)] at eq
        by_cases cw : pNn s.2.2.2.1 (pn : Int) = ((cs.getD k dCh).2.2.2.length : Int)
        · rw [if_pos cw] at st eq
          have ek : xwr ((k : Int) + 1) = ((k + 1 : Nat) : Int) := by rw [xwr_g _ (by omega) (by omega)]; omega
          rw [ek] at st
          obtain ⟨v, G', g1, g2, g3⟩ := ih (k + 1) fu (xup2 G 72 2 ((cs.getD k dCh).2.2.1 : Int)) (by omega) (by omega) (hp.read (fun a j w1 _ _ => z _ a j (by omega))) (hG.ge (fun j _ _ _ => z _ q j (by omega))) (by rw [z _ _ _ (by omega)]; exact h3) (hC.fr (z _ _ _ (by omega)) (fun a k _ _ => z _ _ _ (by omega)) (fun k _ => z _ _ _ (by omega))) (fun p hp => by rw [z _ _ _ (by omega), z _ _ _ (by omega), z _ _ _ (by omega)]; exact hP p hp) (hW.ge (fun j => z _ _ _ (by omega)))
          refine ⟨v, G', st.trans g1, fun a j y => by rw [g2 a j y, z _ a j y], ?_⟩
          rcases g3 with ⟨y1, y2⟩ | ⟨j, y1, y2, y3, y4, y5, y6⟩
          · refine .inl ⟨y1, fun i w1 w2 => ?_⟩
            by_cases ci : i = k
            · rw [ci]; exact eq
            · exact y2 i (by omega) w2
          · refine .inr ⟨j, by omega, y2, y3, y4, y5, fun i w1 w2 => ?_⟩
            by_cases ci : i = k
            · rw [ci]; exact eq
            · exact y6 i (by omega) w2
        · rw [if_neg cw] at st eq
          exact ⟨3, _, st, z _, .inr ⟨k, Nat.le_refl _, hk, eq.symm, by decide, xup2_s _ _ _ _, fun i z1 z2 => by omega⟩⟩
theorem k_64c (hf : 3010 < f) (hs : cSs S) (hw : wPg s) (hc : cs.length ≤ 1000) (hq : 82 < q) (qs : cPgS S q) (hp : cPs G) (hG : cPgP G q) (h3 : G 72 3 = (q : Int)) (hC : cCs G s.1 cs) (hP : cPg1 G q s.2.1 s.2.2.1) (hW : cWd G q s.2.2.2.1) : ∃ G', c64 f 72 (S, G, m) = some ((qCk s 0 cs).1, (S, G', m)) ∧ (∀ a j, ¬ (a = 72 ∧ j = 2) → G' a j = G a j) ∧ ((qCk s 0 cs).1 ≠ 0 → G' 72 2 = (qCk s 0 cs).2) := by
  obtain ⟨v, G', g1, g2, g3⟩ := k_64l (f := f) (m := m) hs hw hc hq qs cs.length 0 f G (by omega) (by omega) hp hG h3 hC hP hW
  have e : c64 f 72 (S, G, m) = some (v, (S, G', m)) := g1
  have q1 := qCk_1 (s := s) cs (-1)
  have eq : qCk s 0 cs = cs.foldl (qCk1 s 0) (0, -1) := rfl
  rcases q1 with ⟨a1, a2⟩ | ⟨j, a1, a2, a3, a4⟩
  · rw [eq, a2]
    rcases g3 with ⟨y1, y2⟩ | ⟨j, y1, y2, y3, y4, y5, y6⟩
    · rw [y1] at e
      exact ⟨G', e, g2, fun y => absurd rfl y⟩
    · exact absurd (y3.trans (a1 j y2)) y4
  · rw [eq, a4]
    rcases g3 with ⟨y1, y2⟩ | ⟨i, y1, y2, y3, y4, y5, y6⟩
    · exact absurd (y2 j (Nat.zero_le _) a1) a2
    · have : i = j := by
        by_cases c1 : i < j
        · exact absurd (y3.trans (a3 i c1)) y4
        · by_cases c2 : j < i
          · exact absurd (y6 j (Nat.zero_le _) c2) a2
          · omega
      subst this
      rw [y3] at e
      exact ⟨G', e, g2, fun _ => y5⟩
end
