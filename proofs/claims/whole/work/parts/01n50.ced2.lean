section
/-! THE CLASS: edits(), edit(), predicate() -/
section
variable {f A0 hr n sl np p ea eb : Nat} {S S' : Nat → Nat × Nat × Nat} {G G' : xG_} {m : Nat × Nat} {s so : pPg} {M Mo A : Nat → List pRw} {T : List (List Int)} {P : Nat → Nat} {lns : Nat → sLn} {tx : List Int} {kp : Nat × List (List Int)} {mt : Int × List Int} {pl rf : Int} {B : Nat → List pEd}
/-- no call but one changes what stood -/
theorem cHs.al {A' n' : Nat} {H : sHs} (h : cHs S G A0 H n) (hn : n ≤ n') (hA : A0 ≤ A') (hS : ∀ a, a < A0 → S' a = S a) (hG : ∀ a j, a < A0 → G' a j = G a j) : cHs S' G' A' H n' := by
  obtain ⟨T, lns, hr, tx, kp, mt, pl, rf⟩ := H
  obtain ⟨⟨a1, a2, a3, a4⟩, ⟨P, d1, d2, d3⟩, ⟨c1, c2⟩, ⟨c3, c4⟩, c5', c6', c7', ⟨an, sp, k1, k2, k3, k4⟩, c9'⟩ := h
  have sf : xSf A0 G G' := fun a j y1 y2 => hG a j y1
  refine ⟨⟨fun k hk => by rw [hS _ (by omega)]; exact a1 k hk, a2.ge (fun a j hz => hG a j (by
      rcases hz with z | z | z | z | z | z | z | ⟨z, z1, z2, k, z3⟩ | z | z | z | ⟨k, z1, z2, z3⟩ <;> omega)), a3.ge (fun a j y1 y2 => hG a j (by omega)), by omega⟩, ⟨P, d1.ge hA hS sf (by rw [hG _ _ (by omega)]; exact Int.le_refl _), fun y hy => (d2 y hy).ge hA hS sf (fun a j y1 y2 => hG a j (by omega)), d3.ge hA hS sf ⟨hG _ _ (by omega), hG _ _ (by omega)⟩⟩, ⟨c1, by rw [hG _ _ (by omega)]; exact c2⟩, ⟨by rw [hG _ _ (by omega)]; exact c3, by rw [hG _ _ (by omega)]; omega⟩, by rw [hG _ _ (by omega)]; exact c5', by rw [hG _ _ (by omega)]; exact c6', c7'.ge (hG _ _ (by omega)) (fun p => hG _ _ (by omega)), ⟨an, sp, k1, by rw [hG _ _ (by omega)]; exact k2, by rw [hG _ _ (by omega)]; exact k3, k4.ge (fun a y1 y2 => hS a (by omega)) (fun j => hG _ _ (by omega)) (fun j => hG _ _ (by omega)) (fun j => hG _ _ (by omega))⟩, c9'.ge ⟨hG _ _ (by omega), hG _ _ (by omega)⟩ (fun j => hG _ _ (by omega))⟩
theorem cHs.ex {n' : Nat} {H : sHs} (h : cHs S G A0 H n) (hn : n ≤ n') : cHs (cq_ex (S, G, (A0, sl))).1 (cq_ex (S, G, (A0, sl))).2.1 (cq_ex (S, G, (A0, sl))).2.2.1 H n' := h.al hn (Nat.le_succ _) (fun a ha => xup1_n (Nat.ne_of_lt ha)) (fun a j ha => by
  show xz1 G A0 (fun _ => 0) a j = G a j
  exact xz1_n _ (by omega))
/-- both moments of the round whose edits are told -/
def cEx (S : Nat → Nat × Nat × Nat) (G : xG_) (A0 : Nat) (s so : pPg) (M Mo A : Nat → List pRw) (ea eb q : Nat) : Prop := ∃ (qo nq nqo rp ro : Nat) (xr cr xo co : Nat → Nat), cMr S G A0 eb q rp s xr cr M ∧ cMr S G A0 ea qo ro so xo co Mo ∧ cPgm S G q nq s ∧ cPgm S G qo nqo so ∧ (qOc s ∧ qOc so ∧ okM8 s M ∧ okM8 so Mo ∧ qTb s M ∧ qTb so Mo) ∧ isAh so s Mo A ∧ (q + 10 < A0 ∧ 555 < A0 ∧ ea < A0 ∧ eb < A0 ∧ ea ≠ 0 ∧ eb ≠ 0 ∧ rp < A0)
theorem ah_ex (so s : pPg) (Mo : Nat → List pRw) : ∃ A, isAh so s Mo A := by
  have : ∀ p, ∃ L, (∃ r, r < so.1.length ∧ qNm so r = qNm s p ∧ qN so r = qN s p ∧ L = Mo r) ∨ ((∀ r, r < so.1.length → qNm so r = qNm s p → qN so r ≠ qN s p) ∧ L = []) := fun p => by
    by_cases c : ∃ r, r < so.1.length ∧ qNm so r = qNm s p ∧ qN so r = qN s p
    · obtain ⟨r, r1, r2, r3⟩ := c
      exact ⟨_, .inl ⟨r, r1, r2, r3, rfl⟩⟩
    · exact ⟨_, .inr ⟨fun r r1 r2 r3 => c ⟨r, r1, r2, r3⟩, rfl⟩⟩
  obtain ⟨A, hA⟩ := Classical.skolem.mp this
  exact ⟨A, fun p _ => hA p⟩
theorem ed_cx (h : cHs S G A0 (T, lns, hr, tx, kp, mt, pl, rf) n) (im : isMo T (lMo (lns hr)) s M) (ht : (lns hr).2.2.1.2.2 = true) : ∃ (so : pPg) (Mo A : Nat → List pRw) (ea eb q : Nat), cEx S G A0 s so M Mo A ea eb q ∧ G 64 12 = (ea : Int) ∧ G 64 13 = (eb : Int) ∧ qFa s M (lMo (lns hr)).2.1 ∧ qFa so Mo ((lns hr).1 ((lns hr).2.1.1 + (lns hr).2.1.2.1 - 1)).2.1 := by
  obtain ⟨⟨a1, a2, a3, a4⟩, ⟨P, d1, d2, ⟨_, d3⟩⟩, _⟩ := h
  obtain ⟨ea, eb, g1, g2, g3, g4⟩ := d3 ht
  obtain ⟨so, Mo, _, _, _, _, _, _, imo, _⟩ := id g3
  obtain ⟨rp, xr, cr, nq, r1, r2, r3, r4, r5, r6, r7, r8, r9⟩ := g4.pm d1 im
  obtain ⟨ro, xo, co, nqo, o1, o2, o3, o4, o5, o6, o7, o8, o9⟩ := g3.pm d1 imo
  obtain ⟨A, hA⟩ := ah_ex so s Mo
  have hq := r2.2.2.2.2.2.2.2.2
  have t7 := r7.2
  have u7 := o7.2
  exact ⟨so, Mo, A, ea, eb, P (lMo (lns hr)).1, ⟨_, nq, nqo, rp, ro, xr, cr, xo, co, r1, o1, r2, o2, ⟨r4, o4, r5, o5, im.2.2.2.2.1.1.1, imo.2.2.2.2.1.1.1⟩, hA, Nat.lt_of_lt_of_le hq r3, a4, o7.1, r7.1, by omega, by omega, r8.1⟩, g1, g2, im.2.2.2.2.2.1, imo.2.2.2.2.2.1⟩
def eM0 (s : pPg) (M : Nat → List pRw) : Nat → List pRw := fun p => if p < s.1.length then M p else []
theorem eB_len (hR : qTb s M) (hM : qTb so Mo) (hA : isAh so s Mo A) (hp : p < s.1.length) : (eB s (eM0 s M) (eM0 s A) p).length = (if pOu s.2.2.1 (p : Int) = true then dfN (M p) (A p) else 0) ∧ dfN (M p) (A p) ≤ 200 := by
  have hAs := hA.srt hM
  have h1 := (hR p hp).1
  have h2 := (hAs p hp).2.1
  have h3 := dfN_le (R := M p) (R2 := A p)
  refine ⟨?_, by omega⟩
  unfold eB
  split
  · rw [List.length_map]
    have e1 : eM0 s M p = M p := if_pos hp
    have e2 : eM0 s A p = A p := if_pos hp
    rw [e1, e2]
    exact mgD_nd (Nat.le_refl _) (hR p hp).2.1 (hAs p hp).1 (fun r hr => ((hR p hp).2.2 r hr).1) (hAs p hp).2.2
  · rfl
/-- the sum over OUTPUTS -/
theorem k_177l (hf : 700 < f) (hs : cSs S) {q : Nat} (hx : cEx S G A0 s so M Mo A ea eb q) (h12 : G 64 12 = (ea : Int)) (h13 : G 64 13 = (eb : Int)) : ∀ (d p ac fu : Nat), p + d = s.1.length → d < fu → ac ≤ 200 * p → c177_19 f fu 64 (ac : Int) q (p : Int) (S, G, m) = some (((ac + (eT (eB s (eM0 s M) (eM0 s A)) p d).length : Nat) : Int), (S, G, m)) := by
  obtain ⟨qo, nq, nqo, rp, ro, xr, cr, xo, co, x1, x2, x3, x4, ⟨x5, x6, x7, x8, x9, y0⟩, y1, y2⟩ := hx
  have h16 : s.1.length ≤ 16 := x3.2.2.1.2.1
  intro d
  induction d with
  | zero =>
    intro p ac fu e1 e2 e3
    obtain ⟨fu, rfl⟩ : ∃ t, fu = t + 1 := ⟨fu - 1, by omega⟩
    show c177_19b (c177_19 f fu) f _ _ _ _ _ = _
    unfold c177_19b
    rw [o_gi x3.1.1, Option.bind_some, x3.2.2.1.1, if_pos (by omega)]
    rfl
  | succ d ih =>
    intro p ac fu e1 e2 e3
    obtain ⟨fu, rfl⟩ : ∃ t, fu = t + 1 := ⟨fu - 1, by omega⟩
    have hp : p < s.1.length := by omega
    obtain ⟨l1, l2⟩ := eB_len x9 y0 y1 hp
    have e18 := k_18 (f := f) (m := m) hf x3 x4 x5.1 x6.1 x1 x2 x7 x8 y1 hp
    have is : cq_is 2 8 eb (S, G, m) = some () := if_pos x1.1
    have go : G (q + 5) p = b01 (pOu s.2.2.1 (p : Int)) := (x3.2.2.2.2.1 p (by omega)).2.2
    have w1 : xwr ((p : Int) + 1) = ((p + 1 : Nat) : Int) := by rw [xwr_g _ (by omega) (by omega)]; omega
    have w2 : xwr ((ac : Int) + (dfN (M p) (A p) : Int)) = ((ac + dfN (M p) (A p) : Nat) : Int) := by rw [xwr_g _ (by omega) (by omega)]; omega
    show c177_19b (c177_19 f fu) f _ _ _ _ _ = some (((ac + (eB s (eM0 s M) (eM0 s A) p ++ eT (eB s (eM0 s M) (eM0 s A)) (p + 1) d).length : Nat) : Int), (S, G, m))
    rw [List.length_append, l1]
    unfold c177_19b c177_51
    rw [o_gi x3.1.1, Option.bind_some, x3.2.2.1.1, if_neg (by omega), o_gr x3.1.1 x3.2.1.2.2.2.2.1, Option.bind_some, o_ab x3.1.2.2.2.2.2.1 (by omega), Option.bind_some, go]
    cases hb : pOu s.2.2.1 (p : Int) with
    | false =>
      rw [if_pos (by decide), if_neg (by decide), w1, ih (p + 1) ac fu (by omega) (by omega) (by omega), Nat.zero_add]
    | true =>
      rw [if_neg (by decide), if_pos rfl, o_gr (s64 hs) h13, Option.bind_some, o_gr (s64 hs) h12, Option.bind_some, is, Option.bind_some, e18, Option.bind_some, w1, w2, ih (p + 1) _ fu (by omega) (by omega) (by omega), Nat.add_assoc]
/-- edits() -/
theorem k_177e {v : Int} (hf : 700 < f) (h : cHs S G A0 (T, lns, hr, tx, kp, mt, pl, rf) n) (hst : ∃ s M E, isMo T (lMo (lns hr)) s M ∧ lnEs (lns hr) s E ∧ v = (E.length : Int)) : c177 f 64 (S, G, m) = some (v, (S, G, m)) := by
  obtain ⟨s, M, E, im, ⟨e1, e2⟩, rfl⟩ := hst
  cases ht : (lns hr).2.2.1.2.2 with
  | false =>
    rw [e2 ht]
    obtain ⟨⟨a1, a2, a3, a4⟩, ⟨P, d1, d2, ⟨d3, _⟩⟩, _⟩ := h
    unfold c177
    rw [o_gr (y := 0) (s64 a1) (d3 ht), Option.bind_some, if_pos rfl]
    rfl
  | true =>
    obtain ⟨so, Mo, A, ea, eb, q, cx, g1, g2, f1, f2⟩ := ed_cx h im ht
    obtain ⟨⟨a1, a2, a3, a4⟩, _⟩ := h
    have k := k_177l (m := m) hf a1 cx g1 g2 s.1.length 0 0 f (by omega) (by obtain ⟨_, _, _, _, _, _, _, _, _, _, _, x3, _⟩ := cx; have := x3.2.2.1.2.1; omega) (Nat.zero_le _)
    obtain ⟨qo, nq, nqo, rp, ro, xr, cr, xo, co, x1, x2, x3, x4, ⟨x5, x6, x7, x8, x9, y0⟩, y1, y2⟩ := cx
    have eE := ed_is x5.1 x6.1 x9 y0 f1 f2 y1 (e1 ht)
    rw [Nat.zero_add] at k
    unfold c177
    rw [o_gr (s64 a1) g2, Option.bind_some, if_neg (by omega), Option.bind_some, o_gr x1.1 x1.2.1, Option.bind_some]
    refine Eq.trans k ?_
    rw [eE]
    rfl
end
end
section
/-! THE CLASS: edit(), predicate() -/
section
variable {f A0 hr n sl np p ea eb q : Nat} {S S' : Nat → Nat × Nat × Nat} {G G' : xG_} {m : Nat × Nat} {s so : pPg} {M Mo A : Nat → List pRw} {T : List (List Int)} {P : Nat → Nat} {lns : Nat → sLn} {tx : List Int} {kp : Nat × List (List Int)} {mt : Int × List Int} {pl rf : Int} {i w : Int}
theorem k_178l (hf : 700 < f) (hs : cSs S) (hx : cEx S G A0 s so M Mo A ea eb q) (h12 : G 64 12 = (ea : Int)) (h13 : G 64 13 = (eb : Int)) : ∀ (d p lf fu : Nat), p + d = s.1.length → d < fu → lf < 2147483648 → ∃ p' l' : Nat, c178_28 f fu 64 i w (lf : Int) (p : Int) (s.1.length : Int) (S, G, m) = c178_90 f 64 i w (l' : Int) (p' : Int) (s.1.length : Int) (S, G, m) ∧ ((p' = s.1.length ∧ (eT (eB s (eM0 s M) (eM0 s A)) p d).length ≤ lf) ∨ (p' < s.1.length ∧ l' < (eB s (eM0 s M) (eM0 s A) p').length ∧ lf < (eT (eB s (eM0 s M) (eM0 s A)) p d).length ∧ (eT (eB s (eM0 s M) (eM0 s A)) p d).getD lf dEd = (eB s (eM0 s M) (eM0 s A) p').getD l' dEd)) := by
  obtain ⟨qo, nq, nqo, rp, ro, xr, cr, xo, co, x1, x2, x3, x4, ⟨x5, x6, x7, x8, x9, y0⟩, y1, y2⟩ := hx
  have h16 : s.1.length ≤ 16 := x3.2.2.1.2.1
  intro d
  induction d with
  | zero =>
    intro p lf fu e1 e2 e3
    obtain ⟨fu, rfl⟩ : ∃ t, fu = t + 1 := ⟨fu - 1, by omega⟩
    have e : p = s.1.length := by omega
    refine ⟨p, lf, ?_, .inl ⟨e, Nat.zero_le _⟩⟩
    show c178_28b (c178_28 f fu) f _ _ _ _ _ _ _ = _
    unfold c178_28b
    rw [if_pos (by omega)]
  | succ d ih =>
    intro p lf fu e1 e2 e3
    obtain ⟨fu, rfl⟩ : ∃ t, fu = t + 1 := ⟨fu - 1, by omega⟩
    have hp : p < s.1.length := by omega
    obtain ⟨l1, l2⟩ := eB_len x9 y0 y1 hp
    have e18 := k_18 (f := f) (m := m) hf x3 x4 x5.1 x6.1 x1 x2 x7 x8 y1 hp
    have is : cq_is 2 8 eb (S, G, m) = some () := if_pos x1.1
    have go : G (q + 5) p = b01 (pOu s.2.2.1 (p : Int)) := (x3.2.2.2.2.1 p (by omega)).2.2
    have w1 : xwr ((p : Int) + 1) = ((p + 1 : Nat) : Int) := by rw [xwr_g _ (by omega) (by omega)]; omega
    obtain ⟨B, hB⟩ : ∃ B, B = eB s (eM0 s M) (eM0 s A) := ⟨_, rfl⟩
    rw [← hB] at l1 ih ⊢
    -- the number of p's edits
    have st : c178_28 f (fu + 1) 64 i w (lf : Int) (p : Int) (s.1.length : Int) (S, G, m) = c178_68 (c178_28 f fu) f 64 i w (lf : Int) (p : Int) (s.1.length : Int) (((B p).length : Nat) : Int) (S, G, m) := by
      show c178_28b (c178_28 f fu) f _ _ _ _ _ _ _ = _
      unfold c178_28b
      rw [if_neg (by omega), o_gr (s64 hs) h13, Option.bind_some, o_gr x1.1 x1.2.1, Option.bind_some, o_gr x3.1.1 x3.2.1.2.2.2.2.1, Option.bind_some, o_ab x3.1.2.2.2.2.2.1 (by omega), Option.bind_some, go, l1]
      cases hb : pOu s.2.2.1 (p : Int) with
      | false => rw [if_pos (by decide), if_neg (by decide)]; rfl
      | true => rw [if_neg (by decide), if_pos rfl, Option.bind_some, o_gr (s64 hs) h12, Option.bind_some, is, Option.bind_some, e18, Option.bind_some]
    rw [st]
    unfold c178_68
    show ∃ p' l' : Nat, _ ∧ ((p' = s.1.length ∧ (B p ++ eT B (p + 1) d).length ≤ lf) ∨ (p' < s.1.length ∧ l' < (B p').length ∧ lf < (B p ++ eT B (p + 1) d).length ∧ (B p ++ eT B (p + 1) d).getD lf dEd = (B p').getD l' dEd))
    rw [List.length_append]
    by_cases c : (B p).length ≤ lf
    · have w2 : xwr ((lf : Int) - ((B p).length : Int)) = ((lf - (B p).length : Nat) : Int) := by rw [xwr_g _ (by omega) (by omega)]; omega
      rw [if_pos (by omega), w1, w2]
      obtain ⟨p', l', i1, i2⟩ := ih (p + 1) (lf - (B p).length) fu (by omega) (by omega) (by omega)
      refine ⟨p', l', i1, ?_⟩
      rcases i2 with ⟨j1, j2⟩ | ⟨j1, j2, j3, j4⟩
      · exact .inl ⟨j1, by omega⟩
      · refine .inr ⟨j1, j2, by omega, ?_⟩
        rw [← j4]
        simp only [List.getD_eq_getElem?_getD]
        rw [List.getElem?_append_right c]
    · rw [if_neg (by omega)]
      refine ⟨p, lf, rfl, .inr ⟨hp, by omega, by omega, ?_⟩⟩
      simp only [List.getD_eq_getElem?_getD]
      rw [List.getElem?_append_left (by omega)]
theorem ec_xa {k : Nat} (h : k < 1000) : xand ((2 * k + 1 : Nat) : Int) 1 = 1 ∧ xand ((2 * k : Nat) : Int) 1 = 0 ∧ xshr ((2 * k + 1 : Nat) : Int) 1 = (k : Int) ∧ xshr ((2 * k : Nat) : Int) 1 = (k : Int) := by
  have a1 := xand_nat (a := 2 * k + 1) (b := 1) (by omega) (by decide)
  have a2 := xand_nat (a := 2 * k) (b := 1) (by omega) (by decide)
  have b1 := xshr_nat (a := 2 * k + 1) (m := 1) (by omega) (by decide)
  have b2 := xshr_nat (a := 2 * k) (m := 1) (by omega) (by decide)
  refine ⟨a1.trans ?_, a2.trans ?_, b1.trans ?_, b2.trans ?_⟩
  · rw [Nat.and_one_is_mod]; omega
  · rw [Nat.and_one_is_mod]; omega
  · rw [Nat.shiftRight_eq_div_pow]; omega
  · rw [Nat.shiftRight_eq_div_pow]; omega
/-- edit() -/
theorem k_178 {v t : Int} (hf : 1100 < f) (hi : i < 2147483648) (h : cHs S G A0 (T, lns, hr, tx, kp, mt, pl, rf) n) (hst : stEt T (lns hr) i w t v) : (t = 0 ∧ ∃ S' G' m', c178 f 64 i w (S, G, (A0, sl)) = some (.inr v, (S', G', m')) ∧ A0 ≤ m'.1 ∧ m'.1 ≤ A0 + 3 ∧ sl ≤ m'.2 ∧ m'.2 ≤ sl + 4 ∧ (∀ a, a < A0 → S' a = S a) ∧ (∀ a j, a < A0 → G' a j = G a j)) ∨ (t = 1 ∧ c178 f 64 i w (S, G, (A0, sl)) = some (.inl 1, cq_ex (S, G, (A0, sl)))) := by
  obtain ⟨s, M, E, im, ⟨e1, e2⟩, hv⟩ := hst
  have h124 : c178_124 f (S, G, (A0, sl)) = some (.inl 1, cq_ex (S, G, (A0, sl))) := rfl
  cases ht : (lns hr).2.2.1.2.2 with
  | false =>
    rw [e2 ht] at hv
    obtain ⟨⟨a1, a2, a3, a4⟩, ⟨P, d1, d2, ⟨d3, _⟩⟩, _⟩ := h
    rcases hv with ⟨⟨⟨z1, z2⟩, _⟩, _⟩ | ⟨_, z, _⟩
    · have : (([] : List pEd).length : Int) = 0 := rfl
      omega
    · refine .inr ⟨z, ?_⟩
      unfold c178
      rw [o_gr (y := 0) (s64 a1) (d3 ht), Option.bind_some, if_pos rfl]
      obtain ⟨fu, hfu⟩ : ∃ t, f = t + 1 := ⟨f - 1, by omega⟩
      have e : c178_26 f 64 i w i 0 0 (S, G, (A0, sl)) = c178_90 f 64 i w i 0 0 (S, G, (A0, sl)) := by
        have : c178_28 f (fu + 1) 64 i w i 0 0 (S, G, (A0, sl)) = c178_90 f 64 i w i 0 0 (S, G, (A0, sl)) := by
          show c178_28b (c178_28 f fu) f _ _ _ _ _ _ _ = _
          unfold c178_28b
          rw [if_pos (Int.le_refl _)]
        rw [← hfu] at this
        exact this
      rw [e]
      unfold c178_90
      rw [h124]
      by_cases c1 : i < 0
      · rw [if_pos c1]
      · rw [if_neg c1]
        by_cases c2 : w < 0
        · rw [if_pos c2]
        · rw [if_neg c2, if_pos (Int.le_refl _)]
  | true =>
    obtain ⟨so, Mo, A, ea, eb, q, cx, g1, g2, f1, f2⟩ := ed_cx h im ht
    obtain ⟨⟨a1, a2, a3, a4⟩, _⟩ := h
    have kl := k_178l (f := f) (i := i) (w := w) (m := (A0, sl)) (by omega) a1 cx g1 g2
    obtain ⟨qo, nq, nqo, rp, ro, xr, cr, xo, co, x1, x2, x3, x4, ⟨x5, x6, x7, x8, x9, y0⟩, y1, y2⟩ := cx
    have eE : E = eT (eB s (eM0 s M) (eM0 s A)) 0 s.1.length := ed_is x5.1 x6.1 x9 y0 f1 f2 y1 (e1 ht)
    have h16 : s.1.length ≤ 16 := x3.2.2.1.2.1
    have e0 : c178 f 64 i w (S, G, (A0, sl)) = c178_28 f f 64 i w i 0 (s.1.length : Int) (S, G, (A0, sl)) := by
      unfold c178
      rw [o_gr (s64 a1) g2, Option.bind_some, if_neg (by omega), Option.bind_some, o_gr x1.1 x1.2.1, Option.bind_some, o_gi x3.1.1, Option.bind_some, x3.2.2.1.1]
      rfl
    have bad : c178 f 64 i w (S, G, (A0, sl)) = some (.inl 1, cq_ex (S, G, (A0, sl))) → ¬ ((0 ≤ i ∧ i < E.length) ∧ 0 ≤ w ∧ w ≤ 1 + (qN s (E.getD i.toNat dEd).1 : Int)) → t = 1 ∧ c178 f 64 i w (S, G, (A0, sl)) = some (.inl 1, cq_ex (S, G, (A0, sl))) := fun he hn => by
      rcases hv with ⟨z, _⟩ | ⟨_, z, _⟩
      · exact absurd z hn
      · exact ⟨z, he⟩
    by_cases ci : i < 0
    · refine .inr (bad ?_ (fun z => by have := z.1.1; omega))
      obtain ⟨fu, hfu⟩ : ∃ t, f = t + 1 := ⟨f - 1, by omega⟩
      have e90 : ∀ p' : Int, c178_90 f 64 i w i p' (s.1.length : Int) (S, G, (A0, sl)) = some (.inl 1, cq_ex (S, G, (A0, sl))) := fun p' => by
        unfold c178_90
        rw [if_pos ci, h124]
      have : c178_28 f (fu + 1) 64 i w i 0 (s.1.length : Int) (S, G, (A0, sl)) = some (.inl 1, cq_ex (S, G, (A0, sl))) := by
        show c178_28b (c178_28 f fu) f _ _ _ _ _ _ _ = _
        unfold c178_28b
        by_cases c0 : s.1.length = 0
        · rw [if_pos (by omega), e90]
        · have hp : 0 < s.1.length := by omega
          have e18 := k_18 (f := f) (m := (A0, sl)) (p := 0) (by omega) x3 x4 x5.1 x6.1 x1 x2 x7 x8 y1 hp
          have is : cq_is 2 8 eb (S, G, (A0, sl)) = some () := if_pos x1.1
          have go : G (q + 5) 0 = b01 (pOu s.2.2.1 ((0 : Nat) : Int)) := (x3.2.2.2.2.1 0 (by omega)).2.2
          have ga : cq_ab (q + 5) 0 (S, G, (A0, sl)) = some (b01 (pOu s.2.2.1 ((0 : Nat) : Int))) := by rw [← go]; exact o_ab (z := 0) x3.1.2.2.2.2.2.1 (by omega)
          have e18' : c18 f eb ea 0 (S, G, (A0, sl)) = some ((dfN (M 0) (A 0) : Int), (S, G, (A0, sl))) := e18
          rw [if_neg (by omega), o_gr (s64 a1) g2, Option.bind_some, o_gr x1.1 x1.2.1, Option.bind_some, o_gr x3.1.1 x3.2.1.2.2.2.2.1, Option.bind_some, ga, Option.bind_some]
          cases hb : pOu s.2.2.1 ((0 : Nat) : Int) with
          | false =>
            rw [if_pos (by decide)]
            unfold c178_68
            rw [if_neg (by omega), e90]
          | true =>
            rw [if_neg (by decide), Option.bind_some, o_gr (s64 a1) g1, Option.bind_some, is, Option.bind_some, e18', Option.bind_some]
            unfold c178_68
            rw [if_neg (by omega), e90]
      rw [e0]
      rw [← hfu] at this
      exact this
    · obtain ⟨lf, rfl⟩ : ∃ lf : Nat, i = (lf : Int) := ⟨i.toNat, by omega⟩
      obtain ⟨p', l', k1, k2⟩ := kl s.1.length 0 lf f (by omega) (by omega) (by omega)
      rw [← eE] at k2
      have e3 : c178 f 64 (lf : Int) w (S, G, (A0, sl)) = c178_90 f 64 (lf : Int) w (l' : Int) (p' : Int) (s.1.length : Int) (S, G, (A0, sl)) := e0.trans k1
      have et : ((lf : Nat) : Int).toNat = lf := by omega
      rw [et] at hv bad
      by_cases cw : w < 0
      · refine .inr (bad ?_ (fun z => by have := z.2.1; omega))
        rw [e3]
        unfold c178_90
        rw [if_neg ci, if_pos cw, h124]
      · rcases k2 with ⟨j1, j2⟩ | ⟨j1, j2, j3, j4⟩
        · refine .inr (bad ?_ (fun z => by have := z.1.2; omega))
          rw [e3]
          unfold c178_90
          rw [if_neg ci, if_neg cw, if_pos (by omega), h124]
        · have hAs := y1.srt y0
          have eo : pOu s.2.2.1 (p' : Int) = true := by
            cases hb : pOu s.2.2.1 (p' : Int) with
            | true => rfl
            | false =>
              unfold eB at j2
              rw [hb, if_neg (by decide)] at j2
              exact absurd j2 (Nat.not_lt_zero _)
          have em1 : eM0 s M p' = M p' := if_pos j1
          have em2 : eM0 s A p' = A p' := if_pos j1
          have eb' : eB s (eM0 s M) (eM0 s A) p' = (mgD ((M p').length + (A p').length) (M p') (A p')).map (fun e => (p', e.1, e.2)) := by
            unfold eB
            rw [if_pos eo, em1, em2]
          rw [eb'] at j2 j4
          rw [List.length_map] at j2
          obtain ⟨e, he⟩ : ∃ e, e = (mgD ((M p').length + (A p').length) (M p') (A p')).getD l' (0, []) := ⟨_, rfl⟩
          have j5 : E.getD lf dEd = (p', e.1, e.2) := by
            rw [j4, he]
            simp only [List.getD_eq_getElem?_getD]
            rw [List.getElem?_map, List.getElem?_eq_getElem j2]
            rfl
          rw [j5] at hv bad
          have ll : (mgD ((M p').length + (A p').length) (M p') (A p')).length ≤ 200 := by
            rw [mgD_nd (W := qN s p') (Nat.le_refl _) (x9 p' j1).2.1 (hAs p' j1).1 (fun r hr => ((x9 p' j1).2.2 r hr).1) (hAs p' j1).2.2]
            exact (eB_len x9 y0 y1 j1).2
          have gw : G (q + 2) p' = (qN s p' : Int) := by
            rw [(qN_c x5.1.1 p').1]
            exact x3.2.2.2.1 p' (by omega)
          have hw4 := (qN_pos x5 j1).2
          have w2 : xwr (2 + (qN s p' : Int)) = 2 + (qN s p' : Int) := xwr_g _ (by omega) (by omega)
          have e4 := Eq.refl (c178_90 f 64 (lf : Int) w (l' : Int) (p' : Int) (s.1.length : Int) (S, G, (A0, sl)))
          conv at e4 => { rhs; unfold c178_90 }
          rw [if_neg ci, if_neg cw, if_neg (by omega), o_gr (s64 a1) g2, Option.bind_some, o_gr x1.1 x1.2.1, Option.bind_some, o_gr x3.1.1 x3.2.1.2.1, Option.bind_some, o_a x3.1.2.2.1 (by omega), Option.bind_some, gw, w2] at e4
          by_cases cq : w < 2 + (qN s p' : Int)
          · rw [if_pos cq] at e4
            have e4' := e3.trans e4
            refine .inl ?_
            have hv' := hv.resolve_right (fun z => z.1 ⟨⟨by omega, by omega⟩, by omega, by show w ≤ 1 + (qN s p' : Int); omega⟩)
            obtain ⟨_, rfl, hv2⟩ := hv'
            refine ⟨rfl, ?_⟩
            by_cases c0 : w = 0
            · rw [if_neg (fun z => z c0)] at e4'
              rw [if_pos c0] at hv2
              exact ⟨S, G, (A0, sl), by rw [e4', hv2], Nat.le_refl _, Nat.le_add_right _ _, Nat.le_refl _, Nat.le_add_right _ _, fun _ _ => rfl, fun _ _ _ => rfl⟩
            · rw [if_pos c0] at e4'
              rw [if_neg c0] at hv2
              obtain ⟨y, S2, G2, ⟨A2, sl2⟩, c, e17, b1, b2, b3, b4, b5, b6, b7⟩ := k_17 (f := f) (sl := sl) (p := p') (by omega) (by omega) y2.1 y2.2.2.2.1 x3 x4 x5 x6.1 x1 x2 y1 j1
              have hs2 : cSs S2 := fun k hk => by rw [b5 _ (by omega)]; exact a1 k hk
              obtain ⟨d1, d2, d3⟩ := x1.2.2.2.2 p' j1
              have rpA : rp < A0 := y2.2.2.2.2.2.2
              have is1 : cq_is 2 8 eb (S, G, (A0, sl)) = some () := if_pos x1.1
              have d3' : cRw S2 G2 (xr p') (qN s p') (cr p') (M p') := d3.ge (fun a y1 y2 => b5 a (by omega)) (fun j => b6 _ _ (by omega)) (fun j => b6 _ _ (by omega)) (fun j => b6 _ _ (by omega))
              obtain ⟨v', e84, cc⟩ := k_84 (f := f) (m := (A2, sl2)) (lf := l') hf d3' b7 j2 (by omega)
              rw [← he] at cc
              have is2 : cq_is 5 4 (xr p') (S2, G2, (A2, sl2)) = some () := if_pos d3'.1
              have is3 : cq_is 5 4 y (S2, G2, (A2, sl2)) = some () := if_pos b7.1
              rw [Option.bind_some, o_gr (s64 a1) g1, Option.bind_some, is1, Option.bind_some, e17, Option.bind_some, o_gr (x := 64) (y := eb) (s64 hs2) (by rw [b6 _ _ (by omega)]; exact g2), Option.bind_some, o_gr (x := eb) (y := rp) (by rw [b5 _ (by omega)]; exact x1.1) (by rw [b6 _ _ (by omega)]; exact x1.2.2.1), Option.bind_some, o_ar (x := rp) (y := xr p') (L := s.1.length) (by rw [b5 _ rpA]; exact x1.2.2.2.1) (by decide) j1 (by rw [b6 _ _ rpA]; exact d1), Option.bind_some, is2, Option.bind_some, e84, Option.bind_some] at e4'
              have b1' : A0 ≤ A2 := b1
              have b2' : A2 ≤ A0 + 3 := b2
              refine ⟨S2, G2, (A2, sl2), ?_, b1, b2, b3, b4, b5, b6⟩
              rw [e4']
              obtain ⟨k, ⟨c1, c2, c3, c4⟩ | ⟨c1, c2, c3, c4⟩⟩ := cc
              · have hk : k < 1000 := by have := (x9 p' j1).1; omega
                obtain ⟨t1, t2, t3, t4⟩ := ec_xa hk
                rw [c2, if_pos (by omega), t1, t3]
                by_cases cw1 : w = 1
                · rw [if_neg (fun z => z cw1), hv2, if_pos cw1, c1]
                · obtain ⟨cl, rfl⟩ : ∃ cl : Nat, w = ((cl + 2 : Nat) : Int) := ⟨(w - 2).toNat, by omega⟩
                  have w3 : xwr (((cl + 2 : Nat) : Int) - 2) = (cl : Int) := by rw [xwr_g _ (by omega) (by omega)]; omega
                  have w4 : (((cl + 2 : Nat) : Int) - 2).toNat = cl := by omega
                  rw [if_pos cw1, if_neg (fun z => z rfl), is2, Option.bind_some, w3, k_70 (f := f) d3' c3 (by omega), Option.bind_some, hv2, if_neg cw1, w4, c4]
                  rfl
              · have hk : k < 1000 := by have := (hAs p' j1).2.1; omega
                obtain ⟨t1, t2, t3, t4⟩ := ec_xa hk
                rw [c2, if_pos (by omega), t2, t4]
                by_cases cw1 : w = 1
                · rw [if_neg (fun z => z cw1), hv2, if_pos cw1, c1]
                · obtain ⟨cl, rfl⟩ : ∃ cl : Nat, w = ((cl + 2 : Nat) : Int) := ⟨(w - 2).toNat, by omega⟩
                  have w3 : xwr (((cl + 2 : Nat) : Int) - 2) = (cl : Int) := by rw [xwr_g _ (by omega) (by omega)]; omega
                  have w4 : (((cl + 2 : Nat) : Int) - 2).toNat = cl := by omega
                  rw [if_pos cw1, if_pos (by decide), is3, Option.bind_some, w3, k_70 (f := f) b7 c3 (by omega), Option.bind_some, hv2, if_neg cw1, w4, c4]
                  rfl
          · rw [if_neg cq, h124] at e4
            exact .inr (bad (e3.trans e4) (fun z => by
              have : w ≤ 1 + (qN s p' : Int) := z.2.2
              omega))
/-- predicate() -/
theorem k_175 {v t : Int} (hf : 700 < f) {pp : Int} (h : cHs S G A0 (T, lns, hr, tx, kp, mt, pl, rf) n) (hb : (lns hr).2.1.1 + (lns hr).2.1.2.1 < 520) (hst : stPd T (lns hr) pp w t v) : (t = 0 ∧ c175 f 64 pp w (S, G, m) = some (.inr v, (S, G, m))) ∨ (t = 1 ∧ c175 f 64 pp w (S, G, m) = some (.inl 1, cq_ex (S, G, m))) := by
  obtain ⟨P, mp, b1, b2, b3, b4, b5, b6, b7, b8, b9, b10⟩ := hs_ln h hb
  have hh := h
  obtain ⟨⟨a1, a2, a3, a4⟩, ⟨P', z1, z2, z3⟩, _⟩ := h
  obtain ⟨s, M, i1, i2⟩ := hst
  obtain ⟨rp, xr, cr, nq, r1, r2, r3, r4, r5, r6⟩ := b2.pm b1 i1
  have i3 : cq_is 1 14 (243 + 9 * hr) (S, G, m) = some () := if_pos b4.1
  have g6 : cq_gi 11 6 17 64 (S, G, m) = some (hr : Int) := by rw [o_gi (s64 a1), b9]
  have h16 : s.1.length ≤ 16 := r2.2.2.1.2.1
  have e0 := Eq.refl (c175 f 64 pp w (S, G, m))
  conv at e0 => { rhs; unfold c175 }
  rw [o_gr (y := 220) (s64 a1) (p64_5 a2), Option.bind_some, g6, Option.bind_some, o_ar (s220 a1) (by decide) b8 b6, Option.bind_some, i3, Option.bind_some, b7, Option.bind_some, o_gr r1.1 r1.2.1, Option.bind_some] at e0
  have h36 : c175_36 f (S, G, m) = some (.inl 1, cq_ex (S, G, m)) := rfl
  by_cases c1 : 0 ≤ pp ∧ pp < s.1.length
  · obtain ⟨p, rfl⟩ : ∃ p : Nat, pp = (p : Int) := ⟨pp.toNat, by omega⟩
    have hp : p < s.1.length := by omega
    rcases i2 with ⟨_, rfl, v0, v1, v2, v3, v4, v5, v6, v7, v8⟩ | ⟨z, _⟩
    · refine .inl ⟨rfl, ?_⟩
      have et : ((p : Nat) : Int).toNat = p := by omega
      rw [et] at v0 v4 v5 v6 v7
      rw [if_neg (by omega), o_gi r2.1.1, Option.bind_some, r2.2.2.1.1, if_pos c1.2] at e0
      rw [e0]
      clear e0
      by_cases c2 : w < 0 ∨ 7 < w
      · rw [if_pos c2, v8 c2]
      · rw [if_neg c2]
        have g1' := r2.2.2.2.2.1 p (by omega)
        obtain ⟨_, ⟨b31, _⟩, _⟩ := b3
        rcases (by omega : w = 0 ∨ w = 1 ∨ w = 2 ∨ w = 3 ∨ w = 4 ∨ w = 5 ∨ w = 6 ∨ w = 7) with rfl | rfl | rfl | rfl | rfl | rfl | rfl | rfl
        · simp only [Int.reduceEq, reduceIte]
          rw [o_gr r2.1.1 r2.2.1.2.1, Option.bind_some, o_a r2.1.2.2.1 (by omega), Option.bind_some, v0 rfl, (qN_c r4.1.1 p).1, r2.2.2.2.1 p (by omega)]
        · simp only [Int.reduceEq, reduceIte]
          rw [o_gr r2.1.1 r2.2.1.2.2.1, Option.bind_some, o_a r2.1.2.2.2.1 (by omega), Option.bind_some, v1 rfl, g1'.1, pKl_e r4.2.2.2.2.2.1]
        · simp only [Int.reduceEq, reduceIte]
          rw [o_gr r2.1.1 r2.2.1.2.2.2.1, Option.bind_some, o_ab r2.1.2.2.2.2.1 (by omega), Option.bind_some, v2 rfl, g1'.2.1]
          cases pIn s.2.1 (p : Int) <;> rfl
        · simp only [Int.reduceEq, reduceIte]
          rw [o_gr r2.1.1 r2.2.1.2.2.2.2.1, Option.bind_some, o_ab r2.1.2.2.2.2.2.1 (by omega), Option.bind_some, v3 rfl, g1'.2.2]
          cases pOu s.2.2.1 (p : Int) <;> rfl
        · simp only [Int.reduceEq, reduceIte]
          rw [o_gr r2.1.1 r2.2.1.2.2.2.2.2.2.2.1, Option.bind_some, o_a r2.1.2.2.2.2.2.2.2.2.1 (by omega), Option.bind_some, v4 rfl, r2.2.2.2.2.2.2.2.1.1 p hp]
          rfl
        · simp only [Int.reduceEq, reduceIte]
          rw [o_gr b4.1 b5.2.1, Option.bind_some, o_a b4.2.2.1 (by omega), Option.bind_some, v5 rfl, b31 p (by omega)]
        · simp only [Int.reduceEq, reduceIte]
          obtain ⟨d1, d2, d3⟩ := r1.2.2.2.2 p hp
          rw [o_gr r1.1 r1.2.2.1, Option.bind_some, o_ar r1.2.2.2.1 (by decide) hp d1, Option.bind_some, o_gi d3.1, Option.bind_some, v6 rfl, d3.2.2.2.1.2.1]
        · simp only [Int.reduceEq, reduceIte]
          obtain ⟨u1, u2⟩ := v7 rfl
          cases ht : (lns hr).2.2.1.2.2 with
          | false =>
            rw [o_gr (y := 0) (s64 a1) (z3.1 ht), Option.bind_some, if_pos rfl]
            have : v = 0 := u1.resolve_right (fun z => by
              have := (u2.mp z).1
              rw [ht] at this
              cases this)
            rw [this]
            rfl
          | true =>
            obtain ⟨so, Mo, A, ea, eb, q, cx, g1, g2, f1, f2⟩ := ed_cx hh i1 ht
            obtain ⟨qo, nq', nqo, rp', ro, xr', cr', xo, co, x1, x2, x3, x4, ⟨x5, x6, x7, x8, x9, y0⟩, y1, y2⟩ := cx
            have e18 := k_18 (f := f) (m := m) (by omega) x3 x4 x5.1 x6.1 x1 x2 x7 x8 y1 hp
            have is : cq_is 2 8 eb (S, G, m) = some () := if_pos x1.1
            have ci := chg_iff (rd := (((lns hr).2.1.1 + (lns hr).2.1.2.1 : Nat) : Int)) x5.1 x6.1 x9 y0 f1 f2 y1 p
            have cj := dfN_0 (x9 p hp).2.1 (y1.srt y0 p hp).1
            rw [o_gr (s64 a1) g2, Option.bind_some, if_neg (by omega), Option.bind_some, o_gr (s64 a1) g1, Option.bind_some, is, Option.bind_some, e18, Option.bind_some]
            by_cases cz : dfN (M p) (A p) = 0
            · rw [if_pos (by show (dfN (M p) (A p) : Int) ≤ 0; omega)]
              have : v = 0 := u1.resolve_right (fun z => (ci.mp (u2.mp z).2).2 (cj.mp cz))
              rw [this]
              rfl
            · rw [if_neg (by show ¬ (dfN (M p) (A p) : Int) ≤ 0; omega)]
              have : v = 1 := u2.mpr ⟨ht, ci.mpr ⟨hp, fun z => cz (cj.mpr z)⟩⟩
              rw [this]
              rfl
    · exact absurd c1 z
  · rcases i2 with ⟨z, _⟩ | ⟨_, z, _⟩
    · exact absurd z c1
    · refine .inr ⟨z, ?_⟩
      rw [e0]
      by_cases c2 : pp < 0
      · rw [if_pos c2, h36]
      · rw [if_neg c2, o_gi r2.1.1, Option.bind_some, r2.2.2.1.1, if_neg (by omega), h36]
end
end
