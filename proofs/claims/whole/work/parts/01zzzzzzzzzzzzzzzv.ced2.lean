/-! THE CLASS: edits(), edit(), predicate() -/
section
variable {f A0 hr n sl np p ea eb : Nat} {S S' : Nat → Nat × Nat × Nat} {G G' : xG_} {m : Nat × Nat} {s so : pPg} {M Mo A : Nat → List pRw} {T : List (List Int)} {P : Nat → Nat} {lns : Nat → sLn} {tx : List Int} {kp : Nat × List (List Int)} {mt : Int × List Int} {pl rf : Int} {B : Nat → List pEd}
/-- no call but one changes what stood -/
theorem cHs.al {A' n' : Nat} {H : sHs} (h : cHs S G A0 H n) (hn : n ≤ n') (hA : A0 ≤ A') (hS : ∀ a, a < A0 → S' a = S a) (hG : ∀ a j, a < A0 → G' a j = G a j) : cHs S' G' A' H n' := by
  obtain ⟨T, lns, hr, tx, kp, mt, pl, rf⟩ := H
  obtain ⟨⟨a1, a2, a3, a4⟩, ⟨P, d1, d2, d3⟩, ⟨c1, c2⟩, ⟨c3, c4⟩, c5', c6', c7', ⟨an, sp, k1, k2, k3, k4⟩, c9'⟩ := h
  have sf : xSf A0 G G' := fun a j y1 y2 => hG a j y1
  refine ⟨⟨fun k hk => by rw [hS _ (by omega)]; exact a1 k hk, a2.ge (fun a j hz => hG a j (by
      rcases hz with z | z | z | z | z | z | z | ⟨z, z1, z2, k, z3⟩ | z | z | z | ⟨k, z1, z2, z3⟩ <;> omega)), a3.ge (fun a j y1 y2 => hG a j (by omega)), by omega⟩, ⟨P, d1.ge hA hS sf (by rw [hG _ _ (by omega)]; exact Int.le_refl _), fun y hy => (d2 y hy).ge hA hS sf (fun a j y1 y2 => hG a j (by omega)), d3.ge hA hS sf ⟨hG _ _ (by omega), hG _ _ (by omega)⟩⟩, ⟨c1, by rw [hG _ _ (by omega)]; exact c2⟩, ⟨by rw [hG _ _ (by omega)]; exact c3, by rw [hG _ _ (by omega)]; omega⟩, by rw [hG _ _ (by omega)]; exact c5', by rw [hG _ _ (by omega)]; exact c6', c7'.ge (hG _ _ (by omega)) (fun p => hG _ _ (by omega)), ⟨an, sp, k1, by rw [hG _ _ (by omega)]; exact k2, by rw [hG _ _ (by omega)]; exact k3, k4.ge (fun a y1 y2 => hS a (by omega)) (fun j => hG _ _ (by omega)) (fun j => hG _ _ (by omega)) (fun j => hG _ _ (by omega))⟩, c9'.ge ⟨hG _ _ (by omega), hG _ _ (by omega)⟩ (fun j => hG _ _ (by omega))⟩
theorem cHs.ex {n' : Nat} {H : sHs} (h : cHs S G A0 H n) (hn : n ≤ n') : cHs (cq_ex (S, G, (A0, sl))).1 (cq_ex (S, G, (A0, sl))).2.1 (cq_ex (S, G, (A0, sl))).2.2.1 H n' := h.al hn (Nat.le_succ _) (fun a ha => xup1_n (Nat.ne_of_lt ha)) (fun a j ha => by
  show xz1 G A0 (fun _ => 0) a j = G a j
  exact xz1_n _ (by omega))
/-- both moments of the round whose edits are told -/
def cEx (S : Nat → Nat × Nat × Nat) (G : xG_) (A0 : Nat) (s so : pPg) (M Mo A : Nat → List pRw) (ea eb q : Nat) : Prop := ∃ (qo nq nqo rp ro : Nat) (xr cr xo co : Nat → Nat), cMr S G A0 eb q rp s xr cr M ∧ cMr S G A0 ea qo ro so xo co Mo ∧ cPgm S G q nq s ∧ cPgm S G qo nqo so ∧ (qOc s ∧ qOc so ∧ okM8 s M ∧ okM8 so Mo ∧ qTb s M ∧ qTb so Mo) ∧ isAh so s Mo A ∧ (q + 10 < A0 ∧ 555 < A0 ∧ ea < A0 ∧ eb < A0 ∧ ea ≠ 0 ∧ eb ≠ 0 ∧ rp < A0)
theorem ah_ex (so s : pPg) (Mo : Nat → List pRw) : ∃ A, isAh so s Mo A := by
  have : ∀ p, ∃ L, (∃ r, r < so.1.length ∧ qNm so r = qNm s p ∧ qN so r = qN s p ∧ L = Mo r) ∨ ((∀ r, r < so.1.length → qNm so r = qNm s p → qN so r ≠ qN s p) ∧ L = []) := fun p => by
    by_cases c : ∃ r, r < so.1.length ∧ qNm so r = qNm s p ∧ qN so r = qN s p
    · obtain ⟨r, r1, r2, r3⟩ := c
      exact ⟨_, .inl ⟨r, r1, r2, r3, rfl⟩⟩
    · exact ⟨_, .inr ⟨fun r r1 r2 r3 => c ⟨r, r1, r2, r3⟩, rfl⟩⟩
  obtain ⟨A, hA⟩ := Classical.skolem.mp this
  exact ⟨A, fun p _ => hA p⟩
theorem ed_cx (h : cHs S G A0 (T, lns, hr, tx, kp, mt, pl, rf) n) (im : isMo T (lMo (lns hr)) s M) (ht : (lns hr).2.2.1.2.2 = true) : ∃ (so : pPg) (Mo A : Nat → List pRw) (ea eb q : Nat), cEx S G A0 s so M Mo A ea eb q ∧ G 64 12 = (ea : Int) ∧ G 64 13 = (eb : Int) ∧ qFa s M (lMo (lns hr)).2.1 ∧ qFa so Mo ((lns hr).1 ((lns hr).2.1.1 + (lns hr).2.1.2.1 - 1)).2.1 := by
  obtain ⟨⟨a1, a2, a3, a4⟩, ⟨P, d1, d2, ⟨_, d3⟩⟩, _⟩ := h
  obtain ⟨ea, eb, g1, g2, g3, g4⟩ := d3 ht
  obtain ⟨so, Mo, _, _, _, _, _, _, imo, _⟩ := id g3
  obtain ⟨rp, xr, cr, nq, r1, r2, r3, r4, r5, r6, r7, r8, r9⟩ := g4.pm d1 im
  obtain ⟨ro, xo, co, nqo, o1, o2, o3, o4, o5, o6, o7, o8, o9⟩ := g3.pm d1 imo
  obtain ⟨A, hA⟩ := ah_ex so s Mo
  have hq := r2.2.2.2.2.2.2.2.2
  have t7 := r7.2
  have u7 := o7.2
  exact ⟨so, Mo, A, ea, eb, P (lMo (lns hr)).1, ⟨_, nq, nqo, rp, ro, xr, cr, xo, co, r1, o1, r2, o2, ⟨r4, o4, r5, o5, im.2.2.2.2.1.1.1, imo.2.2.2.2.1.1.1⟩, hA, Nat.lt_of_lt_of_le hq r3, a4, o7.1, r7.1, by omega, by omega, r8.1⟩, g1, g2, im.2.2.2.2.2.1, imo.2.2.2.2.2.1⟩
def eM0 (s : pPg) (M : Nat → List pRw) : Nat → List pRw := fun p => if p < s.1.length then M p else []
theorem eB_len (hR : qTb s M) (hM : qTb so Mo) (hA : isAh so s Mo A) (hp : p < s.1.length) : (eB s (eM0 s M) (eM0 s A) p).length = (if pOu s.2.2.1 (p : Int) = true then dfN (M p) (A p) else 0) ∧ dfN (M p) (A p) ≤ 200 := by
  have hAs := hA.srt hM
  have h1 := (hR p hp).1
  have h2 := (hAs p hp).2.1
  have h3 := dfN_le (R := M p) (R2 := A p)
  refine ⟨?_, by omega⟩
  unfold eB
  split
  · rw [List.length_map]
    have e1 : eM0 s M p = M p := if_pos hp
    have e2 : eM0 s A p = A p := if_pos hp
    rw [e1, e2]
    exact mgD_nd (Nat.le_refl _) (hR p hp).2.1 (hAs p hp).1 (fun r hr => ((hR p hp).2.2 r hr).1) (hAs p hp).2.2
  · rfl
/-- the sum over OUTPUTS -/
theorem k_177l (hf : 700 < f) (hs : cSs S) {q : Nat} (hx : cEx S G A0 s so M Mo A ea eb q) (h12 : G 64 12 = (ea : Int)) (h13 : G 64 13 = (eb : Int)) : ∀ (d p ac fu : Nat), p + d = s.1.length → d < fu → ac ≤ 200 * p → c177_19 f fu 64 (ac : Int) q (p : Int) (S, G, m) = some (((ac + (eT (eB s (eM0 s M) (eM0 s A)) p d).length : Nat) : Int), (S, G, m)) := by
  obtain ⟨qo, nq, nqo, rp, ro, xr, cr, xo, co, x1, x2, x3, x4, ⟨x5, x6, x7, x8, x9, y0⟩, y1, y2⟩ := hx
  have h16 : s.1.length ≤ 16 := x3.2.2.1.2.1
  intro d
  induction d with
  | zero =>
    intro p ac fu e1 e2 e3
    obtain ⟨fu, rfl⟩ : ∃ t, fu = t + 1 := ⟨fu - 1, by omega⟩
    show c177_19b (c177_19 f fu) f _ _ _ _ _ = _
    unfold c177_19b
    rw [o_gi x3.1.1, Option.bind_some, x3.2.2.1.1, if_pos (by omega)]
    rfl
  | succ d ih =>
    intro p ac fu e1 e2 e3
    obtain ⟨fu, rfl⟩ : ∃ t, fu = t + 1 := ⟨fu - 1, by omega⟩
    have hp : p < s.1.length := by omega
    obtain ⟨l1, l2⟩ := eB_len x9 y0 y1 hp
    have e18 := k_18 (f := f) (m := m) hf x3 x4 x5.1 x6.1 x1 x2 x7 x8 y1 hp
    have is : cq_is 2 8 eb (S, G, m) = some () := if_pos x1.1
    have go : G (q + 5) p = b01 (pOu s.2.2.1 (p : Int)) := (x3.2.2.2.2.1 p (by omega)).2.2
    have w1 : xwr ((p : Int) + 1) = ((p + 1 : Nat) : Int) := by rw [xwr_g _ (by omega) (by omega)]; omega
    have w2 : xwr ((ac : Int) + (dfN (M p) (A p) : Int)) = ((ac + dfN (M p) (A p) : Nat) : Int) := by rw [xwr_g _ (by omega) (by omega)]; omega
    show c177_19b (c177_19 f fu) f _ _ _ _ _ = some (((ac + (eB s (eM0 s M) (eM0 s A) p ++ eT (eB s (eM0 s M) (eM0 s A)) (p + 1) d).length : Nat) : Int), (S, G, m))
    rw [List.length_append, l1]
    unfold c177_19b c177_51
    rw [o_gi x3.1.1, Option.bind_some, x3.2.2.1.1, if_neg (by omega), o_gr x3.1.1 x3.2.1.2.2.2.2.1, Option.bind_some, o_ab x3.1.2.2.2.2.2.1 (by omega), Option.bind_some, go]
    cases hb : pOu s.2.2.1 (p : Int) with
    | false =>
      rw [if_pos (by decide), if_neg (by decide), w1, ih (p + 1) ac fu (by omega) (by omega) (by omega), Nat.zero_add]
    | true =>
      rw [if_neg (by decide), if_pos rfl, o_gr (s64 hs) h13, Option.bind_some, o_gr (s64 hs) h12, Option.bind_some, is, Option.bind_some, e18, Option.bind_some, w1, w2, ih (p + 1) _ fu (by omega) (by omega) (by omega), Nat.add_assoc]
/-- edits() -/
theorem k_177e {v : Int} (hf : 700 < f) (h : cHs S G A0 (T, lns, hr, tx, kp, mt, pl, rf) n) (hst : ∃ s M E, isMo T (lMo (lns hr)) s M ∧ lnEs (lns hr) s E ∧ v = (E.length : Int)) : c177 f 64 (S, G, m) = some (v, (S, G, m)) := by
  obtain ⟨s, M, E, im, ⟨e1, e2⟩, rfl⟩ := hst
  cases ht : (lns hr).2.2.1.2.2 with
  | false =>
    rw [e2 ht]
    obtain ⟨⟨a1, a2, a3, a4⟩, ⟨P, d1, d2, ⟨d3, _⟩⟩, _⟩ := h
    unfold c177
    rw [o_gr (y := 0) (s64 a1) (d3 ht), Option.bind_some, if_pos rfl]
    rfl
  | true =>
    obtain ⟨so, Mo, A, ea, eb, q, cx, g1, g2, f1, f2⟩ := ed_cx h im ht
    obtain ⟨⟨a1, a2, a3, a4⟩, _⟩ := h
    have k := k_177l (m := m) hf a1 cx g1 g2 s.1.length 0 0 f (by omega) (by obtain ⟨_, _, _, _, _, _, _, _, _, _, _, x3, _⟩ := cx; have := x3.2.2.1.2.1; omega) (Nat.zero_le _)
    obtain ⟨qo, nq, nqo, rp, ro, xr, cr, xo, co, x1, x2, x3, x4, ⟨x5, x6, x7, x8, x9, y0⟩, y1, y2⟩ := cx
    have eE := ed_is x5.1 x6.1 x9 y0 f1 f2 y1 (e1 ht)
    rw [Nat.zero_add] at k
    unfold c177
    rw [o_gr (s64 a1) g2, Option.bind_some, if_neg (by omega), Option.bind_some, o_gr x1.1 x1.2.1, Option.bind_some]
    refine Eq.trans k ?_
    rw [eE]
    rfl
end
