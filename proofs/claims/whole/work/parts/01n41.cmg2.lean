section
/-! THE CLASS: merge: what comes of another line -/
section
variable {f A0 sl q qe nq nqe mb mz rb rz ln p : Nat} {S : Nat → Nat × Nat × Nat} {G : xG_} {m : Nat × Nat} {s se : pPg} {xb cb xz cz : Nat → Nat} {Mb Mz : Nat → List pRw} {FB FZ : List pFc}
def tgOk (s se : pPg) (p : Nat) (tg : Int) : Prop := ∀ (sg : Int) (v : List Int), v.length = qN s p → (∃ p' : Nat, p' < se.1.length ∧ chT se (sg, qNm s p, v) p' ∧ tg = (p' : Int)) ∨ ((∀ p', p' < se.1.length → ¬ chT se (sg, qNm s p, v) p') ∧ tg = -1)
theorem k_22 (hf : 20 < f) (hq : cPgm S G q nq s) (he : cPgm S G qe nqe se) (hok : qOk s) (hoke : qOk se) (hp : p < s.1.length) : ∃ tg, c22 f qe q (p : Int) (S, G, m) = some (tg, (S, G, m)) ∧ tgOk s se p tg := by
  obtain ⟨v, v1, v2⟩ := k_21 (f := f) (m := m) hf hq he hok hoke hp
  have is : cq_is 3 14 qe (S, G, m) = some () := if_pos he.1.1
  have h16 : se.1.length ≤ 16 := he.2.2.1.2.1
  unfold c22 c22_25 c22_26
  rw [is, Option.bind_some, v1, Option.bind_some]
  rcases v2 with ⟨r, rfl, r1, r2, r3⟩ | ⟨rfl, r1⟩
  · have gi := (he.2.2.2.2.1 r (by omega)).2.1
    have ga : cq_ab (qe + 4) (r : Int) (S, G, m) = some (b01 (pIn se.2.1 (r : Int))) := by rw [← gi]; exact o_ab he.1.2.2.2.2.1 (by omega)
    rw [if_neg (show ¬ (((r : Nat) : Int) = -1) by omega), o_gr he.1.1 he.2.1.2.2.2.1, Option.bind_some, ga, Option.bind_some]
    cases hb : pIn se.2.1 (r : Int) with
    | false =>
      rw [if_pos (by decide)]
      refine ⟨-1, rfl, fun sg v hv => .inr ⟨fun p' hp' hc => ?_, rfl⟩⟩
      have : p' = r := nm_inj hoke hp' r1 (hc.1.trans r2.symm)
      have h2 := hc.2.1
      rw [this, hb] at h2
      exact absurd h2 (by decide)
    | true =>
      rw [if_neg (by decide)]
      exact ⟨r, rfl, fun sg v hv => .inl ⟨r, r1, ⟨r2, hb, hv.trans r3.symm⟩, rfl⟩⟩
  · rw [if_pos rfl]
    refine ⟨-1, rfl, fun sg v hv => .inr ⟨fun p' hp' hc => ?_, rfl⟩⟩
    have h3 : v.length = qN se p' := hc.2.2
    exact r1 p' hp' hc.1 (by rw [← h3, hv])
/-- what is asked of a line's pending edition -/
def pdOk (S : Nat → Nat × Nat × Nat) (G : xG_) (A0 ln : Nat) (s se : pPg) : Prop := (G ln 7 = 0 ∧ se = s) ∨ ∃ qe nqe : Nat, G ln 7 = (qe : Int) ∧ qe ≠ 0 ∧ cPgm S G qe nqe se ∧ nqe ≤ A0 ∧ (qe = 229 ∧ nqe ≤ 243 ∨ 555 < qe) ∧ qOk se
theorem df_len (hok : qOk s) (hp : p < s.1.length) (tB : qTb s Mb) (tZ : qTb s Mz) (fB : qFa s Mb FB) (fZ : qFa s Mz FZ) : (dfC (-1) (qNm s p) FZ FB ++ dfC 1 (qNm s p) FB FZ).length = dfN (Mb p) (Mz p) := by
  rw [List.length_append, dfC_e hok tZ fZ fB hp, dfC_e hok tB fB fZ hp, List.length_map, List.length_map]
  unfold dfN
  rw [List.countP_eq_length_filter, List.countP_eq_length_filter]
  omega
theorem dfN_2 (hp : p < s.1.length) (tB : qTb s Mb) (tZ : qTb s Mz) : dfN (Mb p) (Mz p) ≤ 200 := by
  have h1 := (tB p hp).1
  have h2 := (tZ p hp).1
  have h3 := dfN_le (R := Mb p) (R2 := Mz p)
  omega
/-- how much comes -/
theorem k_152s (hf : 700 < f) (hP : cPgm S G q nq s) (hok : qOk s) (h2 : cMr S G A0 mb q rb s xb cb Mb) (h3 : cMr S G A0 mz q rz s xz cz Mz) (ob : okM8 s Mb) (oz : okM8 s Mz) (tB : qTb s Mb) (tZ : qTb s Mz) (fB : qFa s Mb FB) (fZ : qFa s Mz FZ) (ls : S ln = (1, 1, 14)) {ch : Nat} (h8 : G ln 8 = (ch : Int)) (hch : ch ≤ 400) : ∀ (d p ac fu : Nat), p + d = s.1.length → d < fu → ac ≤ 200 * p → c189_152 f fu ln mz mb (ac : Int) (p : Int) (S, G, m) = if ch + (ac + (dfB s FB FZ p d).length) ≤ 400 then c189_219 f f ln mz mb (((ac + (dfB s FB FZ p d).length) : Nat) : Int) 0 (S, G, m) else some (-4, (S, G, m)) := by
  have h16 : s.1.length ≤ 16 := hP.2.2.1.2.1
  intro d
  induction d with
  | zero =>
    intro p ac fu e1 e2 e3
    obtain ⟨fu, rfl⟩ : ∃ t, fu = t + 1 := ⟨fu - 1, by omega⟩
    have w : xwr ((ch : Int) + (ac : Int)) = (ch : Int) + (ac : Int) := xwr_g _ (by omega) (by omega)
    show c189_152b (c189_152 f fu) f _ _ _ _ _ _ = if ch + (ac + ([] : List pPe).length) ≤ 400 then c189_219 f f ln mz mb (((ac + ([] : List pPe).length) : Nat) : Int) 0 (S, G, m) else some (-4, (S, G, m))
    unfold c189_152b
    rw [o_gr h3.1 h3.2.1, Option.bind_some, o_gi hP.1.1, Option.bind_some, hP.2.2.1.1, if_pos (by omega), o_gi ls, Option.bind_some, h8, w, List.length_nil, Nat.add_zero]
    by_cases c : ch + ac ≤ 400
    · rw [if_pos c, if_pos (by omega)]
    · rw [if_neg c, if_neg (by omega)]
  | succ d ih =>
    intro p ac fu e1 e2 e3
    obtain ⟨fu, rfl⟩ : ∃ t, fu = t + 1 := ⟨fu - 1, by omega⟩
    have hp : p < s.1.length := by omega
    have l2 := dfN_2 hp tB tZ
    have e18 := k_18 (f := f) (m := m) hf hP hP hok hok h2 h3 ob oz (fun p hp => .inl ⟨p, hp, rfl, rfl, rfl⟩) hp
    have is : cq_is 2 8 mb (S, G, m) = some () := if_pos h2.1
    have go : G (q + 4) p = b01 (pIn s.2.1 (p : Int)) := (hP.2.2.2.2.1 p (by omega)).2.1
    have w1 : xwr ((p : Int) + 1) = ((p + 1 : Nat) : Int) := by rw [xwr_g _ (by omega) (by omega)]; omega
    have w2 : xwr ((ac : Int) + (dfN (Mb p) (Mz p) : Int)) = ((ac + dfN (Mb p) (Mz p) : Nat) : Int) := by rw [xwr_g _ (by omega) (by omega)]; omega
    have w3 : xwr ((ac : Int) + 0) = ((ac : Nat) : Int) := by rw [xwr_g _ (by omega) (by omega)]; omega
    show c189_152b (c189_152 f fu) f _ _ _ _ _ _ = if ch + (ac + ((if pIn s.2.1 (p : Int) = true then dfC (-1) (qNm s p) FZ FB ++ dfC 1 (qNm s p) FB FZ else []) ++ dfB s FB FZ (p + 1) d).length) ≤ 400 then c189_219 f f ln mz mb (((ac + ((if pIn s.2.1 (p : Int) = true then dfC (-1) (qNm s p) FZ FB ++ dfC 1 (qNm s p) FB FZ else []) ++ dfB s FB FZ (p + 1) d).length) : Nat) : Int) 0 (S, G, m) else some (-4, (S, G, m))
    unfold c189_152b c189_191
    rw [o_gr h3.1 h3.2.1, Option.bind_some, o_gi hP.1.1, Option.bind_some, hP.2.2.1.1, if_neg (by omega), Option.bind_some, o_gr hP.1.1 hP.2.1.2.2.2.1, Option.bind_some, o_ab hP.1.2.2.2.2.1 (by omega), Option.bind_some, go]
    cases hb : pIn s.2.1 (p : Int) with
    | false =>
      rw [if_pos (by decide), if_neg (show ¬ false = true by decide), w1, w3, ih (p + 1) ac fu (by omega) (by omega) (by omega), List.nil_append]
    | true =>
      rw [if_neg (by decide), if_pos rfl, is, Option.bind_some, e18, Option.bind_some, w1, w2, ih (p + 1) _ fu (by omega) (by omega) (by omega), List.length_append, df_len hok hp tB tZ fB fZ, ← Nat.add_assoc, ← Nat.add_assoc, ← Nat.add_assoc, ← Nat.add_assoc, ← Nat.add_assoc]
/-- it comes -/
theorem k_219 (hf : 700 < f) (hA : 555 < A0) (hln : 242 < ln ∧ ln < 271) (ls : lnSt S ln) (lp : lnPt G ln) (hP : cPgm S G q nq s) (hq : nq ≤ A0 ∧ (q = 229 ∧ nq ≤ 243 ∨ 555 < q)) (hok : qOc s) (h2 : cMr S G A0 mb q rb s xb cb Mb) (h3 : cMr S G A0 mz q rz s xz cz Mz) (hsf : sfP A0 mb ∧ sfP A0 rb ∧ sfP A0 mz ∧ sfP A0 rz) (hxz : ∀ p, p < s.1.length → (xz p + 2 < 216 ∨ 555 < xz p) ∧ (xb p + 2 < 216 ∨ 555 < xb p)) (tB : qTb s Mb) (tZ : qTb s Mz) (fB : qFa s Mb FB) (fZ : qFa s Mz FZ) (hpd : pdOk S G A0 ln s se) {cm : Int} :
    ∀ (d p fu : Nat) (S1 : Nat → Nat × Nat × Nat) (G1 : xG_) (A1 sl1 : Nat) (E : List pPe), p + d = s.1.length → d < fu → A0 ≤ A1 → (∀ a, a < A0 → S1 a = S a) → (∀ a j, a < A0 → ¬ (a = ln ∧ j = 8) → ¬ (ln + 4 ≤ a ∧ a ≤ ln + 6) → G1 a j = G a j) → cPn G1 ln se E → (∀ k, k < E.length → (E.getD k dPe).2.2.length ≤ 4) → E.length + (dfB s FB FZ p d).length ≤ 400 →
      ∃ S' G' A' sl', c189_219 f fu ln mz mb cm (p : Int) (S1, G1, (A1, sl1)) = some (cm, (S', G', (A', sl'))) ∧ A1 ≤ A' ∧ A' ≤ A1 + 2 * d ∧ sl1 ≤ sl' ∧ sl' ≤ sl1 + 8 * d ∧ (∀ a, a < A0 → S' a = S a) ∧ (∀ a j, a < A0 → ¬ (a = ln ∧ j = 8) → ¬ (ln + 4 ≤ a ∧ a ≤ ln + 6) → G' a j = G a j) ∧ cPn G' ln se (E ++ dfB s FB FZ p d) := by
  have h16 : s.1.length ≤ 16 := hP.2.2.1.2.1
  have hq10 := hP.2.2.2.2.2.2.2.2
  obtain ⟨f1, f2, f3, f4⟩ := hsf
  unfold sfP at f1 f2 f3 f4
  intro d
  induction d with
  | zero =>
    intro p fu S1 G1 A1 sl1 E e1 e2 e3 e4 e5 e6 e7 e8
    obtain ⟨fu, rfl⟩ : ∃ t, fu = t + 1 := ⟨fu - 1, by omega⟩
    refine ⟨S1, G1, A1, sl1, ?_, Nat.le_refl _, Nat.le_refl _, Nat.le_refl _, Nat.le_refl _, e4, e5, by show cPn G1 ln se (E ++ []); rw [List.append_nil]; exact e6⟩
    show c189_219b (c189_219 f fu) f _ _ _ _ _ _ = _
    unfold c189_219b
    rw [o_gr (x := mz) (y := q) (by rw [e4 _ (by omega)]; exact h3.1) (by rw [e5 _ _ (by omega) (by omega) (by omega)]; exact h3.2.1), Option.bind_some, o_gi (by rw [e4 _ (by omega)]; exact hP.1.1), Option.bind_some, e5 _ _ (by omega) (by omega) (by omega), hP.2.2.1.1, if_pos (by omega)]
  | succ d ih =>
    intro p fu S1 G1 A1 sl1 E e1 e2 e3 e4 e5 e6 e7 e8
    obtain ⟨fu, rfl⟩ : ∃ t, fu = t + 1 := ⟨fu - 1, by omega⟩
    have hp : p < s.1.length := by omega
    have go : G1 (q + 4) p = b01 (pIn s.2.1 (p : Int)) := by rw [e5 _ _ (by omega) (by omega) (by omega)]; exact (hP.2.2.2.2.1 p (by omega)).2.1
    have w1 : xwr ((p : Int) + 1) = ((p + 1 : Nat) : Int) := by rw [xwr_g _ (by omega) (by omega)]; omega
    have sq : S1 q = (1, 3, 14) := by rw [e4 _ (by omega)]; exact hP.1.1
    have gz : cq_gr 2 0 8 mz (S1, G1, (A1, sl1)) = some q := o_gr (by rw [e4 _ (by omega)]; exact h3.1) (by rw [e5 _ _ (by omega) (by omega) (by omega)]; exact h3.2.1)
    have gab : cq_ab (q + 4) (p : Int) (S1, G1, (A1, sl1)) = some (b01 (pIn s.2.1 (p : Int))) := by rw [← go]; exact o_ab (by rw [e4 _ (by omega)]; exact hP.1.2.2.2.2.1) (by omega)
    have e0 := Eq.refl (c189_219 f (fu + 1) ln mz mb cm (p : Int) (S1, G1, (A1, sl1)))
    conv at e0 => { rhs; change c189_219b (c189_219 f fu) f ln mz mb cm (p : Int) (S1, G1, (A1, sl1)); unfold c189_219b }
    rw [gz, Option.bind_some, o_gi sq, Option.bind_some, e5 _ _ (by omega) (by omega) (by omega), hP.2.2.1.1, if_neg (by omega), Option.bind_some, o_gr (x := q) (y := q + 4) sq (by rw [e5 _ _ (by omega) (by omega) (by omega)]; exact hP.2.1.2.2.2.1), Option.bind_some, gab, Option.bind_some] at e0
    have eD : dfB s FB FZ p (d + 1) = (if pIn s.2.1 (p : Int) = true then dfC (-1) (qNm s p) FZ FB ++ dfC 1 (qNm s p) FB FZ else []) ++ dfB s FB FZ (p + 1) d := rfl
    rw [eD] at e8 ⊢
    cases hb : pIn s.2.1 (p : Int) with
    | false =>
      rw [hb, if_neg (by decide), List.nil_append] at e8
      rw [if_neg (by decide), List.nil_append]
      rw [hb, if_pos (by decide)] at e0
      unfold c189_315 at e0
      rw [w1] at e0
      obtain ⟨S', G', A', sl', r1, r2, r3, r4, r5, r6, r7, r8⟩ := ih (p + 1) fu S1 G1 A1 sl1 E (by omega) (by omega) e3 e4 e5 e6 e7 e8
      exact ⟨S', G', A', sl', e0.trans r1, r2, by omega, r4, by omega, r6, r7, r8⟩
    | true =>
      rw [hb, if_pos rfl] at e8
      rw [if_pos rfl]
      rw [hb, if_neg (by decide)] at e0
      -- where it goes
      have tg : ∃ tg, tgOk s se p tg ∧ c189_219 f (fu + 1) ln mz mb cm (p : Int) (S1, G1, (A1, sl1)) = c189_269 (c189_219 f fu) f ln mz mb cm (p : Int) tg (S1, G1, (A1, sl1)) := by
        rcases hpd with ⟨p1, p2⟩ | ⟨qe, nqe, p1, p2, p3, p4, p5, p6⟩
        · refine ⟨(p : Int), fun sg v hv => .inl ⟨p, by rw [p2]; exact hp, by rw [p2]; exact ⟨rfl, hb, hv⟩, rfl⟩, ?_⟩
          rw [e0, o_gr (x := ln) (y := 0) (by rw [e4 _ (by omega)]; exact ls.1) (by rw [e5 _ _ (by omega) (by omega) (by omega)]; exact p1), Option.bind_some, if_pos rfl]
        · have P1 : cPgm S1 G1 q nq s := hP.ge (Nat.le_refl _) (fun a ha => e4 a (by omega)) (fun a j y1 y2 => e5 a j (by omega) (by omega) (by omega))
          have P2 : cPgm S1 G1 qe nqe se := p3.ge (Nat.le_refl _) (fun a ha => e4 a (by omega)) (fun a j y1 y2 => e5 a j (by omega) (by omega) (by omega))
          obtain ⟨tg, t1, t2⟩ := k_22 (f := f) (m := (A1, sl1)) (by omega) P1 P2 hok.1 p6 hp
          have is : cq_is 3 14 qe (S1, G1, (A1, sl1)) = some () := if_pos P2.1.1
          refine ⟨tg, t2, ?_⟩
          rw [e0, o_gr (x := ln) (y := qe) (by rw [e4 _ (by omega)]; exact ls.1) (by rw [e5 _ _ (by omega) (by omega) (by omega)]; exact p1), Option.bind_some, if_neg p2, Option.bind_some, Option.bind_some, is, Option.bind_some, t1, Option.bind_some]
      obtain ⟨tg, t1, t2⟩ := tg
      obtain ⟨b1, b2, b3⟩ := h2.2.2.2.2 p hp
      obtain ⟨z1, z2, z3⟩ := h3.2.2.2.2 p hp
      obtain ⟨xz1', xb1'⟩ := hxz p hp
      have up : ∀ {x cap W : Nat} {R : List pRw}, x + 2 < A0 → (x + 2 < 216 ∨ 555 < x) → cRw S G x W cap R → cRw S1 G1 x W cap R := fun {x cap W R} hx hx2 h => h.ge (fun b _ _ => e4 b (by omega)) (fun j => e5 _ _ (by omega) (by omega) (by omega)) (fun j => e5 _ _ (by omega) (by omega) (by omega)) (fun j => e5 _ _ (by omega) (by omega) (by omega))
      have hw4 := (qN_pos hok hp).2
      have dz := dfC_e (sg := -1) hok.1 tZ fZ fB hp
      have db := dfC_e (sg := 1) hok.1 tB fB fZ hp
      rw [dz, db, List.length_append, List.length_append, List.length_map, List.length_map] at e8
      have ls1 : lnSt S1 ln := lnSt_of' ls (fun a y1 y2 => e4 a (by omega))
      have lp1 : lnPt G1 ln := lnPt_8 lp (fun j hj => e5 _ _ (by omega) (by omega) (by omega))
      obtain ⟨S2, G2, u1, u2, u3, u4, u5⟩ := k_9 (f := f) (sl := sl1) (ad := 0) (sg := -1) (nm := qNm s p) (tg := tg) (s := se) hf (by omega : 555 < A1) ls1 lp1 hln (show xz p + 2 < A1 ∧ (xz p + 2 < 216 ∨ 555 < xz p) from ⟨by omega, xz1'⟩) (show xb p + 2 < A1 ∧ (xb p + 2 < 216 ∨ 555 < xb p) from ⟨by omega, xb1'⟩) hw4 (by rfl) (tZ p hp).2.1 (tB p hp).2.1 (fun v hv => t1 _ v hv) (up z2.2 xz1' z3) (up b2.2 xb1' b3) e6 e7 (by omega)
      have s2 : ∀ a, a < A0 → S2 a = S a := fun a ha => by rw [u2 a (by omega), e4 a ha]
      have g2 : ∀ a j, a < A0 → ¬ (a = ln ∧ j = 8) → ¬ (ln + 4 ≤ a ∧ a ≤ ln + 6) → G2 a j = G a j := fun a j y1 y2 y3 => by rw [u4 a j (by omega) y2 y3, e5 a j y1 y2 y3]
      have up2 : ∀ {x cap W : Nat} {R : List pRw}, x + 2 < A0 → (x + 2 < 216 ∨ 555 < x) → cRw S G x W cap R → cRw S2 G2 x W cap R := fun {x cap W R} hx hx2 h => h.ge (fun b _ _ => s2 b (by omega)) (fun j => g2 _ _ (by omega) (by omega) (by omega)) (fun j => g2 _ _ (by omega) (by omega) (by omega)) (fun j => g2 _ _ (by omega) (by omega) (by omega))
      obtain ⟨S3, G3, v1, v2, v3, v4, v5⟩ := k_9 (f := f) (sl := sl1 + 4) (ad := 1) (sg := 1) (nm := qNm s p) (tg := tg) (s := se) hf (by omega : 555 < A1 + 1) (lnSt_of' ls (fun a y1 y2 => s2 a (by omega))) (lnPt_8 lp (fun j hj => g2 _ _ (by omega) (by omega) (by omega))) hln (show xb p + 2 < A1 + 1 ∧ (xb p + 2 < 216 ∨ 555 < xb p) from ⟨by omega, xb1'⟩) (show xz p + 2 < A1 + 1 ∧ (xz p + 2 < 216 ∨ 555 < xz p) from ⟨by omega, xz1'⟩) hw4 (by rfl) (tB p hp).2.1 (tZ p hp).2.1 (fun v hv => t1 _ v hv) (up2 b2.2 xb1' b3) (up2 z2.2 xz1' z3) u3 u5 (by rw [List.length_append, List.length_map]; omega)
      have s3 : ∀ a, a < A0 → S3 a = S a := fun a ha => by rw [v2 a (by omega), s2 a ha]
      have g3 : ∀ a j, a < A0 → ¬ (a = ln ∧ j = 8) → ¬ (ln + 4 ≤ a ∧ a ≤ ln + 6) → G3 a j = G a j := fun a j y1 y2 y3 => by rw [v4 a j (by omega) y2 y3, g2 a j y1 y2 y3]
      rw [← dz] at u3 v3 v5
      rw [← db] at v3 v5
      have i1 : cq_is 1 14 ln (S1, G1, (A1, sl1)) = some () := if_pos ls1.1
      have i2 : cq_is 1 14 ln (S2, G2, (A1 + 1, sl1 + 4)) = some () := if_pos (by show S2 ln = (1, 1, 14); rw [s2 _ (by omega)]; exact ls.1)
      unfold c189_269 c189_315 at t2
      rw [o_gr (x := mz) (y := rz) (by rw [e4 _ (by omega)]; exact h3.1) (by rw [e5 _ _ (by omega) (by omega) (by omega)]; exact h3.2.2.1), Option.bind_some, o_ar (x := rz) (y := xz p) (L := s.1.length) (by rw [e4 _ (by omega)]; exact h3.2.2.2.1) (by decide) hp (by rw [e5 _ _ (by omega) (by omega) (by omega)]; exact z1), Option.bind_some, o_gr (x := mb) (y := rb) (by rw [e4 _ (by omega)]; exact h2.1) (by rw [e5 _ _ (by omega) (by omega) (by omega)]; exact h2.2.2.1), Option.bind_some, o_ar (x := rb) (y := xb p) (L := s.1.length) (by rw [e4 _ (by omega)]; exact h2.2.2.2.1) (by decide) hp (by rw [e5 _ _ (by omega) (by omega) (by omega)]; exact b1), Option.bind_some, i1, Option.bind_some, u1, Option.bind_some, o_gr (x := mb) (y := rb) (by rw [s2 _ (by omega)]; exact h2.1) (by rw [g2 _ _ (by omega) (by omega) (by omega)]; exact h2.2.2.1), Option.bind_some, o_ar (x := rb) (y := xb p) (L := s.1.length) (by rw [s2 _ (by omega)]; exact h2.2.2.2.1) (by decide) hp (by rw [g2 _ _ (by omega) (by omega) (by omega)]; exact b1), Option.bind_some, o_gr (x := mz) (y := rz) (by rw [s2 _ (by omega)]; exact h3.1) (by rw [g2 _ _ (by omega) (by omega) (by omega)]; exact h3.2.2.1), Option.bind_some, o_ar (x := rz) (y := xz p) (L := s.1.length) (by rw [s2 _ (by omega)]; exact h3.2.2.2.1) (by decide) hp (by rw [g2 _ _ (by omega) (by omega) (by omega)]; exact z1), Option.bind_some, i2, Option.bind_some, v1, Option.bind_some, w1] at t2
      obtain ⟨S', G', A', sl', r1, r2, r3, r4, r5, r6, r7, r8⟩ := ih (p + 1) fu S3 G3 (A1 + 1 + 1) (sl1 + 4 + 4) _ (by omega) (by omega) (by omega) s3 g3 v3 v5 (by rw [List.length_append, List.length_append, dz, db, List.length_map, List.length_map]; omega)
      refine ⟨S', G', A', sl', t2.trans r1, by omega, by omega, by omega, by omega, r6, r7, ?_⟩
      rw [← List.append_assoc, ← List.append_assoc]
      exact r8
end
end
section
/-! THE CLASS: merge() in the house -/
section
variable {f A hr n sl : Nat} {S : Nat → Nat × Nat × Nat} {G : xG_} {T : List (List Int)} {P : Nat → Nat} {lns lns' : Nat → sLn} {tx : List Int} {kp : Nat × List (List Int)} {mt mt' : Int × List Int} {pl rf : Int}
theorem cMr.al {A' mp q rp : Nat} {S' : Nat → Nat × Nat × Nat} {G' : xG_} {s : pPg} {xr cr : Nat → Nat} {M : Nat → List pRw} (h : cMr S G A mp q rp s xr cr M) (hA : A ≤ A') (hS : ∀ a, a < A → S' a = S a) (hG : ∀ a j, a < A → G' a j = G a j) (hm : mp < A) (hr : rp < A) : cMr S' G' A' mp q rp s xr cr M := by
  obtain ⟨h1, h2, h3, h4, h5⟩ := h
  refine ⟨by rw [hS _ hm]; exact h1, by rw [hG _ _ hm]; exact h2, by rw [hG _ _ hm]; exact h3, by rw [hS _ hr]; exact h4, fun p hp => ?_⟩
  obtain ⟨p1, p2, p3⟩ := h5 p hp
  exact ⟨by rw [hG _ _ hr]; exact p1, by omega, p3.ge (fun b _ _ => hS b (by omega)) (fun j => hG _ _ (by omega)) (fun j => hG _ _ (by omega)) (fun j => hG _ _ (by omega))⟩
theorem lUp_p {lns : Nat → sLn} {hr : Nat} : lUp lns hr (lnP (lns hr) (lns hr).2.2.2.1.1) = lns := by
  funext y
  unfold lUp
  by_cases c : y = hr
  · rw [if_pos c, c]; rfl
  · rw [if_neg c]
theorem k_189 {k v : Int} (hf : 1100 < f) (h : cHs S G A (T, lns, hr, tx, kp, mt, pl, rf) n) (hb : ∀ y, y < 4 → (lns y).2.1.1 + (lns y).2.1.2.1 < 520) (hE4 : ∀ i, i < (lns hr).2.2.2.1.1.length → ((lns hr).2.2.2.1.1.getD i dPe).2.2.length ≤ 4) (hst : stMg T lns hr k mt v mt' lns') : ∃ S' G' m', c189 f 64 k (S, G, (A, sl)) = some (v, (S', G', m')) ∧ (A ≤ m'.1 ∧ m'.1 ≤ A + 48 ∧ m'.2 ≤ sl + 192) ∧ (∀ a, a < A → S' a = S a) ∧ cHs S' G' m'.1 (T, lns', hr, tx, kp, mt', pl, rf) (n + 1) := by
  have hh := h
  obtain ⟨⟨a1, a2, a3, a4⟩, ⟨P, d1, d2, d3⟩, ⟨c1, c2⟩, ⟨c3, c4⟩, c5', c6', c7', c8', c9'⟩ := h
  have ls := lnSt_of a1 c1
  have lp := lnPt_of a2 c1
  have g5 : cq_gr 11 5 17 64 (S, G, (A, sl)) = some 220 := o_gr (y := 220) (s64 a1) (p64_5 a2)
  have g6 : cq_gi 11 6 17 64 (S, G, (A, sl)) = some (hr : Int) := by rw [o_gi (s64 a1), c2]
  have ga : ∀ y : Nat, y < 4 → cq_ar 220 (y : Int) (S, G, (A, sl)) = some (243 + 9 * y) := fun y hy => o_ar (s220 a1) (by decide) hy (p_ln a2 hy)
  have il : ∀ y : Nat, y < 4 → cq_is 1 14 (243 + 9 * y) (S, G, (A, sl)) = some () := fun y hy => if_pos (lnSt_of a1 hy).1
  have same : ∀ w : Int, c189 f 64 k (S, G, (A, sl)) = some (w, (S, G, (A, sl))) → v = w → mt' = mt → lns' = lns → ∃ S' G' m', c189 f 64 k (S, G, (A, sl)) = some (v, (S', G', m')) ∧ (A ≤ m'.1 ∧ m'.1 ≤ A + 48 ∧ m'.2 ≤ sl + 192) ∧ (∀ a, a < A → S' a = S a) ∧ cHs S' G' m'.1 (T, lns', hr, tx, kp, mt', pl, rf) (n + 1) := fun w e1 e2 e3 e4 => by
    rw [e2, e3, e4]
    exact ⟨S, G, (A, sl), e1, ⟨Nat.le_refl _, Nat.le_add_right _ _, Nat.le_add_right _ _⟩, (fun _ _ => rfl), hh.al (Nat.le_succ _) (Nat.le_refl _) (fun _ _ => rfl) (fun _ _ _ => rfl)⟩
  have nok : ¬ mgOk lns hr k → c189 f 64 k (S, G, (A, sl)) = some (-1, (S, G, (A, sl))) → ∃ S' G' m', c189 f 64 k (S, G, (A, sl)) = some (v, (S', G', m')) ∧ (A ≤ m'.1 ∧ m'.1 ≤ A + 48 ∧ m'.2 ≤ sl + 192) ∧ (∀ a, a < A → S' a = S a) ∧ cHs S' G' m'.1 (T, lns', hr, tx, kp, mt', pl, rf) (n + 1) := fun hn he => by
    rcases hst with ⟨_, e1, e2, e3⟩ | ⟨z, _⟩ | ⟨z, _⟩
    · exact same _ he e1 e2 e3
    · exact absurd z hn
    · exact absurd z hn
  have e0 := Eq.refl (c189 f 64 k (S, G, (A, sl)))
  conv at e0 => { rhs; unfold c189 }
  rw [g5, Option.bind_some, g6, Option.bind_some, ga hr c1, Option.bind_some] at e0
  unfold c189_59 at e0
  by_cases k1 : k < 0
  · rw [if_pos k1] at e0
    exact nok (fun z => by have := z.1; omega) e0
  rw [if_neg k1] at e0
  by_cases k2 : 4 ≤ k
  · rw [if_pos k2] at e0
    exact nok (fun z => by have := z.2.1; omega) e0
  rw [if_neg k2, Option.bind_some] at e0
  by_cases k3 : k = (hr : Int)
  · rw [if_pos k3] at e0
    exact nok (fun z => z.2.2.1 k3) e0
  rw [if_neg k3, Option.bind_some] at e0
  obtain ⟨x, rfl⟩ : ∃ x : Nat, k = (x : Int) := ⟨k.toNat, by omega⟩
  have hx : x < 4 := by omega
  have ex : ((x : Nat) : Int).toNat = x := by omega
  unfold mgOk at nok
  rw [ex] at nok
  obtain ⟨Xr, _, _, _, _, X3, X4⟩ := id (d2 x hx)
  obtain ⟨⟨⟨l1, l2⟩, mps, l3, l4⟩, Lw, Le, ⟨s', Lp1, Lp2⟩, Lt, Lf⟩ := id (d2 hr c1)
  obtain ⟨⟨x1, x2⟩, mpx, x3, x4⟩ := Xr
  have lsx := lnSt_of a1 hx
  have lpx := lnPt_of a2 hx
  rw [ga x hx, Option.bind_some, o_gi lsx.1, Option.bind_some, X3, Option.bind_some] at e0
  by_cases k4 : ¬ (lns x).2.2.2.2.1 = (hr : Int)
  · rw [if_pos k4] at e0
    exact nok (fun z => k4 z.2.2.2.1) e0
  rw [if_neg k4, Option.bind_some, ga x hx, Option.bind_some, o_gi lsx.1, Option.bind_some] at e0
  replace k4 := Classical.not_not.mp k4
  have g4 := X4 (by omega)
  have e6 := k_6 (f := f) (m := (A, sl)) (r := (lns x).2.2.2.2.2) ls.1 l1 l2
  rw [g4, il hr c1, Option.bind_some, e6, Option.bind_some] at e0
  by_cases k5 : ¬ (((lns hr).2.1.1 : Int) ≤ (lns x).2.2.2.2.2 ∧ (lns x).2.2.2.2.2 ≤ (((lns hr).2.1.1 + (lns hr).2.1.2.1 : Nat) : Int))
  · rw [if_neg k5, if_neg (fun z => z rfl)] at e0
    exact nok (fun z => k5 ⟨z.2.2.2.2.1, z.2.2.2.2.2⟩) e0
  replace k5 := Classical.not_not.mp k5
  have hmok : mgOk lns hr (x : Int) := by
    unfold mgOk
    rw [ex]
    exact ⟨by omega, by omega, k3, k4, k5.1, k5.2⟩
  clear nok
  obtain ⟨r, er⟩ : ∃ r : Nat, (lns x).2.2.2.2.2 = (r : Int) := ⟨(lns x).2.2.2.2.2.toNat, by omega⟩
  have er' : (lns x).2.2.2.2.2.toNat = r := by omega
  obtain ⟨mzA, mzM, mz0⟩ := l3 r (by omega) (by omega)
  obtain ⟨maA, maM, ma0⟩ := l3 _ (Nat.le_add_right _ _) (Nat.le_refl _)
  obtain ⟨mbA, mbM, mb0⟩ := x3 _ (Nat.le_add_right _ _) (Nat.le_refl _)
  clear mz0 ma0 mb0
  have bh := hb hr c1
  have bx := hb x hx
  have e5 := k_5 (f := f) (m := (A, sl)) ls lp l1 bh maA
  have e5x := k_5 (f := f) (m := (A, sl)) lsx lpx x1 bx mbA
  obtain ⟨sa, Ma, ima⟩ := maM.is
  obtain ⟨sb, Mb, imb⟩ := mbM.is
  obtain ⟨sz, Mz, imz⟩ := mzM.is
  obtain ⟨ra, xa, ca, nqa, A1, A2, A3, A4, A5, A6, A7, A8, A9⟩ := maM.pm d1 ima
  obtain ⟨rb, xb, cb, nqb, B1, B2, B3, B4, B5, B6, B7, B8, B9⟩ := mbM.pm d1 imb
  obtain ⟨rz, xz, cz, nqz, Z1, Z2, Z3, Z4, Z5, Z6, Z7, Z8, Z9⟩ := mzM.pm d1 imz
  have pA : P (lMo (lns hr)).1 ≠ 0 := by
    obtain ⟨_, _, _, _, _, _, _, _, _, _, _, _, _, w, _⟩ := maM
    exact w
  have pB : P (lMo (lns x)).1 ≠ 0 := by
    obtain ⟨_, _, _, _, _, _, _, _, _, _, _, _, _, w, _⟩ := mbM
    exact w
  have pZ : P ((lns hr).1 r).1 ≠ 0 := by
    obtain ⟨_, _, _, _, _, _, _, _, _, _, _, _, _, w, _⟩ := mzM
    exact w
  have A1' : cMr S G A (mps ((lns hr).2.1.1 + (lns hr).2.1.2.1)) (P (lMo (lns hr)).1) ra sa xa ca Ma := A1
  have B1' : cMr S G A (mpx ((lns x).2.1.1 + (lns x).2.1.2.1)) (P (lMo (lns x)).1) rb sb xb cb Mb := B1
  have Z1' : cMr S G A (mps r) (P ((lns hr).1 r).1) rz sz xz cz Mz := Z1
  have A2' : cPgm S G (P (lMo (lns hr)).1) nqa sa := A2
  have B2' : cPgm S G (P (lMo (lns x)).1) nqb sb := B2
  have Z2' : cPgm S G (P ((lns hr).1 r).1) nqz sz := Z2
  rw [if_pos k5, if_pos (show ¬ (1 : Int) = 0 by decide), o_gr ls.1 lp.1, Option.bind_some, g5, Option.bind_some, ga x hx, Option.bind_some, o_gi lsx.1, Option.bind_some, g4, er, o_ar ls.2.1 (by decide) (by omega) mzA, Option.bind_some, il hr c1, Option.bind_some, e5, Option.bind_some, g5, Option.bind_some, ga x hx, Option.bind_some, il x hx, Option.bind_some, e5x, Option.bind_some, o_gr Z1'.1 Z1'.2.1, Option.bind_some, o_gi Z2'.1.1, Option.bind_some, o_gr A1'.1 A1'.2.1, Option.bind_some, o_gi A2'.1.1, Option.bind_some] at e0
  have wrongE : ¬ ((lMo (lns hr)).1 = ((lns hr).1 r).1 ∧ (lMo (lns x)).1 = ((lns hr).1 r).1) → c189 f 64 (x : Int) (S, G, (A, sl)) = some (-2, (S, G, (A, sl))) → ∃ S' G' m', c189 f 64 (x : Int) (S, G, (A, sl)) = some (v, (S', G', m')) ∧ (A ≤ m'.1 ∧ m'.1 ≤ A + 48 ∧ m'.2 ≤ sl + 192) ∧ (∀ a, a < A → S' a = S a) ∧ cHs S' G' m'.1 (T, lns', hr, tx, kp, mt', pl, rf) (n + 1) := fun hn he => by
    rcases hst with ⟨z, _⟩ | ⟨_, _, e1, e2, e3⟩ | ⟨_, s, _, _, _, _, _, _, z, _⟩
    · exact absurd hmok z
    · exact same _ he e1 e2 e3
    · rw [ex, er'] at z
      exact absurd z.1 hn
  by_cases k6 : ¬ G (P (lMo (lns hr)).1) 0 = G (P ((lns hr).1 r).1) 0
  · rw [if_pos k6] at e0
    exact wrongE (fun z => k6 (by rw [z.1])) e0
  rw [if_neg k6, o_gr B1'.1 B1'.2.1, Option.bind_some, o_gi B2'.1.1, Option.bind_some] at e0
  replace k6 := Classical.not_not.mp k6
  by_cases k7 : ¬ G (P (lMo (lns x)).1) 0 = G (P ((lns hr).1 r).1) 0
  · rw [if_neg k7] at e0
    exact wrongE (fun z => k7 (by rw [z.2])) e0
  replace k7 := Classical.not_not.mp k7
  have eA : (lMo (lns hr)).1 = ((lns hr).1 r).1 := d1.2 _ _ pA pZ k6
  have eB : (lMo (lns x)).1 = ((lns hr).1 r).1 := d1.2 _ _ pB pZ k7
  clear wrongE A1 A2 A3 A4 A5 A6 A7 A8 A9 B1 B2 B3 B4 B5 B6 B7 B8 B9 Z1 Z2 Z3 Z4 Z5 Z6 Z7 Z8 Z9 A1' A2' B1' B2' Z1' Z2' ima imb imz
  rcases hst with ⟨z, _⟩ | ⟨_, z, _⟩ | ⟨_, s, Ma, Mb, Mz, ima, imb, imz, hsm, hlast⟩
  · exact absurd hmok z
  · rw [ex, er'] at z
    exact absurd ⟨eA, eB⟩ z
  rw [ex] at imb imz hsm hlast
  rw [er'] at imz hsm hlast
  obtain ⟨ra, xa, ca, nqa, A1, A2, A3, A4, A5, A6, A7, A8, A9⟩ := maM.pm d1 ima
  obtain ⟨rb, xb, cb, nqb, B1, B2, B3, B4, B5, B6, B7, B8, B9⟩ := mbM.pm d1 imb
  obtain ⟨rz, xz, cz, nqz, Z1, Z2, Z3, Z4, Z5, Z6, Z7, Z8, Z9⟩ := mzM.pm d1 imz
  obtain ⟨ln, hln⟩ : ∃ ln, ln = 243 + 9 * hr := ⟨_, rfl⟩
  obtain ⟨ma, hma⟩ : ∃ ma, ma = mps ((lns hr).2.1.1 + (lns hr).2.1.2.1) := ⟨_, rfl⟩
  obtain ⟨mb, hmb⟩ : ∃ mb, mb = mpx ((lns x).2.1.1 + (lns x).2.1.2.1) := ⟨_, rfl⟩
  obtain ⟨mz, hmz⟩ : ∃ mz, mz = mps r := ⟨_, rfl⟩
  obtain ⟨q, hq⟩ : ∃ q, q = P ((lns hr).1 r).1 := ⟨_, rfl⟩
  have A1' : cMr S G A ma q ra s xa ca Ma := by rw [hma, hq, ← eA]; exact A1
  have B1' : cMr S G A mb q rb s xb cb Mb := by rw [hmb, hq, ← eB]; exact B1
  have Z1' : cMr S G A mz q rz s xz cz Mz := by rw [hmz, hq]; exact Z1
  have Z2' : cPgm S G q nqz s := by rw [hq]; exact Z2
  have Z6' : q = 229 ∧ nqz ≤ 243 ∨ 555 < q := by rw [hq]; exact Z6
  have A7' : sfP A ma := by rw [hma]; exact A7
  have B7' : sfP A mb := by rw [hmb]; exact B7
  have Z7' : sfP A mz := by rw [hmz]; exact Z7
  rw [if_pos k7, ← hma, ← hmb, ← hmz, ← hln] at e0
  rw [← hln] at ls lp Lp2
  clear A1 A2 A3 A6 A7 B1 B2 B3 B6 B7 Z1 Z2 Z6 Z7 hma hmb hmz hq maA maM mbA mbM mzA mzM e5 e5x e6
  have hq10 := Z2'.2.2.2.2.2.2.2.2
  have tA : qTb s Ma := ima.2.2.2.2.1.1.1
  have tB : qTb s Mb := imb.2.2.2.2.1.1.1
  have tZ : qTb s Mz := imz.2.2.2.2.1.1.1
  have fA := ima.2.2.2.2.2.1
  have fB := imb.2.2.2.2.2.1
  have fZ := imz.2.2.2.2.2.1
  have hok := Z4
  have h16 : s.1.length ≤ 16 := Z2'.2.2.1.2.1
  have isC : cq_is 11 17 64 (S, G, (A, sl)) = some () := if_pos (s64 a1)
  have hin : ∀ p, p < s.1.length → 0 < qKy s p → pIn s.2.1 (p : Int) = true := fun p hp hk => by
    cases hb : pIn s.2.1 (p : Int) with
    | true => rfl
    | false => have := ky_no hb; omega
  obtain ⟨w, S1, G1, A', sl', m1, m2, m3, m4, m5, m6, m7⟩ := k_190l (f := f) hf a1 a2 a4 Z2' (by omega) hok A1' B1' Z1' ⟨A7'.1, B7'.1, Z7'.1, A8.1, B8.1, Z8.1⟩ (fun p hp => ⟨Z9 p hp, B9 p hp⟩) A5 B5 Z5 (fun p hp hk => by
    have hi := hin p hp hk
    obtain ⟨u1, u2, u3⟩ := hsm.2 p hp hi hk
    exact ⟨Nat.le_of_lt (key_lt imz.2.1 hok.1 hp hi), uk_of hok.1 hp fA u1, uk_of hok.1 hp fB u2, uk_of hok.1 hp fZ u3⟩) s.1.length 0 f S G A sl (by omega) (by omega) (Nat.le_refl _) (fun _ _ => rfl) (fun _ _ _ => rfl) (fun p hp => absurd hp (Nat.not_lt_zero _))
  have m1' : c190 f 64 ma mb mz (S, G, (A, sl)) = some (w, (S1, G1, (A', sl'))) := by
    unfold c190
    rw [o_gr Z1'.1 Z1'.2.1, Option.bind_some]
    exact m1
  rw [isC, Option.bind_some, m1', Option.bind_some] at e0
  -- what else stands
  have rest : ∀ (S' : Nat → Nat × Nat × Nat) (G' : xG_) (A' : Nat) (mt' : Int × List Int) (ps : List pPe), A ≤ A' → (∀ a, a < A → S' a = S a) → cMt G' mt' → cPn G' ln s' ps → (∀ a j, a < A → ¬ (a = 64 ∧ (j = 15 ∨ j = 16)) → a ≠ 227 → ¬ (a = ln ∧ j = 8) → ¬ (ln + 4 ≤ a ∧ a ≤ ln + 6) → G' a j = G a j) → cHs S' G' A' (T, lUp lns hr (lnP (lns hr) ps), hr, tx, kp, mt', pl, rf) (n + 1) := fun S' G' A' mt' ps hA hS hMt hPn g => by
    have sf : xSf A G G' := fun a j y1 y2 => g a j y1 (by omega) (by omega) (by omega) (by omega)
    have zy : ∀ a j, ln ≤ a → a ≤ ln + 8 → ¬ (a = ln ∧ j = 8) → ¬ (ln + 4 ≤ a ∧ a ≤ ln + 6) → G' a j = G a j := fun a j y1 y2 y3 y4 => g a j (by omega) (by omega) (by omega) y3 y4
    refine ⟨⟨fun k hk => by rw [hS _ (by omega)]; exact a1 k hk, a2.ge (fun a j hz => g a j (by
      rcases hz with z | z | z | z | z | z | z | ⟨z, z1, z2, k, z3⟩ | z | z | z | ⟨k, z1, z2, z3⟩ <;> omega) (by
      rcases hz with z | z | z | z | z | z | z | ⟨z, z1, z2, k, z3⟩ | z | z | z | ⟨k, z1, z2, z3⟩ <;> omega) (by
      rcases hz with z | z | z | z | z | z | z | ⟨z, z1, z2, k, z3⟩ | z | z | z | ⟨k, z1, z2, z3⟩ <;> omega) (by
      rcases hz with z | z | z | z | z | z | z | ⟨z, z1, z2, k, z3⟩ | z | z | z | ⟨k, z1, z2, z3⟩ <;> omega) (by
      rcases hz with z | z | z | z | z | z | z | ⟨z, z1, z2, k, z3⟩ | z | z | z | ⟨k, z1, z2, z3⟩ <;> omega)), a3.ge (fun a j y1 y2 => g a j (by omega) (by omega) (by omega) (by omega) (by omega)), by omega⟩, ⟨P, d1.ge hA hS sf (by rw [g _ _ (by omega) (by omega) (by omega) (by omega) (by omega)]; exact Int.le_refl _), fun y hy => ?_, ?_⟩, ⟨c1, by rw [g _ _ (by omega) (by omega) (by omega) (by omega) (by omega)]; exact c2⟩, ⟨by rw [g _ _ (by omega) (by omega) (by omega) (by omega) (by omega)]; exact c3, by rw [g _ _ (by omega) (by omega) (by omega) (by omega) (by omega)]; omega⟩, by rw [g _ _ (by omega) (by omega) (by omega) (by omega) (by omega)]; exact c5', by rw [g _ _ (by omega) (by omega) (by omega) (by omega) (by omega)]; exact c6', c7'.ge (g _ _ (by omega) (by omega) (by omega) (by omega) (by omega)) (fun p => g _ _ (by omega) (by omega) (by omega) (by omega) (by omega)), c8'.ge (fun a y => hS a (by omega)) (fun a j y1 y2 => g a j (by omega) (by omega) (by omega) (by omega) (by omega)) ⟨g _ _ (by omega) (by omega) (by omega) (by omega) (by omega), g _ _ (by omega) (by omega) (by omega) (by omega) (by omega)⟩, hMt⟩
    · unfold lUp
      by_cases d : y = hr
      · subst d
        rw [if_pos rfl]
        obtain ⟨Yr, ⟨Yw, Yc⟩, Ye, _, Yt, Y3, Y4⟩ := d2 y hy
        rw [← hln] at Yr Yw Yc Ye Yt Y3 Y4 ⊢
        exact ⟨Yr.ge hA hS sf ⟨zy _ _ (by omega) (by omega) (by omega) (by omega), zy _ _ (by omega) (by omega) (by omega) (by omega), fun j _ _ => zy _ _ (by omega) (by omega) (by omega) (by omega)⟩, ⟨fun p hp => by rw [zy _ _ (by omega) (by omega) (by omega) (by omega)]; exact Yw p hp, fun c hc => by rw [zy _ _ (by omega) (by omega) (by omega) (by omega)]; exact Yc c hc⟩, by rw [zy _ _ (by omega) (by omega) (by omega) (by omega)]; exact Ye, ⟨s', Lp1, hPn⟩, Yt.ge hA hS sf (fun c _ => ⟨zy _ _ (by omega) (by omega) (by omega) (by omega), zy _ _ (by omega) (by omega) (by omega) (by omega)⟩), by rw [zy _ _ (by omega) (by omega) (by omega) (by omega)]; exact Y3, fun hne => by rw [zy _ _ (by omega) (by omega) (by omega) (by omega)]; exact Y4 hne⟩
      · rw [if_neg d]
        exact (d2 y hy).ge hA hS sf (fun a j y1 y2 => g a j (by omega) (by omega) (by omega) (by omega) (by omega))
    · unfold lUp
      rw [if_pos rfl]
      exact d3.ge hA hS sf ⟨g _ _ (by omega) (by omega) (by omega) (by omega) (by omega), g _ _ (by omega) (by omega) (by omega) (by omega) (by omega)⟩
  rcases m7 with ⟨rfl, n1, n2⟩ | ⟨rfl, t, κ, n1, n2, n3, n4, n5, n6, n7, n8, n9, n10⟩
  · rw [if_pos rfl] at e0
    rcases hlast with ⟨p, κ, ⟨p1, p2, p3, p4, _⟩, _⟩ | ⟨_, hmt, hlast⟩
    · exact absurd ((mt_rf hok.1 p1 fA fB fZ).mp p4.1) (n2 p p1 p3 κ)
    have hdA : dfB s (lMo (lns x)).2.1 ((lns hr).1 r).2.1 0 s.1.length = dfA s (lMo (lns x)).2.1 ((lns hr).1 r).2.1 s.1.length := by
      have := dfB_A (s := s) (B := (lMo (lns x)).2.1) (Z := ((lns hr).1 r).2.1) s.1.length 0
      rw [Nat.zero_add] at this
      exact this
    have b400 := Lp2.2.1
    have B1s := B1'.al m2 m6 n1 B7'.1 B8.1
    have Z1s := Z1'.al m2 m6 n1 Z7'.1 Z8.1
    have Z2s : cPgm S1 G1 q nqz s := Z2'.ge (Nat.le_refl _) (fun a ha => m6 a (by omega)) (fun a j y1 y2 => n1 a j (by omega))
    have ls1 : lnSt S1 ln := lnSt_of' ls (fun a y1 y2 => m6 a (by omega))
    have lp1 : lnPt G1 ln := lnPt_of' lp (fun j => n1 _ _ (by omega))
    have Lp1' : cPn G1 ln s' (lns hr).2.2.2.1.1 := Lp2.ge (fun a j y1 y2 => n1 a j (by omega))
    have e1 := k_152s (f := f) (m := (A', sl')) (ln := ln) (FB := (lMo (lns x)).2.1) (FZ := ((lns hr).1 r).2.1) (by omega) Z2s hok.1 B1s Z1s B5 Z5 tB tZ fB fZ ls1.1 Lp1'.1 b400 s.1.length 0 0 f (by omega) (by omega) (Nat.zero_le _)
    rw [Nat.zero_add, hdA] at e1
    have e1' : c189 f 64 (x : Int) (S, G, (A, sl)) = _ := e0.trans e1
    rcases hlast with ⟨b1, rfl, rfl⟩ | ⟨b1, rfl, rfl⟩
    · rw [if_neg (by omega)] at e1'
      refine ⟨S1, G1, (A', sl'), e1', ⟨m2, by show A' ≤ A + 48; omega, by show sl' ≤ sl + 192; omega⟩, m6, ?_⟩
      rw [hmt]
      exact hh.al (Nat.le_succ _) m2 m6 n1
    · rw [if_pos (by omega)] at e1'
      have pd : pdOk S1 G1 A' ln s s' := by
        rw [← hln] at Le
        unfold lnE at Lp1
        rcases Le with ⟨z1, z2⟩ | ⟨z1, z2, z3⟩
        · rw [if_pos z1, eA, imz.2.1] at Lp1
          injection Lp1 with z
          exact .inl ⟨by rw [n1 _ _ (by omega)]; exact z2, z.symm⟩
        · rw [if_neg (by omega)] at Lp1
          obtain ⟨_, ⟨sx, nqx, y1, y2, y3, y4, y5⟩, _⟩ := d1.1 _ z2
          rw [Lp1] at y1
          injection y1 with y1
          rw [← y1] at y2 y3
          refine .inr ⟨_, nqx, by rw [n1 _ _ (by omega)]; exact z3, z2, y3.ge (Nat.le_refl _) (fun a ha => m6 a (by omega)) (fun a j u1 u2 => n1 a j (by omega)), by omega, y5, y2.1⟩
      have sfu : ∀ {a : Nat}, sfP A a → sfP A' a := fun {a} z => ⟨Nat.lt_of_lt_of_le z.1 m2, z.2⟩
      obtain ⟨S2, G2, A2, sl2, r1, r2, r3, r4, r5, r6, r7, r8⟩ := k_219 (f := f) (A0 := A') (ln := ln) (cm := ((dfA s (lMo (lns x)).2.1 ((lns hr).1 r).2.1 s.1.length).length : Int)) (by omega) (by omega) (by omega) ls1 lp1 Z2s ⟨by omega, Z6'⟩ hok B1s Z1s ⟨sfu B7', sfu B8, sfu Z7', sfu Z8⟩ (fun p hp => ⟨Z9 p hp, B9 p hp⟩) tB tZ fB fZ pd s.1.length 0 f S1 G1 A' sl' (lns hr).2.2.2.1.1 (by omega) (by omega) (Nat.le_refl _) (fun _ _ => rfl) (fun _ _ _ _ _ => rfl) Lp1' hE4 (by rw [hdA]; exact b1)
      rw [hdA] at r8
      refine ⟨S2, G2, (A2, sl2), e1'.trans r1, ⟨by show A ≤ A2; omega, by show A2 ≤ A + 48; omega, by show sl2 ≤ sl + 192; omega⟩, (fun a ha => by rw [r6 a (by omega), m6 a ha]), ?_⟩
      rw [hmt, lUp_f (g := fun l => lnP l ((lns hr).2.2.2.1.1 ++ dfA s (lMo (lns x)).2.1 ((lns hr).1 r).2.1 s.1.length))]
      have gg : ∀ a j, a < A → ¬ (a = ln ∧ j = 8) → ¬ (ln + 4 ≤ a ∧ a ≤ ln + 6) → G2 a j = G a j := fun a j y1 y2 y3 => by rw [r7 a j (by omega) y2 y3, n1 a j y1]
      exact rest _ _ _ _ _ (by show A ≤ A2; omega) (fun a ha => by rw [r6 a (by omega), m6 a ha]) (c9'.ge ⟨gg _ _ (by omega) (by omega) (by omega), gg _ _ (by omega) (by omega) (by omega)⟩ (fun j => gg _ _ (by omega) (by omega) (by omega))) r8 (fun a j y1 _ _ y4 y5 => gg a j y1 y4 y5)
  · rw [if_neg (show ¬ (1 : Int) = 0 by decide)] at e0
    rcases hlast with ⟨p, κ', ⟨p1, p2, p3, p4, p5⟩, rfl, rfl, hl⟩ | ⟨z, _⟩
    · have ept : p = t := by
        rcases Nat.lt_trichotomy p t with c | c | c
        · exact absurd ((mt_rf hok.1 p1 fA fB fZ).mp p4.1) (n6 p c p3 κ')
        · exact c
        · exact absurd ((mt_rf hok.1 n1 fA fB fZ).mpr n3) (p5 t c (hin t n1 n2) n2 κ)
      subst ept
      have i1 := p4.2.2 κ ((mt_rf hok.1 n1 fA fB fZ).mpr n3)
      have i2 := n5 κ' ((mt_rf hok.1 p1 fA fB fZ).mp p4.1)
      have i3 := vCmp_anti κ κ'
      have eκ : κ = κ' := vCmp_eq (by rw [n4, p4.2.1]) (by omega)
      subst eκ
      have hk4 : qKy s p ≤ 4 := by
        have := key_lt imz.2.1 hok.1 p1 p2
        have := (qN_pos hok p1).2
        omega
      refine ⟨S1, G1, (A', sl'), e0, ⟨m2, by show A' ≤ A + 48; omega, by show sl' ≤ sl + 192; omega⟩, m6, ?_⟩
      have := rest S1 G1 A' ((p : Int), κ) (lns hr).2.2.2.1.1 m2 m6 ⟨n7, n8, by show κ.length ≤ 4; omega, n9⟩ (Lp2.ge (fun a j y1 y2 => n10 a j (by omega) (by omega) (by omega))) (fun a j y1 y2 y3 _ _ => n10 a j y1 y2 y3)
      rw [lUp_p] at this
      rw [hl]
      exact this
    · exact absurd ((mt_rf hok.1 n1 fA fB fZ).mpr n3) (z t n1 (hin t n1 n2) n2 κ)
end
end
section
/-! THE CLASS: reason: isGiven, isBelowBest, fix -/
section
variable {f u n nv x b : Nat} {S : Nat → Nat × Nat × Nat} {G G' : xG_} {m : Nat × Nat} {gt : Int} {as xs : List Int} {I : List pCd} {K : pCd} {g : Int × Int × Int}
theorem o_s {x kk L z : Nat} {v : Int} (h : S x = (2, kk, L)) (hz : z < L) : cq_s kk x (z : Int) v (S, G, m) = some (S, xup2 G x z v, m) := by
  unfold cq_s
  show (if (S x).1 = 2 ∧ (S x).2.1 = kk ∧ 0 ≤ (z : Int) ∧ (z : Int) < (S x).2.2 then some (S, xup2 G x (z : Int).toNat v, m) else none) = _
  rw [h, if_pos ⟨rfl, rfl, by omega, by show (z : Int) < (L : Int); omega⟩]
  rfl
theorem k_165l (hs : cSs S) (hp : cPs G) (su : S u = (1, 6, 20)) (h2 : G u 2 = (n : Int)) (hn : n ≤ 4) (h3 : G u 3 = gt) : ∀ (d c fu : Nat), c + d = n → d < fu → ∃ v, c165_2 f fu 93 u (c : Int) (S, G, m) = some (v, (S, G, m)) ∧ (v = 1 ∧ (∀ k, c ≤ k → k < n → (k : Int) ≠ gt → G 103 k = G 105 k) ∨ v = 0 ∧ ∃ k, c ≤ k ∧ k < n ∧ (k : Int) ≠ gt ∧ G 103 k ≠ G 105 k) := by
  intro d
  induction d with
  | zero =>
    intro c fu e1 e2
    obtain ⟨fu, rfl⟩ : ∃ t, fu = t + 1 := ⟨fu - 1, by omega⟩
    refine ⟨1, ?_, .inl ⟨rfl, fun k k1 k2 => by omega⟩⟩
    show c165_2b (c165_2 f fu) f _ _ _ _ = _
    unfold c165_2b
    rw [o_gi su, Option.bind_some, h2, if_pos (by omega)]
  | succ d ih =>
    intro c fu e1 e2
    obtain ⟨fu, rfl⟩ : ∃ t, fu = t + 1 := ⟨fu - 1, by omega⟩
    have w1 : xwr ((c : Int) + 1) = ((c + 1 : Nat) : Int) := by rw [xwr_g _ (by omega) (by omega)]; omega
    obtain ⟨v, i1, i2⟩ := ih (c + 1) fu (by omega) (by omega)
    have ee : c165_2 f (fu + 1) 93 u (c : Int) (S, G, m) = c165_2b (c165_2 f fu) f 93 u (c : Int) (S, G, m) := rfl
    rw [ee]
    unfold c165_2b c165_36
    rw [o_gi su, Option.bind_some, h2, if_neg (by omega), o_gi su, Option.bind_some, h3, w1]
    by_cases cg : (c : Int) = gt
    · rw [if_pos cg]
      refine ⟨v, i1, ?_⟩
      rcases i2 with ⟨e, z⟩ | ⟨e, k, k1, k2, k3⟩
      · refine .inl ⟨e, fun k q1 q2 q3 => z k ?_ q2 q3⟩
        by_cases ek : k = c
        · rw [ek] at q3; exact absurd cg q3
        · omega
      · exact .inr ⟨e, k, by omega, k2, k3⟩
    · rw [if_neg cg, o_gr (y := 103) (s93 hs) (p93_9 hp), Option.bind_some, o_a (s103 hs) (by omega), Option.bind_some, o_gr (y := 105) (s93 hs) (p93_11 hp), Option.bind_some, o_a (s105 hs) (by omega), Option.bind_some]
      by_cases ce : G 103 c = G 105 c
      · rw [if_pos ce]
        refine ⟨v, i1, ?_⟩
        rcases i2 with ⟨e, z⟩ | ⟨e, k, k1, k2, k3⟩
        · refine .inl ⟨e, fun k q1 q2 q3 => ?_⟩
          by_cases ek : k = c
          · rw [ek]; exact ce
          · exact z k (by omega) q2 q3
        · exact .inr ⟨e, k, by omega, k2, k3⟩
      · rw [if_neg ce]
        exact ⟨0, rfl, .inr ⟨rfl, c, Nat.le_refl _, by omega, cg, ce⟩⟩
/-- isGiven() -/
theorem k_165 (hf : 20 < f) (hs : cSs S) (hp : cPs G) (su : S u = (1, 6, 20)) (h2 : G u 2 = (n : Int)) (hn : n ≤ 4) (h3 : G u 3 = gt) : ∃ v, c165 f 93 u (S, G, m) = some (v, (S, G, m)) ∧ (v = 1 ∧ (∀ k, k < n → (k : Int) ≠ gt → G 103 k = G 105 k) ∨ v = 0 ∧ ∃ k, k < n ∧ (k : Int) ≠ gt ∧ G 103 k ≠ G 105 k) := by
  obtain ⟨v, v1, v2⟩ := k_165l (f := f) (m := m) hs hp su h2 hn h3 n 0 f (by omega) (by omega)
  refine ⟨v, v1, ?_⟩
  rcases v2 with ⟨e, z⟩ | ⟨e, k, k1, k2⟩
  · exact .inl ⟨e, fun k => z k (Nat.zero_le _)⟩
  · exact .inr ⟨e, k, k2⟩
/-- isBelowBest() -/
def vcN (g h : Nat → Int) : Nat → Nat → Int
  | _, 0 => 0
  | v, d + 1 => if g v = h v then vcN g h (v + 1) d else if g v < h v then -1 else 1
theorem vcN_e (g h : Nat → Int) : ∀ (d v : Nat), vCmp ((List.range' v d).map g) ((List.range' v d).map h) = vcN g h v d
  | 0, v => rfl
  | d + 1, v => by
    show (if g v = h v then vCmp ((List.range' (v + 1) d).map g) ((List.range' (v + 1) d).map h) else if g v < h v then -1 else 1) = if g v = h v then vcN g h (v + 1) d else if g v < h v then -1 else 1
    rw [vcN_e g h d (v + 1)]
theorem vcN_v (g h : Nat → Int) : vcN g h 0 nv = vCmp (vec nv g) (vec nv h) := by
  unfold vec
  rw [List.range_eq_range', vcN_e]
theorem k_166 (hs : cSs S) (hp : cPs G) (hnv : nv ≤ 8) : ∀ (d v fu : Nat), v + d = nv → d < fu → c166_2 f fu 93 (nv : Int) (v : Int) (S, G, m) = some (if vcN (G 84) (G 106) v d < 0 then 1 else 0, (S, G, m)) := by
  intro d
  induction d with
  | zero =>
    intro v fu e1 e2
    obtain ⟨fu, rfl⟩ : ∃ t, fu = t + 1 := ⟨fu - 1, by omega⟩
    show c166_2b (c166_2 f fu) f _ _ _ _ = some (if (0 : Int) < 0 then 1 else 0, (S, G, m))
    unfold c166_2b
    rw [if_pos (by omega), if_neg (by omega)]
  | succ d ih =>
    intro v fu e1 e2
    obtain ⟨fu, rfl⟩ : ∃ t, fu = t + 1 := ⟨fu - 1, by omega⟩
    have w1 : xwr ((v : Int) + 1) = ((v + 1 : Nat) : Int) := by rw [xwr_g _ (by omega) (by omega)]; omega
    have e50 : ∀ w : Int, w = 0 ∨ w = 1 → c166_50 f w (S, G, m) = some (w, (S, G, m)) := fun w hw => if_pos hw
    show c166_2b (c166_2 f fu) f _ _ _ _ = some (if (if G 84 v = G 106 v then vcN (G 84) (G 106) (v + 1) d else if G 84 v < G 106 v then -1 else 1) < 0 then 1 else 0, (S, G, m))
    unfold c166_2b
    rw [if_neg (by omega), o_gr (y := 83) (s93 hs) (p93_0 hp), Option.bind_some, o_gr (y := 84) (s83 hs) (p83_0 hp), Option.bind_some, o_a (s84 hs) (by omega), Option.bind_some, o_gr (y := 106) (s93 hs) (p93_12 hp), Option.bind_some, o_a (s106 hs) (by omega), Option.bind_some]
    by_cases c : G 84 v = G 106 v
    · rw [if_pos c, if_pos c, w1]
      exact ih (v + 1) fu (by omega) (by omega)
    · rw [if_neg c, if_neg c, Option.bind_some, o_gr (y := 84) (s83 hs) (p83_0 hp), Option.bind_some, o_a (s84 hs) (by omega), Option.bind_some, Option.bind_some, o_a (s106 hs) (by omega), Option.bind_some]
      by_cases c2 : G 106 v ≤ G 84 v
      · rw [if_pos c2, e50 0 (.inl rfl), if_neg (show ¬ G 84 v < G 106 v by omega), if_neg (by decide)]
      · rw [if_neg c2, e50 1 (.inr rfl), if_pos (show G 84 v < G 106 v by omega), if_pos (by decide)]
/-- fix() -/
theorem k_131 {vl : Nat → Int} {w : Int} (hs : cSs S) (hp : cPs G) (hx : x < 8) (hl : lvE G 0 b vl) (hw : vOk w) : ∃ v G', c131 f 83 (x : Int) w (S, G, m) = some (v, (S, G', m)) ∧ (∀ a j, ¬ (a = 84 ∧ j = x) → ¬ (a = 87 ∧ j = 0) → G' a j = G a j) ∧ ((v = 0 ∧ b.testBit x = true ∧ vl x ≠ w) ∨ (v = 1 ∧ ∃ vl', lvE G' 0 (b ||| 2 ^ x) vl' ∧ vl' x = w ∧ ∀ j, b.testBit j = true → vl' j = vl j)) := by
  obtain ⟨l1, l2, l3⟩ := hl
  have e30 : ∀ w : Int, w = 0 ∨ w = 1 → c131_30 f w (S, G, m) = some (w, (S, G, m)) := fun w hw => if_pos hw
  have ea : cq_a 3 87 0 (S, G, m) = some (b : Int) := by rw [← l1]; exact o_a (z := 0) (s87 hs) (by omega)
  have b31 : b < 2147483648 := by omega
  have b8 : b < 256 := l2
  unfold c131
  rw [o_gr (y := 87) (s83 hs) (p83_8 hp), Option.bind_some, ea, Option.bind_some]
  cases hb : b.testBit x with
  | true =>
    have z := (xbit b31 (by omega : x < 32)).mpr hb
    obtain ⟨q1, q2, q3⟩ := l3 x hb
    rw [if_neg (fun y => y z), o_gr (y := 84) (s83 hs) (p83_0 hp), Option.bind_some, o_a (s84 hs) hx, Option.bind_some, q2]
    by_cases c : vl x = w
    · rw [if_neg (fun y => y c), e30 1 (.inr rfl)]
      have eb : b ||| 2 ^ x = b := by
        apply Nat.eq_of_testBit_eq
        intro j
        rw [Nat.testBit_or, Nat.testBit_two_pow]
        by_cases ej : x = j
        · rw [← ej, hb]; rfl
        · rw [decide_eq_false ej, Bool.or_false]
      exact ⟨1, G, rfl, fun _ _ _ _ => rfl, .inr ⟨rfl, vl, by rw [eb]; exact ⟨l1, l2, l3⟩, c, fun _ _ => rfl⟩⟩
    · rw [if_pos c, e30 0 (.inl rfl)]
      exact ⟨0, G, rfl, fun _ _ _ _ => rfl, .inl ⟨rfl, rfl, c⟩⟩
  | false =>
    have z : ¬ xand (xshr (b : Int) (x : Int)) 1 = 1 := fun y => by rw [(xbit b31 (by omega : x < 32)).mp y] at hb; cases hb
    have es : cq_s 4 84 (x : Int) w (S, G, m) = some (S, xup2 G 84 x w, m) := o_s (s84 hs) hx
    have p1 : cPs (xup2 G 84 x w) := hp.ge (fun a j hz => xup2_n (by
      rcases hz with z | z | z | z | z | z | z | ⟨z, z1, z2, k, z3⟩ | z | z | z | ⟨k, z1, z2, z3⟩ <;> omega))
    have ea2 : cq_a 3 87 0 (S, xup2 G 84 x w, m) = some (b : Int) := by
      have : cq_a 3 87 0 (S, xup2 G 84 x w, m) = some (xup2 G 84 x w 87 0) := o_a (z := 0) (s87 hs) (by omega)
      rw [this, xup2_n (by omega), l1]
    have lt : b ||| 2 ^ x < 2 ^ 8 := Nat.or_lt_two_pow l2 (Nat.pow_lt_pow_right (by decide) hx)
    have eo : xor_ (b : Int) (xshl 1 (x : Int)) = ((b ||| 2 ^ x : Nat) : Int) := by
      rw [xshl_nat (by omega : x < 31), xor_nat b31 (by have : 2 ^ x < 2 ^ 8 := Nat.pow_lt_pow_right (by decide) hx; omega)]
    have es2 : cq_s 3 87 0 ((b ||| 2 ^ x : Nat) : Int) (S, xup2 G 84 x w, m) = some (S, xup2 (xup2 G 84 x w) 87 0 ((b ||| 2 ^ x : Nat) : Int), m) := o_s (z := 0) (s87 hs) (by omega)
    rw [if_pos z, o_gr (y := 84) (s83 hs) (p83_0 hp), Option.bind_some, es, Option.bind_some, o_gr (y := 87) (s83 hs) (p83_8 p1), Option.bind_some, ea2, Option.bind_some, eo, es2, Option.bind_some]
    refine ⟨1, _, rfl, fun a j y1 y2 => by rw [xup2_n y2, xup2_n y1], .inr ⟨rfl, fun j => if j = x then w else vl j, ⟨by rw [xup2_s], lt, fun j hj => ?_⟩, if_pos rfl, fun j hj => if_neg (fun e => by rw [e, hb] at hj; cases hj)⟩⟩
    rw [xup2_n (by omega)]
    by_cases ej : j = x
    · subst ej
      refine ⟨hx, ?_, ?_⟩
      · rw [xup2_s]; exact (if_pos rfl).symm
      · show vOk (if j = j then w else vl j)
        rw [if_pos rfl]; exact hw
    · rw [Nat.testBit_or, Nat.testBit_two_pow, decide_eq_false (fun e => ej e.symm), Bool.or_false] at hj
      obtain ⟨q1, q2, q3⟩ := l3 j hj
      refine ⟨q1, ?_, ?_⟩
      · rw [xup2_n (by omega), q2]; exact (if_neg ej).symm
      · show vOk (if j = x then w else vl j)
        rw [if_neg ej]; exact q3
end
end
section
/-! THE CLASS: reason: the least WAY that gives a row -/
section
variable {f u np nv a fa fn : Nat} {S : Nat → Nat × Nat × Nat} {G G' : xG_} {m : Nat × Nat} {K : pCd} {Ls : List pLt} {pl : List Nat} {br : Int} {qn xp cp : Nat → Nat} {R : Nat → List pRw} {lo hi : Nat → Int} {Bf : Nat} {I : List pCd} {g : Int × Int × Int} {as : List Int} {V : List (Nat → Int)} {k : Nat}
theorem wSt8.g9 (h : wSt8 Ls pl a br R lo hi G Bf V k) (hf : ∀ a j, 83 ≤ a → a ≤ 91 → G' a j = G a j) : wSt8 Ls pl a br R lo hi G' Bf V k := by
  rcases h with ⟨st, b, vl, V1, k1, V2, k2, a1, a2, a3, a4, a5, a6, a7, a8, a9, a10⟩ | ⟨n, B, a1, a2, a3, a4, a5⟩
  · exact .inl ⟨st, b, vl, V1, k1, V2, k2, a1, by rw [hf _ _ (by omega) (by omega)]; exact a2, by rw [hf _ _ (by omega) (by omega)]; exact a3, a4.ge (hf _ _ (by omega) (by omega)) (fun j _ => hf _ _ (by omega) (by omega)), a5, a6, a7, a8.ge _ _ _ _ (fun a j _ _ _ => hf _ _ (by omega) (by omega)) (hf _ _ (by omega) (by omega)) (fun j _ => hf _ _ (by omega) (by omega)), a9, a10⟩
  · exact .inr ⟨n, B, a1, by rw [hf _ _ (by omega) (by omega)]; exact a2, by rw [hf _ _ (by omega) (by omega)]; exact a3, a4, a5.ge _ _ _ _ (fun a j _ _ _ => hf _ _ (by omega) (by omega)) (hf _ _ (by omega) (by omega)) (fun j _ => hf _ _ (by omega) (by omega))⟩
/-- WAYS over a moment: rows 92, 103, 106, 107 and what next() changes don't matter -/
theorem cWE.f3 (h : cWE S G u K Ls pl fa fn np nv a br qn xp cp R lo hi) (hfa : 203 < fa) (hx : ∀ p, p < np → 203 < xp p) (hp : cPs G') (hf : ∀ a j, a ≠ 84 → ¬ (87 ≤ a ∧ a ≤ 92) → ¬ (a = 83 ∧ (j = 6 ∨ j = 7)) → a ≠ 103 → a ≠ 106 → a ≠ 107 → ¬ (a = 93 ∧ j = 16) → G' a j = G a j) : cWE S G' u K Ls pl fa fn np nv a br qn xp cp R lo hi := by
  obtain ⟨⟨a1, a2, a3, a4, a5, a6, a7, a8⟩, b1, c1, ⟨d1, d2⟩, e1, f1⟩ := h
  have hu := b1.2.2.2.2.1
  have z : ∀ a j, 107 < a → G' a j = G a j := fun a j y => hf a j (by omega) (by omega) (by omega) (by omega) (by omega) (by omega) (by omega)
  have z8 : ∀ a j, (a = 83 ∧ j < 6 ∨ a = 85 ∨ a = 86) → G' a j = G a j := fun a j y => hf a j (by omega) (by omega) (by omega) (by omega) (by omega) (by omega) (by omega)
  refine ⟨⟨a1, hp, by rw [z8 _ _ (by omega)]; exact a3, by rw [z8 _ _ (by omega)]; exact a4, by rw [z8 _ _ (by omega)]; exact a5, a6, a7, a8⟩, b1.fx (fun a j y => z a j (by omega)), c1, ⟨d1, fun k hk => ?_⟩, fun p hp => ?_, fun l hl => ?_⟩
  · rw [z _ _ (by omega), z _ _ (by omega)]; exact d2 k hk
  · obtain ⟨q1, q2, q3, q4⟩ := e1 p hp
    have := hx p hp
    exact ⟨by rw [z _ _ (by omega)]; exact q1, q2, q3.ge (fun _ _ _ => rfl) (fun j => z _ _ (by omega)) (fun j => z _ _ (by omega)) (fun j => z _ _ (by omega)), q4⟩
  · rw [z8 _ _ (by omega), z8 _ _ (by omega)]; exact f1 l hl
/-- a WAY that gives the row -/
def gvY (I : List pCd) (as : List Int) (v : Nat → Int) : Prop := qMk I (-1) v I.length = some as
/-- the best of those found -/
def bsI (G : xG_) (nv : Nat) (I : List pCd) (as : List Int) (W : List (Nat → Int)) (fd : Int) : Prop := (fd = 0 ∧ ∀ v ∈ W, ¬ gvY I as v) ∨ (fd = 1 ∧ ∃ v ∈ W, gvY I as v ∧ (∀ j, j < nv → G 106 j = v j) ∧ ∀ w ∈ W, gvY I as w → vCmp (vec nv v) (vec nv w) ≤ 0)
theorem vec_l2 {v w x : Nat → Int} (h1 : vCmp (vec nv v) (vec nv w) < 0) (h2 : vCmp (vec nv w) (vec nv x) ≤ 0) : vCmp (vec nv v) (vec nv x) ≤ 0 := by
  have l : ∀ y : Nat → Int, (vec nv y).length = nv := fun y => vec_len
  by_cases c : vCmp (vec nv w) (vec nv x) = 0
  · rw [← vCmp_eq ((l w).trans (l x).symm) c]; omega
  · have := vCmp_tr ((l v).trans (l w).symm) ((l w).trans (l x).symm) h1 (by omega)
    omega
theorem k_164n (hf : 100003010 < f) (hfa : 203 < fa) (hx : ∀ p, p < np → 203 < xp p) (hnI : I.length ≤ 4) (hwI : wIe nv I (-1)) (hnv : nv ≤ 8) (has : as.length = I.length) (hBf : ∀ j, j < nv → Bf.testBit j = true) : ∀ (V W : List (Nat → Int)) (k i fu : Nat) (G : xG_) (fd : Int), cWE S G u K Ls pl fa fn np nv a br qn xp cp R lo hi → wSt8 Ls pl a br R lo hi G Bf V k → k ≤ 100000000 → V.length < fu → i + V.length < 10000000 → cIt G u K g I → G u 3 = -1 → G u 6 = (nv : Int) → (∀ c, c < as.length → G 105 c = as.getD c 0) → bsI G nv I as W fd →
    ∃ G' fd', c164_138 f fu 93 u fd (i : Int) (S, G, m) = c164_220 f 93 u fd' (S, G', m) ∧ (∀ b j, b ≠ 84 → ¬ (87 ≤ b ∧ b ≤ 92) → ¬ (b = 83 ∧ (j = 6 ∨ j = 7)) → b ≠ 103 → b ≠ 106 → G' b j = G b j) ∧ cPs G' ∧ bsI G' nv I as (W ++ V) fd' := by
  intro V
  induction V with
  | nil =>
    intro W k i fu G fd h hs hk hfu hii hI hg h6 hgv hb
    obtain ⟨fu, rfl⟩ : ∃ t, fu = t + 1 := ⟨fu - 1, by omega⟩
    rcases k_next (m := m) hf h hs hk with ⟨G1, e1, e2, e3⟩ | ⟨G1, v, V', k', e1, e2, e3, _⟩
    · have i1 : cq_is 9 14 83 (S, G, m) = some () := if_pos (s83 h.1.1)
      refine ⟨G1, fd, ?_, fun b j y1 y2 y3 _ _ => e2 b j y1 y2 y3, (h.ge e2).1.2.1, ?_⟩
      · show c164_138b (c164_138 f fu) f _ _ _ _ _ = _
        unfold c164_138b
        rw [if_neg (by simp at hii; omega), o_gr (y := 83) (s93 h.1.1) (p93_0 h.1.2.1), Option.bind_some, i1, Option.bind_some, e1, Option.bind_some, if_pos rfl]
      · rw [List.append_nil]
        rcases hb with q | ⟨q1, v, q2, q3, q4, q5⟩
        · exact .inl q
        · exact .inr ⟨q1, v, q2, q3, fun j hj => by rw [e2 _ _ (by omega) (by omega) (by omega)]; exact q4 j hj, q5⟩
    · cases e3
  | cons v0 V ih =>
    intro W k i fu G fd h hs hk hfu hii hI hg h6 hgv hb
    rw [List.length_cons] at hfu hii
    obtain ⟨fu, rfl⟩ : ∃ t, fu = t + 1 := ⟨fu - 1, by omega⟩
    rcases k_next (m := m) hf h hs hk with ⟨G1, e1, e2, e3⟩ | ⟨G1, v, V', k', e1, e2, e3, e4, e5, e6⟩
    · cases e3
    · injection e3 with q1 q2
      subst q1 q2
      have h1 := h.ge e2
      have hu := h.2.1.2.2.2.2.1
      have us := h.2.1.1.1
      have ei : xwr ((i : Int) + 1) = ((i + 1 : Nat) : Int) := by rw [xwr_g _ (by omega) (by omega)]; omega
      have hI1 : cIt G1 u K g I := hI.fx hu (fun b j y => e2 b j (by omega) (by omega) (by omega))
      have hV1 : ∀ c, c < I.length → (c : Int) ≠ -1 → cVl G1 (qVm (I.getD c [])) v0 := fun c hc hn j hj => e6 j (hBf j (qVm_in (hwI c hc hn).1.1 j hj))
      obtain ⟨b, G2, g1, g2, g3⟩ := k_142h (f := f) (m := m) (vl := v0) (by omega) hnI hwI h1.wy hI1 (by rw [e2 _ _ (by omega) (by omega) (by omega)]; exact hg) hV1
      have ps2 : cPs G2 := h1.1.2.1.ge (fun b j hz => g2 b j (by
        rcases hz with z | z | z | z | z | z | z | ⟨z, z1, z2, k, z3⟩ | z | z | z | ⟨k, z1, z2, z3⟩ <;> omega) (by
        rcases hz with z | z | z | z | z | z | z | ⟨z, z1, z2, k, z3⟩ | z | z | z | ⟨k, z1, z2, z3⟩ <;> omega))
      have z2 : ∀ b j, b ≠ 84 → ¬ (87 ≤ b ∧ b ≤ 92) → ¬ (b = 83 ∧ (j = 6 ∨ j = 7)) → b ≠ 103 → G2 b j = G b j := fun b j y1 y2 y3 y4 => by rw [g2 b j (by omega) y4, e2 b j y1 y2 y3]
      have i1 : cq_is 9 14 83 (S, G, m) = some () := if_pos (s83 h.1.1)
      have i2 : cq_is 9 14 83 (S, G1, m) = some () := if_pos (s83 h.1.1)
      have i3 : cq_is 10 18 93 (S, G2, m) = some () := if_pos (s93 h.1.1)
      have e0 := Eq.refl (c164_138 f (fu + 1) 93 u fd (i : Int) (S, G, m))
      conv at e0 => { rhs; change c164_138b (c164_138 f fu) f 93 u fd (i : Int) (S, G, m); unfold c164_138b }
      rw [if_neg (by omega), o_gr (y := 83) (s93 h.1.1) (p93_0 h.1.2.1), Option.bind_some, i1, Option.bind_some, e1, Option.bind_some, if_neg (show ¬ (1 : Int) = 0 by decide), o_gr (y := 83) (s93 h.1.1) (p93_0 h1.1.2.1), Option.bind_some, o_gr (y := 103) (s93 h.1.1) (p93_9 h1.1.2.1), Option.bind_some, i2, Option.bind_some, g1, Option.bind_some] at e0
      -- going on
      have go : ∀ (G3 : xG_) (fd3 : Int), cPs G3 → (∀ b j, b ≠ 84 → ¬ (87 ≤ b ∧ b ≤ 92) → ¬ (b = 83 ∧ (j = 6 ∨ j = 7)) → b ≠ 103 → b ≠ 106 → G3 b j = G b j) → (∀ a j, 83 ≤ a → a ≤ 91 → G3 a j = G1 a j) → c164_138 f (fu + 1) 93 u fd (i : Int) (S, G, m) = c164_138 f fu 93 u fd3 ((i + 1 : Nat) : Int) (S, G3, m) → bsI G3 nv I as (W ++ [v0]) fd3 → ∃ G' fd', c164_138 f (fu + 1) 93 u fd (i : Int) (S, G, m) = c164_220 f 93 u fd' (S, G', m) ∧ (∀ b j, b ≠ 84 → ¬ (87 ≤ b ∧ b ≤ 92) → ¬ (b = 83 ∧ (j = 6 ∨ j = 7)) → b ≠ 103 → b ≠ 106 → G' b j = G b j) ∧ cPs G' ∧ bsI G' nv I as (W ++ v0 :: V) fd' := fun G3 fd3 p3 z3 y3 es hb3 => by
        obtain ⟨G4, fd4, r1, r2, r3, r4⟩ := ih (W ++ [v0]) k' (i + 1) fu G3 fd3 (h.f3 hfa hx p3 (fun b j y1 y2 y3 y4 y5 _ _ => z3 b j y1 y2 y3 y4 y5)) (e5.g9 y3) (by omega) (by omega) (by omega) (hI.fx hu (fun b j y => z3 b j (by omega) (by omega) (by omega) (by omega) (by omega))) (by rw [z3 _ _ (by omega) (by omega) (by omega) (by omega) (by omega)]; exact hg) (by rw [z3 _ _ (by omega) (by omega) (by omega) (by omega) (by omega)]; exact h6) (fun c hc => by rw [z3 _ _ (by omega) (by omega) (by omega) (by omega) (by omega)]; exact hgv c hc) hb3
        rw [List.append_assoc, List.singleton_append] at r4
        exact ⟨G4, fd4, es.trans r1, fun b j y1 y2 y3 y4 y5 => by rw [r2 b j y1 y2 y3 y4 y5, z3 b j y1 y2 y3 y4 y5], r3, r4⟩
      have y2 : ∀ a j, 83 ≤ a → a ≤ 91 → G2 a j = G1 a j := fun a j w1 w2 => g2 a j (by omega) (by omega)
      have skip : ¬ gvY I as v0 → bsI G2 nv I as (W ++ [v0]) fd := fun hn => by
        rcases hb with ⟨q1, q2⟩ | ⟨q1, v, q2, q3, q4, q5⟩
        · refine .inl ⟨q1, fun w hw => ?_⟩
          rcases List.mem_append.mp hw with z | z
          · exact q2 w z
          · rw [List.mem_singleton.mp z]; exact hn
        · refine .inr ⟨q1, v, List.mem_append.mpr (.inl q2), q3, fun j hj => by rw [z2 _ _ (by omega) (by omega) (by omega) (by omega)]; exact q4 j hj, fun w hw hy => ?_⟩
          rcases List.mem_append.mp hw with z | z
          · exact q5 w z hy
          · rw [List.mem_singleton.mp z] at hy; exact absurd hy hn
      rcases g3 with ⟨b1, ys, w1, w2⟩ | ⟨b0, w1⟩
      · subst b1
        have ly : ys.length = I.length := qMk_len _ _ w1
        have h22 : G2 u 2 = (I.length : Int) := by rw [z2 _ _ (by omega) (by omega) (by omega) (by omega)]; exact hI.1
        have h23 : G2 u 3 = -1 := by rw [z2 _ _ (by omega) (by omega) (by omega) (by omega)]; exact hg
        obtain ⟨v5, t1, t2⟩ := k_165 (f := f) (m := m) (by omega) h.1.1 ps2 us h22 hnI h23
        have h105 : ∀ c, c < as.length → G2 105 c = as.getD c 0 := fun c hc => by rw [z2 _ _ (by omega) (by omega) (by omega) (by omega)]; exact hgv c hc
        rw [if_neg (show ¬ (1 : Int) = 0 by decide), i3, Option.bind_some, t1, Option.bind_some] at e0
        rcases t2 with ⟨rfl, t3⟩ | ⟨rfl, c, t3, _, t5⟩
        · have ey : ys = as := by
            refine List.ext_getElem (by omega) (fun i h1 h2 => ?_)
            have q := t3 i (by omega) (by omega)
            rw [w2 i (by omega), h105 i h2, getD_e h1, getD_e h2] at q
            exact q
          have yv : gvY I as v0 := by rw [← ey]; exact w1
          rw [if_neg (show ¬ (1 : Int) = 0 by decide)] at e0
          -- a better one
          have take : c164_138 f (fu + 1) 93 u fd (i : Int) (S, G, m) = c164_193 (c164_138 f fu) f 93 u (i : Int) (S, G2, m) → (∀ w ∈ W, gvY I as w → vCmp (vec nv v0) (vec nv w) ≤ 0) → ∃ G' fd', c164_138 f (fu + 1) 93 u fd (i : Int) (S, G, m) = c164_220 f 93 u fd' (S, G', m) ∧ (∀ b j, b ≠ 84 → ¬ (87 ≤ b ∧ b ≤ 92) → ¬ (b = 83 ∧ (j = 6 ∨ j = 7)) → b ≠ 103 → b ≠ 106 → G' b j = G b j) ∧ cPs G' ∧ bsI G' nv I as (W ++ v0 :: V) fd' := fun es hl => by
            have ecp : cq_cp 84 0 106 0 8 (S, G2, m) = some (S, cpG G2 84 0 106 0 8, m) := cp_ok (sp := 0) (dp := 0) (n := 8) (s84 h.1.1) (s106 h.1.1) (.inr rfl) (by omega) (by omega)
            have zc : ∀ a j, a ≠ 106 → cpG G2 84 0 106 0 8 a j = G2 a j := fun a j y => cpG_n y
            have pc : cPs (cpG G2 84 0 106 0 8) := ps2.ge (fun b j hz => zc b j (by
              rcases hz with z | z | z | z | z | z | z | ⟨z, z1, z2, k, z3⟩ | z | z | z | ⟨k, z1, z2, z3⟩ <;> omega))
            unfold c164_193 c164_214 at es
            rw [o_gr (y := 83) (s93 h.1.1) (p93_0 ps2), Option.bind_some, o_gr (y := 84) (s83 h.1.1) (p83_0 ps2), Option.bind_some, o_gr (y := 106) (s93 h.1.1) (p93_12 ps2), Option.bind_some, ecp, Option.bind_some, ei] at es
            refine go _ 1 pc (fun b j y1 y2 y3 y4 y5 => by rw [zc b j y5, z2 b j y1 y2 y3 y4]) (fun a j w1 w2 => by rw [zc a j (by omega), y2 a j w1 w2]) es (.inr ⟨rfl, v0, List.mem_append.mpr (.inr List.mem_cons_self), yv, fun j hj => ?_, fun w hw hy => ?_⟩)
            · rw [cpG_i (Nat.zero_le _) (by omega), Nat.zero_add, Nat.sub_zero, y2 _ _ (by omega) (by omega)]
              exact (e6 j (hBf j hj)).2.1
            · rcases List.mem_append.mp hw with z | z
              · exact hl w z hy
              · rw [List.mem_singleton.mp z, vCmp_self]; exact Int.le_refl _
          rcases hb with ⟨rfl, q2⟩ | ⟨rfl, v, q2, q3, q4, q5⟩
          · rw [if_pos rfl] at e0
            exact take e0 (fun w hw hy => absurd hy (q2 w hw))
          · rw [if_neg (show ¬ (1 : Int) = 0 by decide), o_gi us, Option.bind_some, z2 _ _ (by omega) (by omega) (by omega) (by omega), h6, i3, Option.bind_some] at e0
            have e66 : c166 f 93 (nv : Int) (S, G2, m) = some (if vcN (G2 84) (G2 106) 0 nv < 0 then 1 else 0, (S, G2, m)) := k_166 h.1.1 ps2 hnv nv 0 f (by omega) (by omega)
            have ev : vcN (G2 84) (G2 106) 0 nv = vCmp (vec nv v0) (vec nv v) := by
              rw [vcN_v, vec_ext (fun j hj => show G2 84 j = v0 j by rw [y2 _ _ (by omega) (by omega)]; exact (e6 j (hBf j hj)).2.1), vec_ext (fun j hj => show G2 106 j = v j by rw [z2 _ _ (by omega) (by omega) (by omega) (by omega)]; exact q4 j hj)]
            rw [e66, Option.bind_some, ev] at e0
            by_cases cb : vCmp (vec nv v0) (vec nv v) < 0
            · rw [if_pos cb, if_neg (show ¬ (1 : Int) = 0 by decide)] at e0
              exact take e0 (fun w hw hy => vec_l2 cb (q5 w hw hy))
            · rw [if_neg cb, if_pos rfl] at e0
              unfold c164_214 at e0
              rw [ei] at e0
              refine go G2 1 ps2 (fun b j y1 y2 y3 y4 _ => z2 b j y1 y2 y3 y4) y2 e0 (.inr ⟨rfl, v, List.mem_append.mpr (.inl q2), q3, fun j hj => by rw [z2 _ _ (by omega) (by omega) (by omega) (by omega)]; exact q4 j hj, fun w hw hy => ?_⟩)
              rcases List.mem_append.mp hw with z | z
              · exact q5 w z hy
              · rw [List.mem_singleton.mp z]
                have := vCmp_anti (vec nv v) (vec nv v0)
                omega
        · rw [if_pos rfl] at e0
          unfold c164_214 at e0
          rw [ei] at e0
          refine go G2 fd ps2 (fun b j y1 y2 y3 y4 _ => z2 b j y1 y2 y3 y4) y2 e0 (skip (fun hy => t5 ?_))
          have e : ys = as := Option.some.inj (w1.symm.trans hy)
          rw [w2 c t3, h105 c (by omega), e]
      · subst b0
        rw [if_pos rfl] at e0
        unfold c164_214 at e0
        rw [ei] at e0
        exact go G2 fd ps2 (fun b j y1 y2 y3 y4 _ => z2 b j y1 y2 y3 y4) y2 e0 (skip (fun hy => by unfold gvY at hy; rw [w1] at hy; cases hy))
end
end
section
/-! THE CLASS: reason: which rows a WAY is of -/
section
variable {f u x l nv W cap np a fa fn i p la fi : Nat} {S : Nat → Nat × Nat × Nat} {G G' : xG_} {m : Nat × Nat} {K T : pCd} {Ls : List pLt} {pl : List Nat} {br : Int} {qn xp cp : Nat → Nat} {RR : Nat → List pRw} {R : List pRw} {lo hi : Int} {lO hI : Nat → Int} {vl : Nat → Int}
theorem fit_255 {r : pRw} (hT : ∀ y ∈ T, wT1 nv y) (hnv : nv ≤ 8) (hl : r.1.length = T.length) : (∃ b' v', fitR T lo hi 255 vl r = some (b', v')) ↔ (lo ≤ r.2 ∧ r.2 ≤ hi) ∧ sTs vl T r.1 := by
  rw [fit_iff hT hl]
  have hb : ∀ k, k < 8 → (255 : Nat).testBit k = true := fun k hk => by
    have : (255 : Nat) = 2 ^ 8 - 1 := rfl
    rw [this, Nat.testBit_two_pow_sub_one]
    exact decide_eq_true hk
  constructor
  · rintro ⟨h1, w, w1, w2⟩
    refine ⟨h1, sTs_on w2 (fun k hk => (w1 k (hb k ?_)).symm)⟩
    obtain ⟨i, i1, i2, i3⟩ := qT_get.mp hk
    have hm : T.getD i (0, 0) ∈ T := by rw [getD_e i1]; exact List.getElem_mem i1
    rcases hT _ hm with ⟨z1, z2, z3⟩ | z1 | ⟨z1, _⟩
    · omega
    · omega
    · omega
  · rintro ⟨h1, h2⟩
    exact ⟨h1, vl, fun _ _ => rfl, h2⟩
theorem k_143l (hf : 600 < f) : ∀ (d i fu : Nat) (G : xG_), i + d = R.length → d < fu → cLv S G u x l 0 255 nv W cap K T R lo hi → G 90 0 = (la : Int) → isRn R T 255 vl fi la → (∀ k, (255 : Nat).testBit k = true → G 84 k = vl k) → (∀ j, j < i → fitR T lo hi 255 vl (R.getD j dRw) = none) → ∃ v G', c143_54 f fu 83 (l : Int) x (i : Int) (S, G, m) = some (v, (S, G', m)) ∧ (∀ a j, a ≠ 84 → G' a j = G a j) ∧ fst1 (fun j => ∃ b' v', fitR T lo hi 255 vl (R.getD j dRw) = some (b', v')) R.length v := by
  intro d
  have outl : ∀ {G : xG_}, cLv S G u x l 0 255 nv W cap K T R lo hi → isRn R T 255 vl fi la → ∀ j, j < R.length → la ≤ j → fitR T lo hi 255 vl (R.getD j dRw) = none := fun h hrn j hj hlj => by
    obtain ⟨h1, h2, h3, h4, h5', h6, _⟩ := h
    obtain ⟨kl, kl1, kl2⟩ := hrn.2.2
    cases hq : fitR T lo hi 255 vl (R.getD j dRw) with
    | none => rfl
    | some z =>
      have := (kl2 j hj (kl1.fit h6 (by rw [(h3.2.2.2.2.2.2.2 j hj).1, h5']) hq)).2
      omega
  have nn : ∀ {r : pRw}, fitR T lo hi 255 vl r = none → ¬ ∃ b' v', fitR T lo hi 255 vl r = some (b', v') := fun h ⟨b', v', e⟩ => by rw [h] at e; cases e
  induction d with
  | zero =>
    intro i fu G e1 e2 h h90 hrn hv hn
    obtain ⟨fu, rfl⟩ : ∃ t, fu = t + 1 := ⟨fu - 1, by omega⟩
    have e9 : cq_a 3 90 0 (S, G, m) = some (la : Int) := by rw [← h90]; exact o_a (z := 0) (s90 h.1.1) (by omega)
    refine ⟨-1, G, ?_, fun _ _ _ => rfl, .inr ⟨fun j hj => nn (hn j (by omega)), rfl⟩⟩
    show c143_54b (c143_54 f fu) f _ _ _ _ _ = _
    unfold c143_54b
    rw [o_gr (y := 90) (s83 h.1.1) (p83_11 h.1.2.1), Option.bind_some, e9, Option.bind_some, if_pos (by have := hrn.2.1; omega)]
  | succ d ih =>
    intro i fu G e1 e2 h h90 hrn hv hn
    obtain ⟨fu, rfl⟩ : ∃ t, fu = t + 1 := ⟨fu - 1, by omega⟩
    have e9 : cq_a 3 90 0 (S, G, m) = some (la : Int) := by rw [← h90]; exact o_a (z := 0) (s90 h.1.1) (by omega)
    have hb := h
    obtain ⟨h1, h2, h3, h4, h5', h6, h7, h8, h9, h10, h11, h12, h13⟩ := h
    have hlc := h3.2.2.2.2.1
    have hcap := h3.2.2.2.2.2.1
    have hi2 : i < R.length := by omega
    have lT : (R.getD i dRw).1.length = T.length := by rw [(h3.2.2.2.2.2.2.2 i hi2).1, h5']
    have i1 : cq_is 9 14 83 (S, G, m) = some () := if_pos (s83 h1.1)
    have ei : xwr ((i : Int) + 1) = ((i + 1 : Nat) : Int) := by rw [xwr_g _ (by omega) (by omega)]; omega
    have e0 := Eq.refl (c143_54 f (fu + 1) 83 (l : Int) x (i : Int) (S, G, m))
    conv at e0 => { rhs; change c143_54b (c143_54 f fu) f 83 (l : Int) x (i : Int) (S, G, m); unfold c143_54b }
    rw [o_gr (y := 90) (s83 h1.1) (p83_11 h1.2.1), Option.bind_some, e9, Option.bind_some] at e0
    by_cases hla : la ≤ i
    · rw [if_pos (by omega)] at e0
      refine ⟨-1, G, e0, fun _ _ _ => rfl, .inr ⟨fun j hj => ?_, rfl⟩⟩
      by_cases cj : j < i
      · exact nn (hn j cj)
      · exact nn (outl hb hrn j hj (by omega))
    · obtain ⟨v, G1, g1, g2, g3⟩ := k_136 (f := f) (m := m) (vl := fun k => G 84 k) (by omega) hb hi2 (fun k _ => rfl)
      have hb1 : cLv S G1 u x l 0 255 nv W cap K T R lo hi := hb.ge (fun a j y _ _ _ _ _ _ _ => g2 a j y)
      rw [if_neg (by omega), i1, Option.bind_some, g1, Option.bind_some] at e0
      rcases g3 with ⟨b', vl', y1, y2, y3⟩ | ⟨y1, y2, y3⟩
      · rw [if_neg (show ¬ v = -1 by omega)] at e0
        obtain ⟨v2, w1, _⟩ := fit_xt h6 (Nat.le_of_eq lT.symm) hv y1
        exact ⟨(i : Int), G1, e0, g2, .inl ⟨i, hi2, ⟨_, _, w1⟩, fun j hj => nn (hn j hj), rfl⟩⟩
      · rw [if_pos y1, ei] at e0
        have ni : fitR T lo hi 255 vl (R.getD i dRw) = none := by
          cases hq : fitR T lo hi 255 vl (R.getD i dRw) with
          | none => rfl
          | some z =>
            obtain ⟨z1, z2⟩ := z
            obtain ⟨v4, w1, _⟩ := fit_xt (v := fun k => G 84 k) h6 (Nat.le_of_eq lT.symm) (fun k hk => (hv k hk).symm) hq
            rw [y2] at w1
            cases w1
        obtain ⟨v2, G2, r1, r2, r3⟩ := ih (i + 1) fu G1 (by omega) (by omega) hb1 (by rw [g2 _ _ (by omega)]; exact h90) hrn (fun k hk => by rw [y3 k hk, hv k hk]) (fun j hj => by
          by_cases cj : j = i
          · rw [cj]; exact ni
          · exact hn j (by omega))
        exact ⟨v2, G2, e0.trans r1, fun a j y => by rw [r2 a j y, g2 a j y], r3⟩
/-- rowOf() -/
theorem k_143 (hf : 600 < f) (h : cWE S G u K Ls pl fa fn np nv a br qn xp cp RR lO hI) (hfa : 203 < fa) (hx : ∀ p, p < np → 203 < xp p) (hl : l < Ls.length) (hl8 : l < 8) (hy : (Ls.getD l dLt).1 ≠ 3) (hv : ∀ k, k < 8 → G 106 k = vl k) : ∃ v G', c143 f 83 (l : Int) 106 (S, G, m) = some (v, (S, G', m)) ∧ (∀ b j, b ≠ 84 → ¬ (87 ≤ b ∧ b ≤ 92) → ¬ (b = 83 ∧ (j = 6 ∨ j = 7)) → G' b j = G b j) ∧ cPs G' ∧ fst1 (fun j => (lO l ≤ ((RR (Ls.getD l dLt).2.1.toNat).getD j dRw).2 ∧ ((RR (Ls.getD l dLt).2.1.toNat).getD j dRw).2 ≤ hI l) ∧ sTs vl (Ls.getD l dLt).2.2.2.1 ((RR (Ls.getD l dLt).2.1.toNat).getD j dRw).1) (RR (Ls.getD l dLt).2.1.toNat).length v := by
  have hs := h.1.1
  have hp := h.1.2.1
  obtain ⟨G1, hG1⟩ : ∃ G1, G1 = xup2 (xup2 G 83 6 0) 87 0 255 := ⟨_, rfl⟩
  obtain ⟨G2, hG2⟩ : ∃ G2, G2 = cpG G1 106 0 84 0 8 := ⟨_, rfl⟩
  have z1 : ∀ b j, ¬ (b = 87 ∧ j = 0) → ¬ (b = 83 ∧ j = 6) → G1 b j = G b j := fun b j y1 y2 => by rw [hG1, xup2_n y1, xup2_n y2]
  have z2 : ∀ b j, b ≠ 84 → G2 b j = G1 b j := fun b j y => by rw [hG2]; exact cpG_n y
  have p0 : cPs (xup2 G 83 6 0) := hp.ge (fun b j hz => xup2_n (by
    rcases hz with z | z | z | z | z | z | z | ⟨z, z1, z2, k, z3⟩ | z | z | z | ⟨k, z1, z2, z3⟩ <;> omega))
  have p1 : cPs G1 := hp.ge (fun b j hz => z1 b j (by
    rcases hz with z | z | z | z | z | z | z | ⟨z, z1, z2, k, z3⟩ | z | z | z | ⟨k, z1, z2, z3⟩ <;> omega) (by
    rcases hz with z | z | z | z | z | z | z | ⟨z, z1, z2, k, z3⟩ | z | z | z | ⟨k, z1, z2, z3⟩ <;> omega))
  have p2 : cPs G2 := p1.ge (fun b j hz => z2 b j (by
    rcases hz with z | z | z | z | z | z | z | ⟨z, z1, z2, k, z3⟩ | z | z | z | ⟨k, z1, z2, z3⟩ <;> omega))
  have h2 : cWE S G2 u K Ls pl fa fn np nv a br qn xp cp RR lO hI := h.f3 hfa hx p2 (fun b j y1 y2 y3 _ _ _ _ => by rw [z2 b j y1, z1 b j (by omega) (by omega)])
  have v2 : ∀ k, k < 8 → G2 84 k = vl k := fun k hk => by
    rw [hG2, cpG_i (Nat.zero_le _) (by omega), Nat.zero_add, Nat.sub_zero, z1 _ _ (by omega) (by omega)]
    exact hv k hk
  have g6 : G2 83 6 = ((0 : Nat) : Int) := by rw [z2 _ _ (by omega), hG1, xup2_n (by omega), xup2_s]; rfl
  have g87 : G2 87 0 = ((255 : Nat) : Int) := by rw [z2 _ _ (by omega), hG1, xup2_s]; rfl
  obtain ⟨p, hp1, hp2, hlv, hF, hsr, hl100, hok⟩ := h2.lv hl hy g6 (by omega) g87 (by decide)
  have et : (Ls.getD l dLt).2.1.toNat = p := by rw [hp2]; omega
  rw [et]
  have b8 : ∀ k, (255 : Nat).testBit k = true → k < 8 := fun k hk => by
    have : (255 : Nat) = 2 ^ 8 - 1 := rfl
    rw [this, Nat.testBit_two_pow_sub_one] at hk
    exact of_decide_eq_true hk
  obtain ⟨G3, fi, la, g1, g2', g3, g4, g5, g6', g7⟩ := k_134 (f := f) (m := m) hf hlv hF hsr (fun k hk => v2 k (b8 k hk))
  have hb3 := hlv.ge (G' := G3) (fun a j _ _ y3 y4 y5 y6 _ _ => g2' a j y3 y4 y5 y6)
  have hu := hlv.1.2.2.2.1
  have hF3 : cFs S G3 u l fa fn p (xp p) := hF.ge hu (g2' _ _ (by omega) (by omega) (by omega) (by omega)) (fun a j y => g2' _ _ (by omega) (by omega) (by omega) (by omega))
  obtain ⟨q1, q2, q3, q4, q5, q6⟩ := hF3
  obtain ⟨c1, c2, c3, c4, c5', c6, c7, c8, c9, c10, c11, c12, c13⟩ := id hb3
  obtain ⟨kl, kl1, kl2⟩ := g7.2.2
  have hlc := c3.2.2.2.2.1
  have hcap := c3.2.2.2.2.2.1
  obtain ⟨v, G4, r1, r2, r3⟩ := k_143l (f := f) (m := m) (vl := vl) hf ((RR p).length - fi) fi f G3 (by have := g7.1; omega) (by omega) hb3 g6' g7 (fun k hk => by rw [g2' _ _ (by omega) (by omega) (by omega) (by omega)]; exact v2 k (b8 k hk)) (fun j hj => by
    have hjl : j < (RR p).length := by have := g7.1; omega
    cases hq : fitR (Ls.getD l dLt).2.2.2.1 (lO l) (hI l) 255 vl ((RR p).getD j dRw) with
    | none => rfl
    | some z =>
      have := (kl2 j hjl (kl1.fit c6 (by rw [(c3.2.2.2.2.2.2.2 j hjl).1, c5']) hq)).1
      omega)
  have p3 : cPs G3 := c1.2.1
  have e88 : cq_a 3 88 0 (S, G3, m) = some (fi : Int) := by rw [← g4]; exact o_a (z := 0) (s88 hs) (by omega)
  have es2 : cq_s 3 87 0 255 (S, xup2 G 83 6 0, m) = some (S, G1, m) := by rw [hG1]; exact o_s (z := 0) (s87 hs) (by omega)
  have ecp : cq_cp 106 0 84 0 8 (S, G1, m) = some (S, G2, m) := by rw [hG2]; exact cp_ok (sp := 0) (dp := 0) (n := 8) (s106 hs) (s84 hs) (.inr rfl) (by omega) (by omega)
  have is : cq_is 9 14 83 (S, G2, m) = some () := if_pos (s83 hs)
  refine ⟨v, G4, ?_, fun b j y1 y2 y3 => by rw [r2 b j y1, g2' b j (by omega) (by omega) (by omega) (by omega), z2 b j y1, z1 b j (by omega) (by omega)], p3.ge (fun b j hz => r2 b j (by
    rcases hz with z | z | z | z | z | z | z | ⟨z, z1, z2, k, z3⟩ | z | z | z | ⟨k, z1, z2, z3⟩ <;> omega)), ?_⟩
  · unfold c143
    rw [o_p (s83 hs), Option.bind_some, o_gr (y := 87) (s83 hs) (p83_8 p0), Option.bind_some, es2, Option.bind_some, o_gr (y := 84) (s83 hs) (p83_0 p1), Option.bind_some, ecp, Option.bind_some, is, Option.bind_some, g1, Option.bind_some, o_gr (s83 hs) q1, Option.bind_some, o_gr (s83 hs) c1.2.2.1, Option.bind_some, o_gr c1.2.2.2.2.1.1 c1.2.2.2.2.2.1.2.2.1, Option.bind_some, o_a c1.2.2.2.2.1.2.2.2.1 hl8, Option.bind_some, q5, o_ar q2 (by decide) q3 q4, Option.bind_some, o_gr (y := 88) (s83 hs) (p83_9 p3), Option.bind_some, e88, Option.bind_some]
    exact r1
  · have eq : ∀ j, j < (RR p).length → ((∃ b' v', fitR (Ls.getD l dLt).2.2.2.1 (lO l) (hI l) 255 vl ((RR p).getD j dRw) = some (b', v')) ↔ (lO l ≤ ((RR p).getD j dRw).2 ∧ ((RR p).getD j dRw).2 ≤ hI l) ∧ sTs vl (Ls.getD l dLt).2.2.2.1 ((RR p).getD j dRw).1) := fun j hj => fit_255 c6 c7 (by rw [(c3.2.2.2.2.2.2.2 j hj).1, c5'])
    rcases r3 with ⟨j, j1, j2, j3, j4⟩ | ⟨j1, j2⟩
    · exact .inl ⟨j, j1, (eq j j1).mp j2, fun i hi z => j3 i hi ((eq i (by omega)).mpr z), j4⟩
    · exact .inr ⟨fun j hj z => j1 j hj ((eq j hj).mpr z), j2⟩
/-- the rows of all ATOMS -/
def atN (Ls : List pLt) (l : Nat) : Nat := ((Ls.take l).filter (fun y => decide (y.1 = 1))).length
theorem atN_s {l : Nat} (hl : l < Ls.length) : atN Ls (l + 1) = atN Ls l + (if (Ls.getD l dLt).1 = 1 then 1 else 0) := by
  unfold atN
  have e : Ls.take (l + 1) = Ls.take l ++ [Ls.getD l dLt] := by
    rw [List.take_succ_eq_append_getElem hl]
    congr 1
    rw [getD_e hl]
  rw [e, List.filter_append, List.length_append]
  by_cases c : (Ls.getD l dLt).1 = 1
  · rw [if_pos c, List.filter_cons_of_pos (by exact decide_eq_true c)]; rfl
  · rw [if_neg c, List.filter_cons_of_neg (by rw [decide_eq_false c]; decide)]; rfl
theorem atN_get {l : Nat} (hl : l < Ls.length) (h1 : (Ls.getD l dLt).1 = 1) : (Ls.filter (fun y => decide (y.1 = 1)))[atN Ls l]? = some (Ls.getD l dLt) := by
  unfold atN
  conv => lhs; rw [← List.take_append_drop l Ls]
  rw [List.filter_append, List.getElem?_append_right (by rw [List.take_append_drop]; exact Nat.le_refl _)]
  have e : Ls.drop l = Ls.getD l dLt :: Ls.drop (l + 1) := by
    rw [List.drop_eq_getElem_cons hl]
    congr 1
    rw [getD_e hl]
  rw [e, List.filter_cons_of_pos (by exact decide_eq_true h1)]
  have : ((Ls.take l ++ (Ls.getD l dLt :: Ls.drop (l + 1))).take l) = Ls.take l := by rw [← e, List.take_append_drop]
  rw [this, Nat.sub_self]
  rfl
end
end
section
/-! THE CLASS: reason: findWay() -/
section
variable {f u x l nv np a fa fn i p mb : Nat} {S : Nat → Nat × Nat × Nat} {G G' : xG_} {m : Nat × Nat} {K : pCd} {Ls : List pLt} {pl : List Nat} {br rk : Int} {qn xp cp : Nat → Nat} {RR : Nat → List pRw} {lO hI : Nat → Int} {vl : Nat → Int} {I : List pCd} {g : Int × Int × Int} {as : List Int}
theorem kd_at (hR : cRq S G u K Ls) (hl : l < Ls.length) : G (u + 2) l = 15 ↔ (Ls.getD l dLt).1 = 1 := by
  obtain ⟨_, _, _, hls, _⟩ := hR
  rcases hls.2.2 l hl with ⟨z1, z2, _⟩ | ⟨z1, z2, z3, _⟩
  · have z1' : (Ls.getD l dLt).1 = 1 ∨ (Ls.getD l dLt).1 = 2 := z1
    have z2' : G (u + 2) l = (if (Ls.getD l dLt).1 = 1 then 15 else 9) := z2
    rw [z2']
    by_cases c : (Ls.getD l dLt).1 = 1
    · rw [if_pos c]; exact ⟨fun _ => c, fun _ => rfl⟩
    · rw [if_neg c]; exact ⟨fun z => absurd z (by decide), fun z => absurd z c⟩
  · have z1' : (Ls.getD l dLt).1 = 3 := z1
    have z2' : G (u + 2) l = (Ls.getD l dLt).2.1 := z2
    have z3' : (Ls.getD l dLt).2.1 = 61 ∨ (Ls.getD l dLt).2.1 = 257 ∨ (Ls.getD l dLt).2.1 = 60 ∨ (Ls.getD l dLt).2.1 = 258 ∨ (Ls.getD l dLt).2.1 = 62 ∨ (Ls.getD l dLt).2.1 = 259 := z3
    rw [z2', z1']
    omega
def rsF (RR : Nat → List pRw) (lO hI : Nat → Int) (vl : Nat → Int) (Ls : List pLt) (l : Nat) (v : Int) : Prop := fst1 (fun j => (lO l ≤ ((RR (Ls.getD l dLt).2.1.toNat).getD j dRw).2 ∧ ((RR (Ls.getD l dLt).2.1.toNat).getD j dRw).2 ≤ hI l) ∧ sTs vl (Ls.getD l dLt).2.2.2.1 ((RR (Ls.getD l dLt).2.1.toNat).getD j dRw).1) (RR (Ls.getD l dLt).2.1.toNat).length v
theorem atN_m {l l' : Nat} (h : l ≤ l') : atN Ls l ≤ atN Ls l' := by
  unfold atN
  have : (Ls.take l).filter (fun y => decide (y.1 = 1)) = ((Ls.take l').take l).filter (fun y => decide (y.1 = 1)) := by rw [List.take_take, Nat.min_eq_left h]
  rw [this]
  exact ((List.take_sublist _ _).filter _).length_le
/-- the rows of a WAY -/
theorem k_164r (hf : 700 < f) (hfa : 203 < fa) (hx : ∀ p, p < np → 203 < xp p) (hat : pAtoms Ls ≤ 3) (hl8 : Ls.length ≤ 8) : ∀ (d l fu : Nat) (G : xG_), l + d = Ls.length → d < fu → cWE S G u K Ls pl fa fn np nv a br qn xp cp RR lO hI → (∀ k, k < 8 → G 106 k = vl k) → ∃ G', c164_226 f fu 93 u 1 (atN Ls l : Int) (l : Int) (S, G, m) = some (1, (S, G', m)) ∧ (∀ b j, b ≠ 84 → ¬ (87 ≤ b ∧ b ≤ 92) → ¬ (b = 83 ∧ (j = 6 ∨ j = 7)) → b ≠ 107 → G' b j = G b j) ∧ cPs G' ∧ (∀ k, k < atN Ls l ∨ pAtoms Ls ≤ k → G' 107 k = G 107 k) ∧ ∀ l', l ≤ l' → l' < Ls.length → (Ls.getD l' dLt).1 = 1 → rsF RR lO hI vl Ls l' (G' 107 (atN Ls l')) := by
  intro d
  induction d with
  | zero =>
    intro l fu G e1 e2 h hv
    obtain ⟨fu, rfl⟩ : ∃ t, fu = t + 1 := ⟨fu - 1, by omega⟩
    refine ⟨G, ?_, fun _ _ _ _ _ _ => rfl, h.1.2.1, fun _ _ => rfl, fun l' y1 y2 => by omega⟩
    show c164_226b (c164_226 f fu) f _ _ _ _ _ _ = _
    unfold c164_226b
    rw [if_neg (by decide), o_gi h.2.1.1.1, Option.bind_some, h.2.1.2.2.2.1.1, if_pos (by omega)]
    exact if_pos (.inr rfl)
  | succ d ih =>
    intro l fu G e1 e2 h hv
    obtain ⟨fu, rfl⟩ : ∃ t, fu = t + 1 := ⟨fu - 1, by omega⟩
    have hl : l < Ls.length := by omega
    have ei : xwr ((l : Int) + 1) = ((l + 1 : Nat) : Int) := by rw [xwr_g _ (by omega) (by omega)]; omega
    have us := h.2.1.1
    have e0 := Eq.refl (c164_226 f (fu + 1) 93 u 1 (atN Ls l : Int) (l : Int) (S, G, m))
    conv at e0 => { rhs; change c164_226b (c164_226 f fu) f 93 u 1 (atN Ls l : Int) (l : Int) (S, G, m); unfold c164_226b }
    rw [if_neg (by decide), o_gi us.1, Option.bind_some, h.2.1.2.2.2.1.1, if_neg (by omega), o_gr us.1 h.2.1.2.1.2.1, Option.bind_some, o_a us.2.2.1 (by omega), Option.bind_some] at e0
    have ats := atN_s hl
    by_cases c : (Ls.getD l dLt).1 = 1
    · rw [if_pos c] at ats
      have le1 : atN Ls (l + 1) ≤ pAtoms Ls := by
        have := atN_m (Ls := Ls) (show l + 1 ≤ Ls.length by omega)
        have e : atN Ls Ls.length = pAtoms Ls := by unfold atN pAtoms; rw [List.take_length]
        omega
      have kd := (kd_at h.2.1 hl).mpr c
      obtain ⟨v, G1, g1, g2, g3, g4⟩ := k_143 (f := f) (m := m) (vl := vl) (by omega) h hfa hx hl (by omega) (by omega) hv
      have i1 : cq_is 9 14 83 (S, G, m) = some () := if_pos (s83 h.1.1)
      have es : cq_s 3 107 (atN Ls l : Int) v (S, G1, m) = some (S, xup2 G1 107 (atN Ls l) v, m) := o_s (s107 h.1.1) (by omega)
      have wa : xwr ((atN Ls l : Int) + 1) = (atN Ls (l + 1) : Int) := by rw [xwr_g _ (by omega) (by omega), ats]; omega
      unfold c164_275 at e0
      rw [kd, if_neg (fun z => z rfl), o_gr (y := 107) (s93 h.1.1) (p93_17 h.1.2.1), Option.bind_some, o_gr (y := 83) (s93 h.1.1) (p93_0 h.1.2.1), Option.bind_some, o_gr (y := 106) (s93 h.1.1) (p93_12 h.1.2.1), Option.bind_some, i1, Option.bind_some, g1, Option.bind_some, es, Option.bind_some, wa, ei] at e0
      have z2 : ∀ b j, b ≠ 84 → ¬ (87 ≤ b ∧ b ≤ 92) → ¬ (b = 83 ∧ (j = 6 ∨ j = 7)) → b ≠ 107 → xup2 G1 107 (atN Ls l) v b j = G b j := fun b j y1 y2 y3 y4 => by rw [xup2_n (by omega), g2 b j y1 y2 y3]
      have p2 : cPs (xup2 G1 107 (atN Ls l) v) := g3.ge (fun b j hz => xup2_n (by
        rcases hz with z | z | z | z | z | z | z | ⟨z, z1, z2, k, z3⟩ | z | z | z | ⟨k, z1, z2, z3⟩ <;> omega))
      obtain ⟨G', r1, r2, r3, r4, r5⟩ := ih (l + 1) fu (xup2 G1 107 (atN Ls l) v) (by omega) (by omega) (h.f3 hfa hx p2 (fun b j y1 y2 y3 _ _ y6 _ => z2 b j y1 y2 y3 y6)) (fun k hk => by rw [z2 _ _ (by omega) (by omega) (by omega) (by omega)]; exact hv k hk)
      refine ⟨G', e0.trans r1, fun b j y1 y2 y3 y4 => by rw [r2 b j y1 y2 y3 y4, z2 b j y1 y2 y3 y4], r3, fun k hk => by rw [r4 k (by omega), xup2_n (by omega), g2 _ _ (by omega) (by omega) (by omega)], fun l' y1 y2 y3 => ?_⟩
      by_cases el : l' = l
      · subst el
        rw [r4 _ (by omega), xup2_s]
        exact g4
      · exact r5 l' (by omega) y2 y3
    · rw [if_neg c] at ats
      have kd : ¬ G (u + 2) l = 15 := fun z => c ((kd_at h.2.1 hl).mp z)
      unfold c164_275 at e0
      rw [if_pos kd, ei] at e0
      obtain ⟨G', r1, r2, r3, r4, r5⟩ := ih (l + 1) fu G (by omega) (by omega) h hv
      rw [ats, Nat.add_zero] at r1 r4
      refine ⟨G', e0.trans r1, r2, r3, r4, fun l' y1 y2 y3 => ?_⟩
      by_cases el : l' = l
      · subst el; exact absurd y3 c
      · exact r5 l' (by omega) y2 y3
/-- which RANKS rows may have -/
def hiR (Ls : List pLt) (mb : Nat) (rk : Int) (l : Nat) : Int := if (Ls.getD l dLt).1 = 1 ∧ mb.testBit (Ls.getD l dLt).2.1.toNat = true then rk - 1 else 1700
theorem k_164h (hf : 20 < f) (hs : cSs S) (hmb : mb < 2 ^ 16) (hrk : 0 ≤ rk ∧ rk ≤ 2000) (hw : ∀ l, l < Ls.length → (Ls.getD l dLt).1 = 1 → 0 ≤ (Ls.getD l dLt).2.1 ∧ (Ls.getD l dLt).2.1 < 16) : ∀ (d l fu : Nat) (G : xG_), l + d = Ls.length → d < fu → cPs G → cRq S G u K Ls → ∃ G', c164_34 f fu 93 u rk (mb : Int) (l : Int) (S, G, m) = c164_82 f f 93 u 0 (S, G', m) ∧ (∀ b j, b ≠ 86 → G' b j = G b j) ∧ cPs G' ∧ ∀ j, j < 8 → G' 86 j = if l ≤ j ∧ j < Ls.length then hiR Ls mb rk j else G 86 j := by
  intro d
  induction d with
  | zero =>
    intro l fu G e1 e2 hp hR
    obtain ⟨fu, rfl⟩ : ∃ t, fu = t + 1 := ⟨fu - 1, by omega⟩
    refine ⟨G, ?_, fun _ _ _ => rfl, hp, fun j hj => by rw [if_neg (by omega)]⟩
    show c164_34b (c164_34 f fu) f _ _ _ _ _ _ = _
    unfold c164_34b
    rw [o_gi hR.1.1, Option.bind_some, hR.2.2.2.1.1, if_pos (by omega)]
  | succ d ih =>
    intro l fu G e1 e2 hp hR
    obtain ⟨fu, rfl⟩ : ∃ t, fu = t + 1 := ⟨fu - 1, by omega⟩
    have hl : l < Ls.length := by omega
    have hl8 := hR.2.2.2.1.2.1
    have hu := hR.2.2.2.2.1
    have ei : xwr ((l : Int) + 1) = ((l + 1 : Nat) : Int) := by rw [xwr_g _ (by omega) (by omega)]; omega
    obtain ⟨w, w1, w2, w3⟩ := k_152 (f := f) (m := m) hR hl hmb (hw l hl)
    have st : c164_34 f (fu + 1) 93 u rk (mb : Int) (l : Int) (S, G, m) = c164_34 f fu 93 u rk (mb : Int) ((l + 1 : Nat) : Int) (S, xup2 G 86 l (hiR Ls mb rk l), m) := by
      show c164_34b (c164_34 f fu) f _ _ _ _ _ _ = _
      unfold c164_34b c164_72
      rw [o_gi hR.1.1, Option.bind_some, hR.2.2.2.1.1, if_neg (by omega), o_gr (y := 83) (s93 hs) (p93_0 hp), Option.bind_some, o_gr (y := 86) (s83 hs) (p83_2 hp), Option.bind_some, w1, Option.bind_some]
      unfold hiR
      unfold ownL at w3
      by_cases c : w = 0
      · rw [if_pos c, if_neg (fun z => by have := w3.mpr z; omega), o_s (s86 hs) (by omega), Option.bind_some, ei]
      · rw [if_neg c, if_pos (w3.mp (by omega)), xwr_g (rk - 1) (by omega) (by omega), o_s (s86 hs) (by omega), Option.bind_some, ei]
    have z1 : ∀ b j, b ≠ 86 → xup2 G 86 l (hiR Ls mb rk l) b j = G b j := fun b j y => xup2_n (by omega)
    obtain ⟨G', r1, r2, r3, r4⟩ := ih (l + 1) fu (xup2 G 86 l (hiR Ls mb rk l)) (by omega) (by omega) (hp.ge (fun b j hz => z1 b j (by
      rcases hz with z | z | z | z | z | z | z | ⟨z, z1, z2, k, z3⟩ | z | z | z | ⟨k, z1, z2, z3⟩ <;> omega))) (hR.fx (fun b j y => z1 b j (by omega)))
    refine ⟨G', st.trans r1, fun b j y => by rw [r2 b j y, z1 b j y], r3, fun j hj => ?_⟩
    rw [r4 j hj]
    by_cases ej : j = l
    · subst ej
      rw [if_neg (by omega), if_pos (by omega), xup2_s]
    · rw [xup2_n (by omega)]
      by_cases c : l + 1 ≤ j ∧ j < Ls.length
      · rw [if_pos c, if_pos (by omega)]
      · rw [if_neg c, if_neg (by omega)]
/-- VARIABLES that the HEAD tells -/
theorem k_164f (hf : 20 < f) (hs : cSs S) (hnv : nv ≤ 8) (hnI : I.length ≤ 4) (hwI : ∀ c, c < I.length → wC nv (I.getD c [])) (has : as.length = I.length) (hav : ∀ c, c < as.length → vOk (as.getD c 0)) : ∀ (d c fu : Nat) (G : xG_) (b : Nat) (vl : Nat → Int), c + d = I.length → d < fu → cWy S G u K → cIt G u K g I → (∀ c, c < as.length → G 105 c = as.getD c 0) → lvE G 0 b vl → (∀ v : Nat → Int, (∀ c', c' < c → ∀ x : Nat, I.getD c' [] = [(2, (x : Int))] → v x = as.getD c' 0) → ∀ j, b.testBit j = true → v j = vl j) →
    (c164_82 f fu 93 u (c : Int) (S, G, m) = some (0, (S, G, m)) ∧ ∀ v : Nat → Int, ¬ ∀ c', c' < I.length → ∀ x : Nat, I.getD c' [] = [(2, (x : Int))] → v x = as.getD c' 0) ∨
    (∃ G' b' vl' , (∀ a j, a ≠ 84 → ¬ (a = 87 ∧ j = 0) → G' a j = G a j) ∧ cPs G' ∧ ((c164_82 f fu 93 u (c : Int) (S, G, m) = c164_138 f f 93 u 0 0 (S, G', m) ∧ lvE G' 0 b' vl' ∧ ∀ v : Nat → Int, (∀ c', c' < I.length → ∀ x : Nat, I.getD c' [] = [(2, (x : Int))] → v x = as.getD c' 0) → ∀ j, b'.testBit j = true → v j = vl' j) ∨ (c164_82 f fu 93 u (c : Int) (S, G, m) = some (0, (S, G', m)) ∧ ∀ v : Nat → Int, ¬ ∀ c', c' < I.length → ∀ x : Nat, I.getD c' [] = [(2, (x : Int))] → v x = as.getD c' 0))) := by
  intro d
  induction d with
  | zero =>
    intro c fu G b vl e1 e2 h hI hgv hl hinv
    obtain ⟨fu, rfl⟩ : ∃ t, fu = t + 1 := ⟨fu - 1, by omega⟩
    refine .inr ⟨G, b, vl, fun _ _ _ _ => rfl, h.2.1, .inl ⟨?_, hl, fun v hv => hinv v (fun c' hc' => hv c' (by omega))⟩⟩
    show c164_82b (c164_82 f fu) f _ _ _ _ = _
    unfold c164_82b
    rw [o_gi h.2.2.2.2.1.1, Option.bind_some, hI.1, if_pos (by omega)]
  | succ d ih =>
    intro c fu G b vl e1 e2 h hI hgv hl hinv
    obtain ⟨fu, rfl⟩ : ∃ t, fu = t + 1 := ⟨fu - 1, by omega⟩
    have hc : c < I.length := by omega
    have hu := h.2.2.2.1
    have ei : xwr ((c : Int) + 1) = ((c + 1 : Nat) : Int) := by rw [xwr_g _ (by omega) (by omega)]; omega
    have is1 : cq_is 6 20 u (S, G, m) = some () := if_pos h.2.2.2.2.1.1
    have i83 : cq_is 9 14 83 (S, G, m) = some () := if_pos (s83 hs)
    have e0 := Eq.refl (c164_82 f (fu + 1) 93 u (c : Int) (S, G, m))
    conv at e0 => { rhs; change c164_82b (c164_82 f fu) f 93 u (c : Int) (S, G, m); unfold c164_82b }
    rw [o_gi h.2.2.2.2.1.1, Option.bind_some, hI.1, if_neg (by omega), is1, Option.bind_some] at e0
    rcases k_91w (f := f) (m := m) (s := c) h (by omega) (hI.2.2.1 c hc) (hwI c hc) hnv with ⟨x, x1, x2, x3⟩ | ⟨x1, x2⟩
    · obtain ⟨v, G1, g1, g2, g3⟩ := k_131 (f := f) (m := m) (w := as.getD c 0) hs h.2.1 (by omega : x < 8) hl (hav c (by omega))
      have ea : cq_a 4 105 (c : Int) (S, G, m) = some (as.getD c 0) := by rw [← hgv c (by omega)]; exact o_a (s105 hs) (by omega)
      have p1 : cPs G1 := h.2.1.ge (fun b j hz => g2 b j (by
        rcases hz with z | z | z | z | z | z | z | ⟨z, z1, z2, k, z3⟩ | z | z | z | ⟨k, z1, z2, z3⟩ <;> omega) (by
        rcases hz with z | z | z | z | z | z | z | ⟨z, z1, z2, k, z3⟩ | z | z | z | ⟨k, z1, z2, z3⟩ <;> omega))
      rw [x3, Option.bind_some, if_neg (show ¬ ((x : Nat) : Int) = -1 by omega), o_gr (y := 83) (s93 hs) (p93_0 h.2.1), Option.bind_some, o_gr (y := 105) (s93 hs) (p93_11 h.2.1), Option.bind_some, ea, Option.bind_some, i83, Option.bind_some, g1, Option.bind_some] at e0
      rcases g3 with ⟨rfl, g4, g5⟩ | ⟨rfl, vl', g4, g5, g6⟩
      · rw [if_neg (fun z => z rfl)] at e0
        refine .inr ⟨G1, b, vl, fun a j y1 y2 => g2 a j (by omega) y2, p1, .inr ⟨e0, fun v hv => ?_⟩⟩
        have q1 := hinv v (fun c' hc' => hv c' (by omega)) x g4
        have q2 := hv c hc x x2
        rw [q2] at q1
        exact g5 q1.symm
      · unfold c164_126 at e0
        rw [if_pos (show ¬ (1 : Int) = 0 by decide), ei] at e0
        have zf : ∀ a j, 278 < a → G1 a j = G a j := fun a j y => g2 a j (by omega) (by omega)
        have h1 : cWy S G1 u K := by
          obtain ⟨a1, a2, a3, a4, a5, a6, ⟨b1, b2, b3, b4, b5⟩, a8⟩ := h
          refine ⟨a1, p1, by rw [g2 _ _ (by omega) (by omega)]; exact a3, a4, a5, ?_, ⟨by rw [zf _ _ (by omega)]; exact b1, by rw [zf _ _ (by omega)]; exact b2, b3, b4, fun k hk => by rw [zf _ _ (by omega), zf _ _ (by omega)]; exact b5 k hk⟩, a8⟩
          unfold cRuP at a6 ⊢
          simp only [zf u _ a4]
          exact a6
        have key := ih (c + 1) fu G1 (b ||| 2 ^ x) vl' (by omega) (by omega) h1 (hI.fx hu zf) (fun c' hc' => by rw [g2 _ _ (by omega) (by omega)]; exact hgv c' hc') g4 (fun v hv j hj => by
          by_cases ej : j = x
          · rw [ej, g5]; exact hv c (by omega) x x2
          · rw [Nat.testBit_or, Nat.testBit_two_pow, decide_eq_false (fun e => ej e.symm), Bool.or_false] at hj
            rw [g6 j hj]
            exact hinv v (fun c' hc' => hv c' (by omega)) j hj)
        rcases key with ⟨k1, k2⟩ | ⟨G2, b2, vl2, k1, k2, k3⟩
        · exact .inr ⟨G1, b, vl, fun a j y1 y2 => g2 a j (by omega) y2, p1, .inr ⟨e0.trans k1, k2⟩⟩
        · refine .inr ⟨G2, b2, vl2, fun a j y1 y2 => by rw [k1 a j y1 y2, g2 a j (by omega) y2], k2, ?_⟩
          rcases k3 with ⟨k3, k4⟩ | ⟨k3, k4⟩
          · exact .inl ⟨e0.trans k3, k4⟩
          · exact .inr ⟨e0.trans k3, k4⟩
    · unfold c164_126 at e0
      rw [x2, Option.bind_some, if_pos rfl, ei] at e0
      have key := ih (c + 1) fu G b vl (by omega) (by omega) h hI hgv hl (fun v hv => hinv v (fun c' hc' => hv c' (by omega)))
      rcases key with ⟨k1, k2⟩ | ⟨G2, b2, vl2, k1, k2, k3⟩
      · exact .inl ⟨e0.trans k1, k2⟩
      · refine .inr ⟨G2, b2, vl2, k1, k2, ?_⟩
        rcases k3 with ⟨k3, k4⟩ | ⟨k3, k4⟩
        · exact .inl ⟨e0.trans k3, k4⟩
        · exact .inr ⟨e0.trans k3, k4⟩
end
end
section
/-! THE CLASS: reason: findWay() whole -/
theorem qMk_get {I : List pCd} {v : Nat → Int} : ∀ (n : Nat) (xs : List Int), qMk I (-1) v n = some xs → ∀ c, c < n → qEv v (I.getD c []) = some (xs.getD c 0)
  | 0, xs, _ => fun c hc => absurd hc (Nat.not_lt_zero _)
  | n + 1, xs, h => by
    have h' : ((qMk I (-1) v n).bind fun xs => if (n : Int) = -1 then some (xs ++ [0]) else (qEv v (I.getD n [])).bind fun z => some (xs ++ [z])) = some xs := h
    cases hq : qMk I (-1) v n with
    | none => rw [hq] at h'; cases h'
    | some ys =>
      rw [hq, Option.bind_some, if_neg (by omega)] at h'
      cases he : qEv v (I.getD n []) with
      | none => rw [he] at h'; cases h'
      | some z =>
        rw [he, Option.bind_some] at h'
        injection h' with h'
        have ly := qMk_len n ys hq
        intro c hc
        by_cases e : c = n
        · rw [e, he, ← h']
          simp only [List.getD_eq_getElem?_getD]
          rw [List.getElem?_append_right (by omega), ly, Nat.sub_self]
          rfl
        · rw [qMk_get n ys hq c (by omega), ← h']
          simp only [List.getD_eq_getElem?_getD]
          rw [List.getElem?_append_left (by omega)]
section
variable {f q nq nx mp rp r sl p : Nat} {S : Nat → Nat × Nat × Nat} {G : xG_} {m : Nat × Nat} {s : pPg} {xr cr : Nat → Nat} {M : Nat → List pRw} {as : List Int} {rk : Int}
/-- a rule over a moment's rows -/
theorem mx_rule (hs : cSs S) (hP : cPgm S G q nq s) (hok : qOc s) (hM : cMr S G nx mp q rp s xr cr M) (hMo : okM8 s M) (hrp : 203 < rp) (hr : r < s.2.2.2.2.1.length) : ∃ (u : Nat) (K : pCd) (pl : List Nat), (G (q + 7) r = (u : Int) ∧ 278 < u ∧ G u 0 = (s.2.2.2.2.1.getD r dRu).1) ∧ cRq S G u K (s.2.2.2.2.1.getD r dRu).2.2.2.2.2 ∧ cIt G u K (s.2.2.2.2.1.getD r dRu).2.2.1 (s.2.2.2.2.1.getD r dRu).2.2.2.1 ∧ (G u 6 = ((s.2.2.2.2.1.getD r dRu).2.2.2.2.1.length : Int) ∧ (s.2.2.2.2.1.getD r dRu).2.2.2.2.1.length ≤ 8) ∧ pl.Nodup ∧ (∃ dd, plB (s.2.2.2.2.1.getD r dRu).2.2.2.2.2 pl 0 = some dd) ∧ ∀ (G' : xG_) (br : Int) (lo hi : Nat → Int), cPs G' → (∀ a j, 107 < a → G' a j = G a j) → G' 83 3 = (u : Int) → G' 83 4 = (rp : Int) → G' 83 5 = br → (∀ l, l < 8 → G' 85 l = lo l ∧ G' 86 l = hi l) → cWE S G' u K (s.2.2.2.2.1.getD r dRu).2.2.2.2.2 pl rp s.1.length s.1.length (s.2.2.2.2.1.getD r dRu).2.2.2.2.1.length (qAs (s.2.2.2.2.1.getD r dRu).2.2.1 (s.2.2.2.2.1.getD r dRu).2.2.2.1) br (qN s) xr cr M lo hi := by
  obtain ⟨u, e7, _, _, ⟨K, c1, c2, ⟨pl, l1, l2, l3⟩, c4, c5, c6⟩, e0, _⟩ := hP.2.2.2.2.2.1.2.2 r hr
  have hm : s.2.2.2.2.1.getD r dRu ∈ s.2.2.2.2.1 := by rw [getD_e hr]; exact List.getElem_mem hr
  obtain ⟨w1, w2, w3, w4, w5, w6, w7, w8, w9⟩ := hok.1.1.2.2.2.2.2.2 _ hm
  obtain ⟨i1, i2, i3⟩ := ru_it hok hm
  obtain ⟨n1, n2⟩ := l3 (hok.1.2.1 _ hm).1
  have hu := c1.2.2.2.2.1
  have hlt : ∀ p ∈ pl, p < (s.2.2.2.2.1.getD r dRu).2.2.2.2.2.length := fun p hp => by
    obtain ⟨k, hk, ek⟩ := List.getElem_of_mem hp
    have := (l2 k (by omega)).2.1
    rw [getD_e hk, ek] at this
    exact this
  refine ⟨u, K, pl, ⟨e7, hu, e0⟩, c1, c2, ⟨c4, c5⟩, n1, n2, fun G' br lo hi hp' hG' f3 f4 f5 fl => ⟨⟨hs, hp', f3, f4, f5, hM.2.2.2.1, by omega, Nat.le_refl _⟩, c1.fx (fun a j y => hG' a j (by omega)), ⟨w6, fun y hy => ⟨(w9 y hy).1, fun h3 => wAm_n hok.1 hok.2.2.1 hm hy h3⟩, (hok.2.1 _ hm).2⟩, ⟨l1, fun k hk => ?_⟩, fun p hp => ?_, fl⟩⟩
  · obtain ⟨z1, z2, z3⟩ := l2 k hk
    exact ⟨by rw [hG' _ _ (by omega)]; exact z1, z2, by rw [hG' _ _ (by omega)]; exact z3, plA_8 i3 (fun y hy => (w9 y hy).1.lv) w6 _ (fun p hp => hlt p (List.mem_of_mem_drop hp))⟩
  · obtain ⟨w1, w2, w3⟩ := hM.2.2.2.2 p hp
    obtain ⟨v1, v2, v3, _⟩ := hMo p hp
    exact ⟨by rw [hG' _ _ (by omega)]; exact w1, by omega, w3.ge (fun _ _ _ => rfl) (fun j => hG' _ _ (by omega)) (fun j => hG' _ _ (by omega)) (fun j => hG' _ _ (by omega)), v1, v2, v3⟩
/-- the RING of a HEAD -/
def mbR (s : pPg) (p : Nat) : Nat := qMb (qWm s.1.length (qRd s.2.2.2.2.1) s.1.length) (qK s p) s.1.length
theorem mbR_t (j : Nat) : (mbR s p).testBit j = true ↔ j < s.1.length ∧ qK s j = qK s p := qMb_t _ _ _ _
/-- which rows a WAY may be of -/
theorem op_hi (hok : qOc s) (hMo : okM8 s M) (hr : r < s.2.2.2.2.1.length) {l : Nat} (hl : l < (s.2.2.2.2.1.getD r dRu).2.2.2.2.2.length) (h1 : ((s.2.2.2.2.1.getD r dRu).2.2.2.2.2.getD l dLt).1 = 1) : ∀ w ∈ M ((s.2.2.2.2.1.getD r dRu).2.2.2.2.2.getD l dLt).2.1.toNat, ((0 ≤ w.2 ∧ w.2 ≤ hiR (s.2.2.2.2.1.getD r dRu).2.2.2.2.2 (mbR s p) rk l) ↔ qOp (qK s) (qK s p : Int) rk ((s.2.2.2.2.1.getD r dRu).2.2.2.2.2.getD l dLt).2.1.toNat w) := by
  have hm : s.2.2.2.2.1.getD r dRu ∈ s.2.2.2.2.1 := by rw [getD_e hr]; exact List.getElem_mem hr
  obtain ⟨w1, w2, w3, w4, w5, w6, w7, w8, w9⟩ := hok.1.1.2.2.2.2.2.2 _ hm
  obtain ⟨y1, y2⟩ := w9 _ (lt_in hl)
  have y4 : ((s.2.2.2.2.1.getD r dRu).2.2.2.2.2.getD l dLt).2.1 < s.1.length ∧ 0 ≤ ((s.2.2.2.2.1.getD r dRu).2.2.2.2.2.getD l dLt).2.1 := by
    have := y2 (by omega)
    rcases y1 with ⟨_, _, z, _⟩ | ⟨z, _⟩
    · exact ⟨z, this⟩
    · omega
  intro w hw
  have hk := (hMo _ (by omega : ((s.2.2.2.2.1.getD r dRu).2.2.2.2.2.getD l dLt).2.1.toNat < s.1.length)).2.2.2 w hw
  unfold hiR qOp
  by_cases c : qK s ((s.2.2.2.2.1.getD r dRu).2.2.2.2.2.getD l dLt).2.1.toNat = qK s p
  · rw [if_pos ⟨h1, (mbR_t _).mpr ⟨by omega, c⟩⟩, c]
    constructor
    · intro z; exact .inr (.inr (by omega))
    · rintro (z | z | z)
      · omega
      · exact absurd rfl z
      · omega
  · rw [if_neg (fun z => c ((mbR_t _).mp z.2).2)]
    exact ⟨fun _ => .inr (.inl (by omega)), fun _ => hk⟩
theorem lit_o (hok : qOc s) (hMo : okM8 s M) (hr : r < s.2.2.2.2.1.length) {v : Nat → Int} : (∀ l, l < (s.2.2.2.2.1.getD r dRu).2.2.2.2.2.length → litO (s.2.2.2.2.1.getD r dRu).2.2.2.2.2 M (fun _ => 0) (hiR (s.2.2.2.2.1.getD r dRu).2.2.2.2.2 (mbR s p) rk) l v) ↔ (sAR (s.2.2.2.2.1.getD r dRu).2.2.2.2.2 M (qOp (qK s) (qK s p : Int) rk) v ∧ sNC (s.2.2.2.2.1.getD r dRu).2.2.2.2.2 M v) := by
  have hm : s.2.2.2.2.1.getD r dRu ∈ s.2.2.2.2.1 := by rw [getD_e hr]; exact List.getElem_mem hr
  have op := fun {l} hl h1 => op_hi (p := p) (rk := rk) hok hMo hr (l := l) hl h1
  obtain ⟨w1, w2, w3, w4, w5, w6, w7, w8, w9⟩ := hok.1.1.2.2.2.2.2.2 _ hm
  generalize (s.2.2.2.2.1.getD r dRu).2.2.2.2.2 = Ls at *
  have ng : ∀ l, l < Ls.length → (Ls.getD l dLt).1 = 2 → ∀ w ∈ M (Ls.getD l dLt).2.1.toNat, 0 ≤ w.2 ∧ w.2 ≤ hiR Ls (mbR s p) rk l := fun l hl h2 w hw => by
    obtain ⟨y1, y2⟩ := w9 _ (lt_in hl)
    have y4 : (Ls.getD l dLt).2.1 < s.1.length ∧ 0 ≤ (Ls.getD l dLt).2.1 := by
      have := y2 (by omega)
      rcases y1 with ⟨_, _, z, _⟩ | ⟨z, _⟩
      · exact ⟨z, this⟩
      · omega
    have hk := (hMo _ (by omega : (Ls.getD l dLt).2.1.toNat < s.1.length)).2.2.2 w hw
    unfold hiR
    rw [if_neg (fun z => by have := z.1; omega)]
    exact hk
  constructor
  · intro h
    refine ⟨fun y hy h1 => ?_, fun y hy => ?_⟩
    · obtain ⟨l, hl, rfl⟩ := List.getElem_of_mem hy
      obtain ⟨q1, _, _⟩ := h l hl
      rw [getD_e hl] at q1
      obtain ⟨w, u1, u2, u3⟩ := q1 h1
      have := op hl (by rw [getD_e hl]; exact h1)
      rw [getD_e hl] at this
      exact ⟨w, u1, (this w u1).mp u2, u3⟩
    · obtain ⟨l, hl, rfl⟩ := List.getElem_of_mem hy
      obtain ⟨_, q2, q3⟩ := h l hl
      have n2 := ng l hl
      rw [getD_e hl] at q2 q3 n2
      exact ⟨fun h2 ⟨w, u1, u2⟩ => q2 h2 ⟨w, u1, n2 h2 w u1, u2⟩, q3⟩
  · rintro ⟨h1, h2⟩ l hl
    refine ⟨fun z => ?_, fun z ⟨w, u1, _, u3⟩ => (h2 _ (lt_in hl)).1 z ⟨w, u1, u3⟩, (h2 _ (lt_in hl)).2⟩
    obtain ⟨w, u1, u2, u3⟩ := h1 _ (lt_in hl) z
    exact ⟨w, u1, (op hl z w u1).mpr u2, u3⟩
/-- findWay() -/
theorem k_164w (hf : 100003010 < f) (hs : cSs S) (hp : cPs G) (hq : 226 < q) (h931 : G 93 1 = (q : Int)) (hP : cPgm S G q nq s) (hok : qOc s) (hM : cMr S G nx mp q rp s xr cr M) (hMo : okM8 s M) (hrp : 203 < rp) (hr : r < s.2.2.2.2.1.length) {u : Nat} (hu : G (q + 7) r = (u : Int)) (hhd : (s.2.2.2.2.1.getD r dRu).1 = (p : Int)) (hpn : p < s.1.length) (hg : (s.2.2.2.2.1.getD r dRu).2.2.1.1 = 0) (hrk : 0 ≤ rk ∧ rk ≤ 1700) (hgv : ∀ c, c < as.length → G 105 c = as.getD c 0) (has : as.length = qN s p) (hav : ∀ c, c < as.length → vOk (as.getD c 0)) :
    ∃ v G', c164 f 93 u rp rk (S, G, m) = some (v, (S, G', m)) ∧ cPs G' ∧ (∀ b j, ¬ (83 ≤ b ∧ b ≤ 92) → b ≠ 103 → b ≠ 106 → b ≠ 107 → G' b j = G b j) ∧ ((v = 0 ∧ (∀ w, ¬ rsW s M p as rk (s.2.2.2.2.1.getD r dRu) w) ∧ ∀ k, G' 107 k = G 107 k) ∨ (v = 1 ∧ ∃ b, rsW s M p as rk (s.2.2.2.2.1.getD r dRu) b ∧ (∀ x, rsW s M p as rk (s.2.2.2.2.1.getD r dRu) x → vLe b x) ∧ (∀ k, pAtoms (s.2.2.2.2.1.getD r dRu).2.2.2.2.2 ≤ k → G' 107 k = G 107 k) ∧ ∀ l, l < (s.2.2.2.2.1.getD r dRu).2.2.2.2.2.length → ((s.2.2.2.2.1.getD r dRu).2.2.2.2.2.getD l dLt).1 = 1 → rsS ((s.2.2.2.2.1.getD r dRu).2.2.2.2.2.getD l dLt) M (qOp (qK s) (qK s p : Int) rk) b (G' 107 (atN (s.2.2.2.2.1.getD r dRu).2.2.2.2.2 l)))) := by
  obtain ⟨u', K, pl, ⟨e7, hu8, e0⟩, hR, hI, ⟨h6, hnv⟩, hnd, ⟨dd, hpB⟩, we⟩ := mx_rule hs hP hok hM hMo hrp hr
  have eu : u' = u := by omega
  subst eu
  have hm : s.2.2.2.2.1.getD r dRu ∈ s.2.2.2.2.1 := by rw [getD_e hr]; exact List.getElem_mem hr
  have lit := fun {v} => lit_o (p := p) (rk := rk) hok hMo hr (v := v)
  have opl := fun {l} hl h1 => op_hi (p := p) (rk := rk) hok hMo hr (l := l) hl h1
  unfold rsW
  obtain ⟨w1, w2, w3, w4, w5, w6, w7, w8, w9⟩ := hok.1.1.2.2.2.2.2.2 _ hm
  obtain ⟨i1, i2, i3⟩ := ru_it hok hm
  have hsf := (hok.1.2.1 _ hm).1
  have hIl := (hok.1.2.1 _ hm).2
  have hdl := (hok.2.1 _ hm).2
  generalize s.2.2.2.2.1.getD r dRu = ru at *
  have h16 : s.1.length ≤ 16 := hok.1.1.1
  have hN : ru.2.2.2.1.length = qN s p := by
    have := (qN_c hok.1.1 p).1
    rw [hhd] at hIl
    omega
  have hgA : ru.2.2.1.2.1 = -1 := by
    rcases w5.1 with z | z
    · exact z.2.1
    · have : (10 : Int) ≤ ru.2.2.1.1 := z.1.1
      omega
  rw [hgA] at i1
  have h3 : G u' 3 = -1 := by
    rcases hI.2.2.2.2 with z | z
    · exact z.2
    · have := z.1.1; omega
  have hn4 := hI.2.1
  have hl8 := hR.2.2.2.1.2.1
  -- open
  obtain ⟨G1, a1, a2, a3, a4, a5, a6, a7, a8, a9, a10, a11⟩ := k_130 (u := u') (fa := rp) (m := m) (G := G) (f := f) (br := 0) (by omega) hs hp (.inl rfl)
  have hR1 : cRq S G1 u' K ru.2.2.2.2.2 := hR.fx (fun a j y => a2 a j (by omega) (by omega) (by omega) (by omega))
  have mb16 : mbR s p < 2 ^ 16 := qMb_16 _ _ _ h16
  obtain ⟨G2, b1, b2, b3, b4⟩ := k_164h (f := f) (m := m) (u := u') (K := K) (Ls := ru.2.2.2.2.2) (mb := mbR s p) (rk := rk) (by omega) hs mb16 (by omega) (fun l hl h1 => by
    obtain ⟨y1, y2⟩ := w9 _ (lt_in hl)
    have y3 := y2 (by omega)
    rcases y1 with ⟨_, _, z, _⟩ | ⟨z, _⟩
    · exact ⟨y3, by omega⟩
    · omega) ru.2.2.2.2.2.length 0 f G1 (by omega) (by omega) a3 hR1
  have z2 : ∀ b j, ¬ (83 ≤ b ∧ b ≤ 92) → G2 b j = G b j := fun b j y => by rw [b2 b j (by omega), a2 b j (by omega) (by omega) (by omega) (by omega)]
  have l2 : lvE G2 0 0 (fun _ => 0) := ⟨by rw [b2 _ _ (by omega)]; exact a9, by decide, fun k hk => by rw [Nat.zero_testBit] at hk; cases hk⟩
  have lohi : ∀ l, l < 8 → G2 85 l = 0 ∧ G2 86 l = hiR ru.2.2.2.2.2 (mbR s p) rk l := fun l hl => by
    refine ⟨by rw [b2 _ _ (by omega)]; exact a10 l hl, ?_⟩
    rw [b4 l hl]
    by_cases c : l < ru.2.2.2.2.2.length
    · rw [if_pos ⟨Nat.zero_le _, c⟩]
    · rw [if_neg (by omega), a11 l hl]
      unfold hiR
      have : ru.2.2.2.2.2.getD l dLt = dLt := by rw [List.getD_eq_getElem?_getD, List.getElem?_eq_none (by omega)]; rfl
      rw [this, if_neg (fun z => absurd z.1 (by decide))]
  have hE2 := we G2 0 (fun _ => 0) (hiR ru.2.2.2.2.2 (mbR s p) rk) b3 (fun a j y => z2 a j (by omega)) (by rw [b2 _ _ (by omega)]; exact a4) (by rw [b2 _ _ (by omega)]; exact a5) (by rw [b2 _ _ (by omega)]; exact a6) lohi
  -- up to what the HEAD tells
  have st : c164 f 93 u' rp rk (S, G, m) = c164_82 f f 93 u' 0 (S, G2, m) := by
    have e26 := k_26 (f := f) (m := m) (g := qK s p) (T := qWm s.1.length (qRd s.2.2.2.2.1) s.1.length) (by omega) (by omega) h16 hP.1 hP.2.1 hP.2.2.1.1 hP.2.2.2.2.2.2.2.1.1
    have gr : G (q + 8) p = ((qK s p : Nat) : Int) := hP.2.2.2.2.2.2.2.1.1 p hpn
    have iq : cq_is 3 14 q (S, G, m) = some () := if_pos hP.1.1
    have i83 : cq_is 9 14 83 (S, G, m) = some () := if_pos (s83 hs)
    unfold c164
    rw [o_gr (s93 hs) h931, Option.bind_some, Option.bind_some, o_gr hP.1.1 hP.2.1.2.2.2.2.2.2.2.1, Option.bind_some, o_gi hR.1.1, Option.bind_some, e0, hhd, o_a hP.1.2.2.2.2.2.2.2.2.1 (by omega), Option.bind_some, gr, iq, Option.bind_some, e26, Option.bind_some, o_gr (y := 83) (s93 hs) (p93_0 hp), Option.bind_some, i83, Option.bind_some, a1, Option.bind_some]
    exact b1
  have hI2 : cIt G2 u' K ru.2.2.1 ru.2.2.2.1 := hI.fx hu8 (fun a j y => z2 a j (by omega))
  have needs : ∀ v : Nat → Int, qMk ru.2.2.2.1 (-1) v ru.2.2.2.1.length = some as → ∀ c', c' < ru.2.2.2.1.length → ∀ x : Nat, ru.2.2.2.1.getD c' [] = [(2, (x : Int))] → v x = as.getD c' 0 := fun v hv c' hc' x hx => by
    have := qMk_get _ _ hv c' hc'
    rw [hx] at this
    have e : qEv v [(2, (x : Int))] = some (v x) := rfl
    rw [e] at this
    injection this
  have none_ok : (∀ v : Nat → Int, ¬ ∀ c', c' < ru.2.2.2.1.length → ∀ x : Nat, ru.2.2.2.1.getD c' [] = [(2, (x : Int))] → v x = as.getD c' 0) → ∀ w, ¬ (isW ru.2.2.2.2.2 ru.2.2.2.2.1.length M (qOp (qK s) (qK s p : Int) rk) w ∧ qMk ru.2.2.2.1 (-1) (vF w) ru.2.2.2.1.length = some as) := fun hn w hw => hn (vF w) (needs (vF w) hw.2)
  have key := k_164f (f := f) (m := m) (u := u') (K := K) (g := ru.2.2.1) (I := ru.2.2.2.1) (as := as) (nv := ru.2.2.2.2.1.length) (by omega) hs hnv hn4 (fun c hc => i2 _ (by rw [getD_e hc]; exact List.getElem_mem hc)) (by omega) hav ru.2.2.2.1.length 0 f G2 0 (fun _ => 0) (by omega) (by omega) hE2.wy hI2 (fun c hc => by rw [z2 _ _ (by omega)]; exact hgv c hc) l2 (fun v _ j hj => by rw [Nat.zero_testBit] at hj; cases hj)
  rcases key with ⟨k1, k2⟩ | ⟨G3, b', vl', k1, k2, k3⟩
  · exact ⟨0, G2, st.trans k1, b3, fun b j y _ _ _ => z2 b j y, .inl ⟨rfl, none_ok k2, fun k => z2 _ _ (by omega)⟩⟩
  · have z3 : ∀ b j, ¬ (83 ≤ b ∧ b ≤ 92) → G3 b j = G b j := fun b j y => by rw [k1 b j (by omega) (by omega), z2 b j y]
    rcases k3 with ⟨k3, k4, k5⟩ | ⟨k3, k4⟩
    · have hE3 := we G3 0 (fun _ => 0) (hiR ru.2.2.2.2.2 (mbR s p) rk) k2 (fun a j y => z3 a j (by omega)) (by rw [k1 _ _ (by omega) (by omega), b2 _ _ (by omega)]; exact a4) (by rw [k1 _ _ (by omega) (by omega), b2 _ _ (by omega)]; exact a5) (by rw [k1 _ _ (by omega) (by omega), b2 _ _ (by omega)]; exact a6) (fun l hl => by rw [k1 _ _ (by omega) (by omega), k1 _ _ (by omega) (by omega)]; exact lohi l hl)
      obtain ⟨V, k, Bf, x1, x2, x3, x4, x5, x6, _⟩ := ways_start hE3 (by rw [k1 _ _ (by omega) (by omega), b2 _ _ (by omega)]; exact a7) (by rw [k1 _ _ (by omega) (by omega), b2 _ _ (by omega)]; exact a8) k4 w8 hsf hnd hpB
      obtain ⟨_, x8⟩ := x6 rfl
      have hx203 : ∀ p, p < s.1.length → 203 < xr p := fun p hp => (hM.2.2.2.2 p hp).2.1.1
      obtain ⟨G4, fd, r1, r2, r3, r4⟩ := k_164n (f := f) (m := m) (I := ru.2.2.2.1) (g := ru.2.2.1) (as := as) hf hrp hx203 hn4 i1 hnv (by omega) x4 V [] k 0 f G3 0 hE3 x3 x1 (by omega) (by omega) (hI.fx hu8 (fun a j y => z3 a j (by omega))) (by rw [z3 _ _ (by omega)]; exact h3) (by rw [z3 _ _ (by omega)]; exact h6) (fun c hc => by rw [z3 _ _ (by omega)]; exact hgv c hc) (.inl ⟨rfl, fun v hv => by cases hv⟩)
      rw [List.nil_append] at r4
      have r1' : c164_138 f f 93 u' 0 0 (S, G3, m) = c164_220 f 93 u' fd (S, G4, m) := r1
      have z4 : ∀ b j, ¬ (83 ≤ b ∧ b ≤ 92) → b ≠ 103 → b ≠ 106 → G4 b j = G b j := fun b j y1 y2 y3 => by rw [r2 b j (by omega) (by omega) (by omega) y2 y3, z3 b j y1]
      have st4 := (st.trans k3).trans r1'
      -- WAYS of the rule and those that were found
      have agr : ∀ v : Nat → Int, qMk ru.2.2.2.1 (-1) (vF (vec ru.2.2.2.2.1.length v)) ru.2.2.2.1.length = qMk ru.2.2.2.1 (-1) v ru.2.2.2.1.length := fun v => qMk_xt (fun k hk hg => (i1 k hk hg).1) (fun k hk => vec_vF hk) _ (Nat.le_refl _)
      have toW : ∀ v ∈ V, isW ru.2.2.2.2.2 ru.2.2.2.2.1.length M (qOp (qK s) (qK s p : Int) rk) (vec ru.2.2.2.2.1.length v) := fun v hv => by
        obtain ⟨y1, y2⟩ := lit.mp (x5 v hv).2
        have ev : ∀ k, k < ru.2.2.2.2.1.length → v k = vF (vec ru.2.2.2.2.1.length v) k := fun k hk => (vec_vF hk).symm
        refine ⟨vec_len, fun y hy h1 => ?_, sNC_xt (fun y hy => (w9 y hy).1) ev y2⟩
        obtain ⟨w, u1, u2, u3⟩ := y1 y hy h1
        refine ⟨w, u1, u2, sTs_xt ?_ ev u3⟩
        rcases (w9 y hy).1 with ⟨_, _, _, _, _, z⟩ | ⟨z, _⟩
        · exact z
        · omega
      have toV : ∀ w, isW ru.2.2.2.2.2 ru.2.2.2.2.1.length M (qOp (qK s) (qK s p : Int) rk) w → qMk ru.2.2.2.1 (-1) (vF w) ru.2.2.2.1.length = some as → ∃ v ∈ V, vec ru.2.2.2.2.1.length v = w ∧ gvY ru.2.2.2.1 as v := fun w hw hq => by
        obtain ⟨v, v1, v2⟩ := x8 (vF w) (fun j hj => k5 (vF w) (needs (vF w) hq) j hj) (lit.mpr hw.2)
        have e : vec ru.2.2.2.2.1.length v = w := by
          rw [vec_ext (fun k hk => v2 k (x4 k hk)), vec_id hw.1]
        refine ⟨v, v1, e, ?_⟩
        unfold gvY
        rw [← agr, e]
        exact hq
      rcases r4 with ⟨rfl, q2⟩ | ⟨rfl, v, q2, q3, q4, q5⟩
      · refine ⟨0, G4, st4.trans ?_, r3, fun b j y1 y2 y3 _ => z4 b j y1 y2 y3, .inl ⟨rfl, fun w hw => ?_, fun k => z4 _ _ (by omega) (by omega) (by omega)⟩⟩
        · obtain ⟨fu, hfu⟩ : ∃ t, f = t + 1 := ⟨f - 1, by omega⟩
          have : ∀ t, c164_226 f (t + 1) 93 u' 0 0 0 (S, G4, m) = some (0, (S, G4, m)) := fun t => by
            show c164_226b (c164_226 f t) f _ _ _ _ _ _ = _
            unfold c164_226b
            rw [if_pos rfl]
            exact if_pos (.inl rfl)
          have := this fu
          rw [← hfu] at this
          exact this
        · obtain ⟨v, v1, _, v3⟩ := toV w hw.1 hw.2
          exact q2 v v1 v3
      · have hE4 := hE3.f3 hrp hx203 r3 (fun b j y1 y2 y3 y4 y5 _ _ => r2 b j y1 y2 y3 y4 y5)
        obtain ⟨G5, t1, t2, t3, t4, t5⟩ := k_164r (f := f) (m := m) (vl := fun k => G4 106 k) (by omega) hrp hx203 w8 hl8 ru.2.2.2.2.2.length 0 f G4 (by omega) (by omega) hE4 (fun k _ => rfl)
        have a0 : atN ru.2.2.2.2.2 0 = 0 := rfl
        rw [a0] at t1
        have t1' : c164_220 f 93 u' 1 (S, G4, m) = some (1, (S, G5, m)) := t1
        refine ⟨1, G5, st4.trans t1', t3, fun b j y1 y2 y3 y4 => by rw [t2 b j (by omega) (by omega) (by omega) y4, z4 b j y1 y2 y3], .inr ⟨rfl, vec ru.2.2.2.2.1.length v, ⟨toW v q2, by rw [agr]; exact q3⟩, fun x hx => ?_, fun k hk => by rw [t4 k (.inr hk), z4 _ _ (by omega) (by omega) (by omega)], fun l hl h1 => ?_⟩⟩
        · obtain ⟨w, y1, y2, y3⟩ := toV x hx.1 hx.2
          rw [← y2]
          exact q5 w y1 y3
        · have q := t5 l (Nat.zero_le _) hl h1
          have ev : ∀ k, k < ru.2.2.2.2.1.length → G4 106 k = vF (vec ru.2.2.2.2.1.length v) k := fun k hk => by rw [q4 k hk, vec_vF hk]
          have hT : ∀ y ∈ (ru.2.2.2.2.2.getD l dLt).2.2.2.1, wT1 ru.2.2.2.2.1.length y := by
            rcases (w9 _ (lt_in hl)).1 with ⟨_, _, _, _, _, z⟩ | ⟨z, _⟩
            · exact z
            · omega
          have eqj : ∀ j, j < (M (ru.2.2.2.2.2.getD l dLt).2.1.toNat).length → (((0 ≤ ((M (ru.2.2.2.2.2.getD l dLt).2.1.toNat).getD j dRw).2 ∧ ((M (ru.2.2.2.2.2.getD l dLt).2.1.toNat).getD j dRw).2 ≤ hiR ru.2.2.2.2.2 (mbR s p) rk l) ∧ sTs (fun k => G4 106 k) (ru.2.2.2.2.2.getD l dLt).2.2.2.1 ((M (ru.2.2.2.2.2.getD l dLt).2.1.toNat).getD j dRw).1) ↔ (qOp (qK s) (qK s p : Int) rk (ru.2.2.2.2.2.getD l dLt).2.1.toNat ((M (ru.2.2.2.2.2.getD l dLt).2.1.toNat).getD j dRw) ∧ sTs (vF (vec ru.2.2.2.2.1.length v)) (ru.2.2.2.2.2.getD l dLt).2.2.2.1 ((M (ru.2.2.2.2.2.getD l dLt).2.1.toNat).getD j dRw).1)) := fun j hj => by
            have o := opl hl h1 _ (get_in hj)
            constructor
            · rintro ⟨y1, y2⟩; exact ⟨o.mp y1, sTs_xt hT ev y2⟩
            · rintro ⟨y1, y2⟩; exact ⟨o.mpr y1, sTs_xt hT (fun k hk => (ev k hk).symm) y2⟩
          rcases q with ⟨j, j1, j2, j3, j4⟩ | ⟨j1, j2⟩
          · exact .inl ⟨j, j1, (eqj j j1).mp j2, fun i hi z => j3 i hi ((eqj i (by omega)).mpr z), j4⟩
          · exact .inr ⟨fun j hj z => j1 j hj ((eqj j hj).mpr z), j2⟩
    · exact ⟨0, G3, st.trans k3, k2, fun b j y _ _ _ => z3 b j y, .inl ⟨rfl, none_ok k4, fun k => z3 _ _ (by omega)⟩⟩
end
end
