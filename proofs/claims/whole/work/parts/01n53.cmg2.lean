section
/-! THE CLASS: merge: what comes of another line -/
section
variable {f A0 sl q qe nq nqe mb mz rb rz ln p : Nat} {S : Nat → Nat × Nat × Nat} {G : xG_} {m : Nat × Nat} {s se : pPg} {xb cb xz cz : Nat → Nat} {Mb Mz : Nat → List pRw} {FB FZ : List pFc}
def tgOk (s se : pPg) (p : Nat) (tg : Int) : Prop := ∀ (sg : Int) (v : List Int), v.length = qN s p → (∃ p' : Nat, p' < se.1.length ∧ chT se (sg, qNm s p, v) p' ∧ tg = (p' : Int)) ∨ ((∀ p', p' < se.1.length → ¬ chT se (sg, qNm s p, v) p') ∧ tg = -1)
theorem k_22 (hf : 20 < f) (hq : cPgm S G q nq s) (he : cPgm S G qe nqe se) (hok : qOk s) (hoke : qOk se) (hp : p < s.1.length) : ∃ tg, c22 f qe q (p : Int) (S, G, m) = some (tg, (S, G, m)) ∧ tgOk s se p tg := by
  obtain ⟨v, v1, v2⟩ := k_21 (f := f) (m := m) hf hq he hok hoke hp
  have is : cq_is 3 14 qe (S, G, m) = some () := if_pos he.1.1
  have h16 : se.1.length ≤ 16 := he.2.2.1.2.1
  unfold c22 c22_25 c22_26
  rw [is, Option.bind_some, v1, Option.bind_some]
  rcases v2 with ⟨r, rfl, r1, r2, r3⟩ | ⟨rfl, r1⟩
  · have gi := (he.2.2.2.2.1 r (by omega)).2.1
    have ga : cq_ab (qe + 4) (r : Int) (S, G, m) = some (b01 (pIn se.2.1 (r : Int))) := by rw [← gi]; exact o_ab he.1.2.2.2.2.1 (by omega)
    rw [if_neg (show ¬ (((r : Nat) : Int) = -1) by omega), o_gr he.1.1 he.2.1.2.2.2.1, Option.bind_some, ga, Option.bind_some]
    cases hb : pIn se.2.1 (r : Int) with
    | false =>
      rw [if_pos (by decide)]
      refine ⟨-1, rfl, fun sg v hv => .inr ⟨fun p' hp' hc => ?_, rfl⟩⟩
      have : p' = r := nm_inj hoke hp' r1 (hc.1.trans r2.symm)
      have h2 := hc.2.1
      rw [this, hb] at h2
      exact absurd h2 (by decide)
    | true =>
      rw [if_neg (by decide)]
      exact ⟨r, rfl, fun sg v hv => .inl ⟨r, r1, ⟨r2, hb, hv.trans r3.symm⟩, rfl⟩⟩
  · rw [if_pos rfl]
    refine ⟨-1, rfl, fun sg v hv => .inr ⟨fun p' hp' hc => ?_, rfl⟩⟩
    have h3 : v.length = qN se p' := hc.2.2
    exact r1 p' hp' hc.1 (by rw [← h3, hv])
/-- what is asked of a line's pending edition -/
def pdOk (S : Nat → Nat × Nat × Nat) (G : xG_) (A0 ln : Nat) (s se : pPg) : Prop := (G ln 7 = 0 ∧ se = s) ∨ ∃ qe nqe : Nat, G ln 7 = (qe : Int) ∧ qe ≠ 0 ∧ cPgm S G qe nqe se ∧ nqe ≤ A0 ∧ (qe = 229 ∧ nqe ≤ 243 ∨ 555 < qe) ∧ qOk se
theorem df_len (hok : qOk s) (hp : p < s.1.length) (tB : qTb s Mb) (tZ : qTb s Mz) (fB : qFa s Mb FB) (fZ : qFa s Mz FZ) : (dfC (-1) (qNm s p) FZ FB ++ dfC 1 (qNm s p) FB FZ).length = dfN (Mb p) (Mz p) := by
  rw [List.length_append, dfC_e hok tZ fZ fB hp, dfC_e hok tB fB fZ hp, List.length_map, List.length_map]
  unfold dfN
  rw [List.countP_eq_length_filter, List.countP_eq_length_filter]
  omega
theorem dfN_2 (hp : p < s.1.length) (tB : qTb s Mb) (tZ : qTb s Mz) : dfN (Mb p) (Mz p) ≤ 200 := by
  have h1 := (tB p hp).1
  have h2 := (tZ p hp).1
  have h3 := dfN_le (R := Mb p) (R2 := Mz p)
  omega
/-- how much comes -/
theorem k_152s (hf : 700 < f) (hP : cPgm S G q nq s) (hok : qOk s) (h2 : cMr S G A0 mb q rb s xb cb Mb) (h3 : cMr S G A0 mz q rz s xz cz Mz) (ob : okM8 s Mb) (oz : okM8 s Mz) (tB : qTb s Mb) (tZ : qTb s Mz) (fB : qFa s Mb FB) (fZ : qFa s Mz FZ) (ls : S ln = (1, 1, 14)) {ch : Nat} (h8 : G ln 8 = (ch : Int)) (hch : ch ≤ 400) : ∀ (d p ac fu : Nat), p + d = s.1.length → d < fu → ac ≤ 200 * p → c189_152 f fu ln mz mb (ac : Int) (p : Int) (S, G, m) = if ch + (ac + (dfB s FB FZ p d).length) ≤ 400 then c189_219 f f ln mz mb (((ac + (dfB s FB FZ p d).length) : Nat) : Int) 0 (S, G, m) else some (-4, (S, G, m)) := by
  have h16 : s.1.length ≤ 16 := hP.2.2.1.2.1
  intro d
  induction d with
  | zero =>
    intro p ac fu e1 e2 e3
    obtain ⟨fu, rfl⟩ : ∃ t, fu = t + 1 := ⟨fu - 1, by omega⟩
    have w : xwr ((ch : Int) + (ac : Int)) = (ch : Int) + (ac : Int) := xwr_g _ (by omega) (by omega)
    show c189_152b (c189_152 f fu) f _ _ _ _ _ _ = if ch + (ac + ([] : List pPe).length) ≤ 400 then c189_219 f f ln mz mb (((ac + ([] : List pPe).length) : Nat) : Int) 0 (S, G, m) else some (-4, (S, G, m))
    unfold c189_152b
    rw [o_gr h3.1 h3.2.1, Option.bind_some, o_gi hP.1.1, Option.bind_some, hP.2.2.1.1, if_pos (by omega), o_gi ls, Option.bind_some, h8, w, List.length_nil, Nat.add_zero]
    by_cases c : ch + ac ≤ 400
    · rw [if_pos c, if_pos (by omega)]
    · rw [if_neg c, if_neg (by omega)]
  | succ d ih =>
    intro p ac fu e1 e2 e3
    obtain ⟨fu, rfl⟩ : ∃ t, fu = t + 1 := ⟨fu - 1, by omega⟩
    have hp : p < s.1.length := by omega
    have l2 := dfN_2 hp tB tZ
    have e18 := k_18 (f := f) (m := m) hf hP hP hok hok h2 h3 ob oz (fun p hp => .inl ⟨p, hp, rfl, rfl, rfl⟩) hp
    have is : cq_is 2 8 mb (S, G, m) = some () := if_pos h2.1
    have go : G (q + 4) p = b01 (pIn s.2.1 (p : Int)) := (hP.2.2.2.2.1 p (by omega)).2.1
    have w1 : xwr ((p : Int) + 1) = ((p + 1 : Nat) : Int) := by rw [xwr_g _ (by omega) (by omega)]; omega
    have w2 : xwr ((ac : Int) + (dfN (Mb p) (Mz p) : Int)) = ((ac + dfN (Mb p) (Mz p) : Nat) : Int) := by rw [xwr_g _ (by omega) (by omega)]; omega
    have w3 : xwr ((ac : Int) + 0) = ((ac : Nat) : Int) := by rw [xwr_g _ (by omega) (by omega)]; omega
    show c189_152b (c189_152 f fu) f _ _ _ _ _ _ = if ch + (ac + ((if pIn s.2.1 (p : Int) = true then dfC (-1) (qNm s p) FZ FB ++ dfC 1 (qNm s p) FB FZ else []) ++ dfB s FB FZ (p + 1) d).length) ≤ 400 then c189_219 f f ln mz mb (((ac + ((if pIn s.2.1 (p : Int) = true then dfC (-1) (qNm s p) FZ FB ++ dfC 1 (qNm s p) FB FZ else []) ++ dfB s FB FZ (p + 1) d).length) : Nat) : Int) 0 (S, G, m) else some (-4, (S, G, m))
    unfold c189_152b c189_191
    rw [o_gr h3.1 h3.2.1, Option.bind_some, o_gi hP.1.1, Option.bind_some, hP.2.2.1.1, if_neg (by omega), Option.bind_some, o_gr hP.1.1 hP.2.1.2.2.2.1, Option.bind_some, o_ab hP.1.2.2.2.2.1 (by omega), Option.bind_some, go]
    cases hb : pIn s.2.1 (p : Int) with
    | false =>
      rw [if_pos (by decide), if_neg (show ¬ false = true by decide), w1, w3, ih (p + 1) ac fu (by omega) (by omega) (by omega), List.nil_append]
    | true =>
      rw [if_neg (by decide), if_pos rfl, is, Option.bind_some, e18, Option.bind_some, w1, w2, ih (p + 1) _ fu (by omega) (by omega) (by omega), List.length_append, df_len hok hp tB tZ fB fZ, ← Nat.add_assoc, ← Nat.add_assoc, ← Nat.add_assoc, ← Nat.add_assoc, ← Nat.add_assoc]
/-- it comes -/
theorem k_219 (hf : 700 < f) (hA : 555 < A0) (hln : 242 < ln ∧ ln < 271) (ls : lnSt S ln) (lp : lnPt G ln) (hP : cPgm S G q nq s) (hq : nq ≤ A0 ∧ (q = 229 ∧ nq ≤ 243 ∨ 555 < q)) (hok : qOc s) (h2 : cMr S G A0 mb q rb s xb cb Mb) (h3 : cMr S G A0 mz q rz s xz cz Mz) (hsf : sfP A0 mb ∧ sfP A0 rb ∧ sfP A0 mz ∧ sfP A0 rz) (hxz : ∀ p, p < s.1.length → (xz p + 2 < 216 ∨ 555 < xz p) ∧ (xb p + 2 < 216 ∨ 555 < xb p)) (tB : qTb s Mb) (tZ : qTb s Mz) (fB : qFa s Mb FB) (fZ : qFa s Mz FZ) (hpd : pdOk S G A0 ln s se) {cm : Int} :
    ∀ (d p fu : Nat) (S1 : Nat → Nat × Nat × Nat) (G1 : xG_) (A1 sl1 : Nat) (E : List pPe), p + d = s.1.length → d < fu → A0 ≤ A1 → (∀ a, a < A0 → S1 a = S a) → (∀ a j, a < A0 → ¬ (a = ln ∧ j = 8) → ¬ (ln + 4 ≤ a ∧ a ≤ ln + 6) → G1 a j = G a j) → cPn G1 ln se E → (∀ k, k < E.length → (E.getD k dPe).2.2.length ≤ 4) → E.length + (dfB s FB FZ p d).length ≤ 400 →
      ∃ S' G' A' sl', c189_219 f fu ln mz mb cm (p : Int) (S1, G1, (A1, sl1)) = some (cm, (S', G', (A', sl'))) ∧ A1 ≤ A' ∧ A' ≤ A1 + 2 * d ∧ sl1 ≤ sl' ∧ sl' ≤ sl1 + 8 * d ∧ (∀ a, a < A0 → S' a = S a) ∧ (∀ a j, a < A0 → ¬ (a = ln ∧ j = 8) → ¬ (ln + 4 ≤ a ∧ a ≤ ln + 6) → G' a j = G a j) ∧ cPn G' ln se (E ++ dfB s FB FZ p d) := by
  have h16 : s.1.length ≤ 16 := hP.2.2.1.2.1
  have hq10 := hP.2.2.2.2.2.2.2.2
  obtain ⟨f1, f2, f3, f4⟩ := hsf
  unfold sfP at f1 f2 f3 f4
  intro d
  induction d with
  | zero =>
    intro p fu S1 G1 A1 sl1 E e1 e2 e3 e4 e5 e6 e7 e8
    obtain ⟨fu, rfl⟩ : ∃ t, fu = t + 1 := ⟨fu - 1, by omega⟩
    refine ⟨S1, G1, A1, sl1, ?_, Nat.le_refl _, Nat.le_refl _, Nat.le_refl _, Nat.le_refl _, e4, e5, by show cPn G1 ln se (E ++ []); rw [List.append_nil]; exact e6⟩
    show c189_219b (c189_219 f fu) f _ _ _ _ _ _ = _
    unfold c189_219b
    rw [o_gr (x := mz) (y := q) (by rw [e4 _ (by omega)]; exact h3.1) (by rw [e5 _ _ (by omega) (by omega) (by omega)]; exact h3.2.1), Option.bind_some, o_gi (by rw [e4 _ (by omega)]; exact hP.1.1), Option.bind_some, e5 _ _ (by omega) (by omega) (by omega), hP.2.2.1.1, if_pos (by omega)]
  | succ d ih =>
    intro p fu S1 G1 A1 sl1 E e1 e2 e3 e4 e5 e6 e7 e8
    obtain ⟨fu, rfl⟩ : ∃ t, fu = t + 1 := ⟨fu - 1, by omega⟩
    have hp : p < s.1.length := by omega
    have go : G1 (q + 4) p = b01 (pIn s.2.1 (p : Int)) := by rw [e5 _ _ (by omega) (by omega) (by omega)]; exact (hP.2.2.2.2.1 p (by omega)).2.1
    have w1 : xwr ((p : Int) + 1) = ((p + 1 : Nat) : Int) := by rw [xwr_g _ (by omega) (by omega)]; omega
    have sq : S1 q = (1, 3, 14) := by rw [e4 _ (by omega)]; exact hP.1.1
    have gz : cq_gr 2 0 8 mz (S1, G1, (A1, sl1)) = some q := o_gr (by rw [e4 _ (by omega)]; exact h3.1) (by rw [e5 _ _ (by omega) (by omega) (by omega)]; exact h3.2.1)
    have gab : cq_ab (q + 4) (p : Int) (S1, G1, (A1, sl1)) = some (b01 (pIn s.2.1 (p : Int))) := by rw [← go]; exact o_ab (by rw [e4 _ (by omega)]; exact hP.1.2.2.2.2.1) (by omega)
    have e0 := Eq.refl (c189_219 f (fu + 1) ln mz mb cm (p : Int) (S1, G1, (A1, sl1)))
    conv at e0 => { rhs; change c189_219b (c189_219 f fu) f ln mz mb cm (p : Int) (S1, G1, (A1, sl1)); unfold c189_219b }
    rw [gz, Option.bind_some, o_gi sq, Option.bind_some, e5 _ _ (by omega) (by omega) (by omega), hP.2.2.1.1, if_neg (by omega), Option.bind_some, o_gr (x := q) (y := q + 4) sq (by rw [e5 _ _ (by omega) (by omega) (by omega)]; exact hP.2.1.2.2.2.1), Option.bind_some, gab, Option.bind_some] at e0
    have eD : dfB s FB FZ p (d + 1) = (if pIn s.2.1 (p : Int) = true then dfC (-1) (qNm s p) FZ FB ++ dfC 1 (qNm s p) FB FZ else []) ++ dfB s FB FZ (p + 1) d := rfl
    rw [eD] at e8 ⊢
    cases hb : pIn s.2.1 (p : Int) with
    | false =>
      rw [hb, if_neg (by decide), List.nil_append] at e8
      rw [if_neg (by decide), List.nil_append]
      rw [hb, if_pos (by decide)] at e0
      unfold c189_315 at e0
      rw [w1] at e0
      obtain ⟨S', G', A', sl', r1, r2, r3, r4, r5, r6, r7, r8⟩ := ih (p + 1) fu S1 G1 A1 sl1 E (by omega) (by omega) e3 e4 e5 e6 e7 e8
      exact ⟨S', G', A', sl', e0.trans r1, r2, by omega, r4, by omega, r6, r7, r8⟩
    | true =>
      rw [hb, if_pos rfl] at e8
      rw [if_pos rfl]
      rw [hb, if_neg (by decide)] at e0
      -- where it goes
      have tg : ∃ tg, tgOk s se p tg ∧ c189_219 f (fu + 1) ln mz mb cm (p : Int) (S1, G1, (A1, sl1)) = c189_269 (c189_219 f fu) f ln mz mb cm (p : Int) tg (S1, G1, (A1, sl1)) := by
        rcases hpd with ⟨p1, p2⟩ | ⟨qe, nqe, p1, p2, p3, p4, p5, p6⟩
        · refine ⟨(p : Int), fun sg v hv => .inl ⟨p, by rw [p2]; exact hp, by rw [p2]; exact ⟨rfl, hb, hv⟩, rfl⟩, ?_⟩
          rw [e0, o_gr (x := ln) (y := 0) (by rw [e4 _ (by omega)]; exact ls.1) (by rw [e5 _ _ (by omega) (by omega) (by omega)]; exact p1), Option.bind_some, if_pos rfl]
        · have P1 : cPgm S1 G1 q nq s := hP.ge (Nat.le_refl _) (fun a ha => e4 a (by omega)) (fun a j y1 y2 => e5 a j (by omega) (by omega) (by omega))
          have P2 : cPgm S1 G1 qe nqe se := p3.ge (Nat.le_refl _) (fun a ha => e4 a (by omega)) (fun a j y1 y2 => e5 a j (by omega) (by omega) (by omega))
          obtain ⟨tg, t1, t2⟩ := k_22 (f := f) (m := (A1, sl1)) (by omega) P1 P2 hok.1 p6 hp
          have is : cq_is 3 14 qe (S1, G1, (A1, sl1)) = some () := if_pos P2.1.1
          refine ⟨tg, t2, ?_⟩
          rw [e0, o_gr (x := ln) (y := qe) (by rw [e4 _ (by omega)]; exact ls.1) (by rw [e5 _ _ (by omega) (by omega) (by omega)]; exact p1), Option.bind_some, if_neg p2, Option.bind_some, Option.bind_some, is, Option.bind_some, t1, Option.bind_some]
      obtain ⟨tg, t1, t2⟩ := tg
      obtain ⟨b1, b2, b3⟩ := h2.2.2.2.2 p hp
      obtain ⟨z1, z2, z3⟩ := h3.2.2.2.2 p hp
      obtain ⟨xz1', xb1'⟩ := hxz p hp
      have up : ∀ {x cap W : Nat} {R : List pRw}, x + 2 < A0 → (x + 2 < 216 ∨ 555 < x) → cRw S G x W cap R → cRw S1 G1 x W cap R := fun {x cap W R} hx hx2 h => h.ge (fun b _ _ => e4 b (by omega)) (fun j => e5 _ _ (by omega) (by omega) (by omega)) (fun j => e5 _ _ (by omega) (by omega) (by omega)) (fun j => e5 _ _ (by omega) (by omega) (by omega))
      have hw4 := (qN_pos hok hp).2
      have dz := dfC_e (sg := -1) hok.1 tZ fZ fB hp
      have db := dfC_e (sg := 1) hok.1 tB fB fZ hp
      rw [dz, db, List.length_append, List.length_append, List.length_map, List.length_map] at e8
      have ls1 : lnSt S1 ln := lnSt_of' ls (fun a y1 y2 => e4 a (by omega))
      have lp1 : lnPt G1 ln := lnPt_8 lp (fun j hj => e5 _ _ (by omega) (by omega) (by omega))
      obtain ⟨S2, G2, u1, u2, u3, u4, u5⟩ := k_9 (f := f) (sl := sl1) (ad := 0) (sg := -1) (nm := qNm s p) (tg := tg) (s := se) hf (by omega : 555 < A1) ls1 lp1 hln (show xz p + 2 < A1 ∧ (xz p + 2 < 216 ∨ 555 < xz p) from ⟨by omega, xz1'⟩) (show xb p + 2 < A1 ∧ (xb p + 2 < 216 ∨ 555 < xb p) from ⟨by omega, xb1'⟩) hw4 (by rfl) (tZ p hp).2.1 (tB p hp).2.1 (fun v hv => t1 _ v hv) (up z2.2 xz1' z3) (up b2.2 xb1' b3) e6 e7 (by omega)
      have s2 : ∀ a, a < A0 → S2 a = S a := fun a ha => by rw [u2 a (by omega), e4 a ha]
      have g2 : ∀ a j, a < A0 → ¬ (a = ln ∧ j = 8) → ¬ (ln + 4 ≤ a ∧ a ≤ ln + 6) → G2 a j = G a j := fun a j y1 y2 y3 => by rw [u4 a j (by omega) y2 y3, e5 a j y1 y2 y3]
      have up2 : ∀ {x cap W : Nat} {R : List pRw}, x + 2 < A0 → (x + 2 < 216 ∨ 555 < x) → cRw S G x W cap R → cRw S2 G2 x W cap R := fun {x cap W R} hx hx2 h => h.ge (fun b _ _ => s2 b (by omega)) (fun j => g2 _ _ (by omega) (by omega) (by omega)) (fun j => g2 _ _ (by omega) (by omega) (by omega)) (fun j => g2 _ _ (by omega) (by omega) (by omega))
      obtain ⟨S3, G3, v1, v2, v3, v4, v5⟩ := k_9 (f := f) (sl := sl1 + 4) (ad := 1) (sg := 1) (nm := qNm s p) (tg := tg) (s := se) hf (by omega : 555 < A1 + 1) (lnSt_of' ls (fun a y1 y2 => s2 a (by omega))) (lnPt_8 lp (fun j hj => g2 _ _ (by omega) (by omega) (by omega))) hln (show xb p + 2 < A1 + 1 ∧ (xb p + 2 < 216 ∨ 555 < xb p) from ⟨by omega, xb1'⟩) (show xz p + 2 < A1 + 1 ∧ (xz p + 2 < 216 ∨ 555 < xz p) from ⟨by omega, xz1'⟩) hw4 (by rfl) (tB p hp).2.1 (tZ p hp).2.1 (fun v hv => t1 _ v hv) (up2 b2.2 xb1' b3) (up2 z2.2 xz1' z3) u3 u5 (by rw [List.length_append, List.length_map]; omega)
      have s3 : ∀ a, a < A0 → S3 a = S a := fun a ha => by rw [v2 a (by omega), s2 a ha]
      have g3 : ∀ a j, a < A0 → ¬ (a = ln ∧ j = 8) → ¬ (ln + 4 ≤ a ∧ a ≤ ln + 6) → G3 a j = G a j := fun a j y1 y2 y3 => by rw [v4 a j (by omega) y2 y3, g2 a j y1 y2 y3]
      rw [← dz] at u3 v3 v5
      rw [← db] at v3 v5
      have i1 : cq_is 1 14 ln (S1, G1, (A1, sl1)) = some () := if_pos ls1.1
      have i2 : cq_is 1 14 ln (S2, G2, (A1 + 1, sl1 + 4)) = some () := if_pos (by show S2 ln = (1, 1, 14); rw [s2 _ (by omega)]; exact ls.1)
      unfold c189_269 c189_315 at t2
      rw [o_gr (x := mz) (y := rz) (by rw [e4 _ (by omega)]; exact h3.1) (by rw [e5 _ _ (by omega) (by omega) (by omega)]; exact h3.2.2.1), Option.bind_some, o_ar (x := rz) (y := xz p) (L := s.1.length) (by rw [e4 _ (by omega)]; exact h3.2.2.2.1) (by decide) hp (by rw [e5 _ _ (by omega) (by omega) (by omega)]; exact z1), Option.bind_some, o_gr (x := mb) (y := rb) (by rw [e4 _ (by omega)]; exact h2.1) (by rw [e5 _ _ (by omega) (by omega) (by omega)]; exact h2.2.2.1), Option.bind_some, o_ar (x := rb) (y := xb p) (L := s.1.length) (by rw [e4 _ (by omega)]; exact h2.2.2.2.1) (by decide) hp (by rw [e5 _ _ (by omega) (by omega) (by omega)]; exact b1), Option.bind_some, i1, Option.bind_some, u1, Option.bind_some, o_gr (x := mb) (y := rb) (by rw [s2 _ (by omega)]; exact h2.1) (by rw [g2 _ _ (by omega) (by omega) (by omega)]; exact h2.2.2.1), Option.bind_some, o_ar (x := rb) (y := xb p) (L := s.1.length) (by rw [s2 _ (by omega)]; exact h2.2.2.2.1) (by decide) hp (by rw [g2 _ _ (by omega) (by omega) (by omega)]; exact b1), Option.bind_some, o_gr (x := mz) (y := rz) (by rw [s2 _ (by omega)]; exact h3.1) (by rw [g2 _ _ (by omega) (by omega) (by omega)]; exact h3.2.2.1), Option.bind_some, o_ar (x := rz) (y := xz p) (L := s.1.length) (by rw [s2 _ (by omega)]; exact h3.2.2.2.1) (by decide) hp (by rw [g2 _ _ (by omega) (by omega) (by omega)]; exact z1), Option.bind_some, i2, Option.bind_some, v1, Option.bind_some, w1] at t2
      obtain ⟨S', G', A', sl', r1, r2, r3, r4, r5, r6, r7, r8⟩ := ih (p + 1) fu S3 G3 (A1 + 1 + 1) (sl1 + 4 + 4) _ (by omega) (by omega) (by omega) s3 g3 v3 v5 (by rw [List.length_append, List.length_append, dz, db, List.length_map, List.length_map]; omega)
      refine ⟨S', G', A', sl', t2.trans r1, by omega, by omega, by omega, by omega, r6, r7, ?_⟩
      rw [← List.append_assoc, ← List.append_assoc]
      exact r8
end
end
