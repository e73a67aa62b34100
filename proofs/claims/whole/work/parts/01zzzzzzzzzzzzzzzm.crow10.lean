/-! THE CLASS: round(): begin, tell, rings -/
section
variable {f A q qo kk mp rp r : Nat} {S : Nat → Nat × Nat × Nat} {G : xG_} {m : Nat × Nat} {s so : pPg} {xr cr : Nat → Nat} {Mo R0 R : Nat → List pRw} {F : List pFc} {E : List pPe} {tk : Int} {fr : Prop}
theorem rd_rows (hf : 100003010 < f) (hs : cSs S) (hp : cPs G) (hem : cEm G) (hkk : kk < 4) (h1 : G (243 + 9 * kk) 1 = (r : Int)) (hr : r + 1 < 520) (hmp : 203 < mp) (hrp : 203 < rp) (hq : 226 < q) (hqo : 226 < qo) (hoks : qOc s) (hoko : qOc so) (htk : G q 0 = G qo 0 ∧ tk = 0 ∧ s = so ∨ G q 0 ≠ G qo 0 ∧ tk = 1) (hP : cPgm S G q A s) (ho : cPgm S G qo A so) (hM : cMr S G A mp qo rp so xr cr Mo) (hMo : okM8 so Mo) (hPn : cPn G (243 + 9 * kk) s E) (hst : qSt1 so Mo) (hF : qFa so Mo F) (huk : ukM so Mo) (hfr : fr ↔ tk = 1) (hR0 : qR0 so s fr F R0) (hR : chA s E R0 R) (hvE : ∀ e ∈ E, ∀ x ∈ e.2.2, vOk x) (hxr : ∀ p, p < so.1.length → xr p + 2 < 216 ∨ 555 < xr p) :
    ∃ v G', c173_43 f 64 (243 + 9 * kk) mp tk q (S, G, m) = c173_127 f 64 (243 + 9 * kk) mp tk v (S, G', m) ∧ (∀ a j, a < 83 ∨ 203 < a → G' a j = G a j) ∧ cPs G' ∧ ((v = 0 ∧ ¬ ∃ M, qMod s R M) ∨ (v = 1 ∧ ∃ (xp cp yp ap : Nat → Nat) (R' A0 : Nat → List pRw) (ch wk : Nat), cWk S G' q A s xp cp R' ∧ cAh S G' A s yp ap A0 ∧ isAh so s Mo A0 ∧ (tk = 0 → ∀ p, p < s.1.length → A0 p = Mo p) ∧ G' 93 13 = (ch : Int) ∧ ch < 2 ^ 16 ∧ G' 93 14 = (wk : Int) ∧ wk < 2 ^ 16 ∧ qMod s R R' ∧ (∀ j, j < s.1.length → (ch.testBit j = true ↔ ¬ vEq (R' j) (A0 j))) ∧ (∀ j, ch.testBit j = true → j < s.1.length) ∧ (∀ j, wk.testBit j = true ↔ j < s.1.length ∧ qWc s fr (fun p => p < s.1.length ∧ ¬ vEq (R' p) (A0 p)) j) ∧ (∀ p, p < s.1.length → (203 < xp p → xp p + 2 < 216 ∨ 555 < xp p) ∧ (yp p + 2 < 216 ∨ 555 < yp p)) ∧ ∀ p, p < s.1.length → pIn s.2.1 (p : Int) = true → ∀ w ∈ R' p, w.2 = 0)) := by
  have hw := hoks.1.1
  have htk2 : tk = 0 ∧ s = so ∨ tk = 1 := by
    rcases htk with z | z
    · exact .inl z.2
    · exact .inr z.2
  have htk01 : tk = 0 ∨ tk = 1 := by
    rcases htk2 with z | z
    · exact .inl z.1
    · exact .inr z
  have hs0 : tk = 0 → s = so := fun z => by
    rcases htk2 with y | y
    · exact y.2
    · omega
  obtain ⟨G1, xp, cp, yp, ap, Ri, A0, b1, b2, b3, b4, b5, b6, b7, b8, b9⟩ := k_145 (f := f) (m := m) (tk := tk) (by omega) hs hp hem hmp hrp hq hqo hoks hoko htk hP ho hM hMo
  have z1 : ∀ a j, a < 83 ∨ 203 < a → G1 a j = G a j := fun a j y => b2 a j (by omega) (by omega) (by omega)
  -- rows of INPUTS
  have e0 : ∀ p, p < s.1.length → pIn s.2.1 (p : Int) = true → R0 p = Ri p := fun p hp hi => bg_R0 hoko.1 hoks.1 hst hF hfr htk2 hR0 hp hi (b8 p hp)
  have r0ok : ∀ p, p < s.1.length → pIn s.2.1 (p : Int) = true → (R0 p).Pairwise rwLt ∧ ∀ y ∈ R0 p, y.2 = 0 ∧ ∀ x ∈ y.1, vOk x := fun p hp hi => by
    have key : ∀ {cd : Nat → Prop}, qFt s cd F R0 → (R0 p).Pairwise rwLt ∧ ∀ y ∈ R0 p, y.2 = 0 ∧ ∀ x ∈ y.1, vOk x := fun {cd} h => by
      obtain ⟨a1, _, a2⟩ := h p hp
      refine ⟨a1, fun y hy => ?_⟩
      obtain ⟨_, w2, w3, _⟩ := (a2 y).mp hy
      refine ⟨w2, fun x hx => ?_⟩
      obtain ⟨p', p1, _, w, w4, w5⟩ := (hF.2 _).mp w3
      exact (hMo p' p1).2.2.1 w w4 x (by rw [w5]; exact hx)
    rcases hR0 with ⟨_, h⟩ | ⟨_, h⟩
    · exact key h
    · exact key h
  have riok : ∀ p, p < s.1.length → (Ri p).Pairwise rwLt ∧ ∀ y ∈ Ri p, (∀ x ∈ y.1, vOk x) ∧ 0 ≤ y.2 ∧ y.2 ≤ 1700 := fun p hp => by
    obtain ⟨_, _, _, w1, w2, w3, w4⟩ := b6.2 p hp
    exact ⟨w1, fun y hy => ⟨w3 y hy, w4 y hy⟩⟩
  obtain ⟨Rf, eRf⟩ : ∃ Rf : Nat → List pRw, Rf = fun p : Nat => if pIn s.2.1 (p : Int) = true then R p else Ri p := ⟨_, rfl⟩
  have rf1 : ∀ p : Nat, pIn s.2.1 (p : Int) = true → Rf p = R p := fun p h => by rw [eRf]; exact if_pos h
  have rf2 : ∀ p : Nat, pIn s.2.1 (p : Int) = false → Rf p = Ri p := fun p h => by rw [eRf]; exact if_neg (by rw [h]; decide)
  have hA1 : ∀ j, j < s.1.length → chA1 s j E (Ri j) (Rf j) := fun j hj => by
    cases hi : pIn s.2.1 (j : Int) with
    | true => rw [rf1 j hi, ← e0 j hj hi]; exact chA1_of hR j hj
    | false => rw [rf2 j hi]; exact chA1_no hi (riok j hj).1 E
  have ukr := ukM.r0 hoko.1 hF huk (fun z => hs0 (by rcases htk01 with y | y; exact y; exact absurd (hfr.mpr y) z)) hR0
  have hU : ∀ j, j < s.1.length → kU (qKy s j) (Ri j) := fun j hj hk a ha b hb e => by
    cases hi : pIn s.2.1 (j : Int) with
    | true =>
      rw [← e0 j hj hi] at ha hb
      exact rw_one (r0ok j hj hi).1 ha hb (ukr j hj hi hk a ha b hb e)
    | false => rw [ky_no hi] at hk; omega
  have hRf : ∀ j, j < s.1.length → ∀ y ∈ Rf j, (∀ x ∈ y.1, vOk x) ∧ 0 ≤ y.2 ∧ y.2 ≤ 1700 := fun j hj y hy => by
    cases hi : pIn s.2.1 (j : Int) with
    | true =>
      have := (hA1 j hj).ok hvE (by rw [← e0 j hj hi]; exact (r0ok j hj hi).2) y hy
      exact ⟨this.2, by omega, by omega⟩
    | false => rw [rf2 j hi] at hy; exact (riok j hj).2 y hy
  have pn1 : cPn G1 (243 + 9 * kk) s E := hPn.ge (fun a j y1 y2 => z1 a j (by omega))
  obtain ⟨v, G2, c1, ⟨c2, c2'⟩, c3, c4⟩ := k_146 (f := f) (m := m) (q := q) (nx := A) (yp := yp) (ap := ap) (A := A0) (by omega) hkk hA1 hU hRf (fun j hj hi => rf2 j hi) s.1.length 0 f G1 xp cp Ri 0 (by omega) (by have := hw.1; omega) b6 b7 pn1 (fun j hj => absurd hj (Nat.not_lt_zero j)) (fun j _ _ => rfl) b4 (by decide) (fun j => ⟨fun z => (by rw [Nat.zero_testBit] at z; cases z), fun z => absurd z.1 (Nat.not_lt_zero j)⟩)
  have e146 : c146 f 93 (243 + 9 * kk) (S, G1, m) = some (v, (S, G2, m)) := c1
  have z2 : ∀ a j, a < 83 ∨ 203 < a → G2 a j = G a j := fun a j y => by rw [c2 a j (by omega) (by omega) (by omega) (by omega) (by omega), z1 a j y]
  have ls := lnSt_of hs hkk
  have st := sw_173b (f := f) (m := m) (m1 := m) (x3 := tk) (r := r) (b := v) (T := (S, G2, m)) hs hp hs b3 (s93 hs) (s93 hs) ls.1 b1 (by rw [z1 _ _ (by omega)]; exact h1) (by omega) (fun _ => e146)
  rw [if_pos hr] at st
  -- what a model says of rows of INPUTS
  have mod_in : ∀ {M : Nat → List pRw}, qMod s Rf M ↔ qMod s R M := fun {M} => ⟨fun h => ⟨h.1, fun p hp hi => by rw [h.2.1 p hp hi]; exact rf1 p hi, h.2.2⟩, fun h => ⟨h.1, fun p hp hi => by rw [h.2.1 p hp hi]; exact (rf1 p hi).symm, h.2.2⟩⟩
  obtain ⟨f', ef⟩ : ∃ t, f = t + 1 := ⟨f - 1, by omega⟩
  rcases c4 with ⟨v0, j, j1, j2, j3⟩ | ⟨v1, xp', cp', ch', w0, w1, w2, w3, w4⟩
  · refine ⟨0, G2, ?_, z2, c3, .inl ⟨rfl, fun ⟨M, hMm⟩ => ?_⟩⟩
    · rw [st, if_pos v0]
      have := sw_173z (f := f) (ln := 243 + 9 * kk) (mo := mp) (q := q) (x3 := tk) (x6 := 0) (fu := f') (T := (S, G2, m))
      rw [← ef] at this
      exact this
    · have := (hMm.1 j j1).1
      rw [hMm.2.1 j j1 j2, ← rf1 j j2] at this
      omega
  · rw [if_neg (by omega)] at st
    obtain ⟨O, hO, hOr⟩ := oRd_of w1.1.2.2.2.2.1
    have ah2 : cAh S G2 A s yp ap A0 := b7.ge (fun j => c2 _ _ (by omega) (by omega) (by omega) (by omega) (by omega)) (fun a j y => c2 a j (by omega) (by omega) (by omega) (by omega) (by omega))
    have hB : ¬ fr → qTb s A0 ∧ ∀ p, p < s.1.length → pIn s.2.1 (p : Int) = false → dnR s A0 (qK s p) ∧ Rf p = A0 p := fun hnf => by
      have t0 : tk = 0 := by
        rcases htk01 with y | y
        · exact y
        · exact absurd (hfr.mpr y) hnf
      have es := hs0 t0
      subst es
      have eA : ∀ p, p < s.1.length → A0 p = Mo p ∧ Ri p = Mo p := fun p hp => by
        rcases b8 p hp with ⟨_, y1, y2⟩ | ⟨y, _⟩ | ⟨y, _⟩
        · exact ⟨y1, y2⟩
        · omega
        · omega
      have tA : qTb s A0 := fun p hp => by rw [(eA p hp).1]; exact hst.1.1 p hp
      refine ⟨tA, fun p hp hi => ⟨?_, by rw [rf2 p hi, (eA p hp).1, (eA p hp).2]⟩⟩
      exact dnR_cv hw hst.1.1 tA (fun p' hp' _ => (eA p' hp').1.symm) (fun p' hp' _ _ => by rw [(eA p' hp').1]; rfl) (hst.1.2.2 p hp hi)
    have h14 : G2 93 14 = ((0 : Nat) : Int) := by rw [c2']; exact b5
    obtain ⟨v', G3, d1, d2, d3, d4⟩ := k_173r (f := f) (m := m) (ln := 243 + 9 * kk) (mp := mp) (S := S) (q := q) (nx := A) (yp := yp) (ap := ap) (tk := tk) (fr := fr) (In := Rf) (A := A0) (B := Rf) hf hO htk01 hfr hB O.length 0 f G2 xp' cp' Rf ch' 0 (by omega) (by
      have : O.length ≤ 16 := by
        have := nodup_len O (List.range s.1.length) hO.1 (fun x hx => List.mem_range.mpr (hO.2.1 x hx).1)
        rw [List.length_range] at this
        have := hw.1
        omega
      omega) w1 ah2 hOr w2 w3 h14 (by decide) ⟨fun _ _ _ => rfl, fun p _ _ hm => absurd hm (by rw [List.take_zero]; exact List.not_mem_nil), fun _ _ _ _ => rfl, fun j => by
        rw [w4 j, List.take_zero]
        exact ⟨fun z => ⟨z.1, .inl z.2.1, z.2.2⟩, fun z => ⟨z.1, z.2.1.resolve_right List.not_mem_nil, z.2.2⟩⟩, fun j => by
        rw [Nat.zero_testBit, List.take_zero]
        exact ⟨fun z => (by cases z), fun z => absurd z.2.2.1 List.not_mem_nil⟩⟩
    have z3 : ∀ a j, a < 83 ∨ 203 < a → G3 a j = G a j := fun a j y => by rw [d2 a j (by omega) (by omega) (by omega) (by omega) (by omega), z2 a j y]
    refine ⟨v', G3, st.trans d1, z3, d3, ?_⟩
    rcases d4 with ⟨y1, y2⟩ | ⟨y1, xp3, cp3, R3, ch3, wk3, y0, y2, y3, y4, y5, y6, y7⟩
    · exact .inl ⟨y1, fun ⟨M, hMm⟩ => y2 ⟨M, mod_in.mpr hMm⟩⟩
    · have tb3 : qTb s R3 := fun p hp => by
        obtain ⟨_, _, q3, q4, q5, q6, _⟩ := y2.2 p hp
        refine ⟨q5, q4, fun w hw => ⟨?_, q6 w hw⟩⟩
        obtain ⟨i, hi, e⟩ := List.getElem_of_mem hw
        have := (q3.2.2.2.2.2.2.2 i hi).1
        rw [getD_e hi, e] at this
        exact this
      refine .inr ⟨y1, xp3, cp3, yp, ap, R3, A0, ch3, wk3, y2, ah2.ge (fun j => d2 _ _ (by omega) (by omega) (by omega) (by omega) (by omega)) (fun a j y => d2 a j (by omega) (by omega) (by omega) (by omega) (by omega)), bg_ah hs0 b8, fun t0 p hp => ?_, y3, y4, y5, y6, mod_in.mp (rgI.done hw hO y7 tb3), ch_iff hw hO y7, fun j hj => ((y7.2.2.2.1 j).mp hj).1, fun j => wk_iff hw hO y7 tb3 (fun hnf => ⟨(hB hnf).1, fun p hp hi => ((hB hnf).2 p hp hi).1⟩) j, fun p hp => ⟨fun h203 => ?_, ?_⟩, fun p hp hi w hw => ?_⟩
      · rcases b8 p hp with ⟨_, q1, q2⟩ | ⟨q, _⟩ | ⟨q, _⟩
        · exact q1
        · omega
        · omega
      · have hnp := hw.1
        rcases (w0.tr y0) p hp with z | z
        · rw [z]
          rcases (b9 p hp).1 with ⟨r, r1, r2⟩ | q
          · rw [r2]; exact hxr r r1
          · exact .inl q
        · rw [z] at h203; omega
      · rcases (b9 p hp).2 with ⟨r, r1, r2⟩ | q
        · rw [r2]; exact hxr r r1
        · exact .inl q
      · have e1 : R3 p = Rf p := y7.1 p hp hi
        rw [e1] at hw
        exact ((hA1 p hp).ok hvE (by rw [← e0 p hp hi]; exact (r0ok p hp hi).2) w hw).1
end
