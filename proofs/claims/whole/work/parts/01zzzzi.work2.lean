/-! workAll of the reference: from its start -/
section
variable {f q c : Nat} {s : pPg} {In : Nat → List pRw}
/-- rows of INPUTS -/
def qIn (s : pPg) (In : Nat → List pRw) : Prop := ∀ p, p < s.1.length → pIn s.2.1 (p : Int) = true → (In p).Pairwise rwLt ∧ ∀ w ∈ In p, w.1.length = qN s p ∧ ∀ x ∈ w.1, vOk x
theorem l_290_4 (hok : qOk s) : ∀ (d p fu dn : Nat) (G : xG_) (R : Nat → List pRw), p + d = s.1.length → d < fu → dn < 65536 → (∀ y, dn.testBit y = true ↔ y < p ∧ pIn s.2.1 (y : Int) = true) → rEn G q c s R → (∀ y, y < s.1.length → pIn s.2.1 (y : Int) = true → R y = In y) → (∀ y, y < p → pIn s.2.1 (y : Int) = false → R y = []) → (∀ y, y < p → pIn s.2.1 (y : Int) = true → (In y).length ≤ 100) →
    ∃ G', (∀ o j, o ≠ 108 → G' o j = G o j) ∧ ((g290_4 f fu (dn : Int) (p : Int) G = some (0, G') ∧ ∃ y, y < s.1.length ∧ pIn s.2.1 (y : Int) = true ∧ 100 < (In y).length) ∨ ∃ dn' R', g290_4 f fu (dn : Int) (p : Int) G = g290_64 f f ((dn' : Nat) : Int) 1 G' ∧ dn' < 65536 ∧ (∀ y, dn'.testBit y = true ↔ y < s.1.length ∧ pIn s.2.1 (y : Int) = true) ∧ rEn G' q c s R' ∧ (∀ y, y < s.1.length → pIn s.2.1 (y : Int) = true → R' y = In y ∧ (In y).length ≤ 100) ∧ ∀ y, y < s.1.length → pIn s.2.1 (y : Int) = false → R' y = []) := by
  have hnp : s.1.length ≤ 16 := hok.1.1
  intro d
  induction d with
  | zero =>
    intro p fu dn G R h1 h2 h3 hd hE hi hn hl
    obtain ⟨fu, rfl⟩ : ∃ t, fu = t + 1 := ⟨fu - 1, by omega⟩
    have h8 : G 2 8 = (s.1.length : Int) := hE.1.1.1
    have ep : p = s.1.length := by omega
    subst ep
    refine ⟨G, fun _ _ _ => rfl, .inr ⟨dn, R, ?_, h3, hd, hE, fun y hy hb => ⟨hi y hy hb, hl y hy hb⟩, hn⟩⟩
    show g290_4b (g290_4 f fu) f _ _ _ = _
    unfold g290_4b
    rw [h8, if_pos (by omega)]
  | succ d ih =>
    intro p fu dn G R h1 h2 h3 hd hE hi hn hl
    obtain ⟨fu, rfl⟩ : ∃ t, fu = t + 1 := ⟨fu - 1, by omega⟩
    have h8 : G 2 8 = (s.1.length : Int) := hE.1.1.1
    have hp : p < s.1.length := by omega
    have e5 : xwr ((p : Int) + 1) = ((p + 1 : Nat) : Int) := by rw [xwr_g _ (by omega) (by omega)]; omega
    have hpp : 0 ≤ (p : Int) ∧ (p : Int) < 16 := by omega
    have hin : G 8 p = b01 (pIn s.2.1 (p : Int)) := (hE.1.2.2.2.1 p (by omega)).1
    cases hb : pIn s.2.1 (p : Int) with
    | true =>
      have hin' : G 8 p = 1 := by rw [hin, hb]; rfl
      have h108 : G 108 p = ((In p).length : Int) := by rw [← hi p hp hb]; exact (hE.2.2.2 p hp).1.1
      have step : g290_4 f (fu + 1) (dn : Int) (p : Int) G = if ((In p).length : Int) ≤ 100 then g290_4 f fu ((dn ||| 2 ^ p : Nat) : Int) ((p + 1 : Nat) : Int) G else some (0, G) := by
        show g290_4b (g290_4 f fu) f _ _ _ = _
        unfold g290_4b g290_43
        rw [h8, if_neg (by omega)]
        simp only [Nat.reduceAdd, Int.toNat_natCast, if_pos hpp, hin', h108, e5]
        rw [if_neg (by decide), xorb (by omega) (by omega)]
      by_cases cl : (In p).length ≤ 100
      · rw [if_pos (by omega)] at step
        rw [step]
        exact ih (p + 1) fu (dn ||| 2 ^ p) G R (by omega) (by omega) (or_l16 h3 (p2_l16 (by omega))) (fun y => by
          rw [or_bit, Bool.or_eq_true, hd y, decide_eq_true_eq]
          constructor
          · rintro (q | q)
            · exact ⟨by omega, q.2⟩
            · rw [← q]; exact ⟨by omega, hb⟩
          · rintro ⟨q1, q2⟩
            by_cases cy : y = p
            · exact .inr cy.symm
            · exact .inl ⟨by omega, q2⟩) hE hi (fun y hy hby => by
          by_cases cy : y = p
          · rw [cy, hb] at hby; cases hby
          · exact hn y (by omega) hby) (fun y hy hby => by
          by_cases cy : y = p
          · rw [cy]; exact cl
          · exact hl y (by omega) hby)
      · rw [if_neg (by omega)] at step
        exact ⟨G, fun _ _ _ => rfl, .inl ⟨step, p, hp, hb, by omega⟩⟩
    | false =>
      have hin' : G 8 p = 0 := by rw [hin, hb]; rfl
      have step : g290_4 f (fu + 1) (dn : Int) (p : Int) G = g290_4 f fu (dn : Int) ((p + 1 : Nat) : Int) (xup2 G 108 p 0) := by
        show g290_4b (g290_4 f fu) f _ _ _ = _
        unfold g290_4b g290_43
        rw [h8, if_neg (by omega)]
        simp only [Nat.reduceAdd, Int.toNat_natCast, if_pos hpp, hin', e5, Option.bind_some, if_true, xup2_s]
        rw [if_pos (by decide)]
      let R1 : Nat → List pRw := fun y => if y = p then [] else R y
      have r1 : R1 p = [] := if_pos rfl
      have r2 : ∀ y, y ≠ p → R1 y = R y := fun y h => if_neg h
      have hE1 : rEn (xup2 G 108 p 0) q c s R1 := by
        obtain ⟨a1, a2, a3, a4⟩ := hE
        refine ⟨a1.ge (fun j => xup2_n (by omega)) (fun a j _ _ _ _ _ => xup2_n (by omega)), fun y hy => by rw [xup2_n (by omega)]; exact a2 y hy, ⟨fun y hy => by rw [xup2_n (by omega)]; exact a3.1 y hy, fun y hy => by rw [xup2_n (by omega)]; exact a3.2 y hy⟩, fun y hy => ?_⟩
        by_cases cy : y = p
        · rw [cy, r1]
          exact ⟨⟨xup2_s _ _ _ _, by decide, fun i hi => absurd hi (Nat.not_lt_zero _)⟩, (a4 p hp).2⟩
        · rw [r2 y cy]
          obtain ⟨⟨b1, b2, b3⟩, b4⟩ := a4 y hy
          refine ⟨⟨by rw [xup2_n (by omega)]; exact b1, b2, fun i hi => ?_⟩, b4⟩
          obtain ⟨c1, c2, c3⟩ := b3 i hi
          exact ⟨c1, fun j hj => by rw [xup2_n (by omega)]; exact c2 j hj, by rw [xup2_n (by omega)]; exact c3⟩
      obtain ⟨G', k1, k2⟩ := ih (p + 1) fu dn (xup2 G 108 p 0) R1 (by omega) (by omega) h3 (fun y => by
          rw [hd y]
          constructor
          · exact fun q => ⟨by omega, q.2⟩
          · rintro ⟨q1, q2⟩
            by_cases cy : y = p
            · rw [cy, hb] at q2; cases q2
            · exact ⟨by omega, q2⟩) hE1 (fun y hy hby => by
          by_cases cy : y = p
          · rw [cy, hb] at hby; cases hby
          · rw [r2 y cy]; exact hi y hy hby) (fun y hy hby => by
          by_cases cy : y = p
          · rw [cy]; exact r1
          · rw [r2 y cy]; exact hn y (by omega) hby) (fun y hy hby => by
          by_cases cy : y = p
          · rw [cy, hb] at hby; cases hby
          · exact hl y (by omega) hby)
      refine ⟨G', fun o j y => by rw [k1 o j y, xup2_n (fun q => y q.1)], ?_⟩
      rw [step]
      exact k2
/-- workAll -/
theorem l_290 {G : xG_} {R : Nat → List pRw} (hf : 1000100 < f) (hok : qOk s) (hnh : wNh s) (hE : rEn G q c s R) (hi : ∀ y, y < s.1.length → pIn s.2.1 (y : Int) = true → R y = In y) (hIn : qIn s In) :
    ∃ G' b, g290 f G = some (b, G') ∧ xWk G G' ∧ ((b = 1 ∧ ∃ M, rEn G' q c s M ∧ qMod s In M) ∨ (b = 0 ∧ ¬ ∃ M, qMod s In M)) := by
  have hnp : s.1.length ≤ 16 := hok.1.1
  have hw := hok.1
  obtain ⟨G1, k1, k2⟩ := l_290_4 (f := f) (In := In) hok s.1.length 0 f 0 G R (by omega) (by omega) (by decide) (fun y => by rw [Nat.zero_testBit]; exact ⟨fun h => (by cases h), fun h => (by omega)⟩) hE hi (fun y hy => by omega) (fun y hy => by omega)
  have fr : xWk G G1 := fun o j y1 y2 => k1 o j (by omega)
  rcases k2 with ⟨k2, y, y1, y2, y3⟩ | ⟨dn, R', k2, k3, k4, k5, k6, k7⟩
  · refine ⟨G1, 0, ?_, fr, .inr ⟨rfl, fun ⟨M, m1, m2, _⟩ => ?_⟩⟩
    · unfold g290
      exact k2
    · have := (m1 y y1).1
      rw [m2 y y1 y2] at this
      omega
  · have ik : ∀ p, p < s.1.length → pIn s.2.1 (p : Int) = true → qK s p = p := fun p hp hb => inp_k hnh hp (qK_lt hp) hb (qK_id hw hp)
    have hI : wkI s In dn R' := by
      refine ⟨fun p hp => ?_, fun p hp hb => ⟨(k6 p hp hb).1, (k4 p).mpr ⟨hp, hb⟩⟩, fun p hp hb => k7 p hp ?_, fun p hp hb hd => ?_, fun p hp => ?_, fun p hp hd y hy => ?_⟩
      · cases hb : pIn s.2.1 (p : Int) with
        | true =>
          obtain ⟨a1, a2⟩ := k6 p hp hb
          rw [a1]
          exact ⟨a2, hIn p hp hb⟩
        | false =>
          rw [k7 p hp hb]
          exact ⟨by decide, List.Pairwise.nil, fun w hw => absurd hw (by simp)⟩
      · cases hi : pIn s.2.1 (p : Int) with
        | false => rfl
        | true => rw [(k4 p).mpr ⟨hp, hi⟩] at hb; cases hb
      · rw [((k4 p).mp hd).2] at hb; cases hb
      · rw [k4 p, k4 (qK s p)]
        constructor
        · rintro ⟨_, a⟩
          rw [ik p hp a]
          exact ⟨hp, a⟩
        · rintro ⟨a1, a2⟩
          have := inp_k hnh a1 hp a2 (qK_id hw hp).symm
          rw [this]
          exact ⟨a1, a2⟩
      · exfalso
        have hb := ((k4 p).mp hd).2
        rw [ik p hp hb] at hy
        obtain ⟨p', q1, q2, q3⟩ := (rgR_rd hw).mp hy
        have : p' = p := inp_k hnh hp q1 hb (by rw [q2, ik p hp hb])
        rw [this, inp_rd hnh hb, Nat.zero_testBit] at q3
        cases q3
    obtain ⟨G2, b, u1, u2, u3⟩ := l_290_64 (f := f) (In := In) hf hok 100 f dn G1 R' (by
      have := List.countP_le_length (p := fun p => !(dn.testBit p)) (l := List.range s.1.length)
      rw [List.length_range] at this
      omega) (by omega) k3 (fun y hy => ((k4 y).mp hy).1) k5 hI
    refine ⟨G2, b, ?_, fun o j y1 y2 => by rw [u2 o j y1 y2, fr o j y1 y2], u3⟩
    unfold g290
    have k2' : g290_4 f f 0 0 G = _ := k2
    rw [k2']
    exact u1
end
