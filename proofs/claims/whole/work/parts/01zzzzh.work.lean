/-! workAll of the reference -/
section
variable {f q c : Nat} {s : pPg} {R : Nat → List pRw}
theorem or_l16 {a b : Nat} (ha : a < 65536) (hb : b < 65536) : a ||| b < 65536 := Nat.or_lt_two_pow (n := 16) ha hb
theorem p2_l16 {p : Nat} (h : p < 16) : 2 ^ p < 65536 := by
  have : 2 ^ p < 2 ^ 16 := Nat.pow_lt_pow_right (by decide : 1 < 2) h
  exact this
/-- readsOf -/
theorem l_292 {G : xG_} {r : Nat} (hf : 20 < f) (hok : qOk s) (hE : rEn G q c s R) : ∃ w : Nat, g292 f (r : Int) G = some ((w : Int), G) ∧ w < 65536 ∧ ∀ y, w.testBit y = true ↔ rgR s r y ∧ qK s y ≠ r := by
  have hnp : s.1.length ≤ 16 := hok.1.1
  have h8 : G 2 8 = (s.1.length : Int) := hE.1.1.1
  have h6 : ∀ p, p < s.1.length → G 6 p = (qRd s.2.2.2.2.1 p : Int) := hE.2.2.1.1
  have h7 : ∀ p, p < s.1.length → G 7 p = (qK s p : Int) := hE.2.2.1.2
  have hrd : ∀ p, qRd s.2.2.2.2.1 p < 65536 := qRd_lt (wRq_of hok.1.2.2.2.2.2.2) hnp
  have loop : ∀ (d p fu a b : Nat), p + d = s.1.length → d < fu → a < 65536 → b < 65536 → (∀ y, a.testBit y = true ↔ ∃ p', p' < p ∧ qK s p' = r ∧ (qRd s.2.2.2.2.1 p').testBit y = true) → (∀ y, b.testBit y = true ↔ y < p ∧ qK s y = r) → ∃ w : Nat, g292_7 f fu (r : Int) (a : Int) (b : Int) (p : Int) G = some ((w : Int), G) ∧ w < 65536 ∧ ∀ y, w.testBit y = true ↔ rgR s r y ∧ qK s y ≠ r := by
    intro d
    induction d with
    | zero =>
      intro p fu a b h1 h2 ha hb hA hB
      obtain ⟨fu, rfl⟩ : ∃ t, fu = t + 1 := ⟨fu - 1, by omega⟩
      obtain ⟨w, w1, w2, w3⟩ := xandn ha hb
      have ep : p = s.1.length := by omega
      refine ⟨w, ?_, w1, fun y => ?_⟩
      · show g292_7b (g292_7 f fu) f _ _ _ _ _ = _
        unfold g292_7b
        rw [h8, if_pos (by omega), w2]
      · rw [w3 y, rgR_rd hok.1]
        have hb0 : b.testBit y = false ↔ ¬ (y < p ∧ qK s y = r) := by
          rw [← hB y]
          cases b.testBit y <;> simp
        rw [hb0, hA y]
        constructor
        · rintro ⟨⟨p', q1, q2, q3⟩, q4⟩
          have := rdB hok.1 q3
          exact ⟨⟨p', by omega, q2, q3⟩, fun e => q4 ⟨by omega, e⟩⟩
        · rintro ⟨⟨p', q1, q2, q3⟩, q4⟩
          exact ⟨⟨p', by omega, q2, q3⟩, fun e => q4 e.2⟩
    | succ d ih =>
      intro p fu a b h1 h2 ha hb hA hB
      obtain ⟨fu, rfl⟩ : ∃ t, fu = t + 1 := ⟨fu - 1, by omega⟩
      have hp : p < s.1.length := by omega
      have e5 : xwr ((p : Int) + 1) = ((p + 1 : Nat) : Int) := by rw [xwr_g _ (by omega) (by omega)]; omega
      have hpp : 0 ≤ (p : Int) ∧ (p : Int) < 16 := by omega
      have hr1 := hrd p
      have step : g292_7 f (fu + 1) (r : Int) (a : Int) (b : Int) (p : Int) G = if (qK s p : Int) = (r : Int) then g292_7 f fu (r : Int) ((a ||| qRd s.2.2.2.2.1 p : Nat) : Int) ((b ||| 2 ^ p : Nat) : Int) ((p + 1 : Nat) : Int) G else g292_7 f fu (r : Int) (a : Int) (b : Int) ((p + 1 : Nat) : Int) G := by
        show g292_7b (g292_7 f fu) f _ _ _ _ _ = _
        unfold g292_7b g292_56
        rw [h8, if_neg (by omega)]
        simp only [Nat.reduceAdd, Int.toNat_natCast, if_pos hpp]
        rw [h7 p hp, h6 p hp, e5, xor_nat (by omega) (by omega), xorb (by omega) (by omega)]
      rw [step]
      by_cases ck : qK s p = r
      · rw [if_pos (by rw [ck])]
        refine ih (p + 1) fu _ _ (by omega) (by omega) (or_l16 ha hr1) (or_l16 hb (p2_l16 (by omega))) (fun y => ?_) (fun y => ?_)
        · rw [Nat.testBit_or, Bool.or_eq_true, hA y]
          constructor
          · rintro (⟨p', q1, q2⟩ | q)
            · exact ⟨p', by omega, q2⟩
            · exact ⟨p, by omega, ck, q⟩
          · rintro ⟨p', q1, q2, q3⟩
            by_cases cp : p' = p
            · rw [cp] at q3; exact .inr q3
            · exact .inl ⟨p', by omega, q2, q3⟩
        · rw [or_bit, Bool.or_eq_true, hB y, decide_eq_true_eq]
          constructor
          · rintro (q | q)
            · exact ⟨by omega, q.2⟩
            · rw [← q]; exact ⟨by omega, ck⟩
          · rintro ⟨q1, q2⟩
            by_cases cp : y = p
            · exact .inr cp.symm
            · exact .inl ⟨by omega, q2⟩
      · rw [if_neg (by omega)]
        refine ih (p + 1) fu a b (by omega) (by omega) ha hb (fun y => ?_) (fun y => ?_)
        · rw [hA y]
          constructor
          · rintro ⟨p', q1, q2⟩
            exact ⟨p', by omega, q2⟩
          · rintro ⟨p', q1, q2, q3⟩
            by_cases cp : p' = p
            · rw [cp] at q2; exact absurd q2 ck
            · exact ⟨p', by omega, q2, q3⟩
        · rw [hB y]
          constructor
          · exact fun q => ⟨by omega, q.2⟩
          · rintro ⟨q1, q2⟩
            by_cases cp : y = p
            · rw [cp] at q2; exact absurd q2 ck
            · exact ⟨by omega, q2⟩
  unfold g292
  obtain ⟨w, w1, w2⟩ := loop s.1.length 0 f 0 0 (by omega) (by omega) (by decide) (by decide) (fun y => by rw [Nat.zero_testBit]; exact ⟨fun h => (by cases h), fun ⟨p', h, _⟩ => (by omega)⟩) (fun y => by rw [Nat.zero_testBit]; exact ⟨fun h => (by cases h), fun h => (by omega)⟩)
  exact ⟨w, w1, w2⟩
/-- nextRing -/
theorem l_291 {G : xG_} {dn : Nat} (hf : 40 < f) (hok : qOk s) (hE : rEn G q c s R) (hd : dn < 65536) (hr : ∃ r, wkN s dn r) : ∃ r, wkN s dn r ∧ g291 f (dn : Int) G = some ((r : Int), G) := by
  have hnp : s.1.length ≤ 16 := hok.1.1
  have h7 : ∀ p, p < s.1.length → G 7 p = (qK s p : Int) := hE.2.2.1.2
  obtain ⟨r0, hr0⟩ := hr
  have loop : ∀ (d r fu : Nat), r + d = r0 → d < fu → ∃ r, wkN s dn r ∧ g291_2 f fu (dn : Int) ((r0 - d : Nat) : Int) G = some ((r : Int), G) := by
    intro d
    induction d with
    | zero =>
      intro r fu h1 h2
      obtain ⟨fu, rfl⟩ : ∃ t, fu = t + 1 := ⟨fu - 1, by omega⟩
      obtain ⟨r1, r2, r3, r4⟩ := hr0
      obtain ⟨w, w1, w2, w3⟩ := l_292 (f := f) (r := r0) (by omega) hok hE
      refine ⟨r0, ⟨r1, r2, r3, r4⟩, ?_⟩
      obtain ⟨v, v1, v2, v3⟩ := xandn w2 hd
      have v0 : v = 0 := by
        refine Nat.eq_of_testBit_eq (fun j => ?_)
        rw [Nat.zero_testBit]
        cases hb : v.testBit j with
        | false => rfl
        | true =>
          obtain ⟨b1, b2⟩ := (v3 j).mp hb
          obtain ⟨b3, b4⟩ := (w3 j).mp b1
          rcases r4 j b3 with q | q
          · rw [q] at b2; cases b2
          · exact absurd q b4
      have n1 : ¬ ¬ (qK s r0 : Int) = (r0 : Int) := fun q => q (by rw [r2])
      have n2 : ¬ xand (xshr (dn : Int) (r0 : Int)) 1 = 1 := fun q => by
        have := (xbit (by omega) (by omega)).mp q
        rw [r3] at this
        cases this
      rw [Nat.sub_zero]
      show g291_2b (g291_2 f fu) f _ _ _ = _
      unfold g291_2b
      rw [if_pos (by omega)]
      simp only [Nat.reduceAdd, Int.toNat_natCast]
      simp only [h7 r0 r1]
      rw [if_neg n1, if_neg n2, w1, Option.bind_some]
      show (if xand (w : Int) (xxor (dn : Int) (-1)) = 0 then _ else _) = _
      rw [v2, v0, if_pos (show ((0 : Nat) : Int) = 0 from rfl)]
    | succ d ih =>
      intro r fu h1 h2
      obtain ⟨fu, rfl⟩ : ∃ t, fu = t + 1 := ⟨fu - 1, by omega⟩
      have hr0l := hr0.1
      have ek : r0 - (d + 1) = r := by omega
      have e5 : xwr ((r : Int) + 1) = ((r + 1 : Nat) : Int) := by rw [xwr_g _ (by omega) (by omega)]; omega
      have hrl : r < s.1.length := by omega
      obtain ⟨w, w1, w2, w3⟩ := l_292 (f := f) (r := r) (by omega) hok hE
      obtain ⟨v, v1, v2, v3⟩ := xandn w2 hd
      have ihh := ih (r + 1) fu (by omega) (by omega)
      rw [show r0 - d = r + 1 by omega] at ihh
      have step : g291_2 f (fu + 1) (dn : Int) (r : Int) G = if ¬ (qK s r : Int) = (r : Int) then g291_2 f fu (dn : Int) ((r + 1 : Nat) : Int) G else if xand (xshr (dn : Int) (r : Int)) 1 = 1 then g291_2 f fu (dn : Int) ((r + 1 : Nat) : Int) G else if (v : Int) = 0 then some ((r : Int), G) else g291_2 f fu (dn : Int) ((r + 1 : Nat) : Int) G := by
        show g291_2b (g291_2 f fu) f _ _ _ = _
        unfold g291_2b g291_36
        rw [if_pos (by omega)]
        simp only [Nat.reduceAdd, Int.toNat_natCast]
        simp only [h7 r hrl, w1, Option.bind_some, e5, v2]
      rw [ek, step]
      by_cases c1 : qK s r = r
      · have n1 : ¬ ¬ (qK s r : Int) = (r : Int) := fun q => q (by rw [c1])
        rw [if_neg n1]
        by_cases c2 : dn.testBit r = true
        · rw [if_pos ((xbit (by omega) (by omega)).mpr c2)]
          exact ihh
        · rw [if_neg (fun q => c2 ((xbit (by omega) (by omega)).mp q))]
          by_cases c3 : v = 0
          · rw [if_pos (by omega)]
            refine ⟨r, ⟨hrl, c1, ?_, fun y hy => ?_⟩, rfl⟩
            · cases h : dn.testBit r with
              | false => rfl
              | true => exact absurd h c2
            · by_cases cy : qK s y = r
              · exact .inr cy
              · refine .inl ?_
                cases h : dn.testBit y with
                | true => rfl
                | false =>
                  have := (v3 y).mpr ⟨(w3 y).mpr ⟨hy, cy⟩, h⟩
                  rw [c3, Nat.zero_testBit] at this
                  cases this
          · rw [if_neg (by omega)]
            exact ihh
      · have n1 : ¬ (qK s r : Int) = (r : Int) := by omega
        rw [if_pos n1]
        exact ihh
  obtain ⟨r, r1, r2⟩ := loop r0 0 f (by omega) (by have := hr0.1; omega)
  refine ⟨r, r1, ?_⟩
  rw [Nat.sub_self] at r2
  exact r2
theorem l_290_98 {G : xG_} {r : Nat} {x2 : Int} {r64 : Int → Int → xG_ → Option (Int × xG_)} (hok : qOk s) (hE : rEn G q c s R) : ∀ (d p fu dn : Nat), p + d = s.1.length → d < fu → dn < 65536 → ∃ dn' : Nat, g290_98 r64 f fu (dn : Int) x2 (r : Int) (p : Int) G = r64 (dn' : Int) x2 G ∧ dn' < 65536 ∧ ∀ y, dn'.testBit y = true ↔ dn.testBit y = true ∨ (p ≤ y ∧ y < s.1.length ∧ qK s y = r) := by
  have hnp : s.1.length ≤ 16 := hok.1.1
  have h8 : G 2 8 = (s.1.length : Int) := hE.1.1.1
  have h7 : ∀ p, p < s.1.length → G 7 p = (qK s p : Int) := hE.2.2.1.2
  intro d
  induction d with
  | zero =>
    intro p fu dn h1 h2 h3
    obtain ⟨fu, rfl⟩ : ∃ t, fu = t + 1 := ⟨fu - 1, by omega⟩
    refine ⟨dn, ?_, h3, fun y => ⟨.inl, fun h => h.elim id (fun h => by omega)⟩⟩
    show g290_98b r64 (g290_98 r64 f fu) f _ _ _ _ _ = _
    unfold g290_98b
    rw [h8, if_pos (by omega)]
  | succ d ih =>
    intro p fu dn h1 h2 h3
    obtain ⟨fu, rfl⟩ : ∃ t, fu = t + 1 := ⟨fu - 1, by omega⟩
    have hp : p < s.1.length := by omega
    have e5 : xwr ((p : Int) + 1) = ((p + 1 : Nat) : Int) := by rw [xwr_g _ (by omega) (by omega)]; omega
    have step : g290_98 r64 f (fu + 1) (dn : Int) x2 (r : Int) (p : Int) G = if ¬ (qK s p : Int) = (r : Int) then g290_98 r64 f fu (dn : Int) x2 (r : Int) ((p + 1 : Nat) : Int) G else g290_98 r64 f fu ((dn ||| 2 ^ p : Nat) : Int) x2 (r : Int) ((p + 1 : Nat) : Int) G := by
      show g290_98b r64 (g290_98 r64 f fu) f _ _ _ _ _ = _
      unfold g290_98b g290_131
      rw [h8, if_neg (by omega), if_pos (by omega)]
      simp only [Nat.reduceAdd, Int.toNat_natCast]
      simp only [h7 p hp, e5]
      rw [xorb (by omega) (by omega)]
    rw [step]
    by_cases ck : qK s p = r
    · have n1 : ¬ ¬ (qK s p : Int) = (r : Int) := fun q => q (by rw [ck])
      rw [if_neg n1]
      obtain ⟨dn', k1, k2, k3⟩ := ih (p + 1) fu (dn ||| 2 ^ p) (by omega) (by omega) (or_l16 h3 (p2_l16 (by omega)))
      refine ⟨dn', k1, k2, fun y => ?_⟩
      rw [k3 y, or_bit, Bool.or_eq_true, decide_eq_true_eq]
      constructor
      · rintro ((q | q) | q)
        · exact .inl q
        · rw [← q]; exact .inr ⟨Nat.le_refl _, hp, ck⟩
        · exact .inr ⟨by omega, q.2⟩
      · rintro (q | ⟨q1, q2⟩)
        · exact .inl (.inl q)
        · by_cases cy : y = p
          · exact .inl (.inr cy.symm)
          · exact .inr ⟨by omega, q2⟩
    · have n1 : ¬ (qK s p : Int) = (r : Int) := by omega
      rw [if_pos n1]
      obtain ⟨dn', k1, k2, k3⟩ := ih (p + 1) fu dn (by omega) (by omega) h3
      refine ⟨dn', k1, k2, fun y => ?_⟩
      rw [k3 y]
      constructor
      · rintro (q | q)
        · exact .inl q
        · exact .inr ⟨by omega, q.2⟩
      · rintro (q | ⟨q1, q2, q3⟩)
        · exact .inl q
        · by_cases cy : y = p
          · rw [cy] at q3; exact absurd q3 ck
          · exact .inr ⟨by omega, q2, q3⟩
def xWk (G G' : xG_) : Prop := ∀ o j, ¬ (o = 0 ∧ (37 ≤ j ∧ j ≤ 40 ∨ 42 ≤ j ∧ j ≤ 61)) → ¬ (107 ≤ o ∧ o ≤ 121 ∧ o ≠ 118) → G' o j = G o j
theorem full_is {dn np : Nat} (hnp : np ≤ 16) (h : ∀ y, dn.testBit y = true → y < np) : (dn : Int) = xwr (xshl 1 (np : Int) - 1) ↔ ∀ p, p < np → dn.testBit p = true := by
  have h2 : 2 ^ np ≤ 2 ^ 16 := Nat.pow_le_pow_right (by decide) hnp
  have h1 := Nat.two_pow_pos np
  rw [xshl_nat (by omega), xwr_g _ (by omega) (by omega)]
  have e : (dn : Int) = ((2 ^ np : Nat) : Int) - 1 ↔ dn = 2 ^ np - 1 := by omega
  rw [e]
  constructor
  · intro h3 p hp
    rw [h3, Nat.testBit_two_pow_sub_one]
    exact decide_eq_true hp
  · intro h3
    refine Nat.eq_of_testBit_eq (fun j => ?_)
    rw [Nat.testBit_two_pow_sub_one]
    by_cases c : j < np
    · rw [h3 j c, decide_eq_true c]
    · rw [decide_eq_false c]
      cases hb : dn.testBit j with
      | false => rfl
      | true => exact absurd (h j hb) c
theorem l_290_64 {In : Nat → List pRw} (hf : 1000100 < f) (hok : qOk s) : ∀ (d fu dn : Nat) (G : xG_) (R : Nat → List pRw), (List.range s.1.length).countP (fun p => !(dn.testBit p)) ≤ d → d + 1 < fu → dn < 65536 → (∀ y, dn.testBit y = true → y < s.1.length) → rEn G q c s R → wkI s In dn R → ∃ G' b, g290_64 f fu (dn : Int) 1 G = some (b, G') ∧ xWk G G' ∧ ((b = 1 ∧ ∃ M, rEn G' q c s M ∧ qMod s In M) ∨ (b = 0 ∧ ¬ ∃ M, qMod s In M)) := by
  have hnp : s.1.length ≤ 16 := hok.1.1
  have hw := hok.1
  intro d
  induction d using Nat.strongRecOn with
  | _ d ih =>
    intro fu dn G R h1 h2 h3 h4 hE hI
    obtain ⟨fu, rfl⟩ : ∃ t, fu = t + 1 := ⟨fu - 1, by omega⟩
    have h8 : G 2 8 = (s.1.length : Int) := hE.1.1.1
    by_cases call : ∀ p, p < s.1.length → dn.testBit p = true
    · refine ⟨G, 1, ?_, fun _ _ _ _ => rfl, .inl ⟨rfl, R, hE, hI.done call⟩⟩
      show g290_64b (g290_64 f fu) f _ _ _ = _
      unfold g290_64b g290_140
      rw [if_neg (by decide), h8, if_pos ((full_is hnp h4).mpr call)]
      rfl
    · have hu : ∃ p, p < s.1.length ∧ dn.testBit p = false := by
        refine Classical.byContradiction (fun q => call (fun p hp => ?_))
        cases h : dn.testBit p with
        | true => rfl
        | false => exact absurd ⟨p, hp, h⟩ q
      obtain ⟨r, hr, e1⟩ := l_291 (f := f) (by omega) hok hE h3 (hI.some hw hu)
      obtain ⟨G1, b, k1, k2, k3⟩ := l_293 (f := f) (rg := r) hf hok hE hI.1
      have step : g290_64 f (fu + 1) (dn : Int) 1 G = g290_98 (g290_64 f fu) f f (dn : Int) b (r : Int) 0 G1 := by
        show g290_64b (g290_64 f fu) f _ _ _ = _
        unfold g290_64b
        rw [if_neg (by decide), h8, if_neg (fun q => call ((full_is hnp h4).mp q)), e1, Option.bind_some]
        show Option.bind (g293 f (r : Int) G) _ = _
        rw [k1, Option.bind_some]
      rcases k3 with ⟨b1, R', c1, c2, c3⟩ | ⟨b1, c1⟩
      · obtain ⟨dn', s1, s2, s3⟩ := l_290_98 (f := f) (r := r) (x2 := b) (r64 := g290_64 f fu) hok c1 s.1.length 0 f dn (by omega) (by omega) h3
        have s1' : g290_98 (g290_64 f fu) f f (dn : Int) b (r : Int) 0 G1 = _ := s1
        have hd' : ∀ p, p < s.1.length → (dn'.testBit p = true ↔ dn.testBit p = true ∨ qK s p = r) := fun p hp => by
          rw [s3 p]
          constructor
          · rintro (q | q)
            · exact .inl q
            · exact .inr q.2.2
          · rintro (q | q)
            · exact .inl q
            · exact .inr ⟨Nat.zero_le _, hp, q⟩
        have hlt : (List.range s.1.length).countP (fun p => !(dn'.testBit p)) < (List.range s.1.length).countP (fun p => !(dn.testBit p)) := by
          refine countP_lt _ (fun p hp h => ?_) ⟨r, List.mem_range.mpr hr.1, by rw [hr.2.2.1]; rfl, ?_⟩
          · cases hb : dn.testBit p with
            | false => rfl
            | true =>
              rw [(hd' p (List.mem_range.mp hp)).mpr (.inl hb)] at h
              cases h
          · rw [(hd' r hr.1).mpr (.inr hr.2.1)]
            rfl
        obtain ⟨G2, b', u1, u2, u3⟩ := ih (d - 1) (by omega) fu dn' G1 R' (by omega) (by omega) s2 (fun y hy => by
          rcases (s3 y).mp hy with q | q
          · exact h4 y q
          · exact q.2.1) c1 (hI.next hw hr c3 c2 hd')
        refine ⟨G2, b', ?_, fun o j y1 y2 => by rw [u2 o j y1 y2, k2 o j y1 y2], u3⟩
        rw [step, s1', b1]
        exact u1
      · have hE1 : ∀ a j, 2 ≤ a → a ≤ 36 → G1 a j = G a j := fun a j _ _ => k2 a j (by omega) (by omega)
        have c8 : G1 2 8 = (s.1.length : Int) := by rw [hE1 _ _ (by omega) (by omega)]; exact h8
        have lp : ∀ (d p fu' dn : Nat), p + d = s.1.length → d < fu' → dn < 65536 → ∃ dn' : Nat, g290_98 (g290_64 f fu) f fu' (dn : Int) b (r : Int) (p : Int) G1 = g290_64 f fu (dn' : Int) b G1 := by
          intro d
          induction d with
          | zero =>
            intro p fu' dn y1 y2 y3
            obtain ⟨fu', rfl⟩ : ∃ t, fu' = t + 1 := ⟨fu' - 1, by omega⟩
            refine ⟨dn, ?_⟩
            show g290_98b (g290_64 f fu) (g290_98 (g290_64 f fu) f fu') f _ _ _ _ _ = _
            unfold g290_98b
            rw [c8, if_pos (by omega)]
          | succ d ihd =>
            intro p fu' dn y1 y2 y3
            obtain ⟨fu', rfl⟩ : ∃ t, fu' = t + 1 := ⟨fu' - 1, by omega⟩
            have hp : p < s.1.length := by omega
            have e5 : xwr ((p : Int) + 1) = ((p + 1 : Nat) : Int) := by rw [xwr_g _ (by omega) (by omega)]; omega
            have step2 : g290_98 (g290_64 f fu) f (fu' + 1) (dn : Int) b (r : Int) (p : Int) G1 = if ¬ G1 7 p = (r : Int) then g290_98 (g290_64 f fu) f fu' (dn : Int) b (r : Int) ((p + 1 : Nat) : Int) G1 else g290_98 (g290_64 f fu) f fu' ((dn ||| 2 ^ p : Nat) : Int) b (r : Int) ((p + 1 : Nat) : Int) G1 := by
              show g290_98b (g290_64 f fu) (g290_98 (g290_64 f fu) f fu') f _ _ _ _ _ = _
              unfold g290_98b g290_131
              rw [c8, if_neg (by omega), if_pos (by omega)]
              simp only [Nat.reduceAdd, Int.toNat_natCast]
              rw [e5, xorb (by omega) (by omega)]
            rw [step2]
            by_cases cc : G1 7 p = (r : Int)
            · have nn : ¬ ¬ G1 7 p = (r : Int) := fun q => q cc
              rw [if_neg nn]
              exact ihd (p + 1) fu' _ (by omega) (by omega) (or_l16 y3 (p2_l16 (by omega)))
            · rw [if_pos cc]
              exact ihd (p + 1) fu' dn (by omega) (by omega) y3
        obtain ⟨dn', s1⟩ := lp s.1.length 0 f dn (by omega) (by omega) h3
        have s1' : g290_98 (g290_64 f fu) f f (dn : Int) b (r : Int) 0 G1 = _ := s1
        obtain ⟨fu, rfl⟩ : ∃ t, fu = t + 1 := ⟨fu - 1, by omega⟩
        refine ⟨G1, 0, ?_, k2, .inr ⟨rfl, hI.none hw hr c1⟩⟩
        rw [step, s1', b1]
        show g290_64b (g290_64 f fu) f _ _ _ = _
        unfold g290_64b g290_140
        rw [if_pos rfl, if_pos (Or.inl rfl)]
end
