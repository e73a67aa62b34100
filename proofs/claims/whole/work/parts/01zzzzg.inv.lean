/-! Ring after ring: what holds between -/
def wkI (s : pPg) (In : Nat → List pRw) (dn : Nat) (R : Nat → List pRw) : Prop := qTb s R ∧ (∀ p, p < s.1.length → pIn s.2.1 (p : Int) = true → R p = In p ∧ dn.testBit p = true) ∧ (∀ p, p < s.1.length → dn.testBit p = false → R p = []) ∧ (∀ p, p < s.1.length → pIn s.2.1 (p : Int) = false → dn.testBit p = true → dnR s R (qK s p)) ∧ (∀ p, p < s.1.length → (dn.testBit p = true ↔ dn.testBit (qK s p) = true)) ∧ ∀ p, p < s.1.length → dn.testBit p = true → ∀ y, rgR s (qK s p) y → dn.testBit y = true
/-- a ring that may be worked now -/
def wkN (s : pPg) (dn r : Nat) : Prop := r < s.1.length ∧ qK s r = r ∧ dn.testBit r = false ∧ ∀ y, rgR s r y → dn.testBit y = true ∨ qK s y = r
section
variable {s : pPg} {In : Nat → List pRw} {dn r : Nat} {R R' : Nat → List pRw}
theorem wkC_ext {rg : Nat} {R0 : Nat → List pRw} : ∀ (n : Nat) (R R' : Nat → List pRw), (∀ p, p < s.1.length → R p = R' p) → wkC s rg R0 n R → wkC s rg R0 n R'
  | 0, R, R', he, h => fun p hp => by rw [← he p hp]; exact h p hp
  | n + 1, R, R', he, h => by
    obtain ⟨R1, h1, h2, h3⟩ := h
    exact ⟨R1, h1, h2, fun p hp => by rw [← he p hp]; exact h3 p hp⟩
theorem wkE_ext {rg : Nat} {R0 : Nat → List pRw} (hw : wPg s) (he : ∀ p, p < s.1.length → R p = R' p) (h : wkE s rg R0 R) : wkE s rg R0 R' := by
  obtain ⟨n, a1, a2⟩ := h
  exact ⟨n, wkC_ext n R R' he a1, fun p xs hp hs => a2 p xs hp ((stD_cg (fun y hy => he y (rgR_lt hw hy)) (fun hp _ => he p hp) hp).mpr hs)⟩
theorem qK_id (hw : wPg s) {p : Nat} (hp : p < s.1.length) : qK s (qK s p) = qK s p := by
  rw [qK_is, qK_is]
  exact qRing_id (qAc_tr s) hp
theorem qK_lt {p : Nat} (hp : p < s.1.length) : qK s p < s.1.length := by
  have := (qRing_is (qAc s) p).1
  rw [qK_is]
  omega
/-- one more ring is worked -/
theorem wkI.next {dn' : Nat} (hw : wPg s) (h : wkI s In dn R) (hr : wkN s dn r) (hE : wkE s r R R') (hT' : qTb s R') (hd : ∀ p, p < s.1.length → (dn'.testBit p = true ↔ dn.testBit p = true ∨ qK s p = r)) : wkI s In dn' R' := by
  obtain ⟨i1, i2, i4, i5, i6, i7⟩ := h
  obtain ⟨r1, r2, r3, r4⟩ := hr
  have srt : ∀ p, p < s.1.length → (R p).Pairwise rwLt := fun p hp => (i1 p hp).2.1
  have out : ∀ p, p < s.1.length → qK s p ≠ r → R' p = R p := by
    obtain ⟨n, a1, _⟩ := hE
    exact (wkC_out srt n R' a1).2
  have notr : ∀ p, p < s.1.length → dn.testBit p = true → qK s p ≠ r := fun p hp hd e => by
    have := (i6 p hp).mp hd
    rw [e, r3] at this
    cases this
  have undone : ∀ p, p < s.1.length → qK s p = r → dn.testBit p = false := fun p hp e => by
    cases h : dn.testBit p with
    | false => rfl
    | true => exact absurd e (notr p hp h)
  have f2t : ∀ {b : Bool}, ¬ b = true → b = false := fun {b} h => by cases b with
    | true => exact absurd rfl h
    | false => rfl
  refine ⟨hT', fun p hp hi => ?_, fun p hp hn => ?_, fun p hp hi hn => ?_, fun p hp => ?_, fun p hp hn y hy => ?_⟩
  · obtain ⟨a1, a2⟩ := i2 p hp hi
    exact ⟨by rw [out p hp (notr p hp a2)]; exact a1, (hd p hp).mpr (.inl a2)⟩
  · have h1 : ¬ dn.testBit p = true := fun q => by rw [(hd p hp).mpr (.inl q)] at hn; cases hn
    have h2 : qK s p ≠ r := fun q => by rw [(hd p hp).mpr (.inr q)] at hn; cases hn
    rw [out p hp h2]
    exact i4 p hp (f2t h1)
  · by_cases cr : qK s p = r
    · rw [cr]
      exact ⟨R, fun q hq hk => (out q hq hk).symm, fun q hq hk => i4 q hq (undone q hq hk), hE⟩
    · have hdp : dn.testBit p = true := ((hd p hp).mp hn).resolve_right cr
      obtain ⟨R0, c1, c2, c3⟩ := i5 p hp hi hdp
      let R0' : Nat → List pRw := fun q => if qK s q = qK s p then [] else R' q
      have e1 : ∀ q, qK s q = qK s p → R0' q = [] := fun q h => if_pos h
      have e2 : ∀ q, qK s q ≠ qK s p → R0' q = R' q := fun q h => if_neg h
      have same : ∀ q, q < s.1.length → (qK s q = qK s p ∨ rgR s (qK s p) q) → R0 q = R0' q := fun q hq hk => by
        by_cases cq : qK s q = qK s p
        · rw [c2 q hq cq, e1 q cq]
        · have hr := hk.resolve_left cq
          rw [c1 q hq cq, e2 q cq, out q hq (notr q hq (i7 p hp hdp q hr))]
      have s1 := dnR.srt i1 c1 c2
      have s2 : ∀ q, q < s.1.length → (R0' q).Pairwise rwLt := dnR.srt hT' (fun q _ h => e2 q h) (fun q _ h => e1 q h)
      obtain ⟨R'', k1, k2⟩ := wkE_cg hw s1 s2 same c3
      refine ⟨R0', fun q hq h => e2 q h, fun q hq h => e1 q h, wkE_ext hw (fun q hq => ?_) k1⟩
      by_cases cq : qK s q = qK s p
      · rw [k2 q hq cq, out q hq (by rw [cq]; exact cr)]
      · obtain ⟨n, a1, _⟩ := k1
        rw [(wkC_out s2 n R'' a1).2 q hq cq, e2 q cq]
  · rw [hd p hp, hd _ (qK_lt hp), i6 p hp, qK_id hw hp]
  · have hyl := rgR_lt hw hy
    rw [hd y hyl]
    rcases (hd p hp).mp hn with q | q
    · exact .inl (i7 p hp q y hy)
    · rw [q] at hy
      exact r4 y hy
/-- all rings are worked -/
theorem wkI.done (h : wkI s In dn R) (hd : ∀ p, p < s.1.length → dn.testBit p = true) : qMod s In R := ⟨h.1, fun p hp hi => (h.2.1 p hp hi).1, fun p hp hi => h.2.2.2.1 p hp hi (hd p hp)⟩
/-- a ring passes the LIMIT: there are no rows -/
theorem wkI.none (hw : wPg s) (h : wkI s In dn R) (hr : wkN s dn r) (hO : wkO s r R) : ¬ ∃ M, qMod s In M := by
  rintro ⟨M, m1, m2, m3⟩
  obtain ⟨i1, i2, i4, i5, i6, i7⟩ := h
  obtain ⟨r1, r2, r3, r4⟩ := hr
  have same : ∀ (n p : Nat), qCn s (qK s p) < n → p < s.1.length → dn.testBit p = true → R p = M p := by
    intro n
    induction n with
    | zero => intro p h; omega
    | succ n ih =>
      intro p hc hp hd
      cases hi : pIn s.2.1 (p : Int) with
      | true => rw [(i2 p hp hi).1, m2 p hp hi]
      | false =>
        obtain ⟨R0, c1, c2, c3⟩ := i5 p hp hi hd
        obtain ⟨R0', d1, d2, d3⟩ := m3 p hp hi
        have hag : ∀ q, q < s.1.length → (qK s q = qK s p ∨ rgR s (qK s p) q) → R0 q = R0' q := fun q hq hk => by
          by_cases cq : qK s q = qK s p
          · rw [c2 q hq cq, d2 q hq cq]
          · have hr : rgR s (qK s p) q := hk.resolve_left cq
            rw [c1 q hq cq, d1 q hq cq]
            exact ih q (by have := qCn_lt hw hr cq; omega) hq (i7 p hp hd q hr)
        obtain ⟨R'', e1, e2⟩ := wkE_cg hw (dnR.srt i1 c1 c2) (dnR.srt m1 d1 d2) hag c3
        rw [← e2 p hp rfl]
        exact wkE_det (fun y hy => rgR_lt hw hy) e1 d3 p hp
  have hi : pIn s.2.1 (r : Int) = false := by
    cases h : pIn s.2.1 (r : Int) with
    | false => rfl
    | true => rw [(i2 r r1 h).2] at r3; cases r3
  obtain ⟨R0, c1, c2, c3⟩ := m3 r r1 hi
  rw [r2] at c1 c2 c3
  have srt : ∀ p, p < s.1.length → (R p).Pairwise rwLt := fun p hp => (i1 p hp).2.1
  have own : ∀ p, p < s.1.length → qK s p = r → R p = [] := fun p hp e => i4 p hp (by
    cases h : dn.testBit p with
    | false => rfl
    | true =>
      have := (i6 p hp).mp h
      rw [e, r3] at this
      cases this)
  have hag : ∀ q, q < s.1.length → (qK s q = r ∨ rgR s r q) → R0 q = R q := fun q hq hk => by
    by_cases cq : qK s q = r
    · rw [c2 q hq cq, own q hq cq]
    · have hd : dn.testBit q = true := (r4 q (hk.resolve_left cq)).resolve_right cq
      rw [c1 q hq cq]
      exact (same _ q (Nat.lt_succ_self _) hq hd).symm
  obtain ⟨R'', e1, e2⟩ := wkE_cg hw (dnR.srt m1 c1 c2) srt hag c3
  refine wkO_no (fun y hy => rgR_lt hw hy) srt (fun u hu => ⟨(hw.2.2.2.2.2.2 u hu).1, (hw.2.2.2.2.2.2 u hu).2.1⟩) hO e1 (fun p hp => ?_)
  by_cases cp : qK s p = r
  · rw [e2 p hp cp]; exact (m1 p hp).1
  · obtain ⟨n, a1, _⟩ := e1
    rw [(wkC_out srt n R'' a1).2 p hp cp]
    exact (i1 p hp).1
/-- while something is left there is a ring that may be worked -/
theorem wkI.some (hw : wPg s) (h : wkI s In dn R) (hu : ∃ p, p < s.1.length ∧ dn.testBit p = false) : ∃ r, wkN s dn r := by
  obtain ⟨p, p1, p2⟩ := hu
  obtain ⟨i1, i2, i4, i5, i6, i7⟩ := h
  have hk : dn.testBit (qK s p) = false := by
    cases h : dn.testBit (qK s p) with
    | false => rfl
    | true => rw [(i6 p p1).mpr h] at p2; cases p2
  obtain ⟨r, r1, r2, r3, r4⟩ := rdy (np := s.1.length) (A := qAc s) (qAc_tr s) (Rd := qRd s.2.2.2.2.1) (dn := dn) (fun x hx j hj => ⟨qWm_tr.1 x hx j hj, rdB hw hj⟩) (fun p hp => i6 p hp) _ (qK s p) (Nat.le_refl _) (qK_lt p1) (qK_id hw p1) hk
  refine ⟨r, r1, r2, r3, fun y hy => ?_⟩
  obtain ⟨q, q1, q2, q3⟩ := (rgR_rd hw).mp hy
  exact r4 q q1 q2 y q3
end
