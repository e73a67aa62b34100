/-! The reference's facts come to the rows of INPUTS -/
def qNm (s : pPg) (p : Nat) : Int := s.1.getD p 0
/-- rows of the predicates of cd, from facts -/
def qFt (s : pPg) (cd : Nat → Prop) (F : List pFc) (R : Nat → List pRw) : Prop := ∀ p, p < s.1.length → (R p).Pairwise rwLt ∧ (R p).length ≤ F.countP (fun y => decide (y.1 = qNm s p ∧ y.2.length = qN s p)) ∧ ∀ y, y ∈ R p ↔ cd p ∧ y.2 = 0 ∧ (qNm s p, y.1) ∈ F ∧ y.1.length = qN s p
section
variable {f q c b : Nat} {s : pPg} {cd : Nat → Prop} {F : List pFc} {R : Nat → List pRw}
theorem qFt.skip {x : pFc} (h : qFt s cd F R) (hn : ∀ p, p < s.1.length → ¬ (cd p ∧ qNm s p = x.1 ∧ x.2.length = qN s p)) : qFt s cd (F ++ [x]) R := fun p hp => by
  obtain ⟨a1, a2, a3⟩ := h p hp
  refine ⟨a1, by rw [List.countP_append]; omega, fun y => ?_⟩
  rw [a3 y, List.mem_append, List.mem_singleton]
  constructor
  · rintro ⟨b1, b2, b3, b4⟩
    exact ⟨b1, b2, .inl b3, b4⟩
  · rintro ⟨b1, b2, b3 | b3, b4⟩
    · exact ⟨b1, b2, b3, b4⟩
    · refine absurd ⟨b1, ?_, ?_⟩ (hn p hp)
      · rw [← b3]
      · rw [← b3]; exact b4
theorem qFt.go {G : xG_} {x : pFc} {p o i : Nat} (hf : 600 < f) (hok : qOk s) (h : qFt s cd F R) (hT : rTb G s.1.length (qN s) R) (hp : p < s.1.length) (hcd : cd p) (hnm : qNm s p = x.1) (hx : x.2.length = qN s p) (hnew : x ∉ F) (hl : F.countP (fun y => decide (y.1 = qNm s p ∧ y.2.length = qN s p)) < 520) (h4 : G 4 p = (qN s p : Int)) (ho : o ≠ 107 ∧ o ≠ 108 ∧ o ≠ 109) (hv : rVe G o i x.2) :
    ∃ G' R', g264 f (p : Int) o (i : Int) 0 G = some G' ∧ (∀ o j, ¬ (107 ≤ o ∧ o ≤ 109) → G' o j = G o j) ∧ rTb G' s.1.length (qN s) R' ∧ qFt s cd (F ++ [x]) R' := by
  have hlen := (h p hp).2.1
  obtain ⟨G', R', k1, k2, k3, k4, k5, k6⟩ := l_add (f := f) (u := 0) hf hok.1.1 hp hT (fun q hq => (h q hq).1) (by omega) h4 ho hv hx
  refine ⟨G', R', k1, k2, k3, fun q hq => ?_⟩
  obtain ⟨a1, a2, a3⟩ := h q hq
  by_cases cq : q = p
  · subst cq
    rcases k6 with ⟨⟨y, y1, y2⟩, _⟩ | ⟨k6, k7, k8⟩
    · exfalso
      have := ((a3 y).mp y1).2.2.1
      rw [y2, hnm] at this
      exact hnew this
    · refine ⟨k4 q hq, ?_, fun y => ?_⟩
      · rw [k7, List.countP_append, List.countP_cons_of_pos (by simp [hnm, hx])]
        show _ ≤ _ + (0 + 1)
        omega
      · rw [k8 y, a3 y, List.mem_append, List.mem_singleton]
        constructor
        · rintro (⟨b1, b2, b3, b4⟩ | b)
          · exact ⟨b1, b2, .inl b3, b4⟩
          · rw [b]; exact ⟨hcd, rfl, .inr (Prod.ext hnm rfl), hx⟩
        · rintro ⟨b1, b2, b3 | b3, b4⟩
          · exact .inl ⟨b1, b2, b3, b4⟩
          · refine .inr (Prod.ext ?_ b2)
            rw [← b3]
  · rw [k5 q cq]
    refine ⟨a1, by rw [List.countP_append]; omega, fun y => ?_⟩
    rw [a3 y, List.mem_append, List.mem_singleton]
    constructor
    · rintro ⟨b1, b2, b3, b4⟩
      exact ⟨b1, b2, .inl b3, b4⟩
    · rintro ⟨b1, b2, b3 | b3, b4⟩
      · exact ⟨b1, b2, b3, b4⟩
      · exfalso
        have e1 : qNm s q = qNm s p := by rw [hnm, ← b3]
        unfold qNm at e1
        rw [getD_e hq, getD_e hp] at e1
        have nd := List.nodup_iff_pairwise_ne.mp hok.1.2.1
        by_cases c1 : q < p
        · exact (List.pairwise_iff_getElem.mp nd) q p hq hp c1 e1
        · exact (List.pairwise_iff_getElem.mp nd) p q hp hq (by omega) e1.symm
/-- facts that may be filled in -/
def qFo (s : pPg) (F : List pFc) : Prop := F.Pairwise fLt ∧ (∀ p, p < s.1.length → F.countP (fun y => decide (y.1 = qNm s p ∧ y.2.length = qN s p)) ≤ 500) ∧ ∀ y ∈ F, ∀ x ∈ y.2, vOk x
theorem fa_new {i : Nat} (hs : F.Pairwise fLt) (hi : i < F.length) : F.getD i dFc ∉ F.take i := fun hm => by
  obtain ⟨j, hj, ej⟩ := List.getElem_of_mem hm
  rw [List.length_take] at hj
  rw [List.getElem_take] at ej
  have := srt_get (d := dFc) hs (by omega : j < i) hi
  rw [getD_e (by omega : j < F.length), ej] at this
  exact fLt_irr _ this
theorem fa_tk {i : Nat} (hi : i < F.length) : F.take (i + 1) = F.take i ++ [F.getD i dFc] := by rw [List.take_succ_eq_append_getElem hi, getD_e hi]
/-- fillInputs: the facts, one after another -/
theorem l_297_23 {G0 : xG_} (hf : 3600 < f) (hok : qOk s) (hb : isFb b) (hP : rPr G0 2 q c s ∧ rPn G0 2 s) (hF : rFa G0 b F) (hFo : qFo s F) : ∀ (d i fu : Nat) (G : xG_) (R : Nat → List pRw), i + d = F.length → d < fu → (∀ o j, ¬ (107 ≤ o ∧ o ≤ 109) → G o j = G0 o j) → rTb G s.1.length (qN s) R → qFt s (fun p => pIn s.2.1 (p : Int) = true) (F.take i) R →
    ∃ G' R', g297_23 f fu b (i : Int) G = some G' ∧ (∀ o j, ¬ (107 ≤ o ∧ o ≤ 109) → G' o j = G0 o j) ∧ rTb G' s.1.length (qN s) R' ∧ qFt s (fun p => pIn s.2.1 (p : Int) = true) F R' := by
  have hl := hF.2.1
  have hbb : b + 3 < 107 ∨ 109 < b := by unfold isFb at hb; omega
  intro d
  induction d with
  | zero =>
    intro i fu G R h1 h2 h3 hT hq
    obtain ⟨fu, rfl⟩ : ∃ t, fu = t + 1 := ⟨fu - 1, by omega⟩
    have ei : F.take i = F := List.take_of_length_le (by omega)
    rw [ei] at hq
    refine ⟨G, R, ?_, h3, hT, hq⟩
    show g297_23b (g297_23 f fu) f _ _ _ = _
    unfold g297_23b
    rw [h3 _ _ (by omega), hF.1, if_pos (by omega)]
  | succ d ih =>
    intro i fu G R h1 h2 h3 hT hq
    obtain ⟨fu, rfl⟩ : ∃ t, fu = t + 1 := ⟨fu - 1, by omega⟩
    have hi : i < F.length := by omega
    obtain ⟨q1, q2, q3, q4⟩ := hF.2.2 i hi
    have e4 : xwr (4 * (i : Int)) = ((4 * i : Nat) : Int) := by rw [xwr_g _ (by omega) (by omega)]; omega
    have e5 : xwr ((i : Int) + 1) = ((i + 1 : Nat) : Int) := by rw [xwr_g _ (by omega) (by omega)]; omega
    have hii : 0 ≤ (i : Int) ∧ (i : Int) < 3400 := by omega
    have hN : rNs G 2 s.1 := ⟨by rw [h3 _ _ (by omega)]; exact hP.1.1.1, hP.1.1.2.1, fun k hk => by rw [h3 _ _ (by omega)]; exact hP.1.1.2.2 k hk⟩
    have g1 : G (b + 1) i = (F.getD i dFc).1 := by rw [h3 _ _ (by omega)]; exact q1
    have g3 : G (b + 3) i = ((F.getD i dFc).2.length : Int) := by rw [h3 _ _ (by omega)]; exact q2
    have hnp := hok.1.1
    have skip : (∀ p, p < s.1.length → ¬ (pIn s.2.1 (p : Int) = true ∧ qNm s p = (F.getD i dFc).1 ∧ (F.getD i dFc).2.length = qN s p)) → g297_23 f (fu + 1) b (i : Int) G = g297_23 f fu b ((i + 1 : Nat) : Int) G → ∃ G' R', g297_23 f (fu + 1) b (i : Int) G = some G' ∧ (∀ o j, ¬ (107 ≤ o ∧ o ≤ 109) → G' o j = G0 o j) ∧ rTb G' s.1.length (qN s) R' ∧ qFt s (fun p => pIn s.2.1 (p : Int) = true) F R' := fun hn he => by
      rw [he]
      exact ih (i + 1) fu G R (by omega) (by omega) h3 hT (by rw [fa_tk hi]; exact hq.skip hn)
    rcases pIdx_get (x := (F.getD i dFc).1) hok.1.2.1 with ⟨c1, c2⟩ | ⟨p, p1, p2, p3, p4⟩
    · refine skip (fun p hp hh => c2 ?_) ?_
      · rw [← hh.2.1]
        unfold qNm
        rw [getD_e hp]
        exact List.getElem_mem hp
      · show g297_23b (g297_23 f fu) f _ _ _ = _
        unfold g297_23b g297_93
        rw [h3 b 3 (by omega), hF.1, if_neg (by omega), if_pos hii, Int.toNat_natCast, g1, hN.idx (by omega) (by omega), Option.bind_some, c1, if_pos rfl, e5]
    · have hin : G 8 p = b01 (pIn s.2.1 (p : Int)) := by rw [h3 _ _ (by omega)]; exact (hP.1.2.2.2.1 p (by omega)).1
      have h4 : G 4 p = (qN s p : Int) := by
        rw [h3 _ _ (by omega), (qN_c hok.1 p).1]
        exact hP.2 p p1
      have hpp : 0 ≤ (p : Int) ∧ (p : Int) < 16 := by omega
      have n1 : ¬ (p : Int) = -1 := by omega
      have step : g297_23 f (fu + 1) b (i : Int) G = if b01 (pIn s.2.1 (p : Int)) = 0 then g297_23 f fu b ((i + 1 : Nat) : Int) G else if ¬ (qN s p : Int) = ((F.getD i dFc).2.length : Int) then g297_23 f fu b ((i + 1 : Nat) : Int) G else (g264 f (p : Int) (b + 2) ((4 * i : Nat) : Int) 0 G).bind fun R114 => g297_23 f fu b ((i + 1 : Nat) : Int) R114 := by
        show g297_23b (g297_23 f fu) f _ _ _ = _
        unfold g297_23b g297_93
        rw [h3 b 3 (by omega), hF.1, if_neg (by omega), if_pos hii, Int.toNat_natCast, g1, hN.idx (by omega) (by omega), Option.bind_some, p2, if_neg n1]
        simp only [Nat.reduceAdd, Int.toNat_natCast, if_pos hpp, if_pos hii, hin, h4, g3, e4, e5]
      have only : ∀ p', p' < s.1.length → qNm s p' = (F.getD i dFc).1 → p' = p := fun p' hp' h => p4 p' hp' h
      cases hbi : pIn s.2.1 (p : Int) with
      | false =>
        rw [hbi] at step
        refine skip (fun p' hp' hh => ?_) (by rw [step, if_pos (show b01 false = 0 from rfl)])
        rw [only p' hp' hh.2.1, hbi] at hh
        cases hh.1
      | true =>
        rw [hbi, if_neg (show ¬ b01 true = 0 from by decide)] at step
        by_cases cl : (F.getD i dFc).2.length = qN s p
        · have n2 : ¬ ¬ (qN s p : Int) = ((F.getD i dFc).2.length : Int) := fun q => q (by omega)
          rw [if_neg n2] at step
          have hcnt : (F.take i).countP (fun y => decide (y.1 = qNm s p ∧ y.2.length = qN s p)) < 520 := by
            have h5 := List.Sublist.countP_le (p := fun y : pFc => decide (y.1 = qNm s p ∧ y.2.length = qN s p)) (List.take_sublist i F)
            have h6 := hFo.2.1 p p1
            omega
          have hv : rVe G (b + 2) (4 * i) (F.getD i dFc).2 := by
            obtain ⟨z1, z2, z3, z4⟩ := hF.ve hb hi
            exact ⟨z1, z2, z3, fun k hk => by rw [h3 _ _ (by omega)]; exact z4 k hk⟩
          obtain ⟨G1, R1, k1, k2, k3, k4⟩ := hq.go (f := f) (by omega) hok hT p1 hbi p3 cl (fa_new hFo.1 hi) hcnt h4 ⟨by omega, by omega, by omega⟩ hv
          obtain ⟨G2, R2, u1, u2, u3, u4⟩ := ih (i + 1) fu G1 R1 (by omega) (by omega) (fun o j y => by rw [k2 o j y]; exact h3 o j y) k3 (by rw [fa_tk hi]; exact k4)
          refine ⟨G2, R2, ?_, u2, u3, u4⟩
          rw [step, k1]
          exact u1
        · have n2 : ¬ (qN s p : Int) = ((F.getD i dFc).2.length : Int) := by omega
          rw [if_pos n2] at step
          refine skip (fun p' hp' hh => ?_) step
          rw [only p' hp' hh.2.1] at hh
          exact cl hh.2.2
end
