section
/-! A CHANGE comes to the rows of its INPUT -/
def qKy (s : pPg) (p : Nat) : Nat := (pKy s.2.1 (p : Int)).toNat
/-- the CHANGE e is for p -/
def chT (s : pPg) (e : pPe) (p : Nat) : Prop := qNm s p = e.2.1 ∧ pIn s.2.1 (p : Int) = true ∧ e.2.2.length = qN s p
def chY (s : pPg) (e : pPe) (R : Nat → List pRw) (p : Nat) (y : pRw) : Prop := (¬ chT s e p ∧ y ∈ R p) ∨ (chT s e p ∧ ((e.1 < 0 ∧ y ∈ R p ∧ y.1 ≠ e.2.2) ∨ (0 ≤ e.1 ∧ (∃ w, w ∈ R p ∧ w.1 = e.2.2) ∧ y ∈ R p) ∨ (0 ≤ e.1 ∧ (∀ w, w ∈ R p → w.1 ≠ e.2.2) ∧ ((y ∈ R p ∧ ¬ (0 < qKy s p ∧ y.1.take (qKy s p) = e.2.2.take (qKy s p))) ∨ y = (e.2.2, 0)))))
/-- the rows behind a CHANGE -/
def chR (s : pPg) (e : pPe) (R R' : Nat → List pRw) : Prop := ∀ p, p < s.1.length → (R' p).Pairwise rwLt ∧ (R' p).length ≤ (R p).length + 1 ∧ ∀ y, y ∈ R' p ↔ chY s e R p y
theorem pKy_in {s : pPg} (hw : wPg s) (p : Nat) : 0 ≤ pKy s.2.1 (p : Int) ∧ pKy s.2.1 (p : Int) ≤ 3 := by
  unfold pKy
  cases h : s.2.1.find? (fun x => decide (x.1 = (p : Int))) with
  | none => exact ⟨by show (0 : Int) ≤ 0; decide, by show (0 : Int) ≤ 3; decide⟩
  | some x =>
    have := hw.2.2.1 x (List.mem_of_find?_eq_some h)
    show 0 ≤ x.2.2 ∧ x.2.2 ≤ 3
    omega
theorem rVe.tk {G : xG_} {a i k : Nat} {xs : List Int} (h : rVe G a i xs) : rVe G a i (xs.take k) := by
  obtain ⟨h1, h2, h3, h4⟩ := h
  have hl : (xs.take k).length ≤ xs.length := by rw [List.length_take]; omega
  refine ⟨by omega, h2, by omega, fun j hj => ?_⟩
  rw [List.length_take] at hj
  rw [getD_tk (by omega)]
  exact h4 j (by omega)
section
variable {f q c : Nat} {s : pPg} {R : Nat → List pRw} {e : pPe} {o i : Nat}
theorem l_301_104 {p k : Nat} {vs : List Int} {G0 : xG_} (hf : 600 < f) (hok : qOk s) (hp : p < s.1.length) (hk0 : 0 < k) (hk : k ≤ 3) (hkn : k ≤ qN s p) (h5 : G0 5 p = (k : Int)) (ho : o + 28 < 107 ∨ 109 < o + 28) (hi : i < 400) (hv : rVe G0 (o + 28) (4 * i) vs) (hvl : vs.length = qN s p) (hs : ∀ q, q < s.1.length → (R q).Pairwise rwLt) (hl : (R p).length ≤ 520) : ∀ (m fu : Nat) (G : xG_) (R1 : Nat → List pRw), m ≤ (R p).length → m < fu → (∀ a j, ¬ (107 ≤ a ∧ a ≤ 109) → G a j = G0 a j) → rTb G s.1.length (qN s) R1 → (∀ q, q < s.1.length → (R1 q).Pairwise rwLt) → (∀ q, q ≠ p → R1 q = R q) → R1 p = (R p).take m ++ ((R p).drop m).filter (fun y => decide (y.1.take k ≠ vs.take k)) →
    ∃ G' R', g301_104 f fu o (i : Int) (p : Int) ((m : Int) - 1) G = g301_167 f o (i : Int) (p : Int) G' ∧ (∀ a j, ¬ (107 ≤ a ∧ a ≤ 109) → G' a j = G0 a j) ∧ rTb G' s.1.length (qN s) R' ∧ (∀ q, q < s.1.length → (R' q).Pairwise rwLt) ∧ (∀ q, q ≠ p → R' q = R q) ∧ R' p = (R p).filter (fun y => decide (y.1.take k ≠ vs.take k)) := by
  have hnp := hok.1.1
  have e4 : xwr (4 * (i : Int)) = ((4 * i : Nat) : Int) := by rw [xwr_g _ (by omega) (by omega)]; omega
  intro m
  induction m with
  | zero =>
    intro fu G R1 h1 h2 h3 hT hs1 hq hR
    obtain ⟨fu, rfl⟩ : ∃ t, fu = t + 1 := ⟨fu - 1, by omega⟩
    refine ⟨G, R1, ?_, h3, hT, hs1, hq, by rw [hR, List.take_zero, List.drop_zero, List.nil_append]⟩
    show g301_104b (g301_104 f fu) f _ _ _ _ _ = _
    unfold g301_104b
    rw [if_pos (by omega)]
  | succ m ih =>
    intro fu G R1 h1 h2 h3 hT hs1 hq hR
    obtain ⟨fu, rfl⟩ : ∃ t, fu = t + 1 := ⟨fu - 1, by omega⟩
    have hm : m < (R p).length := by omega
    have em : (((m + 1 : Nat) : Int) - 1) = (m : Int) := by omega
    have e5 : xwr ((m : Int) + -1) = (m : Int) - 1 := by rw [xwr_g _ (by omega) (by omega)]; omega
    have htl : ((R p).take (m + 1)).length = m + 1 := by rw [List.length_take]; omega
    have hR1l : m < (R1 p).length := by rw [hR, List.length_append]; omega
    have hrow : (R1 p).getD m dRw = (R p).getD m dRw := by rw [hR, getD_app _ (by omega), getD_tk (by omega)]
    obtain ⟨t1, t2⟩ := hT p hp
    have hrl : ((R p).getD m dRw).1.length = qN s p := by rw [← hrow]; exact (t1.2.2 m hR1l).1
    have hpp : 0 ≤ (p : Int) ∧ (p : Int) < 16 := by omega
    have g5 : G 5 p = (k : Int) := by rw [h3 _ _ (by omega)]; exact h5
    have hve1 : rVe G 107 ((p * 520 + m) * 4) (((R p).getD m dRw).1.take k) := by
      have := t1.ve (by omega) t2 hR1l
      rw [hrow] at this
      exact this.tk
    have hve2 : rVe G (o + 28) (4 * i) (vs.take k) := by
      obtain ⟨z1, z2, z3, z4⟩ := hv
      exact rVe.tk ⟨z1, z2, z3, fun j hj => by rw [h3 _ _ (by omega)]; exact z4 j hj⟩
    have l1 : (((R p).getD m dRw).1.take k).length = k := by rw [List.length_take, hrl]; omega
    have l2 : (vs.take k).length = k := by rw [List.length_take, hvl]; omega
    have ec : g262 f 107 (((p * 520 + m) * 4 : Nat) : Int) (o + 28) ((4 * i : Nat) : Int) (k : Int) G = some (vCmp (((R p).getD m dRw).1.take k) (vs.take k), G) := l_262 (by omega) hve1 hve2 l1 l2
    have step : g301_104 f (fu + 1) o (i : Int) (p : Int) (m : Int) G = if ¬ vCmp (((R p).getD m dRw).1.take k) (vs.take k) = 0 then g301_104 f fu o (i : Int) (p : Int) ((m : Int) - 1) G else (g265 f (p : Int) (m : Int) G).bind fun R121 => g301_104 f fu o (i : Int) (p : Int) ((m : Int) - 1) R121 := by
      have n5 : ¬ (k : Int) ≤ 0 := by omega
      show g301_104b (g301_104 f fu) f _ _ _ _ _ = _
      unfold g301_104b g301_161
      rw [if_neg (by omega), if_pos hpp]
      simp only [Nat.reduceAdd, Int.toNat_natCast, g5, if_neg n5]
      rw [l_261 (by omega) (by omega), Option.bind_some]
      simp only [if_pos hpp, g5, e4, ec, Option.bind_some, e5]
    have hdrop : (R p).drop m = (R p).getD m dRw :: (R p).drop (m + 1) := by rw [List.drop_eq_getElem_cons hm, getD_e hm]
    rw [em, step]
    by_cases cc : vCmp (((R p).getD m dRw).1.take k) (vs.take k) = 0
    · have n1 : ¬ ¬ vCmp (((R p).getD m dRw).1.take k) (vs.take k) = 0 := fun q => q cc
      have ee := vCmp_eq (by rw [l1, l2]) cc
      rw [if_neg n1]
      obtain ⟨G1, R2, k1, k2, k3, k4, k5, k6⟩ := l_rem (f := f) (k := m) hf hnp hp hT hs1 hR1l
      rw [k1, Option.bind_some]
      refine ih fu G1 R2 (by omega) (by omega) (fun a j y => by rw [k2 a j y]; exact h3 a j y) k3 k4 (fun q hq' => by rw [k5 q hq']; exact hq q hq') ?_
      have efn : List.filter (fun y : pRw => decide (y.1.take k ≠ vs.take k)) ((R p).getD m dRw :: (R p).drop (m + 1)) = List.filter (fun y : pRw => decide (y.1.take k ≠ vs.take k)) ((R p).drop (m + 1)) := List.filter_cons_of_neg (fun q => absurd ee (of_decide_eq_true q))
      rw [k6, hR, hdrop, efn]
      rw [List.take_append_of_le_length (by omega), List.take_take, Nat.min_eq_left (by omega), List.drop_append_of_le_length (by omega), List.drop_of_length_le (by omega), List.nil_append]
    · rw [if_pos cc]
      refine ih fu G R1 (by omega) (by omega) h3 hT hs1 hq ?_
      have ne : ((R p).getD m dRw).1.take k ≠ vs.take k := fun q => cc (by rw [q]; exact vCmp_self _)
      rw [hR, hdrop, List.filter_cons_of_pos (by simp only [decide_eq_true_eq]; exact ne), List.take_succ_eq_append_getElem hm, getD_e hm, List.append_assoc]
      rfl
/-- change -/
theorem l_301 {G : xG_} {ps : List pPe} {M : Nat → List pRw} (hf : 600 < f) (hok : qOk s) (hkn : ∀ p, p < s.1.length → pIn s.2.1 (p : Int) = true → qKy s p ≤ qN s p) (hE : rEn G q c s R) (hs : ∀ p, p < s.1.length → (R p).Pairwise rwLt) (hl : ∀ p, p < s.1.length → (R p).length < 520) {h : Nat} (hh : h < 4) (ho : o = 123 + 29 * h) (hps : rPe G o ps) (hi : i < ps.length) :
    ∃ G' R', g301 f o (i : Int) G = some G' ∧ (∀ a j, ¬ (107 ≤ a ∧ a ≤ 109) → G' a j = G a j) ∧ rTb G' s.1.length (qN s) R' ∧ chR s (ps.getD i dPe) R R' := by
  have hnp := hok.1.1
  obtain ⟨e1, e2, e3, hT⟩ := hE
  obtain ⟨p1, p2, p3⟩ := hps
  obtain ⟨q1, q2, q3, q4, q5⟩ := p3 i hi
  have hii : 0 ≤ (i : Int) ∧ (i : Int) < 400 := by omega
  have e4 : xwr (4 * (i : Int)) = ((4 * i : Nat) : Int) := by rw [xwr_g _ (by omega) (by omega)]; omega
  have nochange : (∀ p, p < s.1.length → ¬ chT s (ps.getD i dPe) p) → g301 f o (i : Int) G = some G → ∃ G' R', g301 f o (i : Int) G = some G' ∧ (∀ a j, ¬ (107 ≤ a ∧ a ≤ 109) → G' a j = G a j) ∧ rTb G' s.1.length (qN s) R' ∧ chR s (ps.getD i dPe) R R' := fun hn he => ⟨G, R, he, fun _ _ _ => rfl, hT, fun p hp => ⟨hs p hp, by omega, fun y => ⟨fun hy => .inl ⟨hn p hp, hy⟩, fun hy => by
    rcases hy with hy | hy
    · exact hy.2
    · exact absurd hy.1 (hn p hp)⟩⟩⟩
  rcases pIdx_get (x := (ps.getD i dPe).2.1) hok.1.2.1 with ⟨c1, c2⟩ | ⟨p, r1, r2, r3, r4⟩
  · refine nochange (fun p hp hh => c2 ?_) ?_
    · rw [← hh.1]
      unfold qNm
      rw [getD_e hp]
      exact List.getElem_mem hp
    · unfold g301 g301_49
      rw [if_pos hii, Int.toNat_natCast, q2, e1.1.idx (by omega) (by omega), Option.bind_some, c1, if_pos rfl]
  · have hin : G 8 p = b01 (pIn s.2.1 (p : Int)) := (e1.2.2.2.1 p (by omega)).1
    have h5 : G 5 p = pKy s.2.1 (p : Int) := (e1.2.2.2.1 p (by omega)).2.1
    have h4 : G 4 p = (qN s p : Int) := by
      rw [(qN_c hok.1 p).1]
      exact e2 p r1
    have hpp : 0 ≤ (p : Int) ∧ (p : Int) < 16 := by omega
    have n1 : ¬ (p : Int) = -1 := by omega
    have only : ∀ p', p' < s.1.length → qNm s p' = (ps.getD i dPe).2.1 → p' = p := fun p' hp' h => r4 p' hp' h
    have hlen28 : ((xl_t (o + 28)).2.2 : Int) = 1600 := by rw [ho]; exact xl_line28 hh
    have hv : rVe G (o + 28) (4 * i) (ps.getD i dPe).2.2 := ⟨by rw [hlen28]; omega, by omega, by omega, fun k hk => q5 k (by omega)⟩
    have step : g301 f o (i : Int) G = if b01 (pIn s.2.1 (p : Int)) = 0 then some G else if (qN s p : Int) = ((ps.getD i dPe).2.2.length : Int) then (g263 f (p : Int) (o + 28) ((4 * i : Nat) : Int) G).bind fun R138 => (if 0 ≤ R138.2 (o + 24) i then (if R138.1 = -1 then g301_104 f f o (i : Int) (p : Int) (xwr (R138.2 108 p - 1)) R138.2 else some R138.2) else (if R138.1 = -1 then some R138.2 else (g265 f (p : Int) R138.1 R138.2).bind fun R148 => some R148)) else some G := by
      unfold g301 g301_49 g301_86
      rw [if_pos hii, Int.toNat_natCast, q2, e1.1.idx (by omega) (by omega), Option.bind_some, r2, if_neg n1]
      simp only [Nat.reduceAdd, Int.toNat_natCast, if_pos hpp, if_pos hii, hin, h4, q3, e4]
    cases hbi : pIn s.2.1 (p : Int) with
    | false =>
      rw [hbi, if_pos (show b01 false = 0 from rfl)] at step
      refine nochange (fun p' hp' hh => ?_) step
      have := hh.2.1
      rw [only p' hp' hh.1, hbi] at this
      cases this
    | true =>
      rw [hbi, if_neg (show ¬ b01 true = 0 from by decide)] at step
      by_cases cl : (ps.getD i dPe).2.2.length = qN s p
      · rw [if_pos (by omega)] at step
        have htg : chT s (ps.getD i dPe) p := ⟨r3, hbi, cl⟩
        have hoth : ∀ p', p' < s.1.length → p' ≠ p → ¬ chT s (ps.getD i dPe) p' := fun p' hp' hne hh => hne (only p' hp' hh.1)
        obtain ⟨t1, t2⟩ := hT p r1
        obtain ⟨z, z1, z2⟩ := l_263 (f := f) hf (by omega : p < 16) t2 t1 h4 hv cl
        rw [z1, Option.bind_some] at step
        have step2 : g301 f o (i : Int) G = if 0 ≤ (ps.getD i dPe).1 then (if z = -1 then g301_104 f f o (i : Int) (p : Int) (xwr (((R p).length : Int) - 1)) G else some G) else (if z = -1 then some G else (g265 f (p : Int) z G).bind fun R148 => some R148) := by
          rw [step, ← q1, ← t1.1]
        have other : ∀ {R' : Nat → List pRw}, (∀ q', q' ≠ p → R' q' = R q') → ∀ p', p' < s.1.length → p' ≠ p → (R' p').Pairwise rwLt ∧ (R' p').length ≤ (R p').length + 1 ∧ ∀ y, y ∈ R' p' ↔ chY s (ps.getD i dPe) R p' y := fun {R'} hq' p' hp' hne => by
          rw [hq' p' hne]
          refine ⟨hs p' hp', by omega, fun y => ⟨fun hy => .inl ⟨hoth p' hp' hne, hy⟩, fun hy => ?_⟩⟩
          rcases hy with hy | hy
          · exact hy.2
          · exact absurd hy.1 (hoth p' hp' hne)
        have same : (∀ y, y ∈ R p ↔ chY s (ps.getD i dPe) R p y) → g301 f o (i : Int) G = some G → ∃ G' R', g301 f o (i : Int) G = some G' ∧ (∀ a j, ¬ (107 ≤ a ∧ a ≤ 109) → G' a j = G a j) ∧ rTb G' s.1.length (qN s) R' ∧ chR s (ps.getD i dPe) R R' := fun hy he => ⟨G, R, he, fun _ _ _ => rfl, hT, fun p' hp' => by
          by_cases cp : p' = p
          · rw [cp]; exact ⟨hs p r1, by omega, hy⟩
          · exact other (fun _ _ => rfl) p' hp' cp⟩
        by_cases csg : 0 ≤ (ps.getD i dPe).1
        · rw [if_pos csg] at step2
          rcases z2 with ⟨z2, z3⟩ | ⟨k, k1, k2, k3⟩
          · rw [if_pos z2] at step2
            have hk3 := pKy_in hok.1 p
            have hkk : pKy s.2.1 (p : Int) = (qKy s p : Int) := by unfold qKy; omega
            have em : xwr (((R p).length : Int) - 1) = ((R p).length : Int) - 1 := by rw [xwr_g _ (by have := hl p r1; omega) (by have := hl p r1; omega)]
            rw [em] at step2
            have mid : ∃ G1 R1, g301 f o (i : Int) G = g301_167 f o (i : Int) (p : Int) G1 ∧ (∀ a j, ¬ (107 ≤ a ∧ a ≤ 109) → G1 a j = G a j) ∧ rTb G1 s.1.length (qN s) R1 ∧ (∀ q, q < s.1.length → (R1 q).Pairwise rwLt) ∧ (∀ q, q ≠ p → R1 q = R q) ∧ (R1 p).length ≤ (R p).length ∧ ∀ y, y ∈ R1 p ↔ y ∈ R p ∧ ¬ (0 < qKy s p ∧ y.1.take (qKy s p) = (ps.getD i dPe).2.2.take (qKy s p)) := by
              by_cases ck : 0 < qKy s p
              · obtain ⟨G1, R1, m1, m2, m3, m4, m5, m6⟩ := l_301_104 (f := f) (o := o) (i := i) (k := qKy s p) (vs := (ps.getD i dPe).2.2) (G0 := G) hf hok r1 ck (by omega) (hkn p r1 hbi) (by rw [h5]; exact hkk) (by omega) (by omega) hv cl hs (by have := hl p r1; omega) (R p).length f G R (Nat.le_refl _) (by have := hl p r1; omega) (fun _ _ _ => rfl) hT hs (fun _ _ => rfl) (by rw [List.take_length, List.drop_length]; simp)
                refine ⟨G1, R1, step2.trans m1, m2, m3, m4, m5, by rw [m6]; exact List.length_filter_le _ _, fun y => ?_⟩
                rw [m6, List.mem_filter, decide_eq_true_eq]
                constructor
                · exact fun ⟨a, b⟩ => ⟨a, fun q => b q.2⟩
                · exact fun ⟨a, b⟩ => ⟨a, fun q => b ⟨ck, q⟩⟩
              · refine ⟨G, R, ?_, fun _ _ _ => rfl, hT, hs, fun _ _ => rfl, Nat.le_refl _, fun y => ⟨fun hy => ⟨hy, fun q => ck q.1⟩, fun hy => hy.1⟩⟩
                rw [step2]
                obtain ⟨fu, rfl⟩ : ∃ t, f = t + 1 := ⟨f - 1, by omega⟩
                show g301_104b (g301_104 (fu + 1) fu) (fu + 1) _ _ _ _ _ = _
                unfold g301_104b
                by_cases c0 : ((R p).length : Int) - 1 < 0
                · rw [if_pos c0]
                · rw [if_neg c0, if_pos hpp]
                  simp only [Nat.reduceAdd, Int.toNat_natCast, h5, hkk]
                  rw [if_pos (by omega)]
            obtain ⟨G1, R1, m1, m2, m3, m4, m5, m6, m7⟩ := mid
            have hv1 : rVe G1 (o + 28) (4 * i) (ps.getD i dPe).2.2 := by
              obtain ⟨y1, y2, y3, y4⟩ := hv
              exact ⟨y1, y2, y3, fun k hk => by rw [m2 _ _ (by omega)]; exact y4 k hk⟩
            obtain ⟨G2, R2, n1, n2, n3, n4, n5, n6⟩ := l_add (f := f) (u := 0) hf hnp r1 m3 m4 (by have := hl p r1; omega) (by rw [m2 _ _ (by omega)]; exact h4) ⟨by omega, by omega, by omega⟩ hv1 cl
            refine ⟨G2, R2, ?_, fun a j y => by rw [n2 a j y, m2 a j y], n3, fun p' hp' => ?_⟩
            · rw [m1]
              unfold g301_167
              rw [e4, n1]
              rfl
            · by_cases cp : p' = p
              · rw [cp]
                rcases n6 with ⟨⟨y, y1, y2⟩, _⟩ | ⟨n6, n7, n8⟩
                · exact absurd y2 (z3 y ((m7 y).mp y1).1)
                · refine ⟨n4 p r1, by omega, fun y => ?_⟩
                  rw [n8 y, m7 y]
                  constructor
                  · intro hy
                    exact .inr ⟨htg, .inr (.inr ⟨csg, z3, hy⟩)⟩
                  · rintro (⟨hy, _⟩ | ⟨_, hy | hy | hy⟩)
                    · exact absurd htg hy
                    · omega
                    · obtain ⟨w, w1, w2⟩ := hy.2.1
                      exact absurd w2 (z3 w w1)
                    · exact hy.2.2
              · exact other (fun q' hq' => by rw [n5 q' hq', m5 q' hq']) p' hp' cp
          · rw [if_neg (by omega)] at step2
            refine same (fun y => ⟨fun hy => .inr ⟨htg, .inr (.inl ⟨csg, ⟨(R p).getD k dRw, by rw [getD_e k1]; exact List.getElem_mem k1, k3⟩, hy⟩)⟩, fun hy => ?_⟩) step2
            rcases hy with hy | ⟨_, hy | hy | hy⟩
            · exact hy.2
            · exact hy.2.1
            · exact hy.2.2
            · exact absurd k3 (hy.2.1 _ (by rw [getD_e k1]; exact List.getElem_mem k1))
        · rw [if_neg csg] at step2
          rcases z2 with ⟨z2, z3⟩ | ⟨k, k1, k2, k3⟩
          · rw [if_pos z2] at step2
            refine same (fun y => ⟨fun hy => .inr ⟨htg, .inl ⟨by omega, hy, z3 y hy⟩⟩, fun hy => ?_⟩) step2
            rcases hy with hy | ⟨_, hy | hy | hy⟩
            · exact hy.2
            · exact hy.2.1
            · exact hy.2.2
            · omega
          · obtain ⟨G1, R1, m1, m2, m3, m4, m5, m6⟩ := l_rem (f := f) (k := k) hf hnp r1 hT hs k1
            rw [if_neg (by omega), k2, m1] at step2
            refine ⟨G1, R1, step2, m2, m3, fun p' hp' => ?_⟩
            by_cases cp : p' = p
            · rw [cp]
              refine ⟨m4 p r1, by rw [m6, len_del k1]; omega, fun y => ?_⟩
              rw [m6, srt_del_mem rwLt_irr (d := dRw) (hs p r1) k1]
              have uniq : ∀ y, y ∈ R p → (y ≠ (R p).getD k dRw ↔ y.1 ≠ (ps.getD i dPe).2.2) := fun y hy => by
                constructor
                · intro hne he
                  obtain ⟨j, hj, rfl⟩ := List.getElem_of_mem hy
                  rw [getD_e k1] at hne k3
                  have hjk : j ≠ k := fun q => hne (by subst q; rfl)
                  have hk' : (R p)[j].1 = (R p)[k].1 := he.trans k3.symm
                  have pw := List.pairwise_iff_getElem.mp (hs p r1)
                  by_cases c1 : j < k
                  · have := pw j k hj k1 c1
                    unfold rwLt at this
                    rw [hk'] at this
                    exact vLt_irr _ this
                  · have := pw k j k1 hj (by omega)
                    unfold rwLt at this
                    rw [hk'] at this
                    exact vLt_irr _ this
                · intro hne he
                  rw [he] at hne
                  exact hne k3
              constructor
              · rintro ⟨y1, y2⟩
                exact .inr ⟨htg, .inl ⟨by omega, y1, (uniq y y1).mp y2⟩⟩
              · rintro (⟨hy, _⟩ | ⟨_, hy | hy | hy⟩)
                · exact absurd htg hy
                · exact ⟨hy.2.1, (uniq y hy.2.1).mpr hy.2.2⟩
                · omega
                · omega
            · exact other m5 p' hp' cp
      · rw [if_neg (by omega)] at step
        refine nochange (fun p' hp' hh => ?_) step
        have := hh.2.2
        rw [only p' hp' hh.1] at this
        exact cl this
end
end
section
/-! INPUTS that are kept when a program's next edition is taken over -/
/-- p has its rows from so -/
def kpC (so s : pPg) (p : Nat) : Prop := pIn s.2.1 (p : Int) = true ∧ ∃ r, r < so.1.length ∧ qNm so r = qNm s p ∧ pIn so.2.1 (r : Int) = true ∧ qN so r = qN s p ∧ pKy so.2.1 (r : Int) = pKy s.2.1 (p : Int)
section
variable {f b : Nat} {s so : pPg} {F : List pFc} {T : List (List Int)} {m e : Nat}
/-- readOld -/
theorem l_300 {G : xG_} (hf : 6400 < f) (hC : rC G) (hT : rTxs G T m) (he : e < T.length) (hs : qPr (T.getD e []) = .inr so) :
    ∃ G' q c, g300 f (e : Int) G = some G' ∧ rPr G' 37 q c so ∧ rPn G' 37 so ∧ ∀ a j, ¬ (a = 0 ∧ (j ≤ 11 ∨ 21 ≤ j ∧ j ≤ 27)) → a ≠ 1 → ¬ (37 ≤ a ∧ a ≤ 71) → G' a j = G a j := by
  obtain ⟨t1, t2, t3, t4, t5⟩ := hT
  obtain ⟨b0, q, b1, b2, b3, b4⟩ := t5 e he
  have hr := l_rt (f := f) (o := 37) (by omega) b0 (by omega) hC b4
  rw [hs] at hr
  obtain ⟨G1, c, r1, r2, r22, r3, r4, r5, r6, r7⟩ := hr
  obtain ⟨G2, p1, p2, p3, p4⟩ := l_254 (f := f) (by omega) (by omega) r4 r5 r7
  refine ⟨G2, q, c, ?_, p3, p4, fun a j y1 y2 y3 => by rw [p2 a j (by omega) (by omega), r3 a j y1 y2 (by omega)]⟩
  have hee : 0 ≤ (e : Int) ∧ (e : Int) < 4200 := by omega
  unfold g300
  rw [if_pos hee, if_pos hee, if_pos hee, Int.toNat_natCast, b1, b2, xwr_g _ (by omega) (by omega), r1, Option.bind_some, p1]
  rfl
theorem qFa.cnt {M : Nat → List pRw} (hok : qOk so) (hM : qTb so M) (h : qFa so M F) (a : Int) (n : Nat) : F.countP (fun y => decide (y.1 = a ∧ y.2.length = n)) ≤ 100 := by
  rw [List.countP_eq_length_filter]
  have nd : F.Nodup := by
    refine List.nodup_iff_pairwise_ne.mpr (List.Pairwise.imp (S := fun x y => x ≠ y) (fun {a b} h => ?_) h.1)
    intro q
    rw [q] at h
    exact fLt_irr _ h
  by_cases c : ∃ p, p < so.1.length ∧ qNm so p = a
  · obtain ⟨p, hp, hn⟩ := c
    have := nodup_len (F.filter (fun y => decide (y.1 = a ∧ y.2.length = n))) ((M p).map (fun w => (a, w.1))) (nd.filter _) (fun y hy => by
      obtain ⟨y1, y2⟩ := List.mem_filter.mp hy
      have y3 := of_decide_eq_true y2
      obtain ⟨p', a1, a2, w, a3, a4⟩ := (h.2 y).mp y1
      have : p' = p := nm_inj hok a1 hp (by rw [← a2, hn]; exact y3.1)
      subst this
      exact List.mem_map.mpr ⟨w, a3, Prod.ext y3.1.symm a4⟩)
    rw [List.length_map] at this
    have := (hM p hp).1
    omega
  · have : F.filter (fun y => decide (y.1 = a ∧ y.2.length = n)) = [] := by
      rw [List.filter_eq_nil_iff]
      intro y hy q
      have y3 := of_decide_eq_true q
      obtain ⟨p', a1, a2, w, a3, a4⟩ := (h.2 y).mp hy
      exact c ⟨p', a1, by rw [← a2]; exact y3.1⟩
    rw [this]
    exact Nat.zero_le _
theorem qFa.fo2 {M : Nat → List pRw} (hok : qOk so) (hM : qTb so M) (h : qFa so M F) : qFo s F := by
  refine ⟨h.1, fun p hp => ?_, fun y hy x hx => ?_⟩
  · have := h.cnt hok hM (qNm s p) (qN s p)
    omega
  · obtain ⟨p, a1, a2, w, a3, a4⟩ := (h.2 y).mp hy
    rw [← a4] at hx
    exact ((hM p a1).2.2 w a3).2 x hx
/-- keepInputs: the facts, one after another -/
theorem l_299_31 {G0 : xG_} {q c q' c' o : Nat} (hf : 3600 < f) (hok : qOk s) (hok' : qOk so) (hb : isFb (o + 1)) (hP : rPr G0 2 q c s ∧ rPn G0 2 s) (hP' : rPr G0 37 q' c' so ∧ rPn G0 37 so) (hF : rFa G0 (o + 1) F) (hFo : qFo s F) (hFl : ∀ y ∈ F, ∀ r, r < so.1.length → qNm so r = y.1 → y.2.length = qN so r) : ∀ (d i fu : Nat) (G : xG_) (R : Nat → List pRw), i + d = F.length → d < fu → (∀ a j, ¬ (107 ≤ a ∧ a ≤ 109) → G a j = G0 a j) → rTb G s.1.length (qN s) R → qFt s (kpC so s) (F.take i) R →
    ∃ G' R', g299_31 f fu o (i : Int) G = some G' ∧ (∀ a j, ¬ (107 ≤ a ∧ a ≤ 109) → G' a j = G0 a j) ∧ rTb G' s.1.length (qN s) R' ∧ qFt s (kpC so s) F R' := by
  have hl := hF.2.1
  have hnp := hok.1.1
  have hnp' := hok'.1.1
  have hbb : o + 4 < 107 ∨ 109 < o + 1 := by unfold isFb at hb; omega
  intro d
  induction d with
  | zero =>
    intro i fu G R h1 h2 h3 hT hq
    obtain ⟨fu, rfl⟩ : ∃ t, fu = t + 1 := ⟨fu - 1, by omega⟩
    have ei : F.take i = F := List.take_of_length_le (by omega)
    rw [ei] at hq
    refine ⟨G, R, ?_, h3, hT, hq⟩
    show g299_31b (g299_31 f fu) f _ _ _ = _
    unfold g299_31b
    rw [h3 _ _ (by omega), hF.1, if_pos (by omega)]
  | succ d ih =>
    intro i fu G R h1 h2 h3 hT hq
    obtain ⟨fu, rfl⟩ : ∃ t, fu = t + 1 := ⟨fu - 1, by omega⟩
    have hi : i < F.length := by omega
    obtain ⟨q1, q2, q3, q4⟩ := hF.2.2 i hi
    have e4 : xwr (4 * (i : Int)) = ((4 * i : Nat) : Int) := by rw [xwr_g _ (by omega) (by omega)]; omega
    have e5 : xwr ((i : Int) + 1) = ((i + 1 : Nat) : Int) := by rw [xwr_g _ (by omega) (by omega)]; omega
    have hii : 0 ≤ (i : Int) ∧ (i : Int) < 3400 := by omega
    have hN : rNs G 2 s.1 := ⟨by rw [h3 _ _ (by omega)]; exact hP.1.1.1, hP.1.1.2.1, fun k hk => by rw [h3 _ _ (by omega)]; exact hP.1.1.2.2 k hk⟩
    have hN' : rNs G 37 so.1 := ⟨by rw [h3 _ _ (by omega)]; exact hP'.1.1.1, hP'.1.1.2.1, fun k hk => by rw [h3 _ _ (by omega)]; exact hP'.1.1.2.2 k hk⟩
    have g1 : G (o + 1 + 1) i = (F.getD i dFc).1 := by rw [h3 _ _ (by omega)]; exact q1
    have hFm : F.getD i dFc ∈ F := by rw [getD_e hi]; exact List.getElem_mem hi
    have skip : (∀ p, p < s.1.length → ¬ (kpC so s p ∧ qNm s p = (F.getD i dFc).1 ∧ (F.getD i dFc).2.length = qN s p)) → g299_31 f (fu + 1) o (i : Int) G = g299_31 f fu o ((i + 1 : Nat) : Int) G → ∃ G' R', g299_31 f (fu + 1) o (i : Int) G = some G' ∧ (∀ a j, ¬ (107 ≤ a ∧ a ≤ 109) → G' a j = G0 a j) ∧ rTb G' s.1.length (qN s) R' ∧ qFt s (kpC so s) F R' := fun hn he => by
      rw [he]
      exact ih (i + 1) fu G R (by omega) (by omega) h3 hT (by rw [fa_tk hi]; exact hq.skip hn)
    have head : g299_31 f (fu + 1) o (i : Int) G = if pIdx s.1 (F.getD i dFc).1 = -1 then g299_31 f fu o ((i + 1 : Nat) : Int) G else if pIdx so.1 (F.getD i dFc).1 = -1 then g299_31 f fu o ((i + 1 : Nat) : Int) G else g299_31 f (fu + 1) o (i : Int) G := by
      by_cases c1 : pIdx s.1 (F.getD i dFc).1 = -1
      · rw [if_pos c1]
        show g299_31b (g299_31 f fu) f _ _ _ = _
        unfold g299_31b g299_173
        rw [h3 (o + 1) 3 (by omega), hF.1, if_neg (by omega), if_pos hii, Int.toNat_natCast, g1, hN.idx (by omega) (by omega), Option.bind_some, if_pos hii]
        show Option.bind (g205 f 37 (G (o + 1 + 1) i) G) _ = _
        rw [g1, hN'.idx (by omega) (by omega), Option.bind_some]
        show (if pIdx s.1 (F.getD i dFc).1 = -1 then _ else _) = _
        rw [if_pos c1, e5]
      · rw [if_neg c1]
        by_cases c2 : pIdx so.1 (F.getD i dFc).1 = -1
        · rw [if_pos c2]
          show g299_31b (g299_31 f fu) f _ _ _ = _
          unfold g299_31b g299_173
          rw [h3 (o + 1) 3 (by omega), hF.1, if_neg (by omega), if_pos hii, Int.toNat_natCast, g1, hN.idx (by omega) (by omega), Option.bind_some, if_pos hii]
          show Option.bind (g205 f 37 (G (o + 1 + 1) i) G) _ = _
          rw [g1, hN'.idx (by omega) (by omega), Option.bind_some]
          show (if pIdx s.1 (F.getD i dFc).1 = -1 then _ else (if pIdx so.1 (F.getD i dFc).1 = -1 then _ else _)) = _
          rw [if_neg c1, if_pos c2, e5]
        · rw [if_neg c2]
    rcases pIdx_get (x := (F.getD i dFc).1) hok.1.2.1 with ⟨c1, c2⟩ | ⟨p, p1, p2, p3, p4⟩
    · refine skip (fun p hp hh => c2 ?_) (by rw [head, if_pos c1])
      rw [← hh.2.1]
      unfold qNm
      rw [getD_e hp]
      exact List.getElem_mem hp
    · have only : ∀ p', p' < s.1.length → qNm s p' = (F.getD i dFc).1 → p' = p := fun p' hp' h => p4 p' hp' h
      rcases pIdx_get (x := (F.getD i dFc).1) hok'.1.2.1 with ⟨c1, c2⟩ | ⟨r, r1, r2, r3, r4⟩
      · refine skip (fun p' hp' hh => c2 ?_) (by rw [head, if_neg (by omega), if_pos c1])
        obtain ⟨⟨_, r, a1, a2, _⟩, a5, _⟩ := hh
        rw [← a5, ← a2]
        unfold qNm
        rw [getD_e a1]
        exact List.getElem_mem a1
      · have onlyr : ∀ p', p' < so.1.length → qNm so p' = (F.getD i dFc).1 → p' = r := fun p' hp' h => r4 p' hp' h
        have hin : G 8 p = b01 (pIn s.2.1 (p : Int)) := by rw [h3 _ _ (by omega)]; exact (hP.1.2.2.2.1 p (by omega)).1
        have hin' : G 43 r = b01 (pIn so.2.1 (r : Int)) := by rw [h3 _ _ (by omega)]; exact (hP'.1.2.2.2.1 r (by omega)).1
        have h5 : G 5 p = pKy s.2.1 (p : Int) := by rw [h3 _ _ (by omega)]; exact (hP.1.2.2.2.1 p (by omega)).2.1
        have h5' : G 40 r = pKy so.2.1 (r : Int) := by rw [h3 _ _ (by omega)]; exact (hP'.1.2.2.2.1 r (by omega)).2.1
        have h4 : G 4 p = (qN s p : Int) := by
          rw [h3 _ _ (by omega), (qN_c hok.1 p).1]
          exact hP.2 p p1
        have h4' : G 39 r = (qN so r : Int) := by
          rw [h3 _ _ (by omega), (qN_c hok'.1 r).1]
          exact hP'.2 r r1
        have hpp : 0 ≤ (p : Int) ∧ (p : Int) < 16 := by omega
        have hrr : 0 ≤ (r : Int) ∧ (r : Int) < 16 := by omega
        have n1 : ¬ (p : Int) = -1 := by omega
        have n2 : ¬ (r : Int) = -1 := by omega
        have step : g299_31 f (fu + 1) o (i : Int) G = if b01 (pIn s.2.1 (p : Int)) = 0 then g299_31 f fu o ((i + 1 : Nat) : Int) G else if b01 (pIn so.2.1 (r : Int)) = 0 then g299_31 f fu o ((i + 1 : Nat) : Int) G else if ¬ (qN s p : Int) = (qN so r : Int) then g299_31 f fu o ((i + 1 : Nat) : Int) G else if ¬ pKy s.2.1 (p : Int) = pKy so.2.1 (r : Int) then g299_31 f fu o ((i + 1 : Nat) : Int) G else (g264 f (p : Int) (o + 1 + 2) ((4 * i : Nat) : Int) 0 G).bind fun R126 => g299_31 f fu o ((i + 1 : Nat) : Int) R126 := by
          show g299_31b (g299_31 f fu) f _ _ _ = _
          unfold g299_31b g299_173
          rw [h3 (o + 1) 3 (by omega), hF.1, if_neg (by omega), if_pos hii, Int.toNat_natCast, g1, hN.idx (by omega) (by omega), Option.bind_some, if_pos hii]
          show Option.bind (g205 f 37 (G (o + 1 + 1) i) G) _ = _
          rw [g1, hN'.idx (by omega) (by omega), Option.bind_some, p2, r2, if_neg n1, if_neg n2]
          simp only [Nat.reduceAdd, Int.toNat_natCast, if_pos hpp, if_pos hrr, hin, hin', h4, h4', h5, h5', e4, e5]
        have no : (∀ x : Bool, True) → True := fun _ => trivial
        have kp : ∀ p', p' < s.1.length → kpC so s p' → qNm s p' = (F.getD i dFc).1 → pIn s.2.1 (p : Int) = true ∧ pIn so.2.1 (r : Int) = true ∧ qN so r = qN s p ∧ pKy so.2.1 (r : Int) = pKy s.2.1 (p : Int) := fun p' hp' hk hn => by
          have e1 := only p' hp' hn
          subst e1
          obtain ⟨k1, r', k2, k3, k4, k5, k6⟩ := hk
          have e2 := onlyr r' k2 (by rw [k3]; exact hn)
          subst e2
          exact ⟨k1, k4, k5, k6⟩
        cases hb1 : pIn s.2.1 (p : Int) with
        | false =>
          rw [hb1] at step kp
          exact skip (fun p' hp' hh => by have := (kp p' hp' hh.1 hh.2.1).1; cases this) (by rw [step, if_pos (show b01 false = 0 from rfl)])
        | true =>
          rw [hb1, if_neg (show ¬ b01 true = 0 from by decide)] at step
          cases hb2 : pIn so.2.1 (r : Int) with
          | false =>
            rw [hb2] at step kp
            exact skip (fun p' hp' hh => by have := (kp p' hp' hh.1 hh.2.1).2.1; cases this) (by rw [step, if_pos (show b01 false = 0 from rfl)])
          | true =>
            rw [hb2, if_neg (show ¬ b01 true = 0 from by decide)] at step
            by_cases cn : qN so r = qN s p
            · have nn : ¬ ¬ (qN s p : Int) = (qN so r : Int) := fun q => q (by omega)
              rw [if_neg nn] at step
              by_cases ck : pKy so.2.1 (r : Int) = pKy s.2.1 (p : Int)
              · have nk : ¬ ¬ pKy s.2.1 (p : Int) = pKy so.2.1 (r : Int) := fun q => q ck.symm
                rw [if_neg nk] at step
                have cl : (F.getD i dFc).2.length = qN s p := by rw [hFl _ hFm r r1 r3]; exact cn
                have hcd : kpC so s p := ⟨hb1, r, r1, by unfold qNm; rw [r3, p3], hb2, cn, ck⟩
                have hcnt : (F.take i).countP (fun y => decide (y.1 = qNm s p ∧ y.2.length = qN s p)) < 520 := by
                  have h5 := List.Sublist.countP_le (p := fun y : pFc => decide (y.1 = qNm s p ∧ y.2.length = qN s p)) (List.take_sublist i F)
                  have h6 := hFo.2.1 p p1
                  omega
                have hv : rVe G (o + 1 + 2) (4 * i) (F.getD i dFc).2 := by
                  obtain ⟨z1, z2, z3, z4⟩ := hF.ve hb hi
                  exact ⟨z1, z2, z3, fun k hk => by rw [h3 _ _ (by omega)]; exact z4 k hk⟩
                obtain ⟨G1, R1, k1, k2, k3, k4⟩ := hq.go (f := f) (by omega) hok hT p1 hcd p3 cl (fa_new hFo.1 hi) hcnt h4 ⟨by omega, by omega, by omega⟩ hv
                obtain ⟨G2, R2, u1, u2, u3, u4⟩ := ih (i + 1) fu G1 R1 (by omega) (by omega) (fun a j y => by rw [k2 a j y]; exact h3 a j y) k3 (by rw [fa_tk hi]; exact k4)
                refine ⟨G2, R2, ?_, u2, u3, u4⟩
                rw [step, k1]
                exact u1
              · have nk : ¬ pKy s.2.1 (p : Int) = pKy so.2.1 (r : Int) := fun q => ck q.symm
                rw [if_pos nk] at step
                exact skip (fun p' hp' hh => ck (kp p' hp' hh.1 hh.2.1).2.2.2) step
            · have nn : ¬ (qN s p : Int) = (qN so r : Int) := by omega
              rw [if_pos nn] at step
              exact skip (fun p' hp' hh => cn (kp p' hp' hh.1 hh.2.1).2.2.1) step
end
end
section
/-! The reference gathers the facts of all rows -/
section
variable {f q c b : Nat} {s : pPg} {M : Nat → List pRw}
def gM (s : pPg) (M : Nat → List pRw) (p i : Nat) (y : pFc) : Prop := ∃ p' w, p' < s.1.length ∧ y = (qNm s p', w.1) ∧ ((p' < p ∧ w ∈ M p') ∨ (p' = p ∧ w ∈ (M p).take i))
theorem l_302_20 {r7 : Nat → Int → xG_ → Option xG_} {p : Nat} {G0 : xG_} (hf : 3600 < f) (hok : qOk s) (hb : isFb b) (hp : p < s.1.length) (hE : rEn G0 q c s M) (hM : qTb s M) : ∀ (d i fu : Nat) (G : xG_) (F : List pFc), i + d = (M p).length → d < fu → xfy b G0 G → rFa G b F → F.Pairwise fLt → F.length ≤ qTo M p + i → (∀ y, y ∈ F ↔ gM s M p i y) →
    ∃ G' F', g302_20 r7 f fu b (p : Int) (i : Int) G = r7 b ((p + 1 : Nat) : Int) G' ∧ xfy b G0 G' ∧ rFa G' b F' ∧ F'.Pairwise fLt ∧ F'.length ≤ qTo M (p + 1) ∧ ∀ y, y ∈ F' ↔ gM s M (p + 1) 0 y := by
  have hnp := hok.1.1
  have hbb : b + 3 < 107 ∨ 109 < b := by unfold isFb at hb; omega
  have hb2 : 36 < b := by unfold isFb at hb; omega
  have hqt : qTo M p ≤ 100 * p := qTo_le p (fun p' hp' => (hM p' (by omega)).1)
  have hlen := (hM p hp).1
  have hpp : 0 ≤ (p : Int) ∧ (p : Int) < 16 := by omega
  have ep : xwr ((p : Int) + 1) = ((p + 1 : Nat) : Int) := by rw [xwr_g _ (by omega) (by omega)]; omega
  intro d
  induction d with
  | zero =>
    intro i fu G F h1 h2 h3 hF hs hl hm
    obtain ⟨fu, rfl⟩ : ∃ t, fu = t + 1 := ⟨fu - 1, by omega⟩
    have h108 : G 108 p = ((M p).length : Int) := by rw [h3 _ _ (by omega) (by omega) (by omega) (by omega)]; exact (hE.2.2.2 p hp).1.1
    refine ⟨G, F, ?_, h3, hF, hs, by show F.length ≤ qTo M p + (M p).length; omega, fun y => ?_⟩
    · show g302_20b r7 (g302_20 r7 f fu) f _ _ _ _ = _
      unfold g302_20b
      rw [if_pos hpp, Int.toNat_natCast, h108, if_pos (by omega), ep]
    · rw [hm y]
      have et : (M p).take i = M p := List.take_of_length_le (by omega)
      unfold gM
      rw [et]
      constructor
      · rintro ⟨p', w, a1, a2, a3 | a3⟩
        · exact ⟨p', w, a1, a2, .inl ⟨by omega, a3.2⟩⟩
        · exact ⟨p', w, a1, a2, .inl ⟨by omega, by rw [a3.1]; exact a3.2⟩⟩
      · rintro ⟨p', w, a1, a2, a3 | a3⟩
        · by_cases cp : p' = p
          · exact ⟨p', w, a1, a2, .inr ⟨cp, by rw [← cp]; exact a3.2⟩⟩
          · exact ⟨p', w, a1, a2, .inl ⟨by omega, a3.2⟩⟩
        · rw [List.take_zero] at a3; cases a3.2
  | succ d ih =>
    intro i fu G F h1 h2 h3 hF hs hl hm
    obtain ⟨fu, rfl⟩ : ∃ t, fu = t + 1 := ⟨fu - 1, by omega⟩
    have hi : i < (M p).length := by omega
    have h108 : G 108 p = ((M p).length : Int) := by rw [h3 _ _ (by omega) (by omega) (by omega) (by omega)]; exact (hE.2.2.2 p hp).1.1
    have e5 : xwr ((i : Int) + 1) = ((i + 1 : Nat) : Int) := by rw [xwr_g _ (by omega) (by omega)]; omega
    have hT : rTb G s.1.length (qN s) M := hE.2.2.2.ge (fun a j _ _ => h3 _ _ (by omega) (by omega) (by omega) (by omega))
    obtain ⟨t1, t2⟩ := hT p hp
    have hrl := (t1.2.2 i hi).1
    have g3 : G 3 p = qNm s p := by
      rw [h3 _ _ (by omega) (by omega) (by omega) (by omega)]
      exact hE.1.1.2.2 p hp
    have g4 : G 4 p = (((M p).getD i dRw).1.length : Int) := by
      rw [h3 _ _ (by omega) (by omega) (by omega) (by omega), hrl, (qN_c hok.1 p).1]
      exact hE.2.1 p hp
    obtain ⟨G1, F1, k1, k2, k3, k4, k5, k6⟩ := l_198 (f := f) (x := (qNm s p, ((M p).getD i dRw).1)) (by omega) hb hF hs (t1.ve (by omega) t2 hi) (by show ((M p).getD i dRw).1.length ≤ 4; omega) ⟨by omega, by omega, by omega, by omega⟩ (by omega)
    obtain ⟨G2, F2, u1, u2, u3, u4, u5, u6⟩ := ih (i + 1) fu G1 F1 (by omega) (by omega) (fun a j y1 y2 y3 y4 => by rw [k6 a j y1 y2 y3 y4, h3 a j y1 y2 y3 y4]) k2 k3 (by rcases k5 with q | q <;> first | (rw [q]; omega) | omega) (fun y => by
      rw [k4 y, hm y]
      have et : (M p).take (i + 1) = (M p).take i ++ [(M p).getD i dRw] := by rw [List.take_succ_eq_append_getElem hi, getD_e hi]
      unfold gM
      rw [et]
      constructor
      · rintro (⟨p', w, a1, a2, a3 | a3⟩ | a)
        · exact ⟨p', w, a1, a2, .inl a3⟩
        · exact ⟨p', w, a1, a2, .inr ⟨a3.1, List.mem_append.mpr (.inl a3.2)⟩⟩
        · exact ⟨p, (M p).getD i dRw, hp, a, .inr ⟨rfl, List.mem_append.mpr (.inr (List.mem_singleton.mpr rfl))⟩⟩
      · rintro ⟨p', w, a1, a2, a3 | ⟨a3, a4⟩⟩
        · exact .inl ⟨p', w, a1, a2, .inl a3⟩
        · rcases List.mem_append.mp a4 with a4 | a4
          · exact .inl ⟨p', w, a1, a2, .inr ⟨a3, a4⟩⟩
          · rw [List.mem_singleton.mp a4, a3] at a2
            exact .inr a2)
    refine ⟨G2, F2, ?_, u2, u3, u4, u5, u6⟩
    rw [← u1]
    show g302_20b r7 (g302_20 r7 f fu) f _ _ _ _ = _
    unfold g302_20b
    rw [if_pos hpp]
    simp only [Nat.reduceAdd, Int.toNat_natCast, if_pos hpp, h108]
    rw [if_neg (by omega), l_261 (by omega) (by omega), Option.bind_some, g3, g4]
    have k1' : g198 f b (qNm s p) (((M p).getD i dRw).1.length : Int) 107 (((p * 520 + i) * 4 : Nat) : Int) G = some G1 := k1
    simp only [k1', Option.bind_some, e5]
/-- gatherFacts -/
theorem l_302 {G : xG_} (hf : 3600 < f) (hok : qOk s) (hb : isFb b) (hE : rEn G q c s M) (hM : qTb s M) : ∃ G' F, g302 f b G = some G' ∧ xfy b G G' ∧ rFa G' b F ∧ qFa s M F ∧ F.length ≤ 1600 := by
  have hnp := hok.1.1
  have hb2 : 36 < b := by unfold isFb at hb; omega
  have loop : ∀ (d p fu : Nat) (Z : xG_) (F : List pFc), p + d = s.1.length → d < fu → xfy b G Z → rFa Z b F → F.Pairwise fLt → F.length ≤ qTo M p → (∀ y, y ∈ F ↔ gM s M p 0 y) → ∃ G' F', g302_7 f fu b (p : Int) Z = some G' ∧ xfy b G G' ∧ rFa G' b F' ∧ F'.Pairwise fLt ∧ F'.length ≤ qTo M s.1.length ∧ ∀ y, y ∈ F' ↔ gM s M s.1.length 0 y := by
    intro d
    induction d with
    | zero =>
      intro p fu Z F h1 h2 h3 hF hs hl hm
      obtain ⟨fu, rfl⟩ : ∃ t, fu = t + 1 := ⟨fu - 1, by omega⟩
      have h8 : Z 2 8 = (s.1.length : Int) := by rw [h3 _ _ (by omega) (by omega) (by omega) (by omega)]; exact hE.1.1.1
      have ep : p = s.1.length := by omega
      subst ep
      refine ⟨Z, F, ?_, h3, hF, hs, hl, hm⟩
      show g302_7b (g302_7 f fu) f _ _ _ = _
      unfold g302_7b
      rw [h8, if_pos (by omega)]
    | succ d ih =>
      intro p fu Z F h1 h2 h3 hF hs hl hm
      obtain ⟨fu, rfl⟩ : ∃ t, fu = t + 1 := ⟨fu - 1, by omega⟩
      have h8 : Z 2 8 = (s.1.length : Int) := by rw [h3 _ _ (by omega) (by omega) (by omega) (by omega)]; exact hE.1.1.1
      have hlen := (hM p (by omega)).1
      obtain ⟨G1, F1, k1, k2, k3, k4, k5, k6⟩ := l_302_20 (f := f) (r7 := g302_7 f fu) (p := p) (G0 := G) hf hok hb (by omega) hE hM (M p).length 0 f Z F (by omega) (by omega) h3 hF hs (by omega) hm
      obtain ⟨G2, F2, u1, u2, u3, u4, u5, u6⟩ := ih (p + 1) fu G1 F1 (by omega) (by omega) k2 k3 k4 k5 k6
      refine ⟨G2, F2, ?_, u2, u3, u4, u5, u6⟩
      have k1' : g302_20 (g302_7 f fu) f f b (p : Int) 0 Z = _ := k1
      show g302_7b (g302_7 f fu) f _ _ _ = _
      unfold g302_7b
      rw [h8, if_neg (by omega), k1']
      exact u1
  obtain ⟨G', F', k1, k2, k3, k4, k5, k6⟩ := loop s.1.length 0 f (xup2 G b 3 0) [] (by omega) (by omega) (fun a j y1 y2 y3 y4 => xup2_n y1) ⟨xup2_s _ _ _ _, Nat.zero_le _, fun i hi => absurd hi (Nat.not_lt_zero _)⟩ List.Pairwise.nil (Nat.zero_le _) (fun y => ⟨fun h => absurd h (by simp), fun ⟨p', w, _, _, a⟩ => by
    rcases a with a | a
    · omega
    · rw [List.take_zero] at a; cases a.2⟩)
  have hq := qTo_le s.1.length (fun p hp => (hM p hp).1)
  refine ⟨G', F', ?_, k2, k3, ⟨k4, fun y => ?_⟩, by omega⟩
  · unfold g302
    rw [Option.bind_some]
    exact k1
  · rw [k6 y]
    constructor
    · rintro ⟨p', w, a1, a2, a3 | a3⟩
      · exact ⟨p', a1, by rw [a2], w, a3.2, by rw [a2]⟩
      · omega
    · rintro ⟨p, a1, a2, w, a3, a4⟩
      exact ⟨p, w, a1, Prod.ext a2 a4.symm, .inl ⟨a1, a3⟩⟩
end
end
section
/-! The reference's log: what has come and gone -/
/-- round, 1 or -1, fact -/
abbrev pLg : Type := Int × Int × pFc
abbrev dLg : pLg := (0, 0, dFc)
def rLg (G : xG_) (o : Nat) (L : List pLg) : Prop := G o 10 = (L.length : Int) ∧ L.length ≤ 12000 ∧ ∀ i, i < L.length → G (o + 5) i = (L.getD i dLg).1 ∧ G (o + 6) i = (L.getD i dLg).2.1 ∧ G (o + 8) i = (L.getD i dLg).2.2.1 ∧ G (o + 7) i = ((L.getD i dLg).2.2.2.length : Int) ∧ (L.getD i dLg).2.2.2.length ≤ 4 ∧ ∀ j, j < 4 → G (o + 9) (4 * i + j) = (L.getD i dLg).2.2.2.getD j 0
theorem rLg.ge {G G' : xG_} {o : Nat} {L : List pLg} (h : rLg G o L) (h0 : G' o 10 = G o 10) (hf : ∀ a j, o + 5 ≤ a → a ≤ o + 9 → G' a j = G a j) : rLg G' o L := by
  obtain ⟨a1, a2, a3⟩ := h
  refine ⟨by rw [h0]; exact a1, a2, fun i hi => ?_⟩
  obtain ⟨b1, b2, b3, b4, b5, b6⟩ := a3 i hi
  exact ⟨by rw [hf _ _ (by omega) (by omega)]; exact b1, by rw [hf _ _ (by omega) (by omega)]; exact b2, by rw [hf _ _ (by omega) (by omega)]; exact b3, by rw [hf _ _ (by omega) (by omega)]; exact b4, b5, fun j hj => by rw [hf _ _ (by omega) (by omega)]; exact b6 j hj⟩
theorem rFa.ge {G G' : xG_} {b : Nat} {F : List pFc} (h : rFa G b F) (h0 : G' b 3 = G b 3) (hf : ∀ a j, b + 1 ≤ a → a ≤ b + 3 → G' a j = G a j) : rFa G' b F := by
  obtain ⟨a1, a2, a3⟩ := h
  refine ⟨by rw [h0]; exact a1, a2, fun i hi => ?_⟩
  obtain ⟨b1, b2, b3, b4⟩ := a3 i hi
  exact ⟨by rw [hf _ _ (by omega) (by omega)]; exact b1, by rw [hf _ _ (by omega) (by omega)]; exact b2, b3, fun j hj => by rw [hf _ _ (by omega) (by omega)]; exact b4 j hj⟩
/-- the fact y is of the predicate p -/
def ofP (s : pPg) (y : pFc) (p : Nat) : Prop := p < s.1.length ∧ qNm s p = y.1 ∧ qN s p = y.2.length
section
variable {f b o h i : Nat} {s : pPg} {F : List pFc} {L : List pLg}
theorem l_303 {G : xG_} {sg rd : Int} (hf : 40 < f) (hw : wPg s) (hh : h < 4) (ho : o = 123 + 29 * h) (hb : b = 243 ∨ b = 247) (hN : rNs G 2 s.1) (hPn : rPn G 2 s) (hF : rFa G b F) (hi : i < F.length) (hL : rLg G o L) (hl : L.length < 12000) (hrd : G o 2 = rd) :
    ∃ G', g303 f o sg b (i : Int) G = some G' ∧ rLg G' o (L ++ [(rd, sg, F.getD i dFc)]) ∧ (∀ p, p < 16 → G' (o + 19) p = G (o + 19) p ∨ G' (o + 19) p = 1) ∧ (∀ p, ofP s (F.getD i dFc) p → G' (o + 19) p = 1) ∧ (∀ p, p < 16 → ¬ ofP s (F.getD i dFc) p → G' (o + 19) p = G (o + 19) p) ∧ ∀ a j, ¬ (a = o ∧ j = 10) → ¬ (o + 5 ≤ a ∧ a ≤ o + 9) → a ≠ o + 19 → G' a j = G a j := by
  have hl4 := hF.2.1
  obtain ⟨q1, q2, q3, q4⟩ := hF.2.2 i hi
  obtain ⟨l1, l2, l3⟩ := hL
  have hii : 0 ≤ (i : Int) ∧ (i : Int) < 3400 := by omega
  have hLL : 0 ≤ (L.length : Int) ∧ (L.length : Int) < 12000 := by omega
  have hbo : b + 3 < o ∨ o + 28 < b := by omega
  let G1 := xup2 (xup2 (xup2 (xup2 G (o + 5) L.length rd) (o + 6) L.length sg) (o + 8) L.length (F.getD i dFc).1) (o + 7) L.length ((F.getD i dFc).2.length : Int)
  have z1 : ∀ a j, ¬ (o + 5 ≤ a ∧ a ≤ o + 8 ∧ j = L.length) → G1 a j = G a j := fun a j y => by
    show xup2 _ _ _ _ _ _ = _
    rw [xup2_n (by omega), xup2_n (by omega), xup2_n (by omega), xup2_n (by omega)]
  have e0 : g303 f o sg b (i : Int) G = g303_58 f f o b (i : Int) 0 G1 := by
    have t1 : xup2 G (o + 5) L.length rd o 10 = (L.length : Int) := by rw [xup2_n (by omega)]; exact l1
    have t2 : xup2 (xup2 G (o + 5) L.length rd) (o + 6) L.length sg o 10 = (L.length : Int) := by rw [xup2_n (by omega)]; exact t1
    have t3 : xup2 (xup2 G (o + 5) L.length rd) (o + 6) L.length sg (b + 1) i = (F.getD i dFc).1 := by rw [xup2_n (by omega), xup2_n (by omega)]; exact q1
    have t4 : xup2 (xup2 (xup2 G (o + 5) L.length rd) (o + 6) L.length sg) (o + 8) L.length (F.getD i dFc).1 o 10 = (L.length : Int) := by rw [xup2_n (by omega)]; exact t2
    have t5 : xup2 (xup2 (xup2 G (o + 5) L.length rd) (o + 6) L.length sg) (o + 8) L.length (F.getD i dFc).1 (b + 3) i = ((F.getD i dFc).2.length : Int) := by rw [xup2_n (by omega), xup2_n (by omega), xup2_n (by omega)]; exact q2
    unfold g303
    rw [l1, hrd, if_pos hLL, Int.toNat_natCast, Option.bind_some, t1, if_pos hLL, Int.toNat_natCast, Option.bind_some, if_pos hii, t2, if_pos hLL, Int.toNat_natCast, Int.toNat_natCast, t3, Option.bind_some, if_pos hii, t4, if_pos hLL, t5, Int.toNat_natCast, Option.bind_some]
  have loop : ∀ (d k fu : Nat) (Z : xG_), k + d = 4 → d < fu → (∀ a j, ¬ (a = o + 9 ∧ 4 * L.length ≤ j ∧ j < 4 * L.length + 4) → Z a j = G1 a j) → (∀ j, j < k → Z (o + 9) (4 * L.length + j) = (F.getD i dFc).2.getD j 0) → ∃ Z' fu', g303_58 f fu o b (i : Int) (k : Int) Z = g303_58 f (fu' + 1) o b (i : Int) 4 Z' ∧ (∀ a j, ¬ (a = o + 9 ∧ 4 * L.length ≤ j ∧ j < 4 * L.length + 4) → Z' a j = G1 a j) ∧ ∀ j, j < 4 → Z' (o + 9) (4 * L.length + j) = (F.getD i dFc).2.getD j 0 := by
    intro d
    induction d with
    | zero =>
      intro k fu Z h1 h2 h3 h4
      obtain ⟨fu, rfl⟩ : ∃ t, fu = t + 1 := ⟨fu - 1, by omega⟩
      have : k = 4 := by omega
      subst this
      exact ⟨Z, fu, rfl, h3, h4⟩
    | succ d ih =>
      intro k fu Z h1 h2 h3 h4
      obtain ⟨fu, rfl⟩ : ∃ t, fu = t + 1 := ⟨fu - 1, by omega⟩
      have e1 : xwr (xwr (4 * (i : Int)) + (k : Int)) = ((4 * i + k : Nat) : Int) := by
        rw [xwr_g (4 * (i : Int)) (by omega) (by omega), xwr_g _ (by omega) (by omega)]; omega
      have e2 : xwr (xwr (4 * (L.length : Int)) + (k : Int)) = ((4 * L.length + k : Nat) : Int) := by
        rw [xwr_g (4 * (L.length : Int)) (by omega) (by omega), xwr_g _ (by omega) (by omega)]; omega
      have e3 : xwr ((k : Int) + 1) = ((k + 1 : Nat) : Int) := by rw [xwr_g _ (by omega) (by omega)]; omega
      have z10 : Z o 10 = (L.length : Int) := by rw [h3 _ _ (by omega), z1 _ _ (by omega)]; exact l1
      have zv : Z (b + 2) (4 * i + k) = (F.getD i dFc).2.getD k 0 := by rw [h3 _ _ (by omega), z1 _ _ (by omega)]; exact q4 k (by omega)
      obtain ⟨Z', fu', k1, k2, k3⟩ := ih (k + 1) fu (xup2 Z (o + 9) (4 * L.length + k) ((F.getD i dFc).2.getD k 0)) (by omega) (by omega) (fun a j y => by rw [xup2_n (by omega)]; exact h3 a j y) (fun j hj => by
        by_cases cj : j = k
        · rw [cj, xup2_s]
        · rw [xup2_n (by omega)]; exact h4 j (by omega))
      refine ⟨Z', fu', ?_, k2, k3⟩
      rw [← k1]
      show g303_58b (g303_58 f fu) f _ _ _ _ _ = _
      unfold g303_58b
      rw [if_neg (by omega), e1, z10, e2, if_pos (by omega), if_pos (by omega), Int.toNat_natCast, Int.toNat_natCast, zv, Option.bind_some, e3]
  obtain ⟨Z, fu, k1, k2, k3⟩ := loop 4 0 f G1 (by omega) (by omega) (fun _ _ _ => rfl) (fun j hj => absurd hj (by omega))
  have k1' : g303_58 f f o b (i : Int) 0 G1 = _ := k1
  let G2 := xup2 Z o 10 ((L.length + 1 : Nat) : Int)
  have z2 : ∀ a j, ¬ (a = o ∧ j = 10) → G2 a j = Z a j := fun a j y => xup2_n y
  have zz : ∀ a j, ¬ (a = o ∧ j = 10) → ¬ (o + 5 ≤ a ∧ a ≤ o + 9) → G2 a j = G a j := fun a j y1 y2 => by rw [z2 a j y1, k2 a j (by omega), z1 a j (by omega)]
  have hN2 : rNs G2 2 s.1 := ⟨by rw [zz _ _ (by omega) (by omega)]; exact hN.1, hN.2.1, fun k hk => by rw [zz _ _ (by omega) (by omega)]; exact hN.2.2 k hk⟩
  have hLog : rLg G2 o (L ++ [(rd, sg, F.getD i dFc)]) := by
    refine ⟨by rw [List.length_append]; exact xup2_s _ _ _ _, by rw [List.length_append]; exact hl, fun k hk => ?_⟩
    rw [List.length_append] at hk
    have hk' : k < L.length + 1 := hk
    by_cases ck : k = L.length
    · have e : (L ++ [(rd, sg, F.getD i dFc)]).getD k dLg = (rd, sg, F.getD i dFc) := by rw [getD_1, if_pos ck]
      rw [e, ck]
      refine ⟨?_, ?_, ?_, ?_, q3, fun j hj => by rw [z2 _ _ (by omega)]; exact k3 j hj⟩
      · rw [z2 _ _ (by omega), k2 _ _ (by omega)]; show xup2 _ _ _ _ _ _ = _; rw [xup2_n (by omega), xup2_n (by omega), xup2_n (by omega), xup2_s]
      · rw [z2 _ _ (by omega), k2 _ _ (by omega)]; show xup2 _ _ _ _ _ _ = _; rw [xup2_n (by omega), xup2_n (by omega), xup2_s]
      · rw [z2 _ _ (by omega), k2 _ _ (by omega)]; show xup2 _ _ _ _ _ _ = _; rw [xup2_n (by omega), xup2_s]
      · rw [z2 _ _ (by omega), k2 _ _ (by omega)]; exact xup2_s _ _ _ _
    · have e : (L ++ [(rd, sg, F.getD i dFc)]).getD k dLg = L.getD k dLg := by rw [getD_1, if_neg ck]
      rw [e]
      obtain ⟨b1, b2, b3, b4, b5, b6⟩ := l3 k (by omega)
      refine ⟨by rw [z2 _ _ (by omega), k2 _ _ (by omega), z1 _ _ (by omega)]; exact b1, by rw [z2 _ _ (by omega), k2 _ _ (by omega), z1 _ _ (by omega)]; exact b2, by rw [z2 _ _ (by omega), k2 _ _ (by omega), z1 _ _ (by omega)]; exact b3, by rw [z2 _ _ (by omega), k2 _ _ (by omega), z1 _ _ (by omega)]; exact b4, b5, fun j hj => by rw [z2 _ _ (by omega), k2 _ _ (by omega), z1 _ _ (by omega)]; exact b6 j hj⟩
  have ef : g303_58 f (fu + 1) o b (i : Int) 4 Z = (if pIdx s.1 (F.getD i dFc).1 = -1 then some G2 else (if 0 ≤ pIdx s.1 (F.getD i dFc).1 ∧ pIdx s.1 (F.getD i dFc).1 < 16 then (if ¬ G2 4 (pIdx s.1 (F.getD i dFc).1).toNat = ((F.getD i dFc).2.length : Int) then some G2 else some (xup2 G2 (o + 19) (pIdx s.1 (F.getD i dFc).1).toNat 1)) else none)) := by
    have z10 : Z o 10 = (L.length : Int) := by rw [k2 _ _ (by omega), z1 _ _ (by omega)]; exact l1
    have e1 : xwr ((L.length : Int) + 1) = ((L.length + 1 : Nat) : Int) := by rw [xwr_g _ (by omega) (by omega)]; omega
    have g1 : G2 (b + 1) i = (F.getD i dFc).1 := by rw [zz _ _ (by omega) (by omega)]; exact q1
    have g3 : G2 (b + 3) i = ((F.getD i dFc).2.length : Int) := by rw [zz _ _ (by omega) (by omega)]; exact q2
    show g303_58b (g303_58 f fu) f _ _ _ _ _ = _
    unfold g303_58b g303_156
    rw [if_pos (by decide), z10, e1, Option.bind_some, if_pos hii, Int.toNat_natCast]
    show Option.bind (g205 f 2 (G2 (b + 1) i) G2) _ = _
    rw [g1, hN2.idx (by omega) (by omega), Option.bind_some]
    simp only [Nat.reduceAdd, if_pos hii, g3]
    by_cases cc : 0 ≤ pIdx s.1 (F.getD i dFc).1 ∧ pIdx s.1 (F.getD i dFc).1 < 16
    · simp only [if_pos cc, Option.bind_some]
    · simp only [if_neg cc]
  rw [e0, k1', ef]
  rcases pIdx_get (x := (F.getD i dFc).1) hw.2.1 with ⟨c1, c2⟩ | ⟨p, p1, p2, p3, p4⟩
  · rw [if_pos c1]
    have nof : ∀ p, ¬ ofP s (F.getD i dFc) p := fun p hp => c2 (by
      rw [← hp.2.1]
      unfold qNm
      rw [getD_e hp.1]
      exact List.getElem_mem _)
    exact ⟨G2, rfl, hLog, fun p hp => .inl (zz _ _ (by omega) (by omega)), fun p hp => absurd hp (nof p), fun p hp _ => zz _ _ (by omega) (by omega), fun a j y1 y2 y3 => zz a j y1 y2⟩
  · have hnp := hw.1
    have h4 : G2 4 p = (qN s p : Int) := by
      rw [zz _ _ (by omega) (by omega), (qN_c hw p).1]
      exact hPn p p1
    have onlyp : ∀ p', ofP s (F.getD i dFc) p' → p' = p := fun p' h => p4 p' h.1 h.2.1
    rw [p2, if_neg (by omega), if_pos (by omega), Int.toNat_natCast, h4]
    by_cases cn : qN s p = (F.getD i dFc).2.length
    · have nn : ¬ ¬ (qN s p : Int) = ((F.getD i dFc).2.length : Int) := fun q => q (by omega)
      rw [if_neg nn]
      refine ⟨xup2 G2 (o + 19) p 1, rfl, hLog.ge (xup2_n (by omega)) (fun a j _ _ => xup2_n (by omega)), fun p' hp' => ?_, fun p' hp' => ?_, fun p' hp' hno => ?_, fun a j y1 y2 y3 => by rw [xup2_n (by omega)]; exact zz a j y1 y2⟩
      · by_cases cp : p' = p
        · rw [cp, xup2_s]; exact .inr rfl
        · rw [xup2_n (by omega)]; exact .inl (zz _ _ (by omega) (by omega))
      · rw [onlyp p' hp', xup2_s]
      · have : p' ≠ p := fun q => hno (by rw [q]; exact ⟨p1, p3, cn⟩)
        rw [xup2_n (by omega)]
        exact zz _ _ (by omega) (by omega)
    · have nn : ¬ (qN s p : Int) = ((F.getD i dFc).2.length : Int) := by omega
      rw [if_pos nn]
      refine ⟨G2, rfl, hLog, fun p hp => .inl (zz _ _ (by omega) (by omega)), fun p' hp' => ?_, fun p hp _ => zz _ _ (by omega) (by omega), fun a j y1 y2 y3 => zz a j y1 y2⟩
      have := onlyp p' hp'
      subst this
      exact absurd hp'.2.2 cn
end
end
section
/-! The reference's log: all that came and went in a round -/
def lgD (rd sg : Int) (A B : List pFc) : List pLg := (A.filter (fun y => ! decide (y ∈ B))).map (fun y => (rd, sg, y))
theorem lgD_in {rd sg : Int} {A B : List pFc} {y : pFc} (h : y ∈ B) : lgD rd sg (y :: A) B = lgD rd sg A B := by
  unfold lgD
  rw [List.filter_cons_of_neg (by rw [decide_eq_true h]; decide)]
theorem lgD_out {rd sg : Int} {A B : List pFc} {y : pFc} (h : y ∉ B) : lgD rd sg (y :: A) B = (rd, sg, y) :: lgD rd sg A B := by
  unfold lgD
  rw [List.filter_cons_of_pos (by rw [decide_eq_false h]; decide)]
  rfl
theorem lgD_len {rd sg : Int} {A B : List pFc} : (lgD rd sg A B).length ≤ A.length := by
  unfold lgD
  rw [List.length_map]
  exact List.length_filter_le _ _
theorem lgD_mem {rd sg : Int} {A B : List pFc} {x : pLg} : x ∈ lgD rd sg A B ↔ x.1 = rd ∧ x.2.1 = sg ∧ x.2.2 ∈ A ∧ x.2.2 ∉ B := by
  unfold lgD
  rw [List.mem_map]
  constructor
  · rintro ⟨y, h1, rfl⟩
    rw [List.mem_filter] at h1
    refine ⟨rfl, rfl, h1.1, fun q => ?_⟩
    have := h1.2
    rw [decide_eq_true q] at this
    cases this
  · rintro ⟨h1, h2, h3, h4⟩
    obtain ⟨a, b, y⟩ := x
    refine ⟨y, ?_, ?_⟩
    · rw [List.mem_filter]
      exact ⟨h3, by rw [decide_eq_false h4]; rfl⟩
    · have h1' : a = rd := h1
      have h2' : b = sg := h2
      rw [h1', h2']
theorem drop_d {α : Type} {d : α} {xs : List α} {k : Nat} (h : k < xs.length) : xs.drop k = xs.getD k d :: xs.drop (k + 1) := by
  rw [getD_e h]
  exact List.drop_eq_getElem_cons h
/-- which predicates have changed -/
def rCh (G : xG_) (o : Nat) (s : pPg) (T : List pLg) : Prop := ∀ p, p < 16 → (G (o + 19) p = 1 ↔ ∃ x, x ∈ T ∧ ofP s x.2.2 p) ∧ (G (o + 19) p = 0 ∨ G (o + 19) p = 1)
def fLg (o : Nat) (G G' : xG_) : Prop := ∀ a j, ¬ (a = o ∧ j = 10) → ¬ (o + 5 ≤ a ∧ a ≤ o + 9) → a ≠ o + 19 → G' a j = G a j
/-- where a round's facts stand -/
def eLg (G : xG_) (o : Nat) (s : pPg) (rd : Int) (A B : List pFc) : Prop := rNs G 2 s.1 ∧ rPn G 2 s ∧ rFa G 243 B ∧ rFa G 247 A ∧ G o 2 = rd
theorem eLg.ge {G G' : xG_} {o h : Nat} {s : pPg} {rd : Int} {A B : List pFc} (hh : h < 4) (ho : o = 123 + 29 * h) (e : eLg G o s rd A B) (fr : fLg o G G') : eLg G' o s rd A B := by
  obtain ⟨e1, e2, e3, e4, e5⟩ := e
  refine ⟨⟨by rw [fr _ _ (by omega) (by omega) (by omega)]; exact e1.1, e1.2.1, fun k hk => by rw [fr _ _ (by omega) (by omega) (by omega)]; exact e1.2.2 k hk⟩, fun y hy => by rw [fr _ _ (by omega) (by omega) (by omega)]; exact e2 y hy, e3.ge (fr _ _ (by omega) (by omega) (by omega)) (fun a j _ _ => fr _ _ (by omega) (by omega) (by omega)), e4.ge (fr _ _ (by omega) (by omega) (by omega)) (fun a j _ _ => fr _ _ (by omega) (by omega) (by omega)), by rw [fr _ _ (by omega) (by omega) (by omega)]; exact e5⟩
theorem fLg.tr {o : Nat} {G G' G2 : xG_} (h : fLg o G G') (h' : fLg o G' G2) : fLg o G G2 := fun a j y1 y2 y3 => by rw [h' a j y1 y2 y3]; exact h a j y1 y2 y3
section
variable {f o h : Nat} {s : pPg} {A B : List pFc} {L : List pLg} {rd : Int}
theorem l_lg1 {G : xG_} {T : List pLg} {sg : Int} {b i : Nat} {F : List pFc} (hf : 40 < f) (hw : wPg s) (hh : h < 4) (ho : o = 123 + 29 * h) (he : eLg G o s rd A B) (hbF : b = 243 ∧ F = B ∨ b = 247 ∧ F = A) (hi : i < F.length) (hL : rLg G o (L ++ T)) (hl : (L ++ T).length < 12000) (hC : rCh G o s T) :
    ∃ G', g303 f o sg b (i : Int) G = some G' ∧ fLg o G G' ∧ rLg G' o (L ++ (T ++ [(rd, sg, F.getD i dFc)])) ∧ rCh G' o s (T ++ [(rd, sg, F.getD i dFc)]) := by
  have hF : rFa G b F := by
    rcases hbF with ⟨rfl, rfl⟩ | ⟨rfl, rfl⟩
    · exact he.2.2.1
    · exact he.2.2.2.1
  obtain ⟨G', k1, k2, k3, k4, k5, k6⟩ := l_303 (sg := sg) hf hw hh ho (by rcases hbF with h | h <;> omega) he.1 he.2.1 hF hi hL hl he.2.2.2.2
  refine ⟨G', k1, k6, by rw [← List.append_assoc]; exact k2, fun p hp => ?_⟩
  by_cases c : ofP s (F.getD i dFc) p
  · exact ⟨⟨fun _ => ⟨_, List.mem_append_right _ (List.mem_singleton.mpr rfl), c⟩, fun _ => k4 p c⟩, .inr (k4 p c)⟩
  · rw [k5 p hp c]
    refine ⟨?_, (hC p hp).2⟩
    rw [(hC p hp).1]
    constructor
    · rintro ⟨x, x1, x2⟩
      exact ⟨x, List.mem_append_left _ x1, x2⟩
    · rintro ⟨x, x1, x2⟩
      rcases List.mem_append.mp x1 with x1 | x1
      · exact ⟨x, x1, x2⟩
      · rw [List.mem_singleton.mp x1] at x2
        exact absurd x2 c
theorem l_304_75 {n0 : Nat} (hf : 3600 < f) (hw : wPg s) (hh : h < 4) (ho : o = 123 + 29 * h) (hsB : B.Pairwise fLt) : ∀ (d i fu : Nat) (G : xG_) (T : List pLg), i + d = A.length → d < fu → eLg G o s rd A B → rLg G o (L ++ T) → (L ++ T).length + d ≤ 12000 → rCh G o s T →
    ∃ G', g304_75 f fu o (n0 : Int) (i : Int) G = some (xwr (((L ++ (T ++ lgD rd 1 (A.drop i) B)).length : Int) - (n0 : Int)), G') ∧ fLg o G G' ∧ rLg G' o (L ++ (T ++ lgD rd 1 (A.drop i) B)) ∧ rCh G' o s (T ++ lgD rd 1 (A.drop i) B) := by
  intro d
  induction d with
  | zero =>
    intro i fu G T h1 h2 he hL hl hC
    obtain ⟨fu, rfl⟩ : ∃ t, fu = t + 1 := ⟨fu - 1, by omega⟩
    have e : T ++ lgD rd 1 (A.drop i) B = T := by
      rw [List.drop_eq_nil_of_le (by omega)]
      exact List.append_nil T
    rw [e]
    refine ⟨G, ?_, fun _ _ _ _ _ => rfl, hL, hC⟩
    show g304_75b (g304_75 f fu) f _ _ _ _ = _
    unfold g304_75b
    rw [he.2.2.2.1.1, if_pos (by omega), hL.1]
  | succ d ih =>
    intro i fu G T h1 h2 he hL hl hC
    obtain ⟨fu, rfl⟩ : ∃ t, fu = t + 1 := ⟨fu - 1, by omega⟩
    have hi : i < A.length := by omega
    have hA := he.2.2.2.1
    have hlA := hA.2.1
    obtain ⟨q1, q2, q3, q4⟩ := hA.2.2 i hi
    have hii : 0 ≤ (i : Int) ∧ (i : Int) < 3400 := by omega
    have e1 : xwr (4 * (i : Int)) = ((4 * i : Nat) : Int) := by rw [xwr_g _ (by omega) (by omega)]; omega
    have e2 : xwr ((i : Int) + 1) = ((i + 1 : Nat) : Int) := by rw [xwr_g _ (by omega) (by omega)]; omega
    have hv : rVe G (247 + 2) (4 * i) (A.getD i dFc).2 := hA.ve (by unfold isFb; omega) hi
    have h97 := l_197 (f := f) (b := 243) (x := A.getD i dFc) (by omega) (by unfold isFb; omega) he.2.2.1 hsB hv
    have st : g304_75 f (fu + 1) o (n0 : Int) (i : Int) G = (if A.getD i dFc ∈ B then g304_75 f fu o (n0 : Int) ((i + 1 : Nat) : Int) G else (g303 f o 1 247 (i : Int) G).bind fun G1 => g304_75 f fu o (n0 : Int) ((i + 1 : Nat) : Int) G1) := by
      show g304_75b (g304_75 f fu) f _ _ _ _ = _
      unfold g304_75b g304_135
      rw [hA.1, if_neg (by omega), if_pos hii, if_pos hii, Int.toNat_natCast, q1, q2, e1, h97, Option.bind_some, e2]
      by_cases c : A.getD i dFc ∈ B
      · rw [if_pos c, if_pos c]
        rfl
      · rw [if_neg c, if_neg c]
        rfl
    rw [drop_d (d := dFc) hi]
    by_cases c : A.getD i dFc ∈ B
    · rw [lgD_in c]
      obtain ⟨G', k1, k2⟩ := ih (i + 1) fu G T (by omega) (by omega) he hL (by omega) hC
      exact ⟨G', by rw [st, if_pos c]; exact k1, k2⟩
    · obtain ⟨G1, r1, r2, r3, r4⟩ := l_lg1 (f := f) (sg := 1) (b := 247) (F := A) (by omega) hw hh ho he (.inr ⟨rfl, rfl⟩) hi hL (by omega) hC
      obtain ⟨G', k1, k2, k3, k4⟩ := ih (i + 1) fu G1 (T ++ [(rd, 1, A.getD i dFc)]) (by omega) (by omega) (he.ge hh ho r2) r3 (by rw [List.length_append, List.length_append, List.length_singleton] at *; omega) r4
      have e : T ++ [(rd, 1, A.getD i dFc)] ++ lgD rd 1 (A.drop (i + 1)) B = T ++ lgD rd 1 (A.getD i dFc :: A.drop (i + 1)) B := by
        rw [lgD_out c, List.append_assoc]
        rfl
      rw [e] at k1 k3 k4
      exact ⟨G', by rw [st, if_neg c, r1]; exact k1, r2.tr k2, k3, k4⟩
theorem l_304_7 {n0 : Nat} (hf : 3600 < f) (hw : wPg s) (hh : h < 4) (ho : o = 123 + 29 * h) (hsA : A.Pairwise fLt) (hsB : B.Pairwise fLt) : ∀ (d i fu : Nat) (G : xG_) (T : List pLg), i + d = B.length → d < fu → eLg G o s rd A B → rLg G o (L ++ T) → (L ++ T).length + d + A.length ≤ 12000 → rCh G o s T →
    ∃ G', g304_7 f fu o (n0 : Int) (i : Int) G = some (xwr (((L ++ (T ++ lgD rd (-1) (B.drop i) A ++ lgD rd 1 A B)).length : Int) - (n0 : Int)), G') ∧ fLg o G G' ∧ rLg G' o (L ++ (T ++ lgD rd (-1) (B.drop i) A ++ lgD rd 1 A B)) ∧ rCh G' o s (T ++ lgD rd (-1) (B.drop i) A ++ lgD rd 1 A B) := by
  intro d
  induction d with
  | zero =>
    intro i fu G T h1 h2 he hL hl hC
    obtain ⟨fu, rfl⟩ : ∃ t, fu = t + 1 := ⟨fu - 1, by omega⟩
    have hlA := he.2.2.2.1.2.1
    have e : T ++ lgD rd (-1) (B.drop i) A = T := by
      rw [List.drop_eq_nil_of_le (by omega)]
      exact List.append_nil T
    rw [e]
    obtain ⟨G', k1, k2, k3, k4⟩ := l_304_75 (f := f) (n0 := n0) (rd := rd) hf hw hh ho hsB A.length 0 f G T (by omega) (by omega) he hL (by omega) hC
    rw [List.drop_zero] at k1 k3 k4
    refine ⟨G', ?_, k2, k3, k4⟩
    rw [← k1]
    show g304_7b (g304_7 f fu) f _ _ _ _ = _
    unfold g304_7b
    rw [he.2.2.1.1, if_pos (by omega)]
    rfl
  | succ d ih =>
    intro i fu G T h1 h2 he hL hl hC
    obtain ⟨fu, rfl⟩ : ∃ t, fu = t + 1 := ⟨fu - 1, by omega⟩
    have hi : i < B.length := by omega
    have hB := he.2.2.1
    have hlB := hB.2.1
    obtain ⟨q1, q2, q3, q4⟩ := hB.2.2 i hi
    have hii : 0 ≤ (i : Int) ∧ (i : Int) < 3400 := by omega
    have e1 : xwr (4 * (i : Int)) = ((4 * i : Nat) : Int) := by rw [xwr_g _ (by omega) (by omega)]; omega
    have e2 : xwr ((i : Int) + 1) = ((i + 1 : Nat) : Int) := by rw [xwr_g _ (by omega) (by omega)]; omega
    have hv : rVe G (243 + 2) (4 * i) (B.getD i dFc).2 := hB.ve (by unfold isFb; omega) hi
    have h97 := l_197 (f := f) (b := 247) (x := B.getD i dFc) (by omega) (by unfold isFb; omega) he.2.2.2.1 hsA hv
    have st : g304_7 f (fu + 1) o (n0 : Int) (i : Int) G = (if B.getD i dFc ∈ A then g304_7 f fu o (n0 : Int) ((i + 1 : Nat) : Int) G else (g303 f o (-1) 243 (i : Int) G).bind fun G1 => g304_7 f fu o (n0 : Int) ((i + 1 : Nat) : Int) G1) := by
      show g304_7b (g304_7 f fu) f _ _ _ _ = _
      unfold g304_7b g304_67
      rw [hB.1, if_neg (by omega), if_pos hii, if_pos hii, Int.toNat_natCast, q1, q2, e1, h97, Option.bind_some, e2]
      by_cases c : B.getD i dFc ∈ A
      · rw [if_pos c, if_pos c]
        rfl
      · rw [if_neg c, if_neg c]
        rfl
    rw [drop_d (d := dFc) hi]
    by_cases c : B.getD i dFc ∈ A
    · rw [lgD_in c]
      obtain ⟨G', k1, k2⟩ := ih (i + 1) fu G T (by omega) (by omega) he hL (by omega) hC
      exact ⟨G', by rw [st, if_pos c]; exact k1, k2⟩
    · obtain ⟨G1, r1, r2, r3, r4⟩ := l_lg1 (f := f) (sg := -1) (b := 243) (F := B) (by omega) hw hh ho he (.inl ⟨rfl, rfl⟩) hi hL (by omega) hC
      obtain ⟨G', k1, k2, k3, k4⟩ := ih (i + 1) fu G1 (T ++ [(rd, -1, B.getD i dFc)]) (by omega) (by omega) (he.ge hh ho r2) r3 (by rw [List.length_append, List.length_append, List.length_singleton] at *; omega) r4
      have e : T ++ [(rd, -1, B.getD i dFc)] ++ lgD rd (-1) (B.drop (i + 1)) A = T ++ lgD rd (-1) (B.getD i dFc :: B.drop (i + 1)) A := by
        rw [lgD_out c, List.append_assoc]
        rfl
      rw [e] at k1 k3 k4
      exact ⟨G', by rw [st, if_neg c, r1]; exact k1, r2.tr k2, k3, k4⟩
/-- what a round logs -/
def lgR (rd : Int) (A B : List pFc) : List pLg := lgD rd (-1) B A ++ lgD rd 1 A B
theorem l_304 {G : xG_} (hf : 3600 < f) (hw : wPg s) (hh : h < 4) (ho : o = 123 + 29 * h) (hsA : A.Pairwise fLt) (hsB : B.Pairwise fLt) (he : eLg G o s rd A B) (hL : rLg G o L) (hl : L.length + B.length + A.length ≤ 12000) (hC : ∀ p, p < 16 → G (o + 19) p = 0) :
    ∃ G', g304 f o G = some (((lgR rd A B).length : Int), G') ∧ fLg o G G' ∧ rLg G' o (L ++ lgR rd A B) ∧ rCh G' o s (lgR rd A B) := by
  have hlB := he.2.2.1.2.1
  obtain ⟨G', k1, k2, k3, k4⟩ := l_304_7 (f := f) (n0 := L.length) (rd := rd) (L := L) hf hw hh ho hsA hsB B.length 0 f G [] (by omega) (by omega) he (by rw [List.append_nil]; exact hL) (by rw [List.append_nil]; omega) (fun p hp => by
    rw [hC p hp]
    exact ⟨⟨fun q => absurd q (by decide), fun ⟨x, x1, _⟩ => by cases x1⟩, .inl rfl⟩)
  rw [List.drop_zero, List.nil_append] at k1 k3 k4
  refine ⟨G', ?_, k2, k3, k4⟩
  have z : ((L ++ lgR rd A B).length : Int) - (L.length : Int) = ((lgR rd A B).length : Int) := by rw [List.length_append]; omega
  have z2 : (lgR rd A B).length ≤ 12000 := by
    unfold lgR
    rw [List.length_append]
    have := lgD_len (rd := rd) (sg := -1) (A := B) (B := A)
    have := lgD_len (rd := rd) (sg := 1) (A := A) (B := B)
    omega
  have k1' : g304_7 f f o (L.length : Int) (0 : Nat) G = some (xwr (((L ++ lgR rd A B).length : Int) - (L.length : Int)), G') := k1
  rw [z, xwr_g _ (by omega) (by omega)] at k1'
  rw [← k1']
  unfold g304
  rw [hL.1]
  rfl
end
end
section
/-! The reference counts how often a ring was worked -/
/-- p is worked in a round: the edition is new, or what its ring reads has changed -/
def qWc (s : pPg) (fr : Prop) (C : Nat → Prop) (p : Nat) : Prop := pIn s.2.1 (p : Int) = false ∧ (fr ∨ ∃ z, z < s.1.length ∧ qK s z = qK s p ∧ ∃ x, x < s.1.length ∧ (qRd s.2.2.2.2.1 z).testBit x = true ∧ C x)
theorem len18 {o h : Nat} (hh : h < 4) (ho : o = 123 + 29 * h) : ((xl_t (o + 18)).2.2 : Int) = 16 := by
  obtain rfl | rfl | rfl | rfl : h = 0 ∨ h = 1 ∨ h = 2 ∨ h = 3 := by omega
  all_goals (subst ho; decide +kernel)
section
variable {f o h : Nat} {s : pPg} {C : Nat → Prop} {fr : Int}
/-- what of the program and of the changes countWorked reads -/
def eCw (G : xG_) (o : Nat) (s : pPg) (C : Nat → Prop) : Prop := G 2 8 = (s.1.length : Int) ∧ rMk G 6 s.1.length (qRd s.2.2.2.2.1) ∧ rMk G 7 s.1.length (qK s) ∧ (∀ p, p < s.1.length → G 8 p = b01 (pIn s.2.1 (p : Int))) ∧ ∀ p, p < 16 → (G (o + 19) p = 1 ↔ C p)
theorem l_305_74 {G : xG_} {r2 : Nat → Int → Int → xG_ → Option xG_} {r34 : Nat → Int → Int → Int → Int → xG_ → Option xG_} {p z : Nat} (hok : qOk s) (he : eCw G o s C) (hz : z < s.1.length) : ∀ (d x fu : Nat) (ac : Int), x + d = s.1.length → d < fu →
    ∃ ac', g305_74 r2 r34 f fu o fr (p : Int) ac (z : Int) (x : Int) G = r34 o fr (p : Int) ac' ((z + 1 : Nat) : Int) G ∧ (ac' = 0 ↔ ac = 0 ∧ ∀ y, x ≤ y → y < s.1.length → ¬ ((qRd s.2.2.2.2.1 z).testBit y = true ∧ C y)) := by
  have hnp := hok.1.1
  intro d
  induction d with
  | zero =>
    intro x fu ac h1 h2
    obtain ⟨fu, rfl⟩ : ∃ t, fu = t + 1 := ⟨fu - 1, by omega⟩
    refine ⟨ac, ?_, fun q => ⟨q, fun y y1 y2 => by omega⟩, fun q => q.1⟩
    have e : xwr ((z : Int) + 1) = ((z + 1 : Nat) : Int) := by rw [xwr_g _ (by omega) (by omega)]; omega
    show g305_74b r2 r34 (g305_74 r2 r34 f fu) f _ _ _ _ _ _ _ = _
    unfold g305_74b g305_134
    rw [he.1, if_pos (by omega), e]
  | succ d ih =>
    intro x fu ac h1 h2
    obtain ⟨fu, rfl⟩ : ∃ t, fu = t + 1 := ⟨fu - 1, by omega⟩
    have e : xwr ((x : Int) + 1) = ((x + 1 : Nat) : Int) := by rw [xwr_g _ (by omega) (by omega)]; omega
    have hrd : ∀ p, qRd s.2.2.2.2.1 p < 65536 := qRd_lt (wRq_of hok.1.2.2.2.2.2.2) hnp
    have hzz := hrd z
    have hb := xbit (a := qRd s.2.2.2.2.1 z) (m := x) (by omega) (by omega)
    have hc := he.2.2.2.2 x (by omega)
    have st : ∀ {a : Int}, (a = 0 ↔ ac = 0 ∧ ¬ ((qRd s.2.2.2.2.1 z).testBit x = true ∧ C x)) → g305_74 r2 r34 f (fu + 1) o fr (p : Int) ac (z : Int) (x : Int) G = g305_74 r2 r34 f fu o fr (p : Int) a (z : Int) ((x + 1 : Nat) : Int) G → ∃ ac', g305_74 r2 r34 f (fu + 1) o fr (p : Int) ac (z : Int) (x : Int) G = r34 o fr (p : Int) ac' ((z + 1 : Nat) : Int) G ∧ (ac' = 0 ↔ ac = 0 ∧ ∀ y, x ≤ y → y < s.1.length → ¬ ((qRd s.2.2.2.2.1 z).testBit y = true ∧ C y)) := fun {a} ha hs => by
      obtain ⟨a', k1, k2⟩ := ih (x + 1) fu a (by omega) (by omega)
      refine ⟨a', by rw [hs]; exact k1, ?_⟩
      rw [k2, ha]
      constructor
      · rintro ⟨⟨q1, q2⟩, q3⟩
        refine ⟨q1, fun y y1 y2 => ?_⟩
        by_cases c : y = x
        · rw [c]; exact q2
        · exact q3 y (by omega) y2
      · rintro ⟨q1, q2⟩
        exact ⟨⟨q1, q2 x (by omega) (by omega)⟩, fun y y1 y2 => q2 y (by omega) y2⟩
    by_cases c0 : ac = 0
    · by_cases c1 : (qRd s.2.2.2.2.1 z).testBit x = true ∧ C x
      · refine st (a := 1) ⟨fun q => absurd q (by decide), fun q => absurd c1 q.2⟩ ?_
        have n1 : ¬ ¬ ac = 0 := fun q => q c0
        have n2 : ¬ ¬ xand (xshr ((qRd s.2.2.2.2.1 z : Nat) : Int) (x : Int)) 1 = 1 := fun q => q (hb.mpr c1.1)
        have n3 : ¬ ¬ G (o + 19) x = 1 := fun q => q (hc.mpr c1.2)
        show g305_74b r2 r34 (g305_74 r2 r34 f fu) f _ _ _ _ _ _ _ = _
        unfold g305_74b g305_121 g305_126
        simp only [Nat.reduceAdd]
        rw [he.1, if_neg (by omega), if_neg n1, if_pos (by omega), Int.toNat_natCast, he.2.1 z hz, if_neg n2, if_pos (by omega), Int.toNat_natCast, if_neg n3, e]
      · refine st (a := 0) ⟨fun _ => ⟨c0, c1⟩, fun _ => rfl⟩ ?_
        have n1 : ¬ ¬ ac = 0 := fun q => q c0
        by_cases c2 : (qRd s.2.2.2.2.1 z).testBit x = true
        · have n2 : ¬ ¬ xand (xshr ((qRd s.2.2.2.2.1 z : Nat) : Int) (x : Int)) 1 = 1 := fun q => q (hb.mpr c2)
          have n3 : ¬ G (o + 19) x = 1 := fun q => c1 ⟨c2, hc.mp q⟩
          show g305_74b r2 r34 (g305_74 r2 r34 f fu) f _ _ _ _ _ _ _ = _
          unfold g305_74b g305_125 g305_126
          simp only [Nat.reduceAdd]
          rw [he.1, if_neg (by omega), if_neg n1, if_pos (by omega), Int.toNat_natCast, he.2.1 z hz, if_neg n2, if_pos (by omega), Int.toNat_natCast, if_pos n3, e]
        · have n2 : ¬ xand (xshr ((qRd s.2.2.2.2.1 z : Nat) : Int) (x : Int)) 1 = 1 := fun q => c2 (hb.mp q)
          show g305_74b r2 r34 (g305_74 r2 r34 f fu) f _ _ _ _ _ _ _ = _
          unfold g305_74b g305_125 g305_126
          simp only [Nat.reduceAdd]
          rw [he.1, if_neg (by omega), if_neg n1, if_pos (by omega), Int.toNat_natCast, he.2.1 z hz, if_pos n2, e]
    · refine st (a := 1) ⟨fun q => absurd q (by decide), fun q => absurd q.1 c0⟩ ?_
      show g305_74b r2 r34 (g305_74 r2 r34 f fu) f _ _ _ _ _ _ _ = _
      unfold g305_74b g305_121 g305_126
      rw [he.1, if_neg (by omega), if_pos c0, e]
theorem l_305_34 {G : xG_} {r2 : Nat → Int → Int → xG_ → Option xG_} {p : Nat} (hf : 20 < f) (hh : h < 4) (ho : o = 123 + 29 * h) (hok : qOk s) (he : eCw G o s C) (hp : p < s.1.length) (hW : 0 ≤ G (o + 18) p ∧ G (o + 18) p < 1000000) : ∀ (d z fu : Nat) (ac : Int), z + d = s.1.length → d < fu →
    ∃ w : Int, g305_34 r2 f fu o fr (p : Int) ac (z : Int) G = r2 o fr ((p + 1 : Nat) : Int) (xup2 G (o + 18) p (G (o + 18) p + w)) ∧ (w = 0 ∨ w = 1) ∧ (w = 0 ↔ ac = 0 ∧ ∀ y, z ≤ y → y < s.1.length → qK s y = qK s p → ∀ x, x < s.1.length → ¬ ((qRd s.2.2.2.2.1 y).testBit x = true ∧ C x)) := by
  have hnp := hok.1.1
  intro d
  induction d with
  | zero =>
    intro z fu ac h1 h2
    obtain ⟨fu, rfl⟩ : ∃ t, fu = t + 1 := ⟨fu - 1, by omega⟩
    have e : xwr ((p : Int) + 1) = ((p + 1 : Nat) : Int) := by rw [xwr_g _ (by omega) (by omega)]; omega
    have hpp : 0 ≤ (p : Int) ∧ (p : Int) < 16 := by omega
    by_cases c0 : ac = 0
    · refine ⟨0, ?_, .inl rfl, fun _ => ⟨c0, fun y y1 y2 => by omega⟩, fun _ => rfl⟩
      show g305_34b r2 (g305_34 r2 f fu) f _ _ _ _ _ _ = _
      unfold g305_34b g305_157 g305_159
      rw [he.1, if_pos (by omega), if_pos hpp, if_pos c0, len18 hh ho, if_pos hpp, Option.bind_some, Int.toNat_natCast, e, xwr_g _ (by omega) (by omega)]
    · refine ⟨1, ?_, .inr rfl, fun q => absurd q (by decide), fun q => absurd q.1 c0⟩
      show g305_34b r2 (g305_34 r2 f fu) f _ _ _ _ _ _ = _
      unfold g305_34b g305_157 g305_159
      rw [he.1, if_pos (by omega), if_pos hpp, if_neg c0, len18 hh ho, if_pos hpp, Option.bind_some, Int.toNat_natCast, e, xwr_g _ (by omega) (by omega)]
  | succ d ih =>
    intro z fu ac h1 h2
    obtain ⟨fu, rfl⟩ : ∃ t, fu = t + 1 := ⟨fu - 1, by omega⟩
    have e : xwr ((z : Int) + 1) = ((z + 1 : Nat) : Int) := by rw [xwr_g _ (by omega) (by omega)]; omega
    have hpp : 0 ≤ (p : Int) ∧ (p : Int) < 16 := by omega
    have hzz : 0 ≤ (z : Int) ∧ (z : Int) < 16 := by omega
    have hz : z < s.1.length := by omega
    by_cases c1 : qK s z = qK s p
    · obtain ⟨a', k1, k2⟩ := l_305_74 (f := f) (fr := fr) (r2 := r2) (r34 := g305_34 r2 f fu) (p := p) hok he hz s.1.length 0 f ac (by omega) (by omega)
      obtain ⟨w, j1, j2, j3⟩ := ih (z + 1) fu a' (by omega) (by omega)
      refine ⟨w, ?_, j2, ?_⟩
      · rw [← j1, ← k1]
        show g305_34b r2 (g305_34 r2 f fu) f _ _ _ _ _ _ = _
        unfold g305_34b
        simp only [Nat.reduceAdd]
        rw [he.1, if_neg (by omega), if_pos hzz, if_pos hpp, Int.toNat_natCast, Int.toNat_natCast, he.2.2.1 z hz, he.2.2.1 p hp, if_pos (by rw [c1])]
        rfl
      · rw [j3, k2]
        constructor
        · rintro ⟨⟨q1, q2⟩, q3⟩
          refine ⟨q1, fun y y1 y2 y3 x x1 => ?_⟩
          by_cases c : y = z
          · rw [c]; exact q2 x (by omega) x1
          · exact q3 y (by omega) y2 y3 x x1
        · rintro ⟨q1, q2⟩
          exact ⟨⟨q1, fun x _ x1 => q2 z (by omega) hz c1 x x1⟩, fun y y1 y2 y3 x x1 => q2 y (by omega) y2 y3 x x1⟩
    · obtain ⟨w, j1, j2, j3⟩ := ih (z + 1) fu ac (by omega) (by omega)
      refine ⟨w, ?_, j2, ?_⟩
      · rw [← j1]
        have n1 : ¬ ((qK s z : Nat) : Int) = ((qK s p : Nat) : Int) := by omega
        show g305_34b r2 (g305_34 r2 f fu) f _ _ _ _ _ _ = _
        unfold g305_34b g305_134
        simp only [Nat.reduceAdd]
        rw [he.1, if_neg (by omega), if_pos hzz, if_pos hpp, Int.toNat_natCast, Int.toNat_natCast, he.2.2.1 z hz, he.2.2.1 p hp, if_neg n1, e]
      · rw [j3]
        constructor
        · rintro ⟨q1, q3⟩
          refine ⟨q1, fun y y1 y2 y3 x x1 => ?_⟩
          by_cases c : y = z
          · rw [c] at y3; exact absurd y3 c1
          · exact q3 y (by omega) y2 y3 x x1
        · rintro ⟨q1, q2⟩
          exact ⟨q1, fun y y1 y2 y3 x x1 => q2 y (by omega) y2 y3 x x1⟩
theorem eCw.ge {G G' : xG_} (hh : h < 4) (ho : o = 123 + 29 * h) (he : eCw G o s C) (fr : ∀ a j, a ≠ o + 18 → G' a j = G a j) : eCw G' o s C := by
  obtain ⟨e1, e2, e3, e4, e5⟩ := he
  exact ⟨by rw [fr _ _ (by omega)]; exact e1, fun p hp => by rw [fr _ _ (by omega)]; exact e2 p hp, fun p hp => by rw [fr _ _ (by omega)]; exact e3 p hp, fun p hp => by rw [fr _ _ (by omega)]; exact e4 p hp, fun p hp => by rw [fr _ _ (by omega)]; exact e5 p hp⟩
theorem l_305_2 (hf : 20 < f) (hh : h < 4) (ho : o = 123 + 29 * h) (hok : qOk s) : ∀ (d p fu : Nat) (G : xG_), p + d = s.1.length → d < fu → eCw G o s C → (∀ y, p ≤ y → y < 16 → 0 ≤ G (o + 18) y ∧ G (o + 18) y < 1000000) →
    ∃ G', g305_2 f fu o fr (p : Int) G = some G' ∧ (∀ a j, a ≠ o + 18 → G' a j = G a j) ∧ ∀ y, y < 16 → ((p ≤ y ∧ y < s.1.length ∧ qWc s (fr ≠ 0) C y) → G' (o + 18) y = G (o + 18) y + 1) ∧ (¬ (p ≤ y ∧ y < s.1.length ∧ qWc s (fr ≠ 0) C y) → G' (o + 18) y = G (o + 18) y) := by
  have hnp := hok.1.1
  intro d
  induction d with
  | zero =>
    intro p fu G h1 h2 he hW
    obtain ⟨fu, rfl⟩ : ∃ t, fu = t + 1 := ⟨fu - 1, by omega⟩
    refine ⟨G, ?_, fun _ _ _ => rfl, fun y hy => ⟨fun q => by omega, fun _ => rfl⟩⟩
    show g305_2b (g305_2 f fu) f _ _ _ _ = _
    unfold g305_2b
    rw [he.1, if_pos (by omega)]
  | succ d ih =>
    intro p fu G h1 h2 he hW
    obtain ⟨fu, rfl⟩ : ∃ t, fu = t + 1 := ⟨fu - 1, by omega⟩
    have hp : p < s.1.length := by omega
    have hpp : 0 ≤ (p : Int) ∧ (p : Int) < 16 := by omega
    have e : xwr ((p : Int) + 1) = ((p + 1 : Nat) : Int) := by rw [xwr_g _ (by omega) (by omega)]; omega
    by_cases ci : pIn s.2.1 (p : Int) = true
    · obtain ⟨G', k1, k2, k3⟩ := ih (p + 1) fu G (by omega) (by omega) he (fun y y1 y2 => hW y (by omega) y2)
      refine ⟨G', ?_, k2, fun y hy => ?_⟩
      · rw [← k1]
        have n1 : ¬ b01 (pIn s.2.1 (p : Int)) = 0 := by rw [ci]; decide
        show g305_2b (g305_2 f fu) f _ _ _ _ = _
        unfold g305_2b g305_159
        simp only [Nat.reduceAdd]
        rw [he.1, if_neg (by omega), if_pos hpp, Int.toNat_natCast, he.2.2.2.1 p hp, if_neg n1, e]
      · have iff : (p ≤ y ∧ y < s.1.length ∧ qWc s (fr ≠ 0) C y) ↔ (p + 1 ≤ y ∧ y < s.1.length ∧ qWc s (fr ≠ 0) C y) := by
          constructor
          · rintro ⟨a, b, c⟩
            refine ⟨?_, b, c⟩
            by_cases cy : y = p
            · have := c.1
              rw [cy, ci] at this
              cases this
            · omega
          · rintro ⟨a, b, c⟩
            exact ⟨by omega, b, c⟩
        rw [iff]
        exact k3 y hy
    · have ci' : pIn s.2.1 (p : Int) = false := Bool.eq_false_iff.mpr ci
      obtain ⟨w, j1, j2, j3⟩ := l_305_34 (f := f) (fr := fr) (r2 := g305_2 f fu) hf hh ho hok he hp (hW p (by omega) (by omega)) s.1.length 0 f fr (by omega) (by omega)
      have hww : w = 0 ∨ w = 1 := j2
      have hz0 := hW p (by omega) (by omega)
      have wiff : w = 0 ↔ ¬ qWc s (fr ≠ 0) C p := by
        rw [j3]
        constructor
        · rintro ⟨q1, q2⟩ ⟨_, q3 | ⟨y, y1, y2, x, x1, x2, x3⟩⟩
          · exact q3 q1
          · exact q2 y (by omega) y1 y2 x x1 ⟨x2, x3⟩
        · intro q
          refine ⟨Decidable.byContradiction fun c => q ⟨ci', .inl c⟩, fun y _ y1 y2 x x1 x2 => q ⟨ci', .inr ⟨y, y1, y2, x, x1, x2.1, x2.2⟩⟩⟩
      obtain ⟨G', k1, k2, k3⟩ := ih (p + 1) fu (xup2 G (o + 18) p (G (o + 18) p + w)) (by omega) (by omega) (he.ge hh ho (fun a j y => xup2_n (by omega))) (fun y y1 y2 => by rw [xup2_n (by omega)]; exact hW y (by omega) y2)
      refine ⟨G', ?_, fun a j y => by rw [k2 a j y, xup2_n (by omega)], fun y hy => ?_⟩
      · rw [← k1, ← j1]
        have n1 : b01 (pIn s.2.1 (p : Int)) = 0 := by rw [ci']; decide
        show g305_2b (g305_2 f fu) f _ _ _ _ = _
        unfold g305_2b
        simp only [Nat.reduceAdd]
        rw [he.1, if_neg (by omega), if_pos hpp, Int.toNat_natCast, he.2.2.2.1 p hp, if_pos n1]
        rfl
      · by_cases cy : y = p
        · subst cy
          have e0 : G' (o + 18) y = G (o + 18) y + w := by rw [(k3 y hy).2 (fun q => by omega), xup2_s]
          rw [e0]
          constructor
          · rintro ⟨_, _, q⟩
            rcases hww with w0 | w1
            · exact absurd q (wiff.mp w0)
            · rw [w1]
          · intro q
            have : w = 0 := wiff.mpr (fun q' => q ⟨by omega, hp, q'⟩)
            rw [this]
            omega
        · have e0 : xup2 G (o + 18) p (G (o + 18) p + w) (o + 18) y = G (o + 18) y := xup2_n (by omega)
          have k4 := k3 y hy
          rw [e0] at k4
          exact ⟨fun q => k4.1 ⟨by omega, q.2⟩, fun q => k4.2 (fun q' => q ⟨by omega, q'.2⟩)⟩
/-- countWorked -/
theorem l_305 {G : xG_} {q c : Nat} {R : Nat → List pRw} {T : List pLg} (hf : 20 < f) (hh : h < 4) (ho : o = 123 + 29 * h) (hok : qOk s) (hP : rPr G 2 q c s) (hPk : rPk G 2 s) (hC : rCh G o s T) (hW : ∀ y, y < 16 → 0 ≤ G (o + 18) y ∧ G (o + 18) y < 1000000) :
    ∃ G', g305 f o fr G = some G' ∧ (∀ a j, a ≠ o + 18 → G' a j = G a j) ∧ ∀ y, y < 16 → ((y < s.1.length ∧ qWc s (fr ≠ 0) (fun p => ∃ x, x ∈ T ∧ ofP s x.2.2 p) y) → G' (o + 18) y = G (o + 18) y + 1) ∧ (¬ (y < s.1.length ∧ qWc s (fr ≠ 0) (fun p => ∃ x, x ∈ T ∧ ofP s x.2.2 p) y) → G' (o + 18) y = G (o + 18) y) := by
  have hnp := hok.1.1
  obtain ⟨G', k1, k2, k3⟩ := l_305_2 (f := f) (fr := fr) (C := fun p => ∃ x, x ∈ T ∧ ofP s x.2.2 p) hf hh ho hok s.1.length 0 f G (by omega) (by omega) ⟨hP.1.1, hPk.1, hPk.2, fun p hp => (hP.2.2.2.1 p (by omega)).1, fun p hp => (hC p hp).1⟩ (fun y _ h => hW y h)
  refine ⟨G', k1, k2, fun y hy => ⟨fun q => (k3 y hy).1 ⟨by omega, q⟩, fun q => (k3 y hy).2 (fun q' => q q'.2)⟩⟩
end
end
section
/-! The reference tells one edit -/
/-- predicate, 1 came or 0 went, VALUES -/
abbrev pEd : Type := Nat × Int × List Int
abbrev dEd : pEd := (0, 0, [])
def rEd (G : xG_) (o : Nat) (E : List pEd) : Prop := G o 27 = (E.length : Int) ∧ E.length ≤ 3400 ∧ ∀ i, i < E.length → G (o + 21) i = ((E.getD i dEd).1 : Int) ∧ G (o + 22) i = (E.getD i dEd).2.1 ∧ ∀ j, j < 4 → G (o + 23) (4 * i + j) = (E.getD i dEd).2.2.getD j 0
theorem rEd.ge {G G' : xG_} {o : Nat} {E : List pEd} (h : rEd G o E) (h0 : G' o 27 = G o 27) (hf : ∀ a j, o + 21 ≤ a → a ≤ o + 23 → G' a j = G a j) : rEd G' o E := by
  obtain ⟨a1, a2, a3⟩ := h
  refine ⟨by rw [h0]; exact a1, a2, fun i hi => ?_⟩
  obtain ⟨b1, b2, b3⟩ := a3 i hi
  exact ⟨by rw [hf _ _ (by omega) (by omega)]; exact b1, by rw [hf _ _ (by omega) (by omega)]; exact b2, fun j hj => by rw [hf _ _ (by omega) (by omega)]; exact b3 j hj⟩
def fEd (o : Nat) (G G' : xG_) : Prop := ∀ a j, ¬ (a = o ∧ j = 27) → ¬ (o + 21 ≤ a ∧ a ≤ o + 23) → G' a j = G a j
theorem fEd.tr {o : Nat} {G G' G2 : xG_} (h : fEd o G G') (h' : fEd o G' G2) : fEd o G G2 := fun a j y1 y2 => by rw [h' a j y1 y2]; exact h a j y1 y2
section
variable {f b o h i p : Nat} {s : pPg} {F : List pFc} {E : List pEd}
theorem l_307 {G : xG_} {sg : Int} (hf : 40 < f) (hw : wPg s) (hh : h < 4) (ho : o = 123 + 29 * h) (hb : b = 243 ∨ b = 247) (hN : rNs G 2 s.1) (hPn : rPn G 2 s) (hp : p < s.1.length) (hF : rFa G b F) (hi : i < F.length) (hE : rEd G o E) (hl : E.length < 3400) :
    ∃ G', g307 f o (p : Int) sg b (i : Int) G = some G' ∧ fEd o G G' ∧ (ofP s (F.getD i dFc) p → rEd G' o (E ++ [(p, sg, (F.getD i dFc).2)])) ∧ (¬ ofP s (F.getD i dFc) p → rEd G' o E) := by
  have hl4 := hF.2.1
  have hnp := hw.1
  obtain ⟨q1, q2, q3, q4⟩ := hF.2.2 i hi
  obtain ⟨l1, l2, l3⟩ := hE
  have hii : 0 ≤ (i : Int) ∧ (i : Int) < 3400 := by omega
  have hpp : 0 ≤ (p : Int) ∧ (p : Int) < 16 := by omega
  have hEE : 0 ≤ (E.length : Int) ∧ (E.length : Int) < 3400 := by omega
  have h3 : G 3 p = qNm s p := hN.2.2 p hp
  have h4 : G 4 p = (qN s p : Int) := by
    rw [(qN_c hw p).1]
    exact hPn p hp
  by_cases c1 : (F.getD i dFc).1 = qNm s p
  · have n1 : ¬ ¬ (F.getD i dFc).1 = qNm s p := fun q => q c1
    by_cases c2 : (F.getD i dFc).2.length = qN s p
    · have n2 : ((F.getD i dFc).2.length : Int) = (qN s p : Int) := by omega
      let G1 := xup2 (xup2 G (o + 21) E.length (p : Int)) (o + 22) E.length sg
      have z1 : ∀ a j, ¬ (o + 21 ≤ a ∧ a ≤ o + 22 ∧ j = E.length) → G1 a j = G a j := fun a j y => by
        show xup2 _ _ _ _ _ _ = _
        rw [xup2_n (by omega), xup2_n (by omega)]
      have e0 : g307 f o (p : Int) sg b (i : Int) G = g307_65 f f o b (i : Int) 0 G1 := by
        have t1 : xup2 G (o + 21) E.length (p : Int) o 27 = (E.length : Int) := by rw [xup2_n (by omega)]; exact l1
        unfold g307
        simp only [Nat.reduceAdd]
        rw [if_pos hii, if_pos hpp, Int.toNat_natCast, Int.toNat_natCast, q1, h3, if_neg n1, if_pos hii, if_pos hpp, q2, h4, if_pos n2, l1, if_pos hEE, Option.bind_some, Int.toNat_natCast, t1, if_pos hEE, Option.bind_some, Int.toNat_natCast]
      have loop : ∀ (d k fu : Nat) (Z : xG_), k + d = 4 → d < fu → (∀ a j, ¬ (a = o + 23 ∧ 4 * E.length ≤ j ∧ j < 4 * E.length + 4) → Z a j = G1 a j) → (∀ j, j < k → Z (o + 23) (4 * E.length + j) = (F.getD i dFc).2.getD j 0) → ∃ Z', g307_65 f fu o b (i : Int) (k : Int) Z = some (xup2 Z' o 27 ((E.length + 1 : Nat) : Int)) ∧ (∀ a j, ¬ (a = o + 23 ∧ 4 * E.length ≤ j ∧ j < 4 * E.length + 4) → Z' a j = G1 a j) ∧ ∀ j, j < 4 → Z' (o + 23) (4 * E.length + j) = (F.getD i dFc).2.getD j 0 := by
        intro d
        induction d with
        | zero =>
          intro k fu Z h1 h2 h3 h4
          obtain ⟨fu, rfl⟩ : ∃ t, fu = t + 1 := ⟨fu - 1, by omega⟩
          have : k = 4 := by omega
          subst this
          refine ⟨Z, ?_, h3, h4⟩
          have z27 : Z o 27 = (E.length : Int) := by rw [h3 _ _ (by omega), z1 _ _ (by omega)]; exact l1
          have e1 : xwr ((E.length : Int) + 1) = ((E.length + 1 : Nat) : Int) := by rw [xwr_g _ (by omega) (by omega)]; omega
          show g307_65b (g307_65 f fu) f _ _ _ _ _ = _
          unfold g307_65b
          rw [if_pos (by decide), z27, e1]
          rfl
        | succ d ih =>
          intro k fu Z h1 h2 h3 h4
          obtain ⟨fu, rfl⟩ : ∃ t, fu = t + 1 := ⟨fu - 1, by omega⟩
          have e1 : xwr (xwr (4 * (i : Int)) + (k : Int)) = ((4 * i + k : Nat) : Int) := by
            rw [xwr_g (4 * (i : Int)) (by omega) (by omega), xwr_g _ (by omega) (by omega)]; omega
          have e2 : xwr (xwr (4 * (E.length : Int)) + (k : Int)) = ((4 * E.length + k : Nat) : Int) := by
            rw [xwr_g (4 * (E.length : Int)) (by omega) (by omega), xwr_g _ (by omega) (by omega)]; omega
          have e3 : xwr ((k : Int) + 1) = ((k + 1 : Nat) : Int) := by rw [xwr_g _ (by omega) (by omega)]; omega
          have z27 : Z o 27 = (E.length : Int) := by rw [h3 _ _ (by omega), z1 _ _ (by omega)]; exact l1
          have zv : Z (b + 2) (4 * i + k) = (F.getD i dFc).2.getD k 0 := by rw [h3 _ _ (by omega), z1 _ _ (by omega)]; exact q4 k (by omega)
          obtain ⟨Z', k1, k2, k3⟩ := ih (k + 1) fu (xup2 Z (o + 23) (4 * E.length + k) ((F.getD i dFc).2.getD k 0)) (by omega) (by omega) (fun a j y => by rw [xup2_n (by omega)]; exact h3 a j y) (fun j hj => by
            by_cases cj : j = k
            · rw [cj, xup2_s]
            · rw [xup2_n (by omega)]; exact h4 j (by omega))
          refine ⟨Z', ?_, k2, k3⟩
          rw [← k1]
          show g307_65b (g307_65 f fu) f _ _ _ _ _ = _
          unfold g307_65b
          rw [if_neg (by omega), e1, z27, e2, if_pos (by omega), if_pos (by omega), Int.toNat_natCast, Int.toNat_natCast, zv, Option.bind_some, e3]
      obtain ⟨Z, k1, k2, k3⟩ := loop 4 0 f G1 (by omega) (by omega) (fun _ _ _ => rfl) (fun j hj => absurd hj (by omega))
      refine ⟨_, by rw [e0]; exact k1, fun a j y1 y2 => by rw [xup2_n (by omega), k2 _ _ (by omega), z1 _ _ (by omega)], fun _ => ?_, fun q => absurd ⟨hp, c1.symm, c2.symm⟩ q⟩
      refine ⟨by rw [List.length_append]; exact xup2_s _ _ _ _, by rw [List.length_append]; exact hl, fun k hk => ?_⟩
      rw [List.length_append] at hk
      have hk' : k < E.length + 1 := hk
      by_cases ck : k = E.length
      · have e : (E ++ [(p, sg, (F.getD i dFc).2)]).getD k dEd = (p, sg, (F.getD i dFc).2) := by rw [getD_1, if_pos ck]
        rw [e, ck]
        refine ⟨?_, ?_, fun j hj => by rw [xup2_n (by omega)]; exact k3 j hj⟩
        · rw [xup2_n (by omega), k2 _ _ (by omega)]; show xup2 _ _ _ _ _ _ = _; rw [xup2_n (by omega), xup2_s]
        · rw [xup2_n (by omega), k2 _ _ (by omega)]; exact xup2_s _ _ _ _
      · have e : (E ++ [(p, sg, (F.getD i dFc).2)]).getD k dEd = E.getD k dEd := by rw [getD_1, if_neg ck]
        rw [e]
        obtain ⟨b1, b2, b3⟩ := l3 k (by omega)
        exact ⟨by rw [xup2_n (by omega), k2 _ _ (by omega), z1 _ _ (by omega)]; exact b1, by rw [xup2_n (by omega), k2 _ _ (by omega), z1 _ _ (by omega)]; exact b2, fun j hj => by rw [xup2_n (by omega), k2 _ _ (by omega), z1 _ _ (by omega)]; exact b3 j hj⟩
    · have n2 : ¬ ((F.getD i dFc).2.length : Int) = (qN s p : Int) := by omega
      refine ⟨G, ?_, fun _ _ _ _ => rfl, fun q => absurd q.2.2.symm c2, fun _ => ⟨l1, l2, l3⟩⟩
      unfold g307 g307_41
      simp only [Nat.reduceAdd]
      rw [if_pos hii, if_pos hpp, Int.toNat_natCast, Int.toNat_natCast, q1, h3, if_neg n1, if_pos hii, if_pos hpp, q2, h4, if_neg n2]
  · refine ⟨G, ?_, fun _ _ _ _ => rfl, fun q => absurd q.2.1.symm c1, fun _ => ⟨l1, l2, l3⟩⟩
    unfold g307 g307_41
    simp only [Nat.reduceAdd]
    rw [if_pos hii, if_pos hpp, Int.toNat_natCast, Int.toNat_natCast, q1, h3, if_pos c1]
end
/-- what edits a round tells -/
def edF (s : pPg) (e : pEd) : pFc := (qNm s e.1, e.2.2)
def edQ (A B : List pFc) (sg : Int) (y : pFc) : Prop := sg = 0 ∧ y ∈ B ∧ y ∉ A ∨ sg = 1 ∧ y ∈ A ∧ y ∉ B
def edLt (e e' : pEd) : Prop := e.1 < e'.1 ∨ e.1 = e'.1 ∧ vCmp e.2.2 e'.2.2 < 0
def edI (s : pPg) (A B : List pFc) (p : Nat) (D : Int → pFc → Prop) (E : List pEd) : Prop := E.Pairwise edLt ∧ ∀ e, e ∈ E ↔ e.1 < s.1.length ∧ pOu s.2.2.1 (e.1 : Int) = true ∧ e.2.2.length = qN s e.1 ∧ edQ A B e.2.1 (edF s e) ∧ (e.1 < p ∨ e.1 = p ∧ D e.2.1 (edF s e))
def qEd (s : pPg) (A B : List pFc) (E : List pEd) : Prop := E.Pairwise edLt ∧ ∀ e, e ∈ E ↔ e.1 < s.1.length ∧ pOu s.2.2.1 (e.1 : Int) = true ∧ e.2.2.length = qN s e.1 ∧ edQ A B e.2.1 (edF s e)
section
variable {s : pPg} {A B : List pFc} {E : List pEd} {p : Nat} {D D' : Int → pFc → Prop}
theorem edI.skip (h : edI s A B p D E) (hD : ∀ sg y, edQ A B sg y → (D' sg y ↔ D sg y)) : edI s A B p D' E := by
  refine ⟨h.1, fun e => ?_⟩
  rw [h.2 e]
  constructor
  · rintro ⟨a1, a2, a3, a4, a5⟩
    refine ⟨a1, a2, a3, a4, ?_⟩
    rw [hD _ _ a4]; exact a5
  · rintro ⟨a1, a2, a3, a4, a5⟩
    refine ⟨a1, a2, a3, a4, ?_⟩
    rw [hD _ _ a4] at a5; exact a5
theorem edI.not {sg0 : Int} {y0 : pFc} (h : edI s A B p D E) (hD : ∀ sg y, D' sg y ↔ D sg y ∨ sg = sg0 ∧ y = y0) (hn : ¬ ofP s y0 p) : edI s A B p D' E := by
  refine ⟨h.1, fun e => ?_⟩
  rw [h.2 e]
  constructor
  · rintro ⟨a1, a2, a3, a4, a5⟩
    exact ⟨a1, a2, a3, a4, a5.imp id (fun q => ⟨q.1, (hD _ _).mpr (.inl q.2)⟩)⟩
  · rintro ⟨a1, a2, a3, a4, a5⟩
    refine ⟨a1, a2, a3, a4, a5.imp id (fun q => ⟨q.1, ((hD _ _).mp q.2).resolve_right (fun r => hn ?_)⟩)⟩
    rw [← r.2, ← q.1]
    exact ⟨a1, rfl, a3.symm⟩
theorem edI.add {sg0 : Int} {y0 : pFc} (h : edI s A B p D E) (hD : ∀ sg y, D' sg y ↔ D sg y ∨ sg = sg0 ∧ y = y0) (hy : ofP s y0 p) (ho : pOu s.2.2.1 (p : Int) = true) (hq : edQ A B sg0 y0) (hlt : ∀ sg y, edQ A B sg y → D sg y → fLt y y0) : edI s A B p D' (E ++ [(p, sg0, y0.2)]) := by
  have ef : edF s (p, sg0, y0.2) = y0 := by
    unfold edF
    show (qNm s p, y0.2) = y0
    rw [hy.2.1]
  refine ⟨?_, fun e => ?_⟩
  · rw [List.pairwise_append]
    refine ⟨h.1, List.pairwise_singleton _ _, fun e he e' he' => ?_⟩
    rw [List.mem_singleton] at he'
    subst he'
    obtain ⟨a1, a2, a3, a4, a5⟩ := (h.2 e).mp he
    rcases a5 with a5 | ⟨a5, a6⟩
    · exact .inl a5
    · have k := hlt _ _ a4 a6
      unfold fLt fCmp at k
      have e1 : (edF s e).1 = y0.1 := by
        show qNm s e.1 = _
        rw [a5]; exact hy.2.1
      have e2 : (edF s e).2.length = y0.2.length := by
        show e.2.2.length = _
        rw [a3, a5]; exact hy.2.2
      rw [if_pos e1, if_pos e2] at k
      exact .inr ⟨a5, k⟩
  · rw [List.mem_append, h.2 e, List.mem_singleton]
    constructor
    · rintro (⟨a1, a2, a3, a4, a5⟩ | rfl)
      · exact ⟨a1, a2, a3, a4, a5.imp id (fun q => ⟨q.1, (hD _ _).mpr (.inl q.2)⟩)⟩
      · refine ⟨hy.1, ho, hy.2.2.symm, by rw [ef]; exact hq, .inr ⟨rfl, ?_⟩⟩
        rw [ef]
        exact (hD _ _).mpr (.inr ⟨rfl, rfl⟩)
    · rintro ⟨a1, a2, a3, a4, a5⟩
      rcases a5 with a5 | ⟨a5, a6⟩
      · exact .inl ⟨a1, a2, a3, a4, .inl a5⟩
      · rcases (hD _ _).mp a6 with a6 | ⟨a6, a7⟩
        · exact .inl ⟨a1, a2, a3, a4, .inr ⟨a5, a6⟩⟩
        · refine .inr ?_
          obtain ⟨x, y, z⟩ := e
          have z1 : x = p := a5
          have z2 : y = sg0 := a6
          have z3 : z = y0.2 := by rw [← a7]; rfl
          rw [z1, z2, z3]
theorem edI.len (hok : qOk s) (h : edI s A B p D E) : E.length ≤ B.length + A.length := by
  have hn : (E.map (fun e => (e.2.1, edF s e))).Nodup := by
    unfold List.Nodup
    rw [List.pairwise_map]
    refine h.1.imp_of_mem (fun {a b} ha hb hab q => ?_)
    have q2 : edF s a = edF s b := congrArg Prod.snd q
    have q3 : qNm s a.1 = qNm s b.1 := congrArg Prod.fst q2
    have q4 : (edF s a).2 = (edF s b).2 := congrArg Prod.snd q2
    have q4 : a.2.2 = b.2.2 := q4
    have q5 : a.1 = b.1 := nm_inj hok ((h.2 a).mp ha).1 ((h.2 b).mp hb).1 q3
    rcases hab with r | r
    · omega
    · have := r.2
      rw [q4, vCmp_self] at this
      omega
  have := nodup_len (E.map (fun e => (e.2.1, edF s e))) (B.map (fun y => ((0 : Int), y)) ++ A.map (fun y => ((1 : Int), y))) hn (fun x hx => by
    obtain ⟨e, he, rfl⟩ := List.mem_map.mp hx
    obtain ⟨a1, a2, a3, a4, a5⟩ := (h.2 e).mp he
    rw [List.mem_append]
    rcases a4 with ⟨r1, r2, r3⟩ | ⟨r1, r2, r3⟩
    · exact .inl (List.mem_map.mpr ⟨_, r2, by rw [r1]⟩)
    · exact .inr (List.mem_map.mpr ⟨_, r2, by rw [r1]⟩))
  rw [List.length_map, List.length_append, List.length_map, List.length_map] at this
  exact this
end
end
section
/-! The reference tells a round's edits -/
theorem tk_mem {α : Type} {d : α} {l : List α} {i : Nat} (hi : i < l.length) (y : α) : y ∈ l.take (i + 1) ↔ y ∈ l.take i ∨ y = l.getD i d := by
  rw [List.take_succ_eq_append_getElem hi, List.mem_append, List.mem_singleton, getD_e hi]
theorem tk_get {α : Type} {d : α} {l : List α} {i : Nat} {y : α} (h : y ∈ l.take i) : ∃ a, a < i ∧ a < l.length ∧ l.getD a d = y := by
  obtain ⟨a, ha, rfl⟩ := List.getElem_of_mem h
  rw [List.length_take] at ha
  refine ⟨a, by omega, by omega, ?_⟩
  rw [getD_e (by omega), List.getElem_take]
section
variable {f o h p : Nat} {s : pPg} {A B : List pFc}
def edD (A B : List pFc) (i j : Nat) (sg : Int) (y : pFc) : Prop := sg = 0 ∧ y ∈ B.take i ∨ sg = 1 ∧ y ∈ A.take j
def eEd (G : xG_) (s : pPg) (A B : List pFc) : Prop := rNs G 2 s.1 ∧ rPn G 2 s ∧ rFa G 243 B ∧ rFa G 247 A
theorem eEd.ge {G G' : xG_} (hh : h < 4) (ho : o = 123 + 29 * h) (e : eEd G s A B) (fr : fEd o G G') : eEd G' s A B := by
  obtain ⟨e1, e2, e3, e4⟩ := e
  exact ⟨⟨by rw [fr _ _ (by omega) (by omega)]; exact e1.1, e1.2.1, fun k hk => by rw [fr _ _ (by omega) (by omega)]; exact e1.2.2 k hk⟩, fun y hy => by rw [fr _ _ (by omega) (by omega)]; exact e2 y hy, e3.ge (fr _ _ (by omega) (by omega)) (fun a j _ _ => fr _ _ (by omega) (by omega)), e4.ge (fr _ _ (by omega) (by omega)) (fun a j _ _ => fr _ _ (by omega) (by omega))⟩
/-- one edit more, or none -/
theorem l_ed1 {G : xG_} {sg : Int} {b i : Nat} {F : List pFc} {E : List pEd} {D D' : Int → pFc → Prop} (hf : 40 < f) (hok : qOk s) (hh : h < 4) (ho : o = 123 + 29 * h) (he : eEd G s A B) (hAB : B.length + A.length < 3400) (hbF : b = 243 ∧ F = B ∨ b = 247 ∧ F = A) (hi : i < F.length) (hp : p < s.1.length) (hout : pOu s.2.2.1 (p : Int) = true) (hE : rEd G o E) (hI : edI s A B p D E) (hD : ∀ g y, D' g y ↔ D g y ∨ g = sg ∧ y = F.getD i dFc) (hq : edQ A B sg (F.getD i dFc)) (hlt : ∀ g y, edQ A B g y → D g y → fLt y (F.getD i dFc)) :
    ∃ G' E', g307 f o (p : Int) sg b (i : Int) G = some G' ∧ fEd o G G' ∧ rEd G' o E' ∧ edI s A B p D' E' := by
  have hF : rFa G b F := by
    rcases hbF with ⟨rfl, rfl⟩ | ⟨rfl, rfl⟩
    · exact he.2.2.1
    · exact he.2.2.2
  have hl := hI.len hok
  obtain ⟨G', k1, k2, k3, k4⟩ := l_307 (sg := sg) hf hok.1 hh ho (by rcases hbF with h | h <;> omega) he.1 he.2.1 hp hF hi hE (by omega)
  by_cases c : ofP s (F.getD i dFc) p
  · exact ⟨G', _, k1, k2, k3 c, hI.add hD c hout hq hlt⟩
  · exact ⟨G', _, k1, k2, k4 c, hI.not hD c⟩
theorem l_306_33 {r2 : Nat → Int → xG_ → Option xG_} (hf : 40 < f) (hok : qOk s) (hh : h < 4) (ho : o = 123 + 29 * h) (hp : p < s.1.length) (hout : pOu s.2.2.1 (p : Int) = true) (hsA : A.Pairwise fLt) (hsB : B.Pairwise fLt) (hAB : B.length + A.length < 3400) : ∀ (d i j fu : Nat) (G : xG_) (E : List pEd), i ≤ B.length → j ≤ A.length → B.length + A.length ≤ i + j + d → d < fu → eEd G s A B → rEd G o E → edI s A B p (edD A B i j) E → (∀ a b, a < i → j ≤ b → b < A.length → fLt (B.getD a dFc) (A.getD b dFc)) → (∀ a b, b < j → i ≤ a → a < B.length → fLt (A.getD b dFc) (B.getD a dFc)) →
    ∃ G' E', g306_33 r2 f fu o (p : Int) (i : Int) (j : Int) G = r2 o ((p + 1 : Nat) : Int) G' ∧ fEd o G G' ∧ rEd G' o E' ∧ edI s A B p (edD A B B.length A.length) E' := by
  have hnp := hok.1.1
  have ep : xwr ((p : Int) + 1) = ((p + 1 : Nat) : Int) := by rw [xwr_g _ (by omega) (by omega)]; omega
  -- the end
  have fin : ∀ (fu : Nat) (G : xG_) (E : List pEd), eEd G s A B → rEd G o E → edI s A B p (edD A B B.length A.length) E → ∃ G' E', g306_33 r2 f (fu + 1) o (p : Int) (B.length : Int) (A.length : Int) G = r2 o ((p + 1 : Nat) : Int) G' ∧ fEd o G G' ∧ rEd G' o E' ∧ edI s A B p (edD A B B.length A.length) E' := by
    intro fu G E he hE hI
    refine ⟨G, E, ?_, fun _ _ _ _ => rfl, hE, hI⟩
    show g306_33b r2 (g306_33 r2 f fu) f _ _ _ _ _ = _
    unfold g306_33b g306_217
    rw [he.2.2.1.1, if_neg (by omega), he.2.2.2.1, if_pos (by omega), ep]
  intro d
  induction d with
  | zero =>
    intro i j fu G E hi hj h1 h2 he hE hI _ _
    obtain ⟨fu, rfl⟩ : ∃ t, fu = t + 1 := ⟨fu - 1, by omega⟩
    have : i = B.length := by omega
    subst this
    have : j = A.length := by omega
    subst this
    exact fin fu G E he hE hI
  | succ d ih =>
    intro i j fu G E hi hj h1 h2 he hE hI hI1 hI2
    obtain ⟨fu, rfl⟩ : ∃ t, fu = t + 1 := ⟨fu - 1, by omega⟩
    by_cases cend : i = B.length ∧ j = A.length
    · obtain ⟨rfl, rfl⟩ := cend
      exact fin fu G E he hE hI
    have hB := he.2.2.1
    have hA := he.2.2.2
    -- which is the less
    have st : ∃ c : Int, g306_33 r2 f (fu + 1) o (p : Int) (i : Int) (j : Int) G = g306_149 r2 (g306_33 r2 f fu) f o (p : Int) (i : Int) (j : Int) c G ∧ ((c < 0 ∧ i < B.length ∧ (∀ b, j ≤ b → b < A.length → fLt (B.getD i dFc) (A.getD b dFc))) ∨ (0 < c ∧ j < A.length ∧ (∀ a, i ≤ a → a < B.length → fLt (A.getD j dFc) (B.getD a dFc))) ∨ (c = 0 ∧ i < B.length ∧ j < A.length ∧ B.getD i dFc = A.getD j dFc)) := by
      have e0 : g306_33 r2 f (fu + 1) o (p : Int) (i : Int) (j : Int) G = g306_56 r2 (g306_33 r2 f fu) f o (p : Int) (i : Int) (j : Int) G := by
        show g306_33b r2 (g306_33 r2 f fu) f _ _ _ _ _ = _
        unfold g306_33b
        rw [hB.1, hA.1]
        by_cases c1 : i < B.length
        · rw [if_pos (by omega)]
        · rw [if_neg (by omega), if_neg (by omega)]
      by_cases c1 : i < B.length
      · by_cases c2 : j < A.length
        · refine ⟨fCmp (B.getD i dFc) (A.getD j dFc), ?_, ?_⟩
          · have hlB := hB.2.1
            have hlA := hA.2.1
            have e1 : xwr (4 * (i : Int)) = ((4 * i : Nat) : Int) := by rw [xwr_g _ (by omega) (by omega)]; omega
            have e2 : xwr (4 * (j : Int)) = ((4 * j : Nat) : Int) := by rw [xwr_g _ (by omega) (by omega)]; omega
            have hii : 0 ≤ (i : Int) ∧ (i : Int) < 3400 := by omega
            have hjj : 0 ≤ (j : Int) ∧ (j : Int) < 3400 := by omega
            obtain ⟨q1, q2, q3, q4⟩ := hB.2.2 i c1
            obtain ⟨u1, u2, u3, u4⟩ := hA.2.2 j c2
            have n1 : ¬ (i : Int) = (B.length : Int) := by omega
            have n2 : ¬ (j : Int) = (A.length : Int) := by omega
            rw [e0]
            unfold g306_56
            rw [hB.1, hA.1, if_pos n1, if_pos n2, if_pos hii, if_pos hii, if_pos hjj, if_pos hjj, Int.toNat_natCast, Int.toNat_natCast, q1, q2, u1, u2, e1, e2, l_195 (by omega) (hB.ve (by unfold isFb; omega) c1) (hA.ve (by unfold isFb; omega) c2), Option.bind_some]
          · by_cases k1 : fCmp (B.getD i dFc) (A.getD j dFc) < 0
            · refine .inl ⟨k1, c1, fun b b1 b2 => ?_⟩
              by_cases cb : b = j
              · rw [cb]; exact k1
              · exact fLt_tr k1 (srt_get hsA (by omega) b2)
            · by_cases k2 : fCmp (B.getD i dFc) (A.getD j dFc) = 0
              · exact .inr (.inr ⟨k2, c1, c2, fCmp_eq k2⟩)
              · have k3 : fLt (A.getD j dFc) (B.getD i dFc) := by
                  unfold fLt
                  rw [fCmp_anti]
                  omega
                refine .inr (.inl ⟨by omega, c2, fun a a1 a2 => ?_⟩)
                by_cases ca : a = i
                · rw [ca]; exact k3
                · exact fLt_tr k3 (srt_get hsB (by omega) a2)
        · refine ⟨-1, ?_, .inl ⟨by decide, c1, fun b b1 b2 => absurd b2 (by omega)⟩⟩
          have n1 : ¬ (i : Int) = (B.length : Int) := by omega
          have n2 : ¬ ¬ (j : Int) = (A.length : Int) := fun q => q (by omega)
          rw [e0]
          unfold g306_56
          rw [hB.1, hA.1, if_pos n1, if_neg n2]
      · refine ⟨1, ?_, .inr (.inl ⟨by decide, by omega, fun a a1 a2 => absurd a2 (by omega)⟩)⟩
        have n1 : ¬ ¬ (i : Int) = (B.length : Int) := fun q => q (by omega)
        rw [e0]
        unfold g306_56
        rw [hB.1, if_neg n1]
    obtain ⟨c, st, cc⟩ := st
    have ei : xwr ((i : Int) + 1) = ((i + 1 : Nat) : Int) := by have := hB.2.1; rw [xwr_g _ (by omega) (by omega)]; omega
    have ei0 : xwr ((i : Int) + 0) = (i : Int) := by have := hB.2.1; rw [xwr_g _ (by omega) (by omega)]; omega
    have ej : xwr ((j : Int) + 1) = ((j + 1 : Nat) : Int) := by have := hA.2.1; rw [xwr_g _ (by omega) (by omega)]; omega
    have ej0 : xwr ((j : Int) + 0) = (j : Int) := by have := hA.2.1; rw [xwr_g _ (by omega) (by omega)]; omega
    rcases cc with ⟨c0, c1, c2⟩ | ⟨c0, c1, c2⟩ | ⟨c0, c1, c2, c3⟩
    · -- one has gone
      have nin : B.getD i dFc ∉ A := fun q => by
        obtain ⟨b, hb, hb'⟩ := List.getElem_of_mem q
        have e : A.getD b dFc = B.getD i dFc := by rw [getD_e hb]; exact hb'
        by_cases cb : b < j
        · have := hI2 i b cb (by omega) c1
          rw [e] at this
          exact fLt_irr _ this
        · have := c2 b (by omega) hb
          rw [e] at this
          exact fLt_irr _ this
      obtain ⟨G1, E1, r1, r2', r3, r4⟩ := l_ed1 (f := f) (sg := 0) (b := 243) (F := B) (D' := edD A B (i + 1) j) hf hok hh ho he hAB (.inl ⟨rfl, rfl⟩) c1 hp hout hE hI (fun g y => by
        unfold edD
        rw [tk_mem (d := dFc) c1]
        constructor
        · rintro (⟨a, b | b⟩ | a)
          · exact .inl (.inl ⟨a, b⟩)
          · exact .inr ⟨a, b⟩
          · exact .inl (.inr a)
        · rintro ((⟨a, b⟩ | a) | ⟨a, b⟩)
          · exact .inl ⟨a, .inl b⟩
          · exact .inr a
          · exact .inl ⟨a, .inr b⟩) (.inl ⟨rfl, by rw [getD_e c1]; exact List.getElem_mem c1, nin⟩) (fun g y _ hd => by
        rcases hd with ⟨_, hd⟩ | ⟨_, hd⟩
        · obtain ⟨a, a1, a2, rfl⟩ := tk_get (d := dFc) hd
          exact srt_get hsB a1 c1
        · obtain ⟨a, a1, a2, rfl⟩ := tk_get (d := dFc) hd
          exact hI2 i a a1 (by omega) c1)
      obtain ⟨G', E', k1, k2, k3, k4⟩ := ih (i + 1) j fu G1 E1 (by omega) hj (by omega) (by omega) (he.ge hh ho r2') r3 r4 (fun a b a1 b1 b2 => by
        by_cases ca : a = i
        · rw [ca]; exact c2 b b1 b2
        · exact hI1 a b (by omega) b1 b2) (fun a b b1 a1 a2 => hI2 a b b1 (by omega) a2)
      refine ⟨G', E', ?_, r2'.tr k2, k3, k4⟩
      rw [← k1, st]
      unfold g306_149
      rw [if_neg (by omega), r1, Option.bind_some]
      unfold g306_168 g306_186 g306_197 g306_211
      rw [if_pos (by omega), if_neg (by omega), if_pos c0, ei, ej0]
    · -- one has come
      have nin : A.getD j dFc ∉ B := fun q => by
        obtain ⟨b, hb, hb'⟩ := List.getElem_of_mem q
        have e : B.getD b dFc = A.getD j dFc := by rw [getD_e hb]; exact hb'
        by_cases cb : b < i
        · have := hI1 b j cb (by omega) c1
          rw [e] at this
          exact fLt_irr _ this
        · have := c2 b (by omega) hb
          rw [e] at this
          exact fLt_irr _ this
      obtain ⟨G1, E1, r1, r2', r3, r4⟩ := l_ed1 (f := f) (sg := 1) (b := 247) (F := A) (D' := edD A B i (j + 1)) hf hok hh ho he hAB (.inr ⟨rfl, rfl⟩) c1 hp hout hE hI (fun g y => by
        unfold edD
        rw [tk_mem (d := dFc) c1]
        constructor
        · rintro (a | ⟨a, b | b⟩)
          · exact .inl (.inl a)
          · exact .inl (.inr ⟨a, b⟩)
          · exact .inr ⟨a, b⟩
        · rintro ((a | ⟨a, b⟩) | ⟨a, b⟩)
          · exact .inl a
          · exact .inr ⟨a, .inl b⟩
          · exact .inr ⟨a, .inr b⟩) (.inr ⟨rfl, by rw [getD_e c1]; exact List.getElem_mem c1, nin⟩) (fun g y _ hd => by
        rcases hd with ⟨_, hd⟩ | ⟨_, hd⟩
        · obtain ⟨a, a1, a2, rfl⟩ := tk_get (d := dFc) hd
          exact hI1 a j a1 (by omega) c1
        · obtain ⟨a, a1, a2, rfl⟩ := tk_get (d := dFc) hd
          exact srt_get hsA a1 c1)
      obtain ⟨G', E', k1, k2, k3, k4⟩ := ih i (j + 1) fu G1 E1 hi (by omega) (by omega) (by omega) (he.ge hh ho r2') r3 r4 (fun a b a1 b1 b2 => hI1 a b a1 (by omega) b2) (fun a b b1 a1 a2 => by
        by_cases cb : b = j
        · rw [cb]; exact c2 a a1 a2
        · exact hI2 a b (by omega) a1 a2)
      refine ⟨G', E', ?_, r2'.tr k2, k3, k4⟩
      rw [← k1, st]
      unfold g306_149 g306_168
      rw [if_pos (by omega), if_neg (by omega), r1, Option.bind_some]
      unfold g306_186 g306_197 g306_211
      rw [if_pos (by omega), if_neg (by omega), ei0, ej]
    · -- both have it
      obtain ⟨G', E', k1, k2, k3, k4⟩ := ih (i + 1) (j + 1) fu G E (by omega) (by omega) (by omega) (by omega) he hE (hI.skip (fun g y hq => by
        unfold edD
        rw [tk_mem (d := dFc) c1, tk_mem (d := dFc) c2]
        have mA : A.getD j dFc ∈ A := by rw [getD_e c2]; exact List.getElem_mem c2
        have mB : B.getD i dFc ∈ B := by rw [getD_e c1]; exact List.getElem_mem c1
        constructor
        · rintro (⟨a, b | b⟩ | ⟨a, b | b⟩)
          · exact .inl ⟨a, b⟩
          · rcases hq with ⟨q1, q2, q3⟩ | ⟨q1, q2, q3⟩
            · exact absurd (by rw [b, c3]; exact mA) q3
            · omega
          · exact .inr ⟨a, b⟩
          · rcases hq with ⟨q1, q2, q3⟩ | ⟨q1, q2, q3⟩
            · omega
            · exact absurd (by rw [b, ← c3]; exact mB) q3
        · rintro (⟨a, b⟩ | ⟨a, b⟩)
          · exact .inl ⟨a, .inl b⟩
          · exact .inr ⟨a, .inl b⟩)) (fun a b a1 b1 b2 => by
        by_cases ca : a = i
        · rw [ca, c3]; exact srt_get hsA (by omega) b2
        · exact hI1 a b (by omega) (by omega) b2) (fun a b b1 a1 a2 => by
        by_cases cb : b = j
        · rw [cb, ← c3]; exact srt_get hsB (by omega) a2
        · exact hI2 a b (by omega) (by omega) a2)
      refine ⟨G', E', ?_, k2, k3, k4⟩
      rw [← k1, st]
      unfold g306_149 g306_168 g306_186 g306_197 g306_211
      rw [if_pos (by omega), if_pos (by omega), if_neg (by omega), if_neg (by omega), ei, ej]
theorem l_306_2 (hf : 7000 < f) (hok : qOk s) (hh : h < 4) (ho : o = 123 + 29 * h) (hsA : A.Pairwise fLt) (hsB : B.Pairwise fLt) (hAB : B.length + A.length < 3400) : ∀ (d p fu : Nat) (G : xG_) (E : List pEd), p + d = s.1.length → d < fu → eEd G s A B → (∀ p, p < 16 → G 9 p = b01 (pOu s.2.2.1 (p : Int))) → rEd G o E → edI s A B p (fun _ _ => False) E →
    ∃ G' E', g306_2 f fu o (p : Int) G = some G' ∧ fEd o G G' ∧ rEd G' o E' ∧ qEd s A B E' := by
  have hnp := hok.1.1
  intro d
  induction d with
  | zero =>
    intro p fu G E h1 h2 he h9 hE hI
    obtain ⟨fu, rfl⟩ : ∃ t, fu = t + 1 := ⟨fu - 1, by omega⟩
    refine ⟨G, E, ?_, fun _ _ _ _ => rfl, hE, hI.1, fun e => ?_⟩
    · show g306_2b (g306_2 f fu) f _ _ _ = _
      unfold g306_2b
      rw [he.1.1, if_pos (by omega)]
    · rw [hI.2 e]
      exact ⟨fun ⟨a1, a2, a3, a4, _⟩ => ⟨a1, a2, a3, a4⟩, fun ⟨a1, a2, a3, a4⟩ => ⟨a1, a2, a3, a4, .inl (by omega)⟩⟩
  | succ d ih =>
    intro p fu G E h1 h2 he h9 hE hI
    obtain ⟨fu, rfl⟩ : ∃ t, fu = t + 1 := ⟨fu - 1, by omega⟩
    have hp : p < s.1.length := by omega
    have hpp : 0 ≤ (p : Int) ∧ (p : Int) < 16 := by omega
    have e : xwr ((p : Int) + 1) = ((p + 1 : Nat) : Int) := by rw [xwr_g _ (by omega) (by omega)]; omega
    by_cases c : pOu s.2.2.1 (p : Int) = true
    · obtain ⟨G1, E1, r1, r2, r3, r4⟩ := l_306_33 (f := f) (r2 := g306_2 f fu) (by omega) hok hh ho hp c hsA hsB hAB (B.length + A.length) 0 0 f G E (by omega) (by omega) (by omega) (by omega) he hE (hI.skip (fun g y _ => by
        unfold edD
        rw [List.take_zero, List.take_zero]
        constructor
        · rintro (⟨_, q⟩ | ⟨_, q⟩) <;> cases q
        · exact False.elim)) (fun a b a1 _ _ => absurd a1 (by omega)) (fun a b b1 _ _ => absurd b1 (by omega))
      obtain ⟨G', E', k1, k2, k3, k4⟩ := ih (p + 1) fu G1 E1 (by omega) (by omega) (he.ge hh ho r2) (fun x hx => by rw [r2 _ _ (by omega) (by omega)]; exact h9 x hx) r3 ⟨r4.1, fun e => by
        rw [r4.2 e]
        constructor
        · rintro ⟨a1, a2, a3, a4, a5 | a5⟩
          · exact ⟨a1, a2, a3, a4, .inl (by omega)⟩
          · exact ⟨a1, a2, a3, a4, .inl (by omega)⟩
        · rintro ⟨a1, a2, a3, a4, a5 | a5⟩
          · refine ⟨a1, a2, a3, a4, ?_⟩
            by_cases ce : e.1 = p
            · refine .inr ⟨ce, ?_⟩
              unfold edD
              rw [List.take_length, List.take_length]
              rcases a4 with ⟨x1, x2, _⟩ | ⟨x1, x2, _⟩
              · exact .inl ⟨x1, x2⟩
              · exact .inr ⟨x1, x2⟩
            · exact .inl (by omega)
          · exact a5.2.elim⟩
      refine ⟨G', E', ?_, r2.tr k2, k3, k4⟩
      rw [← k1, ← r1]
      have n1 : ¬ b01 (pOu s.2.2.1 (p : Int)) = 0 := by rw [c]; decide
      show g306_2b (g306_2 f fu) f _ _ _ = _
      unfold g306_2b
      simp only [Nat.reduceAdd]
      rw [he.1.1, if_neg (by omega), if_pos hpp, Int.toNat_natCast, h9 p (by omega), if_pos n1]
      rfl
    · have c' : pOu s.2.2.1 (p : Int) = false := Bool.eq_false_iff.mpr c
      obtain ⟨G', E', k1, k2, k3, k4⟩ := ih (p + 1) fu G E (by omega) (by omega) he h9 hE ⟨hI.1, fun e => by
        rw [hI.2 e]
        constructor
        · rintro ⟨a1, a2, a3, a4, a5 | a5⟩
          · exact ⟨a1, a2, a3, a4, .inl (by omega)⟩
          · exact a5.2.elim
        · rintro ⟨a1, a2, a3, a4, a5 | a5⟩
          · refine ⟨a1, a2, a3, a4, .inl ?_⟩
            have : e.1 ≠ p := fun q => by rw [q, c'] at a2; cases a2
            omega
          · exact a5.2.elim⟩
      refine ⟨G', E', ?_, k2, k3, k4⟩
      rw [← k1]
      have n1 : ¬ ¬ b01 (pOu s.2.2.1 (p : Int)) = 0 := fun q => q (by rw [c']; decide)
      show g306_2b (g306_2 f fu) f _ _ _ = _
      unfold g306_2b g306_217
      simp only [Nat.reduceAdd]
      rw [he.1.1, if_neg (by omega), if_pos hpp, Int.toNat_natCast, h9 p (by omega), if_neg n1, e]
/-- tellEdits -/
theorem l_306 {G : xG_} {q c : Nat} (hf : 7000 < f) (hok : qOk s) (hh : h < 4) (ho : o = 123 + 29 * h) (hP : rPr G 2 q c s) (hPn : rPn G 2 s) (hA : rFa G 247 A) (hB : rFa G 243 B) (hsA : A.Pairwise fLt) (hsB : B.Pairwise fLt) (hAB : B.length + A.length < 3400) (h0 : G o 27 = 0) :
    ∃ G' E', g306 f o G = some G' ∧ fEd o G G' ∧ rEd G' o E' ∧ qEd s A B E' := by
  have hnp := hok.1.1
  exact l_306_2 (f := f) hf hok hh ho hsA hsB hAB s.1.length 0 f G [] (by omega) (by omega) ⟨hP.1, hPn, hB, hA⟩ (fun p hp => (hP.2.2.2.1 p hp).2.2.1) ⟨h0, by decide, fun i hi => absurd hi (Nat.not_lt_zero i)⟩ ⟨List.Pairwise.nil, fun e => ⟨fun q => (by cases q), fun ⟨_, _, _, _, q⟩ => q.elim (fun q => absurd q (Nat.not_lt_zero _)) (fun q => q.2.elim)⟩⟩
end
end
