/-! A CHANGE comes to the rows of its INPUT -/
def qKy (s : pPg) (p : Nat) : Nat := (pKy s.2.1 (p : Int)).toNat
/-- the CHANGE e is for p -/
def chT (s : pPg) (e : pPe) (p : Nat) : Prop := qNm s p = e.2.1 ∧ pIn s.2.1 (p : Int) = true ∧ e.2.2.length = qN s p
def chY (s : pPg) (e : pPe) (R : Nat → List pRw) (p : Nat) (y : pRw) : Prop := (¬ chT s e p ∧ y ∈ R p) ∨ (chT s e p ∧ ((e.1 < 0 ∧ y ∈ R p ∧ y.1 ≠ e.2.2) ∨ (0 ≤ e.1 ∧ (∃ w, w ∈ R p ∧ w.1 = e.2.2) ∧ y ∈ R p) ∨ (0 ≤ e.1 ∧ (∀ w, w ∈ R p → w.1 ≠ e.2.2) ∧ ((y ∈ R p ∧ ¬ (0 < qKy s p ∧ y.1.take (qKy s p) = e.2.2.take (qKy s p))) ∨ y = (e.2.2, 0)))))
/-- the rows behind a CHANGE -/
def chR (s : pPg) (e : pPe) (R R' : Nat → List pRw) : Prop := ∀ p, p < s.1.length → (R' p).Pairwise rwLt ∧ (R' p).length ≤ (R p).length + 1 ∧ ∀ y, y ∈ R' p ↔ chY s e R p y
theorem pKy_in {s : pPg} (hw : wPg s) (p : Nat) : 0 ≤ pKy s.2.1 (p : Int) ∧ pKy s.2.1 (p : Int) ≤ 3 := by
  unfold pKy
  cases h : s.2.1.find? (fun x => decide (x.1 = (p : Int))) with
  | none => exact ⟨by show (0 : Int) ≤ 0; decide, by show (0 : Int) ≤ 3; decide⟩
  | some x =>
    have := hw.2.2.1 x (List.mem_of_find?_eq_some h)
    show 0 ≤ x.2.2 ∧ x.2.2 ≤ 3
    omega
theorem rVe.tk {G : xG_} {a i k : Nat} {xs : List Int} (h : rVe G a i xs) : rVe G a i (xs.take k) := by
  obtain ⟨h1, h2, h3, h4⟩ := h
  have hl : (xs.take k).length ≤ xs.length := by rw [List.length_take]; omega
  refine ⟨by omega, h2, by omega, fun j hj => ?_⟩
  rw [List.length_take] at hj
  rw [getD_tk (by omega)]
  exact h4 j (by omega)
section
variable {f q c : Nat} {s : pPg} {R : Nat → List pRw} {e : pPe} {o i : Nat}
theorem l_301_104 {p k : Nat} {vs : List Int} {G0 : xG_} (hf : 600 < f) (hok : qOk s) (hp : p < s.1.length) (hk0 : 0 < k) (hk : k ≤ 3) (hkn : k ≤ qN s p) (h5 : G0 5 p = (k : Int)) (ho : o + 28 < 107 ∨ 109 < o + 28) (hi : i < 400) (hv : rVe G0 (o + 28) (4 * i) vs) (hvl : vs.length = qN s p) (hs : ∀ q, q < s.1.length → (R q).Pairwise rwLt) (hl : (R p).length ≤ 520) : ∀ (m fu : Nat) (G : xG_) (R1 : Nat → List pRw), m ≤ (R p).length → m < fu → (∀ a j, ¬ (107 ≤ a ∧ a ≤ 109) → G a j = G0 a j) → rTb G s.1.length (qN s) R1 → (∀ q, q < s.1.length → (R1 q).Pairwise rwLt) → (∀ q, q ≠ p → R1 q = R q) → R1 p = (R p).take m ++ ((R p).drop m).filter (fun y => decide (y.1.take k ≠ vs.take k)) →
    ∃ G' R', g301_104 f fu o (i : Int) (p : Int) ((m : Int) - 1) G = g301_167 f o (i : Int) (p : Int) G' ∧ (∀ a j, ¬ (107 ≤ a ∧ a ≤ 109) → G' a j = G0 a j) ∧ rTb G' s.1.length (qN s) R' ∧ (∀ q, q < s.1.length → (R' q).Pairwise rwLt) ∧ (∀ q, q ≠ p → R' q = R q) ∧ R' p = (R p).filter (fun y => decide (y.1.take k ≠ vs.take k)) := by
  have hnp := hok.1.1
  have e4 : xwr (4 * (i : Int)) = ((4 * i : Nat) : Int) := by rw [xwr_g _ (by omega) (by omega)]; omega
  intro m
  induction m with
  | zero =>
    intro fu G R1 h1 h2 h3 hT hs1 hq hR
    obtain ⟨fu, rfl⟩ : ∃ t, fu = t + 1 := ⟨fu - 1, by omega⟩
    refine ⟨G, R1, ?_, h3, hT, hs1, hq, by rw [hR, List.take_zero, List.drop_zero, List.nil_append]⟩
    show g301_104b (g301_104 f fu) f _ _ _ _ _ = _
    unfold g301_104b
    rw [if_pos (by omega)]
  | succ m ih =>
    intro fu G R1 h1 h2 h3 hT hs1 hq hR
    obtain ⟨fu, rfl⟩ : ∃ t, fu = t + 1 := ⟨fu - 1, by omega⟩
    have hm : m < (R p).length := by omega
    have em : (((m + 1 : Nat) : Int) - 1) = (m : Int) := by omega
    have e5 : xwr ((m : Int) + -1) = (m : Int) - 1 := by rw [xwr_g _ (by omega) (by omega)]; omega
    have htl : ((R p).take (m + 1)).length = m + 1 := by rw [List.length_take]; omega
    have hR1l : m < (R1 p).length := by rw [hR, List.length_append]; omega
    have hrow : (R1 p).getD m dRw = (R p).getD m dRw := by rw [hR, getD_app _ (by omega), getD_tk (by omega)]
    obtain ⟨t1, t2⟩ := hT p hp
    have hrl : ((R p).getD m dRw).1.length = qN s p := by rw [← hrow]; exact (t1.2.2 m hR1l).1
    have hpp : 0 ≤ (p : Int) ∧ (p : Int) < 16 := by omega
    have g5 : G 5 p = (k : Int) := by rw [h3 _ _ (by omega)]; exact h5
    have hve1 : rVe G 107 ((p * 520 + m) * 4) (((R p).getD m dRw).1.take k) := by
      have := t1.ve (by omega) t2 hR1l
      rw [hrow] at this
      exact this.tk
    have hve2 : rVe G (o + 28) (4 * i) (vs.take k) := by
      obtain ⟨z1, z2, z3, z4⟩ := hv
      exact rVe.tk ⟨z1, z2, z3, fun j hj => by rw [h3 _ _ (by omega)]; exact z4 j hj⟩
    have l1 : (((R p).getD m dRw).1.take k).length = k := by rw [List.length_take, hrl]; omega
    have l2 : (vs.take k).length = k := by rw [List.length_take, hvl]; omega
    have ec : g262 f 107 (((p * 520 + m) * 4 : Nat) : Int) (o + 28) ((4 * i : Nat) : Int) (k : Int) G = some (vCmp (((R p).getD m dRw).1.take k) (vs.take k), G) := l_262 (by omega) hve1 hve2 l1 l2
    have step : g301_104 f (fu + 1) o (i : Int) (p : Int) (m : Int) G = if ¬ vCmp (((R p).getD m dRw).1.take k) (vs.take k) = 0 then g301_104 f fu o (i : Int) (p : Int) ((m : Int) - 1) G else (g265 f (p : Int) (m : Int) G).bind fun R121 => g301_104 f fu o (i : Int) (p : Int) ((m : Int) - 1) R121 := by
      have n5 : ¬ (k : Int) ≤ 0 := by omega
      show g301_104b (g301_104 f fu) f _ _ _ _ _ = _
      unfold g301_104b g301_161
      rw [if_neg (by omega), if_pos hpp]
      simp only [Nat.reduceAdd, Int.toNat_natCast, g5, if_neg n5]
      rw [l_261 (by omega) (by omega), Option.bind_some]
      simp only [if_pos hpp, g5, e4, ec, Option.bind_some, e5]
    have hdrop : (R p).drop m = (R p).getD m dRw :: (R p).drop (m + 1) := by rw [List.drop_eq_getElem_cons hm, getD_e hm]
    rw [em, step]
    by_cases cc : vCmp (((R p).getD m dRw).1.take k) (vs.take k) = 0
    · have n1 : ¬ ¬ vCmp (((R p).getD m dRw).1.take k) (vs.take k) = 0 := fun q => q cc
      have ee := vCmp_eq (by rw [l1, l2]) cc
      rw [if_neg n1]
      obtain ⟨G1, R2, k1, k2, k3, k4, k5, k6⟩ := l_rem (f := f) (k := m) hf hnp hp hT hs1 hR1l
      rw [k1, Option.bind_some]
      refine ih fu G1 R2 (by omega) (by omega) (fun a j y => by rw [k2 a j y]; exact h3 a j y) k3 k4 (fun q hq' => by rw [k5 q hq']; exact hq q hq') ?_
      have efn : List.filter (fun y : pRw => decide (y.1.take k ≠ vs.take k)) ((R p).getD m dRw :: (R p).drop (m + 1)) = List.filter (fun y : pRw => decide (y.1.take k ≠ vs.take k)) ((R p).drop (m + 1)) := List.filter_cons_of_neg (fun q => absurd ee (of_decide_eq_true q))
      rw [k6, hR, hdrop, efn]
      rw [List.take_append_of_le_length (by omega), List.take_take, Nat.min_eq_left (by omega), List.drop_append_of_le_length (by omega), List.drop_of_length_le (by omega), List.nil_append]
    · rw [if_pos cc]
      refine ih fu G R1 (by omega) (by omega) h3 hT hs1 hq ?_
      have ne : ((R p).getD m dRw).1.take k ≠ vs.take k := fun q => cc (by rw [q]; exact vCmp_self _)
      rw [hR, hdrop, List.filter_cons_of_pos (by simp only [decide_eq_true_eq]; exact ne), List.take_succ_eq_append_getElem hm, getD_e hm, List.append_assoc]
      rfl
/-- change -/
theorem l_301 {G : xG_} {ps : List pPe} {M : Nat → List pRw} (hf : 600 < f) (hok : qOk s) (hkn : ∀ p, p < s.1.length → pIn s.2.1 (p : Int) = true → qKy s p ≤ qN s p) (hE : rEn G q c s R) (hs : ∀ p, p < s.1.length → (R p).Pairwise rwLt) (hl : ∀ p, p < s.1.length → (R p).length < 520) {h : Nat} (hh : h < 4) (ho : o = 123 + 29 * h) (hps : rPe G o ps) (hi : i < ps.length) :
    ∃ G' R', g301 f o (i : Int) G = some G' ∧ (∀ a j, ¬ (107 ≤ a ∧ a ≤ 109) → G' a j = G a j) ∧ rTb G' s.1.length (qN s) R' ∧ chR s (ps.getD i dPe) R R' := by
  have hnp := hok.1.1
  obtain ⟨e1, e2, e3, hT⟩ := hE
  obtain ⟨p1, p2, p3⟩ := hps
  obtain ⟨q1, q2, q3, q4, q5⟩ := p3 i hi
  have hii : 0 ≤ (i : Int) ∧ (i : Int) < 400 := by omega
  have e4 : xwr (4 * (i : Int)) = ((4 * i : Nat) : Int) := by rw [xwr_g _ (by omega) (by omega)]; omega
  have nochange : (∀ p, p < s.1.length → ¬ chT s (ps.getD i dPe) p) → g301 f o (i : Int) G = some G → ∃ G' R', g301 f o (i : Int) G = some G' ∧ (∀ a j, ¬ (107 ≤ a ∧ a ≤ 109) → G' a j = G a j) ∧ rTb G' s.1.length (qN s) R' ∧ chR s (ps.getD i dPe) R R' := fun hn he => ⟨G, R, he, fun _ _ _ => rfl, hT, fun p hp => ⟨hs p hp, by omega, fun y => ⟨fun hy => .inl ⟨hn p hp, hy⟩, fun hy => by
    rcases hy with hy | hy
    · exact hy.2
    · exact absurd hy.1 (hn p hp)⟩⟩⟩
  rcases pIdx_get (x := (ps.getD i dPe).2.1) hok.1.2.1 with ⟨c1, c2⟩ | ⟨p, r1, r2, r3, r4⟩
  · refine nochange (fun p hp hh => c2 ?_) ?_
    · rw [← hh.1]
      unfold qNm
      rw [getD_e hp]
      exact List.getElem_mem hp
    · unfold g301 g301_49
      rw [if_pos hii, Int.toNat_natCast, q2, e1.1.idx (by omega) (by omega), Option.bind_some, c1, if_pos rfl]
  · have hin : G 8 p = b01 (pIn s.2.1 (p : Int)) := (e1.2.2.2.1 p (by omega)).1
    have h5 : G 5 p = pKy s.2.1 (p : Int) := (e1.2.2.2.1 p (by omega)).2.1
    have h4 : G 4 p = (qN s p : Int) := by
      rw [(qN_c hok.1 p).1]
      exact e2 p r1
    have hpp : 0 ≤ (p : Int) ∧ (p : Int) < 16 := by omega
    have n1 : ¬ (p : Int) = -1 := by omega
    have only : ∀ p', p' < s.1.length → qNm s p' = (ps.getD i dPe).2.1 → p' = p := fun p' hp' h => r4 p' hp' h
    have hlen28 : ((xl_t (o + 28)).2.2 : Int) = 1600 := by rw [ho]; exact xl_line28 hh
    have hv : rVe G (o + 28) (4 * i) (ps.getD i dPe).2.2 := ⟨by rw [hlen28]; omega, by omega, by omega, fun k hk => q5 k (by omega)⟩
    have step : g301 f o (i : Int) G = if b01 (pIn s.2.1 (p : Int)) = 0 then some G else if (qN s p : Int) = ((ps.getD i dPe).2.2.length : Int) then (g263 f (p : Int) (o + 28) ((4 * i : Nat) : Int) G).bind fun R138 => (if 0 ≤ R138.2 (o + 24) i then (if R138.1 = -1 then g301_104 f f o (i : Int) (p : Int) (xwr (R138.2 108 p - 1)) R138.2 else some R138.2) else (if R138.1 = -1 then some R138.2 else (g265 f (p : Int) R138.1 R138.2).bind fun R148 => some R148)) else some G := by
      unfold g301 g301_49 g301_86
      rw [if_pos hii, Int.toNat_natCast, q2, e1.1.idx (by omega) (by omega), Option.bind_some, r2, if_neg n1]
      simp only [Nat.reduceAdd, Int.toNat_natCast, if_pos hpp, if_pos hii, hin, h4, q3, e4]
    cases hbi : pIn s.2.1 (p : Int) with
    | false =>
      rw [hbi, if_pos (show b01 false = 0 from rfl)] at step
      refine nochange (fun p' hp' hh => ?_) step
      have := hh.2.1
      rw [only p' hp' hh.1, hbi] at this
      cases this
    | true =>
      rw [hbi, if_neg (show ¬ b01 true = 0 from by decide)] at step
      by_cases cl : (ps.getD i dPe).2.2.length = qN s p
      · rw [if_pos (by omega)] at step
        have htg : chT s (ps.getD i dPe) p := ⟨r3, hbi, cl⟩
        have hoth : ∀ p', p' < s.1.length → p' ≠ p → ¬ chT s (ps.getD i dPe) p' := fun p' hp' hne hh => hne (only p' hp' hh.1)
        obtain ⟨t1, t2⟩ := hT p r1
        obtain ⟨z, z1, z2⟩ := l_263 (f := f) hf (by omega : p < 16) t2 t1 h4 hv cl
        rw [z1, Option.bind_some] at step
        have step2 : g301 f o (i : Int) G = if 0 ≤ (ps.getD i dPe).1 then (if z = -1 then g301_104 f f o (i : Int) (p : Int) (xwr (((R p).length : Int) - 1)) G else some G) else (if z = -1 then some G else (g265 f (p : Int) z G).bind fun R148 => some R148) := by
          rw [step, ← q1, ← t1.1]
        have other : ∀ {R' : Nat → List pRw}, (∀ q', q' ≠ p → R' q' = R q') → ∀ p', p' < s.1.length → p' ≠ p → (R' p').Pairwise rwLt ∧ (R' p').length ≤ (R p').length + 1 ∧ ∀ y, y ∈ R' p' ↔ chY s (ps.getD i dPe) R p' y := fun {R'} hq' p' hp' hne => by
          rw [hq' p' hne]
          refine ⟨hs p' hp', by omega, fun y => ⟨fun hy => .inl ⟨hoth p' hp' hne, hy⟩, fun hy => ?_⟩⟩
          rcases hy with hy | hy
          · exact hy.2
          · exact absurd hy.1 (hoth p' hp' hne)
        have same : (∀ y, y ∈ R p ↔ chY s (ps.getD i dPe) R p y) → g301 f o (i : Int) G = some G → ∃ G' R', g301 f o (i : Int) G = some G' ∧ (∀ a j, ¬ (107 ≤ a ∧ a ≤ 109) → G' a j = G a j) ∧ rTb G' s.1.length (qN s) R' ∧ chR s (ps.getD i dPe) R R' := fun hy he => ⟨G, R, he, fun _ _ _ => rfl, hT, fun p' hp' => by
          by_cases cp : p' = p
          · rw [cp]; exact ⟨hs p r1, by omega, hy⟩
          · exact other (fun _ _ => rfl) p' hp' cp⟩
        by_cases csg : 0 ≤ (ps.getD i dPe).1
        · rw [if_pos csg] at step2
          rcases z2 with ⟨z2, z3⟩ | ⟨k, k1, k2, k3⟩
          · rw [if_pos z2] at step2
            have hk3 := pKy_in hok.1 p
            have hkk : pKy s.2.1 (p : Int) = (qKy s p : Int) := by unfold qKy; omega
            have em : xwr (((R p).length : Int) - 1) = ((R p).length : Int) - 1 := by rw [xwr_g _ (by have := hl p r1; omega) (by have := hl p r1; omega)]
            rw [em] at step2
            have mid : ∃ G1 R1, g301 f o (i : Int) G = g301_167 f o (i : Int) (p : Int) G1 ∧ (∀ a j, ¬ (107 ≤ a ∧ a ≤ 109) → G1 a j = G a j) ∧ rTb G1 s.1.length (qN s) R1 ∧ (∀ q, q < s.1.length → (R1 q).Pairwise rwLt) ∧ (∀ q, q ≠ p → R1 q = R q) ∧ (R1 p).length ≤ (R p).length ∧ ∀ y, y ∈ R1 p ↔ y ∈ R p ∧ ¬ (0 < qKy s p ∧ y.1.take (qKy s p) = (ps.getD i dPe).2.2.take (qKy s p)) := by
              by_cases ck : 0 < qKy s p
              · obtain ⟨G1, R1, m1, m2, m3, m4, m5, m6⟩ := l_301_104 (f := f) (o := o) (i := i) (k := qKy s p) (vs := (ps.getD i dPe).2.2) (G0 := G) hf hok r1 ck (by omega) (hkn p r1 hbi) (by rw [h5]; exact hkk) (by omega) (by omega) hv cl hs (by have := hl p r1; omega) (R p).length f G R (Nat.le_refl _) (by have := hl p r1; omega) (fun _ _ _ => rfl) hT hs (fun _ _ => rfl) (by rw [List.take_length, List.drop_length]; simp)
                refine ⟨G1, R1, step2.trans m1, m2, m3, m4, m5, by rw [m6]; exact List.length_filter_le _ _, fun y => ?_⟩
                rw [m6, List.mem_filter, decide_eq_true_eq]
                constructor
                · exact fun ⟨a, b⟩ => ⟨a, fun q => b q.2⟩
                · exact fun ⟨a, b⟩ => ⟨a, fun q => b ⟨ck, q⟩⟩
              · refine ⟨G, R, ?_, fun _ _ _ => rfl, hT, hs, fun _ _ => rfl, Nat.le_refl _, fun y => ⟨fun hy => ⟨hy, fun q => ck q.1⟩, fun hy => hy.1⟩⟩
                rw [step2]
                obtain ⟨fu, rfl⟩ : ∃ t, f = t + 1 := ⟨f - 1, by omega⟩
                show g301_104b (g301_104 (fu + 1) fu) (fu + 1) _ _ _ _ _ = _
                unfold g301_104b
                by_cases c0 : ((R p).length : Int) - 1 < 0
                · rw [if_pos c0]
                · rw [if_neg c0, if_pos hpp]
                  simp only [Nat.reduceAdd, Int.toNat_natCast, h5, hkk]
                  rw [if_pos (by omega)]
            obtain ⟨G1, R1, m1, m2, m3, m4, m5, m6, m7⟩ := mid
            have hv1 : rVe G1 (o + 28) (4 * i) (ps.getD i dPe).2.2 := by
              obtain ⟨y1, y2, y3, y4⟩ := hv
              exact ⟨y1, y2, y3, fun k hk => by rw [m2 _ _ (by omega)]; exact y4 k hk⟩
            obtain ⟨G2, R2, n1, n2, n3, n4, n5, n6⟩ := l_add (f := f) (u := 0) hf hnp r1 m3 m4 (by have := hl p r1; omega) (by rw [m2 _ _ (by omega)]; exact h4) ⟨by omega, by omega, by omega⟩ hv1 cl
            refine ⟨G2, R2, ?_, fun a j y => by rw [n2 a j y, m2 a j y], n3, fun p' hp' => ?_⟩
            · rw [m1]
              unfold g301_167
              rw [e4, n1]
              rfl
            · by_cases cp : p' = p
              · rw [cp]
                rcases n6 with ⟨⟨y, y1, y2⟩, _⟩ | ⟨n6, n7, n8⟩
                · exact absurd y2 (z3 y ((m7 y).mp y1).1)
                · refine ⟨n4 p r1, by omega, fun y => ?_⟩
                  rw [n8 y, m7 y]
                  constructor
                  · intro hy
                    exact .inr ⟨htg, .inr (.inr ⟨csg, z3, hy⟩)⟩
                  · rintro (⟨hy, _⟩ | ⟨_, hy | hy | hy⟩)
                    · exact absurd htg hy
                    · omega
                    · obtain ⟨w, w1, w2⟩ := hy.2.1
                      exact absurd w2 (z3 w w1)
                    · exact hy.2.2
              · exact other (fun q' hq' => by rw [n5 q' hq', m5 q' hq']) p' hp' cp
          · rw [if_neg (by omega)] at step2
            refine same (fun y => ⟨fun hy => .inr ⟨htg, .inr (.inl ⟨csg, ⟨(R p).getD k dRw, by rw [getD_e k1]; exact List.getElem_mem k1, k3⟩, hy⟩)⟩, fun hy => ?_⟩) step2
            rcases hy with hy | ⟨_, hy | hy | hy⟩
            · exact hy.2
            · exact hy.2.1
            · exact hy.2.2
            · exact absurd k3 (hy.2.1 _ (by rw [getD_e k1]; exact List.getElem_mem k1))
        · rw [if_neg csg] at step2
          rcases z2 with ⟨z2, z3⟩ | ⟨k, k1, k2, k3⟩
          · rw [if_pos z2] at step2
            refine same (fun y => ⟨fun hy => .inr ⟨htg, .inl ⟨by omega, hy, z3 y hy⟩⟩, fun hy => ?_⟩) step2
            rcases hy with hy | ⟨_, hy | hy | hy⟩
            · exact hy.2
            · exact hy.2.1
            · exact hy.2.2
            · omega
          · obtain ⟨G1, R1, m1, m2, m3, m4, m5, m6⟩ := l_rem (f := f) (k := k) hf hnp r1 hT hs k1
            rw [if_neg (by omega), k2, m1] at step2
            refine ⟨G1, R1, step2, m2, m3, fun p' hp' => ?_⟩
            by_cases cp : p' = p
            · rw [cp]
              refine ⟨m4 p r1, by rw [m6, len_del k1]; omega, fun y => ?_⟩
              rw [m6, srt_del_mem rwLt_irr (d := dRw) (hs p r1) k1]
              have uniq : ∀ y, y ∈ R p → (y ≠ (R p).getD k dRw ↔ y.1 ≠ (ps.getD i dPe).2.2) := fun y hy => by
                constructor
                · intro hne he
                  obtain ⟨j, hj, rfl⟩ := List.getElem_of_mem hy
                  rw [getD_e k1] at hne k3
                  have hjk : j ≠ k := fun q => hne (by subst q; rfl)
                  have hk' : (R p)[j].1 = (R p)[k].1 := he.trans k3.symm
                  have pw := List.pairwise_iff_getElem.mp (hs p r1)
                  by_cases c1 : j < k
                  · have := pw j k hj k1 c1
                    unfold rwLt at this
                    rw [hk'] at this
                    exact vLt_irr _ this
                  · have := pw k j k1 hj (by omega)
                    unfold rwLt at this
                    rw [hk'] at this
                    exact vLt_irr _ this
                · intro hne he
                  rw [he] at hne
                  exact hne k3
              constructor
              · rintro ⟨y1, y2⟩
                exact .inr ⟨htg, .inl ⟨by omega, y1, (uniq y y1).mp y2⟩⟩
              · rintro (⟨hy, _⟩ | ⟨_, hy | hy | hy⟩)
                · exact absurd htg hy
                · exact ⟨hy.2.1, (uniq y hy.2.1).mpr hy.2.2⟩
                · omega
                · omega
            · exact other m5 p' hp' cp
      · rw [if_neg (by omega)] at step
        refine nochange (fun p' hp' hh => ?_) step
        have := hh.2.2
        rw [only p' hp' hh.1] at this
        exact cl this
end
