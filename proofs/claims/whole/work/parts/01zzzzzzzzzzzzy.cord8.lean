/-! RINGS one behind another, those alone that must be worked -/
def oRd (s : pPg) (O : List Nat) : Prop := O.Nodup ∧ (∀ g, g ∈ O → g < s.1.length ∧ qK s g = g) ∧ (∀ k, k < O.length → ∀ p, p < s.1.length → qK s p = O.getD k 0 → ∀ y, (qRd s.2.2.2.2.1 p).testBit y = true → y < s.1.length → qK s y = O.getD k 0 ∨ qK s y ∈ O.take k) ∧ ∀ x, x < s.1.length → qK s x = x → x ∈ O
/-- behind k RINGS: In rows of INPUTS, A rows ahead, B rows of RINGS not yet looked at, R rows now -/
def rgI (s : pPg) (fr : Prop) (In A B R : Nat → List pRw) (O : List Nat) (k ch wk : Nat) : Prop :=
  (∀ p, p < s.1.length → pIn s.2.1 (p : Int) = true → R p = In p) ∧ (∀ p, p < s.1.length → pIn s.2.1 (p : Int) = false → qK s p ∈ O.take k → dnR s R (qK s p)) ∧ (∀ p, p < s.1.length → pIn s.2.1 (p : Int) = false → qK s p ∉ O.take k → R p = B p) ∧
  (∀ j, ch.testBit j = true ↔ j < s.1.length ∧ (pIn s.2.1 (j : Int) = true ∨ qK s j ∈ O.take k) ∧ ¬ vEq (R j) (A j)) ∧
  ∀ j, wk.testBit j = true ↔ j < s.1.length ∧ pIn s.2.1 (j : Int) = false ∧ qK s j ∈ O.take k ∧ (fr ∨ ∃ x, rgR s (qK s j) x ∧ qK s x ≠ qK s j ∧ ¬ vEq (R x) (A x))
theorem tk_s8 {O : List Nat} {k x : Nat} (hk : k < O.length) : x ∈ O.take (k + 1) ↔ x ∈ O.take k ∨ x = O.getD k 0 := by
  rw [List.take_succ_eq_append_getElem hk, List.mem_append, List.mem_singleton, getD_e hk]
theorem tk_n8 {O : List Nat} {k : Nat} (h : O.Nodup) (hk : k < O.length) : O.getD k 0 ∉ O.take k := fun hm => by
  obtain ⟨i, hi, ei⟩ := List.getElem_of_mem hm
  rw [List.length_take] at hi
  rw [List.getElem_take] at ei
  have := (List.nodup_iff_pairwise_ne.mp h)
  have h2 := List.pairwise_iff_getElem.mp this i k (by omega) hk (by omega)
  rw [getD_e hk] at ei
  exact h2 ei
theorem tk_i8 {O : List Nat} {k x : Nat} (h : x ∈ O.take k) : ∃ i, i < k ∧ i < O.length ∧ O.getD i 0 = x := by
  obtain ⟨i, hi, ei⟩ := List.getElem_of_mem h
  rw [List.length_take] at hi
  rw [List.getElem_take] at ei
  exact ⟨i, by omega, by omega, by rw [getD_e (by omega)]; exact ei⟩
theorem tk_m8 {O : List Nat} {i k x : Nat} (h : x ∈ O.take i) (hk : i ≤ k) : x ∈ O.take k := (List.take_prefix_take_left hk).mem h
section
variable {s : pPg} {O : List Nat} {fr : Prop} {In A B R R' : Nat → List pRw} {k ch wk ch' wk' : Nat}
/-- what a RING reads elsewhere was looked at before it -/
theorem oRd.rd (hw : wPg s) (hO : oRd s O) (hk : k < O.length) {y : Nat} (hy : rgR s (O.getD k 0) y) (hne : qK s y ≠ O.getD k 0) : y < s.1.length ∧ qK s y ∈ O.take k := by
  have hl := rgR_lt hw hy
  obtain ⟨p, p1, p2, p3⟩ := (rgR_rd hw).mp hy
  exact ⟨hl, (hO.2.2.1 k hk p p1 p2 y p3 hl).resolve_left hne⟩
theorem oRd.mm (hO : oRd s O) (hN : wNh s) (hk : k < O.length) (hi : pIn s.2.1 ((O.getD k 0 : Nat) : Int) = false) {p : Nat} (hp : p < s.1.length) (h : qK s p = O.getD k 0) : pIn s.2.1 (p : Int) = false := by
  cases hb : pIn s.2.1 (p : Int) with
  | false => rfl
  | true =>
    have hm : O.getD k 0 ∈ O := by rw [getD_e hk]; exact List.getElem_mem hk
    obtain ⟨g1, g2⟩ := hO.2.1 _ hm
    have e : O.getD k 0 = p := inp_k hN hp g1 hb (by rw [g2, h])
    rw [e, hb] at hi
    cases hi
theorem oRd.mi (hO : oRd s O) (hN : wNh s) (hk : k < O.length) (hi : pIn s.2.1 ((O.getD k 0 : Nat) : Int) = true) {p : Nat} (hp : p < s.1.length) (h : qK s p = O.getD k 0) : p = O.getD k 0 := by
  have hm : O.getD k 0 ∈ O := by rw [getD_e hk]; exact List.getElem_mem hk
  obtain ⟨g1, g2⟩ := hO.2.1 _ hm
  exact inp_k hN g1 hp hi (by rw [g2, h])
/-- a RING of an INPUT -/
theorem rgI.inp (hO : oRd s O) (hk : k < O.length) (hN : wNh s) (h : rgI s fr In A B R O k ch wk) (hi : pIn s.2.1 ((O.getD k 0 : Nat) : Int) = true) : rgI s fr In A B R O (k + 1) ch wk := by
  obtain ⟨i1, i2, i3, i4, i5⟩ := h
  have hin : ∀ p, p < s.1.length → qK s p = O.getD k 0 → pIn s.2.1 (p : Int) = true := fun p hp e => by rw [hO.mi hN hk hi hp e]; exact hi
  refine ⟨i1, fun p hp hn hm => ?_, fun p hp hn hm => i3 p hp hn (fun q => hm ((tk_s8 hk).mpr (.inl q))), fun j => ?_, fun j => ?_⟩
  · rcases (tk_s8 hk).mp hm with q | q
    · exact i2 p hp hn q
    · rw [hin p hp q] at hn; cases hn
  · rw [i4 j]
    refine and_congr_right (fun hj => and_congr_left (fun _ => ⟨fun q => q.imp id (fun q => (tk_s8 hk).mpr (.inl q)), fun q => ?_⟩))
    rcases q with q | q
    · exact .inl q
    · rcases (tk_s8 hk).mp q with q | q
      · exact .inr q
      · exact .inl (hin j hj q)
  · rw [i5 j]
    refine and_congr_right (fun hj => and_congr_right (fun hn => and_congr_left (fun _ => ⟨fun q => (tk_s8 hk).mpr (.inl q), fun q => ?_⟩)))
    rcases (tk_s8 hk).mp q with q | q
    · exact q
    · rw [hin j hj q] at hn; cases hn
/-- a RING that needn't be worked -/
theorem rgI.skip (hw : wPg s) (hO : oRd s O) (hk : k < O.length) (hN : wNh s) (h : rgI s fr In A B R O k ch wk) (hT : qTb s R) (hi : pIn s.2.1 ((O.getD k 0 : Nat) : Int) = false) (hnf : ¬ fr) (hTA : qTb s A) (hBA : ∀ p, p < s.1.length → pIn s.2.1 (p : Int) = false → dnR s A (qK s p) ∧ B p = A p) (hc : ∀ y, rgR s (O.getD k 0) y → qK s y ≠ O.getD k 0 → ch.testBit y = false) : rgI s fr In A B R O (k + 1) ch wk := by
  obtain ⟨i1, i2, i3, i4, i5⟩ := h
  have hnk := tk_n8 hO.1 hk
  have hmm : ∀ p, p < s.1.length → qK s p = O.getD k 0 → R p = A p := fun p hp e => by
    have hn := hO.mm hN hk hi hp e
    rw [i3 p hp hn (by rw [e]; exact hnk), (hBA p hp hn).2]
  have hvr : ∀ y, rgR s (O.getD k 0) y → qK s y ≠ O.getD k 0 → vEq (A y) (R y) := fun y hy hne => by
    obtain ⟨y1, y2⟩ := hO.rd hw hk hy hne
    refine Classical.byContradiction (fun q => ?_)
    have := (i4 y).mpr ⟨y1, .inr y2, fun e => q e.symm⟩
    rw [hc y hy hne] at this
    cases this
  refine ⟨i1, fun p hp hn hm => ?_, fun p hp hn hm => i3 p hp hn (fun q => hm ((tk_s8 hk).mpr (.inl q))), fun j => ?_, fun j => ?_⟩
  · rcases (tk_s8 hk).mp hm with q | q
    · exact i2 p hp hn q
    · have hd := (hBA p hp hn).1
      rw [q] at hd ⊢
      exact dnR_cv hw hTA hT (fun p hp e => (hmm p hp e).symm) (fun y _ hy hne => hvr y hy hne) hd
  · rw [i4 j]
    refine and_congr_right (fun hj => ⟨fun ⟨q1, q2⟩ => ⟨q1.imp id (fun q => (tk_s8 hk).mpr (.inl q)), q2⟩, fun ⟨q1, q2⟩ => ⟨?_, q2⟩⟩)
    rcases q1 with q | q
    · exact .inl q
    · rcases (tk_s8 hk).mp q with q | q
      · exact .inr q
      · exact absurd (by rw [hmm j hj q]; rfl) q2
  · rw [i5 j]
    refine and_congr_right (fun hj => and_congr_right (fun hn => ⟨fun ⟨q1, q2⟩ => ⟨(tk_s8 hk).mpr (.inl q1), q2⟩, fun ⟨q1, q2⟩ => ⟨?_, q2⟩⟩))
    rcases (tk_s8 hk).mp q1 with q | q
    · exact q
    · exfalso
      rcases q2 with q2 | ⟨x, x1, x2, x3⟩
      · exact hnf q2
      · rw [q] at x1 x2
        exact x3 (hvr x x1 x2).symm
/-- what is read by RINGS that were looked at was looked at -/
theorem oRd.rd2 (hw : wPg s) (hO : oRd s O) {p y : Nat} (hm : qK s p ∈ O.take k) (hy : rgR s (qK s p) y) (hne : qK s y ≠ qK s p) : qK s y ∈ O.take k := by
  obtain ⟨i, i1, i2, i3⟩ := tk_i8 hm
  rw [← i3] at hy hne
  exact tk_m8 (hO.rd hw i2 hy hne).2 (by omega)
/-- a RING that was worked -/
theorem rgI.work (hw : wPg s) (hO : oRd s O) (hk : k < O.length) (hN : wNh s) (h : rgI s fr In A B R O k ch wk) (hT : qTb s R) (hT' : qTb s R') (hi : pIn s.2.1 ((O.getD k 0 : Nat) : Int) = false) (hE : wkE s (O.getD k 0) (rZ s (O.getD k 0) R) R') (hc : fr ∨ ∃ y, rgR s (O.getD k 0) y ∧ qK s y ≠ O.getD k 0 ∧ ch.testBit y = true) (hch : ∀ j, ch'.testBit j = true ↔ ch.testBit j = true ∨ (j < s.1.length ∧ qK s j = O.getD k 0 ∧ ¬ vEq (R' j) (A j))) (hwk : ∀ j, wk'.testBit j = true ↔ wk.testBit j = true ∨ (j < s.1.length ∧ qK s j = O.getD k 0)) : rgI s fr In A B R' O (k + 1) ch' wk' := by
  obtain ⟨i1, i2, i3, i4, i5⟩ := h
  have hnk := tk_n8 hO.1 hk
  have e1 : ∀ p, p < s.1.length → qK s p ≠ O.getD k 0 → rZ s (O.getD k 0) R p = R p := fun p _ hne => if_neg hne
  have e2 : ∀ p, p < s.1.length → qK s p = O.getD k 0 → rZ s (O.getD k 0) R p = [] := fun p _ he => if_pos he
  have out : ∀ p, p < s.1.length → qK s p ≠ O.getD k 0 → R' p = R p := fun p hp hne => by
    obtain ⟨n, a1, _⟩ := hE
    rw [(wkC_out (dnR.srt hT e1 e2) n R' a1).2 p hp hne, e1 p hp hne]
  have nr : ∀ {x : Nat}, x ∈ O.take k → x ≠ O.getD k 0 := fun {x} hx e => by rw [e] at hx; exact hnk hx
  refine ⟨fun p hp hq => ?_, fun p hp hn hm => ?_, fun p hp hn hm => ?_, fun j => ?_, fun j => ?_⟩
  · have hne : qK s p ≠ O.getD k 0 := fun e => by rw [hO.mm hN hk hi hp e] at hq; cases hq
    rw [out p hp hne]; exact i1 p hp hq
  · rcases (tk_s8 hk).mp hm with q | q
    · refine dnR_cv hw hT hT' (fun x hx e => (out x hx (by rw [e]; exact nr q)).symm) (fun y hy1 hy hne => ?_) (i2 p hp hn q)
      rw [out y hy1 (nr (hO.rd2 hw q hy hne))]; rfl
    · rw [q]
      exact ⟨rZ s (O.getD k 0) R, fun x hx hne => by rw [e1 x hx hne, out x hx hne], e2, hE⟩
  · have hm' : qK s p ∉ O.take k := fun q => hm ((tk_s8 hk).mpr (.inl q))
    have hne : qK s p ≠ O.getD k 0 := fun q => hm ((tk_s8 hk).mpr (.inr q))
    rw [out p hp hne]; exact i3 p hp hn hm'
  · rw [hch j, i4 j]
    constructor
    · rintro (⟨q1, q2, q3⟩ | ⟨q1, q2, q3⟩)
      · have hne : qK s j ≠ O.getD k 0 := fun e => by
          rcases q2 with q2 | q2
          · rw [hO.mm hN hk hi q1 e] at q2; cases q2
          · exact nr q2 e
        exact ⟨q1, q2.imp id (fun q => (tk_s8 hk).mpr (.inl q)), by rw [out j q1 hne]; exact q3⟩
      · exact ⟨q1, .inr ((tk_s8 hk).mpr (.inr q2)), q3⟩
    · rintro ⟨q1, q2, q3⟩
      by_cases c : qK s j = O.getD k 0
      · exact .inr ⟨q1, c, q3⟩
      · refine .inl ⟨q1, q2.imp id (fun q => ((tk_s8 hk).mp q).resolve_right c), ?_⟩
        rw [out j q1 c] at q3; exact q3
  · rw [hwk j, i5 j]
    have same : qK s j ∈ O.take k → ((fr ∨ ∃ x, rgR s (qK s j) x ∧ qK s x ≠ qK s j ∧ ¬ vEq (R x) (A x)) ↔ (fr ∨ ∃ x, rgR s (qK s j) x ∧ qK s x ≠ qK s j ∧ ¬ vEq (R' x) (A x))) := fun q => by
      refine or_congr Iff.rfl (exists_congr (fun x => and_congr_right (fun x1 => and_congr_right (fun x2 => ?_))))
      rw [out x (rgR_lt hw x1) (nr (hO.rd2 hw q x1 x2))]
    constructor
    · rintro (⟨q1, q2, q3, q4⟩ | ⟨q1, q2⟩)
      · exact ⟨q1, q2, (tk_s8 hk).mpr (.inl q3), (same q3).mp q4⟩
      · refine ⟨q1, hO.mm hN hk hi q1 q2, (tk_s8 hk).mpr (.inr q2), hc.imp id (fun ⟨y, y1, y2, y3⟩ => ⟨y, by rw [q2]; exact y1, by rw [q2]; exact y2, ?_⟩)⟩
        rw [out y (rgR_lt hw y1) y2]
        exact ((i4 y).mp y3).2.2
    · rintro ⟨q1, q2, q3, q4⟩
      rcases (tk_s8 hk).mp q3 with q | q
      · exact .inl ⟨q1, q2, q, (same q).mpr q4⟩
      · exact .inr ⟨q1, q⟩
/-- where rows are, they are the right ones -/
theorem rgI.det (hw : wPg s) (hO : oRd s O) (h : rgI s fr In A B R O k ch wk) (hT : qTb s R) {M : Nat → List pRw} (hM : qMod s In M) : ∀ p, p < s.1.length → (pIn s.2.1 (p : Int) = true ∨ qK s p ∈ O.take k) → R p = M p := by
  obtain ⟨i1, i2, i3, i4, i5⟩ := h
  obtain ⟨b1, b2, b3⟩ := hM
  have key : ∀ (n p : Nat), qCn s (qK s p) < n → p < s.1.length → (pIn s.2.1 (p : Int) = true ∨ qK s p ∈ O.take k) → R p = M p := by
    intro n
    induction n with
    | zero => intro p h; omega
    | succ n ih =>
      intro p hc hp hd
      cases hi : pIn s.2.1 (p : Int) with
      | true => rw [i1 p hp hi, b2 p hp hi]
      | false =>
        have hm : qK s p ∈ O.take k := hd.resolve_left (fun q => by rw [q] at hi; cases hi)
        obtain ⟨R0, c1, c2, c3⟩ := i2 p hp hi hm
        obtain ⟨R0', d1, d2, d3⟩ := b3 p hp hi
        have hag : ∀ q, q < s.1.length → (qK s q = qK s p ∨ rgR s (qK s p) q) → R0 q = R0' q := fun q hq hk => by
          by_cases cq : qK s q = qK s p
          · rw [c2 q hq cq, d2 q hq cq]
          · have hr : rgR s (qK s p) q := hk.resolve_left cq
            rw [c1 q hq cq, d1 q hq cq]
            exact ih q (by have := qCn_lt hw hr cq; omega) hq (.inr (hO.rd2 hw hm hr cq))
        obtain ⟨R'', e1, e2⟩ := wkE_cg hw (dnR.srt hT c1 c2) (dnR.srt b1 d1 d2) hag c3
        rw [← e2 p hp rfl]
        exact wkE_det (fun y hy => rgR_lt hw hy) e1 d3 p hp
  exact fun p hp hd => key _ p (Nat.lt_succ_self _) hp hd
/-- a RING that passes the LIMIT: there is no outcome -/
theorem rgI.fail (hw : wPg s) (hO : oRd s O) (hk : k < O.length) (hN : wNh s) (h : rgI s fr In A B R O k ch wk) (hT : qTb s R) (hi : pIn s.2.1 ((O.getD k 0 : Nat) : Int) = false) (hW : wkO s (O.getD k 0) (rZ s (O.getD k 0) R)) : ¬ ∃ M, qMod s In M := by
  rintro ⟨M, hM⟩
  have hd := h.det hw hO hT hM
  have hm : O.getD k 0 ∈ O := by rw [getD_e hk]; exact List.getElem_mem hk
  obtain ⟨g1, g2⟩ := hO.2.1 _ hm
  have e1 : ∀ p, p < s.1.length → qK s p ≠ O.getD k 0 → rZ s (O.getD k 0) R p = R p := fun p _ hne => if_neg hne
  have e2 : ∀ p, p < s.1.length → qK s p = O.getD k 0 → rZ s (O.getD k 0) R p = [] := fun p _ he => if_pos he
  obtain ⟨R0, c1, c2, c3⟩ := hM.2.2 _ g1 hi
  rw [g2] at c1 c2 c3
  have hs := dnR.srt hT e1 e2
  obtain ⟨R'', k1, k2⟩ := wkE_cg hw (dnR.srt hM.1 c1 c2) hs (fun q hq hk' => by
    by_cases cq : qK s q = O.getD k 0
    · rw [c2 q hq cq, e2 q hq cq]
    · rw [c1 q hq cq, e1 q hq cq]
      exact (hd q hq (.inr (hO.rd hw hk (hk'.resolve_left cq) cq).2)).symm) c3
  refine wkO_no (fun y hy => rgR_lt hw hy) hs (fun u hu => ?_) hW k1 (fun p hp => ?_)
  · have := hw.2.2.2.2.2.2 u hu
    exact ⟨this.1, this.2.1⟩
  · by_cases c : qK s p = O.getD k 0
    · rw [k2 p hp c]; exact (hM.1 p hp).1
    · obtain ⟨n, a1, _⟩ := k1
      rw [(wkC_out hs n R'' a1).2 p hp c, e1 p hp c]
      exact (hT p hp).1
/-- all RINGS -/
theorem rgI.done (hw : wPg s) (hO : oRd s O) (h : rgI s fr In A B R O O.length ch wk) (hT : qTb s R) : qMod s In R := by
  obtain ⟨i1, i2, _⟩ := h
  refine ⟨hT, i1, fun p hp hi => i2 p hp hi ?_⟩
  rw [List.take_length]
  exact hO.2.2.2 _ (qK_lt hp) (qK_id hw hp)
theorem oRd_of {S : Nat → Nat × Nat × Nat} {G : xG_} {q nx : Nat} (h : cPgm S G q nx s) : ∃ O, oRd s O ∧ cOr G q O := by
  obtain ⟨_, _, O, ⟨dn, o1, o2, o3, o4, o5⟩, o6, o7⟩ := h.2.2.2.2.2.2.2.1
  exact ⟨O, ⟨o3, o4, o5, o7⟩, o6⟩
end
