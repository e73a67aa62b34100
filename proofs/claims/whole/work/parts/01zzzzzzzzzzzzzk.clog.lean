/-! What a round moved: facts, and rows one predicate after another -/
def fcL (nm : Nat → Int) (L : Nat → List pRw) (n : Nat) : List pFc := (List.range n).flatMap (fun p => (L p).map (fun w => (nm p, w.1)))
theorem fcL_m {nm : Nat → Int} {L : Nat → List pRw} {n : Nat} {y : pFc} : y ∈ fcL nm L n ↔ ∃ p, p < n ∧ ∃ w ∈ L p, y = (nm p, w.1) := by
  unfold fcL
  rw [List.mem_flatMap]
  constructor
  · rintro ⟨p, p1, p2⟩
    obtain ⟨w, w1, w2⟩ := List.mem_map.mp p2
    exact ⟨p, List.mem_range.mp p1, w, w1, w2.symm⟩
  · rintro ⟨p, p1, w, w1, w2⟩
    exact ⟨p, List.mem_range.mpr p1, List.mem_map.mpr ⟨w, w1, w2.symm⟩⟩
theorem fcL_s {nm : Nat → Int} {L : Nat → List pRw} {n : Nat} : fcL nm L (n + 1) = fcL nm L n ++ (L n).map (fun w => (nm n, w.1)) := by
  unfold fcL
  rw [List.range_succ, List.flatMap_append]
  simp
theorem fcL_nd {nm : Nat → Int} {L : Nat → List pRw} : ∀ (n : Nat), (∀ p q, p < n → q < n → nm p = nm q → p = q) → (∀ p, p < n → (L p).Pairwise rwLt) → (fcL nm L n).Nodup
  | 0, _, _ => List.nodup_nil
  | n + 1, hi, hs => by
    rw [fcL_s, List.nodup_append]
    refine ⟨fcL_nd n (fun p q h1 h2 => hi p q (by omega) (by omega)) (fun p hp => hs p (by omega)), ?_, fun a ha b hb e => ?_⟩
    · rw [List.nodup_iff_pairwise_ne, List.pairwise_map]
      refine (hs n (by omega)).imp (fun {r1 r2} hab => fun e => ?_)
      injection e with _ e
      have hab' : vLt r1.1 r2.1 := hab
      rw [e] at hab'
      exact vLt_irr _ hab'
    · obtain ⟨p, p1, w, w1, w2⟩ := fcL_m.mp ha
      obtain ⟨w', w3, w4⟩ := List.mem_map.mp hb
      rw [w2, ← w4] at e
      injection e with e _
      have := hi p n (by omega) (by omega) e
      omega
theorem fcL_len {nm : Nat → Int} {L : Nat → List pRw} : ∀ (n : Nat), (fcL nm L n).length = qTo L n
  | 0 => rfl
  | n + 1 => by
    rw [fcL_s, List.length_append, List.length_map, fcL_len n]
    rfl
theorem lgD_ln2 {rd sg : Int} {A B : List pFc} : (lgD rd sg A B).length = (A.filter (fun y => ! decide (y ∈ B))).length := by
  unfold lgD
  rw [List.length_map]
/-- which rows stand for the rows A of so in s -/
def isAh (so s : pPg) (Mo A : Nat → List pRw) : Prop := ∀ p, p < s.1.length → (∃ r, r < so.1.length ∧ qNm so r = qNm s p ∧ qN so r = qN s p ∧ A p = Mo r) ∨ ((∀ r, r < so.1.length → qNm so r = qNm s p → qN so r ≠ qN s p) ∧ A p = [])
section
variable {s so : pPg} {R A Mo : Nat → List pRw} {F Fo : List pFc} {rd : Int}
theorem isAh.srt (h : isAh so s Mo A) (hM : qTb so Mo) : ∀ p, p < s.1.length → (A p).Pairwise rwLt ∧ (A p).length ≤ 100 ∧ ∀ w ∈ A p, w.1.length = qN s p := fun p hp => by
  rcases h p hp with ⟨r, r1, r2, r3, e⟩ | ⟨_, e⟩
  · rw [e, ← r3]; exact ⟨(hM r r1).2.1, (hM r r1).1, fun w hw => ((hM r r1).2.2 w hw).1⟩
  · rw [e]; exact ⟨List.Pairwise.nil, Nat.zero_le _, fun w hw => by cases hw⟩
/-- a fact of p was there -/
theorem fo_iff (hoko : qOk so) (hM : qTb so Mo) (hFo : qFa so Mo Fo) (hA : isAh so s Mo A) {p : Nat} (hp : p < s.1.length) {xs : List Int} (hx : xs.length = qN s p) : (qNm s p, xs) ∈ Fo ↔ hasV (A p) xs = true := by
  rw [hFo.2, hasV_t]
  constructor
  · rintro ⟨r, r1, r2, w, w1, w2⟩
    have r2' : qNm s p = qNm so r := r2
    have w2' : w.1 = xs := w2
    have hl := ((hM r r1).2.2 w w1).1
    rcases hA p hp with ⟨r', a1, a2, a3, e⟩ | ⟨a1, e⟩
    · have : r' = r := nm_inj hoko a1 r1 (a2.trans r2')
      subst this
      exact ⟨w, by rw [e]; exact w1, w2'⟩
    · exact absurd (by rw [← hl, w2', hx]) (a1 r r1 r2'.symm)
  · rintro ⟨z, z1, z2⟩
    rcases hA p hp with ⟨r, a1, a2, a3, e⟩ | ⟨a1, e⟩
    · rw [e] at z1
      exact ⟨r, a1, a2.symm, z, z1, z2⟩
    · rw [e] at z1; cases z1
theorem fn_iff (hok : qOk s) (hF : qFa s R F) {p : Nat} (hp : p < s.1.length) {xs : List Int} : (qNm s p, xs) ∈ F ↔ hasV (R p) xs = true := by
  rw [hF.2, hasV_t]
  constructor
  · rintro ⟨r, r1, r2, w, w1, w2⟩
    have : p = r := nm_inj hok hp r1 r2
    subst this
    exact ⟨w, w1, w2⟩
  · rintro ⟨z, z1, z2⟩
    exact ⟨p, hp, rfl, z, z1, z2⟩
/-- new facts -/
theorem lg_new (hok : qOk s) (hoko : qOk so) (hR : qTb s R) (hM : qTb so Mo) (hF : qFa s R F) (hFo : qFa so Mo Fo) (hA : isAh so s Mo A) : (F.filter (fun y => ! decide (y ∈ Fo))).length = qTo (fun p => (R p).filter (fun w => ! hasV (A p) w.1)) s.1.length := by
  rw [← fcL_len (nm := qNm s)]
  refine ((List.perm_ext_iff_of_nodup ((fc_nd hF.1).sublist List.filter_sublist) (fcL_nd _ (fun p q h1 h2 e => nm_inj hok h1 h2 e) (fun p hp => (hR p hp).2.1.filter _))).mpr (fun y => ?_)).length_eq
  rw [List.mem_filter, fcL_m]
  constructor
  · rintro ⟨y1, y2⟩
    obtain ⟨p, p1, p2, w, w1, w2⟩ := (hF.2 y).mp y1
    have ey : y = (qNm s p, w.1) := Prod.ext p2 w2.symm
    refine ⟨p, p1, w, List.mem_filter.mpr ⟨w1, ?_⟩, ey⟩
    rw [ey] at y2
    have hl := ((hR p p1).2.2 w w1).1
    cases hb : hasV (A p) w.1 with
    | false => rfl
    | true =>
      rw [decide_eq_true ((fo_iff hoko hM hFo hA p1 hl).mpr hb)] at y2
      cases y2
  · rintro ⟨p, p1, w, w1, rfl⟩
    obtain ⟨w2, w3⟩ := List.mem_filter.mp w1
    have hl := ((hR p p1).2.2 w w2).1
    refine ⟨(fn_iff hok hF p1).mpr (hasV_t.mpr ⟨w, w2, rfl⟩), ?_⟩
    rw [decide_eq_false (fun q => ?_)]
    · rfl
    · rw [(fo_iff hoko hM hFo hA p1 hl).mp q] at w3
      cases w3
/-- facts that went -/
theorem lg_old (hok : qOk s) (hoko : qOk so) (hR : qTb s R) (hM : qTb so Mo) (hF : qFa s R F) (hFo : qFa so Mo Fo) (hA : isAh so s Mo A) : (Fo.filter (fun y => ! decide (y ∈ F))).length = qTo (fun p => (A p).filter (fun w => ! hasV (R p) w.1)) s.1.length + dfG s so Mo so.1.length := by
  have eG : ∀ k, dfG s so Mo k = qTo (fun r => if lkB s so r = true then [] else Mo r) k := by
    intro k
    induction k with
    | zero => rfl
    | succ k ih =>
      show dfG s so Mo k + (if lkB s so k = true then 0 else (Mo k).length) = qTo _ k + (if lkB s so k = true then [] else Mo k).length
      rw [ih]
      split <;> rfl
  rw [eG, ← fcL_len (nm := qNm s), ← fcL_len (nm := qNm so), ← List.length_append]
  have hAs := hA.srt hM
  refine ((List.perm_ext_iff_of_nodup ((fc_nd hFo.1).sublist List.filter_sublist) ?_).mpr (fun y => ?_)).length_eq
  · rw [List.nodup_append]
    refine ⟨fcL_nd _ (fun p q h1 h2 e => nm_inj hok h1 h2 e) (fun p hp => (hAs p hp).1.filter _), fcL_nd _ (fun p q h1 h2 e => nm_inj hoko h1 h2 e) (fun r hr => ?_), fun a ha b hb e => ?_⟩
    · split
      · exact List.Pairwise.nil
      · exact (hM r hr).2.1
    · obtain ⟨p, p1, w, w1, w2⟩ := fcL_m.mp ha
      obtain ⟨r, r1, z, z1, z2⟩ := fcL_m.mp hb
      by_cases c : lkB s so r = true
      · rw [if_pos c] at z1; cases z1
      · rw [if_neg c] at z1
        rw [w2, z2] at e
        injection e with e1 e2
        have h1 := (hAs p p1).2.2 w (List.mem_filter.mp w1).1
        have h2 := ((hM r r1).2.2 z z1).1
        exact c (lkB_t.mpr ⟨p, p1, e1, by rw [← h1, ← h2, e2]⟩)
  · rw [List.mem_filter, List.mem_append, fcL_m, fcL_m]
    constructor
    · rintro ⟨y1, y2⟩
      obtain ⟨r, r1, r2, w, w1, w2⟩ := (hFo.2 y).mp y1
      have ey : y = (qNm so r, w.1) := Prod.ext r2 w2.symm
      have hl := ((hM r r1).2.2 w w1).1
      by_cases c : lkB s so r = true
      · obtain ⟨p, p1, p2, p3⟩ := lkB_t.mp c
        refine .inl ⟨p, p1, w, List.mem_filter.mpr ⟨?_, ?_⟩, by rw [ey, p2]⟩
        · rcases hA p p1 with ⟨r', a1, a2, a3, e⟩ | ⟨a1, e⟩
          · have : r' = r := nm_inj hoko a1 r1 (a2.trans p2)
            rw [e, this]; exact w1
          · exact absurd p3.symm (a1 r r1 p2.symm)
        · rw [ey, ← p2] at y2
          cases hb : hasV (R p) w.1 with
          | false => rfl
          | true =>
            rw [decide_eq_true ((fn_iff hok hF p1).mpr hb)] at y2
            cases y2
      · exact .inr ⟨r, r1, w, by rw [if_neg c]; exact w1, ey⟩
    · rintro (⟨p, p1, w, w1, rfl⟩ | ⟨r, r1, w, w1, rfl⟩)
      · obtain ⟨w2, w3⟩ := List.mem_filter.mp w1
        refine ⟨(fo_iff hoko hM hFo hA p1 ((hAs p p1).2.2 w w2)).mpr (hasV_t.mpr ⟨w, w2, rfl⟩), ?_⟩
        rw [decide_eq_false (fun q => ?_)]
        · rfl
        · rw [(fn_iff hok hF p1).mp q] at w3
          cases w3
      · by_cases c : lkB s so r = true
        · rw [if_pos c] at w1; cases w1
        · rw [if_neg c] at w1
          refine ⟨(hFo.2 _).mpr ⟨r, r1, rfl, w, w1, rfl⟩, ?_⟩
          rw [decide_eq_false (fun q => ?_)]
          · rfl
          · obtain ⟨p, p1, p2, z, z1, z2⟩ := (hF.2 _).mp q
            have h1 := ((hR p p1).2.2 z z1).1
            have h2 := ((hM r r1).2.2 w w1).1
            exact c (lkB_t.mpr ⟨p, p1, p2.symm, by rw [← h1, ← h2, z2]⟩)
/-- what a round moved -/
theorem lg_len (hok : qOk s) (hoko : qOk so) (hR : qTb s R) (hM : qTb so Mo) (hF : qFa s R F) (hFo : qFa so Mo Fo) (hA : isAh so s Mo A) : (lgR rd F Fo).length = dfS R A s.1.length + dfG s so Mo so.1.length := by
  unfold lgR
  rw [List.length_append, lgD_ln2, lgD_ln2, lg_new hok hoko hR hM hF hFo hA, lg_old hok hoko hR hM hF hFo hA]
  have : ∀ k, dfS R A k = qTo (fun p => (R p).filter (fun w => ! hasV (A p) w.1)) k + qTo (fun p => (A p).filter (fun w => ! hasV (R p) w.1)) k := by
    intro k
    induction k with
    | zero => rfl
    | succ k ih =>
      show dfS R A k + dfN (R k) (A k) = (qTo _ k + ((R k).filter _).length) + (qTo _ k + ((A k).filter _).length)
      rw [ih]
      unfold dfN
      rw [List.countP_eq_length_filter, List.countP_eq_length_filter]
      omega
  rw [this]
  omega
theorem dfG_self {Mo : Nat → List pRw} : ∀ k, k ≤ s.1.length → dfG s s Mo k = 0
  | 0, _ => rfl
  | k + 1, hk => by
    show dfG s s Mo k + (if lkB s s k = true then 0 else (Mo k).length) = 0
    rw [dfG_self k (by omega), if_pos (lkB_t.mpr ⟨k, by omega, rfl, rfl⟩)]
/-- which predicates changed -/
theorem chg_iff (hok : qOk s) (hoko : qOk so) (hR : qTb s R) (hM : qTb so Mo) (hF : qFa s R F) (hFo : qFa so Mo Fo) (hA : isAh so s Mo A) (p : Nat) : (∃ x, x ∈ lgR rd F Fo ∧ ofP s x.2.2 p) ↔ p < s.1.length ∧ ¬ vEq (R p) (A p) := by
  have hAs := hA.srt hM
  have mem : ∀ y : pFc, (∃ x, x ∈ lgR rd F Fo ∧ x.2.2 = y) ↔ (y ∈ F ∧ y ∉ Fo) ∨ (y ∈ Fo ∧ y ∉ F) := fun y => by
    unfold lgR lgD
    constructor
    · rintro ⟨x, x1, rfl⟩
      rcases List.mem_append.mp x1 with q | q
      · obtain ⟨z, z1, rfl⟩ := List.mem_map.mp q
        obtain ⟨z2, z3⟩ := List.mem_filter.mp z1
        exact .inr ⟨z2, fun q => by rw [decide_eq_true q] at z3; cases z3⟩
      · obtain ⟨z, z1, rfl⟩ := List.mem_map.mp q
        obtain ⟨z2, z3⟩ := List.mem_filter.mp z1
        exact .inl ⟨z2, fun q => by rw [decide_eq_true q] at z3; cases z3⟩
    · rintro (⟨q1, q2⟩ | ⟨q1, q2⟩)
      · exact ⟨(rd, 1, y), List.mem_append.mpr (.inr (List.mem_map.mpr ⟨y, List.mem_filter.mpr ⟨q1, by rw [decide_eq_false q2]; rfl⟩, rfl⟩)), rfl⟩
      · exact ⟨(rd, -1, y), List.mem_append.mpr (.inl (List.mem_map.mpr ⟨y, List.mem_filter.mpr ⟨q1, by rw [decide_eq_false q2]; rfl⟩, rfl⟩)), rfl⟩
  constructor
  · rintro ⟨x, x1, x2, x3, x4⟩
    refine ⟨x2, fun e => ?_⟩
    have ex : x.2.2 = (qNm s p, x.2.2.2) := Prod.ext x3.symm rfl
    have hl : x.2.2.2.length = qN s p := x4.symm
    have hv : ∀ xs, hasV (R p) xs = true ↔ hasV (A p) xs = true := fun xs => by
      rw [hasV_t, hasV_t]
      constructor
      · rintro ⟨z, z1, z2⟩
        obtain ⟨z', a1, a2⟩ := e.mem z1
        exact ⟨z', a1, a2.trans z2⟩
      · rintro ⟨z, z1, z2⟩
        obtain ⟨z', a1, a2⟩ := vEq.mem e.symm z1
        exact ⟨z', a1, a2.trans z2⟩
    have key : x.2.2 ∈ F ↔ x.2.2 ∈ Fo := by
      rw [ex, fn_iff hok hF x2, fo_iff hoko hM hFo hA x2 hl]
      exact hv _
    rcases (mem x.2.2).mp ⟨x, x1, rfl⟩ with ⟨q1, q2⟩ | ⟨q1, q2⟩
    · exact q2 (key.mp q1)
    · exact q2 (key.mpr q1)
  · rintro ⟨hp, hne⟩
    -- a value that is but once there
    have : ∃ xs, xs.length = qN s p ∧ ¬ (hasV (R p) xs = true ↔ hasV (A p) xs = true) := Classical.byContradiction (fun q => by
      apply hne
      have hv : ∀ xs, xs.length = qN s p → (hasV (R p) xs = true ↔ hasV (A p) xs = true) := fun xs hx => Classical.byContradiction (fun w => q ⟨xs, hx, w⟩)
      refine srt_ext (lt := vLt) vLt_irr (fun a b c => vLt_tr) _ _ (List.pairwise_map.mpr (hR p hp).2.1) (List.pairwise_map.mpr (hAs p hp).1) (fun y => ?_)
      rw [List.mem_map, List.mem_map]
      constructor
      · rintro ⟨z, z1, z2⟩
        exact hasV_t.mp ((hv y (by rw [← z2]; exact ((hR p hp).2.2 z z1).1)).mp (hasV_t.mpr ⟨z, z1, z2⟩))
      · rintro ⟨z, z1, z2⟩
        exact hasV_t.mp ((hv y (by rw [← z2]; exact (hAs p hp).2.2 z z1)).mpr (hasV_t.mpr ⟨z, z1, z2⟩)))
    obtain ⟨xs, h1, h2⟩ := this
    have : (((qNm s p, xs) : pFc) ∈ F ∧ ((qNm s p, xs) : pFc) ∉ Fo) ∨ (((qNm s p, xs) : pFc) ∈ Fo ∧ ((qNm s p, xs) : pFc) ∉ F) := by
      rw [fn_iff hok hF hp, fo_iff hoko hM hFo hA hp h1]
      by_cases c1 : hasV (R p) xs = true
      · exact .inl ⟨c1, fun q => h2 ⟨fun _ => q, fun _ => c1⟩⟩
      · by_cases c2 : hasV (A p) xs = true
        · exact .inr ⟨c2, c1⟩
        · exact absurd ⟨fun q => absurd q c1, fun q => absurd q c2⟩ h2
    obtain ⟨x, x1, x2⟩ := (mem (qNm s p, xs)).mpr this
    exact ⟨x, x1, hp, by rw [x2], by rw [x2]; exact h1.symm⟩
end
