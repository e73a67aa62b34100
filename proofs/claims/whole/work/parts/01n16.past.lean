section
/-! past(), pastValue() -/
theorem fLt_1 {a b : pFc} (h : fLt a b) : a.1 ≤ b.1 := by
  unfold fLt fCmp at h
  by_cases c : a.1 = b.1
  · omega
  · rw [if_neg c] at h
    by_cases d : a.1 < b.1
    · omega
    · rw [if_neg d] at h; omega
theorem fLt_n {a b : pFc} (h : a.1 < b.1) : fLt a b := by
  unfold fLt fCmp
  rw [if_neg (by omega), if_pos h]
  decide
theorem fLt_v {x : Int} {a b : List Int} : fLt (x, a) (x, b) ↔ vLt a b := by
  unfold vLt fLt fCmp
  rw [if_pos (show (x, a).1 = (x, b).1 from rfl), if_pos (show ((0 : Int), a).1 = ((0 : Int), b).1 from rfl)]
section
variable {s : pPg} {M : Nat → List pRw} {F : List pFc}
/-- the facts of p are its rows -/
theorem fa_rows (hok : qOk s) (hM : qTb s M) (h : qFa s M F) {p : Nat} (hp : p < s.1.length) : F.filter (fun y => decide (y.1 = qNm s p)) = (M p).map (fun w => (qNm s p, w.1)) := by
  refine srt_ext fLt_irr (fun _ _ _ => fLt_tr) _ _ (h.1.filter _) ?_ (fun y => ?_)
  · refine List.pairwise_map.mpr ((hM p hp).2.1.imp (fun {a b} q => ?_))
    exact fLt_v.mpr q
  · rw [List.mem_filter, decide_eq_true_iff, h.2 y, List.mem_map]
    constructor
    · rintro ⟨⟨p', a1, a2, w, a3, a4⟩, b⟩
      have := nm_inj hok a1 hp (by rw [← a2, b])
      subst this
      exact ⟨w, a3, Prod.ext a2.symm a4⟩
    · rintro ⟨w, a1, a2⟩
      rw [← a2]
      exact ⟨⟨p, hp, rfl, w, a1, rfl⟩, rfl⟩
theorem fa_blk (hs : F.Pairwise fLt) (x : Int) : F = F.filter (fun y => decide (y.1 < x)) ++ (F.filter (fun y => decide (y.1 = x)) ++ F.filter (fun y => decide (x < y.1))) := by
  refine srt_ext fLt_irr (fun _ _ _ => fLt_tr) _ _ hs ?_ (fun y => ?_)
  · refine List.pairwise_append.mpr ⟨hs.filter _, List.pairwise_append.mpr ⟨hs.filter _, hs.filter _, fun a ha b hb => ?_⟩, fun a ha b hb => ?_⟩
    · have h1 := of_decide_eq_true (List.mem_filter.mp ha).2
      have h2 := of_decide_eq_true (List.mem_filter.mp hb).2
      exact fLt_n (by omega)
    · have h1 := of_decide_eq_true (List.mem_filter.mp ha).2
      rcases List.mem_append.mp hb with q | q
      · have h2 := of_decide_eq_true (List.mem_filter.mp q).2
        exact fLt_n (by omega)
      · have h2 := of_decide_eq_true (List.mem_filter.mp q).2
        exact fLt_n (by omega)
  · rw [List.mem_append, List.mem_append, List.mem_filter, List.mem_filter, List.mem_filter, decide_eq_true_iff, decide_eq_true_iff, decide_eq_true_iff]
    constructor
    · intro h
      rcases Int.lt_trichotomy y.1 x with q | q | q
      · exact .inl ⟨h, q⟩
      · exact .inr (.inl ⟨h, q⟩)
      · exact .inr (.inr ⟨h, q⟩)
    · rintro (h | h | h) <;> exact h.1
/-- where the facts of p stand -/
theorem fa_at (hok : qOk s) (hM : qTb s M) (h : qFa s M F) {p : Nat} (hp : p < s.1.length) : ∃ k, k + (M p).length ≤ F.length ∧ (∀ i, i < k → (F.getD i dFc).1 ≠ qNm s p) ∧ (∀ i, i < (M p).length → F.getD (k + i) dFc = (qNm s p, ((M p).getD i dRw).1)) := by
  have e := fa_blk h.1 (qNm s p)
  rw [fa_rows hok hM h hp] at e
  refine ⟨(F.filter (fun y => decide (y.1 < qNm s p))).length, ?_, fun i hi => ?_, fun i hi => ?_⟩
  · have := congrArg List.length e
    simp only [List.length_append, List.length_map] at this
    omega
  · rw [e, getD_app _ hi, getD_e hi]
    have := of_decide_eq_true (List.mem_filter.mp (List.getElem_mem hi)).2
    omega
  · have hi' : i < ((M p).map (fun w => (qNm s p, w.1))).length := by rw [List.length_map]; exact hi
    have e2 : F.getD ((F.filter (fun y => decide (y.1 < qNm s p))).length + i) dFc = ((M p).map (fun w => (qNm s p, w.1))).getD i dFc := by
      exact (congrArg (fun l => l.getD ((F.filter (fun y => decide (y.1 < qNm s p))).length + i) dFc) e).trans ((getD_apr _ i).trans (getD_app _ hi'))
    rw [e2, getD_e hi', List.getElem_map, getD_e hi]
/-- all facts of a predicate are as wide as its rows -/
theorem fa_w (hok : qOk s) (hM : qTb s M) (h : qFa s M F) {p : Nat} (hp : p < s.1.length) {y : pFc} (hy : y ∈ F) (hn : y.1 = qNm s p) : y.2.length = qN s p := by
  obtain ⟨p', a1, a2, w, a3, a4⟩ := (h.2 y).mp hy
  have := nm_inj hok a1 hp (by rw [← a2, hn])
  subst this
  rw [← a4]
  exact ((hM p' a1).2.2 w a3).1
end
section
variable {f m n hr : Nat} {T : List (List Int)} {lns : Nat → sLn}
theorem rHb.ge {G G' : xG_} (h : rHb G T m lns hr n) (h0 : ∀ j, 12 ≤ j ∧ j ≤ 20 ∨ 62 ≤ j ∧ j ≤ 66 ∨ 71 ≤ j ∧ j ≤ 72 → G' 0 j = G 0 j) (h1 : ∀ a j, 2 ≤ a → a ≤ 36 → G' a j = G a j) (h2 : ∀ a j, 107 ≤ a → a ≤ 109 → G' a j = G a j) (h3 : ∀ a j, 123 ≤ a → a ≤ 242 → a ≠ 240 → G' a j = G a j) : rHb G' T m lns hr n := by
  have hc := h.c
  obtain ⟨a1, a2, a3, a4, a5, a6, a7, a8, a9⟩ := h
  exact rHb.of (hc.ge (fun j q => h0 j (by omega)) h3) (by rw [h0 _ (by omega)]; exact a3) a4 (by rw [h0 _ (by omega)]; exact a6) (by rw [h0 _ (by omega)]; exact a7) (by rw [h0 _ (by omega), h0 _ (by omega)]; exact a8) (a9.ge (fun j _ _ => h0 _ (by omega)) h1 h2)
section
variable {s : pPg} {M : Nat → List pRw} {F : List pFc} {G : xG_}
theorem l_319 {q c p i : Nat} (hok : qOk s) (hM : qTb s M) (hF : qFa s M F) (hP : rPr G 37 q c s) (hPn : rPn G 37 s) (hfa : rFa G 253 F) (hp : p < s.1.length) (hi : i < F.length) : g319 f (p : Int) (i : Int) G = some (if (F.getD i dFc).1 = qNm s p then 1 else 0, G) := by
  have hnp := hok.1.1
  have hl := hfa.2.1
  obtain ⟨q1, q2, q3, q4⟩ := hfa.2.2 i hi
  have g38 : G (37 + 1) p = qNm s p := hP.1.2.2 p hp
  have g39 : G (37 + 2) p = (qN s p : Int) := by
    have := hPn p hp
    have h2 := (pNn_in hok.1 (p : Int)).1
    unfold qN
    rw [this]
    omega
  unfold g319 g319_47 g319_48
  rw [if_pos (by omega), if_pos (by omega), Int.toNat_natCast, Int.toNat_natCast, q1, g38, if_pos (Or.inl rfl), if_pos (Or.inr rfl)]
  by_cases c : (F.getD i dFc).1 = qNm s p
  · have hm : F.getD i dFc ∈ F := by
      rw [getD_e hi]
      exact List.getElem_mem _
    have := fa_w hok hM hF hp hm c
    rw [if_neg (fun q => q c), if_pos (by omega), if_pos (by omega), q2, g39, if_neg (fun q => q (by rw [this])), if_pos c]
  · rw [if_pos c, if_neg c]
theorem l_318_63 {q c p : Nat} (hok : qOk s) (hM : qTb s M) (hF : qFa s M F) (hP : rPr G 37 q c s) (hPn : rPn G 37 s) (hfa : rFa G 253 F) (hp : p < s.1.length) : ∀ (d i fu cnt : Nat), i + d = F.length → d < fu → cnt ≤ i → g318_63 f fu (p : Int) (cnt : Int) (i : Int) G = some (((cnt + ((F.drop i).filter (fun y => decide (y.1 = qNm s p))).length : Nat) : Int), G) := by
  have hl := hfa.2.1
  intro d
  induction d with
  | zero =>
    intro i fu cnt h1 h2 h3
    obtain ⟨fu, rfl⟩ : ∃ t, fu = t + 1 := ⟨fu - 1, by omega⟩
    rw [List.drop_eq_nil_of_le (by omega)]
    show g318_63b (g318_63 f fu) f _ _ _ _ = _
    unfold g318_63b
    rw [hfa.1, if_pos (by omega)]
    rfl
  | succ d ih =>
    intro i fu cnt h1 h2 h3
    obtain ⟨fu, rfl⟩ : ∃ t, fu = t + 1 := ⟨fu - 1, by omega⟩
    have hi : i < F.length := by omega
    have e : xwr ((i : Int) + 1) = ((i + 1 : Nat) : Int) := by rw [xwr_g _ (by omega) (by omega)]; omega
    have e0 : xwr ((cnt : Int) + 0) = (cnt : Int) := by rw [xwr_g _ (by omega) (by omega)]; omega
    have e1 : xwr ((cnt : Int) + 1) = ((cnt + 1 : Nat) : Int) := by rw [xwr_g _ (by omega) (by omega)]; omega
    rw [drop_d (d := dFc) hi]
    show g318_63b (g318_63 f fu) f _ _ _ _ = _
    unfold g318_63b g318_92
    rw [hfa.1, if_neg (by omega), l_319 hok hM hF hP hPn hfa hp hi, Option.bind_some]
    by_cases c : (F.getD i dFc).1 = qNm s p
    · have s1 : ¬ ((if (F.getD i dFc).1 = qNm s p then (1 : Int) else 0, G) : Int × xG_).1 = 0 := by
        rw [if_pos c]; show ¬ (1 : Int) = 0; decide
      rw [if_neg s1, e1, e, ih (i + 1) fu (cnt + 1) (by omega) (by omega) (by omega), List.filter_cons_of_pos (by rw [decide_eq_true_iff]; exact c), List.length_cons]
      congr 3
      omega
    · have s1 : ((if (F.getD i dFc).1 = qNm s p then (1 : Int) else 0, G) : Int × xG_).1 = 0 := by
        rw [if_neg c]
      rw [if_pos s1, e0, e, ih (i + 1) fu cnt (by omega) (by omega) (by omega), List.filter_cons_of_neg (by rw [decide_eq_true_iff]; exact c)]
theorem l_320_52 {q c p i col k : Nat} (hok : qOk s) (hM : qTb s M) (hF : qFa s M F) (hP : rPr G 37 q c s) (hPn : rPn G 37 s) (hfa : rFa G 253 F) (hp : p < s.1.length) (hk1 : k + (M p).length ≤ F.length) (hk2 : ∀ i, i < k → (F.getD i dFc).1 ≠ qNm s p) (hk3 : ∀ i, i < (M p).length → F.getD (k + i) dFc = (qNm s p, ((M p).getD i dRw).1)) (hi : i < (M p).length) (hcol : col < 4) : ∀ (d x fu : Nat), x + d = k → d < fu → g320_52 f fu (p : Int) (i : Int) (col : Int) (x : Int) G = some (((M p).getD i dRw).1.getD col 0, G) := by
  have hl := hfa.2.1
  intro d
  induction d with
  | zero =>
    intro x fu h1 h2
    obtain ⟨fu, rfl⟩ : ∃ t, fu = t + 1 := ⟨fu - 1, by omega⟩
    have hx : x = k := by omega
    subst hx
    have h0 : (F.getD x dFc).1 = qNm s p := by
      have := hk3 0 (by omega)
      rw [Nat.add_zero] at this
      rw [this]
    have s1 : ¬ ((if (F.getD x dFc).1 = qNm s p then (1 : Int) else 0, G) : Int × xG_).1 = 0 := by
      rw [if_pos h0]; show ¬ (1 : Int) = 0; decide
    have e : xwr (xwr (4 * xwr ((x : Int) + (i : Int))) + (col : Int)) = ((4 * (x + i) + col : Nat) : Int) := by
      rw [xwr_g ((x : Int) + (i : Int)) (by omega) (by omega), xwr_g (4 * ((x : Int) + (i : Int))) (by omega) (by omega), xwr_g _ (by omega) (by omega)]
      omega
    have h3 := hk3 i hi
    have h4 := (hfa.2.2 (x + i) (by omega)).2.2.2 col hcol
    rw [h3] at h4
    show g320_52b (g320_52 f fu) f _ _ _ _ _ = _
    unfold g320_52b
    rw [l_319 hok hM hF hP hPn hfa hp (by omega), Option.bind_some, if_pos s1, e, if_pos (by omega), Int.toNat_natCast]
    show some (G (253 + 2) (4 * (x + i) + col), G) = _
    rw [h4]
  | succ d ih =>
    intro x fu h1 h2
    obtain ⟨fu, rfl⟩ : ∃ t, fu = t + 1 := ⟨fu - 1, by omega⟩
    have e : xwr ((x : Int) + 1) = ((x + 1 : Nat) : Int) := by rw [xwr_g _ (by omega) (by omega)]; omega
    have s1 : ¬ ¬ ((if (F.getD x dFc).1 = qNm s p then (1 : Int) else 0, G) : Int × xG_).1 = 0 := by
      rw [if_neg (hk2 x (by omega))]; exact fun q => q rfl
    show g320_52b (g320_52 f fu) f _ _ _ _ _ = _
    unfold g320_52b
    rw [l_319 hok hM hF hP hPn hfa hp (by omega), Option.bind_some, if_neg s1, e]
    exact ih (x + 1) fu (by omega) (by omega)
end
/-- past() -/
def stPa (T : List (List Int)) (ln : sLn) (r p v : Int) : Prop :=
  (∃ (i : Nat) (s : pPg) (M : Nat → List pRw), i ≤ ln.2.1.2.1 ∧ r = ((ln.2.1.1 + i : Nat) : Int) ∧ isMo T (ln.1 (ln.2.1.1 + i)) s M ∧ (0 ≤ p ∧ p < s.1.length ∧ v = ((M p.toNat).length : Int) ∨ ¬ (0 ≤ p ∧ p < s.1.length) ∧ v = -1)) ∨ (¬ ((ln.2.1.1 : Int) ≤ r ∧ r ≤ ((ln.2.1.1 + ln.2.1.2.1 : Nat) : Int)) ∧ v = -1)
/-- what past leaves behind: the program and the facts of the round -/
theorem l_318 {G : xG_} {r p : Int} (hf : 1000100 < f) (hn : n < 900) (h : rHb G T m lns hr n) :
    ∃ v G', g318 f r p G = some (v, G') ∧ stPa T (lns hr) r p v ∧ rHb G' T m lns hr n ∧ G' 0 74 = 0 ∧ G' 0 63 = G 0 63 ∧ xfHo G G' ∧ (v ≠ -1 → ∃ (i : Nat) (s : pPg) (M : Nat → List pRw) (q c : Nat), i ≤ (lns hr).2.1.2.1 ∧ r = (((lns hr).2.1.1 + i : Nat) : Int) ∧ isMo T ((lns hr).1 ((lns hr).2.1.1 + i)) s M ∧ rPr G' 37 q c s ∧ rPn G' 37 s ∧ rFa G' 253 ((lns hr).1 ((lns hr).2.1.1 + i)).2.1 ∧ 0 ≤ p ∧ p < s.1.length ∧ v = ((M p.toNat).length : Int)) := by
  have h0 := h.u74 (v := 0)
  have hh := h
  obtain ⟨a1, a2, a3, a4, a5, a6, a7, a8, a9⟩ := h
  obtain ⟨s0, M0, b1, b2, b3⟩ := a5 hr a4
  let o := 123 + 29 * hr
  have hoo : o = 123 + 29 * hr := rfl
  let G1 := xup2 G 0 74 0
  have z1 : ∀ a j, ¬ (a = 0 ∧ j = 74) → G1 a j = G a j := fun a j q => xup2_n (by omega)
  have hpast := l_310 (f := f) (o := o) (G := G1) (b := (lns hr).2.1.1) (k := (lns hr).2.1.2.1) (r := r) (by rw [z1 _ _ (by omega)]; exact b2.2.1.2.2.1) (by rw [z1 _ _ (by omega)]; exact b2.2.1.2.1)
  have e0 : g318 f r p G = ((g310 f o r G1).bind fun R113 => (if ¬ (R113.1) = 0 then ((g311 f o r (253) R113.2).bind fun R119 => ((g300 f (R119.1) R119.2).bind fun R124 => (if p < 0 then g318_55 f R124 else (if p < (R124 (37) 8) then g318_63 f f p (0) (0) R124 else g318_55 f R124)))) else (some (-1, R113.2)))) := by
    unfold g318
    rw [Option.bind_some, xup2_n (by omega), a3, if_pos (by omega), Int.toNat_natCast]
  rw [e0, hpast, Option.bind_some]
  by_cases c : ((lns hr).2.1.1 : Int) ≤ r ∧ r ≤ (((lns hr).2.1.1 + (lns hr).2.1.2.1 : Nat) : Int)
  · obtain ⟨i, hi⟩ : ∃ i : Nat, r = (((lns hr).2.1.1 + i : Nat) : Int) := ⟨(r - (lns hr).2.1.1).toNat, by omega⟩
    have hik : i ≤ (lns hr).2.1.2.1 := by omega
    obtain ⟨k', hk'⟩ : ∃ k', (lns hr).2.1.2.1 = i + k' := ⟨(lns hr).2.1.2.1 - i, by omega⟩
    have n1 : ¬ ((if ((lns hr).2.1.1 : Int) ≤ r ∧ r ≤ (((lns hr).2.1.1 + (lns hr).2.1.2.1 : Nat) : Int) then (1 : Int) else 0, G1) : Int × xG_).1 = 0 := by
      rw [if_pos c]; show ¬ (1 : Int) = 0; decide
    rw [if_pos n1]
    simp only []
    have hst := b3.2.1
    have hfc := b3.fc
    have r1 := b2.1
    have r2 := b2.2.1.1
    have r6 := b2.2.2.1
    rw [hk'] at hst hfc r1 r2 r6
    obtain ⟨G2, u1, u2, u3⟩ := l_311 (f := f) (o := o) (h := hr) (G := G1) (H := (lns hr).1) (b := (lns hr).2.1.1) (i := i) (k := k') (by omega) a4 rfl (r1.ge' (fun a j _ _ => z1 _ _ (by omega))) hst hfc (by rw [z1 _ _ (by omega)]; exact r2) (r6.ge (z1 _ _ (by omega)) (fun a j _ _ => z1 _ _ (by omega)))
    have z2 : ∀ a j, ¬ (a = 0 ∧ j = 74) → ¬ (253 ≤ a ∧ a ≤ 256) → G2 a j = G a j := fun a j q1 q2 => by rw [u3 a j (by omega) (by omega) (by omega) (by omega), z1 a j q1]
    obtain ⟨s, M, hsM⟩ := b3.1 ((lns hr).2.1.1 + i) (by omega) (by omega)
    have hsM' := hsM
    obtain ⟨c1, c2, c3, c4, c5, c6, c7⟩ := hsM
    obtain ⟨G3, q, c', v1, v2, v3, v4⟩ := l_300 (f := f) (G := G2) (T := T) (m := m) (e := ((lns hr).1 ((lns hr).2.1.1 + i)).1) (so := s) (by omega) (a1.ge (fun j _ _ => z2 _ _ (by omega) (by omega))) (a2.ge (z2 _ _ (by omega) (by omega)) (z2 _ _ (by omega) (by omega)) (fun a j _ => z2 _ _ (by omega) (by omega))) c1 c2
    have z3 : ∀ a j, ¬ (a = 0 ∧ (j ≤ 11 ∨ 21 ≤ j ∧ j ≤ 27 ∨ j = 74)) → a ≠ 1 → ¬ (37 ≤ a ∧ a ≤ 71) → ¬ (253 ≤ a ∧ a ≤ 256) → G3 a j = G a j := fun a j q1 q2 q3 q4 => by rw [v4 a j (by omega) q2 q3, z2 a j (by omega) q4]
    have hfa3 : rFa G3 253 ((lns hr).1 ((lns hr).2.1.1 + i)).2.1 := u2.ge (v4 _ _ (by omega) (by omega) (by omega)) (fun a j _ _ => v4 _ _ (by omega) (by omega) (by omega))
    have hH3 : rHb G3 T m lns hr n := hh.ge (fun j q => z3 _ _ (by omega) (by omega) (by omega) (by omega)) (fun a j _ _ => z3 _ _ (by omega) (by omega) (by omega) (by omega)) (fun a j _ _ => z3 _ _ (by omega) (by omega) (by omega) (by omega)) (fun a j _ _ _ => z3 _ _ (by omega) (by omega) (by omega) (by omega))
    have y74 : G3 0 74 = 0 := by rw [v4 _ _ (by omega) (by omega) (by omega), u3 _ _ (by omega) (by omega) (by omega) (by omega)]; exact xup2_s _ _ _ _
    have y63 : G3 0 63 = G 0 63 := z3 _ _ (by omega) (by omega) (by omega) (by omega)
    have yfr : xfHo G G3 := fun a j q1 q2 q3 q4 q5 => z3 _ _ (by omega) (by omega) (by omega) (by omega)
    rw [hi, u1, Option.bind_some]
    show ∃ v G', (g300 f (((lns hr).1 ((lns hr).2.1.1 + i)).1 : Int) G2).bind _ = some (v, G') ∧ _
    rw [v1, Option.bind_some, v2.1.1]
    by_cases d : 0 ≤ p ∧ p < (s.1.length : Int)
    · obtain ⟨x, rfl⟩ : ∃ x : Nat, p = (x : Int) := ⟨p.toNat, by omega⟩
      have hx : x < s.1.length := by omega
      have hcnt := l_318_63 (f := f) c3 c5.1.1 c6 v2 v3 hfa3 hx ((lns hr).1 ((lns hr).2.1.1 + i)).2.1.length 0 f 0 (by omega) (by have := u2.2.1; omega) (Nat.le_refl _)
      rw [List.drop_zero, fa_rows c3 c5.1.1 c6 hx, List.length_map, Nat.zero_add] at hcnt
      rw [if_neg (by omega), if_pos d.2]
      refine ⟨((M x).length : Int), G3, hcnt, .inl ⟨i, s, M, hik, rfl, hsM', .inl ⟨d.1, d.2, rfl⟩⟩, hH3, y74, y63, yfr, fun _ => ⟨i, s, M, q, c', hik, rfl, hsM', v2, v3, hfa3, d.1, d.2, rfl⟩⟩
    · refine ⟨-1, G3, ?_, .inl ⟨i, s, M, hik, rfl, hsM', .inr ⟨d, rfl⟩⟩, hH3, y74, y63, yfr, fun q => absurd rfl q⟩
      by_cases d1 : p < 0
      · rw [if_pos d1]; rfl
      · rw [if_neg d1, if_neg (by omega)]; rfl
  · have n1 : ¬ ¬ ((if ((lns hr).2.1.1 : Int) ≤ r ∧ r ≤ (((lns hr).2.1.1 + (lns hr).2.1.2.1 : Nat) : Int) then (1 : Int) else 0, G1) : Int × xG_).1 = 0 := by
      rw [if_neg c]; exact fun q => q rfl
    rw [if_neg n1]
    exact ⟨-1, G1, rfl, .inr ⟨c, rfl⟩, h0, xup2_s _ _ _ _, z1 _ _ (by omega), fun a j q1 q2 q3 q4 q5 => z1 _ _ (by omega), fun q => absurd rfl q⟩
/-- pastValue(): thrown, value -/
def stPv (T : List (List Int)) (ln : sLn) (r p i col t v : Int) : Prop :=
  (∃ (x : Nat) (s : pPg) (M : Nat → List pRw), x ≤ ln.2.1.2.1 ∧ r = ((ln.2.1.1 + x : Nat) : Int) ∧ isMo T (ln.1 (ln.2.1.1 + x)) s M ∧ (0 ≤ p ∧ p < s.1.length) ∧ (0 ≤ i ∧ i < (M p.toNat).length) ∧ (0 ≤ col ∧ col < qN s p.toNat) ∧ t = 0 ∧ v = ((M p.toNat).getD i.toNat dRw).1.getD col.toNat 0) ∨
  ((∀ (x : Nat) (s : pPg) (M : Nat → List pRw), x ≤ ln.2.1.2.1 → r = ((ln.2.1.1 + x : Nat) : Int) → isMo T (ln.1 (ln.2.1.1 + x)) s M → ¬ ((0 ≤ p ∧ p < s.1.length) ∧ (0 ≤ i ∧ i < (M p.toNat).length) ∧ (0 ≤ col ∧ col < qN s p.toNat))) ∧ t = 1 ∧ v = 0)
theorem l_320 {G : xG_} {r p i col : Int} (hf : 1000100 < f) (hn : n < 900) (h : rHb G T m lns hr n) :
    ∃ t v G', g320 f r p i col G = some (v, G') ∧ stPv T (lns hr) r p i col t v ∧ rHb G' T m lns hr n ∧ G' 0 74 = t ∧ G' 0 63 = G 0 63 ∧ xfHo G G' := by
  obtain ⟨v, G1, u1, u2, u3, u4, u5, u6, u7⟩ := l_318 (f := f) (r := r) (p := p) hf hn h
  have lost : (∀ (x : Nat) (s : pPg) (M : Nat → List pRw), x ≤ (lns hr).2.1.2.1 → r = (((lns hr).2.1.1 + x : Nat) : Int) → isMo T ((lns hr).1 ((lns hr).2.1.1 + x)) s M → ¬ ((0 ≤ p ∧ p < s.1.length) ∧ (0 ≤ i ∧ i < (M p.toNat).length) ∧ (0 ≤ col ∧ col < qN s p.toNat))) → g320 f r p i col G = some (0, xup2 G1 0 74 1) → ∃ t v G', g320 f r p i col G = some (v, G') ∧ stPv T (lns hr) r p i col t v ∧ rHb G' T m lns hr n ∧ G' 0 74 = t ∧ G' 0 63 = G 0 63 ∧ xfHo G G' := fun hc he => ⟨1, 0, _, he, .inr ⟨hc, rfl, rfl⟩, u3.u74, xup2_s _ _ _ _, by rw [xup2_n (by omega)]; exact u5, fun a j q1 q2 q3 q4 q5 => by rw [xup2_n (by omega)]; exact u6 a j q1 q2 q3 q4 q5⟩
  have e0 : g320 f r p i col G = (if v = (-1) then g320_43 f G1 else (if i < 0 then g320_43 f G1 else (if v ≤ i then g320_43 f G1 else (if col < 0 then g320_43 f G1 else (if 0 ≤ p ∧ p < 16 then (if col < (G1 (37 + 2) p.toNat) then g320_52 f f p i col 0 G1 else g320_43 f G1) else none))))) := by
    unfold g320
    rw [u1, Option.bind_some]
  have e43 : g320_43 f G1 = some (0, xup2 G1 0 74 1) := by
    unfold g320_43
    rw [l_321]
    rfl
  by_cases c1 : v = -1
  · refine lost (fun x s M x1 x2 x3 q => ?_) (by rw [e0, if_pos c1, e43])
    rcases u2 with ⟨x', s', M', y1, y2, y3, y4⟩ | ⟨y1, _⟩
    · have : x' = x := by omega
      subst this
      obtain ⟨e1, e2⟩ := isMo_u y3 x3
      subst e1
      rcases y4 with w | w
      · have := w.2.2
        omega
      · exact w.1 q.1
    · exact y1 (by omega)
  obtain ⟨x, s, M, q, c, y1, y2, y3, y4, y5, y6, y7, y8, y9⟩ := u7 c1
  obtain ⟨pn, rfl⟩ : ∃ pn : Nat, p = (pn : Int) := ⟨p.toNat, by omega⟩
  rw [Int.toNat_natCast] at y9
  have hpn : pn < s.1.length := by omega
  have uni : ∀ (x' : Nat) (s' : pPg) (M' : Nat → List pRw), x' ≤ (lns hr).2.1.2.1 → r = (((lns hr).2.1.1 + x' : Nat) : Int) → isMo T ((lns hr).1 ((lns hr).2.1.1 + x')) s' M' → s = s' ∧ M pn = M' pn := fun x' s' M' z1 z2 z3 => by
    have : x' = x := by omega
    subst this
    obtain ⟨e1, e2⟩ := isMo_u y3 z3
    exact ⟨e1, e2 pn hpn⟩
  obtain ⟨c1', c2, c3, c4, c5, c6, c7⟩ := y3
  have hnp := c3.1.1
  have g39 : G1 (37 + 2) pn = (qN s pn : Int) := by
    have := y5 pn hpn
    have h2 := (pNn_in c3.1 (pn : Int)).1
    unfold qN
    rw [this]
    omega
  have hq4 : qN s pn ≤ 4 := by have := (pNn_in c3.1 (pn : Int)).2; unfold qN; omega
  rw [if_neg c1] at e0
  by_cases c2' : i < 0
  · exact lost (fun x' s' M' z1 z2 z3 q => by omega) (by rw [e0, if_pos c2', e43])
  rw [if_neg c2'] at e0
  by_cases c3' : v ≤ i
  · refine lost (fun x' s' M' z1 z2 z3 q => ?_) (by rw [e0, if_pos c3', e43])
    obtain ⟨e1, e2⟩ := uni x' s' M' z1 z2 z3
    rw [Int.toNat_natCast, ← e2] at q
    omega
  rw [if_neg c3'] at e0
  by_cases c4' : col < 0
  · exact lost (fun x' s' M' z1 z2 z3 q => by omega) (by rw [e0, if_pos c4', e43])
  rw [if_neg c4', if_pos (by omega), Int.toNat_natCast, g39] at e0
  by_cases c5' : col < (qN s pn : Int)
  · rw [if_pos c5'] at e0
    obtain ⟨k, k1, k2, k3⟩ := fa_at c3 c5.1.1 c6 hpn
    obtain ⟨i', rfl⟩ : ∃ i' : Nat, i = (i' : Int) := ⟨i.toNat, by omega⟩
    obtain ⟨col', rfl⟩ : ∃ col' : Nat, col = (col' : Int) := ⟨col.toNat, by omega⟩
    have hl := y6.2.1
    have hv := l_320_52 (f := f) (G := G1) (i := i') (col := col') c3 c5.1.1 c6 y4 y5 y6 hpn k1 k2 k3 (by omega) (by omega) k 0 f (by omega) (by omega)
    refine ⟨0, _, G1, e0.trans hv, .inl ⟨x, s, M, y1, y2, ⟨c1', c2, c3, c4, c5, c6, c7⟩, ⟨y7, y8⟩, ⟨by omega, by rw [Int.toNat_natCast]; omega⟩, ⟨by omega, by rw [Int.toNat_natCast]; exact c5'⟩, rfl, ?_⟩, u3, u4, u5, u6⟩
    rw [Int.toNat_natCast, Int.toNat_natCast, Int.toNat_natCast]
  · refine lost (fun x' s' M' z1 z2 z3 q => ?_) (by rw [e0, if_neg c5', e43])
    obtain ⟨e1, e2⟩ := uni x' s' M' z1 z2 z3
    rw [Int.toNat_natCast, ← e1] at q
    omega
end
end
section
/-! What the house answers: count, predicate, value, rank, edits, edit, place, forget -/
section
variable {f m n hr : Nat} {T : List (List Int)} {lns : Nat → sLn}
/-- load behind (0, 74) := 0 -/
theorem l_ld0 {G : xG_} (hf : 1000100 < f) (h : rHb G T m lns hr n) :
    ∃ G' q c s M, g296 f (xup2 G 0 74 0) = some G' ∧ isMo T (lMo (lns hr)) s M ∧ rEn G' q c s M ∧ rHb G' T m lns hr n ∧ G' 0 74 = 0 ∧ G' 0 63 = G 0 63 ∧ xfHo G G' := by
  obtain ⟨G', q, c, s, M, k1, k2, k3, k4, k5⟩ := l_ld hf (h.u74 (v := 0))
  refine ⟨G', q, c, s, M, k1, k3, k4, k5, ?_, ?_, fun a j q1 q2 q3 q4 q5 => ?_⟩
  · rw [k2 _ _ (by omega) (by omega) (by omega), xup2_s]
  · rw [k2 _ _ (by omega) (by omega) (by omega), xup2_n (by omega)]
  · rw [k2 _ _ (by omega) (by omega) (by omega), xup2_n (by omega)]
theorem rHb.l1 {G : xG_} (h : rHb G T m lns hr n) : ∃ s M, isMo T (lMo (lns hr)) s M ∧ rLn G (123 + 29 * hr) T (lns hr) s M ∧ sOk T (lns hr) n := h.2.2.2.2.1 hr h.2.2.2.1
theorem rHb.lost {G : xG_} {G' : xG_} (h : rHb G' T m lns hr n) (h63 : G' 0 63 = G 0 63) (hx : xfHo G G') : rHb (xup2 G' 0 74 1) T m lns hr n ∧ xup2 G' 0 74 1 0 74 = 1 ∧ xup2 G' 0 74 1 0 63 = G 0 63 ∧ xfHo G (xup2 G' 0 74 1) := ⟨h.u74, xup2_s _ _ _ _, by rw [xup2_n (by omega)]; exact h63, fun a j q1 q2 q3 q4 q5 => by rw [xup2_n (by omega)]; exact hx a j q1 q2 q3 q4 q5⟩
theorem l_371 {G : xG_} {q c : Nat} {s : pPg} {M : Nat → List pRw} {p i : Int} (hok : qOk s) (hE : rEn G q c s M) : g371 f p i G = some (if (0 ≤ p ∧ p < s.1.length) ∧ 0 ≤ i ∧ i < (M p.toNat).length then 1 else 0, G) := by
  have hnp := hok.1.1
  obtain ⟨e1, e2, e3, e4⟩ := hE
  unfold g371 g371_33 g371_34
  rw [if_pos (Or.inl rfl), if_pos (Or.inr rfl), e1.1.1]
  by_cases c1 : p < 0
  · rw [if_pos c1, if_neg (by omega)]
  rw [if_neg c1]
  by_cases c2 : (s.1.length : Int) ≤ p
  · rw [if_pos c2, if_neg (by omega)]
  rw [if_neg c2]
  by_cases c3 : i < 0
  · rw [if_pos c3, if_neg (by omega)]
  obtain ⟨x, rfl⟩ : ∃ x : Nat, p = (x : Int) := ⟨p.toNat, by omega⟩
  rw [if_neg c3, if_pos (by omega), Int.toNat_natCast, (e4 x (by omega)).1.1]
  by_cases c4 : ((M x).length : Int) ≤ i
  · rw [if_pos c4, if_neg (by omega)]
  · rw [if_neg c4, if_pos (by omega)]
/-- value(): thrown, value -/
def stVa (T : List (List Int)) (ln : sLn) (p i col t v : Int) : Prop := ∃ s M, isMo T (lMo ln) s M ∧ ((((0 ≤ p ∧ p < s.1.length) ∧ 0 ≤ i ∧ i < (M p.toNat).length) ∧ 0 ≤ col ∧ col < qN s p.toNat) ∧ t = 0 ∧ v = ((M p.toNat).getD i.toNat dRw).1.getD col.toNat 0 ∨ ¬ (((0 ≤ p ∧ p < s.1.length) ∧ 0 ≤ i ∧ i < (M p.toNat).length) ∧ 0 ≤ col ∧ col < qN s p.toNat) ∧ t = 1 ∧ v = 0)
theorem l_372 {G : xG_} {p i col : Int} (hf : 1000100 < f) (h : rHb G T m lns hr n) :
    ∃ t v G', g372 f p i col G = some (v, G') ∧ stVa T (lns hr) p i col t v ∧ rHb G' T m lns hr n ∧ G' 0 74 = t ∧ G' 0 63 = G 0 63 ∧ xfHo G G' := by
  obtain ⟨G1, q, c, s, M, k1, k2, k3, k4, k5, k6, k7⟩ := l_ld0 hf h
  have hok := k2.2.2.1
  have hnp := hok.1.1
  have e35 : g372_35 f G1 = some (0, xup2 G1 0 74 1) := by
    unfold g372_35
    rw [l_321]
    rfl
  have e0 : g372 f p i col G = (if ((if (0 ≤ p ∧ p < s.1.length) ∧ 0 ≤ i ∧ i < (M p.toNat).length then (1 : Int) else 0, G1) : Int × xG_).1 = 0 then g372_35 f G1 else (if col < 0 then g372_35 f G1 else (if 0 ≤ p ∧ p < 16 then (if col < (G1 (2 + 2) p.toNat) then ((g261 f p i G1).bind fun R124 => (if 0 ≤ (xwr ((R124.1) + col)) ∧ (xwr ((R124.1) + col)) < 33280 then g372_56 f (R124.2 (107) (xwr ((R124.1) + col)).toNat) R124.2 else none)) else g372_35 f G1) else none))) := by
    unfold g372
    rw [Option.bind_some, k1, Option.bind_some, l_371 hok k3, Option.bind_some]
  have lost : ¬ (((0 ≤ p ∧ p < s.1.length) ∧ 0 ≤ i ∧ i < (M p.toNat).length) ∧ 0 ≤ col ∧ col < qN s p.toNat) → g372 f p i col G = some (0, xup2 G1 0 74 1) → ∃ t v G', g372 f p i col G = some (v, G') ∧ stVa T (lns hr) p i col t v ∧ rHb G' T m lns hr n ∧ G' 0 74 = t ∧ G' 0 63 = G 0 63 ∧ xfHo G G' := fun hc he => by
    obtain ⟨w1, w2, w3, w4⟩ := k4.lost k6 k7
    exact ⟨1, 0, _, he, ⟨s, M, k2, .inr ⟨hc, rfl, rfl⟩⟩, w1, w2, w3, w4⟩
  by_cases c1 : (0 ≤ p ∧ p < s.1.length) ∧ 0 ≤ i ∧ i < (M p.toNat).length
  · have s1 : ¬ ((if (0 ≤ p ∧ p < s.1.length) ∧ 0 ≤ i ∧ i < (M p.toNat).length then (1 : Int) else 0, G1) : Int × xG_).1 = 0 := by
      rw [if_pos c1]; show ¬ (1 : Int) = 0; decide
    rw [if_neg s1] at e0
    obtain ⟨x, rfl⟩ : ∃ x : Nat, p = (x : Int) := ⟨p.toNat, by omega⟩
    obtain ⟨y, rfl⟩ : ∃ y : Nat, i = (y : Int) := ⟨i.toNat, by omega⟩
    rw [Int.toNat_natCast] at c1 lost
    have hx : x < s.1.length := by omega
    obtain ⟨⟨t1, t2, t3⟩, t4⟩ := k3.2.2.2 x hx
    have g4 : G1 (2 + 2) x = (qN s x : Int) := by
      have := k3.2.1 x hx
      have h2 := (pNn_in hok.1 (x : Int)).1
      unfold qN
      rw [this]
      omega
    by_cases c2 : col < 0
    · exact lost (by omega) (by rw [e0, if_pos c2, e35])
    rw [if_neg c2, if_pos (by omega), Int.toNat_natCast, g4] at e0
    by_cases c3 : col < (qN s x : Int)
    · obtain ⟨z, rfl⟩ : ∃ z : Nat, col = (z : Int) := ⟨col.toNat, by omega⟩
      have e4 : xwr ((((x * 520 + y) * 4 : Nat) : Int) + (z : Int)) = (((x * 520 + y) * 4 + z : Nat) : Int) := by rw [xwr_g _ (by omega) (by omega)]; omega
      refine ⟨0, _, G1, ?_, ⟨s, M, k2, .inl ⟨⟨by rw [Int.toNat_natCast]; exact c1, by omega, by rw [Int.toNat_natCast]; exact c3⟩, rfl, rfl⟩⟩, k4, k5, k6, k7⟩
      rw [e0, if_pos c3, l_261 (by omega) (by omega), Option.bind_some]
      simp only [e4]
      rw [if_pos (by omega), Int.toNat_natCast, (t3 y (by omega)).2.1 z (by omega), Int.toNat_natCast, Int.toNat_natCast, Int.toNat_natCast]
      rfl
    · exact lost (by omega) (by rw [e0, if_neg c3, e35])
  · have s1 : ((if (0 ≤ p ∧ p < s.1.length) ∧ 0 ≤ i ∧ i < (M p.toNat).length then (1 : Int) else 0, G1) : Int × xG_).1 = 0 := by
      rw [if_neg c1]
    exact lost (fun q => c1 q.1) (by rw [e0, if_pos s1, e35])
/-- rank(): thrown, value -/
def stRk (T : List (List Int)) (ln : sLn) (p i t v : Int) : Prop := ∃ s M, isMo T (lMo ln) s M ∧ (((0 ≤ p ∧ p < s.1.length) ∧ 0 ≤ i ∧ i < (M p.toNat).length) ∧ t = 0 ∧ v = ((M p.toNat).getD i.toNat dRw).2 ∨ ¬ ((0 ≤ p ∧ p < s.1.length) ∧ 0 ≤ i ∧ i < (M p.toNat).length) ∧ t = 1 ∧ v = 0)
theorem l_373 {G : xG_} {p i : Int} (hf : 1000100 < f) (h : rHb G T m lns hr n) :
    ∃ t v G', g373 f p i G = some (v, G') ∧ stRk T (lns hr) p i t v ∧ rHb G' T m lns hr n ∧ G' 0 74 = t ∧ G' 0 63 = G 0 63 ∧ xfHo G G' := by
  obtain ⟨G1, q, c, s, M, k1, k2, k3, k4, k5, k6, k7⟩ := l_ld0 hf h
  have hok := k2.2.2.1
  have hnp := hok.1.1
  have e0 : g373 f p i G = (if ((if (0 ≤ p ∧ p < s.1.length) ∧ 0 ≤ i ∧ i < (M p.toNat).length then (1 : Int) else 0, G1) : Int × xG_).1 = 0 then ((g321 f G1).bind fun R116 => g373_37 f (R116.1) R116.2) else (if 0 ≤ (xwr ((xwr (p * (520))) + i)) ∧ (xwr ((xwr (p * (520))) + i)) < 8320 then g373_37 f (G1 (109) (xwr ((xwr (p * (520))) + i)).toNat) G1 else none)) := by
    unfold g373
    rw [Option.bind_some, k1, Option.bind_some, l_371 hok k3, Option.bind_some]
  by_cases c1 : (0 ≤ p ∧ p < s.1.length) ∧ 0 ≤ i ∧ i < (M p.toNat).length
  · have s1 : ¬ ((if (0 ≤ p ∧ p < s.1.length) ∧ 0 ≤ i ∧ i < (M p.toNat).length then (1 : Int) else 0, G1) : Int × xG_).1 = 0 := by
      rw [if_pos c1]; show ¬ (1 : Int) = 0; decide
    rw [if_neg s1] at e0
    obtain ⟨x, rfl⟩ : ∃ x : Nat, p = (x : Int) := ⟨p.toNat, by omega⟩
    obtain ⟨y, rfl⟩ : ∃ y : Nat, i = (y : Int) := ⟨i.toNat, by omega⟩
    have c1' := c1
    rw [Int.toNat_natCast] at c1'
    obtain ⟨⟨t1, t2, t3⟩, t4⟩ := k3.2.2.2 x (by omega)
    have e4 : xwr (xwr ((x : Int) * 520) + (y : Int)) = ((x * 520 + y : Nat) : Int) := by rw [xwr_g ((x : Int) * 520) (by omega) (by omega), xwr_g _ (by omega) (by omega)]; omega
    refine ⟨0, _, G1, ?_, ⟨s, M, k2, .inl ⟨c1, rfl, rfl⟩⟩, k4, k5, k6, k7⟩
    rw [e0, e4, if_pos (by omega), Int.toNat_natCast, (t3 y (by omega)).2.2, Int.toNat_natCast, Int.toNat_natCast]
    rfl
  · have s1 : ((if (0 ≤ p ∧ p < s.1.length) ∧ 0 ≤ i ∧ i < (M p.toNat).length then (1 : Int) else 0, G1) : Int × xG_).1 = 0 := by
      rw [if_neg c1]
    obtain ⟨w1, w2, w3, w4⟩ := k4.lost k6 k7
    refine ⟨1, 0, _, ?_, ⟨s, M, k2, .inr ⟨c1, rfl, rfl⟩⟩, w1, w2, w3, w4⟩
    rw [e0, if_pos s1, l_321]
    rfl
/-- count() -/
def stCo (T : List (List Int)) (ln : sLn) (hr tl : Nat) (rf w v : Int) : Prop := ∃ s M, isMo T (lMo ln) s M ∧ v = (if w = 0 then ((ln.2.1.1 + ln.2.1.2.1 : Nat) : Int) else if w = 1 then (ln.2.1.1 : Int) else if w = 2 then (s.1.length : Int) else if w = 3 then (s.2.2.2.2.1.length : Int) else if w = 4 then (ln.2.2.2.1.1.length : Int) else if w = 5 then (hr : Int) else if w = 6 then ((lMo ln).2.1.length : Int) else if w = 7 then (ln.2.1.2.2 : Int) else if w = 8 then rf else if w = 9 then (tl : Int) else -1)
theorem l_377 {G : xG_} {w : Int} {tl : Nat} (hf : 1000100 < f) (h : rHb G T m lns hr n) (h73 : G 0 73 = (tl : Int)) :
    ∃ v G', g377 f w G = some (v, G') ∧ stCo T (lns hr) hr tl (G 0 63) w v ∧ rHb G' T m lns hr n ∧ G' 0 74 = 0 ∧ G' 0 63 = G 0 63 ∧ xfHo G G' := by
  have h0 := h.u74 (v := 0)
  have h62 := h.2.2.1
  have h4 := h.2.2.2.1
  obtain ⟨G1, q, c, s, M, k1, k2, k3, k4, k5, k6, k7⟩ := l_ld0 hf h
  obtain ⟨s', M', b1, b2, b3⟩ := h.l1
  have plain : ∀ v : Int, g377 f w G = some (v, xup2 G 0 74 0) → stCo T (lns hr) hr tl (G 0 63) w v → ∃ v G', g377 f w G = some (v, G') ∧ stCo T (lns hr) hr tl (G 0 63) w v ∧ rHb G' T m lns hr n ∧ G' 0 74 = 0 ∧ G' 0 63 = G 0 63 ∧ xfHo G G' := fun v e1 e2 => ⟨v, _, e1, e2, h0, xup2_s _ _ _ _, xup2_n (by omega), fun a j q1 q2 q3 q4 q5 => xup2_n (by omega)⟩
  have e0 : ∀ j : Nat, ∀ a : Nat, ¬ (a = 0 ∧ j = 74) → xup2 G 0 74 0 a j = G a j := fun j a q => xup2_n (by omega)
  have eg : ∀ r : Option (Int × xG_), (if 0 ≤ (xup2 G 0 74 0 0 62) ∧ (xup2 G 0 74 0 0 62) < 4 then r else none) = r := fun r => by rw [e0 _ _ (by omega), h62, if_pos (by omega)]
  have ee : g377 f w G = (if w < 0 ∨ 9 < w then (some (-1, xup2 G 0 74 0)) else (if w = 0 then (some (xup2 G 0 74 0 (123 + 29 * hr) 2, xup2 G 0 74 0)) else (if w = 1 then (some (xup2 G 0 74 0 (123 + 29 * hr) 3, xup2 G 0 74 0)) else (if w = 2 then ((g296 f (xup2 G 0 74 0)).bind fun R110 => (some (R110 (2) 8, R110))) else (if w = 3 then ((g296 f (xup2 G 0 74 0)).bind fun R116 => (some (R116 (2) 9, R116))) else (if w = 4 then (some (xup2 G 0 74 0 (123 + 29 * hr) 33, xup2 G 0 74 0)) else (if w = 5 then (some ((hr : Int), xup2 G 0 74 0)) else (if w = 6 then (some (xup2 G 0 74 0 (123 + 29 * hr + 1) 3, xup2 G 0 74 0)) else (if w = 7 then (some (xup2 G 0 74 0 (123 + 29 * hr) 4, xup2 G 0 74 0)) else (if w = 8 then (some (xup2 G 0 74 0 (0) 63, xup2 G 0 74 0)) else (some (xup2 G 0 74 0 (0) 73, xup2 G 0 74 0)))))))))))) := by
    unfold g377
    rw [Option.bind_some, eg, e0 62 0 (by omega), h62, Int.toNat_natCast]
  by_cases cb : w < 0 ∨ 9 < w
  · refine plain (-1) (by rw [ee, if_pos cb]) ⟨s, M, k2, ?_⟩
    rw [if_neg (by omega), if_neg (by omega), if_neg (by omega), if_neg (by omega), if_neg (by omega), if_neg (by omega), if_neg (by omega), if_neg (by omega), if_neg (by omega), if_neg (by omega)]
  rw [if_neg cb] at ee
  by_cases c0 : w = 0
  · refine plain _ (by rw [ee, if_pos c0, e0 _ _ (by omega)]) ⟨s, M, k2, ?_⟩
    rw [if_pos c0]; exact b2.2.1.2.1
  by_cases c1 : w = 1
  · refine plain _ (by rw [ee, if_neg c0, if_pos c1, e0 _ _ (by omega)]) ⟨s, M, k2, ?_⟩
    rw [if_neg c0, if_pos c1]; exact b2.2.1.2.2.1
  by_cases c2 : w = 2
  · refine ⟨_, G1, by rw [ee, if_neg c0, if_neg c1, if_pos c2, k1, Option.bind_some], ⟨s, M, k2, ?_⟩, k4, k5, k6, k7⟩
    rw [if_neg c0, if_neg c1, if_pos c2]; exact k3.1.1.1
  by_cases c3 : w = 3
  · refine ⟨_, G1, by rw [ee, if_neg c0, if_neg c1, if_neg c2, if_pos c3, k1, Option.bind_some], ⟨s, M, k2, ?_⟩, k4, k5, k6, k7⟩
    rw [if_neg c0, if_neg c1, if_neg c2, if_pos c3]; exact k3.1.2.2.1.1
  by_cases c4 : w = 4
  · refine plain _ (by rw [ee, if_neg c0, if_neg c1, if_neg c2, if_neg c3, if_pos c4, e0 _ _ (by omega)]) ⟨s, M, k2, ?_⟩
    rw [if_neg c0, if_neg c1, if_neg c2, if_neg c3, if_pos c4]; exact b2.2.2.2.2.2.2.2.2.2.1.1.1
  by_cases c5 : w = 5
  · refine plain (hr : Int) (by rw [ee, if_neg c0, if_neg c1, if_neg c2, if_neg c3, if_neg c4, if_pos c5]) ⟨s, M, k2, ?_⟩
    rw [if_neg c0, if_neg c1, if_neg c2, if_neg c3, if_neg c4, if_pos c5]
  by_cases c6 : w = 6
  · refine plain _ (by rw [ee, if_neg c0, if_neg c1, if_neg c2, if_neg c3, if_neg c4, if_neg c5, if_pos c6, e0 _ _ (by omega)]) ⟨s, M, k2, ?_⟩
    rw [if_neg c0, if_neg c1, if_neg c2, if_neg c3, if_neg c4, if_neg c5, if_pos c6]; exact b2.2.2.1.1
  by_cases c7 : w = 7
  · refine plain _ (by rw [ee, if_neg c0, if_neg c1, if_neg c2, if_neg c3, if_neg c4, if_neg c5, if_neg c6, if_pos c7, e0 _ _ (by omega)]) ⟨s, M, k2, ?_⟩
    rw [if_neg c0, if_neg c1, if_neg c2, if_neg c3, if_neg c4, if_neg c5, if_neg c6, if_pos c7]; exact b2.2.1.2.2.2
  by_cases c8 : w = 8
  · refine plain _ (by rw [ee, if_neg c0, if_neg c1, if_neg c2, if_neg c3, if_neg c4, if_neg c5, if_neg c6, if_neg c7, if_pos c8, e0 _ _ (by omega)]) ⟨s, M, k2, ?_⟩
    rw [if_neg c0, if_neg c1, if_neg c2, if_neg c3, if_neg c4, if_neg c5, if_neg c6, if_neg c7, if_pos c8]
  · have c9 : w = 9 := by omega
    refine plain _ (by rw [ee, if_neg c0, if_neg c1, if_neg c2, if_neg c3, if_neg c4, if_neg c5, if_neg c6, if_neg c7, if_neg c8, e0 _ _ (by omega)]) ⟨s, M, k2, ?_⟩
    rw [if_neg c0, if_neg c1, if_neg c2, if_neg c3, if_neg c4, if_neg c5, if_neg c6, if_neg c7, if_neg c8, if_pos c9]; exact h73
end
end
section
/-! predicate, edits, edit, place, forget, met; feed, end -/
section
variable {f m n hr : Nat} {T : List (List Int)} {lns : Nat → sLn}
/-- which predicates changed in the latest round -/
def lnCh (ln : sLn) (s : pPg) (p : Nat) : Prop := ln.2.2.1.2.2 = true ∧ ∃ x, x ∈ lgR ((ln.2.1.1 + ln.2.1.2.1 : Nat) : Int) (lMo ln).2.1 (ln.1 (ln.2.1.1 + ln.2.1.2.1 - 1)).2.1 ∧ ofP s x.2.2 p
/-- predicate(): thrown, value -/
def stPd (T : List (List Int)) (ln : sLn) (p w t v : Int) : Prop := ∃ s M, isMo T (lMo ln) s M ∧ ((0 ≤ p ∧ p < s.1.length) ∧ t = 0 ∧ (w = 0 → v = (qN s p.toNat : Int)) ∧ (w = 1 → v = pKy s.2.1 p) ∧ (w = 2 → v = b01 (pIn s.2.1 p)) ∧ (w = 3 → v = b01 (pOu s.2.2.1 p)) ∧ (w = 4 → v = (qRs s.1.length s.2.2.2.2.1 p.toNat : Int)) ∧ (w = 5 → v = ln.2.2.1.1 p.toNat) ∧ (w = 6 → v = ((M p.toNat).length : Int)) ∧ (w = 7 → (v = 0 ∨ v = 1) ∧ (v = 1 ↔ lnCh ln s p.toNat)) ∧ ((w < 0 ∨ 7 < w) → v = -1) ∨ ¬ (0 ≤ p ∧ p < s.1.length) ∧ t = 1 ∧ v = 0)
theorem l_378 {G : xG_} {p w : Int} (hf : 1000100 < f) (h : rHb G T m lns hr n) :
    ∃ t v G', g378 f p w G = some (v, G') ∧ stPd T (lns hr) p w t v ∧ rHb G' T m lns hr n ∧ G' 0 74 = t ∧ G' 0 63 = G 0 63 ∧ xfHo G G' := by
  obtain ⟨G1, q, c, s, M, k1, k2, k3, k4, k5, k6, k7⟩ := l_ld0 hf h
  have hok := k2.2.2.1
  have hnp := hok.1.1
  have h62 := k4.2.2.1
  have h4 := k4.2.2.2.1
  have e24 : g378_24 f G1 = some (0, xup2 G1 0 74 1) := by
    unfold g378_24
    rw [l_321]
    rfl
  by_cases c1 : 0 ≤ p ∧ p < (s.1.length : Int)
  · obtain ⟨x, rfl⟩ : ∃ x : Nat, p = (x : Int) := ⟨p.toNat, by omega⟩
    have hx : x < s.1.length := by omega
    have hx16 : 0 ≤ (x : Int) ∧ (x : Int) < 16 := by omega
    obtain ⟨s', M', b1, b2, b3⟩ := k4.l1
    obtain ⟨es, eM⟩ := isMo_u k2 b1
    subst es
    obtain ⟨f1, f2, f3, f4⟩ := k3.1.2.2.2.1 x (by omega)
    have g4 : G1 (2 + 2) x = (qN s x : Int) := by
      have := k3.2.1 x hx
      have h2 := (pNn_in hok.1 (x : Int)).1
      unfold qN
      rw [this]
      omega
    have g7 : G1 (2 + 5) x = (qRs s.1.length s.2.2.2.2.1 x : Int) := k3.2.2.1.2 x hx
    have cx := b2.2.2.2.2.2.2.2.2.1
    have hch : (G1 (123 + 29 * hr + 19) x = 0 ∨ G1 (123 + 29 * hr + 19) x = 1) ∧ (G1 (123 + 29 * hr + 19) x = 1 ↔ lnCh (lns hr) s x) := by
      cases hb : (lns hr).2.2.1.2.2 with
      | true =>
        obtain ⟨y1, y2⟩ := cx.1 hb x (by omega)
        refine ⟨y2, ?_⟩
        rw [y1]
        exact ⟨fun z => ⟨hb, z⟩, fun z => z.2⟩
      | false =>
        have y := cx.2 hb x (by omega)
        rw [y]
        refine ⟨.inl rfl, fun z => absurd z (by decide), fun z => ?_⟩
        have := z.1
        rw [hb] at this
        cases this
    have e0 : g378 f (x : Int) w G = (if w < 0 ∨ 7 < w then (some (-1, G1)) else (if w = 0 then some (G1 (2 + 2) x, G1) else (if w = 1 then some (G1 (2 + 3) x, G1) else (if w = 2 then (if (G1 (2 + 6) x) = 0 then g378_125 f (0) G1 else g378_125 f (1) G1) else (if w = 3 then (if (G1 (2 + 7) x) = 0 then g378_143 f (0) G1 else g378_143 f (1) G1) else (if w = 4 then some (G1 (2 + 5) x, G1) else (if w = 5 then some (G1 (123 + 29 * hr + 18) x, G1) else (if w = 6 then some (G1 (108) x, G1) else some (G1 (123 + 29 * hr + 19) x, G1))))))))) := by
      unfold g378
      rw [Option.bind_some, k1, Option.bind_some, if_neg (by omega), k3.1.1.1, if_pos c1.2, h62, if_pos (by omega), Int.toNat_natCast, Int.toNat_natCast, if_pos hx16, if_pos hx16, if_pos hx16, if_pos hx16, if_pos hx16, if_pos hx16, if_pos hx16, if_pos hx16]
    have b0 : ∀ b : Bool, (if b01 b = 0 then some ((0 : Int), G1) else some (1, G1)) = some (b01 b, G1) := fun b => by cases b <;> rfl
    have fin : ∀ v : Int, g378 f (x : Int) w G = some (v, G1) → ((w = 0 → v = (qN s x : Int)) ∧ (w = 1 → v = pKy s.2.1 (x : Int)) ∧ (w = 2 → v = b01 (pIn s.2.1 (x : Int))) ∧ (w = 3 → v = b01 (pOu s.2.2.1 (x : Int))) ∧ (w = 4 → v = (qRs s.1.length s.2.2.2.2.1 x : Int)) ∧ (w = 5 → v = (lns hr).2.2.1.1 x) ∧ (w = 6 → v = ((M x).length : Int)) ∧ (w = 7 → (v = 0 ∨ v = 1) ∧ (v = 1 ↔ lnCh (lns hr) s x)) ∧ ((w < 0 ∨ 7 < w) → v = -1)) → ∃ t v G', g378 f (x : Int) w G = some (v, G') ∧ stPd T (lns hr) (x : Int) w t v ∧ rHb G' T m lns hr n ∧ G' 0 74 = t ∧ G' 0 63 = G 0 63 ∧ xfHo G G' := fun v he hv => ⟨0, v, G1, he, ⟨s, M, k2, .inl ⟨c1, rfl, by rw [Int.toNat_natCast]; exact hv⟩⟩, k4, k5, k6, k7⟩
    by_cases d : w < 0 ∨ 7 < w
    · exact fin (-1) (by rw [e0, if_pos d]) ⟨fun z => by omega, fun z => by omega, fun z => by omega, fun z => by omega, fun z => by omega, fun z => by omega, fun z => by omega, fun z => by omega, fun _ => rfl⟩
    rw [if_neg d] at e0
    by_cases d0 : w = 0
    · exact fin _ (by rw [e0, if_pos d0, g4]) ⟨fun z => rfl, fun z => by omega, fun z => by omega, fun z => by omega, fun z => by omega, fun z => by omega, fun z => by omega, fun z => by omega, fun z => absurd z d⟩
    rw [if_neg d0] at e0
    by_cases d1 : w = 1
    · exact fin _ (by rw [e0, if_pos d1, f2]) ⟨fun z => by omega, fun z => rfl, fun z => by omega, fun z => by omega, fun z => by omega, fun z => by omega, fun z => by omega, fun z => by omega, fun z => absurd z d⟩
    rw [if_neg d1] at e0
    by_cases d2 : w = 2
    · exact fin _ (by rw [e0, if_pos d2, f1]; exact b0 _) ⟨fun z => by omega, fun z => by omega, fun z => rfl, fun z => by omega, fun z => by omega, fun z => by omega, fun z => by omega, fun z => by omega, fun z => absurd z d⟩
    rw [if_neg d2] at e0
    by_cases d3 : w = 3
    · exact fin _ (by rw [e0, if_pos d3, f3]; exact b0 _) ⟨fun z => by omega, fun z => by omega, fun z => by omega, fun z => rfl, fun z => by omega, fun z => by omega, fun z => by omega, fun z => by omega, fun z => absurd z d⟩
    rw [if_neg d3] at e0
    by_cases d4 : w = 4
    · exact fin _ (by rw [e0, if_pos d4, g7]) ⟨fun z => by omega, fun z => by omega, fun z => by omega, fun z => by omega, fun z => rfl, fun z => by omega, fun z => by omega, fun z => by omega, fun z => absurd z d⟩
    rw [if_neg d4] at e0
    by_cases d5 : w = 5
    · exact fin _ (by rw [e0, if_pos d5]) ⟨fun z => by omega, fun z => by omega, fun z => by omega, fun z => by omega, fun z => by omega, fun z => b2.2.2.2.2.2.1 x (by omega), fun z => by omega, fun z => by omega, fun z => absurd z d⟩
    rw [if_neg d5] at e0
    by_cases d6 : w = 6
    · exact fin _ (by rw [e0, if_pos d6]) ⟨fun z => by omega, fun z => by omega, fun z => by omega, fun z => by omega, fun z => by omega, fun z => by omega, fun z => (k3.2.2.2 x hx).1.1, fun z => by omega, fun z => absurd z d⟩
    rw [if_neg d6] at e0
    exact fin _ e0 ⟨fun z => by omega, fun z => by omega, fun z => by omega, fun z => by omega, fun z => by omega, fun z => by omega, fun z => by omega, fun z => hch, fun z => absurd z d⟩
  · obtain ⟨w1, w2, w3, w4⟩ := k4.lost k6 k7
    refine ⟨1, 0, _, ?_, ⟨s, M, k2, .inr ⟨c1, rfl, rfl⟩⟩, w1, w2, w3, w4⟩
    unfold g378
    rw [Option.bind_some, k1, Option.bind_some, k3.1.1.1, e24]
    by_cases d : p < 0
    · rw [if_pos d]
    · rw [if_neg d, if_neg (by omega)]
/-- the edits of the latest round -/
def lnEs (ln : sLn) (s : pPg) (E : List pEd) : Prop := (ln.2.2.1.2.2 = true → qEd s (lMo ln).2.1 (ln.1 (ln.2.1.1 + ln.2.1.2.1 - 1)).2.1 E) ∧ (ln.2.2.1.2.2 = false → E = [])
theorem l_379 {G : xG_} (h : rHb G T m lns hr n) : ∃ s M E, isMo T (lMo (lns hr)) s M ∧ lnEs (lns hr) s E ∧ g379 f G = some ((E.length : Int), xup2 G 0 74 0) := by
  have h62 := h.2.2.1
  have h4 := h.2.2.2.1
  obtain ⟨s, M, b1, b2, b3⟩ := h.l1
  obtain ⟨E, e1, e2⟩ := b2.2.2.2.2.2.2.2.1
  refine ⟨s, M, E, b1, e2, ?_⟩
  unfold g379
  rw [Option.bind_some, xup2_n (by omega), h62, if_pos (by omega), Int.toNat_natCast, xup2_n (by omega), e1.1]
/-- edit(): thrown, value -/
def stEt (T : List (List Int)) (ln : sLn) (i w t v : Int) : Prop := ∃ s M E, isMo T (lMo ln) s M ∧ lnEs ln s E ∧ (((0 ≤ i ∧ i < E.length) ∧ 0 ≤ w ∧ w ≤ 1 + (qN s (E.getD i.toNat dEd).1 : Int)) ∧ t = 0 ∧ v = (if w = 0 then ((E.getD i.toNat dEd).1 : Int) else if w = 1 then (E.getD i.toNat dEd).2.1 else (E.getD i.toNat dEd).2.2.getD (w - 2).toNat 0) ∨ ¬ ((0 ≤ i ∧ i < E.length) ∧ 0 ≤ w ∧ w ≤ 1 + (qN s (E.getD i.toNat dEd).1 : Int)) ∧ t = 1 ∧ v = 0)
theorem l_380 {G : xG_} {i w : Int} (hf : 1000100 < f) (h : rHb G T m lns hr n) :
    ∃ t v G', g380 f i w G = some (v, G') ∧ stEt T (lns hr) i w t v ∧ rHb G' T m lns hr n ∧ G' 0 74 = t ∧ G' 0 63 = G 0 63 ∧ xfHo G G' := by
  obtain ⟨G1, q, c, s, M, k1, k2, k3, k4, k5, k6, k7⟩ := l_ld0 hf h
  have hok := k2.2.2.1
  have hnp := hok.1.1
  have h62 := k4.2.2.1
  have h4 := k4.2.2.2.1
  obtain ⟨s', M', b1, b2, b3⟩ := k4.l1
  obtain ⟨es, eM⟩ := isMo_u k2 b1
  subst es
  obtain ⟨E, e1, e2⟩ := b2.2.2.2.2.2.2.2.1
  have hE : lnEs (lns hr) s E := e2
  have e55 : g380_55 f G1 = some (0, xup2 G1 0 74 1) := by
    unfold g380_55
    rw [l_321]
    rfl
  have lost : ¬ ((0 ≤ i ∧ i < E.length) ∧ 0 ≤ w ∧ w ≤ 1 + (qN s (E.getD i.toNat dEd).1 : Int)) → g380 f i w G = some (0, xup2 G1 0 74 1) → ∃ t v G', g380 f i w G = some (v, G') ∧ stEt T (lns hr) i w t v ∧ rHb G' T m lns hr n ∧ G' 0 74 = t ∧ G' 0 63 = G 0 63 ∧ xfHo G G' := fun hc he => by
    obtain ⟨w1, w2, w3, w4⟩ := k4.lost k6 k7
    exact ⟨1, 0, _, he, ⟨s, M, E, k2, hE, .inr ⟨hc, rfl, rfl⟩⟩, w1, w2, w3, w4⟩
  have ho : ∀ r : Option (Int × xG_), (if 0 ≤ (G1 0 62) ∧ (G1 0 62) < 4 then r else none) = r := fun r => by rw [h62, if_pos (by omega)]
  by_cases c1 : i < 0
  · refine lost (by omega) ?_
    unfold g380
    rw [Option.bind_some, k1, Option.bind_some, ho, if_pos c1, e55]
  by_cases c2 : (E.length : Int) ≤ i
  · refine lost (by omega) ?_
    unfold g380
    rw [Option.bind_some, k1, Option.bind_some, ho, if_neg c1, h62, Int.toNat_natCast, e1.1, if_pos c2, e55]
  by_cases c3 : w < 0
  · refine lost (by omega) ?_
    unfold g380
    rw [Option.bind_some, k1, Option.bind_some, ho, if_neg c1, h62, Int.toNat_natCast, e1.1, if_neg c2, if_pos c3, e55]
  obtain ⟨x, rfl⟩ : ∃ x : Nat, i = (x : Int) := ⟨i.toNat, by omega⟩
  have hx : x < E.length := by omega
  have hl := e1.2.1
  obtain ⟨y1, y2, y3⟩ := e1.2.2 x hx
  have hm : E.getD x dEd ∈ E := by
    rw [getD_e hx]
    exact List.getElem_mem _
  obtain ⟨p1, p2, p3, p4⟩ : (E.getD x dEd).1 < s.1.length ∧ _ ∧ (E.getD x dEd).2.2.length = qN s (E.getD x dEd).1 ∧ _ := by
    cases hb : (lns hr).2.2.1.2.2 with
    | true => exact ((hE.1 hb).2 _).mp hm
    | false => rw [hE.2 hb] at hx; exact absurd hx (Nat.not_lt_zero x)
  have g4 : G1 (2 + 2) (E.getD x dEd).1 = (qN s (E.getD x dEd).1 : Int) := by
    have := k3.2.1 (E.getD x dEd).1 p1
    have h2 := (pNn_in hok.1 ((E.getD x dEd).1 : Int)).1
    unfold qN
    rw [this]
    omega
  have hq4 : qN s (E.getD x dEd).1 ≤ 4 := by have := (pNn_in hok.1 ((E.getD x dEd).1 : Int)).2; unfold qN; omega
  have ew : xwr (1 + (qN s (E.getD x dEd).1 : Int)) = 1 + (qN s (E.getD x dEd).1 : Int) := xwr_g _ (by omega) (by omega)
  rw [Int.toNat_natCast] at lost
  have hx2 : 0 ≤ (x : Int) ∧ (x : Int) < 3400 := by omega
  have e0 : g380 f (x : Int) w G = (if w ≤ 1 + (qN s (E.getD x dEd).1 : Int) then (if ¬ w = 0 then (if ¬ w = (1) then (if 0 ≤ (xwr ((xwr ((xwr ((4) * (x : Int))) + w)) - (2))) ∧ (xwr ((xwr ((xwr ((4) * (x : Int))) + w)) - (2))) < 13600 then g380_102 f (G1 (123 + 29 * hr + 23) (xwr ((xwr ((xwr ((4) * (x : Int))) + w)) - (2))).toNat) G1 else none) else g380_102 f (E.getD x dEd).2.1 G1) else g380_102 f ((E.getD x dEd).1 : Int) G1) else g380_55 f G1) := by
    unfold g380
    rw [Option.bind_some, k1, Option.bind_some, ho, if_neg c1, h62, Int.toNat_natCast, e1.1, if_neg c2, if_neg c3, if_pos hx2, Int.toNat_natCast, y1, if_pos (by omega), Int.toNat_natCast, g4, ew, if_pos hx2, if_pos hx2, y2]
  by_cases c4 : w ≤ 1 + (qN s (E.getD x dEd).1 : Int)
  · rw [if_pos c4] at e0
    have fin : ∀ v : Int, g380 f (x : Int) w G = some (v, G1) → v = (if w = 0 then ((E.getD x dEd).1 : Int) else if w = 1 then (E.getD x dEd).2.1 else (E.getD x dEd).2.2.getD (w - 2).toNat 0) → ∃ t v G', g380 f (x : Int) w G = some (v, G') ∧ stEt T (lns hr) (x : Int) w t v ∧ rHb G' T m lns hr n ∧ G' 0 74 = t ∧ G' 0 63 = G 0 63 ∧ xfHo G G' := fun v he hv => ⟨0, v, G1, he, ⟨s, M, E, k2, hE, .inl ⟨by rw [Int.toNat_natCast]; omega, rfl, by rw [Int.toNat_natCast]; exact hv⟩⟩, k4, k5, k6, k7⟩
    by_cases d0 : w = 0
    · exact fin _ (by rw [e0, if_neg (fun z => z d0)]; rfl) (by rw [if_pos d0])
    · rw [if_pos d0] at e0
      by_cases d1 : w = 1
      · exact fin _ (by rw [e0, if_neg (fun z => z d1)]; rfl) (by rw [if_neg d0, if_pos d1])
      · obtain ⟨z, hz⟩ : ∃ z : Nat, w = ((z + 2 : Nat) : Int) := ⟨(w - 2).toNat, by omega⟩
        have e4 : xwr (xwr (xwr (4 * (x : Int)) + w) - 2) = ((4 * x + z : Nat) : Int) := by
          rw [xwr_g (4 * (x : Int)) (by omega) (by omega), xwr_g (4 * (x : Int) + w) (by omega) (by omega), xwr_g _ (by omega) (by omega)]
          omega
        refine fin _ (by rw [e0, if_pos d1, e4, if_pos (by omega), Int.toNat_natCast, y3 z (by omega)]; rfl) ?_
        rw [if_neg d0, if_neg d1, show (w - 2).toNat = z by omega]
  · exact lost (by omega) (by rw [e0, if_neg c4, e55])
/-- place() -/
theorem l_364 {G : xG_} : g364 f G = some (G 0 75, xup2 G 0 74 0) := by
  unfold g364
  rw [Option.bind_some, xup2_n (by omega)]
/-- forget() -/
theorem l_367 {G : xG_} (hf : 100 < f) (h : rHb G T m lns hr n) :
    ∃ G', g367 f G = some (((lns hr).2.2.2.1.1.length : Int), G') ∧ rHb G' T m (fun k => if k = hr then lnF (lns k) else lns k) hr n ∧ G' 0 74 = 0 ∧ G' 0 63 = G 0 63 ∧ xfHo G G' := by
  have h62 := h.2.2.1
  have h4 := h.2.2.2.1
  have hc := h.c
  obtain ⟨a1, a2, a3, a4, a5, a6, a7, a8, a9⟩ := h
  obtain ⟨s, M, b1, b2, b3⟩ := a5 hr a4
  obtain ⟨G1, u1, u2, u3, u4, u5⟩ := l_202 (f := f) (o := 123 + 29 * hr) (G := xup2 G 0 74 0) (by omega)
  have z : ∀ a j, ¬ (a = 0 ∧ j = 74) → ¬ (a = 123 + 29 * hr ∧ (j = 33 ∨ j = 34)) → ¬ (a = 123 + 29 * hr + 26 ∧ j < 72) → G1 a j = G a j := fun a j q1 q2 q3 => by rw [u5 a j q2 q3, xup2_n (by omega)]
  have hl := b2.2.2.2.2.2.2.2.2.2.1.1.1
  refine ⟨G1, ?_, ?_, ?_, ?_, fun a j q1 q2 q3 q4 q5 => z a j (by omega) (by omega) (by omega)⟩
  · unfold g367
    rw [Option.bind_some, xup2_n (by omega), h62, if_pos (by omega), if_pos (by omega), Int.toNat_natCast, u1, Option.bind_some, xup2_n (by omega), hl]
  · refine rHb.of ⟨a1.ge (fun j _ _ => z _ _ (by omega) (by omega) (by omega)), a2.ge (z _ _ (by omega) (by omega) (by omega)) (z _ _ (by omega) (by omega) (by omega)) (fun a j _ => z _ _ (by omega) (by omega) (by omega)), fun k hk => ?_⟩ (by rw [z _ _ (by omega) (by omega) (by omega)]; exact a3) a4 (by rw [z _ _ (by omega) (by omega) (by omega)]; exact a6) (by rw [z _ _ (by omega) (by omega) (by omega)]; exact a7) (by rw [z _ _ (by omega) (by omega) (by omega), z _ _ (by omega) (by omega) (by omega)]; exact a8) ?_
    · obtain ⟨s', M', x1, x2, x3⟩ := a5 k hk
      by_cases d : k = hr
      · simp only [if_pos d]
        rw [d] at x1 x2 x3 ⊢
        refine ⟨s', M', x1, ?_, ?_⟩
        · obtain ⟨r1, ⟨r2, r3, r4, r5⟩, r6, r7, r8, r9, r10, ⟨E, r11, r12⟩, r18, ⟨r13, r14, r15⟩, r16, r17⟩ := x2
          have zl : ∀ a j, 123 + 29 * hr ≤ a → ¬ (a = 123 + 29 * hr ∧ (j = 33 ∨ j = 34)) → a ≠ 123 + 29 * hr + 26 → G1 a j = G a j := fun a j q1 q2 q3 => z _ _ (by omega) q2 (by omega)
          exact ⟨⟨r1.1.ge (zl _ _ (by omega) (by omega) (by omega)) (fun a j _ _ => zl _ _ (by omega) (by omega) (by omega)), r1.2.1.ge (zl _ _ (by omega) (by omega) (by omega)) (fun a j _ _ => zl _ _ (by omega) (by omega) (by omega)), r1.2.2.1.ge (zl _ _ (by omega) (by omega) (by omega)) (fun a j _ _ => zl _ _ (by omega) (by omega) (by omega)), r1.2.2.2⟩, ⟨by rw [zl _ _ (by omega) (by omega) (by omega)]; exact r2, by rw [zl _ _ (by omega) (by omega) (by omega)]; exact r3, by rw [zl _ _ (by omega) (by omega) (by omega)]; exact r4, by rw [zl _ _ (by omega) (by omega) (by omega)]; exact r5⟩, r6.ge (zl _ _ (by omega) (by omega) (by omega)) (fun a j _ _ => zl _ _ (by omega) (by omega) (by omega)), fun c hc => by rw [zl _ _ (by omega) (by omega) (by omega)]; exact r7 c hc, fun c hc => by rw [zl _ _ (by omega) (by omega) (by omega), zl _ _ (by omega) (by omega) (by omega)]; exact r8 c hc, fun p hp => by rw [zl _ _ (by omega) (by omega) (by omega)]; exact r9 p hp, fun c hc => by rw [zl _ _ (by omega) (by omega) (by omega)]; exact r10 c hc, ⟨E, r11.ge (zl _ _ (by omega) (by omega) (by omega)) (fun a j _ _ => zl _ _ (by omega) (by omega) (by omega)), r12⟩, r18.ge (fun j => zl _ _ (by omega) (by omega) (by omega)), ⟨⟨u2, Nat.zero_le _, fun x hx => absurd hx (Nat.not_lt_zero x)⟩, u3, fun c hc => u4 c hc⟩, by rw [zl _ _ (by omega) (by omega) (by omega)]; exact r16, by rw [zl _ _ (by omega) (by omega) (by omega)]; exact r17⟩
        · obtain ⟨q1, q2, q3, q4, q5, q6, q7, q8⟩ := x3
          exact ⟨q1, q2, q3, q4, q5, q6, q7, fun e he => (by cases he), .inl rfl, fun _ => .inl rfl⟩
      · simp only [if_neg d]
        exact ⟨s', M', x1, x2.ge (fun a j _ _ => z _ _ (by omega) (by omega) (by omega)), x3⟩
    · have hl := a9.ge (G' := G1) (fun j _ _ => z _ _ (by omega) (by omega) (by omega)) (fun a j _ _ => z _ _ (by omega) (by omega) (by omega)) (fun a j _ _ => z _ _ (by omega) (by omega) (by omega))
      intro e1 y hy e2 s M hM
      refine hl e1 y hy e2 s M ?_
      by_cases d : y = hr
      · simp only [if_pos d] at hM
        exact hM
      · simp only [if_neg d] at hM
        exact hM
  · rw [u5 _ _ (by omega) (by omega), xup2_s]
  · exact z _ _ (by omega) (by omega) (by omega)
/-- what merge met -/
def rMt (G : xG_) (mt : Int × List Int) : Prop := G 0 82 = mt.1 ∧ G 0 83 = (mt.2.length : Int) ∧ mt.2.length ≤ 4 ∧ ∀ j, j < mt.2.length → G 257 j = mt.2.getD j 0
def stMe (mt : Int × List Int) (w t v : Int) : Prop := (mt.1 ≠ -1 ∧ 0 ≤ w ∧ w ≤ mt.2.length) ∧ t = 0 ∧ v = (if w = 0 then mt.1 else mt.2.getD (w - 1).toNat 0) ∨ ¬ (mt.1 ≠ -1 ∧ 0 ≤ w ∧ w ≤ mt.2.length) ∧ t = 1 ∧ v = 0
theorem l_330 {G : xG_} {w : Int} {mt : Int × List Int} (h : rMt G mt) : ∃ t v G', g330 f w G = some (v, G') ∧ stMe mt w t v ∧ G' 0 74 = t ∧ ∀ a j, ¬ (a = 0 ∧ j = 74) → G' a j = G a j := by
  obtain ⟨h1, h2, h3, h4⟩ := h
  have e25 : ∀ Z : xG_, g330_25 f Z = some (0, xup2 Z 0 74 1) := fun Z => by
    unfold g330_25
    rw [l_321]
    rfl
  have z : ∀ a j, ¬ (a = 0 ∧ j = 74) → xup2 G 0 74 0 a j = G a j := fun a j q => xup2_n (by omega)
  have e0 : g330 f w G = (if mt.1 = (-1) then g330_25 f (xup2 G 0 74 0) else (if w < 0 then g330_25 f (xup2 G 0 74 0) else (if w ≤ (mt.2.length : Int) then (if ¬ w = 0 then (if 0 ≤ (xwr (w - (1))) ∧ (xwr (w - (1))) < 4 then g330_51 f (G 257 (xwr (w - (1))).toNat) (xup2 G 0 74 0) else none) else g330_51 f mt.1 (xup2 G 0 74 0)) else g330_25 f (xup2 G 0 74 0)))) := by
    unfold g330
    rw [Option.bind_some, z _ _ (by omega), z _ _ (by omega), z _ _ (by omega), h1, h2]
  have lost : ¬ (mt.1 ≠ -1 ∧ 0 ≤ w ∧ w ≤ mt.2.length) → g330 f w G = g330_25 f (xup2 G 0 74 0) → ∃ t v G', g330 f w G = some (v, G') ∧ stMe mt w t v ∧ G' 0 74 = t ∧ ∀ a j, ¬ (a = 0 ∧ j = 74) → G' a j = G a j := fun hc he => ⟨1, 0, _, by rw [he, e25], .inr ⟨hc, rfl, rfl⟩, xup2_s _ _ _ _, fun a j q => by rw [xup2_n (by omega)]; exact z a j q⟩
  by_cases c1 : mt.1 = -1
  · exact lost (fun q => q.1 c1) (by rw [e0, if_pos c1])
  by_cases c2 : w < 0
  · exact lost (by omega) (by rw [e0, if_neg c1, if_pos c2])
  by_cases c3 : w ≤ (mt.2.length : Int)
  · rw [if_neg c1, if_neg c2, if_pos c3] at e0
    by_cases c4 : w = 0
    · refine ⟨0, mt.1, _, by rw [e0, if_neg (fun q => q c4)]; rfl, .inl ⟨⟨c1, by omega, c3⟩, rfl, by rw [if_pos c4]⟩, xup2_s _ _ _ _, z⟩
    · obtain ⟨x, hx⟩ : ∃ x : Nat, w = ((x + 1 : Nat) : Int) := ⟨(w - 1).toNat, by omega⟩
      have ew : xwr (w - 1) = (x : Int) := by rw [xwr_g _ (by omega) (by omega)]; omega
      refine ⟨0, mt.2.getD x 0, _, by rw [e0, if_pos c4, ew, if_pos (by omega), Int.toNat_natCast, h4 x (by omega)]; rfl, .inl ⟨⟨c1, by omega, c3⟩, rfl, by rw [if_neg c4, show (w - 1).toNat = x by omega]⟩, xup2_s _ _ _ _, z⟩
  · exact lost (by omega) (by rw [e0, if_neg c1, if_neg c2, if_neg c3])
end
end
section
/-! feed(), end() -/
def fdB (w sh : Int) : Int := xand (xshr w sh) 255
def fdT (a b c d e : Int) : List Int := [fdB a 24, fdB a 16, fdB a 8, fdB a 0, fdB b 24, fdB b 16, fdB b 8, fdB b 0, fdB c 24, fdB c 16, fdB c 8, fdB c 0, fdB d 24, fdB d 16, fdB d 8, fdB d 0, fdB e 24, fdB e 16, fdB e 8, fdB e 0]
theorem fd_by (v : Int) : xand (xnar .byte (xi2b v)) 255 = xand v 255 := by
  have e1 : xnar .byte (xi2b v) = (Int32.ofInt (xi2b v)).toInt8.toInt32.toInt := rfl
  have h := xnar_in v
  have e2 : xnar .byte v = xi2b v := rfl
  rw [e2] at h
  rw [xnar_b _ h.1 h.2]
  have e3 : Int32.ofInt (xi2b v) = (Int32.ofInt v).toInt8.toInt32 := by
    unfold xi2b
    rw [Int32.ofInt_toInt]
  unfold xand
  rw [e3]
  have e4 : ((Int32.ofInt v).toInt8.toInt32 &&& Int32.ofInt 255).toBitVec = ((Int32.ofInt v) &&& Int32.ofInt 255).toBitVec := by
    show ((Int32.ofInt v).toBitVec.signExtend 8).signExtend 32 &&& 255#32 = (Int32.ofInt v).toBitVec &&& 255#32
    generalize (Int32.ofInt v).toBitVec = x
    apply BitVec.eq_of_getLsbD_eq
    intro i hi
    have h255 : ∀ i, i < 32 → (255#32).getLsbD i = decide (i < 8) := by decide
    rw [BitVec.getLsbD_and, BitVec.getLsbD_and, h255 i hi]
    by_cases c : i < 8
    · rw [decide_eq_true c, Bool.and_true, Bool.and_true, BitVec.getLsbD_signExtend, BitVec.getLsbD_signExtend]
      simp [c, hi]
    · rw [decide_eq_false c, Bool.and_false, Bool.and_false]
  show ((Int32.ofInt v).toInt8.toInt32 &&& Int32.ofInt 255).toBitVec.toInt = ((Int32.ofInt v) &&& Int32.ofInt 255).toBitVec.toInt
  rw [e4]
theorem fd_sh : ∀ k : Nat, k < 20 → xwr (24 - xwr (xrem (k : Int) 4 * 8)) = 24 - 8 * ((k % 4 : Nat) : Int) := by decide +kernel
section
variable {f : Nat}
theorem l_359_23 {a b c d e : Int} {t : List Int} (ht : t.length + 20 ≤ 3000) : ∀ (x k fu : Nat) (G : xG_), k + x = 20 → x < fu → rTp G (t ++ (fdT a b c d e).take k) →
    ∃ G', g359_23 f fu a b c d e (k : Int) G = some (1, G') ∧ rTp G' (t ++ fdT a b c d e) ∧ ∀ a j, ¬ (a = 0 ∧ j = 73) → a ≠ 240 → G' a j = G a j := by
  have h240 : ((xl_t 240).2.2 : Int) = 3000 := by decide +kernel
  intro x
  induction x with
  | zero =>
    intro k fu G h1 h2 h3
    obtain ⟨fu, rfl⟩ : ∃ t, fu = t + 1 := ⟨fu - 1, by omega⟩
    have hk : k = 20 := by omega
    subst hk
    refine ⟨G, ?_, h3, fun _ _ _ _ => rfl⟩
    show g359_23b (g359_23 f fu) f _ _ _ _ _ _ _ = _
    unfold g359_23b
    rw [if_pos (by omega)]
  | succ x ih =>
    intro k fu G h1 h2 h3
    obtain ⟨fu, rfl⟩ : ∃ t, fu = t + 1 := ⟨fu - 1, by omega⟩
    have hk : k < 20 := by omega
    obtain ⟨p1, p2, p3⟩ := h3
    have hlen : (t ++ (fdT a b c d e).take k).length = t.length + k := by
      rw [List.length_append, List.length_take]
      show t.length + min k 20 = _
      omega
    rw [hlen] at p1 p2
    have ek : xwr ((k : Int) + 1) = ((k + 1 : Nat) : Int) := by rw [xwr_g _ (by omega) (by omega)]; omega
    have e73 : xwr (((t.length + k : Nat) : Int) + 1) = ((t.length + k + 1 : Nat) : Int) := by rw [xwr_g _ (by omega) (by omega)]; omega
    have htk : (fdT a b c d e).take (k + 1) = (fdT a b c d e).take k ++ [(fdT a b c d e).getD k 0] := by
      have hk' : k < (fdT a b c d e).length := hk
      rw [List.take_succ_eq_append_getElem hk', getD_e hk']
    -- one byte
    have go : ∀ w : Int, fdB w (24 - 8 * ((k % 4 : Nat) : Int)) = (fdT a b c d e).getD k 0 → ∃ G', g359_76 (g359_23 f fu) f a b c d e (k : Int) w G = some (1, G') ∧ rTp G' (t ++ fdT a b c d e) ∧ ∀ a j, ¬ (a = 0 ∧ j = 73) → a ≠ 240 → G' a j = G a j := fun w hw => by
      let B := xnar .byte (xi2b (xshr w (24 - 8 * ((k % 4 : Nat) : Int))))
      have hB := xnar_in (xi2b (xshr w (24 - 8 * ((k % 4 : Nat) : Int))))
      let G1 := xup2 (xup2 G 240 (t.length + k) B) 0 73 ((t.length + k + 1 : Nat) : Int)
      have z1 : ∀ a j, ¬ (a = 240 ∧ j = t.length + k) → ¬ (a = 0 ∧ j = 73) → G1 a j = G a j := fun a j q1 q2 => by
        show xup2 _ _ _ _ _ _ = _
        rw [xup2_n (by omega), xup2_n (by omega)]
      have zB : G1 240 (t.length + k) = B := by
        show xup2 _ _ _ _ _ _ = _
        rw [xup2_n (by omega), xup2_s]
      have hl1 : (t ++ (fdT a b c d e).take (k + 1)).length = t.length + k + 1 := by
        rw [htk, ← List.append_assoc, List.length_append, hlen]; rfl
      have hT1 : rTp G1 (t ++ (fdT a b c d e).take (k + 1)) := by
        refine ⟨by rw [hl1]; exact xup2_s _ _ _ _, by omega, ⟨.inr rfl, by rw [h240, hl1]; omega, fun p hp => ?_⟩, fun p hp => ?_⟩
        · rw [hl1] at hp
          rw [Nat.zero_add]
          by_cases cp : p = t.length + k
          · rw [cp, zB]; exact hB
          · rw [z1 _ _ (by omega) (by omega)]
            have := p3.1.2.2 p (by rw [hlen]; omega)
            rw [Nat.zero_add] at this
            exact this
        · rw [hl1] at hp
          rw [Nat.zero_add, htk, ← List.append_assoc, getD_1, hlen]
          by_cases cp : p = t.length + k
          · rw [if_pos cp, cp, zB, ← hw]
            exact fd_by _
          · rw [if_neg cp, z1 _ _ (by omega) (by omega)]
            have := p3.2 p (by rw [hlen]; omega)
            rw [Nat.zero_add] at this
            exact this
      obtain ⟨G', u1, u2, u3⟩ := ih (k + 1) fu G1 (by omega) (by omega) hT1
      refine ⟨G', ?_, u2, fun a j q1 q2 => by rw [u3 a j q1 q2, z1 a j (by omega) q1]⟩
      unfold g359_76
      rw [p1, if_pos (by omega), Int.toNat_natCast, fd_sh k hk, Option.bind_some, xup2_n (by omega), p1, e73, Option.bind_some, ek]
      exact u1
    have sel : ∃ w : Int, g359_23 f (fu + 1) a b c d e (k : Int) G = g359_76 (g359_23 f fu) f a b c d e (k : Int) w G ∧ fdB w (24 - 8 * ((k % 4 : Nat) : Int)) = (fdT a b c d e).getD k 0 := by
      have e0 : g359_23 f (fu + 1) a b c d e (k : Int) G = g359_23b (g359_23 f fu) f a b c d e (k : Int) G := rfl
      rw [e0]
      unfold g359_23b
      rw [if_neg (by omega)]
      by_cases c4 : k < 4
      · refine ⟨a, by rw [if_neg (by omega)], ?_⟩
        obtain rfl | rfl | rfl | rfl : k = 0 ∨ k = 1 ∨ k = 2 ∨ k = 3 := by omega
        all_goals rfl
      rw [if_pos (by omega)]
      by_cases c8 : k < 8
      · refine ⟨b, by rw [if_neg (by omega)], ?_⟩
        obtain rfl | rfl | rfl | rfl : k = 4 ∨ k = 5 ∨ k = 6 ∨ k = 7 := by omega
        all_goals rfl
      rw [if_pos (by omega)]
      by_cases c12 : k < 12
      · refine ⟨c, by rw [if_neg (by omega)], ?_⟩
        obtain rfl | rfl | rfl | rfl : k = 8 ∨ k = 9 ∨ k = 10 ∨ k = 11 := by omega
        all_goals rfl
      rw [if_pos (by omega)]
      by_cases c16 : k < 16
      · refine ⟨d, by rw [if_neg (by omega)], ?_⟩
        obtain rfl | rfl | rfl | rfl : k = 12 ∨ k = 13 ∨ k = 14 ∨ k = 15 := by omega
        all_goals rfl
      · refine ⟨e, by rw [if_pos (by omega)], ?_⟩
        obtain rfl | rfl | rfl | rfl : k = 16 ∨ k = 17 ∨ k = 18 ∨ k = 19 := by omega
        all_goals rfl
    obtain ⟨w, s1, s2⟩ := sel
    rw [s1]
    exact go w s2
/-- feed() -/
def stFe (t : List Int) (a b c d e v : Int) (t' : List Int) : Prop := (t.length + 20 ≤ 3000 ∧ v = 1 ∧ t' = t ++ fdT a b c d e) ∨ (¬ t.length + 20 ≤ 3000 ∧ v = 0 ∧ t' = t)
theorem rTp.ge {G G' : xG_} {t : List Int} (h : rTp G t) (h0 : G' 0 73 = G 0 73) (h1 : ∀ j, G' 240 j = G 240 j) : rTp G' t := ⟨by rw [h0]; exact h.1, h.2.1, h.2.2.ge h1⟩
theorem l_359 {G : xG_} {a b c d e : Int} {t : List Int} (hf : 100 < f) (h : rTp G t) :
    ∃ v G' t', g359 f a b c d e G = some (v, G') ∧ stFe t a b c d e v t' ∧ rTp G' t' ∧ G' 0 74 = 0 ∧ ∀ a j, ¬ (a = 0 ∧ (j = 73 ∨ j = 74)) → a ≠ 240 → G' a j = G a j := by
  have h1 : rTp (xup2 G 0 74 0) t := h.ge (xup2_n (by omega)) (fun j => xup2_n (by omega))
  have hl := h.2.1
  have ew : xwr ((t.length : Int) + 20) = ((t.length + 20 : Nat) : Int) := by rw [xwr_g _ (by omega) (by omega)]; omega
  unfold g359
  rw [Option.bind_some, h1.1, ew]
  by_cases k : t.length + 20 ≤ 3000
  · rw [if_pos (by omega)]
    obtain ⟨G', u1, u2, u3⟩ := l_359_23 (f := f) (a := a) (b := b) (c := c) (d := d) (e := e) k 20 0 f (xup2 G 0 74 0) rfl (by omega) (by rw [List.take_zero, List.append_nil]; exact h1)
    refine ⟨1, G', _, u1, .inl ⟨k, rfl, rfl⟩, u2, ?_, fun x j q1 q2 => by rw [u3 x j (by omega) q2, xup2_n (by omega)]⟩
    rw [u3 _ _ (by omega) (by omega), xup2_s]
  · rw [if_neg (by omega)]
    exact ⟨0, _, t, rfl, .inr ⟨k, rfl, rfl⟩, h1, xup2_s _ _ _ _, fun x j q1 q2 => xup2_n (by omega)⟩
/-- end() -/
def stEn (t : List Int) (k v : Int) (t' : List Int) : Prop := ((0 ≤ k ∧ k ≤ t.length) ∧ v = 1 ∧ t' = t.take k.toNat) ∨ (¬ (0 ≤ k ∧ k ≤ t.length) ∧ v = 0 ∧ t' = t)
theorem l_360 {G : xG_} {k : Int} {t : List Int} (h : rTp G t) :
    ∃ v G' t', g360 f k G = some (v, G') ∧ stEn t k v t' ∧ rTp G' t' ∧ G' 0 74 = 0 ∧ ∀ a j, ¬ (a = 0 ∧ (j = 73 ∨ j = 74)) → G' a j = G a j := by
  have h1 : rTp (xup2 G 0 74 0) t := h.ge (xup2_n (by omega)) (fun j => xup2_n (by omega))
  have hl := h.2.1
  have no : ¬ (0 ≤ k ∧ k ≤ (t.length : Int)) → g360 f k G = some (0, xup2 G 0 74 0) → ∃ v G' t', g360 f k G = some (v, G') ∧ stEn t k v t' ∧ rTp G' t' ∧ G' 0 74 = 0 ∧ ∀ a j, ¬ (a = 0 ∧ (j = 73 ∨ j = 74)) → G' a j = G a j := fun hc he => ⟨0, _, t, he, .inr ⟨hc, rfl, rfl⟩, h1, xup2_s _ _ _ _, fun x j q1 => xup2_n (by omega)⟩
  have e0 : g360 f k G = (if k < 0 then g360_17 f (xup2 G 0 74 0) else (if k ≤ (t.length : Int) then ((some (xup2 (xup2 G 0 74 0) 0 73 k)).bind fun G110 => (some (1, G110))) else g360_17 f (xup2 G 0 74 0))) := by
    unfold g360
    rw [Option.bind_some, h1.1]
  by_cases c1 : k < 0
  · exact no (by omega) (by rw [e0, if_pos c1]; rfl)
  by_cases c2 : k ≤ (t.length : Int)
  · obtain ⟨x, rfl⟩ : ∃ x : Nat, k = (x : Int) := ⟨k.toNat, by omega⟩
    have hx : (t.take x).length = x := by rw [List.length_take]; omega
    refine ⟨1, xup2 (xup2 G 0 74 0) 0 73 (x : Int), t.take x, by rw [e0, if_neg c1, if_pos c2]; rfl, .inl ⟨⟨by omega, c2⟩, rfl, by rw [Int.toNat_natCast]⟩, ⟨by rw [hx]; exact xup2_s _ _ _ _, by omega, ⟨.inr rfl, ?_, fun p hp => ?_⟩, fun p hp => ?_⟩, ?_, fun a j q => by rw [xup2_n (by omega), xup2_n (by omega)]⟩
    · have := h.2.2.1.2.1
      rw [hx]
      omega
    · rw [hx] at hp
      rw [xup2_n (by omega), xup2_n (by omega)]
      exact h.2.2.1.2.2 p (by omega)
    · rw [hx] at hp
      rw [xup2_n (by omega), xup2_n (by omega), getD_tk hp]
      exact h.2.2.2 p (by omega)
    · rw [xup2_n (by omega), xup2_s]
  · exact no (by omega) (by rw [e0, if_neg c1, if_neg c2]; rfl)
end
end
section
/-! merge: what meets -/
/-- facts whose rows named nm are n wide, each with a KEY of its own, k wide -/
def wKf (F : List pFc) (nm : Int) (k n : Nat) : Prop := F.Pairwise fLt ∧ (∀ v, (nm, v) ∈ F → v.length = n) ∧ ∀ v v', (nm, v) ∈ F → (nm, v') ∈ F → v.take k = v'.take k → v = v'
/-- the same row for a KEY, or none in both -/
def eqF (F F' : List pFc) (nm : Int) (k : Nat) (κ : List Int) : Prop := ∀ v, v.take k = κ → ((nm, v) ∈ F ↔ (nm, v) ∈ F')
def mtF (A B Z : List pFc) (nm : Int) (k : Nat) (κ : List Int) : Prop := ¬ eqF A Z nm k κ ∧ ¬ eqF B Z nm k κ ∧ ¬ eqF A B nm k κ
/-- where a KEY stands -/
def isKy (F : List pFc) (nm : Int) (k : Nat) (κ : List Int) (r : Int) : Prop := (r = -1 ∧ ∀ v, (nm, v) ∈ F → v.take k ≠ κ) ∨ ∃ i : Nat, r = (i : Int) ∧ i < F.length ∧ (F.getD i dFc).1 = nm ∧ (F.getD i dFc).2.take k = κ
section
variable {f p k n : Nat} {nm : Int} {G : xG_}
theorem rFa.tk {b i : Nat} {F : List pFc} (hb : isFb b) (h : rFa G b F) (hi : i < F.length) (hk : k ≤ (F.getD i dFc).2.length) : rVe G (b + 2) (4 * i) ((F.getD i dFc).2.take k) := by
  obtain ⟨q1, q2, q3, q4⟩ := h.2.2 i hi
  have hl := h.2.1
  have h13 : ((xl_t (b + 2)).2.2 : Int) = 13600 := by
    unfold isFb at hb
    rcases hb with e | e | e | e | e | e | e <;> (subst e; decide +kernel)
  have hl2 : ((F.getD i dFc).2.take k).length = k := by rw [List.length_take]; omega
  refine ⟨by rw [h13, hl2]; omega, by omega, by omega, fun j hj => ?_⟩
  rw [hl2] at hj
  rw [q4 j (by omega), getD_tk hj]
theorem mem_at {F : List pFc} {i : Nat} (hi : i < F.length) (hn : (F.getD i dFc).1 = nm) : (nm, (F.getD i dFc).2) ∈ F := by
  have : F.getD i dFc ∈ F := by
    rw [getD_e hi]
    exact List.getElem_mem _
  rw [← hn]
  exact this
theorem l_skey {b c i : Nat} {F OF : List pFc} {w : List Int} (hf : 3500 < f) (hb : isFb b) (hc : isFb c) (hF : rFa G b F) (hO : rFa G c OF) (hw : wKf F nm k n) (hkn : k ≤ n) (hi : i < OF.length) (hv : OF.getD i dFc = (nm, w)) (hwl : w.length = n) (hp : p < 16) (h3 : G (2 + 1) p = nm) (h5 : G (2 + 3) p = (k : Int)) : ∀ (d r fu : Nat), r + d = F.length → d < fu → (∀ y, y < r → (F.getD y dFc).1 = nm → (F.getD y dFc).2.take k ≠ w.take k) →
    ∃ x, g323_3 f fu b (p : Int) c (i : Int) (r : Int) G = some (x, G) ∧ isKy F nm k (w.take k) x := by
  have hl := hF.2.1
  have hlO := hO.2.1
  have hO2 : rVe G (c + 2) (4 * i) (w.take k) := by
    have := rFa.tk (k := k) hc hO hi (by rw [hv]; show k ≤ w.length; omega)
    rw [hv] at this
    exact this
  have ei : xwr (4 * (i : Int)) = ((4 * i : Nat) : Int) := by rw [xwr_g _ (by omega) (by omega)]; omega
  intro d
  induction d with
  | zero =>
    intro r fu h1 h2 h6
    obtain ⟨fu, rfl⟩ : ∃ t, fu = t + 1 := ⟨fu - 1, by omega⟩
    refine ⟨-1, ?_, .inl ⟨rfl, fun v hm q => ?_⟩⟩
    · show g323_3b (g323_3 f fu) f _ _ _ _ _ _ = _
      unfold g323_3b
      rw [hF.1, if_pos (by omega)]
    · obtain ⟨y, hy, ey⟩ := List.getElem_of_mem hm
      have e2 : F.getD y dFc = (nm, v) := by rw [getD_e hy]; exact ey
      exact h6 y (by omega) (by rw [e2]) (by rw [e2]; exact q)
  | succ d ih =>
    intro r fu h1 h2 h6
    obtain ⟨fu, rfl⟩ : ∃ t, fu = t + 1 := ⟨fu - 1, by omega⟩
    have hr : r < F.length := by omega
    obtain ⟨q1, q2, q3, q4⟩ := hF.2.2 r hr
    have er : xwr ((r : Int) + 1) = ((r + 1 : Nat) : Int) := by rw [xwr_g _ (by omega) (by omega)]; omega
    have er4 : xwr (4 * (r : Int)) = ((4 * r : Nat) : Int) := by rw [xwr_g _ (by omega) (by omega)]; omega
    have e0 : g323_3 f (fu + 1) b (p : Int) c (i : Int) (r : Int) G = g323_3b (g323_3 f fu) f b (p : Int) c (i : Int) (r : Int) G := rfl
    by_cases cn : (F.getD r dFc).1 = nm
    · have hlen := hw.2.1 _ (mem_at hr cn)
      have hv1 := rFa.tk (k := k) hb hF hr (by omega)
      have hcmp := l_262 (f := f) (n := k) (by omega) hv1 hO2 (by rw [List.length_take]; omega) (by rw [List.length_take]; omega)
      by_cases ck : (F.getD r dFc).2.take k = w.take k
      · refine ⟨(r : Int), ?_, .inr ⟨r, rfl, hr, cn, ck⟩⟩
        rw [e0]
        unfold g323_3b
        rw [hF.1, if_neg (by omega), if_pos (by omega), if_pos (by omega), Int.toNat_natCast, Int.toNat_natCast, q1, h3, if_neg (fun q => q cn), if_pos (by omega), er4, ei, h5, hcmp, Option.bind_some, ck, vCmp_self, if_neg (fun q => q rfl)]
      · obtain ⟨x, u1, u2⟩ := ih (r + 1) fu (by omega) (by omega) (fun y hy => by
          by_cases c : y = r
          · rw [c]; exact fun _ => ck
          · exact h6 y (by omega))
        refine ⟨x, ?_, u2⟩
        have hne : ¬ vCmp ((F.getD r dFc).2.take k) (w.take k) = 0 := fun q => ck (vCmp_eq (by rw [List.length_take, List.length_take]; omega) q)
        rw [e0]
        unfold g323_3b g323_66
        rw [hF.1, if_neg (by omega), if_pos (by omega), if_pos (by omega), Int.toNat_natCast, Int.toNat_natCast, q1, h3, if_neg (fun q => q cn), if_pos (by omega), er4, ei, h5, hcmp, Option.bind_some, if_pos hne, er]
        exact u1
    · obtain ⟨x, u1, u2⟩ := ih (r + 1) fu (by omega) (by omega) (fun y hy hn => by
        by_cases c : y = r
        · rw [c] at hn; exact absurd hn cn
        · exact h6 y (by omega) hn)
      refine ⟨x, ?_, u2⟩
      rw [e0]
      unfold g323_3b g323_66
      rw [hF.1, if_neg (by omega), if_pos (by omega), if_pos (by omega), Int.toNat_natCast, Int.toNat_natCast, q1, h3, if_pos cn, er]
      exact u1
/-- isSame -/
theorem l_same {b c : Nat} {F F' : List pFc} {κ : List Int} {x y : Int} (hf : 20 < f) (hb : isFb b) (hc : isFb c) (hF : rFa G b F) (hF' : rFa G c F') (hw : wKf F nm k n) (hw' : wKf F' nm k n) (hx : isKy F nm k κ x) (hy : isKy F' nm k κ y) : ∃ r : Int, g324 f b x c y G = some (r, G) ∧ (r = 0 ∨ r = 1) ∧ (r = 1 ↔ eqF F F' nm k κ) := by
  have hl := hF.2.1
  have hl' := hF'.2.1
  have e57 : ∀ r : Int, (r = 0 ∨ r = 1) → g324_57 f r G = some (r, G) := fun r hr => by
    unfold g324_57
    rw [if_pos hr]
  rcases hx with ⟨rfl, hx⟩ | ⟨i, rfl, i1, i2, i3⟩
  · rcases hy with ⟨rfl, hy⟩ | ⟨j, rfl, j1, j2, j3⟩
    · refine ⟨1, ?_, .inr rfl, fun _ v hv => ⟨fun q => absurd hv (hx v q), fun q => absurd hv (hy v q)⟩, fun _ => rfl⟩
      unfold g324 g324_11
      rw [if_pos rfl, if_neg (fun q => q rfl), e57 1 (.inr rfl)]
    · refine ⟨0, ?_, .inl rfl, fun q => absurd q (by decide), fun q => ?_⟩
      · unfold g324 g324_11
        rw [if_pos rfl, if_pos (by omega), e57 0 (.inl rfl)]
      · exact absurd j3 (hx _ ((q _ j3).mpr (mem_at j1 j2)))
  · rcases hy with ⟨rfl, hy⟩ | ⟨j, rfl, j1, j2, j3⟩
    · refine ⟨0, ?_, .inl rfl, fun q => absurd q (by decide), fun q => ?_⟩
      · unfold g324 g324_11
        rw [if_neg (by omega), if_neg (fun q => q rfl), if_pos (by omega), e57 0 (.inl rfl)]
      · exact absurd i3 (hy _ ((q _ i3).mp (mem_at i1 i2)))
    · obtain ⟨q1, q2, q3, q4⟩ := hF.2.2 i i1
      have l1 := hw.2.1 _ (mem_at i1 i2)
      have l2 := hw'.2.1 _ (mem_at j1 j2)
      have hn4 : n ≤ 4 := by omega
      have v1 := rFa.tk (k := n) hb hF i1 (by omega)
      have v2 := rFa.tk (k := n) hc hF' j1 (by omega)
      rw [List.take_of_length_le (by omega)] at v1 v2
      have hcmp := l_262 (f := f) (n := n) hf v1 v2 l1 l2
      have ei : xwr (4 * (i : Int)) = ((4 * i : Nat) : Int) := by rw [xwr_g _ (by omega) (by omega)]; omega
      have ej : xwr (4 * (j : Int)) = ((4 * j : Nat) : Int) := by rw [xwr_g _ (by omega) (by omega)]; omega
      have e0 : g324 f b (i : Int) c (j : Int) G = (if ¬ vCmp (F.getD i dFc).2 (F'.getD j dFc).2 = 0 then g324_57 f 0 G else g324_57 f 1 G) := by
        unfold g324
        rw [if_neg (by omega), if_pos (by omega), if_pos (by omega), ei, ej, Int.toNat_natCast, q2, l1, hcmp, Option.bind_some]
      by_cases ce : (F.getD i dFc).2 = (F'.getD j dFc).2
      · refine ⟨1, ?_, .inr rfl, fun _ v hv => ?_, fun _ => rfl⟩
        · rw [e0, ce, vCmp_self, if_neg (fun q => q rfl), e57 1 (.inr rfl)]
        · constructor
          · intro q
            rw [hw.2.2 v _ q (mem_at i1 i2) (by rw [hv, i3]), ce]
            exact mem_at j1 j2
          · intro q
            rw [hw'.2.2 v _ q (mem_at j1 j2) (by rw [hv, j3]), ← ce]
            exact mem_at i1 i2
      · refine ⟨0, ?_, .inl rfl, fun q => absurd q (by decide), fun q => ?_⟩
        · have hne : ¬ vCmp (F.getD i dFc).2 (F'.getD j dFc).2 = 0 := fun q => ce (vCmp_eq (by rw [l1, l2]) q)
          rw [e0, if_pos hne, e57 0 (.inl rfl)]
        · have := (q _ i3).mp (mem_at i1 i2)
          exact absurd (hw'.2.2 _ _ this (mem_at j1 j2) (by rw [i3, j3])) ce
/-- meets -/
theorem l_meets {a b c i : Nat} {A B Z OF : List pFc} {w : List Int} (hf : 3500 < f) (ha : isFb (a + 1)) (hb : isFb (b + 1)) (hc : isFb c) (hA : rFa G (a + 1) A) (hB : rFa G (b + 1) B) (hZ : rFa G 253 Z) (hO : rFa G c OF) (wA : wKf A nm k n) (wB : wKf B nm k n) (wZ : wKf Z nm k n) (hkn : k ≤ n) (hi : i < OF.length) (hv : OF.getD i dFc = (nm, w)) (hwl : w.length = n) (hp : p < 16) (h3 : G (2 + 1) p = nm) (h5 : G (2 + 3) p = (k : Int)) : ∃ r : Int, g325 f a b (p : Int) c (i : Int) G = some (r, G) ∧ (r = 0 ∨ r = 1) ∧ (r = 1 ↔ mtF A B Z nm k (w.take k)) := by
  have h253 : isFb 253 := by unfold isFb; omega
  have hlA := hA.2.1
  have hlB := hB.2.1
  have hlZ := hZ.2.1
  obtain ⟨x, x1, x2⟩ := l_skey (f := f) hf ha hc hA hO wA hkn hi hv hwl hp h3 h5 A.length 0 f (by omega) (by omega) (fun y hy => absurd hy (Nat.not_lt_zero y))
  obtain ⟨y, y1, y2⟩ := l_skey (f := f) hf hb hc hB hO wB hkn hi hv hwl hp h3 h5 B.length 0 f (by omega) (by omega) (fun y hy => absurd hy (Nat.not_lt_zero y))
  obtain ⟨z, z1, z2⟩ := l_skey (f := f) hf h253 hc hZ hO wZ hkn hi hv hwl hp h3 h5 Z.length 0 f (by omega) (by omega) (fun y hy => absurd hy (Nat.not_lt_zero y))
  obtain ⟨r1, a1, a2, a3⟩ := l_same (f := f) (by omega) ha h253 hA hZ wA wZ x2 z2
  obtain ⟨r2, b1, b2, b3⟩ := l_same (f := f) (by omega) hb h253 hB hZ wB wZ y2 z2
  obtain ⟨r3, c1, c2, c3⟩ := l_same (f := f) (by omega) ha hb hA hB wA wB x2 y2
  have x1' : g323 f (a + 1) (p : Int) c (i : Int) G = some (x, G) := x1
  have y1' : g323 f (b + 1) (p : Int) c (i : Int) G = some (y, G) := y1
  have z1' : g323 f 253 (p : Int) c (i : Int) G = some (z, G) := z1
  have e0 : g325 f a b (p : Int) c (i : Int) G = (if ¬ r1 = 0 then g325_106 f G else (if ¬ r2 = 0 then g325_106 f G else (if ¬ r3 = 0 then g325_106 f G else g325_107 f 1 G))) := by
    unfold g325
    rw [x1', Option.bind_some, y1', Option.bind_some, z1', Option.bind_some, a1, Option.bind_some]
    show (if ¬ r1 = 0 then g325_106 f G else Option.bind (g324 f (b + 1) y 253 z G) _) = _
    rw [b1, Option.bind_some]
    show (if ¬ r1 = 0 then g325_106 f G else (if ¬ r2 = 0 then g325_106 f G else Option.bind (g324 f (a + 1) x (b + 1) y G) _)) = _
    rw [c1, Option.bind_some]
  have e106 : g325_106 f G = some (0, G) := by
    unfold g325_106 g325_107
    rw [if_pos (Or.inl rfl)]
  have e107 : g325_107 f 1 G = some (1, G) := by
    unfold g325_107
    rw [if_pos (Or.inr rfl)]
  unfold mtF
  by_cases d1 : r1 = 0
  · have n1 : ¬ eqF A Z nm k (w.take k) := fun q => by rw [a3.mpr q] at d1; exact absurd d1 (by decide)
    by_cases d2 : r2 = 0
    · have n2 : ¬ eqF B Z nm k (w.take k) := fun q => by rw [b3.mpr q] at d2; exact absurd d2 (by decide)
      by_cases d3 : r3 = 0
      · have n3 : ¬ eqF A B nm k (w.take k) := fun q => by rw [c3.mpr q] at d3; exact absurd d3 (by decide)
        exact ⟨1, by rw [e0, if_neg (fun q => q d1), if_neg (fun q => q d2), if_neg (fun q => q d3), e107], .inr rfl, fun _ => ⟨n1, n2, n3⟩, fun _ => rfl⟩
      · refine ⟨0, by rw [e0, if_neg (fun q => q d1), if_neg (fun q => q d2), if_pos d3, e106], .inl rfl, fun q => absurd q (by decide), fun q => absurd (c3.mp (c2.resolve_left d3)) q.2.2⟩
    · refine ⟨0, by rw [e0, if_neg (fun q => q d1), if_pos d2, e106], .inl rfl, fun q => absurd q (by decide), fun q => absurd (b3.mp (b2.resolve_left d2)) q.2.1⟩
  · refine ⟨0, by rw [e0, if_pos d1, e106], .inl rfl, fun q => absurd q (by decide), fun q => absurd (a3.mp (a2.resolve_left d1)) q.1⟩
end
end
section
/-! merge: findMeeting -/
def fLe (a b : pFc) : Prop := a = b ∨ fLt a b
theorem fLe_tr {a b c : pFc} (h1 : fLe a b) (h2 : fLe b c) : fLe a c := by
  rcases h1 with rfl | h1
  · exact h2
  · rcases h2 with rfl | h2
    · exact .inr h1
    · exact .inr (fLt_tr h1 h2)
theorem fLe_at {F : List pFc} (hs : F.Pairwise fLt) {i j : Nat} (hij : i ≤ j) (hj : j < F.length) : fLe (F.getD i dFc) (F.getD j dFc) := by
  by_cases c : i = j
  · rw [c]; exact .inl rfl
  · exact .inr (srt_get hs (by omega) hj)
theorem vCmp_tk : ∀ (k : Nat) (xs ys : List Int), vCmp xs ys < 0 → vCmp (xs.take k) (ys.take k) ≤ 0
  | 0, xs, ys, _ => by
    rw [List.take_zero, List.take_zero]
    exact Int.le_refl _
  | k + 1, [], ys, h => by
    cases ys with
    | nil => exact absurd (show (0 : Int) < 0 from h) (by decide)
    | cons y ys => exact absurd (show (0 : Int) < 0 from h) (by decide)
  | k + 1, x :: xs, [], h => absurd (show (0 : Int) < 0 from h) (by decide)
  | k + 1, x :: xs, y :: ys, h => by
    show (if x = y then vCmp (xs.take k) (ys.take k) else if x < y then -1 else 1) ≤ 0
    have h' : (if x = y then vCmp xs ys else if x < y then -1 else 1) < 0 := h
    by_cases c : x = y
    · rw [if_pos c] at h' ⊢
      exact vCmp_tk k xs ys h'
    · rw [if_neg c] at h' ⊢
      by_cases d : x < y
      · rw [if_pos d]; decide
      · rw [if_neg d] at h'
        exact absurd h' (by decide)
theorem fLe_ky {nm : Int} {v w : List Int} {k : Nat} (hl : v.length = w.length) (h : fLe (nm, v) (nm, w)) : vCmp (v.take k) (w.take k) ≤ 0 := by
  rcases h with h | h
  · have e : v = w := (Prod.mk.inj h).2
    rw [e, vCmp_self]
    exact Int.le_refl _
  · exact vCmp_tk k v w ((vLt_iff hl).mp (fLt_v.mp h))
/-- the least KEY that meets -/
def isMt (A B Z : List pFc) (nm : Int) (k : Nat) (κ : List Int) : Prop := mtF A B Z nm k κ ∧ κ.length = k ∧ ∀ κ', mtF A B Z nm k κ' → vCmp κ κ' ≤ 0
section
variable {f p k n : Nat} {nm : Int}
theorem l_327_293 {c x : Nat} {w : List Int} (hk : k ≤ 4) (hc : c < 257) (hx : x < 3400) : ∀ (d t fu : Nat) (G : xG_), t + d = k → d < fu → G 0 83 = (k : Int) → (∀ j, j < k → G (c + 2) (4 * x + j) = w.getD j 0) → (∀ j, j < t → G 257 j = w.getD j 0) → c + 2 ≠ 257 →
    ∃ G', g327_293 f fu c (x : Int) (t : Int) G = some (1, G') ∧ (∀ j, j < k → G' 257 j = w.getD j 0) ∧ ∀ a j, a ≠ 257 → G' a j = G a j := by
  intro d
  induction d with
  | zero =>
    intro t fu G h1 h2 h3 h4 h5 h6
    obtain ⟨fu, rfl⟩ : ∃ t, fu = t + 1 := ⟨fu - 1, by omega⟩
    refine ⟨G, ?_, fun j hj => h5 j (by omega), fun _ _ _ => rfl⟩
    show g327_293b (g327_293 f fu) f _ _ _ _ = _
    unfold g327_293b
    rw [h3, if_pos (by omega)]
  | succ d ih =>
    intro t fu G h1 h2 h3 h4 h5 h6
    obtain ⟨fu, rfl⟩ : ∃ t, fu = t + 1 := ⟨fu - 1, by omega⟩
    have et : xwr ((t : Int) + 1) = ((t + 1 : Nat) : Int) := by rw [xwr_g _ (by omega) (by omega)]; omega
    have e4 : xwr (xwr (4 * (x : Int)) + (t : Int)) = ((4 * x + t : Nat) : Int) := by rw [xwr_g (4 * (x : Int)) (by omega) (by omega), xwr_g _ (by omega) (by omega)]; omega
    obtain ⟨G', u1, u2, u3⟩ := ih (t + 1) fu (xup2 G 257 t (w.getD t 0)) (by omega) (by omega) (by rw [xup2_n (by omega)]; exact h3) (fun j hj => by rw [xup2_n (by omega)]; exact h4 j hj) (fun j hj => by
      by_cases c : j = t
      · rw [c, xup2_s]
      · rw [xup2_n (by omega)]; exact h5 j (by omega)) h6
    refine ⟨G', ?_, u2, fun a j q => by rw [u3 a j q, xup2_n (by omega)]⟩
    show g327_293b (g327_293 f fu) f _ _ _ _ = _
    unfold g327_293b
    rw [h3, if_neg (by omega), e4, if_pos (by omega), if_pos (by omega), Int.toNat_natCast, Int.toNat_natCast, h4 t (by omega), Option.bind_some, et]
    exact u1
theorem l_327_46 {G : xG_} {a b : Nat} {A B Z : List pFc} {r2 : Nat → Nat → Int → xG_ → Option (Int × xG_)} (hf : 7000 < f) (ha : isFb (a + 1)) (hb : isFb (b + 1)) (hb2 : b + 1 < 243) (hA : rFa G (a + 1) A) (hB : rFa G (b + 1) B) (hZ : rFa G 253 Z) (wA : wKf A nm k n) (wB : wKf B nm k n) (wZ : wKf Z nm k n) (hk1 : 1 ≤ k) (hkn : k ≤ n) (hn4 : n ≤ 4) (hp : p < 16) (h3 : G (2 + 1) p = nm) (h5 : G (2 + 3) p = (k : Int)) : ∀ (d i j fu : Nat), (B.length - i) + (Z.length - j) ≤ d → i ≤ B.length → j ≤ Z.length → d < fu → (∀ y, y < i → (B.getD y dFc).1 = nm → ¬ mtF A B Z nm k ((B.getD y dFc).2.take k)) → (∀ y, y < j → (Z.getD y dFc).1 = nm → (∃ v, (nm, v) ∈ B ∧ v.take k = (Z.getD y dFc).2.take k) ∨ ¬ mtF A B Z nm k ((Z.getD y dFc).2.take k)) →
    (g327_46 r2 f fu a b (p : Int) (i : Int) (j : Int) G = r2 a b ((p + 1 : Nat) : Int) G ∧ ∀ κ, ¬ mtF A B Z nm k κ) ∨ ∃ κ G', g327_46 r2 f fu a b (p : Int) (i : Int) (j : Int) G = some (1, G') ∧ isMt A B Z nm k κ ∧ rMt G' ((p : Int), κ) ∧ ∀ a j, ¬ (a = 0 ∧ (j = 82 ∨ j = 83)) → a ≠ 257 → G' a j = G a j := by
  have h253 : isFb 253 := by unfold isFb; omega
  have hlB := hB.2.1
  have hlZ := hZ.2.1
  intro d
  induction d with
  | zero =>
    intro i j fu h1 h2 h2' h4 hI hJ
    obtain ⟨fu, rfl⟩ : ∃ t, fu = t + 1 := ⟨fu - 1, by omega⟩
    have hi : i = B.length := by omega
    have hj : j = Z.length := by omega
    have ep : xwr ((p : Int) + 1) = ((p + 1 : Nat) : Int) := by rw [xwr_g _ (by omega) (by omega)]; omega
    refine .inl ⟨?_, fun κ hm => ?_⟩
    · show g327_46b r2 (g327_46 r2 f fu) f _ _ _ _ _ _ = _
      unfold g327_46b g327_363
      rw [hB.1, hZ.1, if_neg (by omega), if_pos (by omega), ep]
    · have inB : ∀ v, (nm, v) ∈ B → v.take k = κ → False := fun v hv e => by
        obtain ⟨y, y1, y2⟩ := List.getElem_of_mem hv
        have e2 : B.getD y dFc = (nm, v) := by rw [getD_e y1]; exact y2
        exact hI y (by omega) (by rw [e2]) (by rw [e2]; show mtF A B Z nm k (v.take k); rw [e]; exact hm)
      refine hm.2.1 (fun v hv => ⟨fun q => absurd hv (fun e => inB v q e), fun q => ?_⟩)
      obtain ⟨y, y1, y2⟩ := List.getElem_of_mem q
      have e2 : Z.getD y dFc = (nm, v) := by rw [getD_e y1]; exact y2
      rcases hJ y (by omega) (by rw [e2]) with ⟨u, u1, u2⟩ | u
      · rw [e2] at u2
        have u2' : u.take k = v.take k := u2
        exact absurd (u2'.trans hv) (fun e => inB u u1 e)
      · rw [e2] at u
        have u' : ¬ mtF A B Z nm k (v.take k) := u
        rw [hv] at u'
        exact absurd hm u'
  | succ d ih =>
    intro i j fu h1 h2 h2' h4 hI hJ
    by_cases hend : i = B.length ∧ j = Z.length
    · exact ih i j fu (by omega) h2 h2' (by omega) hI hJ
    obtain ⟨fu, rfl⟩ : ∃ t, fu = t + 1 := ⟨fu - 1, by omega⟩
    have e0 : g327_46 r2 f (fu + 1) a b (p : Int) (i : Int) (j : Int) G = g327_70 r2 (g327_46 r2 f fu) f a b (p : Int) (i : Int) (j : Int) G := by
      show g327_46b r2 (g327_46 r2 f fu) f _ _ _ _ _ _ = _
      unfold g327_46b
      rw [hB.1, hZ.1]
      by_cases c : i < B.length
      · rw [if_pos (by omega)]
      · rw [if_neg (by omega), if_neg (by omega)]
    -- which fact comes next
    obtain ⟨cc, c1, c2⟩ : ∃ cc : Int, g327_70 r2 (g327_46 r2 f fu) f a b (p : Int) (i : Int) (j : Int) G = g327_167 r2 (g327_46 r2 f fu) f a b (p : Int) (i : Int) (j : Int) cc G ∧ ((0 < cc ∧ j < Z.length ∧ (i < B.length → fLt (Z.getD j dFc) (B.getD i dFc))) ∨ (cc ≤ 0 ∧ i < B.length ∧ (j < Z.length → (cc = 0 ∧ B.getD i dFc = Z.getD j dFc) ∨ (cc < 0 ∧ fLt (B.getD i dFc) (Z.getD j dFc))) ∧ (j = Z.length → cc < 0))) := by
      unfold g327_70
      rw [hB.1, hZ.1]
      by_cases ci : i = B.length
      · refine ⟨1, by rw [if_neg (fun q => q (by omega))], .inl ⟨by decide, by omega, fun q => by omega⟩⟩
      · by_cases cj : j = Z.length
        · refine ⟨-1, by rw [if_pos (by omega), if_neg (fun q => q (by omega))], .inr ⟨by decide, by omega, fun q => by omega, fun _ => by decide⟩⟩
        · have hi : i < B.length := by omega
          have hj : j < Z.length := by omega
          obtain ⟨x1, x2, x3, x4⟩ := hB.2.2 i hi
          obtain ⟨y1, y2, y3, y4⟩ := hZ.2.2 j hj
          have vB := rFa.tk (k := (B.getD i dFc).2.length) hb hB hi (Nat.le_refl _)
          have vZ := rFa.tk (k := (Z.getD j dFc).2.length) h253 hZ hj (Nat.le_refl _)
          rw [List.take_length] at vB vZ
          have ei : xwr (4 * (i : Int)) = ((4 * i : Nat) : Int) := by rw [xwr_g _ (by omega) (by omega)]; omega
          have ej : xwr (4 * (j : Int)) = ((4 * j : Nat) : Int) := by rw [xwr_g _ (by omega) (by omega)]; omega
          have hcmp := l_195 (f := f) (u := (B.getD i dFc).1) (v := (Z.getD j dFc).1) (by omega) vB vZ
          refine ⟨fCmp (B.getD i dFc) (Z.getD j dFc), ?_, ?_⟩
          · rw [if_pos (by omega), if_pos (by omega), if_pos (by omega), if_pos (by omega), if_pos (by omega), if_pos (by omega), Int.toNat_natCast, Int.toNat_natCast, x1, x2, y1, y2, ei, ej, hcmp, Option.bind_some]
          · rcases fCmp_in (B.getD i dFc) (Z.getD j dFc) with q | q | q
            · exact .inr ⟨by omega, hi, fun _ => .inr ⟨by omega, by show fCmp _ _ < 0; omega⟩, fun z => absurd z cj⟩
            · exact .inr ⟨by omega, hi, fun _ => .inl ⟨q, fCmp_eq q⟩, fun z => absurd z cj⟩
            · refine .inl ⟨by omega, hj, fun _ => ?_⟩
              show fCmp _ _ < 0
              rw [fCmp_anti]
              omega
    rw [e0, c1]
    -- go on behind it
    have next : ∀ (i' j' : Nat), i ≤ i' → i' ≤ i + 1 → j ≤ j' → j' ≤ j + 1 → i' ≤ B.length → j' ≤ Z.length → (i < i' ∨ j < j') → (∀ y, y < i' → (B.getD y dFc).1 = nm → ¬ mtF A B Z nm k ((B.getD y dFc).2.take k)) → (∀ y, y < j' → (Z.getD y dFc).1 = nm → (∃ v, (nm, v) ∈ B ∧ v.take k = (Z.getD y dFc).2.take k) ∨ ¬ mtF A B Z nm k ((Z.getD y dFc).2.take k)) → ∀ r, r = g327_46 r2 f fu a b (p : Int) (i' : Int) (j' : Int) G → (r = r2 a b ((p + 1 : Nat) : Int) G ∧ ∀ κ, ¬ mtF A B Z nm k κ) ∨ ∃ κ G', r = some (1, G') ∧ isMt A B Z nm k κ ∧ rMt G' ((p : Int), κ) ∧ ∀ a j, ¬ (a = 0 ∧ (j = 82 ∨ j = 83)) → a ≠ 257 → G' a j = G a j := fun i' j' q1 q2 q3 q4 q5 q6 q7 q8 q9 r hr => by
      rw [hr]
      exact ih i' j' fu (by omega) q5 q6 (by omega) q8 q9
    -- found
    have found : ∀ (c x : Nat) (OF : List pFc), (c = b + 1 ∧ OF = B ∨ c = 253 ∧ OF = Z) → rFa G c OF → x < OF.length → (OF.getD x dFc).1 = nm → (∀ y, i ≤ y → y < B.length → fLe (OF.getD x dFc) (B.getD y dFc)) → (∀ y, j ≤ y → y < Z.length → fLe (OF.getD x dFc) (Z.getD y dFc)) → (OF.getD x dFc).2.length = n → mtF A B Z nm k ((OF.getD x dFc).2.take k) → ∀ r, r = ((some (xup2 G (0) 82 (p : Int))).bind fun G120 => (if 0 ≤ (p : Int) ∧ (p : Int) < 16 then ((some (xup2 G120 (0) 83 (G120 (2 + 3) (p : Int).toNat))).bind fun G125 => g327_293 f f c (x : Int) (0) G125) else none)) → ∃ κ G', r = some (1, G') ∧ isMt A B Z nm k κ ∧ rMt G' ((p : Int), κ) ∧ ∀ a j, ¬ (a = 0 ∧ (j = 82 ∨ j = 83)) → a ≠ 257 → G' a j = G a j := fun c x OF hc hO hx hnm hmB hmZ hlen hm r hr => by
      obtain ⟨q1, q2, q3, q4⟩ := hO.2.2 x hx
      have hlO := hO.2.1
      have hc2 : c < 257 ∧ c + 2 ≠ 257 ∧ c ≠ 0 := by
        rcases hc with q | q <;> omega
      obtain ⟨G', u1, u2, u3⟩ := l_327_293 (f := f) (k := k) (c := c) (x := x) (w := (OF.getD x dFc).2) (by omega) hc2.1 (by omega) k 0 f (xup2 (xup2 G 0 82 (p : Int)) 0 83 (k : Int)) (by omega) (by omega) (xup2_s _ _ _ _) (fun t ht => by rw [xup2_n (by omega), xup2_n (by omega)]; exact q4 t (by omega)) (fun t ht => absurd ht (Nat.not_lt_zero t)) hc2.2.1
      have hkl : ((OF.getD x dFc).2.take k).length = k := by rw [List.length_take]; omega
      refine ⟨(OF.getD x dFc).2.take k, G', ?_, ⟨hm, hkl, fun κ' hm' => ?_⟩, ⟨?_, ?_, by rw [hkl]; omega, fun t ht => ?_⟩, fun a j y1 y2 => by rw [u3 a j y2, xup2_n (by omega), xup2_n (by omega)]⟩
      · rw [hr, Option.bind_some, if_pos (by omega), xup2_n (by omega), Int.toNat_natCast, h5, Option.bind_some]
        exact u1
      · -- the least
        have le : ∀ w, w.length = n → fLe (OF.getD x dFc) (nm, w) → w.take k = κ' → vCmp ((OF.getD x dFc).2.take k) κ' ≤ 0 := fun w hw hle e => by
          rw [← e]
          have e2 : OF.getD x dFc = (nm, (OF.getD x dFc).2) := Prod.ext hnm rfl
          rw [e2] at hle
          exact fLe_ky (by rw [hlen, hw]) hle
        have fromB : ∀ v, (nm, v) ∈ B → v.take k = κ' → vCmp ((OF.getD x dFc).2.take k) κ' ≤ 0 := fun v hv e => by
          obtain ⟨y, y1, y2⟩ := List.getElem_of_mem hv
          have e2 : B.getD y dFc = (nm, v) := by rw [getD_e y1]; exact y2
          by_cases cy : y < i
          · exact absurd (by rw [e2]; show mtF A B Z nm k (v.take k); rw [e]; exact hm') (hI y cy (by rw [e2]))
          · have := hmB y (by omega) y1
            rw [e2] at this
            exact le v (wB.2.1 v hv) this e
        by_cases cB : ∃ v, (nm, v) ∈ B ∧ v.take k = κ'
        · obtain ⟨v, v1, v2⟩ := cB
          exact fromB v v1 v2
        · by_cases cZ : ∃ v, (nm, v) ∈ Z ∧ v.take k = κ'
          · obtain ⟨v, v1, v2⟩ := cZ
            obtain ⟨y, y1, y2⟩ := List.getElem_of_mem v1
            have e2 : Z.getD y dFc = (nm, v) := by rw [getD_e y1]; exact y2
            by_cases cy : y < j
            · rcases hJ y cy (by rw [e2]) with ⟨u, u1, u2⟩ | u
              · rw [e2] at u2
                have u2' : u.take k = v.take k := u2
                exact absurd ⟨u, u1, u2'.trans v2⟩ cB
              · rw [e2] at u
                have u' : ¬ mtF A B Z nm k (v.take k) := u
                rw [v2] at u'
                exact absurd hm' u'
            · have := hmZ y (by omega) y1
              rw [e2] at this
              exact le v (wZ.2.1 v v1) this v2
          · exact absurd (fun v hv => ⟨fun q => absurd ⟨v, q, hv⟩ cB, fun q => absurd ⟨v, q, hv⟩ cZ⟩) hm'.2.1
      · rw [u3 _ _ (by omega), xup2_n (by omega), xup2_s]
      · rw [u3 _ _ (by omega), xup2_s, hkl]
      · rw [hkl] at ht
        rw [u2 t ht, getD_tk ht]
    have ei : xwr ((i : Int) + 1) = ((i + 1 : Nat) : Int) := by rw [xwr_g _ (by omega) (by omega)]; omega
    have ei0 : xwr ((i : Int) + 0) = (i : Int) := by rw [xwr_g _ (by omega) (by omega)]; omega
    have ej : xwr ((j : Int) + 1) = ((j + 1 : Nat) : Int) := by rw [xwr_g _ (by omega) (by omega)]; omega
    have ej0 : xwr ((j : Int) + 0) = (j : Int) := by rw [xwr_g _ (by omega) (by omega)]; omega
    rcases c2 with ⟨d1, d2, d3⟩ | ⟨d1, d2, d3, d4⟩
    · -- a fact of the fork
      obtain ⟨q1, q2, q3, q4⟩ := hZ.2.2 j d2
      have e330 : g327_330 r2 (g327_46 r2 f fu) f a b (p : Int) (i : Int) (j : Int) cc G = g327_46 r2 f fu a b (p : Int) (i : Int) ((j + 1 : Nat) : Int) G := by
        unfold g327_330 g327_342 g327_357
        rw [if_pos d1, if_neg (by omega), ei0, ej]
      have hmB : ∀ y, i ≤ y → y < B.length → fLe (Z.getD j dFc) (B.getD y dFc) := fun y y1 y2 => fLe_tr (.inr (d3 (by omega))) (fLe_at wB.1 y1 y2)
      have hmZ : ∀ y, j ≤ y → y < Z.length → fLe (Z.getD j dFc) (Z.getD y dFc) := fun y y1 y2 => fLe_at wZ.1 y1 y2
      have e199 : g327_167 r2 (g327_46 r2 f fu) f a b (p : Int) (i : Int) (j : Int) cc G = g327_199 r2 (g327_46 r2 f fu) f a b (p : Int) (i : Int) (j : Int) cc 253 (j : Int) G := by
        unfold g327_167 g327_185
        rw [if_pos d1, if_pos d1]
      rw [e199]
      by_cases cn : (Z.getD j dFc).1 = nm
      · have hlen := wZ.2.1 _ (mem_at d2 cn)
        obtain ⟨x, x1, x2⟩ := l_skey (f := f) (w := (Z.getD j dFc).2) (by omega) hb h253 hB hZ wB hkn d2 (Prod.ext cn rfl) hlen hp h3 h5 B.length 0 f (by omega) (by omega) (fun y hy => absurd hy (Nat.not_lt_zero y))
        have x1' : g323 f (b + 1) (p : Int) 253 (j : Int) G = some (x, G) := x1
        have e1 : g327_199 r2 (g327_46 r2 f fu) f a b (p : Int) (i : Int) (j : Int) cc 253 (j : Int) G = (if ¬ x = (-1) then g327_250 r2 (g327_46 r2 f fu) f a b (p : Int) (i : Int) (j : Int) cc 253 (j : Int) G else g327_246 r2 (g327_46 r2 f fu) f a b (p : Int) (i : Int) (j : Int) cc 253 (j : Int) G) := by
          unfold g327_199
          rw [if_pos (by omega), if_pos (by omega), Int.toNat_natCast, Int.toNat_natCast, q1, h3, if_neg (fun q => q cn), if_neg (by omega), x1', Option.bind_some]
        rw [e1]
        by_cases cx : x = -1
        · obtain ⟨r, m1, m2, m3⟩ := l_meets (f := f) (w := (Z.getD j dFc).2) (by omega) ha hb h253 hA hB hZ hZ wA wB wZ hkn d2 (Prod.ext cn rfl) hlen hp h3 h5
          have e2 : (if ¬ x = (-1) then g327_250 r2 (g327_46 r2 f fu) f a b (p : Int) (i : Int) (j : Int) cc 253 (j : Int) G else g327_246 r2 (g327_46 r2 f fu) f a b (p : Int) (i : Int) (j : Int) cc 253 (j : Int) G) = (if r = 0 then g327_330 r2 (g327_46 r2 f fu) f a b (p : Int) (i : Int) (j : Int) cc G else ((some (xup2 G (0) 82 (p : Int))).bind fun G120 => (if 0 ≤ (p : Int) ∧ (p : Int) < 16 then ((some (xup2 G120 (0) 83 (G120 (2 + 3) (p : Int).toNat))).bind fun G125 => g327_293 f f 253 (j : Int) (0) G125) else none))) := by
            unfold g327_246 g327_251
            rw [if_neg (fun q => q cx), if_neg (by decide), m1, Option.bind_some]
          rw [e2]
          by_cases cr : r = 0
          · rw [if_pos cr]
            have hno : ¬ mtF A B Z nm k ((Z.getD j dFc).2.take k) := fun q => by rw [m3.mpr q] at cr; exact absurd cr (by decide)
            refine next i (j + 1) (Nat.le_refl _) (by omega) (by omega) (Nat.le_refl _) h2 (by omega) (.inr (by omega)) hI (fun y hy hn => ?_) _ e330
            by_cases cy : y = j
            · rw [cy]; exact .inr hno
            · exact hJ y (by omega) hn
          · rw [if_neg cr]
            exact .inr (found 253 j Z (.inr ⟨rfl, rfl⟩) hZ d2 cn hmB hmZ hlen (m3.mp (m2.resolve_left cr)) _ rfl)
        · have e2 : (if ¬ x = (-1) then g327_250 r2 (g327_46 r2 f fu) f a b (p : Int) (i : Int) (j : Int) cc 253 (j : Int) G else g327_246 r2 (g327_46 r2 f fu) f a b (p : Int) (i : Int) (j : Int) cc 253 (j : Int) G) = g327_330 r2 (g327_46 r2 f fu) f a b (p : Int) (i : Int) (j : Int) cc G := by
            unfold g327_250 g327_251
            rw [if_pos cx, if_pos rfl]
          rw [e2]
          refine next i (j + 1) (Nat.le_refl _) (by omega) (by omega) (Nat.le_refl _) h2 (by omega) (.inr (by omega)) hI (fun y hy hn => ?_) _ e330
          by_cases cy : y = j
          · rw [cy]
            rcases x2 with ⟨z, _⟩ | ⟨u, u1, u2, u3, u4⟩
            · exact absurd z cx
            · exact .inl ⟨_, mem_at u2 u3, u4⟩
          · exact hJ y (by omega) hn
      · have e1 : g327_199 r2 (g327_46 r2 f fu) f a b (p : Int) (i : Int) (j : Int) cc 253 (j : Int) G = g327_330 r2 (g327_46 r2 f fu) f a b (p : Int) (i : Int) (j : Int) cc G := by
          unfold g327_199 g327_250 g327_251
          rw [if_pos (by omega), if_pos (by omega), Int.toNat_natCast, Int.toNat_natCast, q1, h3, if_pos cn, if_pos rfl]
        rw [e1]
        refine next i (j + 1) (Nat.le_refl _) (by omega) (by omega) (Nat.le_refl _) h2 (by omega) (.inr (by omega)) hI (fun y hy hn => ?_) _ e330
        by_cases cy : y = j
        · rw [cy] at hn; exact absurd hn cn
        · exact hJ y (by omega) hn
    · -- a fact of the other line
      obtain ⟨q1, q2, q3, q4⟩ := hB.2.2 i d2
      obtain ⟨j', j1, j2, e330⟩ : ∃ j', (j' = j ∧ cc < 0 ∨ j' = j + 1 ∧ cc = 0 ∧ j < Z.length ∧ B.getD i dFc = Z.getD j dFc) ∧ j' ≤ Z.length ∧ g327_330 r2 (g327_46 r2 f fu) f a b (p : Int) (i : Int) (j : Int) cc G = g327_46 r2 f fu a b (p : Int) ((i + 1 : Nat) : Int) (j' : Int) G := by
        unfold g327_330 g327_342 g327_357
        by_cases cz : cc < 0
        · exact ⟨j, .inl ⟨rfl, cz⟩, h2', by rw [if_neg (by omega), if_pos cz, ei, ej0]⟩
        · have hj : j < Z.length := by
            by_cases q : j = Z.length
            · exact absurd (d4 q) cz
            · omega
          rcases d3 hj with ⟨z1, z2⟩ | ⟨z1, z2⟩
          · exact ⟨j + 1, .inr ⟨rfl, z1, hj, z2⟩, by omega, by rw [if_neg (by omega), if_neg cz, ei, ej]⟩
          · exact absurd z1 cz
      have hle : ∀ y, j ≤ y → y < Z.length → fLe (B.getD i dFc) (Z.getD y dFc) := fun y y1 y2 => by
        rcases d3 (by omega) with ⟨z1, z2⟩ | ⟨z1, z2⟩
        · rw [z2]; exact fLe_at wZ.1 y1 y2
        · exact fLe_tr (.inr z2) (fLe_at wZ.1 y1 y2)
      have e199 : g327_167 r2 (g327_46 r2 f fu) f a b (p : Int) (i : Int) (j : Int) cc G = g327_199 r2 (g327_46 r2 f fu) f a b (p : Int) (i : Int) (j : Int) cc (b + 1) (i : Int) G := by
        unfold g327_167 g327_185
        rw [if_neg (by omega), if_neg (by omega)]
      rw [e199]
      by_cases cn : (B.getD i dFc).1 = nm
      · have hlen := wB.2.1 _ (mem_at d2 cn)
        obtain ⟨r, m1, m2, m3⟩ := l_meets (f := f) (w := (B.getD i dFc).2) (by omega) ha hb hb hA hB hZ hB wA wB wZ hkn d2 (Prod.ext cn rfl) hlen hp h3 h5
        have e2 : g327_199 r2 (g327_46 r2 f fu) f a b (p : Int) (i : Int) (j : Int) cc (b + 1) (i : Int) G = (if r = 0 then g327_330 r2 (g327_46 r2 f fu) f a b (p : Int) (i : Int) (j : Int) cc G else ((some (xup2 G (0) 82 (p : Int))).bind fun G120 => (if 0 ≤ (p : Int) ∧ (p : Int) < 16 then ((some (xup2 G120 (0) 83 (G120 (2 + 3) (p : Int).toNat))).bind fun G125 => g327_293 f f (b + 1) (i : Int) (0) G125) else none))) := by
          unfold g327_199 g327_246 g327_251
          rw [if_pos (by omega), if_pos (by omega), Int.toNat_natCast, Int.toNat_natCast, q1, h3, if_neg (fun q => q cn), if_pos d1, if_neg (by decide), m1, Option.bind_some]
        rw [e2]
        by_cases cr : r = 0
        · rw [if_pos cr]
          have hno : ¬ mtF A B Z nm k ((B.getD i dFc).2.take k) := fun q => by rw [m3.mpr q] at cr; exact absurd cr (by decide)
          refine next (i + 1) j' (by omega) (Nat.le_refl _) (by omega) (by omega) (by omega) j2 (.inl (by omega)) (fun y hy hn => ?_) (fun y hy hn => ?_) _ e330
          · by_cases cy : y = i
            · rw [cy]; exact hno
            · exact hI y (by omega) hn
          · by_cases cy : y < j
            · exact hJ y cy hn
            · rcases j1 with z | ⟨z1, z2, z3, z4⟩
              · omega
              · have : y = j := by omega
                rw [this, ← z4]
                exact .inr hno
        · rw [if_neg cr]
          exact .inr (found (b + 1) i B (.inl ⟨rfl, rfl⟩) hB d2 cn (fun y y1 y2 => fLe_at wB.1 y1 y2) hle hlen (m3.mp (m2.resolve_left cr)) _ rfl)
      · have e1 : g327_199 r2 (g327_46 r2 f fu) f a b (p : Int) (i : Int) (j : Int) cc (b + 1) (i : Int) G = g327_330 r2 (g327_46 r2 f fu) f a b (p : Int) (i : Int) (j : Int) cc G := by
          unfold g327_199 g327_250 g327_251
          rw [if_pos (by omega), if_pos (by omega), Int.toNat_natCast, Int.toNat_natCast, q1, h3, if_pos cn, if_pos rfl]
        rw [e1]
        refine next (i + 1) j' (by omega) (Nat.le_refl _) (by omega) (by omega) (by omega) j2 (.inl (by omega)) (fun y hy hn => ?_) (fun y hy hn => ?_) _ e330
        · by_cases cy : y = i
          · rw [cy] at hn; exact absurd hn cn
          · exact hI y (by omega) hn
        · by_cases cy : y < j
          · exact hJ y cy hn
          · rcases j1 with z | ⟨z1, z2, z3, z4⟩
            · omega
            · have : y = j := by omega
              rw [this, ← z4] at hn
              exact absurd hn cn
end
end
section
/-! merge: differences -/
/-- the facts of nm in F that aren't in F', as CHANGES -/
def dfC (sg nm : Int) (F F' : List pFc) : List pPe := (F.filter (fun y => decide (y.1 = nm ∧ y ∉ F'))).map (fun y => (sg, nm, y.2))
theorem dfC_in {sg nm : Int} {F F' : List pFc} {y : pFc} (h : y.1 = nm ∧ y ∉ F') : dfC sg nm (y :: F) F' = (sg, nm, y.2) :: dfC sg nm F F' := by
  unfold dfC
  rw [List.filter_cons_of_pos (by rw [decide_eq_true_iff]; exact h)]
  rfl
theorem dfC_out {sg nm : Int} {F F' : List pFc} {y : pFc} (h : ¬ (y.1 = nm ∧ y ∉ F')) : dfC sg nm (y :: F) F' = dfC sg nm F F' := by
  unfold dfC
  rw [List.filter_cons_of_neg (by rw [decide_eq_true_iff]; exact h)]
theorem dfC_len {sg nm : Int} {F F' : List pFc} : (dfC sg nm F F').length ≤ F.length := by
  unfold dfC
  rw [List.length_map]
  exact List.length_filter_le _ _
section
variable {f o h p b : Nat} {nm sh : Int}
def shP (sh : Int) (X : List pPe) : List pPe := if sh = 1 then X else []
theorem shP_c (sh : Int) (e : pPe) (X : List pPe) : shP sh (e :: X) = shP sh [e] ++ shP sh X := by
  unfold shP
  split <;> rfl
theorem rFa.q {G G' : xG_} {b : Nat} {F : List pFc} (hF : rFa G b F) (hx : xfq o G G') (hb : b + 3 < o ∨ o + 28 < b ∨ o < b ∧ b + 3 < o + 24) : rFa G' b F := hF.ge (hx _ _ (by omega) (by omega) (by omega) (by omega) (by omega)) (fun a j _ _ => hx _ _ (by omega) (by omega) (by omega) (by omega) (by omega))
/-- one of the two loops: facts F at c, not in F' at c' -/
theorem l_df1 {G : xG_} {c c' i : Nat} {F F' : List pFc} {ps : List pPe} {sg : Int} {K : Int → xG_ → Option (Int × xG_)} {x5 : Nat} (hf : 3500 < f) (hh : h < 4) (ho : o = 123 + 29 * h) (hsh : sh = 0 ∨ sh = 1) (hc : isFb c) (hc' : isFb c') (hco : c + 3 < o ∨ o + 28 < c) (hF : rFa G c F) (hF' : rFa G c' F') (hs' : F'.Pairwise fLt) (hi : i < F.length) (hps : rPe G o ps) (hcap : sh = 1 → ps.length < 400) (hx5 : x5 < 100000) (hn : (F.getD i dFc).1 = nm) :
    ∃ G', ((g322 f c' c (i : Int) G).bind fun R => (if (R.1) = 0 then (if sh = 0 then K (xwr ((x5 : Int) + 1)) R.2 else (if 0 ≤ (i : Int) ∧ (i : Int) < 3400 then (if 0 ≤ (i : Int) ∧ (i : Int) < 3400 then ((g329 f o sg (R.2 (c + 1) (i : Int).toNat) (R.2 (c + 3) (i : Int).toNat) (c + 2) (xwr ((4) * (i : Int))) R.2).bind fun R114 => K (xwr ((x5 : Int) + 1)) R114) else none) else none)) else K (x5 : Int) R.2)) = K ((x5 + (dfC sg nm [F.getD i dFc] F').length : Nat) : Int) G' ∧ rPe G' o (ps ++ shP sh (dfC sg nm [F.getD i dFc] F')) ∧ xfq o G G' := by
  obtain ⟨q1, q2, q3, q4⟩ := hF.2.2 i hi
  have hl := hF.2.1
  have ei : xwr (4 * (i : Int)) = ((4 * i : Nat) : Int) := by rw [xwr_g _ (by omega) (by omega)]; omega
  have e5 : xwr ((x5 : Int) + 1) = ((x5 + 1 : Nat) : Int) := by rw [xwr_g _ (by omega) (by omega)]; omega
  have hv := rFa.tk (k := (F.getD i dFc).2.length) hc hF hi (Nat.le_refl _)
  rw [List.take_length] at hv
  have hhas := l_197 (f := f) (b := c') (x := F.getD i dFc) hf hc' hF' hs' hv
  have e322 : g322 f c' c (i : Int) G = some (if F.getD i dFc ∈ F' then 1 else 0, G) := by
    unfold g322
    rw [if_pos (by omega), if_pos (by omega), Int.toNat_natCast, q1, q2, ei, hhas, Option.bind_some]
    by_cases cm : F.getD i dFc ∈ F'
    · rw [if_pos cm, if_pos (Or.inr rfl)]
    · rw [if_neg cm, if_pos (Or.inl rfl)]
  rw [e322, Option.bind_some]
  by_cases cm : F.getD i dFc ∈ F'
  · have s1 : ¬ ((if F.getD i dFc ∈ F' then (1 : Int) else 0, G) : Int × xG_).1 = 0 := by
      rw [if_pos cm]; show ¬ (1 : Int) = 0; decide
    have e1 : dfC sg nm [F.getD i dFc] F' = [] := dfC_out (fun q => q.2 cm)
    rw [if_neg s1, e1]
    refine ⟨G, rfl, ?_, fun _ _ _ _ _ _ _ => rfl⟩
    unfold shP
    rw [ite_self, List.append_nil]
    exact hps
  · have s1 : ((if F.getD i dFc ∈ F' then (1 : Int) else 0, G) : Int × xG_).1 = 0 := by
      rw [if_neg cm]
    have e1 : dfC sg nm [F.getD i dFc] F' = [(sg, nm, (F.getD i dFc).2)] := dfC_in ⟨hn, cm⟩
    rw [if_pos s1, e1, e5]
    rcases hsh with s | s
    · rw [if_pos s]
      refine ⟨G, rfl, ?_, fun _ _ _ _ _ _ _ => rfl⟩
      unfold shP
      rw [if_neg (by omega), List.append_nil]
      exact hps
    · rw [if_neg (by omega), if_pos (by omega), if_pos (by omega), ei]
      simp only [Int.toNat_natCast]
      rw [q1, q2, hn]
      obtain ⟨G', u1, u2, u3⟩ := l_pend (f := f) (o := o) (sg := sg) (nm := nm) (vs := (F.getD i dFc).2) (m := (F.getD i dFc).2.length) (b := c + 2) (c := 4 * i) (by omega) hh ho hps (hcap s) rfl q3 (by omega) (by omega) (by omega) (by omega) (by omega) hv.1 hv.2.1 (fun k hk => hv.2.2.2 k hk)
      rw [u1, Option.bind_some]
      refine ⟨G', rfl, ?_, u3⟩
      unfold shP
      rw [if_pos s]
      exact u2
theorem l_328_113 {B Z : List pFc} (hf : 3500 < f) (hh : h < 4) (ho : o = 123 + 29 * h) (hsh : sh = 0 ∨ sh = 1) (hb : isFb (b + 1)) (hbo : b + 4 < o ∨ o + 28 < b + 1) (hsZ : Z.Pairwise fLt) (hp : p < 16) : ∀ (d i fu x5 : Nat) (G : xG_) (ps : List pPe), i + d = B.length → d < fu → x5 + d < 100000 → rFa G (b + 1) B → rFa G 253 Z → G (2 + 1) p = nm → rPe G o ps → (sh = 1 → ps.length + (dfC 1 nm (B.drop i) Z).length ≤ 400) →
    ∃ G', g328_113 f fu o b (p : Int) sh (x5 : Int) (i : Int) G = some (((x5 + (dfC 1 nm (B.drop i) Z).length : Nat) : Int), G') ∧ rPe G' o (ps ++ shP sh (dfC 1 nm (B.drop i) Z)) ∧ xfq o G G' := by
  have h253 : isFb 253 := by unfold isFb; omega
  intro d
  induction d with
  | zero =>
    intro i fu x5 G ps h1 h2 h3 h4 h5 h6 h7 h8
    obtain ⟨fu, rfl⟩ : ∃ t, fu = t + 1 := ⟨fu - 1, by omega⟩
    rw [List.drop_eq_nil_of_le (by omega)]
    refine ⟨G, ?_, ?_, fun _ _ _ _ _ _ _ => rfl⟩
    · show g328_113b (g328_113 f fu) f _ _ _ _ _ _ _ = _
      unfold g328_113b
      rw [h4.1, if_pos (by omega)]
      rfl
    · have : shP sh (dfC 1 nm [] Z) = [] := by
        unfold shP
        exact ite_self _
      rw [this, List.append_nil]
      exact h7
  | succ d ih =>
    intro i fu x5 G ps h1 h2 h3 h4 h5 h6 h7 h8
    obtain ⟨fu, rfl⟩ : ∃ t, fu = t + 1 := ⟨fu - 1, by omega⟩
    have hi : i < B.length := by omega
    have hl := h4.2.1
    obtain ⟨q1, q2, q3, q4⟩ := h4.2.2 i hi
    have ei : xwr ((i : Int) + 1) = ((i + 1 : Nat) : Int) := by rw [xwr_g _ (by omega) (by omega)]; omega
    have e0 : g328_113 f (fu + 1) o b (p : Int) sh (x5 : Int) (i : Int) G = g328_113b (g328_113 f fu) f o b (p : Int) sh (x5 : Int) (i : Int) G := rfl
    rw [drop_d (d := dFc) hi] at h8 ⊢
    by_cases cn : (B.getD i dFc).1 = nm
    · by_cases cm : B.getD i dFc ∈ Z
      · -- it lies there too
        have hv := rFa.tk (k := (B.getD i dFc).2.length) hb h4 hi (Nat.le_refl _)
        rw [List.take_length] at hv
        have hhas := l_197 (f := f) (b := 253) (x := B.getD i dFc) hf h253 h5 hsZ hv
        have ei4 : xwr (4 * (i : Int)) = ((4 * i : Nat) : Int) := by rw [xwr_g _ (by omega) (by omega)]; omega
        have e322 : g322 f 253 (b + 1) (i : Int) G = some (1, G) := by
          unfold g322
          rw [if_pos (by omega), if_pos (by omega), Int.toNat_natCast, q1, q2, ei4, hhas, Option.bind_some, if_pos cm, if_pos (Or.inr rfl)]
        rw [dfC_out (fun q => q.2 cm)] at h8 ⊢
        obtain ⟨G', u1, u2, u3⟩ := ih (i + 1) fu x5 G ps (by omega) (by omega) (by omega) h4 h5 h6 h7 h8
        refine ⟨G', ?_, u2, u3⟩
        have n1 : ¬ ((1 : Int), G).1 = 0 := fun q => absurd (show (1 : Int) = 0 from q) (by decide)
        rw [e0]
        unfold g328_113b g328_211
        rw [h4.1, if_neg (by omega), if_pos (by omega), if_pos (by omega), Int.toNat_natCast, Int.toNat_natCast, q1, h6, if_neg (fun q => q cn), e322, Option.bind_some, if_neg n1, ei]
        exact u1
      · have e1 : dfC 1 nm [B.getD i dFc] Z = [(1, nm, (B.getD i dFc).2)] := dfC_in ⟨cn, cm⟩
        rw [dfC_in ⟨cn, cm⟩, List.length_cons] at h8
        rw [dfC_in ⟨cn, cm⟩, List.length_cons, shP_c]
        obtain ⟨G1, v1, v2, v3⟩ := l_df1 (f := f) (o := o) (h := h) (sh := sh) (nm := nm) (c := b + 1) (c' := 253) (i := i) (F := B) (F' := Z) (ps := ps) (sg := 1) (x5 := x5) (G := G) (K := fun v Z => g328_113 f fu o b (p : Int) sh v ((i + 1 : Nat) : Int) Z) hf hh ho hsh hb h253 (by omega) h4 h5 hsZ hi h7 (fun s => by have := h8 s; omega) (by omega) cn
        rw [e1] at v1 v2
        obtain ⟨G', u1, u2, u3⟩ := ih (i + 1) fu (x5 + 1) G1 (ps ++ shP sh [(1, nm, (B.getD i dFc).2)]) (by omega) (by omega) (by omega) (h4.q v3 (by omega)) (h5.q v3 (by omega)) (by rw [v3 _ _ (by omega) (by omega) (by omega) (by omega) (by omega)]; exact h6) v2 (fun s => by
          have := h8 s
          rw [List.length_append]
          unfold shP
          rw [if_pos s]
          show ps.length + 1 + _ ≤ 400
          omega)
        refine ⟨G', ?_, by rw [← List.append_assoc]; exact u2, fun a j z1 z2 z3 z4 z5 => (u3 a j z1 z2 z3 z4 z5).trans (v3 a j z1 z2 z3 z4 z5)⟩
        have e2 : g328_113b (g328_113 f fu) f o b (p : Int) sh (x5 : Int) (i : Int) G = g328_113 f fu o b (p : Int) sh ((x5 + 1 : Nat) : Int) ((i + 1 : Nat) : Int) G1 := by
          refine Eq.trans ?_ v1
          unfold g328_113b g328_211
          rw [h4.1, if_neg (by omega), if_pos (by omega), if_pos (by omega), Int.toNat_natCast, Int.toNat_natCast, q1, h6, if_neg (fun q => q cn), ei]
        rw [e0, e2, u1, show x5 + 1 + (dfC 1 nm (B.drop (i + 1)) Z).length = x5 + ((dfC 1 nm (B.drop (i + 1)) Z).length + 1) by omega]
    · obtain ⟨G', u1, u2, u3⟩ := ih (i + 1) fu x5 G ps (by omega) (by omega) (by omega) h4 h5 h6 h7 (fun s => by have := h8 s; rw [dfC_out (fun q => cn q.1)] at this; exact this)
      rw [dfC_out (fun q => cn q.1)]
      refine ⟨G', ?_, u2, u3⟩
      rw [e0]
      unfold g328_113b g328_211
      rw [h4.1, if_neg (by omega), if_pos (by omega), if_pos (by omega), Int.toNat_natCast, Int.toNat_natCast, q1, h6, if_pos cn, ei]
      exact u1
end
end
section
/-! merge: differences, whole -/
section
variable {f o h p b : Nat} {nm sh : Int}
theorem l_328_6 {B Z : List pFc} (hf : 3500 < f) (hh : h < 4) (ho : o = 123 + 29 * h) (hsh : sh = 0 ∨ sh = 1) (hb : isFb (b + 1)) (hbo : b + 4 < o ∨ o + 28 < b + 1) (hsB : B.Pairwise fLt) (hsZ : Z.Pairwise fLt) (hp : p < 16) : ∀ (d i fu x5 : Nat) (G : xG_) (ps : List pPe), i + d = Z.length → d < fu → x5 + d + B.length < 100000 → rFa G (b + 1) B → rFa G 253 Z → G (2 + 1) p = nm → rPe G o ps → (sh = 1 → ps.length + (dfC (-1) nm (Z.drop i) B).length + (dfC 1 nm B Z).length ≤ 400) →
    ∃ G', g328_6 f fu o b (p : Int) sh (x5 : Int) (i : Int) G = some (((x5 + (dfC (-1) nm (Z.drop i) B).length + (dfC 1 nm B Z).length : Nat) : Int), G') ∧ rPe G' o (ps ++ shP sh (dfC (-1) nm (Z.drop i) B) ++ shP sh (dfC 1 nm B Z)) ∧ xfq o G G' := by
  have h253 : isFb 253 := by unfold isFb; omega
  intro d
  induction d with
  | zero =>
    intro i fu x5 G ps h1 h2 h3 h4 h5 h6 h7 h8
    obtain ⟨fu, rfl⟩ : ∃ t, fu = t + 1 := ⟨fu - 1, by omega⟩
    rw [List.drop_eq_nil_of_le (by omega)] at h8 ⊢
    have hl := h4.2.1
    have e0 : shP sh (dfC (-1) nm [] B) = [] := by
      unfold shP
      exact ite_self _
    obtain ⟨G', u1, u2, u3⟩ := l_328_113 (f := f) (b := b) (nm := nm) (sh := sh) hf hh ho hsh hb hbo hsZ hp B.length 0 f x5 G ps (by omega) (by omega) (by omega) h4 h5 h6 h7 (fun s => by rw [List.drop_zero]; exact h8 s)
    rw [List.drop_zero] at u1 u2
    refine ⟨G', ?_, by rw [e0, List.append_nil]; exact u2, u3⟩
    show g328_6b (g328_6 f fu) f _ _ _ _ _ _ _ = _
    unfold g328_6b
    rw [h5.1, if_pos (by omega)]
    exact u1
  | succ d ih =>
    intro i fu x5 G ps h1 h2 h3 h4 h5 h6 h7 h8
    obtain ⟨fu, rfl⟩ : ∃ t, fu = t + 1 := ⟨fu - 1, by omega⟩
    have hi : i < Z.length := by omega
    have hl := h5.2.1
    obtain ⟨q1, q2, q3, q4⟩ := h5.2.2 i hi
    have ei : xwr ((i : Int) + 1) = ((i + 1 : Nat) : Int) := by rw [xwr_g _ (by omega) (by omega)]; omega
    have e0 : g328_6 f (fu + 1) o b (p : Int) sh (x5 : Int) (i : Int) G = g328_6b (g328_6 f fu) f o b (p : Int) sh (x5 : Int) (i : Int) G := rfl
    rw [drop_d (d := dFc) hi] at h8 ⊢
    by_cases cn : (Z.getD i dFc).1 = nm
    · by_cases cm : Z.getD i dFc ∈ B
      · -- it lies there too
        have hv := rFa.tk (k := (Z.getD i dFc).2.length) h253 h5 hi (Nat.le_refl _)
        rw [List.take_length] at hv
        have hhas := l_197 (f := f) (b := b + 1) (x := Z.getD i dFc) hf hb h4 hsB hv
        have ei4 : xwr (4 * (i : Int)) = ((4 * i : Nat) : Int) := by rw [xwr_g _ (by omega) (by omega)]; omega
        have e322 : g322 f (b + 1) 253 (i : Int) G = some (1, G) := by
          unfold g322
          rw [if_pos (by omega), if_pos (by omega), Int.toNat_natCast, q1, q2, ei4, hhas, Option.bind_some, if_pos cm, if_pos (Or.inr rfl)]
        rw [dfC_out (fun q => q.2 cm)] at h8 ⊢
        obtain ⟨G', u1, u2, u3⟩ := ih (i + 1) fu x5 G ps (by omega) (by omega) (by omega) h4 h5 h6 h7 h8
        refine ⟨G', ?_, u2, u3⟩
        have n1 : ¬ ((1 : Int), G).1 = 0 := fun q => absurd (show (1 : Int) = 0 from q) (by decide)
        rw [e0]
        unfold g328_6b g328_104
        rw [h5.1, if_neg (by omega), if_pos (by omega), if_pos (by omega), Int.toNat_natCast, Int.toNat_natCast, q1, h6, if_neg (fun q => q cn), e322, Option.bind_some, if_neg n1, ei]
        exact u1
      · have e1 : dfC (-1) nm [Z.getD i dFc] B = [(-1, nm, (Z.getD i dFc).2)] := dfC_in ⟨cn, cm⟩
        rw [dfC_in ⟨cn, cm⟩, List.length_cons] at h8
        rw [dfC_in ⟨cn, cm⟩, List.length_cons, shP_c]
        obtain ⟨G1, v1, v2, v3⟩ := l_df1 (f := f) (o := o) (h := h) (sh := sh) (nm := nm) (c := 253) (c' := b + 1) (i := i) (F := Z) (F' := B) (ps := ps) (sg := -1) (x5 := x5) (G := G) (K := fun v Z => g328_6 f fu o b (p : Int) sh v ((i + 1 : Nat) : Int) Z) hf hh ho hsh h253 hb (by omega) h5 h4 hsB hi h7 (fun s => by have := h8 s; omega) (by omega) cn
        rw [e1] at v1 v2
        obtain ⟨G', u1, u2, u3⟩ := ih (i + 1) fu (x5 + 1) G1 (ps ++ shP sh [(-1, nm, (Z.getD i dFc).2)]) (by omega) (by omega) (by omega) (h4.q v3 (by omega)) (h5.q v3 (by omega)) (by rw [v3 _ _ (by omega) (by omega) (by omega) (by omega) (by omega)]; exact h6) v2 (fun s => by
          have := h8 s
          rw [List.length_append]
          unfold shP
          rw [if_pos s]
          show ps.length + 1 + _ + _ ≤ 400
          omega)
        refine ⟨G', ?_, by rw [← List.append_assoc ps]; exact u2, fun a j z1 z2 z3 z4 z5 => (u3 a j z1 z2 z3 z4 z5).trans (v3 a j z1 z2 z3 z4 z5)⟩
        have e2 : g328_6b (g328_6 f fu) f o b (p : Int) sh (x5 : Int) (i : Int) G = g328_6 f fu o b (p : Int) sh ((x5 + 1 : Nat) : Int) ((i + 1 : Nat) : Int) G1 := by
          refine Eq.trans ?_ v1
          unfold g328_6b g328_104
          rw [h5.1, if_neg (by omega), if_pos (by omega), if_pos (by omega), Int.toNat_natCast, Int.toNat_natCast, q1, h6, if_neg (fun q => q cn), ei]
        rw [e0, e2, u1, show x5 + 1 + (dfC (-1) nm (Z.drop (i + 1)) B).length = x5 + ((dfC (-1) nm (Z.drop (i + 1)) B).length + 1) by omega]
    · obtain ⟨G', u1, u2, u3⟩ := ih (i + 1) fu x5 G ps (by omega) (by omega) (by omega) h4 h5 h6 h7 (fun s => by have := h8 s; rw [dfC_out (fun q => cn q.1)] at this; exact this)
      rw [dfC_out (fun q => cn q.1)]
      refine ⟨G', ?_, u2, u3⟩
      rw [e0]
      unfold g328_6b g328_104
      rw [h5.1, if_neg (by omega), if_pos (by omega), if_pos (by omega), Int.toNat_natCast, Int.toNat_natCast, q1, h6, if_pos cn, ei]
      exact u1
theorem l_328 {G : xG_} {B Z : List pFc} {ps : List pPe} (hf : 3500 < f) (hh : h < 4) (ho : o = 123 + 29 * h) (hsh : sh = 0 ∨ sh = 1) (hb : isFb (b + 1)) (hbo : b + 4 < o ∨ o + 28 < b + 1) (hsB : B.Pairwise fLt) (hsZ : Z.Pairwise fLt) (hp : p < 16) (hB : rFa G (b + 1) B) (hZ : rFa G 253 Z) (h3 : G (2 + 1) p = nm) (hps : rPe G o ps) (hcap : sh = 1 → ps.length + (dfC (-1) nm Z B ++ dfC 1 nm B Z).length ≤ 400) :
    ∃ G', g328 f o b (p : Int) sh G = some (((dfC (-1) nm Z B ++ dfC 1 nm B Z).length : Int), G') ∧ rPe G' o (ps ++ shP sh (dfC (-1) nm Z B ++ dfC 1 nm B Z)) ∧ xfq o G G' := by
  have h1 := hB.2.1
  have h2 := hZ.2.1
  obtain ⟨G', u1, u2, u3⟩ := l_328_6 (f := f) (b := b) (nm := nm) (sh := sh) hf hh ho hsh hb hbo hsB hsZ hp Z.length 0 f 0 G ps (by omega) (by omega) (by omega) hB hZ h3 hps (fun s => by
    have := hcap s
    rw [List.length_append] at this
    rw [List.drop_zero]
    omega)
  rw [List.drop_zero] at u1 u2
  refine ⟨G', ?_, ?_, u3⟩
  · rw [List.length_append, show (dfC (-1) nm Z B).length + (dfC 1 nm B Z).length = 0 + (dfC (-1) nm Z B).length + (dfC 1 nm B Z).length by omega]
    exact u1
  · have : shP sh (dfC (-1) nm Z B ++ dfC 1 nm B Z) = shP sh (dfC (-1) nm Z B) ++ shP sh (dfC 1 nm B Z) := by
      unfold shP
      split <;> rfl
    rw [this, ← List.append_assoc]
    exact u2
end
end
