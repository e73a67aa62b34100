/-! past(), pastValue() -/
theorem fLt_1 {a b : pFc} (h : fLt a b) : a.1 ≤ b.1 := by
  unfold fLt fCmp at h
  by_cases c : a.1 = b.1
  · omega
  · rw [if_neg c] at h
    by_cases d : a.1 < b.1
    · omega
    · rw [if_neg d] at h; omega
theorem fLt_n {a b : pFc} (h : a.1 < b.1) : fLt a b := by
  unfold fLt fCmp
  rw [if_neg (by omega), if_pos h]
  decide
theorem fLt_v {x : Int} {a b : List Int} : fLt (x, a) (x, b) ↔ vLt a b := by
  unfold vLt fLt fCmp
  rw [if_pos (show (x, a).1 = (x, b).1 from rfl), if_pos (show ((0 : Int), a).1 = ((0 : Int), b).1 from rfl)]
section
variable {s : pPg} {M : Nat → List pRw} {F : List pFc}
/-- the facts of p are its rows -/
theorem fa_rows (hok : qOk s) (hM : qTb s M) (h : qFa s M F) {p : Nat} (hp : p < s.1.length) : F.filter (fun y => decide (y.1 = qNm s p)) = (M p).map (fun w => (qNm s p, w.1)) := by
  refine srt_ext fLt_irr (fun _ _ _ => fLt_tr) _ _ (h.1.filter _) ?_ (fun y => ?_)
  · refine List.pairwise_map.mpr ((hM p hp).2.1.imp (fun {a b} q => ?_))
    exact fLt_v.mpr q
  · rw [List.mem_filter, decide_eq_true_iff, h.2 y, List.mem_map]
    constructor
    · rintro ⟨⟨p', a1, a2, w, a3, a4⟩, b⟩
      have := nm_inj hok a1 hp (by rw [← a2, b])
      subst this
      exact ⟨w, a3, Prod.ext a2.symm a4⟩
    · rintro ⟨w, a1, a2⟩
      rw [← a2]
      exact ⟨⟨p, hp, rfl, w, a1, rfl⟩, rfl⟩
theorem fa_blk (hs : F.Pairwise fLt) (x : Int) : F = F.filter (fun y => decide (y.1 < x)) ++ (F.filter (fun y => decide (y.1 = x)) ++ F.filter (fun y => decide (x < y.1))) := by
  refine srt_ext fLt_irr (fun _ _ _ => fLt_tr) _ _ hs ?_ (fun y => ?_)
  · refine List.pairwise_append.mpr ⟨hs.filter _, List.pairwise_append.mpr ⟨hs.filter _, hs.filter _, fun a ha b hb => ?_⟩, fun a ha b hb => ?_⟩
    · have h1 := of_decide_eq_true (List.mem_filter.mp ha).2
      have h2 := of_decide_eq_true (List.mem_filter.mp hb).2
      exact fLt_n (by omega)
    · have h1 := of_decide_eq_true (List.mem_filter.mp ha).2
      rcases List.mem_append.mp hb with q | q
      · have h2 := of_decide_eq_true (List.mem_filter.mp q).2
        exact fLt_n (by omega)
      · have h2 := of_decide_eq_true (List.mem_filter.mp q).2
        exact fLt_n (by omega)
  · rw [List.mem_append, List.mem_append, List.mem_filter, List.mem_filter, List.mem_filter, decide_eq_true_iff, decide_eq_true_iff, decide_eq_true_iff]
    constructor
    · intro h
      rcases Int.lt_trichotomy y.1 x with q | q | q
      · exact .inl ⟨h, q⟩
      · exact .inr (.inl ⟨h, q⟩)
      · exact .inr (.inr ⟨h, q⟩)
    · rintro (h | h | h) <;> exact h.1
/-- where the facts of p stand -/
theorem fa_at (hok : qOk s) (hM : qTb s M) (h : qFa s M F) {p : Nat} (hp : p < s.1.length) : ∃ k, k + (M p).length ≤ F.length ∧ (∀ i, i < k → (F.getD i dFc).1 ≠ qNm s p) ∧ (∀ i, i < (M p).length → F.getD (k + i) dFc = (qNm s p, ((M p).getD i dRw).1)) := by
  have e := fa_blk h.1 (qNm s p)
  rw [fa_rows hok hM h hp] at e
  refine ⟨(F.filter (fun y => decide (y.1 < qNm s p))).length, ?_, fun i hi => ?_, fun i hi => ?_⟩
  · have := congrArg List.length e
    simp only [List.length_append, List.length_map] at this
    omega
  · rw [e, getD_app _ hi, getD_e hi]
    have := of_decide_eq_true (List.mem_filter.mp (List.getElem_mem hi)).2
    omega
  · have hi' : i < ((M p).map (fun w => (qNm s p, w.1))).length := by rw [List.length_map]; exact hi
    have e2 : F.getD ((F.filter (fun y => decide (y.1 < qNm s p))).length + i) dFc = ((M p).map (fun w => (qNm s p, w.1))).getD i dFc := by
      exact (congrArg (fun l => l.getD ((F.filter (fun y => decide (y.1 < qNm s p))).length + i) dFc) e).trans ((getD_apr _ i).trans (getD_app _ hi'))
    rw [e2, getD_e hi', List.getElem_map, getD_e hi]
/-- all facts of a predicate are as wide as its rows -/
theorem fa_w (hok : qOk s) (hM : qTb s M) (h : qFa s M F) {p : Nat} (hp : p < s.1.length) {y : pFc} (hy : y ∈ F) (hn : y.1 = qNm s p) : y.2.length = qN s p := by
  obtain ⟨p', a1, a2, w, a3, a4⟩ := (h.2 y).mp hy
  have := nm_inj hok a1 hp (by rw [← a2, hn])
  subst this
  rw [← a4]
  exact ((hM p' a1).2.2 w a3).1
end
section
variable {f m n hr : Nat} {T : List (List Int)} {lns : Nat → sLn}
theorem rHb.ge {G G' : xG_} (h : rHb G T m lns hr n) (h0 : ∀ j, 12 ≤ j ∧ j ≤ 20 ∨ 62 ≤ j ∧ j ≤ 66 ∨ 71 ≤ j ∧ j ≤ 72 → G' 0 j = G 0 j) (h1 : ∀ a j, 2 ≤ a → a ≤ 36 → G' a j = G a j) (h2 : ∀ a j, 107 ≤ a → a ≤ 109 → G' a j = G a j) (h3 : ∀ a j, 123 ≤ a → a ≤ 242 → a ≠ 240 → G' a j = G a j) : rHb G' T m lns hr n := by
  have hc := h.c
  obtain ⟨a1, a2, a3, a4, a5, a6, a7, a8, a9⟩ := h
  exact rHb.of (hc.ge (fun j q => h0 j (by omega)) h3) (by rw [h0 _ (by omega)]; exact a3) a4 (by rw [h0 _ (by omega)]; exact a6) (by rw [h0 _ (by omega)]; exact a7) (by rw [h0 _ (by omega), h0 _ (by omega)]; exact a8) (a9.ge (fun j _ _ => h0 _ (by omega)) h1 h2)
section
variable {s : pPg} {M : Nat → List pRw} {F : List pFc} {G : xG_}
theorem l_319 {q c p i : Nat} (hok : qOk s) (hM : qTb s M) (hF : qFa s M F) (hP : rPr G 37 q c s) (hPn : rPn G 37 s) (hfa : rFa G 253 F) (hp : p < s.1.length) (hi : i < F.length) : g319 f (p : Int) (i : Int) G = some (if (F.getD i dFc).1 = qNm s p then 1 else 0, G) := by
  have hnp := hok.1.1
  have hl := hfa.2.1
  obtain ⟨q1, q2, q3, q4⟩ := hfa.2.2 i hi
  have g38 : G (37 + 1) p = qNm s p := hP.1.2.2 p hp
  have g39 : G (37 + 2) p = (qN s p : Int) := by
    have := hPn p hp
    have h2 := (pNn_in hok.1 (p : Int)).1
    unfold qN
    rw [this]
    omega
  unfold g319 g319_47 g319_48
  rw [if_pos (by omega), if_pos (by omega), Int.toNat_natCast, Int.toNat_natCast, q1, g38, if_pos (Or.inl rfl), if_pos (Or.inr rfl)]
  by_cases c : (F.getD i dFc).1 = qNm s p
  · have hm : F.getD i dFc ∈ F := by
      rw [getD_e hi]
      exact List.getElem_mem _
    have := fa_w hok hM hF hp hm c
    rw [if_neg (fun q => q c), if_pos (by omega), if_pos (by omega), q2, g39, if_neg (fun q => q (by rw [this])), if_pos c]
  · rw [if_pos c, if_neg c]
theorem l_318_63 {q c p : Nat} (hok : qOk s) (hM : qTb s M) (hF : qFa s M F) (hP : rPr G 37 q c s) (hPn : rPn G 37 s) (hfa : rFa G 253 F) (hp : p < s.1.length) : ∀ (d i fu cnt : Nat), i + d = F.length → d < fu → cnt ≤ i → g318_63 f fu (p : Int) (cnt : Int) (i : Int) G = some (((cnt + ((F.drop i).filter (fun y => decide (y.1 = qNm s p))).length : Nat) : Int), G) := by
  have hl := hfa.2.1
  intro d
  induction d with
  | zero =>
    intro i fu cnt h1 h2 h3
    obtain ⟨fu, rfl⟩ : ∃ t, fu = t + 1 := ⟨fu - 1, by omega⟩
    rw [List.drop_eq_nil_of_le (by omega)]
    show g318_63b (g318_63 f fu) f _ _ _ _ = _
    unfold g318_63b
    rw [hfa.1, if_pos (by omega)]
    rfl
  | succ d ih =>
    intro i fu cnt h1 h2 h3
    obtain ⟨fu, rfl⟩ : ∃ t, fu = t + 1 := ⟨fu - 1, by omega⟩
    have hi : i < F.length := by omega
    have e : xwr ((i : Int) + 1) = ((i + 1 : Nat) : Int) := by rw [xwr_g _ (by omega) (by omega)]; omega
    have e0 : xwr ((cnt : Int) + 0) = (cnt : Int) := by rw [xwr_g _ (by omega) (by omega)]; omega
    have e1 : xwr ((cnt : Int) + 1) = ((cnt + 1 : Nat) : Int) := by rw [xwr_g _ (by omega) (by omega)]; omega
    rw [drop_d (d := dFc) hi]
    show g318_63b (g318_63 f fu) f _ _ _ _ = _
    unfold g318_63b g318_92
    rw [hfa.1, if_neg (by omega), l_319 hok hM hF hP hPn hfa hp hi, Option.bind_some]
    by_cases c : (F.getD i dFc).1 = qNm s p
    · have s1 : ¬ ((if (F.getD i dFc).1 = qNm s p then (1 : Int) else 0, G) : Int × xG_).1 = 0 := by
        rw [if_pos c]; show ¬ (1 : Int) = 0; decide
      rw [if_neg s1, e1, e, ih (i + 1) fu (cnt + 1) (by omega) (by omega) (by omega), List.filter_cons_of_pos (by rw [decide_eq_true_iff]; exact c), List.length_cons]
      congr 3
      omega
    · have s1 : ((if (F.getD i dFc).1 = qNm s p then (1 : Int) else 0, G) : Int × xG_).1 = 0 := by
        rw [if_neg c]
      rw [if_pos s1, e0, e, ih (i + 1) fu cnt (by omega) (by omega) (by omega), List.filter_cons_of_neg (by rw [decide_eq_true_iff]; exact c)]
theorem l_320_52 {q c p i col k : Nat} (hok : qOk s) (hM : qTb s M) (hF : qFa s M F) (hP : rPr G 37 q c s) (hPn : rPn G 37 s) (hfa : rFa G 253 F) (hp : p < s.1.length) (hk1 : k + (M p).length ≤ F.length) (hk2 : ∀ i, i < k → (F.getD i dFc).1 ≠ qNm s p) (hk3 : ∀ i, i < (M p).length → F.getD (k + i) dFc = (qNm s p, ((M p).getD i dRw).1)) (hi : i < (M p).length) (hcol : col < 4) : ∀ (d x fu : Nat), x + d = k → d < fu → g320_52 f fu (p : Int) (i : Int) (col : Int) (x : Int) G = some (((M p).getD i dRw).1.getD col 0, G) := by
  have hl := hfa.2.1
  intro d
  induction d with
  | zero =>
    intro x fu h1 h2
    obtain ⟨fu, rfl⟩ : ∃ t, fu = t + 1 := ⟨fu - 1, by omega⟩
    have hx : x = k := by omega
    subst hx
    have h0 : (F.getD x dFc).1 = qNm s p := by
      have := hk3 0 (by omega)
      rw [Nat.add_zero] at this
      rw [this]
    have s1 : ¬ ((if (F.getD x dFc).1 = qNm s p then (1 : Int) else 0, G) : Int × xG_).1 = 0 := by
      rw [if_pos h0]; show ¬ (1 : Int) = 0; decide
    have e : xwr (xwr (4 * xwr ((x : Int) + (i : Int))) + (col : Int)) = ((4 * (x + i) + col : Nat) : Int) := by
      rw [xwr_g ((x : Int) + (i : Int)) (by omega) (by omega), xwr_g (4 * ((x : Int) + (i : Int))) (by omega) (by omega), xwr_g _ (by omega) (by omega)]
      omega
    have h3 := hk3 i hi
    have h4 := (hfa.2.2 (x + i) (by omega)).2.2.2 col hcol
    rw [h3] at h4
    show g320_52b (g320_52 f fu) f _ _ _ _ _ = _
    unfold g320_52b
    rw [l_319 hok hM hF hP hPn hfa hp (by omega), Option.bind_some, if_pos s1, e, if_pos (by omega), Int.toNat_natCast]
    show some (G (253 + 2) (4 * (x + i) + col), G) = _
    rw [h4]
  | succ d ih =>
    intro x fu h1 h2
    obtain ⟨fu, rfl⟩ : ∃ t, fu = t + 1 := ⟨fu - 1, by omega⟩
    have e : xwr ((x : Int) + 1) = ((x + 1 : Nat) : Int) := by rw [xwr_g _ (by omega) (by omega)]; omega
    have s1 : ¬ ¬ ((if (F.getD x dFc).1 = qNm s p then (1 : Int) else 0, G) : Int × xG_).1 = 0 := by
      rw [if_neg (hk2 x (by omega))]; exact fun q => q rfl
    show g320_52b (g320_52 f fu) f _ _ _ _ _ = _
    unfold g320_52b
    rw [l_319 hok hM hF hP hPn hfa hp (by omega), Option.bind_some, if_neg s1, e]
    exact ih (x + 1) fu (by omega) (by omega)
end
/-- past() -/
def stPa (T : List (List Int)) (ln : sLn) (r p v : Int) : Prop :=
  (∃ (i : Nat) (s : pPg) (M : Nat → List pRw), i ≤ ln.2.1.2.1 ∧ r = ((ln.2.1.1 + i : Nat) : Int) ∧ isMo T (ln.1 (ln.2.1.1 + i)) s M ∧ (0 ≤ p ∧ p < s.1.length ∧ v = ((M p.toNat).length : Int) ∨ ¬ (0 ≤ p ∧ p < s.1.length) ∧ v = -1)) ∨ (¬ ((ln.2.1.1 : Int) ≤ r ∧ r ≤ ((ln.2.1.1 + ln.2.1.2.1 : Nat) : Int)) ∧ v = -1)
/-- what past leaves behind: the program and the facts of the round -/
theorem l_318 {G : xG_} {r p : Int} (hf : 1000100 < f) (hn : n < 900) (h : rHb G T m lns hr n) :
    ∃ v G', g318 f r p G = some (v, G') ∧ stPa T (lns hr) r p v ∧ rHb G' T m lns hr n ∧ G' 0 74 = 0 ∧ G' 0 63 = G 0 63 ∧ xfHo G G' ∧ (v ≠ -1 → ∃ (i : Nat) (s : pPg) (M : Nat → List pRw) (q c : Nat), i ≤ (lns hr).2.1.2.1 ∧ r = (((lns hr).2.1.1 + i : Nat) : Int) ∧ isMo T ((lns hr).1 ((lns hr).2.1.1 + i)) s M ∧ rPr G' 37 q c s ∧ rPn G' 37 s ∧ rFa G' 253 ((lns hr).1 ((lns hr).2.1.1 + i)).2.1 ∧ 0 ≤ p ∧ p < s.1.length ∧ v = ((M p.toNat).length : Int)) := by
  have h0 := h.u74 (v := 0)
  have hh := h
  obtain ⟨a1, a2, a3, a4, a5, a6, a7, a8, a9⟩ := h
  obtain ⟨s0, M0, b1, b2, b3⟩ := a5 hr a4
  let o := 123 + 29 * hr
  have hoo : o = 123 + 29 * hr := rfl
  let G1 := xup2 G 0 74 0
  have z1 : ∀ a j, ¬ (a = 0 ∧ j = 74) → G1 a j = G a j := fun a j q => xup2_n (by omega)
  have hpast := l_310 (f := f) (o := o) (G := G1) (b := (lns hr).2.1.1) (k := (lns hr).2.1.2.1) (r := r) (by rw [z1 _ _ (by omega)]; exact b2.2.1.2.2.1) (by rw [z1 _ _ (by omega)]; exact b2.2.1.2.1)
  have e0 : g318 f r p G = ((g310 f o r G1).bind fun R113 => (if ¬ (R113.1) = 0 then ((g311 f o r (253) R113.2).bind fun R119 => ((g300 f (R119.1) R119.2).bind fun R124 => (if p < 0 then g318_55 f R124 else (if p < (R124 (37) 8) then g318_63 f f p (0) (0) R124 else g318_55 f R124)))) else (some (-1, R113.2)))) := by
    unfold g318
    rw [Option.bind_some, xup2_n (by omega), a3, if_pos (by omega), Int.toNat_natCast]
  rw [e0, hpast, Option.bind_some]
  by_cases c : ((lns hr).2.1.1 : Int) ≤ r ∧ r ≤ (((lns hr).2.1.1 + (lns hr).2.1.2.1 : Nat) : Int)
  · obtain ⟨i, hi⟩ : ∃ i : Nat, r = (((lns hr).2.1.1 + i : Nat) : Int) := ⟨(r - (lns hr).2.1.1).toNat, by omega⟩
    have hik : i ≤ (lns hr).2.1.2.1 := by omega
    obtain ⟨k', hk'⟩ : ∃ k', (lns hr).2.1.2.1 = i + k' := ⟨(lns hr).2.1.2.1 - i, by omega⟩
    have n1 : ¬ ((if ((lns hr).2.1.1 : Int) ≤ r ∧ r ≤ (((lns hr).2.1.1 + (lns hr).2.1.2.1 : Nat) : Int) then (1 : Int) else 0, G1) : Int × xG_).1 = 0 := by
      rw [if_pos c]; show ¬ (1 : Int) = 0; decide
    rw [if_pos n1]
    simp only []
    have hst := b3.2.1
    have hfc := b3.fc
    have r1 := b2.1
    have r2 := b2.2.1.1
    have r6 := b2.2.2.1
    rw [hk'] at hst hfc r1 r2 r6
    obtain ⟨G2, u1, u2, u3⟩ := l_311 (f := f) (o := o) (h := hr) (G := G1) (H := (lns hr).1) (b := (lns hr).2.1.1) (i := i) (k := k') (by omega) a4 rfl (r1.ge' (fun a j _ _ => z1 _ _ (by omega))) hst hfc (by rw [z1 _ _ (by omega)]; exact r2) (r6.ge (z1 _ _ (by omega)) (fun a j _ _ => z1 _ _ (by omega)))
    have z2 : ∀ a j, ¬ (a = 0 ∧ j = 74) → ¬ (253 ≤ a ∧ a ≤ 256) → G2 a j = G a j := fun a j q1 q2 => by rw [u3 a j (by omega) (by omega) (by omega) (by omega), z1 a j q1]
    obtain ⟨s, M, hsM⟩ := b3.1 ((lns hr).2.1.1 + i) (by omega) (by omega)
    have hsM' := hsM
    obtain ⟨c1, c2, c3, c4, c5, c6, c7⟩ := hsM
    obtain ⟨G3, q, c', v1, v2, v3, v4⟩ := l_300 (f := f) (G := G2) (T := T) (m := m) (e := ((lns hr).1 ((lns hr).2.1.1 + i)).1) (so := s) (by omega) (a1.ge (fun j _ _ => z2 _ _ (by omega) (by omega))) (a2.ge (z2 _ _ (by omega) (by omega)) (z2 _ _ (by omega) (by omega)) (fun a j _ => z2 _ _ (by omega) (by omega))) c1 c2
    have z3 : ∀ a j, ¬ (a = 0 ∧ (j ≤ 11 ∨ 21 ≤ j ∧ j ≤ 27 ∨ j = 74)) → a ≠ 1 → ¬ (37 ≤ a ∧ a ≤ 71) → ¬ (253 ≤ a ∧ a ≤ 256) → G3 a j = G a j := fun a j q1 q2 q3 q4 => by rw [v4 a j (by omega) q2 q3, z2 a j (by omega) q4]
    have hfa3 : rFa G3 253 ((lns hr).1 ((lns hr).2.1.1 + i)).2.1 := u2.ge (v4 _ _ (by omega) (by omega) (by omega)) (fun a j _ _ => v4 _ _ (by omega) (by omega) (by omega))
    have hH3 : rHb G3 T m lns hr n := hh.ge (fun j q => z3 _ _ (by omega) (by omega) (by omega) (by omega)) (fun a j _ _ => z3 _ _ (by omega) (by omega) (by omega) (by omega)) (fun a j _ _ => z3 _ _ (by omega) (by omega) (by omega) (by omega)) (fun a j _ _ _ => z3 _ _ (by omega) (by omega) (by omega) (by omega))
    have y74 : G3 0 74 = 0 := by rw [v4 _ _ (by omega) (by omega) (by omega), u3 _ _ (by omega) (by omega) (by omega) (by omega)]; exact xup2_s _ _ _ _
    have y63 : G3 0 63 = G 0 63 := z3 _ _ (by omega) (by omega) (by omega) (by omega)
    have yfr : xfHo G G3 := fun a j q1 q2 q3 q4 q5 => z3 _ _ (by omega) (by omega) (by omega) (by omega)
    rw [hi, u1, Option.bind_some]
    show ∃ v G', (g300 f (((lns hr).1 ((lns hr).2.1.1 + i)).1 : Int) G2).bind _ = some (v, G') ∧ _
    rw [v1, Option.bind_some, v2.1.1]
    by_cases d : 0 ≤ p ∧ p < (s.1.length : Int)
    · obtain ⟨x, rfl⟩ : ∃ x : Nat, p = (x : Int) := ⟨p.toNat, by omega⟩
      have hx : x < s.1.length := by omega
      have hcnt := l_318_63 (f := f) c3 c5.1.1 c6 v2 v3 hfa3 hx ((lns hr).1 ((lns hr).2.1.1 + i)).2.1.length 0 f 0 (by omega) (by have := u2.2.1; omega) (Nat.le_refl _)
      rw [List.drop_zero, fa_rows c3 c5.1.1 c6 hx, List.length_map, Nat.zero_add] at hcnt
      rw [if_neg (by omega), if_pos d.2]
      refine ⟨((M x).length : Int), G3, hcnt, .inl ⟨i, s, M, hik, rfl, hsM', .inl ⟨d.1, d.2, rfl⟩⟩, hH3, y74, y63, yfr, fun _ => ⟨i, s, M, q, c', hik, rfl, hsM', v2, v3, hfa3, d.1, d.2, rfl⟩⟩
    · refine ⟨-1, G3, ?_, .inl ⟨i, s, M, hik, rfl, hsM', .inr ⟨d, rfl⟩⟩, hH3, y74, y63, yfr, fun q => absurd rfl q⟩
      by_cases d1 : p < 0
      · rw [if_pos d1]; rfl
      · rw [if_neg d1, if_neg (by omega)]; rfl
  · have n1 : ¬ ¬ ((if ((lns hr).2.1.1 : Int) ≤ r ∧ r ≤ (((lns hr).2.1.1 + (lns hr).2.1.2.1 : Nat) : Int) then (1 : Int) else 0, G1) : Int × xG_).1 = 0 := by
      rw [if_neg c]; exact fun q => q rfl
    rw [if_neg n1]
    exact ⟨-1, G1, rfl, .inr ⟨c, rfl⟩, h0, xup2_s _ _ _ _, z1 _ _ (by omega), fun a j q1 q2 q3 q4 q5 => z1 _ _ (by omega), fun q => absurd rfl q⟩
/-- pastValue(): thrown, value -/
def stPv (T : List (List Int)) (ln : sLn) (r p i col t v : Int) : Prop :=
  (∃ (x : Nat) (s : pPg) (M : Nat → List pRw), x ≤ ln.2.1.2.1 ∧ r = ((ln.2.1.1 + x : Nat) : Int) ∧ isMo T (ln.1 (ln.2.1.1 + x)) s M ∧ (0 ≤ p ∧ p < s.1.length) ∧ (0 ≤ i ∧ i < (M p.toNat).length) ∧ (0 ≤ col ∧ col < qN s p.toNat) ∧ t = 0 ∧ v = ((M p.toNat).getD i.toNat dRw).1.getD col.toNat 0) ∨
  ((∀ (x : Nat) (s : pPg) (M : Nat → List pRw), x ≤ ln.2.1.2.1 → r = ((ln.2.1.1 + x : Nat) : Int) → isMo T (ln.1 (ln.2.1.1 + x)) s M → ¬ ((0 ≤ p ∧ p < s.1.length) ∧ (0 ≤ i ∧ i < (M p.toNat).length) ∧ (0 ≤ col ∧ col < qN s p.toNat))) ∧ t = 1 ∧ v = 0)
theorem l_320 {G : xG_} {r p i col : Int} (hf : 1000100 < f) (hn : n < 900) (h : rHb G T m lns hr n) :
    ∃ t v G', g320 f r p i col G = some (v, G') ∧ stPv T (lns hr) r p i col t v ∧ rHb G' T m lns hr n ∧ G' 0 74 = t ∧ G' 0 63 = G 0 63 ∧ xfHo G G' := by
  obtain ⟨v, G1, u1, u2, u3, u4, u5, u6, u7⟩ := l_318 (f := f) (r := r) (p := p) hf hn h
  have lost : (∀ (x : Nat) (s : pPg) (M : Nat → List pRw), x ≤ (lns hr).2.1.2.1 → r = (((lns hr).2.1.1 + x : Nat) : Int) → isMo T ((lns hr).1 ((lns hr).2.1.1 + x)) s M → ¬ ((0 ≤ p ∧ p < s.1.length) ∧ (0 ≤ i ∧ i < (M p.toNat).length) ∧ (0 ≤ col ∧ col < qN s p.toNat))) → g320 f r p i col G = some (0, xup2 G1 0 74 1) → ∃ t v G', g320 f r p i col G = some (v, G') ∧ stPv T (lns hr) r p i col t v ∧ rHb G' T m lns hr n ∧ G' 0 74 = t ∧ G' 0 63 = G 0 63 ∧ xfHo G G' := fun hc he => ⟨1, 0, _, he, .inr ⟨hc, rfl, rfl⟩, u3.u74, xup2_s _ _ _ _, by rw [xup2_n (by omega)]; exact u5, fun a j q1 q2 q3 q4 q5 => by rw [xup2_n (by omega)]; exact u6 a j q1 q2 q3 q4 q5⟩
  have e0 : g320 f r p i col G = (if v = (-1) then g320_43 f G1 else (if i < 0 then g320_43 f G1 else (if v ≤ i then g320_43 f G1 else (if col < 0 then g320_43 f G1 else (if 0 ≤ p ∧ p < 16 then (if col < (G1 (37 + 2) p.toNat) then g320_52 f f p i col 0 G1 else g320_43 f G1) else none))))) := by
    unfold g320
    rw [u1, Option.bind_some]
  have e43 : g320_43 f G1 = some (0, xup2 G1 0 74 1) := by
    unfold g320_43
    rw [l_321]
    rfl
  by_cases c1 : v = -1
  · refine lost (fun x s M x1 x2 x3 q => ?_) (by rw [e0, if_pos c1, e43])
    rcases u2 with ⟨x', s', M', y1, y2, y3, y4⟩ | ⟨y1, _⟩
    · have : x' = x := by omega
      subst this
      obtain ⟨e1, e2⟩ := isMo_u y3 x3
      subst e1
      rcases y4 with w | w
      · have := w.2.2
        omega
      · exact w.1 q.1
    · exact y1 (by omega)
  obtain ⟨x, s, M, q, c, y1, y2, y3, y4, y5, y6, y7, y8, y9⟩ := u7 c1
  obtain ⟨pn, rfl⟩ : ∃ pn : Nat, p = (pn : Int) := ⟨p.toNat, by omega⟩
  rw [Int.toNat_natCast] at y9
  have hpn : pn < s.1.length := by omega
  have uni : ∀ (x' : Nat) (s' : pPg) (M' : Nat → List pRw), x' ≤ (lns hr).2.1.2.1 → r = (((lns hr).2.1.1 + x' : Nat) : Int) → isMo T ((lns hr).1 ((lns hr).2.1.1 + x')) s' M' → s = s' ∧ M pn = M' pn := fun x' s' M' z1 z2 z3 => by
    have : x' = x := by omega
    subst this
    obtain ⟨e1, e2⟩ := isMo_u y3 z3
    exact ⟨e1, e2 pn hpn⟩
  obtain ⟨c1', c2, c3, c4, c5, c6, c7⟩ := y3
  have hnp := c3.1.1
  have g39 : G1 (37 + 2) pn = (qN s pn : Int) := by
    have := y5 pn hpn
    have h2 := (pNn_in c3.1 (pn : Int)).1
    unfold qN
    rw [this]
    omega
  have hq4 : qN s pn ≤ 4 := by have := (pNn_in c3.1 (pn : Int)).2; unfold qN; omega
  rw [if_neg c1] at e0
  by_cases c2' : i < 0
  · exact lost (fun x' s' M' z1 z2 z3 q => by omega) (by rw [e0, if_pos c2', e43])
  rw [if_neg c2'] at e0
  by_cases c3' : v ≤ i
  · refine lost (fun x' s' M' z1 z2 z3 q => ?_) (by rw [e0, if_pos c3', e43])
    obtain ⟨e1, e2⟩ := uni x' s' M' z1 z2 z3
    rw [Int.toNat_natCast, ← e2] at q
    omega
  rw [if_neg c3'] at e0
  by_cases c4' : col < 0
  · exact lost (fun x' s' M' z1 z2 z3 q => by omega) (by rw [e0, if_pos c4', e43])
  rw [if_neg c4', if_pos (by omega), Int.toNat_natCast, g39] at e0
  by_cases c5' : col < (qN s pn : Int)
  · rw [if_pos c5'] at e0
    obtain ⟨k, k1, k2, k3⟩ := fa_at c3 c5.1.1 c6 hpn
    obtain ⟨i', rfl⟩ : ∃ i' : Nat, i = (i' : Int) := ⟨i.toNat, by omega⟩
    obtain ⟨col', rfl⟩ : ∃ col' : Nat, col = (col' : Int) := ⟨col.toNat, by omega⟩
    have hl := y6.2.1
    have hv := l_320_52 (f := f) (G := G1) (i := i') (col := col') c3 c5.1.1 c6 y4 y5 y6 hpn k1 k2 k3 (by omega) (by omega) k 0 f (by omega) (by omega)
    refine ⟨0, _, G1, e0.trans hv, .inl ⟨x, s, M, y1, y2, ⟨c1', c2, c3, c4, c5, c6, c7⟩, ⟨y7, y8⟩, ⟨by omega, by rw [Int.toNat_natCast]; omega⟩, ⟨by omega, by rw [Int.toNat_natCast]; exact c5'⟩, rfl, ?_⟩, u3, u4, u5, u6⟩
    rw [Int.toNat_natCast, Int.toNat_natCast, Int.toNat_natCast]
  · refine lost (fun x' s' M' z1 z2 z3 q => ?_) (by rw [e0, if_neg c5', e43])
    obtain ⟨e1, e2⟩ := uni x' s' M' z1 z2 z3
    rw [Int.toNat_natCast, ← e1] at q
    omega
end
