/-! FAULTS of the reference: what is BOUND, all of it -/
theorem xsubq {a b : Nat} (ha : a < 2 ^ 8) (hb : b < 2 ^ 8) : xand (a : Int) (xxor (b : Int) (-1)) = 0 ↔ qSub a b := by
  rw [xsub (by omega) (by omega), qSub_t]
theorem rsc61 {s : Int} (h : isCs s) : rsc s = 61 ↔ s = 61 := by
  unfold isCs at h
  unfold rsc
  split <;> omega
theorem wSt_ne {Q : pCd} (h : wSt 0 Q = some 1) : 1 ≤ Q.length := by
  cases Q with
  | nil => exact absurd h (by decide)
  | cons x q => exact Nat.succ_pos _
theorem xorm {a b : Nat} (ha : a < 2 ^ 8) (hb : b < 2 ^ 8) : xor_ (a : Int) (b : Int) = ((a ||| b : Nat) : Int) := xor_nat (by omega) (by omega)
section
variable {f o r c nv np : Nat} {G : xG_} {l : List pLt}
/-- a side of an =: it stands alone, the other side is BOUND -/
theorem l_side {α : Type} {Q R : pCd} {s : Nat} (K : Int → xG_ → α) (hs : s < 2 ^ 8) (hQ : wC nv Q) (hR : wC nv R) (hv : nv ≤ 8) :
    (if (if Q.length = 1 ∧ (Q.getD 0 (0, 0)).1 = 2 then (1 : Int) else 0) = 0 then K (s : Int) G else (if ¬ xand (qVm R : Int) (xxor (s : Int) (-1)) = 0 then K (s : Int) G else K (xor_ (s : Int) (qVm Q : Int)) G)) = K ((if qAl2 Q ∧ qSub (qVm R) s then s ||| qVm Q else s : Nat) : Int) G := by
  have l1 := qVm_lt hQ hv
  have l2 := qVm_lt hR hv
  by_cases c1 : qAl2 Q
  · rw [if_pos c1, if_neg (by decide)]
    by_cases c2 : qSub (qVm R) s
    · rw [if_neg (fun h => h ((xsubq l2 hs).mpr c2)), if_pos ⟨c1, c2⟩, xorm hs l1]
    · rw [if_pos (fun h => c2 ((xsubq l2 hs).mp h)), if_neg (fun h => c2 h.2)]
  · rw [if_neg c1, if_pos rfl, if_neg (fun h => c1 h.1)]
theorem l_227 {r96 : Nat → Int → Int → Int → xG_ → Option (Int × xG_)} {r106 : Nat → Int → Int → Int → Int → xG_ → Option (Int × xG_)} {w : Int} {y : pLt} {i x s : Nat} (hx : x < 200) (hi : i < 8) (hc : c ≤ 6200) (hy : rLt G o x c y) (c1 : y.1 = 3) (hw : wLt np nv y) (hv : nv ≤ 8) (hs : s < 2 ^ 8) : g257_227 r96 r106 f o (r : Int) (s : Int) w (i : Int) (x : Int) (qVm y.2.2.2.2.1 : Int) (qVm y.2.2.2.2.2 : Int) G = r106 o (r : Int) ((qR1 y s : Nat) : Int) w ((i + 1 : Nat) : Int) G := by
  obtain ⟨z1, a, z2, z3, z4, z5, z6, z7⟩ := hy.2.2.2 c1
  have hx3 : xwr ((i : Int) + 1) = ((i + 1 : Nat) : Int) := by rw [xwr_g _ (by omega) (by omega)]; omega
  have hb : (0 : Int) ≤ (x : Int) ∧ (x : Int) < 200 := by omega
  rcases hw with q | q
  · have := q.1; omega
  obtain ⟨_, _, ⟨q3, q3l⟩, ⟨q4, q4l⟩⟩ := q
  unfold g257_227 g257_262
  rw [if_pos hb, if_pos hb, Int.toNat_natCast, z3, z4, l_alone z7 (by omega) (wSt_ne q4l), hx3]
  exact l_side (G := G) (fun t G => r106 o (r : Int) t w ((i + 1 : Nat) : Int) G) hs q4 q3 hv
/-- one = and what comes after it -/
theorem l_106 {r96 : Nat → Int → Int → Int → xG_ → Option (Int × xG_)} {w : Int} (hf : 6300 < f) (hr : r < 25) (hc : c ≤ 6200) (hL : rLs G o r c l) (hw : ∀ y ∈ l, wLt np nv y) (hv : nv ≤ 8) : ∀ (k i fu s : Nat), i + k = l.length → k < fu → s < 2 ^ 8 → g257_106 r96 f fu o (r : Int) (s : Int) w (i : Int) G = r96 o (r : Int) ((qSt (l.drop i) s : Nat) : Int) w G := by
  obtain ⟨h1, h2, h3⟩ := hL
  intro k
  induction k with
  | zero =>
    intro i fu s hk hfu hs
    obtain ⟨fu, rfl⟩ : ∃ t, fu = t + 1 := ⟨fu - 1, by omega⟩
    show g257_106b r96 (g257_106 r96 f fu) f _ _ _ _ _ _ = _
    unfold g257_106b
    rw [if_pos (by omega), Int.toNat_natCast, h1, if_pos (by omega), List.drop_eq_nil_of_le (by omega)]
    rfl
  | succ k ih =>
    intro i fu s hk hfu hs
    obtain ⟨fu, rfl⟩ : ∃ t, fu = t + 1 := ⟨fu - 1, by omega⟩
    have hi : i < l.length := by omega
    have hy := h3 i hi
    have hd : l.drop i = l.getD i dLt :: l.drop (i + 1) := by rw [getD_e hi]; exact List.drop_eq_getElem_cons hi
    have hm : l.getD i dLt ∈ l := by rw [getD_e hi]; exact List.getElem_mem hi
    have hwy := hw _ hm
    have hx2 : xwr (xwr ((r : Int) * 8) + (i : Int)) = ((8 * r + i : Nat) : Int) := by rw [xwr_g ((r : Int) * 8) (by omega) (by omega), xwr_g _ (by omega) (by omega)]; omega
    have hx3 : xwr ((i : Int) + 1) = ((i + 1 : Nat) : Int) := by rw [xwr_g _ (by omega) (by omega)]; omega
    have hq := (qS1_lt hwy hv hs).1
    have ih := fun s hs => ih (i + 1) fu s (by omega) (by omega) hs
    rw [hd]
    show _ = r96 o (r : Int) ((qSt (l.drop (i + 1)) (qS1 (l.getD i dLt) s) : Nat) : Int) w G
    generalize l.getD i dLt = y at hy hwy hq
    have hy' := hy
    obtain ⟨y1, y2, y3, y4⟩ := hy
    have hb : (0 : Int) ≤ ((8 * r + i : Nat) : Int) ∧ ((8 * r + i : Nat) : Int) < 200 := by omega
    show g257_106b r96 (g257_106 r96 f fu) f _ _ _ _ _ _ = _
    unfold g257_106b
    rw [if_pos (by omega), Int.toNat_natCast, h1, if_neg (by omega), hx2, if_pos hb, Int.toNat_natCast, y1]
    by_cases c1 : y.1 = 3
    · obtain ⟨z1, a, z2, z3, z4, z5, z6, z7⟩ := y4 c1
      have hwy' := hwy
      rcases hwy with q | q
      · have := q.1; omega
      obtain ⟨_, q2, ⟨q3, q3l⟩, ⟨q4, q4l⟩⟩ := q
      rw [if_neg (fun h => h c1), if_pos hb, z1]
      by_cases c2 : y.2.1 = 61
      · have c3 : y.1 = 3 ∧ y.2.1 = 61 := And.intro c1 c2
        have e1 : qS1 y s = qR1 y (qL1 y s) := by unfold qS1; rw [if_pos c3]
        rw [e1] at hq ⊢
        have l1 := qVm_lt q3 hv
        have g1 : qL1 y s < 2 ^ 8 := by
          unfold qL1
          split
          · exact Nat.or_lt_two_pow hs l1
          · exact hs
        rw [if_pos ((rsc61 q2).mpr c2), if_pos hb, if_pos hb, z2, z3, l_vof hf q3 hv z6 (by omega), Option.bind_some]
        rw [if_pos hb, if_pos hb]
        show Option.bind (g255 f o (G (o + 29) (8 * r + i)) (G (o + 30) (8 * r + i)) G) _ = _
        rw [z3, z4, l_vof hf q4 hv z7 (by omega), Option.bind_some, if_pos hb, if_pos hb]
        show Option.bind (g256 f o (G (o + 28) (8 * r + i)) (G (o + 29) (8 * r + i)) G) _ = _
        rw [z2, z3, l_alone z6 (by omega) (wSt_ne q3l), Option.bind_some]
        have := l_side (G := G) (fun t G => g257_227 r96 (g257_106 r96 f fu) f o (r : Int) t w (i : Int) ((8 * r + i : Nat) : Int) (qVm y.2.2.2.2.1 : Int) (qVm y.2.2.2.2.2 : Int) G) hs q3 q4 hv
        refine Eq.trans this ?_
        have e2 := l_227 (r := r) (r96 := r96) (r106 := g257_106 r96 f fu) (w := w) (f := f) (i := i) (x := 8 * r + i) (by omega) (by omega) hc hy' c1 hwy' hv g1
        refine Eq.trans e2 ?_
        exact ih _ hq
      · rw [if_neg (fun h => c2 ((rsc61 q2).mp h))]
        have e1 : qS1 y s = s := by unfold qS1; rw [if_neg (fun h => c2 h.2)]
        unfold g257_262
        rw [e1, hx3]
        exact ih s hs
    · rw [if_pos c1]
      have e1 : qS1 y s = s := by unfold qS1; rw [if_neg (fun h => c1 h.1)]
      unfold g257_262
      rw [e1, hx3]
      exact ih s hs
/-- until nothing more is BOUND -/
theorem l_96 (hf : 6300 < f) (hr : r < 25) (hc : c ≤ 6200) (hL : rLs G o r c l) (hw : ∀ y ∈ l, wLt np nv y) (hv : nv ≤ 8) : ∀ (k fu s : Nat) (w : Int), 256 ≤ s + k → k + 1 < fu → s < 2 ^ 8 → w ≠ (s : Int) → g257_96 f fu o (r : Int) (s : Int) w G = some ((qIt l k s : Int), G) := by
  intro k
  induction k with
  | zero => intro fu s w h1 h2 h3 h4; omega
  | succ k ih =>
    intro fu s w h1 h2 h3 h4
    obtain ⟨fu, rfl⟩ : ∃ t, fu = t + 1 := ⟨fu - 1, by omega⟩
    show g257_96b (g257_96 f fu) f _ _ _ _ _ = _
    unfold g257_96b
    have h8 := hL.2.1
    have e := l_106 (r96 := g257_96 f fu) (w := (s : Int)) hf hr hc hL hw hv l.length 0 f s (by omega) (by omega) h3
    rw [List.drop_zero] at e
    have hg := qSt_lt hw hv s h3
    rw [if_neg h4]
    refine Eq.trans e ?_
    show _ = some (((if qSt l s = s then s else qIt l k (qSt l s) : Nat) : Int), G)
    by_cases c1 : qSt l s = s
    · rw [if_pos c1, c1]
      obtain ⟨fu, rfl⟩ : ∃ t, fu = t + 1 := ⟨fu - 1, by omega⟩
      show g257_96b (g257_96 f fu) f _ _ _ _ _ = _
      unfold g257_96b
      rw [if_pos rfl]
    · rw [if_neg c1]
      exact ih fu (qSt l s) s (by omega) (by omega) hg.1 (by omega)
/-- all ATOMS, then the rest -/
theorem l_4 (hf : 6300 < f) (hr : r < 25) (hc : c ≤ 6200) (hL : rLs G o r c l) (hw : ∀ y ∈ l, wLt np nv y) (hv : nv ≤ 8) : ∀ (k i fu a : Nat), i + k = l.length → k < fu → a < 2 ^ 8 → g257_4 f fu o (r : Int) (a : Int) (i : Int) G = some ((qIt l 256 (a ||| qA (l.drop i)) : Int), G) := by
  intro k
  induction k with
  | zero =>
    intro i fu a hk hfu ha
    obtain ⟨fu, rfl⟩ : ∃ t, fu = t + 1 := ⟨fu - 1, by omega⟩
    show g257_4b (g257_4 f fu) f _ _ _ _ _ = _
    unfold g257_4b
    rw [if_pos (by omega), Int.toNat_natCast, hL.1, if_pos (by omega), List.drop_eq_nil_of_le (by omega)]
    show _ = some ((qIt l 256 (a ||| 0) : Int), G)
    rw [Nat.or_zero]
    exact l_96 hf hr hc hL hw hv 256 f a (-1) (by omega) (by omega) ha (by omega)
  | succ k ih =>
    intro i fu a hk hfu ha
    obtain ⟨fu, rfl⟩ : ∃ t, fu = t + 1 := ⟨fu - 1, by omega⟩
    have h8 := hL.2.1
    have hi : i < l.length := by omega
    have hy := hL.2.2 i hi
    have hd : l.drop i = l.getD i dLt :: l.drop (i + 1) := by rw [getD_e hi]; exact List.drop_eq_getElem_cons hi
    have hm : l.getD i dLt ∈ l := by rw [getD_e hi]; exact List.getElem_mem hi
    have hwy := hw _ hm
    have hx2 : xwr (xwr ((r : Int) * 8) + (i : Int)) = ((8 * r + i : Nat) : Int) := by rw [xwr_g ((r : Int) * 8) (by omega) (by omega), xwr_g _ (by omega) (by omega)]; omega
    show g257_4b (g257_4 f fu) f _ _ _ _ _ = _
    unfold g257_4b
    rw [if_pos (by omega), Int.toNat_natCast, hL.1, if_neg (by omega), hx2, hd]
    have e := l_t25 (f := f) (r := r) (G := G) (r4 := g257_4 f fu) (i := i) (x := 8 * r + i) (by omega) (by omega) hy hwy hv (l.getD i dLt).2.2.2.1.length 0 f a (by omega) (by have := hy.2.1; omega) ha
    refine Eq.trans e ?_
    rw [List.drop_zero]
    have hlt : (if (l.getD i dLt).1 = 1 then qT (l.getD i dLt).2.2.2.1 else 0) < 2 ^ 8 := by
      split
      · rename_i c0
        rcases hwy with q | q
        · exact qT_lt q.2.2.2.2.2 hv
        · omega
      · decide
    refine Eq.trans (ih (i + 1) fu _ (by omega) (by omega) (Nat.or_lt_two_pow ha hlt)) ?_
    show _ = some ((qIt l 256 (a ||| ((if (l.getD i dLt).1 = 1 then qT (l.getD i dLt).2.2.2.1 else 0) ||| qA (l.drop (i + 1)))) : Int), G)
    rw [Nat.or_assoc]
theorem l_bd (hf : 6300 < f) (hr : r < 25) (hc : c ≤ 6200) (hL : rLs G o r c l) (hw : ∀ y ∈ l, wLt np nv y) (hv : nv ≤ 8) : g257 f o (r : Int) G = some ((qBd l : Int), G) := by
  have h8 := hL.2.1
  have e := l_4 hf hr hc hL hw hv l.length 0 f 0 (by omega) (by omega) (by decide)
  rw [List.drop_zero, Nat.zero_or] at e
  exact e
end
