/-! RINGS of the reference: what a rule reads; kind 5 -/
def qLm : List pLt → Nat
  | [] => 0
  | y :: r => (if y.1 = 3 then 0 else 2 ^ y.2.1.toNat) ||| qLm r
def qRd : List pRu → Nat → Nat
  | [], _ => 0
  | u :: r, p => (if (p : Int) = u.1 then qLm u.2.2.2.2.2 else 0) ||| qRd r p
def rRb (G : xG_) (o : Nat) (R : List pRu) : Prop := G o 9 = (R.length : Int) ∧ R.length ≤ 24 ∧ ∀ r, r < R.length → G (o + 13) r = (R.getD r dRu).1 ∧ G (o + 19) r = ((R.getD r dRu).2.2.2.2.2.length : Int) ∧ (R.getD r dRu).2.2.2.2.2.length ≤ 8 ∧ ∀ k, k < (R.getD r dRu).2.2.2.2.2.length → G (o + 25) (8 * r + k) = ((R.getD r dRu).2.2.2.2.2.getD k dLt).1 ∧ (((R.getD r dRu).2.2.2.2.2.getD k dLt).1 ≠ 3 → G (o + 26) (8 * r + k) = ((R.getD r dRu).2.2.2.2.2.getD k dLt).2.1)
def wLb (np : Nat) (y : pLt) : Prop := y.1 ≠ 3 → 0 ≤ y.2.1 ∧ y.2.1 < np
def wRq (np : Nat) (R : List pRu) : Prop := ∀ u ∈ R, 0 ≤ u.1 ∧ u.1 < np ∧ ∀ y ∈ u.2.2.2.2.2, wLb np y
theorem rRb.fr {G G' : xG_} {o : Nat} {R : List pRu} (h : rRb G o R) (ho : 1 < o) (hf : ∀ a j, a ≠ 1 → a ≠ o + 4 → a ≠ o + 5 → G' a j = G a j) : rRb G' o R := by
  obtain ⟨a1, a2, a3⟩ := h
  refine ⟨by rw [hf _ _ (by omega) (by omega) (by omega)]; exact a1, a2, fun r hr => ?_⟩
  obtain ⟨b1, b2, b3, b4⟩ := a3 r hr
  refine ⟨by rw [hf _ _ (by omega) (by omega) (by omega)]; exact b1, by rw [hf _ _ (by omega) (by omega) (by omega)]; exact b2, b3, fun k hk => ?_⟩
  obtain ⟨d1, d2⟩ := b4 k hk
  exact ⟨by rw [hf _ _ (by omega) (by omega) (by omega)]; exact d1, fun h => by rw [hf _ _ (by omega) (by omega) (by omega)]; exact d2 h⟩
theorem qLm_lt {np : Nat} {l : List pLt} (h : ∀ y ∈ l, wLb np y) (hnp : np ≤ 16) : qLm l < 2 ^ 16 := by
  induction l with
  | nil => decide
  | cons y r ih =>
    have h1 := ih (fun z hz => h z (List.mem_cons_of_mem _ hz))
    have h2 : (if y.1 = 3 then 0 else 2 ^ y.2.1.toNat) < 2 ^ 16 := by
      split
      · decide
      · rename_i c
        have := h y (List.mem_cons_self ..) c
        exact Nat.pow_lt_pow_right (by decide) (by omega)
    exact Nat.or_lt_two_pow h2 h1
theorem qRd_lt {np : Nat} {R : List pRu} (h : wRq np R) (hnp : np ≤ 16) : b16 (qRd R) := by
  intro p
  induction R with
  | nil => exact Nat.two_pow_pos _
  | cons u r ih =>
    have h1 := ih (fun z hz => h z (List.mem_cons_of_mem _ hz))
    have h2 : (if (p : Int) = u.1 then qLm u.2.2.2.2.2 else 0) < 2 ^ 16 := by
      split
      · exact qLm_lt (h u (List.mem_cons_self ..)).2.2 hnp
      · exact Nat.two_pow_pos _
    exact Nat.or_lt_two_pow h2 h1
section
variable {f o np r : Nat} {R : List pRu}
theorem l_35 {r25 : Nat → Int → xG_ → Option xG_} {h : Nat} {l : List pLt} (ho : 1 < o) (hnp : np ≤ 16) (hr : r < 25) (hh : h < np) (hw : ∀ y ∈ l, wLb np y) (h8 : l.length ≤ 8) : ∀ (k i fu : Nat) (G : xG_) (T : Nat → Nat), i + k = l.length → k < fu → b16 T → rMk G (o + 4) np T → G (o + 13) r = (h : Int) → G (o + 19) r = (l.length : Int) → (∀ k, k < l.length → G (o + 25) (8 * r + k) = (l.getD k dLt).1 ∧ ((l.getD k dLt).1 ≠ 3 → G (o + 26) (8 * r + k) = (l.getD k dLt).2.1)) →
    ∃ G', g259_35 r25 f fu o (r : Int) (i : Int) G = r25 o ((r + 1 : Nat) : Int) G' ∧ rMk G' (o + 4) np (fun p => T p ||| (if p = h then qLm (l.drop i) else 0)) ∧ ∀ a j, a ≠ o + 4 → G' a j = G a j := by
  have hx1 : xwr ((r : Int) + 1) = ((r + 1 : Nat) : Int) := by rw [xwr_g _ (by omega) (by omega)]; omega
  intro k
  induction k with
  | zero =>
    intro i fu G T h1 h2 hT hM g13 g19 hl
    obtain ⟨fu, rfl⟩ : ∃ t, fu = t + 1 := ⟨fu - 1, by omega⟩
    refine ⟨G, ?_, fun p hp => ?_, fun _ _ _ => rfl⟩
    · show g259_35b r25 (g259_35 r25 f fu) f _ _ _ _ = _
      unfold g259_35b
      rw [if_pos (by omega), Int.toNat_natCast, g19, if_pos (by omega), hx1]
    · show _ = ((T p ||| (if p = h then qLm (l.drop i) else 0) : Nat) : Int)
      rw [List.drop_eq_nil_of_le (by omega), show qLm [] = 0 from rfl, ite_self, Nat.or_zero]
      exact hM p hp
  | succ k ih =>
    intro i fu G T h1 h2 hT hM g13 g19 hl
    obtain ⟨fu, rfl⟩ : ∃ t, fu = t + 1 := ⟨fu - 1, by omega⟩
    have hi : i < l.length := by omega
    have hd : l.drop i = l.getD i dLt :: l.drop (i + 1) := by rw [getD_e hi]; exact List.drop_eq_getElem_cons hi
    have hm : l.getD i dLt ∈ l := by rw [getD_e hi]; exact List.getElem_mem hi
    have hwy := hw _ hm
    obtain ⟨d1, d2⟩ := hl i hi
    have hx2 : xwr (xwr ((r : Int) * 8) + (i : Int)) = ((8 * r + i : Nat) : Int) := by rw [xwr_g ((r : Int) * 8) (by omega) (by omega), xwr_g _ (by omega) (by omega)]; omega
    have hx3 : xwr ((i : Int) + 1) = ((i + 1 : Nat) : Int) := by rw [xwr_g _ (by omega) (by omega)]; omega
    rw [hd]
    show ∃ G', g259_35b r25 (g259_35 r25 f fu) f o (r : Int) (i : Int) G = _ ∧ rMk G' (o + 4) np (fun p => T p ||| (if p = h then (if (l.getD i dLt).1 = 3 then 0 else 2 ^ (l.getD i dLt).2.1.toNat) ||| qLm (l.drop (i + 1)) else 0)) ∧ _
    unfold g259_35b g259_87
    rw [if_pos (by omega), Int.toNat_natCast, g19, if_neg (by omega), hx2, if_pos (by omega), Int.toNat_natCast, d1, hx3]
    by_cases c1 : (l.getD i dLt).1 = 3
    · rw [if_pos c1]
      obtain ⟨G', e1, e2, e3⟩ := ih (i + 1) fu G T (by omega) (by omega) hT hM g13 g19 hl
      refine ⟨G', e1, fun p hp => ?_, e3⟩
      rw [e2 p hp, if_pos c1, Nat.zero_or]
    · have hb := hwy c1
      have d3 := d2 c1
      have e0 : (l.getD i dLt).2.1 = (((l.getD i dLt).2.1.toNat : Nat) : Int) := by omega
      have th := hT h
      have hxo : xor_ (T h : Int) (xshl 1 (l.getD i dLt).2.1) = ((T h ||| 2 ^ (l.getD i dLt).2.1.toNat : Nat) : Int) := by
        rw [show xshl 1 (l.getD i dLt).2.1 = xshl 1 (((l.getD i dLt).2.1.toNat : Nat) : Int) by rw [← e0], xorb (by omega) (by omega)]
      rw [if_neg c1, if_pos (by omega), g13, if_pos (by omega), if_pos (by omega), if_pos (by omega), Int.toNat_natCast, hM h hh, d3, hxo, Option.bind_some]
      obtain ⟨G', e1, e2, e3⟩ := ih (i + 1) fu (xup2 G (o + 4) h ((T h ||| 2 ^ (l.getD i dLt).2.1.toNat : Nat) : Int)) (fun p => T p ||| (if p = h then 2 ^ (l.getD i dLt).2.1.toNat else 0)) (by omega) (by omega) (fun p => by
          show T p ||| (if p = h then 2 ^ (l.getD i dLt).2.1.toNat else 0) < 2 ^ 16
          split
          · exact or_lt (hT p) (by omega)
          · rw [Nat.or_zero]; exact hT p) (fun p hp => by
          show _ = ((T p ||| (if p = h then 2 ^ (l.getD i dLt).2.1.toNat else 0) : Nat) : Int)
          by_cases cp : p = h
          · rw [cp, xup2_s, if_pos rfl]
          · rw [xup2_n (by omega), if_neg cp, Nat.or_zero]; exact hM p hp) (by rw [xup2_n (by omega)]; exact g13) (by rw [xup2_n (by omega)]; exact g19) (fun k hk => by
          rw [xup2_n (by omega), xup2_n (by omega)]; exact hl k hk)
      refine ⟨G', e1, fun p hp => ?_, fun a j hj => by rw [e3 a j hj, xup2_n (by omega)]⟩
      rw [e2 p hp, if_neg c1]
      show (((T p ||| (if p = h then 2 ^ (l.getD i dLt).2.1.toNat else 0)) ||| (if p = h then qLm (l.drop (i + 1)) else 0) : Nat) : Int) = ((T p ||| (if p = h then 2 ^ (l.getD i dLt).2.1.toNat ||| qLm (l.drop (i + 1)) else 0) : Nat) : Int)
      by_cases cp : p = h
      · rw [if_pos cp, if_pos cp, if_pos cp, Nat.or_assoc]
      · rw [if_neg cp, if_neg cp, if_neg cp, Nat.or_zero]
theorem l_25 (hf : 100 < f) (ho : 1 < o) (hnp : np ≤ 16) (hw : wRq np R) : ∀ (k r fu : Nat) (G : xG_) (T : Nat → Nat), r + k = R.length → k < fu → b16 T → G o 8 = (np : Int) → rMk G (o + 4) np T → rRb G o R →
    ∃ G', g259_25 f fu o (r : Int) G = some G' ∧ rMk G' (o + 4) np (fun p => T p ||| qRd (R.drop r) p) ∧ (∀ y, y < np → G' (o + 5) y = (qRing (qWm np (fun p => T p ||| qRd (R.drop r) p) np) y : Int)) ∧ ∀ a j, a ≠ 1 → a ≠ o + 4 → a ≠ o + 5 → G' a j = G a j := by
  intro k
  induction k with
  | zero =>
    intro r fu G T h1 h2 hT h8 hM hR
    obtain ⟨fu, rfl⟩ : ∃ t, fu = t + 1 := ⟨fu - 1, by omega⟩
    have e0 : (fun p => T p ||| qRd (R.drop r) p) = T := by
      funext p
      rw [List.drop_eq_nil_of_le (by omega)]
      exact Nat.or_zero _
    rw [e0]
    obtain ⟨G', e1, e2, e3⟩ := l_r106 hf hT hnp ho np 0 f G (by omega) (by omega) h8 hM (fun p hp => by omega)
    refine ⟨G', ?_, fun p hp => by rw [e3 _ _ (by omega) (by omega)]; exact hM p hp, e2, fun a j x1 x2 x3 => e3 a j x1 x3⟩
    show g259_25b (g259_25 f fu) f _ _ _ = _
    unfold g259_25b
    rw [hR.1, if_pos (by omega)]
    exact e1
  | succ k ih =>
    intro r fu G T h1 h2 hT h8 hM hR
    obtain ⟨fu, rfl⟩ : ∃ t, fu = t + 1 := ⟨fu - 1, by omega⟩
    have hr : r < R.length := by omega
    have hd : R.drop r = R.getD r dRu :: R.drop (r + 1) := by rw [getD_e hr]; exact List.drop_eq_getElem_cons hr
    have hm : R.getD r dRu ∈ R := by rw [getD_e hr]; exact List.getElem_mem hr
    obtain ⟨w1, w2, w3⟩ := hw _ hm
    have h24 := hR.2.1
    obtain ⟨b1, b2, b3, b4⟩ := hR.2.2 r hr
    have e0 : (R.getD r dRu).1 = (((R.getD r dRu).1.toNat : Nat) : Int) := by omega
    obtain ⟨G1, e1, e2, e3⟩ := l_35 (f := f) (r := r) (r25 := g259_25 f fu) (h := (R.getD r dRu).1.toNat) (l := (R.getD r dRu).2.2.2.2.2) ho hnp (by omega) (by omega) w3 b3 _ 0 f G T (Nat.zero_add _) (by omega) hT hM (by rw [← e0]; exact b1) b2 b4
    rw [List.drop_zero] at e2
    have e4 : (fun p => T p ||| qRd (R.drop r) p) = (fun p => (fun p => T p ||| (if p = (R.getD r dRu).1.toNat then qLm (R.getD r dRu).2.2.2.2.2 else 0)) p ||| qRd (R.drop (r + 1)) p) := by
      funext p
      rw [hd]
      show T p ||| ((if (p : Int) = (R.getD r dRu).1 then qLm (R.getD r dRu).2.2.2.2.2 else 0) ||| qRd (R.drop (r + 1)) p) = (T p ||| (if p = (R.getD r dRu).1.toNat then qLm (R.getD r dRu).2.2.2.2.2 else 0)) ||| qRd (R.drop (r + 1)) p
      by_cases cp : p = (R.getD r dRu).1.toNat
      · rw [if_pos cp, if_pos (by omega), Nat.or_assoc]
      · rw [if_neg cp, if_neg (by omega), Nat.or_assoc]
    rw [e4]
    obtain ⟨G', d1, d2, d3, d4⟩ := ih (r + 1) fu G1 (fun p => T p ||| (if p = (R.getD r dRu).1.toNat then qLm (R.getD r dRu).2.2.2.2.2 else 0)) (by omega) (by omega) (fun p => by
      refine Nat.or_lt_two_pow (hT p) ?_
      split
      · exact qLm_lt w3 hnp
      · exact Nat.two_pow_pos _) (by rw [e3 _ _ (by omega)]; exact h8) e2 (hR.fr ho (fun a j _ x2 _ => e3 a j x2))
    refine ⟨G', ?_, d2, d3, fun a j x1 x2 x3 => by rw [d4 a j x1 x2 x3, e3 a j x2]⟩
    show g259_25b (g259_25 f fu) f _ _ _ = _
    unfold g259_25b
    rw [hR.1, if_neg (by omega)]
    exact Eq.trans e1 d1
theorem l_rings (hf : 100 < f) (ho : 1 < o) (hnp : np ≤ 16) (hw : wRq np R) : ∀ (k x fu : Nat) (G : xG_), x + k = np → k < fu → G o 8 = (np : Int) → (∀ p, p < x → G (o + 4) p = 0) → rRb G o R →
    ∃ G', g259_2 f fu o (x : Int) G = some G' ∧ rMk G' (o + 4) np (qRd R) ∧ (∀ y, y < np → G' (o + 5) y = (qRing (qWm np (qRd R) np) y : Int)) ∧ ∀ a j, a ≠ 1 → a ≠ o + 4 → a ≠ o + 5 → G' a j = G a j := by
  intro k
  induction k with
  | zero =>
    intro x fu G h1 h2 h8 h0 hR
    obtain ⟨fu, rfl⟩ : ∃ t, fu = t + 1 := ⟨fu - 1, by omega⟩
    have h24 := hR.2.1
    obtain ⟨G', e1, e2, e3, e4⟩ := l_25 hf ho hnp hw R.length 0 f G (fun _ => 0) (by omega) (by omega) (fun _ => Nat.two_pow_pos _) h8 (fun p hp => by rw [h0 p (by omega)]; rfl) hR
    have e0 : (fun p => (fun _ => 0) p ||| qRd (R.drop 0) p) = qRd R := by
      funext p
      rw [List.drop_zero]
      exact Nat.zero_or _
    rw [e0] at e2 e3
    refine ⟨G', ?_, e2, e3, e4⟩
    show g259_2b (g259_2 f fu) f _ _ _ = _
    unfold g259_2b
    rw [h8, if_pos (by omega)]
    exact e1
  | succ k ih =>
    intro x fu G h1 h2 h8 h0 hR
    obtain ⟨fu, rfl⟩ : ∃ t, fu = t + 1 := ⟨fu - 1, by omega⟩
    have ek : xwr ((x : Int) + 1) = ((x + 1 : Nat) : Int) := by rw [xwr_g _ (by omega) (by omega)]; omega
    obtain ⟨G', e1, e2, e3, e4⟩ := ih (x + 1) fu (xup2 G (o + 4) x 0) (by omega) (by omega) (by rw [xup2_n (by omega)]; exact h8) (fun p hp => by
      by_cases cp : p = x
      · rw [cp, xup2_s]
      · rw [xup2_n (by omega)]; exact h0 p (by omega)) (hR.fr ho (fun a j _ x2 _ => by rw [xup2_n (by omega)]))
    refine ⟨G', ?_, e2, e3, fun a j x1 x2 x3 => by rw [e4 a j x1 x2 x3, xup2_n (by omega)]⟩
    show g259_2b (g259_2 f fu) f _ _ _ = _
    unfold g259_2b
    rw [h8, if_neg (by omega), if_pos (by omega), Option.bind_some, Int.toNat_natCast, ek]
    exact e1
end
