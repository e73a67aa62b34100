/-! FAULTS of the reference: kind 5 -/
def qOw (K : Nat → Nat) (h g : Int) (y : pLt) : Bool := decide (y.1 ≠ 3 ∧ K y.2.1.toNat = K h.toNat ∧ (y.1 = 2 ∨ g ≠ 0))
def qG (u : pRu) : Int := if u.2.2.1.1 = 0 then 0 else u.2.2.1.1 - 9
def isF5 (K : Nat → Nat) (u : pRu) : Prop := u.2.2.2.2.2.any (qOw K u.1 (qG u)) = true
def rRc (G : xG_) (o q : Nat) (R : List pRu) : Prop := ∀ r, r < R.length → G (o + 16) r = qG (R.getD r dRu) ∧ G (o + 14) r = (q : Int) + (R.getD r dRu).2.1
theorem rRb.f26 {G G' : xG_} {o : Nat} {R : List pRu} (h : rRb G o R) (ho : 1 < o) (hf : xf26 G G') : rRb G' o R := by
  obtain ⟨a1, a2, a3⟩ := h
  refine ⟨by rw [hf _ _ (by omega)]; exact a1, a2, fun r hr => ?_⟩
  obtain ⟨b1, b2, b3, b4⟩ := a3 r hr
  refine ⟨by rw [hf _ _ (by omega)]; exact b1, by rw [hf _ _ (by omega)]; exact b2, b3, fun k hk => ?_⟩
  obtain ⟨d1, d2⟩ := b4 k hk
  exact ⟨by rw [hf _ _ (by omega)]; exact d1, fun h => by rw [hf _ _ (by omega)]; exact d2 h⟩
theorem rRc.f26 {G G' : xG_} {o q : Nat} {R : List pRu} (h : rRc G o q R) (ho : 1 < o) (hf : xf26 G G') : rRc G' o q R := fun r hr => by
  rw [hf _ _ (by omega), hf _ _ (by omega)]; exact h r hr
theorem rMk.f26 {G G' : xG_} {x np : Nat} {T : Nat → Nat} (h : rMk G x np T) (ho : 0 < x) (hf : xf26 G G') : rMk G' x np T := fun p hp => by
  rw [hf _ _ (by omega)]; exact h p hp
section
variable {f o q np r : Nat} {R : List pRu} {K : Nat → Nat}
theorem l_260 {G : xG_} {h : Nat} {g : Int} {l : List pLt} (ho : 1 < o) (hnp : np ≤ 16) (hr : r < 25) (hh : h < np) (hw : ∀ y ∈ l, wLb np y) (h8 : l.length ≤ 8) (hK : rMk G (o + 5) np K) (g13 : G (o + 13) r = (h : Int)) (g16 : G (o + 16) r = g) (g19 : G (o + 19) r = (l.length : Int)) (hl : ∀ k, k < l.length → G (o + 25) (8 * r + k) = (l.getD k dLt).1 ∧ ((l.getD k dLt).1 ≠ 3 → G (o + 26) (8 * r + k) = (l.getD k dLt).2.1)) : ∀ (k i fu : Nat), i + k = l.length → k < fu → g260_2 f fu o (r : Int) (i : Int) G = some (b01 ((l.drop i).any (qOw K (h : Int) g)), G) := by
  intro k
  induction k with
  | zero =>
    intro i fu h1 h2
    obtain ⟨fu, rfl⟩ : ∃ t, fu = t + 1 := ⟨fu - 1, by omega⟩
    show g260_2b (g260_2 f fu) f _ _ _ _ = _
    unfold g260_2b
    rw [if_pos (by omega), Int.toNat_natCast, g19, if_pos (by omega), List.drop_eq_nil_of_le (by omega)]
    rfl
  | succ k ih =>
    intro i fu h1 h2
    obtain ⟨fu, rfl⟩ : ∃ t, fu = t + 1 := ⟨fu - 1, by omega⟩
    have hi : i < l.length := by omega
    have hd : l.drop i = l.getD i dLt :: l.drop (i + 1) := by rw [getD_e hi]; exact List.drop_eq_getElem_cons hi
    have hm : l.getD i dLt ∈ l := by rw [getD_e hi]; exact List.getElem_mem hi
    have hwy := hw _ hm
    obtain ⟨d1, d2⟩ := hl i hi
    have hx2 : xwr (xwr ((r : Int) * 8) + (i : Int)) = ((8 * r + i : Nat) : Int) := by rw [xwr_g ((r : Int) * 8) (by omega) (by omega), xwr_g _ (by omega) (by omega)]; omega
    have hx3 : xwr ((i : Int) + 1) = ((i + 1 : Nat) : Int) := by rw [xwr_g _ (by omega) (by omega)]; omega
    have ih := ih (i + 1) fu (by omega) (by omega)
    rw [hd, List.any_cons]
    generalize l.getD i dLt = y at d1 d2 hwy
    have no : ¬ (y.1 ≠ 3 ∧ K y.2.1.toNat = K ((h : Nat) : Int).toNat ∧ (y.1 = 2 ∨ g ≠ 0)) → (qOw K (h : Int) g y || (l.drop (i + 1)).any (qOw K (h : Int) g)) = (l.drop (i + 1)).any (qOw K (h : Int) g) := by
      intro hn
      have : qOw K (h : Int) g y = false := decide_eq_false hn
      rw [this, Bool.false_or]
    have yes : (y.1 ≠ 3 ∧ K y.2.1.toNat = K ((h : Nat) : Int).toNat ∧ (y.1 = 2 ∨ g ≠ 0)) → (qOw K (h : Int) g y || (l.drop (i + 1)).any (qOw K (h : Int) g)) = true := by
      intro hn
      have : qOw K (h : Int) g y = true := decide_eq_true hn
      rw [this, Bool.true_or]
    show g260_2b (g260_2 f fu) f _ _ _ _ = _
    unfold g260_2b g260_78 g260_76
    rw [if_pos (by omega), Int.toNat_natCast, g19, if_neg (by omega), hx2, if_pos (by omega), Int.toNat_natCast, d1, hx3]
    by_cases c1 : y.1 = 3
    · rw [if_pos c1, no (fun h => h.1 c1)]; exact ih
    · have hb := hwy c1
      have d3 := d2 c1
      have kh := hK h hh
      have ky := hK y.2.1.toNat (by omega)
      rw [if_neg c1, if_pos (by omega), d3, if_pos (by omega), if_pos (by omega), g13, if_pos (by omega), Int.toNat_natCast, kh, ky]
      by_cases c2 : K y.2.1.toNat = K h
      · rw [if_pos (by omega), if_pos (by omega)]
        by_cases c3 : y.1 = 2
        · rw [if_pos c3, yes ⟨c1, c2, Or.inl c3⟩]; rfl
        · rw [if_neg c3, if_pos (by omega), g16]
          by_cases c4 : g = 0
          · rw [if_pos c4, no (fun h => h.2.2.elim c3 (fun h => h c4))]; exact ih
          · rw [if_neg c4, yes ⟨c1, c2, Or.inr c4⟩]; rfl
      · rw [if_neg (by omega), no (fun h => c2 h.2.1)]; exact ih
theorem l_own {G : xG_} (hf : 100 < f) (ho : 1 < o) (hnp : np ≤ 16) (hw : wRq np R) (hK : rMk G (o + 5) np K) (hR : rRb G o R) (hRc : rRc G o q R) (hr : r < R.length) : g260 f o (r : Int) G = some (b01 ((R.getD r dRu).2.2.2.2.2.any (qOw K (R.getD r dRu).1 (qG (R.getD r dRu)))), G) := by
  have hm : R.getD r dRu ∈ R := by rw [getD_e hr]; exact List.getElem_mem hr
  obtain ⟨w1, w2, w3⟩ := hw _ hm
  have h24 := hR.2.1
  obtain ⟨b1, b2, b3, b4⟩ := hR.2.2 r hr
  have e0 : (R.getD r dRu).1 = (((R.getD r dRu).1.toNat : Nat) : Int) := by omega
  have := l_260 (f := f) (r := r) (h := (R.getD r dRu).1.toNat) ho hnp (by omega) (by omega) w3 b3 hK (by rw [← e0]; exact b1) (hRc r hr).1 b2 b4 _ 0 f (Nat.zero_add _) (by omega)
  rw [List.drop_zero, ← e0] at this
  exact this
theorem l_176 (hf : 100 < f) (ho : 1 < o) (hnp : np ≤ 16) (hw : wRq np R) : ∀ (k r fu : Nat) (G : xG_) (S : Int → Int → Prop), r + k = R.length → k < fu → rMk G (o + 5) np K → rRb G o R → rRc G o q R → rF G S → ∃ G', g252_176 f fu o (r : Int) G = some G' ∧ xf26 G G' ∧ rF G' (fun k a => S k a ∨ k = 5 ∧ ∃ y, r ≤ y ∧ y < R.length ∧ isF5 K (R.getD y dRu) ∧ a = (q : Int) + (R.getD y dRu).2.1) := by
  intro k
  induction k with
  | zero =>
    intro r fu G S h1 h2 hK hR hRc hF
    obtain ⟨fu, rfl⟩ : ∃ t, fu = t + 1 := ⟨fu - 1, by omega⟩
    refine ⟨G, ?_, xf26.rf _, hF.iff (fun k a => ⟨fun h => Or.inl h, fun h => h.elim id (fun h => absurd h.2 (fun ⟨y, a1, a2, _⟩ => by omega))⟩)⟩
    show g252_176b (g252_176 f fu) f _ _ _ = _
    unfold g252_176b
    rw [hR.1, if_pos (by omega)]
  | succ k ih =>
    intro r fu G S h1 h2 hK hR hRc hF
    obtain ⟨fu, rfl⟩ : ∃ t, fu = t + 1 := ⟨fu - 1, by omega⟩
    have hr : r < R.length := by omega
    have h24 := hR.2.1
    have hx3 : xwr ((r : Int) + 1) = ((r + 1 : Nat) : Int) := by rw [xwr_g _ (by omega) (by omega)]; omega
    have e0 := l_own (f := f) hf ho hnp hw hK hR hRc hr
    have hp := (hRc r hr).2
    show ∃ G', g252_176b (g252_176 f fu) f o (r : Int) G = _ ∧ _
    unfold g252_176b g252_203
    rw [hR.1, if_neg (by omega), e0, Option.bind_some, hx3]
    cases hb : (R.getD r dRu).2.2.2.2.2.any (qOw K (R.getD r dRu).1 (qG (R.getD r dRu))) with
    | false =>
      obtain ⟨G', e1, e2, e3⟩ := ih (r + 1) fu G S (by omega) (by omega) hK hR hRc hF
      refine ⟨G', e1, e2, e3.iff (fun k a => ?_)⟩
      constructor
      · rintro (h | ⟨h, y, a1, a2, a3, a4⟩)
        · exact Or.inl h
        · exact Or.inr ⟨h, y, by omega, a2, a3, a4⟩
      · rintro (h | ⟨h, y, a1, a2, a3, a4⟩)
        · exact Or.inl h
        · by_cases cy : y = r
          · rw [cy] at a3; unfold isF5 at a3; rw [hb] at a3; exact absurd a3 (by decide)
          · exact Or.inr ⟨h, y, by omega, a2, a3, a4⟩
    | true =>
      obtain ⟨G1, d1, d2, d3⟩ := l_faulty (f := f) (k := 5) (a := (q : Int) + (R.getD r dRu).2.1) (by decide) hF
      obtain ⟨G', e1, e2, e3⟩ := ih (r + 1) fu G1 _ (by omega) (by omega) (hK.f26 (by omega) d3) (hR.f26 ho d3) (hRc.f26 ho d3) d2
      refine ⟨G', ?_, d3.tr e2, e3.iff (fun k a => ?_)⟩
      · show (if (1 : Int) = 0 then _ else _) = _
        rw [if_neg (by decide), if_pos (by omega)]
        show Option.bind (g251 f 5 (G (o + 14) r) G) _ = _
        rw [hp, d1, Option.bind_some]
        exact e1
      · constructor
        · rintro ((h | ⟨h, h'⟩) | ⟨h, y, a1, a2, a3, a4⟩)
          · exact Or.inl h
          · exact Or.inr ⟨h, r, Nat.le_refl _, by omega, hb, h'⟩
          · exact Or.inr ⟨h, y, by omega, a2, a3, a4⟩
        · rintro (h | ⟨h, y, a1, a2, a3, a4⟩)
          · exact Or.inl (Or.inl h)
          · by_cases cy : y = r
            · rw [cy] at a4; exact Or.inl (Or.inr ⟨h, a4⟩)
            · exact Or.inr ⟨h, y, by omega, a2, a3, a4⟩
end
