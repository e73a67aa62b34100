/-! The reference's rows of a predicate -/
/-- a row: values, RANK -/
abbrev pRw : Type := List Int × Int
abbrev dRw : pRw := ([], 0)
def vLt (a b : List Int) : Prop := fLt (0, a) (0, b)
def rwLt (a b : pRw) : Prop := vLt a.1 b.1
theorem vLt_irr (a : List Int) : ¬ vLt a a := fLt_irr _
theorem vLt_tr {a b c : List Int} (h1 : vLt a b) (h2 : vLt b c) : vLt a c := fLt_tr h1 h2
theorem rwLt_irr (a : pRw) : ¬ rwLt a a := fLt_irr _
theorem rwLt_tr {a b c : pRw} (h1 : rwLt a b) (h2 : rwLt b c) : rwLt a c := fLt_tr h1 h2
theorem vLt_iff {a b : List Int} (h : a.length = b.length) : vLt a b ↔ vCmp a b < 0 := by
  have e : fCmp (0, a) (0, b) = vCmp a b := by
    unfold fCmp
    rw [if_pos rfl, if_pos h]
  unfold vLt fLt
  rw [e]
theorem vLt_tot (a b : List Int) : vLt a b ∨ a = b ∨ vLt b a := by
  rcases fLt_tot (0, a) (0, b) with h | h | h
  · exact .inl h
  · injection h with _ h
    exact .inr (.inl h)
  · exact .inr (.inr h)
def rRw (G : xG_) (p n : Nat) (R : List pRw) : Prop := G 108 p = (R.length : Int) ∧ R.length ≤ 520 ∧ ∀ i, i < R.length → (R.getD i dRw).1.length = n ∧ (∀ j, j < 4 → G 107 ((p * 520 + i) * 4 + j) = (R.getD i dRw).1.getD j 0) ∧ G 109 (p * 520 + i) = (R.getD i dRw).2
def rRr (p : Nat) (G : xG_) (i : Nat) (G' : xG_) (i' : Nat) : Prop := (∀ j, j < 4 → G' 107 ((p * 520 + i') * 4 + j) = G 107 ((p * 520 + i) * 4 + j)) ∧ G' 109 (p * 520 + i') = G 109 (p * 520 + i)
theorem rRr.tr {p i j k : Nat} {G G1 G2 : xG_} (h1 : rRr p G i G1 j) (h2 : rRr p G1 j G2 k) : rRr p G i G2 k := ⟨fun m hm => (h2.1 m hm).trans (h1.1 m hm), h2.2.trans h1.2⟩
theorem rRr.rf (p i : Nat) (G : xG_) : rRr p G i G i := ⟨fun _ _ => rfl, rfl⟩
/-- only rows of p have changed -/
def xfw (p : Nat) (G G' : xG_) : Prop := ∀ a j, ¬ (a = 107 ∧ p * 520 * 4 ≤ j ∧ j < (p * 520 + 520) * 4) → ¬ (a = 108 ∧ j = p) → ¬ (a = 109 ∧ p * 520 ≤ j ∧ j < p * 520 + 520) → G' a j = G a j
theorem xl107 : ((xl_t 107).2.2 : Int) = 33280 := by decide +kernel
section
variable {f p n c i : Nat} {G : xG_} {R : List pRw} {xs : List Int}
theorem l_261 {k : Nat} (hp : p < 16) (hk : k ≤ 520) : g261 f (p : Int) (k : Int) G = some ((((p * 520 + k) * 4 : Nat) : Int), G) := by
  unfold g261
  rw [xwr_g ((p : Int) * 520) (by omega) (by omega), xwr_g ((p : Int) * 520 + (k : Int)) (by omega) (by omega), xwr_g _ (by omega) (by omega)]
  congr 2
theorem rRw.ve {k : Nat} (h : rRw G p n R) (hp : p < 16) (hn : n ≤ 4) (hk : k < R.length) : rVe G 107 ((p * 520 + k) * 4) (R.getD k dRw).1 := by
  obtain ⟨a1, a2, a3⟩ := h
  obtain ⟨b1, b2, b3⟩ := a3 k hk
  exact ⟨by rw [xl107, b1]; omega, by omega, by omega, fun j hj => b2 j (by omega)⟩
/-- placeOf -/
theorem l_263 (hf : 600 < f) (hp : p < 16) (hn : n ≤ 4) (h : rRw G p n R) (h4 : G 4 p = (n : Int)) (hx : rVe G c i xs) (hxn : xs.length = n) :
    ∃ r : Int, g263 f (p : Int) c (i : Int) G = some (r, G) ∧ ((r = -1 ∧ ∀ y, y ∈ R → y.1 ≠ xs) ∨ ∃ k : Nat, k < R.length ∧ r = (k : Int) ∧ (R.getD k dRw).1 = xs) := by
  have hl := h.2.1
  have loop : ∀ (d k fu : Nat), k + d = R.length → d < fu → (∀ j, j < k → (R.getD j dRw).1 ≠ xs) → ∃ r : Int, g263_3 f fu (p : Int) c (i : Int) (k : Int) G = some (r, G) ∧ ((r = -1 ∧ ∀ y, y ∈ R → y.1 ≠ xs) ∨ ∃ k : Nat, k < R.length ∧ r = (k : Int) ∧ (R.getD k dRw).1 = xs) := by
    intro d
    induction d with
    | zero =>
      intro k fu h1 h2 h3
      obtain ⟨fu, rfl⟩ : ∃ t, fu = t + 1 := ⟨fu - 1, by omega⟩
      refine ⟨-1, ?_, .inl ⟨rfl, fun y hy => ?_⟩⟩
      · show g263_3b (g263_3 f fu) f _ _ _ _ _ = _
        unfold g263_3b
        rw [if_pos (by omega), Int.toNat_natCast, h.1, if_pos (by omega)]
      · obtain ⟨j, hj, rfl⟩ := List.getElem_of_mem hy
        have := h3 j (by omega)
        rw [getD_e hj] at this
        exact this
    | succ d ih =>
      intro k fu h1 h2 h3
      obtain ⟨fu, rfl⟩ : ∃ t, fu = t + 1 := ⟨fu - 1, by omega⟩
      have hk : k < R.length := by omega
      have e3 : xwr ((k : Int) + 1) = ((k + 1 : Nat) : Int) := by rw [xwr_g _ (by omega) (by omega)]; omega
      have hk1 := (h.2.2 k hk).1
      have step : g263_3 f (fu + 1) (p : Int) c (i : Int) (k : Int) G = if ¬ vCmp (R.getD k dRw).1 xs = 0 then g263_3 f fu (p : Int) c (i : Int) ((k + 1 : Nat) : Int) G else some ((k : Int), G) := by
        show g263_3b (g263_3 f fu) f _ _ _ _ _ = _
        unfold g263_3b
        rw [if_pos (by omega), Int.toNat_natCast, h.1, if_neg (by omega), l_261 hp (by omega), Option.bind_some, if_pos (by omega)]
        show Option.bind (g262 f 107 _ c (i : Int) (G 4 p) G) _ = _
        rw [h4, l_262 (by omega) (h.ve hp hn hk) hx hk1 hxn, Option.bind_some, e3]
      rw [step]
      by_cases c1 : vCmp (R.getD k dRw).1 xs = 0
      · rw [if_neg (fun q => q c1)]
        exact ⟨_, rfl, .inr ⟨k, hk, rfl, vCmp_eq (by omega) c1⟩⟩
      · rw [if_pos c1]
        refine ih (k + 1) fu (by omega) (by omega) (fun j hj => ?_)
        by_cases cj : j = k
        · rw [cj]
          intro q
          exact c1 (by rw [q]; exact vCmp_self xs)
        · exact h3 j (by omega)
  unfold g263
  exact loop R.length 0 f (by omega) (by omega) (fun j hj => absurd hj (by omega))
theorem l_264_58 {r20 : Int → Nat → Int → Int → Int → xG_ → Option xG_} {u v : Int} {k : Nat} (hp : p < 16) (hk : k < 519) : ∀ (d j fu : Nat) (G : xG_), j + d = 4 → d < fu → ∃ G', g264_58 r20 f fu (p : Int) c u v ((k + 1 : Nat) : Int) (j : Int) G = r20 (p : Int) c u v (k : Int) G' ∧ (∀ z, j ≤ z → z < 4 → G' 107 ((p * 520 + (k + 1)) * 4 + z) = G 107 ((p * 520 + k) * 4 + z)) ∧ G' 109 (p * 520 + (k + 1)) = G 109 (p * 520 + k) ∧ ∀ a z, ¬ (a = 107 ∧ (p * 520 + (k + 1)) * 4 + j ≤ z ∧ z < (p * 520 + (k + 1)) * 4 + 4) → ¬ (a = 109 ∧ z = p * 520 + (k + 1)) → G' a z = G a z := by
  intro d
  induction d with
  | zero =>
    intro j fu G h1 h2
    obtain ⟨fu, rfl⟩ : ∃ t, fu = t + 1 := ⟨fu - 1, by omega⟩
    have e1 : xwr (xwr ((p : Int) * 520) + ((k + 1 : Nat) : Int)) = ((p * 520 + (k + 1) : Nat) : Int) := by
      rw [xwr_g ((p : Int) * 520) (by omega) (by omega), xwr_g _ (by omega) (by omega)]; omega
    have e2 : xwr (((p * 520 + (k + 1) : Nat) : Int) - 1) = ((p * 520 + k : Nat) : Int) := by rw [xwr_g _ (by omega) (by omega)]; omega
    have e3 : xwr (((k + 1 : Nat) : Int) + -1) = (k : Int) := by rw [xwr_g _ (by omega) (by omega)]; omega
    refine ⟨xup2 G 109 (p * 520 + (k + 1)) (G 109 (p * 520 + k)), ?_, fun z _ _ => by omega, xup2_s _ _ _ _, fun a z _ h => xup2_n h⟩
    show g264_58b r20 (g264_58 r20 f fu) f _ _ _ _ _ _ _ = _
    unfold g264_58b
    rw [if_pos (by omega), e1, e2, if_pos (by omega), if_pos (by omega), Int.toNat_natCast, Int.toNat_natCast, Option.bind_some, e3]
  | succ d ih =>
    intro j fu G h1 h2
    obtain ⟨fu, rfl⟩ : ∃ t, fu = t + 1 := ⟨fu - 1, by omega⟩
    obtain ⟨G', k1, k2, k3, k4⟩ := ih (j + 1) fu (xup2 G 107 ((p * 520 + (k + 1)) * 4 + j) (G 107 ((p * 520 + k) * 4 + j))) (by omega) (by omega)
    have e1 : xwr (((k + 1 : Nat) : Int) - 1) = (k : Int) := by rw [xwr_g _ (by omega) (by omega)]; omega
    have e2 : xwr ((((p * 520 + k) * 4 : Nat) : Int) + (j : Int)) = (((p * 520 + k) * 4 + j : Nat) : Int) := by rw [xwr_g _ (by omega) (by omega)]; omega
    have e3 : xwr ((((p * 520 + (k + 1)) * 4 : Nat) : Int) + (j : Int)) = (((p * 520 + (k + 1)) * 4 + j : Nat) : Int) := by rw [xwr_g _ (by omega) (by omega)]; omega
    have e4 : xwr ((j : Int) + 1) = ((j + 1 : Nat) : Int) := by rw [xwr_g _ (by omega) (by omega)]; omega
    refine ⟨G', ?_, fun z y1 y2 => ?_, by rw [k3, xup2_n (by omega)], fun a z y1 y2 => by rw [k4 a z (by omega) y2, xup2_n (by omega)]⟩
    · rw [← k1]
      show g264_58b r20 (g264_58 r20 f fu) f _ _ _ _ _ _ _ = _
      unfold g264_58b
      rw [if_neg (by omega), l_261 hp (by omega), Option.bind_some, e1, l_261 hp (by omega), Option.bind_some]
      simp only [e2, e3]
      rw [if_pos (by omega), if_pos (by omega), Int.toNat_natCast, Int.toNat_natCast, Option.bind_some, e4]
    · by_cases cz : z = j
      · rw [cz, k4 _ _ (by omega) (by omega), xup2_s]
      · rw [k2 z (by omega) y2, xup2_n (by omega)]
theorem l_264_139 {u : Int} {k : Nat} {G0 : xG_} (hp : p < 16) (hk : k < 520) (hn : n ≤ 4) (hc : c ≠ 107) (hv : rVe G0 c i xs) (hxn : xs.length = n) : ∀ (d j fu : Nat) (G : xG_), j + d = 4 → d < fu → (∀ z, G c z = G0 c z) → G 4 p = (n : Int) → 0 ≤ G 108 p → G 108 p < 600 →
    ∃ G', g264_139 f fu (p : Int) c (i : Int) u (k : Int) (j : Int) G = some G' ∧ (∀ z, j ≤ z → z < 4 → G' 107 ((p * 520 + k) * 4 + z) = xs.getD z 0) ∧ G' 109 (p * 520 + k) = u ∧ G' 108 p = G 108 p + 1 ∧ ∀ a z, ¬ (a = 107 ∧ (p * 520 + k) * 4 + j ≤ z ∧ z < (p * 520 + k) * 4 + 4) → ¬ (a = 109 ∧ z = p * 520 + k) → ¬ (a = 108 ∧ z = p) → G' a z = G a z := by
  obtain ⟨v1, v2, v3, v4⟩ := hv
  intro d
  induction d with
  | zero =>
    intro j fu G h1 h2 he h4 y1 y2
    obtain ⟨fu, rfl⟩ : ∃ t, fu = t + 1 := ⟨fu - 1, by omega⟩
    have e1 : xwr (xwr ((p : Int) * 520) + (k : Int)) = ((p * 520 + k : Nat) : Int) := by
      rw [xwr_g ((p : Int) * 520) (by omega) (by omega), xwr_g _ (by omega) (by omega)]; omega
    refine ⟨xup2 (xup2 G 109 (p * 520 + k) u) 108 p (G 108 p + 1), ?_, fun z _ _ => by omega, by rw [xup2_n (by omega), xup2_s], xup2_s _ _ _ _, fun a z _ q1 q2 => by rw [xup2_n q2, xup2_n q1]⟩
    show g264_139b (g264_139 f fu) f _ _ _ _ _ _ _ = _
    unfold g264_139b
    rw [if_pos (by omega), e1, if_pos (by omega), Int.toNat_natCast, Option.bind_some, if_pos (by omega), if_pos (by omega), Int.toNat_natCast, xup2_n (by omega), xwr_g _ (by omega) (by omega), Option.bind_some]
  | succ d ih =>
    intro j fu G h1 h2 he h4 y1 y2
    obtain ⟨fu, rfl⟩ : ∃ t, fu = t + 1 := ⟨fu - 1, by omega⟩
    have e3 : xwr ((((p * 520 + k) * 4 : Nat) : Int) + (j : Int)) = (((p * 520 + k) * 4 + j : Nat) : Int) := by rw [xwr_g _ (by omega) (by omega)]; omega
    have e4 : xwr ((j : Int) + 1) = ((j + 1 : Nat) : Int) := by rw [xwr_g _ (by omega) (by omega)]; omega
    have step : g264_139 f (fu + 1) (p : Int) c (i : Int) u (k : Int) (j : Int) G = g264_139 f fu (p : Int) c (i : Int) u (k : Int) ((j + 1 : Nat) : Int) (xup2 G 107 ((p * 520 + k) * 4 + j) (xs.getD j 0)) := by
      show g264_139b (g264_139 f fu) f _ _ _ _ _ _ _ = _
      unfold g264_139b g264_183
      rw [if_neg (by omega), l_261 hp (by omega), Option.bind_some, if_pos (by omega)]
      show (if G 4 ((p : Int)).toNat ≤ (j : Int) then _ else _) = _
      rw [Int.toNat_natCast, h4, xl107]
      simp only [e3, e4]
      by_cases cj : n ≤ j
      · have ev : xs.getD j 0 = 0 := by rw [List.getD_eq_getElem?_getD, List.getElem?_eq_none (by omega)]; rfl
        rw [if_pos (by omega), if_pos (by omega), ev, Int.toNat_natCast]
        rfl
      · have ec : xwr ((i : Int) + (j : Int)) = ((i + j : Nat) : Int) := by rw [xwr_g _ (by omega) (by omega)]; omega
        rw [if_neg (by omega), ec, if_pos (by omega), if_pos (by omega), Int.toNat_natCast, Int.toNat_natCast, he, v4 j (by omega)]
        rfl
    obtain ⟨G', k1, k2, k3, k4, k5⟩ := ih (j + 1) fu (xup2 G 107 ((p * 520 + k) * 4 + j) (xs.getD j 0)) (by omega) (by omega) (fun z => by rw [xup2_n (by omega)]; exact he z) (by rw [xup2_n (by omega)]; exact h4) (by rw [xup2_n (by omega)]; exact y1) (by rw [xup2_n (by omega)]; exact y2)
    refine ⟨G', by rw [step]; exact k1, fun z q1 q2 => ?_, k3, by rw [k4, xup2_n (by omega)], fun a z q1 q2 q3 => by rw [k5 a z (by omega) q2 q3, xup2_n (by omega)]⟩
    by_cases cz : z = j
    · rw [cz, k5 _ _ (by omega) (by omega) (by omega), xup2_s]
    · exact k2 z (by omega) q2
end
