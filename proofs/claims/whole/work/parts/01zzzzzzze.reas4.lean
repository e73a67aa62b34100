/-! reason() and thrown() of the reference -/
section
variable {f m n hr : Nat} {T : List (List Int)} {lns : Nat → sLn}
theorem l_374_58 {p i : Nat} {k rk : Int} {L : List pRw} {w : Nat} (hp : p < 16) (hi : i < L.length) : ∀ (d j fu : Nat) (G : xG_), j + d = 4 → d < fu → rRw G p w L →
    ∃ G', g374_58 f fu (p : Int) (i : Int) k rk (j : Int) G = g374_99 f f (p : Int) k rk 0 G' ∧ G' 0 54 = 0 ∧ (∀ z, j ≤ z → z < 4 → G' 118 z = (L.getD i dRw).1.getD z 0) ∧ ∀ a z, ¬ (a = 0 ∧ z = 54) → ¬ (a = 118 ∧ j ≤ z) → G' a z = G a z := by
  intro d
  induction d with
  | zero =>
    intro j fu G h1 h2 hR
    obtain ⟨fu, rfl⟩ : ∃ t, fu = t + 1 := ⟨fu - 1, by omega⟩
    refine ⟨xup2 G 0 54 0, ?_, xup2_s _ _ _ _, fun z _ _ => by omega, fun a z q1 q2 => xup2_n (by omega)⟩
    show g374_58b (g374_58 f fu) f _ _ _ _ _ _ = _
    unfold g374_58b
    rw [if_pos (by omega), Option.bind_some]
  | succ d ih =>
    intro j fu G h1 h2 hR
    obtain ⟨fu, rfl⟩ : ∃ t, fu = t + 1 := ⟨fu - 1, by omega⟩
    have hl := hR.2.1
    have ej : xwr ((j : Int) + 1) = ((j + 1 : Nat) : Int) := by rw [xwr_g _ (by omega) (by omega)]; omega
    have ex : xwr ((((p * 520 + i) * 4 : Nat) : Int) + (j : Int)) = (((p * 520 + i) * 4 + j : Nat) : Int) := by rw [xwr_g _ (by omega) (by omega)]; omega
    have hv := (hR.2.2 i hi).2.1 j (by omega)
    obtain ⟨G', u1, u2, u3, u4⟩ := ih (j + 1) fu (xup2 G 118 j ((L.getD i dRw).1.getD j 0)) (by omega) (by omega) ⟨by rw [xup2_n (by omega)]; exact hR.1, hl, fun y hy => ⟨(hR.2.2 y hy).1, fun x hx => by rw [xup2_n (by omega)]; exact (hR.2.2 y hy).2.1 x hx, by rw [xup2_n (by omega)]; exact (hR.2.2 y hy).2.2⟩⟩
    refine ⟨G', ?_, u2, fun z z1 z2 => ?_, fun a z q1 q2 => by rw [u4 a z q1 (by omega), xup2_n (by omega)]⟩
    · show g374_58b (g374_58 f fu) f _ _ _ _ _ _ = _
      unfold g374_58b
      rw [if_neg (by omega), l_261 hp (by omega), Option.bind_some]
      show (if 0 ≤ xwr ((((p * 520 + i) * 4 : Nat) : Int) + (j : Int)) ∧ xwr ((((p * 520 + i) * 4 : Nat) : Int) + (j : Int)) < 33280 then _ else none) = _
      rw [ex, if_pos (by omega), if_pos (by omega), Int.toNat_natCast, Int.toNat_natCast]
      show Option.bind (some (xup2 G 118 j (G 107 ((p * 520 + i) * 4 + j)))) _ = _
      rw [hv, Option.bind_some, ej]
      exact u1
    · by_cases cz : z = j
      · rw [cz, u4 _ _ (by omega) (by omega), xup2_s]
      · exact u3 z (by omega) z2
def stRe (T : List (List Int)) (ln : sLn) (p i k t v : Int) : Prop := ∃ s M, isMo T (lMo ln) s M ∧ ((((0 ≤ p ∧ p < s.1.length) ∧ 0 ≤ i ∧ i < (M p.toNat).length) ∧ t = 0 ∧ ((pIn s.2.1 p = true ∨ k < 0) ∧ v = -1 ∨ pIn s.2.1 p = false ∧ 0 ≤ k ∧ rsA s M p.toNat ((M p.toNat).getD i.toNat dRw).1 ((M p.toNat).getD i.toNat dRw).2 k v)) ∨ (¬ ((0 ≤ p ∧ p < s.1.length) ∧ 0 ≤ i ∧ i < (M p.toNat).length) ∧ t = 1 ∧ v = 0))
theorem l_374 {G : xG_} {p i k : Int} (hf : 1000100 < f) (hk : k < 2147483648) (h : rHb G T m lns hr n) :
    ∃ t v G', g374 f p i k G = some (v, G') ∧ stRe T (lns hr) p i k t v ∧ rHb G' T m lns hr n ∧ G' 0 74 = t ∧ G' 0 63 = G 0 63 ∧ xfHo G G' := by
  obtain ⟨G1, q, c, s, M, k1, k2, k3, k4, k5, k6, k7⟩ := l_ld0 hf h
  have hok := k2.2.2.1
  have hT : qTb s M := k2.2.2.2.2.1.1.1
  have hnp := hok.1.1
  have e1 := l_371 (f := f) (p := p) (i := i) hok k3
  have e0 : g374 f p i k G = ((g371 f p i G1).bind fun R180 => (if ¬ (R180.1) = 0 then (if 0 ≤ p ∧ p < 16 then (if ¬ (R180.2 (2 + 6) p.toNat) = 0 then g374_39 f R180.2 else (if 0 ≤ k then (if 0 ≤ (xwr ((xwr (p * (520))) + i)) ∧ (xwr ((xwr (p * (520))) + i)) < 8320 then g374_58 f f p i k (R180.2 109 (xwr ((xwr (p * (520))) + i)).toNat) 0 R180.2 else none) else g374_39 f R180.2)) else none) else ((g321 f R180.2).bind fun R190 => (some (R190.1, R190.2))))) := by
    unfold g374
    rw [Option.bind_some, k1, Option.bind_some]
  rw [e1, Option.bind_some] at e0
  by_cases ci : (0 ≤ p ∧ p < s.1.length) ∧ 0 ≤ i ∧ i < (M p.toNat).length
  · rw [if_pos ci] at e0
    replace e0 : g374 f p i k G = (if ¬ (1 : Int) = 0 then (if 0 ≤ p ∧ p < 16 then (if ¬ (G1 (2 + 6) p.toNat) = 0 then g374_39 f G1 else (if 0 ≤ k then (if 0 ≤ (xwr ((xwr (p * (520))) + i)) ∧ (xwr ((xwr (p * (520))) + i)) < 8320 then g374_58 f f p i k (G1 109 (xwr ((xwr (p * (520))) + i)).toNat) 0 G1 else none) else g374_39 f G1)) else none) else ((g321 f G1).bind fun R190 => (some (R190.1, R190.2)))) := e0
    rw [if_pos (by decide), if_pos (by omega)] at e0
    obtain ⟨p, rfl⟩ : ∃ x : Nat, p = (x : Int) := ⟨p.toNat, by omega⟩
    obtain ⟨i, rfl⟩ : ∃ x : Nat, i = (x : Int) := ⟨i.toNat, by omega⟩
    have hp : p < s.1.length := by omega
    have hi : i < (M p).length := by have := ci.2.2; rw [Int.toNat_natCast] at this; omega
    have h8 : G1 (2 + 6) p = b01 (pIn s.2.1 (p : Int)) := (k3.1.2.2.2.1 p (by omega)).1
    have hrow := (k3.2.2.2 p hp).1
    have hl100 := (hT p hp).1
    rw [Int.toNat_natCast, h8] at e0
    have ex : xwr (xwr ((p : Int) * 520) + (i : Int)) = ((p * 520 + i : Nat) : Int) := by
      rw [xwr_g ((p : Int) * 520) (by omega) (by omega), xwr_g _ (by omega) (by omega)]; omega
    cases hin : pIn s.2.1 (p : Int) with
    | true =>
      rw [hin] at e0
      rw [if_pos (by decide)] at e0
      exact ⟨0, -1, G1, e0, ⟨s, M, k2, .inl ⟨ci, rfl, .inl ⟨.inl hin, rfl⟩⟩⟩, k4, k5, k6, k7⟩
    | false =>
      rw [hin] at e0
      rw [if_neg (by decide)] at e0
      by_cases ck : 0 ≤ k
      · rw [if_pos ck, ex, if_pos (by omega), Int.toNat_natCast, (hrow.2.2 i hi).2.2] at e0
        obtain ⟨G2, u1, u2, u3, u4⟩ := l_374_58 (f := f) (p := p) (i := i) (k := k) (rk := ((M p).getD i dRw).2) (L := M p) (w := qN s p) (by omega) hi 4 0 f G1 (by omega) (by omega) hrow
        have hE2 : rEn G2 q c s M := k3.ge (fun a j _ _ => u4 _ _ (by omega) (by omega)) (fun a j _ _ => u4 _ _ (by omega) (by omega))
        have hmem : (M p).getD i dRw ∈ M p := mem_get.mpr ⟨i, hi, rfl⟩
        obtain ⟨v, G3, v1, v2, v3⟩ := l_374_99 (f := f) (q := q) (c := c) (p := p) (s := s) (M := M) (as := ((M p).getD i dRw).1) (rk := ((M p).getD i dRw).2) (k := k) hf hok hT hp ((hT p hp).2.2 _ hmem).1 ck hk s.2.2.2.2.1.length 0 f G2 (by omega) (by have := hE2.1.2.2.1.2.1; omega) hE2 u2 (fun j hj => u3 j (Nat.zero_le _) hj) (fun i' hi' => absurd hi' (Nat.not_lt_zero _))
        have z : ∀ a j, ¬ (a = 0 ∧ 37 ≤ j ∧ j ≤ 61) → ¬ (110 ≤ a ∧ a ≤ 121) → G3 a j = G1 a j := fun a j y1 y2 => by rw [v3 a j y1 (by omega), u4 a j (by omega) (by omega)]
        refine ⟨0, v, G3, ?_, ⟨s, M, k2, .inl ⟨ci, rfl, .inr ⟨hin, ck, by rw [Int.toNat_natCast, Int.toNat_natCast]; exact v2⟩⟩⟩, k4.ge (fun j _ => z _ _ (by omega) (by omega)) (fun a j _ _ => z _ _ (by omega) (by omega)) (fun a j _ _ => z _ _ (by omega) (by omega)) (fun a j _ _ _ => z _ _ (by omega) (by omega)), by rw [z _ _ (by omega) (by omega)]; exact k5, by rw [z _ _ (by omega) (by omega)]; exact k6, fun a j y1 y2 y3 y4 y5 => by rw [z a j (by omega) (by omega)]; exact k7 a j y1 y2 y3 y4 y5⟩
        rw [e0]
        have u1' : g374_58 f f (p : Int) (i : Int) k ((M p).getD i dRw).2 0 G1 = _ := u1
        rw [u1']
        exact v1
      · rw [if_neg ck] at e0
        exact ⟨0, -1, G1, e0, ⟨s, M, k2, .inl ⟨ci, rfl, .inl ⟨.inr (by omega), rfl⟩⟩⟩, k4, k5, k6, k7⟩
  · rw [if_neg ci] at e0
    replace e0 : g374 f p i k G = some (0, xup2 G1 0 74 1) := e0
    obtain ⟨z1, z2, z3, z4⟩ := k4.lost k6 k7
    exact ⟨1, 0, _, e0, ⟨s, M, k2, .inr ⟨ci, rfl, rfl⟩⟩, z1, z2, z3, z4⟩
end
