/-! FAULTS of the reference: kind 4 -/
theorem qIt_lt {np nv : Nat} {l : List pLt} (h : ∀ y ∈ l, wLt np nv y) (hv : nv ≤ 8) : ∀ k s, s < 2 ^ 8 → qIt l k s < 2 ^ 8 := by
  intro k
  induction k with
  | zero => intro s hs; exact hs
  | succ k ih =>
    intro s hs
    show (if qSt l s = s then s else qIt l k (qSt l s)) < 2 ^ 8
    split
    · exact hs
    · exact ih _ (qSt_lt h hv s hs).1
theorem qBd_lt {np nv : Nat} {l : List pLt} (h : ∀ y ∈ l, wLt np nv y) (hv : nv ≤ 8) : qBd l < 2 ^ 8 := qIt_lt h hv _ _ (qA_lt h hv)
section
variable {f o q r c nv np : Nat} {l : List pLt} {V : List (Int × Nat)}
theorem rVs.f26 {G G' : xG_} (h : rVs G o q r V) (ho : 0 < o) (hf : xf26 G G') : rVs G' o q r V := ⟨by rw [hf _ _ (by omega)]; exact h.1, h.2.1, fun v hv => by rw [hf _ _ (by omega), hf _ _ (by omega)]; exact h.2.2 v hv⟩
def isF4 (V : List (Int × Nat)) (l : List pLt) (v : Nat) : Prop := v < V.length ∧ (qBd l).testBit v = false
theorem l_258 {b : Nat} (ho : 0 < o) (hr : r < 25) (hb : b < 2 ^ 8) : ∀ (k v fu : Nat) (G : xG_) (S : Int → Int → Prop), v + k = V.length → k < fu → rVs G o q r V → rF G S → ∃ G', g258_9 f fu o (r : Int) (b : Int) (v : Int) G = some G' ∧ xf26 G G' ∧ rF G' (fun k a => S k a ∨ k = 4 ∧ ∃ y, v ≤ y ∧ y < V.length ∧ b.testBit y = false ∧ a = (q : Int) + (V.getD y (0, 0)).2) := by
  intro k
  induction k with
  | zero =>
    intro v fu G S h1 h2 hV hF
    obtain ⟨fu, rfl⟩ : ∃ t, fu = t + 1 := ⟨fu - 1, by omega⟩
    refine ⟨G, ?_, xf26.rf _, hF.iff (fun k a => ⟨fun h => Or.inl h, fun h => h.elim id (fun h => absurd h.2 (fun ⟨y, a1, a2, _⟩ => by omega))⟩)⟩
    show g258_9b (g258_9 f fu) f _ _ _ _ _ = _
    unfold g258_9b
    rw [if_pos (by omega), Int.toNat_natCast, hV.1, if_pos (by omega)]
  | succ k ih =>
    intro v fu G S h1 h2 hV hF
    obtain ⟨fu, rfl⟩ : ∃ t, fu = t + 1 := ⟨fu - 1, by omega⟩
    have h8 := hV.2.1
    have hx2 : xwr (xwr ((r : Int) * 8) + (v : Int)) = ((8 * r + v : Nat) : Int) := by rw [xwr_g ((r : Int) * 8) (by omega) (by omega), xwr_g _ (by omega) (by omega)]; omega
    have hx3 : xwr ((v : Int) + 1) = ((v + 1 : Nat) : Int) := by rw [xwr_g _ (by omega) (by omega)]; omega
    have hp := (hV.2.2 v (by omega)).2
    cases hbt : b.testBit v with
    | true =>
      obtain ⟨G', e1, e2, e3⟩ := ih (v + 1) fu G S (by omega) (by omega) hV hF
      refine ⟨G', ?_, e2, e3.iff (fun k a => ?_)⟩
      · show g258_9b (g258_9 f fu) f _ _ _ _ _ = _
        unfold g258_9b g258_46
        rw [if_pos (by omega), Int.toNat_natCast, hV.1, if_neg (by omega), if_pos (fun h => by rw [xbit0 (by omega) (by omega), hbt] at h; exact absurd h (by decide)), hx3]
        exact e1
      · constructor
        · rintro (h | ⟨h, y, a1, a2, a3, a4⟩)
          · exact Or.inl h
          · exact Or.inr ⟨h, y, by omega, a2, a3, a4⟩
        · rintro (h | ⟨h, y, a1, a2, a3, a4⟩)
          · exact Or.inl h
          · by_cases cy : y = v
            · rw [cy, hbt] at a3; exact absurd a3 (by decide)
            · exact Or.inr ⟨h, y, by omega, a2, a3, a4⟩
    | false =>
      obtain ⟨G1, d1, d2, d3⟩ := l_faulty (f := f) (k := 4) (a := (q : Int) + (V.getD v (0, 0)).2) (by decide) hF
      obtain ⟨G', e1, e2, e3⟩ := ih (v + 1) fu G1 _ (by omega) (by omega) (hV.f26 ho d3) d2
      refine ⟨G', ?_, d3.tr e2, e3.iff (fun k a => ?_)⟩
      · show g258_9b (g258_9 f fu) f _ _ _ _ _ = _
        unfold g258_9b g258_46
        rw [if_pos (by omega), Int.toNat_natCast, hV.1, if_neg (by omega), if_neg (fun h => h (by rw [xbit0 (by omega) (by omega)]; exact hbt)), hx2, if_pos (by omega), Int.toNat_natCast, hp, d1, Option.bind_some, hx3]
        exact e1
      · constructor
        · rintro ((h | ⟨h, h'⟩) | ⟨h, y, a1, a2, a3, a4⟩)
          · exact Or.inl h
          · exact Or.inr ⟨h, v, Nat.le_refl _, by omega, hbt, h'⟩
          · exact Or.inr ⟨h, y, by omega, a2, a3, a4⟩
        · rintro (h | ⟨h, y, a1, a2, a3, a4⟩)
          · exact Or.inl (Or.inl h)
          · by_cases cy : y = v
            · rw [cy] at a4; exact Or.inl (Or.inr ⟨h, a4⟩)
            · exact Or.inr ⟨h, y, by omega, a2, a3, a4⟩
theorem l_unsafe {G : xG_} {S : Int → Int → Prop} (hf : 6300 < f) (ho : 0 < o) (hr : r < 25) (hc : c ≤ 6200) (hL : rLs G o r c l) (hV : rVs G o q r V) (hw : ∀ y ∈ l, wLt np V.length y) (hF : rF G S) : ∃ G', g258 f o (r : Int) G = some G' ∧ xf26 G G' ∧ rF G' (fun k a => S k a ∨ k = 4 ∧ ∃ v, isF4 V l v ∧ a = (q : Int) + (V.getD v (0, 0)).2) := by
  have hv := hV.2.1
  obtain ⟨G', e1, e2, e3⟩ := l_258 (f := f) (b := qBd l) ho hr (qBd_lt hw hv) V.length 0 f G S (by omega) (by omega) hV hF
  refine ⟨G', ?_, e2, e3.iff (fun k a => ?_)⟩
  · unfold g258
    rw [l_bd hf hr hc hL hw hv, Option.bind_some]
    exact e1
  · constructor
    · rintro (h | ⟨h, y, a1, a2, a3, a4⟩)
      · exact Or.inl h
      · exact Or.inr ⟨h, y, ⟨a2, a3⟩, a4⟩
    · rintro (h | ⟨h, y, ⟨a2, a3⟩, a4⟩)
      · exact Or.inl h
      · exact Or.inr ⟨h, y, Nat.zero_le _, a2, a3, a4⟩
end
