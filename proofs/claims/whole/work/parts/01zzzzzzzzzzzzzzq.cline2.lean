/-! THE CLASS: a line: append() -/
/-- over the last k rounds -/
def sR9 (g : Nat → Nat) (R : Nat) : Nat → Nat
  | 0 => 0
  | k + 1 => sR9 g R k + g (R - k)
def okK9 (mv tl tk : Nat → Nat) (R k : Nat) : Prop := sR9 mv R k ≤ 8000 ∧ sR9 tl R k ≤ 100 ∧ sR9 tk R k ≤ 7
theorem okK9.le {mv tl tk : Nat → Nat} {R : Nat} : ∀ {d k : Nat}, okK9 mv tl tk R (k + d) → okK9 mv tl tk R k
  | 0, _, h => h
  | d + 1, k, h => by
    have h' : okK9 mv tl tk R ((k + d) + 1) := h
    have : okK9 mv tl tk R (k + d) := by
      obtain ⟨h1, h2, h3⟩ := h'
      have e1 : sR9 mv R (k + d + 1) = sR9 mv R (k + d) + mv (R - (k + d)) := rfl
      have e2 : sR9 tl R (k + d + 1) = sR9 tl R (k + d) + tl (R - (k + d)) := rfl
      have e3 : sR9 tk R (k + d + 1) = sR9 tk R (k + d) + tk (R - (k + d)) := rfl
      exact ⟨by omega, by omega, by omega⟩
    exact okK9.le this
section
variable {f ln R old : Nat} {S : Nat → Nat × Nat × Nat} {G : xG_} {m : Nat × Nat} {mv tl tk mo : Nat → Nat}
theorem k_11l (ls : lnSt S ln) (g0 : G ln 0 = ((ln + 1 : Nat) : Int)) (g2 : G ln 2 = (old : Int)) (hR : R < 520) (ho : old ≤ R) (hm : ∀ r, old < r → r ≤ R → G (ln + 1) r = (mo r : Int) ∧ S (mo r) = (1, 2, 8) ∧ G (mo r) 4 = (mv r : Int) ∧ G (mo r) 5 = (tl r : Int) ∧ G (mo r) 6 = (tk r : Int)) (hb : ∀ r, mv r ≤ 100000 ∧ tl r ≤ 100000 ∧ tk r ≤ 100000) : ∀ (d k fu : Nat), k + d = R - old → d < fu → okK9 mv tl tk R k → ∃ k', c11_39 f fu ln (sR9 mv R k : Int) (sR9 tl R k : Int) (sR9 tk R k : Int) ((R - k : Nat) : Int) ((R - k : Nat) : Int) (S, G, m) = some (S, xup2 G ln 2 ((R - k' : Nat) : Int), m) ∧ okK9 mv tl tk R k' ∧ k' ≤ R - old ∧ ∀ k, k' < k → k ≤ R - old → ¬ okK9 mv tl tk R k := by
  intro d
  induction d with
  | zero =>
    intro k fu e1 e2 h
    obtain ⟨fu, rfl⟩ : ∃ t, fu = t + 1 := ⟨fu - 1, by omega⟩
    refine ⟨k, ?_, h, by omega, fun k' h1 h2 => by omega⟩
    show c11_39b (c11_39 f fu) f ln _ _ _ _ _ _ = _
    unfold c11_39b c11_124
    rw [o_gi ls.1, Option.bind_some, g2, if_pos (by omega), o_p ls.1, Option.bind_some]
  | succ d ih =>
    intro k fu e1 e2 h
    obtain ⟨fu, rfl⟩ : ∃ t, fu = t + 1 := ⟨fu - 1, by omega⟩
    obtain ⟨m1, m2, m3, m4, m5⟩ := hm (R - k) (by omega) (by omega)
    obtain ⟨b1, b2, b3⟩ := hb (R - k)
    obtain ⟨o1, o2, o3⟩ := id h
    have s1 : sR9 mv R (k + 1) = sR9 mv R k + mv (R - k) := rfl
    have s2 : sR9 tl R (k + 1) = sR9 tl R k + tl (R - k) := rfl
    have s3 : sR9 tk R (k + 1) = sR9 tk R k + tk (R - k) := rfl
    have w1 : xwr ((sR9 mv R k : Int) + (mv (R - k) : Int)) = (sR9 mv R (k + 1) : Int) := by rw [xwr_g _ (by omega) (by omega)]; omega
    have w2 : xwr ((sR9 tl R k : Int) + (tl (R - k) : Int)) = (sR9 tl R (k + 1) : Int) := by rw [xwr_g _ (by omega) (by omega)]; omega
    have w3 : xwr ((sR9 tk R k : Int) + (tk (R - k) : Int)) = (sR9 tk R (k + 1) : Int) := by rw [xwr_g _ (by omega) (by omega)]; omega
    have w4 : xwr (((R - k : Nat) : Int) - 1) = ((R - (k + 1) : Nat) : Int) := by rw [xwr_g _ (by omega) (by omega)]; omega
    have w5 : xwr (((R - k : Nat) : Int) + -1) = ((R - (k + 1) : Nat) : Int) := by rw [xwr_g _ (by omega) (by omega)]; omega
    have ear := o_ar (S := S) (G := G) (m := m) ls.2.1 (by decide : 5 ≤ 7) (by omega : R - k < 520) m1
    have g4 : cq_gi 2 4 8 (mo (R - k)) (S, G, m) = some (mv (R - k) : Int) := by rw [o_gi m2, m3]
    have g5 : cq_gi 2 5 8 (mo (R - k)) (S, G, m) = some (tl (R - k) : Int) := by rw [o_gi m2, m4]
    have g6 : cq_gi 2 6 8 (mo (R - k)) (S, G, m) = some (tk (R - k) : Int) := by rw [o_gi m2, m5]
    have e0 : c11_39 f (fu + 1) ln (sR9 mv R k : Int) (sR9 tl R k : Int) (sR9 tk R k : Int) ((R - k : Nat) : Int) ((R - k : Nat) : Int) (S, G, m) = if (8000 : Int) < (sR9 mv R (k + 1) : Int) then some (S, xup2 G ln 2 ((R - k : Nat) : Int), m) else if (100 : Int) < (sR9 tl R (k + 1) : Int) then some (S, xup2 G ln 2 ((R - k : Nat) : Int), m) else if (sR9 tk R (k + 1) : Int) ≤ 7 then c11_39 f fu ln (sR9 mv R (k + 1) : Int) (sR9 tl R (k + 1) : Int) (sR9 tk R (k + 1) : Int) ((R - (k + 1) : Nat) : Int) ((R - (k + 1) : Nat) : Int) (S, G, m) else some (S, xup2 G ln 2 ((R - k : Nat) : Int), m) := by
      show c11_39b (c11_39 f fu) f ln _ _ _ _ _ _ = _
      unfold c11_39b c11_124
      rw [o_gi ls.1, Option.bind_some, g2, if_neg (by omega), o_gr ls.1 g0, Option.bind_some, ear, Option.bind_some, g4, Option.bind_some, Option.bind_some, ear, Option.bind_some, g5, Option.bind_some, Option.bind_some, ear, Option.bind_some, g6, Option.bind_some, w1, w2, w3, w4, w5, o_p ls.1, Option.bind_some]
    have stop : ¬ okK9 mv tl tk R (k + 1) → ∀ k', k < k' → k' ≤ R - old → ¬ okK9 mv tl tk R k' := fun hn k' h1 _ ho => hn (by
      have e : k' = (k + 1) + (k' - (k + 1)) := by omega
      rw [e] at ho
      exact ho.le)
    rw [e0]
    by_cases c1 : (8000 : Int) < (sR9 mv R (k + 1) : Int)
    · rw [if_pos c1]
      exact ⟨k, rfl, h, by omega, stop (fun z => by have := z.1; omega)⟩
    · rw [if_neg c1]
      by_cases c2 : (100 : Int) < (sR9 tl R (k + 1) : Int)
      · rw [if_pos c2]
        exact ⟨k, rfl, h, by omega, stop (fun z => by have := z.2.1; omega)⟩
      · rw [if_neg c2]
        by_cases c3 : (sR9 tk R (k + 1) : Int) ≤ 7
        · rw [if_pos c3]
          exact ih (k + 1) fu (by omega) (by omega) ⟨by omega, by omega, by omega⟩
        · rw [if_neg c3]
          exact ⟨k, rfl, h, by omega, stop (fun z => by have := z.2.2; omega)⟩
end
