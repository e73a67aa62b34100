/-! THE CLASS reads rules: the ITEMS of the HEAD -/
def c43_64t (r64 : Nat → Int → xT_ → Option ((Nat ⊕ Unit) × xT_)) (f : Nat) (x0 : Nat) (x1 : Int) (R222 : ((Nat ⊕ Unit) × xT_)) : Option ((Nat ⊕ Unit) × xT_) := cth R222 (fun _ => ((cq_gr 4 5 20 (x0) R222.2).bind fun v230 => ((cq_gi 6 2 20 (v230) R222.2).bind fun v232 => ((cq_p 6 2 20 (v230) (xwr ((v232) + (1))) R222.2).bind fun T235 => ((cq_gr 4 5 20 (x0) T235).bind fun v239 => ((cq_gi 6 2 20 (v239) T235).bind fun v241 => (if (4) ≤ (v241) then c43_99  f (x0) (x1) T235 else ((cq_is 4 20 (x0) T235).bind fun _ => ((c39 f (x0) T235).bind fun R244 => (if ¬ (R244.1) = 0 then r64 (x0) (x1) R244.2 else c43_99  f (x0) (x1) R244.2))))))))))
theorem c43_64t_e (r64 : Nat → Int → xT_ → Option ((Nat ⊕ Unit) × xT_)) (f : Nat) (x0 : Nat) (x1 : Int) (T : xT_) : c43_64b r64 f x0 x1 T = ((cq_is 4 20 (x0) T).bind fun _ => ((c44 f (x0) T).bind fun R222 => c43_64t r64 f x0 x1 R222)) := rfl
section
variable {f n N w i i' u q l F i0 : Nat} {S : Nat → Nat × Nat × Nat} {G G1 G' G'' : xG_} {m : Nat × Nat} {B : Nat → Int} {t : tStr} {V V' : List (Int × Nat)} {K K' : pCd} {I : List pCd} {g : Int × Int × Int} {x1 : Int}
theorem st_64 {r : Nat → Int → xT_ → Option ((Nat ⊕ Unit) × xT_)} (hs : cSs S) : c43_64b r f 72 x1 (S, G, m) = ((c44 f 72 (S, G, m)).bind fun R => c43_64t r f 72 x1 R) := by
  rw [c43_64t_e]
  simp (disch := omega) only [cq_gi, cq_gr, cq_a, cq_s, cq_p, cq_pr, cq_is, cq_ar, cq_ab, cq_ln, xq_nz, Option.bind_some, xup2_n, xup2_s, Int.toNat_natCast, Int.reduceToNat, if_pos, if_neg, true_and, and_true, and_self, eq_self, if_true, reduceIte, not_true_eq_false, not_false_eq_true, or_true, true_or, s72 hs]
theorem st_64t {r : Nat → Int → xT_ → Option ((Nat ⊕ Unit) × xT_)} (hs : cSs S) (u2 : 278 < u) (us : S u = (1, 6, 20)) (u1 : G 72 5 = (u : Int)) (h2 : G u 2 = (l : Int)) (el : xwr ((l : Int) + 1) = ((l + 1 : Nat) : Int)) : c43_64t r f 72 x1 (.inr (), (S, G, m)) = if 4 ≤ l + 1 then c43_99 f 72 x1 (S, xup2 G u 2 ((l + 1 : Nat) : Int), m) else ((c39 f 72 (S, xup2 G u 2 ((l + 1 : Nat) : Int), m)).bind fun R => if ¬ R.1 = 0 then r 72 x1 R.2 else c43_99 f 72 x1 R.2) := by
  by_cases c : 4 ≤ l + 1
  · rw [if_pos c]
    unfold c43_64t
    simp (disch := omega) only [cq_gi, cq_gr, cq_a, cq_s, cq_p, cq_pr, cq_is, cq_ar, cq_ab, cq_ln, xq_nz, Option.bind_some, xup2_n, xup2_s, Int.toNat_natCast, Int.reduceToNat, if_pos, if_neg, true_and, and_true, and_self, eq_self, if_true, reduceIte, not_true_eq_false, not_false_eq_true, or_true, true_or, s72 hs, us, u1, h2, el, cth]
  · rw [if_neg c]
    unfold c43_64t
    simp (disch := omega) only [cq_gi, cq_gr, cq_a, cq_s, cq_p, cq_pr, cq_is, cq_ar, cq_ab, cq_ln, xq_nz, Option.bind_some, xup2_n, xup2_s, Int.toNat_natCast, Int.reduceToNat, if_pos, if_neg, true_and, and_true, and_self, eq_self, if_true, reduceIte, not_true_eq_false, not_false_eq_true, or_true, true_or, s72 hs, us, u1, h2, el, cth]
theorem cIt.at {v : Int} (hu : 278 < u) (h : cIt G u K g I) : cIt (xup2 G 72 1 v) u K g I := h.rule (fun j _ _ => xup2_n (by omega)) (fun a j _ _ => xup2_n (by omega))
theorem xFi.u2 {v : Int} : xFi u G (xup2 G u 2 v) := xFi.up (k := 2) (by omega)
/-- what is read of ITEMS -/
def cI2 (f : Nat) (S : Nat → Nat × Nat × Nat) (m : Nat × Nat) (B : Nat → Int) (n : Nat) (t : tStr) (N w u : Nat) (G : xG_) (i i0 : Nat) (x1 : Int) (T : Option ((Nat ⊕ Unit) × xT_)) (s' : pIt) : Prop := ∃ G' K', T = c43_99 f 72 x1 (S, G', m) ∧ xFi u G G' ∧ cXr S G' B n t N w u s'.1 K' s'.2.2.2 ∧ K'.length + i0 ≤ s'.2.2.2 ∧ i < s'.2.2.2 ∧ cIt G' u K' s'.2.1 s'.2.2.1
theorem k_64 (hf : 3010 < f) (hok : tOk t) (hvi : vIn t B n) (hF : 4 * N + 2 ≤ F) : ∀ (k : Nat) (V : List (Int × Nat)) (g : Int × Int × Int) (I : List pCd) (i fu : Nat) (G : xG_) (K : pCd), I.length + k = 3 → k < fu → cXr S G B n t N w u V K i → K.length + i0 ≤ i → cIt G u K g I → pok (pbind (pItem t F (V, g, I, i)) (pItems t F k)) (fun x => ∃ G', c43_64 f fu 72 x1 (S, G, m) = some (.inl 0, cWr S G' m (x : Int)) ∧ xFi u G G') (cI2 f S m B n t N w u G i i0 x1 (c43_64 f fu 72 x1 (S, G, m))) := by
  intro k
  induction k with
  | zero =>
    intro V g I i fu G K h1 h2 h hK hI
    obtain ⟨fu, rfl⟩ : ∃ t, fu = t + 1 := ⟨fu - 1, by omega⟩
    have hs := h.1.1
    have u2 := h.2.2.2.1.2.1
    have us := h.2.2.2.1.2.2.1.1
    have el : xwr ((I.length : Int) + 1) = ((I.length + 1 : Nat) : Int) := by rw [xwr_g _ (by omega) (by omega)]; omega
    have e0 := st_64 (f := f) (m := m) (G := G) (x1 := x1) (r := c43_64 f fu) hs
    have p := k_44 (f := f) (m := m) (i0 := i0) hf hok hvi hF h hK hI (by omega)
    show pok _ _ (cI2 f S m B n t N w u G i i0 x1 (c43_64b (c43_64 f fu) f 72 x1 (S, G, m)))
    cases hp : pItem t F (V, g, I, i) with
    | inl x =>
      rw [hp] at p
      obtain ⟨G1, a1, a2⟩ := p
      exact ⟨G1, by show c43_64b (c43_64 f fu) f 72 x1 (S, G, m) = _; rw [e0, a1]; rfl, a2⟩
    | inr s' =>
      rw [hp] at p
      obtain ⟨G1, K1, a1, a2, a3, a4, a5, a6, a7⟩ := p
      have e1 := st_64t (f := f) (m := m) (x1 := x1) (r := c43_64 f fu) hs u2 us a3.2.2.2.1.1 a6 el
      rw [if_pos (by omega)] at e1
      exact ⟨_, K1, by rw [e0, a1]; exact e1, a2.tr xFi.u2, a3.st1 u2 (by omega) (by omega), a4, a5, a7⟩
  | succ k ih =>
    intro V g I i fu G K h1 h2 h hK hI
    obtain ⟨fu, rfl⟩ : ∃ t, fu = t + 1 := ⟨fu - 1, by omega⟩
    have hs := h.1.1
    have u2 := h.2.2.2.1.2.1
    have us := h.2.2.2.1.2.2.1.1
    have el : xwr ((I.length : Int) + 1) = ((I.length + 1 : Nat) : Int) := by rw [xwr_g _ (by omega) (by omega)]; omega
    have e0 := st_64 (f := f) (m := m) (G := G) (x1 := x1) (r := c43_64 f fu) hs
    have p := k_44 (f := f) (m := m) (i0 := i0) hf hok hvi hF h hK hI (by omega)
    show pok _ _ (cI2 f S m B n t N w u G i i0 x1 (c43_64b (c43_64 f fu) f 72 x1 (S, G, m)))
    cases hp : pItem t F (V, g, I, i) with
    | inl x =>
      rw [hp] at p
      obtain ⟨G1, a1, a2⟩ := p
      exact ⟨G1, by show c43_64b (c43_64 f fu) f 72 x1 (S, G, m) = _; rw [e0, a1]; rfl, a2⟩
    | inr s' =>
      rw [hp] at p
      obtain ⟨G1, K1, a1, a2, a3, a4, a5, a6, a7⟩ := p
      have e1 := st_64t (f := f) (m := m) (x1 := x1) (r := c43_64 f fu) hs u2 us a3.2.2.2.1.1 a6 el
      rw [if_neg (by omega)] at e1
      have hI' : s'.2.2.1.length = I.length + 1 := by
        have := a7.1
        rw [xup2_s] at this
        omega
      have hX : cXr S (xup2 G1 u 2 ((I.length + 1 : Nat) : Int)) B n t N w u s'.1 K1 s'.2.2.2 := a3.st1 u2 (by omega) (by omega)
      obtain ⟨g1, g2⟩ := k_39 (f := f) (m := m) hX.1 hX.2.1
      have e2 : c43_64b (c43_64 f fu) f 72 x1 (S, G, m) = ((c39 f 72 (S, xup2 G1 u 2 ((I.length + 1 : Nat) : Int), m)).bind fun R => if ¬ R.1 = 0 then c43_64 f fu 72 x1 R.2 else c43_99 f 72 x1 R.2) := by rw [e0, a1]; exact e1
      show pok (pItems t F (k + 1) s') _ _
      unfold pItems
      by_cases c : kK t s'.2.2.2 = 44
      · rw [if_pos c]
        obtain ⟨b1, b2⟩ := g1 c
        have hlt := (hX.1.lt hX.2.1 (by omega)).1
        obtain ⟨d1, d2⟩ := hX.at b2 (by omega)
        have q := ih s'.1 s'.2.1 s'.2.2.1 (s'.2.2.2 + 1) fu _ K1 (by omega) (by omega) d2 (by omega) (a7.at u2)
        have e3 : c43_64b (c43_64 f fu) f 72 x1 (S, G, m) = c43_64 f fu 72 x1 (S, xup2 (xup2 G1 u 2 ((I.length + 1 : Nat) : Int)) 72 1 ((min (s'.2.2.2 + 1) N : Nat) : Int), m) := by rw [e2, b1]; rfl
        have f3 := (a2.tr (xFi.u2 (v := ((I.length + 1 : Nat) : Int)))).tr d1.fi
        show pok (pbind (pItem t F (s'.1, s'.2.1, s'.2.2.1, s'.2.2.2 + 1)) fun s' => pItems t F k s') _ _
        cases hz : (pbind (pItem t F (s'.1, s'.2.1, s'.2.2.1, s'.2.2.2 + 1)) fun s' => pItems t F k s') with
        | inl x =>
          have q' : pok (pbind (pItem t F (s'.1, s'.2.1, s'.2.2.1, s'.2.2.2 + 1)) fun s' => pItems t F k s') _ _ := q
          rw [hz] at q'
          obtain ⟨G2, y1, y2⟩ := q'
          exact ⟨G2, e3.trans y1, f3.tr y2⟩
        | inr z =>
          have q' : pok (pbind (pItem t F (s'.1, s'.2.1, s'.2.2.1, s'.2.2.2 + 1)) fun s' => pItems t F k s') _ _ := q
          rw [hz] at q'
          obtain ⟨G2, K2, y1, y2, y3, y4, y5, y6⟩ := q'
          exact ⟨G2, K2, e3.trans y1, f3.tr y2, y3, y4, by omega, y6⟩
      · rw [if_neg c]
        exact ⟨_, K1, by rw [e2, g2 c]; rfl, a2.tr xFi.u2, hX, a4, a5, a7⟩
end
