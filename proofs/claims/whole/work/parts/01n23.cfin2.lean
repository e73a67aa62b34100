section
/-! THE CLASS: finish() -/
/-- a rule of the class that is read -/
def cRul (S : Nat → Nat × Nat × Nat) (G : xG_) (u : Nat) (V : List (Int × Nat)) (g : Int × Int × Int) (I : List pCd) (Ls : List pLt) : Prop := ∃ K, cRq S G u K Ls ∧ cIt G u K g I ∧ cPl G u V.length Ls (qAs g I) ∧ G u 6 = (V.length : Int) ∧ V.length ≤ 8 ∧ ∀ v, v < V.length → G (u + 1) v = ((V.getD v (0, 0)).2 : Int)
section
variable {f u nv sl : Nat} {S S' : Nat → Nat × Nat × Nat} {G G' : xG_} {m : Nat × Nat} {K : pCd} {Ls : List pLt} {g : Int × Int × Int} {I : List pCd} {V : List (Int × Nat)}
theorem st_383 {a n : Nat} (hS : S 73 = (2, 3, 3001)) (hn : n ≤ 3000) : c383 f 73 (n : Int) (S, G, (a, sl)) = ((cq_na 3 (n : Int) (S, G, (a, sl))).bind fun p104 => ((cq_ln 73 p104.2).bind fun v109 => ((cq_cp 73 0 p104.1 0 (xmin v109 (n : Int)) p104.2).bind fun T112 => (some (p104.1, T112))))) := by
  unfold c383
  rw [show cq_ln 73 (S, G, (a, sl)) = some 3001 from (by unfold cq_ln; show (if (S 73).1 = 2 ∧ (S 73).2.2 < 2147483648 then some ((S 73).2.2 : Int) else none) = _; rw [hS, if_pos ⟨rfl, by decide⟩]; rfl), Option.bind_some, if_pos (by omega)]
theorem st_384 {a n : Nat} (hS : S 74 = (2, 4, 3001)) (hn : n ≤ 3000) : c384 f 74 (n : Int) (S, G, (a, sl)) = ((cq_na 4 (n : Int) (S, G, (a, sl))).bind fun p104 => ((cq_ln 74 p104.2).bind fun v109 => ((cq_cp 74 0 p104.1 0 (xmin v109 (n : Int)) p104.2).bind fun T112 => (some (p104.1, T112))))) := by
  unfold c384
  rw [show cq_ln 74 (S, G, (a, sl)) = some 3001 from (by unfold cq_ln; show (if (S 74).1 = 2 ∧ (S 74).2.2 < 2147483648 then some ((S 74).2.2 : Int) else none) = _; rw [hS, if_pos ⟨rfl, by decide⟩]; rfl), Option.bind_some, if_pos (by omega)]
theorem cRuS.ge (h : cRuS S u) (h0 : ∀ a, a < u + 11 → S' a = S a) : cRuS S' u := by
  unfold cRuS at h ⊢
  rw [h0 u (by omega), h0 (u + 1) (by omega), h0 (u + 2) (by omega), h0 (u + 3) (by omega), h0 (u + 4) (by omega), h0 (u + 5) (by omega), h0 (u + 6) (by omega), h0 (u + 7) (by omega), h0 (u + 8) (by omega), h0 (u + 9) (by omega), h0 (u + 10) (by omega)]
  exact h
theorem cRuP.ge (h : cRuP G u) (h0 : ∀ j, j ≠ 16 → j ≠ 17 → G' u j = G u j) : cRuP G' u := by
  unfold cRuP at h ⊢
  rw [h0 7 (by decide) (by decide), h0 9 (by decide) (by decide), h0 10 (by decide) (by decide), h0 11 (by decide) (by decide), h0 12 (by decide) (by decide), h0 13 (by decide) (by decide), h0 14 (by decide) (by decide), h0 15 (by decide) (by decide), h0 18 (by decide) (by decide), h0 19 (by decide) (by decide)]
  exact h
theorem cLs.rule (h : cLs G u K Ls) (h0 : G' u 8 = G u 8) (h1 : ∀ a j, u + 2 ≤ a → a ≤ u + 8 → G' a j = G a j) : cLs G' u K Ls := by
  have hl : cLs G' u (K ++ []) Ls := ⟨by rw [h0]; exact h.1, h.2.1, fun l hl => (h.2.2 l hl).ge (fun a z1 z2 => h1 a l (by omega) (by omega)) (fun j _ => ⟨h1 _ j (by omega) (by omega), h1 _ j (by omega) (by omega)⟩) (fun j _ _ => ⟨h1 _ j (by omega) (by omega), h1 _ j (by omega) (by omega)⟩)⟩
  rw [List.append_nil] at hl
  exact hl
theorem cIt.rule (h : cIt G u K g I) (h0 : ∀ j, 2 ≤ j → j ≤ 5 → G' u j = G u j) (h1 : ∀ a j, u + 7 ≤ a → a ≤ u + 8 → G' a j = G a j) : cIt G' u K g I := by
  refine ⟨by rw [h0 2 (by decide) (by decide)]; exact h.1, h.2.1, fun c hc => ?_, fun c z1 z2 => ?_, h.2.2.2.2.ge (fun j z1 z2 => h0 j (by omega) z2)⟩
  · have q := cSg.ge (D := []) (G' := G') (h.2.2.1 c hc) (h1 _ _ (by omega) (by omega)) (h1 _ _ (by omega) (by omega))
    rw [List.append_nil] at q
    exact q
  · rw [h1 _ _ (by omega) (by omega), h1 _ _ (by omega) (by omega)]
    exact h.2.2.2.1 c z1 z2
/-- finish() -/
theorem k_88 (hf : 3010 < f) (hs : cSs S) (hu : 278 < u) (hS : cRuS S u) (hP : cRuP G u) (hL : cLs G u K Ls) (hI : cIt G u K g I) (hC : cCo G K) (hK : K.length ≤ 3000) (hV : G u 6 = (V.length : Int) ∧ V.length ≤ 8 ∧ ∀ v, v < V.length → G (u + 1) v = ((V.getD v (0, 0)).2 : Int)) (hw : ∀ y ∈ Ls, wLv V.length y) (hwI : ∀ E ∈ I, wC V.length E) (hg : g.1 = 0 ∨ g.1 = 10 ∨ 0 ≤ g.2.2 ∧ g.2.2 < V.length) (hz : ∀ k, k < 8 → G (u + 9) k = 0) :
    ∃ S' G', c88 f u 73 74 (K.length : Int) (S, G, (u + 11, sl)) = some (S', G', (u + 13, sl + 2 * K.length)) ∧ (∀ a, a < u + 11 → S' a = S a) ∧ (∀ a j, a < u + 11 → ¬ (a = u ∧ (j = 16 ∨ j = 17)) → a ≠ u + 9 → a ≠ u + 10 → G' a j = G a j) ∧ cRul S' G' u V g I Ls := by
  obtain ⟨S1, G1, a1, a2, a3, a4, a5⟩ := cpy (sl := sl) (G := G) (n := K.length) (a := u + 11) (.inl rfl) (s73 hs) (by omega) (by omega) (by omega)
  have us1 : S1 u = (1, 6, 20) := by rw [a2 u (by omega)]; exact hS.1
  have s74' : S1 74 = (2, 4, 3001) := by rw [a2 74 (by omega)]; exact s74 hs
  obtain ⟨S2, G2, b1, b2, b3, b4, b5⟩ := cpy (sl := sl + K.length) (S := S1) (G := xup2 G1 u 16 ((u + 11 : Nat) : Int)) (n := K.length) (a := u + 12) (.inr rfl) s74' (by omega) (by omega) (by omega)
  have us2 : S2 u = (1, 6, 20) := by rw [b2 u (by omega)]; exact us1
  obtain ⟨G3, hG3⟩ : ∃ G3, G3 = xup2 G2 u 17 ((u + 12 : Nat) : Int) := ⟨_, rfl⟩
  have z3 : ∀ a j, a < u + 11 → ¬ (a = u ∧ (j = 16 ∨ j = 17)) → G3 a j = G a j := fun a j h1 h2 => by
    rw [hG3, xup2_n (fun y => h2 ⟨y.1, .inr y.2⟩), b4 a j (by omega), xup2_n (fun y => h2 ⟨y.1, .inl y.2⟩), a4 a j h1]
  have zS : ∀ a, a < u + 11 → S2 a = S a := fun a h => by rw [b2 a (by omega), a2 a h]
  have hko : cKo S2 G3 u K := by
    refine ⟨?_, ?_, ?_, b3, fun k hk => ?_⟩
    · rw [hG3, xup2_n (by omega), b4 u 16 (by omega), xup2_s]
    · rw [hG3, xup2_s]
    · rw [b2 (u + 11) (by omega)]; exact a3
    · rw [hG3, xup2_n (by omega), xup2_n (by omega), b4 (u + 11) k (by omega), xup2_n (by omega), a5 k hk, b5 k hk, xup2_n (by omega), a4 74 k (by omega)]
      exact hC.2 k hk
  have hR : cRq S2 G3 u K Ls := ⟨hS.ge zS, hP.ge (fun j q1 q2 => z3 u j (by omega) (by omega)), hko, hL.rule (z3 u 8 (by omega) (by omega)) (fun a j q1 q2 => z3 a j (by omega) (by omega)), hu, hK⟩
  have hI3 : cIt G3 u K g I := hI.rule (fun j q1 q2 => z3 u j (by omega) (by omega)) (fun a j q1 q2 => z3 a j (by omega) (by omega))
  obtain ⟨G4, c1, c2, c3⟩ := k_96 (f := f) (m := (u + 13, sl + K.length + K.length)) hf hR hw hV.2.1 hI3 hwI hg (fun k hk => by rw [z3 (u + 9) k (by omega) (by omega)]; exact hz k hk)
  refine ⟨S2, G4, ?_, zS, fun a j q1 q2 q3 q4 => by rw [c2 a j q3 q4, z3 a j q1 q2], K, hR.pl (fun a j q1 q2 => c2 a j q1 q2), hI3.rule (fun j q1 q2 => c2 u j (by omega) (by omega)) (fun a j q1 q2 => c2 a j (by omega) (by omega)), c3, ?_, hV.2.1, fun v hv => ?_⟩
  · unfold c88
    rw [st_383 (s73 hs) hK, a1, Option.bind_some]
    rw [show cq_pr 6 16 20 u (u + 11) (S1, G1, u + 11 + 1, sl + K.length) = some (S1, xup2 G1 u 16 ((u + 11 : Nat) : Int), u + 12, sl + K.length) from if_pos us1, Option.bind_some]
    rw [st_384 s74' hK, b1, Option.bind_some]
    rw [show cq_pr 6 17 20 u (u + 12) (S2, G2, u + 12 + 1, sl + K.length + K.length) = some (S2, xup2 G2 u 17 ((u + 12 : Nat) : Int), u + 13, sl + K.length + K.length) from if_pos us2, Option.bind_some]
    rw [show cq_is 6 20 u (S2, xup2 G2 u 17 ((u + 12 : Nat) : Int), u + 13, sl + K.length + K.length) = some () from if_pos us2, Option.bind_some, ← hG3, c1, Option.bind_some]
    have e : sl + K.length + K.length = sl + 2 * K.length := by omega
    rw [e]
  · rw [c2 u 6 (by omega) (by omega), z3 u 6 (by omega) (by omega)]; exact hV.1
  · rw [c2 (u + 1) v (by omega) (by omega), z3 (u + 1) v (by omega) (by omega)]; exact hV.2.2 v hv
end
end
section
/-! THE CLASS reads rules: the ITEMS of the HEAD -/
def c43_64t (r64 : Nat → Int → xT_ → Option ((Nat ⊕ Unit) × xT_)) (f : Nat) (x0 : Nat) (x1 : Int) (R222 : ((Nat ⊕ Unit) × xT_)) : Option ((Nat ⊕ Unit) × xT_) := cth R222 (fun _ => ((cq_gr 4 5 20 (x0) R222.2).bind fun v230 => ((cq_gi 6 2 20 (v230) R222.2).bind fun v232 => ((cq_p 6 2 20 (v230) (xwr ((v232) + (1))) R222.2).bind fun T235 => ((cq_gr 4 5 20 (x0) T235).bind fun v239 => ((cq_gi 6 2 20 (v239) T235).bind fun v241 => (if (4) ≤ (v241) then c43_99  f (x0) (x1) T235 else ((cq_is 4 20 (x0) T235).bind fun _ => ((c39 f (x0) T235).bind fun R244 => (if ¬ (R244.1) = 0 then r64 (x0) (x1) R244.2 else c43_99  f (x0) (x1) R244.2))))))))))
theorem c43_64t_e (r64 : Nat → Int → xT_ → Option ((Nat ⊕ Unit) × xT_)) (f : Nat) (x0 : Nat) (x1 : Int) (T : xT_) : c43_64b r64 f x0 x1 T = ((cq_is 4 20 (x0) T).bind fun _ => ((c44 f (x0) T).bind fun R222 => c43_64t r64 f x0 x1 R222)) := rfl
section
variable {f n N w i i' u q l F i0 : Nat} {S : Nat → Nat × Nat × Nat} {G G1 G' G'' : xG_} {m : Nat × Nat} {B : Nat → Int} {t : tStr} {V V' : List (Int × Nat)} {K K' : pCd} {I : List pCd} {g : Int × Int × Int} {x1 : Int}
theorem st_64 {r : Nat → Int → xT_ → Option ((Nat ⊕ Unit) × xT_)} (hs : cSs S) : c43_64b r f 72 x1 (S, G, m) = ((c44 f 72 (S, G, m)).bind fun R => c43_64t r f 72 x1 R) := by
  rw [c43_64t_e]
  simp (disch := omega) only [cq_gi, cq_gr, cq_a, cq_s, cq_p, cq_pr, cq_is, cq_ar, cq_ab, cq_ln, xq_nz, Option.bind_some, xup2_n, xup2_s, Int.toNat_natCast, Int.reduceToNat, if_pos, if_neg, true_and, and_true, and_self, eq_self, if_true, reduceIte, not_true_eq_false, not_false_eq_true, or_true, true_or, s72 hs]
theorem st_64t {r : Nat → Int → xT_ → Option ((Nat ⊕ Unit) × xT_)} (hs : cSs S) (u2 : 278 < u) (us : S u = (1, 6, 20)) (u1 : G 72 5 = (u : Int)) (h2 : G u 2 = (l : Int)) (el : xwr ((l : Int) + 1) = ((l + 1 : Nat) : Int)) : c43_64t r f 72 x1 (.inr (), (S, G, m)) = if 4 ≤ l + 1 then c43_99 f 72 x1 (S, xup2 G u 2 ((l + 1 : Nat) : Int), m) else ((c39 f 72 (S, xup2 G u 2 ((l + 1 : Nat) : Int), m)).bind fun R => if ¬ R.1 = 0 then r 72 x1 R.2 else c43_99 f 72 x1 R.2) := by
  by_cases c : 4 ≤ l + 1
  · rw [if_pos c]
    unfold c43_64t
    simp (disch := omega) only [cq_gi, cq_gr, cq_a, cq_s, cq_p, cq_pr, cq_is, cq_ar, cq_ab, cq_ln, xq_nz, Option.bind_some, xup2_n, xup2_s, Int.toNat_natCast, Int.reduceToNat, if_pos, if_neg, true_and, and_true, and_self, eq_self, if_true, reduceIte, not_true_eq_false, not_false_eq_true, or_true, true_or, s72 hs, us, u1, h2, el, cth]
  · rw [if_neg c]
    unfold c43_64t
    simp (disch := omega) only [cq_gi, cq_gr, cq_a, cq_s, cq_p, cq_pr, cq_is, cq_ar, cq_ab, cq_ln, xq_nz, Option.bind_some, xup2_n, xup2_s, Int.toNat_natCast, Int.reduceToNat, if_pos, if_neg, true_and, and_true, and_self, eq_self, if_true, reduceIte, not_true_eq_false, not_false_eq_true, or_true, true_or, s72 hs, us, u1, h2, el, cth]
theorem cIt.at {v : Int} (hu : 278 < u) (h : cIt G u K g I) : cIt (xup2 G 72 1 v) u K g I := h.rule (fun j _ _ => xup2_n (by omega)) (fun a j _ _ => xup2_n (by omega))
theorem xFi.u2 {v : Int} : xFi u G (xup2 G u 2 v) := xFi.up (k := 2) (by omega)
/-- what is read of ITEMS -/
def cI2 (f : Nat) (S : Nat → Nat × Nat × Nat) (m : Nat × Nat) (B : Nat → Int) (n : Nat) (t : tStr) (N w u : Nat) (G : xG_) (i i0 : Nat) (x1 : Int) (T : Option ((Nat ⊕ Unit) × xT_)) (s' : pIt) : Prop := ∃ G' K', T = c43_99 f 72 x1 (S, G', m) ∧ xFi u G G' ∧ cXr S G' B n t N w u s'.1 K' s'.2.2.2 ∧ K'.length + i0 ≤ s'.2.2.2 ∧ i < s'.2.2.2 ∧ cIt G' u K' s'.2.1 s'.2.2.1
theorem k_64 (hf : 3010 < f) (hok : tOk t) (hvi : vIn t B n) (hF : 4 * N + 2 ≤ F) : ∀ (k : Nat) (V : List (Int × Nat)) (g : Int × Int × Int) (I : List pCd) (i fu : Nat) (G : xG_) (K : pCd), I.length + k = 3 → k < fu → cXr S G B n t N w u V K i → K.length + i0 ≤ i → cIt G u K g I → pok (pbind (pItem t F (V, g, I, i)) (pItems t F k)) (fun x => ∃ G', c43_64 f fu 72 x1 (S, G, m) = some (.inl 0, cWr S G' m (x : Int)) ∧ xFi u G G') (cI2 f S m B n t N w u G i i0 x1 (c43_64 f fu 72 x1 (S, G, m))) := by
  intro k
  induction k with
  | zero =>
    intro V g I i fu G K h1 h2 h hK hI
    obtain ⟨fu, rfl⟩ : ∃ t, fu = t + 1 := ⟨fu - 1, by omega⟩
    have hs := h.1.1
    have u2 := h.2.2.2.1.2.1
    have us := h.2.2.2.1.2.2.1.1
    have el : xwr ((I.length : Int) + 1) = ((I.length + 1 : Nat) : Int) := by rw [xwr_g _ (by omega) (by omega)]; omega
    have e0 := st_64 (f := f) (m := m) (G := G) (x1 := x1) (r := c43_64 f fu) hs
    have p := k_44 (f := f) (m := m) (i0 := i0) hf hok hvi hF h hK hI (by omega)
    show pok _ _ (cI2 f S m B n t N w u G i i0 x1 (c43_64b (c43_64 f fu) f 72 x1 (S, G, m)))
    cases hp : pItem t F (V, g, I, i) with
    | inl x =>
      rw [hp] at p
      obtain ⟨G1, a1, a2⟩ := p
      exact ⟨G1, by show c43_64b (c43_64 f fu) f 72 x1 (S, G, m) = _; rw [e0, a1]; rfl, a2⟩
    | inr s' =>
      rw [hp] at p
      obtain ⟨G1, K1, a1, a2, a3, a4, a5, a6, a7⟩ := p
      have e1 := st_64t (f := f) (m := m) (x1 := x1) (r := c43_64 f fu) hs u2 us a3.2.2.2.1.1 a6 el
      rw [if_pos (by omega)] at e1
      exact ⟨_, K1, by rw [e0, a1]; exact e1, a2.tr xFi.u2, a3.st1 u2 (by omega) (by omega), a4, a5, a7⟩
  | succ k ih =>
    intro V g I i fu G K h1 h2 h hK hI
    obtain ⟨fu, rfl⟩ : ∃ t, fu = t + 1 := ⟨fu - 1, by omega⟩
    have hs := h.1.1
    have u2 := h.2.2.2.1.2.1
    have us := h.2.2.2.1.2.2.1.1
    have el : xwr ((I.length : Int) + 1) = ((I.length + 1 : Nat) : Int) := by rw [xwr_g _ (by omega) (by omega)]; omega
    have e0 := st_64 (f := f) (m := m) (G := G) (x1 := x1) (r := c43_64 f fu) hs
    have p := k_44 (f := f) (m := m) (i0 := i0) hf hok hvi hF h hK hI (by omega)
    show pok _ _ (cI2 f S m B n t N w u G i i0 x1 (c43_64b (c43_64 f fu) f 72 x1 (S, G, m)))
    cases hp : pItem t F (V, g, I, i) with
    | inl x =>
      rw [hp] at p
      obtain ⟨G1, a1, a2⟩ := p
      exact ⟨G1, by show c43_64b (c43_64 f fu) f 72 x1 (S, G, m) = _; rw [e0, a1]; rfl, a2⟩
    | inr s' =>
      rw [hp] at p
      obtain ⟨G1, K1, a1, a2, a3, a4, a5, a6, a7⟩ := p
      have e1 := st_64t (f := f) (m := m) (x1 := x1) (r := c43_64 f fu) hs u2 us a3.2.2.2.1.1 a6 el
      rw [if_neg (by omega)] at e1
      have hI' : s'.2.2.1.length = I.length + 1 := by
        have := a7.1
        rw [xup2_s] at this
        omega
      have hX : cXr S (xup2 G1 u 2 ((I.length + 1 : Nat) : Int)) B n t N w u s'.1 K1 s'.2.2.2 := a3.st1 u2 (by omega) (by omega)
      obtain ⟨g1, g2⟩ := k_39 (f := f) (m := m) hX.1 hX.2.1
      have e2 : c43_64b (c43_64 f fu) f 72 x1 (S, G, m) = ((c39 f 72 (S, xup2 G1 u 2 ((I.length + 1 : Nat) : Int), m)).bind fun R => if ¬ R.1 = 0 then c43_64 f fu 72 x1 R.2 else c43_99 f 72 x1 R.2) := by rw [e0, a1]; exact e1
      show pok (pItems t F (k + 1) s') _ _
      unfold pItems
      by_cases c : kK t s'.2.2.2 = 44
      · rw [if_pos c]
        obtain ⟨b1, b2⟩ := g1 c
        have hlt := (hX.1.lt hX.2.1 (by omega)).1
        obtain ⟨d1, d2⟩ := hX.at b2 (by omega)
        have q := ih s'.1 s'.2.1 s'.2.2.1 (s'.2.2.2 + 1) fu _ K1 (by omega) (by omega) d2 (by omega) (a7.at u2)
        have e3 : c43_64b (c43_64 f fu) f 72 x1 (S, G, m) = c43_64 f fu 72 x1 (S, xup2 (xup2 G1 u 2 ((I.length + 1 : Nat) : Int)) 72 1 ((min (s'.2.2.2 + 1) N : Nat) : Int), m) := by rw [e2, b1]; rfl
        have f3 := (a2.tr (xFi.u2 (v := ((I.length + 1 : Nat) : Int)))).tr d1.fi
        show pok (pbind (pItem t F (s'.1, s'.2.1, s'.2.2.1, s'.2.2.2 + 1)) fun s' => pItems t F k s') _ _
        cases hz : (pbind (pItem t F (s'.1, s'.2.1, s'.2.2.1, s'.2.2.2 + 1)) fun s' => pItems t F k s') with
        | inl x =>
          have q' : pok (pbind (pItem t F (s'.1, s'.2.1, s'.2.2.1, s'.2.2.2 + 1)) fun s' => pItems t F k s') _ _ := q
          rw [hz] at q'
          obtain ⟨G2, y1, y2⟩ := q'
          exact ⟨G2, e3.trans y1, f3.tr y2⟩
        | inr z =>
          have q' : pok (pbind (pItem t F (s'.1, s'.2.1, s'.2.2.1, s'.2.2.2 + 1)) fun s' => pItems t F k s') _ _ := q
          rw [hz] at q'
          obtain ⟨G2, K2, y1, y2, y3, y4, y5, y6⟩ := q'
          exact ⟨G2, K2, e3.trans y1, f3.tr y2, y3, y4, by omega, y6⟩
      · rw [if_neg c]
        exact ⟨_, K1, by rw [e2, g2 c]; rfl, a2.tr xFi.u2, hX, a4, a5, a7⟩
end
end
section
/-! THE CLASS reads rules: up to the ITEMS -/
def c43_30t (f : Nat) (x0 : Nat) (x1 : Int) (R251 : (xT_)) : Option ((Nat ⊕ Unit) × xT_) := ((cq_gr 4 5 20 (x0) R251).bind fun v257 => ((cq_p 6 1 20 (v257) (x1) R251).bind fun T260 => ((cq_gr 4 5 20 (x0) T260).bind fun v264 => ((cq_is 4 20 (x0) T260).bind fun _ => ((c47 f (x0) T260).bind fun R266 => cth R266 (fun v272 => ((cq_is 4 20 (x0) R266.2).bind fun _ => ((c48 f (x0) (v272) (x1) R266.2).bind fun R274 => cth R274 (fun v280 => ((cq_p 6 0 20 (v264) (v280) R274.2).bind fun T283 => ((cq_is 4 20 (x0) T283).bind fun _ => ((c38 f (x0) (40) T283).bind fun R287 => cth R287 (fun _ => c43_64  f f (x0) (x1) R287.2)))))))))))))
theorem c43_30t_e (f : Nat) (x0 : Nat) (x1 : Int) (T : xT_) : c43_30 f x0 x1 T = ((cq_is 4 20 (x0) T).bind fun _ => ((c35 f (x0) T).bind fun R251 => c43_30t f x0 x1 R251)) := rfl
def c43_30u (f : Nat) (x0 : Nat) (x1 : Int) (v264 : Nat) (R274 : ((Nat ⊕ Int) × xT_)) : Option ((Nat ⊕ Unit) × xT_) := cth R274 (fun v280 => ((cq_p 6 0 20 (v264) (v280) R274.2).bind fun T283 => ((cq_is 4 20 (x0) T283).bind fun _ => ((c38 f (x0) (40) T283).bind fun R287 => cth R287 (fun _ => c43_64  f f (x0) (x1) R287.2)))))
theorem c43_30u_e (f : Nat) (x0 : Nat) (x1 : Int) (R251 : (xT_)) : c43_30t f x0 x1 R251 = ((cq_gr 4 5 20 (x0) R251).bind fun v257 => ((cq_p 6 1 20 (v257) (x1) R251).bind fun T260 => ((cq_gr 4 5 20 (x0) T260).bind fun v264 => ((cq_is 4 20 (x0) T260).bind fun _ => ((c47 f (x0) T260).bind fun R266 => cth R266 (fun v272 => ((cq_is 4 20 (x0) R266.2).bind fun _ => ((c48 f (x0) (v272) (x1) R266.2).bind fun R274 => c43_30u f x0 x1 v264 R274)))))))) := rfl
section
variable {f n N w i i' u q l F i0 sl : Nat} {S S' : Nat → Nat × Nat × Nat} {G G1 G2 G' G'' : xG_} {m : Nat × Nat} {B : Nat → Int} {t : tStr} {V V' : List (Int × Nat)} {K K' : pCd} {I : List pCd} {g : Int × Int × Int} {x1 sp p v : Int} {L : List Int} {M : List pMn}
theorem cPgS.ge (h : cPgS S q) (h0 : ∀ a, q ≤ a → a ≤ q + 10 → S' a = S a) : cPgS S' q := by
  unfold cPgS at h ⊢
  rw [h0 q (by omega) (by omega), h0 (q + 1) (by omega) (by omega), h0 (q + 2) (by omega) (by omega), h0 (q + 3) (by omega) (by omega), h0 (q + 4) (by omega) (by omega), h0 (q + 5) (by omega) (by omega), h0 (q + 6) (by omega) (by omega), h0 (q + 7) (by omega) (by omega), h0 (q + 8) (by omega) (by omega), h0 (q + 9) (by omega) (by omega), h0 (q + 10) (by omega) (by omega)]
  exact h
theorem cPr0.sg {tell : Bool} (h : cPr0 S G q tell L) (hS : ∀ a, q ≤ a → a ≤ q + 10 → S' a = S a) (h3 : G' 72 3 = G 72 3) (h4 : G' 72 4 = G 72 4) (hq : ∀ j, 1 ≤ j → j ≠ 8 → j ≠ 12 → G' q j = G q j) (hn : ∀ j, G' (q + 1) j = G (q + 1) j) : cPr0 S' G' q tell L := by
  obtain ⟨a1, a2, a3, a4, a5, a6, a7⟩ := h.ge h3 h4 hq hn
  exact ⟨a1, a2, a3, a4, a5.ge hS, a6, a7⟩
/-- a new rule, as EXPRESSIONS see it -/
theorem cXr.new (hu : 278 < u) (hE : cEv S G B n t N w) (hA : cAt G N w i) (hi : i ≤ N) (hS : ∀ a, a < u → S' a = S a) (hG : ∀ a j, a < u → ¬ (a = 72 ∧ (j = 5 ∨ j = 9)) → G' a j = G a j) (h1 : cRuS S' u) (h2 : cRuP G' u) (h3 : cRu1 G' u) (h5 : G' 72 5 = (u : Int)) (h9 : G' 72 9 = 0) : cXr S' G' B n t N w u [] [] i ∧ cIt G' u [] (0, -1, -1) [] ∧ cLs G' u [] [] := by
  refine ⟨⟨hE.ge (fun a ha => hS a (by omega)) (fun a j z1 z2 z3 => hG a j (by omega) (by omega)), ⟨by rw [hG 72 1 (by omega) (by omega)]; exact hA.1, hA.2⟩, hi, ⟨h5, hu, h1, h2⟩, ⟨h3.2.2.2.1, by decide, fun v hv => absurd hv (Nat.not_lt_zero v)⟩, fun v hv => absurd hv (Nat.not_lt_zero v), h9, fun k hk => absurd hk (Nat.not_lt_zero k)⟩, ⟨h3.2.2.1, by decide, fun c hc => absurd hc (Nat.not_lt_zero c), fun c _ _ => ⟨h3.2.2.2.2.2 _ _ (by omega) (by omega), h3.2.2.2.2.2 _ _ (by omega) (by omega)⟩, .inl ⟨rfl, h3.2.1⟩⟩, h3.2.2.2.2.1, by decide, fun l hl => absurd hl (Nat.not_lt_zero l)⟩
theorem st_43 {x rn : Nat} (hs : cSs S) (hp : cPs G) (hx : x ≤ 3000) (hq : 82 < q) (qs : S q = (1, 3, 14)) (h3 : G 72 3 = (q : Int)) (hr : G q 8 = (rn : Int)) (k2 : G 68 x = sp) (k3 : G 72 1 = (x : Int)) : c43 f 72 (S, G, m) = if rn = 24 then some (.inl 0, cWr S G m sp) else c43_30 f 72 sp (S, G, m) := by
  by_cases c : rn = 24
  · rw [if_pos c]
    have hr' : G q 8 = 24 := by rw [hr, c]; rfl
    unfold c43
    simp (disch := omega) only [cq_gi, cq_gr, cq_a, cq_s, cq_p, cq_pr, cq_is, cq_ar, cq_ab, cq_ln, xq_nz, Option.bind_some, xup2_n, xup2_s, Int.toNat_natCast, Int.reduceToNat, if_pos, if_neg, true_and, and_true, and_self, eq_self, if_true, reduceIte, not_true_eq_false, not_false_eq_true, or_true, true_or, s72 hs, s65 hs, s68 hs, p72_0 hp, p65_4 hp, k2, k3, qs, h3, hr', k_36 hs, cth]
  · rw [if_neg c]
    unfold c43
    simp (disch := omega) only [cq_gi, cq_gr, cq_a, cq_s, cq_p, cq_pr, cq_is, cq_ar, cq_ab, cq_ln, xq_nz, Option.bind_some, xup2_n, xup2_s, Int.toNat_natCast, Int.reduceToNat, if_pos, if_neg, true_and, and_true, and_self, eq_self, if_true, reduceIte, not_true_eq_false, not_false_eq_true, or_true, true_or, s72 hs, s65 hs, s68 hs, p72_0 hp, p65_4 hp, k2, k3, qs, h3, hr]
theorem st_43_30 {T : xT_} (hs : cSs S) (e35 : c35 f 72 (S, G, m) = some T) : c43_30 f 72 sp (S, G, m) = c43_30t f 72 sp T := by
  rw [c43_30t_e]
  simp (disch := omega) only [cq_gi, cq_gr, cq_a, cq_s, cq_p, cq_pr, cq_is, cq_ar, cq_ab, cq_ln, xq_nz, Option.bind_some, xup2_n, xup2_s, Int.toNat_natCast, Int.reduceToNat, if_pos, if_neg, true_and, and_true, and_self, eq_self, if_true, reduceIte, not_true_eq_false, not_false_eq_true, or_true, true_or, s72 hs, e35]
theorem st_43_30t (hs : cSs S) (u2 : 278 < u) (us : S u = (1, 6, 20)) (u1 : G 72 5 = (u : Int)) (p1 : c47 f 72 (S, xup2 G u 1 sp, m) = some (.inr v, (S, G1, m))) : c43_30t f 72 sp (S, G, m) = ((c48 f 72 v sp (S, G1, m)).bind fun R => c43_30u f 72 sp u R) := by
  rw [c43_30u_e]
  simp (disch := omega) only [cq_gi, cq_gr, cq_a, cq_s, cq_p, cq_pr, cq_is, cq_ar, cq_ab, cq_ln, xq_nz, Option.bind_some, xup2_n, xup2_s, Int.toNat_natCast, Int.reduceToNat, if_pos, if_neg, true_and, and_true, and_self, eq_self, if_true, reduceIte, not_true_eq_false, not_false_eq_true, or_true, true_or, s72 hs, us, u1, p1, cth]
theorem st_43_30w {T : xT_} (hs : cSs S) (u2 : 278 < u) (us : S u = (1, 6, 20)) (u1 : G 72 5 = (u : Int)) (p1 : c47 f 72 (S, xup2 G u 1 sp, m) = some (.inl 0, T)) : c43_30t f 72 sp (S, G, m) = some (.inl 0, T) := by
  rw [c43_30u_e]
  simp (disch := omega) only [cq_gi, cq_gr, cq_a, cq_s, cq_p, cq_pr, cq_is, cq_ar, cq_ab, cq_ln, xq_nz, Option.bind_some, xup2_n, xup2_s, Int.toNat_natCast, Int.reduceToNat, if_pos, if_neg, true_and, and_true, and_self, eq_self, if_true, reduceIte, not_true_eq_false, not_false_eq_true, or_true, true_or, s72 hs, us, u1, p1, cth]
theorem st_43_30u {R : (Nat ⊕ Unit) × xT_} (hs : cSs S) (us : S u = (1, 6, 20)) (a1 : c38 f 72 40 (S, xup2 G u 0 p, m) = some R) : c43_30u f 72 sp u (.inr p, (S, G, m)) = cth R (fun _ => c43_64 f f 72 sp R.2) := by
  unfold c43_30u
  simp (disch := omega) only [cq_gi, cq_gr, cq_a, cq_s, cq_p, cq_pr, cq_is, cq_ar, cq_ab, cq_ln, xq_nz, Option.bind_some, xup2_n, xup2_s, Int.toNat_natCast, Int.reduceToNat, if_pos, if_neg, true_and, and_true, and_self, eq_self, if_true, reduceIte, not_true_eq_false, not_false_eq_true, or_true, true_or, s72 hs, us, a1, cth]
theorem xFn.it {tell : Bool} (hx : xFn tell q G G') (hqu : q + 10 < u) (hu : 278 < u) (h : cIt G u K g I) : cIt G' u K g I := h.rule (fun j _ _ => hx.u8 hqu hu u j (by omega)) (fun a j _ _ => hx.u8 hqu hu a j (by omega))
theorem cIt.h0 {k : Nat} (hk : k < 2) (h : cIt G u K g I) : cIt (xup2 G u k v) u K g I := h.rule (fun j _ _ => xup2_n (by omega)) (fun a j _ _ => xup2_n (by omega))
theorem cPr0.ru {k : Nat} {tell : Bool} (h : cPr0 S G q tell L) (hqu : q + 10 < u) (hu : 278 < u) : cPr0 S (xup2 G u k v) q tell L := h.ge (xup2_n (by omega)) (xup2_n (by omega)) (fun j _ _ _ => xup2_n (by omega)) (fun j => xup2_n (by omega))
/-- what the HEAD's NAME leaves -/
def xFh (q u : Nat) (G G' : xG_) : Prop := ∀ a j, ¬ (a = 72 ∧ (j = 1 ∨ j = 2)) → ¬ (a = q ∧ j = 1) → a ≠ q + 1 → ¬ (a = u ∧ j < 2) → G' a j = G a j
/-- the NAME of the HEAD, and its bracket -/
theorem k_43h (hf : 20 < f) (h : cXr S G B n t N w u V K i) (hr : cPr0 S G q true L) (hqu : q + 10 < u) (hI : cIt G u K g I) :
    pok (pbind (pPred t L i) fun p => pbind (pNeed t 40 p.2.2) fun j => .inr (p.1, p.2.1, j)) (fun x => ∃ G', c43_30t f 72 (kS t i : Int) (S, G, m) = some (.inl 0, cWr S G' m (x : Int)) ∧ xFh q u G G')
      (fun p => ∃ G', c43_30t f 72 (kS t i : Int) (S, G, m) = c43_64 f f 72 (kS t i : Int) (S, G', m) ∧ xFh q u G G' ∧ p.2.2 = i + 2 ∧ cXr S G' B n t N w u V K p.2.2 ∧ cPr0 S G' q true p.2.1 ∧ (∃ p' : Nat, p.1 = p' ∧ p' < 16) ∧ cIt G' u K g I ∧ G' u 0 = p.1 ∧ G' u 1 = (kS t i : Int)) := by
  have hs := h.1.1
  obtain ⟨u1, u2, ⟨us, _⟩, _⟩ := h.2.2.2.1
  have h1 : cXr S (xup2 G u 1 (kS t i : Int)) B n t N w u V K i := h.st1 u2 (by omega) (by omega)
  have hr1 := hr.ru (k := 1) (v := (kS t i : Int)) hqu u2
  have hq := hr.2.2.1 rfl
  have pp := k_pred (m := m) (tell := true) hf h1.1 h1.2.1 hr1
  rw [if_pos rfl] at pp
  have fa : xFh q u G (xup2 G u 1 (kS t i : Int)) := fun a j z1 z2 z3 z4 => xup2_n (fun y => z4 ⟨y.1, by omega⟩)
  have fb : ∀ {b : Bool} {A A' : xG_}, xFn b q A A' → xFh q u A A' := fun hx a j z1 z2 z3 z4 => hx a j (fun y => z1 ⟨y.1, .inl y.2⟩) (fun y => by rcases y.2 with q | q; exact z2 q; exact z3 q)
  have ft : ∀ {A A' A'' : xG_}, xFh q u A A' → xFh q u A' A'' → xFh q u A A'' := fun hx hx' a j z1 z2 z3 z4 => by rw [hx' a j z1 z2 z3 z4, hx a j z1 z2 z3 z4]
  cases hX : pPred t L i with
  | inl x =>
    rw [hX] at pp
    rcases pp with p1 | ⟨v, G1, p1, p2, p3⟩
    · exact ⟨_, st_43_30w hs u2 us u1 p1, fa⟩
    · exact ⟨G1, by rw [st_43_30t hs u2 us u1 p1, p2]; rfl, ft fa (fb p3)⟩
  | inr p =>
    rw [hX] at pp
    obtain ⟨v, G1, G2, p1, p2, p3, p4, p5, p6, p7⟩ := pp
    have h2 := h1.fn p3 hr.2.2.1 hqu p6 p5
    have h3 : cXr S (xup2 G2 u 0 p.1) B n t N w u V K (i + 1) := h2.st1 u2 (by omega) (by omega)
    have hr3 := (hr1.fn p3 p7).ru (k := 0) (v := p.1) hqu u2
    have hI3 := cIt.h0 (v := p.1) (k := 0) (by decide) (p3.it hqu u2 (cIt.h0 (v := (kS t i : Int)) (k := 1) (by decide) hI))
    have f3 : xFh q u G (xup2 G2 u 0 p.1) := ft (ft fa (fb p3)) (fun a j z1 z2 z3 z4 => xup2_n (fun y => z4 ⟨y.1, by omega⟩))
    have p38 := k_38 (f := f) (m := m) (c := 40) (by decide) h3.1 h3.2.1
    have e0 : c43_30t f 72 (kS t i : Int) (S, G, m) = c43_30u f 72 (kS t i : Int) u (.inr p.1, (S, G2, m)) := by rw [st_43_30t hs u2 us u1 p1, p2]; rfl
    have g0 : xup2 G2 u 0 p.1 u 0 = p.1 := xup2_s _ _ _ _
    have g1 : xup2 G2 u 0 p.1 u 1 = (kS t i : Int) := by rw [xup2_n (by omega), p3.u8 hqu u2 u 1 (by omega), xup2_s]
    show pok (pbind (pNeed t 40 p.2.2) fun j => .inr (p.1, p.2.1, j)) _ _
    rw [p4]
    cases hn : pNeed t 40 (i + 1) with
    | inl x =>
      rw [hn] at p38
      exact ⟨_, by rw [e0, st_43_30u hs us p38]; rfl, f3⟩
    | inr j =>
      rw [hn] at p38
      obtain ⟨a1, a2, a3, a4⟩ := p38
      have hlt := (h3.1.lt h3.2.1 (by omega)).1
      obtain ⟨b1, b2⟩ := h3.at a4 (by omega)
      refine ⟨_, by rw [e0, st_43_30u hs us a1]; rfl, ft f3 (fun a k z1 z2 z3 z4 => xup2_n (fun y => z1 ⟨y.1, .inl y.2⟩)), by show j = i + 2; omega, b2, hr3.at, ?_, hI3.at u2, ?_, ?_⟩
      · show ∃ p' : Nat, p.1 = p' ∧ p' < 16
        exact pPred_nat hX hr.2.2.2.2.2.2.2.1
      · rw [xup2_n (by omega)]; exact g0
      · rw [xup2_n (by omega)]; exact g1
end
end
section
/-! THE CLASS reads rules: behind the ITEMS -/
def c43_99t (f : Nat) (x0 : Nat) (x1 : Int) (R171 : ((Nat ⊕ Unit) × xT_)) : Option ((Nat ⊕ Unit) × xT_) := cth R171 (fun _ => ((cq_gr 4 5 20 (x0) R171.2).bind fun v179 => ((cq_gi 6 0 20 (v179) R171.2).bind fun v181 => ((cq_gr 4 5 20 (x0) R171.2).bind fun v183 => ((cq_gi 6 2 20 (v183) R171.2).bind fun v185 => ((cq_is 4 20 (x0) R171.2).bind fun _ => ((c40 f (x0) (14) (v181) (x1) (v185) R171.2).bind fun R187 => ((cq_gr 4 3 20 (x0) R187).bind fun v193 => ((cq_gr 3 7 14 (v193) R187).bind fun v195 => ((cq_gr 4 5 20 (x0) R187).bind fun v197 => ((cq_gi 6 0 20 (v197) R187).bind fun v199 => ((cq_sb (v195) (v199) (1) R187).bind fun T202 => ((cq_gr 4 3 20 (x0) T202).bind fun v206 => ((cq_gr 4 5 20 (x0) T202).bind fun v208 => ((cq_gi 6 0 20 (v208) T202).bind fun v210 => ((cq_gr 4 5 20 (x0) T202).bind fun v212 => ((cq_gi 6 2 20 (v212) T202).bind fun v214 => ((cq_is 3 14 (v206) T202).bind fun _ => ((c23 f (v206) (v210) (v214) T202).bind fun R216 => c43_169  f f (x0) (256) (0) R216)))))))))))))))))))
theorem c43_99t_e (f : Nat) (x0 : Nat) (x1 : Int) (T : xT_) : c43_99 f x0 x1 T = ((cq_is 4 20 (x0) T).bind fun _ => ((c38 f (x0) (41) T).bind fun R171 => c43_99t f x0 x1 R171)) := rfl
def c43_99u (f : Nat) (x0 : Nat) (R187 : (xT_)) : Option ((Nat ⊕ Unit) × xT_) := ((cq_gr 4 3 20 (x0) R187).bind fun v193 => ((cq_gr 3 7 14 (v193) R187).bind fun v195 => ((cq_gr 4 5 20 (x0) R187).bind fun v197 => ((cq_gi 6 0 20 (v197) R187).bind fun v199 => ((cq_sb (v195) (v199) (1) R187).bind fun T202 => ((cq_gr 4 3 20 (x0) T202).bind fun v206 => ((cq_gr 4 5 20 (x0) T202).bind fun v208 => ((cq_gi 6 0 20 (v208) T202).bind fun v210 => ((cq_gr 4 5 20 (x0) T202).bind fun v212 => ((cq_gi 6 2 20 (v212) T202).bind fun v214 => ((cq_is 3 14 (v206) T202).bind fun _ => ((c23 f (v206) (v210) (v214) T202).bind fun R216 => c43_169  f f (x0) (256) (0) R216))))))))))))
theorem c43_99u_e (f : Nat) (x0 : Nat) (x1 : Int) (R171 : ((Nat ⊕ Unit) × xT_)) : c43_99t f x0 x1 R171 = cth R171 (fun _ => ((cq_gr 4 5 20 (x0) R171.2).bind fun v179 => ((cq_gi 6 0 20 (v179) R171.2).bind fun v181 => ((cq_gr 4 5 20 (x0) R171.2).bind fun v183 => ((cq_gi 6 2 20 (v183) R171.2).bind fun v185 => ((cq_is 4 20 (x0) R171.2).bind fun _ => ((c40 f (x0) (14) (v181) (x1) (v185) R171.2).bind fun R187 => c43_99u f x0 R187))))))) := rfl
def xF9 (q p : Nat) (G G' : xG_) : Prop := ∀ a j, ¬ (a = 72 ∧ (j = 1 ∨ j = 14)) → ¬ (78 ≤ a ∧ a ≤ 81) → a ≠ q + 2 → ¬ (a = q + 6 ∧ j = p) → G' a j = G a j
section
variable {f n N w i i' u q l F i0 sl p : Nat} {S S' : Nat → Nat × Nat × Nat} {G G1 G2 G' G'' : xG_} {m : Nat × Nat} {B : Nat → Int} {t : tStr} {V V' : List (Int × Nat)} {K K' : pCd} {I : List pCd} {g : Int × Int × Int} {x1 sp v : Int} {L : List Int} {M : List pMn}
theorem cq_sb_ok {x k : Nat} (hS : S x = (2, 0, 16)) (hk : k < 16) : cq_sb x (k : Int) 1 (S, G, m) = some (S, xup2 G x k 1, m) := by
  unfold cq_sb
  show (if (S x).2.1 = 1 then cq_s 1 x (k : Int) (xnar .byte 1) (S, G, m) else if (S x).2.1 = 0 then cq_s 0 x (k : Int) (xnar .boolean 1) (S, G, m) else none) = _
  rw [hS, if_neg (by decide), if_pos rfl]
  unfold cq_s
  show (if (S x).1 = 2 ∧ (S x).2.1 = 0 ∧ 0 ≤ (k : Int) ∧ (k : Int) < (((S x).2.2 : Nat) : Int) then some (S, xup2 G x (k : Int).toNat (xnar .boolean 1), m) else none) = _
  rw [hS, if_pos ⟨rfl, rfl, by omega, by show (k : Int) < 16; omega⟩, Int.toNat_natCast]
  rfl
theorem st_99 {R : (Nat ⊕ Unit) × xT_} (hs : cSs S) (e : c38 f 72 41 (S, G, m) = some R) : c43_99 f 72 sp (S, G, m) = c43_99t f 72 sp R := by
  rw [c43_99t_e]
  simp (disch := omega) only [cq_gi, cq_gr, cq_a, cq_s, cq_p, cq_pr, cq_is, cq_ar, cq_ab, cq_ln, xq_nz, Option.bind_some, xup2_n, xup2_s, Int.toNat_natCast, Int.reduceToNat, if_pos, if_neg, true_and, and_true, and_self, eq_self, if_true, reduceIte, not_true_eq_false, not_false_eq_true, or_true, true_or, s72 hs, e]
theorem st_99t (hs : cSs S) (u2 : 278 < u) (us : S u = (1, 6, 20)) (u1 : G 72 5 = (u : Int)) (h0 : G u 0 = (p : Int)) (h2 : G u 2 = (l : Int)) (e : c40 f 72 14 (p : Int) sp (l : Int) (S, G, m) = some (S, G1, m)) : c43_99t f 72 sp (.inr (), (S, G, m)) = c43_99u f 72 (S, G1, m) := by
  rw [c43_99u_e]
  simp (disch := omega) only [cq_gi, cq_gr, cq_a, cq_s, cq_p, cq_pr, cq_is, cq_ar, cq_ab, cq_ln, xq_nz, Option.bind_some, xup2_n, xup2_s, Int.toNat_natCast, Int.reduceToNat, if_pos, if_neg, true_and, and_true, and_self, eq_self, if_true, reduceIte, not_true_eq_false, not_false_eq_true, or_true, true_or, s72 hs, us, u1, h0, h2, e, cth]
theorem st_99u (hs : cSs S) (hp : p < 16) (u2 : 278 < u) (hq : 82 < q) (hqu : q + 10 < u) (us : S u = (1, 6, 20)) (qs : S q = (1, 3, 14)) (q6 : S (q + 6) = (2, 0, 16)) (u1 : G 72 5 = (u : Int)) (h3 : G 72 3 = (q : Int)) (w7 : G q 7 = ((q + 6 : Nat) : Int)) (h0 : G u 0 = (p : Int)) (h2 : G u 2 = (l : Int)) (e : c23 f q (p : Int) (l : Int) (S, xup2 G (q + 6) p 1, m) = some (S, G1, m)) : c43_99u f 72 (S, G, m) = c43_169 f f 72 256 0 (S, G1, m) := by
  have eb := cq_sb_ok (G := G) (m := m) q6 hp
  unfold c43_99u
  simp (disch := omega) only [cq_gi, cq_gr, cq_a, cq_s, cq_p, cq_pr, cq_is, cq_ar, cq_ab, cq_ln, xq_nz, Option.bind_some, xup2_n, xup2_s, Int.toNat_natCast, Int.reduceToNat, if_pos, if_neg, true_and, and_true, and_self, eq_self, if_true, reduceIte, not_true_eq_false, not_false_eq_true, or_true, true_or, s72 hs, us, qs, u1, h3, w7, h0, h2, eb, e]
theorem cXr.pq {k : Nat} (h : cXr S G B n t N w u V K i) (hq : 278 < q) (hqu : q + 10 < u) : cXr S (xup2 G (q + 6) k v) B n t N w u V K i := by
  have hu := h.2.2.2.1.2.1
  exact h.st1 (by omega) (by omega) (by omega)
theorem cPr0.pq {k : Nat} (h : cPr0 S G q true L) : cPr0 S (xup2 G (q + 6) k v) q true L := by
  have hq := h.2.1
  exact h.ge (xup2_n (by omega)) (xup2_n (by omega)) (fun j _ _ _ => xup2_n (by omega)) (fun j => xup2_n (by omega))
theorem cMe.pq {k : Nat} (h : cMe G M) (hq : 278 < q) : cMe (xup2 G (q + 6) k v) M := h.ge (xup2_n (by omega)) (fun a k z1 z2 => xup2_n (by omega))
theorem cWd.pq {k : Nat} (h : cWd G q M) : cWd (xup2 G (q + 6) k v) q M := h.ge (fun j => xup2_n (by omega))
theorem k_99f {k' p' s' d' : Int} {e : Nat} {v1 : Int} (hw : ∀ a j, a ≠ q + 2 → G' a j = xup2 (mSt (xup2 G 72 1 v1) e k' p' s' d') (q + 6) p 1 a j) : xF9 q p G G' := fun a j z1 z2 z3 z4 => by
  rw [hw a j z3, xup2_n z4, mSt_n a j (fun y => z1 ⟨y.1, .inr y.2⟩) z2, xup2_n (fun y => z1 ⟨y.1, .inl y.2⟩)]
theorem k_99 (h : cXr S G B n t N w u V K i) (hr : cPr0 S G q true L) (hqu : q + 10 < u) (hM : cMe G M) (hW : cWd G q M) (hmp : mPos M) (h0 : G u 0 = (p : Int)) (hp : p < 16) (h2 : G u 2 = (l : Int)) (hl : 1 ≤ l) (hm : M.length < 1024) {s : Nat} :
    pok (pNeed t 41 i) (fun x => c43_99 f 72 (s : Int) (S, G, m) = some (.inl 0, cWr S G m (x : Int)))
      (fun j => ∃ G', c43_99 f 72 (s : Int) (S, G, m) = c43_169 f f 72 256 0 (S, G', m) ∧ j = i + 1 ∧ cXr S G' B n t N w u V K j ∧ cPr0 S G' q true L ∧ cMe G' (M ++ [((p : Int), s, (l : Int), 3)]) ∧ cWd G' q (M ++ [((p : Int), s, (l : Int), 3)]) ∧ G' (q + 6) p = 1 ∧ xF9 q p G G') := by
  have hs := h.1.1
  obtain ⟨u1, u2, ⟨us, _⟩, _⟩ := h.2.2.2.1
  have hq := hr.2.2.1 rfl
  have p38 := k_38 (f := f) (m := m) (c := 41) (by decide) h.1 h.2.1
  cases hn : pNeed t 41 i with
  | inl x =>
    rw [hn] at p38
    show c43_99 f 72 (s : Int) (S, G, m) = _
    rw [st_99 hs p38]
    rfl
  | inr j =>
    rw [hn] at p38
    obtain ⟨a1, a2, a3, a4⟩ := p38
    have hlt := (h.1.lt h.2.1 (by omega)).1
    obtain ⟨b1, b2⟩ := h.at a4 (by omega)
    have hM1 := at_m (v := ((min j N : Nat) : Int)) hM
    have e40 := mSt_40 (f := f) (m := m) (k := 14) (p := (p : Int)) (s := (s : Int)) (d := (l : Int)) hs b2.1.2.1 hM1.1 hm
    have d3 := mSt_x (k := 14) (p := (p : Int)) (s := (s : Int)) (d := (l : Int)) (c := M.length) b2
    have hM3 := mSt_m (k := 14) (p := (p : Int)) (s := (s : Int)) (d := (l : Int)) (y := ((p : Int), s, (l : Int), 3)) hM1 rfl rfl rfl (fun _ => rfl)
    have z3 : ∀ a k, ¬ (a = 72 ∧ (k = 1 ∨ k = 14)) → ¬ (78 ≤ a ∧ a ≤ 81) → mSt (xup2 G 72 1 ((min j N : Nat) : Int)) M.length 14 (p : Int) (s : Int) (l : Int) a k = G a k := fun a k z1 z2 => by rw [mSt_n a k (fun y => z1 ⟨y.1, .inr y.2⟩) z2, xup2_n (fun y => z1 ⟨y.1, .inl y.2⟩)]
    obtain ⟨G3, hG3⟩ : ∃ G3, G3 = mSt (xup2 G 72 1 ((min j N : Nat) : Int)) M.length 14 (p : Int) (s : Int) (l : Int) := ⟨_, rfl⟩
    rw [← hG3] at e40 d3 hM3 z3
    have hr3 : cPr0 S G3 q true L := hr.ge (z3 72 3 (by omega) (by omega)) (z3 72 4 (by omega) (by omega)) (fun k _ _ _ => z3 q k (by omega) (by omega)) (fun k => z3 (q + 1) k (by omega) (by omega))
    have hW3 : cWd G3 q M := hW.ge (fun k => z3 (q + 2) k (by omega) (by omega))
    have d4 := d3.pq (k := p) (v := 1) hq hqu
    have hr4 := hr3.pq (k := p) (v := 1)
    have hM4 := hM3.pq (k := p) (v := 1) hq
    have hW4 := hW3.pq (k := p) (v := 1)
    obtain ⟨G5, f1, f2, f3⟩ := k_23 (f := f) (m := m) (p := p) (c := l) hr4.2.2.2.2.1 hr4.2.2.2.2.2.1 hp hmp hW4 (y := ((p : Int), s, (l : Int), 3)) rfl rfl hl
    have e99 := st_99u (f := f) (m := m) (l := l) hs hp u2 hr.2.1 hqu us hr.2.2.2.2.1.1 hr.2.2.2.2.1.2.2.2.2.2.2.1 d3.2.2.2.1.1 hr3.1 hr3.2.2.2.2.2.1.2.2.2.2.2.1 (by rw [z3 u 0 (by omega) (by omega)]; exact h0) (by rw [z3 u 2 (by omega) (by omega)]; exact h2) f1
    have e98 := st_99t (f := f) (m := m) (sp := (s : Int)) hs u2 us b2.2.2.2.1.1 (by rw [xup2_n (by omega)]; exact h0) (by rw [xup2_n (by omega)]; exact h2) e40
    refine ⟨G5, ?_, a2, ?_, ?_, ?_, f2, ?_, ?_⟩
    · rw [st_99 hs a1, e98, e99]
    · exact d4.st (fun a k z => f3 a k (by omega)) (fun k z1 z2 z3 z4 => f3 u k (by omega)) (fun k => f3 (u + 1) k (by omega))
    · exact hr4.ge (f3 _ _ (by omega)) (f3 _ _ (by omega)) (fun k _ _ _ => f3 _ _ (by omega)) (fun k => f3 _ _ (by omega))
    · exact hM4.ge (f3 _ _ (by omega)) (fun a k z1 z2 => f3 _ _ (by omega))
    · rw [f3 _ _ (by omega), xup2_s]
    · rw [hG3] at f3
      exact k_99f f3
end
end
section
/-! THE CLASS reads rules: the LITERALS -/
theorem pLit_len {t : tStr} {tell : Bool} {F : Nat} {s s' : pRs} (h : pLit t tell F s = .inr s') : s'.2.2.1.length = s.2.2.1.length + 1 := (pLit_le h).1
def c43_169t (r169 : Nat → Int → Int → xT_ → Option ((Nat ⊕ Unit) × xT_)) (f : Nat) (x0 : Nat) (x3 : Int) (R163 : ((Nat ⊕ Unit) × xT_)) : Option ((Nat ⊕ Unit) × xT_) := cth R163 (fun _ => r169 (x0) (44) (xwr ((x3) + (1))) R163.2)
theorem c43_169t_e (r169 : Nat → Int → Int → xT_ → Option ((Nat ⊕ Unit) × xT_)) (f : Nat) (x0 : Nat) (x2 : Int) (x3 : Int) (T : xT_) : c43_169b r169 f x0 x2 x3 T = (if (8) < (x3) then c43_208  f (x0) T else ((cq_gr 4 0 20 (x0) T).bind fun v148 => ((cq_gr 8 3 8 (v148) T).bind fun v150 => ((cq_gi 4 1 20 (x0) T).bind fun v152 => ((cq_a 3 (v150) (v152) T).bind fun v154 => (if ¬ (v154) = (x2) then c43_208  f (x0) T else ((cq_is 4 20 (x0) T).bind fun _ => ((c37 f (x0) T).bind fun R157 => ((cq_is 4 20 (x0) R157).bind fun _ => ((c45 f (x0) R157).bind fun R163 => c43_169t r169 f x0 x3 R163)))))))))) := rfl
section
variable {f n N w i i' u q l F i0 sl p : Nat} {S S' : Nat → Nat × Nat × Nat} {G G1 G2 G' G'' : xG_} {m : Nat × Nat} {B : Nat → Int} {t : tStr} {V V' : List (Int × Nat)} {K K' : pCd} {tell : Bool} {M : List pMn} {x : Nat} {k jo : Int}
theorem st_169a {r : Nat → Int → Int → xT_ → Option ((Nat ⊕ Unit) × xT_)} {c : Nat} (hc : c ≤ 8) (hs : cSs S) (hp : cPs G) (hx : x ≤ 3000) (k1 : G 67 x = k) (k3 : G 72 1 = (x : Int)) (hk : k ≠ jo) : c43_169b r f 72 jo (c : Int) (S, G, m) = c43_208 f 72 (S, G, m) := by
  unfold c43_169b
  simp (disch := omega) only [cq_gi, cq_gr, cq_a, cq_s, cq_p, cq_pr, cq_is, cq_ar, cq_ab, cq_ln, xq_nz, Option.bind_some, xup2_n, xup2_s, Int.toNat_natCast, Int.reduceToNat, if_pos, if_neg, true_and, and_true, and_self, eq_self, if_true, reduceIte, not_true_eq_false, not_false_eq_true, or_true, true_or, s72 hs, s65 hs, s67 hs, p72_0 hp, p65_3 hp, k1, k3]
theorem st_169b {r : Nat → Int → Int → xT_ → Option ((Nat ⊕ Unit) × xT_)} {c : Nat} (hc : c ≤ 8) (hs : cSs S) (hp : cPs G) (hx : x ≤ 3000) (k1 : G 67 x = jo) (k3 : G 72 1 = (x : Int)) (d1 : c37 f 72 (S, G, m) = some (S, G1, m)) : c43_169b r f 72 jo (c : Int) (S, G, m) = ((c45 f 72 (S, G1, m)).bind fun R => c43_169t r f 72 (c : Int) R) := by
  rw [c43_169t_e]
  simp (disch := omega) only [cq_gi, cq_gr, cq_a, cq_s, cq_p, cq_pr, cq_is, cq_ar, cq_ab, cq_ln, xq_nz, Option.bind_some, xup2_n, xup2_s, Int.toNat_natCast, Int.reduceToNat, if_pos, if_neg, true_and, and_true, and_self, eq_self, if_true, reduceIte, not_true_eq_false, not_false_eq_true, or_true, true_or, s72 hs, s65 hs, s67 hs, p72_0 hp, p65_3 hp, k1, k3, d1]
/-- one TOKEN on -/
theorem cRL.at {s : pRs} {j : Nat} (h : cRL S G B n t N w q u tell s K i0) (h1 : cAt (xup2 G 72 1 ((min j N : Nat) : Int)) N w j) (h2 : j ≤ N) (h3 : s.2.2.2.2 ≤ j) : cRL S (xup2 G 72 1 ((min j N : Nat) : Int)) B n t N w q u tell (s.1, s.2.1, s.2.2.1, s.2.2.2.1, j) K i0 ∧ xF2 tell q u G (xup2 G 72 1 ((min j N : Nat) : Int)) := by
  obtain ⟨g1, g2, g3, g4, g5, g6, g7, g8⟩ := h
  have hu := g1.2.2.2.1.2.1
  obtain ⟨y1, y2⟩ := g1.at h1 h2
  have z : cLs (xup2 G 72 1 ((min j N : Nat) : Int)) u (K ++ []) s.2.2.1 := g6.fs (sl := 0) (fun a j z1 z2 z3 z4 z5 => xup2_n (fun y => z1 ⟨y.1, .inl y.2⟩)) hu (.inr (by decide))
  rw [List.append_nil] at z
  exact ⟨⟨y2, g2.at, g3, at_m g4, fun z => ⟨(g5 z).1.at g2.2.1, (g5 z).2⟩, z, by show 3 * s.2.2.2.1.length ≤ j; omega, by show K.length + i0 ≤ j; omega⟩, y1.f1.f2⟩
/-- LITERALS behind the joint -/
theorem k_169 (hf : 3010 < f) (hok : tOk t) (hvi : vIn t B n) (hF : 4 * N + 2 ≤ F) : ∀ (k c fu : Nat) (s : pRs) (G : xG_) (K : pCd), c + k = 10 → s.2.2.1.length = c → k < fu → cRL S G B n t N w q u tell s K i0 → pok (pLits t tell F k s) (fun x => ∃ G', c43_169 f fu 72 44 (c : Int) (S, G, m) = some (.inl 0, cWr S G' m (x : Int)) ∧ xF2 tell q u G G') (fun s' => ∃ G' K', c43_169 f fu 72 44 (c : Int) (S, G, m) = c43_208 f 72 (S, G', m) ∧ xF2 tell q u G G' ∧ (∃ D, K' = K ++ D) ∧ cRL S G' B n t N w q u tell s' K' i0) := by
  intro k
  induction k with
  | zero =>
    intro c fu s G K h1 h2 h3 h
    have := h.2.2.2.2.2.1.2.1
    omega
  | succ k ih =>
    intro c fu s G K h1 h2 h3 h
    obtain ⟨fu, rfl⟩ : ∃ t, fu = t + 1 := ⟨fu - 1, by omega⟩
    have hc8 : c ≤ 8 := by have := h.2.2.2.2.2.1.2.1; omega
    have hs := h.1.1.1
    have hp := h.1.1.2.1
    obtain ⟨k1, k2, k3, k4⟩ := h.1.1.tk h.1.2.1
    unfold pLits
    by_cases c44 : kK t s.2.2.2.2 = 44
    · rw [if_pos c44]
      rw [c44] at k1
      obtain ⟨l1, l2⟩ := h.1.1.lt h.1.2.1 (by omega)
      obtain ⟨d1, d2⟩ := k_37 (f := f) (m := m) h.1.1 h.1.2.1 (by omega)
      obtain ⟨r1, r2⟩ := h.at d2 (by omega) (by omega)
      have e0 : c43_169 f (fu + 1) 72 44 (c : Int) (S, G, m) = _ := st_169b (r := c43_169 f fu) hc8 hs hp k4 k1 k3 d1
      have p := k_45 (f := f) (m := m) hf hok hvi hF r1
      rw [e0]
      cases hl : pLit t tell F (s.1, s.2.1, s.2.2.1, s.2.2.2.1, s.2.2.2.2 + 1) with
      | inl x =>
        rw [hl] at p
        obtain ⟨G1, a1, a2⟩ := p
        exact ⟨G1, by rw [a1]; rfl, r2.tr a2⟩
      | inr s' =>
        rw [hl] at p
        obtain ⟨G1, K1, a1, a2, ⟨D1, hD1⟩, a3⟩ := p
        have hlen := pLit_len hl
        have hlen' : s'.2.2.1.length = c + 1 := by rw [hlen]; show s.2.2.1.length + 1 = c + 1; omega
        have ek : xwr ((c : Int) + 1) = ((c + 1 : Nat) : Int) := by rw [xwr_g _ (by omega) (by omega)]; omega
        have q := ih (c + 1) fu s' G1 K1 (by omega) hlen' (by omega) a3
        have e1 : ((c45 f 72 (S, xup2 G 72 1 ((min (s.2.2.2.2 + 1) N : Nat) : Int), m)).bind fun R => c43_169t (c43_169 f fu) f 72 (c : Int) R) = c43_169 f fu 72 44 ((c + 1 : Nat) : Int) (S, G1, m) := by
          rw [a1, ← ek]; rfl
        rw [e1]
        show pok (pLits t tell F k s') _ _
        cases hz : pLits t tell F k s' with
        | inl x =>
          rw [hz] at q
          obtain ⟨G2, y1, y2⟩ := q
          exact ⟨G2, y1, (r2.tr a2).tr y2⟩
        | inr z =>
          rw [hz] at q
          obtain ⟨G2, K2, y1, y2, ⟨D2, hD2⟩, y3⟩ := q
          exact ⟨G2, K2, y1, (r2.tr a2).tr y2, ⟨D1 ++ D2, by rw [hD2, hD1, List.append_assoc]⟩, y3⟩
    · rw [if_neg c44]
      exact ⟨G, K, st_169a (r := c43_169 f fu) hc8 hs hp k4 k1 k3 c44, .id, ⟨[], (List.append_nil K).symm⟩, h⟩
/-- the body of a rule -/
theorem k_169a (hf : 3010 < f) (hok : tOk t) (hvi : vIn t B n) (hF : 4 * N + 2 ≤ F) {s : pRs} (h0 : s.2.2.1 = []) (h : cRL S G B n t N w q u tell s K i0) : pok (if kK t s.2.2.2.2 = 256 then pbind (pLit t tell F (s.1, s.2.1, s.2.2.1, s.2.2.2.1, s.2.2.2.2 + 1)) (pLits t tell F 9) else .inr s) (fun x => ∃ G', c43_169 f f 72 256 0 (S, G, m) = some (.inl 0, cWr S G' m (x : Int)) ∧ xF2 tell q u G G') (fun s' => ∃ G' K', c43_169 f f 72 256 0 (S, G, m) = c43_208 f 72 (S, G', m) ∧ xF2 tell q u G G' ∧ (∃ D, K' = K ++ D) ∧ cRL S G' B n t N w q u tell s' K' i0) := by
  obtain ⟨fu, rfl⟩ : ∃ t, f = t + 1 := ⟨f - 1, by omega⟩
  have hs := h.1.1.1
  have hp := h.1.1.2.1
  obtain ⟨k1, k2, k3, k4⟩ := h.1.1.tk h.1.2.1
  by_cases c : kK t s.2.2.2.2 = 256
  · rw [if_pos c]
    rw [c] at k1
    obtain ⟨l1, l2⟩ := h.1.1.lt h.1.2.1 (by omega)
    obtain ⟨d1, d2⟩ := k_37 (f := fu + 1) (m := m) h.1.1 h.1.2.1 (by omega)
    obtain ⟨r1, r2⟩ := h.at d2 (by omega) (by omega)
    have e0 : c43_169 (fu + 1) (fu + 1) 72 256 0 (S, G, m) = ((c45 (fu + 1) 72 (S, xup2 G 72 1 ((min (s.2.2.2.2 + 1) N : Nat) : Int), m)).bind fun R => c43_169t (c43_169 (fu + 1) fu) (fu + 1) 72 ((0 : Nat) : Int) R) := st_169b (r := c43_169 (fu + 1) fu) (c := 0) (by omega) hs hp k4 k1 k3 d1
    have p := k_45 (f := fu + 1) (m := m) hf hok hvi hF r1
    rw [e0]
    cases hl : pLit t tell F (s.1, s.2.1, s.2.2.1, s.2.2.2.1, s.2.2.2.2 + 1) with
    | inl x =>
      rw [hl] at p
      obtain ⟨G1, a1, a2⟩ := p
      exact ⟨G1, by rw [a1]; rfl, r2.tr a2⟩
    | inr s' =>
      rw [hl] at p
      obtain ⟨G1, K1, a1, a2, ⟨D1, hD1⟩, a3⟩ := p
      have hlen := pLit_len hl
      have hlen' : s'.2.2.1.length = 1 := by rw [hlen]; show s.2.2.1.length + 1 = 1; rw [h0]; rfl
      have q := k_169 (f := fu + 1) (m := m) hf hok hvi hF 9 1 fu s' G1 K1 rfl hlen' (by omega) a3
      have e1 : ((c45 (fu + 1) 72 (S, xup2 G 72 1 ((min (s.2.2.2.2 + 1) N : Nat) : Int), m)).bind fun R => c43_169t (c43_169 (fu + 1) fu) (fu + 1) 72 ((0 : Nat) : Int) R) = c43_169 (fu + 1) fu 72 44 ((1 : Nat) : Int) (S, G1, m) := by
        rw [a1]; rfl
      rw [e1]
      show pok (pLits t tell F 9 s') _ _
      cases hz : pLits t tell F 9 s' with
      | inl x =>
        rw [hz] at q
        obtain ⟨G2, y1, y2⟩ := q
        exact ⟨G2, y1, (r2.tr a2).tr y2⟩
      | inr z =>
        rw [hz] at q
        obtain ⟨G2, K2, y1, y2, ⟨D2, hD2⟩, y3⟩ := q
        exact ⟨G2, K2, y1, (r2.tr a2).tr y2, ⟨D1 ++ D2, by rw [hD2, hD1, List.append_assoc]⟩, y3⟩
  · rw [if_neg c]
    exact ⟨G, K, st_169a (r := c43_169 (fu + 1) fu) (c := 0) (by omega) hs hp k4 k1 k3 c, .id, ⟨[], (List.append_nil K).symm⟩, h⟩
end
end
section
/-! THE CLASS reads rules: the end of one -/
def c43_208t (f : Nat) (x0 : Nat) (R101 : ((Nat ⊕ Unit) × xT_)) : Option ((Nat ⊕ Unit) × xT_) := cth R101 (fun _ => ((cq_gr 4 5 20 (x0) R101.2).bind fun v109 => ((cq_gr 4 7 20 (x0) R101.2).bind fun v111 => ((cq_gr 4 8 20 (x0) R101.2).bind fun v113 => ((cq_gi 4 9 20 (x0) R101.2).bind fun v115 => ((cq_is 6 20 (v109) R101.2).bind fun _ => ((c88 f (v109) (v111) (v113) (v115) R101.2).bind fun R117 => ((cq_gr 4 3 20 (x0) R117).bind fun v123 => ((cq_gr 3 9 14 (v123) R117).bind fun v125 => ((cq_gr 4 3 20 (x0) R117).bind fun v127 => ((cq_gi 3 8 14 (v127) R117).bind fun v129 => ((cq_gr 4 5 20 (x0) R117).bind fun v131 => ((cq_sr (v125) (v129) (v131) R117).bind fun T134 => ((cq_gr 4 3 20 (x0) T134).bind fun v138 => ((cq_gi 3 8 14 (v138) T134).bind fun v140 => ((cq_p 3 8 14 (v138) (xwr ((v140) + (1))) T134).bind fun T143 => (some (.inr (), T143))))))))))))))))))
theorem c43_208t_e (f : Nat) (x0 : Nat) (T : xT_) : c43_208 f x0 T = ((cq_is 4 20 (x0) T).bind fun _ => ((c38 f (x0) (46) T).bind fun R101 => c43_208t f x0 R101)) := rfl
def c43_208u (f : Nat) (x0 : Nat) (R117 : (xT_)) : Option ((Nat ⊕ Unit) × xT_) := ((cq_gr 4 3 20 (x0) R117).bind fun v123 => ((cq_gr 3 9 14 (v123) R117).bind fun v125 => ((cq_gr 4 3 20 (x0) R117).bind fun v127 => ((cq_gi 3 8 14 (v127) R117).bind fun v129 => ((cq_gr 4 5 20 (x0) R117).bind fun v131 => ((cq_sr (v125) (v129) (v131) R117).bind fun T134 => ((cq_gr 4 3 20 (x0) T134).bind fun v138 => ((cq_gi 3 8 14 (v138) T134).bind fun v140 => ((cq_p 3 8 14 (v138) (xwr ((v140) + (1))) T134).bind fun T143 => (some (.inr (), T143)))))))))))
theorem c43_208u_e (f : Nat) (x0 : Nat) (R101 : ((Nat ⊕ Unit) × xT_)) : c43_208t f x0 R101 = cth R101 (fun _ => ((cq_gr 4 5 20 (x0) R101.2).bind fun v109 => ((cq_gr 4 7 20 (x0) R101.2).bind fun v111 => ((cq_gr 4 8 20 (x0) R101.2).bind fun v113 => ((cq_gi 4 9 20 (x0) R101.2).bind fun v115 => ((cq_is 6 20 (v109) R101.2).bind fun _ => ((c88 f (v109) (v111) (v113) (v115) R101.2).bind fun R117 => c43_208u f x0 R117))))))) := rfl
/-- the rules of a program, below nx -/
def cRl (S : Nat → Nat × Nat × Nat) (G : xG_) (q nx : Nat) (R : List pRu) : Prop := G q 8 = (R.length : Int) ∧ R.length ≤ 24 ∧ ∀ r, r < R.length → ∃ u : Nat, G (q + 7) r = (u : Int) ∧ q + 10 < u ∧ u + 12 < nx ∧ cRul S G u (R.getD r dRu).2.2.2.2.1 (R.getD r dRu).2.2.1 (R.getD r dRu).2.2.2.1 (R.getD r dRu).2.2.2.2.2 ∧ G u 0 = (R.getD r dRu).1 ∧ G u 1 = ((R.getD r dRu).2.1 : Int)
section
variable {f n N w i i' u q l F i0 sl p nx nx' : Nat} {S S' : Nat → Nat × Nat × Nat} {G G1 G2 G' G'' : xG_} {m : Nat × Nat} {B : Nat → Int} {t : tStr} {V V' : List (Int × Nat)} {K K' : pCd} {tell : Bool} {M : List pMn} {g : Int × Int × Int} {I : List pCd} {Ls : List pLt} {R : List pRu} {s : pRs} {hd : Int} {pl : Nat}
theorem cPl.ge {nv a : Nat} (h : cPl G u nv Ls a) (h0 : ∀ b j, u + 9 ≤ b → b ≤ u + 10 → G' b j = G b j) : cPl G' u nv Ls a := by
  obtain ⟨pl, p1, p2, p3⟩ := h
  exact ⟨pl, p1, fun k hk => by rw [h0 _ _ (by omega) (by omega), h0 _ _ (by omega) (by omega)]; exact p2 k hk, p3⟩
theorem cRul.ge (h : cRul S G u V g I Ls) (hS : ∀ a, u ≤ a → a ≤ u + 12 → S' a = S a) (hG : ∀ a j, u ≤ a → a ≤ u + 12 → G' a j = G a j) : cRul S' G' u V g I Ls := by
  obtain ⟨K, ⟨a1, a2, ⟨k1, k2, k3, k4, k5⟩, a4, a5, a6⟩, b2, b3, b4, b5, b6⟩ := h
  refine ⟨K, ⟨?_, a2.ge (fun j _ _ => hG u j (by omega) (by omega)), ⟨by rw [hG _ _ (by omega) (by omega)]; exact k1, by rw [hG _ _ (by omega) (by omega)]; exact k2, by rw [hS _ (by omega) (by omega)]; exact k3, by rw [hS _ (by omega) (by omega)]; exact k4, fun k hk => by rw [hG _ _ (by omega) (by omega), hG _ _ (by omega) (by omega)]; exact k5 k hk⟩, a4.rule (hG _ _ (by omega) (by omega)) (fun a j _ _ => hG a j (by omega) (by omega)), a5, a6⟩, b2.rule (fun j _ _ => hG u j (by omega) (by omega)) (fun a j _ _ => hG a j (by omega) (by omega)), b3.ge (fun b j _ _ => hG b j (by omega) (by omega)), by rw [hG _ _ (by omega) (by omega)]; exact b4, b5, fun v hv => by rw [hG _ _ (by omega) (by omega)]; exact b6 v hv⟩
  unfold cRuS at a1 ⊢
  rw [hS u (by omega) (by omega), hS (u + 1) (by omega) (by omega), hS (u + 2) (by omega) (by omega), hS (u + 3) (by omega) (by omega), hS (u + 4) (by omega) (by omega), hS (u + 5) (by omega) (by omega), hS (u + 6) (by omega) (by omega), hS (u + 7) (by omega) (by omega), hS (u + 8) (by omega) (by omega), hS (u + 9) (by omega) (by omega), hS (u + 10) (by omega) (by omega)]
  exact a1
/-- the rules stay -/
theorem cRl.ge (h : cRl S G q nx R) (hn : nx ≤ nx') (h8 : G' q 8 = G q 8) (h7 : ∀ j, j < R.length → G' (q + 7) j = G (q + 7) j) (hS : ∀ a, a < nx → S' a = S a) (hG : ∀ a j, q + 10 < a → a < nx → G' a j = G a j) : cRl S' G' q nx' R := by
  refine ⟨by rw [h8]; exact h.1, h.2.1, fun r hr => ?_⟩
  obtain ⟨u, u1, u2, u3, u4, u5, u6⟩ := h.2.2 r hr
  exact ⟨u, by rw [h7 r hr]; exact u1, u2, by omega, u4.ge (fun a _ _ => hS a (by omega)) (fun a j _ _ => hG a j (by omega) (by omega)), by rw [hG u 0 (by omega) (by omega)]; exact u5, by rw [hG u 1 (by omega) (by omega)]; exact u6⟩
theorem st_208 {Rr : (Nat ⊕ Unit) × xT_} (hs : cSs S) (e : c38 f 72 46 (S, G, m) = some Rr) : c43_208 f 72 (S, G, m) = c43_208t f 72 Rr := by
  rw [c43_208t_e]
  simp (disch := omega) only [cq_gi, cq_gr, cq_a, cq_s, cq_p, cq_pr, cq_is, cq_ar, cq_ab, cq_ln, xq_nz, Option.bind_some, xup2_n, xup2_s, Int.toNat_natCast, Int.reduceToNat, if_pos, if_neg, true_and, and_true, and_self, eq_self, if_true, reduceIte, not_true_eq_false, not_false_eq_true, or_true, true_or, s72 hs, e]
theorem st_208t {T : xT_} {kl : Nat} (hs : cSs S) (hp : cPs G) (us : S u = (1, 6, 20)) (u1 : G 72 5 = (u : Int)) (h9 : G 72 9 = (kl : Int)) (e : c88 f u 73 74 (kl : Int) (S, G, m) = some T) : c43_208t f 72 (.inr (), (S, G, m)) = c43_208u f 72 T := by
  rw [c43_208u_e]
  simp (disch := omega) only [cq_gi, cq_gr, cq_a, cq_s, cq_p, cq_pr, cq_is, cq_ar, cq_ab, cq_ln, xq_nz, Option.bind_some, xup2_n, xup2_s, Int.toNat_natCast, Int.reduceToNat, if_pos, if_neg, true_and, and_true, and_self, eq_self, if_true, reduceIte, not_true_eq_false, not_false_eq_true, or_true, true_or, s72 hs, us, u1, p72_7 hp, p72_8 hp, h9, e, cth]
theorem st_208u {r : Nat} (hr : r < 24) (s72' : S 72 = (1, 4, 20)) (u2 : 278 < u) (hq : 82 < q) (hqu : q + 10 < u) (us : S u = (1, 6, 20)) (qs : S q = (1, 3, 14)) (q7 : S (q + 7) = (2, 11, 24)) (u1 : G 72 5 = (u : Int)) (h3 : G 72 3 = (q : Int)) (w9 : G q 9 = ((q + 7 : Nat) : Int)) (h8 : G q 8 = (r : Int)) (er : xwr ((r : Int) + 1) = ((r + 1 : Nat) : Int)) : c43_208u f 72 (S, G, m) = some (.inr (), (S, xup2 (xup2 G (q + 7) r (u : Int)) q 8 ((r + 1 : Nat) : Int), m)) := by
  have esr : cq_sr (q + 7) (r : Int) u (S, G, m) = some (S, xup2 G (q + 7) r (u : Int), m) := by
    unfold cq_sr
    show (if (S (q + 7)).1 = 2 ∧ 5 ≤ (S (q + 7)).2.1 ∧ 0 ≤ (r : Int) ∧ (r : Int) < (((S (q + 7)).2.2 : Nat) : Int) ∧ (u = 0 ∨ (S u).1 = 1 ∧ (S (q + 7)).2.1 = (S u).2.1 + 5) then some (S, xup2 G (q + 7) (r : Int).toNat (u : Int), m) else none) = _
    rw [q7, us, if_pos ⟨rfl, by decide, by omega, by show (r : Int) < 24; omega, .inr ⟨rfl, rfl⟩⟩, Int.toNat_natCast]
  unfold c43_208u
  simp (disch := omega) only [cq_gi, cq_gr, cq_a, cq_s, cq_p, cq_pr, cq_is, cq_ar, cq_ab, cq_ln, xq_nz, Option.bind_some, xup2_n, xup2_s, Int.toNat_natCast, Int.reduceToNat, if_pos, if_neg, true_and, and_true, and_self, eq_self, if_true, reduceIte, not_true_eq_false, not_false_eq_true, or_true, true_or, s72', us, qs, u1, h3, w9, h8, er, esr]
theorem k_208 (hf : 3010 < f) (h : cRL S G B n t N w q u true s K i0) (hI : cIt G u K g I) (hz : ∀ k, k < 8 → G (u + 9) k = 0) (h0 : G u 0 = hd) (h1 : G u 1 = (pl : Int)) (hR : cRl S G q u R) (hR24 : R.length < 24) (hwf : ∀ j, pNeed t 46 s.2.2.2.2 = .inr j → (∀ y ∈ s.2.2.1, wLv s.2.1.length y) ∧ (∀ E ∈ I, wC s.2.1.length E) ∧ (g.1 = 0 ∨ g.1 = 10 ∨ 0 ≤ g.2.2 ∧ g.2.2 < s.2.1.length)) :
    pok (pNeed t 46 s.2.2.2.2) (fun x => c43_208 f 72 (S, G, (u + 11, sl)) = some (.inl 0, cWr S G (u + 11, sl) (x : Int)))
      (fun j => ∃ S' G', c43_208 f 72 (S, G, (u + 11, sl)) = some (.inr (), (S', G', (u + 13, sl + 2 * K.length))) ∧ j = s.2.2.2.2 + 1 ∧ j ≤ N ∧ cAt G' N w j ∧ (∀ a, a < u → S' a = S a) ∧ (∀ a k, a < u → ¬ (a = 72 ∧ k = 1) → ¬ (a = q ∧ k = 8) → ¬ (a = q + 7 ∧ k = R.length) → G' a k = G a k) ∧ cRl S' G' q (u + 13) (R ++ [(hd, pl, g, I, s.2.1, s.2.2.1)])) := by
  obtain ⟨g1, g2, g3, g4, g5, g6, g7, g8⟩ := h
  have hs := g1.1.1
  have hN := g1.1.2.2.2.1.2
  have hiN := g1.2.2.1
  obtain ⟨u1, u2, hrs, hrp⟩ := g1.2.2.2.1
  have p38 := k_38 (f := f) (m := (u + 11, sl)) (c := 46) (by decide) g1.1 g1.2.1
  cases hn : pNeed t 46 s.2.2.2.2 with
  | inl x =>
    rw [hn] at p38
    show c43_208 f 72 (S, G, (u + 11, sl)) = _
    rw [st_208 hs p38]
    rfl
  | inr j =>
    rw [hn] at p38
    obtain ⟨a1, a2, a3, a4⟩ := p38
    obtain ⟨w1, w2, w3⟩ := hwf j hn
    have hlt := (g1.1.lt g1.2.1 (by omega)).1
    obtain ⟨b1, b2⟩ := g1.at a4 (by omega)
    obtain ⟨G1, hG1⟩ : ∃ G1, G1 = xup2 G 72 1 ((min j N : Nat) : Int) := ⟨_, rfl⟩
    rw [← hG1] at a1 a4 b2
    have zG1 : ∀ a k, ¬ (a = 72 ∧ k = 1) → G1 a k = G a k := fun a k z => by rw [hG1, xup2_n z]
    have hq82 := g2.2.1
    obtain ⟨S2, G2, e1, e2, e3, e4⟩ := k_88 (f := f) (sl := sl) (V := s.2.1) hf hs u2 hrs b2.2.2.2.1.2.2.2 (g6.rule (zG1 u 8 (by omega)) (fun a k _ _ => zG1 a k (by omega))) (hI.rule (fun k _ _ => zG1 u k (by omega)) (fun a k _ _ => zG1 a k (by omega))) b2.2.2.2.2.2.2 (by omega) ⟨b2.2.2.2.2.1.1, b2.2.2.2.2.1.2.1, fun v hv => (b2.2.2.2.2.1.2.2 v hv).2⟩ w1 w2 w3 (fun k hk => by rw [zG1 _ _ (by omega)]; exact hz k hk)
    have z2 : ∀ a k, a < u → ¬ (a = 72 ∧ k = 1) → G2 a k = G a k := fun a k z z' => by rw [e3 a k (by omega) (by omega) (by omega) (by omega), zG1 a k z']
    have us2 : S2 u = (1, 6, 20) := by rw [e2 u (by omega)]; exact hrs.1
    have s72' : S2 72 = (1, 4, 20) := by rw [e2 72 (by omega)]; exact s72 hs
    have er : xwr ((R.length : Int) + 1) = ((R.length + 1 : Nat) : Int) := by rw [xwr_g _ (by omega) (by omega)]; omega
    have e5 := st_208u (f := f) (G := G2) (m := (u + 13, sl + 2 * K.length)) hR24 s72' u2 hq82 g3 us2 (by rw [e2 q (by omega)]; exact g2.2.2.2.2.1.1) (by rw [e2 (q + 7) (by omega)]; exact g2.2.2.2.2.1.2.2.2.2.2.2.2.1) (by rw [z2 72 5 (by omega) (by omega)]; exact u1) (by rw [z2 72 3 (by omega) (by omega)]; exact g2.1) (by rw [z2 q 9 (by omega) (by omega)]; exact g2.2.2.2.2.2.1.2.2.2.2.2.2.1) (by rw [z2 q 8 (by omega) (by omega)]; exact hR.1) er
    have e6 := st_208t (f := f) (m := (u + 11, sl)) hs b2.1.2.1 hrs.1 b2.2.2.2.1.1 b2.2.2.2.2.2.2.1 e1
    have z3 : ∀ a k, ¬ (a = q ∧ k = 8) → ¬ (a = q + 7 ∧ k = R.length) → xup2 (xup2 G2 (q + 7) R.length (u : Int)) q 8 ((R.length + 1 : Nat) : Int) a k = G2 a k := fun a k z z' => by rw [xup2_n z, xup2_n z']
    refine ⟨S2, _, by rw [st_208 hs a1, e6, e5], a2, by omega, ?_, fun a ha => e2 a (by omega), fun a k y1 y2 y3 y4 => by rw [z3 a k y3 y4, z2 a k y1 y2], ?_⟩
    · refine ⟨?_, a4.2⟩
      rw [z3 72 1 (by omega) (by omega), e3 72 1 (by omega) (by omega) (by omega) (by omega)]
      exact a4.1
    · refine ⟨by rw [xup2_s, len1], by rw [len1]; omega, fun r hr => ?_⟩
      rw [len1] at hr
      rw [getD_1]
      by_cases cr : r = R.length
      · rw [if_pos cr, cr]
        refine ⟨u, by rw [xup2_n (by omega), xup2_s], g3, by omega, e4.ge (fun _ _ _ => rfl) (fun a k y1 y2 => z3 a k (by omega) (by omega)), ?_, ?_⟩
        · rw [z3 u 0 (by omega) (by omega), e3 u 0 (by omega) (by omega) (by omega) (by omega), zG1 u 0 (by omega)]; exact h0
        · rw [z3 u 1 (by omega) (by omega), e3 u 1 (by omega) (by omega) (by omega) (by omega), zG1 u 1 (by omega)]; exact h1
      · rw [if_neg cr]
        obtain ⟨v, v1, v2, v3, v4, v5, v6⟩ := hR.2.2 r (by omega)
        refine ⟨v, by rw [z3 _ _ (by omega) (by omega), z2 _ _ (by omega) (by omega)]; exact v1, v2, by omega, v4.ge (fun a _ _ => e2 a (by omega)) (fun a k y1 y2 => by rw [z3 a k (by omega) (by omega), z2 a k (by omega) (by omega)]), ?_, ?_⟩
        · rw [z3 v 0 (by omega) (by omega), z2 v 0 (by omega) (by omega)]; exact v5
        · rw [z3 v 1 (by omega) (by omega), z2 v 1 (by omega) (by omega)]; exact v6
end
end
section
/-! THE CLASS reads programs: what stands so far -/
def pKl (ins : List (Int × Int × Int)) (p : Int) : Int := pKy ins.reverse p
def cPg1 (G : xG_) (q : Nat) (ins : List (Int × Int × Int)) (outs : List Int) : Prop := ∀ p : Nat, p < 16 → G (q + 3) p = pKl ins p ∧ G (q + 4) p = b01 (pIn ins p) ∧ G (q + 5) p = b01 (pOu outs p)
def cHd (G : xG_) (q : Nat) (R : List pRu) : Prop := ∀ p : Nat, p < 16 → G (q + 6) p = b01 (pHd R p)
/-- inputs, outputs, rules; no RINGS yet -/
def cPp (S : Nat → Nat × Nat × Nat) (G : xG_) (q nx : Nat) (ins : List (Int × Int × Int)) (outs : List Int) (R : List pRu) : Prop := cPg1 G q ins outs ∧ cRl S G q nx R ∧ (∀ a j, q + 8 ≤ a → a ≤ q + 10 → G a j = 0) ∧ G q 12 = 0
def gFp (q nx : Nat) (G G' : xG_) : Prop := ∀ a j, (q + 3 ≤ a ∧ a ≤ q + 5 ∨ q + 7 ≤ a ∧ a ≤ q + 10 ∨ a = q ∧ (j = 8 ∨ j = 12) ∨ q + 10 < a ∧ a < nx) → G' a j = G a j
/-- what reading a program leaves as it was -/
def xFp (q nx : Nat) (G G' : xG_) : Prop := ∀ a j, a < nx → ¬ (a = 72 ∧ (j = 1 ∨ j = 2 ∨ j = 5 ∨ j = 9 ∨ j = 12 ∨ j = 14)) → ¬ (73 ≤ a ∧ a ≤ 81) → ¬ (q ≤ a ∧ a ≤ q + 10 ∧ ¬ (a = q ∧ j = 0)) → G' a j = G a j
/-- a program as far as it is read -/
def cPS (S : Nat → Nat × Nat × Nat) (G : xG_) (B : Nat → Int) (n : Nat) (t : tStr) (N w q nx : Nat) (s : pPg) : Prop := cEv S G B n t N w ∧ cAt G N w s.2.2.2.2.2 ∧ s.2.2.2.2.2 ≤ N ∧ cPr0 S G q true s.1 ∧ (cMe G s.2.2.2.1 ∧ cWd G q s.2.2.2.1 ∧ mPos s.2.2.2.1 ∧ 3 * s.2.2.2.1.length ≤ s.2.2.2.2.2) ∧ cPp S G q nx s.2.1 s.2.2.1 s.2.2.2.2.1 ∧ cHd G q s.2.2.2.2.1 ∧ q + 10 < nx
section
variable {f n N w i i' u q l F i0 sl p nx nx' : Nat} {S S' : Nat → Nat × Nat × Nat} {G G1 G2 G' G'' : xG_} {m : Nat × Nat} {B : Nat → Int} {t : tStr} {V V' : List (Int × Nat)} {K K' : pCd} {tell : Bool} {M : List pMn} {g : Int × Int × Int} {I : List pCd} {Ls : List pLt} {R : List pRu} {ins : List (Int × Int × Int)} {outs : List Int} {L : List Int}
theorem gFp.tr (h : gFp q nx G G') (h' : gFp q nx G' G'') : gFp q nx G G'' := fun a j z => by rw [h' a j z, h a j z]
theorem xFp.id : xFp q nx G G := fun _ _ _ _ _ _ => rfl
theorem xFp.tr (h : xFp q nx G G') (h' : xFp q nx G' G'') : xFp q nx G G'' := fun a j z1 z2 z3 z4 => by rw [h' a j z1 z2 z3 z4, h a j z1 z2 z3 z4]
theorem cPp.ge (h : cPp S G q nx ins outs R) (hS : ∀ a, a < nx → S' a = S a) (hG : gFp q nx G G') : cPp S' G' q nx ins outs R := by
  obtain ⟨a1, a2, a3, a4⟩ := h
  refine ⟨fun p hp => ?_, a2.ge (Nat.le_refl _) (hG _ _ (by omega)) (fun j _ => hG _ _ (by omega)) hS (fun a j z1 z2 => hG a j (by omega)), fun a j z1 z2 => by rw [hG a j (by omega)]; exact a3 a j z1 z2, by rw [hG _ _ (by omega)]; exact a4⟩
  rw [hG (q + 3) p (by omega), hG (q + 4) p (by omega), hG (q + 5) p (by omega)]
  exact a1 p hp
theorem cHd.ge (h : cHd G q R) (h0 : ∀ j, G' (q + 6) j = G (q + 6) j) : cHd G' q R := fun p hp => by rw [h0]; exact h p hp
theorem xFh.gp (h : xFh q u G G') (hq : 278 < q) (hqu : q + 10 < u) : gFp q u G G' ∧ (∀ j, G' (q + 6) j = G (q + 6) j) ∧ xFp q u G G' := ⟨fun a j z => h a j (by omega) (by omega) (by omega) (by omega), fun j => h _ j (by omega) (by omega) (by omega) (by omega), fun a j z1 z2 z3 z4 => h a j (by omega) (by omega) (by omega) (by omega)⟩
theorem xFi.gp (h : xFi u G G') (hq : 278 < q) (hqu : q + 10 < u) : gFp q u G G' ∧ (∀ j, G' (q + 6) j = G (q + 6) j) ∧ xFp q u G G' := ⟨fun a j z => h a j (by omega) (by omega) (by omega) (by omega) (by omega), fun j => h _ j (by omega) (by omega) (by omega) (by omega) (by omega), fun a j z1 z2 z3 z4 => h a j (by omega) (by omega) (by omega) (by omega) (by omega)⟩
theorem xF9.gp (h : xF9 q p G G') (hq : 278 < q) (hqu : q + 10 < u) : gFp q u G G' ∧ (∀ j, j ≠ p → G' (q + 6) j = G (q + 6) j) ∧ xFp q u G G' := ⟨fun a j z => h a j (by omega) (by omega) (by omega) (by omega), fun j z => h _ j (by omega) (by omega) (by omega) (by omega), fun a j z1 z2 z3 z4 => h a j (by omega) (by omega) (by omega) (by omega)⟩
theorem xF2.gp (h : xF2 tell q u G G') (hq : 278 < q) (hqu : q + 10 < u) : gFp q u G G' ∧ (∀ j, G' (q + 6) j = G (q + 6) j) ∧ xFp q u G G' := ⟨fun a j z => h a j (by omega) (by omega) (by omega) (by omega) (by omega) (by omega), fun j => h _ j (by omega) (by omega) (by omega) (by omega) (by omega) (by omega), fun a j z1 z2 z3 z4 => h a j (by omega) (by omega) (by omega) (by omega) (by omega) (by omega)⟩
/-- ITEMS and the rest of the rule under the frames -/
theorem cIt.f9 (h : cIt G u K g I) (hx : xF9 q p G G') (hu : 278 < u) (hqu : q + 10 < u) : cIt G' u K g I := h.rule (fun j _ _ => hx _ _ (by omega) (by omega) (by omega) (by omega)) (fun a j _ _ => hx _ _ (by omega) (by omega) (by omega) (by omega))
theorem cIt.f2 {D : pCd} (h : cIt G u K g I) (hx : xF2 tell q u G G') (hu : 278 < u) (hqu : q + 10 < u) : cIt G' u (K ++ D) g I := by
  have z : ∀ a j, (a = u + 7 ∨ a = u + 8) → j < 4 → G' a j = G a j := fun a j z1 z2 => hx a j (by omega) (by omega) (by omega) (by omega) (by omega) (by omega)
  have z' : ∀ j, 2 ≤ j → j ≤ 5 → G' u j = G u j := fun j z1 z2 => hx u j (by omega) (by omega) (by omega) (by omega) (by omega) (by omega)
  refine ⟨by rw [z' 2 (by decide) (by decide)]; exact h.1, h.2.1, fun c hc => (h.2.2.1 c hc).ge (z _ _ (.inl rfl) (by have := h.2.1; omega)) (z _ _ (.inr rfl) (by have := h.2.1; omega)), fun c z1 z2 => ?_, h.2.2.2.2.ge (fun j z1 z2 => z' j (by omega) z2)⟩
  rw [z _ _ (.inl rfl) z2, z _ _ (.inr rfl) z2]
  exact h.2.2.2.1 c z1 z2
theorem xFi.hd (h : xFi u G G') (hu : 278 < u) : G' u 0 = G u 0 ∧ G' u 1 = G u 1 ∧ (∀ j, G' (u + 9) j = G (u + 9) j) ∧ G' u 8 = G u 8 := ⟨h _ _ (by omega) (by omega) (by omega) (by omega) (by omega), h _ _ (by omega) (by omega) (by omega) (by omega) (by omega), fun j => h _ _ (by omega) (by omega) (by omega) (by omega) (by omega), h _ _ (by omega) (by omega) (by omega) (by omega) (by omega)⟩
theorem xFh.hd (h : xFh q u G G') (hu : 278 < u) (hqu : q + 10 < u) : (∀ j, G' (u + 9) j = G (u + 9) j) ∧ G' u 8 = G u 8 := ⟨fun j => h _ _ (by omega) (by omega) (by omega) (by omega), h _ _ (by omega) (by omega) (by omega) (by omega)⟩
theorem xF9.hd (h : xF9 q p G G') (hu : 278 < u) (hqu : q + 10 < u) : G' u 0 = G u 0 ∧ G' u 1 = G u 1 ∧ (∀ j, G' (u + 9) j = G (u + 9) j) ∧ G' u 8 = G u 8 := ⟨h _ _ (by omega) (by omega) (by omega) (by omega), h _ _ (by omega) (by omega) (by omega) (by omega), fun j => h _ _ (by omega) (by omega) (by omega) (by omega), h _ _ (by omega) (by omega) (by omega) (by omega)⟩
theorem xF2.hd (h : xF2 tell q u G G') (hu : 278 < u) (hqu : q + 10 < u) : G' u 0 = G u 0 ∧ G' u 1 = G u 1 ∧ (∀ j, G' (u + 9) j = G (u + 9) j) := ⟨h _ _ (by omega) (by omega) (by omega) (by omega) (by omega) (by omega), h _ _ (by omega) (by omega) (by omega) (by omega) (by omega) (by omega), fun j => h _ _ (by omega) (by omega) (by omega) (by omega) (by omega) (by omega)⟩
theorem xFh.me (h : xFh q u G G') (hM : cMe G M) (hW : cWd G q M) (hq : 278 < q) (hqu : q + 10 < u) : cMe G' M ∧ cWd G' q M := ⟨hM.ge (h _ _ (by omega) (by omega) (by omega) (by omega)) (fun a k z1 z2 => h _ _ (by omega) (by omega) (by omega) (by omega)), hW.ge (fun j => h _ _ (by omega) (by omega) (by omega) (by omega))⟩
theorem xFi.me (h : xFi u G G') (hM : cMe G M) (hW : cWd G q M) (hq : 278 < q) (hqu : q + 10 < u) : cMe G' M ∧ cWd G' q M := ⟨hM.ge (h _ _ (by omega) (by omega) (by omega) (by omega) (by omega)) (fun a k z1 z2 => h _ _ (by omega) (by omega) (by omega) (by omega) (by omega)), hW.ge (fun j => h _ _ (by omega) (by omega) (by omega) (by omega) (by omega))⟩
theorem xFi.pr (h : xFi u G G') (hr : cPr0 S G q true L) (hqu : q + 10 < u) : cPr0 S G' q true L := by
  have hq := hr.2.2.1 rfl
  exact hr.ge (h _ _ (by omega) (by omega) (by omega) (by omega) (by omega)) (h _ _ (by omega) (by omega) (by omega) (by omega) (by omega)) (fun j _ _ _ => h _ _ (by omega) (by omega) (by omega) (by omega) (by omega)) (fun j => h _ _ (by omega) (by omega) (by omega) (by omega) (by omega))
/-- what a rule that is begun leaves -/
theorem new_p (hG : ∀ a j, a < u → ¬ (a = 72 ∧ (j = 5 ∨ j = 9)) → G' a j = G a j) (hq : 278 < q) (hqu : q + 10 < u) : gFp q u G G' ∧ (∀ j, G' (q + 6) j = G (q + 6) j) ∧ xFp q u G G' := ⟨fun a j z => hG a j (by omega) (by omega), fun j => hG _ j (by omega) (by omega), fun a j z1 z2 z3 z4 => hG a j z1 (by omega)⟩
theorem new_m (hG : ∀ a j, a < u → ¬ (a = 72 ∧ (j = 5 ∨ j = 9)) → G' a j = G a j) (hM : cMe G M) (hW : cWd G q M) (hq : 278 < q) (hqu : q + 10 < u) : cMe G' M ∧ cWd G' q M := ⟨hM.ge (hG _ _ (by omega) (by omega)) (fun a k z1 z2 => hG _ _ (by omega) (by omega)), hW.ge (fun j => hG _ _ (by omega) (by omega))⟩
theorem new_r (hS : ∀ a, a < u → S' a = S a) (hG : ∀ a j, a < u → ¬ (a = 72 ∧ (j = 5 ∨ j = 9)) → G' a j = G a j) (hr : cPr0 S G q true L) (hqu : q + 10 < u) : cPr0 S' G' q true L := by
  have hq := hr.2.2.1 rfl
  exact hr.sg (fun a z1 z2 => hS a (by omega)) (hG _ _ (by omega) (by omega)) (hG _ _ (by omega) (by omega)) (fun j _ _ _ => hG _ _ (by omega) (by omega)) (fun j => hG _ _ (by omega) (by omega))
end
end
section
/-! THE CLASS reads rules: readRule() -/
theorem wf_rule {np : Nat} {hd : Int} {pl : Nat} {g : Int × Int × Int} {I : List pCd} {V : List (Int × Nat)} {Ls : List pLt} (h : wRu np (hd, pl, g, I, V, Ls)) : (∀ y ∈ Ls, wLv V.length y) ∧ (∀ E ∈ I, wC V.length E) ∧ (g.1 = 0 ∨ g.1 = 10 ∨ 0 ≤ g.2.2 ∧ g.2.2 < V.length) := by
  obtain ⟨_, _, _, _, ⟨b1, b2⟩, _, _, _, a9⟩ := h
  refine ⟨fun y hy => ?_, fun E hE => ?_, ?_⟩
  · rcases (a9 y hy).1 with ⟨c1, _, _, _, _, c2⟩ | ⟨c1, _, c2, c3⟩
    · exact .inl ⟨c1, c2⟩
    · exact .inr ⟨c1, c2.1, c3.1⟩
  · obtain ⟨k, hk, e⟩ := List.mem_iff_getElem.mp hE
    rcases b2 k hk with ⟨_, c⟩ | ⟨_, c⟩
    · have c' : I.getD k [] = [] := c
      rw [getD_e hk, e] at c'
      rw [c']
      exact fun x hx => by cases hx
    · have c' : wEx V.length (I.getD k []) := c
      rw [getD_e hk, e] at c'
      exact c'.1
  · rcases b1 with ⟨c, _⟩ | ⟨_, _, _, c⟩
    · exact .inl c
    · rcases c with ⟨c, _⟩ | ⟨_, c1, c2⟩
      · exact .inr (.inl c)
      · exact .inr (.inr ⟨c1, c2⟩)
theorem pRule_x {t : tStr} {F : Nat} {s : pPg} : pRule t F s = if s.2.2.2.2.1.length = 24 then .inl (kS t s.2.2.2.2.2) else pbind (pbind (pPred t s.1 s.2.2.2.2.2) fun p => pbind (pNeed t 40 p.2.2) fun j => .inr (p.1, p.2.1, j)) fun p => pbind (pbind (pItem t F ([], (0, -1, -1), [], p.2.2)) (pItems t F 3)) fun a => pbind (pNeed t 41 a.2.2.2) fun j => pbind (if kK t j = 256 then pbind (pLit t true F (p.2.1, a.1, [], s.2.2.2.1 ++ [(p.1, kS t s.2.2.2.2.2, (a.2.2.1.length : Int), 3)], j + 1)) (pLits t true F 9) else .inr (p.2.1, a.1, [], s.2.2.2.1 ++ [(p.1, kS t s.2.2.2.2.2, (a.2.2.1.length : Int), 3)], j)) fun l => pbind (pNeed t 46 l.2.2.2.2) fun j => .inr (l.1, s.2.1, s.2.2.1, l.2.2.2.1, s.2.2.2.2.1 ++ [(p.1, kS t s.2.2.2.2.2, a.2.1, a.2.2.1, l.2.1, l.2.2.1)], j) := by
  unfold pRule
  congr 1
  rw [pbind_as]
  congr 1
  funext p
  rw [pbind_as]
  congr 1
  funext j
  rw [pbind_r, pbind_as]
section
variable {f n N w u q F sl : Nat} {S : Nat → Nat × Nat × Nat} {G : xG_} {B : Nat → Int} {t : tStr} {s : pPg}
/-- WRONG in a rule -/
def rW (S : Nat → Nat × Nat × Nat) (G : xG_) (q u sl : Nat) (T : Option ((Nat ⊕ Unit) × xT_)) (x : Nat) : Prop := ∃ (S' : Nat → Nat × Nat × Nat) (G' : xG_) (m' : Nat × Nat), T = some (.inl 0, cWr S' G' m' (x : Int)) ∧ (∀ a, a < u → S' a = S a) ∧ xFp q u G G' ∧ (m' = (u, sl) ∨ m' = (u + 11, sl + 172))
theorem k_43 (hf : 3010 < f) (hok : tOk t) (hvi : vIn t B n) (hF : 4 * N + 2 ≤ F) (hw : wPg s) (hu : 278 < u) (h : cPS S G B n t N w q u s) : pok (pRule t F s) (rW S G q u sl (c43 f 72 (S, G, (u, sl)))) (fun s' => ∃ S' G' sl', c43 f 72 (S, G, (u, sl)) = some (.inr (), (S', G', (u + 13, sl'))) ∧ (∀ a, a < u → S' a = S a) ∧ xFp q u G G' ∧ cPS S' G' B n t N w q (u + 13) s' ∧ sl' + 2 * s.2.2.2.2.2 ≤ sl + 172 + 2 * s'.2.2.2.2.2 ∧ s.2.2.2.2.2 < s'.2.2.2.2.2) := by
  obtain ⟨hE, hA, hi, hr, ⟨hM, hW, hmp, h3⟩, hP, hH, hqu⟩ := h
  have hs := hE.1
  obtain ⟨k1, k2, k3, k4⟩ := hE.tk hA
  have hq := hr.2.2.1 rfl
  have hN := hE.2.2.2.1.2
  have e43 := st_43 (f := f) (m := (u, sl)) hs hE.2.1 k4 hr.2.1 hr.2.2.2.2.1.1 hr.1 hP.2.1.1 k2 k3
  have hfull : ∀ s', pRule t F s = .inr s' → wPg s' := fun s' h' => pRule_wf hok h' hw
  rw [pRule_x] at hfull ⊢
  by_cases c24 : s.2.2.2.2.1.length = 24
  · rw [if_pos c24] at e43 ⊢
    exact ⟨S, G, (u, sl), e43, fun _ _ => rfl, .id, .inl rfl⟩
  rw [if_neg c24] at e43 hfull ⊢
  have hR24 : s.2.2.2.2.1.length < 24 := by have := hP.2.1.2.1; omega
  obtain ⟨S1, G1, b1, b2, b3, b4, b5, b6, b7, b8⟩ := k_35 (f := f) (sl := sl) (G := G) hs hu
  have e1 : c43 f 72 (S, G, (u, sl)) = c43_30t f 72 (kS t s.2.2.2.2.2 : Int) (S1, G1, (u + 11, sl + 172)) := by rw [e43]; exact st_43_30 hs b1
  obtain ⟨x1, hI1, hL1⟩ := cXr.new hu hE hA hi b2 b3 b4 b5 b6 b7 b8
  have hr1 := new_r b2 b3 hr hqu
  obtain ⟨gp1, gh1, gx1⟩ := new_p b3 hq hqu
  obtain ⟨hM1, hW1⟩ := new_m b3 hM hW hq hqu
  have hz1 : ∀ k, k < 8 → G1 (u + 9) k = 0 := fun k _ => b6.2.2.2.2.2 _ _ (by omega) (by omega)
  have hP1 := hP.ge b2 gp1
  have hH1 := hH.ge gh1
  have p1 := k_43h (f := f) (m := (u + 11, sl + 172)) (by omega) x1 hr1 hqu hI1
  rw [e1]
  cases hX : (pbind (pPred t s.1 s.2.2.2.2.2) fun p => pbind (pNeed t 40 p.2.2) fun j => .inr (p.1, p.2.1, j)) with
  | inl x =>
    rw [hX] at p1
    obtain ⟨G2, c1, c2⟩ := p1
    exact ⟨S1, G2, _, c1, b2, gx1.tr (c2.gp hq hqu).2.2, .inr rfl⟩
  | inr p =>
    rw [hX] at p1 hfull
    obtain ⟨G2, c1, c2, c3, c4, c5, ⟨pn, c6, c6'⟩, c7, c8, c9⟩ := p1
    obtain ⟨gp2, gh2, gx2⟩ := c2.gp hq hqu
    obtain ⟨hM2, hW2⟩ := c2.me hM1 hW1 hq hqu
    have hd2 := c2.hd hu hqu
    have p2 := k_64 (f := f) (m := (u + 11, sl + 172)) (x1 := (kS t s.2.2.2.2.2 : Int)) (i0 := s.2.2.2.2.2) hf hok hvi hF 3 [] (0, -1, -1) [] p.2.2 f G2 [] rfl (by omega) c4 (by show 0 + s.2.2.2.2.2 ≤ p.2.2; omega) c7
    rw [c1]
    show pok (pbind (pbind (pItem t F ([], (0, -1, -1), [], p.2.2)) (pItems t F 3)) _) _ _
    cases hY : pbind (pItem t F ([], (0, -1, -1), [], p.2.2)) (pItems t F 3) with
    | inl x =>
      rw [hY] at p2
      obtain ⟨G3, d1, d2⟩ := p2
      exact ⟨S1, G3, _, d1, b2, (gx1.tr gx2).tr (d2.gp hq hqu).2.2, .inr rfl⟩
    | inr a =>
      rw [hY] at p2
      obtain ⟨G3, K3, d1, d2, d3, d4, d5, d6⟩ := p2
      obtain ⟨gp3, gh3, gx3⟩ := d2.gp hq hqu
      obtain ⟨hM3, hW3⟩ := d2.me hM2 hW2 hq hqu
      have hd3 := d2.hd hu
      have hr3 := d2.pr c5 hqu
      have ha1 : 1 ≤ a.2.2.1.length := by
        obtain ⟨y, y1, y2⟩ := pbind_inr hY
        have w0 : wIt (([], (0, -1, -1), [], p.2.2) : pIt) := ⟨.inl ⟨rfl, rfl, rfl⟩, fun k hk => absurd hk (Nat.not_lt_zero k)⟩
        have l1 : y.2.2.1.length = 1 := by
          unfold pItem at y1
          split at y1
          · split at y1
            · cases y1
            · obtain ⟨_, _, y1⟩ := pbind_inr y1
              split at y1
              · obtain ⟨_, _, y1⟩ := pbind_inr y1
                cases y1; rfl
              · obtain ⟨_, _, y1⟩ := pbind_inr y1
                obtain ⟨_, _, y1⟩ := pbind_inr y1
                cases y1; rfl
          · obtain ⟨_, _, y1⟩ := pbind_inr y1
            cases y1; rfl
        have l2 : ∀ (k : Nat) (y a : pIt), pItems t F k y = .inr a → y.2.2.1.length ≤ a.2.2.1.length := by
          intro k
          induction k with
          | zero => intro y a h; cases h; exact Nat.le_refl _
          | succ k ih =>
            intro y a h
            unfold pItems at h
            split at h
            · obtain ⟨z, z1, z2⟩ := pbind_inr h
              have z3 := ih z a z2
              have z4 : y.2.2.1.length ≤ z.2.2.1.length := by
                unfold pItem at z1
                split at z1
                · split at z1
                  · cases z1
                  · obtain ⟨_, _, z1⟩ := pbind_inr z1
                    split at z1
                    · obtain ⟨_, _, z1⟩ := pbind_inr z1
                      cases z1; show _ ≤ (y.2.2.1 ++ [_]).length; rw [len1]; omega
                    · obtain ⟨_, _, z1⟩ := pbind_inr z1
                      obtain ⟨_, _, z1⟩ := pbind_inr z1
                      cases z1; show _ ≤ (y.2.2.1 ++ [_]).length; rw [len1]; omega
                · obtain ⟨_, _, z1⟩ := pbind_inr z1
                  cases z1; show _ ≤ (y.2.2.1 ++ [_]).length; rw [len1]; omega
              omega
            · cases h; exact Nat.le_refl _
        have := l2 3 y a y2
        omega
      have h03 : G3 u 0 = (pn : Int) := by rw [hd3.1, c8, c6]
      have h13 : G3 u 1 = (kS t s.2.2.2.2.2 : Int) := by rw [hd3.2.1, c9]
      have haN := d3.2.2.1
      have p3 := k_99 (f := f) (m := (u + 11, sl + 172)) (s := kS t s.2.2.2.2.2) d3 hr3 hqu hM3 hW3 hmp h03 c6' d6.1 ha1 (by omega)
      rw [d1]
      show pok (pbind (pNeed t 41 a.2.2.2) _) _ _
      cases hZ : pNeed t 41 a.2.2.2 with
      | inl x =>
        rw [hZ] at p3
        exact ⟨S1, G3, _, p3, b2, (gx1.tr gx2).tr gx3, .inr rfl⟩
      | inr j =>
        rw [hZ] at p3
        obtain ⟨G4, f1, f2, f3, f4, f5, f6, f7, f8⟩ := p3
        obtain ⟨gp4, gh4, gx4⟩ := f8.gp (u := u) hq hqu
        have hd4 := f8.hd hu hqu
        have hI4 := d6.f9 f8 hu hqu
        have hL4 : cLs G4 u K3 [] := ⟨by rw [hd4.2.2.2, hd3.2.2.2, hd2.2, b6.2.2.2.2.1]; rfl, by decide, fun l hl => absurd hl (Nat.not_lt_zero l)⟩
        have hm4 : mPos (s.2.2.2.1 ++ [((pn : Int), kS t s.2.2.2.2.2, (a.2.2.1.length : Int), 3)]) := mPos_1 hmp (.inr (by show (1 : Int) ≤ (a.2.2.1.length : Int); omega))
        rw [← c6] at f5 f6 hm4
        have hRL : cRL S1 G4 B n t N w q u true (p.2.1, a.1, [], s.2.2.2.1 ++ [(p.1, kS t s.2.2.2.2.2, (a.2.2.1.length : Int), 3)], j) K3 s.2.2.2.2.2 := ⟨f3, f4, hqu, f5, fun _ => ⟨f6, hm4⟩, hL4, by show 3 * (s.2.2.2.1 ++ [_]).length ≤ j; rw [len1]; omega, by show K3.length + s.2.2.2.2.2 ≤ j; omega⟩
        have p4 := k_169a (f := f) (m := (u + 11, sl + 172)) hf hok hvi hF rfl hRL
        rw [f1]
        show pok (pbind (if kK t j = 256 then pbind (pLit t true F (p.2.1, a.1, [], s.2.2.2.1 ++ [(p.1, kS t s.2.2.2.2.2, (a.2.2.1.length : Int), 3)], j + 1)) (pLits t true F 9) else .inr (p.2.1, a.1, [], s.2.2.2.1 ++ [(p.1, kS t s.2.2.2.2.2, (a.2.2.1.length : Int), 3)], j)) _) _ _
        have gx := ((gx1.tr gx2).tr gx3).tr gx4
        cases hV : (if kK t j = 256 then pbind (pLit t true F (p.2.1, a.1, [], s.2.2.2.1 ++ [(p.1, kS t s.2.2.2.2.2, (a.2.2.1.length : Int), 3)], j + 1)) (pLits t true F 9) else .inr (p.2.1, a.1, [], s.2.2.2.1 ++ [(p.1, kS t s.2.2.2.2.2, (a.2.2.1.length : Int), 3)], j)) with
        | inl x =>
          rw [hV] at p4
          obtain ⟨G5, g1, g2⟩ := p4
          exact ⟨S1, G5, _, g1, b2, gx.tr (g2.gp hq hqu).2.2, .inr rfl⟩
        | inr z =>
          rw [hV] at p4
          obtain ⟨G5, K5, g1, g2, ⟨D, hD⟩, g3⟩ := p4
          obtain ⟨gp5, gh5, gx5⟩ := g2.gp hq hqu
          have hd5 := g2.hd hu hqu
          have hI5 : cIt G5 u K5 a.2.1 a.2.2.1 := by rw [hD]; exact hI4.f2 g2 hu hqu
          have hP5 := ((((hP1.ge (fun _ _ => rfl) gp2).ge (fun _ _ => rfl) gp3).ge (fun _ _ => rfl) gp4).ge (fun _ _ => rfl) gp5)
          have hwf : ∀ j', pNeed t 46 z.2.2.2.2 = .inr j' → (∀ y ∈ z.2.2.1, wLv z.2.1.length y) ∧ (∀ E ∈ a.2.2.1, wC z.2.1.length E) ∧ (a.2.1.1 = 0 ∨ a.2.1.1 = 10 ∨ 0 ≤ a.2.1.2.2 ∧ a.2.1.2.2 < z.2.1.length) := by
            intro j' hj
            have hh := hfull (z.1, s.2.1, s.2.2.1, z.2.2.2.1, s.2.2.2.2.1 ++ [(p.1, kS t s.2.2.2.2.2, a.2.1, a.2.2.1, z.2.1, z.2.2.1)], j') (by
              show pbind (pbind (pItem t F ([], (0, -1, -1), [], p.2.2)) (pItems t F 3)) _ = _
              rw [hY]
              show pbind (pNeed t 41 a.2.2.2) _ = _
              rw [hZ]
              show pbind (if kK t j = 256 then pbind (pLit t true F (p.2.1, a.1, [], s.2.2.2.1 ++ [(p.1, kS t s.2.2.2.2.2, (a.2.2.1.length : Int), 3)], j + 1)) (pLits t true F 9) else .inr (p.2.1, a.1, [], s.2.2.2.1 ++ [(p.1, kS t s.2.2.2.2.2, (a.2.2.1.length : Int), 3)], j)) _ = _
              rw [hV]
              show pbind (pNeed t 46 z.2.2.2.2) _ = _
              rw [hj]
              rfl)
            exact wf_rule (hh.2.2.2.2.2.2 _ (List.mem_append_right _ (List.mem_singleton.mpr rfl)))
          have p5 := k_208 (f := f) (sl := sl + 172) (hd := p.1) (pl := kS t s.2.2.2.2.2) (R := s.2.2.2.2.1) hf g3 hI5 (fun k hk => by rw [hd5.2.2, hd4.2.2.1, hd3.2.2.1, hd2.1]; exact hz1 k hk) (by rw [hd5.1, hd4.1, h03, c6]) (by rw [hd5.2.1, hd4.2.1, h13]) hP5.2.1 hR24 hwf
          rw [g1]
          show pok (pbind (pNeed t 46 z.2.2.2.2) _) _ _
          cases hj : pNeed t 46 z.2.2.2.2 with
          | inl x =>
            rw [hj] at p5
            exact ⟨S1, G5, _, p5, b2, gx.tr gx5, .inr rfl⟩
          | inr j' =>
            rw [hj] at p5
            obtain ⟨S6, G6, q1, q2, q3, q4, q5, q6, q7⟩ := p5
            obtain ⟨y1, y2, y3, y4, y5, y6, y7, y8⟩ := g3
            have zE : cEv S6 G6 B n t N w := y1.1.ge (fun a ha => q5 a (by omega)) (fun a k z1 z2 z3 => q6 a k (by omega) (by omega) (by omega) (by omega))
            have hH5 : cHd G5 q (s.2.2.2.2.1 ++ [(p.1, kS t s.2.2.2.2.2, a.2.1, a.2.2.1, z.2.1, z.2.2.1)]) := fun x hx => by
              rw [pHd_1, gh5]
              show _ = if (x : Int) = p.1 then 1 else _
              rw [c6]
              by_cases cx : x = pn
              · rw [if_pos (by omega), cx]; exact f7
              · rw [if_neg (by omega), gh4 x cx, gh3, gh2]; exact hH1 x hx
            refine ⟨S6, G6, sl + 172 + 2 * K5.length, q1, fun a ha => by rw [q5 a ha, b2 a ha], ?_, ⟨zE, q4, q3, ?_, ⟨?_, ?_, (y5 rfl).2, ?_⟩, ⟨?_, q7, ?_, ?_⟩, ?_, by omega⟩, ?_, ?_⟩
            · exact (gx.tr gx5).tr (fun a k z1 z2 z3 z4 => q6 a k z1 (by omega) (by omega) (by omega))
            · exact y2.sg (fun a z1 z2 => q5 a (by omega)) (q6 _ _ (by omega) (by omega) (by omega) (by omega)) (q6 _ _ (by omega) (by omega) (by omega) (by omega)) (fun k _ _ _ => q6 _ _ (by omega) (by omega) (by omega) (by omega)) (fun k => q6 _ _ (by omega) (by omega) (by omega) (by omega))
            · exact y4.ge (q6 _ _ (by omega) (by omega) (by omega) (by omega)) (fun a k z1 z2 => q6 _ _ (by omega) (by omega) (by omega) (by omega))
            · exact (y5 rfl).1.ge (fun k => q6 _ _ (by omega) (by omega) (by omega) (by omega))
            · show 3 * z.2.2.2.1.length ≤ j'
              omega
            · intro x hx
              rw [q6 (q + 3) x (by omega) (by omega) (by omega) (by omega), q6 (q + 4) x (by omega) (by omega) (by omega) (by omega), q6 (q + 5) x (by omega) (by omega) (by omega) (by omega)]
              exact hP5.1 x hx
            · intro b k z1 z2
              rw [q6 b k (by omega) (by omega) (by omega) (by omega)]
              exact hP5.2.2.1 b k z1 z2
            · rw [q6 _ _ (by omega) (by omega) (by omega) (by omega)]
              exact hP5.2.2.2
            · exact hH5.ge (fun k => q6 _ _ (by omega) (by omega) (by omega) (by omega))
            · show sl + 172 + 2 * K5.length + 2 * s.2.2.2.2.2 ≤ sl + 172 + 2 * j'
              omega
            · show s.2.2.2.2.2 < j'
              omega
end
end
section
/-! THE CLASS reads inputs and outputs -/
def c41t (f : Nat) (a0 : Nat) (v153 : Int) (v169 : Int) (R179 : ((Nat ⊕ Int) × xT_)) : Option ((Nat ⊕ Unit) × xT_) := cth R179 (fun v185 => ((cq_gr 4 0 20 (a0) R179.2).bind fun v187 => ((cq_gr 8 3 8 (v187) R179.2).bind fun v189 => ((cq_gi 4 1 20 (a0) R179.2).bind fun v191 => ((cq_a 3 (v189) (v191) R179.2).bind fun v193 => (if ¬ (v193) = (8) then c41_72  f (a0) (v153) (v169) (v185) (0) R179.2 else ((cq_is 4 20 (a0) R179.2).bind fun _ => ((c37 f (a0) R179.2).bind fun R196 => ((cq_is 4 20 (a0) R196).bind fun _ => ((c50 f (a0) (xwr ((v185) - (1))) R196).bind fun R202 => cth R202 (fun v208 => c41_72  f (a0) (v153) (v169) (v185) (v208) R202.2)))))))))))
theorem c41t_e (f : Nat) (a0 : Nat) (T : xT_) : c41 f a0 T = ((cq_is 4 20 (a0) T).bind fun _ => ((c37 f (a0) T).bind fun R141 => ((cq_gr 4 0 20 (a0) R141).bind fun v147 => ((cq_gr 8 4 8 (v147) R141).bind fun v149 => ((cq_gi 4 1 20 (a0) R141).bind fun v151 => ((cq_a 3 (v149) (v151) R141).bind fun v153 => ((cq_is 4 20 (a0) R141).bind fun _ => ((c47 f (a0) R141).bind fun R155 => cth R155 (fun v161 => ((cq_is 4 20 (a0) R155.2).bind fun _ => ((c48 f (a0) (v161) (v153) R155.2).bind fun R163 => cth R163 (fun v169 => ((cq_is 4 20 (a0) R163.2).bind fun _ => ((c38 f (a0) (47) R163.2).bind fun R171 => cth R171 (fun _ => ((cq_is 4 20 (a0) R171.2).bind fun _ => ((c50 f (a0) (4) R171.2).bind fun R179 => c41t f a0 v153 v169 R179))))))))))))))))) := rfl
def c41_72t (f : Nat) (x0 : Nat) (x1 : Int) (x2 : Int) (x3 : Int) (x4 : Int) (R101 : ((Nat ⊕ Unit) × xT_)) : Option ((Nat ⊕ Unit) × xT_) := cth R101 (fun _ => ((cq_is 4 20 (x0) R101.2).bind fun _ => ((c40 f (x0) (6) (x2) (x1) (x3) R101.2).bind fun R109 => ((cq_gr 4 3 20 (x0) R109).bind fun v115 => ((cq_gr 3 5 14 (v115) R109).bind fun v117 => ((cq_sb (v117) (x2) (1) R109).bind fun T120 => ((cq_gr 4 3 20 (x0) T120).bind fun v124 => ((cq_gr 3 4 14 (v124) T120).bind fun v126 => ((cq_s 3 (v126) (x2) (x4) T120).bind fun T129 => ((cq_gr 4 3 20 (x0) T129).bind fun v133 => ((cq_is 3 14 (v133) T129).bind fun _ => ((c23 f (v133) (x2) (x3) T129).bind fun R135 => (some (.inr (), R135))))))))))))))
theorem c41_72t_e (f : Nat) (x0 : Nat) (x1 : Int) (x2 : Int) (x3 : Int) (x4 : Int) (T : xT_) : c41_72 f x0 x1 x2 x3 x4 T = ((cq_is 4 20 (x0) T).bind fun _ => ((c38 f (x0) (46) T).bind fun R101 => c41_72t f x0 x1 x2 x3 x4 R101)) := rfl
def c41_72u (f : Nat) (x0 : Nat) (x2 : Int) (x3 : Int) (x4 : Int) (R109 : (xT_)) : Option ((Nat ⊕ Unit) × xT_) := ((cq_gr 4 3 20 (x0) R109).bind fun v115 => ((cq_gr 3 5 14 (v115) R109).bind fun v117 => ((cq_sb (v117) (x2) (1) R109).bind fun T120 => ((cq_gr 4 3 20 (x0) T120).bind fun v124 => ((cq_gr 3 4 14 (v124) T120).bind fun v126 => ((cq_s 3 (v126) (x2) (x4) T120).bind fun T129 => ((cq_gr 4 3 20 (x0) T129).bind fun v133 => ((cq_is 3 14 (v133) T129).bind fun _ => ((c23 f (v133) (x2) (x3) T129).bind fun R135 => (some (.inr (), R135)))))))))))
theorem c41_72u_e (f : Nat) (x0 : Nat) (x1 : Int) (x2 : Int) (x3 : Int) (x4 : Int) (R101 : ((Nat ⊕ Unit) × xT_)) : c41_72t f x0 x1 x2 x3 x4 R101 = cth R101 (fun _ => ((cq_is 4 20 (x0) R101.2).bind fun _ => ((c40 f (x0) (6) (x2) (x1) (x3) R101.2).bind fun R109 => c41_72u f x0 x2 x3 x4 R109))) := rfl
def c42t (f : Nat) (a0 : Nat) (v113 : Int) (v129 : Int) (R131 : ((Nat ⊕ Unit) × xT_)) : Option ((Nat ⊕ Unit) × xT_) := cth R131 (fun _ => ((cq_is 4 20 (a0) R131.2).bind fun _ => ((c40 f (a0) (7) (v129) (v113) (0) R131.2).bind fun R139 => ((cq_gr 4 3 20 (a0) R139).bind fun v145 => ((cq_gr 3 6 14 (v145) R139).bind fun v147 => ((cq_sb (v147) (v129) (1) R139).bind fun T150 => (some (.inr (), T150))))))))
theorem c42t_e (f : Nat) (a0 : Nat) (T : xT_) : c42 f a0 T = ((cq_is 4 20 (a0) T).bind fun _ => ((c37 f (a0) T).bind fun R101 => ((cq_gr 4 0 20 (a0) R101).bind fun v107 => ((cq_gr 8 4 8 (v107) R101).bind fun v109 => ((cq_gi 4 1 20 (a0) R101).bind fun v111 => ((cq_a 3 (v109) (v111) R101).bind fun v113 => ((cq_is 4 20 (a0) R101).bind fun _ => ((c47 f (a0) R101).bind fun R115 => cth R115 (fun v121 => ((cq_is 4 20 (a0) R115.2).bind fun _ => ((c48 f (a0) (v121) (v113) R115.2).bind fun R123 => cth R123 (fun v129 => ((cq_is 4 20 (a0) R123.2).bind fun _ => ((c38 f (a0) (46) R123.2).bind fun R131 => c42t f a0 v113 v129 R131)))))))))))))) := rfl
def c42u (f : Nat) (a0 : Nat) (v129 : Int) (R139 : (xT_)) : Option ((Nat ⊕ Unit) × xT_) := ((cq_gr 4 3 20 (a0) R139).bind fun v145 => ((cq_gr 3 6 14 (v145) R139).bind fun v147 => ((cq_sb (v147) (v129) (1) R139).bind fun T150 => (some (.inr (), T150)))))
theorem c42u_e (f : Nat) (a0 : Nat) (v113 : Int) (v129 : Int) (R131 : ((Nat ⊕ Unit) × xT_)) : c42t f a0 v113 v129 R131 = cth R131 (fun _ => ((cq_is 4 20 (a0) R131.2).bind fun _ => ((c40 f (a0) (7) (v129) (v113) (0) R131.2).bind fun R139 => c42u f a0 v129 R139))) := rfl
section
variable {f n N w i j u q F sl p nx : Nat} {S : Nat → Nat × Nat × Nat} {G G1 G2 G3 G' : xG_} {m : Nat × Nat} {B : Nat → Int} {t : tStr} {s : pPg} {L : List Int} {v sp : Int}
theorem cPS.at (h : cPS S G B n t N w q nx s) (h1 : cAt (xup2 G 72 1 ((min j N : Nat) : Int)) N w j) (h2 : j ≤ N) (h3 : s.2.2.2.2.2 ≤ j) : cPS S (xup2 G 72 1 ((min j N : Nat) : Int)) B n t N w q nx (s.1, s.2.1, s.2.2.1, s.2.2.2.1, s.2.2.2.2.1, j) ∧ xFp q nx G (xup2 G 72 1 ((min j N : Nat) : Int)) := by
  obtain ⟨hE, hA, hi, hr, ⟨hM, hW, hmp, h3'⟩, hP, hH, hqu⟩ := h
  have hq := hr.2.2.1 rfl
  exact ⟨⟨hE.u1, h1, h2, hr.at, ⟨at_m hM, hW.at hr.2.1, hmp, by show 3 * s.2.2.2.1.length ≤ j; omega⟩, hP.ge (fun _ _ => rfl) (fun a k z => xup2_n (by omega)), hH.ge (fun k => xup2_n (by omega)), hqu⟩, fun a k z1 z2 z3 z4 => xup2_n (by omega)⟩
theorem cPS.fn (h : cPS S G B n t N w q nx s) (hx : xFn true q G G') (hn : cNs G' q L) (h1 : cAt G' N w j) (h2 : j ≤ N) (h3 : s.2.2.2.2.2 ≤ j) : cPS S G' B n t N w q nx (L, s.2.1, s.2.2.1, s.2.2.2.1, s.2.2.2.2.1, j) ∧ xFp q nx G G' := by
  obtain ⟨hE, hA, hi, hr, ⟨hM, hW, hmp, h3'⟩, hP, hH, hqu⟩ := h
  have hq := hr.2.2.1 rfl
  have z : ∀ a k, ¬ (a = 72 ∧ k = 1) → ¬ (a = q ∧ k = 1) → a ≠ q + 1 → G' a k = G a k := fun a k z1 z2 z3 => hx a k z1 (fun y => by rcases y.2 with q | q; exact z2 q; exact z3 q)
  exact ⟨⟨hE.ge (fun _ _ => rfl) (fun a k z1 z2 z3 => z a k (by omega) (by omega) (by omega)), h1, h2, hr.fn hx hn, ⟨hM.fn hx hr.2.2.1, hW.fn hx hr.2.1, hmp, by show 3 * s.2.2.2.1.length ≤ j; omega⟩, hP.ge (fun _ _ => rfl) (fun a k y => z a k (by omega) (by omega) (by omega)), hH.ge (fun k => z _ _ (by omega) (by omega) (by omega)), hqu⟩, fun a k z1 z2 z3 z4 => z a k (by omega) (by omega) (by omega)⟩
/-- WRONG ahead of any rule -/
def iW (S : Nat → Nat × Nat × Nat) (G : xG_) (q nx : Nat) (m : Nat × Nat) (T : Option ((Nat ⊕ Unit) × xT_)) (x : Nat) : Prop := ∃ G' : xG_, T = some (.inl 0, cWr S G' m (x : Int)) ∧ xFp q nx G G'
/-- the TOKEN behind input or output, its NAME -/
theorem k_io (hf : 20 < f) (h : cPS S G B n t N w q nx s) (h0 : kK t s.2.2.2.2.2 ≠ 0) (h5 : kK t s.2.2.2.2.2 ≠ 5) : ∃ G1, c37 f 72 (S, G, m) = some (S, G1, m) ∧ (G1 68 (s.2.2.2.2.2 + 1) = (kS t (s.2.2.2.2.2 + 1) : Int) ∧ G1 72 1 = ((s.2.2.2.2.2 + 1 : Nat) : Int) ∧ s.2.2.2.2.2 + 1 ≤ 3000 ∧ cPs G1) ∧ pok (pPred t s.1 (s.2.2.2.2.2 + 1)) (fun x => ∃ G' : xG_, xFp q nx G G' ∧ (c47 f 72 (S, G1, m) = some (.inl 0, cWr S G' m (x : Int)) ∨ ∃ v, c47 f 72 (S, G1, m) = some (.inr v, (S, G', m)) ∧ c48 f 72 v (kS t (s.2.2.2.2.2 + 1) : Int) (S, G', m) = some (.inl 0, cWr S G' m (x : Int))))
    (fun r => ∃ v G2 G3, c47 f 72 (S, G1, m) = some (.inr v, (S, G2, m)) ∧ c48 f 72 v (kS t (s.2.2.2.2.2 + 1) : Int) (S, G2, m) = some (.inr r.1, (S, G3, m)) ∧ xFp q nx G G3 ∧ r.2.2 = s.2.2.2.2.2 + 2 ∧ (∃ p : Nat, r.1 = p ∧ p < 16) ∧ cPS S G3 B n t N w q nx (r.2.1, s.2.1, s.2.2.1, s.2.2.2.1, s.2.2.2.2.1, s.2.2.2.2.2 + 2)) := by
  obtain ⟨l1, l2⟩ := h.1.lt h.2.1 h0
  have hN := h.1.2.2.2.1.2
  obtain ⟨d1, d2⟩ := k_37 (f := f) (m := m) h.1 h.2.1 h5
  obtain ⟨r1, r2⟩ := h.at d2 (by omega) (by omega)
  obtain ⟨k1, k2, k3, k4⟩ := r1.1.tk r1.2.1
  have em : min (s.2.2.2.2.2 + 1) N = s.2.2.2.2.2 + 1 := Nat.min_eq_left (by omega)
  have k2' : xup2 G 72 1 ((min (s.2.2.2.2.2 + 1) N : Nat) : Int) 68 (s.2.2.2.2.2 + 1) = (kS t (s.2.2.2.2.2 + 1) : Int) := by
    rw [xup2_n (by omega)]
    rw [xup2_n (by omega)] at k2
    have k2'' : G 68 (min (s.2.2.2.2.2 + 1) N) = (kS t (s.2.2.2.2.2 + 1) : Int) := k2
    rw [em] at k2''
    exact k2''
  refine ⟨_, d1, ⟨k2', by rw [xup2_s, em], by omega, r1.1.2.1⟩, ?_⟩
  have pp := k_pred (m := m) (tell := true) hf r1.1 r1.2.1 r1.2.2.2.1
  rw [if_pos rfl] at pp
  have hq := h.2.2.2.1.2.2.1 rfl
  show pok (pPred t s.1 (s.2.2.2.2.2 + 1)) _ _
  cases hX : pPred t s.1 (s.2.2.2.2.2 + 1) with
  | inl x =>
    have pp' : pok (pPred t s.1 (s.2.2.2.2.2 + 1)) _ _ := pp
    rw [hX] at pp'
    rcases pp' with p1 | ⟨v, G2, p1, p2, p3⟩
    · exact ⟨_, r2, .inl p1⟩
    · exact ⟨G2, r2.tr (fun a k z1 z2 z3 z4 => p3 a k (by omega) (fun y => nomatch y.1)), .inr ⟨v, p1, p2⟩⟩
  | inr r =>
    have pp' : pok (pPred t s.1 (s.2.2.2.2.2 + 1)) _ _ := pp
    rw [hX] at pp'
    obtain ⟨v, G2, G3, p1, p2, p3, p4, p5, p6, p7⟩ := pp'
    obtain ⟨y1, y2⟩ := r1.fn p3 p7 p6 p5 (Nat.le_succ _)
    exact ⟨v, G2, G3, p1, p2, r2.tr y2, p4, pPred_nat hX h.2.2.2.1.2.2.2.2.2.2.2.1, y1⟩
theorem st_42w {R : (Nat ⊕ Int) × xT_} {x : Nat} {T : xT_} (hs : cSs S) (hp : cPs G1) (hx : x ≤ 3000) (d1 : c37 f 72 (S, G, m) = some (S, G1, m)) (k2 : G1 68 x = sp) (k3 : G1 72 1 = (x : Int)) (h : c47 f 72 (S, G1, m) = some (.inl 0, T) ∨ ∃ v, c47 f 72 (S, G1, m) = some (.inr v, (S, G2, m)) ∧ c48 f 72 v sp (S, G2, m) = some (.inl 0, T)) : c42 f 72 (S, G, m) = some (.inl 0, T) := by
  rcases h with p1 | ⟨v, p1, p2⟩
  · rw [c42t_e]
    simp (disch := omega) only [cq_gi, cq_gr, cq_a, cq_s, cq_p, cq_pr, cq_is, cq_ar, cq_ab, cq_ln, xq_nz, Option.bind_some, xup2_n, xup2_s, Int.toNat_natCast, Int.reduceToNat, if_pos, if_neg, true_and, and_true, and_self, eq_self, if_true, reduceIte, not_true_eq_false, not_false_eq_true, or_true, true_or, s72 hs, s65 hs, s68 hs, p72_0 hp, p65_4 hp, d1, k2, k3, p1, cth]
  · rw [c42t_e]
    simp (disch := omega) only [cq_gi, cq_gr, cq_a, cq_s, cq_p, cq_pr, cq_is, cq_ar, cq_ab, cq_ln, xq_nz, Option.bind_some, xup2_n, xup2_s, Int.toNat_natCast, Int.reduceToNat, if_pos, if_neg, true_and, and_true, and_self, eq_self, if_true, reduceIte, not_true_eq_false, not_false_eq_true, or_true, true_or, s72 hs, s65 hs, s68 hs, p72_0 hp, p65_4 hp, d1, k2, k3, p1, p2, cth]
theorem st_42 {x : Nat} {pr : Int} {R : (Nat ⊕ Unit) × xT_} (hs : cSs S) (hp : cPs G1) (hx : x ≤ 3000) (d1 : c37 f 72 (S, G, m) = some (S, G1, m)) (k2 : G1 68 x = sp) (k3 : G1 72 1 = (x : Int)) (p1 : c47 f 72 (S, G1, m) = some (.inr v, (S, G2, m))) (p2 : c48 f 72 v sp (S, G2, m) = some (.inr pr, (S, G3, m))) (p3 : c38 f 72 46 (S, G3, m) = some R) : c42 f 72 (S, G, m) = c42t f 72 sp pr R := by
  rw [c42t_e]
  simp (disch := omega) only [cq_gi, cq_gr, cq_a, cq_s, cq_p, cq_pr, cq_is, cq_ar, cq_ab, cq_ln, xq_nz, Option.bind_some, xup2_n, xup2_s, Int.toNat_natCast, Int.reduceToNat, if_pos, if_neg, true_and, and_true, and_self, eq_self, if_true, reduceIte, not_true_eq_false, not_false_eq_true, or_true, true_or, s72 hs, s65 hs, s68 hs, p72_0 hp, p65_4 hp, d1, k2, k3, p1, p2, p3, cth]
theorem st_42t {pr : Int} (hs : cSs S) (e : c40 f 72 7 pr sp 0 (S, G, m) = some (S, G1, m)) : c42t f 72 sp pr (.inr (), (S, G, m)) = c42u f 72 pr (S, G1, m) := by
  rw [c42u_e]
  simp (disch := omega) only [cq_gi, cq_gr, cq_a, cq_s, cq_p, cq_pr, cq_is, cq_ar, cq_ab, cq_ln, xq_nz, Option.bind_some, xup2_n, xup2_s, Int.toNat_natCast, Int.reduceToNat, if_pos, if_neg, true_and, and_true, and_self, eq_self, if_true, reduceIte, not_true_eq_false, not_false_eq_true, or_true, true_or, s72 hs, e, cth]
theorem st_42u (hs : cSs S) (hp : p < 16) (hq : 82 < q) (qs : S q = (1, 3, 14)) (q5 : S (q + 5) = (2, 0, 16)) (h3 : G 72 3 = (q : Int)) (w6 : G q 6 = ((q + 5 : Nat) : Int)) : c42u f 72 (p : Int) (S, G, m) = some (.inr (), (S, xup2 G (q + 5) p 1, m)) := by
  have eb := cq_sb_ok (G := G) (m := m) q5 hp
  unfold c42u
  simp (disch := omega) only [cq_gi, cq_gr, cq_a, cq_s, cq_p, cq_pr, cq_is, cq_ar, cq_ab, cq_ln, xq_nz, Option.bind_some, xup2_n, xup2_s, Int.toNat_natCast, Int.reduceToNat, if_pos, if_neg, true_and, and_true, and_self, eq_self, if_true, reduceIte, not_true_eq_false, not_false_eq_true, or_true, true_or, s72 hs, qs, h3, w6, eb]
/-- one mention more, of a program -/
theorem cPS.men {k pr sp' d : Int} {y : pMn} (h : cPS S G B n t N w q nx s) (h1 : pr = y.1) (h2 : k = mKd y.2.2.2) (h3 : sp' = (y.2.1 : Int)) (h4 : y.2.2.1 ≠ -1 → d = y.2.2.1) : cEv S (mSt G s.2.2.2.1.length k pr sp' d) B n t N w ∧ cAt (mSt G s.2.2.2.1.length k pr sp' d) N w s.2.2.2.2.2 ∧ cPr0 S (mSt G s.2.2.2.1.length k pr sp' d) q true s.1 ∧ cMe (mSt G s.2.2.2.1.length k pr sp' d) (s.2.2.2.1 ++ [y]) ∧ cWd (mSt G s.2.2.2.1.length k pr sp' d) q s.2.2.2.1 ∧ cPp S (mSt G s.2.2.2.1.length k pr sp' d) q nx s.2.1 s.2.2.1 s.2.2.2.2.1 ∧ cHd (mSt G s.2.2.2.1.length k pr sp' d) q s.2.2.2.2.1 ∧ xFp q nx G (mSt G s.2.2.2.1.length k pr sp' d) := by
  obtain ⟨hE, hA, hi, hr, ⟨hM, hW, hmp, h3'⟩, hP, hH, hqu⟩ := h
  have hq := hr.2.2.1 rfl
  refine ⟨hE.ge (fun _ _ => rfl) (fun a j z1 z2 z3 => mSt_n a j (by omega) (by omega)), ⟨by rw [mSt_n _ _ (by omega) (by omega)]; exact hA.1, hA.2⟩, hr.ge (mSt_n _ _ (by omega) (by omega)) (mSt_n _ _ (by omega) (by omega)) (fun j _ _ _ => mSt_n _ _ (by omega) (by omega)) (fun j => mSt_n _ _ (by omega) (by omega)), mSt_m hM h1 h2 h3 h4, hW.ge (fun j => mSt_n _ _ (by omega) (by omega)), hP.ge (fun _ _ => rfl) (fun a j z => mSt_n _ _ (by omega) (by omega)), hH.ge (fun j => mSt_n _ _ (by omega) (by omega)), fun a j z1 z2 z3 z4 => mSt_n _ _ (by omega) (by omega)⟩
/-- readOutput() -/
theorem k_42 (hf : 20 < f) (hk : kK t s.2.2.2.2.2 = 7) (h : cPS S G B n t N w q nx s) : pok (pOutput t s) (iW S G q nx m (c42 f 72 (S, G, m))) (fun s' => ∃ G', c42 f 72 (S, G, m) = some (.inr (), (S, G', m)) ∧ xFp q nx G G' ∧ cPS S G' B n t N w q nx s' ∧ s.2.2.2.2.2 < s'.2.2.2.2.2) := by
  have hs := h.1.1
  have hN := h.1.2.2.2.1.2
  obtain ⟨G1, d1, ⟨k2, k3, k4, kp⟩, pp⟩ := k_io (m := m) hf h (by omega) (by omega)
  unfold pOutput
  cases hX : pPred t s.1 (s.2.2.2.2.2 + 1) with
  | inl x =>
    rw [hX] at pp
    obtain ⟨G2, a1, a2⟩ := pp
    exact ⟨G2, st_42w (R := (.inl 0, (S, G, m))) hs kp k4 d1 k2 k3 a2, a1⟩
  | inr r =>
    rw [hX] at pp
    obtain ⟨v, G2, G3, p1, p2, p3, p4, ⟨pn, p5, p6⟩, p7⟩ := pp
    have p38 := k_38 (f := f) (m := m) (c := 46) (by decide) p7.1 p7.2.1
    show pok (pbind (pNeed t 46 r.2.2) fun i => .inr (r.2.1, s.2.1, s.2.2.1 ++ [r.1], s.2.2.2.1 ++ [(r.1, kS t (s.2.2.2.2.2 + 1), -1, 2)], s.2.2.2.2.1, i)) _ _
    rw [p4]
    have p38' : pok (pNeed t 46 (s.2.2.2.2.2 + 2)) _ _ := p38
    cases hn : pNeed t 46 (s.2.2.2.2.2 + 2) with
    | inl x =>
      rw [hn] at p38'
      exact ⟨G3, by rw [st_42 hs kp k4 d1 k2 k3 p1 p2 p38']; rfl, p3⟩
    | inr j =>
      rw [hn] at p38'
      obtain ⟨a1, a2, a3, a4⟩ := p38'
      replace a2 : j = s.2.2.2.2.2 + 2 + 1 := a2
      replace a3 : kK t (s.2.2.2.2.2 + 2) = 46 := a3
      have hlt := (p7.1.lt p7.2.1 (by show kK t (s.2.2.2.2.2 + 2) ≠ 0; omega)).1
      have hlt' : s.2.2.2.2.2 + 2 < N := hlt
      obtain ⟨r1, r2⟩ := p7.at a4 (by omega) (by show s.2.2.2.2.2 + 2 ≤ j; omega)
      have hM1 : cMe _ s.2.2.2.1 := r1.2.2.2.2.1.1
      have h3m : 3 * s.2.2.2.1.length ≤ s.2.2.2.2.2 := h.2.2.2.2.1.2.2.2
      have e40 := mSt_40 (f := f) (m := m) (k := 7) (p := r.1) (s := (kS t (s.2.2.2.2.2 + 1) : Int)) (d := 0) hs r1.1.2.1 hM1.1 (by omega)
      obtain ⟨z1, z2, z3, z4, z5, z6, z7, z8⟩ := r1.men (k := 7) (pr := r.1) (sp' := (kS t (s.2.2.2.2.2 + 1) : Int)) (d := 0) (y := (r.1, kS t (s.2.2.2.2.2 + 1), -1, 2)) rfl rfl rfl (fun y => absurd rfl y)
      have hq := z3.2.2.1 rfl
      have e2 := st_42u (f := f) (m := m) hs p6 z3.2.1 z3.2.2.2.2.1.1 z3.2.2.2.2.1.2.2.2.2.2.1 z3.1 z3.2.2.2.2.2.1.2.2.2.2.1
      obtain ⟨G5, hG5⟩ : ∃ G5, G5 = mSt (xup2 G3 72 1 ((min j N : Nat) : Int)) s.2.2.2.1.length 7 r.1 (kS t (s.2.2.2.2.2 + 1) : Int) 0 := ⟨_, rfl⟩
      have e3 : c42 f 72 (S, G, m) = c42u f 72 r.1 (S, G5, m) := by rw [st_42 hs kp k4 d1 k2 k3 p1 p2 a1, hG5]; exact st_42t hs e40
      rw [show mSt (xup2 G3 72 1 ((min j N : Nat) : Int)) (r.2.1, s.2.1, s.2.2.1, s.2.2.2.1, s.2.2.2.2.1, j).2.2.2.1.length 7 r.1 (kS t (s.2.2.2.2.2 + 1) : Int) 0 = G5 from hG5.symm] at z1 z2 z3 z4 z5 z6 z7 z8 e2
      rw [p5, e2] at e3
      have hqu := h.2.2.2.2.2.2.2
      refine ⟨xup2 G5 (q + 5) pn 1, e3, ((p3.tr r2).tr z8).tr (fun a k y1 y2 y3 y4 => xup2_n (by omega)), ⟨z1.ge (fun _ _ => rfl) (fun a k y1 y2 y3 => xup2_n (by omega)), ⟨by rw [xup2_n (by omega)]; exact z2.1, z2.2⟩, by show j ≤ N; omega, z3.ge (xup2_n (by omega)) (xup2_n (by omega)) (fun k _ _ _ => xup2_n (by omega)) (fun k => xup2_n (by omega)), ⟨z4.ge (xup2_n (by omega)) (fun a k y1 y2 => xup2_n (by omega)), ?_, mPos_1 h.2.2.2.2.1.2.2.1 (.inl rfl), by show 3 * (s.2.2.2.1 ++ [_]).length ≤ j; rw [len1]; omega⟩, ⟨?_, z6.2.1.ge (Nat.le_refl _) (xup2_n (by omega)) (fun k _ => xup2_n (by omega)) (fun _ _ => rfl) (fun a k y1 y2 => xup2_n (by omega)), fun a k y1 y2 => by rw [xup2_n (by omega)]; exact z6.2.2.1 a k y1 y2, by rw [xup2_n (by omega)]; exact z6.2.2.2⟩, z7.ge (fun k => xup2_n (by omega)), hqu⟩, by show s.2.2.2.2.2 < j; omega⟩
      · intro x hx
        rw [xup2_n (by omega), z5 x hx]
        show pNn s.2.2.2.1 (x : Int) = pNn (s.2.2.2.1 ++ [(r.1, kS t (s.2.2.2.2.2 + 1), -1, 2)]) (x : Int)
        rw [pNn_1 h.2.2.2.2.1.2.2.1, if_neg (fun y : r.1 = (x : Int) ∧ (-1 : Int) ≠ -1 => y.2 rfl)]
        split
        · assumption
        · rfl
      · intro x hx
        obtain ⟨y1, y2, y3⟩ := z6.1 x hx
        rw [xup2_n (by omega), xup2_n (by omega)]
        refine ⟨y1, y2, ?_⟩
        show _ = b01 (pOu (s.2.2.1 ++ [r.1]) (x : Int))
        rw [pOu_1, p5]
        by_cases cx : x = pn
        · rw [if_pos (by omega), cx, xup2_s]
        · rw [if_neg (by omega), xup2_n (by omega)]; exact y3
end
end
section
/-! THE CLASS reads inputs -/
theorem pKl_1 (l : List (Int × Int × Int)) (y : Int × Int × Int) (x : Int) : pKl (l ++ [y]) x = if y.1 = x then y.2.2 else pKl l x := by
  unfold pKl pKy
  rw [List.reverse_append]
  show (match (y :: l.reverse).find? (fun z => decide (z.1 = x)) with | some z => z.2.2 | none => 0) = _
  by_cases c : y.1 = x
  · rw [if_pos c, List.find?_cons_of_pos (by simp [c])]
  · rw [if_neg c, List.find?_cons_of_neg (by simp [c])]
    rfl
section
variable {f n N w i j u q F sl p nx : Nat} {S : Nat → Nat × Nat × Nat} {G G1 G2 G3 G4 G' : xG_} {m : Nat × Nat} {B : Nat → Int} {t : tStr} {s : pPg} {L : List Int} {v sp : Int}
theorem st_41w {x : Nat} {T : xT_} (hs : cSs S) (hp : cPs G1) (hx : x ≤ 3000) (d1 : c37 f 72 (S, G, m) = some (S, G1, m)) (k2 : G1 68 x = sp) (k3 : G1 72 1 = (x : Int)) (h : c47 f 72 (S, G1, m) = some (.inl 0, T) ∨ ∃ v, c47 f 72 (S, G1, m) = some (.inr v, (S, G2, m)) ∧ (c48 f 72 v sp (S, G2, m) = some (.inl 0, T) ∨ ∃ pr, c48 f 72 v sp (S, G2, m) = some (.inr pr, (S, G3, m)) ∧ c38 f 72 47 (S, G3, m) = some (.inl 0, T))) : c41 f 72 (S, G, m) = some (.inl 0, T) := by
  rw [c41t_e]
  rcases h with p1 | ⟨v, p1, p2 | ⟨pr, p2, p3⟩⟩
  · simp (disch := omega) only [cq_gi, cq_gr, cq_a, cq_s, cq_p, cq_pr, cq_is, cq_ar, cq_ab, cq_ln, xq_nz, Option.bind_some, xup2_n, xup2_s, Int.toNat_natCast, Int.reduceToNat, if_pos, if_neg, true_and, and_true, and_self, eq_self, if_true, reduceIte, not_true_eq_false, not_false_eq_true, or_true, true_or, s72 hs, s65 hs, s68 hs, p72_0 hp, p65_4 hp, d1, k2, k3, p1, cth]
  · simp (disch := omega) only [cq_gi, cq_gr, cq_a, cq_s, cq_p, cq_pr, cq_is, cq_ar, cq_ab, cq_ln, xq_nz, Option.bind_some, xup2_n, xup2_s, Int.toNat_natCast, Int.reduceToNat, if_pos, if_neg, true_and, and_true, and_self, eq_self, if_true, reduceIte, not_true_eq_false, not_false_eq_true, or_true, true_or, s72 hs, s65 hs, s68 hs, p72_0 hp, p65_4 hp, d1, k2, k3, p1, p2, cth]
  · simp (disch := omega) only [cq_gi, cq_gr, cq_a, cq_s, cq_p, cq_pr, cq_is, cq_ar, cq_ab, cq_ln, xq_nz, Option.bind_some, xup2_n, xup2_s, Int.toNat_natCast, Int.reduceToNat, if_pos, if_neg, true_and, and_true, and_self, eq_self, if_true, reduceIte, not_true_eq_false, not_false_eq_true, or_true, true_or, s72 hs, s65 hs, s68 hs, p72_0 hp, p65_4 hp, d1, k2, k3, p1, p2, p3, cth]
theorem st_41 {x : Nat} {pr : Int} {R : (Nat ⊕ Int) × xT_} (hs : cSs S) (hp : cPs G1) (hx : x ≤ 3000) (d1 : c37 f 72 (S, G, m) = some (S, G1, m)) (k2 : G1 68 x = sp) (k3 : G1 72 1 = (x : Int)) (p1 : c47 f 72 (S, G1, m) = some (.inr v, (S, G2, m))) (p2 : c48 f 72 v sp (S, G2, m) = some (.inr pr, (S, G3, m))) (p3 : c38 f 72 47 (S, G3, m) = some (.inr (), (S, G4, m))) (p4 : c50 f 72 4 (S, G4, m) = some R) : c41 f 72 (S, G, m) = c41t f 72 sp pr R := by
  rw [c41t_e]
  simp (disch := omega) only [cq_gi, cq_gr, cq_a, cq_s, cq_p, cq_pr, cq_is, cq_ar, cq_ab, cq_ln, xq_nz, Option.bind_some, xup2_n, xup2_s, Int.toNat_natCast, Int.reduceToNat, if_pos, if_neg, true_and, and_true, and_self, eq_self, if_true, reduceIte, not_true_eq_false, not_false_eq_true, or_true, true_or, s72 hs, s65 hs, s68 hs, p72_0 hp, p65_4 hp, d1, k2, k3, p1, p2, p3, p4, cth]
theorem st_41t {x : Nat} {pr k wd : Int} (hs : cSs S) (hp : cPs G) (hx : x ≤ 3000) (k1 : G 67 x = k) (k3 : G 72 1 = (x : Int)) : (k ≠ 8 → c41t f 72 sp pr (.inr wd, (S, G, m)) = c41_72 f 72 sp pr wd 0 (S, G, m)) ∧ (∀ {G1 : xG_} {R : (Nat ⊕ Int) × xT_}, k = 8 → c37 f 72 (S, G, m) = some (S, G1, m) → c50 f 72 (xwr (wd - 1)) (S, G1, m) = some R → c41t f 72 sp pr (.inr wd, (S, G, m)) = cth R (fun v => c41_72 f 72 sp pr wd v R.2)) := by
  refine ⟨fun c => ?_, fun c d1 e => ?_⟩
  · unfold c41t
    simp (disch := omega) only [cq_gi, cq_gr, cq_a, cq_s, cq_p, cq_pr, cq_is, cq_ar, cq_ab, cq_ln, xq_nz, Option.bind_some, xup2_n, xup2_s, Int.toNat_natCast, Int.reduceToNat, if_pos, if_neg, true_and, and_true, and_self, eq_self, if_true, reduceIte, not_true_eq_false, not_false_eq_true, or_true, true_or, s72 hs, s65 hs, s67 hs, p72_0 hp, p65_3 hp, k1, k3, cth]
  · rw [c] at k1
    unfold c41t
    simp (disch := omega) only [cq_gi, cq_gr, cq_a, cq_s, cq_p, cq_pr, cq_is, cq_ar, cq_ab, cq_ln, xq_nz, Option.bind_some, xup2_n, xup2_s, Int.toNat_natCast, Int.reduceToNat, if_pos, if_neg, true_and, and_true, and_self, eq_self, if_true, reduceIte, not_true_eq_false, not_false_eq_true, or_true, true_or, s72 hs, s65 hs, s67 hs, p72_0 hp, p65_3 hp, k1, k3, cth, d1, e]
theorem st_72 {pr wd ke : Int} {R : (Nat ⊕ Unit) × xT_} (hs : cSs S) (e : c38 f 72 46 (S, G, m) = some R) : c41_72 f 72 sp pr wd ke (S, G, m) = c41_72t f 72 sp pr wd ke R := by
  rw [c41_72t_e]
  simp (disch := omega) only [cq_gi, cq_gr, cq_a, cq_s, cq_p, cq_pr, cq_is, cq_ar, cq_ab, cq_ln, xq_nz, Option.bind_some, xup2_n, xup2_s, Int.toNat_natCast, Int.reduceToNat, if_pos, if_neg, true_and, and_true, and_self, eq_self, if_true, reduceIte, not_true_eq_false, not_false_eq_true, or_true, true_or, s72 hs, e]
theorem st_72t {pr wd ke : Int} (hs : cSs S) (e : c40 f 72 6 pr sp wd (S, G, m) = some (S, G1, m)) : c41_72t f 72 sp pr wd ke (.inr (), (S, G, m)) = c41_72u f 72 pr wd ke (S, G1, m) := by
  rw [c41_72u_e]
  simp (disch := omega) only [cq_gi, cq_gr, cq_a, cq_s, cq_p, cq_pr, cq_is, cq_ar, cq_ab, cq_ln, xq_nz, Option.bind_some, xup2_n, xup2_s, Int.toNat_natCast, Int.reduceToNat, if_pos, if_neg, true_and, and_true, and_self, eq_self, if_true, reduceIte, not_true_eq_false, not_false_eq_true, or_true, true_or, s72 hs, e, cth]
theorem st_72u {wd ke : Int} (hs : cSs S) (hp : p < 16) (hq : 82 < q) (qs : S q = (1, 3, 14)) (q3 : S (q + 3) = (2, 3, 16)) (q4 : S (q + 4) = (2, 0, 16)) (h3 : G 72 3 = (q : Int)) (w4 : G q 4 = ((q + 3 : Nat) : Int)) (w5 : G q 5 = ((q + 4 : Nat) : Int)) (e : c23 f q (p : Int) wd (S, xup2 (xup2 G (q + 4) p 1) (q + 3) p ke, m) = some (S, G1, m)) : c41_72u f 72 (p : Int) wd ke (S, G, m) = some (.inr (), (S, G1, m)) := by
  have eb := cq_sb_ok (G := G) (m := m) q4 hp
  unfold c41_72u
  simp (disch := omega) only [cq_gi, cq_gr, cq_a, cq_s, cq_p, cq_pr, cq_is, cq_ar, cq_ab, cq_ln, xq_nz, Option.bind_some, xup2_n, xup2_s, Int.toNat_natCast, Int.reduceToNat, if_pos, if_neg, true_and, and_true, and_self, eq_self, if_true, reduceIte, not_true_eq_false, not_false_eq_true, or_true, true_or, s72 hs, qs, q3, h3, w4, w5, eb, e]
/-- from the . on -/
theorem k_41e {wd : Nat} {ke : Int} (h : cPS S G B n t N w q nx s) (hp : p < 16) (h1 : 1 ≤ wd) (h3 : 3 * s.2.2.2.1.length + 3 ≤ s.2.2.2.2.2) {sn : Nat} : pok (pNeed t 46 s.2.2.2.2.2) (iW S G q nx m (c41_72 f 72 (sn : Int) (p : Int) (wd : Int) ke (S, G, m))) (fun j => ∃ G', c41_72 f 72 (sn : Int) (p : Int) (wd : Int) ke (S, G, m) = some (.inr (), (S, G', m)) ∧ xFp q nx G G' ∧ j = s.2.2.2.2.2 + 1 ∧ cPS S G' B n t N w q nx (s.1, s.2.1 ++ [((p : Int), (wd : Int), ke)], s.2.2.1, s.2.2.2.1 ++ [((p : Int), sn, (wd : Int), 1)], s.2.2.2.2.1, j)) := by
  have hs := h.1.1
  have hN := h.1.2.2.2.1.2
  have hiN := h.2.2.1
  have p38 := k_38 (f := f) (m := m) (c := 46) (by decide) h.1 h.2.1
  cases hn : pNeed t 46 s.2.2.2.2.2 with
  | inl x =>
    rw [hn] at p38
    exact ⟨G, by rw [st_72 hs p38]; rfl, .id⟩
  | inr j =>
    rw [hn] at p38
    obtain ⟨a1, a2, a3, a4⟩ := p38
    have hlt := (h.1.lt h.2.1 (by omega)).1
    obtain ⟨r1, r2⟩ := h.at a4 (by omega) (by omega)
    have hM1 : cMe _ s.2.2.2.1 := r1.2.2.2.2.1.1
    have hmp : mPos s.2.2.2.1 := h.2.2.2.2.1.2.2.1
    have e40 := mSt_40 (f := f) (m := m) (k := 6) (p := (p : Int)) (s := (sn : Int)) (d := (wd : Int)) hs r1.1.2.1 hM1.1 (by omega)
    obtain ⟨z1, z2, z3, z4, z5, z6, z7, z8⟩ := r1.men (k := 6) (pr := (p : Int)) (sp' := (sn : Int)) (d := (wd : Int)) (y := ((p : Int), sn, (wd : Int), 1)) rfl rfl rfl (fun _ => rfl)
    obtain ⟨G5, hG5⟩ : ∃ G5, G5 = mSt (xup2 G 72 1 ((min j N : Nat) : Int)) s.2.2.2.1.length 6 (p : Int) (sn : Int) (wd : Int) := ⟨_, rfl⟩
    rw [show mSt (xup2 G 72 1 ((min j N : Nat) : Int)) (s.1, s.2.1, s.2.2.1, s.2.2.2.1, s.2.2.2.2.1, j).2.2.2.1.length 6 (p : Int) (sn : Int) (wd : Int) = G5 from hG5.symm] at z1 z2 z3 z4 z5 z6 z7 z8
    have hq := z3.2.2.1 rfl
    have hqu := h.2.2.2.2.2.2.2
    have zz : ∀ a k, ¬ (a = q + 4 ∧ k = p) → ¬ (a = q + 3 ∧ k = p) → xup2 (xup2 G5 (q + 4) p 1) (q + 3) p ke a k = G5 a k := fun a k y1 y2 => by rw [xup2_n y2, xup2_n y1]
    have z5' : cWd (xup2 (xup2 G5 (q + 4) p 1) (q + 3) p ke) q s.2.2.2.1 := z5.ge (fun k => zz _ _ (by omega) (by omega))
    have z3' : cPr0 S (xup2 (xup2 G5 (q + 4) p 1) (q + 3) p ke) q true s.1 := z3.ge (zz _ _ (by omega) (by omega)) (zz _ _ (by omega) (by omega)) (fun k _ _ _ => zz _ _ (by omega) (by omega)) (fun k => zz _ _ (by omega) (by omega))
    obtain ⟨G6, f1, f2, f3⟩ := k_23 (f := f) (m := m) (p := p) (c := wd) z3'.2.2.2.2.1 z3'.2.2.2.2.2.1 hp hmp z5' (y := ((p : Int), sn, (wd : Int), 1)) rfl rfl h1
    have e2 := st_72u (f := f) (m := m) hs hp z3.2.1 z3.2.2.2.2.1.1 z3.2.2.2.2.1.2.2.2.1 z3.2.2.2.2.1.2.2.2.2.1 z3.1 z3.2.2.2.2.2.1.2.2.1 z3.2.2.2.2.2.1.2.2.2.1 f1
    have e3 : c41_72 f 72 (sn : Int) (p : Int) (wd : Int) ke (S, G, m) = some (.inr (), (S, G6, m)) := by
      rw [st_72 hs a1, ← e2, hG5]
      exact st_72t hs e40
    have y6 : ∀ a k, a ≠ q + 2 → ¬ (a = q + 4 ∧ k = p) → ¬ (a = q + 3 ∧ k = p) → G6 a k = G5 a k := fun a k q1 q2 q3 => by rw [f3 a k q1, zz a k q2 q3]
    refine ⟨G6, e3, (r2.tr z8).tr (fun a k q1 q2 q3 q4 => y6 a k (by omega) (by omega) (by omega)), a2, z1.ge (fun _ _ => rfl) (fun a k q1 q2 q3 => y6 a k (by omega) (by omega) (by omega)), ⟨by rw [y6 _ _ (by omega) (by omega) (by omega)]; exact z2.1, z2.2⟩, by show j ≤ N; omega, z3.ge (y6 _ _ (by omega) (by omega) (by omega)) (y6 _ _ (by omega) (by omega) (by omega)) (fun k _ _ _ => y6 _ _ (by omega) (by omega) (by omega)) (fun k => y6 _ _ (by omega) (by omega) (by omega)), ⟨z4.ge (y6 _ _ (by omega) (by omega) (by omega)) (fun a k q1 q2 => y6 _ _ (by omega) (by omega) (by omega)), f2, mPos_1 hmp (.inr (by show (1 : Int) ≤ (wd : Int); omega)), by show 3 * (s.2.2.2.1 ++ [_]).length ≤ j; rw [len1]; omega⟩, ⟨?_, z6.2.1.ge (Nat.le_refl _) (y6 _ _ (by omega) (by omega) (by omega)) (fun k _ => y6 _ _ (by omega) (by omega) (by omega)) (fun _ _ => rfl) (fun a k q1 q2 => y6 _ _ (by omega) (by omega) (by omega)), fun a k q1 q2 => by rw [y6 a k (by omega) (by omega) (by omega)]; exact z6.2.2.1 a k q1 q2, by rw [y6 _ _ (by omega) (by omega) (by omega)]; exact z6.2.2.2⟩, z7.ge (fun k => y6 _ _ (by omega) (by omega) (by omega)), hqu⟩
    intro x hx
    obtain ⟨w1, w2, w3⟩ := z6.1 x hx
    show _ = pKl (s.2.1 ++ [((p : Int), (wd : Int), ke)]) (x : Int) ∧ _ = b01 (pIn (s.2.1 ++ [((p : Int), (wd : Int), ke)]) (x : Int)) ∧ _
    rw [pKl_1, pIn_1, f3 (q + 3) x (by omega), f3 (q + 4) x (by omega), y6 (q + 5) x (by omega) (by omega) (by omega)]
    show _ = (if (p : Int) = (x : Int) then ke else _) ∧ _ = (if (x : Int) = (p : Int) then 1 else _) ∧ _
    by_cases cx : x = p
    · rw [if_pos (by omega), if_pos (by omega), cx, xup2_s, xup2_n (by omega), xup2_s]
      rw [cx] at w3
      exact ⟨rfl, rfl, w3⟩
    · rw [if_neg (by omega), if_neg (by omega), zz _ _ (by omega) (by omega), zz _ _ (by omega) (by omega)]
      exact ⟨w1, w2, w3⟩
/-- readInput() -/
theorem k_41 (hf : 20 < f) (hk : kK t s.2.2.2.2.2 = 6) (h : cPS S G B n t N w q nx s) : pok (pInput t s) (iW S G q nx m (c41 f 72 (S, G, m))) (fun s' => ∃ G', c41 f 72 (S, G, m) = some (.inr (), (S, G', m)) ∧ xFp q nx G G' ∧ cPS S G' B n t N w q nx s' ∧ s.2.2.2.2.2 < s'.2.2.2.2.2) := by
  have hs := h.1.1
  have hN := h.1.2.2.2.1.2
  have h3m : 3 * s.2.2.2.1.length ≤ s.2.2.2.2.2 := h.2.2.2.2.1.2.2.2
  obtain ⟨G1, d1, ⟨k2, k3, k4, kp⟩, pp⟩ := k_io (m := m) hf h (by omega) (by omega)
  unfold pInput
  cases hX : pPred t s.1 (s.2.2.2.2.2 + 1) with
  | inl x =>
    rw [hX] at pp
    obtain ⟨G2, a1, a2⟩ := pp
    exact ⟨G2, st_41w (G3 := G2) hs kp k4 d1 k2 k3 (a2.imp id (fun ⟨v, b1, b2⟩ => ⟨v, b1, .inl b2⟩)), a1⟩
  | inr r =>
    rw [hX] at pp
    obtain ⟨v, G2, G3, p1, p2, p3, p4, ⟨pn, p5, p6⟩, p7⟩ := pp
    have p38 := k_38 (f := f) (m := m) (c := 47) (by decide) p7.1 p7.2.1
    show pok (pbind (pNeed t 47 r.2.2) _) _ _
    rw [p4]
    have p38' : pok (pNeed t 47 (s.2.2.2.2.2 + 2)) _ _ := p38
    cases hn : pNeed t 47 (s.2.2.2.2.2 + 2) with
    | inl x =>
      rw [hn] at p38'
      exact ⟨G3, st_41w (G3 := G3) hs kp k4 d1 k2 k3 (.inr ⟨v, p1, .inr ⟨_, p2, p38'⟩⟩), p3⟩
    | inr j =>
      rw [hn] at p38'
      obtain ⟨a1, a2, a3, a4⟩ := p38'
      replace a2 : j = s.2.2.2.2.2 + 2 + 1 := a2
      replace a3 : kK t (s.2.2.2.2.2 + 2) = 47 := a3
      have hlt := (p7.1.lt p7.2.1 (by show kK t (s.2.2.2.2.2 + 2) ≠ 0; omega)).1
      have hlt' : s.2.2.2.2.2 + 2 < N := hlt
      obtain ⟨r1, r2⟩ := p7.at a4 (by omega) (by show s.2.2.2.2.2 + 2 ≤ j; omega)
      have p50 := k_50 (f := f) (m := m) (hi := 4) (by decide) r1.1 r1.2.1
      show pok (pbind (pNum t 4 j) _) _ _
      have p50' : pok (pNum t 4 j) _ _ := p50
      cases hm : pNum t 4 j with
      | inl x =>
        rw [hm] at p50'
        exact ⟨_, by rw [st_41 hs kp k4 d1 k2 k3 p1 p2 a1 p50']; rfl, p3.tr r2⟩
      | inr nn =>
        rw [hm] at p50'
        obtain ⟨b1, b2, b3, b4, b5⟩ := p50'
        replace b2 : nn.2 = j + 1 := b2
        have hj0 : kK t j ≠ 0 := by
          intro z
          unfold pNum at hm
          rw [if_neg (fun y => by omega)] at hm
          cases hm
        have hltj := (r1.1.lt r1.2.1 hj0).1
        have hltj' : j < N := hltj
        obtain ⟨t1, t2⟩ := r1.at b5 (by omega) (by show j ≤ nn.2; omega)
        obtain ⟨wd, hwd⟩ : ∃ wd : Nat, nn.1 = (wd : Int) := ⟨nn.1.toNat, by omega⟩
        have e41 := st_41 hs kp k4 d1 k2 k3 p1 p2 a1 b1
        obtain ⟨kk1, kk2, kk3, kk4⟩ := t1.1.tk t1.2.1
        obtain ⟨s1, s2⟩ := st_41t (f := f) (m := m) (sp := (kS t (s.2.2.2.2.2 + 1) : Int)) (pr := r.1) (wd := nn.1) hs t1.1.2.1 kk4 kk1 kk3
        rw [e41]
        show pok (pbind (if kK t nn.2 = 8 then pNum t (nn.1 - 1) (nn.2 + 1) else .inr (0, nn.2)) _) _ _
        have fr := (p3.tr r2).tr t2
        by_cases c8 : kK t nn.2 = 8
        · rw [if_pos c8]
          obtain ⟨g1, g2⟩ := k_37 (f := f) (m := m) t1.1 t1.2.1 (by show kK t nn.2 ≠ 5; omega)
          have hltn := (t1.1.lt t1.2.1 (by show kK t nn.2 ≠ 0; omega)).1
          have hltn' : nn.2 < N := hltn
          obtain ⟨v1, v2⟩ := t1.at g2 (by show nn.2 + 1 ≤ N; omega) (by show nn.2 ≤ nn.2 + 1; omega)
          have q50 := k_50 (f := f) (m := m) (hi := wd - 1) (by omega) v1.1 v1.2.1
          have ew : xwr (nn.1 - 1) = ((wd - 1 : Nat) : Int) := by rw [xwr_g _ (by omega) (by omega)]; omega
          have ew' : nn.1 - 1 = ((wd - 1 : Nat) : Int) := by omega
          rw [ew']
          have q50' : pok (pNum t ((wd - 1 : Nat) : Int) (nn.2 + 1)) _ _ := q50
          cases hk : pNum t ((wd - 1 : Nat) : Int) (nn.2 + 1) with
          | inl x =>
            rw [hk] at q50'
            exact ⟨_, by rw [s2 c8 g1 (by rw [ew]; exact q50')]; rfl, fr.tr v2⟩
          | inr ke =>
            rw [hk] at q50'
            obtain ⟨w1, w2, w3, w4, w5⟩ := q50'
            replace w2 : ke.2 = nn.2 + 1 + 1 := w2
            have hk0 : kK t (nn.2 + 1) ≠ 0 := by
              intro z
              unfold pNum at hk
              rw [if_neg (fun y => by omega)] at hk
              cases hk
            have hltk := (v1.1.lt v1.2.1 hk0).1
            have hltk' : nn.2 + 1 < N := hltk
            obtain ⟨y1, y2⟩ := v1.at w5 (by omega) (by show nn.2 + 1 ≤ ke.2; omega)
            have e := s2 c8 g1 (by rw [ew]; exact w1)
            have kx := k_41e (f := f) (m := m) (p := pn) (wd := wd) (ke := ke.1) (sn := kS t (s.2.2.2.2.2 + 1)) y1 p6 (by omega) (by show 3 * s.2.2.2.1.length + 3 ≤ ke.2; omega)
            rw [← hwd, ← p5] at kx
            rw [e]
            show pok (pbind (pNeed t 46 ke.2) _) _ _
            have kx' : pok (pNeed t 46 ke.2) _ _ := kx
            cases hz : pNeed t 46 ke.2 with
            | inl x =>
              rw [hz] at kx'
              obtain ⟨G9, u1, u2⟩ := kx'
              exact ⟨G9, u1, (fr.tr v2).tr (y2.tr u2)⟩
            | inr j' =>
              rw [hz] at kx'
              obtain ⟨G9, u1, u2, u3, u4⟩ := kx'
              replace u3 : j' = ke.2 + 1 := u3
              exact ⟨G9, u1, (fr.tr v2).tr (y2.tr u2), u4, by show s.2.2.2.2.2 < j'; omega⟩
        · rw [if_neg c8]
          have e := s1 c8
          have kx := k_41e (f := f) (m := m) (p := pn) (wd := wd) (ke := 0) (sn := kS t (s.2.2.2.2.2 + 1)) t1 p6 (by omega) (by show 3 * s.2.2.2.1.length + 3 ≤ nn.2; omega)
          rw [← hwd, ← p5] at kx
          rw [e]
          show pok (pbind (pNeed t 46 nn.2) _) _ _
          have kx' : pok (pNeed t 46 nn.2) _ _ := kx
          cases hz : pNeed t 46 nn.2 with
          | inl x =>
            rw [hz] at kx'
            obtain ⟨G9, u1, u2⟩ := kx'
            exact ⟨G9, u1, fr.tr u2⟩
          | inr j' =>
            rw [hz] at kx'
            obtain ⟨G9, u1, u2, u3, u4⟩ := kx'
            replace u3 : j' = nn.2 + 1 := u3
            exact ⟨G9, u1, fr.tr u2, u4, by show s.2.2.2.2.2 < j'; omega⟩
end
end
