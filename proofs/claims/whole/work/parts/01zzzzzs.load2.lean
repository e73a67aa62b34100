/-! KEYS are shorter than rows; keepInputs and load whole -/
theorem key_lt {t : List Int} {s : pPg} (h : qPr t = .inr s) (hok : qOk s) {p : Nat} (hp : p < s.1.length) (hi : pIn s.2.1 (p : Int) = true) : qKy s p < qN s p := by
  have h2 : wIn s := pProg_in h (fun u hu => absurd hu (by simp))
  have hw := hok.1.2.2.1
  unfold pIn at hi
  have hfd : ∃ x, s.2.1.find? (fun x => decide (x.1 = (p : Int))) = some x := by
    cases hx : s.2.1.find? (fun x => decide (x.1 = (p : Int))) with
    | some x => exact ⟨x, rfl⟩
    | none =>
      rw [List.find?_eq_none] at hx
      obtain ⟨y, y1, y2⟩ := List.any_eq_true.mp hi
      exact absurd y2 (hx y y1)
  obtain ⟨x, hx⟩ := hfd
  have hm := List.mem_of_find?_eq_some hx
  have hx1 : x.1 = (p : Int) := of_decide_eq_true (List.find?_some (p := fun x : Int × Int × Int => decide (x.1 = (p : Int))) hx)
  have hk : pKy s.2.1 (p : Int) = x.2.2 := by unfold pKy; rw [hx]
  obtain ⟨a, ha⟩ := h2 x hm
  obtain ⟨w1, w2, w3, w4, w5, w6⟩ := hw x hm
  obtain ⟨y, hy, ey⟩ := List.getElem_of_mem ha
  have mk : mN s.2.2.2.1 y = (p : Int) ∧ mK s.2.2.2.1 y = x.2.1 := by
    unfold mN mK
    rw [getD_e hy, ey]
    exact ⟨hx1, rfl⟩
  have hn : pNn s.2.2.2.1 (p : Int) = x.2.1 := by
    by_cases c : mK s.2.2.2.1 y = pNn s.2.2.2.1 (p : Int)
    · rw [← c]; exact mk.2
    · exact absurd (Or.inl (Or.inl (Or.inr ⟨rfl, p, y, Nat.zero_le p, hp, ⟨hy, mk.1, by rw [mk.2]; omega, c⟩, rfl⟩))) (hok.2.2 3 _)
  unfold qKy qN
  rw [hk, hn]
  omega
section
variable {f o e m : Nat} {s so : pPg} {F : List pFc} {T : List (List Int)}
theorem l_299 {G : xG_} {q c : Nat} (hf : 6400 < f) (hok : qOk s) (hok' : qOk so) (hb : isFb (o + 1)) (hC : rC G) (hT : rTxs G T m) (he : e < T.length) (h1 : G o 1 = (e : Int)) (hs : qPr (T.getD e []) = .inr so) (hP : rPr G 2 q c s) (hPn : rPn G 2 s) (hF : rFa G (o + 1) F) (hFo : qFo s F) (hFl : ∀ y ∈ F, ∀ r, r < so.1.length → qNm so r = y.1 → y.2.length = qN so r) :
    ∃ G' R', g299 f o G = some G' ∧ (∀ a j, ¬ (a = 0 ∧ (j ≤ 11 ∨ 21 ≤ j ∧ j ≤ 27)) → a ≠ 1 → ¬ (37 ≤ a ∧ a ≤ 71) → ¬ (107 ≤ a ∧ a ≤ 109) → G' a j = G a j) ∧ rTb G' s.1.length (qN s) R' ∧ qFt s (kpC so s) F R' := by
  have hob : 122 < o ∧ o < 253 := by unfold isFb at hb; omega
  obtain ⟨G1, q', c', k1, k2, k3, k4⟩ := l_300 hf hC hT he hs
  have hP1 : rPr G1 2 q c s := hP.ge (fun j => k4 _ _ (by omega) (by omega) (by omega)) (fun a j _ _ _ _ _ => k4 _ _ (by omega) (by omega) (by omega))
  have hPn1 : rPn G1 2 s := fun y hy => by rw [k4 _ _ (by omega) (by omega) (by omega)]; exact hPn y hy
  have hF1 : rFa G1 (o + 1) F := hF.ge (k4 _ _ (by omega) (by omega) (by omega)) (fun a j _ _ => k4 _ _ (by omega) (by omega) (by omega))
  have loop : ∀ (d p fu : Nat) (Z : xG_), p + d = 16 → d < fu → (∀ a j, a ≠ 108 → Z a j = G1 a j) → (∀ j, j < p → Z 108 j = 0) → ∃ Z', g299_10 f fu o (p : Int) Z = g299_31 f f o 0 Z' ∧ (∀ a j, a ≠ 108 → Z' a j = G1 a j) ∧ ∀ j, j < 16 → Z' 108 j = 0 := by
    intro d
    induction d with
    | zero =>
      intro p fu Z h1 h2 h3 h4
      obtain ⟨fu, rfl⟩ : ∃ t, fu = t + 1 := ⟨fu - 1, by omega⟩
      refine ⟨Z, ?_, h3, fun j hj => h4 j (by omega)⟩
      show g299_10b (g299_10 f fu) f _ _ _ = _
      unfold g299_10b
      rw [if_pos (by omega)]
    | succ d ih =>
      intro p fu Z h1 h2 h3 h4
      obtain ⟨fu, rfl⟩ : ∃ t, fu = t + 1 := ⟨fu - 1, by omega⟩
      have e : xwr ((p : Int) + 1) = ((p + 1 : Nat) : Int) := by rw [xwr_g _ (by omega) (by omega)]; omega
      obtain ⟨Z', z1, z2, z3⟩ := ih (p + 1) fu (xup2 Z 108 p 0) (by omega) (by omega) (fun a j q => by rw [xup2_n (by omega)]; exact h3 a j q) (fun j hj => by
        by_cases c : j = p
        · rw [c, xup2_s]
        · rw [xup2_n (by omega)]; exact h4 j (by omega))
      refine ⟨Z', ?_, z2, z3⟩
      show g299_10b (g299_10 f fu) f _ _ _ = _
      unfold g299_10b
      rw [if_neg (by omega), if_pos (by omega), Int.toNat_natCast, Option.bind_some, e]
      exact z1
  obtain ⟨Z, z1, z2, z3⟩ := loop 16 0 f G1 rfl (by omega) (fun _ _ _ => rfl) (fun j hj => absurd hj (Nat.not_lt_zero j))
  have hnp := hok.1.1
  have hT0 : rTb Z s.1.length (qN s) (fun _ => []) := fun p hp => ⟨⟨z3 p (by omega), Nat.zero_le _, fun i hi => absurd hi (Nat.not_lt_zero i)⟩, by have := pNn_in hok.1 (p : Int); unfold qN; omega⟩
  have hF0 : qFt s (kpC so s) (F.take 0) (fun _ => []) := fun p hp => ⟨List.Pairwise.nil, Nat.zero_le _, fun y => ⟨fun h => (by cases h), fun h => (by have := h.2.2.1; rw [List.take_zero] at this; cases this)⟩⟩
  obtain ⟨G', R', u1, u2, u3, u4⟩ := l_299_31 (f := f) (G0 := G1) (by omega) hok hok' hb ⟨hP1, hPn1⟩ ⟨k2, k3⟩ hF1 hFo hFl F.length 0 f Z (fun _ => []) (by omega) (by have := hF.2.1; omega) (fun a j q => z2 a j (by omega)) hT0 hF0
  refine ⟨G', R', ?_, fun a j q1 q2 q3 q4 => by rw [u2 a j q4, k4 a j q1 q2 q3], u3, u4⟩
  unfold g299
  rw [h1, k1, Option.bind_some]
  exact z1.trans u1
/-- load() -/
theorem l_296 {G : xG_} {h o : Nat} {M : Nat → List pRw} (hf : 1000100 < f) (hh : h < 4) (ho : o = 123 + 29 * h) (h62 : G 0 62 = (h : Int)) (hC : rC G) (hT : rTxs G T m) (he : e < T.length) (h1 : G o 1 = (e : Int)) (hs : qPr (T.getD e []) = .inr s) (hok : qOk s) (hnh : wNh s) (hM : qSt1 s M) (hF : rFa G (o + 1) F) (hFa : qFa s M F) (hL : G 0 65 = G 0 64 → G 0 66 = (h : Int) → ∃ q c, rEn G q c s M) :
    ∃ G' q c, g296 f G = some G' ∧ xLd G G' ∧ rEn G' q c s M ∧ G' 0 65 = G 0 64 ∧ G' 0 66 = (h : Int) := by
  have go := l_296_23 hf hh ho h62 hC hT he h1 hs hok hnh hM hF hFa
  unfold g296
  by_cases c1 : G 0 65 = G 0 64
  · rw [if_neg (fun q => q c1), h62]
    by_cases c2 : G 0 66 = (h : Int)
    · rw [if_neg (fun q => q c2)]
      obtain ⟨q, c, r⟩ := hL c1 c2
      exact ⟨G, q, c, rfl, fun _ _ _ _ _ => rfl, r, c1, c2⟩
    · rw [if_pos c2]
      exact go
  · rw [if_pos c1]
    exact go
end
