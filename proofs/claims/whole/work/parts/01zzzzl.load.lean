/-! The reference reads the program of a line, and works its rows -/
def xLd (G G' : xG_) : Prop := ∀ o j, ¬ (o = 0 ∧ (j ≤ 11 ∨ 21 ≤ j ∧ j ≤ 27 ∨ 37 ≤ j ∧ j ≤ 40 ∨ 42 ≤ j ∧ j ≤ 61 ∨ 65 ≤ j ∧ j ≤ 66)) → ¬ (1 ≤ o ∧ o ≤ 36) → ¬ (107 ≤ o ∧ o ≤ 121 ∧ o ≠ 118) → G' o j = G o j
section
variable {f b : Nat} {s : pPg} {F : List pFc} {T : List (List Int)} {m e : Nat}
/-- readText -/
theorem l_295 {G : xG_} {o : Nat} (hf : 6400 < f) (ho : o = 2 ∨ o = 37 ∨ o = 72) (hC : rC G) (hT : rTxs G T m) (he : e < T.length) (hs : qPr (T.getD e []) = .inr s) (hfl : ∀ k a, ¬ pFa s 0 k a) :
    ∃ G' q c, g295 f o (e : Int) G = some G' ∧ rPr G' o q c s ∧ rPn G' o s ∧ rPk G' o s ∧ ∀ a j, ¬ (a = 0 ∧ (j ≤ 11 ∨ 21 ≤ j ∧ j ≤ 27)) → a ≠ 1 → ¬ (o ≤ a ∧ a ≤ o + 34) → G' a j = G a j := by
  obtain ⟨t1, t2, t3, t4, t5⟩ := hT
  obtain ⟨b0, q, b1, b2, b3, b4⟩ := t5 e he
  have hr := l_rt (f := f) (o := o) (by omega) b0 ho hC b4
  rw [hs] at hr
  obtain ⟨G1, c, r1, r2, r22, r3, r4, r5, r6, r7⟩ := hr
  obtain ⟨G2, u1, u2, u3, u4, u5, u6⟩ := l_fa (f := f) (by omega) (by omega) r4 r5 r6 r7
  refine ⟨G2, q, c, ?_, u3, u4, u6 (pFa_q hfl q), fun a j y1 y2 y3 => by rw [u2 a j (by omega) y2 (by omega) (by omega) (by omega), r3 a j y1 y2 y3]⟩
  have hee : 0 ≤ (e : Int) ∧ (e : Int) < 4200 := by omega
  unfold g295
  rw [if_pos hee, if_pos hee, if_pos hee, Int.toNat_natCast, b1, b2, xwr_g _ (by omega) (by omega), r1, Option.bind_some, u1]
  rfl
/-- fillInputs -/
theorem l_297 {G : xG_} {q c : Nat} (hf : 3600 < f) (hok : qOk s) (hb : isFb b) (hP : rPr G 2 q c s) (hPn : rPn G 2 s) (hF : rFa G b F) (hFo : qFo s F) :
    ∃ G' R', g297 f b G = some G' ∧ (∀ o j, ¬ (107 ≤ o ∧ o ≤ 109) → G' o j = G o j) ∧ rTb G' s.1.length (qN s) R' ∧ qFt s (fun p => pIn s.2.1 (p : Int) = true) F R' := by
  have hnp := hok.1.1
  have loop : ∀ (d p fu : Nat) (Z : xG_), p + d = 16 → d < fu → (∀ o j, o ≠ 108 → Z o j = G o j) → (∀ j, j < p → Z 108 j = 0) → ∃ Z', g297_2 f fu b (p : Int) Z = g297_23 f f b 0 Z' ∧ (∀ o j, o ≠ 108 → Z' o j = G o j) ∧ ∀ j, j < 16 → Z' 108 j = 0 := by
    intro d
    induction d with
    | zero =>
      intro p fu Z h1 h2 h3 h4
      obtain ⟨fu, rfl⟩ : ∃ t, fu = t + 1 := ⟨fu - 1, by omega⟩
      refine ⟨Z, ?_, h3, fun j hj => h4 j (by omega)⟩
      show g297_2b (g297_2 f fu) f _ _ _ = _
      unfold g297_2b
      rw [if_pos (by omega)]
    | succ d ih =>
      intro p fu Z h1 h2 h3 h4
      obtain ⟨fu, rfl⟩ : ∃ t, fu = t + 1 := ⟨fu - 1, by omega⟩
      have e5 : xwr ((p : Int) + 1) = ((p + 1 : Nat) : Int) := by rw [xwr_g _ (by omega) (by omega)]; omega
      obtain ⟨Z', k1, k2, k3⟩ := ih (p + 1) fu (xup2 Z 108 p 0) (by omega) (by omega) (fun o j y => by rw [xup2_n (fun q => y q.1)]; exact h3 o j y) (fun j hj => by
        by_cases cj : j = p
        · rw [cj, xup2_s]
        · rw [xup2_n (by omega)]; exact h4 j (by omega))
      refine ⟨Z', ?_, k2, k3⟩
      rw [← k1]
      show g297_2b (g297_2 f fu) f _ _ _ = _
      unfold g297_2b
      rw [if_neg (by omega), if_pos (by omega), Int.toNat_natCast, Option.bind_some, e5]
  obtain ⟨Z, k1, k2, k3⟩ := loop 16 0 f G (by omega) (by omega) (fun _ _ _ => rfl) (fun j hj => absurd hj (by omega))
  have hbb : b + 3 < 107 ∨ 109 < b := by unfold isFb at hb; omega
  have hT0 : rTb Z s.1.length (qN s) (fun _ => []) := fun p hp => ⟨⟨k3 p (by omega), Nat.zero_le _, fun i hi => absurd hi (Nat.not_lt_zero _)⟩, (qN_c hok.1 p).2⟩
  have hFz : rFa Z b F := ⟨by rw [k2 _ _ (by omega)]; exact hF.1, hF.2.1, fun i hi => by
    obtain ⟨a1, a2, a3, a4⟩ := hF.2.2 i hi
    exact ⟨by rw [k2 _ _ (by omega)]; exact a1, by rw [k2 _ _ (by omega)]; exact a2, a3, fun j hj => by rw [k2 _ _ (by omega)]; exact a4 j hj⟩⟩
  obtain ⟨G', R', u1, u2, u3, u4⟩ := l_297_23 (f := f) (q := q) (c := c) (G0 := Z) hf hok hb ⟨hP.ge (fun j => k2 _ _ (by omega)) (fun a j _ _ _ _ _ => k2 _ _ (by omega)), fun y hy => by rw [k2 _ _ (by omega)]; exact hPn y hy⟩ hFz hFo F.length 0 f Z (fun _ => []) (by omega) (by have := hF.2.1; omega) (fun _ _ _ => rfl) hT0 (fun p hp => by
    rw [List.take_zero]
    exact ⟨List.Pairwise.nil, Nat.zero_le _, fun y => ⟨fun h => absurd h (by simp), fun h => absurd h.2.2.1 (by simp)⟩⟩)
  refine ⟨G', R', ?_, fun o j y => by rw [u2 o j y, k2 o j (by omega)], u3, u4⟩
  have k1' : g297_2 f f b 0 G = _ := k1
  unfold g297
  rw [k1']
  exact u1
/-- the rows M of the program s, its facts F -/
def qFa (s : pPg) (M : Nat → List pRw) (F : List pFc) : Prop := F.Pairwise fLt ∧ ∀ y : pFc, y ∈ F ↔ ∃ p, p < s.1.length ∧ y.1 = qNm s p ∧ ∃ w, w ∈ M p ∧ w.1 = y.2
/-- rows of a program as they stand behind a round -/
def qSt1 (s : pPg) (M : Nat → List pRw) : Prop := qMod s M M ∧ ∀ p, p < s.1.length → pIn s.2.1 (p : Int) = true → ∀ w ∈ M p, w.2 = 0
theorem nm_inj (hok : qOk s) {p q : Nat} (hp : p < s.1.length) (hq : q < s.1.length) (h : qNm s p = qNm s q) : p = q := by
  unfold qNm at h
  rw [getD_e hp, getD_e hq] at h
  have nd := List.nodup_iff_pairwise_ne.mp hok.1.2.1
  by_cases c1 : q < p
  · exact absurd h.symm ((List.pairwise_iff_getElem.mp nd) q p hq hp c1)
  · by_cases c2 : p < q
    · exact absurd h ((List.pairwise_iff_getElem.mp nd) p q hp hq c2)
    · omega
theorem qFa.fo {M : Nat → List pRw} (hok : qOk s) (hM : qTb s M) (h : qFa s M F) : qFo s F := by
  refine ⟨h.1, fun p hp => ?_, fun y hy x hx => ?_⟩
  · rw [List.countP_eq_length_filter]
    have nd : F.Nodup := by
      refine List.nodup_iff_pairwise_ne.mpr (List.Pairwise.imp (S := fun x y => x ≠ y) (fun {a b} h => ?_) h.1)
      intro q
      rw [q] at h
      exact fLt_irr _ h
    have := nodup_len (F.filter (fun y => decide (y.1 = qNm s p ∧ y.2.length = qN s p))) ((M p).map (fun w => (qNm s p, w.1))) (nd.filter _) (fun y hy => by
      obtain ⟨y1, y2⟩ := List.mem_filter.mp hy
      have y3 := of_decide_eq_true y2
      obtain ⟨p', a1, a2, w, a3, a4⟩ := (h.2 y).mp y1
      have : p' = p := nm_inj hok a1 hp (by rw [← a2]; exact y3.1)
      subst this
      exact List.mem_map.mpr ⟨w, a3, Prod.ext a2.symm a4⟩)
    rw [List.length_map] at this
    have := (hM p hp).1
    omega
  · obtain ⟨p, a1, a2, w, a3, a4⟩ := (h.2 y).mp hy
    rw [← a4] at hx
    exact ((hM p a1).2.2 w a3).2 x hx
/-- the rows of INPUTS are in the facts -/
theorem qFt.inp {M R : Nat → List pRw} (hok : qOk s) (hM : qSt1 s M) (hF : qFa s M F) (h : qFt s (fun p => pIn s.2.1 (p : Int) = true) F R) : ∀ p, p < s.1.length → pIn s.2.1 (p : Int) = true → R p = M p := fun p hp hi => by
  obtain ⟨a1, a2, a3⟩ := h p hp
  obtain ⟨b1, b2, b3⟩ := hM.1.1 p hp
  refine srt_ext rwLt_irr (fun _ _ _ => rwLt_tr) _ _ a1 b2 (fun y => ?_)
  rw [a3 y]
  constructor
  · rintro ⟨_, c1, c2, c3⟩
    obtain ⟨p', d1, d2, w, d3, d4⟩ := (hF.2 _).mp c2
    have : p = p' := nm_inj hok hp d1 d2
    subst this
    have : w = y := Prod.ext d4 (by rw [hM.2 p hp hi w d3, c1])
    rw [← this]
    exact d3
  · intro hy
    exact ⟨hi, hM.2 p hp hi y hy, (hF.2 _).mpr ⟨p, hp, rfl, y, hy, rfl⟩, (b3 y hy).1⟩
theorem rTb.ext {G : xG_} {np : Nat} {N : Nat → Nat} {R R' : Nat → List pRw} (h : rTb G np N R) (he : ∀ p, p < np → R p = R' p) : rTb G np N R' := fun p hp => by
  rw [← he p hp]
  exact h p hp
/-- the program, its rows: read and worked -/
theorem l_296_23 {G : xG_} {h o : Nat} {M : Nat → List pRw} (hf : 1000100 < f) (hh : h < 4) (ho : o = 123 + 29 * h) (h62 : G 0 62 = (h : Int)) (hC : rC G) (hT : rTxs G T m) (he : e < T.length) (h1 : G o 1 = (e : Int)) (hs : qPr (T.getD e []) = .inr s) (hok : qOk s) (hnh : wNh s) (hM : qSt1 s M) (hF : rFa G (o + 1) F) (hFa : qFa s M F) :
    ∃ G' q c, g296_23 f G = some G' ∧ xLd G G' ∧ rEn G' q c s M ∧ G' 0 65 = G 0 64 ∧ G' 0 66 = (h : Int) := by
  obtain ⟨G1, q, c, k1, k2, k3, k4, k5⟩ := l_295 (f := f) (o := 2) (by omega) (by omega) hC hT he hs hok.2.2
  have hb : isFb (o + 1) := by
    unfold isFb
    omega
  have hF1 : rFa G1 (o + 1) F := ⟨by rw [k5 _ _ (by omega) (by omega) (by omega)]; exact hF.1, hF.2.1, fun i hi => by
    obtain ⟨a1, a2, a3, a4⟩ := hF.2.2 i hi
    exact ⟨by rw [k5 _ _ (by omega) (by omega) (by omega)]; exact a1, by rw [k5 _ _ (by omega) (by omega) (by omega)]; exact a2, a3, fun j hj => by rw [k5 _ _ (by omega) (by omega) (by omega)]; exact a4 j hj⟩⟩
  obtain ⟨G2, R, u1, u2, u3, u4⟩ := l_297 (f := f) (by omega) hok hb k2 k3 hF1 (hFa.fo hok hM.1.1)
  have hE2 : rEn G2 q c s R := ⟨k2.ge (fun j => u2 _ _ (by omega)) (fun a j _ _ _ _ _ => u2 _ _ (by omega)), fun y hy => by rw [u2 _ _ (by omega)]; exact k3 y hy, ⟨fun p hp => by rw [u2 _ _ (by omega)]; exact k4.1 p hp, fun p hp => by rw [u2 _ _ (by omega)]; exact k4.2 p hp⟩, u3⟩
  have hRM := u4.inp hok hM hFa
  obtain ⟨G3, b, v1, v2, v3⟩ := l_290 (f := f) (In := M) hf hok hnh hE2 hRM (fun p hp hi => ⟨(hM.1.1 p hp).2.1, (hM.1.1 p hp).2.2⟩)
  have v4 : rEn G3 q c s M := by
    rcases v3 with ⟨_, M', w1, w2⟩ | ⟨_, w⟩
    · obtain ⟨z1, z2, z3, z4⟩ := w1
      exact ⟨z1, z2, z3, z4.ext (qMod_det hok.1 w2 hM.1)⟩
    · exact absurd ⟨M, hM.1⟩ w
  have e62 : G1 0 62 = (h : Int) := by rw [k5 _ _ (by omega) (by omega) (by omega)]; exact h62
  have e64 : G3 0 64 = G 0 64 := by rw [v2 _ _ (by omega) (by omega), u2 _ _ (by omega), k5 _ _ (by omega) (by omega) (by omega)]
  have e623 : G3 0 62 = (h : Int) := by rw [v2 _ _ (by omega) (by omega), u2 _ _ (by omega)]; exact e62
  refine ⟨xup2 (xup2 G3 0 65 (G3 0 64)) 0 66 (G3 0 62), q, c, ?_, fun a j y1 y2 y3 => ?_, v4.ge (fun a j _ _ => by rw [xup2_n (by omega), xup2_n (by omega)]) (fun a j _ _ => by rw [xup2_n (by omega), xup2_n (by omega)]), ?_, ?_⟩
  · unfold g296_23
    rw [h62, if_pos (by omega), Int.toNat_natCast, ← ho, h1, k1, Option.bind_some, u1, Option.bind_some, v1, Option.bind_some, Option.bind_some]
    show some (xup2 (xup2 G3 0 65 (G3 0 64)) 0 66 (xup2 G3 0 65 (G3 0 64) 0 62)) = _
    rw [xup2_n (show ¬ (0 = 0 ∧ 62 = 65) by omega)]
  · rw [xup2_n (by omega), xup2_n (by omega), v2 a j (by omega) y3, u2 a j (by omega), k5 a j (by omega) (by omega) (by omega)]
  · rw [xup2_n (by omega), xup2_s]; exact e64
  · rw [xup2_s]; exact e623
end
