/-! THE CLASS: workRing(), the LITERALS of one rule that lead at a level -/
section
variable {f u l r np p gA lds : Nat} {S : Nat → Nat × Nat × Nat} {G G1 G2 : xG_} {m : Nat × Nat} {rg mb lv v : Int} {r66 : Nat → Int → Int → Int → xT_ → Option (Int × xT_)} {r89 : Nat → Int → Int → Int → Int → xT_ → Option (Int × xT_)} {r148 : Nat → Int → Int → Int → Int → Nat → Int → Int → xT_ → Option (Int × xT_)} {T : xT_} {x : Int}
theorem st_148z (er : xwr ((r : Int) + 1) = ((r + 1 : Nat) : Int)) : c149_148b r66 r89 r148 f 93 rg mb lv (r : Int) u x 8 T = r89 93 rg mb lv ((r + 1 : Nat) : Int) T := by
  unfold c149_148b
  rw [if_pos (Int.le_refl 8), er]
theorem st_148n (hl : l < 8) (hb : lds.testBit l = false) (hlt : lds < 2 ^ 8) (el : xwr ((l : Int) + 1) = ((l + 1 : Nat) : Int)) : c149_148b r66 r89 r148 f 93 rg mb lv (r : Int) u (lds : Int) (l : Int) T = r148 93 rg mb lv (r : Int) u (lds : Int) ((l + 1 : Nat) : Int) T := by
  have eb : ¬ xand (xshr (lds : Int) (l : Int)) 1 = 1 := fun y => by rw [(xbit (by omega) (by omega)).mp y] at hb; cases hb
  unfold c149_148b c149_209
  rw [if_neg (by omega), if_pos eb, el]
theorem st_148d (hs : cSs S) (us : S u = (1, 6, 20)) (hl : l < 8) (hb : lds.testBit l = true) (hlt : lds < 2 ^ 8) (el : xwr ((l : Int) + 1) = ((l + 1 : Nat) : Int)) (e1 : c153 f 93 u mb lv (l : Int) (S, G, m) = some (S, G1, m)) (h3 : G1 u 3 = -1) (e2 : c155 f 93 u (S, G1, m) = some (v, (S, G2, m))) : c149_148b r66 r89 r148 f 93 rg mb lv (r : Int) u (lds : Int) (l : Int) (S, G, m) = if v = 0 then some (0, (S, G2, m)) else r148 93 rg mb lv (r : Int) u (lds : Int) ((l + 1 : Nat) : Int) (S, G2, m) := by
  have eb : xand (xshr (lds : Int) (l : Int)) 1 = 1 := (xbit (by omega) (by omega)).mpr hb
  by_cases c : v = 0
  · rw [if_pos c]
    unfold c149_148b c149_207
    simp (disch := omega) only [cq_gi, cq_gr, cq_a, cq_s, cq_p, cq_pr, cq_is, cq_ar, cq_ab, cq_ln, xq_nz, Option.bind_some, xup2_n, xup2_s, Int.toNat_natCast, Int.reduceToNat, if_pos, if_neg, true_and, and_true, and_self, eq_self, if_true, reduceIte, not_true_eq_false, not_false_eq_true, or_true, true_or, s93 hs, us, eb, e1, h3, e2, c]
  · rw [if_neg c]
    unfold c149_148b c149_209
    simp (disch := omega) only [cq_gi, cq_gr, cq_a, cq_s, cq_p, cq_pr, cq_is, cq_ar, cq_ab, cq_ln, xq_nz, Option.bind_some, xup2_n, xup2_s, Int.toNat_natCast, Int.reduceToNat, if_pos, if_neg, true_and, and_true, and_self, eq_self, if_true, reduceIte, not_true_eq_false, not_false_eq_true, or_true, true_or, s93 hs, us, eb, e1, h3, e2, c, el]
theorem st_148g (hs : cSs S) (us : S u = (1, 6, 20)) (hl : l < 8) (hb : lds.testBit l = true) (hlt : lds < 2 ^ 8) (el : xwr ((l : Int) + 1) = ((l + 1 : Nat) : Int)) (e1 : c153 f 93 u mb lv (l : Int) (S, G, m) = some (S, G1, m)) (h3 : G1 u 3 = (gA : Int)) (e2 : c157 f 93 u (S, G1, m) = some (v, (S, G2, m))) : c149_148b r66 r89 r148 f 93 rg mb lv (r : Int) u (lds : Int) (l : Int) (S, G, m) = if v = 0 then some (0, (S, G2, m)) else r148 93 rg mb lv (r : Int) u (lds : Int) ((l + 1 : Nat) : Int) (S, G2, m) := by
  have eb : xand (xshr (lds : Int) (l : Int)) 1 = 1 := (xbit (by omega) (by omega)).mpr hb
  have hg : ¬ (gA : Int) = -1 := by omega
  by_cases c : v = 0
  · rw [if_pos c]
    unfold c149_148b c149_207
    simp (disch := omega) only [cq_gi, cq_gr, cq_a, cq_s, cq_p, cq_pr, cq_is, cq_ar, cq_ab, cq_ln, xq_nz, Option.bind_some, xup2_n, xup2_s, Int.toNat_natCast, Int.reduceToNat, if_pos, if_neg, true_and, and_true, and_self, eq_self, if_true, reduceIte, not_true_eq_false, not_false_eq_true, or_true, true_or, s93 hs, us, eb, e1, h3, e2, c, hg]
  · rw [if_neg c]
    unfold c149_148b c149_209
    simp (disch := omega) only [cq_gi, cq_gr, cq_a, cq_s, cq_p, cq_pr, cq_is, cq_ar, cq_ab, cq_ln, xq_nz, Option.bind_some, xup2_n, xup2_s, Int.toNat_natCast, Int.reduceToNat, if_pos, if_neg, true_and, and_true, and_self, eq_self, if_true, reduceIte, not_true_eq_false, not_false_eq_true, or_true, true_or, s93 hs, us, eb, e1, h3, e2, c, el, hg]
/-- no LITERAL leads any more -/
theorem k_148z (hlt : lds < 2 ^ 8) (er : xwr ((r : Int) + 1) = ((r + 1 : Nat) : Int)) : ∀ (d l fu : Nat), l + d = 8 → d < fu → (∀ j, l ≤ j → j < 8 → lds.testBit j = false) → c149_148 r66 r89 f fu 93 rg mb lv (r : Int) u (lds : Int) (l : Int) T = r89 93 rg mb lv ((r + 1 : Nat) : Int) T := by
  intro d
  induction d with
  | zero =>
    intro l fu e1 e2 _
    obtain ⟨fu, rfl⟩ : ∃ t, fu = t + 1 := ⟨fu - 1, by omega⟩
    have e : l = 8 := by omega
    subst e
    exact st_148z (r148 := c149_148 r66 r89 f fu) er
  | succ d ih =>
    intro l fu e1 e2 hb
    obtain ⟨fu, rfl⟩ : ∃ t, fu = t + 1 := ⟨fu - 1, by omega⟩
    exact (st_148n (r148 := c149_148 r66 r89 f fu) (by omega) (hb l (Nat.le_refl _) (by omega)) hlt (by rw [xwr_g _ (by omega) (by omega)]; omega)).trans (ih (l + 1) fu (by omega) (by omega) (fun j y1 y2 => hb j (by omega) y2))
end
section
variable {f u r np nv p n lds mb : Nat} {S : Nat → Nat × Nat × Nat} {m : Nat × Nat} {K : pCd} {Ls : List pLt} {pl : List Nat} {qn xp cp : Nat → Nat} {R : Nat → List pRw} {I : List pCd} {g : Int × Int × Int} {rg lv : Int} {dd : Nat} {r66 : Nat → Int → Int → Int → xT_ → Option (Int × xT_)} {r89 : Nat → Int → Int → Int → Int → xT_ → Option (Int × xT_)}
/-- a rule that doesn't gather, all LITERALS that lead -/
theorem k_148d (hf : 100003010 < f) (hp16 : p < 16) (hxp : ∀ q, q < np → ∀ b, xp q ≤ b → b ≤ xp q + 2 → ¬ (111 + 6 * p ≤ b ∧ b ≤ 113 + 6 * p)) (hnI : I.length = n) (hwI : wIe nv I (-1)) (hat : pAtoms Ls ≤ 3) (hsf : sfe Ls nv) (hnd : pl.Nodup) (hpB : plB Ls pl 0 = some dd) (hmb : mb < 2 ^ 16) (hlv : 0 ≤ lv ∧ lv ≤ 2000) (hMs : (R p).Pairwise rwLt) (hlt : lds < 2 ^ 8) (hr : r < 24) :
    ∀ (d l fu : Nat) (G : xG_) (F : List pRw) (cm : Int), l + d = 8 → d < fu → cWX S G u K Ls pl np nv (qAs g I) qn xp cp R → cIt G u K g I → G u 3 = -1 → G u 0 = (p : Int) → cRw S G (108 + 6 * p) n 100 (R p) → cRw S G (111 + 6 * p) n 100 F → F.Pairwise rwLt → (∀ r ∈ F, r.2 = 0) → G 93 15 = cm → 0 ≤ cm → cm ≤ 900000 + (F.length : Int) →
      ∃ v G', c149_148 r66 r89 f fu 93 rg (mb : Int) lv (r : Int) u (lds : Int) (l : Int) (S, G, m) = (if v = 0 then some (0, (S, G', m)) else r89 93 rg (mb : Int) lv ((r + 1 : Nat) : Int) (S, G', m)) ∧ (∀ b j, ¬ (83 ≤ b ∧ b ≤ 92) → ¬ (99 ≤ b ∧ b ≤ 105) → ¬ (b = 93 ∧ j = 15) → ¬ (111 + 6 * p ≤ b ∧ b ≤ 113 + 6 * p) → G' b j = G b j) ∧ cPs G' ∧ gvO S G' p n (R p) F cm (fun xs => ∃ ld, l ≤ ld ∧ ld < 8 ∧ lds.testBit ld = true ∧ ∃ w, (∀ l, l < Ls.length → litO Ls R (lvLo Ls mb lv ld) (lvHi Ls mb lv ld) l w) ∧ qMk I (-1) w I.length = some xs) v := by
  have er : xwr ((r : Int) + 1) = ((r + 1 : Nat) : Int) := by rw [xwr_g _ (by omega) (by omega)]; omega
  intro d
  induction d with
  | zero =>
    intro l fu G F cm e1 e2 hX hI h3 h0 hM hF hFs hF0 hcm hc0 hc1
    obtain ⟨fu, rfl⟩ : ∃ t, fu = t + 1 := ⟨fu - 1, by omega⟩
    have e : l = 8 := by omega
    subst e
    refine ⟨1, G, ?_, fun _ _ _ _ _ _ => rfl, hX.1.2.1, gvO.no hF hFs hF0 hcm (fun xs ⟨ld, y1, y2, _⟩ => by omega)⟩
    rw [if_neg (by decide)]
    exact st_148z (r148 := c149_148 r66 r89 f fu) er
  | succ d ih =>
    intro l fu G F cm e1 e2 hX hI h3 h0 hM hF hFs hF0 hcm hc0 hc1
    obtain ⟨fu, rfl⟩ : ∃ t, fu = t + 1 := ⟨fu - 1, by omega⟩
    have el : xwr ((l : Int) + 1) = ((l + 1 : Nat) : Int) := by rw [xwr_g _ (by omega) (by omega)]; omega
    have hu : 278 < u := hX.2.1.2.2.2.2.1
    have us : S u = (1, 6, 20) := hX.2.1.1.1
    by_cases hb : lds.testBit l = true
    · have hFl := hF.2.2.2.2.1
      obtain ⟨G1, v, G2, a1, a2, a3, a4, a5, a6⟩ := k_lead (f := f) (m := m) (ld := l) (lv := lv) (cm := cm) hf hp16 hxp hX hI hnI hwI h3 h0 hat hsf hnd hpB hmb hlv hM hMs hF hFs hF0 hcm hc0 (by omega)
      have st : c149_148 r66 r89 f (fu + 1) 93 rg (mb : Int) lv (r : Int) u (lds : Int) (l : Int) (S, G, m) = _ := st_148d (r148 := c149_148 r66 r89 f fu) hX.1.1 us (by omega) hb hlt el a1 a2 a3
      rcases a6 with ⟨b1, F', b2, b3, b4, b5, b6, b7⟩ | ⟨b1, W, b2, b3, b4⟩
      · rw [if_neg (by omega)] at st
        obtain ⟨v', G3, i1, i2, i3, i4⟩ := ih (l + 1) fu G2 F' (cm + ((F'.length - F.length : Nat) : Int)) (by omega) (by omega)
          (hX.ge a5 (fun q hq b y1 y2 j => a4 b j (by have := (hX.2.2.2.2 q hq).2.1; omega) (by have := (hX.2.2.2.2 q hq).2.1; omega) (by have := (hX.2.2.2.2 q hq).2.1; omega) (hxp q hq b y1 y2)) (fun j => a4 _ _ (by omega) (by omega) (by omega) (by omega)) (fun b j y => a4 b j (by omega) (by omega) (by omega) (by omega)))
          (hI.fx hu (fun b j y => a4 b j (by omega) (by omega) (by omega) (by omega))) (by rw [a4 _ _ (by omega) (by omega) (by omega) (by omega)]; exact h3) (by rw [a4 _ _ (by omega) (by omega) (by omega) (by omega)]; exact h0)
          (hM.ge (fun _ _ _ => rfl) (fun j => a4 _ _ (by omega) (by omega) (by omega) (by omega)) (fun j => a4 _ _ (by omega) (by omega) (by omega) (by omega)) (fun j => a4 _ _ (by omega) (by omega) (by omega) (by omega))) b2 b3 b4 b6 (by omega) (by omega)
        refine ⟨v', G3, st.trans i1, fun b j y1 y2 y3 y4 => by rw [i2 b j y1 y2 y3 y4, a4 b j y1 y2 y3 y4], i3, (gvO.add b5 rfl b7 i4).cg (fun xs _ => ?_)⟩
        constructor
        · rintro (q | ⟨ld, q1, q2⟩)
          · exact ⟨l, Nat.le_refl _, by omega, hb, q⟩
          · exact ⟨ld, by omega, q2⟩
        · rintro ⟨ld, q1, q2, q3, q4⟩
          by_cases c : ld = l
          · subst c; exact .inl q4
          · exact .inr ⟨ld, by omega, q2, q3, q4⟩
      · rw [if_pos b1] at st
        refine ⟨0, G2, by rw [if_pos rfl]; exact st, a4, a5, .inr ⟨rfl, W, b2, b3, fun xs hx => (b4 xs hx).imp id (fun q => ⟨q.1, l, Nat.le_refl _, by omega, hb, q.2⟩)⟩⟩
    · have hb' : lds.testBit l = false := by cases h : lds.testBit l with
        | true => exact absurd h hb
        | false => rfl
      have st : c149_148 r66 r89 f (fu + 1) 93 rg (mb : Int) lv (r : Int) u (lds : Int) (l : Int) (S, G, m) = _ := st_148n (r148 := c149_148 r66 r89 f fu) (by omega) hb' hlt el
      obtain ⟨v', G3, i1, i2, i3, i4⟩ := ih (l + 1) fu G F cm (by omega) (by omega) hX hI h3 h0 hM hF hFs hF0 hcm hc0 hc1
      refine ⟨v', G3, st.trans i1, i2, i3, i4.cg (fun xs _ => ⟨fun ⟨ld, q1, q2⟩ => ⟨ld, by omega, q2⟩, fun ⟨ld, q1, q2, q3, q4⟩ => ⟨ld, ?_, q2, q3, q4⟩⟩)⟩
      by_cases c : ld = l
      · subst c; rw [hb'] at q3; cases q3
      · omega
end
section
variable {f u np nv a : Nat} {S : Nat → Nat × Nat × Nat} {G : xG_} {K : pCd} {Ls : List pLt} {pl : List Nat} {qn xp cp : Nat → Nat} {R : Nat → List pRw} {dd : Nat}
/-- how many WAYS there are -/
theorem wx_all (hX : cWX S G u K Ls pl np nv a qn xp cp R) (hat : pAtoms Ls ≤ 3) (hsf : sfe Ls nv) (hnd : pl.Nodup) (hpB : plB Ls pl 0 = some dd) (hr : ∀ l, l < Ls.length → (Ls.getD l dLt).1 ≠ 3 → ∀ r ∈ R (Ls.getD l dLt).2.1.toNat, 0 ≤ r.2 ∧ r.2 ≤ 1700) : ∀ V, isAll Ls nv R qO1 V → V.length ≤ 1000000 := by
  obtain ⟨G1, e1, e2, e3, e4, e5, e6, e7, e8, e9, e10, e11⟩ := k_130 (u := u) (fa := 94) (m := (0, 0)) (G := G) (f := 21) (by omega) hX.1.1 hX.1.2.1 (.inl rfl)
  have hE : cWE S G1 u K Ls pl 94 16 np nv a 0 qn xp cp R (fun _ => 0) (fun _ => 1700) := hX.we e2 e3 e4 e5 e6 (fun l hl => ⟨e10 l hl, e11 l hl⟩)
  obtain ⟨V, k, Bf, w1, w2, w3, w4, w5, w6, _⟩ := ways_start hE e7 e8 (b := 0) (vl := fun _ => 0) ⟨e9, by decide, fun k hk => by rw [Nat.zero_testBit] at hk; cases hk⟩ hat hsf hnd hpB
  obtain ⟨w7, w8⟩ := w6 rfl
  have hall : isAll Ls nv R qO1 (V.map (vec nv)) := all_of (np := np) (lo := fun _ => 0) (hi := fun _ => 1700) (fun y hy => (hX.2.2.1.2.1 y hy).1) w4 (ways_bits hE e7 e8 e9 w3) hr (fun v hv => (w5 v hv).2) w7 (fun w hw => w8 w (fun j hj => by rw [Nat.zero_testBit] at hj; cases hj) hw)
  intro V' hV'
  rw [(hV'.perm hall).length_eq, List.length_map]
  exact w2
end
