/-! THE CLASS: workRing(), one rule at a level -/
theorem gXv_1 (a b : Int) : gXv 1 a = gXv 1 b := by
  funext v
  unfold gXv
  rw [if_pos rfl, if_pos rfl]
theorem gKy_1 (a b : Int) (I : List pCd) (gA : Int) (last : Option (List Int)) : gKy 1 a I gA last = gKy 1 b I gA last := by
  funext v
  unfold gKy
  rw [gXv_1 a b]
theorem gDs_1 {l : List pLt} {nv : Nat} {R : Nat → List pRw} {op : Nat → pRw → Prop} {I : List pCd} {gA : Nat} {xs zs : List Int} (a b : Int) : gDs l nv R op 1 a I gA xs zs ↔ gDs l nv R op 1 b I gA xs zs := by
  unfold gDs
  rw [gKy_1 a b, gXv_1 a b]
section
variable {f q nx r n rg mb ow p : Nat} {S : Nat → Nat × Nat × Nat} {G : xG_} {m : Nat × Nat} {s : pPg} {xp cp : Nat → Nat} {R R0 : Nat → List pRw} {F : List pRw} {cm : Int} {r66 : Nat → Int → Int → Int → xT_ → Option (Int × xT_)} {r89 : Nat → Int → Int → Int → Int → xT_ → Option (Int × xT_)}
/-- a rule of the RING -/
theorem k_148r (hf : 100003010 < f) (h : cWk S G q nx s xp cp R) (hr : r < s.2.2.2.2.1.length) (hn : n ≤ 1700) {u : Nat} (hu7 : G (q + 7) r = ((u : Nat) : Int)) (hhd : (s.2.2.2.2.1.getD r dRu).1 = (p : Int)) (hk : qK s p = rg) (hxr : ∀ p, p < s.1.length → qK s p = rg → xp p = 108 + 6 * p ∧ cp p = 100) (hmb : ∀ j, mb.testBit j = true ↔ j < s.1.length ∧ qK s j = rg) (hmb16 : mb < 2 ^ 16) (h0 : ∀ p, p < s.1.length → qK s p = rg → R0 p = []) (hs0 : ∀ p, p < s.1.length → (R0 p).Pairwise rwLt) (hC : wkC s rg R0 n R) (how8 : ow < 2 ^ 8) (how : ∀ l, ow.testBit l = true ↔ l < (s.2.2.2.2.1.getD r dRu).2.2.2.2.2.length ∧ ownL (s.2.2.2.2.1.getD r dRu).2.2.2.2.2 mb l) (hF : cRw S G (111 + 6 * p) (qN s p) 100 F) (hFs : F.Pairwise rwLt) (hF0 : ∀ r ∈ F, r.2 = 0) (hcm : G 93 15 = cm) (hc0 : 0 ≤ cm) (hc1 : cm ≤ 900000) :
    ∃ v G', c149_148 r66 r89 f f 93 (rg : Int) (mb : Int) ((n + 1 : Nat) : Int) (r : Int) u ((ldM ow n : Nat) : Int) 0 (S, G, m) = (if v = 0 then some (0, (S, G', m)) else r89 93 (rg : Int) (mb : Int) ((n + 1 : Nat) : Int) ((r + 1 : Nat) : Int) (S, G', m)) ∧ (∀ b j, ¬ (83 ≤ b ∧ b ≤ 92) → ¬ (99 ≤ b ∧ b ≤ 105) → ¬ (b = 93 ∧ j = 15) → ¬ (111 + 6 * p ≤ b ∧ b ≤ 113 + 6 * p) → G' b j = G b j) ∧ cPs G' ∧ gvO S G' p (qN s p) (R p) F cm (fun xs => (qG (s.2.2.2.2.1.getD r dRu) ≠ 0 → n = 0) ∧ rlD (s.2.2.2.2.1.getD r dRu) R xs) v := by
  obtain ⟨u', K, pl, e7, e0, hX, hI, hnd, dd, hpB⟩ := h.rule hr
  have eu : u' = u := by omega
  subst eu
  obtain ⟨⟨a1, a2, a3, a4, a5, a6⟩, b⟩ := h
  have hm : s.2.2.2.2.1.getD r dRu ∈ s.2.2.2.2.1 := by rw [getD_e hr]; exact List.getElem_mem hr
  generalize s.2.2.2.2.1.getD r dRu = ru at *
  obtain ⟨w1, w2, w3, w4, w5, w6, w7, w8, w9⟩ := a6.1.1.2.2.2.2.2.2 ru hm
  obtain ⟨i1, i2, i3⟩ := ru_it a6 hm
  have hnp : s.1.length ≤ 16 := a6.1.1.1
  have hpn : p < s.1.length := by omega
  have hr24 : r < 24 := by have := a6.1.1.2.2.2.2.2.1; omega
  obtain ⟨b1, b2, b3, b4, b5, b6, b7⟩ := b p hpn
  obtain ⟨c1, c2⟩ := hxr p hpn hk
  rw [c1, c2] at b3
  have hN : ru.2.2.2.1.length = qN s p := by
    have o2 := (a6.1.2.1 ru hm).2
    have := (qN_c a6.1.1 p).1
    rw [hhd] at o2
    omega
  have hsf : sfe ru.2.2.2.2.2 ru.2.2.2.2.1.length := (a6.1.2.1 ru hm).1
  have hxp : ∀ q, q < s.1.length → ∀ b, xp q ≤ b → b ≤ xp q + 2 → ¬ (111 + 6 * p ≤ b ∧ b ≤ 113 + 6 * p) := fun q hq c y1 y2 => by
    have := (b q hq).2.1
    omega
  have er : xwr ((r : Int) + 1) = ((r + 1 : Nat) : Int) := by rw [xwr_g _ (by omega) (by omega)]; omega
  have hrk : ∀ l, l < ru.2.2.2.2.2.length → (ru.2.2.2.2.2.getD l dLt).1 ≠ 3 → ∀ r ∈ R (ru.2.2.2.2.2.getD l dLt).2.1.toNat, 0 ≤ r.2 ∧ r.2 ≤ 1700 := fun l hl h3 => by
    obtain ⟨y1, y2⟩ := w9 _ (lt_in hl)
    have y3 := y2 h3
    have y4 : (ru.2.2.2.2.2.getD l dLt).2.1 < s.1.length := by
      rcases y1 with ⟨_, _, z, _⟩ | ⟨z, _⟩
      · exact z
      · exact absurd z h3
    exact (b (ru.2.2.2.2.2.getD l dLt).2.1.toNat (by omega)).2.2.2.2.2.2
  have hu' : 278 < u' := hX.2.1.2.2.2.2.1
  have us : S u' = (1, 6, 20) := hX.2.1.1.1
  have hFl := hF.2.2.2.2.1
  have hkr : qK s ru.1.toNat = rg := by rw [hhd, Int.toNat_natCast]; exact hk
  have hld : ldM ow n < 2 ^ 8 := by
    unfold ldM
    by_cases y1 : ow = 0
    · rw [if_pos y1]
      by_cases y2 : n = 0
      · rw [if_pos y2]; decide
      · rw [if_neg y2]; decide
    · rw [if_neg y1]
      by_cases y2 : n = 0
      · rw [if_pos y2]; decide
      · rw [if_neg y2]; exact how8
  by_cases cg : ru.2.2.1.1 = 0
  · have hqg : qG ru = 0 := by unfold qG; rw [if_pos cg]
    have hgA : ru.2.2.1.2.1 = -1 := by
      rcases w5.1 with z | z
      · exact z.2.1
      · have : (10 : Int) ≤ ru.2.2.1.1 := z.1.1
        omega
    rw [hgA] at i1
    have h3 : G u' 3 = -1 := by
      rcases hI.2.2.2.2 with z | z
      · exact z.2
      · have := z.1.1; omega
    obtain ⟨v, G', k1, k2, k3, k4⟩ := k_148d (f := f) (m := m) (r66 := r66) (r89 := r89) (rg := (rg : Int)) (lv := ((n + 1 : Nat) : Int)) (lds := ldM ow n) (r := r) (mb := mb) hf (by omega) hxp hN i1 w8 hsf hnd hpB hmb16 (by omega) b4 hld hr24 8 0 f G F cm (by omega) (by omega) hX hI h3 (by rw [e0]; exact hhd) b3 hF hFs hF0 hcm hc0 (by omega)
    refine ⟨v, G', k1, k2, k3, k4.cg (fun xs hx => ?_)⟩
    have sem := lv_semi (n := n) (R := R) (R0 := R0) a6.1 hm hqg hkr hmb h0 hs0 hC (fun p hp => (b p hp).2.2.2.2.2.2) how (xs := xs) (by rw [hhd, Int.toNat_natCast]; exact hx)
    unfold rlD
    rw [if_pos hqg, sem]
    constructor
    · rintro ⟨ld, y1, y2, y3, y4⟩
      exact ⟨fun y => absurd hqg y, ld, y3, y4⟩
    · rintro ⟨_, ld, y3, y4⟩
      refine ⟨ld, Nat.zero_le _, ?_, y3, y4⟩
      refine Classical.byContradiction (fun q => ?_)
      have := Nat.testBit_lt_two_pow (Nat.lt_of_lt_of_le hld (Nat.pow_le_pow_right (by decide) (by omega : 8 ≤ ld)))
      rw [this] at y3
      cases y3
  · have hg10 : (10 ≤ ru.2.2.1.1 ∧ ru.2.2.1.1 ≤ 13) ∧ 0 ≤ ru.2.2.1.2.1 ∧ ru.2.2.1.2.1 < ru.2.2.2.1.length ∧ (ru.2.2.1.1 = 10 ∧ ru.2.2.1.2.2 = -1 ∨ ru.2.2.1.1 ≠ 10 ∧ 0 ≤ ru.2.2.1.2.2 ∧ ru.2.2.1.2.2 < ru.2.2.2.2.1.length) := by
      rcases w5.1 with z | z
      · exact absurd z.1 cg
      · exact z
    have hqg : qG ru = ru.2.2.1.1 - 9 := by unfold qG; rw [if_neg cg]
    have ow0 : ow = 0 := Nat.eq_of_testBit_eq (fun j => by
      rw [Nat.zero_testBit]
      cases hb : ow.testBit j with
      | false => rfl
      | true =>
        exfalso
        obtain ⟨y1, y2, y3⟩ := (how j).mp hb
        have := ok_5 a6.1 hm (lt_in y1) (by omega) (.inr (by omega))
        rw [hkr] at this
        exact this ((hmb _).mp y3).2)
    by_cases cn : n = 0
    · subst cn
      have eld : ldM ow 0 = 1 := by unfold ldM; rw [if_pos ow0, if_pos rfl]
      rw [eld]
      have hRp : R p = [] := by
        have h' : R p = R0 p := hC p hpn
        rw [h', h0 p hpn hk]
      have hw16 : ∀ l, l < ru.2.2.2.2.2.length → (ru.2.2.2.2.2.getD l dLt).1 = 1 → 0 ≤ (ru.2.2.2.2.2.getD l dLt).2.1 ∧ (ru.2.2.2.2.2.getD l dLt).2.1 < 16 := fun l hl h1 => by
        obtain ⟨y1, y2⟩ := w9 _ (lt_in hl)
        have y3 := y2 (by omega)
        rcases y1 with ⟨_, _, z, _⟩ | ⟨z, _⟩ <;> omega
      obtain ⟨G1, x1, x2, x3, x4⟩ := k_153 (f := f) (m := m) (ld := 0) (lv := ((0 + 1 : Nat) : Int)) (mb := mb) (by omega) a1 a2 hX.2.1 hmb16 hw16 (by omega)
      have f1 : ∀ b j, ¬ (83 ≤ b ∧ b ≤ 92) → G1 b j = G b j := fun b j y => x2 b j (by omega) (by omega) (by omega) (by omega)
      have hX1 : cWX S G1 u' K ru.2.2.2.2.2 pl s.1.length ru.2.2.2.2.1.length (qAs ru.2.2.1 ru.2.2.2.1) (qN s) xp cp R := hX.ge x3 (fun q hq b y1 y2 j => f1 b j (by have := (hX.2.2.2.2 q hq).2.1; omega)) (fun j => f1 _ _ (by omega)) (fun b j y => f1 b j (by omega))
      obtain ⟨gA, hgA⟩ : ∃ gA : Nat, ru.2.2.1.2.1 = (gA : Int) := ⟨ru.2.2.1.2.1.toNat, by omega⟩
      have hGa : G u' 3 = (gA : Int) ∧ G u' 4 = qG ru + 9 ∧ (qG ru ≠ 1 → G u' 5 = ((ru.2.2.1.2.2.toNat : Nat) : Int)) := by
        rcases hI.2.2.2.2 with z | ⟨_, z2, _, z4, z5⟩
        · exact absurd z.1 cg
        · exact ⟨by rw [z2, hgA], by rw [z4, hqg]; omega, fun y => by rw [z5 (by omega)]; omega⟩
      rw [hgA] at i1
      have hall := wx_all hX w8 hsf hnd hpB hrk
      obtain ⟨v, G2, k1, k2, k3, k4⟩ := k_157t (f := f) (m := m) (kk := qG ru) (gO := ru.2.2.1.2.2.toNat) (gA := gA) (g := ru.2.2.1) hf (by omega : p < 16) hxp hN (by have := (qN_c a6.1.1 p).2; omega) (by omega) i1 (by omega) (fun y => by omega) w8 hsf hnd hpB hrk 1000000 f 0 none G1 F cm 1 (fun _ V hV => Nat.le_trans (List.countP_le_length) (hall V hV)) (by omega) (by omega) hX1 (hI.fx hu' (fun b j y => f1 b j (by omega))) (by rw [f1 _ _ (by omega)]; exact hGa.1) (by rw [f1 _ _ (by omega)]; exact hGa.2.1) (fun y => by rw [f1 _ _ (by omega)]; exact hGa.2.2 y) (by rw [f1 _ _ (by omega), e0]; exact hhd) (by rw [← hRp]; exact b3.ge (fun _ _ _ => rfl) (fun j => f1 _ _ (by omega)) (fun j => f1 _ _ (by omega)) (fun j => f1 _ _ (by omega))) (hF.ge (fun _ _ _ => rfl) (fun j => f1 _ _ (by omega)) (fun j => f1 _ _ (by omega)) (fun j => f1 _ _ (by omega))) hFs hF0 (by rw [f1 _ _ (by omega)]; exact hcm) hc0 (by omega) (.inr rfl) (fun _ => .inl ⟨rfl, rfl⟩)
      obtain ⟨fu, rfl⟩ : ∃ t, f = t + 1 := ⟨f - 1, by omega⟩
      have st : c149_148 r66 r89 (fu + 1) (fu + 1) 93 (rg : Int) (mb : Int) ((0 + 1 : Nat) : Int) (r : Int) u' ((1 : Nat) : Int) ((0 : Nat) : Int) (S, G, m) = _ := st_148g (r148 := c149_148 r66 r89 (fu + 1) fu) (gA := gA) (v := v) a1 us (by omega) (by decide) (by decide) (by rw [xwr_g _ (by omega) (by omega)]; omega) x1 (by rw [f1 _ _ (by omega)]; exact hGa.1) k1
      refine ⟨v, G2, ?_, fun b j y1 y2 y3 y4 => by rw [k2 b j y1 y2 y3 y4, f1 b j y1], k3, ?_⟩
      · refine st.trans ?_
        by_cases cv : v = 0
        · rw [if_pos cv, if_pos cv]
        · rw [if_neg cv, if_neg cv]
          exact k_148z (by decide) er 7 1 fu (by omega) (by omega) (fun j y1 y2 => by
            rcases (by omega : j = 1 ∨ j = 2 ∨ j = 3 ∨ j = 4 ∨ j = 5 ∨ j = 6 ∨ j = 7) with e | e | e | e | e | e | e <;> subst e <;> decide)
      · rw [hRp]
        refine k4.cg (fun xs _ => ?_)
        unfold rlD
        rw [if_neg (by omega), hgA, Int.toNat_natCast]
        have ed : ∀ ks, gDs ru.2.2.2.2.2 ru.2.2.2.2.1.length R qO1 (qG ru) ((ru.2.2.1.2.2.toNat : Nat) : Int) ru.2.2.2.1 gA ks xs ↔ gDs ru.2.2.2.2.2 ru.2.2.2.2.1.length R qO1 (qG ru) ru.2.2.1.2.2 ru.2.2.2.1 gA ks xs := fun ks => by
          by_cases c1 : qG ru = 1
          · rw [c1]; exact gDs_1 _ _
          · have : ((ru.2.2.1.2.2.toNat : Nat) : Int) = ru.2.2.1.2.2 := by omega
            rw [this]
        constructor
        · rintro ⟨_, ks, y1, _⟩
          exact ⟨fun _ => rfl, ks, (ed ks).mp y1⟩
        · rintro ⟨_, ks, y1⟩
          exact ⟨rfl, ks, (ed ks).mpr y1, rfl⟩
    · have eld : ldM ow n = 0 := by unfold ldM; rw [if_pos ow0, if_neg cn]
      rw [eld]
      refine ⟨1, G, ?_, fun _ _ _ _ _ _ => rfl, a2, gvO.no hF hFs hF0 hcm (fun xs hD _ => absurd (hD.1 (by omega)) cn)⟩
      rw [if_neg (by decide)]
      exact k_148z (lds := 0) (by decide) er 8 0 f (by omega) (by omega) (fun j _ _ => Nat.zero_testBit j)
end
