/-! THE CLASS: past(), pastValue(), sheet() -/
section
variable {f A q mp rp nx nq hr n sl : Nat} {S : Nat → Nat × Nat × Nat} {G : xG_} {m : Nat × Nat} {s : pPg} {xr cr : Nat → Nat} {M M' : Nat → List pRw} {T : List (List Int)} {P : Nat → Nat} {mo : sMo} {lns : Nat → sLn} {tx : List Int} {kp : Nat × List (List Int)} {mt : Int × List Int} {pl rf : Int}
theorem hs_rd (h : cHs S G A (T, lns, hr, tx, kp, mt, pl, rf) n) : ∃ (P : Nat → Nat) (mp : Nat → Nat), cEd T S G A P ∧ (G (243 + 9 * hr) 1 = (((lns hr).2.1.1 + (lns hr).2.1.2.1 : Nat) : Int) ∧ G (243 + 9 * hr) 2 = ((lns hr).2.1.1 : Int)) ∧ (∀ r, (lns hr).2.1.1 ≤ r → r ≤ (lns hr).2.1.1 + (lns hr).2.1.2.1 → G (243 + 9 * hr + 1) r = (mp r : Int) ∧ cMo T S G A P (mp r) ((lns hr).1 r)) ∧ lnSt S (243 + 9 * hr) ∧ lnPt G (243 + 9 * hr) ∧ G 220 hr = ((243 + 9 * hr : Nat) : Int) ∧ hr < 4 ∧ G 64 6 = (hr : Int) := by
  obtain ⟨⟨a1, a2, a3, a4⟩, ⟨P, b1, b2, b3⟩, ⟨c1, c2⟩, _⟩ := h
  obtain ⟨⟨⟨l1, l2⟩, mp, l3, l4⟩, _⟩ := b2 hr c1
  exact ⟨P, mp, b1, ⟨l1, l2⟩, fun r r1 r2 => ⟨(l3 r r1 r2).1, (l3 r r1 r2).2.1⟩, lnSt_of a1 c1, lnPt_of a2 c1, p_ln a2 c1, c1, c2⟩
/-- past() -/
theorem k_184 {r p v : Int} (h : cHs S G A (T, lns, hr, tx, kp, mt, pl, rf) n) (hb : (lns hr).2.1.1 + (lns hr).2.1.2.1 < 520) (hst : stPa T (lns hr) r p v) : c184 f 64 r p (S, G, m) = some (v, (S, G, m)) := by
  obtain ⟨P, mp, b1, ⟨l1, l2⟩, b3, b4, b5, b6, b8, b9⟩ := hs_rd h
  obtain ⟨⟨a1, a2, a3, a4⟩, _⟩ := h
  have i3 : cq_is 1 14 (243 + 9 * hr) (S, G, m) = some () := if_pos b4.1
  have g6 : cq_gi 11 6 17 64 (S, G, m) = some (hr : Int) := by rw [o_gi (s64 a1), b9]
  have h38 : c184_38 f (S, G, m) = some (-1, (S, G, m)) := rfl
  unfold c184
  rw [o_gr (y := 220) (s64 a1) (p64_5 a2), Option.bind_some, g6, Option.bind_some, o_ar (s220 a1) (by decide) b8 b6, Option.bind_some, i3, Option.bind_some, k_6 b4.1 l1 l2, Option.bind_some]
  rcases hst with ⟨i, s, M, i1, rfl, i2, i4⟩ | ⟨i1, rfl⟩
  · rw [if_neg (show ¬ (if (((lns hr).2.1.1 : Int) ≤ (((lns hr).2.1.1 + i : Nat) : Int) ∧ (((lns hr).2.1.1 + i : Nat) : Int) ≤ (((lns hr).2.1.1 + (lns hr).2.1.2.1 : Nat) : Int)) then (1 : Int) else 0) = 0 by rw [if_pos (by omega)]; decide)]
    obtain ⟨m1, m2⟩ := b3 _ (Nat.le_add_right _ i) (Nat.add_le_add_left i1 _)
    obtain ⟨rp, xr, cr, nq, r1, r2, r3, r4, r5, r6⟩ := m2.pm b1 i2
    by_cases c1 : p < 0
    · rw [if_pos c1, h38]
      rcases i4 with z | z
      · omega
      · rw [z.2]
    · rw [if_neg c1, o_gr b4.1 b5.1, Option.bind_some, o_ar b4.2.1 (by decide) (by omega) m1, Option.bind_some, o_gr r1.1 r1.2.1, Option.bind_some, o_gi r2.1.1, Option.bind_some, r2.2.2.1.1]
      by_cases c2 : p < (s.1.length : Int)
      · rcases i4 with z | z
        · obtain ⟨x, rfl⟩ : ∃ x : Nat, p = (x : Int) := ⟨p.toNat, by omega⟩
          have hx : x < s.1.length := by omega
          obtain ⟨w1, w2, w3⟩ := r1.2.2.2.2 x hx
          rw [if_pos c2, Option.bind_some, o_ar b4.2.1 (by decide) (by omega) m1, Option.bind_some, o_gr r1.1 r1.2.2.1, Option.bind_some, o_ar r1.2.2.2.1 (by decide) hx w1, Option.bind_some, o_gi w3.1, Option.bind_some, w3.2.2.2.1.2.1, z.2.2, Int.toNat_natCast]
        · exact absurd ⟨by omega, c2⟩ z.1
      · rw [if_neg c2, h38]
        rcases i4 with z | z
        · omega
        · rw [z.2]
  · rw [if_pos (show (if (((lns hr).2.1.1 : Int) ≤ r ∧ r ≤ (((lns hr).2.1.1 + (lns hr).2.1.2.1 : Nat) : Int)) then (1 : Int) else 0) = 0 by rw [if_neg i1]), h38]
/-- pastValue() -/
theorem k_185 {r p i col v t : Int} (h : cHs S G A (T, lns, hr, tx, kp, mt, pl, rf) n) (hb : (lns hr).2.1.1 + (lns hr).2.1.2.1 < 520) (hsm : ∀ r, (lns hr).2.1.1 ≤ r → r ≤ (lns hr).2.1.1 + (lns hr).2.1.2.1 → ∃ s M, isMo T ((lns hr).1 r) s M) (hst : stPv T (lns hr) r p i col t v) : (t = 0 ∧ c185 f 64 r p i col (S, G, m) = some (.inr v, (S, G, m))) ∨ (t = 1 ∧ c185 f 64 r p i col (S, G, m) = some (.inl 1, cq_ex (S, G, m))) := by
  obtain ⟨P, mp, b1, ⟨l1, l2⟩, b3, b4, b5, b6, b8, b9⟩ := hs_rd h
  obtain ⟨⟨a1, a2, a3, a4⟩, _⟩ := h
  have i3 : cq_is 1 14 (243 + 9 * hr) (S, G, m) = some () := if_pos b4.1
  have g6 : cq_gi 11 6 17 64 (S, G, m) = some (hr : Int) := by rw [o_gi (s64 a1), b9]
  have h37 : c185_37 f (S, G, m) = some (.inl 1, cq_ex (S, G, m)) := rfl
  unfold c185
  rw [o_gr (y := 220) (s64 a1) (p64_5 a2), Option.bind_some, g6, Option.bind_some, o_ar (s220 a1) (by decide) b8 b6, Option.bind_some, i3, Option.bind_some, k_6 b4.1 l1 l2, Option.bind_some]
  by_cases c : ((lns hr).2.1.1 : Int) ≤ r ∧ r ≤ (((lns hr).2.1.1 + (lns hr).2.1.2.1 : Nat) : Int)
  · obtain ⟨x, rfl⟩ : ∃ x : Nat, r = (((lns hr).2.1.1 + x : Nat) : Int) := ⟨(r - (lns hr).2.1.1).toNat, by omega⟩
    have hx : x ≤ (lns hr).2.1.2.1 := by omega
    obtain ⟨m1, m2⟩ := b3 _ (Nat.le_add_right _ x) (Nat.add_le_add_left hx _)
    obtain ⟨s, M, iM⟩ := hsm _ (Nat.le_add_right _ x) (Nat.add_le_add_left hx _)
    obtain ⟨rp, xr, cr, nq, r1, r2, r3, r4, r5, r6⟩ := m2.pm b1 iM
    have i4 : cq_is 2 8 (mp ((lns hr).2.1.1 + x)) (S, G, m) = some () := if_pos r1.1
    rw [if_neg (show ¬ (if (((lns hr).2.1.1 : Int) ≤ (((lns hr).2.1.1 + x : Nat) : Int) ∧ (((lns hr).2.1.1 + x : Nat) : Int) ≤ (((lns hr).2.1.1 + (lns hr).2.1.2.1 : Nat) : Int)) then (1 : Int) else 0) = 0 by rw [if_pos c]; decide), o_gr b4.1 b5.1, Option.bind_some, o_ar b4.2.1 (by decide) (by omega) m1, Option.bind_some, i4, Option.bind_some, k_15 r4.1 r1 r2, Option.bind_some]
    by_cases cc : (((0 ≤ p ∧ p < s.1.length) ∧ 0 ≤ i ∧ i < (M p.toNat).length) ∧ 0 ≤ col ∧ col < qN s p.toNat)
    · rw [if_pos (show ¬ (if (((0 ≤ p ∧ p < s.1.length) ∧ 0 ≤ i ∧ i < (M p.toNat).length) ∧ 0 ≤ col ∧ col < qN s p.toNat) then (1 : Int) else 0) = 0 by rw [if_pos cc]; decide)]
      rcases hst with ⟨x', s', M', k1, k2, k3, k4, k5, k6, rfl, rfl⟩ | ⟨k1, _⟩
      · left
        have e : x' = x := by omega
        subst e
        obtain ⟨e1, e2⟩ := isMo_u iM k3
        subst e1
        obtain ⟨a, rfl⟩ : ∃ a : Nat, p = (a : Int) := ⟨p.toNat, by omega⟩
        obtain ⟨y, rfl⟩ : ∃ y : Nat, i = (y : Int) := ⟨i.toNat, by omega⟩
        obtain ⟨z, rfl⟩ : ∃ z : Nat, col = (z : Int) := ⟨col.toNat, by omega⟩
        rw [Int.toNat_natCast] at cc
        have ha : a < s.1.length := by omega
        obtain ⟨w1, w2, w3⟩ := r1.2.2.2.2 a ha
        have i5 : cq_is 5 4 (xr a) (S, G, m) = some () := if_pos w3.1
        rw [o_gr b4.1 b5.1, Option.bind_some, o_ar b4.2.1 (by decide) (by omega) m1, Option.bind_some, o_gr r1.1 r1.2.2.1, Option.bind_some, o_ar r1.2.2.2.1 (by decide) ha w1, Option.bind_some, i5, Option.bind_some, k_70 w3 (by omega) (by omega), Option.bind_some, Int.toNat_natCast, Int.toNat_natCast, Int.toNat_natCast, e2 a ha]
        exact ⟨rfl, rfl⟩
      · exact absurd ⟨cc.1.1, cc.1.2, cc.2⟩ (k1 x s M hx rfl iM)
    · rw [if_neg (show ¬ ¬ (if (((0 ≤ p ∧ p < s.1.length) ∧ 0 ≤ i ∧ i < (M p.toNat).length) ∧ 0 ≤ col ∧ col < qN s p.toNat) then (1 : Int) else 0) = 0 by rw [if_neg cc]; decide), h37]
      rcases hst with ⟨x', s', M', k1, k2, k3, k4, k5, k6, _⟩ | ⟨_, k1, _⟩
      · have e : x' = x := by omega
        subst e
        obtain ⟨e1, e2⟩ := isMo_u iM k3
        subst e1
        exact absurd ⟨⟨k4, by rw [e2 _ (by omega)]; exact k5⟩, k6⟩ cc
      · exact .inr ⟨k1, rfl⟩
  · rw [if_pos (show (if (((lns hr).2.1.1 : Int) ≤ r ∧ r ≤ (((lns hr).2.1.1 + (lns hr).2.1.2.1 : Nat) : Int)) then (1 : Int) else 0) = 0 by rw [if_neg c]), h37]
    rcases hst with ⟨x', s', M', k1, k2, _⟩ | ⟨_, k1, _⟩
    · exact absurd (by omega) c
    · exact .inr ⟨k1, rfl⟩
/-- sheet() -/
theorem k_183 {a b w v t : Int} (h : cHs S G A (T, lns, hr, tx, kp, mt, pl, rf) n) (hb : (lns hr).2.1.1 + (lns hr).2.1.2.1 < 520) (hst : stSh T (lns hr) a b w t v) (hoX : okX (xOf T (lMo (lns hr)).2.2.1)) : (t = 0 ∧ c183 f 64 a b w (S, G, m) = some (.inr v, (S, G, m))) ∨ (t = 1 ∧ c183 f 64 a b w (S, G, m) = some (.inl 1, cq_ex (S, G, m))) := by
  obtain ⟨P, mp, b1, b2, b3, b4, b5, b6, b7, b8, b9, b10⟩ := hs_ln h hb
  obtain ⟨⟨a1, a2, a3, a4⟩, _⟩ := h
  obtain ⟨s, M, i1, i2⟩ := hst
  obtain ⟨s', M', rp, xr, cr, tp, ac, to, n1, n2, n3, _, ⟨n4, n5, n6⟩, _⟩ := b2
  obtain ⟨e1, e2⟩ := isMo_u n1 i1
  subst e1
  have eM : fSh (xOf T (lMo (lns hr)).2.2.1) s' M' = fSh (xOf T (lMo (lns hr)).2.2.1) s' M := fSh_v n1.2.2.1.1.2.1 (fun p hp => by rw [e2 p hp]) _
  have hC : okC (fSh (xOf T (lMo (lns hr)).2.2.1) s' M') := fSh_ok hoX (fun p hp => (n2 p hp).2.2.1) (fun p hp => Nat.le_trans (n2 p hp).2.1 (by decide))
  rw [← eM] at i2
  have h20 : c183_20 f (S, G, m) = some (.inl 1, cq_ex (S, G, m)) := rfl
  have bad : ¬ (0 ≤ a ∧ a < 6 ∧ 0 ≤ b ∧ b ≤ 11) → c183 f 64 a b w (S, G, m) = some (.inl 1, cq_ex (S, G, m)) → (t = 0 ∧ c183 f 64 a b w (S, G, m) = some (.inr v, (S, G, m))) ∨ (t = 1 ∧ c183 f 64 a b w (S, G, m) = some (.inl 1, cq_ex (S, G, m))) := fun hn he => by
    rcases i2 with ⟨z, _⟩ | ⟨_, z, _⟩
    · exact absurd z hn
    · exact .inr ⟨z, he⟩
  by_cases c1 : a < 0
  · exact bad (by omega) (by unfold c183; rw [if_pos c1, h20])
  by_cases c2 : 6 ≤ a
  · exact bad (by omega) (by unfold c183; rw [if_neg c1, if_pos c2, h20])
  by_cases c3 : b < 0
  · exact bad (by omega) (by unfold c183; rw [if_neg c1, if_neg c2, if_pos c3, h20])
  by_cases c4 : b < 12
  · rcases i2 with ⟨z, rfl, rfl⟩ | ⟨z, _⟩
    · left
      refine ⟨rfl, ?_⟩
      obtain ⟨x, hx⟩ : ∃ x : Nat, a + 6 * b = (x : Int) := ⟨(a + 6 * b).toNat, by omega⟩
      have hx72 : x < 72 := by omega
      have ex : xwr (a + xwr (6 * b)) = (x : Int) := by rw [xwr_g (6 * b) (by omega) (by omega), xwr_g _ (by omega) (by omega)]; exact hx
      have i3 : cq_is 1 14 (243 + 9 * hr) (S, G, m) = some () := if_pos b4.1
      have g6 : cq_gi 11 6 17 64 (S, G, m) = some (hr : Int) := by rw [o_gi (s64 a1), b9]
      rw [hx, Int.toNat_natCast]
      unfold c183
      rw [if_neg c1, if_neg c2, if_neg c3, if_pos c4, o_gr (y := 220) (s64 a1) (p64_5 a2), Option.bind_some, g6, Option.bind_some, o_ar (s220 a1) (by decide) b8 b6, Option.bind_some, i3, Option.bind_some, b7, Option.bind_some, o_gr n3.1 n4, Option.bind_some, ex, o_a n5 hx72, Option.bind_some, n6 x hx72]
      obtain ⟨C, eC'⟩ : ∃ C, C = fSh (xOf T (lMo (lns hr)).2.2.1) s' M' x := ⟨_, rfl⟩
      have hCx := hC x hx72
      rw [← eC'] at hCx ⊢
      have h125 : ∀ y, c183_125 f y (S, G, m) = some (.inr y, (S, G, m)) := fun y => rfl
      have h155 : ∀ y, c183_155 f y (S, G, m) = some (.inr y, (S, G, m)) := fun y => rfl
      have key : ∀ (y0 x5 v1 v2 : Int), (v1 = if x5 = 9000000000000000000 then 0 else if y0 = 0 then 1 else 2) → (v2 = if x5 = 9000000000000000000 then 0 else if y0 = 0 then x5 else xwl (x5 - -9000000000000000000)) → c183_70 f 64 w (x : Int) x5 y0 (S, G, m) = some (.inr (if w = 0 then v1 else if w = 1 then v2 else if w = 2 then (lns hr).2.2.1.2.1 x else -1), (S, G, m)) := fun y0 x5 v1 v2 e1 e2 => by
        unfold c183_70
        by_cases w1 : w < 0 ∨ 2 < w
        · rw [if_pos w1, if_neg (by omega), if_neg (by omega), if_neg (by omega)]
        · rw [if_neg w1]
          rcases (by omega : w = 0 ∨ w = 1 ∨ w = 2) with rfl | rfl | rfl
          · simp only [Int.reduceEq, reduceIte]
            rw [e1]
            by_cases d1 : x5 = 9000000000000000000
            · rw [if_neg (fun z => z d1), if_pos d1, h125]
            · rw [if_pos d1, if_neg d1]
              by_cases d2 : y0 = 0
              · rw [if_pos d2, if_pos d2, h125]
              · rw [if_neg d2, if_neg d2, h125]
          · simp only [Int.reduceEq, reduceIte]
            rw [e2]
            by_cases d1 : x5 = 9000000000000000000
            · rw [if_neg (fun z => z d1), if_pos d1, h155]
            · rw [if_pos d1, if_neg d1]
              by_cases d2 : y0 = 0
              · rw [if_pos d2, if_pos d2, h155]
              · rw [if_neg d2, if_neg d2, h155]
          · simp only [Int.reduceEq, reduceIte]
            rw [o_gr (y := 220) (s64 a1) (p64_5 a2), Option.bind_some, g6, Option.bind_some, o_ar (s220 a1) (by decide) b8 b6, Option.bind_some, o_gr b4.1 b5.2.2.1, Option.bind_some, o_a b4.2.2.2.1 hx72, Option.bind_some, b3.2.1.2 x hx72]
      unfold eC
      rcases hCx with ⟨q1, q2⟩ | ⟨q1, q2⟩ | ⟨q1, q2, q3⟩
      · rw [if_pos q1, if_pos (by decide)]
        exact key _ _ _ _ (by rw [if_pos rfl]; exact q1) (by rw [if_pos rfl]; exact q2)
      · have : -1000000000000 ≤ C.2 ∧ C.2 < 9000000000000000000 := by unfold vOk at q2; omega
        rw [if_neg (show ¬ C.1 = 0 by omega), if_pos q1, if_pos this.1]
        exact key _ _ _ _ (by rw [if_neg (by omega), if_pos rfl]; exact q1) (by rw [if_neg (by omega), if_pos rfl])
      · rw [if_neg (show ¬ C.1 = 0 by omega), if_neg (show ¬ C.1 = 1 by omega), if_neg (show ¬ (-1000000000000 : Int) ≤ -9000000000000000000 + C.2 by omega)]
        refine key _ _ _ _ (by rw [if_neg (by omega), if_neg (by decide)]; exact q1) ?_
        rw [if_neg (by omega), if_neg (by decide), xwl_g _ (by omega) (by omega)]
        omega
    · exact absurd ⟨by omega, by omega, by omega, by omega⟩ z
  · exact bad (by omega) (by unfold c183; rw [if_neg c1, if_neg c2, if_neg c3, if_neg c4, h20])
end
