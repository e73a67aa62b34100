section
/-! THE CLASS: small questions, further -/
theorem fa_len {s : pPg} {M : Nat → List pRw} {F : List pFc} (hok : qOk s) (hM : qTb s M) (hF : qFa s M F) : F.length = qTo M s.1.length := by
  have h := lg_new (s := s) (so := s) (R := M) (Mo := fun _ => []) (A := fun _ => []) (F := F) (Fo := []) hok hok hM (fun p hp => ⟨Nat.zero_le _, List.Pairwise.nil, fun w hw => by cases hw⟩) hF ⟨List.Pairwise.nil, fun y => ⟨fun z => absurd z List.not_mem_nil, fun ⟨p, _, _, w, z, _⟩ => absurd z List.not_mem_nil⟩⟩ (fun p hp => .inl ⟨p, hp, rfl, rfl, rfl⟩)
  rw [List.filter_eq_self.mpr (fun y _ => by rfl)] at h
  rw [h]
  have : ∀ k, qTo (fun p => (M p).filter (fun w => ! hasV [] w.1)) k = qTo M k := by
    intro k
    induction k with
    | zero => rfl
    | succ k ih =>
      show qTo _ k + ((M k).filter _).length = qTo M k + (M k).length
      rw [ih, List.filter_eq_self.mpr (fun y _ => by rfl)]
  exact this _
section
variable {f A q mp rp nx nq hr n sl : Nat} {S : Nat → Nat × Nat × Nat} {G : xG_} {m : Nat × Nat} {s : pPg} {xr cr : Nat → Nat} {M M' : Nat → List pRw} {T : List (List Int)} {P : Nat → Nat} {mo : sMo} {lns : Nat → sLn} {tx : List Int} {kp : Nat × List (List Int)} {mt : Int × List Int} {pl rf : Int}
theorem k_16l (h16 : s.1.length ≤ 16) (hl : ∀ p, p < s.1.length → (M p).length ≤ 100) (hM : cMr S G nx mp q rp s xr cr M) (hP : cPgm S G q nq s) : ∀ (d p fu : Nat), p + d = s.1.length → d < fu → c16_4 f fu mp (qTo M p : Int) (p : Int) (S, G, m) = some ((qTo M s.1.length : Int), (S, G, m)) := by
  obtain ⟨h1, h2, h3, h4, h5⟩ := hM
  intro d
  induction d with
  | zero =>
    intro p fu e1 e2
    obtain ⟨fu, rfl⟩ : ∃ t, fu = t + 1 := ⟨fu - 1, by omega⟩
    have e : p = s.1.length := by omega
    subst e
    show c16_4b (c16_4 f fu) f _ _ _ _ = _
    unfold c16_4b
    rw [o_gr h1 h2, Option.bind_some, o_gi hP.1.1, Option.bind_some, hP.2.2.1.1, if_pos (Int.le_refl _)]
  | succ d ih =>
    intro p fu e1 e2
    obtain ⟨fu, rfl⟩ : ∃ t, fu = t + 1 := ⟨fu - 1, by omega⟩
    have hp : p < s.1.length := by omega
    obtain ⟨b1, b2, b3⟩ := h5 p hp
    have t1 := qTo_le (R := M) p (fun x hx => hl x (by omega))
    have t2 := hl p hp
    show c16_4b (c16_4 f fu) f _ _ _ _ = _
    unfold c16_4b
    rw [o_gr h1 h2, Option.bind_some, o_gi hP.1.1, Option.bind_some, hP.2.2.1.1, if_neg (by omega), o_gr h1 h3, Option.bind_some, o_ar h4 (by decide) hp b1, Option.bind_some, o_gi b3.1, Option.bind_some, b3.2.2.2.1.2.1, xwr_g _ (by omega) (by omega), xwr_g _ (by omega) (by omega)]
    have e3 : (qTo M p : Int) + ((M p).length : Int) = (qTo M (p + 1) : Int) := by
      show _ = ((qTo M p + (M p).length : Nat) : Int)
      omega
    rw [e3]
    exact ih (p + 1) fu (by omega) (by omega)
/-- count() -/
theorem k_174 {w v : Int} (hf : 20 < f) (h : cHs S G A (T, lns, hr, tx, kp, mt, pl, rf) n) (hb : (lns hr).2.1.1 + (lns hr).2.1.2.1 < 520) (hst : stCo T (lns hr) hr tx.length rf w v) : c174 f 64 w (S, G, m) = some (v, (S, G, m)) := by
  obtain ⟨P, mp, b1, b2, b3, b4, b5, b6, b7, b8, b9, b10⟩ := hs_ln h hb
  obtain ⟨⟨a1, a2, a3, a4⟩, _, _, _, a5, a6, a7, _⟩ := h
  obtain ⟨s, M, i1, i2⟩ := hst
  obtain ⟨rp, xr, cr, nq, r1, r2, r3, r4, r5, r6⟩ := b2.pm b1 i1
  have i3 : cq_is 1 14 (243 + 9 * hr) (S, G, m) = some () := if_pos b4.1
  have i4 : cq_is 2 8 mp (S, G, m) = some () := if_pos r1.1
  have g6 : cq_gi 11 6 17 64 (S, G, m) = some (hr : Int) := by rw [o_gi (s64 a1), b9]
  obtain ⟨⟨⟨l1, l2⟩, _⟩, _, _, ⟨_, _, l5⟩, _⟩ := b3
  have h16 : s.1.length ≤ 16 := r2.2.2.1.2.1
  have e16 : c16 f mp (S, G, m) = some (((lMo (lns hr)).2.1.length : Int), (S, G, m)) := by
    have := k_16l (f := f) (m := m) h16 (fun p hp => (r5 p hp).2.1) r1 r2 s.1.length 0 f (by omega) (by omega)
    rw [fa_len r4.1 i1.2.2.2.2.1.1.1 i1.2.2.2.2.2.1]
    exact this
  rw [i2]
  unfold c174
  rw [o_gr (y := 220) (s64 a1) (p64_5 a2), Option.bind_some, g6, Option.bind_some, o_ar (s220 a1) (by decide) b8 b6, Option.bind_some, i3, Option.bind_some, b7, Option.bind_some]
  by_cases c : w < 0 ∨ 9 < w
  · rw [if_pos c, if_neg (by omega), if_neg (by omega), if_neg (by omega), if_neg (by omega), if_neg (by omega), if_neg (by omega), if_neg (by omega), if_neg (by omega), if_neg (by omega), if_neg (by omega)]
  · rw [if_neg c]
    rcases (by omega : w = 0 ∨ w = 1 ∨ w = 2 ∨ w = 3 ∨ w = 4 ∨ w = 5 ∨ w = 6 ∨ w = 7 ∨ w = 8 ∨ w = 9) with rfl | rfl | rfl | rfl | rfl | rfl | rfl | rfl | rfl | rfl
    · simp only [Int.reduceEq, reduceIte]
      rw [o_gi b4.1, Option.bind_some, l1]
    · simp only [Int.reduceEq, reduceIte]
      rw [o_gi b4.1, Option.bind_some, l2]
    · simp only [Int.reduceEq, reduceIte]
      rw [o_gr r1.1 r1.2.1, Option.bind_some, o_gi r2.1.1, Option.bind_some, r2.2.2.1.1]
    · simp only [Int.reduceEq, reduceIte]
      rw [o_gr r1.1 r1.2.1, Option.bind_some, o_gi r2.1.1, Option.bind_some, r2.2.2.2.2.2.1.1]
    · simp only [Int.reduceEq, reduceIte]
      rw [o_gi b4.1, Option.bind_some, l5.1]
    · simp only [Int.reduceEq, reduceIte]
      rw [g6, Option.bind_some]
    · simp only [Int.reduceEq, reduceIte]
      rw [i4, Option.bind_some, e16, Option.bind_some]
    · simp only [Int.reduceEq, reduceIte]
      rw [o_gi r1.1, Option.bind_some, b10]
    · simp only [Int.reduceEq, reduceIte]
      rw [o_gi (s64 a1), Option.bind_some, a5]
    · simp only [Int.reduceEq, reduceIte]
      rw [o_gr (y := 65) (s64 a1) (p64_0 a2), Option.bind_some, o_gi (s65 a1), Option.bind_some, a7.1]
/-- place() -/
theorem k_171 (h : cHs S G A (T, lns, hr, tx, kp, mt, pl, rf) n) : c171 f 64 (S, G, m) = some (pl, (S, G, m)) := by
  obtain ⟨⟨a1, a2, a3, a4⟩, _, _, _, a5, a6, a7, _⟩ := h
  unfold c171
  rw [o_gi (s64 a1), Option.bind_some, a6]
/-- met() -/
theorem k_191 {w v t : Int} (h : cHs S G A (T, lns, hr, tx, kp, mt, pl, rf) n) (hst : stMe mt w t v) : (t = 0 ∧ c191 f 64 w (S, G, m) = some (.inr v, (S, G, m))) ∨ (t = 1 ∧ c191 f 64 w (S, G, m) = some (.inl 1, cq_ex (S, G, m))) := by
  obtain ⟨⟨a1, a2, a3, a4⟩, _, _, _, _, _, _, _, ⟨m1, m2, m3, m4⟩⟩ := h
  have h20 : c191_20 f (S, G, m) = some (.inl 1, cq_ex (S, G, m)) := rfl
  have h48 : ∀ v, c191_48 f v (S, G, m) = some (.inr v, (S, G, m)) := fun v => rfl
  have g15 : cq_gi 11 15 17 64 (S, G, m) = some mt.1 := by rw [o_gi (s64 a1), m1]
  have bad : ¬ (mt.1 ≠ -1 ∧ 0 ≤ w ∧ w ≤ mt.2.length) → c191 f 64 w (S, G, m) = some (.inl 1, cq_ex (S, G, m)) → (t = 0 ∧ c191 f 64 w (S, G, m) = some (.inr v, (S, G, m))) ∨ (t = 1 ∧ c191 f 64 w (S, G, m) = some (.inl 1, cq_ex (S, G, m))) := fun hn he => by
    rcases hst with ⟨z, _⟩ | ⟨_, z, _⟩
    · exact absurd z hn
    · exact .inr ⟨z, he⟩
  by_cases c1 : mt.1 = -1
  · refine bad (fun z => z.1 c1) ?_
    unfold c191
    rw [g15, Option.bind_some, if_pos c1, h20]
  · by_cases c2 : w < 0
    · refine bad (fun z => by have := z.2.1; omega) ?_
      unfold c191
      rw [g15, Option.bind_some, if_neg c1, if_pos c2, h20]
    · by_cases c3 : w ≤ (mt.2.length : Int)
      · rcases hst with ⟨z, rfl, rfl⟩ | ⟨z, _⟩
        · refine .inl ⟨rfl, ?_⟩
          unfold c191
          rw [g15, Option.bind_some, if_neg c1, if_neg c2, o_gi (s64 a1), Option.bind_some, m2, if_pos c3]
          by_cases c4 : w = 0
          · rw [if_neg (fun z => z c4), Option.bind_some, h48, if_pos c4]
          · obtain ⟨x, rfl⟩ : ∃ x : Nat, w = ((x + 1 : Nat) : Int) := ⟨(w - 1).toNat, by omega⟩
            have e : xwr (((x + 1 : Nat) : Int) - 1) = (x : Int) := by rw [xwr_g _ (by omega) (by omega)]; omega
            have e2 : (((x + 1 : Nat) : Int) - 1).toNat = x := by omega
            rw [if_pos c4, o_gr (y := 227) (s64 a1) (p64_14 a2), Option.bind_some, e, o_a (s227 a1) (by omega), Option.bind_some, h48, m4 x (by omega), if_neg c4, e2]
        · exact absurd ⟨c1, by omega, c3⟩ z
      · refine bad (fun z => c3 z.2.2) ?_
        unfold c191
        rw [g15, Option.bind_some, if_neg c1, if_neg c2, o_gi (s64 a1), Option.bind_some, m2, if_neg c3, h20]
end
end
section
/-! THE CLASS: past(), pastValue(), sheet() -/
section
variable {f A q mp rp nx nq hr n sl : Nat} {S : Nat → Nat × Nat × Nat} {G : xG_} {m : Nat × Nat} {s : pPg} {xr cr : Nat → Nat} {M M' : Nat → List pRw} {T : List (List Int)} {P : Nat → Nat} {mo : sMo} {lns : Nat → sLn} {tx : List Int} {kp : Nat × List (List Int)} {mt : Int × List Int} {pl rf : Int}
theorem hs_rd (h : cHs S G A (T, lns, hr, tx, kp, mt, pl, rf) n) : ∃ (P : Nat → Nat) (mp : Nat → Nat), cEd T S G A P ∧ (G (243 + 9 * hr) 1 = (((lns hr).2.1.1 + (lns hr).2.1.2.1 : Nat) : Int) ∧ G (243 + 9 * hr) 2 = ((lns hr).2.1.1 : Int)) ∧ (∀ r, (lns hr).2.1.1 ≤ r → r ≤ (lns hr).2.1.1 + (lns hr).2.1.2.1 → G (243 + 9 * hr + 1) r = (mp r : Int) ∧ cMo T S G A P (mp r) ((lns hr).1 r)) ∧ lnSt S (243 + 9 * hr) ∧ lnPt G (243 + 9 * hr) ∧ G 220 hr = ((243 + 9 * hr : Nat) : Int) ∧ hr < 4 ∧ G 64 6 = (hr : Int) := by
  obtain ⟨⟨a1, a2, a3, a4⟩, ⟨P, b1, b2, b3⟩, ⟨c1, c2⟩, _⟩ := h
  obtain ⟨⟨⟨l1, l2⟩, mp, l3, l4⟩, _⟩ := b2 hr c1
  exact ⟨P, mp, b1, ⟨l1, l2⟩, fun r r1 r2 => ⟨(l3 r r1 r2).1, (l3 r r1 r2).2.1⟩, lnSt_of a1 c1, lnPt_of a2 c1, p_ln a2 c1, c1, c2⟩
/-- past() -/
theorem k_184 {r p v : Int} (h : cHs S G A (T, lns, hr, tx, kp, mt, pl, rf) n) (hb : (lns hr).2.1.1 + (lns hr).2.1.2.1 < 520) (hst : stPa T (lns hr) r p v) : c184 f 64 r p (S, G, m) = some (v, (S, G, m)) := by
  obtain ⟨P, mp, b1, ⟨l1, l2⟩, b3, b4, b5, b6, b8, b9⟩ := hs_rd h
  obtain ⟨⟨a1, a2, a3, a4⟩, _⟩ := h
  have i3 : cq_is 1 14 (243 + 9 * hr) (S, G, m) = some () := if_pos b4.1
  have g6 : cq_gi 11 6 17 64 (S, G, m) = some (hr : Int) := by rw [o_gi (s64 a1), b9]
  have h38 : c184_38 f (S, G, m) = some (-1, (S, G, m)) := rfl
  unfold c184
  rw [o_gr (y := 220) (s64 a1) (p64_5 a2), Option.bind_some, g6, Option.bind_some, o_ar (s220 a1) (by decide) b8 b6, Option.bind_some, i3, Option.bind_some, k_6 b4.1 l1 l2, Option.bind_some]
  rcases hst with ⟨i, s, M, i1, rfl, i2, i4⟩ | ⟨i1, rfl⟩
  · rw [if_neg (show ¬ (if (((lns hr).2.1.1 : Int) ≤ (((lns hr).2.1.1 + i : Nat) : Int) ∧ (((lns hr).2.1.1 + i : Nat) : Int) ≤ (((lns hr).2.1.1 + (lns hr).2.1.2.1 : Nat) : Int)) then (1 : Int) else 0) = 0 by rw [if_pos (by omega)]; decide)]
    obtain ⟨m1, m2⟩ := b3 _ (Nat.le_add_right _ i) (Nat.add_le_add_left i1 _)
    obtain ⟨rp, xr, cr, nq, r1, r2, r3, r4, r5, r6⟩ := m2.pm b1 i2
    by_cases c1 : p < 0
    · rw [if_pos c1, h38]
      rcases i4 with z | z
      · omega
      · rw [z.2]
    · rw [if_neg c1, o_gr b4.1 b5.1, Option.bind_some, o_ar b4.2.1 (by decide) (by omega) m1, Option.bind_some, o_gr r1.1 r1.2.1, Option.bind_some, o_gi r2.1.1, Option.bind_some, r2.2.2.1.1]
      by_cases c2 : p < (s.1.length : Int)
      · rcases i4 with z | z
        · obtain ⟨x, rfl⟩ : ∃ x : Nat, p = (x : Int) := ⟨p.toNat, by omega⟩
          have hx : x < s.1.length := by omega
          obtain ⟨w1, w2, w3⟩ := r1.2.2.2.2 x hx
          rw [if_pos c2, Option.bind_some, o_ar b4.2.1 (by decide) (by omega) m1, Option.bind_some, o_gr r1.1 r1.2.2.1, Option.bind_some, o_ar r1.2.2.2.1 (by decide) hx w1, Option.bind_some, o_gi w3.1, Option.bind_some, w3.2.2.2.1.2.1, z.2.2, Int.toNat_natCast]
        · exact absurd ⟨by omega, c2⟩ z.1
      · rw [if_neg c2, h38]
        rcases i4 with z | z
        · omega
        · rw [z.2]
  · rw [if_pos (show (if (((lns hr).2.1.1 : Int) ≤ r ∧ r ≤ (((lns hr).2.1.1 + (lns hr).2.1.2.1 : Nat) : Int)) then (1 : Int) else 0) = 0 by rw [if_neg i1]), h38]
/-- pastValue() -/
theorem k_185 {r p i col v t : Int} (h : cHs S G A (T, lns, hr, tx, kp, mt, pl, rf) n) (hb : (lns hr).2.1.1 + (lns hr).2.1.2.1 < 520) (hsm : ∀ r, (lns hr).2.1.1 ≤ r → r ≤ (lns hr).2.1.1 + (lns hr).2.1.2.1 → ∃ s M, isMo T ((lns hr).1 r) s M) (hst : stPv T (lns hr) r p i col t v) : (t = 0 ∧ c185 f 64 r p i col (S, G, m) = some (.inr v, (S, G, m))) ∨ (t = 1 ∧ c185 f 64 r p i col (S, G, m) = some (.inl 1, cq_ex (S, G, m))) := by
  obtain ⟨P, mp, b1, ⟨l1, l2⟩, b3, b4, b5, b6, b8, b9⟩ := hs_rd h
  obtain ⟨⟨a1, a2, a3, a4⟩, _⟩ := h
  have i3 : cq_is 1 14 (243 + 9 * hr) (S, G, m) = some () := if_pos b4.1
  have g6 : cq_gi 11 6 17 64 (S, G, m) = some (hr : Int) := by rw [o_gi (s64 a1), b9]
  have h37 : c185_37 f (S, G, m) = some (.inl 1, cq_ex (S, G, m)) := rfl
  unfold c185
  rw [o_gr (y := 220) (s64 a1) (p64_5 a2), Option.bind_some, g6, Option.bind_some, o_ar (s220 a1) (by decide) b8 b6, Option.bind_some, i3, Option.bind_some, k_6 b4.1 l1 l2, Option.bind_some]
  by_cases c : ((lns hr).2.1.1 : Int) ≤ r ∧ r ≤ (((lns hr).2.1.1 + (lns hr).2.1.2.1 : Nat) : Int)
  · obtain ⟨x, rfl⟩ : ∃ x : Nat, r = (((lns hr).2.1.1 + x : Nat) : Int) := ⟨(r - (lns hr).2.1.1).toNat, by omega⟩
    have hx : x ≤ (lns hr).2.1.2.1 := by omega
    obtain ⟨m1, m2⟩ := b3 _ (Nat.le_add_right _ x) (Nat.add_le_add_left hx _)
    obtain ⟨s, M, iM⟩ := hsm _ (Nat.le_add_right _ x) (Nat.add_le_add_left hx _)
    obtain ⟨rp, xr, cr, nq, r1, r2, r3, r4, r5, r6⟩ := m2.pm b1 iM
    have i4 : cq_is 2 8 (mp ((lns hr).2.1.1 + x)) (S, G, m) = some () := if_pos r1.1
    rw [if_neg (show ¬ (if (((lns hr).2.1.1 : Int) ≤ (((lns hr).2.1.1 + x : Nat) : Int) ∧ (((lns hr).2.1.1 + x : Nat) : Int) ≤ (((lns hr).2.1.1 + (lns hr).2.1.2.1 : Nat) : Int)) then (1 : Int) else 0) = 0 by rw [if_pos c]; decide), o_gr b4.1 b5.1, Option.bind_some, o_ar b4.2.1 (by decide) (by omega) m1, Option.bind_some, i4, Option.bind_some, k_15 r4.1 r1 r2, Option.bind_some]
    by_cases cc : (((0 ≤ p ∧ p < s.1.length) ∧ 0 ≤ i ∧ i < (M p.toNat).length) ∧ 0 ≤ col ∧ col < qN s p.toNat)
    · rw [if_pos (show ¬ (if (((0 ≤ p ∧ p < s.1.length) ∧ 0 ≤ i ∧ i < (M p.toNat).length) ∧ 0 ≤ col ∧ col < qN s p.toNat) then (1 : Int) else 0) = 0 by rw [if_pos cc]; decide)]
      rcases hst with ⟨x', s', M', k1, k2, k3, k4, k5, k6, rfl, rfl⟩ | ⟨k1, _⟩
      · left
        have e : x' = x := by omega
        subst e
        obtain ⟨e1, e2⟩ := isMo_u iM k3
        subst e1
        obtain ⟨a, rfl⟩ : ∃ a : Nat, p = (a : Int) := ⟨p.toNat, by omega⟩
        obtain ⟨y, rfl⟩ : ∃ y : Nat, i = (y : Int) := ⟨i.toNat, by omega⟩
        obtain ⟨z, rfl⟩ : ∃ z : Nat, col = (z : Int) := ⟨col.toNat, by omega⟩
        rw [Int.toNat_natCast] at cc
        have ha : a < s.1.length := by omega
        obtain ⟨w1, w2, w3⟩ := r1.2.2.2.2 a ha
        have i5 : cq_is 5 4 (xr a) (S, G, m) = some () := if_pos w3.1
        rw [o_gr b4.1 b5.1, Option.bind_some, o_ar b4.2.1 (by decide) (by omega) m1, Option.bind_some, o_gr r1.1 r1.2.2.1, Option.bind_some, o_ar r1.2.2.2.1 (by decide) ha w1, Option.bind_some, i5, Option.bind_some, k_70 w3 (by omega) (by omega), Option.bind_some, Int.toNat_natCast, Int.toNat_natCast, Int.toNat_natCast, e2 a ha]
        exact ⟨rfl, rfl⟩
      · exact absurd ⟨cc.1.1, cc.1.2, cc.2⟩ (k1 x s M hx rfl iM)
    · rw [if_neg (show ¬ ¬ (if (((0 ≤ p ∧ p < s.1.length) ∧ 0 ≤ i ∧ i < (M p.toNat).length) ∧ 0 ≤ col ∧ col < qN s p.toNat) then (1 : Int) else 0) = 0 by rw [if_neg cc]; decide), h37]
      rcases hst with ⟨x', s', M', k1, k2, k3, k4, k5, k6, _⟩ | ⟨_, k1, _⟩
      · have e : x' = x := by omega
        subst e
        obtain ⟨e1, e2⟩ := isMo_u iM k3
        subst e1
        exact absurd ⟨⟨k4, by rw [e2 _ (by omega)]; exact k5⟩, k6⟩ cc
      · exact .inr ⟨k1, rfl⟩
  · rw [if_pos (show (if (((lns hr).2.1.1 : Int) ≤ r ∧ r ≤ (((lns hr).2.1.1 + (lns hr).2.1.2.1 : Nat) : Int)) then (1 : Int) else 0) = 0 by rw [if_neg c]), h37]
    rcases hst with ⟨x', s', M', k1, k2, _⟩ | ⟨_, k1, _⟩
    · exact absurd (by omega) c
    · exact .inr ⟨k1, rfl⟩
/-- sheet() -/
theorem k_183 {a b w v t : Int} (h : cHs S G A (T, lns, hr, tx, kp, mt, pl, rf) n) (hb : (lns hr).2.1.1 + (lns hr).2.1.2.1 < 520) (hst : stSh T (lns hr) a b w t v) (hoX : okX (xOf T (lMo (lns hr)).2.2.1)) : (t = 0 ∧ c183 f 64 a b w (S, G, m) = some (.inr v, (S, G, m))) ∨ (t = 1 ∧ c183 f 64 a b w (S, G, m) = some (.inl 1, cq_ex (S, G, m))) := by
  obtain ⟨P, mp, b1, b2, b3, b4, b5, b6, b7, b8, b9, b10⟩ := hs_ln h hb
  obtain ⟨⟨a1, a2, a3, a4⟩, _⟩ := h
  obtain ⟨s, M, i1, i2⟩ := hst
  obtain ⟨s', M', rp, xr, cr, tp, ac, to, n1, n2, n3, _, ⟨n4, n5, n6⟩, _⟩ := b2
  obtain ⟨e1, e2⟩ := isMo_u n1 i1
  subst e1
  have eM : fSh (xOf T (lMo (lns hr)).2.2.1) s' M' = fSh (xOf T (lMo (lns hr)).2.2.1) s' M := fSh_v n1.2.2.1.1.2.1 (fun p hp => by rw [e2 p hp]) _
  have hC : okC (fSh (xOf T (lMo (lns hr)).2.2.1) s' M') := fSh_ok hoX (fun p hp => (n2 p hp).2.2.1) (fun p hp => Nat.le_trans (n2 p hp).2.1 (by decide))
  rw [← eM] at i2
  have h20 : c183_20 f (S, G, m) = some (.inl 1, cq_ex (S, G, m)) := rfl
  have bad : ¬ (0 ≤ a ∧ a < 6 ∧ 0 ≤ b ∧ b ≤ 11) → c183 f 64 a b w (S, G, m) = some (.inl 1, cq_ex (S, G, m)) → (t = 0 ∧ c183 f 64 a b w (S, G, m) = some (.inr v, (S, G, m))) ∨ (t = 1 ∧ c183 f 64 a b w (S, G, m) = some (.inl 1, cq_ex (S, G, m))) := fun hn he => by
    rcases i2 with ⟨z, _⟩ | ⟨_, z, _⟩
    · exact absurd z hn
    · exact .inr ⟨z, he⟩
  by_cases c1 : a < 0
  · exact bad (by omega) (by unfold c183; rw [if_pos c1, h20])
  by_cases c2 : 6 ≤ a
  · exact bad (by omega) (by unfold c183; rw [if_neg c1, if_pos c2, h20])
  by_cases c3 : b < 0
  · exact bad (by omega) (by unfold c183; rw [if_neg c1, if_neg c2, if_pos c3, h20])
  by_cases c4 : b < 12
  · rcases i2 with ⟨z, rfl, rfl⟩ | ⟨z, _⟩
    · left
      refine ⟨rfl, ?_⟩
      obtain ⟨x, hx⟩ : ∃ x : Nat, a + 6 * b = (x : Int) := ⟨(a + 6 * b).toNat, by omega⟩
      have hx72 : x < 72 := by omega
      have ex : xwr (a + xwr (6 * b)) = (x : Int) := by rw [xwr_g (6 * b) (by omega) (by omega), xwr_g _ (by omega) (by omega)]; exact hx
      have i3 : cq_is 1 14 (243 + 9 * hr) (S, G, m) = some () := if_pos b4.1
      have g6 : cq_gi 11 6 17 64 (S, G, m) = some (hr : Int) := by rw [o_gi (s64 a1), b9]
      rw [hx, Int.toNat_natCast]
      unfold c183
      rw [if_neg c1, if_neg c2, if_neg c3, if_pos c4, o_gr (y := 220) (s64 a1) (p64_5 a2), Option.bind_some, g6, Option.bind_some, o_ar (s220 a1) (by decide) b8 b6, Option.bind_some, i3, Option.bind_some, b7, Option.bind_some, o_gr n3.1 n4, Option.bind_some, ex, o_a n5 hx72, Option.bind_some, n6 x hx72]
      obtain ⟨C, eC'⟩ : ∃ C, C = fSh (xOf T (lMo (lns hr)).2.2.1) s' M' x := ⟨_, rfl⟩
      have hCx := hC x hx72
      rw [← eC'] at hCx ⊢
      have h125 : ∀ y, c183_125 f y (S, G, m) = some (.inr y, (S, G, m)) := fun y => rfl
      have h155 : ∀ y, c183_155 f y (S, G, m) = some (.inr y, (S, G, m)) := fun y => rfl
      have key : ∀ (y0 x5 v1 v2 : Int), (v1 = if x5 = 9000000000000000000 then 0 else if y0 = 0 then 1 else 2) → (v2 = if x5 = 9000000000000000000 then 0 else if y0 = 0 then x5 else xwl (x5 - -9000000000000000000)) → c183_70 f 64 w (x : Int) x5 y0 (S, G, m) = some (.inr (if w = 0 then v1 else if w = 1 then v2 else if w = 2 then (lns hr).2.2.1.2.1 x else -1), (S, G, m)) := fun y0 x5 v1 v2 e1 e2 => by
        unfold c183_70
        by_cases w1 : w < 0 ∨ 2 < w
        · rw [if_pos w1, if_neg (by omega), if_neg (by omega), if_neg (by omega)]
        · rw [if_neg w1]
          rcases (by omega : w = 0 ∨ w = 1 ∨ w = 2) with rfl | rfl | rfl
          · simp only [Int.reduceEq, reduceIte]
            rw [e1]
            by_cases d1 : x5 = 9000000000000000000
            · rw [if_neg (fun z => z d1), if_pos d1, h125]
            · rw [if_pos d1, if_neg d1]
              by_cases d2 : y0 = 0
              · rw [if_pos d2, if_pos d2, h125]
              · rw [if_neg d2, if_neg d2, h125]
          · simp only [Int.reduceEq, reduceIte]
            rw [e2]
            by_cases d1 : x5 = 9000000000000000000
            · rw [if_neg (fun z => z d1), if_pos d1, h155]
            · rw [if_pos d1, if_neg d1]
              by_cases d2 : y0 = 0
              · rw [if_pos d2, if_pos d2, h155]
              · rw [if_neg d2, if_neg d2, h155]
          · simp only [Int.reduceEq, reduceIte]
            rw [o_gr (y := 220) (s64 a1) (p64_5 a2), Option.bind_some, g6, Option.bind_some, o_ar (s220 a1) (by decide) b8 b6, Option.bind_some, o_gr b4.1 b5.2.2.1, Option.bind_some, o_a b4.2.2.2.1 hx72, Option.bind_some, b3.2.1.2 x hx72]
      unfold eC
      rcases hCx with ⟨q1, q2⟩ | ⟨q1, q2⟩ | ⟨q1, q2, q3⟩
      · rw [if_pos q1, if_pos (by decide)]
        exact key _ _ _ _ (by rw [if_pos rfl]; exact q1) (by rw [if_pos rfl]; exact q2)
      · have : -1000000000000 ≤ C.2 ∧ C.2 < 9000000000000000000 := by unfold vOk at q2; omega
        rw [if_neg (show ¬ C.1 = 0 by omega), if_pos q1, if_pos this.1]
        exact key _ _ _ _ (by rw [if_neg (by omega), if_pos rfl]; exact q1) (by rw [if_neg (by omega), if_pos rfl])
      · rw [if_neg (show ¬ C.1 = 0 by omega), if_neg (show ¬ C.1 = 1 by omega), if_neg (show ¬ (-1000000000000 : Int) ≤ -9000000000000000000 + C.2 by omega)]
        refine key _ _ _ _ (by rw [if_neg (by omega), if_neg (by decide)]; exact q1) ?_
        rw [if_neg (by omega), if_neg (by decide), xwl_g _ (by omega) (by omega)]
        omega
    · exact absurd ⟨by omega, by omega, by omega, by omega⟩ z
  · exact bad (by omega) (by unfold c183; rw [if_neg c1, if_neg c2, if_neg c3, if_neg c4, h20])
end
end
section
/-! THE CLASS: feed(), end() -/
theorem fd_bv (x : BitVec 32) {s : Nat} (hs : s ≤ 24) : (x >>> s) &&& 255#32 = (x.sshiftRight s) &&& 255#32 := by
  apply BitVec.eq_of_getLsbD_eq
  intro i hi
  have h255 : ∀ i, i < 32 → (255#32).getLsbD i = decide (i < 8) := by decide
  rw [BitVec.getLsbD_and, BitVec.getLsbD_and, h255 i hi]
  by_cases c : i < 8
  · rw [decide_eq_true c, Bool.and_true, Bool.and_true, BitVec.getLsbD_ushiftRight, BitVec.getLsbD_sshiftRight]
    rw [if_pos (show s + i < 32 by omega)]
    have : decide (32 ≤ i) = false := decide_eq_false (by omega)
    rw [this]
    rfl
  · rw [decide_eq_false c, Bool.and_false, Bool.and_false]
theorem fd_in (x : Int) : Int32.ofInt (Int32.toInt (Int32.ofInt x)) = Int32.ofInt x := Int32.ofInt_toInt _
theorem fd_us (w : Int) : xand (xush w 24) 255 = fdB w 24 ∧ xand (xush w 16) 255 = fdB w 16 ∧ xand (xush w 8) 255 = fdB w 8 ∧ xand (xush w 0) 255 = fdB w 0 := by
  have e : ∀ (s : Nat) (x y : Int32), s ≤ 24 → x.toBitVec = (Int32.ofInt w).toBitVec >>> s → y.toBitVec = (Int32.ofInt w).toBitVec.sshiftRight s → xand x.toInt 255 = xand y.toInt 255 := fun s x y hs hx hy => by
    unfold xand
    rw [Int32.ofInt_toInt, Int32.ofInt_toInt]
    show (x.toBitVec &&& 255#32).toInt = (y.toBitVec &&& 255#32).toInt
    rw [hx, hy, fd_bv _ hs]
  exact ⟨e 24 _ _ (by decide) rfl rfl, e 16 _ _ (by decide) rfl rfl, e 8 _ _ (by decide) rfl rfl, e 0 _ _ (by decide) rfl rfl⟩
theorem fd_ch_t : ∀ b : Fin 256, xnar .char (xi2ch ((b.val : Nat) : Int)) = ((b.val : Nat) : Int) := by decide +kernel
theorem fd_ch {b : Int} (h : 0 ≤ b ∧ b ≤ 255) : xnar .char (xi2ch b) = b := by
  have := fd_ch_t ⟨b.toNat, by omega⟩
  have e : ((b.toNat : Nat) : Int) = b := by omega
  rw [show ((⟨b.toNat, by omega⟩ : Fin 256).val) = b.toNat from rfl, e] at this
  exact this
theorem fd_tx {G : xG_} {t : List Int} {b : Int} {G' : xG_} (h : cTx G (tBt t) t.length) (hl : t.length < 3000) (hb : 0 ≤ b ∧ b ≤ 255) (h1 : G' 65 1 = ((t.length + 1 : Nat) : Int)) (h2 : G' 66 t.length = b) (h3 : ∀ p, p ≠ t.length → G' 66 p = G 66 p) : cTx G' (tBt (t ++ [b])) (t ++ [b]).length := by
  have e : (t ++ [b]).length = t.length + 1 := by rw [List.length_append]; rfl
  have e2 : ∀ p, p < t.length → tBt (t ++ [b]) p = tBt t p := fun p hp => by
    unfold tBt
    rw [if_pos (by omega), if_pos hp, getD_app _ hp]
  have e3 : tBt (t ++ [b]) t.length = b := by
    unfold tBt
    rw [if_pos (by omega), getD_e (by omega), List.getElem_append_right (Nat.le_refl _)]
    simp
  obtain ⟨a1, a2, a3, a4⟩ := h
  refine ⟨by rw [e]; exact h1, by omega, fun p => ⟨fun hp => ?_, fun hp => ?_⟩, fun p hp => ?_⟩
  · rcases (by omega : p < t.length ∨ p = t.length) with z | rfl
    · rw [e2 p z]; exact (a3 p).1 z
    · rw [e3]; exact hb
  · unfold tBt
    rw [if_neg (by omega)]
  · rcases (by omega : p < t.length ∨ p = t.length) with z | rfl
    · rw [e2 p z, h3 p (by omega)]; exact a4 p z
    · rw [e3]; exact h2
section
variable {f A hr n sl : Nat} {S : Nat → Nat × Nat × Nat} {G : xG_} {m : Nat × Nat} {T : List (List Int)} {lns : Nat → sLn} {tx : List Int} {kp : Nat × List (List Int)} {mt : Int × List Int} {pl rf : Int}
theorem st_fd {r3 : Nat → Int → Int → xT_ → Option xT_} {w sh : Int} {l : Nat} (hs : cSs S) (hp : cPs G) (h0 : 0 ≤ sh) (hl : G 65 1 = (l : Int)) (hl3 : l < 3000) : c111_3b r3 f 65 w sh (S, G, m) = r3 65 w (xwr (sh + -8)) (S, xup2 (xup2 G 66 l (xnar .char (xi2ch (xand (xush w sh) 255)))) 65 1 ((l + 1 : Nat) : Int), m) := by
  have e1 : cq_s 2 66 (l : Int) (xnar .char (xi2ch (xand (xush w sh) 255))) (S, G, m) = some (S, xup2 G 66 l (xnar .char (xi2ch (xand (xush w sh) 255))), m) := by
    unfold cq_s
    simp only [s66 hs]
    rw [if_pos ⟨trivial, trivial, by omega, by omega⟩, Int.toNat_natCast]
  have e2 : xup2 G 66 l (xnar .char (xi2ch (xand (xush w sh) 255))) 65 1 = (l : Int) := by rw [xup2_n (by omega)]; exact hl
  unfold c111_3b c111_44
  rw [if_neg (by omega), o_gi (s65 hs), Option.bind_some, hl, if_neg (by omega), o_gr (y := 66) (s65 hs) (p65_0 hp), Option.bind_some, Option.bind_some, e1, Option.bind_some, o_gi (s65 hs), Option.bind_some, e2, xwr_g _ (by omega) (by omega), o_p (s65 hs), Option.bind_some]
  rfl
theorem st_fd' {r3 : Nat → Int → Int → xT_ → Option xT_} {w sh : Int} {t : List Int} (hs : cSs S) (hp : cPs G) (h0 : 0 ≤ sh) (h : cTx G (tBt t) t.length) (hl : t.length < 3000) (hb : xand (xush w sh) 255 = fdB w sh) : ∃ G', c111_3b r3 f 65 w sh (S, G, m) = r3 65 w (xwr (sh + -8)) (S, G', m) ∧ cTx G' (tBt (t ++ [fdB w sh])) (t ++ [fdB w sh]).length ∧ cPs G' ∧ ∀ a j, ¬ (a = 65 ∧ j = 1) → a ≠ 66 → G' a j = G a j := by
  have b := xand_255 (xush w sh)
  have z : ∀ a j, ¬ (a = 65 ∧ j = 1) → a ≠ 66 → xup2 (xup2 G 66 t.length (xnar .char (xi2ch (xand (xush w sh) 255)))) 65 1 ((t.length + 1 : Nat) : Int) a j = G a j := fun a j y1 y2 => by rw [xup2_n y1, xup2_n (by omega)]
  refine ⟨_, st_fd hs hp h0 h.1 hl, ?_, hp.ge (fun a j hz => z a j (by
    rcases hz with z | z | z | z | z | z | z | ⟨z, z1, z2, k, z3⟩ | z | z | z | ⟨k, z1, z2, z3⟩ <;> omega) (by
    rcases hz with z | z | z | z | z | z | z | ⟨z, z1, z2, k, z3⟩ | z | z | z | ⟨k, z1, z2, z3⟩ <;> omega)), z⟩
  refine fd_tx h hl (by rw [← hb]; exact b) (xup2_s _ _ _ _) ?_ (fun p hq => by rw [xup2_n (by omega), xup2_n (by omega)])
  rw [xup2_n (by omega), xup2_s, fd_ch b, hb]
theorem k_111 {w : Int} {t : List Int} (hf : 10 < f) (hs : cSs S) (hp : cPs G) (h : cTx G (tBt t) t.length) (hl : t.length + 4 ≤ 3000) : ∃ G', c111 f 65 w (S, G, m) = some (S, G', m) ∧ cTx G' (tBt (t ++ [fdB w 24, fdB w 16, fdB w 8, fdB w 0])) (t ++ [fdB w 24, fdB w 16, fdB w 8, fdB w 0]).length ∧ cPs G' ∧ ∀ a j, ¬ (a = 65 ∧ j = 1) → a ≠ 66 → G' a j = G a j := by
  obtain ⟨f, rfl⟩ : ∃ t, f = t + 5 := ⟨f - 5, by omega⟩
  obtain ⟨u1, u2, u3, u4⟩ := fd_us w
  obtain ⟨G1, a1, a2, a3, a4⟩ := st_fd' (f := f + 5) (r3 := c111_3 (f + 5) (f + 4)) (m := m) hs hp (by decide) h (by omega) u1
  obtain ⟨G2, b1, b2, b3, b4⟩ := st_fd' (f := f + 5) (r3 := c111_3 (f + 5) (f + 3)) (m := m) hs a3 (by decide) a2 (by rw [List.length_append, List.length_singleton]; omega) u2
  obtain ⟨G3, d1, d2, d3, d4⟩ := st_fd' (f := f + 5) (r3 := c111_3 (f + 5) (f + 2)) (m := m) hs b3 (by decide) b2 (by rw [List.length_append, List.length_append, List.length_singleton, List.length_singleton]; omega) u3
  obtain ⟨G4, e1, e2, e3, e4⟩ := st_fd' (f := f + 5) (r3 := c111_3 (f + 5) (f + 1)) (m := m) hs d3 (by decide) d2 (by rw [List.length_append, List.length_append, List.length_append, List.length_singleton, List.length_singleton, List.length_singleton]; omega) u4
  have w1 : xwr (24 + -8) = 16 := by decide +kernel
  have w2 : xwr (16 + -8) = 8 := by decide +kernel
  have w3 : xwr (8 + -8) = 0 := by decide +kernel
  have w4 : xwr (0 + -8) = -8 := by decide +kernel
  rw [w1] at a1
  rw [w2] at b1
  rw [w3] at d1
  rw [w4] at e1
  refine ⟨G4, ?_, ?_, e3, fun a j y1 y2 => by rw [e4 a j y1 y2, d4 a j y1 y2, b4 a j y1 y2, a4 a j y1 y2]⟩
  · show c111_3b (c111_3 (f + 5) (f + 4)) (f + 5) 65 w 24 (S, G, m) = _
    rw [a1]
    show c111_3b (c111_3 (f + 5) (f + 3)) (f + 5) 65 w 16 (S, G1, m) = _
    rw [b1]
    show c111_3b (c111_3 (f + 5) (f + 2)) (f + 5) 65 w 8 (S, G2, m) = _
    rw [d1]
    show c111_3b (c111_3 (f + 5) (f + 1)) (f + 5) 65 w 0 (S, G3, m) = _
    rw [e1]
    show c111_3b (c111_3 (f + 5) f) (f + 5) 65 w (-8) (S, G4, m) = _
    unfold c111_3b
    rw [if_pos (by decide)]
  · rw [List.append_assoc, List.append_assoc, List.append_assoc] at e2
    exact e2
/-- the tape alone has changed -/
theorem cHs.tp {tx' : List Int} {G' : xG_} {n' : Nat} (h : cHs S G A (T, lns, hr, tx, kp, mt, pl, rf) n) (hn : n ≤ n') (hp : cPs G') (ht : cTx G' (tBt tx') tx'.length) (hG : ∀ a j, ¬ (a = 65 ∧ j = 1) → a ≠ 66 → G' a j = G a j) : cHs S G' A (T, lns, hr, tx', kp, mt, pl, rf) n' := by
  obtain ⟨⟨a1, a2, a3, a4⟩, ⟨P, b1, b2, b3⟩, ⟨c1, c2⟩, ⟨c3, c4⟩, c5, c6, c7, c8, c9⟩ := h
  have g : ∀ a j, a = 64 ∨ 66 < a → G' a j = G a j := fun a j y => hG a j (by omega) (by omega)
  have sf : xSf A G G' := fun a j y1 y2 => g a j (by omega)
  refine ⟨⟨a1, hp, a3.ge (fun a j y1 y2 => g a j (by omega)), a4⟩, ⟨P, b1.ge (Nat.le_refl _) (fun _ _ => rfl) sf (by rw [g _ _ (by omega)]; exact Int.le_refl _), fun y hy => (b2 y hy).ge (Nat.le_refl _) (fun _ _ => rfl) sf (fun a j y1 y2 => g a j (by omega)), b3.ge (Nat.le_refl _) (fun _ _ => rfl) sf ⟨g _ _ (by omega), g _ _ (by omega)⟩⟩, ⟨c1, by rw [g _ _ (by omega)]; exact c2⟩, ⟨by rw [g _ _ (by omega)]; exact c3, by rw [g _ _ (by omega)]; omega⟩, by rw [g _ _ (by omega)]; exact c5, by rw [g _ _ (by omega)]; exact c6, ht, c8.ge (fun _ _ => rfl) (fun a j y1 y2 => g a j (by omega)) ⟨g _ _ (by omega), g _ _ (by omega)⟩, c9.ge ⟨g _ _ (by omega), g _ _ (by omega)⟩ (fun j => g _ _ (by omega))⟩
/-- feed() -/
theorem k_169f {a b c d e v : Int} {tx' : List Int} (hf : 10 < f) (h : cHs S G A (T, lns, hr, tx, kp, mt, pl, rf) n) (hst : stFe tx a b c d e v tx') : ∃ G', c169 f 64 a b c d e (S, G, m) = some (v, (S, G', m)) ∧ cHs S G' A (T, lns, hr, tx', kp, mt, pl, rf) (n + 1) := by
  have hh := h
  obtain ⟨⟨hs, hp, _, _⟩, _, _, _, _, _, ht, _⟩ := h
  have g0 : ∀ {G' : xG_}, cPs G' → cq_gr 11 0 17 64 (S, G', m) = some 65 := fun {G'} hp' => o_gr (y := 65) (s64 hs) (p64_0 hp')
  have i1 : ∀ G' : xG_, cq_is 8 8 65 (S, G', m) = some () := fun G' => if_pos (s65 hs)
  have hl := ht.2.1
  have w : xwr ((tx.length : Int) + 20) = ((tx.length + 20 : Nat) : Int) := by rw [xwr_g _ (by omega) (by omega)]; omega
  have g1 : cq_gi 8 1 8 65 (S, G, m) = some (tx.length : Int) := by rw [o_gi (s65 hs), ht.1]
  rcases hst with ⟨h1, rfl, rfl⟩ | ⟨h1, rfl, rfl⟩
  · have len4 : ∀ (t : List Int) (x1 x2 x3 x4 : Int), (t ++ [x1, x2, x3, x4]).length = t.length + 4 := fun t x1 x2 x3 x4 => by rw [List.length_append]; rfl
    obtain ⟨G1, p1, p2, p3, p4⟩ := k_111 (w := a) (m := m) hf hs hp ht (by omega)
    obtain ⟨G2, q1, q2, q3, q4⟩ := k_111 (w := b) (m := m) hf hs p3 p2 (by rw [len4]; omega)
    obtain ⟨G3, r1, r2, r3, r4⟩ := k_111 (w := c) (m := m) hf hs q3 q2 (by rw [len4, len4]; omega)
    obtain ⟨G4, s1, s2, s3, s4⟩ := k_111 (w := d) (m := m) hf hs r3 r2 (by rw [len4, len4, len4]; omega)
    obtain ⟨G5, t1, t2, t3, t4⟩ := k_111 (w := e) (m := m) hf hs s3 s2 (by rw [len4, len4, len4, len4]; omega)
    refine ⟨G5, ?_, hh.tp (Nat.le_succ n) t3 ?_ (fun a j y1 y2 => by rw [t4 a j y1 y2, s4 a j y1 y2, r4 a j y1 y2, q4 a j y1 y2, p4 a j y1 y2])⟩
    · unfold c169
      rw [g0 hp, Option.bind_some, g1, Option.bind_some, w, if_pos (by omega), Option.bind_some, i1, Option.bind_some, p1, Option.bind_some, g0 p3, Option.bind_some, i1, Option.bind_some, q1, Option.bind_some, g0 q3, Option.bind_some, i1, Option.bind_some, r1, Option.bind_some, g0 r3, Option.bind_some, i1, Option.bind_some, s1, Option.bind_some, g0 s3, Option.bind_some, i1, Option.bind_some, t1, Option.bind_some]
    · rw [List.append_assoc, List.append_assoc, List.append_assoc, List.append_assoc] at t2
      exact t2
  · refine ⟨G, ?_, hh.tp (Nat.le_succ n) hp ht (fun _ _ _ _ => rfl)⟩
    unfold c169
    rw [g0 hp, Option.bind_some, g1, Option.bind_some, w, if_neg (by omega)]
/-- end() -/
theorem k_170 {k v : Int} {tx' : List Int} (h : cHs S G A (T, lns, hr, tx, kp, mt, pl, rf) n) (hst : stEn tx k v tx') : ∃ G', c170 f 64 k (S, G, m) = some (v, (S, G', m)) ∧ cHs S G' A (T, lns, hr, tx', kp, mt, pl, rf) (n + 1) := by
  have hh := h
  obtain ⟨⟨hs, hp, _, _⟩, _, _, _, _, _, ht, _⟩ := h
  have g0 : ∀ {G' : xG_}, cPs G' → cq_gr 11 0 17 64 (S, G', m) = some 65 := fun {G'} hp' => o_gr (y := 65) (s64 hs) (p64_0 hp')
  have g1 : cq_gi 8 1 8 65 (S, G, m) = some (tx.length : Int) := by rw [o_gi (s65 hs), ht.1]
  rcases hst with ⟨h1, rfl, rfl⟩ | ⟨h1, rfl, rfl⟩
  · have z : ∀ a j, ¬ (a = 65 ∧ j = 1) → a ≠ 66 → xup2 G 65 1 k a j = G a j := fun a j y1 y2 => xup2_n y1
    have hp1 : cPs (xup2 G 65 1 k) := hp.ge (fun a j hz => z a j (by
      rcases hz with z | z | z | z | z | z | z | ⟨z, z1, z2, k, z3⟩ | z | z | z | ⟨k, z1, z2, z3⟩ <;> omega) (by
      rcases hz with z | z | z | z | z | z | z | ⟨z, z1, z2, k, z3⟩ | z | z | z | ⟨k, z1, z2, z3⟩ <;> omega))
    refine ⟨xup2 G 65 1 k, ?_, hh.tp (Nat.le_succ n) hp1 ?_ z⟩
    · unfold c170
      rw [if_neg (by omega), g0 hp, Option.bind_some, g1, Option.bind_some, if_pos (by omega), Option.bind_some, o_p (s65 hs), Option.bind_some]
    · obtain ⟨a1, a2, a3, a4⟩ := ht
      have e : (tx.take k.toNat).length = k.toNat := by rw [List.length_take]; omega
      have e2 : ∀ p, p < k.toNat → tBt (tx.take k.toNat) p = tBt tx p := fun p hp => by
        unfold tBt
        rw [if_pos (by omega), if_pos (by omega), getD_e (by omega), getD_e (by omega), List.getElem_take]
      refine ⟨by rw [e, xup2_s]; omega, by omega, fun p => ⟨fun hp => ?_, fun hp => ?_⟩, fun p hp => ?_⟩
      · rw [e2 p (by omega)]; exact (a3 p).1 (by omega)
      · unfold tBt
        rw [if_neg (by omega)]
      · rw [e2 p (by omega), xup2_n (by omega)]; exact a4 p (by omega)
  · refine ⟨G, ?_, hh.tp (Nat.le_succ n) hp ht (fun _ _ _ _ => rfl)⟩
    unfold c170 c170_15
    by_cases c : k < 0
    · rw [if_pos c]
    · rw [if_neg c, g0 hp, Option.bind_some, g1, Option.bind_some, if_neg (by omega)]
end
end
section
/-! THE CLASS: line(), forget(), Arrays.fill -/
section
variable {f A hr n sl ln : Nat} {S : Nat → Nat × Nat × Nat} {G G' : xG_} {m : Nat × Nat} {T : List (List Int)} {P : Nat → Nat} {l : sLn} {lns : Nat → sLn} {tx : List Int} {kp : Nat × List (List Int)} {mt : Int × List Int} {pl rf : Int}
theorem cMo.is {mp : Nat} {mo : sMo} (h : cMo T S G A P mp mo) : ∃ s M, isMo T mo s M := by
  obtain ⟨s, M, _, _, _, _, _, _, h, _⟩ := h
  exact ⟨s, M, h⟩
theorem cLn.mo (h : cLn T S G A P ln l) : ∃ s M, isMo T (lMo l) s M := by
  obtain ⟨⟨_, mp, h, _⟩, _⟩ := h
  exact (h _ (Nat.le_add_right _ _) (Nat.le_refl _)).2.1.is
theorem cPn.nil {s : pPg} (h : G ln 8 = 0) : cPn G ln s [] := ⟨h, Nat.zero_le _, fun i hi => absurd hi (Nat.not_lt_zero i)⟩
theorem cCt.nil (h : ∀ y, y < 72 → G (ln + 7) y = 0 ∧ G (ln + 8) y = 0) : cCt T S G A ln (fun _ => -1) := ⟨fun _ => 0, fun c hc => ⟨⟨fun _ => rfl, fun _ => (h c hc).1⟩, (h c hc).2, .inl ⟨rfl, rfl⟩⟩⟩
/-- line() -/
theorem k_188 {k : Int} (h : cHs S G A (T, lns, hr, tx, kp, mt, pl, rf) n) : ∃ G', c188 f 64 k (S, G, m) = some (if 0 ≤ k ∧ k < 4 then (hr : Int) else -1, (S, G', m)) ∧ cHs S G' A (if 0 ≤ k ∧ k < 4 then (T, lUp lns k.toNat (lnT (lns k.toNat)), k.toNat, tx, kp, mt, pl, rf) else (T, lns, hr, tx, kp, mt, pl, rf)) (n + 1) := by
  by_cases c : 0 ≤ k ∧ k < 4
  · obtain ⟨x, rfl⟩ : ∃ x : Nat, k = (x : Int) := ⟨k.toNat, by omega⟩
    rw [if_pos c, if_pos c, Int.toNat_natCast]
    obtain ⟨⟨a1, a2, a3, a4⟩, ⟨P, b1, b2, b3⟩, ⟨c1, c2⟩, ⟨c3, c4⟩, c5, c6, c7, c8, c9⟩ := h
    have z : ∀ a j, ¬ (a = 64 ∧ (j = 6 ∨ j = 13)) → xup2 (xup2 G 64 6 (x : Int)) 64 13 ((0 : Nat) : Int) a j = G a j := fun a j y => by rw [xup2_n (by omega), xup2_n (by omega)]
    have z6 : xup2 (xup2 G 64 6 (x : Int)) 64 13 ((0 : Nat) : Int) 64 6 = (x : Int) := by rw [xup2_n (by omega), xup2_s]
    have z13 : xup2 (xup2 G 64 6 (x : Int)) 64 13 ((0 : Nat) : Int) 64 13 = 0 := xup2_s _ _ _ _
    refine ⟨xup2 (xup2 G 64 6 (x : Int)) 64 13 ((0 : Nat) : Int), ?_, ?_⟩
    · unfold c188
      rw [if_neg (by omega), if_pos (by omega), o_gi (s64 a1), Option.bind_some, c2, o_p (s64 a1), Option.bind_some, o_pr (s64 a1), Option.bind_some]
    · generalize xup2 (xup2 G 64 6 (x : Int)) 64 13 ((0 : Nat) : Int) = G' at z z6 z13
      have sf : xSf A G G' := fun a j y1 y2 => z a j (by omega)
      refine ⟨⟨a1, a2.ge (fun a j hz => z a j (by
        rcases hz with z | z | z | z | z | z | z | ⟨z, z1, z2, k, z3⟩ | z | z | z | ⟨k, z1, z2, z3⟩ <;> omega)), a3.ge (fun a j y1 y2 => z a j (by omega)), a4⟩, ⟨P, b1.ge (Nat.le_refl _) (fun _ _ => rfl) sf (by rw [z _ _ (by omega)]; exact Int.le_refl _), fun y hy => ?_, ?_⟩, ⟨by omega, z6⟩, ⟨by rw [z _ _ (by omega)]; exact c3, by rw [z _ _ (by omega)]; omega⟩, by rw [z _ _ (by omega)]; exact c5, by rw [z _ _ (by omega)]; exact c6, c7.ge (z _ _ (by omega)) (fun p => z _ _ (by omega)), c8.ge (fun _ _ => rfl) (fun a j y1 y2 => z a j (by omega)) ⟨z _ _ (by omega), z _ _ (by omega)⟩, c9.ge ⟨z _ _ (by omega), z _ _ (by omega)⟩ (fun j => z _ _ (by omega))⟩
      · have := (b2 y hy).ge (Nat.le_refl _) (fun _ _ => rfl) sf (fun a j y1 y2 => z a j (by omega)) (S' := S)
        unfold lUp
        by_cases d : y = x
        · rw [if_pos d, d]
          rw [d] at this
          exact this
        · rw [if_neg d]; exact this
      · unfold lUp
        rw [if_pos rfl]
        exact ⟨fun _ => z13, fun z => absurd z (by show ¬ (false = true); decide)⟩
  · rw [if_neg c, if_neg c]
    refine ⟨G, ?_, h.ge (Nat.le_succ n) (Nat.le_refl _) (fun _ _ => rfl) h.1.2.1 (fun _ _ _ _ => rfl)⟩
    unfold c188 c188_9
    by_cases d : k < 0
    · rw [if_pos d]
    · rw [if_neg d, if_neg (by omega)]
/-- a line's own CHANGES and texts are emptied -/
theorem cLn.fo (h : cLn T S G A P ln l) (hl : ln < 279) (h7 : 242 < ln ∧ ln + 8 < 279) (hG : ∀ a j, ¬ (a = ln ∧ (j = 7 ∨ j = 8)) → a ≠ ln + 7 → a ≠ ln + 8 → G' a j = G a j) (e7 : G' ln 7 = 0) (e8 : G' ln 8 = 0) (ec : ∀ y, y < 72 → G' (ln + 7) y = 0 ∧ G' (ln + 8) y = 0) : cLn T S G' A P ln (lnF l) := by
  obtain ⟨s, M, hm⟩ := h.mo
  obtain ⟨h1, ⟨h2, h3⟩, h4, _, _, h8, h9⟩ := h
  have sf : xSf A G G' := fun a j y1 y2 => hG a j (by omega) (by omega) (by omega)
  exact ⟨h1.ge (Nat.le_refl _) (fun _ _ => rfl) sf ⟨hG _ _ (by omega) (by omega) (by omega), hG _ _ (by omega) (by omega) (by omega), fun j _ _ => hG _ _ (by omega) (by omega) (by omega)⟩, ⟨fun p hp => by rw [hG _ _ (by omega) (by omega) (by omega)]; exact h2 p hp, fun c hc => by rw [hG _ _ (by omega) (by omega) (by omega)]; exact h3 c hc⟩, .inl ⟨rfl, e7⟩, ⟨s, hm.2.1, cPn.nil e8⟩, cCt.nil ec, by rw [hG _ _ (by omega) (by omega) (by omega)]; exact h8, by rw [hG _ _ (by omega) (by omega) (by omega)]; exact h9⟩
/-- forget() -/
theorem k_172 (hf : 100 < f) (h : cHs S G A (T, lns, hr, tx, kp, mt, pl, rf) n) : ∃ G', c172 f 64 (S, G, m) = some (((lns hr).2.2.2.1.1.length : Int), (S, G', m)) ∧ cHs S G' A (T, lUp lns hr (lnF (lns hr)), hr, tx, kp, mt, pl, rf) (n + 1) := by
  obtain ⟨⟨a1, a2, a3, a4⟩, ⟨P, b1, b2, b3⟩, ⟨c1, c2⟩, ⟨c3, c4⟩, c5, c6, c7, c8, c9⟩ := h
  have ls := lnSt_of a1 c1
  have lp := lnPt_of a2 c1
  have pl' := p_ln a2 c1
  obtain ⟨G', k1, k2, k3, k4, k5⟩ := k_7 (f := f) (m := m) hf ls lp
  obtain ⟨_, _, _, ⟨s, l5, l6⟩, _⟩ := b2 hr c1
  have g6 : cq_gi 11 6 17 64 (S, G, m) = some (hr : Int) := by rw [o_gi (s64 a1), c2]
  have i3 : cq_is 1 14 (243 + 9 * hr) (S, G, m) = some () := if_pos ls.1
  have z : ∀ a j, ¬ (243 + 9 * hr ≤ a ∧ a ≤ 243 + 9 * hr + 8) → G' a j = G a j := fun a j y => k2 a j (by omega) (by omega) (by omega)
  have sf : xSf A G G' := fun a j y1 y2 => z a j (by omega)
  refine ⟨G', ?_, ⟨⟨a1, a2.ge (fun a j hz => k2 a j (by
        rcases hz with z | z | z | z | z | z | z | ⟨z, z1, z2, k, z3⟩ | z | z | z | ⟨k, z1, z2, z3⟩ <;> omega) (by
        rcases hz with z | z | z | z | z | z | z | ⟨z, z1, z2, k, z3⟩ | z | z | z | ⟨k, z1, z2, z3⟩ <;> omega) (by
        rcases hz with z | z | z | z | z | z | z | ⟨z, z1, z2, k, z3⟩ | z | z | z | ⟨k, z1, z2, z3⟩ <;> omega)), a3.ge (fun a j y1 y2 => z a j (by omega)), a4⟩, ⟨P, b1.ge (Nat.le_refl _) (fun _ _ => rfl) sf (by rw [z _ _ (by omega)]; exact Int.le_refl _), fun y hy => ?_, ?_⟩, ⟨c1, by rw [z _ _ (by omega)]; exact c2⟩, ⟨by rw [z _ _ (by omega)]; exact c3, by rw [z _ _ (by omega)]; omega⟩, by rw [z _ _ (by omega)]; exact c5, by rw [z _ _ (by omega)]; exact c6, c7.ge (z _ _ (by omega)) (fun p => z _ _ (by omega)), c8.ge (fun _ _ => rfl) (fun a j y1 y2 => z a j (by omega)) ⟨z _ _ (by omega), z _ _ (by omega)⟩, c9.ge ⟨z _ _ (by omega), z _ _ (by omega)⟩ (fun j => z _ _ (by omega))⟩⟩
  · unfold c172
    rw [o_gr (y := 220) (s64 a1) (p64_5 a2), Option.bind_some, g6, Option.bind_some, o_ar (s220 a1) (by decide) c1 pl', Option.bind_some, o_gi ls.1, Option.bind_some, l6.1, Option.bind_some, Option.bind_some, o_ar (s220 a1) (by decide) c1 pl', Option.bind_some, i3, Option.bind_some, k1, Option.bind_some]
  · unfold lUp
    by_cases d : y = hr
    · rw [if_pos d, d]
      exact (b2 hr c1).fo (by omega) (by omega) k2 k3 k4 k5
    · rw [if_neg d]
      exact (b2 y hy).ge (Nat.le_refl _) (fun _ _ => rfl) sf (fun a j y1 y2 => z a j (by omega))
  · unfold lUp
    rw [if_pos rfl]
    exact b3.ge (Nat.le_refl _) (fun _ _ => rfl) sf ⟨z _ _ (by omega), z _ _ (by omega)⟩
/-- Arrays.fill of ints -/
theorem k_382l {x L : Nat} {v : Int} (hL : L < 2000000000) (hS : S x = (2, 3, L)) : ∀ (d i fu : Nat) (G : xG_), i + d = L → d < fu → ∃ G', c382_5 f fu x v (i : Int) (L : Int) (S, G, m) = some (S, G', m) ∧ (∀ j, i ≤ j → j < L → G' x j = v) ∧ (∀ a j, ¬ (a = x ∧ i ≤ j ∧ j < L) → G' a j = G a j) := by
  intro d
  induction d with
  | zero =>
    intro i fu G e1 e2
    obtain ⟨fu, rfl⟩ : ∃ t, fu = t + 1 := ⟨fu - 1, by omega⟩
    refine ⟨G, ?_, fun j y1 y2 => by omega, fun _ _ _ => rfl⟩
    show c382_5b (c382_5 f fu) f _ _ _ _ _ = _
    unfold c382_5b
    rw [if_pos (by omega)]
  | succ d ih =>
    intro i fu G e1 e2
    obtain ⟨fu, rfl⟩ : ∃ t, fu = t + 1 := ⟨fu - 1, by omega⟩
    obtain ⟨G', k1, k2, k3⟩ := ih (i + 1) fu (xup2 G x i v) (by omega) (by omega)
    have e : cq_s 3 x (i : Int) v (S, G, m) = some (S, xup2 G x i v, m) := by
      unfold cq_s
      simp only [hS]
      rw [if_pos ⟨trivial, trivial, by omega, by omega⟩, Int.toNat_natCast]
    refine ⟨G', ?_, fun j y1 y2 => ?_, fun a j y => by rw [k3 a j (by omega), xup2_n (by omega)]⟩
    · show c382_5b (c382_5 f fu) f _ _ _ _ _ = _
      unfold c382_5b
      rw [if_neg (by omega), e, Option.bind_some, xwr_g _ (by omega) (by omega)]
      exact k1
    · by_cases c : j = i
      · rw [c, k3 x i (by omega), xup2_s]
      · exact k2 j (by omega) y2
theorem k_382f {x L : Nat} {v : Int} (hL : L < f) (hL2 : L < 2000000000) (hS : S x = (2, 3, L)) : ∃ G', c382 f x v (S, G, m) = some (S, G', m) ∧ (∀ j, j < L → G' x j = v) ∧ (∀ a j, a ≠ x → G' a j = G a j) := by
  obtain ⟨G', k1, k2, k3⟩ := k_382l (f := f) (m := m) (v := v) hL2 hS L 0 f G (by omega) hL
  refine ⟨G', ?_, fun j hj => k2 j (Nat.zero_le _) hj, fun a j y => k3 a j (by omega)⟩
  have e : cq_ln x (S, G, m) = some (L : Int) := by
    unfold cq_ln
    simp only [hS]
    rw [if_pos ⟨trivial, by omega⟩]
  unfold c382
  rw [e, Option.bind_some]
  exact k1
end
end
section
/-! THE CLASS: back() -/
section
variable {f A hr n sl ln : Nat} {S : Nat → Nat × Nat × Nat} {G G' : xG_} {m : Nat × Nat} {T : List (List Int)} {P : Nat → Nat} {l : sLn} {lns : Nat → sLn} {tx : List Int} {kp : Nat × List (List Int)} {mt : Int × List Int} {pl rf : Int} {H : Nat → sMo} {b k ed : Nat}
/-- fewer rounds -/
theorem cRo.cut {i : Nat} (h : cRo T S G A P ln H b k ed) (hi : i ≤ k) (hG : xSf A G G') (e1 : G' ln 1 = ((b + i : Nat) : Int)) (e2 : G' ln 2 = G ln 2) (em : ∀ j, b ≤ j → j ≤ b + i → G' (ln + 1) j = G (ln + 1) j) : cRo T S G' A P ln H b i (ed - (hCat (hEg H) (b + i) (k - i)).length) := by
  obtain ⟨⟨h1, h2⟩, mp, h3, h4⟩ := h
  have gm : ∀ r, b ≤ r → r ≤ b + k → ∀ j, G' (mp r) j = G (mp r) j := fun r r1 r2 j => by
    obtain ⟨_, ⟨s, M, rp, xr, cr, tp, ac, to, _, _, _, _, _, _, ⟨z, _⟩, _⟩, _⟩ := h3 r r1 r2
    exact hG _ _ z.1 (.inr z.2)
  refine ⟨⟨e1, by rw [e2]; exact h2⟩, mp, fun r r1 r2 => ?_, fun r r1 r2 => ?_⟩
  · obtain ⟨a1, a2, x, a3, a4⟩ := h3 r r1 (by omega)
    refine ⟨by rw [em r r1 r2]; exact a1, a2.ge (Nat.le_refl _) (fun _ _ => rfl) hG, x, by rw [gm r r1 (by omega)]; exact a3, ?_⟩
    have e3 : b + k - r = (b + i - r) + (k - i) := by omega
    rw [e3, hCat_split, List.length_append] at a4
    have e4 : r + (b + i - r) = b + i := by omega
    rw [e4] at a4
    omega
  · have := h4 r r1 (by omega)
    rw [gm r (by omega) (by omega), gm r (by omega) (by omega), gm r (by omega) (by omega)]
    exact this
/-- the forks of lines behind a round -/
theorem k_186l {r v : Int} (hs : cSs S) (hr4 : hr < 4) : ∀ (d i fu : Nat) (G : xG_), i + d = 4 → d < fu → cPs G → G 64 6 = (hr : Int) → ∃ G', c186_35 f fu 64 r v (i : Int) (S, G, m) = some (v, (S, G', m)) ∧ G' 64 13 = 0 ∧ (∀ y, i ≤ y → y < 4 → G' (243 + 9 * y) 3 = if G (243 + 9 * y) 3 = (hr : Int) ∧ r < G (243 + 9 * y) 4 then -1 else G (243 + 9 * y) 3) ∧ ∀ a j, ¬ (a = 64 ∧ j = 13) → ¬ (j = 3 ∧ ∃ y, i ≤ y ∧ y < 4 ∧ a = 243 + 9 * y) → G' a j = G a j := by
  intro d
  induction d with
  | zero =>
    intro i fu G e1 e2 hp h6
    obtain ⟨fu, rfl⟩ : ∃ t, fu = t + 1 := ⟨fu - 1, by omega⟩
    refine ⟨xup2 G 64 13 ((0 : Nat) : Int), ?_, xup2_s _ _ _ _, fun y y1 y2 => by omega, fun a j y1 y2 => xup2_n y1⟩
    show c186_35b (c186_35 f fu) f _ _ _ _ _ = _
    unfold c186_35b
    rw [if_pos (by omega), o_pr (s64 hs), Option.bind_some]
  | succ d ih =>
    intro i fu G e1 e2 hp h6
    obtain ⟨fu, rfl⟩ : ∃ t, fu = t + 1 := ⟨fu - 1, by omega⟩
    have hi : i < 4 := by omega
    have ls := lnSt_of hs hi
    have pl := p_ln hp hi
    have g6 : cq_gi 11 6 17 64 (S, G, m) = some (hr : Int) := by rw [o_gi (s64 hs), h6]
    have w : xwr ((i : Int) + 1) = ((i + 1 : Nat) : Int) := by rw [xwr_g _ (by omega) (by omega)]; omega
    have same : ¬ (G (243 + 9 * i) 3 = (hr : Int) ∧ r < G (243 + 9 * i) 4) → c186_35 f (fu + 1) 64 r v (i : Int) (S, G, m) = c186_35 f fu 64 r v ((i + 1 : Nat) : Int) (S, G, m) → ∃ G', c186_35 f (fu + 1) 64 r v (i : Int) (S, G, m) = some (v, (S, G', m)) ∧ G' 64 13 = 0 ∧ (∀ y, i ≤ y → y < 4 → G' (243 + 9 * y) 3 = if G (243 + 9 * y) 3 = (hr : Int) ∧ r < G (243 + 9 * y) 4 then -1 else G (243 + 9 * y) 3) ∧ ∀ a j, ¬ (a = 64 ∧ j = 13) → ¬ (j = 3 ∧ ∃ y, i ≤ y ∧ y < 4 ∧ a = 243 + 9 * y) → G' a j = G a j := fun hc he => by
      obtain ⟨G', k1, k2, k3, k4⟩ := ih (i + 1) fu G (by omega) (by omega) hp h6
      refine ⟨G', he.trans k1, k2, fun y y1 y2 => ?_, fun a j y1 y2 => k4 a j y1 (fun z => y2 ⟨z.1, by obtain ⟨y, z1, z2, z3⟩ := z.2; exact ⟨y, by omega, z2, z3⟩⟩)⟩
      by_cases c : y = i
      · subst c
        rw [if_neg hc]
        exact k4 _ _ (by omega) (fun z => by obtain ⟨x, z1, z2, z3⟩ := z.2; omega)
      · exact k3 y (by omega) y2
    by_cases c1 : G (243 + 9 * i) 3 = (hr : Int)
    · by_cases c2 : r < G (243 + 9 * i) 4
      · have z : ∀ a j, ¬ (a = 243 + 9 * i ∧ j = 3) → xup2 G (243 + 9 * i) 3 (-1) a j = G a j := fun a j y => xup2_n y
        obtain ⟨G', k1, k2, k3, k4⟩ := ih (i + 1) fu (xup2 G (243 + 9 * i) 3 (-1)) (by omega) (by omega) (hp.ge (fun a j hz => z a j (by
          rcases hz with z | z | z | z | z | z | z | ⟨z, z1, z2, k, z3⟩ | z | z | z | ⟨k, z1, z2, z3⟩ <;> omega))) (by rw [z _ _ (by omega)]; exact h6)
        refine ⟨G', ?_, k2, fun y y1 y2 => ?_, fun a j y1 y2 => ?_⟩
        · show c186_35b (c186_35 f fu) f _ _ _ _ _ = _
          unfold c186_35b c186_83
          rw [if_neg (by omega), o_gr (y := 220) (s64 hs) (p64_5 hp), Option.bind_some, o_ar (s220 hs) (by decide) hi pl, Option.bind_some, o_gi ls.1, Option.bind_some, g6, Option.bind_some, if_neg (fun z => z c1), Option.bind_some, o_ar (s220 hs) (by decide) hi pl, Option.bind_some, o_gi ls.1, Option.bind_some, if_neg (by omega), Option.bind_some, o_ar (s220 hs) (by decide) hi pl, Option.bind_some, o_p ls.1, Option.bind_some, w]
          exact k1
        · by_cases c : y = i
          · subst c
            rw [if_pos ⟨c1, c2⟩, k4 _ _ (by omega) (fun z => by obtain ⟨x, z1, z2, z3⟩ := z.2; omega), xup2_s]
          · rw [k3 y (by omega) y2, z _ _ (by omega), z _ _ (by omega)]
        · rw [k4 a j y1 (fun w => y2 ⟨w.1, by obtain ⟨y, z1, z2, z3⟩ := w.2; exact ⟨y, by omega, z2, z3⟩⟩), z a j (fun w => y2 ⟨w.2, i, Nat.le_refl _, hi, w.1⟩)]
      · refine same (fun z => c2 z.2) ?_
        show c186_35b (c186_35 f fu) f _ _ _ _ _ = _
        unfold c186_35b c186_83
        rw [if_neg (by omega), o_gr (y := 220) (s64 hs) (p64_5 hp), Option.bind_some, o_ar (s220 hs) (by decide) hi pl, Option.bind_some, o_gi ls.1, Option.bind_some, g6, Option.bind_some, if_neg (fun z => z c1), Option.bind_some, o_ar (s220 hs) (by decide) hi pl, Option.bind_some, o_gi ls.1, Option.bind_some, if_pos (by omega), w]
    · refine same (fun z => c1 z.1) ?_
      show c186_35b (c186_35 f fu) f _ _ _ _ _ = _
      unfold c186_35b c186_83
      rw [if_neg (by omega), o_gr (y := 220) (s64 hs) (p64_5 hp), Option.bind_some, o_ar (s220 hs) (by decide) hi pl, Option.bind_some, o_gi ls.1, Option.bind_some, g6, Option.bind_some, if_pos c1, w]
/-- goBack() -/
theorem k_12 {r mp mq q q' R : Nat} {s1 s2 g3 g4 : Int} (hf : 100 < f) (hp : cPs G) (ls : lnSt S ln) (lp : lnPt G ln) (hln : 242 < ln ∧ ln + 8 < 279) (h1 : G ln 1 = (R : Int)) (hR : R < 520) (hr : r ≤ R) (m1 : G (ln + 1) r = (mp : Int)) (m2 : G (ln + 1) R = (mq : Int)) (S1 : S mp = (1, 2, 8)) (S2 : S mq = (1, 2, 8)) (p1 : G mp 0 = (q : Int)) (p2 : G mq 0 = (q' : Int)) (q1 : S q = (1, 3, 14)) (q2 : S q' = (1, 3, 14)) (e1 : G q 0 = s1) (e2 : G q' 0 = s2) (e3 : G ln 3 = g3) (e4 : G ln 4 = g4) :
    ∃ G', c12 f ln (r : Int) (S, G, m) = some (S, G', m) ∧ (∀ a j, ¬ (a = ln ∧ (j = 1 ∨ j = 3 ∨ j = 7 ∨ j = 8)) → a ≠ ln + 2 → a ≠ ln + 7 → a ≠ ln + 8 → G' a j = G a j) ∧ G' ln 1 = (r : Int) ∧ G' ln 3 = (if g4 ≤ (r : Int) then g3 else -1) ∧ G' ln 7 = 0 ∧ G' ln 8 = 0 ∧ (∀ y, y < 72 → G' (ln + 7) y = 0 ∧ G' (ln + 8) y = 0) ∧ ∀ p, p < 16 → G' (ln + 2) p = if s1 = s2 then G (ln + 2) p else 0 := by
  have i1 : ∀ G' : xG_, cq_is 1 14 ln (S, G', m) = some () := fun G' => if_pos ls.1
  -- the end
  have t46 : ∀ Z : xG_, (∀ j, j ≠ 3 → Z ln j = G ln j) → ∃ G', c12_46 f ln (r : Int) (S, Z, m) = some (S, G', m) ∧ (∀ a j, ¬ (a = ln ∧ (j = 1 ∨ j = 7 ∨ j = 8)) → a ≠ ln + 7 → a ≠ ln + 8 → G' a j = Z a j) ∧ G' ln 1 = (r : Int) ∧ G' ln 7 = 0 ∧ G' ln 8 = 0 ∧ ∀ y, y < 72 → G' (ln + 7) y = 0 ∧ G' (ln + 8) y = 0 := fun Z hZ => by
    have lpZ : lnPt (xup2 Z ln 1 (r : Int)) ln := by
      obtain ⟨h0, h1, h2, h3, h4, h5, h6, h7⟩ := lp
      exact ⟨by rw [xup2_n (by omega), hZ _ (by decide)]; exact h0, by rw [xup2_n (by omega), hZ _ (by decide)]; exact h1, by rw [xup2_n (by omega), hZ _ (by decide)]; exact h2, by rw [xup2_n (by omega), hZ _ (by decide)]; exact h3, by rw [xup2_n (by omega), hZ _ (by decide)]; exact h4, by rw [xup2_n (by omega), hZ _ (by decide)]; exact h5, by rw [xup2_n (by omega), hZ _ (by decide)]; exact h6, by rw [xup2_n (by omega), hZ _ (by decide)]; exact h7⟩
    obtain ⟨G', k1, k2, k3, k4, k5⟩ := k_7 (f := f) (m := m) hf ls lpZ
    refine ⟨G', ?_, fun a j y1 y2 y3 => by rw [k2 a j (by omega) y2 y3, xup2_n (by omega)], ?_, k3, k4, k5⟩
    · unfold c12_46
      rw [o_p ls.1, Option.bind_some, i1, Option.bind_some, k1, Option.bind_some]
    · rw [k2 _ _ (by omega) (by omega) (by omega), xup2_s]
  have t33 : ∀ Z : xG_, (∀ j, Z ln j = G ln j) → ∃ G', c12_33 f ln (r : Int) (S, Z, m) = some (S, G', m) ∧ (∀ a j, ¬ (a = ln ∧ (j = 1 ∨ j = 3 ∨ j = 7 ∨ j = 8)) → a ≠ ln + 7 → a ≠ ln + 8 → G' a j = Z a j) ∧ G' ln 1 = (r : Int) ∧ G' ln 3 = (if g4 ≤ (r : Int) then g3 else -1) ∧ G' ln 7 = 0 ∧ G' ln 8 = 0 ∧ ∀ y, y < 72 → G' (ln + 7) y = 0 ∧ G' (ln + 8) y = 0 := fun Z hZ => by
    unfold c12_33
    rw [o_gi ls.1, Option.bind_some, hZ, e4]
    by_cases c : g4 ≤ (r : Int)
    · rw [if_pos c, if_pos c]
      obtain ⟨G', k1, k2, k3, k4, k5, k6⟩ := t46 Z (fun j _ => hZ j)
      exact ⟨G', k1, fun a j y1 y2 y3 => k2 a j (by omega) y2 y3, k3, by rw [k2 _ _ (by omega) (by omega) (by omega), hZ]; exact e3, k4, k5, k6⟩
    · rw [if_neg c, if_neg c, o_p ls.1, Option.bind_some]
      obtain ⟨G', k1, k2, k3, k4, k5, k6⟩ := t46 (xup2 Z ln 3 (-1)) (fun j hj => by rw [xup2_n (by omega)]; exact hZ j)
      exact ⟨G', k1, fun a j y1 y2 y3 => by rw [k2 a j (by omega) y2 y3, xup2_n (by omega)], k3, by rw [k2 _ _ (by omega) (by omega) (by omega), xup2_s], k4, k5, k6⟩
  unfold c12
  rw [o_gr ls.1 lp.1, Option.bind_some, o_ar ls.2.1 (by decide) (by omega) m1, Option.bind_some, o_gr S1 p1, Option.bind_some, o_gi q1, Option.bind_some, e1, i1, Option.bind_some, k_5 ls lp h1 hR m2, Option.bind_some, o_gr S2 p2, Option.bind_some, o_gi q2, Option.bind_some, e2]
  by_cases c : s1 = s2
  · rw [if_pos c]
    obtain ⟨G', k1, k2, k3, k4, k5, k6, k7⟩ := t33 G (fun _ => rfl)
    exact ⟨G', k1, fun a j y1 y2 y3 y4 => k2 a j y1 y3 y4, k3, k4, k5, k6, k7, fun p hp => by rw [if_pos c]; exact k2 _ _ (by omega) (by omega) (by omega)⟩
  · rw [if_neg c, o_gr ls.1 lp.2.1, Option.bind_some]
    obtain ⟨Z, z1, z2, z3⟩ := k_382f (f := f) (m := m) (G := G) (v := 0) (by omega) (by decide) ls.2.2.1
    rw [z1, Option.bind_some]
    obtain ⟨G', k1, k2, k3, k4, k5, k6, k7⟩ := t33 Z (fun j => z3 _ _ (by omega))
    exact ⟨G', k1, fun a j y1 y2 y3 y4 => by rw [k2 a j y1 y3 y4, z3 a j y2], k3, k4, k5, k6, k7, fun p hp => by rw [if_neg c, k2 _ _ (by omega) (by omega) (by omega)]; exact z2 p hp⟩
/-- back() -/
theorem k_186 {r v : Int} {lns' : Nat → sLn} (hf : 100 < f) (h : cHs S G A (T, lns, hr, tx, kp, mt, pl, rf) n) (hb : (lns hr).2.1.1 + (lns hr).2.1.2.1 < 520) (hst : stBk lns hr r v lns') : ∃ G', c186 f 64 r (S, G, m) = some (v, (S, G', m)) ∧ cHs S G' A (T, lns', hr, tx, kp, mt, pl, rf) (n + 1) := by
  have hh := h
  obtain ⟨⟨a1, a2, a3, a4⟩, ⟨P, b1, b2, b3⟩, ⟨c1, c2⟩, ⟨c3, c4⟩, c5, c6, c7, c8, c9⟩ := h
  have ls := lnSt_of a1 c1
  have lp := lnPt_of a2 c1
  have pl' := p_ln a2 c1
  have L := b2 hr c1
  obtain ⟨Lr, ⟨Lw, Lc⟩, Le, Lp, Lt, L3, L4⟩ := id L
  obtain ⟨⟨l1, l2⟩, mp, l3, l4⟩ := id Lr
  have g6 : cq_gi 11 6 17 64 (S, G, m) = some (hr : Int) := by rw [o_gi (s64 a1), c2]
  have i3 : cq_is 1 14 (243 + 9 * hr) (S, G, m) = some () := if_pos ls.1
  rcases hst with ⟨i, i1, rfl, rfl, rfl⟩ | ⟨i1, rfl, el⟩
  · obtain ⟨m1, m2, _⟩ := l3 _ (Nat.le_add_right _ i) (by omega)
    obtain ⟨n1, n2, _⟩ := l3 _ (Nat.le_add_right _ _) (Nat.le_refl _)
    obtain ⟨s1, M1, is1⟩ := m2.is
    obtain ⟨s2, M2, is2⟩ := n2.is
    obtain ⟨rp1, xr1, cr1, nq1, r1, r2, r3, r4, r5, r6⟩ := m2.pm b1 is1
    obtain ⟨rp2, xr2, cr2, nq2, t1, t2, t3, t4, t5, t6⟩ := n2.pm b1 is2
    obtain ⟨G1, k1, k2, k3, k4, k5, k6, k7, k8⟩ := k_12 (f := f) (m := m) (r := (lns hr).2.1.1 + i) hf a2 ls lp (by omega) l1 hb (by omega) m1 n1 r1.1 t1.1 r1.2.1 t1.2.1 r2.1.1 t2.1.1 rfl rfl rfl rfl
    have z1 : ∀ a j, ¬ (243 + 9 * hr ≤ a ∧ a ≤ 243 + 9 * hr + 8) → G1 a j = G a j := fun a j y => k2 a j (by omega) (by omega) (by omega) (by omega)
    have hp1 : cPs G1 := a2.ge (fun a j hz => k2 a j (by
        rcases hz with z | z | z | z | z | z | z | ⟨z, z1, z2, k, z3⟩ | z | z | z | ⟨k, z1, z2, z3⟩ <;> omega) (by
        rcases hz with z | z | z | z | z | z | z | ⟨z, z1, z2, k, z3⟩ | z | z | z | ⟨k, z1, z2, z3⟩ <;> omega) (by
        rcases hz with z | z | z | z | z | z | z | ⟨z, z1, z2, k, z3⟩ | z | z | z | ⟨k, z1, z2, z3⟩ <;> omega) (by
        rcases hz with z | z | z | z | z | z | z | ⟨z, z1, z2, k, z3⟩ | z | z | z | ⟨k, z1, z2, z3⟩ <;> omega))
    obtain ⟨G2, g1, g2, g3, g4⟩ := k_186l (f := f) (m := m) (r := (((lns hr).2.1.1 + i : Nat) : Int)) (v := (((lns hr).2.1.2.1 - i : Nat) : Int)) a1 c1 4 0 f G1 (by omega) (by omega) hp1 (by rw [z1 _ _ (by omega)]; exact c2)
    have ew : xwr ((((lns hr).2.1.1 + (lns hr).2.1.2.1 : Nat) : Int) - (((lns hr).2.1.1 + i : Nat) : Int)) = (((lns hr).2.1.2.1 - i : Nat) : Int) := by rw [xwr_g _ (by omega) (by omega)]; omega
    have z2 : ∀ a j, ¬ (a = 64 ∧ j = 13) → ¬ (j = 3 ∧ 243 ≤ a ∧ a ≤ 278) → G2 a j = G1 a j := fun a j y1 y2 => g4 a j y1 (fun z => by obtain ⟨zj, y, z1, z2, z3⟩ := z; omega)
    have zz : ∀ a j, ¬ (a = 64 ∧ j = 13) → ¬ (243 ≤ a ∧ a ≤ 278) → G2 a j = G a j := fun a j y1 y2 => by rw [z2 a j y1 (by omega), z1 a j (by omega)]
    have sf : xSf A G G2 := fun a j y1 y2 => zz a j (by omega) (by omega)
    refine ⟨G2, ?_, ⟨⟨a1, hp1.ge (fun a j hz => z2 a j (by
        rcases hz with z | z | z | z | z | z | z | ⟨z, z1, z2, k, z3⟩ | z | z | z | ⟨k, z1, z2, z3⟩ <;> omega) (by
        rcases hz with z | z | z | z | z | z | z | ⟨z, z1, z2, k, z3⟩ | z | z | z | ⟨k, z1, z2, z3⟩ <;> omega)), a3.ge (fun a j y1 y2 => zz a j (by omega) (by omega)), a4⟩, ⟨P, b1.ge (Nat.le_refl _) (fun _ _ => rfl) sf (by rw [zz _ _ (by omega) (by omega)]; exact Int.le_refl _), fun y hy => ?_, ?_⟩, ⟨c1, by rw [zz _ _ (by omega) (by omega)]; exact c2⟩, ⟨by rw [zz _ _ (by omega) (by omega)]; exact c3, by rw [zz _ _ (by omega) (by omega)]; omega⟩, by rw [zz _ _ (by omega) (by omega)]; exact c5, by rw [zz _ _ (by omega) (by omega)]; exact c6, c7.ge (zz _ _ (by omega) (by omega)) (fun p => zz _ _ (by omega) (by omega)), c8.ge (fun _ _ => rfl) (fun a j y1 y2 => zz a j (by omega) (by omega)) ⟨zz _ _ (by omega) (by omega), zz _ _ (by omega) (by omega)⟩, c9.ge ⟨zz _ _ (by omega) (by omega), zz _ _ (by omega) (by omega)⟩ (fun j => zz _ _ (by omega) (by omega))⟩⟩
    · unfold c186
      rw [o_gr (y := 220) (s64 a1) (p64_5 a2), Option.bind_some, g6, Option.bind_some, o_ar (s220 a1) (by decide) c1 pl', Option.bind_some, i3, Option.bind_some, k_6 ls.1 l1 l2, Option.bind_some, if_pos (show ¬ (if (((lns hr).2.1.1 : Int) ≤ (((lns hr).2.1.1 + i : Nat) : Int) ∧ (((lns hr).2.1.1 + i : Nat) : Int) ≤ (((lns hr).2.1.1 + (lns hr).2.1.2.1 : Nat) : Int)) then (1 : Int) else 0) = 0 by rw [if_pos (by omega)]; decide), o_gi ls.1, Option.bind_some, l1, i3, Option.bind_some, k1, Option.bind_some, ew]
      exact g1
    · by_cases d : y = hr
      · subst d
        show cLn _ _ _ _ _ _ (if _ then _ else _)
        rw [if_pos rfl]
        have e3 := g3 y (Nat.zero_le _) hy
        rw [k4, k2 (243 + 9 * y) 4 (by omega) (by omega) (by omega) (by omega)] at e3
        refine ⟨Lr.cut i1 sf (by rw [z2 _ _ (by omega) (by omega)]; exact k3) (by rw [z2 _ _ (by omega) (by omega), k2 _ _ (by omega) (by omega) (by omega) (by omega)]) (fun j _ _ => by rw [g4 _ _ (by omega) (fun z => by obtain ⟨_, x, z1, z2, z3⟩ := z; omega), k2 _ _ (by omega) (by omega) (by omega) (by omega)]), ⟨fun p hp => ?_, fun c hc => ?_⟩, .inl ⟨rfl, by rw [z2 _ _ (by omega) (by omega)]; exact k5⟩, ⟨s1, is1.2.1, cPn.nil (by rw [z2 _ _ (by omega) (by omega)]; exact k6)⟩, cCt.nil (fun c hc => by
          rw [g4 _ _ (by omega) (fun z => by obtain ⟨_, x, z1, z2, z3⟩ := z; omega), g4 _ _ (by omega) (fun z => by obtain ⟨_, x, z1, z2, z3⟩ := z; omega)]
          exact k7 c hc), ?_, fun hne => ?_⟩
        · rw [g4 _ _ (by omega) (fun z => by obtain ⟨_, x, z1, z2, z3⟩ := z; omega), k8 p hp]
          show _ = (if ((lns y).1 ((lns y).2.1.1 + i)).1 = (lMo (lns y)).1 then (lns y).2.2.1.1 p else 0)
          by_cases q : ((lns y).1 ((lns y).2.1.1 + i)).1 = (lMo (lns y)).1
          · rw [if_pos q, if_pos (by rw [q])]
            exact Lw p hp
          · rw [if_neg q, if_neg (fun z => q (b1.2 _ _ (by
              obtain ⟨_, _, _, _, _, _, _, _, _, _, _, _, _, w, _⟩ := m2
              exact w) (by
              obtain ⟨_, _, _, _, _, _, _, _, _, _, _, _, _, w, _⟩ := n2
              exact w) z))]
        · rw [g4 _ _ (by omega) (fun z => by obtain ⟨_, x, z1, z2, z3⟩ := z; omega), k2 _ _ (by omega) (by omega) (by omega) (by omega)]
          exact Lc c hc
        · show G2 (243 + 9 * y) 3 = (fkB (((lns y).2.1.1 + i : Nat) : Int) (fkL (y : Int) (((lns y).2.1.1 + i : Nat) : Int) (lns y).2.2.2.2)).1
          rw [e3]
          unfold fkB fkL
          by_cases q : (lns y).2.2.2.2.1 = -1
          · rw [L3, q]
            have e5 : (if G (243 + 9 * y) 4 ≤ (((lns y).2.1.1 + i : Nat) : Int) then (-1 : Int) else -1) = -1 := by
              by_cases w : G (243 + 9 * y) 4 ≤ (((lns y).2.1.1 + i : Nat) : Int)
              · rw [if_pos w]
              · rw [if_neg w]
            rw [e5, if_neg (show ¬ ((-1 : Int) = (y : Int) ∧ (((lns y).2.1.1 + i : Nat) : Int) < G (243 + 9 * y) 4) by omega), if_neg (show ¬ ((-1 : Int) = (y : Int) ∧ (((lns y).2.1.1 + i : Nat) : Int) < (lns y).2.2.2.2.2) by omega), if_neg (fun z => z.1 q), q]
          · rw [L4 q, L3]
            by_cases w : (((lns y).2.1.1 + i : Nat) : Int) < (lns y).2.2.2.2.2
            · rw [if_neg (show ¬ (lns y).2.2.2.2.2 ≤ (((lns y).2.1.1 + i : Nat) : Int) by omega), if_neg (show ¬ ((-1 : Int) = (y : Int) ∧ (((lns y).2.1.1 + i : Nat) : Int) < (lns y).2.2.2.2.2) by omega)]
              by_cases w2 : (lns y).2.2.2.2.1 = (y : Int) ∧ (((lns y).2.1.1 + i : Nat) : Int) < (lns y).2.2.2.2.2
              · rw [if_pos w2, if_neg (fun z => z.1 rfl)]
              · rw [if_neg w2, if_pos ⟨q, w⟩]
            · rw [if_pos (show (lns y).2.2.2.2.2 ≤ (((lns y).2.1.1 + i : Nat) : Int) by omega), if_neg (show ¬ ((lns y).2.2.2.2.1 = (y : Int) ∧ (((lns y).2.1.1 + i : Nat) : Int) < (lns y).2.2.2.2.2) from fun z => w z.2), if_neg (show ¬ ((lns y).2.2.2.2.1 = (y : Int) ∧ (((lns y).2.1.1 + i : Nat) : Int) < (lns y).2.2.2.2.2) from fun z => w z.2), if_neg (show ¬ ((lns y).2.2.2.2.1 ≠ -1 ∧ (((lns y).2.1.1 + i : Nat) : Int) < (lns y).2.2.2.2.2) from fun z => w z.2)]
        · rw [z2 _ _ (by omega) (by omega), k2 _ _ (by omega) (by omega) (by omega) (by omega)]
          have hne' : ¬ (fkB (((lns y).2.1.1 + i : Nat) : Int) (fkL (y : Int) (((lns y).2.1.1 + i : Nat) : Int) (lns y).2.2.2.2)).1 = -1 := hne
          show G (243 + 9 * y) 4 = (fkB (((lns y).2.1.1 + i : Nat) : Int) (fkL (y : Int) (((lns y).2.1.1 + i : Nat) : Int) (lns y).2.2.2.2)).2
          have q : (lns y).2.2.2.2.1 ≠ -1 := fun q => hne' (by
            unfold fkB fkL
            rw [if_neg (show ¬ ((lns y).2.2.2.2.1 = (y : Int) ∧ (((lns y).2.1.1 + i : Nat) : Int) < (lns y).2.2.2.2.2) by rw [q]; omega), if_neg (fun z => z.1 q), q])
          rw [L4 q]
          unfold fkB fkL
          by_cases w2 : (lns y).2.2.2.2.1 = (y : Int) ∧ (((lns y).2.1.1 + i : Nat) : Int) < (lns y).2.2.2.2.2
          · rw [if_pos w2, if_neg (fun z => z.1 rfl)]
          · rw [if_neg w2]
            by_cases w3 : (lns y).2.2.2.2.1 ≠ -1 ∧ (((lns y).2.1.1 + i : Nat) : Int) < (lns y).2.2.2.2.2
            · rw [if_pos w3]
            · rw [if_neg w3]
      · show cLn _ _ _ _ _ _ (if _ then _ else _)
        rw [if_neg d]
        have Ly := b2 y hy
        obtain ⟨Yr, ⟨Yw, Yc⟩, Ye, ⟨s, Yp1, Yp2⟩, Yt, Y3, Y4⟩ := Ly
        have zy : ∀ a j, 243 + 9 * y ≤ a → a ≤ 243 + 9 * y + 8 → ¬ (a = 243 + 9 * y ∧ j = 3) → G2 a j = G a j := fun a j y1 y2 y3 => by
          rw [g4 a j (by omega) (fun z => by obtain ⟨_, x, z1, z2, z3⟩ := z; omega), z1 a j (by omega)]
        have e3 := g3 y (Nat.zero_le _) hy
        rw [z1 _ _ (by omega), z1 _ _ (by omega)] at e3
        refine ⟨Yr.ge (Nat.le_refl _) (fun _ _ => rfl) sf ⟨zy _ _ (by omega) (by omega) (by omega), zy _ _ (by omega) (by omega) (by omega), fun j _ _ => zy _ _ (by omega) (by omega) (by omega)⟩, ⟨fun p hp => by rw [zy _ _ (by omega) (by omega) (by omega)]; exact Yw p hp, fun c hc => by rw [zy _ _ (by omega) (by omega) (by omega)]; exact Yc c hc⟩, by rw [zy _ _ (by omega) (by omega) (by omega)]; exact Ye, ⟨s, Yp1, ?_⟩, Yt.ge (Nat.le_refl _) (fun _ _ => rfl) sf (fun c _ => ⟨zy _ _ (by omega) (by omega) (by omega), zy _ _ (by omega) (by omega) (by omega)⟩), ?_, fun hne => ?_⟩
        · obtain ⟨w1, w2, w3⟩ := Yp2
          refine ⟨by rw [zy _ _ (by omega) (by omega) (by omega)]; exact w1, w2, fun x hx => ?_⟩
          obtain ⟨v1, v2, v3⟩ := w3 x hx
          exact ⟨by rw [zy _ _ (by omega) (by omega) (by omega)]; exact v1, by rw [zy _ _ (by omega) (by omega) (by omega)]; exact v2, fun c hc => by rw [zy _ _ (by omega) (by omega) (by omega)]; exact v3 c hc⟩
        · show G2 (243 + 9 * y) 3 = (fkL (hr : Int) (((lns hr).2.1.1 + i : Nat) : Int) (lns y).2.2.2.2).1
          rw [e3, Y3]
          unfold fkL
          by_cases q : (lns y).2.2.2.2.1 = (hr : Int)
          · rw [Y4 (by omega)]
            by_cases w : (((lns hr).2.1.1 + i : Nat) : Int) < (lns y).2.2.2.2.2
            · rw [if_pos ⟨q, w⟩, if_pos ⟨q, w⟩]
            · rw [if_neg (fun z => w z.2), if_neg (fun z => w z.2)]
          · rw [if_neg (fun z => q z.1), if_neg (fun z => q z.1)]
        · rw [zy _ _ (by omega) (by omega) (by omega)]
          have hne' : ¬ (fkL (hr : Int) (((lns hr).2.1.1 + i : Nat) : Int) (lns y).2.2.2.2).1 = -1 := hne
          show G (243 + 9 * y) 4 = (fkL (hr : Int) (((lns hr).2.1.1 + i : Nat) : Int) (lns y).2.2.2.2).2
          unfold fkL at hne' ⊢
          by_cases q : (lns y).2.2.2.2.1 = (hr : Int) ∧ (((lns hr).2.1.1 + i : Nat) : Int) < (lns y).2.2.2.2.2
          · rw [if_pos q]; exact Y4 (by omega)
          · rw [if_neg q] at hne' ⊢; exact Y4 hne'
    · show cEe _ _ _ _ _ (if _ then _ else _)
      rw [if_pos rfl]
      exact ⟨fun _ => g2, fun z => absurd z (by show ¬ (false = true); decide)⟩
  · refine ⟨G, ?_, by rw [el]; exact hh.ge (Nat.le_succ n) (Nat.le_refl _) (fun _ _ => rfl) a2 (fun _ _ _ _ => rfl)⟩
    unfold c186
    rw [o_gr (y := 220) (s64 a1) (p64_5 a2), Option.bind_some, g6, Option.bind_some, o_ar (s220 a1) (by decide) c1 pl', Option.bind_some, i3, Option.bind_some, k_6 ls.1 l1 l2, Option.bind_some, if_neg (show ¬ ¬ (if (((lns hr).2.1.1 : Int) ≤ r ∧ r ≤ (((lns hr).2.1.1 + (lns hr).2.1.2.1 : Nat) : Int)) then (1 : Int) else 0) = 0 by rw [if_neg i1]; decide)]
end
end
section
/-! THE CLASS: branch() -/
section
variable {f A hr n sl ln tk : Nat} {S : Nat → Nat × Nat × Nat} {G G' : xG_} {m : Nat × Nat} {T : List (List Int)} {P : Nat → Nat} {l : sLn} {lns : Nat → sLn} {tx : List Int} {kp : Nat × List (List Int)} {mt : Int × List Int} {pl rf : Int} {H : Nat → sMo} {b k ed : Nat}
theorem cRo.cut2 {i : Nat} (h : cRo T S G A P ln H b k ed) (hi : i ≤ k) (hG : xSf A G G') (e1 : G' tk 1 = ((b + i : Nat) : Int)) (e2 : G' tk 2 = (b : Int)) (em : ∀ j, b ≤ j → j ≤ b + i → G' (tk + 1) j = G (ln + 1) j) : cRo T S G' A P tk H b i (ed - (hCat (hEg H) (b + i) (k - i)).length) := by
  obtain ⟨⟨h1, h2⟩, mp, h3, h4⟩ := h
  have gm : ∀ r, b ≤ r → r ≤ b + k → ∀ j, G' (mp r) j = G (mp r) j := fun r r1 r2 j => by
    obtain ⟨_, ⟨s, M, rp, xr, cr, tp, ac, to, _, _, _, _, _, _, ⟨z, _⟩, _⟩, _⟩ := h3 r r1 r2
    exact hG _ _ z.1 (.inr z.2)
  refine ⟨⟨e1, e2⟩, mp, fun r r1 r2 => ?_, fun r r1 r2 => ?_⟩
  · obtain ⟨a1, a2, x, a3, a4⟩ := h3 r r1 (by omega)
    refine ⟨by rw [em r r1 r2]; exact a1, a2.ge (Nat.le_refl _) (fun _ _ => rfl) hG, x, by rw [gm r r1 (by omega)]; exact a3, ?_⟩
    have e3 : b + k - r = (b + i - r) + (k - i) := by omega
    rw [e3, hCat_split, List.length_append] at a4
    have e4 : r + (b + i - r) = b + i := by omega
    rw [e4] at a4
    omega
  · have := h4 r r1 (by omega)
    rw [gm r (by omega) (by omega), gm r (by omega) (by omega), gm r (by omega) (by omega)]
    exact this
/-- become() -/
theorem k_13 {r : Nat} {mp : Nat → Nat} (hf : 600 < f) (ls : lnSt S ln) (lt : lnSt S tk) (hln : 242 < ln ∧ ln + 8 < 279) (htk : 242 < tk ∧ tk + 8 < 279) (hd : ln + 8 < tk ∨ tk + 8 < ln) (hr : r < 520) (hm : ∀ j, b ≤ j → j ≤ r → S (mp j) = (1, 2, 8)) :
    ∀ (d x fu : Nat) (Z : xG_), x + d = r + 1 → d < fu → b ≤ x → lnPt Z ln → lnPt Z tk → Z ln 2 = (b : Int) → (∀ j, b ≤ j → j ≤ r → Z (ln + 1) j = (mp j : Int)) → (∀ j, b ≤ j → j < x → Z (tk + 1) j = (mp j : Int)) →
    ∃ G', c13_5 f fu tk ln (r : Int) (x : Int) (S, Z, m) = some (S, G', m) ∧ (∀ a j, ¬ (a = tk ∧ (j = 1 ∨ j = 2 ∨ j = 7 ∨ j = 8)) → a ≠ tk + 1 → a ≠ tk + 2 → a ≠ tk + 3 → a ≠ tk + 7 → a ≠ tk + 8 → G' a j = Z a j) ∧ G' tk 1 = (r : Int) ∧ G' tk 2 = (b : Int) ∧ (∀ j, b ≤ j → j ≤ r → G' (tk + 1) j = (mp j : Int)) ∧ (∀ p, p < 16 → G' (tk + 2) p = 0) ∧ (∀ c, c < 72 → G' (tk + 3) c = 0) ∧ G' tk 7 = 0 ∧ G' tk 8 = 0 ∧ ∀ y, y < 72 → G' (tk + 7) y = 0 ∧ G' (tk + 8) y = 0 := by
  intro d
  induction d with
  | zero =>
    intro x fu Z e1 e2 hb lpl lpt h2 hl hz
    obtain ⟨fu, rfl⟩ : ∃ t, fu = t + 1 := ⟨fu - 1, by omega⟩
    have zz : ∀ a j, ¬ (a = tk ∧ (j = 1 ∨ j = 2)) → xup2 (xup2 Z tk 1 (r : Int)) tk 2 (b : Int) a j = Z a j := fun a j y => by rw [xup2_n (by omega), xup2_n (by omega)]
    have z1 : xup2 (xup2 Z tk 1 (r : Int)) tk 2 (b : Int) tk 1 = (r : Int) := by rw [xup2_n (by omega), xup2_s]
    have z2 : xup2 (xup2 Z tk 1 (r : Int)) tk 2 (b : Int) tk 2 = (b : Int) := xup2_s _ _ _ _
    have z0 : xup2 Z tk 1 (r : Int) ln 2 = (b : Int) := by rw [xup2_n (by omega)]; exact h2
    obtain ⟨G1, p1, p2, p3⟩ := k_382f (f := f) (m := m) (G := xup2 (xup2 Z tk 1 (r : Int)) tk 2 (b : Int)) (v := 0) (by omega) (by decide) lt.2.2.1
    obtain ⟨G2, q1, q2, q3⟩ := k_382f (f := f) (m := m) (G := G1) (v := 0) (by omega) (by decide) lt.2.2.2.1
    have hz2 : ∀ a j, ¬ (a = tk ∧ (j = 1 ∨ j = 2)) → a ≠ tk + 2 → a ≠ tk + 3 → G2 a j = Z a j := fun a j y1 y2 y3 => by rw [q3 a j y3, p3 a j y2, zz a j y1]
    have lp2 : lnPt G2 tk := by
      obtain ⟨h0, h1, h2, h3, h4, h5, h6, h7⟩ := lpt
      exact ⟨by rw [hz2 _ _ (by omega) (by omega) (by omega)]; exact h0, by rw [hz2 _ _ (by omega) (by omega) (by omega)]; exact h1, by rw [hz2 _ _ (by omega) (by omega) (by omega)]; exact h2, by rw [hz2 _ _ (by omega) (by omega) (by omega)]; exact h3, by rw [hz2 _ _ (by omega) (by omega) (by omega)]; exact h4, by rw [hz2 _ _ (by omega) (by omega) (by omega)]; exact h5, by rw [hz2 _ _ (by omega) (by omega) (by omega)]; exact h6, by rw [hz2 _ _ (by omega) (by omega) (by omega)]; exact h7⟩
    obtain ⟨G3, k1, k2, k3, k4, k5⟩ := k_7 (f := f) (m := m) (by omega) lt lp2
    have i1 : cq_is 1 14 tk (S, G2, m) = some () := if_pos lt.1
    refine ⟨G3, ?_, fun a j y1 y2 y3 y4 y5 y6 => by rw [k2 a j (by omega) y5 y6, hz2 a j (by omega) y3 y4], ?_, ?_, fun j y1 y2 => ?_, fun p hp => ?_, fun c hc => ?_, k3, k4, k5⟩
    · show c13_5b (c13_5 f fu) f _ _ _ _ _ = _
      unfold c13_5b
      rw [if_pos (by omega), o_p lt.1, Option.bind_some, o_gi ls.1, Option.bind_some, z0, o_p lt.1, Option.bind_some, o_gr lt.1 (show _ = ((tk + 2 : Nat) : Int) by rw [zz _ _ (by omega)]; exact lpt.2.1), Option.bind_some, p1, Option.bind_some, o_gr lt.1 (show _ = ((tk + 3 : Nat) : Int) by rw [p3 _ _ (by omega), zz _ _ (by omega)]; exact lpt.2.2.1), Option.bind_some, q1, Option.bind_some, i1, Option.bind_some, k1, Option.bind_some]
    · rw [k2 _ _ (by omega) (by omega) (by omega), q3 _ _ (by omega), p3 _ _ (by omega)]; exact z1
    · rw [k2 _ _ (by omega) (by omega) (by omega), q3 _ _ (by omega), p3 _ _ (by omega)]; exact z2
    · rw [k2 _ _ (by omega) (by omega) (by omega), hz2 _ _ (by omega) (by omega) (by omega)]; exact hz j y1 (by omega)
    · rw [k2 _ _ (by omega) (by omega) (by omega), q3 _ _ (by omega)]; exact p2 p hp
    · rw [k2 _ _ (by omega) (by omega) (by omega)]; exact q2 c hc
  | succ d ih =>
    intro x fu Z e1 e2 hb lpl lpt h2 hl hz
    obtain ⟨fu, rfl⟩ : ∃ t, fu = t + 1 := ⟨fu - 1, by omega⟩
    have zz : ∀ a j, ¬ (a = tk + 1 ∧ j = x) → xup2 Z (tk + 1) x (mp x : Int) a j = Z a j := fun a j y => xup2_n y
    have w : xwr ((x : Int) + 1) = ((x + 1 : Nat) : Int) := by rw [xwr_g _ (by omega) (by omega)]; omega
    obtain ⟨G', k1, k2, k3⟩ := ih (x + 1) fu (xup2 Z (tk + 1) x (mp x : Int)) (by omega) (by omega) (by omega) (lnPt_of' lpl (fun j => zz _ _ (by omega))) (lnPt_of' lpt (fun j => zz _ _ (by omega))) (by rw [zz _ _ (by omega)]; exact h2) (fun j y1 y2 => by rw [zz _ _ (by omega)]; exact hl j y1 y2) (fun j y1 y2 => by
      by_cases c : j = x
      · rw [c, xup2_s]
      · rw [zz _ _ (by omega)]; exact hz j y1 (by omega))
    refine ⟨G', ?_, fun a j y1 y2 y3 y4 y5 y6 => by rw [k2 a j y1 y2 y3 y4 y5 y6, zz a j (by omega)], k3⟩
    show c13_5b (c13_5 f fu) f _ _ _ _ _ = _
    unfold c13_5b
    rw [if_neg (by omega), o_gr lt.1 lpt.1, Option.bind_some, o_gr ls.1 lpl.1, Option.bind_some, o_ar ls.2.1 (by decide) (by omega) (hl x hb (by omega)), Option.bind_some, o_sr7 lt.2.1 (by omega) (hm x hb (by omega)), Option.bind_some, w]
    exact k1
/-- forks of lines behind branch() -/
theorem k_187l {x r : Nat} (hs : cSs S) (hr4 : hr < 4) (hx : x < 4) : ∀ (d i fu : Nat) (G : xG_), i + d = 4 → d < fu → cPs G → G 64 6 = (hr : Int) → ∃ G', c187_51 f fu 64 (x : Int) (r : Int) (i : Int) (S, G, m) = some ((r : Int), (S, G', m)) ∧ (G' (243 + 9 * x) 3 = (hr : Int) ∧ G' (243 + 9 * x) 4 = (r : Int)) ∧ (∀ y, i ≤ y → y < 4 → y ≠ x → G' (243 + 9 * y) 3 = if G (243 + 9 * y) 3 = (x : Int) then -1 else G (243 + 9 * y) 3) ∧ ∀ a j, ¬ (a = 243 + 9 * x ∧ (j = 3 ∨ j = 4)) → ¬ (j = 3 ∧ ∃ y, i ≤ y ∧ y < 4 ∧ a = 243 + 9 * y) → G' a j = G a j := by
  have lx := lnSt_of hs hx
  intro d
  induction d with
  | zero =>
    intro i fu G e1 e2 hp h6
    obtain ⟨fu, rfl⟩ : ∃ t, fu = t + 1 := ⟨fu - 1, by omega⟩
    have px := p_ln hp hx
    have hp1 : cPs (xup2 G (243 + 9 * x) 3 (hr : Int)) := hp.ge (fun a j hz => xup2_n (by
          rcases hz with z | z | z | z | z | z | z | ⟨z, z1, z2, k, z3⟩ | z | z | z | ⟨k, z1, z2, z3⟩ <;> omega))
    have g6 : cq_gi 11 6 17 64 (S, G, m) = some (hr : Int) := by rw [o_gi (s64 hs), h6]
    refine ⟨xup2 (xup2 G (243 + 9 * x) 3 (hr : Int)) (243 + 9 * x) 4 (r : Int), ?_, ⟨by rw [xup2_n (by omega), xup2_s], xup2_s _ _ _ _⟩, fun y y1 y2 => by omega, fun a j y1 y2 => by rw [xup2_n (by omega), xup2_n (by omega)]⟩
    show c187_51b (c187_51 f fu) f _ _ _ _ _ = _
    unfold c187_51b
    rw [if_pos (by omega), o_gr (y := 220) (s64 hs) (p64_5 hp), Option.bind_some, o_ar (s220 hs) (by decide) hx px, Option.bind_some, g6, Option.bind_some, o_p lx.1, Option.bind_some, o_gr (y := 220) (s64 hs) (p64_5 hp1), Option.bind_some, o_ar (s220 hs) (by decide) hx (p_ln hp1 hx), Option.bind_some, o_p lx.1, Option.bind_some]
  | succ d ih =>
    intro i fu G e1 e2 hp h6
    obtain ⟨fu, rfl⟩ : ∃ t, fu = t + 1 := ⟨fu - 1, by omega⟩
    have hi : i < 4 := by omega
    have ls := lnSt_of hs hi
    have pl := p_ln hp hi
    have w : xwr ((i : Int) + 1) = ((i + 1 : Nat) : Int) := by rw [xwr_g _ (by omega) (by omega)]; omega
    by_cases c1 : G (243 + 9 * i) 3 = (x : Int)
    · have z : ∀ a j, ¬ (a = 243 + 9 * i ∧ j = 3) → xup2 G (243 + 9 * i) 3 (-1) a j = G a j := fun a j y => xup2_n y
      obtain ⟨G', k1, k2, k3, k4⟩ := ih (i + 1) fu (xup2 G (243 + 9 * i) 3 (-1)) (by omega) (by omega) (hp.ge (fun a j hz => z a j (by
          rcases hz with z | z | z | z | z | z | z | ⟨z, z1, z2, k, z3⟩ | z | z | z | ⟨k, z1, z2, z3⟩ <;> omega))) (by rw [z _ _ (by omega)]; exact h6)
      refine ⟨G', ?_, k2, fun y y1 y2 y3 => ?_, fun a j y1 y2 => ?_⟩
      · show c187_51b (c187_51 f fu) f _ _ _ _ _ = _
        unfold c187_51b c187_82
        rw [if_neg (by omega), o_gr (y := 220) (s64 hs) (p64_5 hp), Option.bind_some, o_ar (s220 hs) (by decide) hi pl, Option.bind_some, o_gi ls.1, Option.bind_some, if_neg (fun z => z c1), Option.bind_some, o_ar (s220 hs) (by decide) hi pl, Option.bind_some, o_p ls.1, Option.bind_some, w]
        exact k1
      · by_cases c : y = i
        · subst c
          rw [if_pos c1, k4 _ _ (by omega) (fun z => by obtain ⟨_, x, z1, z2, z3⟩ := z; omega), xup2_s]
        · rw [k3 y (by omega) y2 y3, z _ _ (by omega)]
      · rw [k4 a j y1 (fun w => y2 ⟨w.1, by obtain ⟨y, z1, z2, z3⟩ := w.2; exact ⟨y, by omega, z2, z3⟩⟩), z a j (fun w => y2 ⟨w.2, i, Nat.le_refl _, hi, w.1⟩)]
    · obtain ⟨G', k1, k2, k3, k4⟩ := ih (i + 1) fu G (by omega) (by omega) hp h6
      refine ⟨G', ?_, k2, fun y y1 y2 y3 => ?_, fun a j y1 y2 => k4 a j y1 (fun z => y2 ⟨z.1, by obtain ⟨y, z1, z2, z3⟩ := z.2; exact ⟨y, by omega, z2, z3⟩⟩)⟩
      · show c187_51b (c187_51 f fu) f _ _ _ _ _ = _
        unfold c187_51b c187_82
        rw [if_neg (by omega), o_gr (y := 220) (s64 hs) (p64_5 hp), Option.bind_some, o_ar (s220 hs) (by decide) hi pl, Option.bind_some, o_gi ls.1, Option.bind_some, if_pos c1, w]
        exact k1
      · by_cases c : y = i
        · subst c
          rw [if_neg c1]
          exact k4 _ _ (by omega) (fun z => by obtain ⟨_, x, z1, z2, z3⟩ := z; omega)
        · exact k3 y (by omega) y2 y3
/-- branch() -/
theorem k_187 {k r v : Int} {lns' : Nat → sLn} (hf : 600 < f) (h : cHs S G A (T, lns, hr, tx, kp, mt, pl, rf) n) (hb : (lns hr).2.1.1 + (lns hr).2.1.2.1 < 520) (hF : ∀ y, y < 4 → (lns y).2.2.2.2.1 = -1 ∨ 0 ≤ (lns y).2.2.2.2.2) (hst : stBr lns hr k r v lns') : ∃ G', c187 f 64 k r (S, G, m) = some (v, (S, G', m)) ∧ cHs S G' A (T, lns', hr, tx, kp, mt, pl, rf) (n + 1) := by
  have hh := h
  obtain ⟨⟨a1, a2, a3, a4⟩, ⟨P, b1, b2, b3⟩, ⟨c1, c2⟩, ⟨c3, c4⟩, c5, c6, c7, c8, c9⟩ := h
  have ls := lnSt_of a1 c1
  have lp := lnPt_of a2 c1
  have pl' := p_ln a2 c1
  have L := b2 hr c1
  obtain ⟨Lr, _⟩ := id L
  obtain ⟨⟨l1, l2⟩, mp, l3, l4⟩ := id Lr
  have g6 : cq_gi 11 6 17 64 (S, G, m) = some (hr : Int) := by rw [o_gi (s64 a1), c2]
  have i3 : cq_is 1 14 (243 + 9 * hr) (S, G, m) = some () := if_pos ls.1
  have h35 : c187_35 f (S, G, m) = some (-1, (S, G, m)) := rfl
  have e0 : c187 f 64 k r (S, G, m) = (if k < 0 then c187_35 f (S, G, m) else (if (4) ≤ k then c187_35 f (S, G, m) else (if k = (hr : Int) then c187_35 f (S, G, m) else (if ¬ (if (((lns hr).2.1.1 : Int) ≤ r ∧ r ≤ (((lns hr).2.1.1 + (lns hr).2.1.2.1 : Nat) : Int)) then (1 : Int) else 0) = 0 then ((cq_ar 220 k (S, G, m)).bind fun v158 => ((cq_is 1 14 (v158) (S, G, m)).bind fun _ => ((c13 f (v158) (243 + 9 * hr) r (S, G, m)).bind fun R160 => c187_51 f f 64 k r (0) R160))) else c187_35 f (S, G, m))))) := by
    unfold c187
    rw [g6, o_gr (y := 220) (s64 a1) (p64_5 a2), Option.bind_some, Option.bind_some, o_ar (s220 a1) (by decide) c1 pl', Option.bind_some, Option.bind_some, i3, Option.bind_some, k_6 ls.1 l1 l2, Option.bind_some, o_gr (y := 220) (s64 a1) (p64_5 a2), Option.bind_some]
  rcases hst with ⟨k1, k2, k3, i, i1, rfl, rfl, rfl⟩ | ⟨i1, rfl, el⟩
  · obtain ⟨x, rfl⟩ : ∃ x : Nat, k = (x : Int) := ⟨k.toNat, by omega⟩
    have hx : x < 4 := by omega
    have hxn : x ≠ hr := by omega
    have lt := lnSt_of a1 hx
    have lpt := lnPt_of a2 hx
    have ix : cq_is 1 14 (243 + 9 * x) (S, G, m) = some () := if_pos lt.1
    obtain ⟨G1, u1, u2, u3, u4, u5, u6, u7, u8, u9, u10⟩ := k_13 (f := f) (m := m) (r := (lns hr).2.1.1 + i) (b := (lns hr).2.1.1) (mp := mp) hf ls lt (by omega) (by omega) (by omega) (by omega) (fun j y1 y2 => by
      obtain ⟨_, m2, _⟩ := l3 j y1 (by omega)
      obtain ⟨s1, M1, is1⟩ := m2.is
      obtain ⟨_, _, _, _, r1, _⟩ := m2.pm b1 is1
      exact r1.1) (i + 1) (lns hr).2.1.1 f G (by omega) (by omega) (Nat.le_refl _) lp lpt l2 (fun j y1 y2 => (l3 j y1 (by omega)).1) (fun j y1 y2 => by omega)
    have z1 : ∀ a j, ¬ (243 + 9 * x ≤ a ∧ a ≤ 243 + 9 * x + 8) → G1 a j = G a j := fun a j y => u2 a j (by omega) (by omega) (by omega) (by omega) (by omega) (by omega)
    have hp1 : cPs G1 := a2.ge (fun a j hz => u2 a j (by
        rcases hz with z | z | z | z | z | z | z | ⟨z, z1, z2, k, z3⟩ | z | z | z | ⟨k, z1, z2, z3⟩ <;> omega) (by
        rcases hz with z | z | z | z | z | z | z | ⟨z, z1, z2, k, z3⟩ | z | z | z | ⟨k, z1, z2, z3⟩ <;> omega) (by
        rcases hz with z | z | z | z | z | z | z | ⟨z, z1, z2, k, z3⟩ | z | z | z | ⟨k, z1, z2, z3⟩ <;> omega) (by
        rcases hz with z | z | z | z | z | z | z | ⟨z, z1, z2, k, z3⟩ | z | z | z | ⟨k, z1, z2, z3⟩ <;> omega) (by
        rcases hz with z | z | z | z | z | z | z | ⟨z, z1, z2, k, z3⟩ | z | z | z | ⟨k, z1, z2, z3⟩ <;> omega) (by
        rcases hz with z | z | z | z | z | z | z | ⟨z, z1, z2, k, z3⟩ | z | z | z | ⟨k, z1, z2, z3⟩ <;> omega))
    obtain ⟨G2, g1, ⟨g2, g2'⟩, g3, g4⟩ := k_187l (f := f) (m := m) (x := x) (r := (lns hr).2.1.1 + i) a1 c1 hx 4 0 f G1 (by omega) (by omega) hp1 (by rw [z1 _ _ (by omega)]; exact c2)
    have z2 : ∀ a j, ¬ ((j = 3 ∨ j = 4) ∧ 243 ≤ a ∧ a ≤ 278) → G2 a j = G1 a j := fun a j y2 => g4 a j (by omega) (fun z => by obtain ⟨zj, y, z1, z2, z3⟩ := z; omega)
    have z3 : ∀ a j, (∀ y, y < 4 → a ≠ 243 + 9 * y) → G2 a j = G1 a j := fun a j y2 => g4 a j (fun z => y2 x hx z.1) (fun z => by obtain ⟨zj, y, z1, z2, z3⟩ := z; exact y2 y z2 z3)
    have zz : ∀ a j, ¬ (243 ≤ a ∧ a ≤ 278) → G2 a j = G a j := fun a j y2 => by rw [z2 a j (by omega), z1 a j (by omega)]
    have sf : xSf A G G2 := fun a j y1 y2 => zz a j (by omega)
    refine ⟨G2, ?_, ⟨⟨a1, hp1.ge (fun a j hz => z2 a j (by
        rcases hz with z | z | z | z | z | z | z | ⟨z, z1, z2, k, z3⟩ | z | z | z | ⟨k, z1, z2, z3⟩ <;> omega)), a3.ge (fun a j y1 y2 => zz a j (by omega)), a4⟩, ⟨P, b1.ge (Nat.le_refl _) (fun _ _ => rfl) sf (by rw [zz _ _ (by omega)]; exact Int.le_refl _), fun y hy => ?_, ?_⟩, ⟨c1, by rw [zz _ _ (by omega)]; exact c2⟩, ⟨by rw [zz _ _ (by omega)]; exact c3, by rw [zz _ _ (by omega)]; omega⟩, by rw [zz _ _ (by omega)]; exact c5, by rw [zz _ _ (by omega)]; exact c6, c7.ge (zz _ _ (by omega)) (fun p => zz _ _ (by omega)), c8.ge (fun _ _ => rfl) (fun a j y1 y2 => zz a j (by omega)) ⟨zz _ _ (by omega), zz _ _ (by omega)⟩, c9.ge ⟨zz _ _ (by omega), zz _ _ (by omega)⟩ (fun j => zz _ _ (by omega))⟩⟩
    · have e13 : c13 f (243 + 9 * x) (243 + 9 * hr) (((lns hr).2.1.1 + i : Nat) : Int) (S, G, m) = some (S, G1, m) := by
        unfold c13
        rw [o_gi ls.1, Option.bind_some, l2]
        exact u1
      rw [e0, if_neg (by omega), if_neg (by omega), if_neg (by omega), if_pos (show ¬ (if (((lns hr).2.1.1 : Int) ≤ (((lns hr).2.1.1 + i : Nat) : Int) ∧ (((lns hr).2.1.1 + i : Nat) : Int) ≤ (((lns hr).2.1.1 + (lns hr).2.1.2.1 : Nat) : Int)) then (1 : Int) else 0) = 0 by rw [if_pos (by omega)]; decide), o_ar (s220 a1) (by decide) hx (p_ln a2 hx), Option.bind_some, ix, Option.bind_some, e13, Option.bind_some]
      exact g1
    · show cLn _ _ _ _ _ _ (if _ then _ else _)
      rw [Int.toNat_natCast]
      by_cases d : y = x
      · subst d
        rw [if_pos rfl]
        obtain ⟨_, m2, _⟩ := l3 _ (Nat.le_add_right _ i) (by omega)
        obtain ⟨s1, M1, is1⟩ := m2.is
        exact ⟨Lr.cut2 i1 sf (by rw [z2 _ _ (by omega)]; exact u3) (by rw [z2 _ _ (by omega)]; exact u4) (fun j (y1 : (lns hr).2.1.1 ≤ j) (y2 : j ≤ (lns hr).2.1.1 + i) => by rw [z3 _ _ (fun y hy => by omega), u5 j y1 y2]; exact (l3 j y1 (by omega)).1.symm), ⟨fun p hp => by rw [z3 _ _ (fun y hy => by omega)]; exact u6 p hp, fun c hc => by rw [z3 _ _ (fun y hy => by omega)]; exact u7 c hc⟩, .inl ⟨rfl, by rw [z2 _ _ (by omega)]; exact u8⟩, ⟨s1, is1.2.1, cPn.nil (by rw [z2 _ _ (by omega)]; exact u9)⟩, cCt.nil (fun c hc => by
          rw [z3 _ _ (fun y hy => by omega), z3 _ _ (fun y hy => by omega)]
          exact u10 c hc), g2, fun _ => g2'⟩
      · rw [if_neg d]
        obtain ⟨Yr, ⟨Yw, Yc⟩, Ye, ⟨s, Yp1, Yp2⟩, Yt, Y3, Y4⟩ := b2 y hy
        have zy : ∀ a j, 243 + 9 * y ≤ a → a ≤ 243 + 9 * y + 8 → ¬ (a = 243 + 9 * y ∧ j = 3) → G2 a j = G a j := fun a j y1 y2 y3 => by
          rw [g4 a j (by omega) (fun z => by obtain ⟨_, x, z1, z2, z3⟩ := z; omega), z1 a j (by omega)]
        have e3 := g3 y (Nat.zero_le _) hy d
        rw [z1 _ _ (by omega)] at e3
        refine ⟨Yr.ge (Nat.le_refl _) (fun _ _ => rfl) sf ⟨zy _ _ (by omega) (by omega) (by omega), zy _ _ (by omega) (by omega) (by omega), fun j _ _ => zy _ _ (by omega) (by omega) (by omega)⟩, ⟨fun p hp => by rw [zy _ _ (by omega) (by omega) (by omega)]; exact Yw p hp, fun c hc => by rw [zy _ _ (by omega) (by omega) (by omega)]; exact Yc c hc⟩, by rw [zy _ _ (by omega) (by omega) (by omega)]; exact Ye, ⟨s, Yp1, ?_⟩, Yt.ge (Nat.le_refl _) (fun _ _ => rfl) sf (fun c _ => ⟨zy _ _ (by omega) (by omega) (by omega), zy _ _ (by omega) (by omega) (by omega)⟩), ?_, fun hne => ?_⟩
        · obtain ⟨w1, w2, w3⟩ := Yp2
          refine ⟨by rw [zy _ _ (by omega) (by omega) (by omega)]; exact w1, w2, fun x hx => ?_⟩
          obtain ⟨v1, v2, v3⟩ := w3 x hx
          exact ⟨by rw [zy _ _ (by omega) (by omega) (by omega)]; exact v1, by rw [zy _ _ (by omega) (by omega) (by omega)]; exact v2, fun c hc => by rw [zy _ _ (by omega) (by omega) (by omega)]; exact v3 c hc⟩
        · show G2 (243 + 9 * y) 3 = (fkL (x : Int) (-1) (lns y).2.2.2.2).1
          rw [e3, Y3]
          unfold fkL
          by_cases q : (lns y).2.2.2.2.1 = (x : Int)
          · have : -1 < (lns y).2.2.2.2.2 := by
              rcases hF y hy with z | z
              · omega
              · omega
            rw [if_pos q, if_pos ⟨q, this⟩]
          · rw [if_neg q, if_neg (fun z => q z.1)]
        · rw [zy _ _ (by omega) (by omega) (by omega)]
          have hne' : ¬ (fkL (x : Int) (-1) (lns y).2.2.2.2).1 = -1 := hne
          show G (243 + 9 * y) 4 = (fkL (x : Int) (-1) (lns y).2.2.2.2).2
          unfold fkL at hne' ⊢
          by_cases q : (lns y).2.2.2.2.1 = (x : Int) ∧ -1 < (lns y).2.2.2.2.2
          · rw [if_pos q]; exact Y4 (by omega)
          · rw [if_neg q] at hne' ⊢; exact Y4 hne'
    · show cEe _ _ _ _ _ (if _ then _ else _)
      rw [Int.toNat_natCast, if_neg (fun z => hxn z.symm)]
      exact b3.ge (Nat.le_refl _) (fun _ _ => rfl) sf ⟨zz _ _ (by omega), zz _ _ (by omega)⟩
  · refine ⟨G, ?_, by rw [el]; exact hh.ge (Nat.le_succ n) (Nat.le_refl _) (fun _ _ => rfl) a2 (fun _ _ _ _ => rfl)⟩
    rw [e0, h35]
    by_cases q1 : k < 0
    · rw [if_pos q1]
    by_cases q2 : 4 ≤ k
    · rw [if_neg q1, if_pos q2]
    by_cases q3 : k = (hr : Int)
    · rw [if_neg q1, if_neg q2, if_pos q3]
    · rw [if_neg q1, if_neg q2, if_neg q3, if_neg (show ¬ ¬ (if (((lns hr).2.1.1 : Int) ≤ r ∧ r ≤ (((lns hr).2.1.1 + (lns hr).2.1.2.1 : Nat) : Int)) then (1 : Int) else 0) = 0 by rw [if_neg (fun z => i1 ⟨by omega, by omega, q3, z⟩)]; decide)]
end
end
section
/-! THE CLASS: program() and cell() in the house -/
theorem qPrg_u {t : List Int} {v a v' a' : Int} (h : qPrg t v a) (h' : qPrg t v' a') : v = v' ∧ a = a' := by
  unfold qPrg at h h'
  cases hq : qPr t with
  | inl w =>
    rw [hq] at h h'
    exact ⟨h.1.trans h'.1.symm, h.2.trans h'.2.symm⟩
  | inr s =>
    rw [hq] at h h'
    obtain ⟨z, z1, z2, z3⟩ := h
    obtain ⟨y, y1, y2, y3⟩ := h'
    have e1 := z2 y a' y1
    have e2 := y2 z a z1
    have e3 : z = y ∧ a = a' := by omega
    exact ⟨by rw [z3, y3, e3.1], e3.2⟩
theorem qPrg_n {t : List Int} {v a : Int} {s : pPg} (h : qPrg t v a) (hs : qPr t = .inr s) (hn : ∀ k a, ¬ pFa s 0 k a) : False := by
  unfold qPrg at h
  rw [hs] at h
  obtain ⟨z, z1, _⟩ := h
  exact hn _ _ z1
section
variable {f A A' hr n sl ln : Nat} {S S' : Nat → Nat × Nat × Nat} {G G' : xG_} {m : Nat × Nat} {T : List (List Int)} {P P' : Nat → Nat} {l : sLn} {lns : Nat → sLn} {tx t : List Int} {kp : Nat × List (List Int)} {mt : Int × List Int} {pl rf : Int}
theorem cLn.app (t : List Int) (h : cLn T S G A P ln l) (hE : cEd T S G A P) (hW : ceOk T l.2.2.2.1.2.2) (hP : ∀ e, e < T.length → P' e = P e) : cLn (T ++ [t]) S G A P' ln l := by
  obtain ⟨s0, M0, hm⟩ := h.mo
  obtain ⟨h1, h2, h4, ⟨s, h5, h6⟩, h7, h8⟩ := h
  have hT : 0 < T.length := Nat.lt_of_le_of_lt (Nat.zero_le _) hm.1
  have hl : lnE l < T.length := by
    unfold lnE
    rcases h4 with ⟨e, _⟩ | ⟨e1, e2, _⟩
    · rw [if_pos e]; exact hm.1
    · rw [if_neg (by omega)]; exact (hE.1 _ e2).1
  refine ⟨h1.app t hP, h2, ?_, ⟨s, by rw [getD_app _ hl]; exact h5, h6⟩, h7.app t (fun c hc => ?_), h8⟩
  · rcases h4 with z | ⟨e1, e2, e3⟩
    · exact .inl z
    · have e4 := hP _ (hE.1 _ e2).1
      exact .inr ⟨e1, by rw [e4]; exact e2, by rw [e4]; exact e3⟩
  · rcases hW c with z | z
    · rw [z]; exact hT
    · exact z.2.1
theorem cTx.nil (h : G 65 1 = 0) : cTx G (tBt []) ([] : List Int).length := ⟨h, Nat.zero_le _, fun p => ⟨fun hp => absurd hp (Nat.not_lt_zero p), fun _ => rfl⟩, fun p hp => absurd hp (Nat.not_lt_zero p)⟩
/-- program() -/
theorem k_pg {v pl' : Int} {T' : List (List Int)} {lns' : Nat → sLn} (hf : 3100 < f) (hn : n ≤ 100000) (h : cHs S G A (T, lns, hr, tx, kp, mt, pl, rf) n) (hW : ∀ y, y < 4 → ceOk T (lns y).2.2.2.1.2.2) (hst : stPg T lns hr tx v pl' T' lns') : ∃ S' G' m', c1000 f 64 (S, G, (A, sl)) = some (v, (S', G', m')) ∧ (A ≤ m'.1 ∧ m'.1 ≤ A + 325 ∧ m'.2 ≤ sl + 10342) ∧ (∀ a, a < A → S' a = S a) ∧ cHs S' G' m'.1 (T', lns', hr, [], kp, mt, pl', rf) (n + 1) := by
  obtain ⟨⟨a1, a2, a3, a4⟩, ⟨P, b1, b2, b3⟩, ⟨c1, c2⟩, ⟨c3, c4⟩, c5, c6, c7, c8, c9⟩ := h
  obtain ⟨v', S', G', m', k1, k2, k3, k4, k5, k6, k7, k8, k9⟩ := k_1000 (f := f) (A := A) (sl := sl) (sn := G 64 7) a1 a2 c7 (by omega) c2 c1 rfl ⟨c3, by omega⟩ hf
  have s1 : cSs S' := fun k hk => by rw [k2 _ (by omega)]; exact a1 k hk
  rcases k9 with ⟨d1, d2⟩ | ⟨s, d1, d2, d3, d4, d5, d6, d7, d8, d9⟩
  · rcases hst with ⟨e1, e2, e3⟩ | ⟨s, e1, e2, _⟩
    · obtain ⟨u1, u2⟩ := qPrg_u d1 e1
      rw [e2, e3, ← u1, ← u2]
      have g : ∀ a j, a < A → (a = 64 ∧ j ≠ 7 ∧ j ≠ 9 ∨ 82 < a) → G' a j = G a j := fun a j y1 y2 => d2 a j y1 (by omega) (by omega)
      have sf : xSf A G G' := fun a j y1 y2 => g a j y1 (by omega)
      refine ⟨S', G', m', k1, ⟨k3, k4, k5⟩, k2, ⟨s1, k6, a3.ge (fun a j y1 y2 => g a j (by omega) (by omega)), by omega⟩, ⟨P, b1.ge k3 k2 sf (by rw [k8]; omega), fun y hy => (b2 y hy).ge k3 k2 sf (fun a j y1 y2 => g a j (by omega) (by omega)), b3.ge k3 k2 sf ⟨g _ _ (by omega) (by omega), g _ _ (by omega) (by omega)⟩⟩, ⟨c1, by rw [g _ _ (by omega) (by omega)]; exact c2⟩, ⟨by omega, by omega⟩, by rw [g _ _ (by omega) (by omega)]; exact c5, rfl, cTx.nil k7, c8.ge (fun a y => k2 a (by omega)) (fun a j y1 y2 => g a j (by omega) (by omega)) ⟨g _ _ (by omega) (by omega), g _ _ (by omega) (by omega)⟩, c9.ge ⟨g _ _ (by omega) (by omega), g _ _ (by omega) (by omega)⟩ (fun j => g _ _ (by omega) (by omega))⟩
    · exact (qPrg_n d1 e1 e2).elim
  · rcases hst with ⟨e1, _⟩ | ⟨s', e1, e2, e3, e4, e5, e6⟩
    · exact (qPrg_n e1 d1 d2).elim
    · have es : s' = s := by
        rw [d1] at e1
        injection e1 with z
        exact z.symm
      subst es
      rw [e5, e6, e4, e3, ← d3]
      have hok : qOk s' := qOk_of c7.2.2.1 c7.2.1 d1 d2
      have g : ∀ a j, a < A → (a = 64 ∧ j ≠ 7 ∧ j ≠ 9 ∨ 82 < a) → ¬ (a = 243 + 9 * hr ∧ (j = 7 ∨ j = 8)) → G' a j = G a j := fun a j y1 y2 y3 => d5 a j y1 (by omega) (by omega) y3
      have sf : xSf A G G' := fun a j y1 y2 => g a j y1 (by omega) (by omega)
      have hP : ∀ e, e < T.length → (fun e => if e = T.length then A else P e) e = P e := fun e he => if_neg (by omega)
      have hPn : (fun e => if e = T.length then A else P e) T.length = A := if_pos rfl
      obtain ⟨P', eP⟩ : ∃ P', P' = (fun e => if e = T.length then A else P e) := ⟨_, rfl⟩
      rw [← eP] at hP hPn
      have pE : cEd T S' G' m'.1 P := b1.ge k3 k2 sf (by rw [k8]; omega)
      have gl : (T ++ [tx]).getD T.length [] = tx := by
        have := getD_apr (l := T) (d := []) [tx] 0
        rw [Nat.add_zero] at this
        exact this
      have gl2 : (T ++ [tx]).length = T.length + 1 := by rw [List.length_append]; rfl
      have ser : ∀ e, P e ≠ 0 → G' (P e) 0 ≤ G 64 7 := fun e he => by
        obtain ⟨_, ⟨_, nq, _, _, q3, q4, q5⟩, _, q7⟩ := b1.1 e he
        have := q3.2.2.2.2.2.2.2.2
        rw [sf _ _ (by omega) (by omega)]
        exact q7
      have pN : ∀ e, P' e ≠ 0 → e = T.length ∨ e < T.length ∧ P' e = P e := fun e he => by
        by_cases q : e = T.length
        · exact .inl q
        · have : P' e = P e := by rw [eP]; exact if_neg q
          rw [this] at he
          exact .inr ⟨(b1.1 e he).1, this⟩
      have qE : cEd (T ++ [tx]) S' G' m'.1 P' := by
        refine ⟨fun e he => ?_, fun e e' he he' hs => ?_⟩
        · rcases pN e he with q | ⟨q1, q2⟩
          · subst q
            rw [hPn, gl2]
            exact ⟨by omega, ⟨s', m'.1, by rw [gl]; exact d1, qOc_of c7.2.2.1 d1 hok, d8, Nat.le_refl _, .inr (by omega)⟩, by rw [d9]; omega, by rw [d9, k8]; exact Int.le_refl _⟩
          · rw [q2] at he ⊢
            obtain ⟨w1, w2, w3, w4⟩ := pE.1 e he
            exact ⟨by omega, w2.app tx q1, w3, w4⟩
        · rcases pN e he with q | ⟨q1, q2⟩
          · rcases pN e' he' with q' | ⟨q1', q2'⟩
            · rw [q, q']
            · rw [q2'] at he' hs
              rw [q, hPn, d9] at hs
              have := ser e' he'
              omega
          · rcases pN e' he' with q' | ⟨q1', q2'⟩
            · rw [q2] at he hs
              rw [q', hPn, d9] at hs
              have := ser e he
              omega
            · rw [q2, q2'] at hs
              exact pE.2 e e' (by rw [← q2]; exact he) (by rw [← q2']; exact he') hs
      refine ⟨S', G', m', k1, ⟨k3, k4, k5⟩, k2, ⟨s1, k6, a3.ge (fun a j y1 y2 => g a j (by omega) (by omega) (by omega)), by omega⟩, ⟨P', qE, fun y hy => ?_, ?_⟩, ⟨c1, by rw [g _ _ (by omega) (by omega) (by omega)]; exact c2⟩, ⟨by omega, by omega⟩, by rw [g _ _ (by omega) (by omega) (by omega)]; exact c5, d4, cTx.nil k7, c8.ge (fun a y => k2 a (by omega)) (fun a j y1 y2 => g a j (by omega) (by omega) (by omega)) ⟨g _ _ (by omega) (by omega) (by omega), g _ _ (by omega) (by omega) (by omega)⟩, c9.ge ⟨g _ _ (by omega) (by omega) (by omega), g _ _ (by omega) (by omega) (by omega)⟩ (fun j => g _ _ (by omega) (by omega) (by omega))⟩
      · unfold lUp
        by_cases d : y = hr
        · subst d
          rw [if_pos rfl]
          obtain ⟨Yr, ⟨Yw, Yc⟩, Ye, _, Yt, Y3, Y4⟩ := b2 y hy
          obtain ⟨s0, M0, hm⟩ := (b2 y hy).mo
          have hT : 0 < T.length := Nat.lt_of_le_of_lt (Nat.zero_le _) hm.1
          have zy : ∀ a j, 243 + 9 * y ≤ a → a ≤ 243 + 9 * y + 8 → ¬ (a = 243 + 9 * y ∧ (j = 7 ∨ j = 8)) → G' a j = G a j := fun a j y1 y2 y3 => g a j (by omega) (by omega) y3
          refine ⟨(Yr.ge k3 k2 sf ⟨zy _ _ (by omega) (by omega) (by omega), zy _ _ (by omega) (by omega) (by omega), fun j _ _ => zy _ _ (by omega) (by omega) (by omega)⟩).app tx hP, ⟨fun p hp => by rw [zy _ _ (by omega) (by omega) (by omega)]; exact Yw p hp, fun c hc => by rw [zy _ _ (by omega) (by omega) (by omega)]; exact Yc c hc⟩, .inr ⟨by show (0 : Int) ≤ (T.length : Int); omega, ?_, ?_⟩, ⟨s', ?_, cPn.nil d7⟩, (Yt.ge k3 k2 sf (fun c _ => ⟨zy _ _ (by omega) (by omega) (by omega), zy _ _ (by omega) (by omega) (by omega)⟩)).app tx (fun c hc => ?_), by rw [zy _ _ (by omega) (by omega) (by omega)]; exact Y3, fun hne => by rw [zy _ _ (by omega) (by omega) (by omega)]; exact Y4 hne⟩
          · show P' ((T.length : Int)).toNat ≠ 0
            rw [Int.toNat_natCast, hPn]
            omega
          · show G' (243 + 9 * y) 7 = ((P' ((T.length : Int)).toNat : Nat) : Int)
            rw [Int.toNat_natCast, hPn]
            exact d6
          · have : lnE (lnD (lns y) [] (T.length : Int) (lns y).2.2.2.1.2.2) = T.length := by
              show (if (T.length : Int) = -1 then _ else (T.length : Int).toNat) = _
              rw [if_neg (by omega), Int.toNat_natCast]
            rw [this, gl]
            exact d1
          · rcases hW y hy c with z | z
            · rw [z]; exact hT
            · exact z.2.1
        · rw [if_neg d]
          exact ((b2 y hy).ge k3 k2 sf (fun a j y1 y2 => g a j (by omega) (by omega) (by omega))).app tx pE (hW y hy) hP
      · unfold lUp
        rw [if_pos rfl]
        have := (b3.ge k3 k2 sf ⟨g _ _ (by omega) (by omega) (by omega), g _ _ (by omega) (by omega) (by omega)⟩).app tx hP
        exact this
end
end
section
/-! THE CLASS: cell() in the house -/
section
variable {f A A' hr n sl ln : Nat} {S S' : Nat → Nat × Nat × Nat} {G G' : xG_} {m : Nat × Nat} {T : List (List Int)} {P P' : Nat → Nat} {l : sLn} {lns : Nat → sLn} {tx t : List Int} {kp : Nat × List (List Int)} {mt : Int × List Int} {pl rf : Int}
/-- the text that a CELL is told -/
theorem cCt.up {W : Nat → Int} {x o : Nat} {w : Int} {e : List pNd × Int} (h : cCt T S G A ln W) (hl : 242 < ln ∧ ln + 8 < 279) (hA : A ≤ A') (h5 : 555 < A) (hS : ∀ a, a < A → S' a = S a) (hG : xSf A G G') (h7 : ∀ c, G' (ln + 7) c = if c = x then 1 else G (ln + 7) c) (h8 : ∀ c, G' (ln + 8) c = if c = x then (o : Int) else G (ln + 8) c) (hw : w ≠ -1) (ho : o = 0 ∧ xOf T (fun _ => w.toNat) x = none ∨ o = A ∧ A + 2 < A' ∧ xOf T (fun _ => w.toNat) x = some e ∧ cFm S' G' o e) : cCt T S' G' A' ln (fun c => if c = x then w else W c) := by
  obtain ⟨lt, h⟩ := h
  refine ⟨fun c => if c = x then o else lt c, fun c hc => ?_⟩
  obtain ⟨a1, a2, a3⟩ := h c hc
  by_cases q : c = x
  · rw [h7, h8, if_pos q, if_pos q]
    refine ⟨⟨fun z => absurd z (by decide), fun z => ?_⟩, by show (o : Int) = (((if c = x then o else lt c) : Nat) : Int); rw [if_pos q], ?_⟩
    · have z' : (if c = x then w else W c) = -1 := z
      rw [if_pos q] at z'
      exact absurd z' hw
    · have e1 : xOf T (fun c => ((fun c => if c = x then w else W c) c).toNat) c = xOf T (fun _ => w.toNat) x := by
        rw [q]
        exact xOf_1 (by show (if x = x then w else W x).toNat = w.toNat; rw [if_pos rfl])
      rw [e1]
      show ((if c = x then o else lt c) = 0 ∧ _ ∨ 555 < (if c = x then o else lt c) ∧ (if c = x then o else lt c) + 2 < A' ∧ ∃ e, _ ∧ cFm S' G' (if c = x then o else lt c) e)
      rw [if_pos q]
      rcases ho with z | ⟨z1, z2, z3, z4⟩
      · exact .inl z
      · exact .inr ⟨by omega, by omega, e, z3, z4⟩
  · rw [h7, h8, if_neg q, if_neg q]
    have e1 : xOf T (fun c => ((fun c => if c = x then w else W c) c).toNat) c = xOf T (fun c => (W c).toNat) c := xOf_1 (by show (if c = x then w else W c).toNat = (W c).toNat; rw [if_neg q])
    have e2 : (fun c => if c = x then w else W c) c = W c := if_neg q
    rw [e1, e2]
    show _ ∧ _ = (((if c = x then o else lt c) : Nat) : Int) ∧ ((if c = x then o else lt c) = 0 ∧ _ ∨ 555 < (if c = x then o else lt c) ∧ (if c = x then o else lt c) + 2 < A' ∧ ∃ e, _ ∧ cFm S' G' (if c = x then o else lt c) e)
    rw [if_neg q]
    refine ⟨a1, a2, ?_⟩
    rcases a3 with z | ⟨z1, z2, e, z3, z4⟩
    · exact .inl z
    · exact .inr ⟨z1, by omega, e, z3, z4.ge (fun a y1 y2 => hS a (by omega)) (fun a j y1 y2 => hG a j (by omega) (by omega))⟩
/-- cell() -/
theorem k_ce {v : Int} {T' : List (List Int)} {lns' : Nat → sLn} (hf : 3100 < f) (h : cHs S G A (T, lns, hr, tx, kp, mt, pl, rf) n) (hW : ∀ y, y < 4 → ceOk T (lns y).2.2.2.1.2.2) (hst : stCe T lns hr tx v T' lns') : ∃ S' G' m', c1002 f 64 (S, G, (A, sl)) = some (v, (S', G', m')) ∧ (A ≤ m'.1 ∧ m'.1 ≤ A + 3 ∧ m'.2 ≤ sl + 129) ∧ (∀ a, a < A → S' a = S a) ∧ cHs S' G' m'.1 (T', lns', hr, [], kp, mt, pl, rf) (n + 1) := by
  obtain ⟨⟨a1, a2, a3, a4⟩, ⟨P, b1, b2, b3⟩, ⟨c1, c2⟩, ⟨c3, c4⟩, c5, c6, c7, c8, c9⟩ := h
  obtain ⟨v', S', G', m', k1, k2, k3, k4, k5, k6, k7, k8, k9⟩ := k_1002 (f := f) (A := A) (sl := sl) a1 a2 c7 (by omega) c2 c1 hf
  have s1 : cSs S' := fun k hk => by rw [k2 _ (by omega)]; exact a1 k hk
  have g : ∀ a j, a < A → (a = 64 ∨ 82 < a) → a ≠ 243 + 9 * hr + 7 → a ≠ 243 + 9 * hr + 8 → G' a j = G a j := fun a j y1 y2 y3 y4 => k8 a j y1 (by omega) y3 y4
  have sf : xSf A G G' := fun a j y1 y2 => g a j y1 (by omega) (by omega) (by omega)
  have pE : cEd T S' G' m'.1 P := b1.ge k3 k2 sf (by rw [g _ _ (by omega) (by omega) (by omega) (by omega)]; exact Int.le_refl _)
  have pEe := b3.ge k3 k2 sf ⟨g _ _ (by omega) (by omega) (by omega) (by omega), g _ _ (by omega) (by omega) (by omega) (by omega)⟩
  have pLo : ∀ y, y < 4 → y ≠ hr → cLn T S' G' m'.1 P (243 + 9 * y) (lns y) := fun y hy d => (b2 y hy).ge k3 k2 sf (fun a j y1 y2 => g a j (by omega) (by omega) (by omega) (by omega))
  -- what else stands
  have rest : ∀ (T' : List (List Int)) (lns' : Nat → sLn) (P' : Nat → Nat), cEd T' S' G' m'.1 P' → (∀ y, y < 4 → cLn T' S' G' m'.1 P' (243 + 9 * y) (lns' y)) → cEe T' S' G' m'.1 P' (lns' hr) → cHs S' G' m'.1 (T', lns', hr, [], kp, mt, pl, rf) (n + 1) := fun T' lns' P' q1 q2 q3 => ⟨⟨s1, k6, a3.ge (fun a j y1 y2 => g a j (by omega) (by omega) (by omega) (by omega)), by omega⟩, ⟨P', q1, q2, q3⟩, ⟨c1, by rw [g _ _ (by omega) (by omega) (by omega) (by omega)]; exact c2⟩, ⟨by rw [g _ _ (by omega) (by omega) (by omega) (by omega)]; exact c3, by rw [g _ _ (by omega) (by omega) (by omega) (by omega)]; omega⟩, by rw [g _ _ (by omega) (by omega) (by omega) (by omega)]; exact c5, by rw [g _ _ (by omega) (by omega) (by omega) (by omega)]; exact c6, cTx.nil k7, c8.ge (fun a y => k2 a (by omega)) (fun a j y1 y2 => g a j (by omega) (by omega) (by omega) (by omega)) ⟨g _ _ (by omega) (by omega) (by omega) (by omega), g _ _ (by omega) (by omega) (by omega) (by omega)⟩, c9.ge ⟨g _ _ (by omega) (by omega) (by omega) (by omega), g _ _ (by omega) (by omega) (by omega) (by omega)⟩ (fun j => g _ _ (by omega) (by omega) (by omega) (by omega))⟩
  obtain ⟨Yr, ⟨Yw, Yc⟩, Ye, ⟨sp, Yp1, Yp2⟩, Yt, Y3, Y4⟩ := id (b2 hr c1)
  obtain ⟨s0, M0, hm⟩ := (b2 hr c1).mo
  have hT : 0 < T.length := Nat.lt_of_le_of_lt (Nat.zero_le _) hm.1
  have zy : ∀ a j, 243 + 9 * hr ≤ a → a ≤ 243 + 9 * hr + 6 → G' a j = G a j := fun a j y1 y2 => g a j (by omega) (by omega) (by omega) (by omega)
  have Yr' := Yr.ge k3 k2 sf ⟨zy _ _ (by omega) (by omega), zy _ _ (by omega) (by omega), fun j _ _ => zy _ _ (by omega) (by omega)⟩
  have Yp' : cPn G' (243 + 9 * hr) sp (lns hr).2.2.2.1.1 := Yp2.ge (fun a j y1 y2 => zy a j (by omega) (by omega))
  -- the line with another row of texts
  have pLn : ∀ W, cCt T S' G' m'.1 (243 + 9 * hr) W → cLn T S' G' m'.1 P (243 + 9 * hr) (lnD (lns hr) (lns hr).2.2.2.1.1 (lns hr).2.2.2.1.2.1 W) := fun W q => ⟨Yr', ⟨fun p hp => by rw [zy _ _ (by omega) (by omega)]; exact Yw p hp, fun c hc => by rw [zy _ _ (by omega) (by omega)]; exact Yc c hc⟩, by rw [zy _ _ (by omega) (by omega)]; exact Ye, ⟨sp, Yp1, Yp'⟩, q, by rw [zy _ _ (by omega) (by omega)]; exact Y3, fun hne => by rw [zy _ _ (by omega) (by omega)]; exact Y4 hne⟩
  unfold stCe at hst
  cases hq : qCt tx with
  | inl w =>
    rw [hq] at hst k9
    obtain ⟨e1, e2, e3⟩ := hst
    obtain ⟨u1, u2⟩ := k9
    rw [e1, e2, e3, ← u1]
    exact ⟨S', G', m', k1, ⟨k3, k4, k5⟩, k2, rest T lns P pE (fun y hy => (b2 y hy).ge k3 k2 sf (fun a j y1 y2 => by
      by_cases d1 : a = 243 + 9 * hr + 7
      · rw [d1]; exact (u2 j).1
      · by_cases d2 : a = 243 + 9 * hr + 8
        · rw [d2]; exact (u2 j).2
        · exact g a j (by omega) (by omega) d1 d2)) pEe⟩
  | inr r =>
    rw [hq] at hst k9
    obtain ⟨e1, e2⟩ := hst
    obtain ⟨u1, u2, o, u3, u4⟩ := k9
    rw [e1, ← u1]
    rcases e2 with ⟨q1, q2, q3⟩ | ⟨q1, q2, q3⟩
    · rw [q2, q3]
      rcases u3 with ⟨_, w1⟩ | ⟨w0, _⟩
      · have ct := Yt.up (S' := S') (x := r.1.toNat) (o := o) (w := 0) (e := ([], 0)) (by omega) k3 a4 k2 sf (fun c => (u4 c).1) (fun c => (u4 c).2) (by decide) (.inl ⟨w1, rfl⟩)
        refine ⟨S', G', m', k1, ⟨k3, k4, k5⟩, k2, rest T _ P pE (fun y hy => ?_) ?_⟩
        · unfold lUp
          by_cases d : y = hr
          · subst d
            rw [if_pos rfl]
            exact pLn _ ct
          · rw [if_neg d]; exact pLo y hy d
        · unfold lUp
          rw [if_pos rfl]
          exact pEe
      · exact absurd q1 w0
    · rw [q2, q3]
      rcases u3 with ⟨w0, _⟩ | ⟨_, w1, w2, w3⟩
      · exact absurd w0 q1
      · have gl : (T ++ [tx]).getD T.length [] = tx := by
          have := getD_apr (l := T) (d := []) [tx] 0
          rw [Nat.add_zero] at this
          exact this
        have gl2 : (T ++ [tx]).length = T.length + 1 := by rw [List.length_append]; rfl
        have hWl : ∀ c, c < 72 → ((lns hr).2.2.2.1.2.2 c).toNat < T.length := fun c hc => by
          rcases hW hr c1 c with z | z
          · rw [z]; exact hT
          · exact z.2.1
        have ct := (Yt.app tx hWl).up (S' := S') (x := r.1.toNat) (o := o) (w := (T.length : Int)) (e := r.2) (by omega) k3 a4 k2 sf (fun c => (u4 c).1) (fun c => (u4 c).2) (by omega) (.inr ⟨w1, w2, by
          unfold xOf
          have e : (fun _ : Nat => ((T.length : Int)).toNat) r.1.toNat = T.length := Int.toNat_natCast _
          rw [e, if_neg (Nat.pos_iff_ne_zero.mp hT), gl, hq], w3⟩)
        have qE : cEd (T ++ [tx]) S' G' m'.1 P := ⟨fun e he => by
          obtain ⟨x1, x2, x3⟩ := pE.1 e he
          exact ⟨by omega, x2.app tx x1, x3⟩, pE.2⟩
        have lE : lnE (lns hr) < T.length := by
          unfold lnE
          rcases Ye with ⟨e, _⟩ | ⟨e1, e2, _⟩
          · rw [if_pos e]; exact hm.1
          · rw [if_neg (by omega)]; exact (b1.1 _ e2).1
        refine ⟨S', G', m', k1, ⟨k3, k4, k5⟩, k2, rest (T ++ [tx]) _ P qE (fun y hy => ?_) ?_⟩
        · unfold lUp
          by_cases d : y = hr
          · subst d
            rw [if_pos rfl]
            exact ⟨Yr'.app tx (fun _ _ => rfl), ⟨fun p hp => by rw [zy _ _ (by omega) (by omega)]; exact Yw p hp, fun c hc => by rw [zy _ _ (by omega) (by omega)]; exact Yc c hc⟩, by rw [zy _ _ (by omega) (by omega)]; exact Ye, ⟨sp, by rw [getD_app _ (by exact lE)]; exact Yp1, Yp'⟩, ct, by rw [zy _ _ (by omega) (by omega)]; exact Y3, fun hne => by rw [zy _ _ (by omega) (by omega)]; exact Y4 hne⟩
          · rw [if_neg d]; exact (pLo y hy d).app tx pE (hW y hy) (fun _ _ => rfl)
        · unfold lUp
          rw [if_pos rfl]
          exact pEe.app tx (fun _ _ => rfl)
end
end
section
/-! THE CLASS: addChange(), change() in the house -/
section
variable {f A A' hr n sl ln c : Nat} {S S' : Nat → Nat × Nat × Nat} {G G' : xG_} {m : Nat × Nat} {T : List (List Int)} {P : Nat → Nat} {lns : Nat → sLn} {tx : List Int} {kp : Nat × List (List Int)} {mt : Int × List Int} {pl rf : Int} {s : pPg} {E : List pPe} {e : pPe}
/-- a CHANGE comes to the c-th place: nothing else changes -/
def xAc (ln c : Nat) (G G' : xG_) : Prop := ∀ a j, ¬ (a = ln ∧ j = 8) → ¬ (a = ln + 4 ∧ j = c) → ¬ (a = ln + 5 ∧ j = c) → ¬ (a = ln + 6 ∧ 4 * c ≤ j ∧ j < 4 * c + 4) → G' a j = G a j
theorem st_ac {vp fm w Lv : Nat} {p ad : Int} (ls : lnSt S ln) (lp : lnPt G ln) (h8 : G ln 8 = (c : Int)) (hc : c < 400) (hv : S vp = (2, 4, Lv)) (hw : fm + w ≤ Lv) (hL : Lv ≤ 100000) (hw4 : w ≤ 4) (had : ad = 0 ∨ ad = 1) : ∃ G1, c8 f ln p ad vp (fm : Int) (w : Int) (S, G, m) = some (S, xup2 (xz1 G1 (ln + 6) (fun i => if 4 * c ≤ i ∧ i < 4 * c + w then G1 vp (fm + (i - 4 * c)) else G1 (ln + 6) i)) ln 8 ((c + 1 : Nat) : Int), m) ∧ G1 = xup2 (xup2 G (ln + 4) c p) (ln + 5) c ad := by
  obtain ⟨l0, _, _, _, l4, l5, l6, _⟩ := ls
  obtain ⟨_, _, _, p4, p5, p6, _⟩ := lp
  refine ⟨_, ?_, rfl⟩
  have e1 : cq_s 3 (ln + 4) (c : Int) p (S, G, m) = some (S, xup2 G (ln + 4) c p, m) := by
    unfold cq_s
    simp only [l4]
    rw [if_pos ⟨trivial, trivial, by omega, by omega⟩, Int.toNat_natCast]
  have enar : xnar .boolean ad = ad := by
    rcases had with rfl | rfl <;> rfl
  have e2 : cq_sb (ln + 5) (c : Int) ad (S, xup2 G (ln + 4) c p, m) = some (S, xup2 (xup2 G (ln + 4) c p) (ln + 5) c ad, m) := by
    unfold cq_sb cq_s
    simp only [l5]
    rw [if_neg (by decide), if_pos trivial, if_pos ⟨trivial, trivial, by omega, by omega⟩, Int.toNat_natCast, enar]
  have g8 : xup2 G (ln + 4) c p ln 8 = (c : Int) := by rw [xup2_n (by omega)]; exact h8
  have g8' : xup2 (xup2 G (ln + 4) c p) (ln + 5) c ad ln 8 = (c : Int) := by rw [xup2_n (by omega)]; exact g8
  have w4 : xwr (4 * (c : Int)) = ((4 * c : Nat) : Int) := by rw [xwr_g _ (by omega) (by omega)]; omega
  have e3 : cq_cp vp (fm : Int) (ln + 6) ((4 * c : Nat) : Int) (w : Int) (S, xup2 (xup2 G (ln + 4) c p) (ln + 5) c ad, m) = some (S, xz1 (xup2 (xup2 G (ln + 4) c p) (ln + 5) c ad) (ln + 6) (fun i => if 4 * c ≤ i ∧ i < 4 * c + w then (xup2 (xup2 G (ln + 4) c p) (ln + 5) c ad) vp (fm + (i - 4 * c)) else (xup2 (xup2 G (ln + 4) c p) (ln + 5) c ad) (ln + 6) i), m) := by
    unfold cq_cp
    simp only [hv, l6, Int.toNat_natCast]
    rw [if_pos ⟨trivial, trivial, trivial, .inr trivial, by omega, by omega, by omega, by omega, by omega⟩]
  have e8 : ∀ F : Nat → Int, xz1 (xup2 (xup2 G (ln + 4) c p) (ln + 5) c ad) (ln + 6) F ln 8 = (c : Int) := fun F => by rw [xz1_n _ (by omega)]; exact g8'
  unfold c8 c8_58
  rw [o_gi l0, Option.bind_some, h8, if_neg (by omega), o_gr l0 p4, Option.bind_some, Option.bind_some, e1, Option.bind_some, o_gr (y := ln + 5) l0 (by rw [xup2_n (by omega)]; exact p5), Option.bind_some, o_gi l0, Option.bind_some, g8, e2, Option.bind_some, o_gr (y := ln + 6) l0 (by rw [xup2_n (by omega), xup2_n (by omega)]; exact p6), Option.bind_some, o_gi l0, Option.bind_some, g8', w4, e3, Option.bind_some, o_gi l0, Option.bind_some, e8, xwr_g _ (by omega) (by omega), o_p l0, Option.bind_some]
  rfl
theorem k_8 {vp fm w Lv : Nat} {p ad : Int} (ls : lnSt S ln) (lp : lnPt G ln) (h8 : G ln 8 = (c : Int)) (hc : c < 400) (hv : S vp = (2, 4, Lv)) (hw : fm + w ≤ Lv) (hL : Lv ≤ 100000) (hw4 : w ≤ 4) (had : ad = 0 ∨ ad = 1) (hvn : vp < ln ∨ ln + 8 < vp) : ∃ G', c8 f ln p ad vp (fm : Int) (w : Int) (S, G, m) = some (S, G', m) ∧ xAc ln c G G' ∧ G' ln 8 = ((c + 1 : Nat) : Int) ∧ G' (ln + 4) c = p ∧ G' (ln + 5) c = ad ∧ ∀ j, j < w → G' (ln + 6) (4 * c + j) = G vp (fm + j) := by
  obtain ⟨G1, e1, e2⟩ := st_ac (f := f) (m := m) (p := p) ls lp h8 hc hv hw hL hw4 had
  have z1 : ∀ a j, ¬ (a = ln + 4 ∧ j = c) → ¬ (a = ln + 5 ∧ j = c) → G1 a j = G a j := fun a j y1 y2 => by rw [e2, xup2_n y2, xup2_n y1]
  refine ⟨_, e1, fun a j y1 y2 y3 y4 => ?_, xup2_s _ _ _ _, ?_, ?_, fun j hj => ?_⟩
  · rw [xup2_n y1]
    by_cases q : a = ln + 6
    · rw [q, xz1_s]
      show (if 4 * c ≤ j ∧ j < 4 * c + w then _ else _) = _
      rw [if_neg (by omega), z1 _ _ (by omega) (by omega)]
    · rw [xz1_n _ q, z1 a j y2 y3]
  · rw [xup2_n (by omega), xz1_n _ (by omega), e2, xup2_n (by omega), xup2_s]
  · rw [xup2_n (by omega), xz1_n _ (by omega), e2, xup2_s]
  · rw [xup2_n (by omega), xz1_s]
    show (if 4 * c ≤ 4 * c + j ∧ 4 * c + j < 4 * c + w then _ else _) = _
    rw [if_pos (by omega), z1 _ _ (by omega) (by omega)]
    congr 1
    omega
theorem cPn.add (h : cPn G ln s E) (hE : E.length < 400) (hx : xAc ln E.length G G') (h8 : G' ln 8 = ((E.length + 1 : Nat) : Int)) (h4 : (∃ p : Nat, p < s.1.length ∧ chT s e p ∧ G' (ln + 4) E.length = (p : Int)) ∨ ((∀ p, p < s.1.length → ¬ chT s e p) ∧ G' (ln + 4) E.length = -1)) (h5 : G' (ln + 5) E.length = (if e.1 < 0 then 0 else 1)) (h6 : ∀ c, c < e.2.2.length → G' (ln + 6) (4 * E.length + c) = e.2.2.getD c 0) (hl : ∀ i, i < E.length → (E.getD i dPe).2.2.length ≤ 4) : cPn G' ln s (E ++ [e]) := by
  obtain ⟨a1, a2, a3⟩ := h
  have len : (E ++ [e]).length = E.length + 1 := by rw [List.length_append]; rfl
  refine ⟨by rw [len]; exact h8, by omega, fun i hi => ?_⟩
  rcases (by omega : i < E.length ∨ i = E.length) with q | q
  · obtain ⟨b1, b2, b3⟩ := a3 i q
    have l4 := hl i q
    rw [getD_app _ q, hx _ _ (by omega) (by omega) (by omega) (by omega), hx _ _ (by omega) (by omega) (by omega) (by omega)]
    exact ⟨b1, b2, fun c hc => by rw [hx _ _ (by omega) (by omega) (by omega) (by omega)]; exact b3 c hc⟩
  · have ge : (E ++ [e]).getD i dPe = e := by
      have := getD_apr (l := E) (d := dPe) [e] 0
      rw [Nat.add_zero] at this
      rw [q]
      exact this
    rw [ge, q]
    exact ⟨h4, h5, h6⟩
theorem xAc.li (h : xAc ln c G G') : ∀ a j, ¬ (a = ln ∧ j = 8) → ¬ (ln + 4 ≤ a ∧ a ≤ ln + 6) → G' a j = G a j := fun a j y1 y2 => h a j y1 (by omega) (by omega) (by omega)
theorem cCs.ge {L : List Int} {cs : List pCh} (h : cCs G L cs) (hz : ∀ a j, 72 ≤ a → a ≤ 82 → G' a j = G a j) : cCs G' L cs := by
  refine ⟨by rw [hz _ _ (by omega) (by omega)]; exact h.1, fun k hk => ?_⟩
  obtain ⟨a1, a2, a3, a4, a5, a6⟩ := h.2 k hk
  exact ⟨by rw [hz _ _ (by omega) (by omega)]; exact a1, by rw [hz _ _ (by omega) (by omega)]; exact a2, by rw [hz _ _ (by omega) (by omega)]; exact a3, by rw [hz _ _ (by omega) (by omega)]; exact a4, a5, fun j hj => by rw [hz _ _ (by omega) (by omega)]; exact a6 j hj⟩
/-- a CHANGE without FAULT tells of an INPUT -/
theorem chT_of {ch : pCh} (hok : qOk s) (h : qCq s ch = 0) : ∃ p : Nat, p < s.1.length ∧ pIdx s.1 ch.2.1 = (p : Int) ∧ chT s (qPe ch) p := by
  unfold qCq qCf at h
  rcases pIdx_get (x := ch.2.1) hok.1.2.1 with ⟨z, _⟩ | ⟨p, p1, p2, p3, _⟩
  · rw [z, if_pos rfl] at h
    exact absurd h (by decide)
  · rw [p2, if_neg (by omega)] at h
    by_cases q : pIn s.2.1 (p : Int) = true
    · rw [if_pos q] at h
      by_cases q2 : pNn s.2.2.2.1 (p : Int) = (ch.2.2.2.length : Int)
      · refine ⟨p, p1, p2, p3, q, ?_⟩
        have := (qN_c hok.1 p).1
        show ch.2.2.2.length = qN s p
        omega
      · rw [if_neg q2] at h
        exact absurd h (by decide)
    · rw [if_neg q] at h
      exact absurd h (by decide)
/-- all CHANGES of a text are kept -/
theorem k_1001l {cs : List pCh} (hs : cSs S) (hr4 : hr < 4) (hok : qOk s) (hcs : cs.length ≤ 400) (hq : ∀ k, k < cs.length → qCq s (cs.getD k dCh) = 0) : ∀ (d i fu : Nat) (G : xG_) (E : List pPe), i + d = cs.length → d < fu → cPs G → cCs G s.1 cs → cPn G (243 + 9 * hr) s E → (∀ i, i < E.length → (E.getD i dPe).2.2.length ≤ 4) → E.length + d ≤ 400 → ∃ G', c1001_140 f fu 64 (243 + 9 * hr) (i : Int) (S, G, m) = some ((cs.length : Int), (S, G', m)) ∧ cPs G' ∧ cPn G' (243 + 9 * hr) s (E ++ (cs.drop i).map qPe) ∧ ∀ a j, ¬ (a = 243 + 9 * hr ∧ j = 8) → ¬ (243 + 9 * hr + 4 ≤ a ∧ a ≤ 243 + 9 * hr + 6) → G' a j = G a j := by
  intro d
  induction d with
  | zero =>
    intro i fu G E e1 e2 hp hC hP hE hl
    obtain ⟨fu, rfl⟩ : ∃ t, fu = t + 1 := ⟨fu - 1, by omega⟩
    refine ⟨G, ?_, hp, by rw [List.drop_eq_nil_of_le (by omega), List.map_nil, List.append_nil]; exact hP, fun _ _ _ _ => rfl⟩
    show c1001_140b (c1001_140 f fu) f _ _ _ _ = _
    unfold c1001_140b
    rw [o_gr (y := 72) (s64 hs) (p64_1 hp), Option.bind_some, o_gi (s72 hs), Option.bind_some, hC.1, if_pos (by omega), Option.bind_some, o_gi (s72 hs), Option.bind_some, hC.1]
  | succ d ih =>
    intro i fu G E e1 e2 hp hC hP hE hl
    obtain ⟨fu, rfl⟩ : ∃ t, fu = t + 1 := ⟨fu - 1, by omega⟩
    have hi : i < cs.length := by omega
    obtain ⟨a1, a2, a3, a4, a5, a6⟩ := hC.2 i hi
    obtain ⟨p, p1, p2, p3⟩ := chT_of hok (hq i hi)
    have ls := lnSt_of hs hr4
    have lp := lnPt_of hp hr4
    obtain ⟨ad, had1, had2, had3⟩ : ∃ ad : Int, (ad = 0 ∨ ad = 1) ∧ (ad = if (qPe (cs.getD i dCh)).1 < 0 then 0 else 1) ∧ c1001_140 f (fu + 1) 64 (243 + 9 * hr) (i : Int) (S, G, m) = c1001_183 (c1001_140 f fu) f 64 (243 + 9 * hr) (i : Int) ad (p : Int) (243 + 9 * hr) (S, G, m) := by
      by_cases q : (cs.getD i dCh).1 = 43
      · refine ⟨1, .inr rfl, ?_, ?_⟩
        · show _ = if (if (cs.getD i dCh).1 = 43 then (1 : Int) else -1) < 0 then (0 : Int) else 1
          rw [if_pos q]
          rfl
        · show c1001_140b (c1001_140 f fu) f _ _ _ _ = _
          unfold c1001_140b
          rw [o_gr (y := 72) (s64 hs) (p64_1 hp), Option.bind_some, o_gi (s72 hs), Option.bind_some, hC.1, if_neg (by omega), Option.bind_some, o_gr (y := 78) (s72 hs) (p72_15 hp), Option.bind_some, o_a (s78 hs) (by omega), Option.bind_some, a2, p2, Option.bind_some, o_gr (y := 79) (s72 hs) (p72_16 hp), Option.bind_some, o_a (s79 hs) (by omega), Option.bind_some, a1, if_neg (fun z => z q)]
      · refine ⟨0, .inl rfl, ?_, ?_⟩
        · show _ = if (if (cs.getD i dCh).1 = 43 then (1 : Int) else -1) < 0 then (0 : Int) else 1
          rw [if_neg q]
          rfl
        · show c1001_140b (c1001_140 f fu) f _ _ _ _ = _
          unfold c1001_140b
          rw [o_gr (y := 72) (s64 hs) (p64_1 hp), Option.bind_some, o_gi (s72 hs), Option.bind_some, hC.1, if_neg (by omega), Option.bind_some, o_gr (y := 78) (s72 hs) (p72_15 hp), Option.bind_some, o_a (s78 hs) (by omega), Option.bind_some, a2, p2, Option.bind_some, o_gr (y := 79) (s72 hs) (p72_16 hp), Option.bind_some, o_a (s79 hs) (by omega), Option.bind_some, a1, if_pos q]
    obtain ⟨G1, b1, b2, b3, b4, b5, b6⟩ := k_8 (f := f) (m := m) (p := (p : Int)) (ad := ad) (fm := 4 * i) (w := (cs.getD i dCh).2.2.2.length) ls lp hP.1 (by omega) (s82 hs) (by omega) (by decide) a5 had1 (by omega)
    have z1 := b2.li
    have hp1 : cPs G1 := hp.ge (fun a j hz => z1 a j (by
      rcases hz with z | z | z | z | z | z | z | ⟨z, z1, z2, k, z3⟩ | z | z | z | ⟨k, z1, z2, z3⟩ <;> omega) (by
      rcases hz with z | z | z | z | z | z | z | ⟨z, z1, z2, k, z3⟩ | z | z | z | ⟨k, z1, z2, z3⟩ <;> omega))
    obtain ⟨G', k1, k2, k3, k4⟩ := ih (i + 1) fu G1 (E ++ [qPe (cs.getD i dCh)]) (by omega) (by omega) hp1 (hC.ge (fun a j y1 y2 => z1 a j (by omega) (by omega))) (hP.add (by omega) b2 b3 (.inl ⟨p, p1, p3, b4⟩) (by rw [b5]; exact had2) (fun c hc => by
      have hc' : c < (cs.getD i dCh).2.2.2.length := hc
      rw [b6 c hc', a6 c hc']; rfl) hE) (fun j hj => by
      rw [List.length_append, List.length_singleton] at hj
      by_cases q : j < E.length
      · rw [getD_app _ q]; exact hE j q
      · have : j = E.length := by omega
        have ge := getD_apr (l := E) (d := dPe) [qPe (cs.getD i dCh)] 0
        rw [Nat.add_zero] at ge
        rw [this, ge]
        exact a5) (by rw [List.length_append, List.length_singleton]; omega)
    refine ⟨G', ?_, k2, ?_, fun a j y1 y2 => by rw [k4 a j y1 y2, z1 a j y1 y2]⟩
    · rw [had3]
      unfold c1001_183
      have i1 : cq_is 1 14 (243 + 9 * hr) (S, G, m) = some () := if_pos ls.1
      have w4 : xwr (4 * (i : Int)) = ((4 * i : Nat) : Int) := by rw [xwr_g _ (by omega) (by omega)]; omega
      have wi : xwr ((i : Int) + 1) = ((i + 1 : Nat) : Int) := by rw [xwr_g _ (by omega) (by omega)]; omega
      rw [o_gr (y := 72) (s64 hs) (p64_1 hp), Option.bind_some, o_gr (y := 82) (s72 hs) (p72_19 hp), Option.bind_some, Option.bind_some, o_gr (y := 81) (s72 hs) (p72_18 hp), Option.bind_some, o_a (s81 hs) (by omega), Option.bind_some, a4, i1, Option.bind_some, w4, b1, Option.bind_some, wi]
      exact k1
    · rw [List.append_assoc] at k3
      have : cs.drop i = cs.getD i dCh :: cs.drop (i + 1) := by rw [List.drop_eq_getElem_cons hi, getD_e hi]
      rw [this, List.map_cons]
      exact k3
end
end
