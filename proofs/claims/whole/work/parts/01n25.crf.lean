section
/-! THE CLASS: ringFault() -/
section
variable {f q u l r n nx np : Nat} {S : Nat → Nat × Nat × Nat} {G : xG_} {m : Nat × Nat} {K : pCd} {Ls : List pLt} {T : Nat → Nat} {r2 : Nat → Int → xT_ → Option (Int × xT_)} {r19 : Nat → Int → Nat → Int → xT_ → Option (Int × xT_)} {kd g0 pl : Int} {R : List pRu}
theorem st_28a (us : S u = (1, 6, 20)) (h8 : G u 8 = (n : Int)) : c28_19b r2 r19 f q (r : Int) u (n : Int) (S, G, m) = r2 q (xwr ((r : Int) + 1)) (S, G, m) := by
  unfold c28_19b
  simp (disch := omega) only [cq_gi, cq_gr, cq_a, cq_s, cq_p, cq_pr, cq_is, cq_ar, cq_ab, cq_ln, xq_nz, Option.bind_some, xup2_n, xup2_s, Int.toNat_natCast, Int.reduceToNat, if_pos, if_neg, true_and, and_true, and_self, eq_self, if_true, reduceIte, not_true_eq_false, not_false_eq_true, or_true, true_or, us, h8]
theorem st_28b (u2 : 278 < u) (hl8 : l < 8) (us : S u = (1, 6, 20)) (us2 : S (u + 2) = (2, 3, 8)) (w9 : G u 9 = ((u + 2 : Nat) : Int)) (h8 : G u 8 = (n : Int)) (hl : l < n) (hk : G (u + 2) l = kd) (h3 : G u 3 = g0) : c28_19b r2 r19 f q (r : Int) u (l : Int) (S, G, m) = if kd = 9 ∨ kd = 15 ∧ g0 ≠ -1 then c28_62 r2 r19 f q (r : Int) u (l : Int) 1 (S, G, m) else c28_97 r2 r19 f q (r : Int) u (l : Int) (S, G, m) := by
  by_cases c9 : kd = 9
  · rw [if_pos (.inl c9)]
    rw [c9] at hk
    unfold c28_19b c28_57
    simp (disch := omega) only [cq_gi, cq_gr, cq_a, cq_s, cq_p, cq_pr, cq_is, cq_ar, cq_ab, cq_ln, xq_nz, Option.bind_some, xup2_n, xup2_s, Int.toNat_natCast, Int.reduceToNat, if_pos, if_neg, true_and, and_true, and_self, eq_self, if_true, reduceIte, not_true_eq_false, not_false_eq_true, or_true, true_or, us, us2, w9, h8, hk]
  · by_cases c15 : kd = 15
    · rw [c15] at hk
      by_cases cg : g0 = -1
      · rw [if_neg (fun y => by rcases y with y | y; exact c9 y; exact y.2 cg)]
        rw [cg] at h3
        unfold c28_19b c28_61 c28_62
        simp (disch := omega) only [cq_gi, cq_gr, cq_a, cq_s, cq_p, cq_pr, cq_is, cq_ar, cq_ab, cq_ln, xq_nz, Option.bind_some, xup2_n, xup2_s, Int.toNat_natCast, Int.reduceToNat, if_pos, if_neg, true_and, and_true, and_self, eq_self, if_true, reduceIte, not_true_eq_false, not_false_eq_true, or_true, true_or, us, us2, w9, h8, hk, h3]
      · rw [if_pos (.inr ⟨c15, cg⟩)]
        unfold c28_19b c28_57
        simp (disch := omega) only [cq_gi, cq_gr, cq_a, cq_s, cq_p, cq_pr, cq_is, cq_ar, cq_ab, cq_ln, xq_nz, Option.bind_some, xup2_n, xup2_s, Int.toNat_natCast, Int.reduceToNat, if_pos, if_neg, true_and, and_true, and_self, eq_self, if_true, reduceIte, not_true_eq_false, not_false_eq_true, or_true, true_or, us, us2, w9, h8, hk, h3, cg]
    · rw [if_neg (fun y => by rcases y with y | y; exact c9 y; exact c15 y.1)]
      unfold c28_19b c28_61 c28_62
      simp (disch := omega) only [cq_gi, cq_gr, cq_a, cq_s, cq_p, cq_pr, cq_is, cq_ar, cq_ab, cq_ln, xq_nz, Option.bind_some, xup2_n, xup2_s, Int.toNat_natCast, Int.reduceToNat, if_pos, if_neg, true_and, and_true, and_self, eq_self, if_true, reduceIte, not_true_eq_false, not_false_eq_true, or_true, true_or, us, us2, w9, h8, hk]
theorem st_28c {p h x y : Nat} (hq : 82 < q) (u2 : 278 < u) (hl8 : l < 8) (hp : p < 16) (hh : h < 16) (us : S u = (1, 6, 20)) (us3 : S (u + 3) = (2, 3, 8)) (qs : S q = (1, 3, 14)) (q8 : S (q + 8) = (2, 3, 16)) (w10 : G u 10 = ((u + 3 : Nat) : Int)) (wq : G q 10 = ((q + 8 : Nat) : Int)) (h3 : G (u + 3) l = (p : Int)) (h0 : G u 0 = (h : Int)) (h1 : G u 1 = pl) (hx : G (q + 8) p = (x : Int)) (hy : G (q + 8) h = (y : Int)) : c28_62 r2 r19 f q (r : Int) u (l : Int) 1 (S, G, m) = if x = y then some (pl, (S, G, m)) else c28_97 r2 r19 f q (r : Int) u (l : Int) (S, G, m) := by
  by_cases c : x = y
  · rw [if_pos c]
    rw [c] at hx
    unfold c28_62
    simp (disch := omega) only [cq_gi, cq_gr, cq_a, cq_s, cq_p, cq_pr, cq_is, cq_ar, cq_ab, cq_ln, xq_nz, Option.bind_some, xup2_n, xup2_s, Int.toNat_natCast, Int.reduceToNat, if_pos, if_neg, true_and, and_true, and_self, eq_self, if_true, reduceIte, not_true_eq_false, not_false_eq_true, or_true, true_or, us, us3, qs, q8, w10, wq, h3, h0, h1, hx, hy]
  · rw [if_neg c]
    unfold c28_62
    simp (disch := omega) only [cq_gi, cq_gr, cq_a, cq_s, cq_p, cq_pr, cq_is, cq_ar, cq_ab, cq_ln, xq_nz, Option.bind_some, xup2_n, xup2_s, Int.toNat_natCast, Int.reduceToNat, if_pos, if_neg, true_and, and_true, and_self, eq_self, if_true, reduceIte, not_true_eq_false, not_false_eq_true, or_true, true_or, us, us3, qs, q8, w10, wq, h3, h0, hx, hy]
theorem k_28i {h : Nat} {gq : Int} (hq : 82 < q) (hh : h < np) (hn : np ≤ 16) (qs : cPgS S q) (hG : cPgP G q) (hR : cRq S G u K Ls) (hw : ∀ y ∈ Ls, y.1 ≠ 3 → 0 ≤ y.2.1 ∧ y.2.1 < np) (h0 : G u 0 = (h : Int)) (h1 : G u 1 = pl) (h3 : G u 3 = g0) (hgq : g0 ≠ -1 ↔ gq ≠ 0) (hK : ∀ p, p < np → G (q + 8) p = ((qRing T p : Nat) : Int)) : ∀ (d l fu : Nat), l + d = Ls.length → d < fu → c28_19 r2 f fu q (r : Int) u (l : Int) (S, G, m) = if (Ls.drop l).any (qOw (qRing T) (h : Int) gq) = true then some (pl, (S, G, m)) else r2 q (xwr ((r : Int) + 1)) (S, G, m) := by
  have u2 := hR.2.2.2.2.1
  have h8 := hR.2.2.2.1.1
  have hl8 := hR.2.2.2.1.2.1
  intro d
  induction d with
  | zero =>
    intro l fu e1 e2
    obtain ⟨fu, rfl⟩ : ∃ t, fu = t + 1 := ⟨fu - 1, by omega⟩
    have : l = Ls.length := by omega
    rw [this, List.drop_of_length_le (Nat.le_refl _), if_neg (by simp)]
    exact st_28a (r19 := c28_19 r2 f fu) hR.1.1 h8
  | succ d ih =>
    intro l fu e1 e2
    obtain ⟨fu, rfl⟩ : ∃ t, fu = t + 1 := ⟨fu - 1, by omega⟩
    have hl : l < Ls.length := by omega
    have ek : xwr ((l : Int) + 1) = ((l + 1 : Nat) : Int) := by rw [xwr_g _ (by omega) (by omega)]; omega
    have hx := hR.2.2.2.1.2.2 l hl
    have hwl := hw (Ls.getD l dLt) (by rw [getD_e hl]; exact List.getElem_mem hl)
    have i := ih (l + 1) fu (by omega) (by omega)
    have st : c28_19 r2 f (fu + 1) q (r : Int) u (l : Int) (S, G, m) = _ := st_28b (r19 := c28_19 r2 f fu) u2 (by omega) hR.1.1 hR.1.2.2.1 hR.2.1.2.1 h8 hl rfl h3
    have e97 : c28_97 r2 (c28_19 r2 f fu) f q (r : Int) u (l : Int) (S, G, m) = c28_19 r2 f fu q (r : Int) u ((l + 1 : Nat) : Int) (S, G, m) := by unfold c28_97; rw [ek]
    have hd : (Ls.drop l).any (qOw (qRing T) (h : Int) gq) = (qOw (qRing T) (h : Int) gq (Ls.getD l dLt) || (Ls.drop (l + 1)).any (qOw (qRing T) (h : Int) gq)) := by
      rw [List.drop_eq_getElem_cons hl, getD_e hl]
      rfl
    have hst : (G (u + 2) l = 9 ∨ G (u + 2) l = 15 ∧ g0 ≠ -1) ↔ ((Ls.getD l dLt).1 ≠ 3 ∧ ((Ls.getD l dLt).1 = 2 ∨ gq ≠ 0)) := by
      rcases hx with ⟨a1, a2, _⟩ | ⟨a1, a2, a3, _⟩
      · have a1' : (Ls.getD l dLt).1 = 1 ∨ (Ls.getD l dLt).1 = 2 := a1
        rw [a2]
        by_cases c : (Ls.getD l dLt).1 = 1
        · have c' : (Ls.getD l (0, 0, 0, [], [], [])).1 = 1 := c
          rw [if_pos c']
          constructor
          · intro y
            exact ⟨by omega, .inr (hgq.mp (by rcases y with y | y; exact absurd y (by decide); exact y.2))⟩
          · intro y
            refine .inr ⟨rfl, hgq.mpr ?_⟩
            rcases y.2 with z | z
            · omega
            · exact z
        · have c' : ¬ (Ls.getD l (0, 0, 0, [], [], [])).1 = 1 := c
          rw [if_neg c']
          exact ⟨fun _ => ⟨by omega, .inl (by omega)⟩, fun _ => .inl rfl⟩
      · have a1' : (Ls.getD l dLt).1 = 3 := a1
        rw [a2]
        exact ⟨fun y => by omega, fun y => absurd a1' y.1⟩
    rw [st, hd, e97, i]
    by_cases cs : G (u + 2) l = 9 ∨ G (u + 2) l = 15 ∧ g0 ≠ -1
    · rw [if_pos cs]
      obtain ⟨c3, cg⟩ := hst.mp cs
      obtain ⟨w1, w2⟩ := hwl c3
      obtain ⟨p, hp⟩ : ∃ p : Nat, (Ls.getD l dLt).2.1 = (p : Int) := ⟨(Ls.getD l dLt).2.1.toNat, by omega⟩
      have h3' : G (u + 3) l = (p : Int) := by
        rcases hx with ⟨_, _, a3, _⟩ | ⟨a1, _⟩
        · rw [a3]; exact hp
        · exact absurd a1 c3
      rw [st_28c hq u2 (by omega) (by omega) (by omega) hR.1.1 hR.1.2.2.2.1 qs.1 qs.2.2.2.2.2.2.2.2.1 hR.2.1.2.2.1 hG.2.2.2.2.2.2.2.1 h3' h0 h1 (hK p (by omega)) (hK h hh), e97, i]
      by_cases cr : qRing T p = qRing T h
      · rw [if_pos cr, if_pos]
        rw [Bool.or_eq_true]
        left
        unfold qOw
        exact decide_eq_true ⟨c3, by rw [hp, Int.toNat_natCast, Int.toNat_natCast]; exact cr, cg⟩
      · rw [if_neg cr]
        have : qOw (qRing T) (h : Int) gq (Ls.getD l dLt) = false := by
          unfold qOw
          refine decide_eq_false (fun y => cr ?_)
          have := y.2.1
          rw [hp, Int.toNat_natCast, Int.toNat_natCast] at this
          exact this
        rw [this, Bool.false_or]
    · rw [if_neg cs]
      have : qOw (qRing T) (h : Int) gq (Ls.getD l dLt) = false := by
        unfold qOw
        exact decide_eq_false (fun y => cs (hst.mpr ⟨y.1, y.2.2⟩))
      rw [this, Bool.false_or]
theorem st_28r (hq : 82 < q) (hr : r < n) (hn : n ≤ 24) (qs : S q = (1, 3, 14)) (q7 : S (q + 7) = (2, 11, 24)) (h8 : G q 8 = (n : Int)) (w9 : G q 9 = ((q + 7 : Nat) : Int)) (h7 : G (q + 7) r = (u : Int)) : c28_2b r2 f q (r : Int) (S, G, m) = c28_19 r2 f f q (r : Int) u ((0 : Nat) : Int) (S, G, m) := by
  unfold c28_2b
  simp (disch := omega) only [cq_gi, cq_gr, cq_a, cq_s, cq_p, cq_pr, cq_is, cq_ar, cq_ab, cq_ln, xq_nz, Option.bind_some, xup2_n, xup2_s, Int.toNat_natCast, Int.reduceToNat, if_pos, if_neg, true_and, and_true, and_self, eq_self, if_true, reduceIte, not_true_eq_false, not_false_eq_true, or_true, true_or, qs, q7, h8, w9, h7]
  rfl
theorem st_28e (qs : S q = (1, 3, 14)) (h8 : G q 8 = (n : Int)) : c28_2b r2 f q (n : Int) (S, G, m) = some (-1, (S, G, m)) := by
  unfold c28_2b
  simp (disch := omega) only [cq_gi, cq_gr, cq_a, cq_s, cq_p, cq_pr, cq_is, cq_ar, cq_ab, cq_ln, xq_nz, Option.bind_some, xup2_n, xup2_s, Int.toNat_natCast, Int.reduceToNat, if_pos, if_neg, true_and, and_true, and_self, eq_self, if_true, reduceIte, not_true_eq_false, not_false_eq_true, or_true, true_or, qs, h8]
/-- the first rule from r on that reads its own RING so -/
def fRp (R : List pRu) (P : pRu → Prop) (r : Nat) (x : Int) : Prop := x = -1 ∧ (∀ i, r ≤ i → i < R.length → ¬ P (R.getD i dRu)) ∨ ∃ i, r ≤ i ∧ i < R.length ∧ P (R.getD i dRu) ∧ (∀ j, r ≤ j → j < i → ¬ P (R.getD j dRu)) ∧ x = ((R.getD i dRu).2.1 : Int)
/-- ringFault() -/
theorem k_28 (hf : 30 < f) (hq : 82 < q) (hn : np ≤ 16) (qs : cPgS S q) (hG : cPgP G q) (hR : cRl S G q nx R) (hw : ∀ u ∈ R, (0 ≤ u.1 ∧ u.1 < np) ∧ ∀ y ∈ u.2.2.2.2.2, y.1 ≠ 3 → 0 ≤ y.2.1 ∧ y.2.1 < np) (hK : ∀ p, p < np → G (q + 8) p = ((qRing T p : Nat) : Int)) : ∃ x, c28 f q (S, G, m) = some (x, (S, G, m)) ∧ fRp R (isF5 (qRing T)) 0 x := by
  have hR24 := hR.2.1
  have loop : ∀ (d r fu : Nat), r + d = R.length → d < fu → ∃ x, c28_2 f fu q (r : Int) (S, G, m) = some (x, (S, G, m)) ∧ fRp R (isF5 (qRing T)) r x := by
    intro d
    induction d with
    | zero =>
      intro r fu e1 e2
      obtain ⟨fu, rfl⟩ : ∃ t, fu = t + 1 := ⟨fu - 1, by omega⟩
      have : r = R.length := by omega
      rw [this]
      exact ⟨-1, st_28e (r2 := c28_2 f fu) qs.1 hR.1, .inl ⟨rfl, fun i z1 z2 => by omega⟩⟩
    | succ d ih =>
      intro r fu e1 e2
      obtain ⟨fu, rfl⟩ : ∃ t, fu = t + 1 := ⟨fu - 1, by omega⟩
      have hr : r < R.length := by omega
      have ek : xwr ((r : Int) + 1) = ((r + 1 : Nat) : Int) := by rw [xwr_g _ (by omega) (by omega)]; omega
      obtain ⟨u, u1, u2, u3, ⟨K, u4, u4', _⟩, u5, u6⟩ := hR.2.2 r hr
      have hm : R.getD r dRu ∈ R := by rw [getD_e hr]; exact List.getElem_mem hr
      obtain ⟨w1, w2⟩ := hw _ hm
      obtain ⟨h, hh⟩ : ∃ h : Nat, (R.getD r dRu).1 = (h : Int) := ⟨(R.getD r dRu).1.toNat, by omega⟩
      have hgq : G u 3 ≠ -1 ↔ qG (R.getD r dRu) ≠ 0 := by
        unfold qG
        rcases u4'.2.2.2.2 with ⟨a1, a2⟩ | ⟨a1, a2, a3, _⟩
        · rw [if_pos a1, a2]
          exact ⟨fun y => absurd rfl y, fun y => absurd rfl y⟩
        · rw [if_neg (by omega), a2]
          exact ⟨fun _ => by omega, fun _ => by omega⟩
      have e := k_28i (f := f) (m := m) (r := r) (r2 := c28_2 f fu) hq (by omega : h < np) hn qs hG u4 w2 (by rw [u5, hh]) u6 rfl hgq hK _ 0 f (Nat.zero_add _) (by have := u4.2.2.2.1.2.1; omega)
      rw [List.drop_zero, ek] at e
      have st : c28_2 f (fu + 1) q (r : Int) (S, G, m) = _ := st_28r (r2 := c28_2 f fu) hq hr hR24 qs.1 qs.2.2.2.2.2.2.2.1 hR.1 hG.2.2.2.2.2.2.1 u1
      rw [st, e]
      have hP : isF5 (qRing T) (R.getD r dRu) ↔ (R.getD r dRu).2.2.2.2.2.any (qOw (qRing T) (h : Int) (qG (R.getD r dRu))) = true := by
        unfold isF5
        rw [hh]
      by_cases c : (R.getD r dRu).2.2.2.2.2.any (qOw (qRing T) (h : Int) (qG (R.getD r dRu))) = true
      · rw [if_pos c]
        exact ⟨_, rfl, .inr ⟨r, Nat.le_refl _, hr, hP.mpr c, fun j z1 z2 => by omega, rfl⟩⟩
      · rw [if_neg c]
        obtain ⟨x, x1, x2⟩ := ih (r + 1) fu (by omega) (by omega)
        refine ⟨x, x1, ?_⟩
        have hnP : ¬ isF5 (qRing T) (R.getD r dRu) := fun y => c (hP.mp y)
        rcases x2 with ⟨a1, a2⟩ | ⟨i, a1, a2, a3, a4, a5⟩
        · refine .inl ⟨a1, fun i z1 z2 => ?_⟩
          by_cases ci : i = r
          · rw [ci]; exact hnP
          · exact a2 i (by omega) z2
        · refine .inr ⟨i, by omega, a2, a3, fun j z1 z2 => ?_, a5⟩
          by_cases cj : j = r
          · rw [cj]; exact hnP
          · exact a4 j (by omega) z2
  exact loop R.length 0 f (by omega) (by omega)
end
end
section
/-! THE CLASS: orderRings(), its steps -/
section
variable {f q p np tn dn rc : Nat} {S : Nat → Nat × Nat × Nat} {G : xG_} {m : Nat × Nat} {r4 : Nat → Int → Int → xT_ → Option (xT_)} {r14 : Nat → Int → Int → Int → xT_ → Option (xT_)} {x : Nat}
theorem st_25a (qs : S q = (1, 3, 14)) (h1 : G q 1 = (np : Int)) : c25_14b r4 r14 f q (dn : Int) (tn : Int) (np : Int) (S, G, m) = r4 q (dn : Int) (xwr ((tn : Int) + 1)) (S, G, m) := by
  unfold c25_14b
  simp (disch := omega) only [cq_gi, cq_gr, cq_a, cq_s, cq_p, cq_pr, cq_is, cq_ar, cq_ab, cq_ln, xq_nz, Option.bind_some, xup2_n, xup2_s, Int.toNat_natCast, Int.reduceToNat, if_pos, if_neg, true_and, and_true, and_self, eq_self, if_true, reduceIte, not_true_eq_false, not_false_eq_true, or_true, true_or, qs, h1]
theorem st_25b (hq : 82 < q) (hp : p < np) (hn : np ≤ 16) (qs : S q = (1, 3, 14)) (q8 : S (q + 8) = (2, 3, 16)) (w10 : G q 10 = ((q + 8 : Nat) : Int)) (h1 : G q 1 = (np : Int)) (hx : G (q + 8) p = (x : Int)) (hc : x ≠ p ∨ ¬ xand (xshr (dn : Int) (p : Int)) 1 = 0) : c25_14b r4 r14 f q (dn : Int) (tn : Int) (p : Int) (S, G, m) = r14 q (dn : Int) (tn : Int) (xwr ((p : Int) + 1)) (S, G, m) := by
  by_cases c : x = p
  · have hc' : ¬ xand (xshr (dn : Int) (p : Int)) 1 = 0 := by rcases hc with y | y; exact absurd c y; exact y
    rw [c] at hx
    clear hc
    unfold c25_14b c25_44 c25_45 c25_92
    simp (disch := omega) only [cq_gi, cq_gr, cq_a, cq_s, cq_p, cq_pr, cq_is, cq_ar, cq_ab, cq_ln, xq_nz, Option.bind_some, xup2_n, xup2_s, Int.toNat_natCast, Int.reduceToNat, if_pos, if_neg, true_and, and_true, and_self, eq_self, if_true, reduceIte, not_true_eq_false, not_false_eq_true, or_true, true_or, qs, q8, w10, h1, hx, hc']
  · clear hc
    unfold c25_14b c25_44 c25_45 c25_92
    simp (disch := omega) only [cq_gi, cq_gr, cq_a, cq_s, cq_p, cq_pr, cq_is, cq_ar, cq_ab, cq_ln, xq_nz, Option.bind_some, xup2_n, xup2_s, Int.toNat_natCast, Int.reduceToNat, if_pos, if_neg, true_and, and_true, and_self, eq_self, if_true, reduceIte, not_true_eq_false, not_false_eq_true, or_true, true_or, qs, q8, w10, h1, hx]
theorem st_25c {w : Int} (hq : 82 < q) (hp : p < np) (hn : np ≤ 16) (qs : S q = (1, 3, 14)) (q8 : S (q + 8) = (2, 3, 16)) (w10 : G q 10 = ((q + 8 : Nat) : Int)) (h1 : G q 1 = (np : Int)) (hx : G (q + 8) p = (p : Int)) (hc : xand (xshr (dn : Int) (p : Int)) 1 = 0) (e : c27 f q (p : Int) (S, G, m) = some (w, (S, G, m))) (hw : ¬ xand w (xxor (dn : Int) (-1)) = 0) : c25_14b r4 r14 f q (dn : Int) (tn : Int) (p : Int) (S, G, m) = r14 q (dn : Int) (tn : Int) (xwr ((p : Int) + 1)) (S, G, m) := by
  unfold c25_14b c25_45 c25_92
  simp (disch := omega) only [cq_gi, cq_gr, cq_a, cq_s, cq_p, cq_pr, cq_is, cq_ar, cq_ab, cq_ln, xq_nz, Option.bind_some, xup2_n, xup2_s, Int.toNat_natCast, Int.reduceToNat, if_pos, if_neg, true_and, and_true, and_self, eq_self, if_true, reduceIte, not_true_eq_false, not_false_eq_true, or_true, true_or, qs, q8, w10, h1, hx, hc, e, hw]
theorem st_25d {w b : Int} (hq : 82 < q) (hp : p < np) (hn : np ≤ 16) (hrc : rc < 16) (qs : S q = (1, 3, 14)) (q8 : S (q + 8) = (2, 3, 16)) (q9 : S (q + 9) = (2, 3, 16)) (w10 : G q 10 = ((q + 8 : Nat) : Int)) (w11 : G q 11 = ((q + 9 : Nat) : Int)) (h1 : G q 1 = (np : Int)) (h12 : G q 12 = (rc : Int)) (hx : G (q + 8) p = (p : Int)) (hc : xand (xshr (dn : Int) (p : Int)) 1 = 0) (e : c27 f q (p : Int) (S, G, m) = some (w, (S, G, m))) (hw : xand w (xxor (dn : Int) (-1)) = 0) (er : xwr ((rc : Int) + 1) = ((rc + 1 : Nat) : Int)) (eb : c26 f q (p : Int) (S, xup2 (xup2 G (q + 9) rc (p : Int)) q 12 ((rc + 1 : Nat) : Int), m) = some (b, (S, xup2 (xup2 G (q + 9) rc (p : Int)) q 12 ((rc + 1 : Nat) : Int), m))) : c25_14b r4 r14 f q (dn : Int) (tn : Int) (p : Int) (S, G, m) = r14 q (xor_ (dn : Int) b) (tn : Int) (xwr ((p : Int) + 1)) (S, xup2 (xup2 G (q + 9) rc (p : Int)) q 12 ((rc + 1 : Nat) : Int), m) := by
  unfold c25_14b c25_45 c25_92
  simp (disch := omega) only [cq_gi, cq_gr, cq_a, cq_s, cq_p, cq_pr, cq_is, cq_ar, cq_ab, cq_ln, xq_nz, Option.bind_some, xup2_n, xup2_s, Int.toNat_natCast, Int.reduceToNat, if_pos, if_neg, true_and, and_true, and_self, eq_self, if_true, reduceIte, not_true_eq_false, not_false_eq_true, or_true, true_or, qs, q8, q9, w10, w11, h1, h12, hx, hc, e, hw, er, eb]
end
end
section
/-! THE CLASS: members and readings of a RING, bit by bit -/
theorem qMb_t (T : Nat → Nat) (g j : Nat) : ∀ k, (qMb T g k).testBit j = true ↔ j < k ∧ qRing T j = g
  | 0 => by
    rw [show qMb T g 0 = 0 from rfl, Nat.zero_testBit]
    exact ⟨fun q => (by cases q), fun q => absurd q.1 (Nat.not_lt_zero j)⟩
  | k + 1 => by
    rw [show qMb T g (k + 1) = qMb T g k ||| (if qRing T k = g then 2 ^ k else 0) from rfl, Nat.testBit_or, Bool.or_eq_true, qMb_t T g j k]
    by_cases c : qRing T k = g
    · rw [if_pos c, tb_2]
      constructor
      · rintro (⟨h1, h2⟩ | h1)
        · exact ⟨by omega, h2⟩
        · rw [h1]; exact ⟨Nat.lt_succ_self k, c⟩
      · rintro ⟨h1, h2⟩
        by_cases cj : j = k
        · exact .inr cj
        · exact .inl ⟨by omega, h2⟩
    · rw [if_neg c, Nat.zero_testBit]
      constructor
      · rintro (⟨h1, h2⟩ | h1)
        · exact ⟨by omega, h2⟩
        · cases h1
      · rintro ⟨h1, h2⟩
        by_cases cj : j = k
        · rw [cj] at h2; exact absurd h2 c
        · exact .inl ⟨by omega, h2⟩
theorem qMr_t (T D : Nat → Nat) (g j : Nat) : ∀ k, (qMr T D g k).testBit j = true ↔ ∃ p, p < k ∧ qRing T p = g ∧ (D p).testBit j = true
  | 0 => by
    rw [show qMr T D g 0 = 0 from rfl, Nat.zero_testBit]
    exact ⟨fun q => (by cases q), fun ⟨p, q, _⟩ => absurd q (Nat.not_lt_zero p)⟩
  | k + 1 => by
    rw [show qMr T D g (k + 1) = qMr T D g k ||| (if qRing T k = g then D k else 0) from rfl, Nat.testBit_or, Bool.or_eq_true, qMr_t T D g j k]
    by_cases c : qRing T k = g
    · rw [if_pos c]
      constructor
      · rintro (⟨p, h1, h2⟩ | h1)
        · exact ⟨p, by omega, h2⟩
        · exact ⟨k, Nat.lt_succ_self k, c, h1⟩
      · rintro ⟨p, h1, h2, h3⟩
        by_cases cp : p = k
        · rw [cp] at h3; exact .inr h3
        · exact .inl ⟨p, by omega, h2, h3⟩
    · rw [if_neg c, Nat.zero_testBit]
      constructor
      · rintro (⟨p, h1, h2⟩ | h1)
        · exact ⟨p, by omega, h2⟩
        · cases h1
      · rintro ⟨p, h1, h2, h3⟩
        by_cases cp : p = k
        · rw [cp] at h2; exact absurd h2 c
        · exact .inl ⟨p, by omega, h2, h3⟩
end
section
/-! THE CLASS: orderRings() -/
/-- RINGS in their order so far -/
def isOr (T D : Nat → Nat) (np dn : Nat) (O : List Nat) : Prop := dn < 2 ^ 16 ∧ (∀ j, dn.testBit j = true ↔ j < np ∧ qRing T j ∈ O) ∧ O.Nodup ∧ (∀ g, g ∈ O → g < np ∧ qRing T g = g) ∧ ∀ k, k < O.length → ∀ p, p < np → qRing T p = O.getD k 0 → ∀ y, (D p).testBit y = true → y < np → qRing T y = O.getD k 0 ∨ qRing T y ∈ O.take k
def cOr (G : xG_) (q : Nat) (O : List Nat) : Prop := G q 12 = (O.length : Int) ∧ ∀ k, k < O.length → G (q + 9) k = ((O.getD k 0 : Nat) : Int)
/-- all that the RING x reads outside itself is worked -/
def rdyO (T D : Nat → Nat) (np dn x : Nat) : Prop := ∀ p, p < np → qRing T p = x → ∀ y, (D p).testBit y = true → dn.testBit y = true ∨ qRing T y = x
theorem isOr.len {T D : Nat → Nat} {np dn : Nat} {O : List Nat} (h : isOr T D np dn O) : O.length ≤ np := by
  have := nodup_len O (List.range np) h.2.2.1 (fun x hx => List.mem_range.mpr (h.2.2.2.1 x hx).1)
  rw [List.length_range] at this
  exact this
theorem isOr.add {T D : Nat → Nat} {np dn x : Nat} {O : List Nat} (hn : np ≤ 16) (h : isOr T D np dn O) (hx : x < np) (hr : qRing T x = x) (hd : dn.testBit x = false) (hy : rdyO T D np dn x) : isOr T D np (dn ||| qMb T x np) (O ++ [x]) := by
  obtain ⟨a1, a2, a3, a4, a5⟩ := h
  have hxO : x ∉ O := fun y => by
    have := (a2 x).mpr ⟨hx, by rw [hr]; exact y⟩
    rw [hd] at this
    cases this
  refine ⟨Nat.or_lt_two_pow a1 (qMb_16 T x np hn), fun j => ?_, ?_, fun g hg => ?_, fun k hk p hp hpk y hyb hyn => ?_⟩
  · rw [Nat.testBit_or, Bool.or_eq_true, a2, qMb_t, List.mem_append, List.mem_singleton]
    constructor
    · rintro (⟨b1, b2⟩ | ⟨b1, b2⟩)
      · exact ⟨b1, .inl b2⟩
      · exact ⟨b1, .inr b2⟩
    · rintro ⟨b1, b2 | b2⟩
      · exact .inl ⟨b1, b2⟩
      · exact .inr ⟨b1, b2⟩
  · rw [List.nodup_append]
    exact ⟨a3, by simp, fun c hc d hd => by rw [List.mem_singleton] at hd; rw [hd]; exact fun z => hxO (z ▸ hc)⟩
  · rw [List.mem_append, List.mem_singleton] at hg
    rcases hg with g1 | g1
    · exact a4 g g1
    · rw [g1]; exact ⟨hx, hr⟩
  · rw [len1] at hk
    rw [getD_1] at hpk ⊢
    by_cases c : k = O.length
    · rw [if_pos c] at hpk ⊢
      rw [c, List.take_append_of_le_length (Nat.le_refl _), List.take_length]
      rcases hy p hp hpk y hyb with z | z
      · exact .inr ((a2 y).mp z).2
      · exact .inl z
    · rw [if_neg c] at hpk ⊢
      rw [List.take_append_of_le_length (by omega)]
      exact a5 k (by omega) p hp hpk y hyb hyn
theorem rdyO.mo {T D : Nat → Nat} {np dn dn' x : Nat} (h : rdyO T D np dn x) (hs : qSub dn dn') : rdyO T D np dn' x := fun p hp hpx y hy => by
  rcases h p hp hpx y hy with z | z
  · exact .inl (qSub_t.mp hs y z)
  · exact .inr z
end
section
/-! THE CLASS: orderRings(), one turn -/
section
variable {f q np tn : Nat} {S : Nat → Nat × Nat × Nat} {m : Nat × Nat} {T D : Nat → Nat} {r4 : Nat → Int → Int → xT_ → Option (xT_)}
theorem k_25i (hf : 30 < f) (hq : 82 < q) (hn : np ≤ 16) (qs : cPgS S q) (hD : b16 D) (hDn : ∀ p, p < np → ∀ y, (D p).testBit y = true → y < np) : ∀ (d p fu dn : Nat) (G : xG_) (O : List Nat), p + d = np → d < fu → cPgP G q → G q 1 = (np : Int) → (∀ x, x < np → G (q + 8) x = ((qRing T x : Nat) : Int)) → cRd G q D → isOr T D np dn O → cOr G q O → ∃ G' dn' O', c25_14 r4 f fu q (dn : Int) (tn : Int) (p : Int) (S, G, m) = r4 q ((dn' : Nat) : Int) (xwr ((tn : Int) + 1)) (S, G', m) ∧ (∀ a j, a ≠ q + 9 → ¬ (a = q ∧ j = 12) → G' a j = G a j) ∧ isOr T D np dn' O' ∧ cOr G' q O' ∧ qSub dn dn' ∧ O.length ≤ O'.length ∧ (∀ g, g ∈ O → g ∈ O') ∧ ∀ x, p ≤ x → x < np → qRing T x = x → rdyO T D np dn x → x ∈ O' := by
  intro d
  induction d with
  | zero =>
    intro p fu dn G O e1 e2 hG h1 hR hC hO hc
    obtain ⟨fu, rfl⟩ : ∃ t, fu = t + 1 := ⟨fu - 1, by omega⟩
    have : p = np := by omega
    rw [this]
    exact ⟨G, dn, O, st_25a (r14 := c25_14 r4 f fu) qs.1 h1, fun _ _ _ _ => rfl, hO, hc, qSub_r _, Nat.le_refl _, fun _ h => h, fun x z1 z2 => by omega⟩
  | succ d ih =>
    intro p fu dn G O e1 e2 hG h1 hR hC hO hc
    obtain ⟨fu, rfl⟩ : ∃ t, fu = t + 1 := ⟨fu - 1, by omega⟩
    have hp : p < np := by omega
    have ek : xwr ((p : Int) + 1) = ((p + 1 : Nat) : Int) := by rw [xwr_g _ (by omega) (by omega)]; omega
    have hdn := hO.1
    have hbit := xbit0 (a := dn) (m := p) (by omega) (by omega)
    have hx := hR p hp
    have q8 := qs.2.2.2.2.2.2.2.2.1
    have w10 := hG.2.2.2.2.2.2.2.1
    -- nothing is placed here
    have skip : c25_14 r4 f (fu + 1) q (dn : Int) (tn : Int) (p : Int) (S, G, m) = c25_14 r4 f fu q (dn : Int) (tn : Int) (xwr ((p : Int) + 1)) (S, G, m) → (qRing T p = p → rdyO T D np dn p → p ∈ O) → ∃ G' dn' O', c25_14 r4 f (fu + 1) q (dn : Int) (tn : Int) (p : Int) (S, G, m) = r4 q ((dn' : Nat) : Int) (xwr ((tn : Int) + 1)) (S, G', m) ∧ (∀ a j, a ≠ q + 9 → ¬ (a = q ∧ j = 12) → G' a j = G a j) ∧ isOr T D np dn' O' ∧ cOr G' q O' ∧ qSub dn dn' ∧ O.length ≤ O'.length ∧ (∀ g, g ∈ O → g ∈ O') ∧ ∀ x, p ≤ x → x < np → qRing T x = x → rdyO T D np dn x → x ∈ O' := by
      intro st hp0
      obtain ⟨G', dn', O', x1, x2, x3, x4, x5, x6, x7, x8⟩ := ih (p + 1) fu dn G O (by omega) (by omega) hG h1 hR hC hO hc
      refine ⟨G', dn', O', by rw [st, ek]; exact x1, x2, x3, x4, x5, x6, x7, fun x z1 z2 z3 z4 => ?_⟩
      by_cases cx : x = p
      · rw [cx] at z3 z4 ⊢
        exact x7 p (hp0 z3 z4)
      · exact x8 x (by omega) z2 z3 z4
    by_cases c1 : qRing T p = p
    · by_cases c2 : dn.testBit p = true
      · exact skip (st_25b (r14 := c25_14 r4 f fu) hq hp hn qs.1 q8 w10 h1 hx (.inr (fun y => by rw [hbit.mp y] at c2; cases c2))) (fun _ _ => by
          have := ((hO.2.1 p).mp c2).2
          rw [c1] at this
          exact this)
      · have c2' : dn.testBit p = false := by cases hb : dn.testBit p with
          | true => exact absurd hb c2
          | false => rfl
        obtain ⟨w, w1, w2, w3⟩ := k_27 (f := f) (m := m) (g := p) hf hq hn qs hG h1 hR hD hC
        rw [c1] at hx
        have hsub := xsub (a := w) (b := dn) (by omega) (by omega)
        by_cases c3 : xand (w : Int) (xxor (dn : Int) (-1)) = 0
        · -- it is placed
          have hrdy : rdyO T D np dn p := fun x hx' hxp y hy => by
            by_cases cy : qRing T y = p
            · exact .inr cy
            · refine .inl (hsub.mp c3 y ((w3 y).mpr ⟨(qMr_t T D p y np).mpr ⟨x, hx', hxp, hy⟩, ?_⟩))
              cases hb : (qMb T p np).testBit y with
              | false => rfl
              | true => exact absurd ((qMb_t T p y np).mp hb).2 cy
          have hO' := hO.add hn hp c1 c2' hrdy
          have hlen := hO.len
          have hlen' := hO'.len
          rw [len1] at hlen'
          have er : xwr ((O.length : Int) + 1) = ((O.length + 1 : Nat) : Int) := by rw [xwr_g _ (by omega) (by omega)]; omega
          obtain ⟨G1, hG1⟩ : ∃ G1, G1 = xup2 (xup2 G (q + 9) O.length (p : Int)) q 12 ((O.length + 1 : Nat) : Int) := ⟨_, rfl⟩
          have z1 : ∀ a j, a ≠ q + 9 → ¬ (a = q ∧ j = 12) → G1 a j = G a j := fun a j y1 y2 => by rw [hG1, xup2_n y2, xup2_n (fun y => y1 y.1)]
          have hGp : cPgP G1 q := hG.ge (fun j _ _ y3 => z1 q j (by omega) (fun y => y3 y.2))
          have h11 : G1 q 1 = (np : Int) := by rw [z1 q 1 (by omega) (by omega)]; exact h1
          have hR1 : ∀ x, x < np → G1 (q + 8) x = ((qRing T x : Nat) : Int) := fun x hx' => by rw [z1 _ _ (by omega) (by omega)]; exact hR x hx'
          have hC1 : cRd G1 q D := fun x hx' => by rw [z1 _ _ (by omega) (by omega)]; exact hC x hx'
          have e26 := k_26 (f := f) (m := m) (g := p) hf hq hn qs hGp h11 hR1
          have hc1 : cOr G1 q (O ++ [p]) := by
            refine ⟨by rw [hG1, xup2_s, len1], fun k hk => ?_⟩
            rw [len1] at hk
            rw [hG1, xup2_n (by omega), getD_1]
            by_cases ck : k = O.length
            · rw [if_pos ck, ck, xup2_s]
            · rw [if_neg ck, xup2_n (fun y => ck y.2)]; exact hc.2 k (by omega)
          have st : c25_14 r4 f (fu + 1) q (dn : Int) (tn : Int) (p : Int) (S, G, m) = _ := st_25d (r14 := c25_14 r4 f fu) hq hp hn (by omega) qs.1 q8 qs.2.2.2.2.2.2.2.2.2.1 w10 hG.2.2.2.2.2.2.2.2.1 h1 hc.1 hx (hbit.mpr c2') w2 c3 er (by rw [← hG1]; exact e26)
          rw [← hG1, xor_nat (by omega) (by have := qMb_16 T p np hn; omega), ek] at st
          obtain ⟨G', dn', O', x1, x2, x3, x4, x5, x6, x7, x8⟩ := ih (p + 1) fu (dn ||| qMb T p np) G1 (O ++ [p]) (by omega) (by omega) hGp h11 hR1 hC1 hO' hc1
          rw [len1] at x6
          refine ⟨G', dn', O', st.trans x1, fun a j y1 y2 => by rw [x2 a j y1 y2, z1 a j y1 y2], x3, x4, qSub_tr (sub_or_l _ _) x5, by omega, fun g hg => x7 g (List.mem_append_left _ hg), fun x y1 y2 y3 y4 => ?_⟩
          by_cases cx : x = p
          · rw [cx]; exact x7 p (List.mem_append_right _ (List.mem_singleton.mpr rfl))
          · exact x8 x (by omega) y2 y3 (y4.mo (sub_or_l _ _))
        · exact skip (st_25c (r14 := c25_14 r4 f fu) hq hp hn qs.1 q8 w10 h1 hx (hbit.mpr c2') w2 c3) (fun _ hr => absurd (hsub.mpr (fun y hy => by
            obtain ⟨a1, a2⟩ := (w3 y).mp hy
            obtain ⟨x, b1, b2, b3⟩ := (qMr_t T D p y np).mp a1
            rcases hr x b1 b2 y b3 with z | z
            · exact z
            · rw [(qMb_t T p y np).mpr ⟨hDn x b1 y b3, z⟩] at a2
              cases a2)) c3)
    · exact skip (st_25b (r14 := c25_14 r4 f fu) hq hp hn qs.1 q8 w10 h1 hx (.inl c1)) (fun h _ => absurd h c1)
end
end
section
/-! THE CLASS: orderRings(), all turns -/
section
variable {f q np : Nat} {S : Nat → Nat × Nat × Nat} {m : Nat × Nat} {T D : Nat → Nat} {r4 : Nat → Int → Int → xT_ → Option (xT_)} {G : xG_} {dn tn : Nat}
theorem st_25t (qs : S q = (1, 3, 14)) (h1 : G q 1 = (np : Int)) (ht : tn < np) : c25_4b r4 f q (dn : Int) (tn : Int) (S, G, m) = c25_14 r4 f f q (dn : Int) (tn : Int) ((0 : Nat) : Int) (S, G, m) := by
  unfold c25_4b
  simp (disch := omega) only [cq_gi, cq_gr, cq_a, cq_s, cq_p, cq_pr, cq_is, cq_ar, cq_ab, cq_ln, xq_nz, Option.bind_some, xup2_n, xup2_s, Int.toNat_natCast, Int.reduceToNat, if_pos, if_neg, true_and, and_true, and_self, eq_self, if_true, reduceIte, not_true_eq_false, not_false_eq_true, or_true, true_or, qs, h1]
  rfl
theorem st_25u (qs : S q = (1, 3, 14)) (h1 : G q 1 = (np : Int)) : c25_4b r4 f q (dn : Int) (np : Int) (S, G, m) = some (S, G, m) := by
  unfold c25_4b
  simp (disch := omega) only [cq_gi, cq_gr, cq_a, cq_s, cq_p, cq_pr, cq_is, cq_ar, cq_ab, cq_ln, xq_nz, Option.bind_some, xup2_n, xup2_s, Int.toNat_natCast, Int.reduceToNat, if_pos, if_neg, true_and, and_true, and_self, eq_self, if_true, reduceIte, not_true_eq_false, not_false_eq_true, or_true, true_or, qs, h1]
def allO (T : Nat → Nat) (np : Nat) (O : List Nat) : Prop := ∀ x, x < np → qRing T x = x → x ∈ O
theorem k_25t (hf : 30 < f) (hq : 82 < q) (hn : np ≤ 16) (qs : cPgS S q) (hD : b16 D) (hA : ∀ x j y, x < np → j < np → (T x).testBit j = true → (T j).testBit y = true → (T x).testBit y = true) (hDA : ∀ x, x < np → ∀ j, (D x).testBit j = true → (T x).testBit j = true ∧ j < np) : ∀ (d tn fu dn : Nat) (G : xG_) (O : List Nat), tn + d = np → d < fu → cPgP G q → G q 1 = (np : Int) → (∀ x, x < np → G (q + 8) x = ((qRing T x : Nat) : Int)) → cRd G q D → isOr T D np dn O → cOr G q O → (tn ≤ O.length ∨ allO T np O) → ∃ G' O', c25_4 f fu q (dn : Int) (tn : Int) (S, G, m) = some (S, G', m) ∧ (∀ a j, a ≠ q + 9 → ¬ (a = q ∧ j = 12) → G' a j = G a j) ∧ (∃ dn', isOr T D np dn' O') ∧ cOr G' q O' ∧ allO T np O' := by
  intro d
  induction d with
  | zero =>
    intro tn fu dn G O e1 e2 hG h1 hR hC hO hc ht
    obtain ⟨fu, rfl⟩ : ∃ t, fu = t + 1 := ⟨fu - 1, by omega⟩
    have : tn = np := by omega
    rw [this] at ht ⊢
    refine ⟨G, O, st_25u (r4 := c25_4 f fu) qs.1 h1, fun _ _ _ _ => rfl, ⟨dn, hO⟩, hc, ?_⟩
    rcases ht with z | z
    · intro x hx _
      refine Classical.byContradiction (fun hxO => ?_)
      have := nodup_len (x :: O) (List.range np) (List.nodup_cons.mpr ⟨hxO, hO.2.2.1⟩) (fun y hy => by
        rcases List.mem_cons.mp hy with w | w
        · rw [w]; exact List.mem_range.mpr hx
        · exact List.mem_range.mpr (hO.2.2.2.1 y w).1)
      rw [List.length_cons, List.length_range] at this
      omega
    · exact z
  | succ d ih =>
    intro tn fu dn G O e1 e2 hG h1 hR hC hO hc ht
    obtain ⟨fu, rfl⟩ : ∃ t, fu = t + 1 := ⟨fu - 1, by omega⟩
    have ek : xwr ((tn : Int) + 1) = ((tn + 1 : Nat) : Int) := by rw [xwr_g _ (by omega) (by omega)]; omega
    obtain ⟨G1, dn1, O1, x1, x2, x3, x4, x5, x6, x7, x8⟩ := k_25i (f := f) (m := m) (tn := tn) (r4 := c25_4 f fu) (T := T) hf hq hn qs hD (fun p hp y hy => (hDA p hp y hy).2) np 0 f dn G O (by omega) (by omega) hG h1 hR hC hO hc
    have st : c25_4 f (fu + 1) q (dn : Int) (tn : Int) (S, G, m) = _ := st_25t (r4 := c25_4 f fu) qs.1 h1 (by omega)
    have ht1 : tn + 1 ≤ O1.length ∨ allO T np O1 := by
      by_cases ca : allO T np O
      · exact .inr (fun x z1 z2 => x7 x (ca x z1 z2))
      · left
        have htn : tn ≤ O.length := by rcases ht with z | z; exact z; exact absurd z ca
        obtain ⟨r, r1, r2, r3⟩ : ∃ r, r < np ∧ qRing T r = r ∧ r ∉ O := by
          refine Classical.byContradiction (fun hno => ca (fun x z1 z2 => Classical.byContradiction (fun z3 => hno ⟨x, z1, z2, z3⟩)))
        have hd : ∀ p, p < np → (dn.testBit p = true ↔ dn.testBit (qRing T p) = true) := fun p hp => by
          rw [hO.2.1, hO.2.1, qRing_id hA hp]
          obtain ⟨a1, _, _⟩ := qRing_is T p
          exact ⟨fun y => ⟨by omega, y.2⟩, fun y => ⟨hp, y.2⟩⟩
        have hdr : dn.testBit r = false := by
          cases hb : dn.testBit r with
          | false => rfl
          | true =>
            have := ((hO.2.1 r).mp hb).2
            rw [r2] at this
            exact absurd this r3
        obtain ⟨s, s1, s2, s3, s4⟩ := rdy hA (Rd := D) (dn := dn) hDA hd _ r (Nat.le_refl _) r1 r2 hdr
        have hsO : s ∉ O := fun y => by
          have := (hO.2.1 s).mpr ⟨s1, by rw [s2]; exact y⟩
          rw [s3] at this
          cases this
        have hsO1 := x8 s (Nat.zero_le _) s1 s2 s4
        have := nodup_len (s :: O) O1 (List.nodup_cons.mpr ⟨hsO, hO.2.2.1⟩) (fun y hy => by
          rcases List.mem_cons.mp hy with w | w
          · rw [w]; exact hsO1
          · exact x7 y w)
        rw [List.length_cons] at this
        omega
    obtain ⟨G2, O2, y1, y2, y3, y4, y5⟩ := ih (tn + 1) fu dn1 G1 O1 (by omega) (by omega) (hG.ge (fun j _ _ z3 => x2 q j (by omega) (fun y => z3 y.2))) (by rw [x2 q 1 (by omega) (by omega)]; exact h1) (fun x hx => by rw [x2 _ _ (by omega) (by omega)]; exact hR x hx) (fun x hx => by rw [x2 _ _ (by omega) (by omega)]; exact hC x hx) x3 x4 ht1
    refine ⟨G2, O2, ?_, fun a j z1 z2 => by rw [y2 a j z1 z2, x2 a j z1 z2], y3, y4, y5⟩
    rw [st, x1, ek]
    exact y1
end
end
section
/-! THE CLASS: arrange() -/
section
variable {f q np A sl nx : Nat} {S : Nat → Nat × Nat × Nat} {G : xG_} {R : List pRu}
/-- a program's RINGS stand -/
def cRg (G : xG_) (q np : Nat) (R : List pRu) : Prop := (∀ p, p < np → G (q + 8) p = ((qRing (qWm np (qRd R) np) p : Nat) : Int)) ∧ cRd G q (qRd R) ∧ ∃ O, (∃ dn, isOr (qWm np (qRd R) np) (qRd R) np dn O) ∧ cOr G q O ∧ allO (qWm np (qRd R) np) np O
theorem k_24 (hf : 30 < f) (hq : 278 < q) (hA : q + 10 < A) (hnx : nx ≤ A) (hn : np ≤ 16) (hP : cPgS S q) (hG : cPgP G q) (h1 : G q 1 = (np : Int)) (h12 : G q 12 = 0) (hR : cRl S G q nx R) (h0 : ∀ j, G (q + 10) j = 0) (hw : ∀ u ∈ R, (0 ≤ u.1 ∧ u.1 < 16) ∧ ∀ y ∈ u.2.2.2.2.2, y.1 ≠ 3 → 0 ≤ y.2.1 ∧ y.2.1 < 16) (hT : ∀ x j y, x < np → j < np → (qWm np (qRd R) np x).testBit j = true → (qWm np (qRd R) np j).testBit y = true → (qWm np (qRd R) np x).testBit y = true) (hD : ∀ x, x < np → ∀ j, (qRd R x).testBit j = true → (qWm np (qRd R) np x).testBit j = true ∧ j < np) :
    ∃ S' G', c24 f q (S, G, (A, sl)) = some (S', G', (A + 1, sl + 16)) ∧ (∀ a, a < A → S' a = S a) ∧ (∀ a j, a < A → ¬ (q + 8 ≤ a ∧ a ≤ q + 10) → ¬ (a = q ∧ j = 12) → G' a j = G a j) ∧ cRg G' q np R := by
  have hR24 := hR.2.1
  obtain ⟨G1, a1, a2, a3, a4⟩ := k_24r (f := f) (A := A) (sl := sl) (nx := nx) (by omega) (by omega : 82 < q) hP hw R.length 0 f G (by omega) (by omega) hG hR (fun p => by show 0 < 2 ^ 16; decide) (fun p _ => h0 p)
  have hS : ∀ a, a < A → xup1 S A (2, 3, 16) a = S a := fun a ha => xup1_n (Nat.ne_of_lt ha)
  have hP' : cPgS (xup1 S A (2, 3, 16)) q := hP.ge (fun a _ z => hS a (by omega))
  have z1 : ∀ a j, a ≠ A → xz1 G1 A (G1 (q + 10)) a j = G1 a j := fun a j ha => xz1_n j ha
  obtain ⟨G2, b1, b2, b3⟩ := k_80 (f := f) (m := (A + 1, sl + 16)) (np := np) hf (by omega : q ≠ A) hn hP'.1 (xup1_s S A (2, 3, 16)) a3 np 0 f (xz1 G1 A (G1 (q + 10))) (by omega) (by omega) (by rw [z1 _ _ (by omega), a2 _ _ (by omega)]; exact h1) (fun p hp => by rw [xz1_s]; exact a4 p hp)
  have z2 : ∀ a j, a ≠ A → a ≠ q + 10 → G2 a j = G a j := fun a j h h' => by rw [b2 a j h, z1 a j h, a2 a j h']
  have hGp : ∀ {Gx : xG_}, (∀ a j, a ≠ A → a ≠ q + 10 → a ≠ q + 8 → Gx a j = G a j) → cPgP Gx q := fun h => hG.ge (fun j _ _ _ => h q j (by omega) (by omega) (by omega))
  obtain ⟨G3, c1, c2, c3⟩ := k_132 (f := f) (m := (A + 1, sl + 16)) (T' := (S, G, (A, sl))) hf (by omega : 82 < q) hA hn hP' (xup1_s S A (2, 3, 16)) (qWm_b (np := np) a3 np) np 0 f G2 (by omega) (by omega) (by rw [z2 _ _ (by omega) (by omega)]; exact hG.2.2.2.2.2.2.2.1) (by rw [z2 _ _ (by omega) (by omega)]; exact h1) b3 (fun p hp => absurd hp (Nat.not_lt_zero p))
  have z3 : ∀ a j, a ≠ A → a ≠ q + 10 → a ≠ q + 8 → G3 a j = G a j := fun a j h h' h'' => by rw [c2 a j h'', z2 a j h h']
  have hC3 : cRd G3 q (qRd R) := fun p hp => by rw [c2 _ _ (by omega), b2 _ _ (by omega), z1 _ _ (by omega)]; exact a4 p hp
  obtain ⟨G4, O, d1, d2, d3, d4, d5⟩ := k_25t (f := f) (m := (A + 1, sl + 16)) hf (by omega : 82 < q) hn hP' a3 hT hD np 0 f 0 G3 [] (by omega) (by omega) (hGp z3) (by rw [z3 _ _ (by omega) (by omega) (by omega)]; exact h1) c3 hC3 ⟨by decide, fun j => by rw [Nat.zero_testBit]; exact ⟨fun y => (by cases y), fun y => (by cases y.2)⟩, List.nodup_nil, fun g hg => (by cases hg), fun k hk => absurd hk (Nat.not_lt_zero k)⟩ ⟨by rw [z3 _ _ (by omega) (by omega) (by omega), h12]; rfl, fun k hk => absurd hk (Nat.not_lt_zero k)⟩ (.inl (Nat.zero_le _))
  refine ⟨_, G4, ?_, hS, fun a j z z' z'' => by rw [d2 a j (by omega) z'', z3 a j (by omega) (by omega) (by omega)], fun p hp => by rw [d2 _ _ (by omega) (by omega)]; exact c3 p hp, fun p hp => by rw [d2 _ _ (by omega) (by omega)]; exact hC3 p hp, O, d3, d4, d5⟩
  show c24_2 f f q ((0 : Nat) : Int) (S, G, (A, sl)) = _
  rw [a1, b1]
  exact c1 _ d1
end
end
section
/-! THE CLASS: programFault(), steps -/
def c62_56t (f : Nat) (x0 : Nat) (R108 : (xT_)) : Option (Int × xT_) := ((cq_gr 4 3 20 (x0) R108).bind fun v114 => ((cq_is 3 14 (v114) R108).bind fun _ => ((c28 f (v114) R108).bind fun R116 => ((cq_p 4 2 20 (x0) (R116.1) R116.2).bind fun T123 => ((cq_gi 4 2 20 (x0) T123).bind fun v127 => (if (v127) = (-1) then c62_130  f (0) T123 else c62_130  f (5) T123))))))
theorem c62_56t_e (r56 : Nat → Int → xT_ → Option (Int × xT_)) (f : Nat) (x0 : Nat) (x1 : Int) (T : xT_) : c62_56b r56 f x0 x1 T = ((cq_gr 4 3 20 (x0) T).bind fun v101 => ((cq_gi 3 8 14 (v101) T).bind fun v103 => (if (v103) ≤ (x1) then ((cq_gr 4 3 20 (x0) T).bind fun v106 => ((cq_is 3 14 (v106) T).bind fun _ => ((c24 f (v106) T).bind fun R108 => c62_56t f x0 R108))) else ((cq_gr 4 3 20 (x0) T).bind fun v130 => ((cq_gr 3 9 14 (v130) T).bind fun v132 => ((cq_ar (v132) (x1) T).bind fun v134 => ((cq_is 6 20 (v134) T).bind fun _ => ((c95 f (v134) T).bind fun R136 => ((cq_p 4 2 20 (x0) (R136.1) R136.2).bind fun T143 => ((cq_gi 4 2 20 (x0) T143).bind fun v147 => (if (v147) = (-1) then r56 (x0) (xwr ((x1) + (1))) T143 else (some (4, T143))))))))))))) := rfl
section
variable {f q u r n : Nat} {S : Nat → Nat × Nat × Nat} {G : xG_} {m : Nat × Nat} {x : Int} {r56 : Nat → Int → xT_ → Option (Int × xT_)}
theorem st_62r (hs : cSs S) (hq : 82 < q) (u2 : 278 < u) (hr : r < n) (hn : n ≤ 24) (qs : S q = (1, 3, 14)) (us : S u = (1, 6, 20)) (q7 : S (q + 7) = (2, 11, 24)) (h3 : G 72 3 = (q : Int)) (h8 : G q 8 = (n : Int)) (w9 : G q 9 = ((q + 7 : Nat) : Int)) (h7 : G (q + 7) r = (u : Int)) (e : c95 f u (S, G, m) = some (x, (S, G, m))) : c62_56b r56 f 72 (r : Int) (S, G, m) = if x = -1 then r56 72 (xwr ((r : Int) + 1)) (S, xup2 G 72 2 x, m) else some (4, (S, xup2 G 72 2 x, m)) := by
  rw [c62_56t_e]
  by_cases c : x = -1
  · rw [if_pos c]
    rw [c] at e ⊢
    simp (disch := omega) only [cq_gi, cq_gr, cq_a, cq_s, cq_p, cq_pr, cq_is, cq_ar, cq_ab, cq_ln, xq_nz, Option.bind_some, xup2_n, xup2_s, Int.toNat_natCast, Int.reduceToNat, if_pos, if_neg, true_and, and_true, and_self, eq_self, if_true, reduceIte, not_true_eq_false, not_false_eq_true, or_true, true_or, s72 hs, qs, us, q7, h3, h8, w9, h7, e]
  · rw [if_neg c]
    simp (disch := omega) only [cq_gi, cq_gr, cq_a, cq_s, cq_p, cq_pr, cq_is, cq_ar, cq_ab, cq_ln, xq_nz, Option.bind_some, xup2_n, xup2_s, Int.toNat_natCast, Int.reduceToNat, if_pos, if_neg, true_and, and_true, and_self, eq_self, if_true, reduceIte, not_true_eq_false, not_false_eq_true, or_true, true_or, s72 hs, qs, us, q7, h3, h8, w9, h7, e, c]
theorem st_62e {T : xT_} (hs : cSs S) (hq : 82 < q) (qs : S q = (1, 3, 14)) (h3 : G 72 3 = (q : Int)) (h8 : G q 8 = (n : Int)) (e : c24 f q (S, G, m) = some T) : c62_56b r56 f 72 (n : Int) (S, G, m) = c62_56t f 72 T := by
  rw [c62_56t_e]
  simp (disch := omega) only [cq_gi, cq_gr, cq_a, cq_s, cq_p, cq_pr, cq_is, cq_ar, cq_ab, cq_ln, xq_nz, Option.bind_some, xup2_n, xup2_s, Int.toNat_natCast, Int.reduceToNat, if_pos, if_neg, true_and, and_true, and_self, eq_self, if_true, reduceIte, not_true_eq_false, not_false_eq_true, or_true, true_or, s72 hs, qs, h3, h8, e]
theorem st_62t (s72' : S 72 = (1, 4, 20)) (hq : 82 < q) (qs : S q = (1, 3, 14)) (h3 : G 72 3 = (q : Int)) (e : c28 f q (S, G, m) = some (x, (S, G, m))) : c62_56t f 72 (S, G, m) = some (if x = -1 then 0 else 5, (S, xup2 G 72 2 x, m)) := by
  by_cases c : x = -1
  · rw [if_pos c]
    rw [c] at e ⊢
    unfold c62_56t c62_130
    simp (disch := omega) only [cq_gi, cq_gr, cq_a, cq_s, cq_p, cq_pr, cq_is, cq_ar, cq_ab, cq_ln, xq_nz, Option.bind_some, xup2_n, xup2_s, Int.toNat_natCast, Int.reduceToNat, if_pos, if_neg, true_and, and_true, and_self, eq_self, if_true, reduceIte, not_true_eq_false, not_false_eq_true, or_true, true_or, s72', qs, h3, e]
  · rw [if_neg c]
    unfold c62_56t c62_130
    simp (disch := omega) only [cq_gi, cq_gr, cq_a, cq_s, cq_p, cq_pr, cq_is, cq_ar, cq_ab, cq_ln, xq_nz, Option.bind_some, xup2_n, xup2_s, Int.toNat_natCast, Int.reduceToNat, if_pos, if_neg, true_and, and_true, and_self, eq_self, if_true, reduceIte, not_true_eq_false, not_false_eq_true, or_true, true_or, s72', qs, h3, e, c]
end
end
section
/-! THE CLASS: programFault(), the rules' VARIABLES -/
section
variable {f q nx : Nat} {S : Nat → Nat × Nat × Nat} {m : Nat × Nat} {R : List pRu}
/-- the first VARIABLE of the first rule from r on that is not bound -/
def fUp (R : List pRu) (r : Nat) (x : Int) : Prop := x = -1 ∧ (∀ i, r ≤ i → i < R.length → ∀ v, v < (R.getD i dRu).2.2.2.2.1.length → (qBd (R.getD i dRu).2.2.2.2.2).testBit v = true) ∨ ∃ i, r ≤ i ∧ i < R.length ∧ uPl (R.getD i dRu).2.2.2.2.1 (qBd (R.getD i dRu).2.2.2.2.2) 0 x ∧ x ≠ -1 ∧ ∀ j, r ≤ j → j < i → ∀ v, v < (R.getD j dRu).2.2.2.2.1.length → (qBd (R.getD j dRu).2.2.2.2.2).testBit v = true
theorem k_62r {np : Nat} (hf : 3010 < f) (hs : cSs S) (hq : 278 < q) (qs : cPgS S q) (hw : ∀ u ∈ R, ∀ y ∈ u.2.2.2.2.2, wLt np u.2.2.2.2.1.length y) : ∀ (d r fu : Nat) (G : xG_), r + d = R.length → d < fu → cPs G → G 72 3 = (q : Int) → cPgP G q → cRl S G q nx R → ∃ x G', (∀ a j, ¬ (a = 72 ∧ j = 2) → G' a j = G a j) ∧ fUp R r x ∧ (x ≠ -1 → c62_56 f fu 72 (r : Int) (S, G, m) = some (4, (S, G', m)) ∧ G' 72 2 = x) ∧ (x = -1 → ∃ fu', c62_56 f fu 72 (r : Int) (S, G, m) = c62_56 f (fu' + 1) 72 (R.length : Int) (S, G', m)) := by
  intro d
  induction d with
  | zero =>
    intro r fu G e1 e2 hp h3 hG hR
    obtain ⟨fu, rfl⟩ : ∃ t, fu = t + 1 := ⟨fu - 1, by omega⟩
    have : r = R.length := by omega
    rw [this]
    exact ⟨-1, G, fun _ _ _ => rfl, .inl ⟨rfl, fun i z1 z2 => by omega⟩, fun y => absurd rfl y, fun _ => ⟨fu, rfl⟩⟩
  | succ d ih =>
    intro r fu G e1 e2 hp h3 hG hR
    obtain ⟨fu, rfl⟩ : ∃ t, fu = t + 1 := ⟨fu - 1, by omega⟩
    have hr : r < R.length := by omega
    have hR24 := hR.2.1
    have ek : xwr ((r : Int) + 1) = ((r + 1 : Nat) : Int) := by rw [xwr_g _ (by omega) (by omega)]; omega
    obtain ⟨u, u1, u2, u3, ⟨K, v1, v2, v3, v4, v5, v6⟩, u5, u6⟩ := hR.2.2 r hr
    have hm : R.getD r dRu ∈ R := by rw [getD_e hr]; exact List.getElem_mem hr
    obtain ⟨x, x1, x2⟩ := k_95 (f := f) (m := m) hf v1 (hw _ hm) v4 v5 v6
    have st : c62_56 f (fu + 1) 72 (r : Int) (S, G, m) = _ := st_62r (r56 := c62_56 f fu) hs (by omega) v1.2.2.2.2.1 hr hR24 qs.1 v1.1.1 qs.2.2.2.2.2.2.2.1 h3 hR.1 hG.2.2.2.2.2.2.1 u1 x1
    have z : ∀ a j, ¬ (a = 72 ∧ j = 2) → xup2 G 72 2 x a j = G a j := fun a j y => xup2_n y
    by_cases c : x = -1
    · rw [if_pos c, ek] at st
      obtain ⟨y, G', y1, y2, y3, y4⟩ := ih (r + 1) fu (xup2 G 72 2 x) (by omega) (by omega) (hp.read (fun a j w1 _ _ => z a j (by omega))) (by rw [z _ _ (by omega)]; exact h3) (hG.ge (fun j _ _ _ => z q j (by omega))) (hR.ge (Nat.le_refl _) (z _ _ (by omega)) (fun j _ => z _ _ (by omega)) (fun _ _ => rfl) (fun a j w1 w2 => z a j (by omega)))
      have hall : ∀ v, v < (R.getD r dRu).2.2.2.2.1.length → (qBd (R.getD r dRu).2.2.2.2.2).testBit v = true := by
        rcases x2 with ⟨_, a2⟩ | ⟨v, _, _, _, _, a5⟩
        · exact fun v hv => a2 v (Nat.zero_le _) hv
        · rw [c] at a5; omega
      refine ⟨y, G', fun a j w => by rw [y1 a j w, z a j w], ?_, fun h => ⟨st.trans (y3 h).1, (y3 h).2⟩, fun h => by obtain ⟨fu', e⟩ := y4 h; exact ⟨fu', st.trans e⟩⟩
      rcases y2 with ⟨a1, a2⟩ | ⟨i, a1, a2, a3, a4, a5⟩
      · refine .inl ⟨a1, fun i w1 w2 => ?_⟩
        by_cases ci : i = r
        · rw [ci]; exact hall
        · exact a2 i (by omega) w2
      · refine .inr ⟨i, by omega, a2, a3, a4, fun j w1 w2 => ?_⟩
        by_cases cj : j = r
        · rw [cj]; exact hall
        · exact a5 j (by omega) w2
    · rw [if_neg c] at st
      exact ⟨x, xup2 G 72 2 x, z, .inr ⟨r, Nat.le_refl _, hr, x2, c, fun j w1 w2 => by omega⟩, fun _ => ⟨st, xup2_s _ _ _ _⟩, fun h => absurd h c⟩
end
end
section
/-! THE CLASS: programFault(), its first three -/
def c62a (f : Nat) (a0 : Nat) (R150 : (Int × xT_)) : Option (Int × xT_) := ((cq_p 4 2 20 (a0) (R150.1) R150.2).bind fun T157 => ((cq_gi 4 2 20 (a0) T157).bind fun v161 => (if (v161) = (-1) then ((cq_is 4 20 (a0) T157).bind fun _ => ((c66 f (a0) T157).bind fun R164 => ((cq_p 4 2 20 (a0) (R164.1) R164.2).bind fun T171 => ((cq_gi 4 2 20 (a0) T171).bind fun v175 => (if (v175) = (-1) then ((cq_is 4 20 (a0) T171).bind fun _ => ((c67 f (a0) T171).bind fun R178 => ((cq_p 4 2 20 (a0) (R178.1) R178.2).bind fun T185 => ((cq_gi 4 2 20 (a0) T185).bind fun v189 => (if (v189) = (-1) then c62_56  f f (a0) (0) T185 else (some (3, T185))))))) else (some (2, T171))))))) else (some (1, T157)))))
theorem c62a_e (f : Nat) (a0 : Nat) (T : xT_) : c62 f a0 T = ((cq_is 4 20 (a0) T).bind fun _ => ((c65 f (a0) T).bind fun R150 => c62a f a0 R150)) := rfl
def c62b (f : Nat) (a0 : Nat) (R164 : (Int × xT_)) : Option (Int × xT_) := ((cq_p 4 2 20 (a0) (R164.1) R164.2).bind fun T171 => ((cq_gi 4 2 20 (a0) T171).bind fun v175 => (if (v175) = (-1) then ((cq_is 4 20 (a0) T171).bind fun _ => ((c67 f (a0) T171).bind fun R178 => ((cq_p 4 2 20 (a0) (R178.1) R178.2).bind fun T185 => ((cq_gi 4 2 20 (a0) T185).bind fun v189 => (if (v189) = (-1) then c62_56  f f (a0) (0) T185 else (some (3, T185))))))) else (some (2, T171)))))
theorem c62b_e (f : Nat) (a0 : Nat) (R150 : (Int × xT_)) : c62a f a0 R150 = ((cq_p 4 2 20 (a0) (R150.1) R150.2).bind fun T157 => ((cq_gi 4 2 20 (a0) T157).bind fun v161 => (if (v161) = (-1) then ((cq_is 4 20 (a0) T157).bind fun _ => ((c66 f (a0) T157).bind fun R164 => c62b f a0 R164)) else (some (1, T157))))) := rfl
def c62c (f : Nat) (a0 : Nat) (R178 : (Int × xT_)) : Option (Int × xT_) := ((cq_p 4 2 20 (a0) (R178.1) R178.2).bind fun T185 => ((cq_gi 4 2 20 (a0) T185).bind fun v189 => (if (v189) = (-1) then c62_56  f f (a0) (0) T185 else (some (3, T185)))))
theorem c62c_e (f : Nat) (a0 : Nat) (R164 : (Int × xT_)) : c62b f a0 R164 = ((cq_p 4 2 20 (a0) (R164.1) R164.2).bind fun T171 => ((cq_gi 4 2 20 (a0) T171).bind fun v175 => (if (v175) = (-1) then ((cq_is 4 20 (a0) T171).bind fun _ => ((c67 f (a0) T171).bind fun R178 => c62c f a0 R178)) else (some (2, T171))))) := rfl
section
variable {f : Nat} {S : Nat → Nat × Nat × Nat} {G : xG_} {m : Nat × Nat} {x : Int} {R : Int × xT_}
theorem st_62_0 (s72' : S 72 = (1, 4, 20)) (e : c65 f 72 (S, G, m) = some R) : c62 f 72 (S, G, m) = c62a f 72 R := by
  rw [c62a_e]
  simp (disch := omega) only [cq_gi, cq_gr, cq_a, cq_s, cq_p, cq_pr, cq_is, cq_ar, cq_ab, cq_ln, xq_nz, Option.bind_some, xup2_n, xup2_s, Int.toNat_natCast, Int.reduceToNat, if_pos, if_neg, true_and, and_true, and_self, eq_self, if_true, reduceIte, not_true_eq_false, not_false_eq_true, or_true, true_or, s72', e]
theorem st_62_1 (s72' : S 72 = (1, 4, 20)) : (x ≠ -1 → c62a f 72 (x, (S, G, m)) = some (1, (S, xup2 G 72 2 x, m))) ∧ (x = -1 → ∀ {R : Int × xT_}, c66 f 72 (S, xup2 G 72 2 x, m) = some R → c62a f 72 (x, (S, G, m)) = c62b f 72 R) := by
  refine ⟨fun c => ?_, fun c R e => ?_⟩
  · rw [c62b_e]
    simp (disch := omega) only [cq_gi, cq_gr, cq_a, cq_s, cq_p, cq_pr, cq_is, cq_ar, cq_ab, cq_ln, xq_nz, Option.bind_some, xup2_n, xup2_s, Int.toNat_natCast, Int.reduceToNat, if_pos, if_neg, true_and, and_true, and_self, eq_self, if_true, reduceIte, not_true_eq_false, not_false_eq_true, or_true, true_or, s72', c]
  · rw [c62b_e]
    rw [c] at e ⊢
    simp (disch := omega) only [cq_gi, cq_gr, cq_a, cq_s, cq_p, cq_pr, cq_is, cq_ar, cq_ab, cq_ln, xq_nz, Option.bind_some, xup2_n, xup2_s, Int.toNat_natCast, Int.reduceToNat, if_pos, if_neg, true_and, and_true, and_self, eq_self, if_true, reduceIte, not_true_eq_false, not_false_eq_true, or_true, true_or, s72', e]
theorem st_62_2 (s72' : S 72 = (1, 4, 20)) : (x ≠ -1 → c62b f 72 (x, (S, G, m)) = some (2, (S, xup2 G 72 2 x, m))) ∧ (x = -1 → ∀ {R : Int × xT_}, c67 f 72 (S, xup2 G 72 2 x, m) = some R → c62b f 72 (x, (S, G, m)) = c62c f 72 R) := by
  refine ⟨fun c => ?_, fun c R e => ?_⟩
  · rw [c62c_e]
    simp (disch := omega) only [cq_gi, cq_gr, cq_a, cq_s, cq_p, cq_pr, cq_is, cq_ar, cq_ab, cq_ln, xq_nz, Option.bind_some, xup2_n, xup2_s, Int.toNat_natCast, Int.reduceToNat, if_pos, if_neg, true_and, and_true, and_self, eq_self, if_true, reduceIte, not_true_eq_false, not_false_eq_true, or_true, true_or, s72', c]
  · rw [c62c_e]
    rw [c] at e ⊢
    simp (disch := omega) only [cq_gi, cq_gr, cq_a, cq_s, cq_p, cq_pr, cq_is, cq_ar, cq_ab, cq_ln, xq_nz, Option.bind_some, xup2_n, xup2_s, Int.toNat_natCast, Int.reduceToNat, if_pos, if_neg, true_and, and_true, and_self, eq_self, if_true, reduceIte, not_true_eq_false, not_false_eq_true, or_true, true_or, s72', e]
theorem st_62_3 (s72' : S 72 = (1, 4, 20)) : (x ≠ -1 → c62c f 72 (x, (S, G, m)) = some (3, (S, xup2 G 72 2 x, m))) ∧ (x = -1 → c62c f 72 (x, (S, G, m)) = c62_56 f f 72 0 (S, xup2 G 72 2 x, m)) := by
  refine ⟨fun c => ?_, fun c => ?_⟩
  · unfold c62c
    simp (disch := omega) only [cq_gi, cq_gr, cq_a, cq_s, cq_p, cq_pr, cq_is, cq_ar, cq_ab, cq_ln, xq_nz, Option.bind_some, xup2_n, xup2_s, Int.toNat_natCast, Int.reduceToNat, if_pos, if_neg, true_and, and_true, and_self, eq_self, if_true, reduceIte, not_true_eq_false, not_false_eq_true, or_true, true_or, s72', c]
  · unfold c62c
    rw [c]
    simp (disch := omega) only [cq_gi, cq_gr, cq_a, cq_s, cq_p, cq_pr, cq_is, cq_ar, cq_ab, cq_ln, xq_nz, Option.bind_some, xup2_n, xup2_s, Int.toNat_natCast, Int.reduceToNat, if_pos, if_neg, true_and, and_true, and_self, eq_self, if_true, reduceIte, not_true_eq_false, not_false_eq_true, or_true, true_or, s72']
end
end
section
/-! VARIABLES and rules stand in the order of their places -/
def vSo (V : List (Int × Nat)) (a b : Nat) : Prop := V.Pairwise (fun x y => x.2 < y.2) ∧ ∀ v ∈ V, a ≤ v.2 ∧ v.2 < b
theorem vSo.mo {V : List (Int × Nat)} {a b c : Nat} (h : vSo V a b) (hb : b ≤ c) : vSo V a c := ⟨h.1, fun m hm => by have := h.2 m hm; omega⟩
theorem vSo.add {V : List (Int × Nat)} {a b c : Nat} {v : Int × Nat} (h : vSo V a b) (h0 : a ≤ b) (h1 : b ≤ v.2) (h2 : v.2 < c) : vSo (V ++ [v]) a c := by
  refine ⟨List.pairwise_append.mpr ⟨h.1, by simp, fun x hx y hy => ?_⟩, fun x hx => ?_⟩
  · rw [List.mem_singleton.mp hy]
    have := h.2 x hx
    omega
  · rcases List.mem_append.mp hx with q | q
    · have := h.2 x q
      omega
    · rw [List.mem_singleton.mp q]; exact ⟨by omega, h2⟩
section
variable {B : Nat → Int} {n F : Nat} {lm tell : Bool} {a : Nat}
theorem pVar_so (hB : tTx B n) {V : List (Int × Nat)} {i : Nat} {r : Int × List (Int × Nat) × Nat} (h : pVar (tstr B n lm) V i = .inr r) (ha : a ≤ kS (tstr B n lm) i) (hs : vSo V a (kS (tstr B n lm) i)) : vSo r.2.1 a (kS (tstr B n lm) r.2.2) := by
  unfold pVar at h
  split at h
  · cases h
  rename_i k2
  have k2 : kK (tstr B n lm) i = 2 := by omega
  have q := (kS_1 (lm := lm) hB i).2.2.2 (by omega)
  split at h
  · cases h
  split at h
  · split at h
    · cases h
    · cases h; exact hs.add ha (Nat.le_refl _) (by show kS (tstr B n lm) i < kS (tstr B n lm) (i + 1); omega)
  · cases h; exact hs.mo (kS_mo hB (Nat.le_succ _))
theorem pX_so (hB : tTx B n) : ∀ (F m b : Nat) (e x : pEx), m ≤ 4 → pX (tstr B n lm) F m b e = .inr x → a ≤ kS (tstr B n lm) e.2.2 → vSo e.1 a (kS (tstr B n lm) e.2.2) → vSo x.1 a (kS (tstr B n lm) x.2.2) := by
  intro F
  induction F with
  | zero => intro m b e x _ h; cases h
  | succ F ih =>
    intro m b e x hm h ha hs
    have hs1 : vSo e.1 a (kS (tstr B n lm) (e.2.2 + 1)) := hs.mo (kS_mo hB (Nat.le_succ _))
    have ha1 : a ≤ kS (tstr B n lm) (e.2.2 + 1) := Nat.le_trans ha (kS_mo hB (Nat.le_succ _))
    have up : ∀ {m b : Nat} {e x : pEx}, m ≤ 4 → pX (tstr B n lm) F m b e = .inr x → a ≤ kS (tstr B n lm) e.2.2 → a ≤ kS (tstr B n lm) x.2.2 := fun {m b e x} w1 w2 w3 => Nat.le_trans w3 (kS_mo hB (pX_le F m b e x w1 w2).1)
    match m, hm with
    | 0, _ =>
      rw [pX_0] at h
      split at h
      · obtain ⟨r, h1, h2⟩ := pbind_inr h
        cases h2
        exact pVar_so hB h1 ha hs
      split at h
      · split at h
        · cases h
        · obtain ⟨e', h1, h2⟩ := pbind_inr h
          obtain ⟨i, h3, h4⟩ := pbind_inr h2
          cases h4
          have := (pNeed_le h3).1
          exact (ih 1 (b + 1) _ _ (by omega) h1 ha1 hs1).mo (by show kS _ _ ≤ kS _ i; rw [this]; exact kS_mo hB (Nat.le_succ _))
      · obtain ⟨r, h1, h2⟩ := pbind_inr h
        cases h2
        exact hs.mo (kS_mo hB (Nat.le_of_lt (pVal_le h1).1))
    | 1, _ =>
      rw [pX_1] at h
      obtain ⟨e', h1, h2⟩ := pbind_inr h
      exact ih 2 b _ _ (by omega) h2 (up (by omega) h1 ha) (ih 0 b _ _ (by omega) h1 ha hs)
    | 2, _ =>
      rw [pX_2] at h
      obtain ⟨e', h1, h2⟩ := pbind_inr h
      exact ih 4 b _ _ (by omega) h2 (up (by omega) h1 ha) (ih 3 b _ _ (by omega) h1 ha hs)
    | 3, _ =>
      rw [pX_3] at h
      split at h
      · obtain ⟨e', h1, h2⟩ := pbind_inr h
        have z1 := ih 0 b _ _ (by omega) h1 ha1 hs1
        have y1 := up (by omega) h1 ha1
        exact ih 3 b _ _ (by omega) h2 y1 z1
      · cases h; exact hs
    | 4, _ =>
      rw [pX_4] at h
      split at h
      · obtain ⟨e1, h1, h2⟩ := pbind_inr h
        obtain ⟨e', h3, h4⟩ := pbind_inr h2
        have z1 := ih 0 b _ _ (by omega) h1 ha1 hs1
        have y1 := up (by omega) h1 ha1
        have z2 := ih 3 b _ _ (by omega) h3 y1 z1
        have y2 := up (by omega) h3 y1
        exact ih 4 b _ _ (by omega) h4 y2 z2
      · cases h; exact hs
theorem pTerm_so (hB : tTx B n) {V : List (Int × Nat)} {i : Nat} {y : (Int × Int) × List (Int × Nat) × Nat} (h : pTerm (tstr B n lm) V i = .inr y) (ha : a ≤ kS (tstr B n lm) i) (hs : vSo V a (kS (tstr B n lm) i)) : vSo y.2.1 a (kS (tstr B n lm) y.2.2) := by
  unfold pTerm at h
  split at h
  · obtain ⟨r, h1, h2⟩ := pbind_inr h
    cases h2
    exact pVar_so hB h1 ha hs
  split at h
  · cases h; exact hs.mo (kS_mo hB (Nat.le_succ _))
  · obtain ⟨r, h1, h2⟩ := pbind_inr h
    cases h2
    exact hs.mo (kS_mo hB (Nat.le_of_lt (pVal_le h1).1))
theorem pTerms_so (hB : tTx B n) : ∀ {k : Nat} {T : pCd} {V : List (Int × Nat)} {i : Nat} {y : pCd × List (Int × Nat) × Nat}, pTerms (tstr B n lm) k T V i = .inr y → a ≤ kS (tstr B n lm) i → vSo V a (kS (tstr B n lm) i) → vSo y.2.1 a (kS (tstr B n lm) y.2.2) := by
  intro k
  induction k with
  | zero => intro T V i y h _ hs; cases h; exact hs
  | succ k ih =>
    intro T V i y h ha hs
    unfold pTerms at h
    split at h
    · obtain ⟨r, h1, h2⟩ := pbind_inr h
      have ha1 : a ≤ kS (tstr B n lm) (i + 1) := Nat.le_trans ha (kS_mo hB (Nat.le_succ _))
      exact ih h2 (Nat.le_trans ha1 (kS_mo hB (Nat.le_of_lt (pTerm_le h1).2.2))) (pTerm_so hB h1 ha1 (hs.mo (kS_mo hB (Nat.le_succ _))))
    · cases h; exact hs
theorem pAtom_vs (hB : tTx B n) {k : Int} {s s' : pRs} (h : pAtom (tstr B n lm) tell k s = .inr s') (ha : a ≤ kS (tstr B n lm) s.2.2.2.2) (hs : vSo s.2.1 a (kS (tstr B n lm) s.2.2.2.2)) : vSo s'.2.1 a (kS (tstr B n lm) s'.2.2.2.2) := by
  unfold pAtom at h
  obtain ⟨p, h1, h2⟩ := pbind_inr h
  obtain ⟨j, h3, h4⟩ := pbind_inr h2
  obtain ⟨y, h5, h6⟩ := pbind_inr h4
  obtain ⟨z, h7, h8⟩ := pbind_inr h6
  obtain ⟨u, h9, h10⟩ := pbind_inr h8
  cases h10
  have a1 : p.2.2 = s.2.2.2.2 + 1 := by
    split at h1
    · exact (pPred_le h1).1
    · obtain ⟨r, w1, w2⟩ := pbind_inr h1
      cases w2
      exact (pName_le w1).1
  have a3 := (pNeed_le h3).1
  have a9 := (pNeed_le h9).1
  have hj : s.2.2.2.2 ≤ j := by omega
  have hj1 : a ≤ kS (tstr B n lm) j := Nat.le_trans ha (kS_mo hB hj)
  have q1 := pTerm_so hB h5 hj1 (hs.mo (kS_mo hB hj))
  have q2 := pTerms_so hB h7 (Nat.le_trans hj1 (kS_mo hB (Nat.le_of_lt (pTerm_le h5).2.2))) q1
  exact q2.mo (by show kS _ _ ≤ kS _ u; rw [a9]; exact kS_mo hB (Nat.le_succ _))
theorem pCmp_vs (hB : tTx B n) {s s' : pRs} (h : pCmp (tstr B n lm) F s = .inr s') (ha : a ≤ kS (tstr B n lm) s.2.2.2.2) (hs : vSo s.2.1 a (kS (tstr B n lm) s.2.2.2.2)) : vSo s'.2.1 a (kS (tstr B n lm) s'.2.2.2.2) := by
  unfold pCmp at h
  obtain ⟨x, g1, g2⟩ := pbind_inr h
  have q1 := pX_so hB F 1 0 _ _ (by decide) g1 ha hs
  have l1 := (pX_le F 1 0 _ _ (by decide) g1).1
  have y1 : a ≤ kS (tstr B n lm) (x.2.2 + 1) := Nat.le_trans ha (kS_mo hB (Nat.le_trans l1 (Nat.le_succ _)))
  split at g2
  · obtain ⟨b, g3, g4⟩ := pbind_inr g2
    cases g4
    exact pX_so hB F 1 0 _ _ (by decide) g3 y1 (q1.mo (kS_mo hB (Nat.le_succ _)))
  · cases g2
theorem pLit_vs (hB : tTx B n) {s s' : pRs} (h : pLit (tstr B n lm) tell F s = .inr s') (ha : a ≤ kS (tstr B n lm) s.2.2.2.2) (hs : vSo s.2.1 a (kS (tstr B n lm) s.2.2.2.2)) : vSo s'.2.1 a (kS (tstr B n lm) s'.2.2.2.2) := by
  unfold pLit at h
  split at h
  · cases h
  split at h
  · exact pAtom_vs hB h (Nat.le_trans ha (kS_mo hB (Nat.le_succ _))) (hs.mo (kS_mo hB (Nat.le_succ _)))
  split at h
  · split at h
    · cases h
    split at h
    · split at h
      · cases h
      · exact pAtom_vs hB h ha hs
    split at h
    · cases h
    · exact pCmp_vs hB h ha hs
  · exact pCmp_vs hB h ha hs
theorem pLits_vs (hB : tTx B n) : ∀ {k : Nat} {s s' : pRs}, pLits (tstr B n lm) tell F k s = .inr s' → a ≤ kS (tstr B n lm) s.2.2.2.2 → vSo s.2.1 a (kS (tstr B n lm) s.2.2.2.2) → vSo s'.2.1 a (kS (tstr B n lm) s'.2.2.2.2) ∧ s.2.2.2.2 ≤ s'.2.2.2.2 := by
  intro k
  induction k with
  | zero => intro s s' h ha hs; cases h; exact ⟨hs, Nat.le_refl _⟩
  | succ k ih =>
    intro s s' h ha hs
    unfold pLits at h
    split at h
    · obtain ⟨u, g1, g2⟩ := pbind_inr h
      have l1 := (pLit_le g1).2.2.2.2
      replace l1 : s.2.2.2.2 + 1 < u.2.2.2.2 := l1
      have ha1 : a ≤ kS (tstr B n lm) (s.2.2.2.2 + 1) := Nat.le_trans ha (kS_mo hB (Nat.le_succ _))
      have q := ih g2 (Nat.le_trans ha1 (kS_mo hB (Nat.le_of_lt l1))) (pLit_vs hB g1 ha1 (hs.mo (kS_mo hB (Nat.le_succ _))))
      exact ⟨q.1, by omega⟩
    · cases h; exact ⟨hs, Nat.le_refl _⟩
theorem pItem_vs (hB : tTx B n) {s s' : pIt} (h : pItem (tstr B n lm) F s = .inr s') (ha : a ≤ kS (tstr B n lm) s.2.2.2) (hs : vSo s.1 a (kS (tstr B n lm) s.2.2.2)) : vSo s'.1 a (kS (tstr B n lm) s'.2.2.2) := by
  unfold pItem at h
  split at h
  · split at h
    · cases h
    · obtain ⟨i, h1, h2⟩ := pbind_inr h
      have a1 := (pNeed_le h1).1
      have z : s.2.2.2 ≤ i := by omega
      split at h2
      · obtain ⟨j, h3, h4⟩ := pbind_inr h2
        have a3 := (pNeed_le h3).1
        cases h4
        exact hs.mo (kS_mo hB (by show _ ≤ j; omega))
      · obtain ⟨r, h3, h4⟩ := pbind_inr h2
        obtain ⟨j, h5, h6⟩ := pbind_inr h4
        have a3 := (pNeed_le h5).1
        cases h6
        exact (pVar_so hB h3 (Nat.le_trans ha (kS_mo hB z)) (hs.mo (kS_mo hB z))).mo (kS_mo hB (by show _ ≤ j; omega))
  · obtain ⟨e, h1, h2⟩ := pbind_inr h
    cases h2
    exact pX_so hB F 1 0 _ _ (by decide) h1 ha hs
theorem pItems_vs (hB : tTx B n) : ∀ {k : Nat} {s s' : pIt}, pItems (tstr B n lm) F k s = .inr s' → a ≤ kS (tstr B n lm) s.2.2.2 → vSo s.1 a (kS (tstr B n lm) s.2.2.2) → vSo s'.1 a (kS (tstr B n lm) s'.2.2.2) ∧ s.2.2.2 ≤ s'.2.2.2 := by
  intro k
  induction k with
  | zero => intro s s' h ha hs; cases h; exact ⟨hs, Nat.le_refl _⟩
  | succ k ih =>
    intro s s' h ha hs
    unfold pItems at h
    split at h
    · obtain ⟨u, g1, g2⟩ := pbind_inr h
      have l1 := (pItem_le g1).2.2
      replace l1 : s.2.2.2 + 1 < u.2.2.2 := l1
      have ha1 : a ≤ kS (tstr B n lm) (s.2.2.2 + 1) := Nat.le_trans ha (kS_mo hB (Nat.le_succ _))
      have q := ih g2 (Nat.le_trans ha1 (kS_mo hB (Nat.le_of_lt l1))) (pItem_vs hB g1 ha1 (hs.mo (kS_mo hB (Nat.le_succ _))))
      exact ⟨q.1, by omega⟩
    · cases h; exact ⟨hs, Nat.le_refl _⟩
end
/-- rules: their HEADS' places, and their VARIABLES' -/
def rSo (R : List pRu) (b : Nat) : Prop := R.Pairwise (fun x y => x.2.1 < y.2.1 ∧ ∀ v ∈ x.2.2.2.2.1, ∀ w ∈ y.2.2.2.2.1, v.2 < w.2) ∧ ∀ x ∈ R, x.2.1 < b ∧ vSo x.2.2.2.2.1 x.2.1 b
theorem rSo.mo {R : List pRu} {b c : Nat} (h : rSo R b) (hb : b ≤ c) : rSo R c := ⟨h.1, fun m hm => ⟨by have := (h.2 m hm).1; omega, (h.2 m hm).2.mo hb⟩⟩
theorem rSo.add {R : List pRu} {b c : Nat} {u : pRu} (h : rSo R b) (h1 : b ≤ u.2.1) (h2 : u.2.1 < c) (h3 : vSo u.2.2.2.2.1 u.2.1 c) : rSo (R ++ [u]) c := by
  refine ⟨List.pairwise_append.mpr ⟨h.1, by simp, fun x hx y hy => ?_⟩, fun x hx => ?_⟩
  · rw [List.mem_singleton.mp hy]
    refine ⟨by have := (h.2 x hx).1; omega, fun v hv w hw => ?_⟩
    have z1 := ((h.2 x hx).2.2 v hv).2
    have z2 := (h3.2 w hw).1
    omega
  · rcases List.mem_append.mp hx with q | q
    · have := h.2 x q
      exact ⟨by omega, this.2.mo (by omega)⟩
    · rw [List.mem_singleton.mp q]; exact ⟨h2, h3⟩
section
variable {B : Nat → Int} {n F : Nat} {lm : Bool}
theorem pRule_rs (hB : tTx B n) {s s' : pPg} (h : pRule (tstr B n lm) F s = .inr s') (hs : rSo s.2.2.2.2.1 (kS (tstr B n lm) s.2.2.2.2.2)) : rSo s'.2.2.2.2.1 (kS (tstr B n lm) s'.2.2.2.2.2) := by
  unfold pRule at h
  split at h
  · cases h
  obtain ⟨p, h1, h⟩ := pbind_inr h
  obtain ⟨i, h2, h⟩ := pbind_inr h
  obtain ⟨a, h3, h⟩ := pbind_inr h
  obtain ⟨b, h4, h⟩ := pbind_inr h
  obtain ⟨j, h5, h⟩ := pbind_inr h
  obtain ⟨l, h6, h⟩ := pbind_inr h
  obtain ⟨k, h7, h⟩ := pbind_inr h
  cases h
  have a1 := pPred_le h1
  have a2 := (pNeed_le h2).1
  have a5 := (pNeed_le h5).1
  have a7 := pNeed_le h7
  have a3 := (pItem_le h3).2.2
  replace a3 : i < a.2.2.2 := a3
  have y0 : kS (tstr B n lm) s.2.2.2.2.2 ≤ kS (tstr B n lm) i := kS_mo hB (by omega)
  have q1 := pItem_vs (a := kS (tstr B n lm) s.2.2.2.2.2) hB h3 y0 ⟨by simp, by simp⟩
  have y1 : kS (tstr B n lm) s.2.2.2.2.2 ≤ kS (tstr B n lm) a.2.2.2 := Nat.le_trans y0 (kS_mo hB (Nat.le_of_lt a3))
  have q2 := pItems_vs hB h4 y1 q1
  have q2l := q2.2
  have hj : s.2.2.2.2.2 ≤ j := by omega
  have yj : kS (tstr B n lm) s.2.2.2.2.2 ≤ kS (tstr B n lm) j := kS_mo hB hj
  have q3 : vSo b.1 (kS (tstr B n lm) s.2.2.2.2.2) (kS (tstr B n lm) j) := q2.1.mo (kS_mo hB (by omega))
  have key : vSo l.2.1 (kS (tstr B n lm) s.2.2.2.2.2) (kS (tstr B n lm) l.2.2.2.2) ∧ j ≤ l.2.2.2.2 := by
    split at h6
    · obtain ⟨u, g1, g2⟩ := pbind_inr h6
      have l1 := (pLit_le g1).2.2.2.2
      replace l1 : j + 1 < u.2.2.2.2 := l1
      have yj1 : kS (tstr B n lm) s.2.2.2.2.2 ≤ kS (tstr B n lm) (j + 1) := kS_mo hB (by omega)
      have z := pLits_vs hB g2 (Nat.le_trans yj1 (kS_mo hB (Nat.le_of_lt l1))) (pLit_vs hB g1 yj1 (q3.mo (kS_mo hB (Nat.le_succ _))))
      exact ⟨z.1, by omega⟩
    · cases h6
      exact ⟨q3, Nat.le_refl _⟩
  have kl : s.2.2.2.2.2 < k := by omega
  have last := kS_to (lm := lm) hB kl (by rw [a7.1, Nat.add_sub_cancel, a7.2]; decide)
  exact hs.add (Nat.le_refl _) (by show kS (tstr B n lm) s.2.2.2.2.2 < kS (tstr B n lm) k; omega) (key.1.mo (kS_mo hB (by show l.2.2.2.2 ≤ k; omega)))
theorem pProg_rs (hB : tTx B n) : ∀ {k : Nat} {s s' : pPg}, pProg (tstr B n lm) F k s = .inr s' → rSo s.2.2.2.2.1 (kS (tstr B n lm) s.2.2.2.2.2) → rSo s'.2.2.2.2.1 (kS (tstr B n lm) s'.2.2.2.2.2) := by
  intro k
  induction k with
  | zero => intro s s' h; cases h
  | succ k ih =>
    intro s s' h hs
    unfold pProg at h
    split at h
    · cases h; exact hs
    · obtain ⟨u, g1, g2⟩ := pbind_inr h
      refine ih g2 ?_
      split at g1
      · have lt := (pPg_i (F := F)).1 g1
        have lt' : s.2.2.2.2.2 ≤ u.2.2.2.2.2 := by omega
        unfold pInput at g1
        obtain ⟨p, h1, g1⟩ := pbind_inr g1
        obtain ⟨j, h2, g1⟩ := pbind_inr g1
        obtain ⟨m, h3, g1⟩ := pbind_inr g1
        obtain ⟨q, h4, g1⟩ := pbind_inr g1
        obtain ⟨j2, h5, g1⟩ := pbind_inr g1
        cases g1
        exact hs.mo (kS_mo hB lt')
      · split at g1
        · unfold pOutput at g1
          obtain ⟨p, h1, g1⟩ := pbind_inr g1
          obtain ⟨j, h2, g1⟩ := pbind_inr g1
          have a1 := pPred_le h1
          have a2 := pNeed_le h2
          cases g1
          exact hs.mo (kS_mo hB (by show _ ≤ j; omega))
        · exact pRule_rs hB g1 hs
theorem pProg_rsorted (hB : tTx B n) {k : Nat} {s : pPg} (h : pProg (tstr B n lm) F k ([], [], [], [], [], 0) = .inr s) : rSo s.2.2.2.2.1 (kS (tstr B n lm) s.2.2.2.2.2) := pProg_rs hB h ⟨by simp, by simp⟩
end
end
section
/-! What is told is known; the first of FAULTS is the least -/
def wKn (s : pPg) : Prop := ∀ m ∈ s.2.2.2.1, (m.2.2.2 = 1 → pIn s.2.1 m.1 = true) ∧ (m.2.2.2 = 3 → pHd s.2.2.2.2.1 m.1 = true)
theorem pAtom_m4 {t : tStr} {tell : Bool} {k : Int} {s s' : pRs} (h : pAtom t tell k s = .inr s') : ∀ m ∈ s'.2.2.2.1, m ∈ s.2.2.2.1 ∨ m.2.2.2 = 4 := by
  unfold pAtom at h
  obtain ⟨p, h1, h2⟩ := pbind_inr h
  obtain ⟨j, h3, h4⟩ := pbind_inr h2
  obtain ⟨y, h5, h6⟩ := pbind_inr h4
  obtain ⟨z, h7, h8⟩ := pbind_inr h6
  obtain ⟨u, h9, h10⟩ := pbind_inr h8
  cases h10
  intro m hm
  rcases List.mem_append.mp hm with q | q
  · exact .inl q
  · rw [List.mem_singleton.mp q]; exact .inr rfl
theorem pCmp_m4 {t : tStr} {F : Nat} {s s' : pRs} (h : pCmp t F s = .inr s') : ∀ m ∈ s'.2.2.2.1, m ∈ s.2.2.2.1 ∨ m.2.2.2 = 4 := by
  unfold pCmp at h
  obtain ⟨x, g1, g2⟩ := pbind_inr h
  split at g2
  · obtain ⟨b, g3, g4⟩ := pbind_inr g2
    cases g4
    exact fun m hm => .inl hm
  · cases g2
theorem pLit_m4 {t : tStr} {tell : Bool} {F : Nat} {s s' : pRs} (h : pLit t tell F s = .inr s') : ∀ m ∈ s'.2.2.2.1, m ∈ s.2.2.2.1 ∨ m.2.2.2 = 4 := by
  unfold pLit at h
  split at h
  · cases h
  split at h
  · have q := pAtom_m4 h
    exact q
  split at h
  · split at h
    · cases h
    split at h
    · split at h
      · cases h
      · exact pAtom_m4 h
    split at h
    · cases h
    · exact pCmp_m4 h
  · exact pCmp_m4 h
theorem pLits_m4 {t : tStr} {tell : Bool} {F : Nat} : ∀ {k : Nat} {s s' : pRs}, pLits t tell F k s = .inr s' → ∀ m ∈ s'.2.2.2.1, m ∈ s.2.2.2.1 ∨ m.2.2.2 = 4 := by
  intro k
  induction k with
  | zero => intro s s' h; cases h; exact fun m hm => .inl hm
  | succ k ih =>
    intro s s' h
    unfold pLits at h
    split at h
    · obtain ⟨u, g1, g2⟩ := pbind_inr h
      intro m hm
      rcases ih g2 m hm with q | q
      · exact pLit_m4 g1 m q
      · exact .inr q
    · cases h; exact fun m hm => .inl hm
theorem pRule_kn {t : tStr} {F : Nat} {s s' : pPg} (h : pRule t F s = .inr s') (hs : wKn s) : wKn s' := by
  unfold pRule at h
  split at h
  · cases h
  obtain ⟨p, h1, h⟩ := pbind_inr h
  obtain ⟨i, h2, h⟩ := pbind_inr h
  obtain ⟨a, h3, h⟩ := pbind_inr h
  obtain ⟨a', h4, h⟩ := pbind_inr h
  obtain ⟨i', h5, h⟩ := pbind_inr h
  obtain ⟨l, h6, h⟩ := pbind_inr h
  obtain ⟨i'', h7, h⟩ := pbind_inr h
  have hl : ∀ m ∈ l.2.2.2.1, m ∈ s.2.2.2.1 ++ [(p.1, kS t s.2.2.2.2.2, (a'.2.2.1.length : Int), (3 : Int))] ∨ m.2.2.2 = 4 := by
    split at h6
    · obtain ⟨u, g1, g2⟩ := pbind_inr h6
      intro m hm
      rcases pLits_m4 g2 m hm with q | q
      · exact pLit_m4 g1 m q
      · exact .inr q
    · cases h6
      exact fun m hm => .inl hm
  cases h
  have up : ∀ x, pHd s.2.2.2.2.1 x = true → ∀ u, pHd (s.2.2.2.2.1 ++ [u]) x = true := fun x hx u => by
    unfold pHd at hx ⊢
    rw [List.any_append, hx]; rfl
  intro m hm
  rcases hl m hm with q | q
  · rcases List.mem_append.mp q with q | q
    · exact ⟨(hs m q).1, fun e => up _ ((hs m q).2 e) _⟩
    · rw [List.mem_singleton.mp q]
      refine ⟨fun e => absurd e (by show ¬ (3 : Int) = 1; decide), fun _ => ?_⟩
      show pHd (_ ++ [_]) p.1 = true
      unfold pHd
      rw [List.any_append]
      simp
  · exact ⟨fun e => by omega, fun e => by omega⟩
theorem pProg_kn {t : tStr} {F : Nat} : ∀ {k : Nat} {s s' : pPg}, pProg t F k s = .inr s' → wKn s → wKn s' := by
  intro k
  induction k with
  | zero => intro s s' h; cases h
  | succ k ih =>
    intro s s' h hs
    unfold pProg at h
    split at h
    · cases h; exact hs
    · obtain ⟨u, g1, g2⟩ := pbind_inr h
      refine ih g2 ?_
      split at g1
      · unfold pInput at g1
        obtain ⟨p, h1, g1⟩ := pbind_inr g1
        obtain ⟨i, h2, g1⟩ := pbind_inr g1
        obtain ⟨n, h3, g1⟩ := pbind_inr g1
        obtain ⟨q, h4, g1⟩ := pbind_inr g1
        obtain ⟨i', h5, g1⟩ := pbind_inr g1
        cases g1
        intro m hm
        rcases List.mem_append.mp hm with b | b
        · refine ⟨fun e => ?_, (hs m b).2⟩
          have := (hs m b).1 e
          show pIn (_ ++ [_]) m.1 = true
          unfold pIn at this ⊢
          rw [List.any_append, this]; rfl
        · rw [List.mem_singleton.mp b]
          refine ⟨fun _ => ?_, fun e => absurd e (by show ¬ (1 : Int) = 3; decide)⟩
          show pIn (_ ++ [_]) p.1 = true
          unfold pIn
          rw [List.any_append]
          simp
      split at g1
      · unfold pOutput at g1
        obtain ⟨p, h1, g1⟩ := pbind_inr g1
        obtain ⟨i, h2, g1⟩ := pbind_inr g1
        cases g1
        intro m hm
        rcases List.mem_append.mp hm with b | b
        · exact hs m b
        · rw [List.mem_singleton.mp b]
          exact ⟨fun e => absurd e (by show ¬ (2 : Int) = 1; decide), fun e => absurd e (by show ¬ (2 : Int) = 3; decide)⟩
      · exact pRule_kn g1 hs
/-- k, x: the least of FAULTS -/
def fLs (P : Int → Int → Prop) (k x : Int) : Prop := P k x ∧ ∀ k' a', P k' a' → k < k' ∨ k = k' ∧ x ≤ a'
section
variable {s : pPg} {x : Int}
theorem fMp.none {M : List pMn} {P : Nat → Prop} (h : fMp M P 0 x) (c : x = -1) : ∀ i, i < M.length → ¬ P i := by
  rcases h with ⟨_, a2⟩ | ⟨i, _, _, _, _, a5⟩
  · exact fun i hi => a2 i (Nat.zero_le _) hi
  · rw [c] at a5; omega
theorem fMp.some {M : List pMn} {P : Nat → Prop} (h : fMp M P 0 x) (c : x ≠ -1) (hso : ∀ i j, i < j → j < M.length → mP M i < mP M j) : ∃ i, i < M.length ∧ P i ∧ x = (mP M i : Int) ∧ ∀ j, j < M.length → P j → (mP M i : Int) ≤ (mP M j : Int) := by
  rcases h with ⟨a1, _⟩ | ⟨i, a1, a2, a3, a4, a5⟩
  · exact absurd a1 c
  · refine ⟨i, a2, a3, a5, fun j hj pj => ?_⟩
    by_cases cj : j < i
    · exact absurd pj (a4 j (Nat.zero_le _) cj)
    · by_cases ce : j = i
      · rw [ce]; exact Int.le_refl _
      · have := hso i j (by omega) hj
        omega
theorem fRp.none {R : List pRu} {P : pRu → Prop} (h : fRp R P 0 x) (c : x = -1) : ∀ i, i < R.length → ¬ P (R.getD i dRu) := by
  rcases h with ⟨_, a2⟩ | ⟨i, _, _, _, _, a5⟩
  · exact fun i hi => a2 i (Nat.zero_le _) hi
  · rw [c] at a5; omega
theorem pFa_ge1 {k a : Int} (h : pFa s 0 k a) : 1 ≤ k := by
  rcases h with ((⟨y, _, _, ⟨e, _⟩ | ⟨e, _⟩⟩ | ⟨e, _⟩) | ⟨e, _⟩) | ⟨_, e, _⟩ <;> omega
theorem fa_1 (hso : ∀ i j, i < j → j < s.2.2.2.1.length → mP s.2.2.2.1 i < mP s.2.2.2.1 j) (h : fMp s.2.2.2.1 (fun i => isF1 s.2.2.2.1 i 0) 0 x) (c : x ≠ -1) : fLs (pFa s 0) 1 x := by
  obtain ⟨i, a1, a2, a3, a4⟩ := h.some c hso
  refine ⟨.inl (.inl (.inl ⟨i, Nat.zero_le _, a1, .inl ⟨rfl, by rw [a3]; omega, a2⟩⟩)), fun k' a' hk => ?_⟩
  have g := pFa_ge1 hk
  rcases hk with ((⟨y, y1, y2, ⟨e, ea, eb⟩ | ⟨e, _⟩⟩ | ⟨e, _⟩) | ⟨e, _⟩) | ⟨_, e, _⟩
  · have := a4 y y2 eb
    exact .inr ⟨e.symm, by omega⟩
  all_goals exact .inl (by omega)
/-- no FAULT below k -/
def fNo (s : pPg) (k : Int) : Prop := ∀ k' a', pFa s 0 k' a' → k ≤ k'
theorem fa_n1 (h : fMp s.2.2.2.1 (fun i => isF1 s.2.2.2.1 i 0) 0 x) (c : x = -1) : fNo s 2 := by
  have a := h.none c
  intro k' a' hk
  rcases hk with ((⟨y, y1, y2, ⟨e, ea, eb⟩ | ⟨e, _⟩⟩ | ⟨e, _⟩) | ⟨e, _⟩) | ⟨_, e, _⟩
  · exact absurd eb (a y y2)
  all_goals omega
def isK2 (s : pPg) (i : Nat) : Prop := mN s.2.2.2.1 i = -1 ∨ pIn s.2.1 ((mN s.2.2.2.1 i).toNat : Int) = false ∧ pHd s.2.2.2.2.1 ((mN s.2.2.2.1 i).toNat : Int) = false
theorem mm_at {M : List pMn} {i : Nat} (hi : i < M.length) : (mN M i, mP M i, mK M i, mW M i) ∈ M := by
  have e : (mN M i, mP M i, mK M i, mW M i) = M.getD i (0, 0, 0, 0) := rfl
  rw [e, getD_e hi]
  exact List.getElem_mem hi
theorem isK2_iff (hw : wPg s) (hk : wKn s) {i : Nat} (hi : i < s.2.2.2.1.length) : isK2 s i ↔ isF2 s.2.1 s.2.2.2.2.1 s.2.2.2.1 i := by
  have hm := mm_at hi
  obtain ⟨b1, b2, b3⟩ := hw.2.2.2.2.1 _ hm
  obtain ⟨k1, k3⟩ := hk _ hm
  replace b1 : 0 ≤ mN s.2.2.2.1 i := b1
  replace b3 : mW s.2.2.2.1 i = 2 ∧ mK s.2.2.2.1 i = -1 ∨ (mW s.2.2.2.1 i = 1 ∨ mW s.2.2.2.1 i = 3 ∨ mW s.2.2.2.1 i = 4) ∧ 1 ≤ mK s.2.2.2.1 i ∧ mK s.2.2.2.1 i ≤ 4 := b3
  replace k1 : mW s.2.2.2.1 i = 1 → pIn s.2.1 (mN s.2.2.2.1 i) = true := k1
  replace k3 : mW s.2.2.2.1 i = 3 → pHd s.2.2.2.2.1 (mN s.2.2.2.1 i) = true := k3
  unfold isK2 isF2
  rw [Int.toNat_of_nonneg b1]
  constructor
  · rintro (e | ⟨e1, e2⟩)
    · omega
    · refine ⟨?_, e1, e2⟩
      rcases b3 with ⟨w, _⟩ | ⟨w | w | w, _⟩
      · exact .inr w
      · rw [k1 w] at e1; cases e1
      · rw [k3 w] at e2; cases e2
      · exact .inl w
  · rintro ⟨_, e1, e2⟩
    exact .inr ⟨e1, e2⟩
theorem fa_2 (hw : wPg s) (hk : wKn s) (hso : ∀ i j, i < j → j < s.2.2.2.1.length → mP s.2.2.2.1 i < mP s.2.2.2.1 j) (hn : fNo s 2) (h : fMp s.2.2.2.1 (isK2 s) 0 x) (c : x ≠ -1) : fLs (pFa s 0) 2 x := by
  obtain ⟨i, a1, a2, a3, a4⟩ := h.some c hso
  refine ⟨.inl (.inl (.inl ⟨i, Nat.zero_le _, a1, .inr ⟨rfl, by rw [a3]; omega, (isK2_iff hw hk a1).mp a2⟩⟩)), fun k' a' hk' => ?_⟩
  have g := hn _ _ hk'
  rcases hk' with ((⟨y, y1, y2, ⟨e, ea, eb⟩ | ⟨e, ea, eb⟩⟩ | ⟨e, _⟩) | ⟨e, _⟩) | ⟨_, e, _⟩
  · omega
  · have := a4 y y2 ((isK2_iff hw hk y2).mpr eb)
    exact .inr ⟨e.symm, by omega⟩
  all_goals exact .inl (by omega)
theorem fa_n2 (hw : wPg s) (hk : wKn s) (hn : fNo s 2) (h : fMp s.2.2.2.1 (isK2 s) 0 x) (c : x = -1) : fNo s 3 := by
  have a := h.none c
  intro k' a' hk'
  have g := hn _ _ hk'
  rcases hk' with ((⟨y, y1, y2, ⟨e, ea, eb⟩ | ⟨e, ea, eb⟩⟩ | ⟨e, _⟩) | ⟨e, _⟩) | ⟨_, e, _⟩
  · omega
  · exact absurd ((isK2_iff hw hk y2).mpr eb) (a y y2)
  all_goals omega
def isK3 (s : pPg) (i : Nat) : Prop := mK s.2.2.2.1 i ≠ -1 ∧ mK s.2.2.2.1 i ≠ pNn s.2.2.2.1 ((mN s.2.2.2.1 i).toNat : Int)
theorem isK3_iff (hw : wPg s) {i : Nat} (hi : i < s.2.2.2.1.length) : isK3 s i ↔ ∃ z, 0 ≤ z ∧ z < s.1.length ∧ isF3 s.2.2.2.1 z i := by
  have hm := mm_at hi
  obtain ⟨b1, b2, b3⟩ := hw.2.2.2.2.1 _ hm
  replace b1 : 0 ≤ mN s.2.2.2.1 i := b1
  replace b2 : mN s.2.2.2.1 i < s.1.length := b2
  unfold isK3 isF3
  constructor
  · rintro ⟨e1, e2⟩
    exact ⟨(mN s.2.2.2.1 i).toNat, Nat.zero_le _, by omega, hi, by omega, e1, e2⟩
  · rintro ⟨z, _, z2, _, z4, z5, z6⟩
    refine ⟨z5, ?_⟩
    rw [z4]
    exact z6
theorem fa_3 (hw : wPg s) (hso : ∀ i j, i < j → j < s.2.2.2.1.length → mP s.2.2.2.1 i < mP s.2.2.2.1 j) (hn : fNo s 3) (h : fMp s.2.2.2.1 (isK3 s) 0 x) (c : x ≠ -1) : fLs (pFa s 0) 3 x := by
  obtain ⟨i, a1, a2, a3, a4⟩ := h.some c hso
  obtain ⟨z, z1, z2, z3⟩ := (isK3_iff hw a1).mp a2
  refine ⟨.inl (.inl (.inr ⟨rfl, z, i, z1, z2, z3, by rw [a3]; omega⟩)), fun k' a' hk' => ?_⟩
  have g := hn _ _ hk'
  rcases hk' with ((⟨y, y1, y2, ⟨e, ea, eb⟩ | ⟨e, ea, eb⟩⟩ | ⟨e, z', y, w1, w2, w3, w4⟩) | ⟨e, _⟩) | ⟨_, e, _⟩
  · omega
  · omega
  · have := a4 y w3.1 ((isK3_iff hw w3.1).mpr ⟨z', w1, w2, w3⟩)
    exact .inr ⟨e.symm, by omega⟩
  all_goals exact .inl (by omega)
theorem fa_n3 (hw : wPg s) (hn : fNo s 3) (h : fMp s.2.2.2.1 (isK3 s) 0 x) (c : x = -1) : fNo s 4 := by
  have a := h.none c
  intro k' a' hk'
  have g := hn _ _ hk'
  rcases hk' with ((⟨y, y1, y2, ⟨e, ea, eb⟩ | ⟨e, ea, eb⟩⟩ | ⟨e, z', y, w1, w2, w3, w4⟩) | ⟨e, _⟩) | ⟨_, e, _⟩
  · omega
  · omega
  · exact absurd ((isK3_iff hw w3.1).mpr ⟨z', w1, w2, w3⟩) (a y w3.1)
  all_goals omega
theorem fa_n4 (hn : fNo s 4) (h : fUp s.2.2.2.2.1 0 x) (c : x = -1) : fNo s 5 ∧ ∀ k a, ¬ qSa s.2.1 s.2.2.2.2.1 s.2.2.2.1 0 s.1.length 0 k a := by
  have a : ∀ i, i < s.2.2.2.2.1.length → ∀ v, v < (s.2.2.2.2.1.getD i dRu).2.2.2.2.1.length → (qBd (s.2.2.2.2.1.getD i dRu).2.2.2.2.2).testBit v = true := by
    rcases h with ⟨_, a2⟩ | ⟨i, _, _, _, a4, _⟩
    · exact fun i hi => a2 i (Nat.zero_le _) hi
    · exact absurd c a4
  have no : ∀ k a, ¬ qSa s.2.1 s.2.2.2.2.1 s.2.2.2.1 0 s.1.length 0 k a := by
    intro k' a' hk'
    have g := hn _ _ (.inl hk')
    rcases hk' with (⟨y, y1, y2, ⟨e, ea, eb⟩ | ⟨e, ea, eb⟩⟩ | ⟨e, _⟩) | ⟨e, y, y1, y2, v, v1, v2⟩
    · omega
    · omega
    · omega
    · have := a y y2 v v1.1
      rw [v1.2] at this
      cases this
  refine ⟨fun k' a' hk' => ?_, no⟩
  rcases hk' with q | ⟨_, e, _⟩
  · exact absurd q (no _ _)
  · omega
theorem fa_4 {b : Nat} (hr : rSo s.2.2.2.2.1 b) (hn : fNo s 4) (h : fUp s.2.2.2.2.1 0 x) (c : x ≠ -1) : fLs (pFa s 0) 4 x := by
  rcases h with ⟨a1, _⟩ | ⟨i, i1, i2, i3, i4, i5⟩
  · exact absurd a1 c
  rcases i3 with ⟨a1, _⟩ | ⟨v, v1, v2, v3, v4, v5⟩
  · exact absurd a1 c
  refine ⟨.inl (.inr ⟨rfl, i, Nat.zero_le _, i2, v, ⟨v2, v3⟩, by rw [v5]; omega⟩), fun k' a' hk' => ?_⟩
  have g := hn _ _ hk'
  rcases hk' with ((⟨y, y1, y2, ⟨e, ea, eb⟩ | ⟨e, ea, eb⟩⟩ | ⟨e, _⟩) | ⟨e, y, y1, y2, v', ⟨w1, w2⟩, w3⟩) | ⟨_, e, _⟩
  · omega
  · omega
  · omega
  · refine .inr ⟨e.symm, ?_⟩
    rw [v5, w3]
    by_cases c1 : y < i
    · have := i5 y (Nat.zero_le _) c1 v' w1
      rw [w2] at this; cases this
    · by_cases c2 : y = i
      · subst c2
        by_cases c3 : v' < v
        · have := v4 v' (Nat.zero_le _) c3
          rw [w2] at this; cases this
        · by_cases c4 : v' = v
          · rw [c4]; omega
          · have hm : s.2.2.2.2.1.getD y dRu ∈ s.2.2.2.2.1 := by rw [getD_e i2]; exact List.getElem_mem i2
            have := List.pairwise_iff_getElem.mp (hr.2 _ hm).2.1 v v' v2 w1 (by omega)
            rw [getD_e v2, getD_e w1]
            omega
      · have hp := (List.pairwise_iff_getElem.mp hr.1 i y i2 y2 (by omega)).2
        rw [getD_e i2] at v2 ⊢
        rw [getD_e y2] at w1 ⊢
        have := hp _ (List.getElem_mem v2) _ (List.getElem_mem w1)
        rw [getD_e v2, getD_e w1]
        omega
  · exact .inl (by omega)
theorem fa_5 {b : Nat} (hr : rSo s.2.2.2.2.1 b) (hn : ∀ k a, ¬ qSa s.2.1 s.2.2.2.2.1 s.2.2.2.1 0 s.1.length 0 k a) (h : fRp s.2.2.2.2.1 (isF5 (qRs s.1.length s.2.2.2.2.1)) 0 x) (c : x ≠ -1) : fLs (pFa s 0) 5 x := by
  rcases h with ⟨a1, _⟩ | ⟨i, i1, i2, i3, i4, i5⟩
  · exact absurd a1 c
  refine ⟨.inr ⟨hn, rfl, i, Nat.zero_le _, i2, i3, by rw [i5]; omega⟩, fun k' a' hk' => ?_⟩
  rcases hk' with q | ⟨_, e, y, y1, y2, y3, y4⟩
  · exact absurd q (hn _ _)
  · refine .inr ⟨e.symm, ?_⟩
    rw [i5, y4]
    by_cases c1 : y < i
    · exact absurd y3 (i4 y (Nat.zero_le _) c1)
    · by_cases c2 : y = i
      · rw [c2]; omega
      · have hp := (List.pairwise_iff_getElem.mp hr.1 i y i2 y2 (by omega)).1
        rw [getD_e i2, getD_e y2]
        omega
theorem fa_n5 (hn : ∀ k a, ¬ qSa s.2.1 s.2.2.2.2.1 s.2.2.2.1 0 s.1.length 0 k a) (h : fRp s.2.2.2.2.1 (isF5 (qRs s.1.length s.2.2.2.2.1)) 0 x) (c : x = -1) : ∀ k a, ¬ pFa s 0 k a := by
  have a := h.none c
  intro k' a' hk'
  rcases hk' with q | ⟨_, e, y, y1, y2, y3, y4⟩
  · exact hn _ _ q
  · exact a y y2 y3
end
end
section
/-! THE CLASS: programFault() -/
def cFt (S : Nat → Nat × Nat × Nat) (G : xG_) (q nx : Nat) (s : pPg) : Prop := cSs S ∧ cPs G ∧ cPr0 S G q true s.1 ∧ cMe G s.2.2.2.1 ∧ cWd G q s.2.2.2.1 ∧ cPp S G q nx s.2.1 s.2.2.1 s.2.2.2.2.1 ∧ cHd G q s.2.2.2.2.1 ∧ 278 < q ∧ q + 10 < nx
section
variable {f q nx A sl : Nat} {S S' : Nat → Nat × Nat × Nat} {G G' : xG_} {s : pPg}
theorem cFt.fr (h : cFt S G q nx s) (hS : ∀ a, a < nx → S' a = S a) (hG : ∀ a j, a < nx → ¬ (a = 72 ∧ j = 2) → G' a j = G a j) : cFt S' G' q nx s := by
  obtain ⟨a1, a2, a3, a4, a5, a6, a7, a8, a9⟩ := h
  refine ⟨fun k hk => by rw [hS _ (by omega)]; exact a1 k hk, a2.read (fun a j z1 _ z3 => hG a j (by omega) (by omega)), a3.sg (fun a _ _ => hS a (by omega)) (hG _ _ (by omega) (by omega)) (hG _ _ (by omega) (by omega)) (fun j _ _ _ => hG _ _ (by omega) (by omega)) (fun j => hG _ _ (by omega) (by omega)), a4.ge (hG _ _ (by omega) (by omega)) (fun a j _ _ => hG _ _ (by omega) (by omega)), a5.ge (fun j => hG _ _ (by omega) (by omega)), a6.ge hS (fun a j z => hG _ _ (by omega) (by omega)), a7.ge (fun j => hG _ _ (by omega) (by omega)), a8, a9⟩
theorem cFt.pl {x : Int} (h : cFt S G q nx s) : cFt S (xup2 G 72 2 x) q nx s := h.fr (fun _ _ => rfl) (fun a j _ z => xup2_n z)
/-- what programFault() leaves -/
def xFf (q nx : Nat) (G G' : xG_) : Prop := ∀ a j, a < nx → ¬ (a = 72 ∧ j = 2) → ¬ (q + 8 ≤ a ∧ a ≤ q + 10) → ¬ (a = q ∧ j = 12) → G' a j = G a j
theorem k_62a (hf : 3010 < f) (h : cFt S G q nx s) (hA : nx ≤ A) (hw : wPg s) (hM : s.2.2.2.1.length ≤ 376) : ∃ x S' G', c62 f 72 (S, G, (A, sl)) = c62a f 72 (x, (S', G', (A + 1, sl + 16))) ∧ (∀ a, a < A → S' a = S a) ∧ (∀ a j, a < A → G' a j = G a j) ∧ cFt S' G' q nx s ∧ fMp s.2.2.2.1 (fun i => isF1 s.2.2.2.1 i 0) 0 x := by
  have hb := h
  obtain ⟨a1, a2, a3, a4, a5, a6, a7, a8, a9⟩ := h
  have h16 := hw.1
  have hn : ∀ k, k < s.2.2.2.1.length → (0 ≤ mN s.2.2.2.1 k ∧ mN s.2.2.2.1 k < 16) ∧ (mW s.2.2.2.1 k = 1 ∨ mW s.2.2.2.1 k = 2 ∨ mW s.2.2.2.1 k = 3 ∨ mW s.2.2.2.1 k = 4) := fun k hk => by
    obtain ⟨b1, b2, b3⟩ := hw.2.2.2.2.1 _ (mm_at hk)
    replace b1 : 0 ≤ mN s.2.2.2.1 k := b1
    replace b2 : mN s.2.2.2.1 k < s.1.length := b2
    replace b3 : mW s.2.2.2.1 k = 2 ∧ mK s.2.2.2.1 k = -1 ∨ (mW s.2.2.2.1 k = 1 ∨ mW s.2.2.2.1 k = 3 ∨ mW s.2.2.2.1 k = 4) ∧ 1 ≤ mK s.2.2.2.1 k ∧ mK s.2.2.2.1 k ≤ 4 := b3
    omega
  obtain ⟨x, S', G', e1, e2, e3, e4⟩ := k_65 (f := f) (A := A) (sl := sl) (by omega) a1 a2 (by omega) a4 (by omega) hn
  exact ⟨x, S', G', st_62_0 (s72 a1) e1, e2, e3, hb.fr (fun a ha => e2 a (by omega)) (fun a j ha _ => e3 a j (by omega)), e4⟩
theorem k_66' {m : Nat × Nat} (hf : 3010 < f) (h : cFt S G q nx s) (hw : wPg s) (hM : s.2.2.2.1.length ≤ 376) : ∃ x, c66 f 72 (S, G, m) = some (x, (S, G, m)) ∧ fMp s.2.2.2.1 (isK2 s) 0 x := by
  obtain ⟨a1, a2, a3, a4, a5, a6, a7, a8, a9⟩ := h
  have h16 := hw.1
  have hn : ∀ k, k < s.2.2.2.1.length → mN s.2.2.2.1 k = -1 ∨ 0 ≤ mN s.2.2.2.1 k ∧ mN s.2.2.2.1 k < 16 := fun k hk => by
    obtain ⟨b1, b2, b3⟩ := hw.2.2.2.2.1 _ (mm_at hk)
    replace b1 : 0 ≤ mN s.2.2.2.1 k := b1
    replace b2 : mN s.2.2.2.1 k < s.1.length := b2
    omega
  exact k_66 (f := f) (m := m) (fi := fun p => pIn s.2.1 (p : Int)) (fh := fun p => pHd s.2.2.2.2.1 (p : Int)) (by omega) a1 a2 a3 a4 (by omega) (fun p hp => ⟨(a6.1 p hp).2.1, a7 p hp⟩) hn
theorem k_67' {m : Nat × Nat} (hf : 3010 < f) (h : cFt S G q nx s) (hw : wPg s) (hM : s.2.2.2.1.length ≤ 376) : ∃ x, c67 f 72 (S, G, m) = some (x, (S, G, m)) ∧ fMp s.2.2.2.1 (isK3 s) 0 x := by
  obtain ⟨a1, a2, a3, a4, a5, a6, a7, a8, a9⟩ := h
  have h16 := hw.1
  have hn : ∀ k, k < s.2.2.2.1.length → (0 ≤ mN s.2.2.2.1 k ∧ mN s.2.2.2.1 k < 16) ∧ (mW s.2.2.2.1 k = 2 ∧ mK s.2.2.2.1 k = -1 ∨ mW s.2.2.2.1 k ≠ 2 ∧ mK s.2.2.2.1 k ≠ -1) := fun k hk => by
    obtain ⟨b1, b2, b3⟩ := hw.2.2.2.2.1 _ (mm_at hk)
    replace b1 : 0 ≤ mN s.2.2.2.1 k := b1
    replace b2 : mN s.2.2.2.1 k < s.1.length := b2
    replace b3 : mW s.2.2.2.1 k = 2 ∧ mK s.2.2.2.1 k = -1 ∨ (mW s.2.2.2.1 k = 1 ∨ mW s.2.2.2.1 k = 3 ∨ mW s.2.2.2.1 k = 4) ∧ 1 ≤ mK s.2.2.2.1 k ∧ mK s.2.2.2.1 k ≤ 4 := b3
    omega
  exact k_67 (f := f) (m := m) (fw := fun p => pNn s.2.2.2.1 (p : Int)) (by omega) a1 a2 a3 a4 (by omega) a5 hn
theorem k_62b (hf : 3010 < f) (h : cFt S G q nx s) (hA : nx ≤ A) (hw : wPg s) : ∃ x G', (∀ a j, ¬ (a = 72 ∧ j = 2) → G' a j = G a j) ∧ fUp s.2.2.2.2.1 0 x ∧ (x ≠ -1 → c62_56 f f 72 0 (S, G, (A, sl)) = some (4, (S, G', (A, sl))) ∧ G' 72 2 = x) ∧
    (x = -1 → ∃ S'' G'', c62_56 f f 72 0 (S, G, (A, sl)) = c62_56t f 72 (S'', G'', (A + 1, sl + 16)) ∧ (∀ a, a < A → S'' a = S a) ∧ xFf q A G G'' ∧ cRg G'' q s.1.length s.2.2.2.2.1) := by
  obtain ⟨a1, a2, a3, a4, a5, a6, a7, a8, a9⟩ := h
  have hR := a6.2.1
  have h16 := hw.1
  have hwl : ∀ u ∈ s.2.2.2.2.1, ∀ y ∈ u.2.2.2.2.2, wLt s.1.length u.2.2.2.2.1.length y := fun u hu y hy => ((hw.2.2.2.2.2.2 u hu).2.2.2.2.2.2.2.2 y hy).1
  obtain ⟨x, G', e1, e2, e3, e4⟩ := k_62r (f := f) (m := (A, sl)) hf a1 a8 a3.2.2.2.2.1 hwl s.2.2.2.2.1.length 0 f G (by omega) (by have := hR.2.1; omega) a2 a3.1 a3.2.2.2.2.2.1 hR
  refine ⟨x, G', e1, e2, e3, fun c => ?_⟩
  obtain ⟨fu', e5⟩ := e4 c
  have hT := (qWm_tr (np := s.1.length) (T := qRd s.2.2.2.2.1))
  have hP : cPgS S q := a3.2.2.2.2.1
  have hG' : cPgP G' q := a3.2.2.2.2.2.1.ge (fun j _ _ _ => e1 _ _ (by omega))
  have hRl : cRl S G' q nx s.2.2.2.2.1 := hR.ge (Nat.le_refl _) (e1 _ _ (by omega)) (fun j _ => e1 _ _ (by omega)) (fun _ _ => rfl) (fun a j _ _ => e1 _ _ (by omega))
  have hw16 : ∀ u ∈ s.2.2.2.2.1, (0 ≤ u.1 ∧ u.1 < 16) ∧ ∀ y ∈ u.2.2.2.2.2, y.1 ≠ 3 → 0 ≤ y.2.1 ∧ y.2.1 < 16 := fun u hu => by
    have z := hw.2.2.2.2.2.2 u hu
    refine ⟨⟨z.1, by have := z.2.1; omega⟩, fun y hy hy3 => ?_⟩
    obtain ⟨y1, y2⟩ := z.2.2.2.2.2.2.2.2 y hy
    refine ⟨y2 hy3, ?_⟩
    rcases y1 with ⟨_, _, y4, _⟩ | ⟨y4, _⟩
    · omega
    · exact absurd y4 hy3
  have hD : ∀ x, x < s.1.length → ∀ j, (qRd s.2.2.2.2.1 x).testBit j = true → (qWm s.1.length (qRd s.2.2.2.2.1) s.1.length x).testBit j = true ∧ j < s.1.length := fun x hx j hj => by
    refine ⟨hT.1 x hx j hj, ?_⟩
    obtain ⟨u, u1, u2, y, y1, y2, y3⟩ := (qRd_in _ _ _).mp hj
    obtain ⟨z1, z2⟩ := (hw.2.2.2.2.2.2 u u1).2.2.2.2.2.2.2.2 y y1
    rcases z1 with ⟨_, _, y4, _⟩ | ⟨y4, _⟩
    · omega
    · exact absurd y4 y2
  obtain ⟨S'', G'', g1, g2, g3, g4⟩ := k_24 (f := f) (A := A) (sl := sl) (by omega) a8 (by omega) hA h16 hP hG' (by rw [e1 _ _ (by omega)]; exact a3.2.2.2.2.2.2.1) (by rw [e1 _ _ (by omega)]; exact a6.2.2.2) hRl (fun j => by rw [e1 _ _ (by omega)]; exact a6.2.2.1 _ _ (by omega) (by omega)) hw16 hT.2 hD
  have st : c62_56 f (fu' + 1) 72 (s.2.2.2.2.1.length : Int) (S, G', (A, sl)) = _ := st_62e (r56 := c62_56 f fu') a1 (by omega) hP.1 (by rw [e1 _ _ (by omega)]; exact a3.1) (by rw [e1 _ _ (by omega)]; exact hR.1) g1
  exact ⟨S'', G'', e5.trans st, g2, fun a j z1 z2 z3 z4 => by rw [g3 a j z1 z3 z4, e1 a j z2], g4⟩
end
end
section
/-! THE CLASS: programFault() whole -/
section
variable {f q nx A sl : Nat} {S S' : Nat → Nat × Nat × Nat} {G G' : xG_} {s : pPg}
theorem xFf.of (h : ∀ a j, a < A → ¬ (a = 72 ∧ j = 2) → G' a j = G a j) : xFf q A G G' := fun a j z1 z2 _ _ => h a j z1 z2
theorem k_62 {b : Nat} (hf : 3010 < f) (h : cFt S G q nx s) (hA : nx ≤ A) (hw : wPg s) (hk : wKn s) (hM : s.2.2.2.1.length ≤ 376) (hso : ∀ i j, i < j → j < s.2.2.2.1.length → mP s.2.2.2.1 i < mP s.2.2.2.1 j) (hr : rSo s.2.2.2.2.1 b) :
    ∃ k S' G' d, c62 f 72 (S, G, (A, sl)) = some (k, (S', G', (A + d, sl + 16 * d))) ∧ 1 ≤ d ∧ d ≤ 2 ∧ (∀ a, a < A → S' a = S a) ∧ xFf q A G G' ∧ ((k = 0 ∧ (∀ k a, ¬ pFa s 0 k a) ∧ cRg G' q s.1.length s.2.2.2.2.1) ∨ (k ≠ 0 ∧ fLs (pFa s 0) k (G' 72 2))) := by
  obtain ⟨x1, S1, G1, e1, e2, e3, e4, e5⟩ := k_62a (sl := sl) hf h hA hw hM
  have s72' := s72 e4.1
  have u1 : ∀ {x : Int} a j, a < A → ¬ (a = 72 ∧ j = 2) → xup2 G1 72 2 x a j = G a j := fun a j z1 z2 => by rw [xup2_n z2, e3 a j z1]
  by_cases c1 : x1 ≠ -1
  · exact ⟨1, S1, xup2 G1 72 2 x1, 1, by rw [e1]; exact (st_62_1 s72').1 c1, Nat.le_refl _, by omega, e2, xFf.of u1, .inr ⟨by decide, by rw [xup2_s]; exact fa_1 hso e5 c1⟩⟩
  replace c1 : x1 = -1 := Decidable.not_not.mp c1
  have n2 := fa_n1 e5 c1
  obtain ⟨x2, g1, g2⟩ := k_66' (m := (A + 1, sl + 16)) hf (e4.pl (x := x1)) hw hM
  have t1 := e1.trans ((st_62_1 s72').2 c1 g1)
  have u2 : ∀ {x : Int} a j, a < A → ¬ (a = 72 ∧ j = 2) → xup2 (xup2 G1 72 2 x1) 72 2 x a j = G a j := fun a j z1 z2 => by rw [xup2_n z2, u1 a j z1 z2]
  by_cases c2 : x2 ≠ -1
  · exact ⟨2, S1, _, 1, by rw [t1]; exact (st_62_2 s72').1 c2, Nat.le_refl _, by omega, e2, xFf.of u2, .inr ⟨by decide, by rw [xup2_s]; exact fa_2 hw hk hso n2 g2 c2⟩⟩
  replace c2 : x2 = -1 := Decidable.not_not.mp c2
  have n3 := fa_n2 hw hk n2 g2 c2
  obtain ⟨x3, h1, h2⟩ := k_67' (m := (A + 1, sl + 16)) hf ((e4.pl (x := x1)).pl (x := x2)) hw hM
  have t2 := t1.trans ((st_62_2 s72').2 c2 h1)
  have u3 : ∀ {x : Int} a j, a < A → ¬ (a = 72 ∧ j = 2) → xup2 (xup2 (xup2 G1 72 2 x1) 72 2 x2) 72 2 x a j = G a j := fun a j z1 z2 => by rw [xup2_n z2, u2 a j z1 z2]
  by_cases c3 : x3 ≠ -1
  · exact ⟨3, S1, _, 1, by rw [t2]; exact (st_62_3 s72').1 c3, Nat.le_refl _, by omega, e2, xFf.of u3, .inr ⟨by decide, by rw [xup2_s]; exact fa_3 hw hso n3 h2 c3⟩⟩
  replace c3 : x3 = -1 := Decidable.not_not.mp c3
  have n4 := fa_n3 hw n3 h2 c3
  have t3 := t2.trans ((st_62_3 s72').2 c3)
  have e6 : cFt S1 (xup2 (xup2 (xup2 G1 72 2 x1) 72 2 x2) 72 2 x3) q nx s := ((e4.pl (x := x1)).pl (x := x2)).pl (x := x3)
  obtain ⟨x4, G4, i1, i2, i3, i4⟩ := k_62b (f := f) (A := A + 1) (sl := sl + 16) hf e6 (by omega) hw
  by_cases c4 : x4 ≠ -1
  · exact ⟨4, S1, G4, 1, by rw [t3]; exact (i3 c4).1, Nat.le_refl _, by omega, e2, xFf.of (fun a j z1 z2 => by rw [i1 a j z2, u3 a j z1 z2]), .inr ⟨by decide, by rw [(i3 c4).2]; exact fa_4 hr n4 i2 c4⟩⟩
  replace c4 : x4 = -1 := Decidable.not_not.mp c4
  obtain ⟨n5, n5'⟩ := fa_n4 n4 i2 c4
  obtain ⟨S5, G5, j1, j2, j3, j4⟩ := i4 c4
  obtain ⟨a1, a2, a3, a4, a5, a6, a7, a8, a9⟩ := e6
  have s5 : S5 72 = (1, 4, 20) := by rw [j2 _ (by omega)]; exact s72'
  have p5 : cPgS S5 q := a3.2.2.2.2.1.ge (fun a _ _ => j2 a (by omega))
  have g5 : cPgP G5 q := a3.2.2.2.2.2.1.ge (fun j _ _ _ => j3 _ _ (by omega) (by omega) (by omega) (by omega))
  have r5 : cRl S5 G5 q nx s.2.2.2.2.1 := a6.2.1.ge (Nat.le_refl _) (j3 _ _ (by omega) (by omega) (by omega) (by omega)) (fun j _ => j3 _ _ (by omega) (by omega) (by omega) (by omega)) (fun a _ => j2 a (by omega)) (fun a j _ _ => j3 _ _ (by omega) (by omega) (by omega) (by omega))
  have hw5 : ∀ u ∈ s.2.2.2.2.1, (0 ≤ u.1 ∧ u.1 < s.1.length) ∧ ∀ y ∈ u.2.2.2.2.2, y.1 ≠ 3 → 0 ≤ y.2.1 ∧ y.2.1 < s.1.length := fun u hu => by
    have z := hw.2.2.2.2.2.2 u hu
    refine ⟨⟨z.1, z.2.1⟩, fun y hy hy3 => ?_⟩
    obtain ⟨y1, y2⟩ := z.2.2.2.2.2.2.2.2 y hy
    refine ⟨y2 hy3, ?_⟩
    rcases y1 with ⟨_, _, y4, _⟩ | ⟨y4, _⟩
    · omega
    · exact absurd y4 hy3
  obtain ⟨x5, l1, l2⟩ := k_28 (f := f) (m := (A + 1 + 1, sl + 16 + 16)) (nx := nx) (T := qWm s.1.length (qRd s.2.2.2.2.1) s.1.length) (by omega) (by omega) hw.1 p5 g5 r5 hw5 j4.1
  have t5 := t3.trans (j1.trans (st_62t s5 (by omega) p5.1 (by rw [j3 _ _ (by omega) (by omega) (by omega) (by omega)]; exact a3.1) l1))
  have fr : xFf q A G (xup2 G5 72 2 x5) := fun a j z1 z2 z3 z4 => by rw [xup2_n z2, j3 a j (by omega) z2 z3 z4, u3 a j z1 z2]
  have fs : ∀ a, a < A → S5 a = S a := fun a ha => by rw [j2 a (by omega), e2 a ha]
  by_cases c5 : x5 = -1
  · rw [if_pos c5] at t5
    refine ⟨0, S5, _, 2, t5, by omega, Nat.le_refl _, fs, fr, .inl ⟨rfl, fa_n5 n5' l2 c5, ?_⟩⟩
    obtain ⟨w1, w2, O, w3, w4, w5⟩ := j4
    have zz : ∀ a j, a ≠ 72 → xup2 G5 72 2 x5 a j = G5 a j := fun a j za => xup2_n (by omega)
    refine ⟨fun p hp => by rw [zz _ _ (by omega)]; exact w1 p hp, ?_, O, w3, ⟨by rw [zz _ _ (by omega)]; exact w4.1, fun k hk => by rw [zz _ _ (by omega)]; exact w4.2 k hk⟩, w5⟩
    exact fun p hp => by rw [zz _ _ (by omega)]; exact w2 p hp
  · rw [if_neg c5] at t5
    exact ⟨5, S5, _, 2, t5, by omega, Nat.le_refl _, fs, fr, .inr ⟨by decide, by rw [xup2_s]; exact fa_5 hr n5' l2 c5⟩⟩
end
end
section
/-! THE CLASS: program(), steps -/
def c1000a (f : Nat) (a0 : Nat) (p161 : Nat × xT_) (R168 : (xT_)) : Option (Int × xT_) := ((cq_gr 11 0 17 (a0) R168).bind fun v173 => ((cq_is 8 8 (v173) R168).bind fun _ => ((c112 f (v173) R168).bind fun R175 => ((cq_gr 11 1 17 (a0) R175).bind fun v181 => ((cq_is 4 20 (v181) R175).bind fun _ => ((c30 f (v181) (p161.1) R175).bind fun R183 => chd R183 0 (c1000_50  f (a0) (p161.1) (0) R183.2) (fun _ => c1000_50  f (a0) (p161.1) (1) R183.2)))))))
theorem c1000a_e (f : Nat) (a0 : Nat) (T : xT_) : c1000 f a0 T = ((cq_p 11 9 17 (a0) (-1) T).bind fun T150 => ((cq_gi 11 7 17 (a0) T150).bind fun v154 => ((cq_p 11 7 17 (a0) (xwr ((v154) + (1))) T150).bind fun T157 => ((cq_nw 3 14 T157).bind fun p161 => ((cq_gi 11 7 17 (a0) p161.2).bind fun v166 => ((c19 f (p161.1) (v166) p161.2).bind fun R168 => c1000a f a0 p161 R168)))))) := rfl
def c1000b (f : Nat) (a0 : Nat) (p161 : Nat × xT_) (R175 : (xT_)) : Option (Int × xT_) := ((cq_gr 11 1 17 (a0) R175).bind fun v181 => ((cq_is 4 20 (v181) R175).bind fun _ => ((c30 f (v181) (p161.1) R175).bind fun R183 => chd R183 0 (c1000_50  f (a0) (p161.1) (0) R183.2) (fun _ => c1000_50  f (a0) (p161.1) (1) R183.2))))
theorem c1000b_e (f : Nat) (a0 : Nat) (p161 : Nat × xT_) (R168 : (xT_)) : c1000a f a0 p161 R168 = ((cq_gr 11 0 17 (a0) R168).bind fun v173 => ((cq_is 8 8 (v173) R168).bind fun _ => ((c112 f (v173) R168).bind fun R175 => c1000b f a0 p161 R175))) := rfl
def c1000c (f : Nat) (a0 : Nat) (p161 : Nat × xT_) (R183 : ((Nat ⊕ Unit) × xT_)) : Option (Int × xT_) := chd R183 0 (c1000_50  f (a0) (p161.1) (0) R183.2) (fun _ => c1000_50  f (a0) (p161.1) (1) R183.2)
theorem c1000c_e (f : Nat) (a0 : Nat) (p161 : Nat × xT_) (R175 : (xT_)) : c1000b f a0 p161 R175 = ((cq_gr 11 1 17 (a0) R175).bind fun v181 => ((cq_is 4 20 (v181) R175).bind fun _ => ((c30 f (v181) (p161.1) R175).bind fun R183 => c1000c f a0 p161 R183))) := rfl
def c1000d (f : Nat) (x0 : Nat) (x1 : Nat) (R111 : (Int × xT_)) : Option (Int × xT_) := (if (R111.1) = 0 then ((cq_gr 11 5 17 (x0) R111.2).bind fun v118 => ((cq_gi 11 6 17 (x0) R111.2).bind fun v120 => ((cq_ar (v118) (v120) R111.2).bind fun v122 => ((cq_pr 1 7 14 (v122) (x1) R111.2).bind fun T125 => ((cq_p 1 8 14 (v122) (0) T125).bind fun T130 => ((cq_gi 3 8 14 (x1) T130).bind fun v134 => (some (v134, T130)))))))) else ((cq_gr 11 1 17 (x0) R111.2).bind fun v136 => ((cq_gi 4 2 20 (v136) R111.2).bind fun v138 => ((cq_p 11 9 17 (x0) (v138) R111.2).bind fun T141 => (some (xwr ((-5000) - (R111.1)), T141))))))
theorem c1000d_e (f : Nat) (x0 : Nat) (x1 : Nat) (x2 : Int) (T : xT_) : c1000_50 f x0 x1 x2 T = ((cq_gr 11 0 17 (x0) T).bind fun v101 => ((cq_p 8 1 8 (v101) (0) T).bind fun T104 => (if ¬ (x2) = 0 then ((cq_gr 11 1 17 (x0) T104).bind fun v109 => ((cq_is 4 20 (v109) T104).bind fun _ => ((c62 f (v109) T104).bind fun R111 => c1000d f x0 x1 R111))) else ((cq_gr 11 1 17 (x0) T104).bind fun v145 => ((cq_gi 4 2 20 (v145) T104).bind fun v147 => (some (xwr ((-1) - (v147)), T104))))))) := rfl
section
variable {f A sl q hr : Nat} {S : Nat → Nat × Nat × Nat} {G : xG_} {m : Nat × Nat} {sn x k : Int} {T T1 : xT_}
theorem st_1000_0 (hs : cSs S) (hA : 278 < A) (e7 : G 64 7 = sn) (ew : xwr (sn + 1) = sn + 1) (e : c19 f A (sn + 1) (xup1 S A (1, 3, 14), xz1 (xup2 (xup2 G 64 9 (-1)) 64 7 (sn + 1)) A (fun _ => 0), (A + 1, sl + 14)) = some T1) : c1000 f 64 (S, G, (A, sl)) = c1000a f 64 (A, (xup1 S A (1, 3, 14), xz1 (xup2 (xup2 G 64 9 (-1)) 64 7 (sn + 1)) A (fun _ => 0), (A + 1, sl + 14))) T1 := by
  have s64' : xup1 S A (1, 3, 14) 64 = (1, 11, 17) := by rw [xup1_n (by omega)]; exact s64 hs
  have z7 : xz1 (xup2 (xup2 G 64 9 (-1)) 64 7 (sn + 1)) A (fun _ => 0) 64 7 = sn + 1 := by rw [xz1_n _ (by omega), xup2_s]
  rw [c1000a_e]
  unfold cq_nw cq_mk
  simp (disch := omega) only [cq_gi, cq_gr, cq_a, cq_s, cq_p, cq_pr, cq_is, cq_ar, cq_ab, cq_ln, xq_nz, Option.bind_some, xup2_n, xup2_s, Int.toNat_natCast, Int.reduceToNat, if_pos, if_neg, true_and, and_true, and_self, eq_self, if_true, reduceIte, not_true_eq_false, not_false_eq_true, or_true, true_or, s64 hs, e7, ew, s64', z7, e]
theorem st_1000_1 (hs : cSs S) (hp : cPs G) (e : c112 f 65 (S, G, m) = some T1) : c1000a f 64 (q, T) (S, G, m) = c1000b f 64 (q, T) T1 := by
  rw [c1000b_e]
  simp (disch := omega) only [cq_gi, cq_gr, cq_a, cq_s, cq_p, cq_pr, cq_is, cq_ar, cq_ab, cq_ln, xq_nz, Option.bind_some, xup2_n, xup2_s, Int.toNat_natCast, Int.reduceToNat, if_pos, if_neg, true_and, and_true, and_self, eq_self, if_true, reduceIte, not_true_eq_false, not_false_eq_true, or_true, true_or, s64 hs, s65 hs, p64_0 hp, e]
theorem st_1000_2 {R : (Nat ⊕ Unit) × xT_} (hs : cSs S) (hp : cPs G) (e : c30 f 72 q (S, G, m) = some R) : c1000b f 64 (q, T) (S, G, m) = chd R 0 (c1000_50 f 64 q 0 R.2) (fun _ => c1000_50 f 64 q 1 R.2) := by
  rw [c1000c_e]
  unfold c1000c
  simp (disch := omega) only [cq_gi, cq_gr, cq_a, cq_s, cq_p, cq_pr, cq_is, cq_ar, cq_ab, cq_ln, xq_nz, Option.bind_some, xup2_n, xup2_s, Int.toNat_natCast, Int.reduceToNat, if_pos, if_neg, true_and, and_true, and_self, eq_self, if_true, reduceIte, not_true_eq_false, not_false_eq_true, or_true, true_or, s64 hs, s72 hs, p64_1 hp, e]
theorem st_1000_w (hs : cSs S) (hp : cPs G) (e2 : G 72 2 = x) : c1000_50 f 64 q 0 (S, G, m) = some (xwr (-1 - x), (S, xup2 G 65 1 0, m)) := by
  unfold c1000_50
  simp (disch := omega) only [cq_gi, cq_gr, cq_a, cq_s, cq_p, cq_pr, cq_is, cq_ar, cq_ab, cq_ln, xq_nz, Option.bind_some, xup2_n, xup2_s, Int.toNat_natCast, Int.reduceToNat, if_pos, if_neg, true_and, and_true, and_self, eq_self, if_true, reduceIte, not_true_eq_false, not_false_eq_true, or_true, true_or, s64 hs, s65 hs, s72 hs, p64_0 hp, p64_1 hp, e2]
theorem st_1000_3 {R : Int × xT_} (hs : cSs S) (hp : cPs G) (e : c62 f 72 (S, xup2 G 65 1 0, m) = some R) : c1000_50 f 64 q 1 (S, G, m) = c1000d f 64 q R := by
  rw [c1000d_e]
  simp (disch := omega) only [cq_gi, cq_gr, cq_a, cq_s, cq_p, cq_pr, cq_is, cq_ar, cq_ab, cq_ln, xq_nz, Option.bind_some, xup2_n, xup2_s, Int.toNat_natCast, Int.reduceToNat, if_pos, if_neg, true_and, and_true, and_self, eq_self, if_true, reduceIte, not_true_eq_false, not_false_eq_true, or_true, true_or, s64 hs, s65 hs, s72 hs, p64_0 hp, p64_1 hp, e]
theorem st_1000_f (hs : cSs S) (hp : cPs G) (hk : k ≠ 0) (e2 : G 72 2 = x) : c1000d f 64 q (k, (S, G, m)) = some (xwr (-5000 - k), (S, xup2 G 64 9 x, m)) := by
  unfold c1000d
  simp (disch := omega) only [cq_gi, cq_gr, cq_a, cq_s, cq_p, cq_pr, cq_is, cq_ar, cq_ab, cq_ln, xq_nz, Option.bind_some, xup2_n, xup2_s, Int.toNat_natCast, Int.reduceToNat, if_pos, if_neg, true_and, and_true, and_self, eq_self, if_true, reduceIte, not_true_eq_false, not_false_eq_true, or_true, true_or, s64 hs, s65 hs, s72 hs, p64_0 hp, p64_1 hp, e2, hk]
theorem st_1000_g {n : Int} {ln : Nat} (hs : cSs S) (hp : cPs G) (hq : 278 < q) (qs : S q = (1, 3, 14)) (ls : S ln = (1, 1, 14)) (hl : 242 < ln) (h6 : G 64 6 = (hr : Int)) (hr4 : hr < 4) (h5 : G 220 hr = (ln : Int)) (hlq : ln < q) (e8 : G q 8 = n) : c1000d f 64 q (0, (S, G, m)) = some (n, (S, xup2 (xup2 G ln 7 (q : Int)) ln 8 0, m)) := by
  unfold c1000d
  simp (disch := omega) only [cq_gi, cq_gr, cq_a, cq_s, cq_p, cq_pr, cq_is, cq_ar, cq_ab, cq_ln, xq_nz, Option.bind_some, xup2_n, xup2_s, Int.toNat_natCast, Int.reduceToNat, if_pos, if_neg, true_and, and_true, and_self, eq_self, if_true, reduceIte, not_true_eq_false, not_false_eq_true, or_true, true_or, s64 hs, s65 hs, s72 hs, s220 hs, p64_0 hp, p64_1 hp, p64_5 hp, qs, ls, h6, h5, e8]
end
end
section
/-! THE CLASS: program() -/
/-- a program of the class without FAULTS -/
def cPgm (S : Nat → Nat × Nat × Nat) (G : xG_) (q nx : Nat) (s : pPg) : Prop := cPgS S q ∧ cPgP G q ∧ cNs G q s.1 ∧ cWd G q s.2.2.2.1 ∧ cPg1 G q s.2.1 s.2.2.1 ∧ cRl S G q nx s.2.2.2.2.1 ∧ cHd G q s.2.2.2.2.1 ∧ cRg G q s.1.length s.2.2.2.2.1 ∧ q + 10 < nx
section
variable {f A sl q hr n nx nx' : Nat} {S S' : Nat → Nat × Nat × Nat} {G G' : xG_} {m : Nat × Nat} {s : pPg} {tx : List Int}
theorem cRg.ge {np : Nat} {R : List pRu} (h : cRg G q np R) (h1 : ∀ a j, q + 8 ≤ a → a ≤ q + 10 → G' a j = G a j) (h2 : G' q 12 = G q 12) : cRg G' q np R := by
  obtain ⟨w1, w2, O, w3, w4, w5⟩ := h
  exact ⟨fun p hp => by rw [h1 _ _ (by omega) (by omega)]; exact w1 p hp, fun p hp => by rw [h1 _ _ (by omega) (by omega)]; exact w2 p hp, O, w3, ⟨by rw [h2]; exact w4.1, fun k hk => by rw [h1 _ _ (by omega) (by omega)]; exact w4.2 k hk⟩, w5⟩
theorem cPgm.ge (h : cPgm S G q nx s) (hn : nx ≤ nx') (hS : ∀ a, a < nx → S' a = S a) (hG : ∀ a j, q ≤ a → a < nx → G' a j = G a j) : cPgm S' G' q nx' s := by
  obtain ⟨a1, a2, a3, a4, a5, a6, a7, a8, a9⟩ := h
  exact ⟨a1.ge (fun a _ _ => hS a (by omega)), a2.ge (fun j _ _ _ => hG _ _ (by omega) (by omega)), a3.ge (hG _ _ (by omega) (by omega)) (fun j => hG _ _ (by omega) (by omega)), a4.ge (fun j => hG _ _ (by omega) (by omega)), fun p hp => by rw [hG _ _ (by omega) (by omega), hG _ _ (by omega) (by omega), hG _ _ (by omega) (by omega)]; exact a5 p hp, a6.ge hn (hG _ _ (by omega) (by omega)) (fun j _ => hG _ _ (by omega) (by omega)) hS (fun a j _ _ => hG _ _ (by omega) (by omega)), a7.ge (fun j => hG _ _ (by omega) (by omega)), a8.ge (fun a j _ _ => hG _ _ (by omega) (by omega)) (hG _ _ (by omega) (by omega)), by omega⟩
theorem s_ln {k : Nat} (h : cSs S) (hk : k < 4) : S (243 + 9 * k) = (1, 1, 14) := by
  rcases (by omega : k = 0 ∨ k = 1 ∨ k = 2 ∨ k = 3) with rfl | rfl | rfl | rfl
  · exact h 179 (by decide)
  · exact h 188 (by decide)
  · exact h 197 (by decide)
  · exact h 206 (by decide)
theorem p_ln {k : Nat} (h : cPs G) (hk : k < 4) : G 220 k = ((243 + 9 * k : Nat) : Int) := by
  rcases (by omega : k = 0 ∨ k = 1 ∨ k = 2 ∨ k = 3) with rfl | rfl | rfl | rfl
  · exact p220_0 h
  · exact p220_1 h
  · exact p220_2 h
  · exact p220_3 h
/-- what the reading of a text changes below A -/
def xFt8 (A : Nat) (G G' : xG_) : Prop := ∀ a j, a < A → ¬ (a = 64 ∧ (j = 7 ∨ j = 9)) → ¬ (65 ≤ a ∧ a ≤ 82) → G' a j = G a j
def xFQ (A hr : Nat) (G G' : xG_) : Prop := ∀ a j, a < A → ¬ (a = 64 ∧ (j = 7 ∨ j = 9)) → ¬ (65 ≤ a ∧ a ≤ 82) → ¬ (a = 243 + 9 * hr ∧ (j = 7 ∨ j = 8)) → G' a j = G a j
theorem pr_facts (hB : tTx (tBt tx) tx.length) (hn : tx.length ≤ 3000) (h : qPr tx = .inr s) : wPg s ∧ wKn s ∧ s.2.2.2.1.length ≤ 376 ∧ (∀ i j, i < j → j < s.2.2.2.1.length → mP s.2.2.2.1 i < mP s.2.2.2.1 j) ∧ ∃ b, rSo s.2.2.2.2.1 b := by
  obtain ⟨h1, h2⟩ := pProg_420 hB hn h
  refine ⟨h1, pProg_kn h (fun m hm => absurd hm (by simp)), h2, fun i j hij hj => ?_, _, pProg_rsorted hB h⟩
  have := List.pairwise_iff_getElem.mp (pProg_sorted hB h) i j (by omega) hj hij
  unfold mP
  rw [getD_e (by omega : i < _), getD_e hj]
  exact this
theorem st_1000_2b {T : xT_} (hs : cSs S) (hp : cPs G) : c1000b f 64 (q, T) (S, G, m) = (c30 f 72 q (S, G, m)).bind (fun R => chd R 0 (c1000_50 f 64 q 0 R.2) (fun _ => c1000_50 f 64 q 1 R.2)) := by
  rw [c1000c_e]
  unfold c1000c
  simp (disch := omega) only [cq_gi, cq_gr, cq_a, cq_s, cq_p, cq_pr, cq_is, cq_ar, cq_ab, cq_ln, xq_nz, Option.bind_some, xup2_n, xup2_s, Int.toNat_natCast, Int.reduceToNat, if_pos, if_neg, true_and, and_true, and_self, eq_self, if_true, reduceIte, not_true_eq_false, not_false_eq_true, or_true, true_or, s64 hs, s72 hs, p64_1 hp]
theorem k_1000p {sn : Int} (hs : cSs S) (hp : cPs G) (hx : cTx G (tBt tx) tx.length) (hA : 554 < A) (h7 : G 64 7 = sn) (ew : xwr (sn + 1) = sn + 1) (hf : 3100 < f) :
    ∃ S1 G1 N, c1000 f 64 (S, G, (A, sl)) = (c30 f 72 A (S1, G1, (A + 11, sl + 182))).bind (fun R => chd R 0 (c1000_50 f 64 A 0 R.2) (fun _ => c1000_50 f 64 A 1 R.2)) ∧ (∀ a, a < A → S1 a = S a) ∧ xFt8 A G G1 ∧ G1 64 7 = sn + 1 ∧ G1 64 9 = -1 ∧ cPs G1 ∧ N ≤ tx.length ∧ cEv S1 G1 (tBt tx) tx.length (tstr (tBt tx) tx.length false) N N ∧ cPgS S1 A ∧ cPgP G1 A ∧ G1 A 0 = sn + 1 ∧ G1 A 1 = 0 ∧ G1 A 8 = 0 ∧ G1 A 12 = 0 ∧ ∀ a j, A < a → a ≤ A + 10 → G1 a j = 0 := by
  have z0 : ∀ a j, ¬ (a = 64 ∧ (j = 7 ∨ j = 9)) → xup2 (xup2 G 64 9 (-1)) 64 7 (sn + 1) a j = G a j := fun a j z => by rw [xup2_n (by omega), xup2_n (by omega)]
  obtain ⟨S1, G1, a1, a2, a3, a4, a5, a6, a7, a8, a9, a10⟩ := k_19 (f := f) (q := A) (sl := sl + 14) (S := S) (G := xup2 (xup2 G 64 9 (-1)) 64 7 (sn + 1)) (v := sn + 1) (by omega)
  have hs1 : cSs S1 := fun k hk => by rw [a2 _ (by omega)]; exact hs k hk
  have hp1 : cPs G1 := hp.ge (fun a j hz => by
    have hb : a < A ∧ ¬ (a = 64 ∧ (j = 7 ∨ j = 9)) := by
      rcases hz with z | z | z | z | z | z | z | ⟨z, z1, z2, k, z3⟩ | z | z | z | ⟨k, z1, z2, z3⟩ <;> omega
    rw [a3 _ _ hb.1, z0 _ _ hb.2])
  have hx1 : cTx G1 (tBt tx) tx.length := hx.ge (by rw [a3 _ _ (by omega), z0 _ _ (by omega)]) (fun p => by rw [a3 _ _ (by omega), z0 _ _ (by omega)])
  obtain ⟨G2, N, b1, b2, b3⟩ := k_112 (m := (A + 11, sl + 14 + 168)) hs1 hp1 hx1 hf
  have hp2 : cPs G2 := hp1.tape (fun a j y1 y2 => b3 a j (by omega) (by omega))
  have hx2 : cTx G2 (tBt tx) tx.length := hx1.ge (b3 _ _ (by omega) (by omega)) (fun p => b3 _ _ (by omega) (by omega))
  have t1 := (st_1000_0 (sl := sl) hs (by omega) h7 ew a1).trans ((st_1000_1 hs1 hp1 b1).trans (st_1000_2b hs1 hp2))
  refine ⟨S1, G2, N, t1, a2, fun a j y1 y2 y3 => by rw [b3 a j (by omega) (by omega), a3 a j y1, z0 a j y2], ?_, ?_, hp2, b2.1, cEv_of hs1 hp2 hx2 b2, a4, a5.ge (fun j _ _ _ => b3 _ _ (by omega) (by omega)), ?_, ?_, ?_, ?_, ?_⟩
  · rw [b3 _ _ (by omega) (by omega), a3 _ _ (by omega), xup2_s]
  · rw [b3 _ _ (by omega) (by omega), a3 _ _ (by omega), xup2_n (by omega), xup2_s]
  · rw [b3 _ _ (by omega) (by omega)]; exact a6
  · rw [b3 _ _ (by omega) (by omega)]; exact a7
  · rw [b3 _ _ (by omega) (by omega)]; exact a8
  · rw [b3 _ _ (by omega) (by omega)]; exact a9
  · intro a j y1 y2
    rw [b3 _ _ (by omega) (by omega)]
    exact a10 a j y1 y2
end
end
section
/-! THE CLASS: program() whole -/
section
variable {f A sl q hr n nx nx' N w : Nat} {S S' : Nat → Nat × Nat × Nat} {G G' : xG_} {m : Nat × Nat} {s : pPg} {tx : List Int} {sn : Int} {B : Nat → Int} {t : tStr}
theorem cWr_ex (S : Nat → Nat × Nat × Nat) (G : xG_) (m : Nat × Nat) (x : Int) : ∃ S' G', cWr S G m x = (S', G', (m.1 + 1, m.2 + 6)) ∧ (∀ a, a < m.1 → S' a = S a) ∧ ∀ a j, a < m.1 → G' a j = xup2 G 72 2 x a j := by
  refine ⟨xup1 S m.1 (0, 0, 0), xz1 (xup2 G 72 2 x) m.1 (fun _ => 0), rfl, fun a ha => xup1_n (Nat.ne_of_lt ha), fun a j ha => xz1_n _ (Nat.ne_of_lt ha)⟩
theorem cPS.ft (h : cPS S G B n t N w q nx s) (hq : 278 < q) : cFt S (xup2 G 65 1 0) q nx s := by
  obtain ⟨hE, hA, hi, hr, ⟨hM, hW, hmp, h3'⟩, hP, hH, hqu⟩ := h
  have z : ∀ a j, ¬ (a = 65 ∧ j = 1) → xup2 G 65 1 0 a j = G a j := fun a j y => xup2_n y
  exact ⟨hE.1, hE.2.1.tape (fun a j y1 y2 => z a j (by omega)), hr.ge (z _ _ (by omega)) (z _ _ (by omega)) (fun j _ _ _ => z _ _ (by omega)) (fun j => z _ _ (by omega)), hM.ge (z _ _ (by omega)) (fun a j _ _ => z _ _ (by omega)), hW.ge (fun j => z _ _ (by omega)), hP.ge (fun _ _ => rfl) (fun a j y => z _ _ (by omega)), hH.ge (fun j => z _ _ (by omega)), hq, hqu⟩
theorem k_1000 (hs : cSs S) (hp : cPs G) (hx : cTx G (tBt tx) tx.length) (hA : 554 < A) (h6 : G 64 6 = (hr : Int)) (hr4 : hr < 4) (h7 : G 64 7 = sn) (hsn : 0 ≤ sn ∧ sn ≤ 100000) (hf : 3100 < f) :
    ∃ v S' G' m', c1000 f 64 (S, G, (A, sl)) = some (v, (S', G', m')) ∧ (∀ a, a < A → S' a = S a) ∧ A ≤ m'.1 ∧ m'.1 ≤ A + 325 ∧ m'.2 ≤ sl + 10342 ∧ cPs G' ∧ G' 65 1 = 0 ∧ G' 64 7 = sn + 1 ∧
      ((qPrg tx v (G' 64 9) ∧ xFt8 A G G') ∨ (∃ s, qPr tx = .inr s ∧ (∀ k a, ¬ pFa s 0 k a) ∧ v = (s.2.2.2.2.1.length : Int) ∧ G' 64 9 = -1 ∧ xFQ A hr G G' ∧ G' (243 + 9 * hr) 7 = (A : Int) ∧ G' (243 + 9 * hr) 8 = 0 ∧ cPgm S' G' A m'.1 s ∧ G' A 0 = sn + 1)) := by
  have hB := hx.2.2.1
  have hn := hx.2.1
  have ew : xwr (sn + 1) = sn + 1 := xwr_g _ (by omega) (by omega)
  obtain ⟨S1, G1, N, e1, e2, e3, e4, e5, e6, e7, e8, e9, e10, e11, e12, e13, e14, e15⟩ := k_1000p (sl := sl) hs hp hx hA h7 ew hf
  have hs1 : cSs S1 := e8.1
  have key := k_30 (f := f) (nx := A + 11) (sl := sl + 182) (F := 4 * (tx.length + 1) + 4) (K := tx.length + 2) (by omega) (tOk_of false hB) (vIn_t hB) (by omega) (by omega) e8 (by omega) rfl e9 e10 e12 e13 e14 e15
  unfold pok at key
  cases hX : qPr tx with
  | inl x =>
    unfold qPr at hX
    rw [hX] at key
    obtain ⟨S2, G2, m2, g1, g2, g3, g4, g5, g6⟩ := key
    obtain ⟨S3, G3, q1, q2, q3⟩ := cWr_ex S2 G2 m2 (x : Int)
    rw [g1, Option.bind_some, q1] at e1
    have fr : ∀ a j, a < A → ¬ (a = 72 ∧ (1 ≤ j ∧ j ≤ 6 ∨ j = 9 ∨ j = 12 ∨ j = 14)) → ¬ (73 ≤ a ∧ a ≤ 82) → G3 a j = G1 a j := fun a j y1 y2 y3 => by
      rw [q3 a j (by omega), xup2_n (by omega), g3 a j y1 y2 y3]
    have hs2 : cSs S3 := fun k hk => by rw [q2 _ (by omega), g2 _ (by omega)]; exact hs1 k hk
    have hp2 : cPs G3 := e6.read (fun a j y1 y2 y3 => fr a j (by omega) y1 y2)
    have st := st_1000_w (f := f) (q := A) (m := (m2.1 + 1, m2.2 + 6)) (x := (x : Int)) hs2 hp2 (by rw [q3 _ _ (by omega), xup2_s])
    have e1' : c1000 f 64 (S, G, (A, sl)) = c1000_50 f 64 A 0 (S3, G3, (m2.1 + 1, m2.2 + 6)) := e1
    refine ⟨_, _, _, _, e1'.trans st, fun a ha => by rw [q2 _ (by omega), g2 _ (by omega), e2 a ha], ?_, ?_, ?_, hp2.tape (fun a j y1 y2 => xup2_n (by omega)), xup2_s _ _ _ _, ?_, .inl ⟨?_, ?_⟩⟩
    · show A ≤ m2.1 + 1; omega
    · show m2.1 + 1 ≤ A + 325; omega
    · show m2.2 + 6 ≤ sl + 10342; omega
    · rw [xup2_n (by omega), fr _ _ (by omega) (by omega) (by omega)]; exact e4
    · unfold qPrg qPr
      rw [hX]
      refine ⟨rfl, ?_⟩
      rw [xup2_n (by omega), fr _ _ (by omega) (by omega) (by omega)]
      exact e5
    · intro a j y1 y2 y3
      rw [xup2_n (by omega), fr _ _ (by omega) (by omega) (by omega), e3 a j y1 y2 y3]
  | inr s =>
    have hX' := hX
    unfold qPr at hX
    rw [hX] at key
    obtain ⟨S2, G2, nx2, sl2, g1, g2, g3, g4, g5, g6, g7, g8⟩ := key
    rw [g1, Option.bind_some] at e1
    obtain ⟨w1, w2, w3, w4, b, w5⟩ := pr_facts hB hn hX'
    have hs2 : cSs S2 := g4.1.1
    have hp2 : cPs G2 := g4.1.2.1
    have e1' : c1000 f 64 (S, G, (A, sl)) = c1000_50 f 64 A 1 (S2, G2, (nx2, sl2)) := e1
    have hFt := g4.ft (by omega : 278 < A)
    obtain ⟨k, S3, G3, d, i1, i2, i3, i4, i5, i6⟩ := k_62 (f := f) (A := nx2) (sl := sl2) (by omega) hFt (Nat.le_refl _) w1 w2 w3 w4 w5
    have st := e1'.trans (st_1000_3 (q := A) hs2 hp2 i1)
    have hs3 : cSs S3 := fun k hk => by rw [i4 _ (by omega)]; exact hs2 k hk
    have fr : ∀ a j, a < A → ¬ (a = 72 ∧ (1 ≤ j ∧ j ≤ 6 ∨ j = 9 ∨ j = 12 ∨ j = 14)) → ¬ (73 ≤ a ∧ a ≤ 82) → ¬ (a = 65 ∧ j = 1) → G3 a j = G1 a j := fun a j y1 y2 y3 y4 => by
      rw [i5 a j (by omega) (by omega) (by omega) (by omega), xup2_n y4, g3 a j y1 y2 y3]
    have hp3 : cPs G3 := hFt.2.1.read (fun a j y1 y2 y3 => i5 a j (by omega) (by omega) (by omega) (by omega))
    have z65 : G3 65 1 = 0 := by rw [i5 _ _ (by omega) (by omega) (by omega) (by omega), xup2_s]
    by_cases c : k = 0
    · have i6' : (∀ k a, ¬ pFa s 0 k a) ∧ cRg G3 A s.1.length s.2.2.2.2.1 := by
        rcases i6 with ⟨_, i7, i8⟩ | ⟨i7, _⟩
        · exact ⟨i7, i8⟩
        · exact absurd c i7
      obtain ⟨i7, i8⟩ := i6'
      subst c
      have hsA : S3 A = (1, 3, 14) := by rw [i4 _ (by omega)]; exact g4.2.2.2.1.2.2.2.2.1.1
      have st2 := st.trans (st_1000_g (n := (s.2.2.2.2.1.length : Int)) hs3 hp3 (by omega) hsA (s_ln hs3 hr4) (by omega) (by rw [fr _ _ (by omega) (by omega) (by omega) (by omega), e3 _ _ (by omega) (by omega) (by omega)]; exact h6) hr4 (p_ln hp3 hr4) (by omega) (by rw [i5 _ _ (by omega) (by omega) (by omega) (by omega)]; exact hFt.2.2.2.2.2.1.2.1.1))
      have zz : ∀ a j, ¬ (a = 243 + 9 * hr ∧ (j = 7 ∨ j = 8)) → xup2 (xup2 G3 (243 + 9 * hr) 7 (A : Int)) (243 + 9 * hr) 8 0 a j = G3 a j := fun a j y => by rw [xup2_n (by omega), xup2_n (by omega)]
      refine ⟨_, _, _, _, st2, fun a ha => by rw [i4 _ (by omega), g2 _ (by omega), e2 a ha], by show A ≤ nx2 + d; omega, by show nx2 + d ≤ A + 325; omega, by show sl2 + 16 * d ≤ sl + 10342; omega, ?_, ?_, ?_, .inr ⟨s, rfl, i7, rfl, ?_, ?_, ?_, xup2_s _ _ _ _, ?_, ?_⟩⟩
      · refine hp3.ge (fun a j hz => zz a j (fun y => ?_))
        rcases hz with z | z | z | z | z | z | z | ⟨z, z1, z2, k, z3⟩ | z | z | z | ⟨k, z1, z2, z3⟩ <;> omega
      · rw [zz _ _ (by omega)]; exact z65
      · rw [zz _ _ (by omega), fr _ _ (by omega) (by omega) (by omega) (by omega)]; exact e4
      · rw [zz _ _ (by omega), fr _ _ (by omega) (by omega) (by omega) (by omega)]; exact e5
      · intro a j y1 y2 y3 y4
        rw [zz _ _ y4, fr a j y1 (by omega) (by omega) (by omega), e3 a j y1 y2 y3]
      · rw [xup2_n (by omega), xup2_s]
      · have q3 : ∀ a j, A ≤ a → a < nx2 → ¬ (A + 8 ≤ a ∧ a ≤ A + 10) → ¬ (a = A ∧ j = 12) → xup2 (xup2 G3 (243 + 9 * hr) 7 (A : Int)) (243 + 9 * hr) 8 0 a j = xup2 G2 65 1 0 a j := fun a j y1 y2 y3 y4 => by rw [zz _ _ (by omega), i5 a j y2 (by omega) y3 y4]
        obtain ⟨a1, a2, a3, a4, a5, a6, a7, a8, a9⟩ := hFt
        exact ⟨a3.2.2.2.2.1.ge (fun a _ _ => i4 a (by omega)), a3.2.2.2.2.2.1.ge (fun j _ _ _ => q3 _ _ (by omega) (by omega) (by omega) (by omega)), a3.2.2.2.2.2.2.ge (q3 _ _ (by omega) (by omega) (by omega) (by omega)) (fun j => q3 _ _ (by omega) (by omega) (by omega) (by omega)), a5.ge (fun j => q3 _ _ (by omega) (by omega) (by omega) (by omega)), fun p hp => by rw [q3 _ _ (by omega) (by omega) (by omega) (by omega), q3 _ _ (by omega) (by omega) (by omega) (by omega), q3 _ _ (by omega) (by omega) (by omega) (by omega)]; exact a6.1 p hp, a6.2.1.ge (by show nx2 ≤ nx2 + d; omega) (q3 _ _ (by omega) (by omega) (by omega) (by omega)) (fun j _ => q3 _ _ (by omega) (by omega) (by omega) (by omega)) (fun a _ => i4 a (by omega)) (fun a j _ _ => q3 _ _ (by omega) (by omega) (by omega) (by omega)), a7.ge (fun j => q3 _ _ (by omega) (by omega) (by omega) (by omega)), i8.ge (fun a j _ _ => zz _ _ (by omega)) (zz _ _ (by omega)), by show A + 10 < nx2 + d; omega⟩
      · rw [zz _ _ (by omega), i5 _ _ (by omega) (by omega) (by omega) (by omega), xup2_n (by omega)]
        rw [g8]; exact e11
    · rcases i6 with ⟨i7, _⟩ | ⟨_, i8⟩
      · exact absurd i7 c
      have st2 := st.trans (st_1000_f hs3 hp3 c rfl)
      have zz : ∀ a j, ¬ (a = 64 ∧ j = 9) → xup2 G3 64 9 (G3 72 2) a j = G3 a j := fun a j y => xup2_n y
      refine ⟨_, _, _, _, st2, fun a ha => by rw [i4 _ (by omega), g2 _ (by omega), e2 a ha], by show A ≤ nx2 + d; omega, by show nx2 + d ≤ A + 325; omega, by show sl2 + 16 * d ≤ sl + 10342; omega, ?_, ?_, ?_, .inl ⟨?_, ?_⟩⟩
      · refine hp3.ge (fun a j hz => zz a j (fun y => ?_))
        rcases hz with z | z | z | z | z | z | z | ⟨z, z1, z2, k, z3⟩ | z | z | z | ⟨k, z1, z2, z3⟩ <;> omega
      · rw [zz _ _ (by omega)]; exact z65
      · rw [zz _ _ (by omega), fr _ _ (by omega) (by omega) (by omega) (by omega)]; exact e4
      · unfold qPrg
        rw [hX']
        refine ⟨k, ?_, ?_, rfl⟩
        · rw [xup2_s]; exact i8.1
        · rw [xup2_s]; exact i8.2
      · intro a j y1 y2 y3
        rw [zz _ _ (by omega), fr a j y1 (by omega) (by omega) (by omega), e3 a j y1 y2 y3]
end
end
