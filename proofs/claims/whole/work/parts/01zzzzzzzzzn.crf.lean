/-! THE CLASS: ringFault() -/
section
variable {f q u l r n nx np : Nat} {S : Nat → Nat × Nat × Nat} {G : xG_} {m : Nat × Nat} {K : pCd} {Ls : List pLt} {T : Nat → Nat} {r2 : Nat → Int → xT_ → Option (Int × xT_)} {r19 : Nat → Int → Nat → Int → xT_ → Option (Int × xT_)} {kd g0 pl : Int} {R : List pRu}
theorem st_28a (us : S u = (1, 6, 20)) (h8 : G u 8 = (n : Int)) : c28_19b r2 r19 f q (r : Int) u (n : Int) (S, G, m) = r2 q (xwr ((r : Int) + 1)) (S, G, m) := by
  unfold c28_19b
  simp (disch := omega) only [cq_gi, cq_gr, cq_a, cq_s, cq_p, cq_pr, cq_is, cq_ar, cq_ab, cq_ln, xq_nz, Option.bind_some, xup2_n, xup2_s, Int.toNat_natCast, Int.reduceToNat, if_pos, if_neg, true_and, and_true, and_self, eq_self, if_true, reduceIte, not_true_eq_false, not_false_eq_true, or_true, true_or, us, h8]
theorem st_28b (u2 : 278 < u) (hl8 : l < 8) (us : S u = (1, 6, 20)) (us2 : S (u + 2) = (2, 3, 8)) (w9 : G u 9 = ((u + 2 : Nat) : Int)) (h8 : G u 8 = (n : Int)) (hl : l < n) (hk : G (u + 2) l = kd) (h3 : G u 3 = g0) : c28_19b r2 r19 f q (r : Int) u (l : Int) (S, G, m) = if kd = 9 ∨ kd = 15 ∧ g0 ≠ -1 then c28_62 r2 r19 f q (r : Int) u (l : Int) 1 (S, G, m) else c28_97 r2 r19 f q (r : Int) u (l : Int) (S, G, m) := by
  by_cases c9 : kd = 9
  · rw [if_pos (.inl c9)]
    rw [c9] at hk
    unfold c28_19b c28_57
    simp (disch := omega) only [cq_gi, cq_gr, cq_a, cq_s, cq_p, cq_pr, cq_is, cq_ar, cq_ab, cq_ln, xq_nz, Option.bind_some, xup2_n, xup2_s, Int.toNat_natCast, Int.reduceToNat, if_pos, if_neg, true_and, and_true, and_self, eq_self, if_true, reduceIte, not_true_eq_false, not_false_eq_true, or_true, true_or, us, us2, w9, h8, hk]
  · by_cases c15 : kd = 15
    · rw [c15] at hk
      by_cases cg : g0 = -1
      · rw [if_neg (fun y => by rcases y with y | y; exact c9 y; exact y.2 cg)]
        rw [cg] at h3
        unfold c28_19b c28_61 c28_62
        simp (disch := omega) only [cq_gi, cq_gr, cq_a, cq_s, cq_p, cq_pr, cq_is, cq_ar, cq_ab, cq_ln, xq_nz, Option.bind_some, xup2_n, xup2_s, Int.toNat_natCast, Int.reduceToNat, if_pos, if_neg, true_and, and_true, and_self, eq_self, if_true, reduceIte, not_true_eq_false, not_false_eq_true, or_true, true_or, us, us2, w9, h8, hk, h3]
      · rw [if_pos (.inr ⟨c15, cg⟩)]
        unfold c28_19b c28_57
        simp (disch := omega) only [cq_gi, cq_gr, cq_a, cq_s, cq_p, cq_pr, cq_is, cq_ar, cq_ab, cq_ln, xq_nz, Option.bind_some, xup2_n, xup2_s, Int.toNat_natCast, Int.reduceToNat, if_pos, if_neg, true_and, and_true, and_self, eq_self, if_true, reduceIte, not_true_eq_false, not_false_eq_true, or_true, true_or, us, us2, w9, h8, hk, h3, cg]
    · rw [if_neg (fun y => by rcases y with y | y; exact c9 y; exact c15 y.1)]
      unfold c28_19b c28_61 c28_62
      simp (disch := omega) only [cq_gi, cq_gr, cq_a, cq_s, cq_p, cq_pr, cq_is, cq_ar, cq_ab, cq_ln, xq_nz, Option.bind_some, xup2_n, xup2_s, Int.toNat_natCast, Int.reduceToNat, if_pos, if_neg, true_and, and_true, and_self, eq_self, if_true, reduceIte, not_true_eq_false, not_false_eq_true, or_true, true_or, us, us2, w9, h8, hk]
theorem st_28c {p h x y : Nat} (hq : 82 < q) (u2 : 278 < u) (hl8 : l < 8) (hp : p < 16) (hh : h < 16) (us : S u = (1, 6, 20)) (us3 : S (u + 3) = (2, 3, 8)) (qs : S q = (1, 3, 14)) (q8 : S (q + 8) = (2, 3, 16)) (w10 : G u 10 = ((u + 3 : Nat) : Int)) (wq : G q 10 = ((q + 8 : Nat) : Int)) (h3 : G (u + 3) l = (p : Int)) (h0 : G u 0 = (h : Int)) (h1 : G u 1 = pl) (hx : G (q + 8) p = (x : Int)) (hy : G (q + 8) h = (y : Int)) : c28_62 r2 r19 f q (r : Int) u (l : Int) 1 (S, G, m) = if x = y then some (pl, (S, G, m)) else c28_97 r2 r19 f q (r : Int) u (l : Int) (S, G, m) := by
  by_cases c : x = y
  · rw [if_pos c]
    rw [c] at hx
    unfold c28_62
    simp (disch := omega) only [cq_gi, cq_gr, cq_a, cq_s, cq_p, cq_pr, cq_is, cq_ar, cq_ab, cq_ln, xq_nz, Option.bind_some, xup2_n, xup2_s, Int.toNat_natCast, Int.reduceToNat, if_pos, if_neg, true_and, and_true, and_self, eq_self, if_true, reduceIte, not_true_eq_false, not_false_eq_true, or_true, true_or, us, us3, qs, q8, w10, wq, h3, h0, h1, hx, hy]
  · rw [if_neg c]
    unfold c28_62
    simp (disch := omega) only [cq_gi, cq_gr, cq_a, cq_s, cq_p, cq_pr, cq_is, cq_ar, cq_ab, cq_ln, xq_nz, Option.bind_some, xup2_n, xup2_s, Int.toNat_natCast, Int.reduceToNat, if_pos, if_neg, true_and, and_true, and_self, eq_self, if_true, reduceIte, not_true_eq_false, not_false_eq_true, or_true, true_or, us, us3, qs, q8, w10, wq, h3, h0, hx, hy]
theorem k_28i {h : Nat} {gq : Int} (hq : 82 < q) (hh : h < np) (hn : np ≤ 16) (qs : cPgS S q) (hG : cPgP G q) (hR : cRq S G u K Ls) (hw : ∀ y ∈ Ls, y.1 ≠ 3 → 0 ≤ y.2.1 ∧ y.2.1 < np) (h0 : G u 0 = (h : Int)) (h1 : G u 1 = pl) (h3 : G u 3 = g0) (hgq : g0 ≠ -1 ↔ gq ≠ 0) (hK : ∀ p, p < np → G (q + 8) p = ((qRing T p : Nat) : Int)) : ∀ (d l fu : Nat), l + d = Ls.length → d < fu → c28_19 r2 f fu q (r : Int) u (l : Int) (S, G, m) = if (Ls.drop l).any (qOw (qRing T) (h : Int) gq) = true then some (pl, (S, G, m)) else r2 q (xwr ((r : Int) + 1)) (S, G, m) := by
  have u2 := hR.2.2.2.2.1
  have h8 := hR.2.2.2.1.1
  have hl8 := hR.2.2.2.1.2.1
  intro d
  induction d with
  | zero =>
    intro l fu e1 e2
    obtain ⟨fu, rfl⟩ : ∃ t, fu = t + 1 := ⟨fu - 1, by omega⟩
    have : l = Ls.length := by omega
    rw [this, List.drop_of_length_le (Nat.le_refl _), if_neg (by simp)]
    exact st_28a (r19 := c28_19 r2 f fu) hR.1.1 h8
  | succ d ih =>
    intro l fu e1 e2
    obtain ⟨fu, rfl⟩ : ∃ t, fu = t + 1 := ⟨fu - 1, by omega⟩
    have hl : l < Ls.length := by omega
    have ek : xwr ((l : Int) + 1) = ((l + 1 : Nat) : Int) := by rw [xwr_g _ (by omega) (by omega)]; omega
    have hx := hR.2.2.2.1.2.2 l hl
    have hwl := hw (Ls.getD l dLt) (by rw [getD_e hl]; exact List.getElem_mem hl)
    have i := ih (l + 1) fu (by omega) (by omega)
    have st : c28_19 r2 f (fu + 1) q (r : Int) u (l : Int) (S, G, m) = _ := st_28b (r19 := c28_19 r2 f fu) u2 (by omega) hR.1.1 hR.1.2.2.1 hR.2.1.2.1 h8 hl rfl h3
    have e97 : c28_97 r2 (c28_19 r2 f fu) f q (r : Int) u (l : Int) (S, G, m) = c28_19 r2 f fu q (r : Int) u ((l + 1 : Nat) : Int) (S, G, m) := by unfold c28_97; rw [ek]
    have hd : (Ls.drop l).any (qOw (qRing T) (h : Int) gq) = (qOw (qRing T) (h : Int) gq (Ls.getD l dLt) || (Ls.drop (l + 1)).any (qOw (qRing T) (h : Int) gq)) := by
      rw [List.drop_eq_getElem_cons hl, getD_e hl]
      rfl
    have hst : (G (u + 2) l = 9 ∨ G (u + 2) l = 15 ∧ g0 ≠ -1) ↔ ((Ls.getD l dLt).1 ≠ 3 ∧ ((Ls.getD l dLt).1 = 2 ∨ gq ≠ 0)) := by
      rcases hx with ⟨a1, a2, _⟩ | ⟨a1, a2, a3, _⟩
      · have a1' : (Ls.getD l dLt).1 = 1 ∨ (Ls.getD l dLt).1 = 2 := a1
        rw [a2]
        by_cases c : (Ls.getD l dLt).1 = 1
        · have c' : (Ls.getD l (0, 0, 0, [], [], [])).1 = 1 := c
          rw [if_pos c']
          constructor
          · intro y
            exact ⟨by omega, .inr (hgq.mp (by rcases y with y | y; exact absurd y (by decide); exact y.2))⟩
          · intro y
            refine .inr ⟨rfl, hgq.mpr ?_⟩
            rcases y.2 with z | z
            · omega
            · exact z
        · have c' : ¬ (Ls.getD l (0, 0, 0, [], [], [])).1 = 1 := c
          rw [if_neg c']
          exact ⟨fun _ => ⟨by omega, .inl (by omega)⟩, fun _ => .inl rfl⟩
      · have a1' : (Ls.getD l dLt).1 = 3 := a1
        rw [a2]
        exact ⟨fun y => by omega, fun y => absurd a1' y.1⟩
    rw [st, hd, e97, i]
    by_cases cs : G (u + 2) l = 9 ∨ G (u + 2) l = 15 ∧ g0 ≠ -1
    · rw [if_pos cs]
      obtain ⟨c3, cg⟩ := hst.mp cs
      obtain ⟨w1, w2⟩ := hwl c3
      obtain ⟨p, hp⟩ : ∃ p : Nat, (Ls.getD l dLt).2.1 = (p : Int) := ⟨(Ls.getD l dLt).2.1.toNat, by omega⟩
      have h3' : G (u + 3) l = (p : Int) := by
        rcases hx with ⟨_, _, a3, _⟩ | ⟨a1, _⟩
        · rw [a3]; exact hp
        · exact absurd a1 c3
      rw [st_28c hq u2 (by omega) (by omega) (by omega) hR.1.1 hR.1.2.2.2.1 qs.1 qs.2.2.2.2.2.2.2.2.1 hR.2.1.2.2.1 hG.2.2.2.2.2.2.2.1 h3' h0 h1 (hK p (by omega)) (hK h hh), e97, i]
      by_cases cr : qRing T p = qRing T h
      · rw [if_pos cr, if_pos]
        rw [Bool.or_eq_true]
        left
        unfold qOw
        exact decide_eq_true ⟨c3, by rw [hp, Int.toNat_natCast, Int.toNat_natCast]; exact cr, cg⟩
      · rw [if_neg cr]
        have : qOw (qRing T) (h : Int) gq (Ls.getD l dLt) = false := by
          unfold qOw
          refine decide_eq_false (fun y => cr ?_)
          have := y.2.1
          rw [hp, Int.toNat_natCast, Int.toNat_natCast] at this
          exact this
        rw [this, Bool.false_or]
    · rw [if_neg cs]
      have : qOw (qRing T) (h : Int) gq (Ls.getD l dLt) = false := by
        unfold qOw
        exact decide_eq_false (fun y => cs (hst.mpr ⟨y.1, y.2.2⟩))
      rw [this, Bool.false_or]
theorem st_28r (hq : 82 < q) (hr : r < n) (hn : n ≤ 24) (qs : S q = (1, 3, 14)) (q7 : S (q + 7) = (2, 11, 24)) (h8 : G q 8 = (n : Int)) (w9 : G q 9 = ((q + 7 : Nat) : Int)) (h7 : G (q + 7) r = (u : Int)) : c28_2b r2 f q (r : Int) (S, G, m) = c28_19 r2 f f q (r : Int) u ((0 : Nat) : Int) (S, G, m) := by
  unfold c28_2b
  simp (disch := omega) only [cq_gi, cq_gr, cq_a, cq_s, cq_p, cq_pr, cq_is, cq_ar, cq_ab, cq_ln, xq_nz, Option.bind_some, xup2_n, xup2_s, Int.toNat_natCast, Int.reduceToNat, if_pos, if_neg, true_and, and_true, and_self, eq_self, if_true, reduceIte, not_true_eq_false, not_false_eq_true, or_true, true_or, qs, q7, h8, w9, h7]
  rfl
theorem st_28e (qs : S q = (1, 3, 14)) (h8 : G q 8 = (n : Int)) : c28_2b r2 f q (n : Int) (S, G, m) = some (-1, (S, G, m)) := by
  unfold c28_2b
  simp (disch := omega) only [cq_gi, cq_gr, cq_a, cq_s, cq_p, cq_pr, cq_is, cq_ar, cq_ab, cq_ln, xq_nz, Option.bind_some, xup2_n, xup2_s, Int.toNat_natCast, Int.reduceToNat, if_pos, if_neg, true_and, and_true, and_self, eq_self, if_true, reduceIte, not_true_eq_false, not_false_eq_true, or_true, true_or, qs, h8]
/-- the first rule from r on that reads its own RING so -/
def fRp (R : List pRu) (P : pRu → Prop) (r : Nat) (x : Int) : Prop := x = -1 ∧ (∀ i, r ≤ i → i < R.length → ¬ P (R.getD i dRu)) ∨ ∃ i, r ≤ i ∧ i < R.length ∧ P (R.getD i dRu) ∧ (∀ j, r ≤ j → j < i → ¬ P (R.getD j dRu)) ∧ x = ((R.getD i dRu).2.1 : Int)
/-- ringFault() -/
theorem k_28 (hf : 30 < f) (hq : 82 < q) (hn : np ≤ 16) (qs : cPgS S q) (hG : cPgP G q) (hR : cRl S G q nx R) (hw : ∀ u ∈ R, (0 ≤ u.1 ∧ u.1 < np) ∧ ∀ y ∈ u.2.2.2.2.2, y.1 ≠ 3 → 0 ≤ y.2.1 ∧ y.2.1 < np) (hK : ∀ p, p < np → G (q + 8) p = ((qRing T p : Nat) : Int)) : ∃ x, c28 f q (S, G, m) = some (x, (S, G, m)) ∧ fRp R (isF5 (qRing T)) 0 x := by
  have hR24 := hR.2.1
  have loop : ∀ (d r fu : Nat), r + d = R.length → d < fu → ∃ x, c28_2 f fu q (r : Int) (S, G, m) = some (x, (S, G, m)) ∧ fRp R (isF5 (qRing T)) r x := by
    intro d
    induction d with
    | zero =>
      intro r fu e1 e2
      obtain ⟨fu, rfl⟩ : ∃ t, fu = t + 1 := ⟨fu - 1, by omega⟩
      have : r = R.length := by omega
      rw [this]
      exact ⟨-1, st_28e (r2 := c28_2 f fu) qs.1 hR.1, .inl ⟨rfl, fun i z1 z2 => by omega⟩⟩
    | succ d ih =>
      intro r fu e1 e2
      obtain ⟨fu, rfl⟩ : ∃ t, fu = t + 1 := ⟨fu - 1, by omega⟩
      have hr : r < R.length := by omega
      have ek : xwr ((r : Int) + 1) = ((r + 1 : Nat) : Int) := by rw [xwr_g _ (by omega) (by omega)]; omega
      obtain ⟨u, u1, u2, u3, ⟨K, u4, u4', _⟩, u5, u6⟩ := hR.2.2 r hr
      have hm : R.getD r dRu ∈ R := by rw [getD_e hr]; exact List.getElem_mem hr
      obtain ⟨w1, w2⟩ := hw _ hm
      obtain ⟨h, hh⟩ : ∃ h : Nat, (R.getD r dRu).1 = (h : Int) := ⟨(R.getD r dRu).1.toNat, by omega⟩
      have hgq : G u 3 ≠ -1 ↔ qG (R.getD r dRu) ≠ 0 := by
        unfold qG
        rcases u4'.2.2.2.2 with ⟨a1, a2⟩ | ⟨a1, a2, a3, _⟩
        · rw [if_pos a1, a2]
          exact ⟨fun y => absurd rfl y, fun y => absurd rfl y⟩
        · rw [if_neg (by omega), a2]
          exact ⟨fun _ => by omega, fun _ => by omega⟩
      have e := k_28i (f := f) (m := m) (r := r) (r2 := c28_2 f fu) hq (by omega : h < np) hn qs hG u4 w2 (by rw [u5, hh]) u6 rfl hgq hK _ 0 f (Nat.zero_add _) (by have := u4.2.2.2.1.2.1; omega)
      rw [List.drop_zero, ek] at e
      have st : c28_2 f (fu + 1) q (r : Int) (S, G, m) = _ := st_28r (r2 := c28_2 f fu) hq hr hR24 qs.1 qs.2.2.2.2.2.2.2.1 hR.1 hG.2.2.2.2.2.2.1 u1
      rw [st, e]
      have hP : isF5 (qRing T) (R.getD r dRu) ↔ (R.getD r dRu).2.2.2.2.2.any (qOw (qRing T) (h : Int) (qG (R.getD r dRu))) = true := by
        unfold isF5
        rw [hh]
      by_cases c : (R.getD r dRu).2.2.2.2.2.any (qOw (qRing T) (h : Int) (qG (R.getD r dRu))) = true
      · rw [if_pos c]
        exact ⟨_, rfl, .inr ⟨r, Nat.le_refl _, hr, hP.mpr c, fun j z1 z2 => by omega, rfl⟩⟩
      · rw [if_neg c]
        obtain ⟨x, x1, x2⟩ := ih (r + 1) fu (by omega) (by omega)
        refine ⟨x, x1, ?_⟩
        have hnP : ¬ isF5 (qRing T) (R.getD r dRu) := fun y => c (hP.mp y)
        rcases x2 with ⟨a1, a2⟩ | ⟨i, a1, a2, a3, a4, a5⟩
        · refine .inl ⟨a1, fun i z1 z2 => ?_⟩
          by_cases ci : i = r
          · rw [ci]; exact hnP
          · exact a2 i (by omega) z2
        · refine .inr ⟨i, by omega, a2, a3, fun j z1 z2 => ?_, a5⟩
          by_cases cj : j = r
          · rw [cj]; exact hnP
          · exact a4 j (by omega) z2
  exact loop R.length 0 f (by omega) (by omega)
end
