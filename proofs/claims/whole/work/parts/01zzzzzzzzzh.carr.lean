/-! THE CLASS: who reads whom -/
def cRd (G : xG_) (q : Nat) (T : Nat → Nat) : Prop := ∀ p : Nat, p < 16 → G (q + 10) p = (T p : Int)
def tUp (T : Nat → Nat) (h x : Nat) : Nat → Nat := fun p => if p = h then T p ||| x else T p
section
variable {f u q l n r : Nat} {S : Nat → Nat × Nat × Nat} {G : xG_} {m : Nat × Nat} {K : pCd} {Ls : List pLt} {T : Nat → Nat} {r2 : Nat → Int → xT_ → Option (xT_)} {r19 : Nat → Int → Nat → Int → xT_ → Option (xT_)}
theorem st_24a (us : S u = (1, 6, 20)) (h8 : G u 8 = (n : Int)) : c24_19b r2 r19 f q (r : Int) u (n : Int) (S, G, m) = r2 q (xwr ((r : Int) + 1)) (S, G, m) := by
  unfold c24_19b
  simp (disch := omega) only [cq_gi, cq_gr, cq_a, cq_s, cq_p, cq_pr, cq_is, cq_ar, cq_ab, cq_ln, xq_nz, Option.bind_some, xup2_n, xup2_s, Int.toNat_natCast, Int.reduceToNat, if_pos, if_neg, true_and, and_true, and_self, eq_self, if_true, reduceIte, not_true_eq_false, not_false_eq_true, or_true, true_or, us, h8]
theorem st_24b (us : S u = (1, 6, 20)) (h8 : G u 8 = (n : Int)) (hl : l < n) (e : c90 f u (l : Int) (S, G, m) = some (0, (S, G, m))) : c24_19b r2 r19 f q (r : Int) u (l : Int) (S, G, m) = r19 q (r : Int) u (xwr ((l : Int) + 1)) (S, G, m) := by
  unfold c24_19b c24_55
  simp (disch := omega) only [cq_gi, cq_gr, cq_a, cq_s, cq_p, cq_pr, cq_is, cq_ar, cq_ab, cq_ln, xq_nz, Option.bind_some, xup2_n, xup2_s, Int.toNat_natCast, Int.reduceToNat, if_pos, if_neg, true_and, and_true, and_self, eq_self, if_true, reduceIte, not_true_eq_false, not_false_eq_true, or_true, true_or, us, h8, e]
theorem st_24c {h p a : Nat} (hq : 82 < q) (hqu : q + 10 < u) (hl8 : l < 8) (hh : h < 16) (us : S u = (1, 6, 20)) (us3 : S (u + 3) = (2, 3, 8)) (qs : S q = (1, 3, 14)) (q10 : S (q + 10) = (2, 3, 16)) (w10 : G u 10 = ((u + 3 : Nat) : Int)) (w13 : G q 13 = ((q + 10 : Nat) : Int)) (h0 : G u 0 = (h : Int)) (h3 : G (u + 3) l = (p : Int)) (ha : G (q + 10) h = (a : Int)) (h8 : G u 8 = (n : Int)) (hl : l < n) (e : c90 f u (l : Int) (S, G, m) = some (1, (S, G, m))) : c24_19b r2 r19 f q (r : Int) u (l : Int) (S, G, m) = r19 q (r : Int) u (xwr ((l : Int) + 1)) (S, xup2 G (q + 10) h (xor_ (a : Int) (xshl 1 (p : Int))), m) := by
  unfold c24_19b c24_55
  simp (disch := omega) only [cq_gi, cq_gr, cq_a, cq_s, cq_p, cq_pr, cq_is, cq_ar, cq_ab, cq_ln, xq_nz, Option.bind_some, xup2_n, xup2_s, Int.toNat_natCast, Int.reduceToNat, if_pos, if_neg, true_and, and_true, and_self, eq_self, if_true, reduceIte, not_true_eq_false, not_false_eq_true, or_true, true_or, us, us3, qs, q10, w10, w13, h0, h3, ha, h8, e]
theorem cRq.fq {v : Int} {h : Nat} (hR : cRq S G u K Ls) (hqu : q + 10 < u) : cRq S (xup2 G (q + 10) h v) u K Ls := by
  obtain ⟨a1, a2, ⟨k1, k2, k3, k4, k5⟩, a4, a5, a6⟩ := hR
  exact ⟨a1, a2.ge (fun j _ _ => xup2_n (by omega)), ⟨by rw [xup2_n (by omega)]; exact k1, by rw [xup2_n (by omega)]; exact k2, k3, k4, fun k hk => by rw [xup2_n (by omega), xup2_n (by omega)]; exact k5 k hk⟩, a4.rule (xup2_n (by omega)) (fun a j _ _ => xup2_n (by omega)), a5, a6⟩
theorem k_24i {h : Nat} (hq : 82 < q) (hqu : q + 10 < u) (hh : h < 16) (qs : cPgS S q) (hw : ∀ y ∈ Ls, y.1 ≠ 3 → 0 ≤ y.2.1 ∧ y.2.1 < 16) : ∀ (d l fu : Nat) (G : xG_) (T : Nat → Nat), l + d = Ls.length → d < fu → cRq S G u K Ls → G q 13 = ((q + 10 : Nat) : Int) → G u 0 = (h : Int) → b16 T → cRd G q T → ∃ G', c24_19 r2 f fu q (r : Int) u (l : Int) (S, G, m) = r2 q (xwr ((r : Int) + 1)) (S, G', m) ∧ (∀ a j, a ≠ q + 10 → G' a j = G a j) ∧ b16 (tUp T h (qLm (Ls.drop l))) ∧ cRd G' q (tUp T h (qLm (Ls.drop l))) := by
  intro d
  induction d with
  | zero =>
    intro l fu G T h1 h2 hR h13 h0 hT hG
    obtain ⟨fu, rfl⟩ : ∃ t, fu = t + 1 := ⟨fu - 1, by omega⟩
    have : l = Ls.length := by omega
    have e : tUp T h (qLm (Ls.drop l)) = T := by
      rw [this, List.drop_of_length_le (Nat.le_refl _)]
      funext p
      unfold tUp
      split
      · show T p ||| 0 = T p
        exact Nat.or_zero _
      · rfl
    rw [e, this]
    exact ⟨G, st_24a (r19 := c24_19 r2 f fu) hR.1.1 hR.2.2.2.1.1, fun _ _ _ => rfl, hT, hG⟩
  | succ d ih =>
    intro l fu G T h1 h2 hR h13 h0 hT hG
    obtain ⟨fu, rfl⟩ : ∃ t, fu = t + 1 := ⟨fu - 1, by omega⟩
    have hl : l < Ls.length := by omega
    have hl8 := hR.2.2.2.1.2.1
    have hx := hR.2.2.2.1.2.2 l hl
    have ek : xwr ((l : Int) + 1) = ((l + 1 : Nat) : Int) := by rw [xwr_g _ (by omega) (by omega)]; omega
    have e90 := k_90 (f := f) (m := m) hR (by omega) hx
    have ed : qLm (Ls.drop l) = (if (Ls.getD l dLt).1 = 3 then 0 else 2 ^ (Ls.getD l dLt).2.1.toNat) ||| qLm (Ls.drop (l + 1)) := by
      rw [List.drop_eq_getElem_cons hl, getD_e hl]
      rfl
    have hwl := hw (Ls.getD l dLt) (by rw [getD_e hl]; exact List.getElem_mem hl)
    by_cases c3 : (Ls.getD l dLt).1 = 3
    · rw [show (Ls.getD l (0, 0, 0, [], [], [])) = Ls.getD l dLt from rfl, if_pos c3] at e90
      rw [if_pos c3, Nat.zero_or] at ed
      obtain ⟨G', x1, x2⟩ := ih (l + 1) fu G T (by omega) (by omega) hR h13 h0 hT hG
      rw [ed]
      refine ⟨G', ?_, x2⟩
      have st : c24_19 r2 f (fu + 1) q (r : Int) u (l : Int) (S, G, m) = _ := st_24b (r19 := c24_19 r2 f fu) hR.1.1 hR.2.2.2.1.1 hl e90
      rw [st, ek]
      exact x1
    · rw [show (Ls.getD l (0, 0, 0, [], [], [])) = Ls.getD l dLt from rfl, if_neg c3] at e90
      rw [if_neg c3] at ed
      obtain ⟨w1, w2⟩ := hwl c3
      obtain ⟨p, hp⟩ : ∃ p : Nat, (Ls.getD l dLt).2.1 = (p : Int) := ⟨(Ls.getD l dLt).2.1.toNat, by omega⟩
      have h3 : G (u + 3) l = (p : Int) := by
        rcases hx with ⟨_, _, a3, _⟩ | ⟨a1, _⟩
        · rw [a3]; exact hp
        · exact absurd a1 c3
      have hTh : T h < 2 ^ 16 := hT h
      have st : c24_19 r2 f (fu + 1) q (r : Int) u (l : Int) (S, G, m) = _ := st_24c (r19 := c24_19 r2 f fu) hq hqu (by omega) hh hR.1.1 hR.1.2.2.2.1 qs.1 qs.2.2.2.2.2.2.2.2.2.2 hR.2.1.2.2.1 h13 h0 h3 (hG h hh) hR.2.2.2.1.1 hl e90
      rw [xorb (by omega) (by omega), ek] at st
      have hT' : b16 (tUp T h (2 ^ p)) := fun x => by
        unfold tUp
        split
        · exact or_lt (hT x) (by omega)
        · exact hT x
      obtain ⟨G', x1, x2, x3, x4⟩ := ih (l + 1) fu (xup2 G (q + 10) h ((T h ||| 2 ^ p : Nat) : Int)) (tUp T h (2 ^ p)) (by omega) (by omega) (hR.fq hqu) (by rw [xup2_n (by omega)]; exact h13) (by rw [xup2_n (by omega)]; exact h0) hT' (fun x hx => by
        unfold tUp
        by_cases cx : x = h
        · rw [if_pos cx, cx, xup2_s]
        · rw [if_neg cx, xup2_n (fun y => cx y.2)]; exact hG x hx)
      have e : tUp (tUp T h (2 ^ p)) h (qLm (Ls.drop (l + 1))) = tUp T h (qLm (Ls.drop l)) := by
        funext x
        unfold tUp
        by_cases cx : x = h
        · rw [if_pos cx, if_pos cx, if_pos cx, ed, hp, Int.toNat_natCast, Nat.or_assoc]
        · rw [if_neg cx, if_neg cx, if_neg cx]
      rw [e] at x3 x4
      exact ⟨G', st.trans x1, fun a j ha => by rw [x2 a j ha, xup2_n (fun y => ha y.1)], x3, x4⟩
end
