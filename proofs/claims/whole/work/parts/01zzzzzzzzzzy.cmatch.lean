/-! THE CLASS: match() -/
def fUpd (v : Nat → Int) (k : Nat) (x : Int) : Nat → Int := fun j => if j = k then x else v j
/-- a row against TERMS: what is bound behind it, and values; none if it doesn't fit -/
def mtc : pCd → List Int → Nat → (Nat → Int) → Option (Nat × (Nat → Int))
  | [], _, b, v => some (b, v)
  | t :: T, xs, b, v => if t.1 = 3 then (if t.2 = xs.headD 0 then mtc T xs.tail b v else none)
    else if t.1 = 1 then (if b.testBit t.2.toNat = true ∧ v t.2.toNat ≠ xs.headD 0 then none else mtc T xs.tail (b ||| 2 ^ t.2.toNat) (fUpd v t.2.toNat (xs.headD 0)))
    else mtc T xs.tail b v
section
variable {f u x i c e l nw nv bl vn : Nat} {S : Nat → Nat × Nat × Nat} {G : xG_} {m : Nat × Nat} {r : Nat → Int → Nat → Int → Int → Int → xT_ → Option (Int × xT_)} {mk kd td ow vv : Int} {b : Nat}
theorem st_136z (hs : cSs S) (h3 : G 83 3 = (u : Int)) (hu : 278 < u) (us : S u = (1, 6, 20)) (us4 : S (u + 4) = (2, 3, 8)) (w11 : G u 11 = ((u + 4 : Nat) : Int)) (hl : l < 8) (h4 : G (u + 4) l = (nw : Int)) : c136_46b r f 83 (l : Int) x (i : Int) mk (nw : Int) (S, G, m) = some (mk, (S, G, m)) := by
  unfold c136_46b
  simp (disch := omega) only [cq_gi, cq_gr, cq_a, cq_s, cq_p, cq_pr, cq_is, cq_ar, cq_ab, cq_ln, xq_nz, Option.bind_some, xup2_n, xup2_s, Int.toNat_natCast, Int.reduceToNat, if_pos, if_neg, true_and, and_true, and_self, eq_self, if_true, reduceIte, not_true_eq_false, not_false_eq_true, or_true, true_or, s83 hs, h3, us, us4, w11, h4]
theorem st_136a (hs : cSs S) (h3 : G 83 3 = (u : Int)) (hu : 278 < u) (us : S u = (1, 6, 20)) (us4 : S (u + 4) = (2, 3, 8)) (us5 : S (u + 5) = (2, 3, 32)) (us6 : S (u + 6) = (2, 4, 32)) (w11 : G u 11 = ((u + 4 : Nat) : Int)) (w12 : G u 12 = ((u + 5 : Nat) : Int)) (w13 : G u 13 = ((u + 6 : Nat) : Int)) (hl : l < 8) (h4 : G (u + 4) l = (nw : Int)) (hc : c < nw) (ee : xwr ((xwr (4 * (l : Int))) + (c : Int)) = (e : Int)) (he : e < 32) (hk : G (u + 5) e = kd) (ht : G (u + 6) e = td) (xs : S x = (1, 5, 4)) (e70 : c70 f x (i : Int) (c : Int) (S, G, m) = some (ow, (S, G, m))) : c136_46b r f 83 (l : Int) x (i : Int) mk (c : Int) (S, G, m) = if kd = 4 ∧ td ≠ ow then some (-1, (S, G, m)) else c136_117 r f 83 (l : Int) x (i : Int) mk (c : Int) kd td ow (S, G, m) := by
  by_cases q1 : kd = 4
  · by_cases q2 : td = ow
    · rw [if_neg (fun y => y.2 q2)]
      unfold c136_46b
      simp (disch := omega) only [cq_gi, cq_gr, cq_a, cq_s, cq_p, cq_pr, cq_is, cq_ar, cq_ab, cq_ln, xq_nz, Option.bind_some, xup2_n, xup2_s, Int.toNat_natCast, Int.reduceToNat, if_pos, if_neg, true_and, and_true, and_self, eq_self, if_true, reduceIte, not_true_eq_false, not_false_eq_true, or_true, true_or, s83 hs, h3, us, us4, us5, us6, w11, w12, w13, h4, ee, hk, ht, xs, e70, q1, q2]
    · rw [if_pos ⟨q1, q2⟩]
      unfold c136_46b
      simp (disch := omega) only [cq_gi, cq_gr, cq_a, cq_s, cq_p, cq_pr, cq_is, cq_ar, cq_ab, cq_ln, xq_nz, Option.bind_some, xup2_n, xup2_s, Int.toNat_natCast, Int.reduceToNat, if_pos, if_neg, true_and, and_true, and_self, eq_self, if_true, reduceIte, not_true_eq_false, not_false_eq_true, or_true, true_or, s83 hs, h3, us, us4, us5, us6, w11, w12, w13, h4, ee, hk, ht, xs, e70, q1, q2]
  · rw [if_neg (fun y => q1 y.1)]
    unfold c136_46b
    simp (disch := omega) only [cq_gi, cq_gr, cq_a, cq_s, cq_p, cq_pr, cq_is, cq_ar, cq_ab, cq_ln, xq_nz, Option.bind_some, xup2_n, xup2_s, Int.toNat_natCast, Int.reduceToNat, if_pos, if_neg, true_and, and_true, and_self, eq_self, if_true, reduceIte, not_true_eq_false, not_false_eq_true, or_true, true_or, s83 hs, h3, us, us4, us5, us6, w11, w12, w13, h4, ee, hk, ht, xs, e70, q1]
theorem st_136n (hk : kd ≠ 2) (ec : xwr ((c : Int) + 1) = ((c + 1 : Nat) : Int)) : c136_117 r f 83 (l : Int) x (i : Int) mk (c : Int) kd td ow (S, G, m) = r 83 (l : Int) x (i : Int) mk ((c + 1 : Nat) : Int) (S, G, m) := by
  unfold c136_117 c136_172
  simp (disch := omega) only [cq_gi, cq_gr, cq_a, cq_s, cq_p, cq_pr, cq_is, cq_ar, cq_ab, cq_ln, xq_nz, Option.bind_some, xup2_n, xup2_s, Int.toNat_natCast, Int.reduceToNat, if_pos, if_neg, true_and, and_true, and_self, eq_self, if_true, reduceIte, not_true_eq_false, not_false_eq_true, or_true, true_or, hk, ec]
theorem st_136v (hs : cSs S) (hp : cPs G) (hv : vn < 8) (hb : b < 2 ^ 8) (hm : G 84 vn = vv) (ev : xwr (vn : Int) = (vn : Int)) (ec : xwr ((c : Int) + 1) = ((c + 1 : Nat) : Int)) : c136_117 r f 83 (l : Int) x (i : Int) (b : Int) (c : Int) 2 (vn : Int) ow (S, G, m) = if b.testBit vn = true ∧ vv ≠ ow then some (-1, (S, G, m)) else r 83 (l : Int) x (i : Int) ((b ||| 2 ^ vn : Nat) : Int) ((c + 1 : Nat) : Int) (S, xup2 G 84 vn ow, m) := by
  have eo : xor_ (b : Int) (xshl 1 (vn : Int)) = ((b ||| 2 ^ vn : Nat) : Int) := xorb (by omega) (by omega)
  by_cases q : b.testBit vn = true
  · have eb : xand (xshr (b : Int) (vn : Int)) 1 = 1 := (xbit (by omega) (by omega)).mpr q
    by_cases q2 : vv = ow
    · rw [if_neg (fun y => y.2 q2)]
      unfold c136_117 c136_154 c136_172
      simp (disch := omega) only [cq_gi, cq_gr, cq_a, cq_s, cq_p, cq_pr, cq_is, cq_ar, cq_ab, cq_ln, xq_nz, Option.bind_some, xup2_n, xup2_s, Int.toNat_natCast, Int.reduceToNat, if_pos, if_neg, true_and, and_true, and_self, eq_self, if_true, reduceIte, not_true_eq_false, not_false_eq_true, or_true, true_or, s83 hs, s84 hs, p83_0 hp, ev, eb, hm, q2, eo, ec]
    · rw [if_pos ⟨q, q2⟩]
      unfold c136_117
      simp (disch := omega) only [cq_gi, cq_gr, cq_a, cq_s, cq_p, cq_pr, cq_is, cq_ar, cq_ab, cq_ln, xq_nz, Option.bind_some, xup2_n, xup2_s, Int.toNat_natCast, Int.reduceToNat, if_pos, if_neg, true_and, and_true, and_self, eq_self, if_true, reduceIte, not_true_eq_false, not_false_eq_true, or_true, true_or, s83 hs, s84 hs, p83_0 hp, ev, eb, hm, q2]
  · have eb : ¬ xand (xshr (b : Int) (vn : Int)) 1 = 1 := fun y => q ((xbit (by omega) (by omega)).mp y)
    rw [if_neg (fun y => q y.1)]
    unfold c136_117 c136_154 c136_172
    simp (disch := omega) only [cq_gi, cq_gr, cq_a, cq_s, cq_p, cq_pr, cq_is, cq_ar, cq_ab, cq_ln, xq_nz, Option.bind_some, xup2_n, xup2_s, Int.toNat_natCast, Int.reduceToNat, if_pos, if_neg, true_and, and_true, and_self, eq_self, if_true, reduceIte, not_true_eq_false, not_false_eq_true, or_true, true_or, s83 hs, s84 hs, p83_0 hp, ev, eb, eo, ec]
end
section
variable {f u x i l nv W cap : Nat} {S : Nat → Nat × Nat × Nat} {G G' : xG_} {m : Nat × Nat} {K T : pCd} {R : List pRw}
/-- a LITERAL's TERMS stand in the class -/
def cTl1 (G : xG_) (u l : Nat) (T : pCd) : Prop := l < 8 ∧ G (u + 4) l = (T.length : Int) ∧ T.length ≤ 4 ∧ cTs G u l T
theorem cTl1.ge (h : cTl1 G u l T) (hf : ∀ a j, u + 4 ≤ a → a ≤ u + 6 → G' a j = G a j) : cTl1 G' u l T := by
  obtain ⟨h1, h2, h3, h4⟩ := h
  exact ⟨h1, by rw [hf _ _ (by omega) (by omega)]; exact h2, h3, fun c hc => by rw [hf _ _ (by omega) (by omega), hf _ _ (by omega) (by omega)]; exact h4 c hc⟩
theorem drop_hd {α : Type} {T q : List α} {t d : α} {c : Nat} (h : T.drop c = t :: q) : c < T.length ∧ T.getD c d = t ∧ T.drop (c + 1) = q := by
  have hc : c < T.length := by
    have := congrArg List.length h
    rw [List.length_drop, List.length_cons] at this
    omega
  have e : T.drop c = T[c] :: T.drop (c + 1) := List.drop_eq_getElem_cons hc
  rw [e] at h
  injection h with h1 h2
  exact ⟨hc, by rw [getD_e hc]; exact h1, h2⟩
theorem drop_ht {xs : List Int} {c : Nat} : (xs.drop c).headD 0 = xs.getD c 0 ∧ (xs.drop c).tail = xs.drop (c + 1) := by
  refine ⟨?_, List.tail_drop⟩
  rw [List.getD_eq_getElem?_getD, List.headD_eq_head?_getD, List.head?_drop]
theorem k_136l (hwT : ∀ y ∈ T, wT1 nv y) (hnv : nv ≤ 8) (hTW : T.length = W) (hi : i < R.length) : ∀ (q : pCd) (c fu b : Nat) (G : xG_) (vl : Nat → Int), T.drop c = q → c ≤ T.length → q.length < fu → cWy S G u K → cTl1 G u l T → cRw S G x W cap R → 92 < x → b < 2 ^ 8 → (∀ k, k < 8 → G 84 k = vl k) → ∃ v G', c136_46 f fu 83 (l : Int) x (i : Int) (b : Int) (c : Int) (S, G, m) = some (v, (S, G', m)) ∧ (∀ a k, a ≠ 84 → G' a k = G a k) ∧ ((∃ b' vl', mtc q ((R.getD i dRw).1.drop c) b vl = some (b', vl') ∧ v = ((b' : Nat) : Int) ∧ ∀ k, k < 8 → G' 84 k = vl' k) ∨ (v = -1 ∧ mtc q ((R.getD i dRw).1.drop c) b vl = none ∧ ∀ k, b.testBit k = true → G' 84 k = G 84 k)) := by
  intro q
  induction q with
  | nil =>
    intro c fu b G vl e1 e2 e3 hW hT hR hx hb hv
    obtain ⟨fu, rfl⟩ : ∃ t, fu = t + 1 := ⟨fu - 1, by omega⟩
    have hc : c = T.length := by
      have := congrArg List.length e1
      rw [List.length_drop] at this
      simp at this
      omega
    subst hc
    obtain ⟨a1, a2, a3, a4, a5, a6, a7, a8⟩ := hW
    exact ⟨(b : Int), G, st_136z (r := c136_46 f fu) a1 a3 a4 a5.1 a5.2.2.2.2.1 a6.2.2.2.1 hT.1 hT.2.1, fun _ _ _ => rfl, .inl ⟨b, vl, rfl, rfl, hv⟩⟩
  | cons t q ih =>
    intro c fu b G vl e1 e2 e3 hW hT hR hx hb hv
    obtain ⟨fu, rfl⟩ : ∃ t, fu = t + 1 := ⟨fu - 1, by omega⟩
    obtain ⟨hc, ht, e1'⟩ := drop_hd (d := (0, 0)) e1
    obtain ⟨a1, a2, a3, a4, a5, a6, a7, a8⟩ := id hW
    obtain ⟨t1, t2, t3, t4⟩ := id hT
    obtain ⟨x1, x2⟩ := drop_ht (xs := (R.getD i dRw).1) (c := c)
    have hm : t ∈ T := by rw [← ht, getD_e hc]; exact List.getElem_mem hc
    have hw1 := hwT t hm
    have htm := t4 c hc
    rw [ht] at htm
    have e4 : xwr ((xwr (4 * (l : Int))) + (c : Int)) = ((4 * l + c : Nat) : Int) := by rw [xwr_g (4 * (l : Int)) (by omega) (by omega), xwr_g _ (by omega) (by omega)]; omega
    have ec : xwr ((c : Int) + 1) = ((c + 1 : Nat) : Int) := by rw [xwr_g _ (by omega) (by omega)]; omega
    have e70 := k_70 (f := f) (m := m) hR hi (by omega : c < W)
    have st : c136_46 f (fu + 1) 83 (l : Int) x (i : Int) (b : Int) (c : Int) (S, G, m) = _ := st_136a (r := c136_46 f fu) (mk := (b : Int)) a1 a3 a4 a5.1 a5.2.2.2.2.1 a5.2.2.2.2.2.1 a5.2.2.2.2.2.2.1 a6.2.2.2.1 a6.2.2.2.2.1 a6.2.2.2.2.2.1 t1 t2 hc e4 (by omega) rfl rfl hR.1 e70
    have hmt : mtc (t :: q) ((R.getD i dRw).1.drop c) b vl = if t.1 = 3 then (if t.2 = (R.getD i dRw).1.getD c 0 then mtc q ((R.getD i dRw).1.drop (c + 1)) b vl else none) else if t.1 = 1 then (if b.testBit t.2.toNat = true ∧ vl t.2.toNat ≠ (R.getD i dRw).1.getD c 0 then none else mtc q ((R.getD i dRw).1.drop (c + 1)) (b ||| 2 ^ t.2.toNat) (fUpd vl t.2.toNat ((R.getD i dRw).1.getD c 0))) else mtc q ((R.getD i dRw).1.drop (c + 1)) b vl := by
      rw [← x1, ← x2]; rfl
    rw [hmt]
    rcases htm with ⟨m1, m2, m3⟩ | ⟨m1, m2⟩ | ⟨m1, m2, m3⟩
    · have hvv : 0 ≤ t.2 ∧ t.2 < nv := by
        rcases hw1 with q1 | q1 | q1
        · exact q1.2
        · omega
        · omega
      obtain ⟨vn, hvn⟩ : ∃ vn : Nat, t.2 = (vn : Int) := ⟨t.2.toNat, by omega⟩
      rw [m2, m3, hvn, if_neg (by omega), st_136v (b := b) (vn := vn) a1 a2 (by omega) hb (hv vn (by omega)) (xwr_g _ (by omega) (by omega)) ec] at st
      rw [hvn, Int.toNat_natCast, if_neg (by omega), if_pos m1]
      by_cases q1 : b.testBit vn = true ∧ vl vn ≠ (R.getD i dRw).1.getD c 0
      · rw [if_pos q1] at st ⊢
        exact ⟨-1, G, st, fun _ _ _ => rfl, .inr ⟨rfl, rfl, fun _ _ => rfl⟩⟩
      · rw [if_neg q1] at st ⊢
        have z : ∀ a k, a ≠ 84 → xup2 G 84 vn ((R.getD i dRw).1.getD c 0) a k = G a k := fun a k y => xup2_n (by omega)
        obtain ⟨v, G2, g1, g2, g3⟩ := ih (c + 1) fu (b ||| 2 ^ vn) (xup2 G 84 vn ((R.getD i dRw).1.getD c 0)) (fUpd vl vn ((R.getD i dRw).1.getD c 0)) e1' (by omega) (by rw [List.length_cons] at e3; omega) (hW.ge (fun a k y _ _ _ _ _ _ _ => z a k y)) (hT.ge (fun a j _ _ => z _ _ (by omega))) (hR.ge (fun _ _ _ => rfl) (fun j => z _ _ (by omega)) (fun j => z _ _ (by omega)) (fun j => z _ _ (by omega))) hx (or_lt hb (by omega)) (fun k hk => by
          unfold fUpd
          by_cases ck : k = vn
          · rw [if_pos ck, ck, xup2_s]
          · rw [if_neg ck, xup2_n (by omega)]; exact hv k hk)
        refine ⟨v, G2, st.trans g1, fun a k y => by rw [g2 a k y, z a k y], ?_⟩
        rcases g3 with g3 | ⟨g3, g4, g5⟩
        · exact .inl g3
        · refine .inr ⟨g3, g4, fun k hk => ?_⟩
          rw [g5 k (by rw [Nat.testBit_or, hk]; rfl)]
          by_cases ck : k = vn
          · subst ck
            rw [xup2_s]
            have : vl k = (R.getD i dRw).1.getD c 0 := Classical.byContradiction (fun y => q1 ⟨hk, y⟩)
            rw [← this, hv k (by omega)]
          · exact xup2_n (by omega)
    · rw [m2, if_neg (by omega), st_136n (by decide) ec] at st
      rw [if_neg (by omega), if_neg (by omega)]
      obtain ⟨v, G2, g1, g2, g3⟩ := ih (c + 1) fu b G vl e1' (by omega) (by rw [List.length_cons] at e3; omega) hW hT hR hx hb hv
      exact ⟨v, G2, st.trans g1, g2, g3⟩
    · rw [m2, m3] at st
      rw [if_pos m1]
      by_cases q1 : t.2 = (R.getD i dRw).1.getD c 0
      · rw [if_neg (fun y => y.2 q1), st_136n (by decide) ec] at st
        rw [if_pos q1]
        obtain ⟨v, G2, g1, g2, g3⟩ := ih (c + 1) fu b G vl e1' (by omega) (by rw [List.length_cons] at e3; omega) hW hT hR hx hb hv
        exact ⟨v, G2, st.trans g1, g2, g3⟩
      · rw [if_pos ⟨rfl, q1⟩] at st
        rw [if_neg q1]
        exact ⟨-1, G, st, fun _ _ _ => rfl, .inr ⟨rfl, rfl, fun _ _ => rfl⟩⟩
end
