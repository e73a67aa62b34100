section
/-! THE CLASS: findRange() -/
def c134_129a (f : Nat) (x0 : Nat) (x2 : Int) (v109 : Nat) (v111 : Nat) (v113 : Int) (R117 : (Int × xT_)) : Option (xT_) := ((cq_s 3 (v111) (v113) (R117.1) R117.2).bind fun T124 => ((cq_gr 9 11 14 (x0) T124).bind fun v128 => ((cq_gi 9 6 14 (x0) T124).bind fun v130 => ((cq_gr 9 12 14 (x0) T124).bind fun v132 => ((cq_is 5 4 (v109) T124).bind fun _ => ((c73 f (v109) (v132) (x2) (1) T124).bind fun R134 => ((cq_s 3 (v128) (v130) (R134.1) R134.2).bind fun T141 => ((cq_gr 9 10 14 (x0) T141).bind fun v145 => ((cq_gi 9 6 14 (x0) T141).bind fun v147 => ((cq_gr 9 9 14 (x0) T141).bind fun v149 => ((cq_gi 9 6 14 (x0) T141).bind fun v151 => ((cq_a 3 (v149) (v151) T141).bind fun v153 => ((cq_s 3 (v145) (v147) (v153) T141).bind fun T156 => (some T156))))))))))))))
theorem c134_129a_e (f : Nat) (x0 : Nat) (x1 : Int) (x2 : Int) (T : xT_) : c134_129 f x0 x1 x2 T = ((cq_gr 9 4 14 (x0) T).bind fun v101 => ((cq_gr 9 3 14 (x0) T).bind fun v103 => ((cq_gr 6 10 20 (v103) T).bind fun v105 => ((cq_a 3 (v105) (x1) T).bind fun v107 => ((cq_ar (v101) (v107) T).bind fun v109 => ((cq_gr 9 9 14 (x0) T).bind fun v111 => ((cq_gi 9 6 14 (x0) T).bind fun v113 => ((cq_gr 9 12 14 (x0) T).bind fun v115 => ((cq_is 5 4 (v109) T).bind fun _ => ((c73 f (v109) (v115) (x2) (0) T).bind fun R117 => c134_129a f x0 x2 v109 v111 v113 R117)))))))))) := rfl
def c134_129b (f : Nat) (x0 : Nat) (v128 : Nat) (v130 : Int) (R134 : (Int × xT_)) : Option (xT_) := ((cq_s 3 (v128) (v130) (R134.1) R134.2).bind fun T141 => ((cq_gr 9 10 14 (x0) T141).bind fun v145 => ((cq_gi 9 6 14 (x0) T141).bind fun v147 => ((cq_gr 9 9 14 (x0) T141).bind fun v149 => ((cq_gi 9 6 14 (x0) T141).bind fun v151 => ((cq_a 3 (v149) (v151) T141).bind fun v153 => ((cq_s 3 (v145) (v147) (v153) T141).bind fun T156 => (some T156))))))))
theorem c134_129b_e (f : Nat) (x0 : Nat) (x2 : Int) (v109 : Nat) (v111 : Nat) (v113 : Int) (R117 : (Int × xT_)) : c134_129a f x0 x2 v109 v111 v113 R117 = ((cq_s 3 (v111) (v113) (R117.1) R117.2).bind fun T124 => ((cq_gr 9 11 14 (x0) T124).bind fun v128 => ((cq_gi 9 6 14 (x0) T124).bind fun v130 => ((cq_gr 9 12 14 (x0) T124).bind fun v132 => ((cq_is 5 4 (v109) T124).bind fun _ => ((c73 f (v109) (v132) (x2) (1) T124).bind fun R134 => c134_129b f x0 v128 v130 R134)))))) := rfl
section
variable {f u x i l st b c e fa fn p lo1 la1 : Nat} {S : Nat → Nat × Nat × Nat} {G : xG_} {m : Nat × Nat} {td v : Int} {r : Nat → Int → Int → xT_ → Option (xT_)} {cap : Nat}
theorem st_134r (hs : cSs S) (hp : cPs G) (h3 : G 83 3 = (u : Int)) (h4 : G 83 4 = (fa : Int)) (hu : 278 < u) (us : S u = (1, 6, 20)) (us3 : S (u + 3) = (2, 3, 8)) (w10 : G u 10 = ((u + 3 : Nat) : Int)) (hl : l < 8) (hpr : G (u + 3) l = (p : Int)) (fs : S fa = (2, 10, fn)) (hpn : p < fn) (hx : G fa p = (x : Int)) (h6 : G 83 6 = (st : Int)) (xs : S x = (1, 5, 4)) (hx0 : 92 < x) (e1 : c73 f x 91 (c : Int) 0 (S, G, m) = some ((lo1 : Int), (S, G, m))) : c134_129 f 83 (l : Int) (c : Int) (S, G, m) = c134_129a f 83 (c : Int) x 88 (st : Int) ((lo1 : Int), (S, G, m)) := by
  rw [c134_129a_e]
  simp (disch := omega) only [cq_gi, cq_gr, cq_a, cq_s, cq_p, cq_pr, cq_is, cq_ar, cq_ab, cq_ln, xq_nz, Option.bind_some, xup2_n, xup2_s, Int.toNat_natCast, Int.reduceToNat, if_pos, if_neg, true_and, and_true, and_self, eq_self, if_true, reduceIte, not_true_eq_false, not_false_eq_true, or_true, true_or, s83 hs, p83_9 hp, p83_12 hp, h3, h4, us, us3, w10, hpr, fs, hx, h6, xs, e1]
theorem st_134s (hs : cSs S) (hp : cPs G) (h6 : G 83 6 = (st : Int)) (hst : st < 8) (xs : S x = (1, 5, 4)) (e2 : c73 f x 91 (c : Int) 1 (S, xup2 G 88 st (lo1 : Int), m) = some ((la1 : Int), (S, xup2 G 88 st (lo1 : Int), m))) : c134_129a f 83 (c : Int) x 88 (st : Int) ((lo1 : Int), (S, G, m)) = some (S, xup2 (xup2 (xup2 G 88 st (lo1 : Int)) 90 st (la1 : Int)) 89 st (lo1 : Int), m) := by
  rw [c134_129b_e]
  unfold c134_129b
  simp (disch := omega) only [cq_gi, cq_gr, cq_a, cq_s, cq_p, cq_pr, cq_is, cq_ar, cq_ab, cq_ln, xq_nz, Option.bind_some, xup2_n, xup2_s, Int.toNat_natCast, Int.reduceToNat, if_pos, if_neg, true_and, and_true, and_self, eq_self, if_true, reduceIte, not_true_eq_false, not_false_eq_true, or_true, true_or, s83 hs, s88 hs, s89 hs, s90 hs, p83_9 hp, p83_10 hp, p83_11 hp, p83_12 hp, h6, xs, e2]
theorem st_134z {nw : Nat} (hs : cSs S) (h3 : G 83 3 = (u : Int)) (hu : 278 < u) (us : S u = (1, 6, 20)) (us4 : S (u + 4) = (2, 3, 8)) (w11 : G u 11 = ((u + 4 : Nat) : Int)) (hl : l < 8) (h4 : G (u + 4) l = (nw : Int)) : c134_2b r f 83 (l : Int) (nw : Int) (S, G, m) = c134_129 f 83 (l : Int) (nw : Int) (S, G, m) := by
  unfold c134_2b
  simp (disch := omega) only [cq_gi, cq_gr, cq_a, cq_s, cq_p, cq_pr, cq_is, cq_ar, cq_ab, cq_ln, xq_nz, Option.bind_some, xup2_n, xup2_s, Int.toNat_natCast, Int.reduceToNat, if_pos, if_neg, true_and, and_true, and_self, eq_self, if_true, reduceIte, not_true_eq_false, not_false_eq_true, or_true, true_or, s83 hs, h3, us, us4, w11, h4]
theorem st_134a {nw : Nat} (hs : cSs S) (h3 : G 83 3 = (u : Int)) (hu : 278 < u) (us : S u = (1, 6, 20)) (us4 : S (u + 4) = (2, 3, 8)) (us5 : S (u + 5) = (2, 3, 32)) (w11 : G u 11 = ((u + 4 : Nat) : Int)) (w12 : G u 12 = ((u + 5 : Nat) : Int)) (hl : l < 8) (h4 : G (u + 4) l = (nw : Int)) (hc : c < nw) (ee : xwr ((xwr (4 * (l : Int))) + (c : Int)) = (e : Int)) (he : e < 32) (hk : G (u + 5) e = 3) : c134_2b r f 83 (l : Int) (c : Int) (S, G, m) = c134_129 f 83 (l : Int) (c : Int) (S, G, m) := by
  unfold c134_2b c134_67 c134_68
  simp (disch := omega) only [cq_gi, cq_gr, cq_a, cq_s, cq_p, cq_pr, cq_is, cq_ar, cq_ab, cq_ln, xq_nz, Option.bind_some, xup2_n, xup2_s, Int.toNat_natCast, Int.reduceToNat, if_pos, if_neg, true_and, and_true, and_self, eq_self, if_true, reduceIte, not_true_eq_false, not_false_eq_true, or_true, true_or, s83 hs, h3, us, us4, us5, w11, w12, h4, ee, hk]
theorem st_134n {nw : Nat} (hs : cSs S) (hp : cPs G) (h3 : G 83 3 = (u : Int)) (hu : 278 < u) (us : S u = (1, 6, 20)) (us4 : S (u + 4) = (2, 3, 8)) (us5 : S (u + 5) = (2, 3, 32)) (us6 : S (u + 6) = (2, 4, 32)) (w11 : G u 11 = ((u + 4 : Nat) : Int)) (w12 : G u 12 = ((u + 5 : Nat) : Int)) (w13 : G u 13 = ((u + 6 : Nat) : Int)) (hl : l < 8) (h4 : G (u + 4) l = (nw : Int)) (hc : c < nw) (hc4 : c < 4) (ee : xwr ((xwr (4 * (l : Int))) + (c : Int)) = (e : Int)) (he : e < 32) (hk : G (u + 5) e = 4) (ht : G (u + 6) e = td) (ec : xwr ((c : Int) + 1) = ((c + 1 : Nat) : Int)) : c134_2b r f 83 (l : Int) (c : Int) (S, G, m) = r 83 (l : Int) ((c + 1 : Nat) : Int) (S, xup2 G 91 c td, m) := by
  unfold c134_2b c134_67 c134_68 c134_122
  simp (disch := omega) only [cq_gi, cq_gr, cq_a, cq_s, cq_p, cq_pr, cq_is, cq_ar, cq_ab, cq_ln, xq_nz, Option.bind_some, xup2_n, xup2_s, Int.toNat_natCast, Int.reduceToNat, if_pos, if_neg, true_and, and_true, and_self, eq_self, if_true, reduceIte, not_true_eq_false, not_false_eq_true, or_true, true_or, s83 hs, s91 hs, p83_12 hp, h3, us, us4, us5, us6, w11, w12, w13, h4, ee, hk, ht, ec]
theorem st_134v {nw vn : Nat} (hs : cSs S) (hp : cPs G) (h3 : G 83 3 = (u : Int)) (h6 : G 83 6 = (st : Int)) (hst : st < 9) (hb : G 87 st = (b : Int)) (hb8 : b < 2 ^ 8) (hu : 278 < u) (us : S u = (1, 6, 20)) (us4 : S (u + 4) = (2, 3, 8)) (us5 : S (u + 5) = (2, 3, 32)) (us6 : S (u + 6) = (2, 4, 32)) (w11 : G u 11 = ((u + 4 : Nat) : Int)) (w12 : G u 12 = ((u + 5 : Nat) : Int)) (w13 : G u 13 = ((u + 6 : Nat) : Int)) (hl : l < 8) (h4 : G (u + 4) l = (nw : Int)) (hc : c < nw) (hc4 : c < 4) (ee : xwr ((xwr (4 * (l : Int))) + (c : Int)) = (e : Int)) (he : e < 32) (hk : G (u + 5) e = 2) (ht : G (u + 6) e = (vn : Int)) (hv : vn < 8) (ev : xwr (vn : Int) = (vn : Int)) (hm : G 84 vn = v) (ec : xwr ((c : Int) + 1) = ((c + 1 : Nat) : Int)) : c134_2b r f 83 (l : Int) (c : Int) (S, G, m) = if b.testBit vn = true then r 83 (l : Int) ((c + 1 : Nat) : Int) (S, xup2 G 91 c v, m) else c134_129 f 83 (l : Int) (c : Int) (S, G, m) := by
  by_cases q : b.testBit vn = true
  · rw [if_pos q]
    have eb : ¬ xand (xshr (b : Int) (vn : Int)) 1 = 0 := fun y => by
      rw [(xbit0 (by omega) (by omega)).mp y] at q; cases q
    unfold c134_2b c134_67 c134_68 c134_122
    simp (disch := omega) only [cq_gi, cq_gr, cq_a, cq_s, cq_p, cq_pr, cq_is, cq_ar, cq_ab, cq_ln, xq_nz, Option.bind_some, xup2_n, xup2_s, Int.toNat_natCast, Int.reduceToNat, if_pos, if_neg, true_and, and_true, and_self, eq_self, if_true, reduceIte, not_true_eq_false, not_false_eq_true, or_true, true_or, s83 hs, s84 hs, s87 hs, s91 hs, p83_0 hp, p83_8 hp, p83_12 hp, h3, h6, hb, us, us4, us5, us6, w11, w12, w13, h4, ee, hk, ht, ev, eb, hm, ec]
  · rw [if_neg q]
    have eb : xand (xshr (b : Int) (vn : Int)) 1 = 0 := (xbit0 (by omega) (by omega)).mpr (by cases hq : b.testBit vn; rfl; exact absurd hq q)
    unfold c134_2b c134_68
    simp (disch := omega) only [cq_gi, cq_gr, cq_a, cq_s, cq_p, cq_pr, cq_is, cq_ar, cq_ab, cq_ln, xq_nz, Option.bind_some, xup2_n, xup2_s, Int.toNat_natCast, Int.reduceToNat, if_pos, if_neg, true_and, and_true, and_self, eq_self, if_true, reduceIte, not_true_eq_false, not_false_eq_true, or_true, true_or, s83 hs, s87 hs, p83_8 hp, h3, h6, hb, us, us4, us5, us6, w11, w12, w13, h4, ee, hk, ht, ev, eb]
end
end
section
/-! THE CLASS: findRange() whole -/
section
variable {f u x l st b nv W cap fa fn p : Nat} {S : Nat → Nat × Nat × Nat} {G G' : xG_} {m : Nat × Nat} {K T : pCd} {R : List pRw} {lo hi : Int} {vl : Nat → Int}
/-- where a LITERAL's rows are found -/
def cFs (S : Nat → Nat × Nat × Nat) (G : xG_) (u l fa fn p x : Nat) : Prop := G 83 4 = (fa : Int) ∧ S fa = (2, 10, fn) ∧ p < fn ∧ G fa p = (x : Int) ∧ G (u + 3) l = (p : Int) ∧ 92 < fa
theorem cFs.ge (h : cFs S G u l fa fn p x) (hu : 278 < u) (h4 : G' 83 4 = G 83 4) (hf : ∀ a j, 92 < a → G' a j = G a j) : cFs S G' u l fa fn p x := by
  obtain ⟨h1, h2, h3, h4', h5, h6⟩ := h
  exact ⟨by rw [h4]; exact h1, h2, h3, by rw [hf _ _ h6]; exact h4', by rw [hf _ _ (by omega)]; exact h5, h6⟩
/-- the values of the first columns that are known -/
def isKl (T : pCd) (b : Nat) (vl : Nat → Int) (kl : List Int) : Prop := kl.length ≤ T.length ∧ ∀ c, c < kl.length → ((T.getD c (0, 0)).1 = 3 ∧ kl.getD c 0 = (T.getD c (0, 0)).2) ∨ ((T.getD c (0, 0)).1 = 1 ∧ b.testBit (T.getD c (0, 0)).2.toNat = true ∧ kl.getD c 0 = vl (T.getD c (0, 0)).2.toNat)
theorem isKl.add {kl : List Int} {z : Int} (h : isKl T b vl kl) (hl : kl.length < T.length) (hz : ((T.getD kl.length (0, 0)).1 = 3 ∧ z = (T.getD kl.length (0, 0)).2) ∨ ((T.getD kl.length (0, 0)).1 = 1 ∧ b.testBit (T.getD kl.length (0, 0)).2.toNat = true ∧ z = vl (T.getD kl.length (0, 0)).2.toNat)) : isKl T b vl (kl ++ [z]) := by
  refine ⟨by rw [len1]; omega, fun c hc => ?_⟩
  rw [len1] at hc
  rw [getD_1]
  by_cases q : c = kl.length
  · rw [if_pos q, q]; exact hz
  · rw [if_neg q]; exact h.2 c (by omega)
theorem k_134l (h0 : ∀ y ∈ T, wT1 nv y) (hnv : nv ≤ 8) : ∀ (d c fu : Nat) (G : xG_) (kl : List Int), c + d = T.length → kl.length = c → d < fu → cWy S G u K → cTl1 G u l T → G 83 6 = (st : Int) → st < 8 → G 87 st = (b : Int) → b < 2 ^ 8 → (∀ k, b.testBit k = true → G 84 k = vl k) → isKl T b vl kl → (∀ k, k < kl.length → G 91 k = kl.getD k 0) → ∃ G' kl', c134_2 f fu 83 (l : Int) (c : Int) (S, G, m) = c134_129 f 83 (l : Int) (kl'.length : Int) (S, G', m) ∧ (∀ a k, a ≠ 91 → G' a k = G a k) ∧ isKl T b vl kl' ∧ ∀ k, k < kl'.length → G' 91 k = kl'.getD k 0 := by
  intro d
  induction d with
  | zero =>
    intro c fu G kl e1 e2 e3 hW hT h6 hst hb hb8 hv hk hg
    obtain ⟨fu, rfl⟩ : ∃ t, fu = t + 1 := ⟨fu - 1, by omega⟩
    obtain ⟨a1, a2, a3, a4, a5, a6, a7, a8⟩ := hW
    have hc : c = T.length := by omega
    refine ⟨G, kl, ?_, fun _ _ _ => rfl, hk, hg⟩
    rw [e2, hc]
    exact st_134z (r := c134_2 f fu) a1 a3 a4 a5.1 a5.2.2.2.2.1 a6.2.2.2.1 hT.1 hT.2.1
  | succ d ih =>
    intro c fu G kl e1 e2 e3 hW hT h6 hst hb hb8 hv hk hg
    obtain ⟨fu, rfl⟩ : ∃ t, fu = t + 1 := ⟨fu - 1, by omega⟩
    obtain ⟨a1, a2, a3, a4, a5, a6, a7, a8⟩ := id hW
    obtain ⟨t1, t2, t3, t4⟩ := id hT
    have hc : c < T.length := by omega
    have hm : T.getD c (0, 0) ∈ T := by rw [getD_e hc]; exact List.getElem_mem hc
    have hw1 := h0 _ hm
    have htm := t4 c hc
    have e4 : xwr ((xwr (4 * (l : Int))) + (c : Int)) = ((4 * l + c : Nat) : Int) := by rw [xwr_g (4 * (l : Int)) (by omega) (by omega), xwr_g _ (by omega) (by omega)]; omega
    have ec : xwr ((c : Int) + 1) = ((c + 1 : Nat) : Int) := by rw [xwr_g _ (by omega) (by omega)]; omega
    have next : ∀ z : Int, isKl T b vl (kl ++ [z]) → ∃ G' kl', c134_2 f fu 83 (l : Int) ((c + 1 : Nat) : Int) (S, xup2 G 91 c z, m) = c134_129 f 83 (l : Int) (kl'.length : Int) (S, G', m) ∧ (∀ a k, a ≠ 91 → G' a k = G a k) ∧ isKl T b vl kl' ∧ ∀ k, k < kl'.length → G' 91 k = kl'.getD k 0 := fun z hz => by
      have zz : ∀ a k, a ≠ 91 → xup2 G 91 c z a k = G a k := fun a k y => xup2_n (by omega)
      obtain ⟨G2, kl2, g1, g2, g3, g4⟩ := ih (c + 1) fu (xup2 G 91 c z) (kl ++ [z]) (by omega) (by rw [len1]; omega) (by omega) (hW.ge (fun a k _ _ _ _ _ y _ _ => zz a k y)) (hT.ge (fun a j _ _ => zz _ _ (by omega))) (by rw [zz _ _ (by omega)]; exact h6) hst (by rw [zz _ _ (by omega)]; exact hb) hb8 (fun k hk => by rw [zz _ _ (by omega)]; exact hv k hk) hz (fun k hk => by
        rw [len1] at hk
        rw [getD_1]
        by_cases q : k = kl.length
        · rw [if_pos q, q, e2, xup2_s]
        · rw [if_neg q, xup2_n (by omega)]; exact hg k (by omega))
      exact ⟨G2, kl2, g1, fun a k y => by rw [g2 a k y, zz a k y], g3, g4⟩
    rcases htm with ⟨m1, m2, m3⟩ | ⟨m1, m2⟩ | ⟨m1, m2, m3⟩
    · have hvv : 0 ≤ (T.getD c (0, 0)).2 ∧ (T.getD c (0, 0)).2 < nv := by
        rcases hw1 with q1 | q1 | q1
        · exact q1.2
        · omega
        · omega
      obtain ⟨vn, hvn⟩ : ∃ vn : Nat, (T.getD c (0, 0)).2 = (vn : Int) := ⟨(T.getD c (0, 0)).2.toNat, by omega⟩
      rw [hvn] at m3
      have st1 : c134_2 f (fu + 1) 83 (l : Int) (c : Int) (S, G, m) = _ := st_134v (r := c134_2 f fu) a1 a2 a3 h6 (by omega) hb hb8 a4 a5.1 a5.2.2.2.2.1 a5.2.2.2.2.2.1 a5.2.2.2.2.2.2.1 a6.2.2.2.1 a6.2.2.2.2.1 a6.2.2.2.2.2.1 t1 t2 hc (by omega) e4 (by omega) m2 m3 (by omega : vn < 8) (xwr_g _ (by omega) (by omega)) rfl ec
      by_cases q : b.testBit vn = true
      · rw [if_pos q] at st1
        obtain ⟨G2, kl2, g1, g2, g3, g4⟩ := next (G 84 vn) (hk.add (by omega) (by rw [e2, hvn, Int.toNat_natCast]; exact .inr ⟨m1, q, hv vn q⟩))
        exact ⟨G2, kl2, st1.trans g1, g2, g3, g4⟩
      · rw [if_neg q, ← e2] at st1
        rw [← e2]
        exact ⟨G, kl, st1, fun _ _ _ => rfl, hk, hg⟩
    · have st1 : c134_2 f (fu + 1) 83 (l : Int) (c : Int) (S, G, m) = _ := st_134a (r := c134_2 f fu) a1 a3 a4 a5.1 a5.2.2.2.2.1 a5.2.2.2.2.2.1 a6.2.2.2.1 a6.2.2.2.2.1 t1 t2 hc e4 (by omega) m2
      rw [← e2] at st1 ⊢
      exact ⟨G, kl, st1, fun _ _ _ => rfl, hk, hg⟩
    · have st1 : c134_2 f (fu + 1) 83 (l : Int) (c : Int) (S, G, m) = _ := st_134n (r := c134_2 f fu) a1 a2 a3 a4 a5.1 a5.2.2.2.2.1 a5.2.2.2.2.2.1 a5.2.2.2.2.2.2.1 a6.2.2.2.1 a6.2.2.2.2.1 a6.2.2.2.2.2.1 t1 t2 hc (by omega) e4 (by omega) m2 m3 ec
      obtain ⟨G2, kl2, g1, g2, g3, g4⟩ := next (T.getD c (0, 0)).2 (hk.add (by omega) (by rw [e2]; exact .inl ⟨m1, rfl⟩))
      exact ⟨G2, kl2, st1.trans g1, g2, g3, g4⟩
/-- first and last of the rows that may fit -/
def isRn (R : List pRw) (T : pCd) (b : Nat) (vl : Nat → Int) (fi la : Nat) : Prop := fi ≤ R.length ∧ la ≤ R.length ∧ ∃ kl, isKl T b vl kl ∧ ∀ i, i < R.length → (R.getD i dRw).1.take kl.length = kl → fi ≤ i ∧ i < la
theorem k_134 (hf : 600 < f) (h : cLv S G u x l st b nv W cap K T R lo hi) (hF : cFs S G u l fa fn p x) (hs : R.Pairwise rwLt) (hv : ∀ k, b.testBit k = true → G 84 k = vl k) : ∃ G' fi la, c134 f 83 (l : Int) (S, G, m) = some (S, G', m) ∧ (∀ a j, a ≠ 88 → a ≠ 89 → a ≠ 90 → a ≠ 91 → G' a j = G a j) ∧ (∀ a j, j ≠ st → 88 ≤ a → a ≤ 90 → G' a j = G a j) ∧ G' 88 st = ((fi : Nat) : Int) ∧ G' 89 st = (fi : Int) ∧ G' 90 st = ((la : Nat) : Int) ∧ isRn R T b vl fi la := by
  obtain ⟨h1, h2, h3, h4, h5, h6, h7, h8, h9, h10, h11, h12, h13⟩ := h
  have hu := h1.2.2.2.1
  obtain ⟨G1, kl, e1, e2, e3, e4⟩ := k_134l (f := f) (m := m) (K := K) h6 h7 T.length 0 f G [] (by omega) rfl (by have := h2.2.2.1; omega) h1 h2 h8 h9 h10 h11 hv ⟨Nat.zero_le _, fun c hc => absurd hc (Nat.not_lt_zero c)⟩ (fun k hk => absurd hk (Nat.not_lt_zero k))
  have hW1 : cWy S G1 u K := h1.ge (fun a k _ _ _ _ _ y _ _ => e2 a k y)
  have hR1 : cRw S G1 x W cap R := h3.ge (fun _ _ _ => rfl) (fun j => e2 _ _ (by omega)) (fun j => e2 _ _ (by omega)) (fun j => e2 _ _ (by omega))
  have hkW : kl.length ≤ W := by have := e3.1; omega
  have h4T := h2.2.2.1
  have hK1 : cKl S G1 91 kl := ⟨⟨4, s91 h1.1, by have := e3.1; omega⟩, e4⟩
  obtain ⟨fi, f1, f2⟩ := k_73 (f := f) (m := m) (ab := 0) hf hR1 hs hkW hK1
  have hF1 : cFs S G1 u l fa fn p x := hF.ge hu (e2 _ _ (by omega)) (fun a j y => e2 _ _ (by omega))
  obtain ⟨q1, q2, q3, q4, q5, q6⟩ := hF1
  have t1 := st_134r (f := f) (m := m) h1.1 hW1.2.1 hW1.2.2.1 q1 hu h1.2.2.2.2.1.1 h1.2.2.2.2.1.2.2.2.1 hW1.2.2.2.2.2.1.2.2.1 h2.1 q5 q2 q3 q4 (by rw [e2 _ _ (by omega)]; exact h8) h3.1 h4 f1
  have z1 : ∀ a k, a ≠ 88 → xup2 G1 88 st (fi : Int) a k = G1 a k := fun a k y => xup2_n (by omega)
  have hR2 : cRw S (xup2 G1 88 st (fi : Int)) x W cap R := hR1.ge (fun _ _ _ => rfl) (fun j => z1 _ _ (by omega)) (fun j => z1 _ _ (by omega)) (fun j => z1 _ _ (by omega))
  have hK2 : cKl S (xup2 G1 88 st (fi : Int)) 91 kl := ⟨hK1.1, fun c hc => by rw [z1 _ _ (by omega)]; exact e4 c hc⟩
  obtain ⟨la, l1, l2⟩ := k_73 (f := f) (m := m) (ab := 1) hf hR2 hs hkW hK2
  have t2 := st_134s (f := f) (m := m) h1.1 hW1.2.1 (by rw [e2 _ _ (by omega)]; exact h8) h9 h3.1 l1
  refine ⟨_, fi, la, e1.trans (t1.trans t2), fun a j y1 y2 y3 y4 => by rw [xup2_n (by omega), xup2_n (by omega), xup2_n (by omega), e2 a j y4], fun a j y1 y2 y3 => by rw [xup2_n (by omega), xup2_n (by omega), xup2_n (by omega), e2 a j (by omega)], by rw [xup2_n (by omega), xup2_n (by omega), xup2_s], xup2_s _ _ _ _, by rw [xup2_n (by omega), xup2_s], f2.1, l2.1, kl, e3, fun i hi he => ?_⟩
  refine ⟨Nat.le_of_not_lt (fun y => ?_), Nat.lt_of_not_le (fun y => ?_)⟩
  · have := f2.2.1 i y
    rw [he, vCmp_self] at this
    omega
  · have := l2.2.2 i y hi
    rw [he, vCmp_self] at this
    omega
/-- a row that fits lies there -/
theorem isKl.fit {kl : List Int} {r : pRw} {b' : Nat} {vl' : Nat → Int} (h : isKl T b vl kl) (hT : ∀ y ∈ T, wT1 nv y) (hl : r.1.length = T.length) (hf : fitR T lo hi b vl r = some (b', vl')) : r.1.take kl.length = kl := by
  unfold fitR at hf
  split at hf
  · obtain ⟨m1, m2, m3, m4⟩ := mtc_ok T r.1 b vl b' vl' hT (by omega) hf
    refine List.ext_getElem (by rw [List.length_take]; have := h.1; omega) (fun c c1 c2 => ?_)
    rw [List.getElem_take]
    have hk := h.2 c c2
    have hs := m3 c (by have := h.1; omega)
    rw [getD_e c2] at hk
    have hcr : c < r.1.length := by have := h.1; omega
    rw [getD_e hcr] at hs
    rcases hk with ⟨q1, q2⟩ | ⟨q1, q2, q3⟩
    · rw [q2, hs.2 q1]
    · rw [q3, ← m2 _ q2, hs.1 q1]
  · cases hf
end
end
section
/-! THE CLASS: isRepeated() -/
section
variable {f u x i j c l st e nw cap fi : Nat} {S : Nat → Nat × Nat × Nat} {G : xG_} {m : Nat × Nat} {kd a1v a2v rk lo hi an : Int} {r59 : Nat → Int → Nat → Int → Int → Int → xT_ → Option (Int × xT_)} {r120 : Nat → Int → Nat → Int → Int → Int → Int → Int → xT_ → Option (Int × xT_)} {r6 : Nat → Int → Nat → Int → Int → Int → xT_ → Option (Int × xT_)} {jj : Int}
theorem st_137s0 (hj : xwr (jj + (-1)) = jj - 1) : c137_120b r59 r120 f 83 (l : Int) x (i : Int) an jj 0 (c : Int) (S, G, m) = r59 83 (l : Int) x (i : Int) an (jj - 1) (S, G, m) := by
  unfold c137_120b c137_189
  simp (disch := omega) only [cq_gi, cq_gr, cq_a, cq_s, cq_p, cq_pr, cq_is, cq_ar, cq_ab, cq_ln, xq_nz, Option.bind_some, xup2_n, xup2_s, Int.toNat_natCast, Int.reduceToNat, if_pos, if_neg, true_and, and_true, and_self, eq_self, if_true, reduceIte, not_true_eq_false, not_false_eq_true, or_true, true_or, hj]
theorem st_137z (hs : cSs S) (h3 : G 83 3 = (u : Int)) (hu : 278 < u) (us : S u = (1, 6, 20)) (us4 : S (u + 4) = (2, 3, 8)) (w11 : G u 11 = ((u + 4 : Nat) : Int)) (hl : l < 8) (h4 : G (u + 4) l = (nw : Int)) : c137_120b r59 r120 f 83 (l : Int) x (i : Int) an jj 1 (nw : Int) (S, G, m) = some (1, (S, G, m)) := by
  unfold c137_120b c137_189
  simp (disch := omega) only [cq_gi, cq_gr, cq_a, cq_s, cq_p, cq_pr, cq_is, cq_ar, cq_ab, cq_ln, xq_nz, Option.bind_some, xup2_n, xup2_s, Int.toNat_natCast, Int.reduceToNat, if_pos, if_neg, true_and, and_true, and_self, eq_self, if_true, reduceIte, not_true_eq_false, not_false_eq_true, or_true, true_or, s83 hs, h3, us, us4, w11, h4, Int.reduceEq]
theorem st_137c (hs : cSs S) (h3 : G 83 3 = (u : Int)) (hu : 278 < u) (us : S u = (1, 6, 20)) (us4 : S (u + 4) = (2, 3, 8)) (us5 : S (u + 5) = (2, 3, 32)) (w11 : G u 11 = ((u + 4 : Nat) : Int)) (w12 : G u 12 = ((u + 5 : Nat) : Int)) (hl : l < 8) (h4 : G (u + 4) l = (nw : Int)) (hc : c < nw) (ee : xwr ((xwr (4 * (l : Int))) + (c : Int)) = (e : Int)) (he : e < 32) (hk : G (u + 5) e = kd) (xs : S x = (1, 5, 4)) (e1 : c70 f x (i : Int) (c : Int) (S, G, m) = some (a1v, (S, G, m))) (e2 : c70 f x jj (c : Int) (S, G, m) = some (a2v, (S, G, m))) (ec : xwr ((c : Int) + 1) = ((c + 1 : Nat) : Int)) : c137_120b r59 r120 f 83 (l : Int) x (i : Int) an jj 1 (c : Int) (S, G, m) = r120 83 (l : Int) x (i : Int) an jj (if kd = 3 ∨ a1v = a2v then 1 else 0) ((c + 1 : Nat) : Int) (S, G, m) := by
  by_cases q1 : kd = 3
  · rw [if_pos (.inl q1)]
    unfold c137_120b c137_176 c137_181
    simp (disch := omega) only [cq_gi, cq_gr, cq_a, cq_s, cq_p, cq_pr, cq_is, cq_ar, cq_ab, cq_ln, xq_nz, Option.bind_some, xup2_n, xup2_s, Int.toNat_natCast, Int.reduceToNat, if_pos, if_neg, true_and, and_true, and_self, eq_self, if_true, reduceIte, not_true_eq_false, not_false_eq_true, or_true, true_or, s83 hs, h3, us, us4, us5, w11, w12, h4, ee, hk, q1, ec, Int.reduceEq]
  · by_cases q2 : a1v = a2v
    · rw [if_pos (.inr q2)]
      unfold c137_120b c137_176 c137_181
      simp (disch := omega) only [cq_gi, cq_gr, cq_a, cq_s, cq_p, cq_pr, cq_is, cq_ar, cq_ab, cq_ln, xq_nz, Option.bind_some, xup2_n, xup2_s, Int.toNat_natCast, Int.reduceToNat, if_pos, if_neg, true_and, and_true, and_self, eq_self, if_true, reduceIte, not_true_eq_false, not_false_eq_true, or_true, true_or, s83 hs, h3, us, us4, us5, w11, w12, h4, ee, hk, q1, xs, e1, e2, q2, ec, Int.reduceEq]
    · rw [if_neg (fun y => y.elim q1 q2)]
      unfold c137_120b c137_181
      simp (disch := omega) only [cq_gi, cq_gr, cq_a, cq_s, cq_p, cq_pr, cq_is, cq_ar, cq_ab, cq_ln, xq_nz, Option.bind_some, xup2_n, xup2_s, Int.toNat_natCast, Int.reduceToNat, if_pos, if_neg, true_and, and_true, and_self, eq_self, if_true, reduceIte, not_true_eq_false, not_false_eq_true, or_true, true_or, s83 hs, h3, us, us4, us5, w11, w12, h4, ee, hk, q1, xs, e1, e2, q2, ec, Int.reduceEq]
theorem st_137o0 : c137_59b r59 f 83 (l : Int) x (i : Int) 0 jj (S, G, m) = some (0, (S, G, m)) := by
  unfold c137_59b c137_202
  simp (disch := omega) only [cq_gi, cq_gr, cq_a, cq_s, cq_p, cq_pr, cq_is, cq_ar, cq_ab, cq_ln, xq_nz, Option.bind_some, xup2_n, xup2_s, Int.toNat_natCast, Int.reduceToNat, if_pos, if_neg, true_and, and_true, and_self, eq_self, if_true, reduceIte, not_true_eq_false, not_false_eq_true, or_true, true_or, s83]
theorem st_137oe (hs : cSs S) (hp : cPs G) (h6 : G 83 6 = (st : Int)) (hst : st < 8) (h88 : G 88 st = (fi : Int)) (ha : an ≠ 0) (hj : jj < (fi : Int)) : c137_59b r59 f 83 (l : Int) x (i : Int) an jj (S, G, m) = some (0, (S, G, m)) := by
  unfold c137_59b c137_202
  simp (disch := omega) only [cq_gi, cq_gr, cq_a, cq_s, cq_p, cq_pr, cq_is, cq_ar, cq_ab, cq_ln, xq_nz, Option.bind_some, xup2_n, xup2_s, Int.toNat_natCast, Int.reduceToNat, if_pos, if_neg, true_and, and_true, and_self, eq_self, if_true, reduceIte, not_true_eq_false, not_false_eq_true, or_true, true_or, s83 hs, s88 hs, p83_9 hp, h6, h88, ha, hj]
theorem st_137o (hs : cSs S) (hp : cPs G) (h6 : G 83 6 = (st : Int)) (hst : st < 8) (h88 : G 88 st = (fi : Int)) (ha : an ≠ 0) (hj : fi ≤ j) (xs : S x = (1, 5, 4)) (ds : S (x + 2) = (2, 3, cap)) (hjc : j < cap) (w3 : G x 3 = ((x + 2 : Nat) : Int)) (hr : G (x + 2) j = rk) (hl : l < 8) (h85 : G 85 l = lo) (h86 : G 86 l = hi) : c137_59b r59 f 83 (l : Int) x (i : Int) an (j : Int) (S, G, m) = c137_120 r59 f f 83 (l : Int) x (i : Int) an (j : Int) (if lo ≤ rk ∧ rk ≤ hi then 1 else 0) 0 (S, G, m) := by
  by_cases q1 : lo ≤ rk
  · by_cases q2 : rk ≤ hi
    · rw [if_pos ⟨q1, q2⟩]
      unfold c137_59b c137_115
      simp (disch := omega) only [cq_gi, cq_gr, cq_a, cq_s, cq_p, cq_pr, cq_is, cq_ar, cq_ab, cq_ln, xq_nz, Option.bind_some, xup2_n, xup2_s, Int.toNat_natCast, Int.reduceToNat, if_pos, if_neg, true_and, and_true, and_self, eq_self, if_true, reduceIte, not_true_eq_false, not_false_eq_true, or_true, true_or, s83 hs, s85 hs, s86 hs, s88 hs, p83_1 hp, p83_2 hp, p83_9 hp, h6, h88, ha, xs, ds, w3, hr, h85, h86]
    · rw [if_neg (fun y => q2 y.2)]
      unfold c137_59b c137_114 c137_115
      simp (disch := omega) only [cq_gi, cq_gr, cq_a, cq_s, cq_p, cq_pr, cq_is, cq_ar, cq_ab, cq_ln, xq_nz, Option.bind_some, xup2_n, xup2_s, Int.toNat_natCast, Int.reduceToNat, if_pos, if_neg, true_and, and_true, and_self, eq_self, if_true, reduceIte, not_true_eq_false, not_false_eq_true, or_true, true_or, s83 hs, s85 hs, s86 hs, s88 hs, p83_1 hp, p83_2 hp, p83_9 hp, h6, h88, ha, xs, ds, w3, hr, h85, h86]
  · rw [if_neg (fun y => q1 y.1)]
    unfold c137_59b c137_114 c137_115
    simp (disch := omega) only [cq_gi, cq_gr, cq_a, cq_s, cq_p, cq_pr, cq_is, cq_ar, cq_ab, cq_ln, xq_nz, Option.bind_some, xup2_n, xup2_s, Int.toNat_natCast, Int.reduceToNat, if_pos, if_neg, true_and, and_true, and_self, eq_self, if_true, reduceIte, not_true_eq_false, not_false_eq_true, or_true, true_or, s83 hs, s85 hs, s86 hs, s88 hs, p83_1 hp, p83_2 hp, p83_9 hp, h6, h88, ha, xs, ds, w3, hr, h85, h86]
theorem st_137f {jm : Int} (hs : cSs S) (h3 : G 83 3 = (u : Int)) (hu : 278 < u) (us : S u = (1, 6, 20)) (us4 : S (u + 4) = (2, 3, 8)) (w11 : G u 11 = ((u + 4 : Nat) : Int)) (hl : l < 8) (h4 : G (u + 4) l = (nw : Int)) (ej : xwr ((i : Int) - 1) = jm) : c137_6b r6 f 83 (l : Int) x (i : Int) an (nw : Int) (S, G, m) = c137_59 f f 83 (l : Int) x (i : Int) an jm (S, G, m) := by
  unfold c137_6b
  simp (disch := omega) only [cq_gi, cq_gr, cq_a, cq_s, cq_p, cq_pr, cq_is, cq_ar, cq_ab, cq_ln, xq_nz, Option.bind_some, xup2_n, xup2_s, Int.toNat_natCast, Int.reduceToNat, if_pos, if_neg, true_and, and_true, and_self, eq_self, if_true, reduceIte, not_true_eq_false, not_false_eq_true, or_true, true_or, s83 hs, h3, us, us4, w11, h4, ej]
theorem st_137g (hs : cSs S) (h3 : G 83 3 = (u : Int)) (hu : 278 < u) (us : S u = (1, 6, 20)) (us4 : S (u + 4) = (2, 3, 8)) (us5 : S (u + 5) = (2, 3, 32)) (w11 : G u 11 = ((u + 4 : Nat) : Int)) (w12 : G u 12 = ((u + 5 : Nat) : Int)) (hl : l < 8) (h4 : G (u + 4) l = (nw : Int)) (hc : c < nw) (ee : xwr ((xwr (4 * (l : Int))) + (c : Int)) = (e : Int)) (he : e < 32) (hk : G (u + 5) e = kd) (ec : xwr ((c : Int) + 1) = ((c + 1 : Nat) : Int)) : c137_6b r6 f 83 (l : Int) x (i : Int) an (c : Int) (S, G, m) = r6 83 (l : Int) x (i : Int) (xor_ an (if kd = 3 then 1 else 0)) ((c + 1 : Nat) : Int) (S, G, m) := by
  by_cases q : kd = 3
  · rw [if_pos q]
    unfold c137_6b c137_45
    simp (disch := omega) only [cq_gi, cq_gr, cq_a, cq_s, cq_p, cq_pr, cq_is, cq_ar, cq_ab, cq_ln, xq_nz, Option.bind_some, xup2_n, xup2_s, Int.toNat_natCast, Int.reduceToNat, if_pos, if_neg, true_and, and_true, and_self, eq_self, if_true, reduceIte, not_true_eq_false, not_false_eq_true, or_true, true_or, s83 hs, h3, us, us4, us5, w11, w12, h4, ee, hk, q, ec]
  · rw [if_neg q]
    unfold c137_6b c137_45
    simp (disch := omega) only [cq_gi, cq_gr, cq_a, cq_s, cq_p, cq_pr, cq_is, cq_ar, cq_ab, cq_ln, xq_nz, Option.bind_some, xup2_n, xup2_s, Int.toNat_natCast, Int.reduceToNat, if_pos, if_neg, true_and, and_true, and_self, eq_self, if_true, reduceIte, not_true_eq_false, not_false_eq_true, or_true, true_or, s83 hs, h3, us, us4, us5, w11, w12, h4, ee, hk, q, ec]
end
end
section
/-! THE CLASS: isRepeated() whole -/
/-- two rows are the same but for what stands for _ -/
def sameT (T : pCd) (xs ys : List Int) : Prop := ∀ c, c < T.length → (T.getD c (0, 0)).1 = 2 ∨ xs.getD c 0 = ys.getD c 0
/-- an earlier row makes the same -/
def isRp (T : pCd) (lo hi : Int) (R : List pRw) (i : Nat) : Prop := (∃ c, c < T.length ∧ (T.getD c (0, 0)).1 = 2) ∧ ∃ j, j < i ∧ (lo ≤ (R.getD j dRw).2 ∧ (R.getD j dRw).2 ≤ hi) ∧ sameT T (R.getD i dRw).1 (R.getD j dRw).1
section
variable {f u x l st b nv W cap fi i : Nat} {S : Nat → Nat × Nat × Nat} {G : xG_} {m : Nat × Nat} {K T : pCd} {R : List pRw} {lo hi an : Int} {r59 : Nat → Int → Nat → Int → Int → Int → xT_ → Option (Int × xT_)}
theorem cTm_any {k v : Int} {y : Int × Int} (h : cTm k v y) : k = 3 ↔ y.1 = 2 := by
  unfold cTm at h
  constructor
  · intro hk
    rcases h with ⟨a, b, _⟩ | ⟨a, b⟩ | ⟨a, b, _⟩
    · omega
    · exact a
    · omega
  · intro hy
    rcases h with ⟨a, b, _⟩ | ⟨a, b⟩ | ⟨a, b, _⟩
    · omega
    · exact b
    · omega
theorem k_137c (h : cLv S G u x l st b nv W cap K T R lo hi) (hi2 : i < R.length) {j : Nat} (hj : j < R.length) : ∀ (d c fu : Nat), c + d = T.length → d < fu → (∀ k, k < c → (T.getD k (0, 0)).1 = 2 ∨ (R.getD i dRw).1.getD k 0 = (R.getD j dRw).1.getD k 0) → (sameT T (R.getD i dRw).1 (R.getD j dRw).1 → c137_120 r59 f fu 83 (l : Int) x (i : Int) an (j : Int) 1 (c : Int) (S, G, m) = some (1, (S, G, m))) ∧ (¬ sameT T (R.getD i dRw).1 (R.getD j dRw).1 → c137_120 r59 f fu 83 (l : Int) x (i : Int) an (j : Int) 1 (c : Int) (S, G, m) = r59 83 (l : Int) x (i : Int) an ((j : Int) - 1) (S, G, m)) := by
  obtain ⟨h1, h2, h3, h4, h5, h6, h7, h8, h9, h10, h11, h12, h13⟩ := h
  obtain ⟨a1, a2, a3, a4, a5, a6, a7, a8⟩ := id h1
  obtain ⟨t1, t2, t3, t4⟩ := id h2
  have hcap := h3.2.2.2.2.2.1
  have hlc := h3.2.2.2.2.1
  intro d
  induction d with
  | zero =>
    intro c fu e1 e2 e3
    obtain ⟨fu, rfl⟩ : ∃ t, fu = t + 1 := ⟨fu - 1, by omega⟩
    have hc : c = T.length := by omega
    subst hc
    exact ⟨fun _ => st_137z (r59 := r59) (r120 := c137_120 r59 f fu) a1 a3 a4 a5.1 a5.2.2.2.2.1 a6.2.2.2.1 t1 t2, fun y => absurd (fun k hk => e3 k hk) y⟩
  | succ d ih =>
    intro c fu e1 e2 e3
    obtain ⟨fu, rfl⟩ : ∃ t, fu = t + 1 := ⟨fu - 1, by omega⟩
    have hc : c < T.length := by omega
    have e4 : xwr ((xwr (4 * (l : Int))) + (c : Int)) = ((4 * l + c : Nat) : Int) := by rw [xwr_g (4 * (l : Int)) (by omega) (by omega), xwr_g _ (by omega) (by omega)]; omega
    have ec : xwr ((c : Int) + 1) = ((c + 1 : Nat) : Int) := by rw [xwr_g _ (by omega) (by omega)]; omega
    have st1 : c137_120 r59 f (fu + 1) 83 (l : Int) x (i : Int) an (j : Int) 1 (c : Int) (S, G, m) = _ := st_137c (r59 := r59) (r120 := c137_120 r59 f fu) (an := an) a1 a3 a4 a5.1 a5.2.2.2.2.1 a5.2.2.2.2.2.1 a6.2.2.2.1 a6.2.2.2.2.1 t1 t2 hc e4 (by omega) rfl h3.1 (k_70 (f := f) (m := m) h3 hi2 (by omega : c < W)) (k_70 (f := f) (m := m) h3 hj (by omega : c < W)) ec
    have ta := cTm_any (t4 c hc)
    by_cases q : G (u + 5) (4 * l + c) = 3 ∨ (R.getD i dRw).1.getD c 0 = (R.getD j dRw).1.getD c 0
    · rw [if_pos q] at st1
      have q' : (T.getD c (0, 0)).1 = 2 ∨ (R.getD i dRw).1.getD c 0 = (R.getD j dRw).1.getD c 0 := q.imp ta.mp id
      obtain ⟨i1, i2⟩ := ih (c + 1) fu (by omega) (by omega) (fun k hk => by
        by_cases ck : k = c
        · rw [ck]; exact q'
        · exact e3 k (by omega))
      exact ⟨fun y => st1.trans (i1 y), fun y => st1.trans (i2 y)⟩
    · rw [if_neg q] at st1
      obtain ⟨fu, rfl⟩ : ∃ t, fu = t + 1 := ⟨fu - 1, by omega⟩
      have ej : xwr ((j : Int) + (-1)) = (j : Int) - 1 := by rw [xwr_g _ (by omega) (by omega)]; omega
      have st2 : c137_120 r59 f (fu + 1) 83 (l : Int) x (i : Int) an (j : Int) 0 ((c + 1 : Nat) : Int) (S, G, m) = _ := st_137s0 (r59 := r59) (r120 := c137_120 r59 f fu) (an := an) (c := c + 1) ej
      refine ⟨fun y => ?_, fun _ => st1.trans st2⟩
      exfalso
      exact q ((y c hc).imp ta.mpr id)
theorem k_137j (hf : 10 < f) (h : cLv S G u x l st b nv W cap K T R lo hi) (hi2 : i < R.length) (h88 : G 88 st = (fi : Int)) (ha : an ≠ 0) : ∀ (d : Nat) (j1 fu : Nat), j1 = fi + d → j1 ≤ i → d < fu → ∃ v : Int, c137_59 f fu 83 (l : Int) x (i : Int) an ((j1 : Int) - 1) (S, G, m) = some (v, (S, G, m)) ∧ (v = 0 ∨ v = 1) ∧ (v = 1 ↔ ∃ j, fi ≤ j ∧ j < j1 ∧ (lo ≤ (R.getD j dRw).2 ∧ (R.getD j dRw).2 ≤ hi) ∧ sameT T (R.getD i dRw).1 (R.getD j dRw).1) := by
  have hb := h
  obtain ⟨h1, h2, h3, h4, h5, h6, h7, h8, h9, h10, h11, h12, h13⟩ := h
  obtain ⟨xs, _, ds, ⟨w0, w1, w2, w3⟩, hlc, hcap, hW, hR⟩ := id h3
  have t3 := h2.2.2.1
  intro d
  induction d with
  | zero =>
    intro j1 fu e1 e2 e3
    obtain ⟨fu, rfl⟩ : ∃ t, fu = t + 1 := ⟨fu - 1, by omega⟩
    exact ⟨0, st_137oe (r59 := c137_59 f fu) h1.1 h1.2.1 h8 h9 h88 ha (by omega), .inl rfl, fun y => by omega, fun ⟨j, y1, y2, _⟩ => by omega⟩
  | succ d ih =>
    intro j1 fu e1 e2 e3
    obtain ⟨fu, rfl⟩ : ∃ t, fu = t + 1 := ⟨fu - 1, by omega⟩
    obtain ⟨j, rfl⟩ : ∃ j, j1 = j + 1 := ⟨j1 - 1, by omega⟩
    have ej : (((j + 1 : Nat) : Int) - 1) = (j : Int) := by omega
    rw [ej]
    have hj : j < R.length := by omega
    have st1 : c137_59 f (fu + 1) 83 (l : Int) x (i : Int) an (j : Int) (S, G, m) = _ := st_137o (r59 := c137_59 f fu) (f := f) (i := i) (an := an) h1.1 h1.2.1 h8 h9 h88 ha (by omega : fi ≤ j) xs ds (by omega) w3 (hR j hj).2.2 h2.1 h12 h13
    obtain ⟨v, i1, i2, i3⟩ := ih j fu (by omega) (by omega) (by omega)
    have down : c137_59 f (fu + 1) 83 (l : Int) x (i : Int) an (j : Int) (S, G, m) = c137_59 f fu 83 (l : Int) x (i : Int) an ((j : Int) - 1) (S, G, m) → ¬ ((lo ≤ (R.getD j dRw).2 ∧ (R.getD j dRw).2 ≤ hi) ∧ sameT T (R.getD i dRw).1 (R.getD j dRw).1) → ∃ v : Int, c137_59 f (fu + 1) 83 (l : Int) x (i : Int) an (j : Int) (S, G, m) = some (v, (S, G, m)) ∧ (v = 0 ∨ v = 1) ∧ (v = 1 ↔ ∃ k, fi ≤ k ∧ k < j + 1 ∧ (lo ≤ (R.getD k dRw).2 ∧ (R.getD k dRw).2 ≤ hi) ∧ sameT T (R.getD i dRw).1 (R.getD k dRw).1) := fun e hn => by
      refine ⟨v, e.trans i1, i2, i3.trans ⟨fun ⟨k, y1, y2, y3⟩ => ⟨k, y1, by omega, y3⟩, fun ⟨k, y1, y2, y3⟩ => ?_⟩⟩
      by_cases ck : k = j
      · subst ck; exact absurd y3 hn
      · exact ⟨k, y1, by omega, y3⟩
    by_cases q : lo ≤ (R.getD j dRw).2 ∧ (R.getD j dRw).2 ≤ hi
    · rw [if_pos q] at st1
      obtain ⟨c1, c2⟩ := k_137c (f := f) (m := m) (r59 := c137_59 f fu) (an := an) hb hi2 hj T.length 0 f (by omega) (by omega) (fun k hk => absurd hk (Nat.not_lt_zero k))
      by_cases qs : sameT T (R.getD i dRw).1 (R.getD j dRw).1
      · exact ⟨1, st1.trans (c1 qs), .inr rfl, fun _ => ⟨j, by omega, by omega, q, qs⟩, fun _ => rfl⟩
      · exact down (st1.trans (c2 qs)) (fun y => qs y.2)
    · rw [if_neg q] at st1
      obtain ⟨fx, hfx⟩ : ∃ t, f = t + 1 := ⟨f - 1, by omega⟩
      have ejj : xwr ((j : Int) + (-1)) = (j : Int) - 1 := by rw [xwr_g _ (by omega) (by omega)]; omega
      have st2 : c137_120 (c137_59 f fu) f f 83 (l : Int) x (i : Int) an (j : Int) 0 0 (S, G, m) = c137_59 f fu 83 (l : Int) x (i : Int) an ((j : Int) - 1) (S, G, m) := by
        have : c137_120 (c137_59 f fu) f (fx + 1) 83 (l : Int) x (i : Int) an (j : Int) 0 ((0 : Nat) : Int) (S, G, m) = _ := st_137s0 (r59 := c137_59 f fu) (r120 := c137_120 (c137_59 f fu) f fx) (an := an) (c := 0) ejj
        rw [← hfx] at this
        exact this
      exact down (st1.trans st2) (fun y => q y.1)
theorem k_137a (h : cLv S G u x l st b nv W cap K T R lo hi) (hi2 : i < R.length) : ∀ (d c fu : Nat) (an : Int), c + d = T.length → d < fu → (an = 0 ∨ an = 1) → (an = 1 ↔ ∃ k, k < c ∧ (T.getD k (0, 0)).1 = 2) → ∃ an', c137_6 f fu 83 (l : Int) x (i : Int) an (c : Int) (S, G, m) = c137_59 f f 83 (l : Int) x (i : Int) an' ((i : Int) - 1) (S, G, m) ∧ (an' = 0 ∨ an' = 1) ∧ (an' = 1 ↔ ∃ k, k < T.length ∧ (T.getD k (0, 0)).1 = 2) := by
  obtain ⟨h1, h2, h3, h4, h5, h6, h7, h8, h9, h10, h11, h12, h13⟩ := h
  obtain ⟨a1, a2, a3, a4, a5, a6, a7, a8⟩ := id h1
  obtain ⟨t1, t2, t3, t4⟩ := id h2
  have hcap := h3.2.2.2.2.2.1
  have hlc := h3.2.2.2.2.1
  intro d
  induction d with
  | zero =>
    intro c fu an e1 e2 e3 e4
    obtain ⟨fu, rfl⟩ : ∃ t, fu = t + 1 := ⟨fu - 1, by omega⟩
    have hc : c = T.length := by omega
    subst hc
    have ej : xwr ((i : Int) - 1) = (i : Int) - 1 := xwr_g _ (by omega) (by omega)
    exact ⟨an, st_137f (r6 := c137_6 f fu) a1 a3 a4 a5.1 a5.2.2.2.2.1 a6.2.2.2.1 t1 t2 ej, e3, e4⟩
  | succ d ih =>
    intro c fu an e1 e2 e3 e4
    obtain ⟨fu, rfl⟩ : ∃ t, fu = t + 1 := ⟨fu - 1, by omega⟩
    have hc : c < T.length := by omega
    have e5 : xwr ((xwr (4 * (l : Int))) + (c : Int)) = ((4 * l + c : Nat) : Int) := by rw [xwr_g (4 * (l : Int)) (by omega) (by omega), xwr_g _ (by omega) (by omega)]; omega
    have ec : xwr ((c : Int) + 1) = ((c + 1 : Nat) : Int) := by rw [xwr_g _ (by omega) (by omega)]; omega
    have st1 : c137_6 f (fu + 1) 83 (l : Int) x (i : Int) an (c : Int) (S, G, m) = _ := st_137g (r6 := c137_6 f fu) a1 a3 a4 a5.1 a5.2.2.2.2.1 a5.2.2.2.2.2.1 a6.2.2.2.1 a6.2.2.2.2.1 t1 t2 hc e5 (by omega) rfl ec
    have ta := cTm_any (t4 c hc)
    rw [st1]
    have x1 : xor_ 0 0 = 0 := by decide
    have x2 : xor_ 1 0 = 1 := by decide
    have x3 : xor_ 0 1 = 1 := by decide
    have x4 : xor_ 1 1 = 1 := by decide
    refine ih (c + 1) fu _ (by omega) (by omega) ?_ ?_
    · rcases e3 with rfl | rfl <;> split <;> simp [x1, x2, x3, x4]
    · have key : (∃ k, k < c + 1 ∧ (T.getD k (0, 0)).1 = 2) ↔ (∃ k, k < c ∧ (T.getD k (0, 0)).1 = 2) ∨ (T.getD c (0, 0)).1 = 2 := by
        constructor
        · rintro ⟨k, y1, y2⟩
          by_cases ck : k = c
          · subst ck; exact .inr y2
          · exact .inl ⟨k, by omega, y2⟩
        · rintro (⟨k, y1, y2⟩ | y)
          · exact ⟨k, by omega, y2⟩
          · exact ⟨c, by omega, y⟩
      rw [key, ← e4, ← ta]
      by_cases q : G (u + 5) (4 * l + c) = 3
      · rw [if_pos q]
        refine ⟨fun _ => .inr q, fun _ => ?_⟩
        rcases e3 with rfl | rfl
        · exact x3
        · exact x4
      · rw [if_neg q]
        rcases e3 with rfl | rfl
        · rw [x1]
          exact ⟨fun y => by omega, fun y => y.elim (fun z => by omega) (fun z => absurd z q)⟩
        · rw [x2]
          exact ⟨fun _ => .inl rfl, fun _ => rfl⟩
/-- isRepeated() of a row that fits -/
theorem k_137 (hf : 600 < f) (h : cLv S G u x l st b nv W cap K T R lo hi) (hi2 : i < R.length) (h88 : G 88 st = (fi : Int)) {la : Nat} {vl : Nat → Int} (hrn : isRn R T b vl fi la) {b' : Nat} {vl' : Nat → Int} (hfit : fitR T lo hi b vl (R.getD i dRw) = some (b', vl')) : ∃ v : Int, c137 f 83 (l : Int) x (i : Int) (S, G, m) = some (v, (S, G, m)) ∧ (v = 0 ∨ v = 1) ∧ (v = 1 ↔ isRp T lo hi R i) := by
  have hb := h
  obtain ⟨h1, h2, h3, h4, h5, h6, h7, h8, h9, h10, h11, h12, h13⟩ := h
  have hR := h3.2.2.2.2.2.2.2
  have t3 := h2.2.2.1
  obtain ⟨an, g1, g2, g3⟩ := k_137a (f := f) (m := m) hb hi2 T.length 0 f 0 (by omega) (by omega) (.inl rfl) ⟨fun y => by omega, fun ⟨k, y, _⟩ => by omega⟩
  have g1' : c137 f 83 (l : Int) x (i : Int) (S, G, m) = _ := g1
  obtain ⟨kl, k1, k2⟩ := hrn.2.2
  have hi3 := k2 i hi2 (k1.fit h6 (by rw [(hR i hi2).1, h5]) hfit)
  rcases g2 with g2 | g2
  · obtain ⟨fx, hfx⟩ : ∃ t, f = t + 1 := ⟨f - 1, by omega⟩
    have e0 : c137_59 f f 83 (l : Int) x (i : Int) an ((i : Int) - 1) (S, G, m) = some (0, (S, G, m)) := by
      have : c137_59 f (fx + 1) 83 (l : Int) x (i : Int) 0 ((i : Int) - 1) (S, G, m) = some (0, (S, G, m)) := st_137o0 (r59 := c137_59 f fx)
      rw [← hfx] at this
      rw [g2]; exact this
    refine ⟨0, g1'.trans e0, .inl rfl, fun y => by omega, fun y => ?_⟩
    have := g3.mpr y.1
    omega
  · obtain ⟨v, v1, v2, v3⟩ := k_137j (f := f) (m := m) (an := an) (by omega) hb hi2 h88 (by omega) (i - fi) i f (by omega) (Nat.le_refl _) (by have := h3.2.2.2.2.1; have := h3.2.2.2.2.2.1; omega)
    refine ⟨v, g1'.trans v1, v2, v3.trans ⟨fun ⟨j, y1, y2, y3, y4⟩ => ⟨g3.mp g2, j, y2, y3, y4⟩, fun ⟨_, j, y2, y3, y4⟩ => ⟨j, ?_, y2, y3, y4⟩⟩⟩
    refine (k2 j (by omega) ?_).1
    have hti := k1.fit h6 (by rw [(hR i hi2).1, h5]) hfit
    refine Eq.trans ?_ hti
    have li := (hR i hi2).1
    have lj := (hR j (by omega)).1
    have hk := k1.1
    refine List.ext_getElem (by rw [List.length_take, List.length_take, li, lj]) (fun c c1 c2 => ?_)
    rw [List.length_take] at c1 c2
    rw [List.getElem_take, List.getElem_take]
    have hck : c < kl.length := by omega
    have sm := y4 c (by omega)
    have hne : (T.getD c (0, 0)).1 ≠ 2 := by
      rcases k1.2 c hck with ⟨q1, _⟩ | ⟨q1, _⟩ <;> omega
    rcases sm with q | q
    · exact absurd q hne
    · have q1 : (R.getD i dRw).1.getD c 0 = (R.getD i dRw).1[c]'(by omega) := getD_e (by omega)
      have q2 : (R.getD j dRw).1.getD c 0 = (R.getD j dRw).1[c]'(by omega) := getD_e (by omega)
      exact q2.symm.trans (q.symm.trans q1)
end
end
section
/-! THE CLASS: nextRow() -/
theorem fit_xt {T : pCd} {lo hi : Int} {b nv : Nat} {v w : Nat → Int} {r : pRw} (hT : ∀ y ∈ T, wT1 nv y) (hl : T.length ≤ r.1.length) (h : ∀ k, b.testBit k = true → w k = v k) {b' : Nat} {v' : Nat → Int} (hf : fitR T lo hi b w r = some (b', v')) : ∃ v2, fitR T lo hi b v r = some (b', v2) ∧ ∀ k, b'.testBit k = true → v2 k = v' k := by
  unfold fitR at hf ⊢
  split at hf
  · rename_i c
    rw [if_pos c]
    obtain ⟨m1, m2, m3, m4⟩ := mtc_ok T r.1 b w b' v' hT hl hf
    obtain ⟨b2, v2, n1, n2⟩ := mtc_some (w := v') T r.1 b v hT hl (fun k hk => by rw [m2 k hk, h k hk]) m3
    have n3 := (mtc_ok T r.1 b v b2 v2 hT hl n1).1
    have e : b2 = b' := by rw [n3, m1]
    subst e
    exact ⟨v2, n1, n2⟩
  · cases hf
section
variable {f u x l st b nv W cap fa fn p fi la i bp : Nat} {S : Nat → Nat × Nat × Nat} {G G1 : xG_} {m : Nat × Nat} {K T : pCd} {R : List pRw} {lo hi v br : Int} {vl : Nat → Int} {r25 : Nat → Int → Nat → Int → xT_ → Option (Int × xT_)}
theorem st_135z (hs : cSs S) (hp : cPs G) (h6 : G 83 6 = (st : Int)) (hst : st < 8) (h90 : G 90 st = (la : Int)) (hi2 : la ≤ i) : c135_25b r25 f 83 (l : Int) x (i : Int) (S, G, m) = some (0, (S, G, m)) := by
  unfold c135_25b
  simp (disch := omega) only [cq_gi, cq_gr, cq_a, cq_s, cq_p, cq_pr, cq_is, cq_ar, cq_ab, cq_ln, xq_nz, Option.bind_some, xup2_n, xup2_s, Int.toNat_natCast, Int.reduceToNat, if_pos, if_neg, true_and, and_true, and_self, eq_self, if_true, reduceIte, not_true_eq_false, not_false_eq_true, or_true, true_or, s83 hs, s90 hs, p83_11 hp, h6, h90]
theorem st_135n (hs : cSs S) (hp : cPs G) (h6 : G 83 6 = (st : Int)) (hst : st < 8) (h90 : G 90 st = (la : Int)) (hi2 : i < la) (e : c136 f 83 (l : Int) x (i : Int) (S, G, m) = some (-1, (S, G1, m))) (ei : xwr ((i : Int) + 1) = ((i + 1 : Nat) : Int)) : c135_25b r25 f 83 (l : Int) x (i : Int) (S, G, m) = r25 83 (l : Int) x ((i + 1 : Nat) : Int) (S, G1, m) := by
  unfold c135_25b c135_111
  simp (disch := omega) only [cq_gi, cq_gr, cq_a, cq_s, cq_p, cq_pr, cq_is, cq_ar, cq_ab, cq_ln, xq_nz, Option.bind_some, xup2_n, xup2_s, Int.toNat_natCast, Int.reduceToNat, if_pos, if_neg, true_and, and_true, and_self, eq_self, if_true, reduceIte, not_true_eq_false, not_false_eq_true, or_true, true_or, s83 hs, s90 hs, p83_11 hp, h6, h90, e, ei]
theorem st_135g (hs : cSs S) (hp : cPs G) (h6 : G 83 6 = (st : Int)) (hst : st < 8) (ei : xwr ((i : Int) + 1) = ((i + 1 : Nat) : Int)) (es : xwr ((st : Int) + 1) = ((st + 1 : Nat) : Int)) : c135_84 f 83 (i : Int) (bp : Int) (S, G, m) = some (1, (S, xup2 (xup2 G 89 st ((i + 1 : Nat) : Int)) 87 (st + 1) (bp : Int), m)) := by
  unfold c135_84
  simp (disch := omega) only [cq_gi, cq_gr, cq_a, cq_s, cq_p, cq_pr, cq_is, cq_ar, cq_ab, cq_ln, xq_nz, Option.bind_some, xup2_n, xup2_s, Int.toNat_natCast, Int.reduceToNat, if_pos, if_neg, true_and, and_true, and_self, eq_self, if_true, reduceIte, not_true_eq_false, not_false_eq_true, or_true, true_or, s83 hs, s87 hs, s89 hs, p83_8 hp, p83_10 hp, h6, ei, es]
theorem st_135b (hs : cSs S) (hp : cPs G) (h6 : G 83 6 = (st : Int)) (hst : st < 8) (h90 : G 90 st = (la : Int)) (hi2 : i < la) (e : c136 f 83 (l : Int) x (i : Int) (S, G, m) = some ((bp : Int), (S, G1, m))) (hbr : G1 83 5 = br) (hbr0 : br ≠ 0) : c135_25b r25 f 83 (l : Int) x (i : Int) (S, G, m) = c135_84 f 83 (i : Int) (bp : Int) (S, G1, m) := by
  have hb : ¬ (bp : Int) = -1 := by omega
  unfold c135_25b
  simp (disch := omega) only [cq_gi, cq_gr, cq_a, cq_s, cq_p, cq_pr, cq_is, cq_ar, cq_ab, cq_ln, xq_nz, Option.bind_some, xup2_n, xup2_s, Int.toNat_natCast, Int.reduceToNat, if_pos, if_neg, true_and, and_true, and_self, eq_self, if_true, reduceIte, not_true_eq_false, not_false_eq_true, or_true, true_or, s83 hs, s90 hs, p83_11 hp, h6, h90, e, hb, hbr, hbr0]
theorem st_135e (hs : cSs S) (hp : cPs G) (hp1 : cPs G1) (h6 : G 83 6 = (st : Int)) (h61 : G1 83 6 = (st : Int)) (hst : st < 8) (h90 : G 90 st = (la : Int)) (hi2 : i < la) (e : c136 f 83 (l : Int) x (i : Int) (S, G, m) = some ((bp : Int), (S, G1, m))) (hbr : G1 83 5 = 0) (hbb : G1 87 st = (bp : Int)) : c135_25b r25 f 83 (l : Int) x (i : Int) (S, G, m) = c135_84 f 83 (i : Int) (bp : Int) (S, G1, m) := by
  have hb : ¬ (bp : Int) = -1 := by omega
  unfold c135_25b
  simp (disch := omega) only [cq_gi, cq_gr, cq_a, cq_s, cq_p, cq_pr, cq_is, cq_ar, cq_ab, cq_ln, xq_nz, Option.bind_some, xup2_n, xup2_s, Int.toNat_natCast, Int.reduceToNat, if_pos, if_neg, true_and, and_true, and_self, eq_self, if_true, reduceIte, not_true_eq_false, not_false_eq_true, or_true, true_or, s83 hs, s87 hs, s90 hs, p83_8 hp1, p83_11 hp, h6, h61, h90, e, hb, hbr, hbb]
theorem st_135r (hs : cSs S) (hp : cPs G) (hp1 : cPs G1) (h6 : G 83 6 = (st : Int)) (h61 : G1 83 6 = (st : Int)) (hst : st < 8) (h90 : G 90 st = (la : Int)) (hi2 : i < la) (e : c136 f 83 (l : Int) x (i : Int) (S, G, m) = some ((bp : Int), (S, G1, m))) (hbr : G1 83 5 = 0) (hbb : G1 87 st = (b : Int)) (hne : bp ≠ b) (e2 : c137 f 83 (l : Int) x (i : Int) (S, G1, m) = some (v, (S, G1, m))) (ei : xwr ((i : Int) + 1) = ((i + 1 : Nat) : Int)) : c135_25b r25 f 83 (l : Int) x (i : Int) (S, G, m) = if v = 0 then c135_84 f 83 (i : Int) (bp : Int) (S, G1, m) else r25 83 (l : Int) x ((i + 1 : Nat) : Int) (S, G1, m) := by
  have hb : ¬ (bp : Int) = -1 := by omega
  have hn : ¬ (bp : Int) = (b : Int) := by omega
  by_cases q : v = 0
  · rw [if_pos q]
    unfold c135_25b
    simp (disch := omega) only [cq_gi, cq_gr, cq_a, cq_s, cq_p, cq_pr, cq_is, cq_ar, cq_ab, cq_ln, xq_nz, Option.bind_some, xup2_n, xup2_s, Int.toNat_natCast, Int.reduceToNat, if_pos, if_neg, true_and, and_true, and_self, eq_self, if_true, reduceIte, not_true_eq_false, not_false_eq_true, or_true, true_or, s83 hs, s87 hs, s90 hs, p83_8 hp1, p83_11 hp, h6, h61, h90, e, hb, hbr, hbb, hn, e2, q]
  · rw [if_neg q]
    unfold c135_25b c135_111
    simp (disch := omega) only [cq_gi, cq_gr, cq_a, cq_s, cq_p, cq_pr, cq_is, cq_ar, cq_ab, cq_ln, xq_nz, Option.bind_some, xup2_n, xup2_s, Int.toNat_natCast, Int.reduceToNat, if_pos, if_neg, true_and, and_true, and_self, eq_self, if_true, reduceIte, not_true_eq_false, not_false_eq_true, or_true, true_or, s83 hs, s87 hs, s90 hs, p83_8 hp1, p83_11 hp, h6, h61, h90, e, hb, hbr, hbb, hn, e2, q, ei]
/-- a row that is taken -/
def accR (T : pCd) (lo hi : Int) (R : List pRw) (b : Nat) (vl : Nat → Int) (br : Int) (i : Nat) : Prop := ∃ b' vl', fitR T lo hi b vl (R.getD i dRw) = some (b', vl') ∧ (br ≠ 0 ∨ b' = b ∨ ¬ isRp T lo hi R i)
theorem k_135l (hf : 600 < f) : ∀ (d i fu : Nat) (G : xG_), i + d = R.length → d < fu → cLv S G u x l st b nv W cap K T R lo hi → G 83 5 = br → G 88 st = (fi : Int) → G 90 st = (la : Int) → isRn R T b vl fi la → (∀ k, b.testBit k = true → G 84 k = vl k) → ∃ v G', c135_25 f fu 83 (l : Int) x (i : Int) (S, G, m) = some (v, (S, G', m)) ∧ (∀ a j, a ≠ 84 → ¬ (a = 89 ∧ j = st) → ¬ (a = 87 ∧ j = st + 1) → G' a j = G a j) ∧ (∀ k, b.testBit k = true → G' 84 k = G 84 k) ∧ ((v = 1 ∧ ∃ i' b' vl', i ≤ i' ∧ i' < R.length ∧ fitR T lo hi b vl (R.getD i' dRw) = some (b', vl') ∧ accR T lo hi R b vl br i' ∧ (∀ j, i ≤ j → j < i' → ¬ accR T lo hi R b vl br j) ∧ G' 89 st = ((i' + 1 : Nat) : Int) ∧ G' 87 (st + 1) = ((b' : Nat) : Int) ∧ ∀ k, b'.testBit k = true → G' 84 k = vl' k) ∨ (v = 0 ∧ ∀ j, i ≤ j → j < R.length → ¬ accR T lo hi R b vl br j)) := by
  intro d
  induction d with
  | zero =>
    intro i fu G e1 e2 h h5 h88 h90 hrn hv
    obtain ⟨fu, rfl⟩ : ∃ t, fu = t + 1 := ⟨fu - 1, by omega⟩
    obtain ⟨h1, h2, h3, h4, h5', h6, h7, h8, h9, h10, h11, h12, h13⟩ := h
    exact ⟨0, G, st_135z (r25 := c135_25 f fu) h1.1 h1.2.1 h8 h9 h90 (by have := hrn.2.1; omega), fun _ _ _ _ _ => rfl, fun _ _ => rfl, .inr ⟨rfl, fun j y1 y2 => by omega⟩⟩
  | succ d ih =>
    intro i fu G e1 e2 h h5 h88 h90 hrn hv
    obtain ⟨fu, rfl⟩ : ∃ t, fu = t + 1 := ⟨fu - 1, by omega⟩
    have hb := h
    obtain ⟨h1, h2, h3, h4, h5', h6, h7, h8, h9, h10, h11, h12, h13⟩ := h
    have hR := h3.2.2.2.2.2.2.2
    have hlc := h3.2.2.2.2.1
    have hcap := h3.2.2.2.2.2.1
    have hi2 : i < R.length := by omega
    have ei : xwr ((i : Int) + 1) = ((i + 1 : Nat) : Int) := by rw [xwr_g _ (by omega) (by omega)]; omega
    have es : xwr ((st : Int) + 1) = ((st + 1 : Nat) : Int) := by rw [xwr_g _ (by omega) (by omega)]; omega
    obtain ⟨kl, kl1, kl2⟩ := hrn.2.2
    have lT : ∀ j, j < R.length → (R.getD j dRw).1.length = T.length := fun j hj => by rw [(hR j hj).1, h5']
    have out : ∀ j, j < R.length → la ≤ j → ¬ accR T lo hi R b vl br j := fun j hj hlj ⟨b', vl', y1, _⟩ => by
      have := (kl2 j hj (kl1.fit h6 (lT j hj) y1)).2
      omega
    by_cases hla : la ≤ i
    · exact ⟨0, G, st_135z (r25 := c135_25 f fu) h1.1 h1.2.1 h8 h9 h90 hla, fun _ _ _ _ _ => rfl, fun _ _ => rfl, .inr ⟨rfl, fun j y1 y2 => out j y2 (by omega)⟩⟩
    · obtain ⟨v, G1, g1, g2, g3⟩ := k_136 (f := f) (m := m) (vl := fun k => G 84 k) (by omega) hb hi2 (fun k _ => rfl)
      have hb1 : cLv S G1 u x l st b nv W cap K T R lo hi := hb.ge (fun a j y _ _ _ _ _ _ _ => g2 a j y)
      have h51 : G1 83 5 = br := by rw [g2 _ _ (by omega)]; exact h5
      have h881 : G1 88 st = (fi : Int) := by rw [g2 _ _ (by omega)]; exact h88
      have h901 : G1 90 st = (la : Int) := by rw [g2 _ _ (by omega)]; exact h90
      have h871 : G1 87 st = (b : Int) := by rw [g2 _ _ (by omega)]; exact h10
      have h61 : G1 83 6 = (st : Int) := by rw [g2 _ _ (by omega)]; exact h8
      have h84 : ∀ k, b.testBit k = true → G1 84 k = G 84 k := by
        rcases g3 with ⟨b', vl', y1, y2, y3⟩ | ⟨_, _, y3⟩
        · intro k hk
          have hk8 : k < 8 := Nat.lt_of_not_le (fun q => by rw [Nat.testBit_lt_two_pow (Nat.lt_of_lt_of_le h11 (Nat.pow_le_pow_right (by decide) q))] at hk; cases hk)
          rw [y3 k hk8]
          unfold fitR at y1
          split at y1
          · exact (mtc_ok T _ b _ b' vl' h6 (Nat.le_of_eq (lT i hi2).symm) y1).2.1 k hk
          · cases y1
        · exact y3
      have hv1 : ∀ k, b.testBit k = true → G1 84 k = vl k := fun k hk => by rw [h84 k hk, hv k hk]
      have go : ¬ accR T lo hi R b vl br i → c135_25 f (fu + 1) 83 (l : Int) x (i : Int) (S, G, m) = c135_25 f fu 83 (l : Int) x ((i + 1 : Nat) : Int) (S, G1, m) → ∃ v G', c135_25 f (fu + 1) 83 (l : Int) x (i : Int) (S, G, m) = some (v, (S, G', m)) ∧ (∀ a j, a ≠ 84 → ¬ (a = 89 ∧ j = st) → ¬ (a = 87 ∧ j = st + 1) → G' a j = G a j) ∧ (∀ k, b.testBit k = true → G' 84 k = G 84 k) ∧ ((v = 1 ∧ ∃ i' b' vl', i ≤ i' ∧ i' < R.length ∧ fitR T lo hi b vl (R.getD i' dRw) = some (b', vl') ∧ accR T lo hi R b vl br i' ∧ (∀ j, i ≤ j → j < i' → ¬ accR T lo hi R b vl br j) ∧ G' 89 st = ((i' + 1 : Nat) : Int) ∧ G' 87 (st + 1) = ((b' : Nat) : Int) ∧ ∀ k, b'.testBit k = true → G' 84 k = vl' k) ∨ (v = 0 ∧ ∀ j, i ≤ j → j < R.length → ¬ accR T lo hi R b vl br j)) := fun hn e => by
        obtain ⟨v2, G2, i1, i2, i3, i4⟩ := ih (i + 1) fu G1 (by omega) (by omega) hb1 h51 h881 h901 hrn hv1
        refine ⟨v2, G2, e.trans i1, fun a j y1 y2 y3 => by rw [i2 a j y1 y2 y3, g2 a j y1], fun k hk => by rw [i3 k hk, h84 k hk], ?_⟩
        rcases i4 with ⟨j1, i', b', vl', j2, j3, j4, j5, j6, j7, j8, j9⟩ | ⟨j1, j2⟩
        · refine .inl ⟨j1, i', b', vl', by omega, j3, j4, j5, fun j y1 y2 => ?_, j7, j8, j9⟩
          by_cases cj : j = i
          · rw [cj]; exact hn
          · exact j6 j (by omega) y2
        · refine .inr ⟨j1, fun j y1 y2 => ?_⟩
          by_cases cj : j = i
          · rw [cj]; exact hn
          · exact j2 j (by omega) y2
      have hv0 : ∀ k, b.testBit k = true → (fun k => G 84 k) k = vl k := hv
      have hv0' : ∀ k, b.testBit k = true → vl k = (fun k => G 84 k) k := fun k hk => (hv k hk).symm
      rcases g3 with ⟨b', vl', y1, y2, y3⟩ | ⟨y1, y2, y3⟩
      · subst y2
        obtain ⟨v2, w1, w2⟩ := fit_xt h6 (Nat.le_of_eq (lT i hi2).symm) hv0 y1
        have b8 : ∀ k, b'.testBit k = true → k < 8 := fun k hk => by
          have e : b' = b ||| qT T := by
            unfold fitR at y1
            split at y1
            · exact (mtc_ok T _ b _ b' vl' h6 (Nat.le_of_eq (lT i hi2).symm) y1).1
            · cases y1
          have hlt : b' < 2 ^ 8 := by rw [e]; exact Nat.or_lt_two_pow h11 (qT_lt h6 h7)
          exact Nat.lt_of_not_le (fun q => by rw [Nat.testBit_lt_two_pow (Nat.lt_of_lt_of_le hlt (Nat.pow_le_pow_right (by decide) q))] at hk; cases hk)
        have take : accR T lo hi R b vl br i → c135_25 f (fu + 1) 83 (l : Int) x (i : Int) (S, G, m) = c135_84 f 83 (i : Int) (b' : Int) (S, G1, m) → _ := fun ha e => by
          have e' := e.trans (st_135g (f := f) (m := m) (bp := b') hb1.1.1 hb1.1.2.1 h61 h9 ei es)
          exact (⟨1, _, e', fun a j z1 z2 z3 => by rw [xup2_n z3, xup2_n z2, g2 a j z1], fun k hk => by rw [xup2_n (by omega), xup2_n (by omega), h84 k hk], .inl ⟨rfl, i, b', v2, Nat.le_refl _, hi2, w1, ha, fun j z1 z2 => by omega, by rw [xup2_n (by omega), xup2_s], xup2_s _ _ _ _, fun k hk => by rw [xup2_n (by omega), xup2_n (by omega), y3 k (b8 k hk), w2 k hk]⟩⟩ : ∃ v G', c135_25 f (fu + 1) 83 (l : Int) x (i : Int) (S, G, m) = some (v, (S, G', m)) ∧ (∀ a j, a ≠ 84 → ¬ (a = 89 ∧ j = st) → ¬ (a = 87 ∧ j = st + 1) → G' a j = G a j) ∧ (∀ k, b.testBit k = true → G' 84 k = G 84 k) ∧ ((v = 1 ∧ ∃ i' b' vl', i ≤ i' ∧ i' < R.length ∧ fitR T lo hi b vl (R.getD i' dRw) = some (b', vl') ∧ accR T lo hi R b vl br i' ∧ (∀ j, i ≤ j → j < i' → ¬ accR T lo hi R b vl br j) ∧ G' 89 st = ((i' + 1 : Nat) : Int) ∧ G' 87 (st + 1) = ((b' : Nat) : Int) ∧ ∀ k, b'.testBit k = true → G' 84 k = vl' k) ∨ (v = 0 ∧ ∀ j, i ≤ j → j < R.length → ¬ accR T lo hi R b vl br j)))
        by_cases cbr : br ≠ 0
        · exact take ⟨b', v2, w1, .inl cbr⟩ (st_135b (r25 := c135_25 f fu) h1.1 h1.2.1 h8 h9 h90 (by omega) g1 h51 cbr)
        · have cbr0 : br = 0 := Decidable.not_not.mp cbr
          rw [cbr0] at h51
          by_cases cb : b' = b
          · exact take ⟨b', v2, w1, .inr (.inl cb)⟩ (st_135e (r25 := c135_25 f fu) h1.1 h1.2.1 hb1.1.2.1 h8 h61 h9 h90 (by omega) g1 h51 (by rw [cb]; exact h871))
          · obtain ⟨w, c1, c2, c3⟩ := k_137 (f := f) (m := m) hf hb1 hi2 h881 hrn w1
            have e := st_135r (r25 := c135_25 f fu) h1.1 h1.2.1 hb1.1.2.1 h8 h61 h9 h90 (by omega) g1 h51 h871 cb c1 ei
            rcases c2 with c2 | c2
            · rw [if_pos c2] at e
              exact take ⟨b', v2, w1, .inr (.inr (fun y => by have := c3.mpr y; omega))⟩ e
            · rw [if_neg (by omega)] at e
              refine go (fun ⟨b3, v3, z1, z2⟩ => ?_) e
              rw [w1] at z1
              injection z1 with z1
              injection z1 with z1 _
              rcases z2 with z2 | z2 | z2
              · exact cbr z2
              · exact cb (z1.trans z2)
              · exact z2 (c3.mp c2)
      · subst y1
        refine go (fun ⟨b3, v3, z1, _⟩ => ?_) (st_135n (r25 := c135_25 f fu) h1.1 h1.2.1 h8 h9 h90 (by omega) g1 ei)
        obtain ⟨v4, w1, _⟩ := fit_xt h6 (Nat.le_of_eq (lT i hi2).symm) hv0' z1
        rw [y2] at w1
        cases w1
end
end
section
/-! THE CLASS: nextRow() whole, hasNone(), hasMore() -/
def c138a (f : Nat) (a0 : Nat) (a1 : Int) (R115 : (xT_)) : Option (Int × xT_) := ((cq_gr 9 4 14 (a0) R115).bind fun v121 => ((cq_gr 9 3 14 (a0) R115).bind fun v123 => ((cq_gr 6 10 20 (v123) R115).bind fun v125 => ((cq_a 3 (v125) (a1) R115).bind fun v127 => ((cq_ar (v121) (v127) R115).bind fun v129 => ((cq_gr 9 9 14 (a0) R115).bind fun v131 => ((cq_gi 9 6 14 (a0) R115).bind fun v133 => ((cq_a 3 (v131) (v133) R115).bind fun v135 => c138_30  f f (a0) (a1) (v129) (v135) R115))))))))
theorem c138a_e (f : Nat) (a0 : Nat) (a1 : Int) (T : xT_) : c138 f a0 a1 T = ((cq_is 9 14 (a0) T).bind fun _ => ((c134 f (a0) (a1) T).bind fun R115 => c138a f a0 a1 R115)) := rfl
section
variable {f u x l st b nv W cap fa fn p fi la i bp lt cu : Nat} {S : Nat → Nat × Nat × Nat} {G G1 G' : xG_} {m : Nat × Nat} {K T : pCd} {R : List pRw} {lo hi v br : Int} {vl : Nat → Int} {r30 : Nat → Int → Nat → Int → xT_ → Option (Int × xT_)}
theorem st_135 (hs : cSs S) (hp : cPs G) (h3 : G 83 3 = (u : Int)) (h4 : G 83 4 = (fa : Int)) (hu : 278 < u) (us : S u = (1, 6, 20)) (us3 : S (u + 3) = (2, 3, 8)) (w10 : G u 10 = ((u + 3 : Nat) : Int)) (hl : l < 8) (hpr : G (u + 3) l = (p : Int)) (fs : S fa = (2, 10, fn)) (hpn : p < fn) (hx : G fa p = (x : Int)) (h6 : G 83 6 = (st : Int)) (hst : st < 8) (h89 : G 89 st = (cu : Int)) : c135 f 83 (l : Int) (S, G, m) = c135_25 f f 83 (l : Int) x (cu : Int) (S, G, m) := by
  unfold c135
  simp (disch := omega) only [cq_gi, cq_gr, cq_a, cq_s, cq_p, cq_pr, cq_is, cq_ar, cq_ab, cq_ln, xq_nz, Option.bind_some, xup2_n, xup2_s, Int.toNat_natCast, Int.reduceToNat, if_pos, if_neg, true_and, and_true, and_self, eq_self, if_true, reduceIte, not_true_eq_false, not_false_eq_true, or_true, true_or, s83 hs, s89 hs, p83_10 hp, h3, h4, us, us3, w10, hpr, fs, hx, h6, h89]
theorem k_135 (hf : 600 < f) (h : cLv S G u x l st b nv W cap K T R lo hi) (hF : cFs S G u l fa fn p x) (h5 : G 83 5 = br) (h88 : G 88 st = (fi : Int)) (h90 : G 90 st = (la : Int)) (h89 : G 89 st = (cu : Int)) (hcu : cu ≤ R.length) (hrn : isRn R T b vl fi la) (hv : ∀ k, b.testBit k = true → G 84 k = vl k) : ∃ v G', c135 f 83 (l : Int) (S, G, m) = some (v, (S, G', m)) ∧ (∀ a j, a ≠ 84 → ¬ (a = 89 ∧ j = st) → ¬ (a = 87 ∧ j = st + 1) → G' a j = G a j) ∧ (∀ k, b.testBit k = true → G' 84 k = G 84 k) ∧ ((v = 1 ∧ ∃ i' b' vl', cu ≤ i' ∧ i' < R.length ∧ fitR T lo hi b vl (R.getD i' dRw) = some (b', vl') ∧ accR T lo hi R b vl br i' ∧ (∀ j, cu ≤ j → j < i' → ¬ accR T lo hi R b vl br j) ∧ G' 89 st = ((i' + 1 : Nat) : Int) ∧ G' 87 (st + 1) = ((b' : Nat) : Int) ∧ ∀ k, b'.testBit k = true → G' 84 k = vl' k) ∨ (v = 0 ∧ ∀ j, cu ≤ j → j < R.length → ¬ accR T lo hi R b vl br j)) := by
  obtain ⟨q1, q2, q3, q4, q5, q6⟩ := hF
  have hb := h
  obtain ⟨h1, h2, h3, h4, h5', h6, h7, h8, h9, h10, h11, h12, h13⟩ := h
  have e := st_135 (f := f) (m := m) h1.1 h1.2.1 h1.2.2.1 q1 h1.2.2.2.1 h1.2.2.2.2.1.1 h1.2.2.2.2.1.2.2.2.1 h1.2.2.2.2.2.1.2.2.1 h2.1 q5 q2 q3 q4 h8 h9 h89
  rw [e]
  exact k_135l hf (R.length - cu) cu f G (by omega) (by have := h3.2.2.2.2.1; have := h3.2.2.2.2.2.1; omega) hb h5 h88 h90 hrn hv
theorem st_138z (hs : cSs S) (hp : cPs G) (h6 : G 83 6 = (st : Int)) (hst : st < 8) (h90 : G 90 st = (la : Int)) (hi2 : la ≤ i) : c138_30b r30 f 83 (l : Int) x (i : Int) (S, G, m) = some (1, (S, G, m)) := by
  unfold c138_30b
  simp (disch := omega) only [cq_gi, cq_gr, cq_a, cq_s, cq_p, cq_pr, cq_is, cq_ar, cq_ab, cq_ln, xq_nz, Option.bind_some, xup2_n, xup2_s, Int.toNat_natCast, Int.reduceToNat, if_pos, if_neg, true_and, and_true, and_self, eq_self, if_true, reduceIte, not_true_eq_false, not_false_eq_true, or_true, true_or, s83 hs, s90 hs, p83_11 hp, h6, h90]
theorem st_138n (hs : cSs S) (hp : cPs G) (h6 : G 83 6 = (st : Int)) (hst : st < 8) (h90 : G 90 st = (la : Int)) (hi2 : i < la) (e : c136 f 83 (l : Int) x (i : Int) (S, G, m) = some (v, (S, G1, m))) (ei : xwr ((i : Int) + 1) = ((i + 1 : Nat) : Int)) : c138_30b r30 f 83 (l : Int) x (i : Int) (S, G, m) = if v = -1 then r30 83 (l : Int) x ((i + 1 : Nat) : Int) (S, G1, m) else some (0, (S, G1, m)) := by
  by_cases q : v = -1
  · rw [if_pos q]
    unfold c138_30b
    simp (disch := omega) only [cq_gi, cq_gr, cq_a, cq_s, cq_p, cq_pr, cq_is, cq_ar, cq_ab, cq_ln, xq_nz, Option.bind_some, xup2_n, xup2_s, Int.toNat_natCast, Int.reduceToNat, if_pos, if_neg, true_and, and_true, and_self, eq_self, if_true, reduceIte, not_true_eq_false, not_false_eq_true, or_true, true_or, s83 hs, s90 hs, p83_11 hp, h6, h90, e, q, ei]
  · rw [if_neg q]
    unfold c138_30b
    simp (disch := omega) only [cq_gi, cq_gr, cq_a, cq_s, cq_p, cq_pr, cq_is, cq_ar, cq_ab, cq_ln, xq_nz, Option.bind_some, xup2_n, xup2_s, Int.toNat_natCast, Int.reduceToNat, if_pos, if_neg, true_and, and_true, and_self, eq_self, if_true, reduceIte, not_true_eq_false, not_false_eq_true, or_true, true_or, s83 hs, s90 hs, p83_11 hp, h6, h90, e, q]
theorem st_138 {T1 : xT_} (hs : cSs S) (e : c134 f 83 (l : Int) (S, G, m) = some T1) : c138 f 83 (l : Int) (S, G, m) = c138a f 83 (l : Int) T1 := by
  rw [c138a_e]
  simp (disch := omega) only [cq_gi, cq_gr, cq_a, cq_s, cq_p, cq_pr, cq_is, cq_ar, cq_ab, cq_ln, xq_nz, Option.bind_some, xup2_n, xup2_s, Int.toNat_natCast, Int.reduceToNat, if_pos, if_neg, true_and, and_true, and_self, eq_self, if_true, reduceIte, not_true_eq_false, not_false_eq_true, or_true, true_or, s83 hs, e]
theorem st_138a (hs : cSs S) (hp : cPs G) (h3 : G 83 3 = (u : Int)) (h4 : G 83 4 = (fa : Int)) (hu : 278 < u) (us : S u = (1, 6, 20)) (us3 : S (u + 3) = (2, 3, 8)) (w10 : G u 10 = ((u + 3 : Nat) : Int)) (hl : l < 8) (hpr : G (u + 3) l = (p : Int)) (fs : S fa = (2, 10, fn)) (hpn : p < fn) (hx : G fa p = (x : Int)) (h6 : G 83 6 = (st : Int)) (hst : st < 8) (h88 : G 88 st = (cu : Int)) : c138a f 83 (l : Int) (S, G, m) = c138_30 f f 83 (l : Int) x (cu : Int) (S, G, m) := by
  unfold c138a
  simp (disch := omega) only [cq_gi, cq_gr, cq_a, cq_s, cq_p, cq_pr, cq_is, cq_ar, cq_ab, cq_ln, xq_nz, Option.bind_some, xup2_n, xup2_s, Int.toNat_natCast, Int.reduceToNat, if_pos, if_neg, true_and, and_true, and_self, eq_self, if_true, reduceIte, not_true_eq_false, not_false_eq_true, or_true, true_or, s83 hs, s88 hs, p83_9 hp, h3, h4, us, us3, w10, hpr, fs, hx, h6, h88]
theorem fit_84 {r : pRw} {b' : Nat} {w vl' : Nat → Int} (hT : ∀ y ∈ T, wT1 nv y) (hl : T.length ≤ r.1.length) (hf : fitR T lo hi b w r = some (b', vl')) : (∀ k, b.testBit k = true → vl' k = w k) ∧ b' = b ||| qT T := by
  unfold fitR at hf
  split at hf
  · have := mtc_ok T r.1 b w b' vl' hT hl hf
    exact ⟨this.2.1, this.1⟩
  · cases hf
theorem tb8 {b k : Nat} (hb : b < 2 ^ 8) (hk : b.testBit k = true) : k < 8 := Nat.lt_of_not_le (fun q => by rw [Nat.testBit_lt_two_pow (Nat.lt_of_lt_of_le hb (Nat.pow_le_pow_right (by decide) q))] at hk; cases hk)
theorem k_138l (hf : 600 < f) : ∀ (d i fu : Nat) (G : xG_), i + d = R.length → d < fu → cLv S G u x l st b nv W cap K T R lo hi → G 90 st = (la : Int) → isRn R T b vl fi la → (∀ k, b.testBit k = true → G 84 k = vl k) → (∀ j, j < i → fitR T lo hi b vl (R.getD j dRw) = none) → ∃ v G', c138_30 f fu 83 (l : Int) x (i : Int) (S, G, m) = some (v, (S, G', m)) ∧ (∀ a j, a ≠ 84 → G' a j = G a j) ∧ (∀ k, b.testBit k = true → G' 84 k = G 84 k) ∧ (v = 0 ∨ v = 1) ∧ (v = 1 ↔ ∀ j, j < R.length → fitR T lo hi b vl (R.getD j dRw) = none) := by
  intro d
  have outl : ∀ {G : xG_}, cLv S G u x l st b nv W cap K T R lo hi → isRn R T b vl fi la → ∀ j, j < R.length → la ≤ j → fitR T lo hi b vl (R.getD j dRw) = none := fun h hrn j hj hlj => by
    obtain ⟨h1, h2, h3, h4, h5', h6, _⟩ := h
    obtain ⟨kl, kl1, kl2⟩ := hrn.2.2
    cases hq : fitR T lo hi b vl (R.getD j dRw) with
    | none => rfl
    | some z =>
      have := (kl2 j hj (kl1.fit h6 (by rw [(h3.2.2.2.2.2.2.2 j hj).1, h5']) hq)).2
      omega
  induction d with
  | zero =>
    intro i fu G e1 e2 h h90 hrn hv hn
    obtain ⟨fu, rfl⟩ : ∃ t, fu = t + 1 := ⟨fu - 1, by omega⟩
    exact ⟨1, G, st_138z (r30 := c138_30 f fu) h.1.1 h.1.2.1 h.2.2.2.2.2.2.2.1 h.2.2.2.2.2.2.2.2.1 h90 (by have := hrn.2.1; omega), fun _ _ _ => rfl, fun _ _ => rfl, .inr rfl, fun _ j hj => hn j (by omega), fun _ => rfl⟩
  | succ d ih =>
    intro i fu G e1 e2 h h90 hrn hv hn
    obtain ⟨fu, rfl⟩ : ∃ t, fu = t + 1 := ⟨fu - 1, by omega⟩
    have hb := h
    obtain ⟨h1, h2, h3, h4, h5', h6, h7, h8, h9, h10, h11, h12, h13⟩ := h
    have hlc := h3.2.2.2.2.1
    have hcap := h3.2.2.2.2.2.1
    have hi2 : i < R.length := by omega
    have lT : (R.getD i dRw).1.length = T.length := by rw [(h3.2.2.2.2.2.2.2 i hi2).1, h5']
    by_cases hla : la ≤ i
    · refine ⟨1, G, st_138z (r30 := c138_30 f fu) h1.1 h1.2.1 h8 h9 h90 hla, fun _ _ _ => rfl, fun _ _ => rfl, .inr rfl, fun _ j hj => ?_, fun _ => rfl⟩
      by_cases cj : j < i
      · exact hn j cj
      · exact outl hb hrn j hj (by omega)
    · have ei : xwr ((i : Int) + 1) = ((i + 1 : Nat) : Int) := by rw [xwr_g _ (by omega) (by omega)]; omega
      obtain ⟨v, G1, g1, g2, g3⟩ := k_136 (f := f) (m := m) (vl := fun k => G 84 k) (by omega) hb hi2 (fun k _ => rfl)
      have hb1 : cLv S G1 u x l st b nv W cap K T R lo hi := hb.ge (fun a j y _ _ _ _ _ _ _ => g2 a j y)
      have st1 : c138_30 f (fu + 1) 83 (l : Int) x (i : Int) (S, G, m) = _ := st_138n (r30 := c138_30 f fu) h1.1 h1.2.1 h8 h9 h90 (by omega) g1 ei
      rcases g3 with ⟨b', vl', y1, y2, y3⟩ | ⟨y1, y2, y3⟩
      · rw [if_neg (by omega)] at st1
        obtain ⟨f1, f2⟩ := fit_84 h6 (Nat.le_of_eq lT.symm) y1
        obtain ⟨v2, w1, _⟩ := fit_xt h6 (Nat.le_of_eq lT.symm) hv y1
        refine ⟨0, G1, st1, g2, fun k hk => by rw [y3 k (tb8 h11 hk), f1 k hk], .inl rfl, fun y => by omega, fun y => ?_⟩
        rw [y i hi2] at w1
        cases w1
      · rw [if_pos y1] at st1
        have ni : fitR T lo hi b vl (R.getD i dRw) = none := by
          cases hq : fitR T lo hi b vl (R.getD i dRw) with
          | none => rfl
          | some z =>
            obtain ⟨z1, z2⟩ := z
            obtain ⟨v4, w1, _⟩ := fit_xt (v := fun k => G 84 k) h6 (Nat.le_of_eq lT.symm) (fun k hk => (hv k hk).symm) hq
            rw [y2] at w1
            cases w1
        obtain ⟨v2, G2, i1, i2, i3, i4, i5⟩ := ih (i + 1) fu G1 (by omega) (by omega) hb1 (by rw [g2 _ _ (by omega)]; exact h90) hrn (fun k hk => by rw [y3 k hk, hv k hk]) (fun j hj => by
          by_cases cj : j = i
          · rw [cj]; exact ni
          · exact hn j (by omega))
        exact ⟨v2, G2, st1.trans i1, fun a j y => by rw [i2 a j y, g2 a j y], fun k hk => by rw [i3 k hk, y3 k hk], i4, i5⟩
/-- hasNone() -/
theorem k_138 (hf : 600 < f) (h : cLv S G u x l st b nv W cap K T R lo hi) (hF : cFs S G u l fa fn p x) (hs : R.Pairwise rwLt) (hv : ∀ k, b.testBit k = true → G 84 k = vl k) : ∃ v G', c138 f 83 (l : Int) (S, G, m) = some (v, (S, G', m)) ∧ (∀ a j, a ≠ 84 → a ≠ 88 → a ≠ 89 → a ≠ 90 → a ≠ 91 → G' a j = G a j) ∧ (∀ a j, j ≠ st → 88 ≤ a → a ≤ 90 → G' a j = G a j) ∧ (∀ k, b.testBit k = true → G' 84 k = G 84 k) ∧ (v = 0 ∨ v = 1) ∧ (v = 1 ↔ ∀ j, j < R.length → fitR T lo hi b vl (R.getD j dRw) = none) := by
  obtain ⟨G1, fi, la, g1, g2, g3, g4, g5, g6, g7⟩ := k_134 (f := f) (m := m) hf h hF hs hv
  have hb1 : cLv S G1 u x l st b nv W cap K T R lo hi := h.ge (fun a j _ _ y3 y4 y5 y6 _ _ => g2 a j y3 y4 y5 y6)
  have hu := h.1.2.2.2.1
  have hF1 : cFs S G1 u l fa fn p x := hF.ge hu (g2 _ _ (by omega) (by omega) (by omega) (by omega)) (fun a j y => g2 _ _ (by omega) (by omega) (by omega) (by omega))
  obtain ⟨q1, q2, q3, q4, q5, q6⟩ := hF1
  obtain ⟨h1, h2, h3, h4, h5', h6, h7, h8, h9, h10, h11, h12, h13⟩ := id hb1
  have e := (st_138 h.1.1 g1).trans (st_138a (f := f) (m := m) h1.1 h1.2.1 h1.2.2.1 q1 hu h1.2.2.2.2.1.1 h1.2.2.2.2.1.2.2.2.1 h1.2.2.2.2.2.1.2.2.1 h2.1 q5 q2 q3 q4 h8 h9 g4)
  obtain ⟨kl, kl1, kl2⟩ := g7.2.2
  have hv1 : ∀ k, b.testBit k = true → G1 84 k = vl k := fun k hk => by rw [g2 _ _ (by omega) (by omega) (by omega) (by omega)]; exact hv k hk
  obtain ⟨v, G2, i1, i2, i3, i4, i5⟩ := k_138l (f := f) (m := m) hf (R.length - fi) fi f G1 (by have := g7.1; omega) (by have := h3.2.2.2.2.1; have := h3.2.2.2.2.2.1; omega) hb1 g6 g7 hv1 (fun j hj => by
    have hjl : j < R.length := by have := g7.1; omega
    cases hq : fitR T lo hi b vl (R.getD j dRw) with
    | none => rfl
    | some z =>
      have := (kl2 j hjl (kl1.fit h6 (by rw [(h3.2.2.2.2.2.2.2 j hjl).1, h5']) hq)).1
      omega)
  exact ⟨v, G2, e.trans i1, fun a j y1 y2 y3 y4 y5 => by rw [i2 a j y1, g2 a j y2 y3 y4 y5], fun a j y1 y2 y3 => by rw [i2 a j (by omega), g3 a j y1 y2 y3], fun k hk => by rw [i3 k hk, g2 _ _ (by omega) (by omega) (by omega) (by omega)], i4, i5⟩
/-- hasMore() -/
theorem k_133 (hs : cSs S) (hp : cPs G) (h3 : G 83 3 = (u : Int)) (hu : 278 < u) (us : S u = (1, 6, 20)) (us10 : S (u + 10) = (2, 3, 8)) (w19 : G u 19 = ((u + 10 : Nat) : Int)) (h6 : G 83 6 = (st : Int)) (hst : st < 8) (h5 : G 83 5 = br) (hb : G 87 st = (b : Int)) (hb8 : b < 2 ^ 8) (hbp : G 87 (st + 1) = (bp : Int)) (hbp8 : bp < 2 ^ 8) (hl : G (u + 10) st = (lt : Int)) (hl8 : lt < 2 ^ 8) : ∃ v : Int, c133 f 83 (S, G, m) = some (v, (S, G, m)) ∧ (v = 0 ∨ v = 1) ∧ (v = 1 ↔ ∃ j, bp.testBit j = true ∧ b.testBit j = false ∧ (br ≠ 0 → lt.testBit j = true)) := by
  have es : xwr ((st : Int) + 1) = ((st + 1 : Nat) : Int) := by rw [xwr_g _ (by omega) (by omega)]; omega
  obtain ⟨w, w1, w2, w3⟩ := xandn (a := bp) (b := b) (by omega) (by omega)
  have nz : ∀ z : Nat, z = 0 ↔ ∀ j, z.testBit j = false := fun z => ⟨fun e j => by rw [e, Nat.zero_testBit], fun e => Nat.eq_of_testBit_eq (fun j => by rw [e j, Nat.zero_testBit])⟩
  by_cases c : br = 0
  · have e : c133 f 83 (S, G, m) = c133_49 f (w : Int) (S, G, m) := by
      unfold c133
      rw [c] at h5
      simp (disch := omega) only [cq_gi, cq_gr, cq_a, cq_s, cq_p, cq_pr, cq_is, cq_ar, cq_ab, cq_ln, xq_nz, Option.bind_some, xup2_n, xup2_s, Int.toNat_natCast, Int.reduceToNat, if_pos, if_neg, true_and, and_true, and_self, eq_self, if_true, reduceIte, not_true_eq_false, not_false_eq_true, or_true, true_or, s83 hs, s87 hs, p83_8 hp, h6, es, hb, hbp, h5, w2]
    by_cases cw : w = 0
    · refine ⟨0, by rw [e]; unfold c133_49 c133_57; rw [if_pos (by omega), if_pos (.inl rfl)], .inl rfl, fun y => by omega, fun ⟨j, y1, y2, _⟩ => ?_⟩
      have := (w3 j).mpr ⟨y1, y2⟩
      rw [cw, Nat.zero_testBit] at this
      cases this
    · refine ⟨1, by rw [e]; unfold c133_49 c133_57; rw [if_neg (by omega), if_pos (.inr rfl)], .inr rfl, fun _ => ?_, fun _ => rfl⟩
      obtain ⟨j, hj⟩ : ∃ j, w.testBit j = true := Classical.byContradiction (fun y => cw ((nz w).mpr (fun j => by cases hq : w.testBit j; rfl; exact absurd ⟨j, hq⟩ y)))
      exact ⟨j, ((w3 j).mp hj).1, ((w3 j).mp hj).2, fun y => absurd c y⟩
  · have x1 : xand (w : Int) (lt : Int) = ((w &&& lt : Nat) : Int) := xand_nat (by omega) (by omega)
    have e : c133 f 83 (S, G, m) = c133_49 f ((w &&& lt : Nat) : Int) (S, G, m) := by
      unfold c133
      simp (disch := omega) only [cq_gi, cq_gr, cq_a, cq_s, cq_p, cq_pr, cq_is, cq_ar, cq_ab, cq_ln, xq_nz, Option.bind_some, xup2_n, xup2_s, Int.toNat_natCast, Int.reduceToNat, if_pos, if_neg, true_and, and_true, and_self, eq_self, if_true, reduceIte, not_true_eq_false, not_false_eq_true, or_true, true_or, s83 hs, s87 hs, p83_8 hp, h3, us, us10, w19, h6, es, hb, hbp, h5, c, w2, hl, x1]
    by_cases cw : w &&& lt = 0
    · refine ⟨0, by rw [e]; unfold c133_49 c133_57; rw [if_pos (by omega), if_pos (.inl rfl)], .inl rfl, fun y => by omega, fun ⟨j, y1, y2, y3⟩ => ?_⟩
      have := (nz _).mp cw j
      rw [Nat.testBit_and, (w3 j).mpr ⟨y1, y2⟩, y3 c] at this
      cases this
    · refine ⟨1, by rw [e]; unfold c133_49 c133_57; rw [if_neg (by omega), if_pos (.inr rfl)], .inr rfl, fun _ => ?_, fun _ => rfl⟩
      obtain ⟨j, hj⟩ : ∃ j, (w &&& lt).testBit j = true := Classical.byContradiction (fun y => cw ((nz _).mpr (fun j => by cases hq : (w &&& lt).testBit j; rfl; exact absurd ⟨j, hq⟩ y)))
      rw [Nat.testBit_and, Bool.and_eq_true] at hj
      exact ⟨j, ((w3 j).mp hj.1).1, ((w3 j).mp hj.1).2, fun _ => hj.2⟩
end
end
section
/-! THE CLASS: openVariable(), compares() -/
def c139a (f : Nat) (a0 : Nat) (a1 : Int) (v162 : Int) (R165 : (Int × xT_)) : Option (Int × xT_) := (if ¬ (R165.1) = (-1) then c139_54  f (a0) (xwr ((4) + (xwr ((2) * (a1))))) (xwr ((xwr ((4) + (xwr ((2) * (a1))))) + (1))) (v162) (R165.1) (xwr ((xwr ((4) + (xwr ((2) * (a1))))) + (1))) R165.2 else ((cq_is 9 14 (a0) R165.2).bind fun _ => ((c140 f (a0) (xwr ((xwr ((4) + (xwr ((2) * (a1))))) + (1))) R165.2).bind fun R172 => c139_54  f (a0) (xwr ((4) + (xwr ((2) * (a1))))) (xwr ((xwr ((4) + (xwr ((2) * (a1))))) + (1))) (v162) (R172.1) (xwr ((4) + (xwr ((2) * (a1))))) R172.2)))
theorem c139a_e (f : Nat) (a0 : Nat) (a1 : Int) (T : xT_) : c139 f a0 a1 T = ((cq_gr 9 3 14 (a0) T).bind fun v158 => ((cq_gr 6 9 20 (v158) T).bind fun v160 => ((cq_a 3 (v160) (a1) T).bind fun v162 => (if ¬ (v162) = (61) then c139_111  f (a0) (xwr ((4) + (xwr ((2) * (a1))))) (xwr ((xwr ((4) + (xwr ((2) * (a1))))) + (1))) (v162) T else ((cq_is 9 14 (a0) T).bind fun _ => ((c140 f (a0) (xwr ((4) + (xwr ((2) * (a1))))) T).bind fun R165 => c139a f a0 a1 v162 R165)))))) := rfl
def c139b (f : Nat) (a0 : Nat) (a1 : Int) (v162 : Int) (R172 : (Int × xT_)) : Option (Int × xT_) := c139_54  f (a0) (xwr ((4) + (xwr ((2) * (a1))))) (xwr ((xwr ((4) + (xwr ((2) * (a1))))) + (1))) (v162) (R172.1) (xwr ((4) + (xwr ((2) * (a1))))) R172.2
theorem c139b_e (f : Nat) (a0 : Nat) (a1 : Int) (v162 : Int) (R165 : (Int × xT_)) : c139a f a0 a1 v162 R165 = (if ¬ (R165.1) = (-1) then c139_54  f (a0) (xwr ((4) + (xwr ((2) * (a1))))) (xwr ((xwr ((4) + (xwr ((2) * (a1))))) + (1))) (v162) (R165.1) (xwr ((xwr ((4) + (xwr ((2) * (a1))))) + (1))) R165.2 else ((cq_is 9 14 (a0) R165.2).bind fun _ => ((c140 f (a0) (xwr ((xwr ((4) + (xwr ((2) * (a1))))) + (1))) R165.2).bind fun R172 => c139b f a0 a1 v162 R172))) := rfl
def c139_54a (f : Nat) (x0 : Nat) (x5 : Int) (v129 : Nat) (R131 : (Int × xT_)) : Option (Int × xT_) := ((cq_s 4 (v129) (x5) (R131.1) R131.2).bind fun T138 => ((cq_gr 9 8 14 (x0) T138).bind fun v142 => ((cq_gi 9 6 14 (x0) T138).bind fun v144 => ((cq_a 3 (v142) (xwr ((v144) + (1))) T138).bind fun v146 => ((cq_s 3 (v142) (xwr ((v144) + (1))) (xor_ (v146) (xshl (1) (x5))) T138).bind fun T149 => ((cq_gr 9 0 14 (x0) T149).bind fun v153 => ((cq_a 4 (v153) (x5) T149).bind fun v155 => (if (v155) < (-1000000000000) then c139_110  f (0) T149 else c139_110  f (1) T149))))))))
theorem c139_54a_e (f : Nat) (x0 : Nat) (x2 : Int) (x3 : Int) (x4 : Int) (x5 : Int) (x6 : Int) (T : xT_) : c139_54 f x0 x2 x3 x4 x5 x6 T = (if (x5) = (-1) then c139_111  f (x0) (x2) (x3) (x4) T else ((cq_gr 9 0 14 (x0) T).bind fun v129 => ((cq_is 9 14 (x0) T).bind fun _ => ((c141 f (x0) (x6) T).bind fun R131 => c139_54a f x0 x5 v129 R131)))) := rfl
def c139_111a (f : Nat) (x0 : Nat) (x3 : Int) (x4 : Int) (R103 : (Int × xT_)) : Option (Int × xT_) := ((cq_is 9 14 (x0) R103.2).bind fun _ => ((c141 f (x0) (x3) R103.2).bind fun R109 => (if (R103.1) < (-1000000000000) then c139_143  f  R109.2 else (if (-1000000000000) ≤ (R109.1) then (if ¬ (x4) = (61) then (if ¬ (x4) = (257) then (if ¬ (x4) = (60) then (if ¬ (x4) = (258) then (if ¬ (x4) = (62) then (if (R103.1) < (R109.1) then c139_275  f (0) R109.2 else c139_275  f (1) R109.2) else (if (R103.1) ≤ (R109.1) then c139_275  f (0) R109.2 else c139_275  f (1) R109.2)) else (if (R109.1) < (R103.1) then c139_275  f (0) R109.2 else c139_275  f (1) R109.2)) else (if (R109.1) ≤ (R103.1) then c139_275  f (0) R109.2 else c139_275  f (1) R109.2)) else (if (R103.1) = (R109.1) then c139_275  f (0) R109.2 else c139_275  f (1) R109.2)) else (if ¬ (R103.1) = (R109.1) then c139_275  f (0) R109.2 else c139_275  f (1) R109.2)) else c139_143  f  R109.2))))
theorem c139_111a_e (f : Nat) (x0 : Nat) (x2 : Int) (x3 : Int) (x4 : Int) (T : xT_) : c139_111 f x0 x2 x3 x4 T = ((cq_is 9 14 (x0) T).bind fun _ => ((c141 f (x0) (x2) T).bind fun R103 => c139_111a f x0 x3 x4 R103)) := rfl
def c139_111b (f : Nat) (x4 : Int) (R103 : (Int × xT_)) (R109 : (Int × xT_)) : Option (Int × xT_) := (if (R103.1) < (-1000000000000) then c139_143  f  R109.2 else (if (-1000000000000) ≤ (R109.1) then (if ¬ (x4) = (61) then (if ¬ (x4) = (257) then (if ¬ (x4) = (60) then (if ¬ (x4) = (258) then (if ¬ (x4) = (62) then (if (R103.1) < (R109.1) then c139_275  f (0) R109.2 else c139_275  f (1) R109.2) else (if (R103.1) ≤ (R109.1) then c139_275  f (0) R109.2 else c139_275  f (1) R109.2)) else (if (R109.1) < (R103.1) then c139_275  f (0) R109.2 else c139_275  f (1) R109.2)) else (if (R109.1) ≤ (R103.1) then c139_275  f (0) R109.2 else c139_275  f (1) R109.2)) else (if (R103.1) = (R109.1) then c139_275  f (0) R109.2 else c139_275  f (1) R109.2)) else (if ¬ (R103.1) = (R109.1) then c139_275  f (0) R109.2 else c139_275  f (1) R109.2)) else c139_143  f  R109.2))
theorem c139_111b_e (f : Nat) (x0 : Nat) (x3 : Int) (x4 : Int) (R103 : (Int × xT_)) : c139_111a f x0 x3 x4 R103 = ((cq_is 9 14 (x0) R103.2).bind fun _ => ((c141 f (x0) (x3) R103.2).bind fun R109 => c139_111b f x4 R103 R109)) := rfl
section
variable {f u s l st b nv x : Nat} {S : Nat → Nat × Nat × Nat} {G G1 : xG_} {m : Nat × Nat} {K E : pCd} {vl : Nat → Int} {v w z kd s1 s2 : Int} {R : Int × xT_}
/-- loneVariable() -/
theorem k_91w (hW : cWy S G u K) (hs : s < 20) (hg : cSg G u K s E) (hE : wC nv E) (hnv : nv ≤ 8) : (∃ x : Nat, x < nv ∧ E = [(2, (x : Int))] ∧ c91 f u (s : Int) (S, G, m) = some ((x : Int), (S, G, m))) ∨ (¬ qAl2 E ∧ c91 f u (s : Int) (S, G, m) = some (-1, (S, G, m))) := by
  obtain ⟨A, C, hK, h7, h8⟩ := hg
  have hl := K_len hK
  obtain ⟨_, _, _, u2, ⟨us, us1, us2, us3, us4, us5, us6, us7, us8, _⟩, ⟨w7, w9, w10, w11, w12, w13, w14, w15, _⟩, ⟨k1, k2, k3, k4, k5⟩, hk⟩ := hW
  have e1 : xwr (((A.length + E.length : Nat) : Int) - (A.length : Int)) = (E.length : Int) := by rw [xwr_g _ (by omega) (by omega)]; omega
  by_cases c : E.length = 1
  · have hv := k5 A.length (by omega)
    have hv0 := K_get hK (i := 0) (by omega)
    rw [Nat.add_zero] at hv0
    rw [hv0] at hv
    have hw := hE (E.getD 0 (0, 0)) (by rw [getD_e (by omega)]; exact List.getElem_mem _)
    have e1' : xwr (((A.length + E.length : Nat) : Int) - (A.length : Int)) = 1 := by rw [e1, c]; rfl
    by_cases c2 : (E.getD 0 (0, 0)).1 = 2
    · obtain ⟨x, hx, hxE⟩ := qAl_is hE ⟨c, c2⟩
      have eo : cOp (E.getD 0 (0, 0)) = (2, (x : Int)) := by rw [hxE]; rfl
      rw [eo] at hv
      refine .inl ⟨x, hx, hxE, ?_⟩
      have hv1 := hv.1
      have hv2 : G (u + 12) A.length = (x : Int) := hv.2
      have ex : xwr (x : Int) = (x : Int) := xwr_g _ (by omega) (by omega)
      clear hw hv0 eo e1 hK
      unfold c91 c91_37 c91_58
      simp (disch := omega) only [cq_gi, cq_gr, cq_a, cq_s, cq_p, cq_pr, cq_is, cq_ar, cq_ab, cq_ln, xq_nz, Option.bind_some, xup2_n, xup2_s, Int.toNat_natCast, Int.reduceToNat, if_pos, if_neg, true_and, and_true, and_self, eq_self, if_true, reduceIte, not_true_eq_false, not_false_eq_true, or_true, true_or, us, us7, us8, w14, w15, k1, k2, k3, k4, h7, h8, hv1, hv2, e1', ex, Int.reduceEq]
    · have hne : ¬ (cOp (E.getD 0 (0, 0))).1 = 2 := by
        unfold cOp
        rcases hw with a | a | ⟨a, b⟩
        · rw [if_neg (by omega)]; exact c2
        · exact absurd a.1 c2
        · rw [if_pos a]
          show ¬ (E.getD 0 (0, 0)).2 = 2
          unfold wSg at b
          omega
      refine .inr ⟨fun q => c2 q.2, ?_⟩
      have hv1 := hv.1
      clear hw hv0 e1 hK hv
      unfold c91 c91_36 c91_37 c91_58
      simp (disch := omega) only [cq_gi, cq_gr, cq_a, cq_s, cq_p, cq_pr, cq_is, cq_ar, cq_ab, cq_ln, xq_nz, Option.bind_some, xup2_n, xup2_s, Int.toNat_natCast, Int.reduceToNat, if_pos, if_neg, true_and, and_true, and_self, eq_self, if_true, reduceIte, not_true_eq_false, not_false_eq_true, or_true, true_or, us, us7, us8, w14, w15, k1, k2, k3, k4, h7, h8, hv1, e1', hne]
  · refine .inr ⟨fun q => c q.1, ?_⟩
    have hne : ¬ (E.length : Int) = 1 := by omega
    unfold c91 c91_36 c91_37 c91_58
    simp (disch := omega) only [cq_gi, cq_gr, cq_a, cq_s, cq_p, cq_pr, cq_is, cq_ar, cq_ab, cq_ln, xq_nz, Option.bind_some, xup2_n, xup2_s, Int.toNat_natCast, Int.reduceToNat, if_pos, if_neg, true_and, and_true, and_self, eq_self, if_true, reduceIte, not_true_eq_false, not_false_eq_true, or_true, true_or, us, us7, us8, w14, w15, h7, h8, e1, hne]
theorem st_140n (hs : cSs S) (h3 : G 83 3 = (u : Int)) (us : S u = (1, 6, 20)) (e : c91 f u s1 (S, G, m) = some (-1, (S, G, m))) : c140 f 83 s1 (S, G, m) = some (-1, (S, G, m)) := by
  unfold c140 c140_34 c140_35
  simp (disch := omega) only [cq_gi, cq_gr, cq_a, cq_s, cq_p, cq_pr, cq_is, cq_ar, cq_ab, cq_ln, xq_nz, Option.bind_some, xup2_n, xup2_s, Int.toNat_natCast, Int.reduceToNat, if_pos, if_neg, true_and, and_true, and_self, eq_self, if_true, reduceIte, not_true_eq_false, not_false_eq_true, or_true, true_or, s83 hs, h3, us, e]
theorem st_140v (hs : cSs S) (hp : cPs G) (h3 : G 83 3 = (u : Int)) (us : S u = (1, 6, 20)) (h6 : G 83 6 = (st : Int)) (hst : st < 8) (hb : G 87 st = (b : Int)) (hb8 : b < 2 ^ 8) (hx : x < 8) (e : c91 f u s1 (S, G, m) = some ((x : Int), (S, G, m))) : c140 f 83 s1 (S, G, m) = some (if b.testBit x = true then -1 else (x : Int), (S, G, m)) := by
  have hx1 : ¬ (x : Int) = -1 := by omega
  by_cases q : b.testBit x = true
  · rw [if_pos q]
    have eb : ¬ xand (xshr (b : Int) (x : Int)) 1 = 0 := fun y => by
      rw [(xbit0 (by omega) (by omega)).mp y] at q; cases q
    unfold c140 c140_34 c140_35
    simp (disch := omega) only [cq_gi, cq_gr, cq_a, cq_s, cq_p, cq_pr, cq_is, cq_ar, cq_ab, cq_ln, xq_nz, Option.bind_some, xup2_n, xup2_s, Int.toNat_natCast, Int.reduceToNat, if_pos, if_neg, true_and, and_true, and_self, eq_self, if_true, reduceIte, not_true_eq_false, not_false_eq_true, or_true, true_or, s83 hs, s87 hs, p83_8 hp, h3, us, h6, hb, e, hx1, eb]
  · rw [if_neg q]
    have eb : xand (xshr (b : Int) (x : Int)) 1 = 0 := (xbit0 (by omega) (by omega)).mpr (by cases hq : b.testBit x; rfl; exact absurd hq q)
    unfold c140 c140_35
    simp (disch := omega) only [cq_gi, cq_gr, cq_a, cq_s, cq_p, cq_pr, cq_is, cq_ar, cq_ab, cq_ln, xq_nz, Option.bind_some, xup2_n, xup2_s, Int.toNat_natCast, Int.reduceToNat, if_pos, if_neg, true_and, and_true, and_self, eq_self, if_true, reduceIte, not_true_eq_false, not_false_eq_true, or_true, true_or, s83 hs, s87 hs, p83_8 hp, h3, us, h6, hb, e, hx1, eb]
theorem st_139o (hs : cSs S) (h3 : G 83 3 = (u : Int)) (us : S u = (1, 6, 20)) (us2 : S (u + 2) = (2, 3, 8)) (w9 : G u 9 = ((u + 2 : Nat) : Int)) (hl : l < 8) (hk : G (u + 2) l = kd) (q1 : xwr (4 + xwr (2 * (l : Int))) = s1) (q2 : xwr (s1 + 1) = s2) (hne : kd ≠ 61) : c139 f 83 (l : Int) (S, G, m) = c139_111 f 83 s1 s2 kd (S, G, m) := by
  unfold c139
  simp (disch := omega) only [cq_gi, cq_gr, cq_a, cq_s, cq_p, cq_pr, cq_is, cq_ar, cq_ab, cq_ln, xq_nz, Option.bind_some, xup2_n, xup2_s, Int.toNat_natCast, Int.reduceToNat, if_pos, if_neg, true_and, and_true, and_self, eq_self, if_true, reduceIte, not_true_eq_false, not_false_eq_true, or_true, true_or, s83 hs, h3, us, us2, w9, hk, hne, q1, q2]
theorem st_139e (hs : cSs S) (h3 : G 83 3 = (u : Int)) (us : S u = (1, 6, 20)) (us2 : S (u + 2) = (2, 3, 8)) (w9 : G u 9 = ((u + 2 : Nat) : Int)) (hl : l < 8) (hk : G (u + 2) l = 61) (q1 : xwr (4 + xwr (2 * (l : Int))) = s1) (q2 : xwr (s1 + 1) = s2) (e : c140 f 83 s1 (S, G, m) = some R) : c139 f 83 (l : Int) (S, G, m) = c139a f 83 (l : Int) 61 R := by
  rw [c139a_e]
  simp (disch := omega) only [cq_gi, cq_gr, cq_a, cq_s, cq_p, cq_pr, cq_is, cq_ar, cq_ab, cq_ln, xq_nz, Option.bind_some, xup2_n, xup2_s, Int.toNat_natCast, Int.reduceToNat, if_pos, if_neg, true_and, and_true, and_self, eq_self, if_true, reduceIte, not_true_eq_false, not_false_eq_true, or_true, true_or, s83 hs, h3, us, us2, w9, hk, q1, e]
theorem st_139l (q1 : xwr (4 + xwr (2 * (l : Int))) = s1) (q2 : xwr (s1 + 1) = s2) (hv : v ≠ -1) : c139a f 83 (l : Int) 61 (v, (S, G, m)) = c139_54 f 83 s1 s2 61 v s2 (S, G, m) := by
  rw [c139b_e]
  simp (disch := omega) only [cq_gi, cq_gr, cq_a, cq_s, cq_p, cq_pr, cq_is, cq_ar, cq_ab, cq_ln, xq_nz, Option.bind_some, xup2_n, xup2_s, Int.toNat_natCast, Int.reduceToNat, if_pos, if_neg, true_and, and_true, and_self, eq_self, if_true, reduceIte, not_true_eq_false, not_false_eq_true, or_true, true_or, hv, q1, q2]
theorem st_139r (hs : cSs S) (q1 : xwr (4 + xwr (2 * (l : Int))) = s1) (q2 : xwr (s1 + 1) = s2) (e : c140 f 83 s2 (S, G, m) = some (v, (S, G, m))) : c139a f 83 (l : Int) 61 (-1, (S, G, m)) = c139_54 f 83 s1 s2 61 v s1 (S, G, m) := by
  rw [c139b_e]
  unfold c139b
  simp (disch := omega) only [cq_gi, cq_gr, cq_a, cq_s, cq_p, cq_pr, cq_is, cq_ar, cq_ab, cq_ln, xq_nz, Option.bind_some, xup2_n, xup2_s, Int.toNat_natCast, Int.reduceToNat, if_pos, if_neg, true_and, and_true, and_self, eq_self, if_true, reduceIte, not_true_eq_false, not_false_eq_true, or_true, true_or, s83 hs, q1, q2, e]
theorem st_54n {s3 : Int} : c139_54 f 83 s1 s2 kd (-1) s3 (S, G, m) = c139_111 f 83 s1 s2 kd (S, G, m) := by
  unfold c139_54
  simp (disch := omega) only [cq_gi, cq_gr, cq_a, cq_s, cq_p, cq_pr, cq_is, cq_ar, cq_ab, cq_ln, xq_nz, Option.bind_some, xup2_n, xup2_s, Int.toNat_natCast, Int.reduceToNat, if_pos, if_neg, true_and, and_true, and_self, eq_self, if_true, reduceIte, not_true_eq_false, not_false_eq_true, or_true, true_or, s83]
theorem st_54v {s3 : Int} (hs : cSs S) (hs1 : cPs G) (hp : cPs G1) (hx : x < 8) (h6 : G1 83 6 = (st : Int)) (hst : st < 8) (es : xwr ((st : Int) + 1) = ((st + 1 : Nat) : Int)) (hb : G1 87 (st + 1) = (b : Int)) (hb8 : b < 2 ^ 8) (e : c141 f 83 s3 (S, G, m) = some (w, (S, G1, m))) : c139_54 f 83 s1 s2 kd (x : Int) s3 (S, G, m) = some (if w < -1000000000000 then 0 else 1, (S, xup2 (xup2 G1 84 x w) 87 (st + 1) ((b ||| 2 ^ x : Nat) : Int), m)) := by
  have hx1 : ¬ (x : Int) = -1 := by omega
  have eo : xor_ (b : Int) (xshl 1 (x : Int)) = ((b ||| 2 ^ x : Nat) : Int) := xorb (by omega) (by omega)
  by_cases q : w < -1000000000000
  · rw [if_pos q]
    unfold c139_54 c139_110
    simp (disch := omega) only [cq_gi, cq_gr, cq_a, cq_s, cq_p, cq_pr, cq_is, cq_ar, cq_ab, cq_ln, xq_nz, Option.bind_some, xup2_n, xup2_s, Int.toNat_natCast, Int.reduceToNat, if_pos, if_neg, true_and, and_true, and_self, eq_self, if_true, reduceIte, not_true_eq_false, not_false_eq_true, or_true, true_or, s83 hs, s84 hs, s87 hs, p83_0 hs1, p83_0 hp, p83_8 hp, h6, es, hb, e, hx1, eo, q]
  · rw [if_neg q]
    unfold c139_54 c139_110
    simp (disch := omega) only [cq_gi, cq_gr, cq_a, cq_s, cq_p, cq_pr, cq_is, cq_ar, cq_ab, cq_ln, xq_nz, Option.bind_some, xup2_n, xup2_s, Int.toNat_natCast, Int.reduceToNat, if_pos, if_neg, true_and, and_true, and_self, eq_self, if_true, reduceIte, not_true_eq_false, not_false_eq_true, or_true, true_or, s83 hs, s84 hs, s87 hs, p83_0 hs1, p83_0 hp, p83_8 hp, h6, es, hb, e, hx1, eo, q]
end
end
section
/-! THE CLASS: compares() whole -/
def cmB (kd a b : Int) : Int := if kd = 61 then (if a = b then 1 else 0) else if kd = 257 then (if a = b then 0 else 1) else if kd = 60 then (if b ≤ a then 0 else 1) else if kd = 258 then (if b < a then 0 else 1) else if kd = 62 then (if a ≤ b then 0 else 1) else (if a < b then 0 else 1)
theorem cmB_c {kd a b : Int} (hk : kd = 61 ∨ kd = 257 ∨ kd = 60 ∨ kd = 258 ∨ kd = 62 ∨ kd = 259) : (cmB kd a b = 0 ∨ cmB kd a b = 1) ∧ (cmB kd a b = 1 ↔ cCm kd a b) := by
  unfold cmB cCm
  rcases hk with rfl | rfl | rfl | rfl | rfl | rfl <;> simp only [Int.reduceEq, if_true, if_false, reduceIte, false_implies, true_implies, and_true, true_and, and_self] <;> split <;> constructor <;> omega
section
variable {f u s l st b nv x : Nat} {S : Nat → Nat × Nat × Nat} {G G1 G2 : xG_} {m : Nat × Nat} {K E : pCd} {vl : Nat → Int} {v w kd s1 s2 : Int}
theorem st_111 (hs : cSs S) (e1 : c141 f 83 s1 (S, G, m) = some (v, (S, G1, m))) (e2 : c141 f 83 s2 (S, G1, m) = some (w, (S, G2, m))) : c139_111 f 83 s1 s2 kd (S, G, m) = some (if v < -1000000000000 ∨ w < -1000000000000 then 0 else cmB kd v w, (S, G2, m)) := by
  have base : c139_111 f 83 s1 s2 kd (S, G, m) = c139_111b f kd (v, (S, G1, m)) (w, (S, G2, m)) := by
    rw [c139_111a_e]
    simp (disch := omega) only [cq_gi, cq_gr, cq_a, cq_s, cq_p, cq_pr, cq_is, cq_ar, cq_ab, cq_ln, xq_nz, Option.bind_some, xup2_n, xup2_s, Int.toNat_natCast, Int.reduceToNat, if_pos, if_neg, true_and, and_true, and_self, eq_self, if_true, reduceIte, not_true_eq_false, not_false_eq_true, or_true, true_or, s83 hs, e1]
    rw [c139_111b_e]
    simp (disch := omega) only [cq_gi, cq_gr, cq_a, cq_s, cq_p, cq_pr, cq_is, cq_ar, cq_ab, cq_ln, xq_nz, Option.bind_some, xup2_n, xup2_s, Int.toNat_natCast, Int.reduceToNat, if_pos, if_neg, true_and, and_true, and_self, eq_self, if_true, reduceIte, not_true_eq_false, not_false_eq_true, or_true, true_or, s83 hs, e2]
  rw [base]
  unfold c139_111b c139_143 c139_275
  by_cases q1 : v < -1000000000000
  · simp (disch := omega) only [cq_gi, cq_gr, cq_a, cq_s, cq_p, cq_pr, cq_is, cq_ar, cq_ab, cq_ln, xq_nz, Option.bind_some, xup2_n, xup2_s, Int.toNat_natCast, Int.reduceToNat, if_pos, if_neg, true_and, and_true, and_self, eq_self, if_true, reduceIte, not_true_eq_false, not_false_eq_true, or_true, true_or, q1]
  · by_cases q2 : w < -1000000000000
    · simp (disch := omega) only [cq_gi, cq_gr, cq_a, cq_s, cq_p, cq_pr, cq_is, cq_ar, cq_ab, cq_ln, xq_nz, Option.bind_some, xup2_n, xup2_s, Int.toNat_natCast, Int.reduceToNat, if_pos, if_neg, true_and, and_true, and_self, eq_self, if_true, reduceIte, not_true_eq_false, not_false_eq_true, or_true, true_or, q1, q2]
    · have hn : ¬ (v < -1000000000000 ∨ w < -1000000000000) := fun y => y.elim q1 q2
      have hw : -1000000000000 ≤ w := by omega
      simp only [if_neg q1, if_pos hw, if_neg hn]
      unfold cmB
      by_cases k1 : kd = 61
      · simp only [k1, if_true, not_true_eq_false, if_false]
        by_cases z : v = w <;> simp [z]
      · by_cases k2 : kd = 257
        · simp only [k2, if_true, not_true_eq_false, if_false, Int.reduceEq, not_false_eq_true]
          by_cases z : v = w <;> simp [z]
        · by_cases k3 : kd = 60
          · simp only [k3, if_true, not_true_eq_false, if_false, Int.reduceEq, not_false_eq_true]
            by_cases z : w ≤ v <;> simp [z]
          · by_cases k4 : kd = 258
            · simp only [k4, if_true, not_true_eq_false, if_false, Int.reduceEq, not_false_eq_true]
              by_cases z : w < v <;> simp [z]
            · by_cases k5 : kd = 62
              · simp only [k5, if_true, not_true_eq_false, if_false, Int.reduceEq, not_false_eq_true]
                by_cases z : v ≤ w <;> simp [z]
              · simp only [k1, k2, k3, k4, k5, not_false_eq_true, if_true, if_false]
                by_cases z : v < w <;> simp [z]
/-- what a compare does: none if it doesn't hold -/
def cmpV (y : pLt) (b : Nat) (vl : Nat → Int) : Option (Nat × (Nat → Int)) :=
  if y.2.1 = 61 ∧ qAl2 y.2.2.2.2.1 ∧ b.testBit (y.2.2.2.2.1.getD 0 (0, 0)).2.toNat = false then (qEv vl y.2.2.2.2.2).bind fun z => some (b ||| 2 ^ (y.2.2.2.2.1.getD 0 (0, 0)).2.toNat, fUpd vl (y.2.2.2.2.1.getD 0 (0, 0)).2.toNat z)
  else if y.2.1 = 61 ∧ qAl2 y.2.2.2.2.2 ∧ b.testBit (y.2.2.2.2.2.getD 0 (0, 0)).2.toNat = false then (qEv vl y.2.2.2.2.1).bind fun z => some (b ||| 2 ^ (y.2.2.2.2.2.getD 0 (0, 0)).2.toNat, fUpd vl (y.2.2.2.2.2.getD 0 (0, 0)).2.toNat z)
  else (qEv vl y.2.2.2.2.1).bind fun a => (qEv vl y.2.2.2.2.2).bind fun c => if cmB y.2.1 a c = 1 then some (b, vl) else none
variable {y : pLt}
theorem cVl.sub {b' : Nat} (h : cVl G b vl) (hs : qSub b' b) : cVl G b' vl := fun k hk => h k ((qSub_t.mp hs) k hk)
/-- all that compares() reads -/
def cCp (S : Nat → Nat × Nat × Nat) (G : xG_) (u l st b nv : Nat) (K : pCd) (y : pLt) : Prop := cWy S G u K ∧ l < 8 ∧ nv ≤ 8 ∧ G (u + 2) l = y.2.1 ∧ (y.2.1 = 61 ∨ y.2.1 = 257 ∨ y.2.1 = 60 ∨ y.2.1 = 258 ∨ y.2.1 = 62 ∨ y.2.1 = 259) ∧ cSg G u K (4 + 2 * l) y.2.2.2.2.1 ∧ cSg G u K (5 + 2 * l) y.2.2.2.2.2 ∧ (wEx nv y.2.2.2.2.1 ∧ dB 12 y.2.2.2.2.1) ∧ (wEx nv y.2.2.2.2.2 ∧ dB 12 y.2.2.2.2.2) ∧ G 83 6 = (st : Int) ∧ st < 8 ∧ G 87 st = (b : Int) ∧ G 87 (st + 1) = (b : Int) ∧ b < 2 ^ 8 ∧ y.1 = 3 ∧ qBh y b ≠ none
theorem cSg.fx {E : pCd} {G' : xG_} {s : Nat} (h : cSg G u K s E) (hf : ∀ a j, u < a → G' a j = G a j) : cSg G' u K s E := by
  obtain ⟨A, C, h1, h2, h3⟩ := h
  exact ⟨A, C, h1, by rw [hf _ _ (by omega)]; exact h2, by rw [hf _ _ (by omega)]; exact h3⟩
theorem eVl_lt {o : Option Int} {v : Int} (h : eVl o v) : (v < -1000000000000 ↔ o = none) := by
  cases o with
  | none => exact ⟨fun _ => rfl, fun _ => h⟩
  | some x =>
    have h' : v = x ∧ vOk x := h
    obtain ⟨rfl, hx⟩ := h'
    refine ⟨fun q => ?_, fun q => by cases q⟩
    rcases hx with z | z <;> omega
theorem k_139 (hf : 3010 < f) (h : cCp S G u l st b nv K y) (hV : cVl G b vl) : ∃ v G', c139 f 83 (l : Int) (S, G, m) = some (v, (S, G', m)) ∧ (∀ a j, a ≠ 84 → a ≠ 92 → ¬ (a = 87 ∧ j = st + 1) → G' a j = G a j) ∧ (∀ k, b.testBit k = true → G' 84 k = G 84 k) ∧ ((v = 1 ∧ ∃ b' vl', cmpV y b vl = some (b', vl') ∧ G' 87 (st + 1) = ((b' : Nat) : Int) ∧ cVl G' b' vl') ∨ (v = 0 ∧ cmpV y b vl = none)) := by
  obtain ⟨hW, hl, hnv, hk, hkd, sg1, sg2, ⟨wx1, d1⟩, ⟨wx2, d2⟩, h6, hst, hb, hb1, hb8, h3y, hq⟩ := h
  obtain ⟨a1, a2, a3, a4, a5, a6, a7, a8⟩ := id hW
  have q1 : xwr (4 + xwr (2 * (l : Int))) = ((4 + 2 * l : Nat) : Int) := by rw [xwr_g (2 * (l : Int)) (by omega) (by omega), xwr_g _ (by omega) (by omega)]; omega
  have q2 : xwr (((4 + 2 * l : Nat) : Int) + 1) = ((5 + 2 * l : Nat) : Int) := by rw [xwr_g _ (by omega) (by omega)]; omega
  have es : xwr ((st : Int) + 1) = ((st + 1 : Nat) : Int) := by rw [xwr_g _ (by omega) (by omega)]; omega
  have hlv : qLv y = qVm y.2.2.2.2.1 ||| qVm y.2.2.2.2.2 := by unfold qLv; rw [if_pos h3y]
  have hq' : qSub (qLv y) b ∨ (y.2.1 = 61 ∧ (qAl2 y.2.2.2.2.1 ∧ qSub (qVm y.2.2.2.2.2) b ∨ qAl2 y.2.2.2.2.2 ∧ qSub (qVm y.2.2.2.2.1) b)) := by
    unfold qBh at hq
    by_cases c : y.1 = 1 ∨ qSub (qLv y) b
    · rcases c with c | c
      · omega
      · exact .inl c
    · rw [if_neg c] at hq
      by_cases c2 : y.1 = 3 ∧ y.2.1 = 61 ∧ (qAl2 y.2.2.2.2.1 ∧ qSub (qVm y.2.2.2.2.2) b ∨ qAl2 y.2.2.2.2.2 ∧ qSub (qVm y.2.2.2.2.1) b)
      · exact .inr ⟨c2.2.1, c2.2.2⟩
      · rw [if_neg c2] at hq
        exact absurd rfl hq
  -- both sides known
  have both : qSub (qVm y.2.2.2.2.1) b → qSub (qVm y.2.2.2.2.2) b → c139 f 83 (l : Int) (S, G, m) = c139_111 f 83 ((4 + 2 * l : Nat) : Int) ((5 + 2 * l : Nat) : Int) y.2.1 (S, G, m) → ¬ (y.2.1 = 61 ∧ qAl2 y.2.2.2.2.1 ∧ b.testBit (y.2.2.2.2.1.getD 0 (0, 0)).2.toNat = false) → ¬ (y.2.1 = 61 ∧ qAl2 y.2.2.2.2.2 ∧ b.testBit (y.2.2.2.2.2.getD 0 (0, 0)).2.toNat = false) → ∃ v G', c139 f 83 (l : Int) (S, G, m) = some (v, (S, G', m)) ∧ (∀ a j, a ≠ 84 → a ≠ 92 → ¬ (a = 87 ∧ j = st + 1) → G' a j = G a j) ∧ (∀ k, b.testBit k = true → G' 84 k = G 84 k) ∧ ((v = 1 ∧ ∃ b' vl', cmpV y b vl = some (b', vl') ∧ G' 87 (st + 1) = ((b' : Nat) : Int) ∧ cVl G' b' vl') ∨ (v = 0 ∧ cmpV y b vl = none)) := fun s1 s2 e n1 n2 => by
    obtain ⟨v1, G1, g1, g2, g3⟩ := k_141w (f := f) (m := m) (s := 4 + 2 * l) hf (by omega) hW sg1 wx1 d1 (hV.sub s1)
    have hW1 : cWy S G1 u K := hW.ge (fun a j _ _ _ _ _ _ z _ => g2 a j z)
    obtain ⟨v2, G2, i1, i2, i3⟩ := k_141w (f := f) (m := m) (s := 5 + 2 * l) hf (by omega) hW1 (sg2.fx (fun a j z => g2 a j (by omega))) wx2 d2 ((hV.sub s2).ge (fun k => g2 _ _ (by omega)))
    have z : ∀ a j, a ≠ 92 → G2 a j = G a j := fun a j y => by rw [i2 a j y, g2 a j y]
    have e' := e.trans (st_111 (kd := y.2.1) a1 g1 i1)
    have ev : cmpV y b vl = (qEv vl y.2.2.2.2.1).bind fun a => (qEv vl y.2.2.2.2.2).bind fun c => if cmB y.2.1 a c = 1 then some (b, vl) else none := by
      unfold cmpV
      rw [if_neg n1, if_neg n2]
    refine ⟨_, G2, e', fun a j _ y2 _ => z a j y2, fun k _ => z _ _ (by omega), ?_⟩
    by_cases c1 : v1 < -1000000000000
    · rw [if_pos (.inl c1), ev, (eVl_lt g3).mp c1]
      exact .inr ⟨rfl, rfl⟩
    · by_cases c2 : v2 < -1000000000000
      · rw [if_pos (.inr c2), ev, (eVl_lt i3).mp c2]
        refine .inr ⟨rfl, ?_⟩
        cases qEv vl y.2.2.2.2.1 <;> rfl
      · rw [if_neg (fun q => q.elim c1 c2)]
        cases o1 : qEv vl y.2.2.2.2.1 with
        | none => exact absurd ((eVl_lt g3).mpr o1) c1
        | some x1 =>
          cases o2 : qEv vl y.2.2.2.2.2 with
          | none => exact absurd ((eVl_lt i3).mpr o2) c2
          | some x2 =>
            rw [o1] at g3
            rw [o2] at i3
            obtain ⟨rfl, _⟩ : v1 = x1 ∧ vOk x1 := g3
            obtain ⟨rfl, _⟩ : v2 = x2 ∧ vOk x2 := i3
            rw [o1, o2] at ev
            have ev' : cmpV y b vl = if cmB y.2.1 v1 v2 = 1 then some (b, vl) else none := ev
            rcases (cmB_c (a := v1) (b := v2) hkd).1 with q | q
            · rw [ev', q]
              exact .inr ⟨rfl, rfl⟩
            · rw [ev', q]
              exact .inl ⟨rfl, b, vl, rfl, by rw [z _ _ (by omega)]; exact hb1, hV.ge (fun k => z _ _ (by omega))⟩
  -- one side is a VARIABLE that is open
  have lone : ∀ (x s3 : Nat) (E : pCd), x < 8 → b.testBit x = false → s3 < 20 → cSg G u K s3 E → wEx nv E → dB 12 E → qSub (qVm E) b → c139 f 83 (l : Int) (S, G, m) = c139_54 f 83 ((4 + 2 * l : Nat) : Int) ((5 + 2 * l : Nat) : Int) 61 (x : Int) (s3 : Int) (S, G, m) → cmpV y b vl = ((qEv vl E).bind fun z => some (b ||| 2 ^ x, fUpd vl x z)) → ∃ v G', c139 f 83 (l : Int) (S, G, m) = some (v, (S, G', m)) ∧ (∀ a j, a ≠ 84 → a ≠ 92 → ¬ (a = 87 ∧ j = st + 1) → G' a j = G a j) ∧ (∀ k, b.testBit k = true → G' 84 k = G 84 k) ∧ ((v = 1 ∧ ∃ b' vl', cmpV y b vl = some (b', vl') ∧ G' 87 (st + 1) = ((b' : Nat) : Int) ∧ cVl G' b' vl') ∨ (v = 0 ∧ cmpV y b vl = none)) := fun x s3 E hx hbx hs3 sg wx dx hsub e ev => by
    obtain ⟨v1, G1, g1, g2, g3⟩ := k_141w (f := f) (m := m) (s := s3) hf hs3 hW sg wx dx (hV.sub hsub)
    have hW1 : cWy S G1 u K := hW.ge (fun a j _ _ _ _ _ _ z _ => g2 a j z)
    have e' := e.trans (st_54v a1 a2 hW1.2.1 hx (by rw [g2 _ _ (by omega)]; exact h6) hst es (by rw [g2 _ _ (by omega)]; exact hb1) hb8 g1)
    have kx : ∀ k, b.testBit k = true → k ≠ x := fun k hk q => by rw [q, hbx] at hk; cases hk
    refine ⟨_, _, e', fun a j y1 y2 y3 => by rw [xup2_n y3, xup2_n (by omega), g2 a j y2], fun k hk => by rw [xup2_n (by omega), xup2_n (by have := kx k hk; omega), g2 _ _ (by omega)], ?_⟩
    by_cases c1 : v1 < -1000000000000
    · rw [if_pos c1, ev, (eVl_lt g3).mp c1]
      exact .inr ⟨rfl, rfl⟩
    · rw [if_neg c1]
      cases o1 : qEv vl E with
      | none => exact absurd ((eVl_lt g3).mpr o1) c1
      | some x1 =>
        rw [o1] at g3 ev
        obtain ⟨rfl, hv1⟩ : v1 = x1 ∧ vOk x1 := g3
        refine .inl ⟨rfl, b ||| 2 ^ x, fUpd vl x v1, ev, xup2_s _ _ _ _, fun k hk => ?_⟩
        unfold fUpd
        by_cases ck : k = x
        · rw [if_pos ck, ck, xup2_n (by omega), xup2_s]
          exact ⟨hx, rfl, hv1⟩
        · rw [Nat.testBit_or, Nat.testBit_two_pow_of_ne (fun y => ck y.symm), Bool.or_false] at hk
          rw [if_neg ck, xup2_n (by omega), xup2_n (by omega), g2 _ _ (by omega)]
          exact hV k hk
  by_cases ck : y.2.1 = 61
  · have e91a := k_91w (f := f) (m := m) (s := 4 + 2 * l) hW (by omega) sg1 wx1.1 hnv
    have e91b := k_91w (f := f) (m := m) (s := 5 + 2 * l) hW (by omega) sg2 wx2.1 hnv
    rw [ck] at hk
    have sub1 : ∀ {x : Nat} {E : pCd}, E = [(2, (x : Int))] → b.testBit x = true → qSub (qVm E) b := fun {x E} hE hb => by
      rw [hE]
      show ((if (2 : Int) = 2 then 2 ^ (x : Int).toNat else 0) ||| 0) ||| b = b
      rw [if_pos rfl, Int.toNat_natCast, Nat.or_zero]
      refine qSub_t.mpr (fun j hj => ?_)
      rw [Nat.testBit_two_pow] at hj
      rw [← of_decide_eq_true hj]; exact hb
    have sub0 : ∀ {x : Nat} {E : pCd}, E = [(2, (x : Int))] → qSub (qVm E) b → b.testBit x = true := fun {x E} hE hs => by
      refine qSub_t.mp hs x ?_
      rw [hE]
      show ((if (2 : Int) = 2 then 2 ^ (x : Int).toNat else 0) ||| 0).testBit x = true
      rw [if_pos rfl, Int.toNat_natCast, Nat.or_zero, Nat.testBit_two_pow_self]
    have al : ∀ {x : Nat} {E : pCd}, E = [(2, (x : Int))] → qAl2 E ∧ (E.getD 0 (0, 0)).2.toNat = x := fun {x E} hE => by rw [hE]; exact ⟨⟨rfl, rfl⟩, rfl⟩
    -- right side, the left isn't open
    have right : c140 f 83 ((4 + 2 * l : Nat) : Int) (S, G, m) = some (-1, (S, G, m)) → (¬ qAl2 y.2.2.2.2.1 ∨ qSub (qVm y.2.2.2.2.1) b) → (qAl2 y.2.2.2.2.1 → b.testBit (y.2.2.2.2.1.getD 0 (0, 0)).2.toNat = true) → ∃ v G', c139 f 83 (l : Int) (S, G, m) = some (v, (S, G', m)) ∧ (∀ a j, a ≠ 84 → a ≠ 92 → ¬ (a = 87 ∧ j = st + 1) → G' a j = G a j) ∧ (∀ k, b.testBit k = true → G' 84 k = G 84 k) ∧ ((v = 1 ∧ ∃ b' vl', cmpV y b vl = some (b', vl') ∧ G' 87 (st + 1) = ((b' : Nat) : Int) ∧ cVl G' b' vl') ∨ (v = 0 ∧ cmpV y b vl = none)) := fun e0 hL hL2 => by
      have n1 : ¬ (y.2.1 = 61 ∧ qAl2 y.2.2.2.2.1 ∧ b.testBit (y.2.2.2.2.1.getD 0 (0, 0)).2.toNat = false) := fun q => by
        have := hL2 q.2.1
        rw [q.2.2] at this; cases this
      rcases e91b with ⟨x, x1, x2, x3⟩ | ⟨x1, x2⟩
      · have e140 := st_140v a1 a2 a3 a5.1 h6 hst hb hb8 (by omega : x < 8) x3
        obtain ⟨alx, ax⟩ := al x2
        by_cases cb : b.testBit x = true
        · rw [if_pos cb] at e140
          have e := (st_139e a1 a3 a5.1 a5.2.2.1 a6.2.1 hl hk q1 q2 e0).trans ((st_139r a1 q1 q2 e140).trans st_54n)
          rw [← ck] at e
          have hR := sub1 x2 cb
          have hLs : qSub (qVm y.2.2.2.2.1) b := by
            rcases hq' with q | ⟨_, ⟨q, _⟩ | ⟨_, q⟩⟩
            · rw [hlv] at q; exact (qSub_or q).1
            · exact hL.elim (fun z => absurd q z) id
            · exact q
          exact both hLs hR e n1 (fun q => by rw [ax, cb] at q; cases q.2.2)
        · have cb' : b.testBit x = false := by cases hz : b.testBit x; rfl; exact absurd hz cb
          rw [if_neg cb] at e140
          have e := (st_139e a1 a3 a5.1 a5.2.2.1 a6.2.1 hl hk q1 q2 e0).trans (st_139r a1 q1 q2 e140)
          have hLs : qSub (qVm y.2.2.2.2.1) b := by
            rcases hq' with q | ⟨_, ⟨q, _⟩ | ⟨_, q⟩⟩
            · rw [hlv] at q; exact (qSub_or q).1
            · exact hL.elim (fun z => absurd q z) id
            · exact q
          exact lone x (4 + 2 * l) y.2.2.2.2.1 (by omega) cb' (by omega) sg1 wx1 d1 hLs e (by
            unfold cmpV
            rw [if_neg n1, ax, if_pos ⟨ck, alx, cb'⟩])
      · have e140 := st_140n a1 a3 a5.1 x2
        have e := (st_139e a1 a3 a5.1 a5.2.2.1 a6.2.1 hl hk q1 q2 e0).trans ((st_139r a1 q1 q2 e140).trans st_54n)
        rw [← ck] at e
        have hh : qSub (qVm y.2.2.2.2.1) b ∧ qSub (qVm y.2.2.2.2.2) b := by
          rcases hq' with q | ⟨_, ⟨q, q'⟩ | ⟨q, _⟩⟩
          · rw [hlv] at q; exact qSub_or q
          · exact ⟨hL.elim (fun z => absurd q z) id, q'⟩
          · exact absurd q x1
        exact both hh.1 hh.2 e n1 (fun q => x1 q.2.1)
    rcases e91a with ⟨x, x1, x2, x3⟩ | ⟨x1, x2⟩
    · have e140 := st_140v a1 a2 a3 a5.1 h6 hst hb hb8 (by omega : x < 8) x3
      obtain ⟨alx, ax⟩ := al x2
      by_cases cb : b.testBit x = true
      · rw [if_pos cb] at e140
        exact right e140 (.inr (sub1 x2 cb)) (fun _ => by rw [ax]; exact cb)
      · have cb' : b.testBit x = false := by cases hz : b.testBit x; rfl; exact absurd hz cb
        rw [if_neg cb] at e140
        have e := (st_139e a1 a3 a5.1 a5.2.2.1 a6.2.1 hl hk q1 q2 e140).trans (st_139l q1 q2 (by omega))
        have hR : qSub (qVm y.2.2.2.2.2) b := by
          rcases hq' with q | ⟨_, ⟨_, q⟩ | ⟨_, q⟩⟩
          · rw [hlv] at q; exact (qSub_or q).2
          · exact q
          · exact absurd (sub0 x2 q) cb
        exact lone x (5 + 2 * l) y.2.2.2.2.2 (by omega) cb' (by omega) sg2 wx2 d2 hR e (by
          unfold cmpV
          rw [ax, if_pos ⟨ck, alx, cb'⟩])
    · exact right (st_140n a1 a3 a5.1 x2) (.inl x1) (fun q => absurd q x1)
  · have hs : qSub (qVm y.2.2.2.2.1) b ∧ qSub (qVm y.2.2.2.2.2) b := by
      rcases hq' with q | ⟨q, _⟩
      · rw [hlv] at q; exact qSub_or q
      · exact absurd q ck
    exact both hs.1 hs.2 (st_139o a1 a3 a5.1 a5.2.2.1 a6.2.1 hl hk q1 q2 ck) (fun q => ck q.1) (fun q => ck q.1)
end
end
section
/-! THE CLASS: WAYS: all that they read -/
def xWf (G G' : xG_) : Prop := ∀ a j, a ≠ 84 → ¬ (87 ≤ a ∧ a ≤ 92) → ¬ (a = 83 ∧ (j = 6 ∨ j = 7)) → G' a j = G a j
def cWE (S : Nat → Nat × Nat × Nat) (G : xG_) (u : Nat) (K : pCd) (Ls : List pLt) (pl : List Nat) (fa fn np nv a : Nat) (br : Int) (qn xp cp : Nat → Nat) (R : Nat → List pRw) (lo hi : Nat → Int) : Prop :=
  (cSs S ∧ cPs G ∧ G 83 3 = (u : Int) ∧ G 83 4 = (fa : Int) ∧ G 83 5 = br ∧ S fa = (2, 10, fn) ∧ 92 < fa ∧ np ≤ fn) ∧ cRq S G u K Ls ∧
  (nv ≤ 8 ∧ (∀ y ∈ Ls, wLt np nv y ∧ (y.1 ≠ 3 → 0 ≤ y.2.1 ∧ y.2.2.2.1.length = qn y.2.1.toNat)) ∧ dLs Ls) ∧
  (pl.length = Ls.length ∧ ∀ k, k < Ls.length → G (u + 9) k = ((pl.getD k 0 : Nat) : Int) ∧ pl.getD k 0 < Ls.length ∧ G (u + 10) k = ((plA Ls a (pl.drop (k + 1)) : Nat) : Int) ∧ plA Ls a (pl.drop (k + 1)) < 2 ^ 8) ∧
  (∀ p, p < np → G fa p = ((xp p : Nat) : Int) ∧ 92 < xp p ∧ cRw S G (xp p) (qn p) (cp p) (R p) ∧ (R p).Pairwise rwLt ∧ (R p).length ≤ 100 ∧ ∀ r ∈ R p, ∀ x ∈ r.1, vOk x) ∧
  ∀ l, l < 8 → G 85 l = lo l ∧ G 86 l = hi l
section
variable {u fa fn np nv a st b : Nat} {S : Nat → Nat × Nat × Nat} {G G' : xG_} {m : Nat × Nat} {K : pCd} {Ls : List pLt} {pl : List Nat} {br : Int} {qn xp cp : Nat → Nat} {R : Nat → List pRw} {lo hi : Nat → Int} {vl : Nat → Int}
theorem xWf.id : xWf G G := fun _ _ _ _ _ => rfl
theorem xWf.tr {G1 : xG_} (h1 : xWf G G1) (h2 : xWf G1 G') : xWf G G' := fun a j y1 y2 y3 => by rw [h2 a j y1 y2 y3, h1 a j y1 y2 y3]
theorem cRq.fx (h : cRq S G u K Ls) (hf : ∀ a j, 278 < a → G' a j = G a j) : cRq S G' u K Ls := by
  obtain ⟨a1, a2, ⟨b1, b2, b3, b4, b5⟩, a4, a5, a6⟩ := h
  refine ⟨a1, ?_, ⟨by rw [hf _ _ (by omega)]; exact b1, by rw [hf _ _ (by omega)]; exact b2, b3, b4, fun k hk => by rw [hf _ _ (by omega), hf _ _ (by omega)]; exact b5 k hk⟩, a4.rule (hf _ _ a5) (fun a k _ _ => hf _ _ (by omega)), a5, a6⟩
  unfold cRuP at a2 ⊢
  simp only [hf u _ a5]
  exact a2
theorem cWE.ge (h : cWE S G u K Ls pl fa fn np nv a br qn xp cp R lo hi) (hf : xWf G G') : cWE S G' u K Ls pl fa fn np nv a br qn xp cp R lo hi := by
  obtain ⟨⟨a1, a2, a3, a4, a5, a6, a7, a8⟩, b1, c1, ⟨d1, d2⟩, e1, f1⟩ := h
  have hu := b1.2.2.2.2.1
  have z : ∀ a j, 92 < a → G' a j = G a j := fun a j y => hf a j (by omega) (by omega) (by omega)
  refine ⟨⟨a1, a2.ge (fun a j hz => hf a j ?_ ?_ ?_), by rw [hf _ _ (by omega) (by omega) (by omega)]; exact a3, by rw [hf _ _ (by omega) (by omega) (by omega)]; exact a4, by rw [hf _ _ (by omega) (by omega) (by omega)]; exact a5, a6, a7, a8⟩, b1.fx (fun a j y => z a j (by omega)), c1, ⟨d1, fun k hk => ?_⟩, fun p hp => ?_, fun l hl => ?_⟩
  · rcases hz with z | z | z | z | z | z | z | ⟨z, z1, z2, k, z3⟩ | z | z | z | ⟨k, z1, z2, z3⟩ <;> omega
  · rcases hz with z | z | z | z | z | z | z | ⟨z, z1, z2, k, z3⟩ | z | z | z | ⟨k, z1, z2, z3⟩ <;> omega
  · rcases hz with z | z | z | z | z | z | z | ⟨z, z1, z2, k, z3⟩ | z | z | z | ⟨k, z1, z2, z3⟩ <;> omega
  · rw [z _ _ (by omega), z _ _ (by omega)]; exact d2 k hk
  · obtain ⟨q1, q2, q3, q4⟩ := e1 p hp
    exact ⟨by rw [z _ _ a7]; exact q1, q2, q3.ge (fun _ _ _ => rfl) (fun j => z _ _ (by omega)) (fun j => z _ _ (by omega)) (fun j => z _ _ (by omega)), q4⟩
  · rw [hf _ _ (by omega) (by omega) (by omega), hf _ _ (by omega) (by omega) (by omega)]; exact f1 l hl
theorem cWE.wy (h : cWE S G u K Ls pl fa fn np nv a br qn xp cp R lo hi) : cWy S G u K := ⟨h.1.1, h.1.2.1, h.1.2.2.1, h.2.1.2.2.2.2.1, h.2.1.1, h.2.1.2.1, h.2.1.2.2.1, h.2.1.2.2.2.2.2⟩
/-- a LITERAL with TERMS -/
theorem cWE.lv (h : cWE S G u K Ls pl fa fn np nv a br qn xp cp R lo hi) {l : Nat} (hl : l < Ls.length) (hy : (Ls.getD l dLt).1 ≠ 3) (h6 : G 83 6 = (st : Int)) (hst : st < 8) (hb : G 87 st = (b : Int)) (hb8 : b < 2 ^ 8) : ∃ p : Nat, p < np ∧ (Ls.getD l dLt).2.1 = (p : Int) ∧ cLv S G u (xp p) l st b nv (qn p) (cp p) K (Ls.getD l dLt).2.2.2.1 (R p) (lo l) (hi l) ∧ cFs S G u l fa fn p (xp p) ∧ (R p).Pairwise rwLt ∧ (R p).length ≤ 100 ∧ ∀ r ∈ R p, ∀ x ∈ r.1, vOk x := by
  have hW := h.wy
  obtain ⟨⟨a1, a2, a3, a4, a5, a6, a7, a8⟩, b1, ⟨c1, c2, c3⟩, ⟨d1, d2⟩, e1, f1⟩ := h
  have hm : Ls.getD l dLt ∈ Ls := by rw [getD_e hl]; exact List.getElem_mem hl
  obtain ⟨w1, w2⟩ := c2 _ hm
  obtain ⟨w3, w4⟩ := w2 hy
  have hls := b1.2.2.2.1
  have hl8 := hls.2.1
  obtain ⟨p, hp⟩ : ∃ p : Nat, (Ls.getD l dLt).2.1 = (p : Int) := ⟨(Ls.getD l dLt).2.1.toNat, by omega⟩
  have hpn : p < np := by
    rcases w1 with ⟨_, _, z, _⟩ | ⟨z, _⟩
    · omega
    · exact absurd z hy
  have hwT : ∀ y ∈ (Ls.getD l dLt).2.2.2.1, wT1 nv y := by
    rcases w1 with ⟨_, _, _, _, _, z⟩ | ⟨z, _⟩
    · exact z
    · exact absurd z hy
  rw [hp, Int.toNat_natCast] at w4
  obtain ⟨q1, q2, q3, q4, q5, q6⟩ := e1 p hpn
  have hlt : cLt G u K l (Ls.getD l dLt) := hls.2.2 l hl
  have ht : G (u + 3) l = (Ls.getD l dLt).2.1 ∧ cTl1 G u l (Ls.getD l dLt).2.2.2.1 := by
    rcases hlt with ⟨_, _, z3, z4, z5, z6⟩ | ⟨z, _⟩
    · exact ⟨z3, by omega, z4, z5, z6⟩
    · exact absurd z hy
  exact ⟨p, hpn, hp, ⟨hW, ht.2, q3, q2, w4, hwT, c1, h6, hst, hb, hb8, (f1 l (by omega)).1, (f1 l (by omega)).2⟩, ⟨a4, a6, by omega, q1, by rw [ht.1]; exact hp, a7⟩, q4, q5, q6⟩
/-- a compare -/
theorem cWE.cm (h : cWE S G u K Ls pl fa fn np nv a br qn xp cp R lo hi) {l : Nat} (hl : l < Ls.length) (hy : (Ls.getD l dLt).1 = 3) (h6 : G 83 6 = (st : Int)) (hst : st < 8) (hb : G 87 st = (b : Int)) (hb1 : G 87 (st + 1) = (b : Int)) (hb8 : b < 2 ^ 8) (hq : qBh (Ls.getD l dLt) b ≠ none) : cCp S G u l st b nv K (Ls.getD l dLt) := by
  have hW := h.wy
  obtain ⟨_, b1, ⟨c1, c2, c3⟩, _, _, _⟩ := h
  have hm : Ls.getD l dLt ∈ Ls := by rw [getD_e hl]; exact List.getElem_mem hl
  have hls := b1.2.2.2.1
  have hl8 := hls.2.1
  have hlt : cLt G u K l (Ls.getD l dLt) := hls.2.2 l hl
  rcases hlt with ⟨z, _⟩ | ⟨z1, z2, z3, z4, z5⟩
  · omega
  · rcases (c2 _ hm).1 with ⟨z, _⟩ | ⟨_, _, w1, w2⟩
    · omega
    · exact ⟨hW, by omega, c1, z2, z3, z4, z5, ⟨w1, (c3 _ hm).1⟩, ⟨w2, (c3 _ hm).2⟩, h6, hst, hb, hb1, hb8, z1, hq⟩
/-- the plan binds ahead what it asks for -/
def okP (Ls : List pLt) : List Nat → Nat → Prop
  | [], _ => True
  | p :: pr, b => qBh (Ls.getD p dLt) b ≠ none ∧ okP Ls pr (b ||| qLv (Ls.getD p dLt))
theorem qBh_mo {x : pLt} {b c : Nat} (h : qBh x b ≠ none) (hs : qSub b c) : qBh x c ≠ none := by
  have tr : ∀ {a : Nat}, qSub a b → qSub a c := fun ha => qSub_t.mpr (fun j hj => qSub_t.mp hs j (qSub_t.mp ha j hj))
  unfold qBh at h ⊢
  by_cases c1 : x.1 = 1 ∨ qSub (qLv x) c
  · rw [if_pos c1]; exact fun q => by cases q
  · rw [if_neg c1]
    have c1' : ¬ (x.1 = 1 ∨ qSub (qLv x) b) := fun q => c1 (q.imp id tr)
    rw [if_neg c1'] at h
    by_cases c2 : x.1 = 3 ∧ x.2.1 = 61 ∧ (qAl2 x.2.2.2.2.1 ∧ qSub (qVm x.2.2.2.2.2) b ∨ qAl2 x.2.2.2.2.2 ∧ qSub (qVm x.2.2.2.2.1) b)
    · rw [if_pos ⟨c2.1, c2.2.1, c2.2.2.imp (fun q => ⟨q.1, tr q.2⟩) (fun q => ⟨q.1, tr q.2⟩)⟩]
      exact fun q => by cases q
    · rw [if_neg c2] at h
      exact absurd rfl h
theorem qBh_v {x : pLt} {b : Nat} (h : qBh x b ≠ none) : qBh x b = some (b ||| qLv x) := by
  unfold qBh at h ⊢
  split
  · rfl
  · rename_i c1
    rw [if_neg c1] at h
    split
    · rfl
    · rename_i c2
      rw [if_neg c2] at h
      exact absurd rfl h
theorem okP_of : ∀ (pr : List Nat) (b c d : Nat), plB Ls pr b = some d → qSub b c → okP Ls pr c
  | [], _, _, _, _, _ => trivial
  | p :: pr, b, c, d, h, hs => by
    have h' : (qBh (Ls.getD p dLt) b).bind (plB Ls pr) = some d := h
    have hn : qBh (Ls.getD p dLt) b ≠ none := fun q => by rw [q] at h'; cases h'
    rw [qBh_v hn] at h'
    refine ⟨qBh_mo hn hs, okP_of pr _ _ d h' (qSub_t.mpr (fun j hj => ?_))⟩
    rw [Nat.testBit_or, Bool.or_eq_true] at hj ⊢
    exact hj.imp (fun q => qSub_t.mp hs j q) id
end
end
