/-! THE CLASS: takeFresh(), one predicate -/
def c154s (r29 : Nat → Int → Int → Int → Int → xT_ → Option (xT_)) (f : Nat) (x0 : Nat) (x1 : Int) (x2 : Int) (x3 : Int) (x4 : Int) (R123 : (xT_)) : Option (xT_) := ((cq_gr 10 4 18 (x0) R123).bind fun v129 => ((cq_ar (v129) (x3) R123).bind fun v131 => ((cq_gr 10 4 18 (x0) R123).bind fun v133 => ((cq_ar (v133) (x3) R123).bind fun v135 => ((cq_gr 10 9 18 (x0) R123).bind fun v137 => ((cq_is 5 4 (v135) R123).bind fun _ => ((c74 f (v135) (v137) R123).bind fun R139 => ((cq_gr 10 9 18 (x0) R139.2).bind fun v145 => ((cq_is 5 4 (v131) R139.2).bind fun _ => ((c76 f (v131) (xwr ((-1) - (R139.1))) (v145) (x2) R139.2).bind fun R147 => r29 (x0) (x1) (x2) (x3) (xwr ((x4) + (1))) R147))))))))))
theorem c154s_e (r2 : Nat → Int → Int → Int → xT_ → Option (xT_)) (r29 : Nat → Int → Int → Int → Int → xT_ → Option (xT_)) (f : Nat) (x0 : Nat) (x1 : Int) (x2 : Int) (x3 : Int) (x4 : Int) (T : xT_) : c154_29b r2 r29 f x0 x1 x2 x3 x4 T = ((cq_gr 10 5 18 (x0) T).bind fun v101 => ((cq_ar (v101) (x3) T).bind fun v103 => ((cq_gi 5 1 4 (v103) T).bind fun v105 => (if (v105) ≤ (x4) then ((cq_gr 10 5 18 (x0) T).bind fun v108 => ((cq_ar (v108) (x3) T).bind fun v110 => ((cq_p 5 1 4 (v110) (0) T).bind fun T113 => c154_103 r2 f (x0) (x1) (x2) (x3) T113))) else ((cq_gr 10 5 18 (x0) T).bind fun v117 => ((cq_ar (v117) (x3) T).bind fun v119 => ((cq_gr 10 9 18 (x0) T).bind fun v121 => ((cq_is 5 4 (v119) T).bind fun _ => ((c78 f (v119) (x4) (v121) T).bind fun R123 => c154s r29 f x0 x1 x2 x3 x4 R123))))))))) := rfl
def c154t (r29 : Nat → Int → Int → Int → Int → xT_ → Option (xT_)) (f : Nat) (x0 : Nat) (x1 : Int) (x2 : Int) (x3 : Int) (x4 : Int) (v131 : Nat) (R139 : (Int × xT_)) : Option (xT_) := ((cq_gr 10 9 18 (x0) R139.2).bind fun v145 => ((cq_is 5 4 (v131) R139.2).bind fun _ => ((c76 f (v131) (xwr ((-1) - (R139.1))) (v145) (x2) R139.2).bind fun R147 => r29 (x0) (x1) (x2) (x3) (xwr ((x4) + (1))) R147)))
theorem c154t_e (r29 : Nat → Int → Int → Int → Int → xT_ → Option (xT_)) (f : Nat) (x0 : Nat) (x1 : Int) (x2 : Int) (x3 : Int) (x4 : Int) (R123 : (xT_)) : c154s r29 f x0 x1 x2 x3 x4 R123 = ((cq_gr 10 4 18 (x0) R123).bind fun v129 => ((cq_ar (v129) (x3) R123).bind fun v131 => ((cq_gr 10 4 18 (x0) R123).bind fun v133 => ((cq_ar (v133) (x3) R123).bind fun v135 => ((cq_gr 10 9 18 (x0) R123).bind fun v137 => ((cq_is 5 4 (v135) R123).bind fun _ => ((c74 f (v135) (v137) R123).bind fun R139 => c154t r29 f x0 x1 x2 x3 x4 v131 R139))))))) := rfl
def c154w (r29 : Nat → Int → Int → Int → Int → xT_ → Option (xT_)) (f : Nat) (x0 : Nat) (x1 : Int) (x2 : Int) (x3 : Int) (x4 : Int) (R147 : (xT_)) : Option (xT_) := r29 (x0) (x1) (x2) (x3) (xwr ((x4) + (1))) R147
theorem c154w_e (r29 : Nat → Int → Int → Int → Int → xT_ → Option (xT_)) (f : Nat) (x0 : Nat) (x1 : Int) (x2 : Int) (x3 : Int) (x4 : Int) (v131 : Nat) (R139 : (Int × xT_)) : c154t r29 f x0 x1 x2 x3 x4 v131 R139 = ((cq_gr 10 9 18 (x0) R139.2).bind fun v145 => ((cq_is 5 4 (v131) R139.2).bind fun _ => ((c76 f (v131) (xwr ((-1) - (R139.1))) (v145) (x2) R139.2).bind fun R147 => c154w r29 f x0 x1 x2 x3 x4 R147))) := rfl
section
variable {f p i n W lo : Nat} {S : Nat → Nat × Nat × Nat} {G G1 : xG_} {m : Nat × Nat} {M F : List pRw} {rg lv v : Int} {r2 : Nat → Int → Int → Int → xT_ → Option (xT_)} {r29 : Nat → Int → Int → Int → Int → xT_ → Option (xT_)} {T : xT_} {R : Int × xT_}
theorem st_154z (hs : cSs S) (hp : cPs G) (hp16 : p < 16) (h1 : G (111 + 6 * p) 1 = (n : Int)) (hi : n ≤ i) (ep : xwr ((p : Int) + 1) = ((p + 1 : Nat) : Int)) : c154_29b r2 r29 f 93 rg lv (p : Int) (i : Int) (S, G, m) = r2 93 rg lv ((p + 1 : Nat) : Int) (S, xup2 G (111 + 6 * p) 1 0, m) := by
  rw [c154s_e]
  unfold c154_103
  simp (disch := omega) only [cq_gi, cq_gr, cq_a, cq_s, cq_p, cq_pr, cq_is, cq_ar, cq_ab, cq_ln, xq_nz, Option.bind_some, xup2_n, xup2_s, Int.toNat_natCast, Int.reduceToNat, if_pos, if_neg, true_and, and_true, and_self, eq_self, if_true, reduceIte, not_true_eq_false, not_false_eq_true, or_true, true_or, s93 hs, s97 hs, p93_5 hp, (p_mk hp hp16).2, (s_mk hs hp16).2.2.2.1, h1, ep]
theorem st_154a (hs : cSs S) (hp : cPs G) (hp16 : p < 16) (h1 : G (111 + 6 * p) 1 = (n : Int)) (hi : i < n) (e : c78 f (111 + 6 * p) (i : Int) 103 (S, G, m) = some T) : c154_29b r2 r29 f 93 rg lv (p : Int) (i : Int) (S, G, m) = c154s r29 f 93 rg lv (p : Int) (i : Int) T := by
  rw [c154s_e]
  simp (disch := omega) only [cq_gi, cq_gr, cq_a, cq_s, cq_p, cq_pr, cq_is, cq_ar, cq_ab, cq_ln, xq_nz, Option.bind_some, xup2_n, xup2_s, Int.toNat_natCast, Int.reduceToNat, if_pos, if_neg, true_and, and_true, and_self, eq_self, if_true, reduceIte, not_true_eq_false, not_false_eq_true, or_true, true_or, s93 hs, s97 hs, p93_5 hp, p93_9 hp, (p_mk hp hp16).2, (s_mk hs hp16).2.2.2.1, h1, e]
theorem st_154b (hs : cSs S) (hp : cPs G) (hp16 : p < 16) (e : c74 f (108 + 6 * p) 103 (S, G, m) = some R) : c154s r29 f 93 rg lv (p : Int) (i : Int) (S, G, m) = c154t r29 f 93 rg lv (p : Int) (i : Int) (108 + 6 * p) R := by
  rw [c154t_e]
  simp (disch := omega) only [cq_gi, cq_gr, cq_a, cq_s, cq_p, cq_pr, cq_is, cq_ar, cq_ab, cq_ln, xq_nz, Option.bind_some, xup2_n, xup2_s, Int.toNat_natCast, Int.reduceToNat, if_pos, if_neg, true_and, and_true, and_self, eq_self, if_true, reduceIte, not_true_eq_false, not_false_eq_true, or_true, true_or, s93 hs, s96 hs, p93_4 hp, p93_9 hp, (p_mk hp hp16).1, (s_mk hs hp16).1, e]
theorem st_154c (hs : cSs S) (hp : cPs G) (hp16 : p < 16) (ev : xwr (-1 - v) = (lo : Int)) (e : c76 f (108 + 6 * p) (lo : Int) 103 lv (S, G, m) = some T) (ei : xwr ((i : Int) + 1) = ((i + 1 : Nat) : Int)) : c154t r29 f 93 rg lv (p : Int) (i : Int) (108 + 6 * p) (v, (S, G, m)) = r29 93 rg lv (p : Int) ((i + 1 : Nat) : Int) T := by
  rw [c154w_e]
  unfold c154w
  simp (disch := omega) only [cq_gi, cq_gr, cq_a, cq_s, cq_p, cq_pr, cq_is, cq_ar, cq_ab, cq_ln, xq_nz, Option.bind_some, xup2_n, xup2_s, Int.toNat_natCast, Int.reduceToNat, if_pos, if_neg, true_and, and_true, and_self, eq_self, if_true, reduceIte, not_true_eq_false, not_false_eq_true, or_true, true_or, s93 hs, p93_9 hp, (s_mk hs hp16).1, ev, e, ei]
/-- the rows of this level come to those that are made -/
theorem k_154i (hf : 600 < f) (hs : cSs S) (hp16 : p < 16) (hW : W ≤ 4) (hFs : F.Pairwise rwLt) : ∀ (d i fu : Nat) (G : xG_) (M : List pRw), i + d = F.length → d < fu → cPs G → cRw S G (108 + 6 * p) W 100 M → cRw S G (111 + 6 * p) W 100 F → M.Pairwise rwLt → M.length + d ≤ 100 → (∀ r ∈ F.drop i, ∀ z ∈ M, z.1 ≠ r.1) → ∃ G' M', c154_29 r2 f fu 93 rg lv (p : Int) (i : Int) (S, G, m) = r2 93 rg lv ((p + 1 : Nat) : Int) (S, G', m) ∧ (∀ b j, b ≠ 103 → ¬ (b = 108 + 6 * p ∧ j = 1) → b ≠ 109 + 6 * p → b ≠ 110 + 6 * p → ¬ (b = 111 + 6 * p ∧ j = 1) → G' b j = G b j) ∧ cPs G' ∧ cRw S G' (108 + 6 * p) W 100 M' ∧ cRw S G' (111 + 6 * p) W 100 [] ∧ M'.Pairwise rwLt ∧ M'.length = M.length + d ∧ ∀ z, z ∈ M' ↔ z ∈ M ∨ ∃ r ∈ F.drop i, z = (r.1, lv) := by
  have ep : xwr ((p : Int) + 1) = ((p + 1 : Nat) : Int) := by rw [xwr_g _ (by omega) (by omega)]; omega
  have pst : ∀ {G G' : xG_}, cPs G → (∀ b j, b ≠ 103 → ¬ (b = 108 + 6 * p ∧ j = 1) → b ≠ 109 + 6 * p → b ≠ 110 + 6 * p → ¬ (b = 111 + 6 * p ∧ j = 1) → G' b j = G b j) → cPs G' := fun {G G'} hp hf => hp.ge (fun b j hz => by
    have : b ≠ 103 ∧ ¬ (b = 108 + 6 * p ∧ j = 1) ∧ b ≠ 109 + 6 * p ∧ b ≠ 110 + 6 * p ∧ ¬ (b = 111 + 6 * p ∧ j = 1) := by
      rcases hz with z | z | z | z | z | z | z | ⟨z, z1, z2, k, z3⟩ | z | z | z | ⟨k, z1, z2, z3⟩ <;> omega
    exact hf b j this.1 this.2.1 this.2.2.1 this.2.2.2.1 this.2.2.2.2)
  intro d
  induction d with
  | zero =>
    intro i fu G M e1 e2 hp hM hF hMs hlen hdis
    obtain ⟨fu, rfl⟩ : ∃ t, fu = t + 1 := ⟨fu - 1, by omega⟩
    have st : c154_29 r2 f (fu + 1) 93 rg lv (p : Int) (i : Int) (S, G, m) = _ := st_154z (r2 := r2) (r29 := c154_29 r2 f fu) hs hp hp16 hF.2.2.2.1.2.1 (by omega) ep
    have z : ∀ b j, ¬ (b = 111 + 6 * p ∧ j = 1) → xup2 G (111 + 6 * p) 1 0 b j = G b j := fun b j y => xup2_n y
    have hd : F.drop i = [] := List.drop_eq_nil_of_le (by omega)
    refine ⟨_, M, st, fun b j _ _ _ _ y => z b j y, pst hp (fun b j _ _ _ _ y => z b j y), hM.ge (fun _ _ _ => rfl) (fun j => z _ _ (by omega)) (fun j => z _ _ (by omega)) (fun j => z _ _ (by omega)), ?_, hMs, rfl, fun x => ⟨.inl, fun q => q.elim id (fun ⟨r, r1, _⟩ => by rw [hd] at r1; cases r1)⟩⟩
    obtain ⟨a1, a2, a3, ⟨b1, b2, b3, b4⟩, a5, a6, a7, a8⟩ := hF
    exact ⟨a1, a2, a3, ⟨by rw [z _ _ (by omega)]; exact b1, by rw [xup2_s]; rfl, by rw [z _ _ (by omega)]; exact b3, by rw [z _ _ (by omega)]; exact b4⟩, Nat.zero_le _, a6, a7, fun j hj => absurd hj (Nat.not_lt_zero j)⟩
  | succ d ih =>
    intro i fu G M e1 e2 hp hM hF hMs hlen hdis
    obtain ⟨fu, rfl⟩ : ∃ t, fu = t + 1 := ⟨fu - 1, by omega⟩
    have hi : i < F.length := by omega
    have hFl := hF.2.2.2.2.1
    have ei : xwr ((i : Int) + 1) = ((i + 1 : Nat) : Int) := by rw [xwr_g _ (by omega) (by omega)]; omega
    obtain ⟨G1, g1, g2, g3⟩ := k_78 (f := f) (m := m) (i := i) hF hi (s103 hs) hW (by omega)
    have st1 : c154_29 r2 f (fu + 1) 93 rg lv (p : Int) (i : Int) (S, G, m) = _ := st_154a (r2 := r2) (r29 := c154_29 r2 f fu) (rg := rg) (lv := lv) hs hp hp16 hF.2.2.2.1.2.1 hi g1
    have z1 : ∀ b j, b ≠ 103 → G1 b j = G b j := fun b j y => g2 b j (fun q => y q.1)
    have hp1 : cPs G1 := pst hp (fun b j y _ _ _ _ => z1 b j y)
    have hM1 : cRw S G1 (108 + 6 * p) W 100 M := hM.ge (fun _ _ _ => rfl) (fun j => z1 _ _ (by omega)) (fun j => z1 _ _ (by omega)) (fun j => z1 _ _ (by omega))
    have hF1 : cRw S G1 (111 + 6 * p) W 100 F := hF.ge (fun _ _ _ => rfl) (fun j => z1 _ _ (by omega)) (fun j => z1 _ _ (by omega)) (fun j => z1 _ _ (by omega))
    have ll := (hF.2.2.2.2.2.2.2 i hi).1
    have hK : cKl S G1 103 (F.getD i dRw).1 := ⟨⟨4, s103 hs, by omega⟩, fun c hc => g3 c (by omega)⟩
    have ed : F.drop i = F.getD i dRw :: F.drop (i + 1) := by rw [getD_e hi]; exact List.drop_eq_getElem_cons hi
    have nin : ∀ z ∈ M, z.1 ≠ (F.getD i dRw).1 := hdis _ (by rw [ed]; exact List.mem_cons_self)
    obtain ⟨v, v1, l0, v2, v3⟩ := k_74 (f := f) (m := m) hf hM1 hMs ll hK
    have hl0 := v2.1
    rcases v3 with ⟨y1, y2, y3⟩ | ⟨y1, y2⟩
    · exact absurd y3 (nin _ (by rw [getD_e y2]; exact List.getElem_mem y2))
    · obtain ⟨G2, i1, i2, i3⟩ := k_76 (f := f) (m := m) (rk := lv) (p := l0) hM1 hl0 (by omega) (s103 hs) hW (by omega) ll (fun c hc => g3 c hc)
      have st2 := st1.trans ((st_154b hs hp1 hp16 v1).trans (st_154c hs hp1 hp16 (by rw [y1, xwr_g _ (by omega) (by omega)]; omega) i1 ei))
      have hMl : ∀ r ∈ M, r.1.length = (F.getD i dRw).1.length := fun r hr => by
        obtain ⟨j, hj, ej⟩ := List.getElem_of_mem hr
        have := (hM.2.2.2.2.2.2.2 j hj).1
        rw [getD_e hj, ej] at this
        omega
      obtain ⟨s1, s2⟩ := ins_s (rk := lv) hMs hMl v2 y2
      have z2 : ∀ b j, b ≠ 103 → ¬ (b = 108 + 6 * p ∧ j = 1) → b ≠ 109 + 6 * p → b ≠ 110 + 6 * p → G2 b j = G b j := fun b j w1 w2 w3 w4 => by rw [i2 b j w2 (by omega) (by omega), z1 b j w1]
      have hF2 : cRw S G2 (111 + 6 * p) W 100 F := hF.ge (fun _ _ _ => rfl) (fun j => z2 _ _ (by omega) (by omega) (by omega) (by omega)) (fun j => z2 _ _ (by omega) (by omega) (by omega) (by omega)) (fun j => z2 _ _ (by omega) (by omega) (by omega) (by omega))
      have hlen' : (M.take l0 ++ ((F.getD i dRw).1, lv) :: M.drop l0).length = M.length + 1 := len_i9 hl0
      obtain ⟨G3, M', k1, k2, k3, k4, k5, k6, k7, k8⟩ := ih (i + 1) fu G2 _ (by omega) (by omega) (pst hp (fun b j w1 w2 w3 w4 _ => z2 b j w1 w2 w3 w4)) i3 hF2 s1 (by omega) (fun r hr z hz => by
        rcases (s2 z).mp hz with q | q
        · exact hdis r (by rw [ed]; exact List.mem_cons_of_mem _ hr) z q
        · rw [q]
          intro e
          have hp2 : rwLt (F.getD i dRw) r := by
            have hFd : (F.drop i).Pairwise rwLt := hFs.sublist (List.drop_sublist _ _)
            rw [ed] at hFd
            exact (List.pairwise_cons.mp hFd).1 r hr
          have hp3 : vLt (F.getD i dRw).1 r.1 := hp2
          have e' : (F.getD i dRw).1 = r.1 := e
          rw [e'] at hp3
          exact vLt_irr _ hp3)
      refine ⟨G3, M', st2.trans k1, fun b j w1 w2 w3 w4 w5 => by rw [k2 b j w1 w2 w3 w4 w5, z2 b j w1 w2 w3 w4], k3, k4, k5, k6, by omega, fun x => (k8 x).trans ?_⟩
      rw [s2 x, ed]
      constructor
      · rintro ((q | q) | ⟨r, r1, r2⟩)
        · exact .inl q
        · exact .inr ⟨_, List.mem_cons_self, q⟩
        · exact .inr ⟨r, List.mem_cons_of_mem _ r1, r2⟩
      · rintro (q | ⟨r, r1, r2⟩)
        · exact .inl (.inl q)
        · rcases List.mem_cons.mp r1 with e | e
          · subst e; exact .inl (.inr r2)
          · exact .inr ⟨r, e, r2⟩
end
