/-! THE CLASS: give() -/
def c156a (f : Nat) (a0 : Nat) (a1 : Int) (a2 : Nat) (R105 : (Int × xT_)) : Option (Int × xT_) := (if 0 ≤ (R105.1) then c156_28  f  R105.2 else ((cq_gr 10 4 18 (a0) R105.2).bind fun v112 => ((cq_ar (v112) (a1) R105.2).bind fun v114 => ((cq_is 5 4 (v114) R105.2).bind fun _ => ((c74 f (v114) (a2) R105.2).bind fun R116 => (if (R116.1) < 0 then ((cq_gr 10 4 18 (a0) R116.2).bind fun v123 => ((cq_ar (v123) (a1) R116.2).bind fun v125 => ((cq_gi 5 1 4 (v125) R116.2).bind fun v127 => ((cq_gr 10 5 18 (a0) R116.2).bind fun v129 => ((cq_ar (v129) (a1) R116.2).bind fun v131 => ((cq_gi 5 1 4 (v131) R116.2).bind fun v133 => (if (xwr ((v127) + (v133))) < (100) then ((cq_gr 10 5 18 (a0) R116.2).bind fun v136 => ((cq_ar (v136) (a1) R116.2).bind fun v138 => ((cq_is 5 4 (v138) R116.2).bind fun _ => ((c76 f (v138) (xwr ((-1) - (R105.1))) (a2) (0) R116.2).bind fun R140 => ((cq_gi 10 15 18 (a0) R140).bind fun v146 => ((cq_p 10 15 18 (a0) (xwr ((v146) + (1))) R140).bind fun T149 => (some (1, T149)))))))) else (some (0, R116.2))))))))) else c156_28  f  R116.2))))))
theorem c156a_e (f : Nat) (a0 : Nat) (a1 : Int) (a2 : Nat) (T : xT_) : c156 f a0 a1 a2 T = ((cq_gr 10 5 18 (a0) T).bind fun v101 => ((cq_ar (v101) (a1) T).bind fun v103 => ((cq_is 5 4 (v103) T).bind fun _ => ((c74 f (v103) (a2) T).bind fun R105 => c156a f a0 a1 a2 R105)))) := rfl
def c156b (f : Nat) (a0 : Nat) (a1 : Int) (a2 : Nat) (R105 : (Int × xT_)) (R116 : (Int × xT_)) : Option (Int × xT_) := (if (R116.1) < 0 then ((cq_gr 10 4 18 (a0) R116.2).bind fun v123 => ((cq_ar (v123) (a1) R116.2).bind fun v125 => ((cq_gi 5 1 4 (v125) R116.2).bind fun v127 => ((cq_gr 10 5 18 (a0) R116.2).bind fun v129 => ((cq_ar (v129) (a1) R116.2).bind fun v131 => ((cq_gi 5 1 4 (v131) R116.2).bind fun v133 => (if (xwr ((v127) + (v133))) < (100) then ((cq_gr 10 5 18 (a0) R116.2).bind fun v136 => ((cq_ar (v136) (a1) R116.2).bind fun v138 => ((cq_is 5 4 (v138) R116.2).bind fun _ => ((c76 f (v138) (xwr ((-1) - (R105.1))) (a2) (0) R116.2).bind fun R140 => ((cq_gi 10 15 18 (a0) R140).bind fun v146 => ((cq_p 10 15 18 (a0) (xwr ((v146) + (1))) R140).bind fun T149 => (some (1, T149)))))))) else (some (0, R116.2))))))))) else c156_28  f  R116.2)
theorem c156b_e (f : Nat) (a0 : Nat) (a1 : Int) (a2 : Nat) (R105 : (Int × xT_)) : c156a f a0 a1 a2 R105 = (if 0 ≤ (R105.1) then c156_28  f  R105.2 else ((cq_gr 10 4 18 (a0) R105.2).bind fun v112 => ((cq_ar (v112) (a1) R105.2).bind fun v114 => ((cq_is 5 4 (v114) R105.2).bind fun _ => ((c74 f (v114) (a2) R105.2).bind fun R116 => c156b f a0 a1 a2 R105 R116))))) := rfl
def c156c (f : Nat) (a0 : Nat) (R140 : (xT_)) : Option (Int × xT_) := ((cq_gi 10 15 18 (a0) R140).bind fun v146 => ((cq_p 10 15 18 (a0) (xwr ((v146) + (1))) R140).bind fun T149 => (some (1, T149))))
theorem c156c_e (f : Nat) (a0 : Nat) (a1 : Int) (a2 : Nat) (R105 : (Int × xT_)) (R116 : (Int × xT_)) : c156b f a0 a1 a2 R105 R116 = (if (R116.1) < 0 then ((cq_gr 10 4 18 (a0) R116.2).bind fun v123 => ((cq_ar (v123) (a1) R116.2).bind fun v125 => ((cq_gi 5 1 4 (v125) R116.2).bind fun v127 => ((cq_gr 10 5 18 (a0) R116.2).bind fun v129 => ((cq_ar (v129) (a1) R116.2).bind fun v131 => ((cq_gi 5 1 4 (v131) R116.2).bind fun v133 => (if (xwr ((v127) + (v133))) < (100) then ((cq_gr 10 5 18 (a0) R116.2).bind fun v136 => ((cq_ar (v136) (a1) R116.2).bind fun v138 => ((cq_is 5 4 (v138) R116.2).bind fun _ => ((c76 f (v138) (xwr ((-1) - (R105.1))) (a2) (0) R116.2).bind fun R140 => c156c f a0 R140)))) else (some (0, R116.2))))))))) else c156_28  f  R116.2) := rfl
theorem mk_in : ∀ p : Fin 16, (96, p.val, 108 + 6 * p.val) ∈ cl_P ∧ (97, p.val, 111 + 6 * p.val) ∈ cl_P := by decide +kernel
theorem mk_sh : ∀ p : Fin 16, cl_S.getD (44 + 6 * p.val) (0, 0, 0) = (1, 5, 4) ∧ cl_S.getD (45 + 6 * p.val) (0, 0, 0) = (2, 4, 400) ∧ cl_S.getD (46 + 6 * p.val) (0, 0, 0) = (2, 3, 100) ∧ cl_S.getD (47 + 6 * p.val) (0, 0, 0) = (1, 5, 4) ∧ cl_S.getD (48 + 6 * p.val) (0, 0, 0) = (2, 4, 400) ∧ cl_S.getD (49 + 6 * p.val) (0, 0, 0) = (2, 3, 100) := by decide +kernel
section
variable {f p a kz W lo mn fn : Nat} {S : Nat → Nat × Nat × Nat} {G G1 : xG_} {m : Nat × Nat} {M F : List pRw} {kl : List Int} {v w cm : Int}
theorem p_mk (h : cPs G) (hp : p < 16) : G 96 p = ((108 + 6 * p : Nat) : Int) ∧ G 97 p = ((111 + 6 * p : Nat) : Int) := ⟨h _ (mk_in ⟨p, hp⟩).1, h _ (mk_in ⟨p, hp⟩).2⟩
theorem s_mk (h : cSs S) (hp : p < 16) : S (108 + 6 * p) = (1, 5, 4) ∧ S (109 + 6 * p) = (2, 4, 400) ∧ S (110 + 6 * p) = (2, 3, 100) ∧ S (111 + 6 * p) = (1, 5, 4) ∧ S (112 + 6 * p) = (2, 4, 400) ∧ S (113 + 6 * p) = (2, 3, 100) := by
  obtain ⟨q1, q2, q3, q4, q5, q6⟩ := mk_sh ⟨p, hp⟩
  refine ⟨?_, ?_, ?_, ?_, ?_, ?_⟩
  · have := h (44 + 6 * p) (by omega); rw [show 64 + (44 + 6 * p) = 108 + 6 * p by omega] at this; rw [this]; exact q1
  · have := h (45 + 6 * p) (by omega); rw [show 64 + (45 + 6 * p) = 109 + 6 * p by omega] at this; rw [this]; exact q2
  · have := h (46 + 6 * p) (by omega); rw [show 64 + (46 + 6 * p) = 110 + 6 * p by omega] at this; rw [this]; exact q3
  · have := h (47 + 6 * p) (by omega); rw [show 64 + (47 + 6 * p) = 111 + 6 * p by omega] at this; rw [this]; exact q4
  · have := h (48 + 6 * p) (by omega); rw [show 64 + (48 + 6 * p) = 112 + 6 * p by omega] at this; rw [this]; exact q5
  · have := h (49 + 6 * p) (by omega); rw [show 64 + (49 + 6 * p) = 113 + 6 * p by omega] at this; rw [this]; exact q6
theorem st_156a {R : Int × xT_} (hs : cSs S) (hp : cPs G) (hp16 : p < 16) (e : c74 f (111 + 6 * p) a (S, G, m) = some R) : c156 f 93 (p : Int) a (S, G, m) = c156a f 93 (p : Int) a R := by
  rw [c156a_e]
  simp (disch := omega) only [cq_gi, cq_gr, cq_a, cq_s, cq_p, cq_pr, cq_is, cq_ar, cq_ab, cq_ln, xq_nz, Option.bind_some, xup2_n, xup2_s, Int.toNat_natCast, Int.reduceToNat, if_pos, if_neg, true_and, and_true, and_self, eq_self, if_true, reduceIte, not_true_eq_false, not_false_eq_true, or_true, true_or, s93 hs, s97 hs, p93_5 hp, (p_mk hp hp16).2, (s_mk hs hp16).2.2.2.1, e]
theorem st_156y (hv : 0 ≤ v) : c156a f 93 (p : Int) a (v, (S, G, m)) = some (1, (S, G, m)) := by
  rw [c156b_e]
  unfold c156_28
  simp (disch := omega) only [cq_gi, cq_gr, cq_a, cq_s, cq_p, cq_pr, cq_is, cq_ar, cq_ab, cq_ln, xq_nz, Option.bind_some, xup2_n, xup2_s, Int.toNat_natCast, Int.reduceToNat, if_pos, if_neg, true_and, and_true, and_self, eq_self, if_true, reduceIte, not_true_eq_false, not_false_eq_true, or_true, true_or, hv]
theorem st_156b {R : Int × xT_} (hs : cSs S) (hp : cPs G) (hp16 : p < 16) (hv : ¬ 0 ≤ v) (e : c74 f (108 + 6 * p) a (S, G, m) = some R) : c156a f 93 (p : Int) a (v, (S, G, m)) = c156b f 93 (p : Int) a (v, (S, G, m)) R := by
  rw [c156b_e]
  simp (disch := omega) only [cq_gi, cq_gr, cq_a, cq_s, cq_p, cq_pr, cq_is, cq_ar, cq_ab, cq_ln, xq_nz, Option.bind_some, xup2_n, xup2_s, Int.toNat_natCast, Int.reduceToNat, if_pos, if_neg, true_and, and_true, and_self, eq_self, if_true, reduceIte, not_true_eq_false, not_false_eq_true, or_true, true_or, s93 hs, s96 hs, p93_4 hp, (p_mk hp hp16).1, (s_mk hs hp16).1, e, hv]
theorem st_156z (hw : ¬ w < 0) : c156b f 93 (p : Int) a (v, (S, G, m)) (w, (S, G, m)) = some (1, (S, G, m)) := by
  rw [c156c_e]
  unfold c156_28
  simp (disch := omega) only [cq_gi, cq_gr, cq_a, cq_s, cq_p, cq_pr, cq_is, cq_ar, cq_ab, cq_ln, xq_nz, Option.bind_some, xup2_n, xup2_s, Int.toNat_natCast, Int.reduceToNat, if_pos, if_neg, true_and, and_true, and_self, eq_self, if_true, reduceIte, not_true_eq_false, not_false_eq_true, or_true, true_or, hw]
theorem st_156n (hs : cSs S) (hp : cPs G) (hp16 : p < 16) (hw : w < 0) (h1 : G (108 + 6 * p) 1 = (mn : Int)) (h2 : G (111 + 6 * p) 1 = (fn : Int)) (es : xwr ((mn : Int) + (fn : Int)) = ((mn + fn : Nat) : Int)) (hn : 100 ≤ mn + fn) : c156b f 93 (p : Int) a (v, (S, G, m)) (w, (S, G, m)) = some (0, (S, G, m)) := by
  rw [c156c_e]
  simp (disch := omega) only [cq_gi, cq_gr, cq_a, cq_s, cq_p, cq_pr, cq_is, cq_ar, cq_ab, cq_ln, xq_nz, Option.bind_some, xup2_n, xup2_s, Int.toNat_natCast, Int.reduceToNat, if_pos, if_neg, true_and, and_true, and_self, eq_self, if_true, reduceIte, not_true_eq_false, not_false_eq_true, or_true, true_or, s93 hs, s96 hs, s97 hs, p93_4 hp, p93_5 hp, (p_mk hp hp16).1, (p_mk hp hp16).2, (s_mk hs hp16).1, (s_mk hs hp16).2.2.2.1, hw, h1, h2, es]
theorem st_156i {T : xT_} (hs : cSs S) (hp : cPs G) (hp16 : p < 16) (hw : w < 0) (h1 : G (108 + 6 * p) 1 = (mn : Int)) (h2 : G (111 + 6 * p) 1 = (fn : Int)) (es : xwr ((mn : Int) + (fn : Int)) = ((mn + fn : Nat) : Int)) (hn : mn + fn < 100) (ev : xwr (-1 - v) = (lo : Int)) (e : c76 f (111 + 6 * p) (lo : Int) a 0 (S, G, m) = some T) : c156b f 93 (p : Int) a (v, (S, G, m)) (w, (S, G, m)) = c156c f 93 T := by
  rw [c156c_e]
  simp (disch := omega) only [cq_gi, cq_gr, cq_a, cq_s, cq_p, cq_pr, cq_is, cq_ar, cq_ab, cq_ln, xq_nz, Option.bind_some, xup2_n, xup2_s, Int.toNat_natCast, Int.reduceToNat, if_pos, if_neg, true_and, and_true, and_self, eq_self, if_true, reduceIte, not_true_eq_false, not_false_eq_true, or_true, true_or, s93 hs, s96 hs, s97 hs, p93_4 hp, p93_5 hp, (p_mk hp hp16).1, (p_mk hp hp16).2, (s_mk hs hp16).1, (s_mk hs hp16).2.2.2.1, hw, h1, h2, es, ev, e]
theorem st_156c (hs : cSs S) (h : G 93 15 = cm) (ec : xwr (cm + 1) = cm + 1) : c156c f 93 (S, G, m) = some (1, (S, xup2 G 93 15 (cm + 1), m)) := by
  unfold c156c
  simp (disch := omega) only [cq_gi, cq_gr, cq_a, cq_s, cq_p, cq_pr, cq_is, cq_ar, cq_ab, cq_ln, xq_nz, Option.bind_some, xup2_n, xup2_s, Int.toNat_natCast, Int.reduceToNat, if_pos, if_neg, true_and, and_true, and_self, eq_self, if_true, reduceIte, not_true_eq_false, not_false_eq_true, or_true, true_or, s93 hs, h, ec]
/-- give(): a row comes to fresh, or is there, or there is no place -/
theorem k_156 (hf : 600 < f) (hs : cSs S) (hp : cPs G) (hp16 : p < 16) (hM : cRw S G (108 + 6 * p) W 100 M) (hF : cRw S G (111 + 6 * p) W 100 F) (hMs : M.Pairwise rwLt) (hFs : F.Pairwise rwLt) (hk : kl.length = W) (hK : cKl S G a kl) (has : S a = (2, 4, kz)) (hkz : W ≤ kz) (ha : a < 108) (hcm : G 93 15 = cm) (hcr : 0 ≤ cm ∧ cm ≤ 10000000) : ∃ v G', c156 f 93 (p : Int) a (S, G, m) = some (v, (S, G', m)) ∧ (∀ b j, ¬ (b = 93 ∧ j = 15) → ¬ (b = 111 + 6 * p ∧ j = 1) → b ≠ 112 + 6 * p → b ≠ 113 + 6 * p → G' b j = G b j) ∧ cPs G' ∧
    ((v = 1 ∧ G' = G ∧ ((∃ r ∈ F, r.1 = kl) ∨ ∃ r ∈ M, r.1 = kl)) ∨ (v = 0 ∧ G' = G ∧ 100 ≤ M.length + F.length ∧ (∀ r ∈ F, r.1 ≠ kl) ∧ ∀ r ∈ M, r.1 ≠ kl) ∨
     (v = 1 ∧ (∀ r ∈ F, r.1 ≠ kl) ∧ (∀ r ∈ M, r.1 ≠ kl) ∧ G' 93 15 = cm + 1 ∧ ∃ F', cRw S G' (111 + 6 * p) W 100 F' ∧ F'.Pairwise rwLt ∧ (F'.length = F.length + 1 ∧ M.length + F.length < 100) ∧ ∀ z, z ∈ F' ↔ z ∈ F ∨ z = (kl, 0))) := by
  have hFl : ∀ r ∈ F, r.1.length = kl.length := fun r hr => by
    obtain ⟨j, hj, ej⟩ := List.getElem_of_mem hr
    have := (hF.2.2.2.2.2.2.2 j hj).1
    rw [getD_e hj, ej] at this
    rw [hk]; exact this
  obtain ⟨v, v1, l0, v2, v3⟩ := k_74 (f := f) (m := m) hf hF hFs hk hK
  have e1 := st_156a hs hp hp16 v1
  rcases v3 with ⟨y1, y2, y3⟩ | ⟨y1, y2⟩
  · exact ⟨1, G, e1.trans (st_156y (by omega)), fun _ _ _ _ _ _ => rfl, hp, .inl ⟨rfl, rfl, .inl ⟨F.getD l0 dRw, by rw [getD_e y2]; exact List.getElem_mem y2, y3⟩⟩⟩
  · obtain ⟨w, w1, l1, w2, w3⟩ := k_74 (f := f) (m := m) hf hM hMs hk hK
    have e2 := e1.trans (st_156b hs hp hp16 (by omega) w1)
    rcases w3 with ⟨z1, z2, z3⟩ | ⟨z1, z2⟩
    · exact ⟨1, G, e2.trans (st_156z (by omega)), fun _ _ _ _ _ _ => rfl, hp, .inl ⟨rfl, rfl, .inr ⟨M.getD l1 dRw, by rw [getD_e z2]; exact List.getElem_mem z2, z3⟩⟩⟩
    · have hMl := hM.2.2.2.2.1
      have hFl2 := hF.2.2.2.2.1
      have es : xwr ((M.length : Int) + (F.length : Int)) = ((M.length + F.length : Nat) : Int) := by rw [xwr_g _ (by omega) (by omega)]; omega
      by_cases c : 100 ≤ M.length + F.length
      · exact ⟨0, G, e2.trans (st_156n hs hp hp16 (by omega) hM.2.2.2.1.2.1 hF.2.2.2.1.2.1 es c), fun _ _ _ _ _ _ => rfl, hp, .inr (.inl ⟨rfl, rfl, c, y2, z2⟩)⟩
      · have hl0 := v2.1
        obtain ⟨G2, g1, g2, g3⟩ := k_76 (f := f) (m := m) (rk := 0) (p := l0) hF hl0 (by omega) has hkz (by omega) hk (fun c hc => hK.2 c (by rw [hk]; exact hc))
        have e3 := e2.trans (st_156i (lo := l0) hs hp hp16 (by omega) hM.2.2.2.1.2.1 hF.2.2.2.1.2.1 es (by omega) (by rw [y1, xwr_g _ (by omega) (by omega)]; omega) g1)
        have e4 := e3.trans (st_156c (cm := cm) hs (by rw [g2 _ _ (by omega) (by omega) (by omega)]; exact hcm) (xwr_g _ (by omega) (by omega)))
        obtain ⟨s1, s2⟩ := ins_s (rk := 0) hFs hFl v2 y2
        have fr : ∀ b j, ¬ (b = 93 ∧ j = 15) → ¬ (b = 111 + 6 * p ∧ j = 1) → b ≠ 112 + 6 * p → b ≠ 113 + 6 * p → xup2 G2 93 15 (cm + 1) b j = G b j := fun b j q1 q2 q3 q4 => by rw [xup2_n q1, g2 b j q2 (by omega) (by omega)]
        refine ⟨1, _, e4, fr, hp.ge (fun b j hz => fr b j ?_ ?_ ?_ ?_), .inr (.inr ⟨rfl, y2, z2, xup2_s _ _ _ _, _, g3.ge (fun _ _ _ => rfl) (fun j => xup2_n (by omega)) (fun j => xup2_n (by omega)) (fun j => xup2_n (by omega)), s1, ⟨len_i9 hl0, by omega⟩, s2⟩)⟩
        · rcases hz with z | z | z | z | z | z | z | ⟨z, z1, z2, k, z3⟩ | z | z | z | ⟨k, z1, z2, z3⟩ <;> omega
        · rcases hz with z | z | z | z | z | z | z | ⟨z, z1, z2, k, z3⟩ | z | z | z | ⟨k, z1, z2, z3⟩ <;> omega
        · rcases hz with z | z | z | z | z | z | z | ⟨z, z1, z2, k, z3⟩ | z | z | z | ⟨k, z1, z2, z3⟩ <;> omega
        · rcases hz with z | z | z | z | z | z | z | ⟨z, z1, z2, k, z3⟩ | z | z | z | ⟨k, z1, z2, z3⟩ <;> omega
end
