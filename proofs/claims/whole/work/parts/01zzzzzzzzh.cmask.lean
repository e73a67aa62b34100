/-! THE CLASS: VARIABLES of rules as masks -/
/-- the code of a rule that is read -/
def cKo (S : Nat → Nat × Nat × Nat) (G : xG_) (u : Nat) (K : pCd) : Prop := G u 16 = ((u + 11 : Nat) : Int) ∧ G u 17 = ((u + 12 : Nat) : Int) ∧ S (u + 11) = (2, 3, K.length) ∧ S (u + 12) = (2, 4, K.length) ∧ ∀ k, k < K.length → G (u + 11) k = (K.getD k (0, 0)).1 ∧ G (u + 12) k = (K.getD k (0, 0)).2
def cRq (S : Nat → Nat × Nat × Nat) (G : xG_) (u : Nat) (K : pCd) (Ls : List pLt) : Prop := cRuS S u ∧ cRuP G u ∧ cKo S G u K ∧ cLs G u K Ls ∧ 278 < u ∧ K.length ≤ 3000
/-- the VARIABLES of a LITERAL -/
def qLv (x : pLt) : Nat := if x.1 = 3 then qVm x.2.2.2.2.1 ||| qVm x.2.2.2.2.2 else qT x.2.2.2.1
theorem K_get {K A C E : pCd} (h : K = A ++ E.map cOp ++ C) {i : Nat} (hi : i < E.length) : K.getD (A.length + i) (0, 0) = cOp (E.getD i (0, 0)) := by
  rw [h, List.append_assoc, getD_apr, getD_app _ (by rw [List.length_map]; exact hi), getD_e (by rw [List.length_map]; exact hi), List.getElem_map, getD_e hi]
theorem K_len {K A C E : pCd} (h : K = A ++ E.map cOp ++ C) : A.length + E.length ≤ K.length := by
  rw [h, List.length_append, List.length_append, List.length_map]; omega
theorem qVm_tk {E : pCd} {i : Nat} (hi : i < E.length) : qVm (E.take (i + 1)) = qVm (E.take i) ||| (if (E.getD i (0, 0)).1 = 2 then 2 ^ (E.getD i (0, 0)).2.toNat else 0) := by
  rw [List.take_add_one, List.getElem?_eq_getElem hi, getD_e hi, qVm_ap]
  show _ ||| qVm [E[i]] = _
  congr 1
  show (if E[i].1 = 2 then 2 ^ E[i].2.toNat else 0) ||| 0 = _
  rw [Nat.or_zero]
theorem qVm_8 {nv : Nat} (hv : nv ≤ 8) : ∀ {E : pCd}, wC nv E → qVm E < 2 ^ 8
  | [], _ => by decide
  | x :: q, h => by
    have h1 := qVm_8 hv (E := q) (fun y hy => h y (List.mem_cons_of_mem _ hy))
    have h2 := h x (List.mem_cons_self ..)
    show (if x.1 = 2 then 2 ^ x.2.toNat else 0) ||| qVm q < 2 ^ 8
    refine Nat.or_lt_two_pow ?_ h1
    split
    · rename_i c
      refine Nat.pow_lt_pow_right (by decide) ?_
      rcases h2 with a | a | a <;> omega
    · decide
theorem wC.tk {nv : Nat} {E : pCd} (h : wC nv E) (i : Nat) : wC nv (E.take i) := fun x hx => h x (List.mem_of_mem_take hx)
section
variable {f u s nv l : Nat} {S : Nat → Nat × Nat × Nat} {G : xG_} {m : Nat × Nat} {K E : pCd} {Ls : List pLt}
theorem st_92 {a b : Nat} {o v x2 : Int} {r9 : Nat → Int → Int → Int → xT_ → Option (Int × xT_)} {kl : Nat} (u2 : 278 < u) (us : S u = (1, 6, 20)) (us8 : S (u + 8) = (2, 3, 20)) (w15 : G u 15 = ((u + 8 : Nat) : Int)) (w16 : G u 16 = ((u + 11 : Nat) : Int)) (w17 : G u 17 = ((u + 12 : Nat) : Int)) (s11 : S (u + 11) = (2, 3, kl)) (s12 : S (u + 12) = (2, 4, kl)) (hs : s < 20) (h8 : G (u + 8) s = (b : Int)) (ha : a < b) (hb : b ≤ kl) (hk : kl ≤ 3000) (ho : G (u + 11) a = o) (hv : G (u + 12) a = v) (e1 : xwr ((a : Int) + 1) = ((a + 1 : Nat) : Int)) : c92_9b r9 f u (s : Int) x2 (a : Int) (S, G, m) = if o = 2 then r9 u (s : Int) (xor_ x2 (xshl 1 (xwr v))) ((a + 1 : Nat) : Int) (S, G, m) else r9 u (s : Int) x2 ((a + 1 : Nat) : Int) (S, G, m) := by
  by_cases c : o = 2
  · rw [if_pos c]
    rw [c] at ho
    unfold c92_9b c92_41
    simp (disch := omega) only [cq_gi, cq_gr, cq_a, cq_s, cq_p, cq_pr, cq_is, cq_ar, cq_ab, cq_ln, xq_nz, Option.bind_some, xup2_n, xup2_s, Int.toNat_natCast, Int.reduceToNat, if_pos, if_neg, true_and, and_true, and_self, eq_self, if_true, reduceIte, not_true_eq_false, not_false_eq_true, or_true, true_or, us, us8, w15, w16, w17, s11, s12, h8, ho, hv, e1]
  · rw [if_neg c]
    unfold c92_9b c92_41
    simp (disch := omega) only [cq_gi, cq_gr, cq_a, cq_s, cq_p, cq_pr, cq_is, cq_ar, cq_ab, cq_ln, xq_nz, Option.bind_some, xup2_n, xup2_s, Int.toNat_natCast, Int.reduceToNat, if_pos, if_neg, true_and, and_true, and_self, eq_self, if_true, reduceIte, not_true_eq_false, not_false_eq_true, or_true, true_or, us, us8, w15, w16, s11, h8, ho, e1]
theorem k_92_9 (hR : cRq S G u K Ls) (hs : s < 20) {A C : pCd} (hK : K = A ++ E.map cOp ++ C) (h8 : G (u + 8) s = ((A.length + E.length : Nat) : Int)) (hE : wC nv E) (hnv : nv ≤ 8) : ∀ (d i fu : Nat), i + d = E.length → d < fu → c92_9 f fu u (s : Int) ((qVm (E.take i) : Nat) : Int) ((A.length + i : Nat) : Int) (S, G, m) = some ((qVm E : Int), (S, G, m)) := by
  obtain ⟨⟨us, us1, us2, us3, us4, us5, us6, us7, us8, _⟩, ⟨w7, w9, w10, w11, w12, w13, w14, w15, _⟩, ⟨k1, k2, k3, k4, k5⟩, _, u2, hk⟩ := hR
  have hl := K_len hK
  intro d
  induction d with
  | zero =>
    intro i fu h1 h2
    obtain ⟨fu, rfl⟩ : ∃ t, fu = t + 1 := ⟨fu - 1, by omega⟩
    have hi : i = E.length := by omega
    rw [hi, List.take_length]
    show c92_9b (c92_9 f fu) f u _ _ _ _ = _
    unfold c92_9b
    simp (disch := omega) only [cq_gi, cq_gr, cq_a, cq_s, cq_p, cq_pr, cq_is, cq_ar, cq_ab, cq_ln, xq_nz, Option.bind_some, xup2_n, xup2_s, Int.toNat_natCast, Int.reduceToNat, if_pos, if_neg, true_and, and_true, and_self, eq_self, if_true, reduceIte, not_true_eq_false, not_false_eq_true, or_true, true_or, us, us8, w15, h8]
  | succ d ih =>
    intro i fu h1 h2
    obtain ⟨fu, rfl⟩ : ∃ t, fu = t + 1 := ⟨fu - 1, by omega⟩
    have hi : i < E.length := by omega
    have ek : xwr (((A.length + i : Nat) : Int) + 1) = ((A.length + i + 1 : Nat) : Int) := by rw [xwr_g _ (by omega) (by omega)]; omega
    have hv := k5 (A.length + i) (by omega)
    rw [K_get hK hi] at hv
    have e1 := st_92 (f := f) (m := m) (r9 := c92_9 f fu) (x2 := ((qVm (E.take i) : Nat) : Int)) u2 us us8 w15 k1 k2 k3 k4 hs h8 (by omega : A.length + i < A.length + E.length) hl hk hv.1 hv.2 ek
    have hw := hE (E.getD i (0, 0)) (by rw [getD_e hi]; exact List.getElem_mem hi)
    have hb := qVm_8 hnv (hE.tk i)
    have step := ih (i + 1) fu (by omega) (by omega)
    rw [qVm_tk hi] at step
    show c92_9b (c92_9 f fu) f u _ _ _ _ = _
    rw [e1]
    by_cases c : (E.getD i (0, 0)).1 = 2
    · rw [if_pos c] at step
      have eo : cOp (E.getD i (0, 0)) = E.getD i (0, 0) := by unfold cOp; rw [if_neg (by omega)]
      rw [eo, if_pos c]
      have hvv : 0 ≤ (E.getD i (0, 0)).2 ∧ (E.getD i (0, 0)).2 < nv := by rcases hw with a | a | a <;> omega
      have ev : xwr (E.getD i (0, 0)).2 = ((E.getD i (0, 0)).2.toNat : Int) := by rw [xwr_g _ (by omega) (by omega)]; omega
      rw [ev, xorb (by omega) (by omega)]
      exact step
    · rw [if_neg c, Nat.or_zero] at step
      have hne : ¬ (cOp (E.getD i (0, 0))).1 = 2 := by
        unfold cOp
        rcases hw with a | a | ⟨a, b⟩
        · rw [if_neg (by omega)]; exact c
        · exact absurd a.1 c
        · rw [if_pos a]
          show ¬ (E.getD i (0, 0)).2 = 2
          unfold wSg at b
          omega
      rw [if_neg hne]
      exact step
/-- variablesOf() -/
theorem k_92 (hf : 3010 < f) (hR : cRq S G u K Ls) (hs : s < 20) (hg : cSg G u K s E) (hE : wC nv E) (hnv : nv ≤ 8) : c92 f u (s : Int) (S, G, m) = some ((qVm E : Int), (S, G, m)) := by
  obtain ⟨A, C, hK, h7, h8⟩ := hg
  have hl := K_len hK
  have := k_92_9 (f := f) (m := m) hR hs hK h8 hE hnv E.length 0 f (by omega) (by have := hR.2.2.2.2.2; omega)
  rw [← this]
  have us := hR.1.1
  have us7 := hR.1.2.2.2.2.2.2.2.1
  have w14 := hR.2.1.2.2.2.2.2.2.1
  have u2 := hR.2.2.2.2.1
  clear this
  unfold c92
  simp (disch := omega) only [cq_gi, cq_gr, cq_a, cq_s, cq_p, cq_pr, cq_is, cq_ar, cq_ab, cq_ln, xq_nz, Option.bind_some, xup2_n, xup2_s, Int.toNat_natCast, Int.reduceToNat, if_pos, if_neg, true_and, and_true, and_self, eq_self, if_true, reduceIte, not_true_eq_false, not_false_eq_true, or_true, true_or, us, us7, w14, h7]
  rfl
/-- loneVariable() -/
theorem k_91 (hR : cRq S G u K Ls) (hs : s < 20) (hg : cSg G u K s E) (hE : wC nv E) (hnv : nv ≤ 8) : ∃ v, c91 f u (s : Int) (S, G, m) = some (v, (S, G, m)) ∧ (v = -1 ↔ ¬ qAl E) := by
  obtain ⟨A, C, hK, h7, h8⟩ := hg
  have hl := K_len hK
  obtain ⟨⟨us, us1, us2, us3, us4, us5, us6, us7, us8, _⟩, ⟨w7, w9, w10, w11, w12, w13, w14, w15, _⟩, ⟨k1, k2, k3, k4, k5⟩, _, u2, hk⟩ := hR
  have e1 : xwr (((A.length + E.length : Nat) : Int) - (A.length : Int)) = (E.length : Int) := by rw [xwr_g _ (by omega) (by omega)]; omega
  by_cases c : E.length = 1
  · have hv := k5 A.length (by omega)
    have hv0 := K_get hK (i := 0) (by omega)
    rw [Nat.add_zero] at hv0
    rw [hv0] at hv
    have hw := hE (E.getD 0 (0, 0)) (by rw [getD_e (by omega)]; exact List.getElem_mem _)
    have e1' : xwr (((A.length + E.length : Nat) : Int) - (A.length : Int)) = 1 := by rw [e1, c]; rfl
    by_cases c2 : (E.getD 0 (0, 0)).1 = 2
    · have eo : cOp (E.getD 0 (0, 0)) = E.getD 0 (0, 0) := by unfold cOp; rw [if_neg (by omega)]
      rw [eo, c2] at hv
      have hvv : 0 ≤ (E.getD 0 (0, 0)).2 ∧ (E.getD 0 (0, 0)).2 < nv := by rcases hw with a | a | a <;> omega
      refine ⟨xwr (E.getD 0 (0, 0)).2, ?_, fun q => ?_, fun q => absurd ⟨c, c2⟩ q⟩
      · have hv1 := hv.1
        have hv2 := hv.2
        clear hw hv0 eo hvv e1 hK
        unfold c91 c91_37 c91_58
        simp (disch := omega) only [cq_gi, cq_gr, cq_a, cq_s, cq_p, cq_pr, cq_is, cq_ar, cq_ab, cq_ln, xq_nz, Option.bind_some, xup2_n, xup2_s, Int.toNat_natCast, Int.reduceToNat, if_pos, if_neg, true_and, and_true, and_self, eq_self, if_true, reduceIte, not_true_eq_false, not_false_eq_true, or_true, true_or, us, us7, us8, w14, w15, k1, k2, k3, k4, h7, h8, hv1, hv2, e1']
      · rw [xwr_g _ (by omega) (by omega)] at q
        omega
    · have hne : ¬ (cOp (E.getD 0 (0, 0))).1 = 2 := by
        unfold cOp
        rcases hw with a | a | ⟨a, b⟩
        · rw [if_neg (by omega)]; exact c2
        · exact absurd a.1 c2
        · rw [if_pos a]
          show ¬ (E.getD 0 (0, 0)).2 = 2
          unfold wSg at b
          omega
      refine ⟨-1, ?_, fun _ q => c2 q.2, fun _ => rfl⟩
      have hv1 := hv.1
      clear hw hv0 e1 hK
      unfold c91 c91_36 c91_37 c91_58
      simp (disch := omega) only [cq_gi, cq_gr, cq_a, cq_s, cq_p, cq_pr, cq_is, cq_ar, cq_ab, cq_ln, xq_nz, Option.bind_some, xup2_n, xup2_s, Int.toNat_natCast, Int.reduceToNat, if_pos, if_neg, true_and, and_true, and_self, eq_self, if_true, reduceIte, not_true_eq_false, not_false_eq_true, or_true, true_or, us, us7, us8, w14, w15, k1, k3, h7, h8, hv1, e1', hne]
  · refine ⟨-1, ?_, fun _ q => c q.1, fun _ => rfl⟩
    unfold c91 c91_36 c91_37 c91_58
    simp (disch := omega) only [cq_gi, cq_gr, cq_a, cq_s, cq_p, cq_pr, cq_is, cq_ar, cq_ab, cq_ln, xq_nz, Option.bind_some, xup2_n, xup2_s, Int.toNat_natCast, Int.reduceToNat, if_pos, if_neg, true_and, and_true, and_self, eq_self, if_true, reduceIte, not_true_eq_false, not_false_eq_true, or_true, true_or, us, us7, us8, w14, w15, h7, h8, e1]
end
