/-! THE CLASS: worth() of an EXPRESSION -/
def oEs (v : Nat → Int) : pCd → List (Option Int) → List (Option Int)
  | [], st => st
  | x :: q, st => if x.1 = 3 then (match st with
      | b :: a :: st => oEs v q ((a.bind fun a => b.bind fun b => qWk x.2 a b) :: st)
      | _ => []) else oEs v q (some (if x.1 = 1 then x.2 else v x.2.toNat) :: st)
theorem oEs_ev {v : Nat → Int} : ∀ (Q : pCd) (ST : List (Option Int)), wSt ST.length Q = some 1 → (∀ st : List Int, ST = st.map some → oEs v Q ST = [(qEs v Q st).bind List.head?]) ∧ (none ∈ ST → oEs v Q ST = [none])
  | [], ST, h => by
    have hl : ST.length = 1 := by injection h
    obtain ⟨o, rfl⟩ : ∃ o, ST = [o] := by
      match ST, hl with
      | [o], _ => exact ⟨o, rfl⟩
    refine ⟨fun st hst => ?_, fun hn => ?_⟩
    · match st, hst with
      | [x], hst =>
        injection hst with hst _
        rw [hst]; rfl
    · rw [List.mem_singleton] at hn
      rw [← hn]; rfl
  | x :: q, ST, h => by
    rw [wSt_c] at h
    by_cases c : x.1 = 3
    · rw [if_pos c] at h
      by_cases c2 : 2 ≤ ST.length
      · rw [if_pos c2] at h
        match ST, c2, h with
        | b :: a :: T, _, h =>
          have h' : wSt ((a.bind fun a => b.bind fun b => qWk x.2 a b) :: T).length q = some 1 := h
          obtain ⟨i1, i2⟩ := oEs_ev q ((a.bind fun a => b.bind fun b => qWk x.2 a b) :: T) h'
          have e : oEs v (x :: q) (b :: a :: T) = oEs v q ((a.bind fun a => b.bind fun b => qWk x.2 a b) :: T) := by
            show (if x.1 = 3 then _ else _) = _
            rw [if_pos c]
          rw [e]
          refine ⟨fun st hst => ?_, fun hn => ?_⟩
          · match st, hst with
            | b' :: a' :: st', hst =>
              injection hst with hb hst1
              injection hst1 with ha hT
              subst hb ha
              have eq : qEs v (x :: q) (b' :: a' :: st') = (qWk x.2 a' b').bind fun w => qEs v q (w :: st') := by
                show (if x.1 = 3 then _ else _) = _
                rw [if_pos c]
              rw [eq]
              show oEs v q (qWk x.2 a' b' :: T) = _
              cases hw : qWk x.2 a' b' with
              | none =>
                have := i2 (by show none ∈ (qWk x.2 a' b') :: T; rw [hw]; exact List.mem_cons_self)
                have this' : oEs v q (qWk x.2 a' b' :: T) = [none] := this
                rw [hw] at this'
                exact this'
              | some w =>
                have := i1 (w :: st') (by show (qWk x.2 a' b') :: T = _; rw [hw, hT]; rfl)
                have this' : oEs v q (qWk x.2 a' b' :: T) = [(qEs v q (w :: st')).bind List.head?] := this
                rw [hw] at this'
                exact this'
          · refine i2 ?_
            rcases List.mem_cons.mp hn with q1 | q1
            · subst q1
              have : (a.bind fun a => (none : Option Int).bind fun b => qWk x.2 a b) = none := by cases a <;> rfl
              rw [this]; exact List.mem_cons_self
            · rcases List.mem_cons.mp q1 with q2 | q2
              · subst q2
                exact List.mem_cons_self
              · exact List.mem_cons_of_mem _ q2
      · rw [if_neg c2] at h; cases h
    · rw [if_neg c] at h
      have h' : wSt (some (if x.1 = 1 then x.2 else v x.2.toNat) :: ST).length q = some 1 := h
      obtain ⟨i1, i2⟩ := oEs_ev q (some (if x.1 = 1 then x.2 else v x.2.toNat) :: ST) h'
      have e : oEs v (x :: q) ST = oEs v q (some (if x.1 = 1 then x.2 else v x.2.toNat) :: ST) := by
        show (if x.1 = 3 then _ else _) = _
        rw [if_neg c]
      rw [e]
      refine ⟨fun st hst => ?_, fun hn => i2 (List.mem_cons_of_mem _ hn)⟩
      have eq : qEs v (x :: q) st = qEs v q ((if x.1 = 1 then x.2 else v x.2.toNat) :: st) := by
        show (if x.1 = 3 then _ else _) = _
        rw [if_neg c]
      rw [eq]
      exact i1 ((if x.1 = 1 then x.2 else v x.2.toNat) :: st) (by rw [hst]; rfl)
section
variable {f u s i h kl : Nat} {S : Nat → Nat × Nat × Nat} {G : xG_} {m : Nat × Nat} {r : Nat → Int → Int → Int → xT_ → Option (Int × xT_)} {op ar v : Int}
/-- the ways of the class, and the rule that they are of -/
def cWy (S : Nat → Nat × Nat × Nat) (G : xG_) (u : Nat) (K : pCd) : Prop := cSs S ∧ cPs G ∧ G 83 3 = (u : Int) ∧ 278 < u ∧ cRuS S u ∧ cRuP G u ∧ cKo S G u K ∧ K.length ≤ 3000
theorem st_141z {b : Int} (hs : cSs S) (hp : cPs G) (h3 : G 83 3 = (u : Int)) (hu : 278 < u) (us : S u = (1, 6, 20)) (us8 : S (u + 8) = (2, 3, 20)) (w15 : G u 15 = ((u + 8 : Nat) : Int)) (hsl : s < 20) (ht : G (u + 8) s = (i : Int)) (hv : G 92 0 = v) : c141_12b r f 83 (s : Int) b (i : Int) (S, G, m) = some (v, (S, G, m)) := by
  unfold c141_12b
  simp (disch := omega) only [cq_gi, cq_gr, cq_a, cq_s, cq_p, cq_pr, cq_is, cq_ar, cq_ab, cq_ln, xq_nz, Option.bind_some, xup2_n, xup2_s, Int.toNat_natCast, Int.reduceToNat, if_pos, if_neg, true_and, and_true, and_self, eq_self, if_true, reduceIte, not_true_eq_false, not_false_eq_true, or_true, true_or, s83 hs, s92 hs, p83_13 hp, h3, us, us8, w15, ht, hv]
theorem st_141v {e : Nat} (hs : cSs S) (hp : cPs G) (h3 : G 83 3 = (u : Int)) (hu : 278 < u) (us : S u = (1, 6, 20)) (us8 : S (u + 8) = (2, 3, 20)) (us11 : S (u + 11) = (2, 3, kl)) (us12 : S (u + 12) = (2, 4, kl)) (w15 : G u 15 = ((u + 8 : Nat) : Int)) (w16 : G u 16 = ((u + 11 : Nat) : Int)) (w17 : G u 17 = ((u + 12 : Nat) : Int)) (hsl : s < 20) (ht : G (u + 8) s = (e : Int)) (hi : i < e) (hik : i < kl) (ho : G (u + 11) i = 1) (ha : G (u + 12) i = ar) (hh : h < 32) (eh : xwr ((h : Int) + 1) = ((h + 1 : Nat) : Int)) (ei : xwr ((i : Int) + 1) = ((i + 1 : Nat) : Int)) : c141_12b r f 83 (s : Int) (h : Int) (i : Int) (S, G, m) = r 83 (s : Int) ((h + 1 : Nat) : Int) ((i + 1 : Nat) : Int) (S, xup2 G 92 h ar, m) := by
  unfold c141_12b c141_48 c141_92 c141_134
  simp (disch := omega) only [cq_gi, cq_gr, cq_a, cq_s, cq_p, cq_pr, cq_is, cq_ar, cq_ab, cq_ln, xq_nz, Option.bind_some, xup2_n, xup2_s, Int.toNat_natCast, Int.reduceToNat, if_pos, if_neg, true_and, and_true, and_self, eq_self, if_true, reduceIte, not_true_eq_false, not_false_eq_true, or_true, true_or, s83 hs, s92 hs, p83_13 hp, h3, us, us8, us11, us12, w15, w16, w17, ht, ho, ha, eh, ei]
theorem st_141x {e x : Nat} (hs : cSs S) (hp : cPs G) (h3 : G 83 3 = (u : Int)) (hu : 278 < u) (us : S u = (1, 6, 20)) (us8 : S (u + 8) = (2, 3, 20)) (us11 : S (u + 11) = (2, 3, kl)) (us12 : S (u + 12) = (2, 4, kl)) (w15 : G u 15 = ((u + 8 : Nat) : Int)) (w16 : G u 16 = ((u + 11 : Nat) : Int)) (w17 : G u 17 = ((u + 12 : Nat) : Int)) (hsl : s < 20) (ht : G (u + 8) s = (e : Int)) (hi : i < e) (hik : i < kl) (ho : G (u + 11) i = 2) (ha : G (u + 12) i = (x : Int)) (hx : x < 8) (ex : xwr (x : Int) = (x : Int)) (hv : G 84 x = v) (hh : h < 32) (eh : xwr ((h : Int) + 1) = ((h + 1 : Nat) : Int)) (ei : xwr ((i : Int) + 1) = ((i + 1 : Nat) : Int)) : c141_12b r f 83 (s : Int) (h : Int) (i : Int) (S, G, m) = r 83 (s : Int) ((h + 1 : Nat) : Int) ((i + 1 : Nat) : Int) (S, xup2 G 92 h v, m) := by
  unfold c141_12b c141_48 c141_92 c141_134
  simp (disch := omega) only [cq_gi, cq_gr, cq_a, cq_s, cq_p, cq_pr, cq_is, cq_ar, cq_ab, cq_ln, xq_nz, Option.bind_some, xup2_n, xup2_s, Int.toNat_natCast, Int.reduceToNat, if_pos, if_neg, true_and, and_true, and_self, eq_self, if_true, reduceIte, not_true_eq_false, not_false_eq_true, or_true, true_or, s83 hs, s84 hs, s92 hs, p83_0 hp, p83_13 hp, h3, us, us8, us11, us12, w15, w16, w17, ht, ho, ha, ex, hv, eh, ei]
theorem st_141o {e : Nat} {a b w : Int} (hs : cSs S) (hp : cPs G) (h3 : G 83 3 = (u : Int)) (hu : 278 < u) (us : S u = (1, 6, 20)) (us8 : S (u + 8) = (2, 3, 20)) (us11 : S (u + 11) = (2, 3, kl)) (w15 : G u 15 = ((u + 8 : Nat) : Int)) (w16 : G u 16 = ((u + 11 : Nat) : Int)) (hsl : s < 20) (ht : G (u + 8) s = (e : Int)) (hi : i < e) (hik : i < kl) (ho : G (u + 11) i = op) (o1 : op ≠ 1) (o2 : op ≠ 2) (hh : h + 2 ≤ 32) (ha : G 92 h = a) (hb : G 92 (h + 1) = b) (ec : c192 f op a b (S, G, m) = some (w, (S, G, m))) (e1 : xwr (((h + 2 : Nat) : Int) + (-1)) = ((h + 1 : Nat) : Int)) (e2 : xwr (((h + 1 : Nat) : Int) - 1) = (h : Int)) (ei : xwr ((i : Int) + 1) = ((i + 1 : Nat) : Int)) : c141_12b r f 83 (s : Int) ((h + 2 : Nat) : Int) (i : Int) (S, G, m) = r 83 (s : Int) ((h + 1 : Nat) : Int) ((i + 1 : Nat) : Int) (S, xup2 G 92 h w, m) := by
  unfold c141_12b c141_134
  simp (disch := omega) only [cq_gi, cq_gr, cq_a, cq_s, cq_p, cq_pr, cq_is, cq_ar, cq_ab, cq_ln, xq_nz, Option.bind_some, xup2_n, xup2_s, Int.toNat_natCast, Int.reduceToNat, if_pos, if_neg, true_and, and_true, and_self, eq_self, if_true, reduceIte, not_true_eq_false, not_false_eq_true, or_true, true_or, s83 hs, s92 hs, p83_13 hp, h3, us, us8, us11, w15, w16, ht, ho, o1, o2, ha, hb, ec, e1, e2, ei]
end
