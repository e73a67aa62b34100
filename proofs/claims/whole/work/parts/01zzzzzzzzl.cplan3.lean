/-! THE CLASS: makePlan(), the order -/
def sfe (Ls : List pLt) (nv : Nat) : Prop := ∀ k, k < nv → (qBd Ls).testBit k = true
/-- the order so far -/
def isPl (G : xG_) (u : Nat) (Ls : List pLt) (nv pm b st : Nat) (pl : List Nat) : Prop := (pm < 2 ^ 8 ∧ b < 2 ^ 8) ∧ (∀ j, j < Ls.length → pm.testBit j = true → qSub (qLv (Ls.getD j dLt)) b) ∧ (∀ k, k < Ls.length → ∃ p : Nat, G (u + 9) k = p ∧ p < Ls.length) ∧
  (sfe Ls nv → pl.length = st ∧ pl.Nodup ∧ (∀ j, pm.testBit j = true ↔ j ∈ pl) ∧ (∀ j, j ∈ pl → j < Ls.length) ∧ plB Ls pl 0 = some b ∧ ∀ k, k < st → G (u + 9) k = ((pl.getD k 0 : Nat) : Int))
section
variable {f u s nv l pm b st : Nat} {S : Nat → Nat × Nat × Nat} {G G' : xG_} {m : Nat × Nat} {K E : pCd} {Ls : List pLt} {x : pLt} {be bc : Int} {r6 : Nat → Int → Int → Int → xT_ → Option (xT_)} {r23 : Nat → Int → Int → Int → Int → Int → Int → xT_ → Option (xT_)}
theorem st_96E {n : Nat} (us : S u = (1, 6, 20)) (h8 : G u 8 = (n : Int)) : c96_23b r6 r23 f u (pm : Int) (b : Int) (st : Int) (-1) bc (n : Int) (S, G, m) = r6 u (pm : Int) (b : Int) (xwr ((st : Int) + 1)) (S, G, m) := by
  unfold c96_23b c96_127
  simp (disch := omega) only [cq_gi, cq_gr, cq_a, cq_s, cq_p, cq_pr, cq_is, cq_ar, cq_ab, cq_ln, xq_nz, Option.bind_some, xup2_n, xup2_s, Int.toNat_natCast, Int.reduceToNat, if_pos, if_neg, true_and, and_true, and_self, eq_self, if_true, reduceIte, not_true_eq_false, not_false_eq_true, or_true, true_or, us, h8]
theorem st_96F {n p : Nat} {v : Int} (u2 : 278 < u) (hst : st < 8) (us : S u = (1, 6, 20)) (us9 : S (u + 9) = (2, 3, 8)) (w18 : G u 18 = ((u + 9 : Nat) : Int)) (h8 : G u 8 = (n : Int)) (e94 : c94 f u (p : Int) (b : Int) (S, xup2 G (u + 9) st (p : Int), m) = some (v, (S, xup2 G (u + 9) st (p : Int), m))) : c96_23b r6 r23 f u (pm : Int) (b : Int) (st : Int) (p : Int) bc (n : Int) (S, G, m) = r6 u (xor_ (pm : Int) (xshl 1 (p : Int))) v (xwr ((st : Int) + 1)) (S, xup2 G (u + 9) st (p : Int), m) := by
  unfold c96_23b c96_127
  simp (disch := omega) only [cq_gi, cq_gr, cq_a, cq_s, cq_p, cq_pr, cq_is, cq_ar, cq_ab, cq_ln, xq_nz, Option.bind_some, xup2_n, xup2_s, Int.toNat_natCast, Int.reduceToNat, if_pos, if_neg, true_and, and_true, and_self, eq_self, if_true, reduceIte, not_true_eq_false, not_false_eq_true, or_true, true_or, us, us9, w18, h8, e94]
theorem st_96o {n : Nat} (us : S u = (1, 6, 20)) (h8 : G u 8 = (n : Int)) (hst : st < n) : c96_6b r6 f u (pm : Int) (b : Int) (st : Int) (S, G, m) = c96_23 r6 f f u (pm : Int) (b : Int) (st : Int) (-1) (-1) ((0 : Nat) : Int) (S, G, m) := by
  unfold c96_6b
  simp (disch := omega) only [cq_gi, cq_gr, cq_a, cq_s, cq_p, cq_pr, cq_is, cq_ar, cq_ab, cq_ln, xq_nz, Option.bind_some, xup2_n, xup2_s, Int.toNat_natCast, Int.reduceToNat, if_pos, if_neg, true_and, and_true, and_self, eq_self, if_true, reduceIte, not_true_eq_false, not_false_eq_true, or_true, true_or, us, h8]
  rfl
theorem tb_or (pm p j : Nat) : (pm ||| 2 ^ p).testBit j = true ↔ pm.testBit j = true ∨ j = p := by
  rw [Nat.testBit_or, Bool.or_eq_true, Nat.testBit_two_pow, decide_eq_true_iff]
  exact ⟨fun q => q.imp id Eq.symm, fun q => q.imp id Eq.symm⟩
theorem k_96o (hf : 3010 < f) (hw : ∀ y ∈ Ls, wLv nv y) (hnv : nv ≤ 8) : ∀ (d st fu : Nat) (G : xG_) (pm b : Nat) (pl : List Nat), st + d = Ls.length → d < fu → cRq S G u K Ls → isPl G u Ls nv pm b st pl → ∃ (fu' : Nat) (G' : xG_) (pm' b' : Nat) (pl' : List Nat), fu' + d = fu ∧ c96_6 f fu u (pm : Int) (b : Int) (st : Int) (S, G, m) = c96_6 f fu' u (pm' : Int) (b' : Int) (Ls.length : Int) (S, G', m) ∧ cRq S G' u K Ls ∧ isPl G' u Ls nv pm' b' Ls.length pl' ∧ ∀ a j, a ≠ u + 9 → G' a j = G a j := by
  intro d
  induction d with
  | zero =>
    intro st fu G pm b pl h1 h2 hR hP
    have : st = Ls.length := by omega
    rw [this] at hP ⊢
    exact ⟨fu, G, pm, b, pl, rfl, rfl, hR, hP, fun _ _ _ => rfl⟩
  | succ d ih =>
    intro st fu G pm b pl h1 h2 hR hP
    obtain ⟨fu, rfl⟩ : ∃ t, fu = t + 1 := ⟨fu - 1, by omega⟩
    have us := hR.1.1
    have us9 := hR.1.2.2.2.2.2.2.2.2.2.1
    have w18 := hR.2.1.2.2.2.2.2.2.2.2.1
    have u2 := hR.2.2.2.2.1
    have h8 := hR.2.2.2.1.1
    have hl8 := hR.2.2.2.1.2.1
    obtain ⟨⟨p1, p2⟩, p3, p4, p5⟩ := hP
    have ek : xwr ((st : Int) + 1) = ((st + 1 : Nat) : Int) := by rw [xwr_g _ (by omega) (by omega)]; omega
    obtain ⟨fu', be, bc, i1, i2, i3⟩ := k_96i (f := f) (m := m) (st := st) (r6 := c96_6 f fu) hf hR hw hnv p2 p1 Ls.length 0 f (-1) (-1) (by omega) (by omega) (.inl ⟨rfl, rfl, fun j hj => absurd hj (Nat.not_lt_zero j)⟩)
    obtain ⟨fu'', rfl⟩ : ∃ t, fu' = t + 1 := ⟨fu' - 1, by omega⟩
    have e0 : c96_6 f (fu + 1) u (pm : Int) (b : Int) (st : Int) (S, G, m) = c96_23b (c96_6 f fu) (c96_23 (c96_6 f fu) f fu'') f u (pm : Int) (b : Int) (st : Int) be bc (Ls.length : Int) (S, G, m) := by
      show c96_6b (c96_6 f fu) f u _ _ _ _ = _
      rw [st_96o us h8 (by omega), i2]
      rfl
    rcases i3 with ⟨a1, a2, a3⟩ | ⟨p, a1, a2, a3, a4⟩
    · -- none is left that could come: not in a safe rule
      have hns : ¬ sfe Ls nv := fun hsf => by
        obtain ⟨q1, q2, q3, q4, q5, q6⟩ := p5 hsf
        have hex : ∃ y, y < Ls.length ∧ ¬ pm.testBit y = true := by
          refine Classical.byContradiction (fun hno => ?_)
          have hall : ∀ y, y < Ls.length → y ∈ pl := fun y hy => (q3 y).mp (Classical.byContradiction (fun z => hno ⟨y, hy, z⟩))
          have := nodup_len (List.range Ls.length) pl List.nodup_range (fun y hy => hall y (List.mem_range.mp hy))
          rw [List.length_range] at this
          omega
        obtain ⟨y, hy, hyn⟩ := hex
        obtain ⟨z, z1, z2, z3⟩ := plan_more (P := fun j => pm.testBit j = true) hw hsf p3 hy hyn
        exact z3 (a3 z z1 (by cases hq : pm.testBit z with
          | true => exact absurd hq z2
          | false => rfl))
      rw [a1, st_96E us h8, ek] at e0
      obtain ⟨fu3, G3, pm3, b3, pl3, j1, j2, j3, j4, j5⟩ := ih (st + 1) fu G pm b pl (by omega) (by omega) hR ⟨⟨p1, p2⟩, p3, p4, fun z => absurd z hns⟩
      exact ⟨fu3, G3, pm3, b3, pl3, by omega, e0.trans j2, j3, j4, j5⟩
    · have hR' : cRq S (xup2 G (u + 9) st (p : Int)) u K Ls := hR.pl (fun a j z1 z2 => xup2_n (fun y => z1 y.1))
      have hwp : wLv nv (Ls.getD p dLt) := by rw [getD_e a2]; exact hw _ (List.getElem_mem a2)
      have e94 := k_94 (f := f) (m := m) (b := b) hf hR' (by omega) (hR'.2.2.2.1.2.2 p a2) hwp hnv p2
      rw [show Ls.getD p (0, 0, 0, [], [], []) = Ls.getD p dLt from rfl] at e94
      cases hq : qBh (Ls.getD p dLt) b with
      | none => exact absurd hq a4
      | some y =>
        rw [hq] at e94
        obtain ⟨y1, y2⟩ := qBh_some hwp hnv p2 hq
        rw [a1, st_96F u2 (by omega) us us9 w18 h8 e94, ek, xorb (by omega) (by omega)] at e0
        have hP' : isPl (xup2 G (u + 9) st (p : Int)) u Ls nv (pm ||| 2 ^ p) y (st + 1) (pl ++ [p]) := by
          refine ⟨⟨or_lt p1 (by omega), y2⟩, fun j hj hb => ?_, fun k hk => ?_, fun hsf => ?_⟩
          · rw [tb_or] at hb
            rw [y1]
            rcases hb with z | z
            · exact qSub_t.mpr (fun t ht => by rw [Nat.testBit_or, qSub_t.mp (p3 j hj z) t ht, Bool.true_or])
            · rw [z]
              exact qSub_t.mpr (fun t ht => by rw [Nat.testBit_or, ht, Bool.or_true])
          · by_cases ck : k = st
            · rw [ck, xup2_s]; exact ⟨p, rfl, a2⟩
            · rw [xup2_n (fun z => ck z.2)]; exact p4 k hk
          · obtain ⟨q1, q2, q3, q4, q5, q6⟩ := p5 hsf
            have hnp : p ∉ pl := fun z => by rw [(q3 p).mpr z] at a3; cases a3
            refine ⟨by rw [len1, q1], ?_, fun j => ?_, fun j hj => ?_, ?_, fun k hk => ?_⟩
            · rw [List.nodup_append]
              exact ⟨q2, by simp, fun c hc d hd => by rw [List.mem_singleton] at hd; rw [hd]; exact fun z => hnp (z ▸ hc)⟩
            · rw [tb_or, List.mem_append, List.mem_singleton, q3]
            · rw [List.mem_append, List.mem_singleton] at hj
              rcases hj with z | z
              · exact q4 j z
              · rw [z]; exact a2
            · rw [plB_ap, q5]
              exact hq
            · rw [getD_1]
              by_cases ck : k = st
              · rw [ck, xup2_s, if_pos q1.symm]
              · rw [xup2_n (fun z => ck z.2), if_neg (by omega)]
                exact q6 k (by omega)
        obtain ⟨fu3, G3, pm3, b3, pl3, j1, j2, j3, j4, j5⟩ := ih (st + 1) fu _ _ _ _ (by omega) (by omega) hR' hP'
        exact ⟨fu3, G3, pm3, b3, pl3, by omega, e0.trans j2, j3, j4, fun a j z => by rw [j5 a j z, xup2_n (fun y => z y.1)]⟩
end
