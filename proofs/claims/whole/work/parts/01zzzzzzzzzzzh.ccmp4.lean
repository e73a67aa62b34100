/-! THE CLASS: compares() whole -/
def cmB (kd a b : Int) : Int := if kd = 61 then (if a = b then 1 else 0) else if kd = 257 then (if a = b then 0 else 1) else if kd = 60 then (if b ≤ a then 0 else 1) else if kd = 258 then (if b < a then 0 else 1) else if kd = 62 then (if a ≤ b then 0 else 1) else (if a < b then 0 else 1)
theorem cmB_c {kd a b : Int} (hk : kd = 61 ∨ kd = 257 ∨ kd = 60 ∨ kd = 258 ∨ kd = 62 ∨ kd = 259) : (cmB kd a b = 0 ∨ cmB kd a b = 1) ∧ (cmB kd a b = 1 ↔ cCm kd a b) := by
  unfold cmB cCm
  rcases hk with rfl | rfl | rfl | rfl | rfl | rfl <;> simp only [Int.reduceEq, if_true, if_false, reduceIte, false_implies, true_implies, and_true, true_and, and_self] <;> split <;> constructor <;> omega
section
variable {f u s l st b nv x : Nat} {S : Nat → Nat × Nat × Nat} {G G1 G2 : xG_} {m : Nat × Nat} {K E : pCd} {vl : Nat → Int} {v w kd s1 s2 : Int}
theorem st_111 (hs : cSs S) (e1 : c141 f 83 s1 (S, G, m) = some (v, (S, G1, m))) (e2 : c141 f 83 s2 (S, G1, m) = some (w, (S, G2, m))) : c139_111 f 83 s1 s2 kd (S, G, m) = some (if v < -1000000000000 ∨ w < -1000000000000 then 0 else cmB kd v w, (S, G2, m)) := by
  have base : c139_111 f 83 s1 s2 kd (S, G, m) = c139_111b f kd (v, (S, G1, m)) (w, (S, G2, m)) := by
    rw [c139_111a_e]
    simp (disch := omega) only [cq_gi, cq_gr, cq_a, cq_s, cq_p, cq_pr, cq_is, cq_ar, cq_ab, cq_ln, xq_nz, Option.bind_some, xup2_n, xup2_s, Int.toNat_natCast, Int.reduceToNat, if_pos, if_neg, true_and, and_true, and_self, eq_self, if_true, reduceIte, not_true_eq_false, not_false_eq_true, or_true, true_or, s83 hs, e1]
    rw [c139_111b_e]
    simp (disch := omega) only [cq_gi, cq_gr, cq_a, cq_s, cq_p, cq_pr, cq_is, cq_ar, cq_ab, cq_ln, xq_nz, Option.bind_some, xup2_n, xup2_s, Int.toNat_natCast, Int.reduceToNat, if_pos, if_neg, true_and, and_true, and_self, eq_self, if_true, reduceIte, not_true_eq_false, not_false_eq_true, or_true, true_or, s83 hs, e2]
  rw [base]
  unfold c139_111b c139_143 c139_275
  by_cases q1 : v < -1000000000000
  · simp (disch := omega) only [cq_gi, cq_gr, cq_a, cq_s, cq_p, cq_pr, cq_is, cq_ar, cq_ab, cq_ln, xq_nz, Option.bind_some, xup2_n, xup2_s, Int.toNat_natCast, Int.reduceToNat, if_pos, if_neg, true_and, and_true, and_self, eq_self, if_true, reduceIte, not_true_eq_false, not_false_eq_true, or_true, true_or, q1]
  · by_cases q2 : w < -1000000000000
    · simp (disch := omega) only [cq_gi, cq_gr, cq_a, cq_s, cq_p, cq_pr, cq_is, cq_ar, cq_ab, cq_ln, xq_nz, Option.bind_some, xup2_n, xup2_s, Int.toNat_natCast, Int.reduceToNat, if_pos, if_neg, true_and, and_true, and_self, eq_self, if_true, reduceIte, not_true_eq_false, not_false_eq_true, or_true, true_or, q1, q2]
    · have hn : ¬ (v < -1000000000000 ∨ w < -1000000000000) := fun y => y.elim q1 q2
      have hw : -1000000000000 ≤ w := by omega
      simp only [if_neg q1, if_pos hw, if_neg hn]
      unfold cmB
      by_cases k1 : kd = 61
      · simp only [k1, if_true, not_true_eq_false, if_false]
        by_cases z : v = w <;> simp [z]
      · by_cases k2 : kd = 257
        · simp only [k2, if_true, not_true_eq_false, if_false, Int.reduceEq, not_false_eq_true]
          by_cases z : v = w <;> simp [z]
        · by_cases k3 : kd = 60
          · simp only [k3, if_true, not_true_eq_false, if_false, Int.reduceEq, not_false_eq_true]
            by_cases z : w ≤ v <;> simp [z]
          · by_cases k4 : kd = 258
            · simp only [k4, if_true, not_true_eq_false, if_false, Int.reduceEq, not_false_eq_true]
              by_cases z : w < v <;> simp [z]
            · by_cases k5 : kd = 62
              · simp only [k5, if_true, not_true_eq_false, if_false, Int.reduceEq, not_false_eq_true]
                by_cases z : v ≤ w <;> simp [z]
              · simp only [k1, k2, k3, k4, k5, not_false_eq_true, if_true, if_false]
                by_cases z : v < w <;> simp [z]
/-- what a compare does: none if it doesn't hold -/
def cmpV (y : pLt) (b : Nat) (vl : Nat → Int) : Option (Nat × (Nat → Int)) :=
  if y.2.1 = 61 ∧ qAl2 y.2.2.2.2.1 ∧ b.testBit (y.2.2.2.2.1.getD 0 (0, 0)).2.toNat = false then (qEv vl y.2.2.2.2.2).bind fun z => some (b ||| 2 ^ (y.2.2.2.2.1.getD 0 (0, 0)).2.toNat, fUpd vl (y.2.2.2.2.1.getD 0 (0, 0)).2.toNat z)
  else if y.2.1 = 61 ∧ qAl2 y.2.2.2.2.2 ∧ b.testBit (y.2.2.2.2.2.getD 0 (0, 0)).2.toNat = false then (qEv vl y.2.2.2.2.1).bind fun z => some (b ||| 2 ^ (y.2.2.2.2.2.getD 0 (0, 0)).2.toNat, fUpd vl (y.2.2.2.2.2.getD 0 (0, 0)).2.toNat z)
  else (qEv vl y.2.2.2.2.1).bind fun a => (qEv vl y.2.2.2.2.2).bind fun c => if cmB y.2.1 a c = 1 then some (b, vl) else none
variable {y : pLt}
theorem cVl.sub {b' : Nat} (h : cVl G b vl) (hs : qSub b' b) : cVl G b' vl := fun k hk => h k ((qSub_t.mp hs) k hk)
/-- all that compares() reads -/
def cCp (S : Nat → Nat × Nat × Nat) (G : xG_) (u l st b nv : Nat) (K : pCd) (y : pLt) : Prop := cWy S G u K ∧ l < 8 ∧ nv ≤ 8 ∧ G (u + 2) l = y.2.1 ∧ (y.2.1 = 61 ∨ y.2.1 = 257 ∨ y.2.1 = 60 ∨ y.2.1 = 258 ∨ y.2.1 = 62 ∨ y.2.1 = 259) ∧ cSg G u K (4 + 2 * l) y.2.2.2.2.1 ∧ cSg G u K (5 + 2 * l) y.2.2.2.2.2 ∧ (wEx nv y.2.2.2.2.1 ∧ dB 12 y.2.2.2.2.1) ∧ (wEx nv y.2.2.2.2.2 ∧ dB 12 y.2.2.2.2.2) ∧ G 83 6 = (st : Int) ∧ st < 8 ∧ G 87 st = (b : Int) ∧ G 87 (st + 1) = (b : Int) ∧ b < 2 ^ 8 ∧ y.1 = 3 ∧ qBh y b ≠ none
theorem cSg.fx {E : pCd} {G' : xG_} {s : Nat} (h : cSg G u K s E) (hf : ∀ a j, u < a → G' a j = G a j) : cSg G' u K s E := by
  obtain ⟨A, C, h1, h2, h3⟩ := h
  exact ⟨A, C, h1, by rw [hf _ _ (by omega)]; exact h2, by rw [hf _ _ (by omega)]; exact h3⟩
theorem eVl_lt {o : Option Int} {v : Int} (h : eVl o v) : (v < -1000000000000 ↔ o = none) := by
  cases o with
  | none => exact ⟨fun _ => rfl, fun _ => h⟩
  | some x =>
    have h' : v = x ∧ vOk x := h
    obtain ⟨rfl, hx⟩ := h'
    refine ⟨fun q => ?_, fun q => by cases q⟩
    rcases hx with z | z <;> omega
theorem k_139 (hf : 3010 < f) (h : cCp S G u l st b nv K y) (hV : cVl G b vl) : ∃ v G', c139 f 83 (l : Int) (S, G, m) = some (v, (S, G', m)) ∧ (∀ a j, a ≠ 84 → a ≠ 92 → ¬ (a = 87 ∧ j = st + 1) → G' a j = G a j) ∧ (∀ k, b.testBit k = true → G' 84 k = G 84 k) ∧ ((v = 1 ∧ ∃ b' vl', cmpV y b vl = some (b', vl') ∧ G' 87 (st + 1) = ((b' : Nat) : Int) ∧ cVl G' b' vl') ∨ (v = 0 ∧ cmpV y b vl = none)) := by
  obtain ⟨hW, hl, hnv, hk, hkd, sg1, sg2, ⟨wx1, d1⟩, ⟨wx2, d2⟩, h6, hst, hb, hb1, hb8, h3y, hq⟩ := h
  obtain ⟨a1, a2, a3, a4, a5, a6, a7, a8⟩ := id hW
  have q1 : xwr (4 + xwr (2 * (l : Int))) = ((4 + 2 * l : Nat) : Int) := by rw [xwr_g (2 * (l : Int)) (by omega) (by omega), xwr_g _ (by omega) (by omega)]; omega
  have q2 : xwr (((4 + 2 * l : Nat) : Int) + 1) = ((5 + 2 * l : Nat) : Int) := by rw [xwr_g _ (by omega) (by omega)]; omega
  have es : xwr ((st : Int) + 1) = ((st + 1 : Nat) : Int) := by rw [xwr_g _ (by omega) (by omega)]; omega
  have hlv : qLv y = qVm y.2.2.2.2.1 ||| qVm y.2.2.2.2.2 := by unfold qLv; rw [if_pos h3y]
  have hq' : qSub (qLv y) b ∨ (y.2.1 = 61 ∧ (qAl2 y.2.2.2.2.1 ∧ qSub (qVm y.2.2.2.2.2) b ∨ qAl2 y.2.2.2.2.2 ∧ qSub (qVm y.2.2.2.2.1) b)) := by
    unfold qBh at hq
    by_cases c : y.1 = 1 ∨ qSub (qLv y) b
    · rcases c with c | c
      · omega
      · exact .inl c
    · rw [if_neg c] at hq
      by_cases c2 : y.1 = 3 ∧ y.2.1 = 61 ∧ (qAl2 y.2.2.2.2.1 ∧ qSub (qVm y.2.2.2.2.2) b ∨ qAl2 y.2.2.2.2.2 ∧ qSub (qVm y.2.2.2.2.1) b)
      · exact .inr ⟨c2.2.1, c2.2.2⟩
      · rw [if_neg c2] at hq
        exact absurd rfl hq
  -- both sides known
  have both : qSub (qVm y.2.2.2.2.1) b → qSub (qVm y.2.2.2.2.2) b → c139 f 83 (l : Int) (S, G, m) = c139_111 f 83 ((4 + 2 * l : Nat) : Int) ((5 + 2 * l : Nat) : Int) y.2.1 (S, G, m) → ¬ (y.2.1 = 61 ∧ qAl2 y.2.2.2.2.1 ∧ b.testBit (y.2.2.2.2.1.getD 0 (0, 0)).2.toNat = false) → ¬ (y.2.1 = 61 ∧ qAl2 y.2.2.2.2.2 ∧ b.testBit (y.2.2.2.2.2.getD 0 (0, 0)).2.toNat = false) → ∃ v G', c139 f 83 (l : Int) (S, G, m) = some (v, (S, G', m)) ∧ (∀ a j, a ≠ 84 → a ≠ 92 → ¬ (a = 87 ∧ j = st + 1) → G' a j = G a j) ∧ (∀ k, b.testBit k = true → G' 84 k = G 84 k) ∧ ((v = 1 ∧ ∃ b' vl', cmpV y b vl = some (b', vl') ∧ G' 87 (st + 1) = ((b' : Nat) : Int) ∧ cVl G' b' vl') ∨ (v = 0 ∧ cmpV y b vl = none)) := fun s1 s2 e n1 n2 => by
    obtain ⟨v1, G1, g1, g2, g3⟩ := k_141w (f := f) (m := m) (s := 4 + 2 * l) hf (by omega) hW sg1 wx1 d1 (hV.sub s1)
    have hW1 : cWy S G1 u K := hW.ge (fun a j _ _ _ _ _ _ z _ => g2 a j z)
    obtain ⟨v2, G2, i1, i2, i3⟩ := k_141w (f := f) (m := m) (s := 5 + 2 * l) hf (by omega) hW1 (sg2.fx (fun a j z => g2 a j (by omega))) wx2 d2 ((hV.sub s2).ge (fun k => g2 _ _ (by omega)))
    have z : ∀ a j, a ≠ 92 → G2 a j = G a j := fun a j y => by rw [i2 a j y, g2 a j y]
    have e' := e.trans (st_111 (kd := y.2.1) a1 g1 i1)
    have ev : cmpV y b vl = (qEv vl y.2.2.2.2.1).bind fun a => (qEv vl y.2.2.2.2.2).bind fun c => if cmB y.2.1 a c = 1 then some (b, vl) else none := by
      unfold cmpV
      rw [if_neg n1, if_neg n2]
    refine ⟨_, G2, e', fun a j _ y2 _ => z a j y2, fun k _ => z _ _ (by omega), ?_⟩
    by_cases c1 : v1 < -1000000000000
    · rw [if_pos (.inl c1), ev, (eVl_lt g3).mp c1]
      exact .inr ⟨rfl, rfl⟩
    · by_cases c2 : v2 < -1000000000000
      · rw [if_pos (.inr c2), ev, (eVl_lt i3).mp c2]
        refine .inr ⟨rfl, ?_⟩
        cases qEv vl y.2.2.2.2.1 <;> rfl
      · rw [if_neg (fun q => q.elim c1 c2)]
        cases o1 : qEv vl y.2.2.2.2.1 with
        | none => exact absurd ((eVl_lt g3).mpr o1) c1
        | some x1 =>
          cases o2 : qEv vl y.2.2.2.2.2 with
          | none => exact absurd ((eVl_lt i3).mpr o2) c2
          | some x2 =>
            rw [o1] at g3
            rw [o2] at i3
            obtain ⟨rfl, _⟩ : v1 = x1 ∧ vOk x1 := g3
            obtain ⟨rfl, _⟩ : v2 = x2 ∧ vOk x2 := i3
            rw [o1, o2] at ev
            have ev' : cmpV y b vl = if cmB y.2.1 v1 v2 = 1 then some (b, vl) else none := ev
            rcases (cmB_c (a := v1) (b := v2) hkd).1 with q | q
            · rw [ev', q]
              exact .inr ⟨rfl, rfl⟩
            · rw [ev', q]
              exact .inl ⟨rfl, b, vl, rfl, by rw [z _ _ (by omega)]; exact hb1, hV.ge (fun k => z _ _ (by omega))⟩
  -- one side is a VARIABLE that is open
  have lone : ∀ (x s3 : Nat) (E : pCd), x < 8 → b.testBit x = false → s3 < 20 → cSg G u K s3 E → wEx nv E → dB 12 E → qSub (qVm E) b → c139 f 83 (l : Int) (S, G, m) = c139_54 f 83 ((4 + 2 * l : Nat) : Int) ((5 + 2 * l : Nat) : Int) 61 (x : Int) (s3 : Int) (S, G, m) → cmpV y b vl = ((qEv vl E).bind fun z => some (b ||| 2 ^ x, fUpd vl x z)) → ∃ v G', c139 f 83 (l : Int) (S, G, m) = some (v, (S, G', m)) ∧ (∀ a j, a ≠ 84 → a ≠ 92 → ¬ (a = 87 ∧ j = st + 1) → G' a j = G a j) ∧ (∀ k, b.testBit k = true → G' 84 k = G 84 k) ∧ ((v = 1 ∧ ∃ b' vl', cmpV y b vl = some (b', vl') ∧ G' 87 (st + 1) = ((b' : Nat) : Int) ∧ cVl G' b' vl') ∨ (v = 0 ∧ cmpV y b vl = none)) := fun x s3 E hx hbx hs3 sg wx dx hsub e ev => by
    obtain ⟨v1, G1, g1, g2, g3⟩ := k_141w (f := f) (m := m) (s := s3) hf hs3 hW sg wx dx (hV.sub hsub)
    have hW1 : cWy S G1 u K := hW.ge (fun a j _ _ _ _ _ _ z _ => g2 a j z)
    have e' := e.trans (st_54v a1 a2 hW1.2.1 hx (by rw [g2 _ _ (by omega)]; exact h6) hst es (by rw [g2 _ _ (by omega)]; exact hb1) hb8 g1)
    have kx : ∀ k, b.testBit k = true → k ≠ x := fun k hk q => by rw [q, hbx] at hk; cases hk
    refine ⟨_, _, e', fun a j y1 y2 y3 => by rw [xup2_n y3, xup2_n (by omega), g2 a j y2], fun k hk => by rw [xup2_n (by omega), xup2_n (by have := kx k hk; omega), g2 _ _ (by omega)], ?_⟩
    by_cases c1 : v1 < -1000000000000
    · rw [if_pos c1, ev, (eVl_lt g3).mp c1]
      exact .inr ⟨rfl, rfl⟩
    · rw [if_neg c1]
      cases o1 : qEv vl E with
      | none => exact absurd ((eVl_lt g3).mpr o1) c1
      | some x1 =>
        rw [o1] at g3 ev
        obtain ⟨rfl, hv1⟩ : v1 = x1 ∧ vOk x1 := g3
        refine .inl ⟨rfl, b ||| 2 ^ x, fUpd vl x v1, ev, xup2_s _ _ _ _, fun k hk => ?_⟩
        unfold fUpd
        by_cases ck : k = x
        · rw [if_pos ck, ck, xup2_n (by omega), xup2_s]
          exact ⟨hx, rfl, hv1⟩
        · rw [Nat.testBit_or, Nat.testBit_two_pow_of_ne (fun y => ck y.symm), Bool.or_false] at hk
          rw [if_neg ck, xup2_n (by omega), xup2_n (by omega), g2 _ _ (by omega)]
          exact hV k hk
  by_cases ck : y.2.1 = 61
  · have e91a := k_91w (f := f) (m := m) (s := 4 + 2 * l) hW (by omega) sg1 wx1.1 hnv
    have e91b := k_91w (f := f) (m := m) (s := 5 + 2 * l) hW (by omega) sg2 wx2.1 hnv
    rw [ck] at hk
    have sub1 : ∀ {x : Nat} {E : pCd}, E = [(2, (x : Int))] → b.testBit x = true → qSub (qVm E) b := fun {x E} hE hb => by
      rw [hE]
      show ((if (2 : Int) = 2 then 2 ^ (x : Int).toNat else 0) ||| 0) ||| b = b
      rw [if_pos rfl, Int.toNat_natCast, Nat.or_zero]
      refine qSub_t.mpr (fun j hj => ?_)
      rw [Nat.testBit_two_pow] at hj
      rw [← of_decide_eq_true hj]; exact hb
    have sub0 : ∀ {x : Nat} {E : pCd}, E = [(2, (x : Int))] → qSub (qVm E) b → b.testBit x = true := fun {x E} hE hs => by
      refine qSub_t.mp hs x ?_
      rw [hE]
      show ((if (2 : Int) = 2 then 2 ^ (x : Int).toNat else 0) ||| 0).testBit x = true
      rw [if_pos rfl, Int.toNat_natCast, Nat.or_zero, Nat.testBit_two_pow_self]
    have al : ∀ {x : Nat} {E : pCd}, E = [(2, (x : Int))] → qAl2 E ∧ (E.getD 0 (0, 0)).2.toNat = x := fun {x E} hE => by rw [hE]; exact ⟨⟨rfl, rfl⟩, rfl⟩
    -- right side, the left isn't open
    have right : c140 f 83 ((4 + 2 * l : Nat) : Int) (S, G, m) = some (-1, (S, G, m)) → (¬ qAl2 y.2.2.2.2.1 ∨ qSub (qVm y.2.2.2.2.1) b) → (qAl2 y.2.2.2.2.1 → b.testBit (y.2.2.2.2.1.getD 0 (0, 0)).2.toNat = true) → ∃ v G', c139 f 83 (l : Int) (S, G, m) = some (v, (S, G', m)) ∧ (∀ a j, a ≠ 84 → a ≠ 92 → ¬ (a = 87 ∧ j = st + 1) → G' a j = G a j) ∧ (∀ k, b.testBit k = true → G' 84 k = G 84 k) ∧ ((v = 1 ∧ ∃ b' vl', cmpV y b vl = some (b', vl') ∧ G' 87 (st + 1) = ((b' : Nat) : Int) ∧ cVl G' b' vl') ∨ (v = 0 ∧ cmpV y b vl = none)) := fun e0 hL hL2 => by
      have n1 : ¬ (y.2.1 = 61 ∧ qAl2 y.2.2.2.2.1 ∧ b.testBit (y.2.2.2.2.1.getD 0 (0, 0)).2.toNat = false) := fun q => by
        have := hL2 q.2.1
        rw [q.2.2] at this; cases this
      rcases e91b with ⟨x, x1, x2, x3⟩ | ⟨x1, x2⟩
      · have e140 := st_140v a1 a2 a3 a5.1 h6 hst hb hb8 (by omega : x < 8) x3
        obtain ⟨alx, ax⟩ := al x2
        by_cases cb : b.testBit x = true
        · rw [if_pos cb] at e140
          have e := (st_139e a1 a3 a5.1 a5.2.2.1 a6.2.1 hl hk q1 q2 e0).trans ((st_139r a1 q1 q2 e140).trans st_54n)
          rw [← ck] at e
          have hR := sub1 x2 cb
          have hLs : qSub (qVm y.2.2.2.2.1) b := by
            rcases hq' with q | ⟨_, ⟨q, _⟩ | ⟨_, q⟩⟩
            · rw [hlv] at q; exact (qSub_or q).1
            · exact hL.elim (fun z => absurd q z) id
            · exact q
          exact both hLs hR e n1 (fun q => by rw [ax, cb] at q; cases q.2.2)
        · have cb' : b.testBit x = false := by cases hz : b.testBit x; rfl; exact absurd hz cb
          rw [if_neg cb] at e140
          have e := (st_139e a1 a3 a5.1 a5.2.2.1 a6.2.1 hl hk q1 q2 e0).trans (st_139r a1 q1 q2 e140)
          have hLs : qSub (qVm y.2.2.2.2.1) b := by
            rcases hq' with q | ⟨_, ⟨q, _⟩ | ⟨_, q⟩⟩
            · rw [hlv] at q; exact (qSub_or q).1
            · exact hL.elim (fun z => absurd q z) id
            · exact q
          exact lone x (4 + 2 * l) y.2.2.2.2.1 (by omega) cb' (by omega) sg1 wx1 d1 hLs e (by
            unfold cmpV
            rw [if_neg n1, ax, if_pos ⟨ck, alx, cb'⟩])
      · have e140 := st_140n a1 a3 a5.1 x2
        have e := (st_139e a1 a3 a5.1 a5.2.2.1 a6.2.1 hl hk q1 q2 e0).trans ((st_139r a1 q1 q2 e140).trans st_54n)
        rw [← ck] at e
        have hh : qSub (qVm y.2.2.2.2.1) b ∧ qSub (qVm y.2.2.2.2.2) b := by
          rcases hq' with q | ⟨_, ⟨q, q'⟩ | ⟨q, _⟩⟩
          · rw [hlv] at q; exact qSub_or q
          · exact ⟨hL.elim (fun z => absurd q z) id, q'⟩
          · exact absurd q x1
        exact both hh.1 hh.2 e n1 (fun q => x1 q.2.1)
    rcases e91a with ⟨x, x1, x2, x3⟩ | ⟨x1, x2⟩
    · have e140 := st_140v a1 a2 a3 a5.1 h6 hst hb hb8 (by omega : x < 8) x3
      obtain ⟨alx, ax⟩ := al x2
      by_cases cb : b.testBit x = true
      · rw [if_pos cb] at e140
        exact right e140 (.inr (sub1 x2 cb)) (fun _ => by rw [ax]; exact cb)
      · have cb' : b.testBit x = false := by cases hz : b.testBit x; rfl; exact absurd hz cb
        rw [if_neg cb] at e140
        have e := (st_139e a1 a3 a5.1 a5.2.2.1 a6.2.1 hl hk q1 q2 e140).trans (st_139l q1 q2 (by omega))
        have hR : qSub (qVm y.2.2.2.2.2) b := by
          rcases hq' with q | ⟨_, ⟨_, q⟩ | ⟨_, q⟩⟩
          · rw [hlv] at q; exact (qSub_or q).2
          · exact q
          · exact absurd (sub0 x2 q) cb
        exact lone x (5 + 2 * l) y.2.2.2.2.2 (by omega) cb' (by omega) sg2 wx2 d2 hR e (by
          unfold cmpV
          rw [ax, if_pos ⟨ck, alx, cb'⟩])
    · exact right (st_140n a1 a3 a5.1 x2) (.inl x1) (fun q => absurd q x1)
  · have hs : qSub (qVm y.2.2.2.2.1) b ∧ qSub (qVm y.2.2.2.2.2) b := by
      rcases hq' with q | ⟨q, _⟩
      · rw [hlv] at q; exact qSub_or q
      · exact absurd q ck
    exact both hs.1 hs.2 (st_139o a1 a3 a5.1 a5.2.2.1 a6.2.1 hl hk q1 q2 ck) (fun q => ck q.1) (fun q => ck q.1)
end
