/-! WAYS of the reference: what = binds -/
/-- v has the values vl of the VARIABLES of m -/
def vXt (m : Nat) (vl v : Nat → Int) : Prop := ∀ k, m.testBit k = true → v k = vl k
theorem qEs_xt {v w : Nat → Int} : ∀ (Q : pCd) (st : List Int), (∀ k, (qVm Q).testBit k = true → v k = w k) → (∀ x ∈ Q, x.1 = 1 ∨ x.1 = 2 ∨ x.1 = 3) → qEs v Q st = qEs w Q st
  | [], _, _, _ => rfl
  | x :: q, st, h, hx => by
    have hq : ∀ k, (qVm q).testBit k = true → v k = w k := fun k hk => h k (by
      show ((if x.1 = 2 then 2 ^ x.2.toNat else 0) ||| qVm q).testBit k = true
      rw [Nat.testBit_or, hk, Bool.or_true])
    have hx' : ∀ y ∈ q, y.1 = 1 ∨ y.1 = 2 ∨ y.1 = 3 := fun y hy => hx y (List.mem_cons_of_mem _ hy)
    unfold qEs
    by_cases c : x.1 = 3
    · rw [if_pos c, if_pos c]
      cases st with
      | nil => rfl
      | cons b st =>
        cases st with
        | nil => rfl
        | cons a st =>
          show Option.bind _ _ = Option.bind _ _
          congr 1
          funext z
          exact qEs_xt q _ hq hx'
    · rw [if_neg c, if_neg c]
      have e : (if x.1 = 1 then x.2 else v x.2.toNat) = (if x.1 = 1 then x.2 else w x.2.toNat) := by
        by_cases c1 : x.1 = 1
        · rw [if_pos c1, if_pos c1]
        · have c2 : x.1 = 2 := by
            rcases hx x List.mem_cons_self with z | z | z
            · exact absurd z c1
            · exact z
            · exact absurd z c
          rw [if_neg c1, if_neg c1]
          exact h _ (by
            show ((if x.1 = 2 then 2 ^ x.2.toNat else 0) ||| qVm q).testBit x.2.toNat = true
            rw [if_pos c2, Nat.testBit_or, Nat.testBit_two_pow_self, Bool.true_or])
      rw [e]
      exact qEs_xt q _ hq hx'
theorem wC.k {nv : Nat} {Q : pCd} (h : wC nv Q) : ∀ x ∈ Q, x.1 = 1 ∨ x.1 = 2 ∨ x.1 = 3 := fun x hx => by
  rcases h x hx with z | z | z
  · exact .inl z.1
  · exact .inr (.inl z.1)
  · exact .inr (.inr z.1)
theorem qEv_xt {v w : Nat → Int} {nv : Nat} {Q : pCd} (hw : wC nv Q) (h : ∀ k, (qVm Q).testBit k = true → v k = w k) : qEv v Q = qEv w Q := by
  unfold qEv
  rw [qEs_xt Q [] h hw.k]
/-- a VARIABLE alone -/
theorem qAl_is {nv : Nat} {Q : pCd} (hw : wC nv Q) (h : qAl2 Q) : ∃ x : Nat, x < nv ∧ Q = [(2, (x : Int))] := by
  obtain ⟨h1, h2⟩ := h
  obtain ⟨y, rfl⟩ := List.length_eq_one_iff.mp h1
  have h3 : y.1 = 2 := h2
  rcases hw y List.mem_cons_self with z | z | z
  · omega
  · refine ⟨y.2.toNat, by omega, ?_⟩
    have : y = (2, ((y.2.toNat : Nat) : Int)) := Prod.ext h3 (by show y.2 = _; omega)
    rw [← this]
  · omega
def xfv (m : Nat) (G G' : xG_) : Prop := (∀ o j, ¬ (o = 0 ∧ (j = 37 ∨ j = 42)) → o ≠ 110 → o ≠ 111 → G' o j = G o j) ∧ ∀ k, m.testBit k = true → G' 110 k = G 110 k
theorem xfv.tr {m m' : Nat} {G G1 G2 : xG_} (h1 : xfv m G G1) (h2 : xfv m' G1 G2) (hs : ∀ k, m.testBit k = true → m'.testBit k = true) : xfv m G G2 := ⟨fun o j a b c => (h2.1 o j a b c).trans (h1.1 o j a b c), fun k hk => (h2.2 k (hs k hk)).trans (h1.2 k hk)⟩
theorem xfv.rf (m : Nat) (G : xG_) : xfv m G G := ⟨fun _ _ _ _ _ => rfl, fun _ _ => rfl⟩
/-- the VARIABLES of m have values -/
def rBn (G : xG_) (m nv : Nat) : Prop := G 0 37 = (m : Int) ∧ m < 256 ∧ ∀ k, m.testBit k = true → k < nv ∧ vOk (G 110 k)
section
variable {f nv a b m : Nat} {G : xG_} {Q1 Q2 : pCd}
theorem l_278 (hf : 6300 < f) (hnv : nv ≤ 8) (h1 : rCo G 2 a Q1) (h2 : rCo G 2 b Q2) (w1 : wEx nv Q1) (w2 : wEx nv Q2) (ha : a + Q1.length ≤ 6200) (hb : b + Q2.length ≤ 6200) (hm : rBn G m nv) :
    ∃ G' r, g278 f (a : Int) ((a + Q1.length : Nat) : Int) (b : Int) ((b + Q2.length : Nat) : Int) G = some (r, G') ∧ xfv m G G' ∧
      ((r = 1 ∧ rBn G' (if qAl2 Q1 ∧ qSub (qVm Q2) m then m ||| qVm Q1 else m) nv ∧ ∀ v, vXt m (G 110) v → (∃ z, qEv v Q1 = some z ∧ qEv v Q2 = some z) → vXt (if qAl2 Q1 ∧ qSub (qVm Q2) m then m ||| qVm Q1 else m) (G' 110) v) ∨ (r = 0 ∧ ∀ v, vXt m (G 110) v → qEv v Q2 = none)) := by
  obtain ⟨b1, b2, b3⟩ := hm
  have hn1 : 1 ≤ Q1.length := wSt_ne w1.2
  have hq2 := qVm_lt w2.1 hnv
  have ea := l_alone (f := f) h1 ha hn1
  by_cases c1 : qAl2 Q1
  · obtain ⟨x, hx, hQ⟩ := qAl_is w1.1 c1
    have c1' : Q1.length = 1 ∧ (Q1.getD 0 (0, 0)).1 = 2 := c1
    have hvm : qVm Q1 = 2 ^ x := by
      rw [hQ]
      show (if (2 : Int) = 2 then 2 ^ ((x : Int)).toNat else 0) ||| 0 = _
      rw [if_pos rfl, Int.toNat_natCast, Nat.or_zero]
    have hco : G 36 a = (x : Int) := by
      have := (h1 0 (by omega)).2
      rw [hQ] at this
      exact this
    have hwx : xwr (x : Int) = (x : Int) := xwr_g _ (by omega) (by omega)
    have nb : ¬ ((1 : Int), G).1 = 0 := fun h => absurd (show (1 : Int) = 0 from h) (by decide)
    have e1 : g278 f (a : Int) ((a + Q1.length : Nat) : Int) (b : Int) ((b + Q2.length : Nat) : Int) G = if m.testBit x = true then some (1, G) else if qSub (qVm Q2) m then (g266 f (b : Int) ((b + Q2.length : Nat) : Int) G).bind (fun R120 => (if (R120.2 0 42) = 0 then (if 0 ≤ (a : Int) ∧ (a : Int) < 6200 then (if 0 ≤ (xwr (R120.2 36 a)) ∧ (xwr (R120.2 36 a)) < 8 then ((some (xup2 R120.2 110 (xwr (R120.2 36 a)).toNat (R120.1))).bind fun G131 => (if 0 ≤ (a : Int) ∧ (a : Int) < 6200 then ((some (xup2 G131 0 37 (xor_ (G131 0 37) (xshl 1 (xwr (G131 36 a)))))).bind fun G136 => (some (1, G136))) else none)) else none) else none) else (some (0, R120.2)))) else some (1, G) := by
      have haa : 0 ≤ (a : Int) ∧ (a : Int) < 6200 := by omega
      unfold g278 g278_49
      rw [ea, if_pos c1', Option.bind_some, if_neg nb]
      simp only [Nat.reduceAdd, Int.toNat_natCast, if_pos haa]
      rw [hco, hwx, l_270 b2 (by omega) b1]
      simp only [Option.bind_some]
      by_cases c2 : m.testBit x = true
      · simp only [if_pos c2, Int.reduceEq, not_false_eq_true, if_true]
      · simp only [if_neg c2, not_true_eq_false, if_false]
        rw [l_vof hf w2.1 hnv h2 hb]
        simp only [Option.bind_some]
        rw [b1]
        by_cases c3 : qSub (qVm Q2) m
        · rw [if_pos ((xsubq hq2 b2).mpr c3), if_pos c3]
        · rw [if_neg (fun z => c3 ((xsubq hq2 b2).mp z)), if_neg c3]
    rw [e1]
    by_cases c2 : m.testBit x = true
    · have em : (if qAl2 Q1 ∧ qSub (qVm Q2) m then m ||| qVm Q1 else m) = m := by
        by_cases c4 : qAl2 Q1 ∧ qSub (qVm Q2) m
        · rw [if_pos c4, hvm]
          refine Nat.eq_of_testBit_eq (fun k => ?_)
          rw [or_bit]
          by_cases ck : x = k
          · rw [← ck, c2]; rfl
          · rw [decide_eq_false ck, Bool.or_false]
        · rw [if_neg c4]
      rw [if_pos c2, em]
      exact ⟨G, 1, rfl, .rf _ _, .inl ⟨rfl, ⟨b1, b2, b3⟩, fun v hv _ => hv⟩⟩
    · rw [if_neg c2]
      by_cases c3 : qSub (qVm Q2) m
      · have c4 : qAl2 Q1 ∧ qSub (qVm Q2) m := And.intro c1 c3
        rw [if_pos c3, if_pos c4]
        have hl : rVl G (qVm Q2) (G 110) := fun k hk => by
          have := qSub_t.mp c3 k hk
          exact ⟨by have := (b3 k this).1; omega, rfl, (b3 k this).2⟩
        obtain ⟨G1, w, k1, k2, k3⟩ := l_266 (f := f) (v := G 110) hf hnv hb h2 w2 hl
        have q1 : xwr (G1 36 a) = (x : Int) := by rw [k2 36 a (by omega) (by omega), hco, hwx]
        have q2 : xwr (xup2 G1 110 x w 36 a) = (x : Int) := by rw [xup2_n (by omega)]; exact q1
        have q3 : xup2 G1 110 x w 0 37 = (m : Int) := by rw [xup2_n (by omega), k2 0 37 (by omega) (by omega)]; exact b1
        have haa : 0 ≤ (a : Int) ∧ (a : Int) < 6200 := by omega
        have h8 : 0 ≤ (x : Int) ∧ (x : Int) < 8 := by omega
        have e2 : (g266 f (b : Int) ((b + Q2.length : Nat) : Int) G).bind (fun R120 => (if (R120.2 0 42) = 0 then (if 0 ≤ (a : Int) ∧ (a : Int) < 6200 then (if 0 ≤ (xwr (R120.2 36 a)) ∧ (xwr (R120.2 36 a)) < 8 then ((some (xup2 R120.2 110 (xwr (R120.2 36 a)).toNat (R120.1))).bind fun G131 => (if 0 ≤ (a : Int) ∧ (a : Int) < 6200 then ((some (xup2 G131 0 37 (xor_ (G131 0 37) (xshl 1 (xwr (G131 36 a)))))).bind fun G136 => (some ((1 : Int), G136))) else none)) else none) else none) else (some (0, R120.2)))) = if G1 0 42 = 0 then some (1, xup2 (xup2 G1 110 x w) 0 37 ((m ||| 2 ^ x : Nat) : Int)) else some (0, G1) := by
          rw [k1, Option.bind_some]
          show (if G1 0 42 = 0 then (if 0 ≤ (a : Int) ∧ (a : Int) < 6200 then (if 0 ≤ (xwr (G1 36 a)) ∧ (xwr (G1 36 a)) < 8 then ((some (xup2 G1 110 (xwr (G1 36 a)).toNat w)).bind fun G131 => (if 0 ≤ (a : Int) ∧ (a : Int) < 6200 then ((some (xup2 G131 0 37 (xor_ (G131 0 37) (xshl 1 (xwr (G131 36 a)))))).bind fun G136 => (some ((1 : Int), G136))) else none)) else none) else none) else (some (0, G1))) = _
          rw [if_pos haa, q1, if_pos h8, Int.toNat_natCast, Option.bind_some, if_pos haa, q2, q3, Option.bind_some, xorb (by omega) (by omega)]
        rw [e2]
        rcases k3 with ⟨k4, k5, k6⟩ | ⟨k4, k5, k6⟩
        · rw [if_pos k6]
          refine ⟨_, 1, rfl, ⟨fun o j y1 y2 y3 => ?_, fun k hk => ?_⟩, .inl ⟨rfl, ⟨by rw [xup2_s, hvm], by rw [hvm]; exact or_lt (k := 8) b2 (by omega), fun k hk => ?_⟩, fun v hv ⟨z, z1, z2⟩ k hk => ?_⟩⟩
          · rw [xup2_n (by omega), xup2_n (by omega), k2 o j (by omega) y3]
          · have : k ≠ x := fun e => c2 (e ▸ hk)
            rw [xup2_n (by omega), xup2_n (by omega), k2 _ _ (by omega) (by omega)]
          · rw [hvm, or_bit] at hk
            by_cases ck : k = x
            · rw [ck, xup2_n (by omega), xup2_s]
              exact ⟨hx, k5⟩
            · have hk' : m.testBit k = true := by
                rw [decide_eq_false (fun z => ck z.symm), Bool.or_false] at hk
                exact hk
              rw [xup2_n (by omega), xup2_n (by omega), k2 _ _ (by omega) (by omega)]
              exact b3 k hk'
          · rw [hvm, or_bit] at hk
            have ez : qEv v Q2 = some w := by
              rw [← k4]
              exact qEv_xt w2.1 (fun j hj => hv j (qSub_t.mp c3 j hj))
            by_cases ck : k = x
            · rw [ck, xup2_n (by omega), xup2_s]
              have e2 : qEv v Q1 = some (v x) := by rw [hQ]; rfl
              rw [e2] at z1
              rw [ez] at z2
              injection z1 with z1
              injection z2 with z2
              omega
            · have hk' : m.testBit k = true := by
                rw [decide_eq_false (fun z => ck z.symm), Bool.or_false] at hk
                exact hk
              rw [xup2_n (by omega), xup2_n (by omega), k2 _ _ (by omega) (by omega)]
              exact hv k hk'
        · rw [if_neg (by omega)]
          refine ⟨G1, 0, rfl, ⟨fun o j y1 y2 y3 => k2 o j (by omega) y3, fun k hk => k2 _ _ (by omega) (by omega)⟩, .inr ⟨rfl, fun v hv => ?_⟩⟩
          rw [← k4]
          exact qEv_xt w2.1 (fun j hj => hv j (qSub_t.mp c3 j hj))
      · have c4 : ¬ (qAl2 Q1 ∧ qSub (qVm Q2) m) := fun z => c3 z.2
        rw [if_neg c3, if_neg c4]
        exact ⟨G, 1, rfl, .rf _ _, .inl ⟨rfl, ⟨b1, b2, b3⟩, fun v hv _ => hv⟩⟩
  · have c4 : ¬ (qAl2 Q1 ∧ qSub (qVm Q2) m) := fun z => c1 z.1
    have c1' : ¬ (Q1.length = 1 ∧ (Q1.getD 0 (0, 0)).1 = 2) := c1
    have e1 : g278 f (a : Int) ((a + Q1.length : Nat) : Int) (b : Int) ((b + Q2.length : Nat) : Int) G = some (1, G) := by
      unfold g278 g278_49
      rw [ea, if_neg c1', Option.bind_some, if_pos rfl]
    rw [e1, if_neg c4]
    exact ⟨G, 1, rfl, .rf _ _, .inl ⟨rfl, ⟨b1, b2, b3⟩, fun v hv _ => hv⟩⟩
end
