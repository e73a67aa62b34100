/-! THE CLASS: merge: meet() -/
section
variable {f x y z W cap cap2 cap3 k A0 sl q ma mb mz ra rb rz nq : Nat} {S : Nat → Nat × Nat × Nat} {G : xG_} {m : Nat × Nat} {B A Z : List pRw} {s : pPg} {xa ca xb cb xz cz : Nat → Nat} {Ma Mb Mz : Nat → List pRw} {FA FB FZ : List pFc}
theorem k_85 (hf : 1100 < f) (sB : B.Pairwise rwLt) (sA : A.Pairwise rwLt) (sZ : Z.Pairwise rwLt) (hW : W ≤ 4) (hk : k ≤ W) (hx : x + 2 < A0) (hy : y + 2 < A0) (hz : z + 2 < A0) (uB : uK B k) (uA : uK A k) (uZ : uK Z k) (h : cRw S G x W cap B) (h2 : cRw S G y W cap2 A) (h3 : cRw S G z W cap3 Z) : ∃ v S' G', c85 f x y z (k : Int) (S, G, (A0, sl)) = some (v, (S', G', (A0 + 1, sl + 4))) ∧ (∀ b, b < A0 → S' b = S b) ∧ (∀ b j, b < A0 → G' b j = G b j) ∧ ((v = -1 ∧ ∀ κ', ¬ mtR B A Z k κ') ∨ ∃ κ, mtR B A Z k κ ∧ κ.length = k ∧ (∀ κ', mtR B A Z k κ' → vCmp κ κ' ≤ 0) ∧ ∃ t : Nat, (v = ((2 * t + 1 : Nat) : Int) ∧ t < B.length ∧ (B.getD t dRw).1.take k = κ) ∨ (v = ((2 * t : Nat) : Int) ∧ t < Z.length ∧ (Z.getD t dRw).1.take k = κ)) := by
  obtain ⟨S1, hS1⟩ : ∃ S1, S1 = xup1 S A0 (2, 4, 4) := ⟨_, rfl⟩
  obtain ⟨G1, hG1⟩ : ∃ G1, G1 = xz1 G A0 (fun _ => 0) := ⟨_, rfl⟩
  have sL : ∀ b, b < A0 → S1 b = S b := fun b hb => by rw [hS1, xup1_n (by omega)]
  have gL : ∀ b j, b < A0 → G1 b j = G b j := fun b j hb => by rw [hG1, xz1_n _ (by omega)]
  have en : cq_na 4 4 (S, G, (A0, sl)) = some (A0, (S1, G1, (A0 + 1, sl + 4))) := by
    rw [cq_na_ok (by decide) (by decide) (by decide), hS1, hG1]
    rfl
  have b1 := h.2.2.2.2.1
  have b2 := h.2.2.2.2.2.1
  have b3 := h3.2.2.2.2.1
  have b4 := h3.2.2.2.2.2.1
  have up : ∀ {x cap : Nat} {R : List pRw}, x + 2 < A0 → cRw S G x W cap R → cRw S1 G1 x W cap R := fun {x cap R} hx h => h.ge (fun b _ _ => sL b (by omega)) (fun j => gL _ _ (by omega)) (fun j => gL _ _ (by omega)) (fun j => gL _ _ (by omega))
  obtain ⟨v, G2, r1, r2, r3⟩ := k_85l (f := f) (m := (A0 + 1, sl + 4)) (S := S1) (a := A0) (x := x) (y := y) (z := z) (B := B) (A := A) (Z := Z) (k := k) (cap := cap) (cap2 := cap2) (cap3 := cap3) (by omega) sB sA sZ (by rw [hS1, xup1_s]) hW hk hx hy hz uB uA uZ (B.length + Z.length) 0 0 f G1 (by omega) (by omega) (Nat.zero_le _) (Nat.zero_le _) (up hx h) (up hy h2) (up hz h3) (fun t ht => absurd ht (Nat.not_lt_zero _)) (fun t ht => absurd ht (Nat.not_lt_zero _)) (fun κ' hm => by
    have h1 : ¬ ∀ v : List Int, v.take k = κ' → (inV B v ↔ inV Z v) := hm.1
    by_cases c1 : ∃ t, t < B.length ∧ (B.getD t dRw).1.take k = κ'
    · obtain ⟨t, t1, t2⟩ := c1
      exact .inl ⟨t, Nat.zero_le _, t1, t2⟩
    · by_cases c2 : ∃ t, t < Z.length ∧ (Z.getD t dRw).1.take k = κ'
      · obtain ⟨t, t1, t2⟩ := c2
        exact .inr ⟨t, Nat.zero_le _, t1, t2⟩
      · refine absurd (fun v hv => ⟨fun ⟨r, q1, q2⟩ => ?_, fun ⟨r, q1, q2⟩ => ?_⟩) h1
        · obtain ⟨t, t1, rfl⟩ := mem_get.mp q1
          exact absurd ⟨t, t1, by rw [q2]; exact hv⟩ c1
        · obtain ⟨t, t1, rfl⟩ := mem_get.mp q1
          exact absurd ⟨t, t1, by rw [q2]; exact hv⟩ c2)
  refine ⟨v, S1, G2, ?_, sL, fun b j hb => by rw [r2 b j (by omega), gL b j hb], ?_⟩
  · unfold c85
    rw [en, Option.bind_some]
    exact r1
  · rcases r3 with q | ⟨κ, q1, q2, q3⟩
    · exact .inl q
    · refine .inr ⟨κ, q1, ?_, q2, q3⟩
      obtain ⟨t, ⟨_, t1, t2⟩ | ⟨_, t1, t2⟩⟩ := q3
      · have := (h.2.2.2.2.2.2.2 t t1).1
        rw [← t2, List.length_take]; omega
      · have := (h3.2.2.2.2.2.2.2 t t1).1
        rw [← t2, List.length_take]; omega
theorem k_190l (hf : 1100 < f) (hs : cSs S) (hp : cPs G) (hA : 555 < A0) (hP : cPgm S G q nq s) (hqA : q + 10 < A0) (hok : qOc s) (h1 : cMr S G A0 ma q ra s xa ca Ma) (h2 : cMr S G A0 mb q rb s xb cb Mb) (h3 : cMr S G A0 mz q rz s xz cz Mz) (hm : ma < A0 ∧ mb < A0 ∧ mz < A0 ∧ ra < A0 ∧ rb < A0 ∧ rz < A0) (hxz : ∀ p, p < s.1.length → (xz p + 2 < 216 ∨ 555 < xz p) ∧ (xb p + 2 < 216 ∨ 555 < xb p)) (oa : okM8 s Ma) (ob : okM8 s Mb) (oz : okM8 s Mz) (hkl : ∀ p, p < s.1.length → 0 < qKy s p → qKy s p ≤ qN s p ∧ uK (Ma p) (qKy s p) ∧ uK (Mb p) (qKy s p) ∧ uK (Mz p) (qKy s p)) :
    ∀ (d p fu : Nat) (S1 : Nat → Nat × Nat × Nat) (G1 : xG_) (A1 sl1 : Nat), p + d = s.1.length → d < fu → A0 ≤ A1 → (∀ a, a < A0 → S1 a = S a) → (∀ a j, a < A0 → G1 a j = G a j) → (∀ p', p' < p → 0 < qKy s p' → ∀ κ, ¬ mtR (Mb p') (Ma p') (Mz p') (qKy s p') κ) →
      ∃ v S' G' A' sl', c190_9 f fu 64 ma mb mz q (p : Int) (S1, G1, (A1, sl1)) = some (v, (S', G', (A', sl'))) ∧ A1 ≤ A' ∧ A' ≤ A1 + d ∧ sl1 ≤ sl' ∧ sl' ≤ sl1 + 4 * d ∧ (∀ a, a < A0 → S' a = S a) ∧ ((v = 0 ∧ (∀ a j, a < A0 → G' a j = G a j) ∧ ∀ p', p' < s.1.length → 0 < qKy s p' → ∀ κ, ¬ mtR (Mb p') (Ma p') (Mz p') (qKy s p') κ) ∨ (v = 1 ∧ ∃ (t : Nat) (κ : List Int), t < s.1.length ∧ 0 < qKy s t ∧ mtR (Mb t) (Ma t) (Mz t) (qKy s t) κ ∧ κ.length = qKy s t ∧ (∀ κ', mtR (Mb t) (Ma t) (Mz t) (qKy s t) κ' → vCmp κ κ' ≤ 0) ∧ (∀ p', p' < t → 0 < qKy s p' → ∀ κ, ¬ mtR (Mb p') (Ma p') (Mz p') (qKy s p') κ) ∧ G' 64 15 = (t : Int) ∧ G' 64 16 = (κ.length : Int) ∧ (∀ j, j < κ.length → G' 227 j = κ.getD j 0) ∧ ∀ a j, a < A0 → ¬ (a = 64 ∧ (j = 15 ∨ j = 16)) → a ≠ 227 → G' a j = G a j)) := by
  have h16 : s.1.length ≤ 16 := hP.2.2.1.2.1
  intro d
  induction d with
  | zero =>
    intro p fu S1 G1 A1 sl1 e1 e2 e3 e4 e5 e6
    obtain ⟨fu, rfl⟩ : ∃ t, fu = t + 1 := ⟨fu - 1, by omega⟩
    refine ⟨0, S1, G1, A1, sl1, ?_, Nat.le_refl _, Nat.le_refl _, Nat.le_refl _, Nat.le_refl _, e4, .inl ⟨rfl, e5, fun p' hp' => e6 p' (by omega)⟩⟩
    show c190_9b (c190_9 f fu) f _ _ _ _ _ _ _ = _
    unfold c190_9b
    rw [o_gi (by rw [e4 _ (by omega)]; exact hP.1.1), Option.bind_some, e5 _ _ (by omega), hP.2.2.1.1, if_pos (by omega)]
  | succ d ih =>
    intro p fu S1 G1 A1 sl1 e1 e2 e3 e4 e5 e6
    obtain ⟨fu, rfl⟩ : ∃ t, fu = t + 1 := ⟨fu - 1, by omega⟩
    have hp' : p < s.1.length := by omega
    have gk : G1 (q + 3) p = pKy s.2.1 (p : Int) := by rw [e5 _ _ (by omega), (hP.2.2.2.2.1 p (by omega)).1, pKl_e hok.2.2.2.2.2.1]
    have w1 : xwr ((p : Int) + 1) = ((p + 1 : Nat) : Int) := by rw [xwr_g _ (by omega) (by omega)]; omega
    have e0 := Eq.refl (c190_9 f (fu + 1) 64 ma mb mz q (p : Int) (S1, G1, (A1, sl1)))
    conv at e0 => { rhs; change c190_9b (c190_9 f fu) f 64 ma mb mz q (p : Int) (S1, G1, (A1, sl1)); unfold c190_9b }
    rw [o_gi (by rw [e4 _ (by omega)]; exact hP.1.1), Option.bind_some, e5 _ _ (by omega), hP.2.2.1.1, if_neg (by omega), o_gr (x := q) (y := q + 3) (by rw [e4 _ (by omega)]; exact hP.1.1) (by rw [e5 _ _ (by omega)]; exact hP.2.1.2.2.1), Option.bind_some, o_a (x := q + 3) (L := 16) (by rw [e4 _ (by omega)]; exact hP.1.2.2.2.1) (by omega), Option.bind_some, gk] at e0
    by_cases ck : pKy s.2.1 (p : Int) ≤ 0
    · rw [if_pos ck] at e0
      unfold c190_64 at e0
      rw [if_pos rfl, w1] at e0
      obtain ⟨v, S', G', A', sl', r1, r2, r3, r4, r5, r6, r7⟩ := ih (p + 1) fu S1 G1 A1 sl1 (by omega) (by omega) e3 e4 e5 (fun p' hp' hk => by
        by_cases e : p' = p
        · subst e
          unfold qKy at hk
          omega
        · exact e6 p' (by omega) hk)
      exact ⟨v, S', G', A', sl', e0.trans r1, r2, by omega, r4, by omega, r6, r7⟩
    · have hkk : pKy s.2.1 (p : Int) = ((qKy s p : Nat) : Int) := by unfold qKy; omega
      have hk0 : 0 < qKy s p := by omega
      obtain ⟨k1, k2, k3, k4⟩ := hkl p hp' hk0
      obtain ⟨a1, a2, a3⟩ := h1.2.2.2.2 p hp'
      obtain ⟨b1, b2, b3⟩ := h2.2.2.2.2 p hp'
      obtain ⟨z1, z2, z3⟩ := h3.2.2.2.2 p hp'
      have up : ∀ {x cap W : Nat} {R : List pRw}, x + 2 < A0 → cRw S G x W cap R → cRw S1 G1 x W cap R := fun {x cap W R} hx h => h.ge (fun b _ _ => e4 b (by omega)) (fun j => e5 _ _ (by omega)) (fun j => e5 _ _ (by omega)) (fun j => e5 _ _ (by omega))
      have hw4 := (qN_pos hok hp').2
      obtain ⟨v, S2, G2, r1, r2, r3, r4⟩ := k_85 (f := f) (sl := sl1) hf (ob p hp').1 (oa p hp').1 (oz p hp').1 hw4 k1 (show xb p + 2 < A1 by omega) (show xa p + 2 < A1 by omega) (show xz p + 2 < A1 by omega) k3 k2 k4 (up b2.2 b3) (up a2.2 a3) (up z2.2 z3)
      have is : cq_is 5 4 (xb p) (S1, G1, (A1, sl1)) = some () := if_pos (up b2.2 b3).1
      rw [if_neg ck, hkk, o_gr (x := mb) (y := rb) (by rw [e4 _ (by omega)]; exact h2.1) (by rw [e5 _ _ (by omega)]; exact h2.2.2.1), Option.bind_some, o_ar (x := rb) (y := xb p) (L := s.1.length) (by rw [e4 _ (by omega)]; exact h2.2.2.2.1) (by decide) hp' (by rw [e5 _ _ (by omega)]; exact b1), Option.bind_some, o_gr (x := ma) (y := ra) (by rw [e4 _ (by omega)]; exact h1.1) (by rw [e5 _ _ (by omega)]; exact h1.2.2.1), Option.bind_some, o_ar (x := ra) (y := xa p) (L := s.1.length) (by rw [e4 _ (by omega)]; exact h1.2.2.2.1) (by decide) hp' (by rw [e5 _ _ (by omega)]; exact a1), Option.bind_some, o_gr (x := mz) (y := rz) (by rw [e4 _ (by omega)]; exact h3.1) (by rw [e5 _ _ (by omega)]; exact h3.2.2.1), Option.bind_some, o_ar (x := rz) (y := xz p) (L := s.1.length) (by rw [e4 _ (by omega)]; exact h3.2.2.2.1) (by decide) hp' (by rw [e5 _ _ (by omega)]; exact z1), Option.bind_some, is, Option.bind_some, r1, Option.bind_some] at e0
      have s2 : ∀ a, a < A0 → S2 a = S a := fun a ha => by rw [r2 a (by omega), e4 a ha]
      have g2 : ∀ a j, a < A0 → G2 a j = G a j := fun a j ha => by rw [r3 a j (by omega), e5 a j ha]
      unfold c190_64 at e0
      rcases r4 with ⟨rfl, nm⟩ | ⟨κ, m1, m2, m3, m4⟩
      · rw [if_pos rfl, w1] at e0
        obtain ⟨v, S', G', A', sl', q1, q2, q3, q4, q5, q6, q7⟩ := ih (p + 1) fu S2 G2 (A1 + 1) (sl1 + 4) (by omega) (by omega) (by omega) s2 g2 (fun p' hp' hk => by
          by_cases e : p' = p
          · subst e; exact nm
          · exact e6 p' (by omega) hk)
        exact ⟨v, S', G', A', sl', e0.trans q1, by omega, by omega, by omega, by omega, q6, q7⟩
      · -- a KEY that meets
        have tell : ∀ (x t cap : Nat) (R : List pRw), x + 2 < A0 → (x + 2 < 216 ∨ 555 < x) → t < R.length → R.length ≤ 100 → cRw S2 G2 x (qN s p) cap R → (R.getD t dRw).1.take (qKy s p) = κ → ∃ G3, c190_97 f 64 (p : Int) ((qKy s p : Nat) : Int) (((2 * t + 1 : Nat) : Int)) x (S2, G2, (A1 + 1, sl1 + 4)) = some (1, (S2, G3, (A1 + 1, sl1 + 4))) ∧ c190_97 f 64 (p : Int) ((qKy s p : Nat) : Int) (((2 * t : Nat) : Int)) x (S2, G2, (A1 + 1, sl1 + 4)) = some (1, (S2, G3, (A1 + 1, sl1 + 4))) ∧ G3 64 15 = (p : Int) ∧ G3 64 16 = (κ.length : Int) ∧ (∀ j, j < κ.length → G3 227 j = κ.getD j 0) ∧ ∀ a j, a < A0 → ¬ (a = 64 ∧ (j = 15 ∨ j = 16)) → a ≠ 227 → G3 a j = G a j := fun x t cap R hx hx2 ht h100 hR hκ => by
          obtain ⟨t1, t2, t3, t4⟩ := ec_xa (k := t) (by omega)
          have hs2 : cSs S2 := fun k hk => by rw [s2 _ (by omega)]; exact hs k hk
          have hlr := (hR.2.2.2.2.2.2.2 t ht).1
          obtain ⟨G3, u1, u2, u3⟩ := k_78 (f := f) (m := (A1 + 1, sl1 + 4)) hR ht (s227 hs2) hw4 (by omega : 227 ≠ x + 1)
          have i1 : cq_is 5 4 x (S2, G2, (A1 + 1, sl1 + 4)) = some () := if_pos hR.1
          have g14 : G2 64 14 = ((227 : Nat) : Int) := by rw [g2 _ _ (by omega)]; exact p64_14 hp
          have run : ∀ w : Int, xshr w 1 = (t : Int) → c190_97 f 64 (p : Int) ((qKy s p : Nat) : Int) w x (S2, G2, (A1 + 1, sl1 + 4)) = some (1, (S2, xup2 (xup2 G3 64 15 (p : Int)) 64 16 ((qKy s p : Nat) : Int), (A1 + 1, sl1 + 4))) := fun w hw => by
            unfold c190_97
            rw [o_gr (y := 227) (s64 hs2) g14, Option.bind_some, i1, Option.bind_some, hw, u1, Option.bind_some, o_p (s64 hs2), Option.bind_some, o_p (s64 hs2), Option.bind_some]
          refine ⟨_, run _ t3, run _ t4, by rw [xup2_n (by omega), xup2_s], by rw [xup2_s, m2], fun j hj => ?_, fun a j y1 y2 y3 => ?_⟩
          · rw [xup2_n (by omega), xup2_n (by omega), u3 j (by omega), ← hκ]
            simp only [List.getD_eq_getElem?_getD]
            rw [List.getElem?_take_of_lt (by omega)]
          · rw [xup2_n (by omega), xup2_n (by omega), u2 a j (by omega), g2 a j y1]
        have bz : (Mz p).length ≤ 100 := (oz p hp').2.1
        have bb : (Mb p).length ≤ 100 := (ob p hp').2.1
        have up2 : ∀ {x cap W : Nat} {R : List pRw}, x + 2 < A0 → cRw S G x W cap R → cRw S2 G2 x W cap R := fun {x cap W R} hx h => h.ge (fun b _ _ => s2 b (by omega)) (fun j => g2 _ _ (by omega)) (fun j => g2 _ _ (by omega)) (fun j => g2 _ _ (by omega))
        obtain ⟨t, ⟨rfl, t1, t2⟩ | ⟨rfl, t1, t2⟩⟩ := m4
        · obtain ⟨x1, x2, x3, x4⟩ := ec_xa (k := t) (by omega)
          obtain ⟨G3, u1, _, u3, u4, u5, u6⟩ := tell (xb p) t (cb p) (Mb p) b2.2 (hxz p hp').2 t1 bb (up2 b2.2 b3) t2
          rw [if_neg (by omega), if_neg (fun z => z x1), o_gr (x := mb) (y := rb) (by rw [s2 _ (by omega)]; exact h2.1) (by rw [g2 _ _ (by omega)]; exact h2.2.2.1), Option.bind_some, o_ar (x := rb) (y := xb p) (L := s.1.length) (by rw [s2 _ (by omega)]; exact h2.2.2.2.1) (by decide) hp' (by rw [g2 _ _ (by omega)]; exact b1), Option.bind_some, u1] at e0
          exact ⟨1, S2, G3, A1 + 1, sl1 + 4, e0, by omega, by omega, by omega, by omega, s2, .inr ⟨rfl, p, κ, hp', hk0, m1, m2, m3, e6, u3, u4, u5, u6⟩⟩
        · obtain ⟨x1, x2, x3, x4⟩ := ec_xa (k := t) (by omega)
          obtain ⟨G3, _, u1, u3, u4, u5, u6⟩ := tell (xz p) t (cz p) (Mz p) z2.2 (hxz p hp').1 t1 bz (up2 z2.2 z3) t2
          rw [if_neg (by omega), if_pos (by rw [x2]; decide), o_gr (x := mz) (y := rz) (by rw [s2 _ (by omega)]; exact h3.1) (by rw [g2 _ _ (by omega)]; exact h3.2.2.1), Option.bind_some, o_ar (x := rz) (y := xz p) (L := s.1.length) (by rw [s2 _ (by omega)]; exact h3.2.2.2.1) (by decide) hp' (by rw [g2 _ _ (by omega)]; exact z1), Option.bind_some, u1] at e0
          exact ⟨1, S2, G3, A1 + 1, sl1 + 4, e0, by omega, by omega, by omega, by omega, s2, .inr ⟨rfl, p, κ, hp', hk0, m1, m2, m3, e6, u3, u4, u5, u6⟩⟩
/-- rows and facts -/
theorem eq_rf (hok : qOk s) {p : Nat} {κ : List Int} (hp : p < s.1.length) (fA : qFa s Ma FA) (fB : qFa s Mb FB) : eqF FA FB (qNm s p) k κ ↔ eqR (Ma p) (Mb p) k κ := by
  unfold eqF eqR
  constructor
  · intro h v hv
    rw [← inV_h, ← inV_h, ← fn_iff hok fA hp, ← fn_iff hok fB hp]
    exact h v hv
  · intro h v hv
    rw [fn_iff hok fA hp, fn_iff hok fB hp, inV_h, inV_h]
    exact h v hv
theorem mt_rf (hok : qOk s) {p : Nat} {κ : List Int} (hp : p < s.1.length) (fA : qFa s Ma FA) (fB : qFa s Mb FB) (fZ : qFa s Mz FZ) : mtF FA FB FZ (qNm s p) k κ ↔ mtR (Mb p) (Ma p) (Mz p) k κ := by
  unfold mtF mtR
  rw [eq_rf hok hp fA fZ, eq_rf hok hp fB fZ, eq_rf hok hp fA fB]
  have sy : eqR (Ma p) (Mb p) k κ ↔ eqR (Mb p) (Ma p) k κ := ⟨fun h v hv => (h v hv).symm, fun h v hv => (h v hv).symm⟩
  rw [sy]
  exact ⟨fun ⟨a, b, c⟩ => ⟨b, a, c⟩, fun ⟨a, b, c⟩ => ⟨b, a, c⟩⟩
theorem uk_of (hok : qOk s) {p : Nat} (hp : p < s.1.length) (fA : qFa s Ma FA) (h : wKf FA (qNm s p) (qKy s p) (qN s p)) : uK (Ma p) (qKy s p) := fun r hr r' hr' e => h.2.2 r.1 r'.1 ((fn_iff hok fA hp).mpr (hasV_t.mpr ⟨r, hr, rfl⟩)) ((fn_iff hok fA hp).mpr (hasV_t.mpr ⟨r', hr', rfl⟩)) e
end
