/-! WAYS of the reference: from the first LITERAL on; the row that a WAY makes -/
theorem qB3_at : ∀ (l : List pLt), qB3 l = 100 ^ pAtoms l
  | [] => rfl
  | y :: l => by
    show (if y.1 = 1 then 100 * qB3 l else qB3 l) = _
    unfold pAtoms
    by_cases c : y.1 = 1
    · rw [if_pos c, List.filter_cons_of_pos (by simp [c]), List.length_cons, qB3_at l]
      unfold pAtoms
      rw [Nat.pow_succ, Nat.mul_comm]
    · rw [if_neg c, List.filter_cons_of_neg (by simp [c]), qB3_at l]
      rfl
section
variable {f nv np r c : Nat} {l : List pLt} {N : Nat → Nat} {R : Nat → List pRw} {K : Nat → Nat} {ra rb : Int} {G : xG_} {P : List (List Int) → xG_ → Prop}
theorem l_275 (hf : 6300 < f) (hr : r < 25) (hnv : nv ≤ 8) (hnp : np ≤ 16) (hc : c ≤ 6200) (hat : pAtoms l ≤ 3) (hw : ∀ y ∈ l, wLt np nv y ∧ (y.1 ≠ 3 → 0 ≤ y.2.1)) (hsafe : ∀ k, k < nv → (qBd l).testBit k = true)
    (hL : rLs G 2 r c l) (h39 : G 0 39 = (r : Int)) (h40 : G 0 40 = ra) (h41 : ra ≠ -1 → G 0 41 = rb) (hK : ra ≠ -1 → ∀ p, p < np → G 7 p = (K p : Int)) (hT : rTb G np N R) (hR : ∀ p, p < np → (R p).length ≤ 100 ∧ ∀ w ∈ R p, ∀ x ∈ w.1, vOk x)
    (hP : ∀ W G G', P W G → (∀ o j, ¬ (o = 0 ∧ (j = 37 ∨ j = 42)) → o ≠ 110 → o ≠ 111 → G' o j = G o j) → P W G')
    (hU : ∀ W G1 m, P W G1 → G1 0 43 = 0 → xE G G1 → rBn G1 m nv → (∀ k, k < nv → m.testBit k = true) → sNC l R (G1 110) → W.length < 1000000 → ∃ G', g283 f G1 = some G' ∧ P (W ++ [vOf G1 nv]) G' ∧ xUs G1 G')
    (h37 : G 0 37 = 0) (h43 : G 0 43 = 0) (hP0 : P [] G) :
    ∃ G' V, g275 f 0 G = some G' ∧ xE G G' ∧ G' 0 37 = 0 ∧ P V G' ∧ V.length ≤ 1000000 ∧ V.Nodup ∧ (∀ v ∈ V, isW l nv R (qOp K ra rb) v ∧ ∀ x ∈ v, vOk x) ∧ (G' 0 43 = 0 → ∀ v, isW l nv R (qOp K ra rb) v → v ∈ V) := by
  have hB : qB3 l ≤ 1000000 := by
    rw [qB3_at]
    exact Nat.le_trans (Nat.pow_le_pow_right (by decide) hat) (by decide)
  have hop : ∀ p w, qOp K ra (G 0 41) p w ↔ qOp K ra rb p w := fun p w => by
    unfold qOp
    by_cases c : ra = -1
    · exact ⟨fun _ => .inl c, fun _ => .inl c⟩
    · rw [h41 c]
  have hwa : ∀ v, isW l nv R (qOp K ra (G 0 41)) v ↔ isW l nv R (qOp K ra rb) v := fun v => by
    have e : qOp K ra (G 0 41) = qOp K ra rb := funext (fun p => funext (fun w => propext (hop p w)))
    rw [e]
  obtain ⟨G', V, u1, u2, u3, u4, u5, u6, u7, u8, u9⟩ := l_275r (f := f) (G0 := G) (P := P) hf hr hnv hnp hc hw hsafe hL h39 h40 rfl hK hT hR hP hU l 0 12 0 G [] rfl (Nat.zero_le _) (by have := hL.2.1; omega) (fun _ _ _ _ => rfl) ⟨h37, by decide, fun k hk => by rw [Nat.zero_testBit] at hk; cases hk⟩ (fun k hk => by rw [List.take_zero] at hk; exact hk) hP0 h43 (by show 0 + qB3 l ≤ 1000000; omega)
  refine ⟨G', V, u1, u2, u3, u5, by omega, u7, fun v hv => ?_, fun h v hv => ?_⟩
  · obtain ⟨w1, w2, w3, w4, w5⟩ := u8 v hv
    exact ⟨(hwa v).mp ⟨w1, w3, w4⟩, w5⟩
  · obtain ⟨w1, w2, w3⟩ := (hwa v).mpr hv
    exact u9 h v w1 (fun k hk => by rw [Nat.zero_testBit] at hk; cases hk) w2 w3
end
/-- the ITEMS of a HEAD over values; 0 for what is gathered -/
def qMk (I : List pCd) (g : Int) (v : Nat → Int) : Nat → Option (List Int)
  | 0 => some []
  | k + 1 => (qMk I g v k).bind fun xs => if (k : Int) = g then some (xs ++ [0]) else (qEv v (I.getD k [])).bind fun z => some (xs ++ [z])
theorem qMk_len {I : List pCd} {g : Int} {v : Nat → Int} : ∀ (k : Nat) (xs : List Int), qMk I g v k = some xs → xs.length = k
  | 0, xs, h => by
    have : some [] = some xs := h
    injection this with this
    rw [← this]
    rfl
  | k + 1, xs, h => by
    have h' : ((qMk I g v k).bind fun xs => if (k : Int) = g then some (xs ++ [0]) else (qEv v (I.getD k [])).bind fun z => some (xs ++ [z])) = some xs := h
    cases hk : qMk I g v k with
    | none => rw [hk] at h'; cases h'
    | some ys =>
      rw [hk, Option.bind_some] at h'
      have := qMk_len k ys hk
      by_cases c : (k : Int) = g
      · rw [if_pos c] at h'
        injection h' with h'
        rw [← h', List.length_append, this]
        rfl
      · rw [if_neg c] at h'
        cases he : qEv v (I.getD k []) with
        | none => rw [he] at h'; cases h'
        | some z =>
          rw [he, Option.bind_some] at h'
          injection h' with h'
          rw [← h', List.length_append, this]
          rfl
/-- ITEMS of the rule r -/
def rHd (G : xG_) (r c : Nat) (I : List pCd) (g : Int) : Prop := G 17 r = (I.length : Int) ∧ I.length ≤ 4 ∧ G 19 r = g ∧ ∀ k, k < I.length → rIc G 2 (4 * r + k) c (I.getD k [])
theorem rHd.v {G G' : xG_} {r c : Nat} {I : List pCd} {g : Int} (h : rHd G r c I g) (hf : ∀ a j, 2 ≤ a → a ≤ 36 → G' a j = G a j) : rHd G' r c I g := by
  obtain ⟨a1, a2, a3, a4⟩ := h
  refine ⟨by rw [hf _ _ (by omega) (by omega)]; exact a1, a2, by rw [hf _ _ (by omega) (by omega)]; exact a3, fun k hk => ?_⟩
  obtain ⟨a, b1, b2, b3, b4⟩ := a4 k hk
  exact ⟨a, by rw [hf _ _ (by omega) (by omega)]; exact b1, by rw [hf _ _ (by omega) (by omega)]; exact b2, b3, fun j hj => by rw [hf _ _ (by omega) (by omega), hf _ _ (by omega) (by omega)]; exact b4 j hj⟩
section
variable {f nv r c m : Nat} {I : List pCd} {g : Int}
/-- makesRow -/
theorem l_282 {G : xG_} (hf : 6300 < f) (hr : r < 25) (hnv : nv ≤ 8) (hc : c ≤ 6200) (hI : rHd G r c I g) (hw : ∀ k, k < I.length → (k : Int) ≠ g → wEx nv (I.getD k [])) (h39 : G 0 39 = (r : Int)) (hm : rBn G m nv) (hfull : ∀ k, k < nv → m.testBit k = true) :
    ∃ G' b, g282 f G = some (b, G') ∧ (∀ o j, ¬ (o = 0 ∧ j = 42) → o ≠ 111 → o ≠ 112 → G' o j = G o j) ∧ ((∃ xs, b = 1 ∧ qMk I g (G 110) I.length = some xs ∧ (∀ k, k < I.length → (k : Int) ≠ g → G' 112 k = xs.getD k 0) ∧ ∀ k, k < I.length → vOk (xs.getD k 0)) ∨ b = 0 ∧ qMk I g (G 110) I.length = none) := by
  have hI4 := hI.2.1
  have none_up : ∀ (d k : Nat), qMk I g (G 110) k = none → qMk I g (G 110) (k + d) = none := by
    intro d
    induction d with
    | zero => exact fun k h => h
    | succ d ih =>
      intro k h
      show ((qMk I g (G 110) (k + d)).bind _) = none
      rw [ih k h]
      rfl
  have loop : ∀ (d k fu : Nat) (Z : xG_) (xs : List Int), k + d = I.length → d < fu → (∀ o j, ¬ (o = 0 ∧ j = 42) → o ≠ 111 → o ≠ 112 → Z o j = G o j) → qMk I g (G 110) k = some xs → (∀ j, j < k → (j : Int) ≠ g → Z 112 j = xs.getD j 0) → (∀ j, vOk (xs.getD j 0)) →
      ∃ G' b, g282_2 f fu (k : Int) Z = some (b, G') ∧ (∀ o j, ¬ (o = 0 ∧ j = 42) → o ≠ 111 → o ≠ 112 → G' o j = G o j) ∧ ((∃ xs, b = 1 ∧ qMk I g (G 110) I.length = some xs ∧ (∀ k, k < I.length → (k : Int) ≠ g → G' 112 k = xs.getD k 0) ∧ ∀ k, k < I.length → vOk (xs.getD k 0)) ∨ b = 0 ∧ qMk I g (G 110) I.length = none) := by
    intro d
    induction d with
    | zero =>
      intro k fu Z xs h1 h2 hZ hk h112 hvo
      obtain ⟨fu, rfl⟩ : ∃ t, fu = t + 1 := ⟨fu - 1, by omega⟩
      have hIz := hI.v (G' := Z) (fun a j _ _ => hZ _ _ (by omega) (by omega) (by omega))
      have z39 : Z 0 39 = (r : Int) := by rw [hZ _ _ (by omega) (by omega) (by omega)]; exact h39
      have ek : k = I.length := by omega
      refine ⟨Z, 1, ?_, hZ, .inl ⟨xs, rfl, by rw [← ek]; exact hk, fun j hj hg => h112 j (by omega) hg, fun j _ => hvo j⟩⟩
      show g282_2b (g282_2 f fu) f _ _ = _
      unfold g282_2b
      rw [z39, if_pos (by omega), Int.toNat_natCast]
      show (if Z 17 r ≤ (k : Int) then _ else _) = _
      rw [hIz.1, if_pos (by omega)]
    | succ d ih =>
      intro k fu Z xs h1 h2 hZ hk h112 hvo
      obtain ⟨fu, rfl⟩ : ∃ t, fu = t + 1 := ⟨fu - 1, by omega⟩
      obtain ⟨i1, i2, i3, i4⟩ := hI.v (G' := Z) (fun a j _ _ => hZ _ _ (by omega) (by omega) (by omega))
      have z39 : Z 0 39 = (r : Int) := by rw [hZ _ _ (by omega) (by omega) (by omega)]; exact h39
      have hkI : k < I.length := by omega
      obtain ⟨a, b1, b2, b3, b4⟩ := i4 k hkI
      have b1' : Z 23 (4 * r + k) = (a : Int) := b1
      have b2' : Z 24 (4 * r + k) = ((a + (I.getD k []).length : Nat) : Int) := b2
      have ex : xwr (xwr ((r : Int) * 4) + (k : Int)) = ((4 * r + k : Nat) : Int) := by
        rw [xwr_g ((r : Int) * 4) (by omega) (by omega), xwr_g _ (by omega) (by omega)]; omega
      have ek : xwr ((k : Int) + 1) = ((k + 1 : Nat) : Int) := by rw [xwr_g _ (by omega) (by omega)]; omega
      have hxl := qMk_len k xs hk
      have hrr : 0 ≤ (r : Int) ∧ (r : Int) < 25 := by omega
      have h100 : 0 ≤ ((4 * r + k : Nat) : Int) ∧ ((4 * r + k : Nat) : Int) < 100 := by omega
      have hkk : 0 ≤ (k : Int) ∧ (k : Int) < 4 := by omega
      have hnext : qMk I g (G 110) (k + 1) = if (k : Int) = g then some (xs ++ [0]) else (qEv (G 110) (I.getD k [])).bind fun z => some (xs ++ [z]) := by
        show ((qMk I g (G 110) k).bind _) = _
        rw [hk]
        rfl
      have hgetA : ∀ (z : Int) (j : Nat), (xs ++ [z]).getD j 0 = if j = k then z else xs.getD j 0 := fun z j => by rw [getD_1, hxl]
      by_cases cg : (k : Int) = g
      · have ng : ¬ ¬ (k : Int) = g := fun q => q cg
        rw [if_pos cg] at hnext
        have step : g282_2 f (fu + 1) (k : Int) Z = g282_2 f fu ((k + 1 : Nat) : Int) Z := by
          show g282_2b (g282_2 f fu) f _ _ = _
          unfold g282_2b g282_88
          rw [z39]
          simp only [Nat.reduceAdd, Int.toNat_natCast, if_pos hrr]
          rw [i1, if_neg (by omega), i3, if_neg ng, ek]
        rw [step]
        exact ih (k + 1) fu Z _ (by omega) (by omega) hZ hnext (fun j hj hjg => by
          rw [hgetA]
          by_cases cj : j = k
          · rw [cj] at hjg; exact absurd cg hjg
          · rw [if_neg cj]; exact h112 j (by omega) hjg) (fun j => by
          rw [hgetA]
          by_cases cj : j = k
          · rw [if_pos cj]; exact vOk_0
          · rw [if_neg cj]; exact hvo j)
      · rw [if_neg cg] at hnext
        have e110 : Z 110 = G 110 := funext (fun j => hZ _ _ (by omega) (by omega) (by omega))
        have hwk := hw k hkI cg
        obtain ⟨Z1, w, k1, k2, k3⟩ := l_266 (f := f) (v := G 110) (G := Z) hf hnv (by omega : a + (I.getD k []).length ≤ 6200) b4 hwk (fun j hj => by
          have := qVm_in hwk.1 j hj
          exact ⟨by omega, by rw [e110], (hm.2.2 j (hfull j this)).2⟩)
        have step : g282_2 f (fu + 1) (k : Int) Z = if Z1 0 42 = 0 then g282_2 f fu ((k + 1 : Nat) : Int) (xup2 Z1 112 k w) else some (0, xup2 Z1 112 k w) := by
          have e42 : xup2 Z1 112 k w 0 42 = Z1 0 42 := xup2_n (by omega)
          show g282_2b (g282_2 f fu) f _ _ = _
          unfold g282_2b g282_88
          rw [z39]
          simp only [Nat.reduceAdd, Int.toNat_natCast, if_pos hrr]
          rw [i1, if_neg (by omega), i3, if_pos cg]
          simp only [ex, if_pos h100, Int.toNat_natCast]
          rw [b1', b2', k1, Option.bind_some]
          simp only [if_pos hkk, Option.bind_some]
          rw [e42, ek]
        have hZ1 : ∀ o j, ¬ (o = 0 ∧ j = 42) → o ≠ 111 → o ≠ 112 → xup2 Z1 112 k w o j = G o j := fun o j y1 y2 y3 => by rw [xup2_n (fun q => y3 q.1), k2 o j y1 y2, hZ o j y1 y2 y3]
        rw [step]
        rcases k3 with ⟨k4, k5, k6⟩ | ⟨k4, k5, k6⟩
        · rw [if_pos k6]
          rw [k4, Option.bind_some] at hnext
          exact ih (k + 1) fu _ _ (by omega) (by omega) hZ1 hnext (fun j hj hjg => by
            rw [hgetA]
            by_cases cj : j = k
            · rw [if_pos cj, cj, xup2_s]
            · rw [if_neg cj, xup2_n (by omega), k2 _ _ (by omega) (by omega)]; exact h112 j (by omega) hjg) (fun j => by
            rw [hgetA]
            by_cases cj : j = k
            · rw [if_pos cj]; exact k5
            · rw [if_neg cj]; exact hvo j)
        · rw [if_neg (by omega)]
          rw [k4] at hnext
          refine ⟨_, 0, rfl, hZ1, .inr ⟨rfl, ?_⟩⟩
          have := none_up d (k + 1) hnext
          rw [show k + 1 + d = I.length by omega] at this
          exact this
  unfold g282
  exact loop I.length 0 f G [] (by omega) (by omega) (fun _ _ _ _ _ => rfl) rfl (fun j hj => absurd hj (by omega)) (fun j => by rw [show ([] : List Int).getD j 0 = 0 from by simp]; exact vOk_0)
end
