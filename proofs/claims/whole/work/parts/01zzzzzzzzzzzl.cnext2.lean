/-! THE CLASS: next(): where it stands -/
def lvE (G : xG_) (k b : Nat) (vl : Nat → Int) : Prop := G 87 k = (b : Int) ∧ b < 2 ^ 8 ∧ cVl G b vl
def mkP (Ls : List pLt) : List Nat → Nat → Nat
  | [], b => b
  | p :: pr, b => mkP Ls pr (b ||| qLv (Ls.getD p dLt))
/-- what is left of the choices of step n -/
def rmD (Ls : List pLt) (a : Nat) (br : Int) (R : Nat → List pRw) (lo hi : Nat → Int) (G : xG_) (n l : Nat) (pr : List Nat) (b : Nat) (vl : Nat → Int) (D : List (Nat → Int)) : Prop :=
  ((Ls.getD l dLt).1 = 1 ∧ G 87 (n + 1) = ((b ||| qLv (Ls.getD l dLt) : Nat) : Int) ∧ ∃ (fi la cu : Nat) (D0 : List (Nat × (Nat → Int))), G 88 n = (fi : Int) ∧ G 90 n = (la : Int) ∧ G 89 n = (cu : Int) ∧ cu ≤ (R (Ls.getD l dLt).2.1.toNat).length ∧ isRn (R (Ls.getD l dLt).2.1.toNat) (Ls.getD l dLt).2.2.2.1 b vl fi la ∧ chD (Ls.getD l dLt).2.2.2.1 (lo l) (hi l) (R (Ls.getD l dLt).2.1.toNat) b vl br cu D0 ∧ (mre Ls a br (Ls.getD l dLt) pr b → D = D0.map (·.2)) ∧ (¬ mre Ls a br (Ls.getD l dLt) pr b → D = [])) ∨ ((Ls.getD l dLt).1 ≠ 1 ∧ D = [])
/-- what is left behind n steps -/
def bkE (Ls : List pLt) (pl : List Nat) (a : Nat) (br : Int) (R : Nat → List pRw) (lo hi : Nat → Int) (G : xG_) : Nat → Nat → List (Nat → Int) → Nat → Prop
  | 0, _, V, k => V = [] ∧ k = 0
  | n + 1, B, V, k => ∃ (b : Nat) (vl : Nat → Int) (D V1 : List (Nat → Int)) (k1 : Nat) (V2 : List (Nat → Int)) (k2 : Nat), n < pl.length ∧ lvE G n b vl ∧ B = b ||| qLv (Ls.getD (pl.getD n 0) dLt) ∧ B < 2 ^ 8 ∧ okP Ls (pl.drop n) b ∧ rmD Ls a br R lo hi G n (pl.getD n 0) (pl.drop (n + 1)) b vl D ∧ wyS (fun v => wyE Ls a br R lo hi (pl.drop (n + 1)) B v) D V1 k1 ∧ bkE Ls pl a br R lo hi G n b V2 k2 ∧ V = V1 ++ V2 ∧ k = 1 + k1 + k2
/-- where next() stands: V are the WAYS that are still to come -/
def wSt8 (Ls : List pLt) (pl : List Nat) (a : Nat) (br : Int) (R : Nat → List pRw) (lo hi : Nat → Int) (G : xG_) (Bf : Nat) (V : List (Nat → Int)) (k : Nat) : Prop :=
  (∃ (st b : Nat) (vl : Nat → Int) (V1 : List (Nat → Int)) (k1 : Nat) (V2 : List (Nat → Int)) (k2 : Nat), st ≤ pl.length ∧ G 83 6 = (st : Int) ∧ G 83 7 = 1 ∧ lvE G st b vl ∧ okP Ls (pl.drop st) b ∧ mkP Ls (pl.drop st) b = Bf ∧ wyE Ls a br R lo hi (pl.drop st) b vl V1 k1 ∧ bkE Ls pl a br R lo hi G st b V2 k2 ∧ V = V1 ++ V2 ∧ k = k1 + k2) ∨
  (∃ n B : Nat, n ≤ pl.length ∧ G 83 6 = (n : Int) - 1 ∧ G 83 7 = 0 ∧ mkP Ls (pl.drop n) B = Bf ∧ bkE Ls pl a br R lo hi G n B V k)
section
variable {Ls : List pLt} {pl : List Nat} {a : Nat} {br : Int} {R : Nat → List pRw} {lo hi : Nat → Int} {G G' : xG_}
theorem lvE.ge {k b : Nat} {vl : Nat → Int} (h : lvE G k b vl) (h1 : G' 87 k = G 87 k) (h2 : ∀ j, b.testBit j = true → G' 84 j = G 84 j) : lvE G' k b vl := ⟨by rw [h1]; exact h.1, h.2.1, fun j hj => by rw [h2 j hj]; exact h.2.2 j hj⟩
theorem bkE.ge : ∀ (n B : Nat) (V : List (Nat → Int)) (k : Nat), (∀ a j, 87 ≤ a → a ≤ 90 → j < n → G' a j = G a j) → G' 87 n = G 87 n → (∀ j, B.testBit j = true → G' 84 j = G 84 j) → bkE Ls pl a br R lo hi G n B V k → bkE Ls pl a br R lo hi G' n B V k
  | 0, _, _, _, _, _, _, h => h
  | n + 1, B, V, k, h1, h2, h3, h => by
    obtain ⟨b, vl, D, V1, k1, V2, k2, a1, a2, a3, a4, a5, a6, a7, a8, a9, a10⟩ := h
    have hb : ∀ j, b.testBit j = true → G' 84 j = G 84 j := fun j hj => h3 j (by rw [a3, Nat.testBit_or, hj]; rfl)
    refine ⟨b, vl, D, V1, k1, V2, k2, a1, a2.ge (h1 _ _ (by omega) (by omega) (by omega)) hb, a3, a4, a5, ?_, a7, bkE.ge n b V2 k2 (fun a j y1 y2 y3 => h1 a j y1 y2 (by omega)) (h1 _ _ (by omega) (by omega) (by omega)) hb a8, a9, a10⟩
    rcases a6 with ⟨c1, c2, fi, la, cu, D0, c3, c4, c5, c6⟩ | c
    · exact .inl ⟨c1, by rw [h2]; exact c2, fi, la, cu, D0, by rw [h1 _ _ (by omega) (by omega) (by omega)]; exact c3, by rw [h1 _ _ (by omega) (by omega) (by omega)]; exact c4, by rw [h1 _ _ (by omega) (by omega) (by omega)]; exact c5, c6⟩
    · exact .inr c
theorem wSt8.ge {Bf : Nat} {V : List (Nat → Int)} {k : Nat} (h : wSt8 Ls pl a br R lo hi G Bf V k) (hf : ∀ a j, 83 ≤ a → a ≤ 92 → G' a j = G a j) : wSt8 Ls pl a br R lo hi G' Bf V k := by
  rcases h with ⟨st, b, vl, V1, k1, V2, k2, a1, a2, a3, a4, a5, a6, a7, a8, a9, a10⟩ | ⟨n, B, a1, a2, a3, a4, a5⟩
  · exact .inl ⟨st, b, vl, V1, k1, V2, k2, a1, by rw [hf _ _ (by omega) (by omega)]; exact a2, by rw [hf _ _ (by omega) (by omega)]; exact a3, a4.ge (hf _ _ (by omega) (by omega)) (fun j _ => hf _ _ (by omega) (by omega)), a5, a6, a7, a8.ge _ _ _ _ (fun a j _ _ _ => hf _ _ (by omega) (by omega)) (hf _ _ (by omega) (by omega)) (fun j _ => hf _ _ (by omega) (by omega)), a9, a10⟩
  · exact .inr ⟨n, B, a1, by rw [hf _ _ (by omega) (by omega)]; exact a2, by rw [hf _ _ (by omega) (by omega)]; exact a3, a4, a5.ge _ _ _ _ (fun a j _ _ _ => hf _ _ (by omega) (by omega)) (hf _ _ (by omega) (by omega)) (fun j _ => hf _ _ (by omega) (by omega))⟩
theorem fit_ok {T : pCd} {l h : Int} {b nv : Nat} {v : Nat → Int} {r : pRw} (hT : ∀ y ∈ T, wT1 nv y) (hl : T.length ≤ r.1.length) (hv : ∀ k, b.testBit k = true → vOk (v k)) (hr : ∀ x ∈ r.1, vOk x) {b' : Nat} {v' : Nat → Int} (hf : fitR T l h b v r = some (b', v')) : ∀ k, b'.testBit k = true → vOk (v' k) := by
  unfold fitR at hf
  split at hf
  · obtain ⟨m1, m2, m3, m4⟩ := mtc_ok T r.1 b v b' v' hT hl hf
    intro k hk
    by_cases c : b.testBit k = true
    · rw [m2 k c]; exact hv k c
    · rw [m1, Nat.testBit_or] at hk
      have hq : (qT T).testBit k = true := by
        cases hb : b.testBit k with
        | true => exact absurd hb c
        | false => rw [hb, Bool.false_or] at hk; exact hk
      obtain ⟨j, j1, j2, j3⟩ := qT_get.mp hq
      rw [← j3, (m3 j j1).1 j2]
      have hj : j < r.1.length := by omega
      rw [getD_e hj]
      exact hr _ (List.getElem_mem hj)
  · cases hf
theorem cmpV_b {y : pLt} {b b' : Nat} {vl v' : Nat → Int} (h3 : y.1 = 3) (hq : qBh y b ≠ none) (h : cmpV y b vl = some (b', v')) : b' = b ||| qLv y := by
  have hlv : qLv y = qVm y.2.2.2.2.1 ||| qVm y.2.2.2.2.2 := by unfold qLv; rw [if_pos h3]
  have hq' : qSub (qLv y) b ∨ (y.2.1 = 61 ∧ (qAl2 y.2.2.2.2.1 ∧ qSub (qVm y.2.2.2.2.2) b ∨ qAl2 y.2.2.2.2.2 ∧ qSub (qVm y.2.2.2.2.1) b)) := by
    unfold qBh at hq
    by_cases c : y.1 = 1 ∨ qSub (qLv y) b
    · rcases c with c | c
      · omega
      · exact .inl c
    · rw [if_neg c] at hq
      by_cases c2 : y.1 = 3 ∧ y.2.1 = 61 ∧ (qAl2 y.2.2.2.2.1 ∧ qSub (qVm y.2.2.2.2.2) b ∨ qAl2 y.2.2.2.2.2 ∧ qSub (qVm y.2.2.2.2.1) b)
      · exact .inr ⟨c2.2.1, c2.2.2⟩
      · rw [if_neg c2] at hq
        exact absurd rfl hq
  have vm : ∀ {E : pCd}, qAl2 E → qVm E = 2 ^ (E.getD 0 (0, 0)).2.toNat := fun {E} hE => by
    obtain ⟨z, rfl⟩ : ∃ z, E = [z] := by
      match E, hE.1 with
      | [z], _ => exact ⟨z, rfl⟩
    show (if z.1 = 2 then 2 ^ z.2.toNat else 0) ||| 0 = _
    have : z.1 = 2 := hE.2
    rw [if_pos this, Nat.or_zero]; rfl
  have nsub : ∀ {E : pCd}, qAl2 E → b.testBit (E.getD 0 (0, 0)).2.toNat = false → ¬ qSub (qVm E) b := fun hE hb hs => by
    have := qSub_t.mp hs (_) (by rw [vm hE]; exact Nat.testBit_two_pow_self)
    rw [hb] at this; cases this
  unfold cmpV at h
  split at h
  · rename_i c
    cases ho : qEv vl y.2.2.2.2.2 with
    | none => rw [ho] at h; cases h
    | some z =>
      rw [ho] at h
      injection h with h
      injection h with h _
      have hR : qSub (qVm y.2.2.2.2.2) b := by
        rcases hq' with q | ⟨_, ⟨_, q⟩ | ⟨_, q⟩⟩
        · rw [hlv] at q; exact (qSub_or q).2
        · exact q
        · exact absurd q (nsub c.2.1 c.2.2)
      rw [← h, hlv, vm c.2.1]
      refine Nat.eq_of_testBit_eq (fun j => ?_)
      simp only [Nat.testBit_or]
      cases hj : (qVm y.2.2.2.2.2).testBit j with
      | false => rw [Bool.or_false]
      | true => rw [qSub_t.mp hR j hj]; rfl
  · rename_i n1
    split at h
    · rename_i c
      cases ho : qEv vl y.2.2.2.2.1 with
      | none => rw [ho] at h; cases h
      | some z =>
        rw [ho] at h
        injection h with h
        injection h with h _
        have hL : qSub (qVm y.2.2.2.2.1) b := by
          rcases hq' with q | ⟨_, ⟨_, q⟩ | ⟨_, q⟩⟩
          · rw [hlv] at q; exact (qSub_or q).1
          · exact absurd q (nsub c.2.1 c.2.2)
          · exact q
        rw [← h, hlv, vm c.2.1]
        refine Nat.eq_of_testBit_eq (fun j => ?_)
        simp only [Nat.testBit_or]
        cases hj : (qVm y.2.2.2.2.1).testBit j with
        | false => rw [Bool.false_or]
        | true => rw [qSub_t.mp hL j hj]; rfl
    · rename_i n2
      have hs : qSub (qVm y.2.2.2.2.1) b ∧ qSub (qVm y.2.2.2.2.2) b := by
        rcases hq' with q | ⟨e, ⟨q, q'⟩ | ⟨q, q'⟩⟩
        · rw [hlv] at q; exact qSub_or q
        · refine ⟨?_, q'⟩
          rw [vm q]
          refine qSub_t.mpr (fun j hj => ?_)
          rw [Nat.testBit_two_pow] at hj
          rw [← of_decide_eq_true hj]
          cases hb : b.testBit (y.2.2.2.2.1.getD 0 (0, 0)).2.toNat with
          | true => rfl
          | false => exact absurd ⟨e, q, hb⟩ n1
        · refine ⟨q', ?_⟩
          rw [vm q]
          refine qSub_t.mpr (fun j hj => ?_)
          rw [Nat.testBit_two_pow] at hj
          rw [← of_decide_eq_true hj]
          cases hb : b.testBit (y.2.2.2.2.2.getD 0 (0, 0)).2.toNat with
          | true => rfl
          | false => exact absurd ⟨e, q, hb⟩ n2
      have hbb : b' = b := by
        cases o1 : qEv vl y.2.2.2.2.1 with
        | none => rw [o1] at h; cases h
        | some x1 =>
          cases o2 : qEv vl y.2.2.2.2.2 with
          | none => rw [o1, o2] at h; cases h
          | some x2 =>
            rw [o1, o2] at h
            have h' : (if cmB y.2.1 x1 x2 = 1 then some (b, vl) else none) = some (b', v') := h
            split at h'
            · injection h' with h'
              injection h' with h' _
              exact h'.symm
            · cases h'
      rw [hbb, hlv]
      refine Nat.eq_of_testBit_eq (fun j => ?_)
      simp only [Nat.testBit_or]
      cases hj : b.testBit j with
      | true => rfl
      | false =>
        have z1 : (qVm y.2.2.2.2.1).testBit j = false := by
          cases hz : (qVm y.2.2.2.2.1).testBit j with
          | false => rfl
          | true => rw [qSub_t.mp hs.1 j hz] at hj; cases hj
        have z2 : (qVm y.2.2.2.2.2).testBit j = false := by
          cases hz : (qVm y.2.2.2.2.2).testBit j with
          | false => rfl
          | true => rw [qSub_t.mp hs.2 j hz] at hj; cases hj
        rw [z1, z2]; rfl
end
