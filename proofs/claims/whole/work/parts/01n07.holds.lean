section
/-! WAYS of the reference: what must hold, and the end of a WAY -/
/-- TERMS with these values are this row -/
def sTs (v : Nat → Int) (T : pCd) (xs : List Int) : Prop := ∀ k, k < T.length → ((T.getD k (0, 0)).1 = 1 → v (T.getD k (0, 0)).2.toNat = xs.getD k 0) ∧ ((T.getD k (0, 0)).1 = 3 → (T.getD k (0, 0)).2 = xs.getD k 0)
/-- all NOTs and compares hold -/
def sNC (l : List pLt) (R : Nat → List pRw) (v : Nat → Int) : Prop := ∀ y ∈ l, (y.1 = 2 → ¬ ∃ w, w ∈ R y.2.1.toNat ∧ sTs v y.2.2.2.1 w.1) ∧ (y.1 = 3 → sCm v y)
theorem qVm_in {nv : Nat} : ∀ {Q : pCd}, wC nv Q → ∀ k, (qVm Q).testBit k = true → k < nv
  | [], _, k, h => by
    have h' : (0 : Nat).testBit k = true := h
    rw [Nat.zero_testBit] at h'
    cases h'
  | x :: q, hw, k, h => by
    have h' : ((if x.1 = 2 then 2 ^ x.2.toNat else 0) ||| qVm q).testBit k = true := h
    rw [Nat.testBit_or, Bool.or_eq_true] at h'
    rcases h' with h1 | h1
    · by_cases c : x.1 = 2
      · rw [if_pos c, Nat.testBit_two_pow] at h1
        have := of_decide_eq_true h1
        rcases hw x List.mem_cons_self with z | z | z <;> omega
      · rw [if_neg c, Nat.zero_testBit] at h1
        cases h1
    · exact qVm_in (fun y hy => hw y (List.mem_cons_of_mem _ hy)) k h1
theorem sTs_xt {nv : Nat} {T : pCd} {v w : Nat → Int} {xs : List Int} (hT : ∀ y ∈ T, wT1 nv y) (h : ∀ k, k < nv → v k = w k) (hs : sTs v T xs) : sTs w T xs := by
  intro k hk
  obtain ⟨a, b⟩ := hs k hk
  refine ⟨fun c => ?_, b⟩
  have hw : wT1 nv (T.getD k (0, 0)) := hT _ (by rw [getD_e hk]; exact List.getElem_mem hk)
  rw [← h _ (by rcases hw with z | z | z <;> omega)]
  exact a c
theorem sCm_xt {nv : Nat} {y : pLt} {v w : Nat → Int} (h1 : wEx nv y.2.2.2.2.1) (h2 : wEx nv y.2.2.2.2.2) (h : ∀ k, k < nv → v k = w k) (hs : sCm v y) : sCm w y := by
  obtain ⟨a, b, k1, k2, k3⟩ := hs
  exact ⟨a, b, by rw [← qEv_xt h1.1 (fun k hk => h k (qVm_in h1.1 k hk))]; exact k1, by rw [← qEv_xt h2.1 (fun k hk => h k (qVm_in h2.1 k hk))]; exact k2, k3⟩
theorem sNC_xt {np nv : Nat} {l : List pLt} {R : Nat → List pRw} {v w : Nat → Int} (hw : ∀ y ∈ l, wLt np nv y) (h : ∀ k, k < nv → v k = w k) (hs : sNC l R v) : sNC l R w := by
  intro y hy
  obtain ⟨a, b⟩ := hs y hy
  refine ⟨fun c => ?_, fun c => ?_⟩
  · rcases hw y hy with z | z
    · rintro ⟨u, u1, u2⟩
      exact a c ⟨u, u1, sTs_xt z.2.2.2.2.2 (fun k hk => (h k hk).symm) u2⟩
    · omega
  · rcases hw y hy with z | z
    · omega
    · exact sCm_xt z.2.2.1 z.2.2.2 h (b c)
theorem pFit_full {nv m : Nat} {T : pCd} {vl : Nat → Int} {xs : List Int} (hT : ∀ y ∈ T, wT1 nv y) (hm : ∀ k, k < nv → m.testBit k = true) : pFit m vl T xs ↔ sTs vl T xs := by
  constructor
  · intro h k hk
    obtain ⟨a, b, c⟩ := h k hk
    have hw : wT1 nv (T.getD k (0, 0)) := hT _ (by rw [getD_e hk]; exact List.getElem_mem hk)
    exact ⟨fun z => b z (hm _ (by rcases hw with q | q | q <;> omega)), a⟩
  · intro h k hk
    obtain ⟨a, b⟩ := h k hk
    refine ⟨b, fun z _ => a z, fun z j hj z1 z2 => ?_⟩
    have := (h j (by omega)).1 z1
    rw [z2, a z] at this
    exact this.symm
/-- the rows of all predicates -/
def rTb (G : xG_) (np : Nat) (N : Nat → Nat) (R : Nat → List pRw) : Prop := ∀ p, p < np → rRw G p (N p) (R p) ∧ N p ≤ 4
theorem rTb.ge {G G' : xG_} {np : Nat} {N : Nat → Nat} {R : Nat → List pRw} (h : rTb G np N R) (hf : ∀ a j, 107 ≤ a → a ≤ 109 → G' a j = G a j) : rTb G' np N R := fun p hp => by
  obtain ⟨⟨a1, a2, a3⟩, a4⟩ := h p hp
  refine ⟨⟨by rw [hf _ _ (by omega) (by omega)]; exact a1, a2, fun i hi => ?_⟩, a4⟩
  obtain ⟨b1, b2, b3⟩ := a3 i hi
  exact ⟨b1, fun j hj => by rw [hf _ _ (by omega) (by omega)]; exact b2 j hj, by rw [hf _ _ (by omega) (by omega)]; exact b3⟩
theorem rLt.tm {G : xG_} {x c : Nat} {y : pLt} (h : rLt G 2 x c y) (hx : x < 200) (h3 : y.1 ≠ 3) : G 28 x = y.2.1 ∧ rTm G x y.2.2.2.1 := by
  obtain ⟨a1, a2, a3, a4⟩ := h
  obtain ⟨b1, b2, b3⟩ := a3 h3
  exact ⟨b1, hx, b2, a2, b3⟩
section
variable {f nv np r c m : Nat} {l : List pLt} {N : Nat → Nat} {R : Nat → List pRw}
theorem l_279 (hf : 6300 < f) (hr : r < 25) (hnv : nv ≤ 8) (hnp : np ≤ 16) (hc : c ≤ 6200) (hw : ∀ y ∈ l, wLt np nv y ∧ (y.1 ≠ 3 → 0 ≤ y.2.1)) (hfull : ∀ k, k < nv → m.testBit k = true) : ∀ (rest : List pLt) (k fu : Nat) (G : xG_), l.drop k = rest → k ≤ l.length → rest.length < fu → rLs G 2 r c l → G 0 39 = (r : Int) → rBn G m nv → rTb G np N R →
    ∃ G' b, g279_2 f fu (k : Int) G = some (b, G') ∧ xfu G G' ∧ isB b (sNC rest R (G 110)) := by
  intro rest
  induction rest with
  | nil =>
    intro k fu G h1 h2 h3 hL h39 hm hT
    obtain ⟨fu, rfl⟩ : ∃ t, fu = t + 1 := ⟨fu - 1, by have : 0 < fu := h3; omega⟩
    have hk : k = l.length := by
      have : (l.drop k).length = 0 := by rw [h1]; rfl
      rw [List.length_drop] at this
      omega
    have h19 : G 21 r = (l.length : Int) := hL.1
    refine ⟨G, 1, ?_, fun _ _ _ _ => rfl, .inl ⟨rfl, fun y hy => absurd hy (by simp)⟩⟩
    show g279_2b (g279_2 f fu) f _ _ = _
    unfold g279_2b
    rw [h39, if_pos (by omega), Int.toNat_natCast]
    show (if G 21 r ≤ (k : Int) then _ else _) = _
    rw [h19, if_pos (by omega)]
  | cons y rest ih =>
    intro k fu G h1 h2 h3 hL h39 hm hT
    have h3' : rest.length + 1 < fu := h3
    obtain ⟨fu, rfl⟩ : ∃ t, fu = t + 1 := ⟨fu - 1, by omega⟩
    have hk : k < l.length := by
      have : (l.drop k).length = (y :: rest).length := by rw [h1]
      rw [List.length_drop, List.length_cons] at this
      omega
    have hl8 := hL.2.1
    have hy : l.getD k dLt = y ∧ l.drop (k + 1) = rest := by
      rw [List.drop_eq_getElem_cons hk] at h1
      injection h1 with e1 e2
      exact ⟨by rw [getD_e hk]; exact e1, e2⟩
    have hym : y ∈ l := by
      rw [← hy.1, getD_e hk]
      exact List.getElem_mem hk
    have h19 : G 21 r = (l.length : Int) := hL.1
    have hLy := hL.2.2 k hk
    rw [hy.1] at hLy
    obtain ⟨hwy, hwy0⟩ := hw y hym
    have ex : xwr (xwr ((r : Int) * 8) + (k : Int)) = ((8 * r + k : Nat) : Int) := by
      rw [xwr_g ((r : Int) * 8) (by omega) (by omega), xwr_g _ (by omega) (by omega)]; omega
    have ek : xwr ((k : Int) + 1) = ((k + 1 : Nat) : Int) := by rw [xwr_g _ (by omega) (by omega)]; omega
    have hxx : 0 ≤ ((8 * r + k : Nat) : Int) ∧ ((8 * r + k : Nat) : Int) < 200 := by omega
    have h27 : G 27 (8 * r + k) = y.1 := hLy.1
    have e1 : g279_2 f (fu + 1) (k : Int) G = if ¬ y.1 = 2 then g279_51 (g279_2 f fu) f (k : Int) ((8 * r + k : Nat) : Int) G else (g280 f ((8 * r + k : Nat) : Int) G).bind fun R113 => (if (R113.1) = 0 then g279_51 (g279_2 f fu) f (k : Int) ((8 * r + k : Nat) : Int) R113.2 else (some (0, R113.2))) := by
      show g279_2b (g279_2 f fu) f _ _ = _
      unfold g279_2b
      rw [h39]
      simp only [Nat.reduceAdd, Int.toNat_natCast]
      rw [if_pos (by omega), h19, if_neg (by omega)]
      simp only [ex, if_pos hxx, Int.toNat_natCast]
      rw [h27]
    have goon : ∀ G1, xfu G G1 → ((y.1 = 2 → ¬ ∃ w, w ∈ R y.2.1.toNat ∧ sTs (G 110) y.2.2.2.1 w.1) ∧ (y.1 = 3 → sCm (G 110) y)) → ∃ G' b, g279_2 f fu ((k + 1 : Nat) : Int) G1 = some (b, G') ∧ xfu G G' ∧ isB b (sNC (y :: rest) R (G 110)) := by
      intro G1 hx hy1
      have e110 : G1 110 = G 110 := funext (fun j => hx _ _ (by omega) (by omega))
      obtain ⟨G', b, u1, u2, u3⟩ := ih (k + 1) fu G1 hy.2 (by omega) (by omega) (hL.v (fun a j _ _ => hx _ _ (by omega) (by omega))) (by rw [hx _ _ (by omega) (by omega)]; exact h39) ⟨by rw [hx _ _ (by omega) (by omega)]; exact hm.1, hm.2.1, fun j hj => by rw [e110]; exact hm.2.2 j hj⟩ (hT.ge (fun a j _ _ => hx _ _ (by omega) (by omega)))
      rw [e110] at u3
      refine ⟨G', b, u1, fun o j z1 z2 => by rw [u2 o j z1 z2, hx o j z1 z2], u3.iff ⟨fun q z hz => ?_, fun q z hz => q z (List.mem_cons_of_mem _ hz)⟩⟩
      rcases List.mem_cons.mp hz with hz | hz
      · rw [hz]; exact hy1
      · exact q z hz
    have skip : y.1 ≠ 3 → g279_51 (g279_2 f fu) f (k : Int) ((8 * r + k : Nat) : Int) G = g279_2 f fu ((k + 1 : Nat) : Int) G := by
      intro c
      unfold g279_51 g279_74
      rw [if_pos hxx, Int.toNat_natCast]
      show (if ¬ G 27 (8 * r + k) = 3 then _ else _) = _
      rw [h27, if_pos c, ek]
    rw [e1]
    by_cases c2 : y.1 = 2
    · have n2 : ¬ ¬ y.1 = 2 := fun q => q c2
      obtain ⟨t1, t2⟩ := hLy.tm (by omega) (by omega)
      obtain ⟨p, hp⟩ : ∃ p : Nat, y.2.1 = (p : Int) := ⟨y.2.1.toNat, by have := hwy0 (by omega); omega⟩
      have hwT : (∀ x ∈ y.2.2.2.1, wT1 nv x) ∧ y.2.1 < np := by
        rcases hwy with z | z
        · exact ⟨z.2.2.2.2.2, z.2.2.1⟩
        · omega
      obtain ⟨hR1, hR2⟩ := hT p (by omega)
      obtain ⟨b, k1, k2⟩ := l_280 (f := f) (by omega) (by omega) t2 (by rw [t1, hp]) hwT.1 hnv hR1 hm.2.1 hm.1
      have k3 : isB b (∃ w, w ∈ R y.2.1.toNat ∧ sTs (G 110) y.2.2.2.1 w.1) := by
        rw [hp, Int.toNat_natCast]
        exact k2.iff ⟨fun ⟨w, w1, w2⟩ => ⟨w, w1, (pFit_full hwT.1 hfull).mp w2⟩, fun ⟨w, w1, w2⟩ => ⟨w, w1, (pFit_full hwT.1 hfull).mpr w2⟩⟩
      rw [if_neg n2, k1, Option.bind_some]
      rcases k3 with ⟨b1, b2⟩ | ⟨b1, b2⟩
      · have n1 : ¬ (b, G).1 = 0 := fun q => by
          have : b = 0 := q
          omega
        rw [if_neg n1]
        exact ⟨G, 0, rfl, fun _ _ _ _ => rfl, .inr ⟨rfl, fun q => (q y List.mem_cons_self).1 c2 b2⟩⟩
      · have n1 : (b, G).1 = 0 := b1
        rw [if_pos n1]
        show ∃ G' b, g279_51 (g279_2 f fu) f (k : Int) ((8 * r + k : Nat) : Int) G = some (b, G') ∧ _
        rw [skip (by omega)]
        exact goon G (fun _ _ _ _ => rfl) ⟨fun _ => b2, fun q => by omega⟩
    · rw [if_pos c2]
      by_cases c3 : y.1 = 3
      · have hwE : isCs y.2.1 ∧ wEx nv y.2.2.2.2.1 ∧ wEx nv y.2.2.2.2.2 := by
          rcases hwy with z | z
          · omega
          · exact z.2
        have vl : ∀ {Q : pCd}, wEx nv Q → rVl G (qVm Q) (G 110) := fun hQ j hj => by
          have := qVm_in hQ.1 j hj
          exact ⟨by omega, rfl, (hm.2.2 j (hfull j this)).2⟩
        obtain ⟨G1, b, k1, k2, k3⟩ := l_281 (f := f) (v := G 110) hf (by omega) hLy c3 hc hwE.1 hwE.2.1 hwE.2.2 hnv (vl hwE.2.1) (vl hwE.2.2)
        have n3 : ¬ ¬ y.1 = 3 := fun q => q c3
        have e5 : g279_51 (g279_2 f fu) f (k : Int) ((8 * r + k : Nat) : Int) G = if ¬ b = 0 then g279_2 f fu ((k + 1 : Nat) : Int) G1 else some (0, G1) := by
          unfold g279_51 g279_74
          rw [if_pos hxx, Int.toNat_natCast]
          show (if ¬ G 27 (8 * r + k) = 3 then _ else _) = _
          rw [h27, if_neg n3, k1, Option.bind_some, ek]
        rw [e5]
        rcases k3 with ⟨b1, b2⟩ | ⟨b1, b2⟩
        · have n1 : ¬ b = 0 := by omega
          rw [if_pos n1]
          exact goon G1 k2 ⟨fun q => absurd q c2, fun _ => b2⟩
        · have n1 : ¬ ¬ b = 0 := fun q => q b1
          rw [if_neg n1]
          exact ⟨G1, 0, rfl, k2, .inr ⟨rfl, fun q => b2 ((q y List.mem_cons_self).2 c3)⟩⟩
      · rw [skip c3]
        exact goon G (fun _ _ _ _ => rfl) ⟨fun q => absurd q c2, fun q => absurd q c3⟩
/-- finishWay -/
theorem l_fw {G : xG_} (hf : 6300 < f) (hr : r < 25) (hnv : nv ≤ 8) (hnp : np ≤ 16) (hc : c ≤ 6200) (hw : ∀ y ∈ l, wLt np nv y ∧ (y.1 ≠ 3 → 0 ≤ y.2.1)) (hsafe : ∀ k, k < nv → (qBd l).testBit k = true) (hA : ∀ k, (qA l).testBit k = true → m.testBit k = true) (hL : rLs G 2 r c l) (h39 : G 0 39 = (r : Int)) (hm : rBn G m nv) (hT : rTb G np N R) :
    ∃ G1, xfv m G G1 ∧ ((g276 f G = some (xup2 G1 0 37 (m : Int)) ∧ ∀ v, vXt m (G 110) v → ¬ sNC l R v) ∨ ∃ m', rBn G1 m' nv ∧ (∀ k, k < nv → m'.testBit k = true) ∧ sNC l R (G1 110) ∧ (∀ v, vXt m (G 110) v → sNC l R v → ∀ k, k < nv → v k = G1 110 k) ∧ ∀ G2, g283 f G1 = some G2 → g276 f G = some (xup2 G2 0 37 (m : Int))) := by
  have hw1 : ∀ y ∈ l, wLt np nv y := fun y hy => (hw y hy).1
  obtain ⟨G1, b, m', k1, k2, k3⟩ := l_277 (f := f) hf hr hnv hc hw1 hL h39 hm
  have seq : ∀ v, sNC l R v → sEq v l := fun v h y hy c _ => (h y hy).2 c
  rcases k3 with ⟨b0, k4⟩ | ⟨b0, k4, k5, k6, k7⟩
  · refine ⟨G1, k2, .inl ⟨?_, fun v hv hs => k4 v hv (seq v hs)⟩⟩
    unfold g276 g276_23
    rw [k1, Option.bind_some, hm.1, b0, if_pos rfl]
    rfl
  · have full : ∀ k, k < nv → m'.testBit k = true := fun k hk => qBd_in k5 (fun j hj => k6 j (hA j hj)) k (hsafe k hk)
    obtain ⟨G2, b', u1, u2, u3⟩ := l_279 (f := f) hf hr hnv hnp hc hw full l 0 f G1 rfl (Nat.zero_le _) (by have := hL.2.1; omega) (hL.v (fun a j _ _ => k2.1 _ _ (by omega) (by omega) (by omega))) (by rw [k2.1 _ _ (by omega) (by omega) (by omega)]; exact h39) k4 (hT.ge (fun a j _ _ => k2.1 _ _ (by omega) (by omega) (by omega)))
    have e110 : G2 110 = G1 110 := funext (fun j => u2 _ _ (by omega) (by omega))
    have nb : ¬ (b, G1).1 = 0 := fun q => by
      have : b = 0 := q
      omega
    have x2 : xfv m G G2 := ⟨fun o j y1 y2 y3 => by rw [u2 o j (by omega) y3, k2.1 o j y1 y2 y3], fun k hk => by rw [e110]; exact k2.2 k hk⟩
    have e1 : g276 f G = if b' = 0 then some (xup2 G2 0 37 (m : Int)) else (g283 f G2).bind fun R117 => some (xup2 R117 0 37 (m : Int)) := by
      unfold g276 g276_23
      rw [k1, Option.bind_some, hm.1, if_neg nb]
      show Option.bind (g279 f G1) _ = _
      have u1' : g279 f G1 = some (b', G2) := u1
      rw [u1', Option.bind_some]
      rfl
    have uniq : ∀ v, vXt m (G 110) v → sNC l R v → ∀ k, k < nv → v k = G2 110 k := fun v hv hs k hk => by
      rw [e110]
      exact k7 v hv (seq v hs) k (full k hk)
    refine ⟨G2, x2, ?_⟩
    rcases u3 with ⟨c1, c2⟩ | ⟨c1, c2⟩
    · refine .inr ⟨m', ⟨by rw [u2 _ _ (by omega) (by omega)]; exact k4.1, k4.2.1, fun k hk => by rw [e110]; exact k4.2.2 k hk⟩, full, by rw [e110]; exact c2, uniq, fun G3 h => ?_⟩
      rw [e1, if_neg (by omega), h]
      rfl
    · refine .inl ⟨by rw [e1, if_pos c1], fun v hv hs => c2 ?_⟩
      rw [← e110]
      exact sNC_xt hw1 (uniq v hv hs) hs
end
end
section
/-! WAYS of the reference: a row's values are bound -/
theorem qT_in : ∀ (T : pCd) (k : Nat), (qT T).testBit k = true ↔ ∃ x ∈ T, x.1 = 1 ∧ x.2.toNat = k
  | [], k => by
    have : (qT []).testBit k = (0 : Nat).testBit k := rfl
    rw [this, Nat.zero_testBit]
    simp
  | x :: T, k => by
    have e : (qT (x :: T)).testBit k = ((if x.1 = 1 then 2 ^ x.2.toNat else 0) ||| qT T).testBit k := rfl
    rw [e, Nat.testBit_or, Bool.or_eq_true, qT_in T k]
    constructor
    · rintro (h | ⟨y, h1, h2⟩)
      · by_cases c : x.1 = 1
        · rw [if_pos c, Nat.testBit_two_pow] at h
          exact ⟨x, List.mem_cons_self, c, of_decide_eq_true h⟩
        · rw [if_neg c, Nat.zero_testBit] at h
          cases h
      · exact ⟨y, List.mem_cons_of_mem _ h1, h2⟩
    · rintro ⟨y, h1, h2, h3⟩
      rcases List.mem_cons.mp h1 with h1 | h1
      · refine .inl ?_
        rw [← h1, if_pos h2, Nat.testBit_two_pow]
        exact decide_eq_true h3
      · exact .inr ⟨y, h1, h2, h3⟩
theorem qT_get {T : pCd} {k : Nat} : (qT T).testBit k = true ↔ ∃ j, j < T.length ∧ (T.getD j (0, 0)).1 = 1 ∧ (T.getD j (0, 0)).2.toNat = k := by
  rw [qT_in]
  constructor
  · rintro ⟨x, h1, h2⟩
    obtain ⟨j, hj, rfl⟩ := List.getElem_of_mem h1
    exact ⟨j, hj, by rw [getD_e hj]; exact h2⟩
  · rintro ⟨j, hj, h2⟩
    exact ⟨T.getD j (0, 0), by rw [getD_e hj]; exact List.getElem_mem hj, h2⟩
theorem qA_ap (l l' : List pLt) : qA (l ++ l') = qA l ||| qA l' := by
  induction l with
  | nil => show qA l' = 0 ||| qA l'; rw [Nat.zero_or]
  | cons x l ih =>
    show (if x.1 = 1 then qT x.2.2.2.1 else 0) ||| qA (l ++ l') = ((if x.1 = 1 then qT x.2.2.2.1 else 0) ||| qA l) ||| qA l'
    rw [ih, Nat.or_assoc]
theorem vOk_0 : vOk 0 := .inl ⟨by decide, by decide⟩
section
variable {f p n x i m nv : Nat} {R : List pRw} {T : pCd} {q : Int → xG_ → Option xG_} {r79 : Int → Int → Int → Int → Int → xG_ → Option xG_}
theorem l_275_135 {z j : Nat} {xs : List Int} (hp : p < 16) (hj : j < 520) (hx : x < 200) (hz : z < 20) (hw : ∀ y ∈ T, wT1 nv y) (hnv : nv ≤ 8) (hl : T.length ≤ 4) (hvx : ∀ k, vOk (xs.getD k 0)) : ∀ (d k fu m1 : Nat) (G : xG_), k + d = T.length → d < fu → rTm G x T → (∀ j', j' < 4 → G 107 ((p * 520 + j) * 4 + j') = xs.getD j' 0) → rBn G m1 nv → pFit m1 (G 110) T xs →
    ∃ G1, g275_135 q r79 f fu (z : Int) (x : Int) (p : Int) (m : Int) (j : Int) (k : Int) G = (q ((z + 1 : Nat) : Int) G1).bind (fun R103 => r79 (z : Int) (x : Int) (p : Int) (m : Int) ((j + 1 : Nat) : Int) (xup2 R103 0 37 (m : Int))) ∧
      rBn G1 (m1 ||| qT (T.drop k)) nv ∧ (∀ k', k ≤ k' → k' < T.length → (T.getD k' (0, 0)).1 = 1 → G1 110 (T.getD k' (0, 0)).2.toNat = xs.getD k' 0) ∧ (∀ b, m1.testBit b = true → G1 110 b = G 110 b) ∧ ∀ o b, ¬ (o = 0 ∧ b = 37) → o ≠ 110 → G1 o b = G o b := by
  intro d
  induction d with
  | zero =>
    intro k fu m1 G h1 h2 hT hr hm hF
    obtain ⟨fu, rfl⟩ : ∃ t, fu = t + 1 := ⟨fu - 1, by omega⟩
    obtain ⟨t1, t2, t3, t4⟩ := hT
    have e1 : xwr ((z : Int) + 1) = ((z + 1 : Nat) : Int) := by rw [xwr_g _ (by omega) (by omega)]; omega
    have e2 : xwr ((j : Int) + 1) = ((j + 1 : Nat) : Int) := by rw [xwr_g _ (by omega) (by omega)]; omega
    have ed : m1 ||| qT (T.drop k) = m1 := by
      rw [List.drop_of_length_le (by omega)]
      show m1 ||| 0 = m1
      exact Nat.or_zero m1
    refine ⟨G, ?_, by rw [ed]; exact hm, fun k' _ _ => by omega, fun _ _ => rfl, fun _ _ _ _ => rfl⟩
    show g275_135b q r79 (g275_135 q r79 f fu) f _ _ _ _ _ _ _ = _
    unfold g275_135b g275_241
    rw [if_pos (by omega), Int.toNat_natCast]
    show (if G 29 x ≤ (k : Int) then _ else _) = _
    rw [t2, if_pos (by omega), e1, e2]
    cases q ((z + 1 : Nat) : Int) G <;> rfl
  | succ d ih =>
    intro k fu m1 G h1 h2 hT hr hm hF
    obtain ⟨fu, rfl⟩ : ∃ t, fu = t + 1 := ⟨fu - 1, by omega⟩
    obtain ⟨t1, t2, t3, t4⟩ := hT
    have hk : k < T.length := by omega
    obtain ⟨a1, a2⟩ := t4 k hk
    have hwk : wT1 nv (T.getD k (0, 0)) := hw _ (by rw [getD_e hk]; exact List.getElem_mem hk)
    have hd : T.drop k = T.getD k (0, 0) :: T.drop (k + 1) := by rw [List.drop_eq_getElem_cons hk, getD_e hk]
    have e1 : xwr (xwr ((x : Int) * 4) + (k : Int)) = ((4 * x + k : Nat) : Int) := by
      rw [xwr_g ((x : Int) * 4) (by omega) (by omega), xwr_g _ (by omega) (by omega)]; omega
    have e2 : xwr ((((p * 520 + j) * 4 : Nat) : Int) + (k : Int)) = (((p * 520 + j) * 4 + k : Nat) : Int) := by rw [xwr_g _ (by omega) (by omega)]; omega
    have e3 : xwr ((k : Int) + 1) = ((k + 1 : Nat) : Int) := by rw [xwr_g _ (by omega) (by omega)]; omega
    have h44 : 0 ≤ ((4 * x + k : Nat) : Int) ∧ ((4 * x + k : Nat) : Int) < 800 := by omega
    by_cases c1 : (T.getD k (0, 0)).1 = 1
    · obtain ⟨v, hv⟩ : ∃ v : Nat, (T.getD k (0, 0)).2 = (v : Int) := ⟨(T.getD k (0, 0)).2.toNat, by rcases hwk with y | y | y <;> omega⟩
      have hv8 : v < nv := by rcases hwk with y | y | y <;> omega
      have a2' : G 34 (4 * x + k) = (v : Int) := by rw [a2 (by omega)]; exact hv
      have ev : xwr (v : Int) = (v : Int) := xwr_g _ (by omega) (by omega)
      have h37 : xup2 G 110 v (xs.getD k 0) 0 37 = (m1 : Int) := by rw [xup2_n (by omega)]; exact hm.1
      have step : g275_135 q r79 f (fu + 1) (z : Int) (x : Int) (p : Int) (m : Int) (j : Int) (k : Int) G = g275_135 q r79 f fu (z : Int) (x : Int) (p : Int) (m : Int) (j : Int) ((k + 1 : Nat) : Int) (xup2 (xup2 G 110 v (xs.getD k 0)) 0 37 ((m1 ||| 2 ^ v : Nat) : Int)) := by
        show g275_135b q r79 (g275_135 q r79 f fu) f _ _ _ _ _ _ _ = _
        unfold g275_135b g275_222
        rw [if_pos (by omega)]
        simp only [Nat.reduceAdd, Int.toNat_natCast]
        rw [t2, if_neg (by omega)]
        simp only [e1, if_pos h44, Int.toNat_natCast]
        rw [a1, if_pos c1, l_261 hp (by omega), Option.bind_some]
        simp only [e2]
        rw [if_pos (by omega), a2', ev, if_pos (by omega), Int.toNat_natCast, Int.toNat_natCast, hr k (by omega), Option.bind_some, h37, xorb (by have := hm.2.1; omega) (by omega), Option.bind_some, e3]
      have vk := (hF k hk).2.1 c1
      have v3 := (hF k hk).2.2 c1
      rw [hv, Int.toNat_natCast] at vk
      have hm' : rBn (xup2 (xup2 G 110 v (xs.getD k 0)) 0 37 ((m1 ||| 2 ^ v : Nat) : Int)) (m1 ||| 2 ^ v) nv := by
        refine ⟨xup2_s _ _ _ _, or_lt (k := 8) hm.2.1 (by omega), fun b hb => ?_⟩
        rw [xup2_n (by omega)]
        by_cases cb : b = v
        · rw [cb, xup2_s]
          exact ⟨hv8, hvx k⟩
        · rw [xup2_n (by omega)]
          rw [or_bit, decide_eq_false (fun q => cb q.symm), Bool.or_false] at hb
          exact hm.2.2 b hb
      have hF' : pFit (m1 ||| 2 ^ v) (xup2 (xup2 G 110 v (xs.getD k 0)) 0 37 ((m1 ||| 2 ^ v : Nat) : Int) 110) T xs := by
        intro k' hk'
        obtain ⟨f1, f2, f3⟩ := hF k' hk'
        refine ⟨f1, fun y1 y2 => ?_, f3⟩
        rw [xup2_n (by omega)]
        by_cases cb : (T.getD k' (0, 0)).2.toNat = v
        · rw [cb, xup2_s]
          have hwk' : wT1 nv (T.getD k' (0, 0)) := hw _ (by rw [getD_e hk']; exact List.getElem_mem hk')
          have e2' : (T.getD k' (0, 0)).2 = (T.getD k (0, 0)).2 := by rcases hwk' with y | y | y <;> omega
          by_cases ckk : k' < k
          · exact (v3 k' ckk y1 e2').symm
          · by_cases ck2 : k' = k
            · rw [ck2]
            · exact f3 y1 k (by omega) c1 e2'.symm
        · rw [xup2_n (by omega)]
          rw [or_bit, decide_eq_false (fun q => cb q.symm), Bool.or_false] at y2
          exact f2 y1 y2
      obtain ⟨G1, u1, u2, u3, u4, u5⟩ := ih (k + 1) fu (m1 ||| 2 ^ v) _ (by omega) (by omega) ⟨t1, by rw [xup2_n (by omega), xup2_n (by omega)]; exact t2, t3, fun b hb => by rw [xup2_n (by omega), xup2_n (by omega), xup2_n (by omega), xup2_n (by omega)]; exact t4 b hb⟩ (fun b hb => by rw [xup2_n (by omega), xup2_n (by omega)]; exact hr b hb) hm' hF'
      have em : m1 ||| qT (T.drop k) = (m1 ||| 2 ^ v) ||| qT (T.drop (k + 1)) := by
        rw [hd]
        show m1 ||| ((if (T.getD k (0, 0)).1 = 1 then 2 ^ (T.getD k (0, 0)).2.toNat else 0) ||| qT (T.drop (k + 1))) = _
        rw [if_pos c1, hv, Int.toNat_natCast, Nat.or_assoc]
      refine ⟨G1, by rw [step]; exact u1, by rw [em]; exact u2, fun k' y1 y2 y3 => ?_, fun b hb => ?_, fun o b y1 y2 => by rw [u5 o b y1 y2, xup2_n y1, xup2_n (fun q => y2 q.1)]⟩
      · by_cases ck : k' = k
        · rw [ck, hv, Int.toNat_natCast, u4 v (by rw [or_bit]; simp), xup2_n (by omega), xup2_s]
        · exact u3 k' (by omega) y2 y3
      · rw [u4 b (by rw [or_bit, hb, Bool.true_or]), xup2_n (by omega)]
        by_cases cb : b = v
        · rw [cb, xup2_s]
          rw [cb] at hb
          exact (vk hb).symm
        · rw [xup2_n (by omega)]
    · have step : g275_135 q r79 f (fu + 1) (z : Int) (x : Int) (p : Int) (m : Int) (j : Int) (k : Int) G = g275_135 q r79 f fu (z : Int) (x : Int) (p : Int) (m : Int) (j : Int) ((k + 1 : Nat) : Int) G := by
        show g275_135b q r79 (g275_135 q r79 f fu) f _ _ _ _ _ _ _ = _
        unfold g275_135b g275_222
        rw [if_pos (by omega)]
        simp only [Nat.reduceAdd, Int.toNat_natCast]
        rw [t2, if_neg (by omega)]
        simp only [e1, if_pos h44, Int.toNat_natCast]
        rw [a1, if_neg c1, e3]
      obtain ⟨G1, u1, u2, u3, u4, u5⟩ := ih (k + 1) fu m1 G (by omega) (by omega) ⟨t1, t2, t3, t4⟩ hr hm hF
      have em : m1 ||| qT (T.drop k) = m1 ||| qT (T.drop (k + 1)) := by
        rw [hd]
        show m1 ||| ((if (T.getD k (0, 0)).1 = 1 then 2 ^ (T.getD k (0, 0)).2.toNat else 0) ||| qT (T.drop (k + 1))) = _
        rw [if_neg c1, Nat.zero_or]
      refine ⟨G1, by rw [step]; exact u1, by rw [em]; exact u2, fun k' y1 y2 y3 => ?_, u4, u5⟩
      by_cases ck : k' = k
      · rw [ck] at y3; exact absurd y3 c1
      · exact u3 k' (by omega) y2 y3
end
end
section
/-! WAYS of the reference: all of a rule -/
def vF (v : List Int) : Nat → Int := fun k => v.getD k 0
def vOf (G : xG_) (nv : Nat) : List Int := (List.range nv).map (G 110)
theorem vOf_len (G : xG_) (nv : Nat) : (vOf G nv).length = nv := by unfold vOf; simp
theorem vOf_get {G : xG_} {nv k : Nat} (h : k < nv) : vF (vOf G nv) k = G 110 k := by
  unfold vF
  rw [getD_e (by rw [vOf_len]; exact h)]
  unfold vOf
  simp
/-- what WAYS leave as it was -/
def xE (G G' : xG_) : Prop := ∀ o j, ¬ (o = 0 ∧ (j = 37 ∨ 42 ≤ j ∧ j ≤ 61)) → ¬ (110 ≤ o ∧ o ≤ 121 ∧ o ≠ 118) → G' o j = G o j
/-- what the use of a WAY leaves as it was -/
def xUs (G G' : xG_) : Prop := ∀ o j, ¬ (o = 0 ∧ 42 ≤ j ∧ j ≤ 61) → ¬ (111 ≤ o ∧ o ≤ 121 ∧ o ≠ 118) → G' o j = G o j
/-- the ATOMS are rows that are open -/
def sAR (l : List pLt) (R : Nat → List pRw) (op : Nat → pRw → Prop) (v : Nat → Int) : Prop := ∀ y ∈ l, y.1 = 1 → ∃ w, w ∈ R y.2.1.toNat ∧ op y.2.1.toNat w ∧ sTs v y.2.2.2.1 w.1
/-- values of all VARIABLES that make a WAY -/
def isW (l : List pLt) (nv : Nat) (R : Nat → List pRw) (op : Nat → pRw → Prop) (v : List Int) : Prop := v.length = nv ∧ sAR l R op (vF v) ∧ sNC l R (vF v)
def qB3 : List pLt → Nat
  | [] => 1
  | y :: l => if y.1 = 1 then 100 * qB3 l else qB3 l
theorem sTs_al {v : Nat → Int} {T : pCd} {xs ys : List Int} (h1 : sTs v T xs) (h2 : sTs v T ys) (hT : ∀ k, k < T.length → (T.getD k (0, 0)).1 = 1 ∨ (T.getD k (0, 0)).1 = 2 ∨ (T.getD k (0, 0)).1 = 3) : aLk T xs ys := by
  intro k hk h
  obtain ⟨a1, a2⟩ := h1 k hk
  obtain ⟨b1, b2⟩ := h2 k hk
  rcases hT k hk with c | c | c
  · rw [← a1 c, ← b1 c]
  · exact absurd c h
  · rw [← a2 c, ← b2 c]
theorem aLk_s {v : Nat → Int} {T : pCd} {xs ys : List Int} (h1 : sTs v T xs) (h : aLk T xs ys) : sTs v T ys := by
  intro k hk
  obtain ⟨a1, a2⟩ := h1 k hk
  exact ⟨fun c => by rw [← h k hk (by omega)]; exact a1 c, fun c => by rw [← h k hk (by omega)]; exact a2 c⟩
theorem sTs_fit {m nv : Nat} {vl v : Nat → Int} {T : pCd} {xs : List Int} (hx : vXt m vl v) (h : sTs v T xs) : pFit m vl T xs := by
  intro k hk
  obtain ⟨a1, a2⟩ := h k hk
  refine ⟨a2, fun c b => by rw [← hx _ b]; exact a1 c, fun c j hj c1 c2 => ?_⟩
  have := (h j (by omega)).1 c1
  rw [c2, a1 c] at this
  exact this.symm
theorem least_i {Q : Nat → Prop} : ∀ (n : Nat), Q n → ∃ z, z ≤ n ∧ Q z ∧ ∀ j, j < z → ¬ Q j := by
  intro n
  induction n using Nat.strongRecOn with
  | _ n ih =>
    intro h
    by_cases c : ∃ j, j < n ∧ Q j
    · obtain ⟨j, h1, h2⟩ := c
      obtain ⟨z, k1, k2, k3⟩ := ih j h1 h2
      exact ⟨z, by omega, k2, k3⟩
    · exact ⟨n, Nat.le_refl _, h, fun j hj q => c ⟨j, hj, q⟩⟩
section
variable {f nv np r c : Nat} {l : List pLt} {N : Nat → Nat} {R : Nat → List pRw} {K : Nat → Nat} {ra rb : Int} {G0 : xG_} {P : List (List Int) → xG_ → Prop}
/-- ways -/
theorem l_275r (hf : 6300 < f) (hr : r < 25) (hnv : nv ≤ 8) (hnp : np ≤ 16) (hc : c ≤ 6200) (hw : ∀ y ∈ l, wLt np nv y ∧ (y.1 ≠ 3 → 0 ≤ y.2.1)) (hsafe : ∀ k, k < nv → (qBd l).testBit k = true)
    (hL : rLs G0 2 r c l) (h39 : G0 0 39 = (r : Int)) (h40 : G0 0 40 = ra) (h41 : G0 0 41 = rb) (hK : ra ≠ -1 → ∀ p, p < np → G0 7 p = (K p : Int)) (hT : rTb G0 np N R) (hR : ∀ p, p < np → (R p).length ≤ 100 ∧ ∀ w ∈ R p, ∀ x ∈ w.1, vOk x)
    (hP : ∀ W G G', P W G → (∀ o j, ¬ (o = 0 ∧ (j = 37 ∨ j = 42)) → o ≠ 110 → o ≠ 111 → G' o j = G o j) → P W G')
    (hU : ∀ W G m, P W G → G 0 43 = 0 → xE G0 G → rBn G m nv → (∀ k, k < nv → m.testBit k = true) → sNC l R (G 110) → W.length < 1000000 → ∃ G', g283 f G = some G' ∧ P (W ++ [vOf G nv]) G' ∧ xUs G G') :
    ∀ (rest : List pLt) (i n m : Nat) (G : xG_) (W : List (List Int)), l.drop i = rest → i ≤ l.length → rest.length < n → xE G0 G → rBn G m nv → (∀ k, (qA (l.take i)).testBit k = true → m.testBit k = true) → P W G → G 0 43 = 0 → W.length + qB3 rest ≤ 1000000 →
      ∃ G' V, g275r f n (i : Int) G = some G' ∧ xE G0 G' ∧ G' 0 37 = (m : Int) ∧ (∀ k, m.testBit k = true → G' 110 k = G 110 k) ∧ P (W ++ V) G' ∧ V.length ≤ qB3 rest ∧ V.Nodup ∧ (∀ v ∈ V, v.length = nv ∧ vXt m (G 110) (vF v) ∧ sAR rest R (qOp K ra rb) (vF v) ∧ sNC l R (vF v) ∧ ∀ x ∈ v, vOk x) ∧ (G' 0 43 = 0 → ∀ v : List Int, v.length = nv → vXt m (G 110) (vF v) → sAR rest R (qOp K ra rb) (vF v) → sNC l R (vF v) → v ∈ V) := by
  have hw1 : ∀ y ∈ l, wLt np nv y := fun y hy => (hw y hy).1
  have hl8 := hL.2.1
  intro rest
  induction rest with
  | nil =>
    intro i n m G W h1 h2 h3 hE hm hA hPW h43 hW
    obtain ⟨n, rfl⟩ : ∃ t, n = t + 1 := ⟨n - 1, by have : 0 < n := h3; omega⟩
    have hi : i = l.length := by
      have : (l.drop i).length = 0 := by rw [h1]; rfl
      rw [List.length_drop] at this
      omega
    have hLG : rLs G 2 r c l := hL.v (fun a j _ _ => hE _ _ (by omega) (by omega))
    have h39G : G 0 39 = (r : Int) := by rw [hE _ _ (by omega) (by omega)]; exact h39
    have hTG : rTb G np N R := hT.ge (fun a j _ _ => hE _ _ (by omega) (by omega))
    have h19 : G 21 r = (l.length : Int) := hLG.1
    have e1 : g275r f (n + 1) (i : Int) G = g276 f G := by
      have n1 : ¬ ¬ (i : Int) = (l.length : Int) := fun q => q (by omega)
      show g275b (g275r f n) f _ _ = _
      unfold g275b
      rw [if_pos h43, h39G, if_pos (by omega), Int.toNat_natCast]
      show (if ¬ (i : Int) = G 21 r then _ else _) = _
      rw [h19, if_neg n1]
      cases g276 f G <;> rfl
    obtain ⟨G1, k1, k2⟩ := l_fw (f := f) hf hr hnv hnp hc hw hsafe (fun k hk => hA k (by rw [hi, List.take_length]; exact hk)) hLG h39G hm hTG
    rw [e1]
    have xE1 : xE G0 G1 := fun o j y1 y2 => by rw [k1.1 o j (by omega) (by omega) (by omega), hE o j y1 y2]
    rcases k2 with ⟨k2, k3⟩ | ⟨m', k2, k3, k4, k5, k6⟩
    · refine ⟨xup2 G1 0 37 (m : Int), [], k2, fun o j y1 y2 => by rw [xup2_n (by omega), xE1 o j y1 y2], xup2_s _ _ _ _, fun k hk => by rw [xup2_n (by omega)]; exact k1.2 k hk, ?_, Nat.zero_le _, List.nodup_nil, fun v hv => absurd hv (by simp), fun _ v _ hv _ hs => absurd hs (k3 _ hv)⟩
      rw [List.append_nil]
      exact hP W G _ hPW (fun o j y1 y2 y3 => by rw [xup2_n (by omega), k1.1 o j y1 y2 y3])
    · obtain ⟨G2, u1, u2, u3⟩ := hU W G1 m' (hP W G G1 hPW k1.1) (by rw [k1.1 _ _ (by omega) (by omega) (by omega)]; exact h43) xE1 k2 k3 k4 (by have : W.length + 1 ≤ 1000000 := hW; omega)
      have hv : ∀ k, k < nv → vF (vOf G1 nv) k = G1 110 k := fun k hk => vOf_get hk
      refine ⟨xup2 G2 0 37 (m : Int), [vOf G1 nv], k6 G2 u1, fun o j y1 y2 => by rw [xup2_n (by omega), u3 o j (by omega) (by omega), xE1 o j y1 y2], xup2_s _ _ _ _, fun k hk => by rw [xup2_n (by omega), u3 _ _ (by omega) (by omega)]; exact k1.2 k hk, hP _ G2 _ u2 (fun o j y1 y2 y3 => xup2_n (by omega)), Nat.le_refl _, List.nodup_cons.mpr ⟨by simp, List.nodup_nil⟩, fun v hvm => ?_, fun _ v h4 h5 _ h7 => ?_⟩
      · rw [List.mem_singleton.mp hvm]
        refine ⟨vOf_len _ _, fun k hk => ?_, fun y hy => absurd hy (by simp), sNC_xt hw1 (fun k hk => (hv k hk).symm) k4, fun x hx => ?_⟩
        · rw [hv k (hm.2.2 k hk).1]
          exact k1.2 k hk
        · unfold vOf at hx
          obtain ⟨k, hk, rfl⟩ := List.mem_map.mp hx
          exact (k2.2.2 k (k3 k (List.mem_range.mp hk))).2
      · rw [List.mem_singleton]
        have h8 := k5 (vF v) h5 h7
        refine List.ext_getElem (by rw [h4, vOf_len]) (fun k q1 q2 => ?_)
        have h9 := h8 k (by omega)
        rw [← hv k (by omega)] at h9
        unfold vF at h9
        rw [getD_e q1, getD_e q2] at h9
        exact h9
  | cons y rest ih =>
    intro i n m G W h1 h2 h3 hE hm hA hPW h43 hW
    have h3' : rest.length + 1 < n := h3
    obtain ⟨n, rfl⟩ : ∃ t, n = t + 1 := ⟨n - 1, by omega⟩
    have hi : i < l.length := by
      have : (l.drop i).length = (y :: rest).length := by rw [h1]
      rw [List.length_drop, List.length_cons] at this
      omega
    have hy : l.getD i dLt = y ∧ l.drop (i + 1) = rest := by
      rw [List.drop_eq_getElem_cons hi] at h1
      injection h1 with e1 e2
      exact ⟨by rw [getD_e hi]; exact e1, e2⟩
    have hym : y ∈ l := by
      rw [← hy.1, getD_e hi]
      exact List.getElem_mem hi
    obtain ⟨hwy, hwy0⟩ := hw y hym
    have hLy0 := hL.2.2 i hi
    rw [hy.1] at hLy0
    have ex : xwr (xwr ((r : Int) * 8) + (i : Int)) = ((8 * r + i : Nat) : Int) := by
      rw [xwr_g ((r : Int) * 8) (by omega) (by omega), xwr_g _ (by omega) (by omega)]; omega
    have ei : xwr ((i : Int) + 1) = ((i + 1 : Nat) : Int) := by rw [xwr_g _ (by omega) (by omega)]; omega
    have hxx : 0 ≤ ((8 * r + i : Nat) : Int) ∧ ((8 * r + i : Nat) : Int) < 200 := by omega
    have env : ∀ {Z : xG_}, xE G0 Z → rLs Z 2 r c l ∧ Z 0 39 = (r : Int) ∧ Z 21 r = (l.length : Int) ∧ Z 27 (8 * r + i) = y.1 ∧ Z 28 (8 * r + i) = G0 28 (8 * r + i) ∧ rTb Z np N R := fun {Z} hZ => ⟨hL.v (fun a j _ _ => hZ _ _ (by omega) (by omega)), by rw [hZ _ _ (by omega) (by omega)]; exact h39, by rw [hZ _ _ (by omega) (by omega)]; exact hL.1, by rw [hZ _ _ (by omega) (by omega)]; exact hLy0.1, hZ _ _ (by omega) (by omega), hT.ge (fun a j _ _ => hZ _ _ (by omega) (by omega))⟩
    obtain ⟨_, v39, v21, v27, v28, _⟩ := env hE
    have n1 : ¬ (i : Int) = (l.length : Int) := by omega
    have e1 : g275r f (n + 1) (i : Int) G = if y.1 = 1 then g275_79 (g275r f n) f f (i : Int) ((8 * r + i : Nat) : Int) (G 28 (8 * r + i)) (G 0 37) 0 G else g275r f n ((i + 1 : Nat) : Int) G := by
      show g275b (g275r f n) f _ _ = _
      unfold g275b
      rw [if_pos h43, v39]
      simp only [Nat.reduceAdd, Int.toNat_natCast]
      rw [if_pos (by omega), v21, if_pos n1]
      simp only [ex, if_pos hxx, Int.toNat_natCast]
      rw [v27, ei]
      by_cases c1 : y.1 = 1
      · rw [if_pos c1, if_pos c1]
      · rw [if_neg c1, if_neg c1]
        cases g275r f n ((i + 1 : Nat) : Int) G <;> rfl
    have takes : l.take (i + 1) = l.take i ++ [y] := by
      rw [List.take_succ_eq_append_getElem hi, ← hy.1, getD_e hi]
    have qAs : qA (l.take (i + 1)) = qA (l.take i) ||| (if y.1 = 1 then qT y.2.2.2.1 else 0) := by
      rw [takes, qA_ap]
      show qA (l.take i) ||| ((if y.1 = 1 then qT y.2.2.2.1 else 0) ||| 0) = _
      rw [Nat.or_zero]
    by_cases c1 : y.1 = 1
    · have hB : qB3 (y :: rest) = 100 * qB3 rest := by
        show (if y.1 = 1 then 100 * qB3 rest else qB3 rest) = _
        rw [if_pos c1]
      obtain ⟨t1, t2⟩ := hLy0.tm (by omega) (by omega)
      obtain ⟨p, hp⟩ : ∃ p : Nat, y.2.1 = (p : Int) := ⟨y.2.1.toNat, by have := hwy0 (by omega); omega⟩
      have hwT : (∀ x ∈ y.2.2.2.1, wT1 nv x) ∧ y.2.1 < np := by
        rcases hwy with z | z
        · exact ⟨z.2.2.2.2.2, z.2.2.1⟩
        · omega
      have hTk : ∀ k, k < y.2.2.2.1.length → (y.2.2.2.1.getD k (0, 0)).1 = 1 ∨ (y.2.2.2.1.getD k (0, 0)).1 = 2 ∨ (y.2.2.2.1.getD k (0, 0)).1 = 3 := fun k hk => by
        have hwk : wT1 nv (y.2.2.2.1.getD k (0, 0)) := hwT.1 _ (by rw [getD_e hk]; exact List.getElem_mem hk)
        rcases hwk with z | z | z
        · exact .inl z.1
        · exact .inr (.inl z)
        · exact .inr (.inr z.1)
      have hpp : y.2.1.toNat = p := by omega
      obtain ⟨hR1, hR2⟩ := hR p (by omega)
      have hrow : ∀ j, ∀ k, vOk (((R p).getD j dRw).1.getD k 0) := fun j k => by
        by_cases cj : j < (R p).length
        · by_cases ck : k < ((R p).getD j dRw).1.length
          · rw [getD_e (l := ((R p).getD j dRw).1) ck]
            exact hR2 _ (by rw [getD_e cj]; exact List.getElem_mem cj) _ (List.getElem_mem ck)
          · rw [List.getD_eq_getElem?_getD, List.getElem?_eq_none (by omega)]
            exact vOk_0
        · have : (R p).getD j dRw = dRw := by rw [List.getD_eq_getElem?_getD, List.getElem?_eq_none (by omega)]; rfl
          rw [this]
          show vOk (([] : List Int).getD k 0)
          rw [show ([] : List Int).getD k 0 = 0 from by simp]
          exact vOk_0
      -- which rows come to WAYS
      let sel : Nat → (Nat → Int) → Prop := fun z v => z < (R p).length ∧ qOp K ra rb p ((R p).getD z dRw) ∧ sTs v y.2.2.2.1 ((R p).getD z dRw).1 ∧ ¬ ∃ j, j < z ∧ qOp K ra rb p ((R p).getD j dRw) ∧ aLk y.2.2.2.1 ((R p).getD z dRw).1 ((R p).getD j dRw).1
      have loop : ∀ (d j fu : Nat) (Z : xG_) (W : List (List Int)), j + d = (R p).length → d < fu → xE G0 Z → rBn Z m nv → P W Z → W.length + d * qB3 rest ≤ 1000000 →
          ∃ G' V, g275_79 (g275r f n) f fu (i : Int) ((8 * r + i : Nat) : Int) (p : Int) (m : Int) (j : Int) Z = some G' ∧ xE G0 G' ∧ G' 0 37 = (m : Int) ∧ (∀ k, m.testBit k = true → G' 110 k = Z 110 k) ∧ P (W ++ V) G' ∧ V.length ≤ d * qB3 rest ∧ V.Nodup ∧ (∀ v ∈ V, v.length = nv ∧ vXt m (Z 110) (vF v) ∧ sAR rest R (qOp K ra rb) (vF v) ∧ sNC l R (vF v) ∧ (∀ x ∈ v, vOk x) ∧ ∃ z, j ≤ z ∧ sel z (vF v)) ∧ (G' 0 43 = 0 → ∀ v : List Int, v.length = nv → vXt m (Z 110) (vF v) → sAR rest R (qOp K ra rb) (vF v) → sNC l R (vF v) → (∃ z, j ≤ z ∧ sel z (vF v)) → v ∈ V) := by
        intro d
        induction d with
        | zero =>
          intro j fu Z W q1 q2 hZ hmZ hPZ hWZ
          obtain ⟨fu, rfl⟩ : ∃ t, fu = t + 1 := ⟨fu - 1, by omega⟩
          have h108 : Z 108 p = ((R p).length : Int) := ((env hZ).2.2.2.2.2 p (by omega)).1.1
          refine ⟨Z, [], ?_, hZ, hmZ.1, fun _ _ => rfl, by rw [List.append_nil]; exact hPZ, Nat.zero_le _, List.nodup_nil, fun v hv => absurd hv (by simp), fun _ v _ _ _ _ ⟨z, z1, z2⟩ => ?_⟩
          · show g275_79b (g275r f n) (g275_79 (g275r f n) f fu) f _ _ _ _ _ _ = _
            unfold g275_79b g275_247
            rw [if_pos (by omega), Int.toNat_natCast, h108, if_pos (by omega)]
          · have := z2.1
            omega
        | succ d ihd =>
          intro j fu Z W q1 q2 hZ hmZ hPZ hWZ
          obtain ⟨fu, rfl⟩ : ∃ t, fu = t + 1 := ⟨fu - 1, by omega⟩
          obtain ⟨eL, e39, e21, e27, e28, eT⟩ := env hZ
          have hRZ : rRw Z p (N p) (R p) := (eT p (by omega)).1
          have hj : j < (R p).length := by omega
          have ej : xwr ((j : Int) + 1) = ((j + 1 : Nat) : Int) := by rw [xwr_g _ (by omega) (by omega)]; omega
          by_cases c43 : Z 0 43 = 0
          · have tZ : rTm Z (8 * r + i) y.2.2.2.1 := by
              have := (eL.2.2 i hi)
              rw [hy.1] at this
              exact (this.tm (by omega) (by omega)).2
            have z40 : Z 0 40 = ra := by rw [hZ _ _ (by omega) (by omega)]; exact h40
            have z41 : Z 0 41 = rb := by rw [hZ _ _ (by omega) (by omega)]; exact h41
            have zK : ra ≠ -1 → Z 7 p = (K p : Int) := fun q => by rw [hZ _ _ (by omega) (by omega)]; exact hK q p (by omega)
            obtain ⟨b1, o1, o2⟩ := l_271 (f := f) (by omega) hRZ hj z40 z41 zK
            obtain ⟨b2, f1, f2⟩ := l_272 (f := f) (by omega) (by omega) tZ hwT.1 hnv hRZ hj hmZ.2.1 hmZ.1
            obtain ⟨b3, a1, a2⟩ := l_274 (f := f) (K := K) (by omega) (by omega) tZ hRZ hj z40 z41 zK
            have step : g275_79 (g275r f n) f (fu + 1) (i : Int) ((8 * r + i : Nat) : Int) (p : Int) (m : Int) (j : Int) Z = if b1 = 0 then g275_79 (g275r f n) f fu (i : Int) ((8 * r + i : Nat) : Int) (p : Int) (m : Int) ((j + 1 : Nat) : Int) Z else if b2 = 0 then g275_79 (g275r f n) f fu (i : Int) ((8 * r + i : Nat) : Int) (p : Int) (m : Int) ((j + 1 : Nat) : Int) Z else if b3 = 0 then g275_135 (g275r f n) (g275_79 (g275r f n) f fu) f f (i : Int) ((8 * r + i : Nat) : Int) (p : Int) (m : Int) (j : Int) 0 Z else g275_79 (g275r f n) f fu (i : Int) ((8 * r + i : Nat) : Int) (p : Int) (m : Int) ((j + 1 : Nat) : Int) Z := by
              have n43 : ¬ ¬ Z 0 43 = 0 := fun q => q c43
              show g275_79b (g275r f n) (g275_79 (g275r f n) f fu) f _ _ _ _ _ _ = _
              unfold g275_79b g275_241
              rw [if_pos (by omega), Int.toNat_natCast, hRZ.1, if_neg (by omega), if_neg n43, o1, Option.bind_some, ej]
              show (if b1 = 0 then _ else Option.bind (g272 f _ _ _ Z) _) = _
              rw [f1, Option.bind_some]
              show (if b1 = 0 then _ else (if b2 = 0 then _ else Option.bind (g274 f _ _ _ Z) _)) = _
              rw [a1, Option.bind_some]
            rw [step]
            have skip : (∀ v, vXt m (Z 110) v → ¬ sel j v) → ∃ G' V, g275_79 (g275r f n) f fu (i : Int) ((8 * r + i : Nat) : Int) (p : Int) (m : Int) ((j + 1 : Nat) : Int) Z = some G' ∧ xE G0 G' ∧ G' 0 37 = (m : Int) ∧ (∀ k, m.testBit k = true → G' 110 k = Z 110 k) ∧ P (W ++ V) G' ∧ V.length ≤ (d + 1) * qB3 rest ∧ V.Nodup ∧ (∀ v ∈ V, v.length = nv ∧ vXt m (Z 110) (vF v) ∧ sAR rest R (qOp K ra rb) (vF v) ∧ sNC l R (vF v) ∧ (∀ x ∈ v, vOk x) ∧ ∃ z, j ≤ z ∧ sel z (vF v)) ∧ (G' 0 43 = 0 → ∀ v : List Int, v.length = nv → vXt m (Z 110) (vF v) → sAR rest R (qOp K ra rb) (vF v) → sNC l R (vF v) → (∃ z, j ≤ z ∧ sel z (vF v)) → v ∈ V) := by
              intro hn
              have hdm : (d + 1) * qB3 rest = d * qB3 rest + qB3 rest := Nat.succ_mul _ _
              obtain ⟨G', V, u1, u2, u3, u4, u5, u6, u7, u8, u9⟩ := ihd (j + 1) fu Z W (by omega) (by omega) hZ hmZ hPZ (by omega)
              refine ⟨G', V, u1, u2, u3, u4, u5, by omega, u7, fun v hv => ?_, fun h v w1 w2 w3 w4 ⟨z, w5, w6⟩ => u9 h v w1 w2 w3 w4 ⟨z, ?_, w6⟩⟩
              · obtain ⟨w1, w2, w3, w4, w5, z, w6, w7⟩ := u8 v hv
                exact ⟨w1, w2, w3, w4, w5, z, by omega, w7⟩
              · by_cases cz : z = j
                · rw [cz] at w6; exact absurd w6 (hn _ w2)
                · omega
            rcases o2 with ⟨o2, o3⟩ | ⟨o2, o3⟩
            · rw [if_neg (by omega)]
              rcases f2 with ⟨f2, f3⟩ | ⟨f2, f3⟩
              · rw [if_neg (by omega)]
                rcases a2 with ⟨a2, a3⟩ | ⟨a2, a3⟩
                · rw [if_neg (by omega)]
                  exact skip (fun v _ hs => hs.2.2.2 a3)
                · rw [if_pos a2]
                  obtain ⟨G1, g1, g2, g3, g4, g5⟩ := l_275_135 (f := f) (q := g275r f n) (r79 := g275_79 (g275r f n) f fu) (m := m) (z := i) (j := j) (xs := ((R p).getD j dRw).1) (by omega : p < 16) (by omega) (by omega : 8 * r + i < 200) (by omega) hwT.1 hnv tZ.2.2.1 (hrow j) y.2.2.2.1.length 0 f m Z (by omega) (by have := tZ.2.2.1; omega) tZ (hRZ.2.2 j hj).2.1 hmZ f3
                  have g1' : g275_135 (g275r f n) (g275_79 (g275r f n) f fu) f f (i : Int) ((8 * r + i : Nat) : Int) (p : Int) (m : Int) (j : Int) 0 Z = _ := g1
                  rw [List.drop_zero] at g2
                  have xE1 : xE G0 G1 := fun o b y1 y2 => by rw [g5 o b (by omega) (by omega)]; exact hZ o b y1 y2
                  have ext1 : ∀ v, vXt (m ||| qT y.2.2.2.1) (G1 110) v → vXt m (Z 110) v ∧ sTs v y.2.2.2.1 ((R p).getD j dRw).1 := fun v hv => by
                    refine ⟨fun k hk => ?_, fun k hk => ⟨fun ck => ?_, fun ck => (f3 k hk).1 ck⟩⟩
                    · rw [hv k (by rw [Nat.testBit_or, hk, Bool.true_or])]
                      exact g4 k hk
                    · rw [hv _ (by rw [Nat.testBit_or, qT_get.mpr ⟨k, hk, ck, rfl⟩, Bool.or_true])]
                      exact g3 k (Nat.zero_le _) hk ck
                  have ext2 : ∀ v, vXt m (Z 110) v → sTs v y.2.2.2.1 ((R p).getD j dRw).1 → vXt (m ||| qT y.2.2.2.1) (G1 110) v := fun v hv hs k hk => by
                    rw [Nat.testBit_or, Bool.or_eq_true] at hk
                    rcases hk with hk | hk
                    · rw [g4 k hk]; exact hv k hk
                    · obtain ⟨j', w1, w2, w3⟩ := qT_get.mp hk
                      rw [← w3, g3 j' (Nat.zero_le _) w1 w2]
                      exact (hs j' w1).1 w2
                  have hdm : (d + 1) * qB3 rest = d * qB3 rest + qB3 rest := Nat.succ_mul _ _
                  obtain ⟨G2, V1, u1, u2, u3, u4, u5, u6, u7, u8, u9⟩ := ih (i + 1) n (m ||| qT y.2.2.2.1) G1 W hy.2 (by omega) (by omega) xE1 g2 (fun k hk => by
                    rw [qAs, if_pos c1, Nat.testBit_or, Bool.or_eq_true] at hk
                    rw [Nat.testBit_or, Bool.or_eq_true]
                    exact hk.imp (hA k) id) (hP W Z G1 hPZ (fun o b y1 y2 _ => g5 o b (by omega) y2)) (by rw [g5 _ _ (by omega) (by omega)]; exact c43) (by omega)
                  have m110 : ∀ k, m.testBit k = true → xup2 G2 0 37 (m : Int) 110 k = Z 110 k := fun k hk => by
                    rw [xup2_n (by omega), u4 k (by rw [Nat.testBit_or, hk, Bool.true_or])]
                    exact g4 k hk
                  obtain ⟨G3, V2, t1, t2, t3, t4, t5, t6, t7, t8, t9⟩ := ihd (j + 1) fu (xup2 G2 0 37 (m : Int)) (W ++ V1) (by omega) (by omega) (fun o b y1 y2 => by rw [xup2_n (by omega)]; exact u2 o b y1 y2) ⟨xup2_s _ _ _ _, hmZ.2.1, fun k hk => by rw [m110 k hk]; exact hmZ.2.2 k hk⟩ (hP _ G2 _ u5 (fun o b y1 y2 y3 => xup2_n (by omega))) (by rw [List.length_append]; omega)
                  have xm : ∀ v, vXt m (xup2 G2 0 37 (m : Int) 110) v ↔ vXt m (Z 110) v := fun v => ⟨fun q k hk => by rw [q k hk]; exact m110 k hk, fun q k hk => by rw [q k hk]; exact (m110 k hk).symm⟩
                  refine ⟨G3, V1 ++ V2, ?_, t2, t3, fun k hk => by rw [t4 k hk]; exact m110 k hk, by rw [← List.append_assoc]; exact t5, by rw [List.length_append]; omega, ?_, fun v hv => ?_, fun h v w1 w2 w3 w4 ⟨z, w5, w6⟩ => ?_⟩
                  · rw [g1', u1, Option.bind_some]
                    exact t1
                  · rw [List.nodup_append]
                    refine ⟨u7, t7, fun a ha b hb hab => ?_⟩
                    rw [← hab] at hb
                    obtain ⟨_, w2, _, _, _⟩ := u8 a ha
                    obtain ⟨_, _, _, _, _, z, w6, w7⟩ := t8 a hb
                    exact w7.2.2.2 ⟨j, by omega, o3, sTs_al w7.2.2.1 (ext1 _ w2).2 hTk⟩
                  · rcases List.mem_append.mp hv with hv | hv
                    · obtain ⟨w1, w2, w3, w4, w5⟩ := u8 v hv
                      obtain ⟨w6, w7⟩ := ext1 _ w2
                      exact ⟨w1, w6, w3, w4, w5, j, Nat.le_refl _, hj, o3, w7, a3⟩
                    · obtain ⟨w1, w2, w3, w4, w5, z, w6, w7⟩ := t8 v hv
                      exact ⟨w1, (xm _).mp w2, w3, w4, w5, z, by omega, w7⟩
                  · rw [List.mem_append]
                    by_cases c2 : xup2 G2 0 37 (m : Int) 0 43 = 0
                    · by_cases cz : z = j
                      · rw [cz] at w6
                        exact .inl (u9 (by rw [xup2_n (by omega)] at c2; exact c2) v w1 (ext2 _ w2 w6.2.2.1) w3 w4)
                      · exact .inr (t9 h v w1 ((xm _).mpr w2) w3 w4 ⟨z, by omega, w6⟩)
                    · exfalso
                      have same : G3 = xup2 G2 0 37 (m : Int) := by
                        obtain ⟨fu, rfl⟩ : ∃ t, fu = t + 1 := ⟨fu - 1, by omega⟩
                        have hRR : xup2 G2 0 37 (m : Int) 108 p = ((R p).length : Int) := by
                          rw [xup2_n (by omega), u2 _ _ (by omega) (by omega)]
                          exact (hT p (by omega)).1.1
                        have e9 : g275_79b (g275r f n) (g275_79 (g275r f n) f fu) f (i : Int) ((8 * r + i : Nat) : Int) (p : Int) (m : Int) ((j + 1 : Nat) : Int) (xup2 G2 0 37 (m : Int)) = some G3 := t1
                        unfold g275_79b g275_247 at e9
                        rw [if_pos (by omega), Int.toNat_natCast, hRR] at e9
                        by_cases c5 : ((R p).length : Int) ≤ ((j + 1 : Nat) : Int)
                        · rw [if_pos c5] at e9
                          injection e9 with e9
                          exact e9.symm
                        · rw [if_neg c5, if_pos c2] at e9
                          injection e9 with e9
                          exact e9.symm
                      rw [same] at h
                      exact c2 h
              · rw [if_pos f2]
                exact skip (fun v hv hs => f3 (sTs_fit (nv := nv) hv hs.2.2.1))
            · rw [if_pos o2]
              exact skip (fun v _ hs => o3 hs.2.1)
          · refine ⟨Z, [], ?_, hZ, hmZ.1, fun _ _ => rfl, by rw [List.append_nil]; exact hPZ, Nat.zero_le _, List.nodup_nil, fun v hv => absurd hv (by simp), fun h => absurd h c43⟩
            show g275_79b (g275r f n) (g275_79 (g275r f n) f fu) f _ _ _ _ _ _ = _
            unfold g275_79b g275_247
            rw [if_pos (by omega), Int.toNat_natCast, hRZ.1, if_neg (by omega), if_pos c43]
      rw [hB] at hW
      have hmul : (R p).length * qB3 rest ≤ 100 * qB3 rest := Nat.mul_le_mul_right _ hR1
      obtain ⟨G', V, u1, u2, u3, u4, u5, u6, u7, u8, u9⟩ := loop (R p).length 0 f G W (by omega) (by omega) hE hm hPW (by omega)
      have t1' : G0 28 (8 * r + i) = (p : Int) := by rw [t1]; exact hp
      refine ⟨G', V, ?_, u2, u3, u4, u5, by rw [hB]; omega, u7, fun v hv => ?_, fun h v w1 w2 w3 w4 => ?_⟩
      · rw [e1, if_pos c1, v28, t1', hm.1]
        exact u1
      · obtain ⟨w1, w2, w3, w4, w5, z, w6, w7⟩ := u8 v hv
        refine ⟨w1, w2, fun y' hy' c' => ?_, w4, w5⟩
        rcases List.mem_cons.mp hy' with e | e
        · rw [e, hpp]
          exact ⟨(R p).getD z dRw, by rw [getD_e w7.1]; exact List.getElem_mem w7.1, w7.2.1, w7.2.2.1⟩
        · exact w3 y' e c'
      · obtain ⟨w, k1, k2, k3⟩ := w3 y List.mem_cons_self c1
        rw [hpp] at k1 k2
        obtain ⟨z0, hz0, rfl⟩ := List.getElem_of_mem k1
        obtain ⟨z, z1, z2, z3⟩ := least_i (Q := fun z => z < (R p).length ∧ qOp K ra rb p ((R p).getD z dRw) ∧ sTs (vF v) y.2.2.2.1 ((R p).getD z dRw).1) z0 ⟨hz0, by rw [getD_e hz0]; exact k2, by rw [getD_e hz0]; exact k3⟩
        refine u9 h v w1 w2 (fun y' hy' => w3 y' (List.mem_cons_of_mem _ hy')) w4 ⟨z, Nat.zero_le _, z2.1, z2.2.1, z2.2.2, ?_⟩
        rintro ⟨j, q1, q2, q3⟩
        exact z3 j q1 ⟨by have := z2.1; omega, q2, aLk_s z2.2.2 q3⟩
    · have hB : qB3 (y :: rest) = qB3 rest := by
        show (if y.1 = 1 then 100 * qB3 rest else qB3 rest) = _
        rw [if_neg c1]
      rw [hB] at hW ⊢
      obtain ⟨G', V, u1, u2, u3, u4, u5, u6, u7, u8, u9⟩ := ih (i + 1) n m G W hy.2 (by omega) (by omega) hE hm (fun k hk => hA k (by rw [qAs, if_neg c1, Nat.or_zero] at hk; exact hk)) hPW h43 hW
      refine ⟨G', V, by rw [e1, if_neg c1]; exact u1, u2, u3, u4, u5, u6, u7, fun v hv => ?_, fun h v w1 w2 w3 w4 => u9 h v w1 w2 (fun y' hy' => w3 y' (List.mem_cons_of_mem _ hy')) w4⟩
      obtain ⟨w1, w2, w3, w4⟩ := u8 v hv
      refine ⟨w1, w2, fun y' hy' c' => ?_, w4⟩
      rcases List.mem_cons.mp hy' with e | e
      · rw [e] at c'; exact absurd c' c1
      · exact w3 y' e c'
end
end
section
/-! WAYS of the reference: from the first LITERAL on; the row that a WAY makes -/
theorem qB3_at : ∀ (l : List pLt), qB3 l = 100 ^ pAtoms l
  | [] => rfl
  | y :: l => by
    show (if y.1 = 1 then 100 * qB3 l else qB3 l) = _
    unfold pAtoms
    by_cases c : y.1 = 1
    · rw [if_pos c, List.filter_cons_of_pos (by simp [c]), List.length_cons, qB3_at l]
      unfold pAtoms
      rw [Nat.pow_succ, Nat.mul_comm]
    · rw [if_neg c, List.filter_cons_of_neg (by simp [c]), qB3_at l]
      rfl
section
variable {f nv np r c : Nat} {l : List pLt} {N : Nat → Nat} {R : Nat → List pRw} {K : Nat → Nat} {ra rb : Int} {G : xG_} {P : List (List Int) → xG_ → Prop}
theorem l_275 (hf : 6300 < f) (hr : r < 25) (hnv : nv ≤ 8) (hnp : np ≤ 16) (hc : c ≤ 6200) (hat : pAtoms l ≤ 3) (hw : ∀ y ∈ l, wLt np nv y ∧ (y.1 ≠ 3 → 0 ≤ y.2.1)) (hsafe : ∀ k, k < nv → (qBd l).testBit k = true)
    (hL : rLs G 2 r c l) (h39 : G 0 39 = (r : Int)) (h40 : G 0 40 = ra) (h41 : ra ≠ -1 → G 0 41 = rb) (hK : ra ≠ -1 → ∀ p, p < np → G 7 p = (K p : Int)) (hT : rTb G np N R) (hR : ∀ p, p < np → (R p).length ≤ 100 ∧ ∀ w ∈ R p, ∀ x ∈ w.1, vOk x)
    (hP : ∀ W G G', P W G → (∀ o j, ¬ (o = 0 ∧ (j = 37 ∨ j = 42)) → o ≠ 110 → o ≠ 111 → G' o j = G o j) → P W G')
    (hU : ∀ W G1 m, P W G1 → G1 0 43 = 0 → xE G G1 → rBn G1 m nv → (∀ k, k < nv → m.testBit k = true) → sNC l R (G1 110) → W.length < 1000000 → ∃ G', g283 f G1 = some G' ∧ P (W ++ [vOf G1 nv]) G' ∧ xUs G1 G')
    (h37 : G 0 37 = 0) (h43 : G 0 43 = 0) (hP0 : P [] G) :
    ∃ G' V, g275 f 0 G = some G' ∧ xE G G' ∧ G' 0 37 = 0 ∧ P V G' ∧ V.length ≤ 1000000 ∧ V.Nodup ∧ (∀ v ∈ V, isW l nv R (qOp K ra rb) v ∧ ∀ x ∈ v, vOk x) ∧ (G' 0 43 = 0 → ∀ v, isW l nv R (qOp K ra rb) v → v ∈ V) := by
  have hB : qB3 l ≤ 1000000 := by
    rw [qB3_at]
    exact Nat.le_trans (Nat.pow_le_pow_right (by decide) hat) (by decide)
  have hop : ∀ p w, qOp K ra (G 0 41) p w ↔ qOp K ra rb p w := fun p w => by
    unfold qOp
    by_cases c : ra = -1
    · exact ⟨fun _ => .inl c, fun _ => .inl c⟩
    · rw [h41 c]
  have hwa : ∀ v, isW l nv R (qOp K ra (G 0 41)) v ↔ isW l nv R (qOp K ra rb) v := fun v => by
    have e : qOp K ra (G 0 41) = qOp K ra rb := funext (fun p => funext (fun w => propext (hop p w)))
    rw [e]
  obtain ⟨G', V, u1, u2, u3, u4, u5, u6, u7, u8, u9⟩ := l_275r (f := f) (G0 := G) (P := P) hf hr hnv hnp hc hw hsafe hL h39 h40 rfl hK hT hR hP hU l 0 12 0 G [] rfl (Nat.zero_le _) (by have := hL.2.1; omega) (fun _ _ _ _ => rfl) ⟨h37, by decide, fun k hk => by rw [Nat.zero_testBit] at hk; cases hk⟩ (fun k hk => by rw [List.take_zero] at hk; exact hk) hP0 h43 (by show 0 + qB3 l ≤ 1000000; omega)
  refine ⟨G', V, u1, u2, u3, u5, by omega, u7, fun v hv => ?_, fun h v hv => ?_⟩
  · obtain ⟨w1, w2, w3, w4, w5⟩ := u8 v hv
    exact ⟨(hwa v).mp ⟨w1, w3, w4⟩, w5⟩
  · obtain ⟨w1, w2, w3⟩ := (hwa v).mpr hv
    exact u9 h v w1 (fun k hk => by rw [Nat.zero_testBit] at hk; cases hk) w2 w3
end
/-- the ITEMS of a HEAD over values; 0 for what is gathered -/
def qMk (I : List pCd) (g : Int) (v : Nat → Int) : Nat → Option (List Int)
  | 0 => some []
  | k + 1 => (qMk I g v k).bind fun xs => if (k : Int) = g then some (xs ++ [0]) else (qEv v (I.getD k [])).bind fun z => some (xs ++ [z])
theorem qMk_len {I : List pCd} {g : Int} {v : Nat → Int} : ∀ (k : Nat) (xs : List Int), qMk I g v k = some xs → xs.length = k
  | 0, xs, h => by
    have : some [] = some xs := h
    injection this with this
    rw [← this]
    rfl
  | k + 1, xs, h => by
    have h' : ((qMk I g v k).bind fun xs => if (k : Int) = g then some (xs ++ [0]) else (qEv v (I.getD k [])).bind fun z => some (xs ++ [z])) = some xs := h
    cases hk : qMk I g v k with
    | none => rw [hk] at h'; cases h'
    | some ys =>
      rw [hk, Option.bind_some] at h'
      have := qMk_len k ys hk
      by_cases c : (k : Int) = g
      · rw [if_pos c] at h'
        injection h' with h'
        rw [← h', List.length_append, this]
        rfl
      · rw [if_neg c] at h'
        cases he : qEv v (I.getD k []) with
        | none => rw [he] at h'; cases h'
        | some z =>
          rw [he, Option.bind_some] at h'
          injection h' with h'
          rw [← h', List.length_append, this]
          rfl
/-- ITEMS of the rule r -/
def rHd (G : xG_) (r c : Nat) (I : List pCd) (g : Int) : Prop := G 17 r = (I.length : Int) ∧ I.length ≤ 4 ∧ G 19 r = g ∧ ∀ k, k < I.length → rIc G 2 (4 * r + k) c (I.getD k [])
theorem rHd.v {G G' : xG_} {r c : Nat} {I : List pCd} {g : Int} (h : rHd G r c I g) (hf : ∀ a j, 2 ≤ a → a ≤ 36 → G' a j = G a j) : rHd G' r c I g := by
  obtain ⟨a1, a2, a3, a4⟩ := h
  refine ⟨by rw [hf _ _ (by omega) (by omega)]; exact a1, a2, by rw [hf _ _ (by omega) (by omega)]; exact a3, fun k hk => ?_⟩
  obtain ⟨a, b1, b2, b3, b4⟩ := a4 k hk
  exact ⟨a, by rw [hf _ _ (by omega) (by omega)]; exact b1, by rw [hf _ _ (by omega) (by omega)]; exact b2, b3, fun j hj => by rw [hf _ _ (by omega) (by omega), hf _ _ (by omega) (by omega)]; exact b4 j hj⟩
section
variable {f nv r c m : Nat} {I : List pCd} {g : Int}
/-- makesRow -/
theorem l_282 {G : xG_} (hf : 6300 < f) (hr : r < 25) (hnv : nv ≤ 8) (hc : c ≤ 6200) (hI : rHd G r c I g) (hw : ∀ k, k < I.length → (k : Int) ≠ g → wEx nv (I.getD k [])) (h39 : G 0 39 = (r : Int)) (hm : rBn G m nv) (hfull : ∀ k, k < nv → m.testBit k = true) :
    ∃ G' b, g282 f G = some (b, G') ∧ (∀ o j, ¬ (o = 0 ∧ j = 42) → o ≠ 111 → o ≠ 112 → G' o j = G o j) ∧ ((∃ xs, b = 1 ∧ qMk I g (G 110) I.length = some xs ∧ (∀ k, k < I.length → (k : Int) ≠ g → G' 112 k = xs.getD k 0) ∧ ∀ k, k < I.length → vOk (xs.getD k 0)) ∨ b = 0 ∧ qMk I g (G 110) I.length = none) := by
  have hI4 := hI.2.1
  have none_up : ∀ (d k : Nat), qMk I g (G 110) k = none → qMk I g (G 110) (k + d) = none := by
    intro d
    induction d with
    | zero => exact fun k h => h
    | succ d ih =>
      intro k h
      show ((qMk I g (G 110) (k + d)).bind _) = none
      rw [ih k h]
      rfl
  have loop : ∀ (d k fu : Nat) (Z : xG_) (xs : List Int), k + d = I.length → d < fu → (∀ o j, ¬ (o = 0 ∧ j = 42) → o ≠ 111 → o ≠ 112 → Z o j = G o j) → qMk I g (G 110) k = some xs → (∀ j, j < k → (j : Int) ≠ g → Z 112 j = xs.getD j 0) → (∀ j, vOk (xs.getD j 0)) →
      ∃ G' b, g282_2 f fu (k : Int) Z = some (b, G') ∧ (∀ o j, ¬ (o = 0 ∧ j = 42) → o ≠ 111 → o ≠ 112 → G' o j = G o j) ∧ ((∃ xs, b = 1 ∧ qMk I g (G 110) I.length = some xs ∧ (∀ k, k < I.length → (k : Int) ≠ g → G' 112 k = xs.getD k 0) ∧ ∀ k, k < I.length → vOk (xs.getD k 0)) ∨ b = 0 ∧ qMk I g (G 110) I.length = none) := by
    intro d
    induction d with
    | zero =>
      intro k fu Z xs h1 h2 hZ hk h112 hvo
      obtain ⟨fu, rfl⟩ : ∃ t, fu = t + 1 := ⟨fu - 1, by omega⟩
      have hIz := hI.v (G' := Z) (fun a j _ _ => hZ _ _ (by omega) (by omega) (by omega))
      have z39 : Z 0 39 = (r : Int) := by rw [hZ _ _ (by omega) (by omega) (by omega)]; exact h39
      have ek : k = I.length := by omega
      refine ⟨Z, 1, ?_, hZ, .inl ⟨xs, rfl, by rw [← ek]; exact hk, fun j hj hg => h112 j (by omega) hg, fun j _ => hvo j⟩⟩
      show g282_2b (g282_2 f fu) f _ _ = _
      unfold g282_2b
      rw [z39, if_pos (by omega), Int.toNat_natCast]
      show (if Z 17 r ≤ (k : Int) then _ else _) = _
      rw [hIz.1, if_pos (by omega)]
    | succ d ih =>
      intro k fu Z xs h1 h2 hZ hk h112 hvo
      obtain ⟨fu, rfl⟩ : ∃ t, fu = t + 1 := ⟨fu - 1, by omega⟩
      obtain ⟨i1, i2, i3, i4⟩ := hI.v (G' := Z) (fun a j _ _ => hZ _ _ (by omega) (by omega) (by omega))
      have z39 : Z 0 39 = (r : Int) := by rw [hZ _ _ (by omega) (by omega) (by omega)]; exact h39
      have hkI : k < I.length := by omega
      obtain ⟨a, b1, b2, b3, b4⟩ := i4 k hkI
      have b1' : Z 23 (4 * r + k) = (a : Int) := b1
      have b2' : Z 24 (4 * r + k) = ((a + (I.getD k []).length : Nat) : Int) := b2
      have ex : xwr (xwr ((r : Int) * 4) + (k : Int)) = ((4 * r + k : Nat) : Int) := by
        rw [xwr_g ((r : Int) * 4) (by omega) (by omega), xwr_g _ (by omega) (by omega)]; omega
      have ek : xwr ((k : Int) + 1) = ((k + 1 : Nat) : Int) := by rw [xwr_g _ (by omega) (by omega)]; omega
      have hxl := qMk_len k xs hk
      have hrr : 0 ≤ (r : Int) ∧ (r : Int) < 25 := by omega
      have h100 : 0 ≤ ((4 * r + k : Nat) : Int) ∧ ((4 * r + k : Nat) : Int) < 100 := by omega
      have hkk : 0 ≤ (k : Int) ∧ (k : Int) < 4 := by omega
      have hnext : qMk I g (G 110) (k + 1) = if (k : Int) = g then some (xs ++ [0]) else (qEv (G 110) (I.getD k [])).bind fun z => some (xs ++ [z]) := by
        show ((qMk I g (G 110) k).bind _) = _
        rw [hk]
        rfl
      have hgetA : ∀ (z : Int) (j : Nat), (xs ++ [z]).getD j 0 = if j = k then z else xs.getD j 0 := fun z j => by rw [getD_1, hxl]
      by_cases cg : (k : Int) = g
      · have ng : ¬ ¬ (k : Int) = g := fun q => q cg
        rw [if_pos cg] at hnext
        have step : g282_2 f (fu + 1) (k : Int) Z = g282_2 f fu ((k + 1 : Nat) : Int) Z := by
          show g282_2b (g282_2 f fu) f _ _ = _
          unfold g282_2b g282_88
          rw [z39]
          simp only [Nat.reduceAdd, Int.toNat_natCast, if_pos hrr]
          rw [i1, if_neg (by omega), i3, if_neg ng, ek]
        rw [step]
        exact ih (k + 1) fu Z _ (by omega) (by omega) hZ hnext (fun j hj hjg => by
          rw [hgetA]
          by_cases cj : j = k
          · rw [cj] at hjg; exact absurd cg hjg
          · rw [if_neg cj]; exact h112 j (by omega) hjg) (fun j => by
          rw [hgetA]
          by_cases cj : j = k
          · rw [if_pos cj]; exact vOk_0
          · rw [if_neg cj]; exact hvo j)
      · rw [if_neg cg] at hnext
        have e110 : Z 110 = G 110 := funext (fun j => hZ _ _ (by omega) (by omega) (by omega))
        have hwk := hw k hkI cg
        obtain ⟨Z1, w, k1, k2, k3⟩ := l_266 (f := f) (v := G 110) (G := Z) hf hnv (by omega : a + (I.getD k []).length ≤ 6200) b4 hwk (fun j hj => by
          have := qVm_in hwk.1 j hj
          exact ⟨by omega, by rw [e110], (hm.2.2 j (hfull j this)).2⟩)
        have step : g282_2 f (fu + 1) (k : Int) Z = if Z1 0 42 = 0 then g282_2 f fu ((k + 1 : Nat) : Int) (xup2 Z1 112 k w) else some (0, xup2 Z1 112 k w) := by
          have e42 : xup2 Z1 112 k w 0 42 = Z1 0 42 := xup2_n (by omega)
          show g282_2b (g282_2 f fu) f _ _ = _
          unfold g282_2b g282_88
          rw [z39]
          simp only [Nat.reduceAdd, Int.toNat_natCast, if_pos hrr]
          rw [i1, if_neg (by omega), i3, if_pos cg]
          simp only [ex, if_pos h100, Int.toNat_natCast]
          rw [b1', b2', k1, Option.bind_some]
          simp only [if_pos hkk, Option.bind_some]
          rw [e42, ek]
        have hZ1 : ∀ o j, ¬ (o = 0 ∧ j = 42) → o ≠ 111 → o ≠ 112 → xup2 Z1 112 k w o j = G o j := fun o j y1 y2 y3 => by rw [xup2_n (fun q => y3 q.1), k2 o j y1 y2, hZ o j y1 y2 y3]
        rw [step]
        rcases k3 with ⟨k4, k5, k6⟩ | ⟨k4, k5, k6⟩
        · rw [if_pos k6]
          rw [k4, Option.bind_some] at hnext
          exact ih (k + 1) fu _ _ (by omega) (by omega) hZ1 hnext (fun j hj hjg => by
            rw [hgetA]
            by_cases cj : j = k
            · rw [if_pos cj, cj, xup2_s]
            · rw [if_neg cj, xup2_n (by omega), k2 _ _ (by omega) (by omega)]; exact h112 j (by omega) hjg) (fun j => by
            rw [hgetA]
            by_cases cj : j = k
            · rw [if_pos cj]; exact k5
            · rw [if_neg cj]; exact hvo j)
        · rw [if_neg (by omega)]
          rw [k4] at hnext
          refine ⟨_, 0, rfl, hZ1, .inr ⟨rfl, ?_⟩⟩
          have := none_up d (k + 1) hnext
          rw [show k + 1 + d = I.length by omega] at this
          exact this
  unfold g282
  exact loop I.length 0 f G [] (by omega) (by omega) (fun _ _ _ _ _ => rfl) rfl (fun j hj => absurd hj (by omega)) (fun j => by rw [show ([] : List Int).getD j 0 = 0 from by simp]; exact vOk_0)
end
end
section
/-! Rows that a level gives: one more -/
abbrev pFw : Type := Nat × List Int
abbrev dFw : pFw := (0, [])
def fCt (F : List pFw) (p : Nat) : Nat := F.countP (fun y => decide (y.1 = p))
theorem fCt_len : ∀ (np : Nat) (F : List pFw), (∀ y ∈ F, y.1 < np) → (∀ p, p < np → fCt F p ≤ 100) → F.length ≤ 100 * np
  | 0, F, h, _ => by
    cases F with
    | nil => exact Nat.le_refl _
    | cons y F => exact absurd (h y List.mem_cons_self) (by omega)
  | np + 1, F, h, hc => by
    have e := List.length_eq_countP_add_countP (l := F) (fun y : pFw => decide (y.1 = np))
    have h1 : F.countP (fun y : pFw => decide (y.1 = np)) ≤ 100 := hc np (by omega)
    have h2 : F.countP (fun y : pFw => decide (¬ decide (y.1 = np) = true)) = (F.filter (fun y : pFw => decide (¬ decide (y.1 = np) = true))).length := List.countP_eq_length_filter
    have h3 := fCt_len np (F.filter (fun y : pFw => decide (¬ decide (y.1 = np) = true))) (fun y hy => by
      obtain ⟨y1, y2⟩ := List.mem_filter.mp hy
      have := h y y1
      have y3 : ¬ y.1 = np := fun q => by simp [q] at y2
      omega) (fun p hp => by
      refine Nat.le_trans ?_ (hc p (by omega))
      unfold fCt
      exact List.Sublist.countP_le (List.filter_sublist ..))
    omega
/-- the new rows F of a level, over rows R -/
def rFr (G : xG_) (np : Nat) (N : Nat → Nat) (R : Nat → List pRw) (F : List pFw) : Prop := G 0 47 = (F.length : Int) ∧ (∀ i, i < F.length → (F.getD i dFw).1 < np ∧ G 113 i = ((F.getD i dFw).1 : Int) ∧ (F.getD i dFw).2.length = N (F.getD i dFw).1 ∧ ∀ j, j < (F.getD i dFw).2.length → G 114 (4 * i + j) = (F.getD i dFw).2.getD j 0) ∧ ∀ p, p < np → G 115 p = (fCt F p : Int) ∧ (R p).length + fCt F p ≤ 100
theorem rFr.len {G : xG_} {np : Nat} {N : Nat → Nat} {R : Nat → List pRw} {F : List pFw} (h : rFr G np N R F) : F.length ≤ 100 * np := fCt_len np F (fun y hy => by
  obtain ⟨i, hi, rfl⟩ := List.getElem_of_mem hy
  have := (h.2.1 i hi).1
  rw [getD_e hi] at this
  exact this) (fun p hp => by have := (h.2.2 p hp).2; omega)
theorem rFr.ge {G G' : xG_} {np : Nat} {N : Nat → Nat} {R : Nat → List pRw} {F : List pFw} (h : rFr G np N R F) (h0 : G' 0 47 = G 0 47) (hf : ∀ a j, 113 ≤ a → a ≤ 115 → G' a j = G a j) : rFr G' np N R F := by
  obtain ⟨a1, a2, a3⟩ := h
  refine ⟨by rw [h0]; exact a1, fun i hi => ?_, fun p hp => by rw [hf _ _ (by omega) (by omega)]; exact a3 p hp⟩
  obtain ⟨b1, b2, b3, b4⟩ := a2 i hi
  exact ⟨b1, by rw [hf _ _ (by omega) (by omega)]; exact b2, b3, fun j hj => by rw [hf _ _ (by omega) (by omega)]; exact b4 j hj⟩
theorem xl112 : ((xl_t 112).2.2 : Int) = 4 := by decide +kernel
theorem xl114 : ((xl_t 114).2.2 : Int) = 13600 := by decide +kernel
section
variable {f np p : Nat} {N : Nat → Nat} {R : Nat → List pRw} {F : List pFw} {xs : List Int} {G : xG_}
theorem l_284_115 {L : Nat} (hL : L < 3400) : ∀ (d k fu : Nat) (G : xG_), k + d = 4 → d < fu → G 0 47 = (L : Int) → ∃ G', g284_115 f fu (k : Int) G = some G' ∧ G' 0 47 = ((L + 1 : Nat) : Int) ∧ (∀ j, k ≤ j → j < 4 → G' 114 (4 * L + j) = G 112 j) ∧ ∀ o j, ¬ (o = 0 ∧ j = 47) → ¬ (o = 114 ∧ 4 * L + k ≤ j ∧ j < 4 * L + 4) → G' o j = G o j := by
  intro d
  induction d with
  | zero =>
    intro k fu G h1 h2 h3
    obtain ⟨fu, rfl⟩ : ∃ t, fu = t + 1 := ⟨fu - 1, by omega⟩
    have e : xwr ((L : Int) + 1) = ((L + 1 : Nat) : Int) := by rw [xwr_g _ (by omega) (by omega)]; omega
    refine ⟨xup2 G 0 47 ((L + 1 : Nat) : Int), ?_, xup2_s _ _ _ _, fun j _ _ => by omega, fun o j y1 _ => xup2_n y1⟩
    show g284_115b (g284_115 f fu) f _ _ = _
    unfold g284_115b
    rw [if_pos (by omega), h3, e]
    rfl
  | succ d ih =>
    intro k fu G h1 h2 h3
    obtain ⟨fu, rfl⟩ : ∃ t, fu = t + 1 := ⟨fu - 1, by omega⟩
    have e1 : xwr (xwr (4 * (L : Int)) + (k : Int)) = ((4 * L + k : Nat) : Int) := by
      rw [xwr_g (4 * (L : Int)) (by omega) (by omega), xwr_g _ (by omega) (by omega)]; omega
    have e2 : xwr ((k : Int) + 1) = ((k + 1 : Nat) : Int) := by rw [xwr_g _ (by omega) (by omega)]; omega
    obtain ⟨G', k1, k2, k3, k4⟩ := ih (k + 1) fu (xup2 G 114 (4 * L + k) (G 112 k)) (by omega) (by omega) (by rw [xup2_n (by omega)]; exact h3)
    refine ⟨G', ?_, k2, fun j y1 y2 => ?_, fun o j y1 y2 => by rw [k4 o j y1 (by omega), xup2_n (by omega)]⟩
    · show g284_115b (g284_115 f fu) f _ _ = _
      unfold g284_115b
      rw [if_neg (by omega), if_pos (by omega), h3, e1, if_pos (by omega), Int.toNat_natCast, Int.toNat_natCast, Option.bind_some, e2]
      exact k1
    · by_cases cj : j = k
      · rw [cj, k4 _ _ (by omega) (by omega), xup2_s]
      · rw [k3 j (by omega) y2, xup2_n (by omega)]
/-- newRow -/
theorem l_284 (hf : 4000 < f) (hnp : np ≤ 16) (hp : p < np) (hT : rTb G np N R) (hN : G 4 p = (N p : Int)) (hF : rFr G np N R F) (hx : ∀ k, k < xs.length → G 112 k = xs.getD k 0) (hxn : xs.length = N p) :
    ∃ G', g284 f (p : Int) G = some G' ∧ (∀ o j, ¬ (o = 0 ∧ (j = 43 ∨ j = 47)) → ¬ (113 ≤ o ∧ o ≤ 115) → G' o j = G o j) ∧ ((((∃ y, y ∈ R p ∧ y.1 = xs) ∨ (p, xs) ∈ F) ∧ G' = G) ∨ ((∀ y, y ∈ R p → y.1 ≠ xs) ∧ (p, xs) ∉ F ∧ ((100 < (R p).length + fCt F p + 1 ∧ G' 0 43 = 1) ∨ (G' 0 43 = G 0 43 ∧ rFr G' np N R (F ++ [(p, xs)]))))) := by
  obtain ⟨hR, hN4⟩ := hT p hp
  have hFl := hF.len
  obtain ⟨f1, f2, f3⟩ := hF
  have hve : rVe G 112 0 xs := ⟨by rw [xl112]; omega, by omega, by omega, fun k hk => by rw [Nat.zero_add]; exact hx k hk⟩
  obtain ⟨q, e1, e2⟩ := l_263 (f := f) (by omega) (by omega : p < 16) hN4 hR hN hve hxn
  have e1' : g263 f (p : Int) 112 0 G = some (q, G) := e1
  rcases e2 with ⟨e2, e3⟩ | ⟨k, k1, k2, k3⟩
  · have loop : ∀ (d i fu : Nat), i + d = F.length → d < fu → (∀ j, j < i → F.getD j dFw ≠ (p, xs)) → ∃ G', g284_17 f fu (p : Int) (i : Int) G = some G' ∧ (∀ o j, ¬ (o = 0 ∧ (j = 43 ∨ j = 47)) → ¬ (113 ≤ o ∧ o ≤ 115) → G' o j = G o j) ∧ (((p, xs) ∈ F ∧ G' = G) ∨ ((p, xs) ∉ F ∧ ((100 < (R p).length + fCt F p + 1 ∧ G' 0 43 = 1) ∨ (G' 0 43 = G 0 43 ∧ rFr G' np N R (F ++ [(p, xs)]))))) := by
      intro d
      induction d with
      | zero =>
        intro i fu h1 h2 h3
        obtain ⟨fu, rfl⟩ : ∃ t, fu = t + 1 := ⟨fu - 1, by omega⟩
        have hnin : (p, xs) ∉ F := fun hm => by
          obtain ⟨j, hj, ej⟩ := List.getElem_of_mem hm
          have := h3 j (by omega)
          rw [getD_e hj] at this
          exact this ej
        obtain ⟨c1, c2⟩ := f3 p hp
        have ec : xwr ((fCt F p : Int) + 1) = ((fCt F p + 1 : Nat) : Int) := by rw [xwr_g _ (by omega) (by omega)]; omega
        have es : xwr (((R p).length : Int) + ((fCt F p + 1 : Nat) : Int)) = (((R p).length + (fCt F p + 1) : Nat) : Int) := by rw [xwr_g _ (by omega) (by omega)]; omega
        have hpp : 0 ≤ (p : Int) ∧ (p : Int) < 16 := by omega
        have step : g284_17 f (fu + 1) (p : Int) (i : Int) G = if (((R p).length + (fCt F p + 1) : Nat) : Int) ≤ 100 then g284_115 f f 0 (xup2 (xup2 G 115 p ((fCt F p + 1 : Nat) : Int)) 113 F.length (p : Int)) else some (xup2 (xup2 G 115 p ((fCt F p + 1 : Nat) : Int)) 0 43 1) := by
          show g284_17b (g284_17 f fu) f _ _ _ = _
          unfold g284_17b
          have t1 : xup2 G 115 p ((fCt F p + 1 : Nat) : Int) 108 p = ((R p).length : Int) := by rw [xup2_n (by omega)]; exact hR.1
          have t2 : xup2 G 115 p ((fCt F p + 1 : Nat) : Int) 0 47 = (F.length : Int) := by rw [xup2_n (by omega)]; exact f1
          have h34 : 0 ≤ (F.length : Int) ∧ (F.length : Int) < 3400 := by omega
          rw [f1, if_pos (by omega), if_pos hpp, if_pos hpp, Int.toNat_natCast, c1, ec, Option.bind_some, if_pos hpp, if_pos hpp, t1, xup2_s, es, t2, if_pos h34, Int.toNat_natCast, Option.bind_some, Option.bind_some]
        by_cases cl : (R p).length + (fCt F p + 1) ≤ 100
        · rw [if_pos (by omega)] at step
          obtain ⟨G', k1, k2, k3, k4⟩ := l_284_115 (f := f) (L := F.length) (by omega) 4 0 f (xup2 (xup2 G 115 p ((fCt F p + 1 : Nat) : Int)) 113 F.length (p : Int)) (by omega) (by omega) (by rw [xup2_n (by omega), xup2_n (by omega)]; exact f1)
          refine ⟨G', by rw [step]; exact k1, fun o j y1 y2 => by rw [k4 o j (by omega) (by omega), xup2_n (by omega), xup2_n (by omega)], .inr ⟨hnin, .inr ⟨by rw [k4 _ _ (by omega) (by omega), xup2_n (by omega), xup2_n (by omega)], by rw [k2, List.length_append]; rfl, fun j hj => ?_, fun p' hp' => ?_⟩⟩⟩
          · rw [List.length_append] at hj
            have hj' : j < F.length + 1 := hj
            by_cases cj : j = F.length
            · have e : (F ++ [(p, xs)]).getD j dFw = (p, xs) := by rw [getD_1, if_pos cj]
              rw [e, cj]
              exact ⟨hp, by rw [k4 _ _ (by omega) (by omega), xup2_s], hxn, fun z hz => by
                have hz' : z < xs.length := hz
                rw [k3 z (by omega) (by omega), xup2_n (by omega), xup2_n (by omega)]
                exact hx z hz'⟩
            · have e : (F ++ [(p, xs)]).getD j dFw = F.getD j dFw := by rw [getD_1, if_neg cj]
              rw [e]
              obtain ⟨z1, z2, z3, z4⟩ := f2 j (by omega)
              have z5 : N (F.getD j dFw).1 ≤ 4 := (hT _ z1).2
              exact ⟨z1, by rw [k4 _ _ (by omega) (by omega), xup2_n (by omega), xup2_n (by omega)]; exact z2, z3, fun z hz => by rw [k4 _ _ (by omega) (by omega), xup2_n (by omega), xup2_n (by omega)]; exact z4 z hz⟩
          · have ect : fCt (F ++ [(p, xs)]) p' = fCt F p' + if p = p' then 1 else 0 := by
              unfold fCt
              rw [List.countP_append]
              congr 1
              by_cases cp : p = p'
              · rw [if_pos cp, List.countP_cons_of_pos (by simp [cp])]; rfl
              · rw [if_neg cp, List.countP_cons_of_neg (by simp [cp])]; rfl
            rw [k4 _ _ (by omega) (by omega), xup2_n (by omega), ect]
            by_cases cp : p = p'
            · rw [if_pos cp, ← cp, xup2_s]
              exact ⟨rfl, cl⟩
            · rw [if_neg cp, xup2_n (by omega)]
              exact f3 p' hp'
        · rw [if_neg (by omega)] at step
          exact ⟨_, step, fun o j y1 y2 => by rw [xup2_n (by omega), xup2_n (by omega)], .inr ⟨hnin, .inl ⟨by omega, xup2_s _ _ _ _⟩⟩⟩
      | succ d ih =>
        intro i fu h1 h2 h3
        obtain ⟨fu, rfl⟩ : ∃ t, fu = t + 1 := ⟨fu - 1, by omega⟩
        obtain ⟨z1, z2, z3, z4⟩ := f2 i (by omega)
        have z5 : N (F.getD i dFw).1 ≤ 4 := (hT _ z1).2
        have e4 : xwr (4 * (i : Int)) = ((4 * i : Nat) : Int) := by rw [xwr_g _ (by omega) (by omega)]; omega
        have e5 : xwr ((i : Int) + 1) = ((i + 1 : Nat) : Int) := by rw [xwr_g _ (by omega) (by omega)]; omega
        have go : F.getD i dFw ≠ (p, xs) → g284_17 f (fu + 1) (p : Int) (i : Int) G = g284_17 f fu (p : Int) ((i + 1 : Nat) : Int) G → _ := fun hne he => by
          have := ih (i + 1) fu (by omega) (by omega) (fun j hj => by
            by_cases cj : j = i
            · rw [cj]; exact hne
            · exact h3 j (by omega))
          rw [← he] at this
          exact this
        by_cases c1 : (F.getD i dFw).1 = p
        · have n1 : ¬ ¬ (((F.getD i dFw).1 : Nat) : Int) = (p : Int) := fun q => q (by omega)
          have hvF : rVe G 114 (4 * i) (F.getD i dFw).2 := ⟨by rw [xl114, z3]; omega, by omega, by omega, z4⟩
          have hlen : (F.getD i dFw).2.length = N p := by rw [z3, c1]
          have step : g284_17 f (fu + 1) (p : Int) (i : Int) G = if ¬ vCmp (F.getD i dFw).2 xs = 0 then g284_17 f fu (p : Int) ((i + 1 : Nat) : Int) G else some G := by
            show g284_17b (g284_17 f fu) f _ _ _ = _
            unfold g284_17b g284_63
            rw [f1, if_neg (by omega), if_pos (by omega), Int.toNat_natCast, z2, if_neg n1, if_pos (by omega), e4, e5]
            show Option.bind (g262 f 114 _ 112 ((0 : Nat) : Int) (G 4 ((p : Int)).toNat) G) _ = _
            rw [Int.toNat_natCast, hN, l_262 (by omega) hvF hve hlen hxn, Option.bind_some]
          by_cases c2 : vCmp (F.getD i dFw).2 xs = 0
          · have n2 : ¬ ¬ vCmp (F.getD i dFw).2 xs = 0 := fun q => q c2
            rw [if_neg n2] at step
            refine ⟨G, step, fun _ _ _ _ => rfl, .inl ⟨?_, rfl⟩⟩
            have : F.getD i dFw = (p, xs) := Prod.ext c1 (vCmp_eq (show (F.getD i dFw).2.length = xs.length by omega) c2)
            rw [← this, getD_e (by omega : i < F.length)]
            exact List.getElem_mem _
          · rw [if_pos c2] at step
            exact go (fun q => c2 (by rw [q]; exact vCmp_self xs)) step
        · have n1 : ¬ (((F.getD i dFw).1 : Nat) : Int) = (p : Int) := by omega
          refine go (fun q => c1 (by rw [q])) ?_
          show g284_17b (g284_17 f fu) f _ _ _ = _
          unfold g284_17b g284_63
          rw [f1, if_neg (by omega), if_pos (by omega), Int.toNat_natCast, z2, if_pos n1, e5]
    obtain ⟨G', u1, u2, u3⟩ := loop F.length 0 f (by omega) (by omega) (fun j hj => absurd hj (by omega))
    refine ⟨G', ?_, u2, ?_⟩
    · unfold g284
      rw [e1', Option.bind_some, e2, if_pos rfl]
      exact u1
    · rcases u3 with ⟨u3, u4⟩ | ⟨u3, u4⟩
      · exact .inl ⟨.inr u3, u4⟩
      · exact .inr ⟨e3, u3, u4⟩
  · refine ⟨G, ?_, fun _ _ _ _ => rfl, .inl ⟨.inl ⟨(R p).getD k dRw, by rw [getD_e k1]; exact List.getElem_mem k1, k3⟩, rfl⟩⟩
    unfold g284
    rw [e1', Option.bind_some, k2]
    show (if (k : Int) = -1 then _ else _) = _
    rw [if_neg (by omega)]
end
end
section
/-! GATHERING of the reference: groups -/
/-- groups: key, what is gathered -/
def rGr (G : xG_) (n : Nat) (S : List pRw) : Prop := G 0 58 = (S.length : Int) ∧ S.length ≤ 1024 ∧ ∀ i, i < S.length → (S.getD i dRw).1.length = n ∧ (∀ j, j < 4 → G 119 (4 * i + j) = (S.getD i dRw).1.getD j 0) ∧ G 120 i = (S.getD i dRw).2
/-- two values gathered: 1 count, 2 sum, 3 least, 4 most -/
def qCo (k a b : Int) : Int := if k = 1 ∨ k = 2 then a + b else if k = 3 then (if b < a then b else a) else (if a < b then b else a)
def gRw (G : xG_) (i : Nat) (G' : xG_) (i' : Nat) : Prop := (∀ j, j < 4 → G' 119 (4 * i' + j) = G 119 (4 * i + j)) ∧ G' 120 i' = G 120 i
theorem gRw.tr {i j k : Nat} {G G1 G2 : xG_} (h1 : gRw G i G1 j) (h2 : gRw G1 j G2 k) : gRw G i G2 k := ⟨fun m hm => (h2.1 m hm).trans (h1.1 m hm), h2.2.trans h1.2⟩
theorem gRw.rf (i : Nat) (G : xG_) : gRw G i G i := ⟨fun _ _ => rfl, rfl⟩
theorem xl119 : ((xl_t 119).2.2 : Int) = 4100 := by decide +kernel
theorem xl120 : ((xl_t 120).2.2 : Int) = 1025 := by decide +kernel
theorem xl121 : ((xl_t 121).2.2 : Int) = 4 := by decide +kernel
section
variable {f n : Nat} {x : Int} {S : List pRw} {xs : List Int}
theorem l_287_264 {r254 : Int → Int → Int → Int → xG_ → Option xG_} {a b : Int} {k : Nat} (hk : k < 1024) : ∀ (d j fu : Nat) (G : xG_), j + d = 4 → d < fu → ∃ G', g287_264 r254 f fu x a b ((k + 1 : Nat) : Int) (j : Int) G = r254 x a b (k : Int) G' ∧ (∀ z, j ≤ z → z < 4 → G' 119 (4 * (k + 1) + z) = G 119 (4 * k + z)) ∧ G' 120 (k + 1) = G 120 k ∧ ∀ o z, ¬ (o = 119 ∧ 4 * (k + 1) + j ≤ z ∧ z < 4 * (k + 1) + 4) → ¬ (o = 120 ∧ z = k + 1) → G' o z = G o z := by
  have e1 : xwr (((k + 1 : Nat) : Int) - 1) = (k : Int) := by rw [xwr_g _ (by omega) (by omega)]; omega
  have e2 : xwr (((k + 1 : Nat) : Int) + -1) = (k : Int) := by rw [xwr_g _ (by omega) (by omega)]; omega
  intro d
  induction d with
  | zero =>
    intro j fu G h1 h2
    obtain ⟨fu, rfl⟩ : ∃ t, fu = t + 1 := ⟨fu - 1, by omega⟩
    refine ⟨xup2 G 120 (k + 1) (G 120 k), ?_, fun z _ _ => by omega, xup2_s _ _ _ _, fun o z _ h => xup2_n h⟩
    show g287_264b r254 (g287_264 r254 f fu) f _ _ _ _ _ _ = _
    unfold g287_264b
    rw [if_pos (by omega), e1, e2, if_pos (by omega), if_pos (by omega), Int.toNat_natCast, Int.toNat_natCast, Option.bind_some]
  | succ d ih =>
    intro j fu G h1 h2
    obtain ⟨fu, rfl⟩ : ∃ t, fu = t + 1 := ⟨fu - 1, by omega⟩
    obtain ⟨G', k1, k2, k3, k4⟩ := ih (j + 1) fu (xup2 G 119 (4 * (k + 1) + j) (G 119 (4 * k + j))) (by omega) (by omega)
    have e3 : xwr (xwr (4 * (k : Int)) + (j : Int)) = ((4 * k + j : Nat) : Int) := by
      rw [xwr_g (4 * (k : Int)) (by omega) (by omega), xwr_g _ (by omega) (by omega)]; omega
    have e4 : xwr (xwr (4 * ((k + 1 : Nat) : Int)) + (j : Int)) = ((4 * (k + 1) + j : Nat) : Int) := by
      rw [xwr_g (4 * ((k + 1 : Nat) : Int)) (by omega) (by omega), xwr_g _ (by omega) (by omega)]; omega
    have e5 : xwr ((j : Int) + 1) = ((j + 1 : Nat) : Int) := by rw [xwr_g _ (by omega) (by omega)]; omega
    refine ⟨G', ?_, fun z y1 y2 => ?_, by rw [k3, xup2_n (by omega)], fun o z y1 y2 => by rw [k4 o z (by omega) y2, xup2_n (by omega)]⟩
    · rw [← k1]
      show g287_264b r254 (g287_264 r254 f fu) f _ _ _ _ _ _ = _
      unfold g287_264b
      rw [if_neg (by omega), e1, e3, e4, if_pos (by omega), if_pos (by omega), Int.toNat_natCast, Int.toNat_natCast, Option.bind_some, e5]
    · by_cases cz : z = j
      · rw [cz, k4 _ _ (by omega) (by omega), xup2_s]
      · rw [k2 z (by omega) y2, xup2_n (by omega)]
theorem l_287_254 {a : Int} {i : Nat} (hf : 10 < f) : ∀ (d fu : Nat) (G : xG_), i + d ≤ 1024 → d < fu → ∃ G', g287_254 f fu x a (i : Int) ((i + d : Nat) : Int) G = g287_327 f f x a (i : Int) 0 G' ∧ (∀ j, i ≤ j → j < i + d → gRw G j G' (j + 1)) ∧ (∀ j, j < i ∨ i + d < j → gRw G j G' j) ∧ ∀ o z, o ≠ 119 → o ≠ 120 → G' o z = G o z := by
  intro d
  induction d with
  | zero =>
    intro fu G h1 h2
    obtain ⟨fu, rfl⟩ : ∃ t, fu = t + 1 := ⟨fu - 1, by omega⟩
    refine ⟨G, ?_, fun j _ _ => by omega, fun j _ => .rf _ _, fun _ _ _ _ => rfl⟩
    show g287_254b (g287_254 f fu) f _ _ _ _ _ = _
    unfold g287_254b
    rw [if_pos (by omega)]
  | succ d ih =>
    intro fu G h1 h2
    obtain ⟨fu, rfl⟩ : ∃ t, fu = t + 1 := ⟨fu - 1, by omega⟩
    obtain ⟨G1, q1, q2, q3, q4⟩ := l_287_264 (f := f) (x := x) (r254 := g287_254 f fu) (a := a) (b := (i : Int)) (k := i + d) (by omega) 4 0 f G (by omega) (by omega)
    have r2 : gRw G (i + d) G1 (i + d + 1) := ⟨fun j hj => q2 j (by omega) hj, q3⟩
    have r3 : ∀ j, j ≠ i + d + 1 → gRw G j G1 j := fun j hj => ⟨fun z hz => q4 _ _ (by omega) (by omega), q4 _ _ (by omega) (by omega)⟩
    obtain ⟨G', k1, k2, k3, k4⟩ := ih fu G1 (by omega) (by omega)
    refine ⟨G', ?_, fun j y1 y2 => ?_, fun j hj => (r3 j (by omega)).tr (k3 j (by omega)), fun o z y1 y2 => by rw [k4 o z y1 y2, q4 o z (by omega) (by omega)]⟩
    · rw [← k1]
      show g287_254b (g287_254 f fu) f _ _ _ _ _ = _
      unfold g287_254b
      rw [if_neg (by omega)]
      exact q1
    · by_cases cj : j = i + d
      · rw [cj]
        exact r2.tr (k3 _ (by omega))
      · exact (r3 j (by omega)).tr (k2 j y1 (by omega))
theorem l_287_327 {i L : Nat} (hi : i ≤ 1023) (hL : L ≤ 1024) (hn4 : n ≤ 4) : ∀ (d j fu : Nat) (G : xG_), j + d = 4 → d < fu → G 0 58 = (L : Int) → (∀ k, k < n → G 112 k = xs.getD k 0) → xs.length = n →
    ∃ G', g287_327 f fu x (n : Int) (i : Int) (j : Int) G = some G' ∧ (∀ z, j ≤ z → z < 4 → G' 119 (4 * i + z) = xs.getD z 0) ∧ G' 120 i = x ∧ G' 0 58 = (min (L + 1) 1024 : Nat) ∧ G' 0 60 = (if L = 1024 then 1 else G 0 60) ∧ ∀ o z, ¬ (o = 119 ∧ 4 * i + j ≤ z ∧ z < 4 * i + 4) → ¬ (o = 120 ∧ z = i) → ¬ (o = 0 ∧ (z = 58 ∨ z = 60)) → G' o z = G o z := by
  intro d
  induction d with
  | zero =>
    intro j fu G h1 h2 h58 hx hxl
    obtain ⟨fu, rfl⟩ : ∃ t, fu = t + 1 := ⟨fu - 1, by omega⟩
    have e1 : xwr ((L : Int) + 1) = ((L + 1 : Nat) : Int) := by rw [xwr_g _ (by omega) (by omega)]; omega
    have t1 : xup2 G 120 i x 0 58 = (L : Int) := by rw [xup2_n (by omega)]; exact h58
    have step : g287_327 f (fu + 1) x (n : Int) (i : Int) (j : Int) G = if ((L + 1 : Nat) : Int) ≤ 1024 then some (xup2 (xup2 G 120 i x) 0 58 ((L + 1 : Nat) : Int)) else some (xup2 (xup2 (xup2 (xup2 G 120 i x) 0 58 ((L + 1 : Nat) : Int)) 0 58 1024) 0 60 1) := by
      show g287_327b (g287_327 f fu) f _ _ _ _ _ = _
      unfold g287_327b g287_409
      rw [if_pos (by omega), if_pos (by omega), Int.toNat_natCast, Option.bind_some, t1, e1, Option.bind_some, xup2_s, Option.bind_some, Option.bind_some]
    by_cases c : L = 1024
    · rw [if_neg (by omega)] at step
      refine ⟨_, step, fun z _ _ => by omega, ?_, ?_, ?_, fun o z y1 y2 y3 => by rw [xup2_n (by omega), xup2_n (by omega), xup2_n (by omega), xup2_n y2]⟩
      · rw [xup2_n (by omega), xup2_n (by omega), xup2_n (by omega), xup2_s]
      · rw [xup2_n (by omega), xup2_s]
        omega
      · rw [xup2_s, if_pos c]
    · rw [if_pos (by omega)] at step
      refine ⟨_, step, fun z _ _ => by omega, ?_, ?_, ?_, fun o z y1 y2 y3 => by rw [xup2_n (by omega), xup2_n y2]⟩
      · rw [xup2_n (by omega), xup2_s]
      · rw [xup2_s]
        omega
      · rw [xup2_n (by omega), xup2_n (by omega), if_neg c]
  | succ d ih =>
    intro j fu G h1 h2 h58 hx hxl
    obtain ⟨fu, rfl⟩ : ∃ t, fu = t + 1 := ⟨fu - 1, by omega⟩
    have e4 : xwr (xwr (4 * (i : Int)) + (j : Int)) = ((4 * i + j : Nat) : Int) := by
      rw [xwr_g (4 * (i : Int)) (by omega) (by omega), xwr_g _ (by omega) (by omega)]; omega
    have e5 : xwr ((j : Int) + 1) = ((j + 1 : Nat) : Int) := by rw [xwr_g _ (by omega) (by omega)]; omega
    have step : g287_327 f (fu + 1) x (n : Int) (i : Int) (j : Int) G = g287_327 f fu x (n : Int) (i : Int) ((j + 1 : Nat) : Int) (xup2 G 119 (4 * i + j) (xs.getD j 0)) := by
      show g287_327b (g287_327 f fu) f _ _ _ _ _ = _
      unfold g287_327b g287_362
      rw [if_neg (by omega), e4, e5, xl119, Int.toNat_natCast]
      by_cases cj : n ≤ j
      · have ev : xs.getD j 0 = 0 := by rw [List.getD_eq_getElem?_getD, List.getElem?_eq_none (by omega)]; rfl
        rw [if_pos (by omega), if_pos (by omega), ev]
        rfl
      · rw [if_neg (by omega), if_pos (by omega), if_pos (by omega), Int.toNat_natCast, hx j (by omega)]
        rfl
    obtain ⟨G', k1, k2, k3, k4, k5, k6⟩ := ih (j + 1) fu (xup2 G 119 (4 * i + j) (xs.getD j 0)) (by omega) (by omega) (by rw [xup2_n (by omega)]; exact h58) (fun k hk => by rw [xup2_n (by omega)]; exact hx k hk) hxl
    refine ⟨G', by rw [step]; exact k1, fun z y1 y2 => ?_, k3, k4, by rw [k5, xup2_n (by omega)], fun o z y1 y2 y3 => by rw [k6 o z (by omega) y2 y3, xup2_n (by omega)]⟩
    by_cases cz : z = j
    · rw [cz, k6 _ _ (by omega) (by omega) (by omega), xup2_s]
    · exact k2 z (by omega) y2
end
end
section
/-! GATHERING of the reference: a value comes to its group -/
theorem getD_set {α : Type} {l : List α} {d x : α} {i j : Nat} (hi : i < l.length) : (l.set i x).getD j d = if j = i then x else l.getD j d := by
  rw [List.getD_eq_getElem?_getD, List.getElem?_set]
  by_cases c : i = j
  · rw [if_pos c, if_pos hi, if_pos c.symm]
    rfl
  · rw [if_neg c, if_neg (fun q => c q.symm), ← List.getD_eq_getElem?_getD]
section
variable {f n : Nat} {x kk : Int} {S : List pRw} {xs : List Int}
theorem rGr.ve {G : xG_} {i : Nat} (h : rGr G n S) (hn : n ≤ 4) (hi : i < S.length) : rVe G 119 (4 * i) (S.getD i dRw).1 := by
  obtain ⟨a1, a2, a3⟩ := h
  obtain ⟨b1, b2, b3⟩ := a3 i hi
  exact ⟨by rw [xl119, b1]; omega, by omega, by omega, fun j hj => b2 j (by omega)⟩
theorem rGr.at {G G' : xG_} {i i' : Nat} (h : rGr G n S) (hi : i < S.length) (hr : gRw G i G' i') : (S.getD i dRw).1.length = n ∧ (∀ j, j < 4 → G' 119 (4 * i' + j) = (S.getD i dRw).1.getD j 0) ∧ G' 120 i' = (S.getD i dRw).2 := by
  obtain ⟨q1, q2, q3⟩ := h.2.2 i hi
  exact ⟨q1, fun j hj => by rw [hr.1 j hj]; exact q2 j hj, by rw [hr.2]; exact q3⟩
/-- where a key stands, or would -/
def gPl (S : List pRw) (xs : List Int) (k : Nat) : Prop := k ≤ S.length ∧ (∀ i, i < k → vCmp (S.getD i dRw).1 xs < 0) ∧ (k < S.length → ¬ vCmp (S.getD k dRw).1 xs < 0)
def xfg1 (G G' : xG_) : Prop := ∀ o z, ¬ (o = 0 ∧ (z = 58 ∨ z = 60)) → o ≠ 119 → o ≠ 120 → G' o z = G o z
theorem l_287_114 {G : xG_} (hf : 1100 < f) (hn : n ≤ 4) (h : rGr G n S) (hx : rVe G 112 0 xs) (hxn : xs.length = n) : ∀ (d i fu : Nat), i + d = S.length → d < fu → (∀ j, j < i → vCmp (S.getD j dRw).1 xs < 0) → ∃ k : Nat, g287_114 f fu kk x (n : Int) (i : Int) G = g287_150 f kk x (n : Int) (k : Int) G ∧ gPl S xs k := by
  have hl := h.2.1
  intro d
  induction d with
  | zero =>
    intro i fu h1 h2 h3
    obtain ⟨fu, rfl⟩ : ∃ t, fu = t + 1 := ⟨fu - 1, by omega⟩
    refine ⟨i, ?_, by omega, h3, fun q => by omega⟩
    show g287_114b (g287_114 f fu) f _ _ _ _ _ = _
    unfold g287_114b
    rw [h.1, if_pos (by omega)]
  | succ d ih =>
    intro i fu h1 h2 h3
    obtain ⟨fu, rfl⟩ : ∃ t, fu = t + 1 := ⟨fu - 1, by omega⟩
    have hi : i < S.length := by omega
    have e4 : xwr (4 * (i : Int)) = ((4 * i : Nat) : Int) := by rw [xwr_g _ (by omega) (by omega)]; omega
    have e5 : xwr ((i : Int) + 1) = ((i + 1 : Nat) : Int) := by rw [xwr_g _ (by omega) (by omega)]; omega
    have ec : g262 f 119 ((4 * i : Nat) : Int) 112 0 (n : Int) G = some (vCmp (S.getD i dRw).1 xs, G) := l_262 (by omega) (h.ve hn hi) hx (h.2.2 i hi).1 hxn
    have step : g287_114 f (fu + 1) kk x (n : Int) (i : Int) G = if 0 ≤ vCmp (S.getD i dRw).1 xs then g287_150 f kk x (n : Int) (i : Int) G else g287_114 f fu kk x (n : Int) ((i + 1 : Nat) : Int) G := by
      show g287_114b (g287_114 f fu) f _ _ _ _ _ = _
      unfold g287_114b
      rw [h.1, if_neg (by omega), e4, ec, Option.bind_some, e5]
    rw [step]
    by_cases c : 0 ≤ vCmp (S.getD i dRw).1 xs
    · rw [if_pos c]
      exact ⟨i, rfl, by omega, h3, fun _ q => by omega⟩
    · rw [if_neg c]
      refine ih (i + 1) fu (by omega) (by omega) (fun j hj => ?_)
      by_cases cj : j = i
      · rw [cj]; omega
      · exact h3 j (by omega)
theorem len_t {α : Type} (l : List α) (k : Nat) : (l.take k).length = min k l.length := List.length_take
theorem getD_tk {α : Type} {l : List α} {d : α} {k j : Nat} (h : j < k) : (l.take k).getD j d = l.getD j d := by
  rw [List.getD_eq_getElem?_getD, List.getElem?_take_of_lt h, ← List.getD_eq_getElem?_getD]
/-- a value comes to its group -/
theorem l_287_111 {G : xG_} (hf : 1100 < f) (hn : n ≤ 4) (h : rGr G n S) (hs : S.Pairwise rwLt) (hx : ∀ k, k < n → G 112 k = xs.getD k 0) (hxn : xs.length = n) (hkk : kk = 1 ∨ kk = 2 ∨ kk = 3 ∨ kk = 4) (hx1 : -4000000000000 ≤ x ∧ x ≤ 4000000000000) (hb : ∀ y ∈ S, -4000000000000000000 ≤ y.2 ∧ y.2 ≤ 4000000000000000000) :
    ∃ G' S', g287_111 f kk x (n : Int) G = some G' ∧ rGr G' n S' ∧ S'.Pairwise rwLt ∧ xfg1 G G' ∧ ((∃ i, i < S.length ∧ (S.getD i dRw).1 = xs ∧ S' = S.set i (xs, qCo kk (S.getD i dRw).2 x) ∧ G' 0 60 = G 0 60) ∨ ((∀ y ∈ S, y.1 ≠ xs) ∧ ∃ i, i ≤ S.length ∧ S' = (S.take i ++ (xs, x) :: S.drop i).take 1024 ∧ (∀ j, j < i → vLt (S.getD j dRw).1 xs) ∧ (∀ j, i ≤ j → j < S.length → vLt xs (S.getD j dRw).1) ∧ G' 0 60 = (if S.length = 1024 then 1 else G 0 60))) := by
  have hl := h.2.1
  have hve : rVe G 112 0 xs := ⟨by rw [xl112]; omega, by omega, by omega, fun k hk => by rw [Nat.zero_add]; exact hx k (by omega)⟩
  obtain ⟨i, e1, p1, p2, p3⟩ := l_287_114 (f := f) (kk := kk) (x := x) hf hn h hve hxn S.length 0 f (by omega) (by omega) (fun j hj => absurd hj (by omega))
  have e1' : g287_111 f kk x (n : Int) G = g287_150 f kk x (n : Int) (i : Int) G := e1
  have e4 : xwr (4 * (i : Int)) = ((4 * i : Nat) : Int) := by rw [xwr_g _ (by omega) (by omega)]; omega
  have hnl : ∀ j, j < S.length → (S.getD j dRw).1.length = xs.length := fun j hj => by rw [(h.2.2 j hj).1, hxn]
  by_cases c0 : i < S.length ∧ vCmp (S.getD i dRw).1 xs = 0
  · obtain ⟨c1, c2⟩ := c0
    have ek : (S.getD i dRw).1 = xs := vCmp_eq (hnl i c1) c2
    have ec : g262 f 119 ((4 * i : Nat) : Int) 112 0 (n : Int) G = some (vCmp (S.getD i dRw).1 xs, G) := l_262 (by omega) (h.ve hn c1) hve (h.2.2 i c1).1 hxn
    obtain ⟨q1, q2, q3⟩ := h.2.2 i c1
    have hbi := hb (S.getD i dRw) (by rw [getD_e c1]; exact List.getElem_mem c1)
    have hii : 0 ≤ (i : Int) ∧ (i : Int) < 1025 := by omega
    have eq : g287_150 f kk x (n : Int) (i : Int) G = some (xup2 G 120 i (qCo kk (S.getD i dRw).2 x)) := by
      have n1 : ¬ ¬ (vCmp (S.getD i dRw).1 xs, G).1 = 0 := fun q => q c2
      unfold g287_150 g287_205 g287_232
      rw [h.1, if_neg (by omega), e4, ec, Option.bind_some, if_neg n1, if_pos hii, xl120, Int.toNat_natCast]
      show (if kk = 1 then (if _ then Option.bind (some (xup2 G 120 i (xwl (G 120 i + x)))) _ else _) else (if ¬ kk = 2 then (if ¬ kk = 3 then (if _ then Option.bind (some (xup2 G 120 i (xmax (G 120 i) x))) _ else _) else (if _ then Option.bind (some (xup2 G 120 i (xmin (G 120 i) x))) _ else _)) else (if _ then Option.bind (some (xup2 G 120 i (xwl (G 120 i + x)))) _ else _))) = _
      rw [q3, xwl_g _ (by omega) (by omega)]
      simp only [if_pos hii, Option.bind_some]
      unfold qCo xmax xmin
      rcases hkk with k | k | k | k
      · rw [if_pos k, if_pos (Or.inl k)]
      · rw [if_neg (by omega), if_neg (fun q => q k), if_pos (Or.inr k)]
      · have n2 : ¬ ¬ kk = 3 := fun q => q k
        have n3 : ¬ (kk = 1 ∨ kk = 2) := by omega
        rw [if_neg (by omega), if_pos (by omega), if_neg n2, if_neg n3, if_pos k]
      · have n3 : ¬ (kk = 1 ∨ kk = 2) := by omega
        have n4 : ¬ kk = 3 := by omega
        rw [if_neg (by omega), if_pos (by omega), if_pos n4, if_neg n3, if_neg n4]
    refine ⟨xup2 G 120 i (qCo kk (S.getD i dRw).2 x), S.set i (xs, qCo kk (S.getD i dRw).2 x), by rw [e1']; exact eq, ⟨by rw [List.length_set, xup2_n (by omega)]; exact h.1, by rw [List.length_set]; exact hl, fun j hj => ?_⟩, ?_, fun o z y1 y2 y3 => xup2_n (fun q => y3 q.1), .inl ⟨i, c1, ek, rfl, xup2_n (by omega)⟩⟩
    · rw [List.length_set] at hj
      rw [getD_set c1]
      by_cases cj : j = i
      · rw [if_pos cj, cj]
        exact ⟨hxn, fun z hz => by rw [xup2_n (by omega), q2 z hz, ek], xup2_s _ _ _ _⟩
      · rw [if_neg cj]
        obtain ⟨w1, w2, w3⟩ := h.2.2 j hj
        exact ⟨w1, fun z hz => by rw [xup2_n (by omega)]; exact w2 z hz, by rw [xup2_n (by omega)]; exact w3⟩
    · rw [List.pairwise_iff_getElem]
      intro a b ha hb' hab
      rw [List.length_set] at ha hb'
      have hk : ∀ j, (hj : j < S.length) → ((S.set i (xs, qCo kk (S.getD i dRw).2 x)).getD j dRw).1 = (S.getD j dRw).1 := fun j hj => by
        rw [getD_set c1]
        by_cases cj : j = i
        · rw [if_pos cj, cj, ek]
        · rw [if_neg cj]
      have := srt_get (d := dRw) hs hab hb'
      rw [← getD_e (d := dRw) (by rw [List.length_set]; exact ha), ← getD_e (d := dRw) (by rw [List.length_set]; exact hb')]
      show vLt _ _
      rw [hk a ha, hk b hb']
      exact this
  · have eq : g287_150 f kk x (n : Int) (i : Int) G = g287_234 f x (n : Int) (i : Int) G := by
      unfold g287_150
      rw [h.1]
      by_cases c1 : i < S.length
      · have ec : g262 f 119 ((4 * i : Nat) : Int) 112 0 (n : Int) G = some (vCmp (S.getD i dRw).1 xs, G) := l_262 (by omega) (h.ve hn c1) hve (h.2.2 i c1).1 hxn
        have n1 : ¬ (vCmp (S.getD i dRw).1 xs, G).1 = 0 := fun q => c0 ⟨c1, q⟩
        rw [if_neg (by omega), e4, ec, Option.bind_some, if_pos n1]
      · rw [if_pos (by omega)]
    have below : ∀ j, j < i → vLt (S.getD j dRw).1 xs := fun j hj => (vLt_iff (hnl j (by omega))).mpr (p2 j hj)
    have above : ∀ j, i ≤ j → j < S.length → vLt xs (S.getD j dRw).1 := fun j h1 h2 => by
      have hi0 : vLt xs (S.getD i dRw).1 := by
        have z1 := p3 (by omega)
        have z2 : vCmp (S.getD i dRw).1 xs ≠ 0 := fun q => c0 ⟨by omega, q⟩
        have z3 := vCmp_anti (S.getD i dRw).1 xs
        exact (vLt_iff (hnl i (by omega)).symm).mpr (by omega)
      by_cases cj : j = i
      · rw [cj]; exact hi0
      · exact vLt_tr hi0 (srt_get hs (by omega) h2)
    have hne : ∀ y ∈ S, y.1 ≠ xs := fun y hy q => by
      obtain ⟨j, hj, rfl⟩ := List.getElem_of_mem hy
      rw [← getD_e (d := dRw) hj] at q
      by_cases cj : j < i
      · have := below j cj; rw [q] at this; exact vLt_irr _ this
      · have := above j (by omega) hj; rw [q] at this; exact vLt_irr _ this
    have srt : (S.take i ++ (xs, x) :: S.drop i).Pairwise rwLt := srt_ins hs (fun y hy => by
        obtain ⟨j, hj, rfl⟩ := List.getElem_of_mem hy
        rw [List.length_take] at hj
        rw [List.getElem_take]
        have := below j (by omega)
        rw [getD_e (by omega : j < S.length)] at this
        exact this) (fun y hy => by
        obtain ⟨j, hj, rfl⟩ := List.getElem_of_mem hy
        rw [List.length_drop] at hj
        rw [List.getElem_drop]
        have := above (i + j) (by omega) (by omega)
        rw [getD_e (by omega : i + j < S.length)] at this
        exact this)
    have hlen : (S.take i ++ (xs, x) :: S.drop i).length = S.length + 1 := len_ins p1
    by_cases c2 : i = 1024
    · have hS : S.length = 1024 := by omega
      refine ⟨xup2 G 0 60 1, S, ?_, ⟨by rw [xup2_n (by omega)]; exact h.1, hl, fun j hj => ?_⟩, hs, fun o z y1 y2 y3 => xup2_n (by omega), .inr ⟨hne, i, p1, ?_, below, above, by rw [xup2_s, if_pos hS]⟩⟩
      · have n1 : ¬ ¬ (i : Int) = 1024 := fun q => q (by omega)
        rw [e1', eq]
        unfold g287_234
        rw [if_neg n1]
        rfl
      · obtain ⟨w1, w2, w3⟩ := h.2.2 j hj
        exact ⟨w1, fun z hz => by rw [xup2_n (by omega)]; exact w2 z hz, by rw [xup2_n (by omega)]; exact w3⟩
      · have e9 : S.take i = S := List.take_of_length_le (by omega)
        rw [e9, ← hS, List.take_left]
    · have n1 : ¬ (i : Int) = 1024 := by omega
      obtain ⟨G1, a1, a2, a3, a4⟩ := l_287_254 (f := f) (x := x) (a := (n : Int)) (i := i) (by omega) (S.length - i) f G (by omega) (by omega)
      obtain ⟨G2, b1, b2, b3, b4, b5, b6⟩ := l_287_327 (f := f) (x := x) (n := n) (xs := xs) (i := i) (L := S.length) (by omega) hl hn 4 0 f G1 (by omega) (by omega) (by rw [a4 _ _ (by omega) (by omega)]; exact h.1) (fun k hk => by rw [a4 _ _ (by omega) (by omega)]; exact hx k hk) hxn
      have keep : ∀ j, j ≠ i → gRw G1 j G2 j := fun j hj => ⟨fun z hz => b6 _ _ (by omega) (by omega) (by omega), b6 _ _ (by omega) (by omega) (by omega)⟩
      refine ⟨G2, (S.take i ++ (xs, x) :: S.drop i).take 1024, ?_, ⟨by rw [b4, len_t, hlen]; omega, by rw [len_t]; omega, fun j hj => ?_⟩, srt.sublist (List.take_sublist _ _), fun o z y1 y2 y3 => by rw [b6 o z (by omega) (by omega) y1, a4 o z y2 y3], .inr ⟨hne, i, p1, rfl, below, above, by rw [b5, a4 _ _ (by omega) (by omega)]⟩⟩
      · rw [e1', eq]
        unfold g287_234
        rw [if_pos n1, h.1]
        have a1' := a1
        rw [show i + (S.length - i) = S.length by omega] at a1'
        rw [a1']
        exact b1
      · rw [len_t, hlen] at hj
        rw [getD_tk (by omega), getD_ins p1]
        by_cases j1 : j < i
        · rw [if_pos j1]
          exact h.at (by omega) ((a3 j (by omega)).tr (keep j (by omega)))
        · rw [if_neg j1]
          by_cases j2 : j = i
          · rw [if_pos j2, j2]
            exact ⟨hxn, fun z hz => b2 z (by omega) hz, b3⟩
          · rw [if_neg j2]
            obtain ⟨j, rfl⟩ : ∃ t, j = t + 1 := ⟨j - 1, by omega⟩
            rw [Nat.add_sub_cancel]
            exact h.at (by omega) ((a2 j (by omega) (by omega)).tr (keep (j + 1) (by omega)))
end
end
section
/-! GATHERING: what groups say of the WAYS that came -/
def gAg (kk : Int) : List Int → Int
  | [] => 0
  | x :: l => l.foldl (qCo kk) x
theorem gAg_1 (kk x : Int) : gAg kk [x] = x := rfl
theorem gAg_s {kk x : Int} {l : List Int} (h : l ≠ []) : gAg kk (l ++ [x]) = qCo kk (gAg kk l) x := by
  cases l with
  | nil => exact absurd rfl h
  | cons y l =>
    show (l ++ [x]).foldl (qCo kk) y = qCo kk (l.foldl (qCo kk) y) x
    rw [List.foldl_append]
    rfl
section
variable {α : Type} {key : α → Option (List Int)} {val : α → Int}
/-- the values of a group -/
def gVs (key : α → Option (List Int)) (val : α → Int) (W : List α) (xs : List Int) : List Int := W.filterMap (fun v => if key v = some xs then some (val v) else none)
theorem gVs_s (W : List α) (v : α) (xs : List Int) : gVs key val (W ++ [v]) xs = if key v = some xs then gVs key val W xs ++ [val v] else gVs key val W xs := by
  unfold gVs
  rw [List.filterMap_append]
  by_cases c : key v = some xs
  · rw [if_pos c]
    congr 1
    simp [c]
  · rw [if_neg c]
    simp [c]
theorem gVs_ne {W : List α} {xs : List Int} (h : gVs key val W xs ≠ []) : ∃ v ∈ W, key v = some xs := by
  unfold gVs at h
  obtain ⟨x, hx⟩ := List.exists_mem_of_ne_nil _ h
  obtain ⟨v, h1, h2⟩ := List.mem_filterMap.mp hx
  refine ⟨v, h1, ?_⟩
  by_cases c : key v = some xs
  · exact c
  · rw [if_neg c] at h2; cases h2
theorem gVs_in {W : List α} {xs : List Int} {v : α} (h : v ∈ W) (hk : key v = some xs) : gVs key val W xs ≠ [] := by
  unfold gVs
  intro q
  have : val v ∈ W.filterMap (fun v => if key v = some xs then some (val v) else none) := List.mem_filterMap.mpr ⟨v, h, by rw [if_pos hk]⟩
  rw [q] at this
  cases this
theorem gVs_len (W : List α) (xs : List Int) : (gVs key val W xs).length ≤ W.length := List.length_filterMap_le _ _
/-- the groups S are the least 1024, and m tells whether there are more -/
def gIv (kk : Int) (key : α → Option (List Int)) (val : α → Int) (W : List α) (S : List pRw) (m : Int) : Prop := S.Pairwise rwLt ∧ S.length ≤ 1024 ∧ (m = 0 ∨ m = 1) ∧ (∀ y ∈ S, gVs key val W y.1 ≠ [] ∧ y.2 = gAg kk (gVs key val W y.1)) ∧ (∀ v ∈ W, ∀ xs, key v = some xs → (∃ w, (xs, w) ∈ S) ∨ (m = 1 ∧ S.length = 1024 ∧ ∀ y ∈ S, vLt y.1 xs)) ∧ (m = 1 → S.length = 1024)
theorem mem_get {l : List pRw} {y : pRw} : y ∈ l ↔ ∃ j, j < l.length ∧ l.getD j dRw = y := by
  constructor
  · intro h
    obtain ⟨j, hj, rfl⟩ := List.getElem_of_mem h
    exact ⟨j, hj, getD_e hj⟩
  · rintro ⟨j, hj, rfl⟩
    rw [getD_e hj]
    exact List.getElem_mem hj
theorem gIv_0 (kk : Int) : gIv kk key val [] [] 0 := ⟨List.Pairwise.nil, by decide, .inl rfl, fun y hy => absurd hy (by simp), fun v hv => absurd hv (by simp), fun h => by omega⟩
theorem gIv.skip {kk m : Int} {W : List α} {S : List pRw} {v : α} (h : gIv kk key val W S m) (hv : key v = none) : gIv kk key val (W ++ [v]) S m := by
  obtain ⟨a1, a2, a3, a4, a5, a6⟩ := h
  have e : ∀ xs, gVs key val (W ++ [v]) xs = gVs key val W xs := fun xs => by
    rw [gVs_s, if_neg (by rw [hv]; exact fun q => by cases q)]
  refine ⟨a1, a2, a3, fun y hy => by rw [e]; exact a4 y hy, fun u hu xs hk => ?_, a6⟩
  rcases List.mem_append.mp hu with hu | hu
  · exact a5 u hu xs hk
  · rw [List.mem_singleton.mp hu, hv] at hk
    cases hk
/-- the group is there -/
theorem gIv.upd {kk m : Int} {W : List α} {S : List pRw} {v : α} {xs : List Int} {i : Nat} (h : gIv kk key val W S m) (hv : key v = some xs) (hi : i < S.length) (hx : (S.getD i dRw).1 = xs) : gIv kk key val (W ++ [v]) (S.set i (xs, qCo kk (S.getD i dRw).2 (val v))) m := by
  obtain ⟨a1, a2, a3, a4, a5, a6⟩ := h
  have hkey : ∀ j, ((S.set i (xs, qCo kk (S.getD i dRw).2 (val v))).getD j dRw).1 = (S.getD j dRw).1 := fun j => by
    rw [getD_set hi]
    by_cases cj : j = i
    · rw [if_pos cj, cj, hx]
    · rw [if_neg cj]
  have hSi : S.getD i dRw ∈ S := by rw [getD_e hi]; exact List.getElem_mem hi
  have other : ∀ j, j < S.length → j ≠ i → (S.getD j dRw).1 ≠ xs := fun j hj hne q => by
    by_cases c : j < i
    · have : vLt (S.getD j dRw).1 (S.getD i dRw).1 := srt_get (d := dRw) a1 c hi
      rw [q, hx] at this
      exact vLt_irr _ this
    · have : vLt (S.getD i dRw).1 (S.getD j dRw).1 := srt_get (d := dRw) a1 (by omega) hj
      rw [q, hx] at this
      exact vLt_irr _ this
  refine ⟨?_, by rw [List.length_set]; exact a2, a3, fun y hy => ?_, fun u hu ys hk => ?_, by rw [List.length_set]; exact a6⟩
  · rw [List.pairwise_iff_getElem]
    intro a b ha hb hab
    have ha' : a < S.length := by rw [List.length_set] at ha; exact ha
    have hb' : b < S.length := by rw [List.length_set] at hb; exact hb
    rw [← getD_e (d := dRw) ha, ← getD_e (d := dRw) hb]
    show vLt _ _
    rw [hkey, hkey]
    exact srt_get (d := dRw) a1 hab hb'
  · obtain ⟨j, hj, rfl⟩ := mem_get.mp hy
    rw [List.length_set] at hj
    rw [getD_set hi]
    by_cases cj : j = i
    · rw [if_pos cj, gVs_s]
      show (if key v = some xs then _ else _) ≠ [] ∧ qCo kk (S.getD i dRw).2 (val v) = gAg kk (if key v = some xs then _ else _)
      obtain ⟨b1, b2⟩ := a4 _ hSi
      rw [hx] at b1 b2
      rw [if_pos hv, gAg_s b1, ← b2]
      exact ⟨by simp, rfl⟩
    · rw [if_neg cj, gVs_s, if_neg (by rw [hv]; intro q; injection q with q; exact other j hj cj q.symm)]
      exact a4 _ (mem_get.mpr ⟨j, hj, rfl⟩)
  · have cover : ∀ ys w, (ys, w) ∈ S → ∃ w, (ys, w) ∈ S.set i (xs, qCo kk (S.getD i dRw).2 (val v)) := fun ys w hm => by
      obtain ⟨j, hj, e⟩ := mem_get.mp hm
      refine ⟨((S.set i (xs, qCo kk (S.getD i dRw).2 (val v))).getD j dRw).2, mem_get.mpr ⟨j, by rw [List.length_set]; exact hj, ?_⟩⟩
      refine Prod.ext ?_ rfl
      rw [hkey, e]
    rcases List.mem_append.mp hu with hu | hu
    · rcases a5 u hu ys hk with ⟨w, hw⟩ | ⟨b1, b2, b3⟩
      · exact .inl (cover ys w hw)
      · refine .inr ⟨b1, by rw [List.length_set]; exact b2, fun y hy => ?_⟩
        obtain ⟨j, hj, rfl⟩ := mem_get.mp hy
        rw [List.length_set] at hj
        rw [hkey]
        exact b3 _ (mem_get.mpr ⟨j, hj, rfl⟩)
    · rw [List.mem_singleton.mp hu, hv] at hk
      injection hk with hk
      rw [← hk]
      exact .inl (cover xs (S.getD i dRw).2 (by rw [← hx]; exact hSi))
/-- a new group -/
theorem gIv.new {kk m : Int} {W : List α} {S : List pRw} {v : α} {xs : List Int} {i : Nat} (h : gIv kk key val W S m) (hv : key v = some xs) (hne : ∀ y ∈ S, y.1 ≠ xs) (hi : i ≤ S.length) (hb : ∀ j, j < i → vLt (S.getD j dRw).1 xs) (ha : ∀ j, i ≤ j → j < S.length → vLt xs (S.getD j dRw).1) :
    gIv kk key val (W ++ [v]) ((S.take i ++ (xs, val v) :: S.drop i).take 1024) (if S.length = 1024 then 1 else m) := by
  obtain ⟨a1, a2, a3, a4, a5, a6⟩ := h
  have hlen : (S.take i ++ (xs, val v) :: S.drop i).length = S.length + 1 := len_ins hi
  have hget : ∀ j, (S.take i ++ (xs, val v) :: S.drop i).getD j dRw = if j < i then S.getD j dRw else if j = i then (xs, val v) else S.getD (j - 1) dRw := fun j => getD_ins hi
  have srt : (S.take i ++ (xs, val v) :: S.drop i).Pairwise rwLt := srt_ins a1 (fun y hy => by
      obtain ⟨j, hj, rfl⟩ := List.getElem_of_mem hy
      rw [List.length_take] at hj
      rw [List.getElem_take]
      have := hb j (by omega)
      rw [getD_e (by omega : j < S.length)] at this
      exact this) (fun y hy => by
      obtain ⟨j, hj, rfl⟩ := List.getElem_of_mem hy
      rw [List.length_drop] at hj
      rw [List.getElem_drop]
      have := ha (i + j) (by omega) (by omega)
      rw [getD_e (by omega : i + j < S.length)] at this
      exact this)
  have tlen : ((S.take i ++ (xs, val v) :: S.drop i).take 1024).length = min 1024 (S.length + 1) := by rw [len_t, hlen]
  have tmem : ∀ y, y ∈ (S.take i ++ (xs, val v) :: S.drop i).take 1024 → y ∈ S ∨ y = (xs, val v) := fun y hy => srt_ins_mem.mp (List.mem_of_mem_take hy)
  have tin : ∀ y, (y ∈ S ∨ y = (xs, val v)) → y ∈ (S.take i ++ (xs, val v) :: S.drop i).take 1024 ∨ (S.length = 1024 ∧ ∀ z ∈ (S.take i ++ (xs, val v) :: S.drop i).take 1024, vLt z.1 y.1) := fun y hy => by
    obtain ⟨j, hj, e⟩ := mem_get.mp (srt_ins_mem (k := i).mpr hy)
    by_cases c : j < 1024
    · refine .inl (mem_get.mpr ⟨j, by rw [tlen]; omega, ?_⟩)
      rw [getD_tk c]
      exact e
    · refine .inr ⟨by omega, fun z hz => ?_⟩
      obtain ⟨k, hk, ek⟩ := mem_get.mp hz
      rw [tlen] at hk
      rw [getD_tk (by omega)] at ek
      have := srt_get (d := dRw) srt (by omega : k < j) hj
      rw [e, ek] at this
      exact this
  -- if the group has come before, it lies behind all
  have old : gVs key val W xs ≠ [] → i = 1024 ∧ m = 1 ∧ S.length = 1024 := fun hg => by
    obtain ⟨u, hu, hku⟩ := gVs_ne hg
    rcases a5 u hu xs hku with ⟨w, hw⟩ | ⟨b1, b2, b3⟩
    · exact absurd rfl (hne _ hw)
    · refine ⟨?_, b1, b2⟩
      by_cases c : i < S.length
      · exact absurd (vLt_tr (ha i (Nat.le_refl _) c) (b3 _ (mem_get.mpr ⟨i, c, rfl⟩))) (vLt_irr _)
      · omega
  refine ⟨srt.sublist (List.take_sublist _ _), by rw [tlen]; omega, ?_, fun y hy => ?_, fun u hu ys hk => ?_, fun hm1 => ?_⟩
  · by_cases c : S.length = 1024
    · rw [if_pos c]; exact .inr rfl
    · rw [if_neg c]; exact a3
  · rcases tmem y hy with hS | hS
    · rw [gVs_s, if_neg (by rw [hv]; intro q; injection q with q; exact hne y hS q.symm)]
      exact a4 y hS
    · rw [hS, gVs_s]
      show (if key v = some xs then _ else _) ≠ [] ∧ val v = gAg kk (if key v = some xs then _ else _)
      rw [if_pos hv]
      by_cases hg : gVs key val W xs = []
      · rw [hg]
        exact ⟨by simp, rfl⟩
      · exfalso
        obtain ⟨o1, o2, o3⟩ := old hg
        rw [hS] at hy
        obtain ⟨j, hj, e⟩ := mem_get.mp hy
        rw [tlen] at hj
        rw [getD_tk (by omega), hget, if_pos (by omega)] at e
        exact hne (S.getD j dRw) (mem_get.mpr ⟨j, by omega, rfl⟩) (by rw [e])
  · have third : ∀ y : pRw, S.length = 1024 → (∀ z ∈ (S.take i ++ (xs, val v) :: S.drop i).take 1024, vLt z.1 y.1) → ((if S.length = 1024 then (1 : Int) else m) = 1 ∧ ((S.take i ++ (xs, val v) :: S.drop i).take 1024).length = 1024 ∧ ∀ z ∈ (S.take i ++ (xs, val v) :: S.drop i).take 1024, vLt z.1 y.1) := fun y h1 h2 => ⟨by rw [if_pos h1], by rw [tlen, h1]; rfl, h2⟩
    rcases List.mem_append.mp hu with hu | hu
    · rcases a5 u hu ys hk with ⟨w, hw⟩ | ⟨b1, b2, b3⟩
      · rcases tin (ys, w) (.inl hw) with t | ⟨t1, t2⟩
        · exact .inl ⟨w, t⟩
        · exact .inr (third (ys, w) t1 t2)
      · refine .inr (third (ys, 0) b2 (fun z hz => ?_))
        rcases tmem z hz with hS | hS
        · exact b3 z hS
        · rw [hS] at hz ⊢
          obtain ⟨j, hj, e⟩ := mem_get.mp hz
          rw [tlen] at hj
          have hij : i < S.length := by
            rw [getD_tk (by omega), hget] at e
            by_cases c1 : j < i
            · rw [if_pos c1] at e
              exact absurd (by rw [e]) (hne (S.getD j dRw) (mem_get.mpr ⟨j, by omega, rfl⟩))
            · rw [if_neg c1] at e
              by_cases c2 : j = i
              · omega
              · rw [if_neg c2] at e
                exact absurd (by rw [e]) (hne (S.getD (j - 1) dRw) (mem_get.mpr ⟨j - 1, by omega, rfl⟩))
          exact vLt_tr (ha i (Nat.le_refl _) hij) (b3 _ (mem_get.mpr ⟨i, hij, rfl⟩))
    · rw [List.mem_singleton.mp hu, hv] at hk
      injection hk with hk
      rw [← hk]
      rcases tin (xs, val v) (.inr rfl) with t | ⟨t1, t2⟩
      · exact .inl ⟨val v, t⟩
      · exact .inr (third (xs, val v) t1 t2)
  · by_cases c : S.length = 1024
    · rw [tlen, c]; rfl
    · rw [if_neg c] at hm1
      exact absurd (a6 hm1) c
theorem gAg_bd {kk : Int} {l : List Int} (hkk : kk = 1 ∨ kk = 2 ∨ kk = 3 ∨ kk = 4) : ∀ (n : Nat), l.length ≤ n → (∀ x ∈ l, -3000000000000 ≤ x ∧ x ≤ 3000000000000) → -3000000000000 * (n : Int) ≤ gAg kk l ∧ gAg kk l ≤ 3000000000000 * (n : Int) := by
  have key : ∀ (l : List Int) (a : Int) (n : Nat), (∀ x ∈ l, -3000000000000 ≤ x ∧ x ≤ 3000000000000) → -3000000000000 * (n : Int) ≤ a → a ≤ 3000000000000 * (n : Int) → 1 ≤ n → -3000000000000 * ((n + l.length : Nat) : Int) ≤ l.foldl (qCo kk) a ∧ l.foldl (qCo kk) a ≤ 3000000000000 * ((n + l.length : Nat) : Int) := by
    intro l
    induction l with
    | nil => exact fun a n _ h1 h2 _ => ⟨h1, h2⟩
    | cons x l ih =>
      intro a n hx h1 h2 h3
      obtain ⟨x1, x2⟩ := hx x List.mem_cons_self
      have := ih (qCo kk a x) (n + 1) (fun y hy => hx y (List.mem_cons_of_mem _ hy)) (by
        unfold qCo
        rcases hkk with k | k | k | k
        · rw [if_pos (Or.inl k)]; omega
        · rw [if_pos (Or.inr k)]; omega
        · rw [if_neg (by omega), if_pos k]; split <;> omega
        · rw [if_neg (by omega), if_neg (by omega)]; split <;> omega) (by
        unfold qCo
        rcases hkk with k | k | k | k
        · rw [if_pos (Or.inl k)]; omega
        · rw [if_pos (Or.inr k)]; omega
        · rw [if_neg (by omega), if_pos k]; split <;> omega
        · rw [if_neg (by omega), if_neg (by omega)]; split <;> omega) (by omega)
      rw [show n + (x :: l).length = n + 1 + l.length by rw [List.length_cons]; omega]
      exact this
  intro n hn hx
  cases l with
  | nil => exact ⟨by show _ ≤ (0 : Int); omega, by show (0 : Int) ≤ _; omega⟩
  | cons x l =>
    obtain ⟨x1, x2⟩ := hx x List.mem_cons_self
    have := key l x 1 (fun y hy => hx y (List.mem_cons_of_mem _ hy)) (by omega) (by omega) (by omega)
    have hn' : l.length + 1 ≤ n := hn
    show _ ≤ l.foldl (qCo kk) x ∧ l.foldl (qCo kk) x ≤ _
    omega
end
end
