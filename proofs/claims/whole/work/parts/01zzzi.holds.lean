/-! WAYS of the reference: what must hold, and the end of a WAY -/
/-- TERMS with these values are this row -/
def sTs (v : Nat → Int) (T : pCd) (xs : List Int) : Prop := ∀ k, k < T.length → ((T.getD k (0, 0)).1 = 1 → v (T.getD k (0, 0)).2.toNat = xs.getD k 0) ∧ ((T.getD k (0, 0)).1 = 3 → (T.getD k (0, 0)).2 = xs.getD k 0)
/-- all NOTs and compares hold -/
def sNC (l : List pLt) (R : Nat → List pRw) (v : Nat → Int) : Prop := ∀ y ∈ l, (y.1 = 2 → ¬ ∃ w, w ∈ R y.2.1.toNat ∧ sTs v y.2.2.2.1 w.1) ∧ (y.1 = 3 → sCm v y)
theorem qVm_in {nv : Nat} : ∀ {Q : pCd}, wC nv Q → ∀ k, (qVm Q).testBit k = true → k < nv
  | [], _, k, h => by
    have h' : (0 : Nat).testBit k = true := h
    rw [Nat.zero_testBit] at h'
    cases h'
  | x :: q, hw, k, h => by
    have h' : ((if x.1 = 2 then 2 ^ x.2.toNat else 0) ||| qVm q).testBit k = true := h
    rw [Nat.testBit_or, Bool.or_eq_true] at h'
    rcases h' with h1 | h1
    · by_cases c : x.1 = 2
      · rw [if_pos c, Nat.testBit_two_pow] at h1
        have := of_decide_eq_true h1
        rcases hw x List.mem_cons_self with z | z | z <;> omega
      · rw [if_neg c, Nat.zero_testBit] at h1
        cases h1
    · exact qVm_in (fun y hy => hw y (List.mem_cons_of_mem _ hy)) k h1
theorem sTs_xt {nv : Nat} {T : pCd} {v w : Nat → Int} {xs : List Int} (hT : ∀ y ∈ T, wT1 nv y) (h : ∀ k, k < nv → v k = w k) (hs : sTs v T xs) : sTs w T xs := by
  intro k hk
  obtain ⟨a, b⟩ := hs k hk
  refine ⟨fun c => ?_, b⟩
  have hw : wT1 nv (T.getD k (0, 0)) := hT _ (by rw [getD_e hk]; exact List.getElem_mem hk)
  rw [← h _ (by rcases hw with z | z | z <;> omega)]
  exact a c
theorem sCm_xt {nv : Nat} {y : pLt} {v w : Nat → Int} (h1 : wEx nv y.2.2.2.2.1) (h2 : wEx nv y.2.2.2.2.2) (h : ∀ k, k < nv → v k = w k) (hs : sCm v y) : sCm w y := by
  obtain ⟨a, b, k1, k2, k3⟩ := hs
  exact ⟨a, b, by rw [← qEv_xt h1.1 (fun k hk => h k (qVm_in h1.1 k hk))]; exact k1, by rw [← qEv_xt h2.1 (fun k hk => h k (qVm_in h2.1 k hk))]; exact k2, k3⟩
theorem sNC_xt {np nv : Nat} {l : List pLt} {R : Nat → List pRw} {v w : Nat → Int} (hw : ∀ y ∈ l, wLt np nv y) (h : ∀ k, k < nv → v k = w k) (hs : sNC l R v) : sNC l R w := by
  intro y hy
  obtain ⟨a, b⟩ := hs y hy
  refine ⟨fun c => ?_, fun c => ?_⟩
  · rcases hw y hy with z | z
    · rintro ⟨u, u1, u2⟩
      exact a c ⟨u, u1, sTs_xt z.2.2.2.2.2 (fun k hk => (h k hk).symm) u2⟩
    · omega
  · rcases hw y hy with z | z
    · omega
    · exact sCm_xt z.2.2.1 z.2.2.2 h (b c)
theorem pFit_full {nv m : Nat} {T : pCd} {vl : Nat → Int} {xs : List Int} (hT : ∀ y ∈ T, wT1 nv y) (hm : ∀ k, k < nv → m.testBit k = true) : pFit m vl T xs ↔ sTs vl T xs := by
  constructor
  · intro h k hk
    obtain ⟨a, b, c⟩ := h k hk
    have hw : wT1 nv (T.getD k (0, 0)) := hT _ (by rw [getD_e hk]; exact List.getElem_mem hk)
    exact ⟨fun z => b z (hm _ (by rcases hw with q | q | q <;> omega)), a⟩
  · intro h k hk
    obtain ⟨a, b⟩ := h k hk
    refine ⟨b, fun z _ => a z, fun z j hj z1 z2 => ?_⟩
    have := (h j (by omega)).1 z1
    rw [z2, a z] at this
    exact this.symm
/-- the rows of all predicates -/
def rTb (G : xG_) (np : Nat) (N : Nat → Nat) (R : Nat → List pRw) : Prop := ∀ p, p < np → rRw G p (N p) (R p) ∧ N p ≤ 4
theorem rTb.ge {G G' : xG_} {np : Nat} {N : Nat → Nat} {R : Nat → List pRw} (h : rTb G np N R) (hf : ∀ a j, 107 ≤ a → a ≤ 109 → G' a j = G a j) : rTb G' np N R := fun p hp => by
  obtain ⟨⟨a1, a2, a3⟩, a4⟩ := h p hp
  refine ⟨⟨by rw [hf _ _ (by omega) (by omega)]; exact a1, a2, fun i hi => ?_⟩, a4⟩
  obtain ⟨b1, b2, b3⟩ := a3 i hi
  exact ⟨b1, fun j hj => by rw [hf _ _ (by omega) (by omega)]; exact b2 j hj, by rw [hf _ _ (by omega) (by omega)]; exact b3⟩
theorem rLt.tm {G : xG_} {x c : Nat} {y : pLt} (h : rLt G 2 x c y) (hx : x < 200) (h3 : y.1 ≠ 3) : G 28 x = y.2.1 ∧ rTm G x y.2.2.2.1 := by
  obtain ⟨a1, a2, a3, a4⟩ := h
  obtain ⟨b1, b2, b3⟩ := a3 h3
  exact ⟨b1, hx, b2, a2, b3⟩
section
variable {f nv np r c m : Nat} {l : List pLt} {N : Nat → Nat} {R : Nat → List pRw}
theorem l_279 (hf : 6300 < f) (hr : r < 25) (hnv : nv ≤ 8) (hnp : np ≤ 16) (hc : c ≤ 6200) (hw : ∀ y ∈ l, wLt np nv y ∧ (y.1 ≠ 3 → 0 ≤ y.2.1)) (hfull : ∀ k, k < nv → m.testBit k = true) : ∀ (rest : List pLt) (k fu : Nat) (G : xG_), l.drop k = rest → k ≤ l.length → rest.length < fu → rLs G 2 r c l → G 0 39 = (r : Int) → rBn G m nv → rTb G np N R →
    ∃ G' b, g279_2 f fu (k : Int) G = some (b, G') ∧ xfu G G' ∧ isB b (sNC rest R (G 110)) := by
  intro rest
  induction rest with
  | nil =>
    intro k fu G h1 h2 h3 hL h39 hm hT
    obtain ⟨fu, rfl⟩ : ∃ t, fu = t + 1 := ⟨fu - 1, by have : 0 < fu := h3; omega⟩
    have hk : k = l.length := by
      have : (l.drop k).length = 0 := by rw [h1]; rfl
      rw [List.length_drop] at this
      omega
    have h19 : G 21 r = (l.length : Int) := hL.1
    refine ⟨G, 1, ?_, fun _ _ _ _ => rfl, .inl ⟨rfl, fun y hy => absurd hy (by simp)⟩⟩
    show g279_2b (g279_2 f fu) f _ _ = _
    unfold g279_2b
    rw [h39, if_pos (by omega), Int.toNat_natCast]
    show (if G 21 r ≤ (k : Int) then _ else _) = _
    rw [h19, if_pos (by omega)]
  | cons y rest ih =>
    intro k fu G h1 h2 h3 hL h39 hm hT
    have h3' : rest.length + 1 < fu := h3
    obtain ⟨fu, rfl⟩ : ∃ t, fu = t + 1 := ⟨fu - 1, by omega⟩
    have hk : k < l.length := by
      have : (l.drop k).length = (y :: rest).length := by rw [h1]
      rw [List.length_drop, List.length_cons] at this
      omega
    have hl8 := hL.2.1
    have hy : l.getD k dLt = y ∧ l.drop (k + 1) = rest := by
      rw [List.drop_eq_getElem_cons hk] at h1
      injection h1 with e1 e2
      exact ⟨by rw [getD_e hk]; exact e1, e2⟩
    have hym : y ∈ l := by
      rw [← hy.1, getD_e hk]
      exact List.getElem_mem hk
    have h19 : G 21 r = (l.length : Int) := hL.1
    have hLy := hL.2.2 k hk
    rw [hy.1] at hLy
    obtain ⟨hwy, hwy0⟩ := hw y hym
    have ex : xwr (xwr ((r : Int) * 8) + (k : Int)) = ((8 * r + k : Nat) : Int) := by
      rw [xwr_g ((r : Int) * 8) (by omega) (by omega), xwr_g _ (by omega) (by omega)]; omega
    have ek : xwr ((k : Int) + 1) = ((k + 1 : Nat) : Int) := by rw [xwr_g _ (by omega) (by omega)]; omega
    have hxx : 0 ≤ ((8 * r + k : Nat) : Int) ∧ ((8 * r + k : Nat) : Int) < 200 := by omega
    have h27 : G 27 (8 * r + k) = y.1 := hLy.1
    have e1 : g279_2 f (fu + 1) (k : Int) G = if ¬ y.1 = 2 then g279_51 (g279_2 f fu) f (k : Int) ((8 * r + k : Nat) : Int) G else (g280 f ((8 * r + k : Nat) : Int) G).bind fun R113 => (if (R113.1) = 0 then g279_51 (g279_2 f fu) f (k : Int) ((8 * r + k : Nat) : Int) R113.2 else (some (0, R113.2))) := by
      show g279_2b (g279_2 f fu) f _ _ = _
      unfold g279_2b
      rw [h39]
      simp only [Nat.reduceAdd, Int.toNat_natCast]
      rw [if_pos (by omega), h19, if_neg (by omega)]
      simp only [ex, if_pos hxx, Int.toNat_natCast]
      rw [h27]
    have goon : ∀ G1, xfu G G1 → ((y.1 = 2 → ¬ ∃ w, w ∈ R y.2.1.toNat ∧ sTs (G 110) y.2.2.2.1 w.1) ∧ (y.1 = 3 → sCm (G 110) y)) → ∃ G' b, g279_2 f fu ((k + 1 : Nat) : Int) G1 = some (b, G') ∧ xfu G G' ∧ isB b (sNC (y :: rest) R (G 110)) := by
      intro G1 hx hy1
      have e110 : G1 110 = G 110 := funext (fun j => hx _ _ (by omega) (by omega))
      obtain ⟨G', b, u1, u2, u3⟩ := ih (k + 1) fu G1 hy.2 (by omega) (by omega) (hL.v (fun a j _ _ => hx _ _ (by omega) (by omega))) (by rw [hx _ _ (by omega) (by omega)]; exact h39) ⟨by rw [hx _ _ (by omega) (by omega)]; exact hm.1, hm.2.1, fun j hj => by rw [e110]; exact hm.2.2 j hj⟩ (hT.ge (fun a j _ _ => hx _ _ (by omega) (by omega)))
      rw [e110] at u3
      refine ⟨G', b, u1, fun o j z1 z2 => by rw [u2 o j z1 z2, hx o j z1 z2], u3.iff ⟨fun q z hz => ?_, fun q z hz => q z (List.mem_cons_of_mem _ hz)⟩⟩
      rcases List.mem_cons.mp hz with hz | hz
      · rw [hz]; exact hy1
      · exact q z hz
    have skip : y.1 ≠ 3 → g279_51 (g279_2 f fu) f (k : Int) ((8 * r + k : Nat) : Int) G = g279_2 f fu ((k + 1 : Nat) : Int) G := by
      intro c
      unfold g279_51 g279_74
      rw [if_pos hxx, Int.toNat_natCast]
      show (if ¬ G 27 (8 * r + k) = 3 then _ else _) = _
      rw [h27, if_pos c, ek]
    rw [e1]
    by_cases c2 : y.1 = 2
    · have n2 : ¬ ¬ y.1 = 2 := fun q => q c2
      obtain ⟨t1, t2⟩ := hLy.tm (by omega) (by omega)
      obtain ⟨p, hp⟩ : ∃ p : Nat, y.2.1 = (p : Int) := ⟨y.2.1.toNat, by have := hwy0 (by omega); omega⟩
      have hwT : (∀ x ∈ y.2.2.2.1, wT1 nv x) ∧ y.2.1 < np := by
        rcases hwy with z | z
        · exact ⟨z.2.2.2.2.2, z.2.2.1⟩
        · omega
      obtain ⟨hR1, hR2⟩ := hT p (by omega)
      obtain ⟨b, k1, k2⟩ := l_280 (f := f) (by omega) (by omega) t2 (by rw [t1, hp]) hwT.1 hnv hR1 hm.2.1 hm.1
      have k3 : isB b (∃ w, w ∈ R y.2.1.toNat ∧ sTs (G 110) y.2.2.2.1 w.1) := by
        rw [hp, Int.toNat_natCast]
        exact k2.iff ⟨fun ⟨w, w1, w2⟩ => ⟨w, w1, (pFit_full hwT.1 hfull).mp w2⟩, fun ⟨w, w1, w2⟩ => ⟨w, w1, (pFit_full hwT.1 hfull).mpr w2⟩⟩
      rw [if_neg n2, k1, Option.bind_some]
      rcases k3 with ⟨b1, b2⟩ | ⟨b1, b2⟩
      · have n1 : ¬ (b, G).1 = 0 := fun q => by
          have : b = 0 := q
          omega
        rw [if_neg n1]
        exact ⟨G, 0, rfl, fun _ _ _ _ => rfl, .inr ⟨rfl, fun q => (q y List.mem_cons_self).1 c2 b2⟩⟩
      · have n1 : (b, G).1 = 0 := b1
        rw [if_pos n1]
        show ∃ G' b, g279_51 (g279_2 f fu) f (k : Int) ((8 * r + k : Nat) : Int) G = some (b, G') ∧ _
        rw [skip (by omega)]
        exact goon G (fun _ _ _ _ => rfl) ⟨fun _ => b2, fun q => by omega⟩
    · rw [if_pos c2]
      by_cases c3 : y.1 = 3
      · have hwE : isCs y.2.1 ∧ wEx nv y.2.2.2.2.1 ∧ wEx nv y.2.2.2.2.2 := by
          rcases hwy with z | z
          · omega
          · exact z.2
        have vl : ∀ {Q : pCd}, wEx nv Q → rVl G (qVm Q) (G 110) := fun hQ j hj => by
          have := qVm_in hQ.1 j hj
          exact ⟨by omega, rfl, (hm.2.2 j (hfull j this)).2⟩
        obtain ⟨G1, b, k1, k2, k3⟩ := l_281 (f := f) (v := G 110) hf (by omega) hLy c3 hc hwE.1 hwE.2.1 hwE.2.2 hnv (vl hwE.2.1) (vl hwE.2.2)
        have n3 : ¬ ¬ y.1 = 3 := fun q => q c3
        have e5 : g279_51 (g279_2 f fu) f (k : Int) ((8 * r + k : Nat) : Int) G = if ¬ b = 0 then g279_2 f fu ((k + 1 : Nat) : Int) G1 else some (0, G1) := by
          unfold g279_51 g279_74
          rw [if_pos hxx, Int.toNat_natCast]
          show (if ¬ G 27 (8 * r + k) = 3 then _ else _) = _
          rw [h27, if_neg n3, k1, Option.bind_some, ek]
        rw [e5]
        rcases k3 with ⟨b1, b2⟩ | ⟨b1, b2⟩
        · have n1 : ¬ b = 0 := by omega
          rw [if_pos n1]
          exact goon G1 k2 ⟨fun q => absurd q c2, fun _ => b2⟩
        · have n1 : ¬ ¬ b = 0 := fun q => q b1
          rw [if_neg n1]
          exact ⟨G1, 0, rfl, k2, .inr ⟨rfl, fun q => b2 ((q y List.mem_cons_self).2 c3)⟩⟩
      · rw [skip c3]
        exact goon G (fun _ _ _ _ => rfl) ⟨fun q => absurd q c2, fun q => absurd q c3⟩
/-- finishWay -/
theorem l_fw {G : xG_} (hf : 6300 < f) (hr : r < 25) (hnv : nv ≤ 8) (hnp : np ≤ 16) (hc : c ≤ 6200) (hw : ∀ y ∈ l, wLt np nv y ∧ (y.1 ≠ 3 → 0 ≤ y.2.1)) (hsafe : ∀ k, k < nv → (qBd l).testBit k = true) (hA : ∀ k, (qA l).testBit k = true → m.testBit k = true) (hL : rLs G 2 r c l) (h39 : G 0 39 = (r : Int)) (hm : rBn G m nv) (hT : rTb G np N R) :
    ∃ G1, xfv m G G1 ∧ ((g276 f G = some (xup2 G1 0 37 (m : Int)) ∧ ∀ v, vXt m (G 110) v → ¬ sNC l R v) ∨ ∃ m', rBn G1 m' nv ∧ (∀ k, k < nv → m'.testBit k = true) ∧ sNC l R (G1 110) ∧ (∀ v, vXt m (G 110) v → sNC l R v → ∀ k, k < nv → v k = G1 110 k) ∧ ∀ G2, g283 f G1 = some G2 → g276 f G = some (xup2 G2 0 37 (m : Int))) := by
  have hw1 : ∀ y ∈ l, wLt np nv y := fun y hy => (hw y hy).1
  obtain ⟨G1, b, m', k1, k2, k3⟩ := l_277 (f := f) hf hr hnv hc hw1 hL h39 hm
  have seq : ∀ v, sNC l R v → sEq v l := fun v h y hy c _ => (h y hy).2 c
  rcases k3 with ⟨b0, k4⟩ | ⟨b0, k4, k5, k6, k7⟩
  · refine ⟨G1, k2, .inl ⟨?_, fun v hv hs => k4 v hv (seq v hs)⟩⟩
    unfold g276 g276_23
    rw [k1, Option.bind_some, hm.1, b0, if_pos rfl]
    rfl
  · have full : ∀ k, k < nv → m'.testBit k = true := fun k hk => qBd_in k5 (fun j hj => k6 j (hA j hj)) k (hsafe k hk)
    obtain ⟨G2, b', u1, u2, u3⟩ := l_279 (f := f) hf hr hnv hnp hc hw full l 0 f G1 rfl (Nat.zero_le _) (by have := hL.2.1; omega) (hL.v (fun a j _ _ => k2.1 _ _ (by omega) (by omega) (by omega))) (by rw [k2.1 _ _ (by omega) (by omega) (by omega)]; exact h39) k4 (hT.ge (fun a j _ _ => k2.1 _ _ (by omega) (by omega) (by omega)))
    have e110 : G2 110 = G1 110 := funext (fun j => u2 _ _ (by omega) (by omega))
    have nb : ¬ (b, G1).1 = 0 := fun q => by
      have : b = 0 := q
      omega
    have x2 : xfv m G G2 := ⟨fun o j y1 y2 y3 => by rw [u2 o j (by omega) y3, k2.1 o j y1 y2 y3], fun k hk => by rw [e110]; exact k2.2 k hk⟩
    have e1 : g276 f G = if b' = 0 then some (xup2 G2 0 37 (m : Int)) else (g283 f G2).bind fun R117 => some (xup2 R117 0 37 (m : Int)) := by
      unfold g276 g276_23
      rw [k1, Option.bind_some, hm.1, if_neg nb]
      show Option.bind (g279 f G1) _ = _
      have u1' : g279 f G1 = some (b', G2) := u1
      rw [u1', Option.bind_some]
      rfl
    have uniq : ∀ v, vXt m (G 110) v → sNC l R v → ∀ k, k < nv → v k = G2 110 k := fun v hv hs k hk => by
      rw [e110]
      exact k7 v hv (seq v hs) k (full k hk)
    refine ⟨G2, x2, ?_⟩
    rcases u3 with ⟨c1, c2⟩ | ⟨c1, c2⟩
    · refine .inr ⟨m', ⟨by rw [u2 _ _ (by omega) (by omega)]; exact k4.1, k4.2.1, fun k hk => by rw [e110]; exact k4.2.2 k hk⟩, full, by rw [e110]; exact c2, uniq, fun G3 h => ?_⟩
      rw [e1, if_neg (by omega), h]
      rfl
    · refine .inl ⟨by rw [e1, if_pos c1], fun v hv hs => c2 ?_⟩
      rw [← e110]
      exact sNC_xt hw1 (uniq v hv hs) hs
end
