/-! THE CLASS: the WAYS that it finds are those of the rule -/
section
variable {Ls : List pLt} {a nv : Nat} {br : Int} {R : Nat → List pRw} {lo hi : Nat → Int}
/-- a LITERAL holds -/
def litO (Ls : List pLt) (R : Nat → List pRw) (lo hi : Nat → Int) (l : Nat) (v : Nat → Int) : Prop :=
  ((Ls.getD l dLt).1 = 1 → ∃ r, r ∈ R (Ls.getD l dLt).2.1.toNat ∧ (lo l ≤ r.2 ∧ r.2 ≤ hi l) ∧ sTs v (Ls.getD l dLt).2.2.2.1 r.1) ∧
  ((Ls.getD l dLt).1 = 2 → ¬ ∃ r, r ∈ R (Ls.getD l dLt).2.1.toNat ∧ (lo l ≤ r.2 ∧ r.2 ≤ hi l) ∧ sTs v (Ls.getD l dLt).2.2.2.1 r.1) ∧
  ((Ls.getD l dLt).1 = 3 → sCm v (Ls.getD l dLt))
/-- what the rule and its rows keep to -/
def wsC (Ls : List pLt) (nv : Nat) (R : Nat → List pRw) : Prop := ∀ l, l < Ls.length → ((Ls.getD l dLt).1 = 1 ∨ (Ls.getD l dLt).1 = 2) ∧ (∀ y ∈ (Ls.getD l dLt).2.2.2.1, wT1 nv y) ∧ (R (Ls.getD l dLt).2.1.toNat).Pairwise rwLt ∧ (∀ r ∈ R (Ls.getD l dLt).2.1.toNat, r.1.length = (Ls.getD l dLt).2.2.2.1.length) ∨ (Ls.getD l dLt).1 = 3 ∧ wEx nv (Ls.getD l dLt).2.2.2.2.1 ∧ wEx nv (Ls.getD l dLt).2.2.2.2.2 ∧ ((Ls.getD l dLt).2.1 = 61 ∨ (Ls.getD l dLt).2.1 = 257 ∨ (Ls.getD l dLt).2.1 = 60 ∨ (Ls.getD l dLt).2.1 = 258 ∨ (Ls.getD l dLt).2.1 = 62 ∨ (Ls.getD l dLt).2.1 = 259)
theorem sTs_on {T : pCd} {v w : Nat → Int} {xs : List Int} (hs : sTs v T xs) (h : ∀ k, (qT T).testBit k = true → w k = v k) : sTs w T xs := fun k hk => ⟨fun q => by rw [h _ (qT_get.mpr ⟨k, hk, q, rfl⟩)]; exact (hs k hk).1 q, (hs k hk).2⟩
theorem fit_iff {T : pCd} {l h : Int} {b nv : Nat} {vl : Nat → Int} {r : pRw} (hT : ∀ y ∈ T, wT1 nv y) (hl : r.1.length = T.length) : (∃ b' v', fitR T l h b vl r = some (b', v')) ↔ (l ≤ r.2 ∧ r.2 ≤ h) ∧ ∃ w, (∀ k, b.testBit k = true → w k = vl k) ∧ sTs w T r.1 := by
  constructor
  · rintro ⟨b', v', e⟩
    unfold fitR at e
    split at e
    · rename_i c
      obtain ⟨m1, m2, m3, m4⟩ := mtc_ok T r.1 b vl b' v' hT (by omega) e
      exact ⟨c, v', m2, m3⟩
    · cases e
  · rintro ⟨c, w, w1, w2⟩
    obtain ⟨b', v', e1, e2⟩ := mtc_some (w := w) T r.1 b vl hT (by omega) w1 w2
    exact ⟨b', v', by unfold fitR; rw [if_pos c]; exact e1⟩
theorem fit_w {T : pCd} {l h : Int} {b nv : Nat} {vl w : Nat → Int} {r : pRw} (hT : ∀ y ∈ T, wT1 nv y) (hl : r.1.length = T.length) (c : l ≤ r.2 ∧ r.2 ≤ h) (w1 : ∀ k, b.testBit k = true → w k = vl k) (w2 : sTs w T r.1) : ∃ v', fitR T l h b vl r = some (b ||| qT T, v') ∧ ∀ k, (b ||| qT T).testBit k = true → v' k = w k := by
  obtain ⟨b', v', e1, e2⟩ := mtc_some (w := w) T r.1 b vl hT (by omega) w1 w2
  have m1 := (mtc_ok T r.1 b vl b' v' hT (by omega) e1).1
  subst m1
  exact ⟨v', by unfold fitR; rw [if_pos c]; exact e1, e2⟩
theorem fit_s {T : pCd} {l h : Int} {b nv : Nat} {vl : Nat → Int} {r : pRw} {b' : Nat} {v' : Nat → Int} (hT : ∀ y ∈ T, wT1 nv y) (hl : r.1.length = T.length) (e : fitR T l h b vl r = some (b', v')) : (l ≤ r.2 ∧ r.2 ≤ h) ∧ b' = b ||| qT T ∧ (∀ k, b.testBit k = true → v' k = vl k) ∧ sTs v' T r.1 := by
  unfold fitR at e
  split at e
  · rename_i c
    obtain ⟨m1, m2, m3, m4⟩ := mtc_ok T r.1 b vl b' v' hT (by omega) e
    exact ⟨c, m1, m2, m3⟩
  · cases e
theorem wyS_mem {P : (Nat → Int) → List (Nat → Int) → Nat → Prop} : ∀ {D V : List (Nat → Int)} {k : Nat}, wyS P D V k → (∀ v ∈ V, ∃ d ∈ D, ∃ V1 k1, P d V1 k1 ∧ v ∈ V1) ∧ ∀ d ∈ D, ∃ V1 k1, P d V1 k1 ∧ ∀ v ∈ V1, v ∈ V
  | [], V, k, h => by
    obtain ⟨rfl, _⟩ := wyS_n h
    exact ⟨(fun v hv => nomatch hv), (fun d hd => nomatch hd)⟩
  | d :: D, V, k, h => by
    obtain ⟨V1, k1, V2, k2, h1, h2, rfl, _⟩ := wyS_c h
    obtain ⟨i1, i2⟩ := wyS_mem h2
    refine ⟨fun v hv => ?_, fun e he => ?_⟩
    · rcases List.mem_append.mp hv with q | q
      · exact ⟨d, List.mem_cons_self, V1, k1, h1, q⟩
      · obtain ⟨e, e1, e2⟩ := i1 v q
        exact ⟨e, List.mem_cons_of_mem _ e1, e2⟩
    · rcases List.mem_cons.mp he with q | q
      · subst q
        exact ⟨V1, k1, h1, fun v hv => List.mem_append.mpr (.inl hv)⟩
      · obtain ⟨V3, k3, e1, e2⟩ := i2 e q
        exact ⟨V3, k3, e1, fun v hv => List.mem_append.mpr (.inr (e2 v hv))⟩
/-- a compare that holds -/
theorem cmpV_s {y : pLt} {b b' : Nat} {vl v' : Nat → Int} (h3 : y.1 = 3) (hq : qBh y b ≠ none) (w1 : wC nv y.2.2.2.2.1) (w2 : wC nv y.2.2.2.2.2) (hk : y.2.1 = 61 ∨ y.2.1 = 257 ∨ y.2.1 = 60 ∨ y.2.1 = 258 ∨ y.2.1 = 62 ∨ y.2.1 = 259) (h : cmpV y b vl = some (b', v')) : (∀ k, b.testBit k = true → v' k = vl k) ∧ sCm v' y := by
  have hlv : qLv y = qVm y.2.2.2.2.1 ||| qVm y.2.2.2.2.2 := by unfold qLv; rw [if_pos h3]
  have hq' : qSub (qLv y) b ∨ (y.2.1 = 61 ∧ (qAl2 y.2.2.2.2.1 ∧ qSub (qVm y.2.2.2.2.2) b ∨ qAl2 y.2.2.2.2.2 ∧ qSub (qVm y.2.2.2.2.1) b)) := by
    unfold qBh at hq
    by_cases c : y.1 = 1 ∨ qSub (qLv y) b
    · rcases c with c | c
      · omega
      · exact .inl c
    · rw [if_neg c] at hq
      by_cases c2 : y.1 = 3 ∧ y.2.1 = 61 ∧ (qAl2 y.2.2.2.2.1 ∧ qSub (qVm y.2.2.2.2.2) b ∨ qAl2 y.2.2.2.2.2 ∧ qSub (qVm y.2.2.2.2.1) b)
      · exact .inr ⟨c2.2.1, c2.2.2⟩
      · rw [if_neg c2] at hq
        exact absurd rfl hq
  have nsub : ∀ {E : pCd} {x : Nat}, E = [(2, (x : Int))] → b.testBit x = false → ¬ qSub (qVm E) b := fun {E x} hE hb hs => by
    have := qSub_t.mp hs x (by rw [hE]; exact qVm_m (List.mem_singleton.mpr rfl) rfl rfl)
    rw [hb] at this; cases this
  have one : ∀ {E F : pCd} {x : Nat} {z : Int}, E = [(2, (x : Int))] → wC nv F → b.testBit x = false → qSub (qVm F) b → qEv vl F = some z → (∀ k, b.testBit k = true → fUpd vl x z k = vl k) ∧ qEv (fUpd vl x z) E = some z ∧ qEv (fUpd vl x z) F = some z := fun {E F x z} hE hF hb hs ho => by
    have up : ∀ k, b.testBit k = true → fUpd vl x z k = vl k := fun k hk => by
      unfold fUpd
      rw [if_neg (fun q => by rw [q, hb] at hk; cases hk)]
    refine ⟨up, ?_, ?_⟩
    · rw [hE]
      show some (fUpd vl x z (x : Int).toNat) = some z
      unfold fUpd
      rw [Int.toNat_natCast, if_pos rfl]
    · rw [qEv_xt hF (w := vl) (fun k hk => up k (qSub_t.mp hs k hk))]; exact ho
  unfold cmpV at h
  split at h
  · rename_i c
    obtain ⟨x, hx, hE⟩ := qAl_is w1 c.2.1
    have ex : (y.2.2.2.2.1.getD 0 (0, 0)).2.toNat = x := by rw [hE]; rfl
    rw [ex] at h
    have cb := c.2.2
    rw [ex] at cb
    cases ho : qEv vl y.2.2.2.2.2 with
    | none => rw [ho] at h; cases h
    | some z =>
      rw [ho] at h
      injection h with h
      injection h with _ h
      have hR : qSub (qVm y.2.2.2.2.2) b := by
        rcases hq' with q | ⟨_, ⟨_, q⟩ | ⟨_, q⟩⟩
        · rw [hlv] at q; exact (qSub_or q).2
        · exact q
        · exact absurd q (nsub hE cb)
      obtain ⟨o1, o2, o3⟩ := one hE w2 cb hR ho
      rw [← h]
      exact ⟨o1, z, z, o2, o3, (cmB_c (.inl c.1)).2.mp (by unfold cmB; rw [if_pos c.1, if_pos rfl])⟩
  · rename_i n1
    split at h
    · rename_i c
      obtain ⟨x, hx, hE⟩ := qAl_is w2 c.2.1
      have ex : (y.2.2.2.2.2.getD 0 (0, 0)).2.toNat = x := by rw [hE]; rfl
      rw [ex] at h
      have cb := c.2.2
      rw [ex] at cb
      cases ho : qEv vl y.2.2.2.2.1 with
      | none => rw [ho] at h; cases h
      | some z =>
        rw [ho] at h
        injection h with h
        injection h with _ h
        have hL : qSub (qVm y.2.2.2.2.1) b := by
          rcases hq' with q | ⟨_, ⟨_, q⟩ | ⟨_, q⟩⟩
          · rw [hlv] at q; exact (qSub_or q).1
          · exact absurd q (nsub hE cb)
          · exact q
        obtain ⟨o1, o2, o3⟩ := one hE w1 cb hL ho
        rw [← h]
        exact ⟨o1, z, z, o3, o2, (cmB_c (.inl c.1)).2.mp (by unfold cmB; rw [if_pos c.1, if_pos rfl])⟩
    · cases o1 : qEv vl y.2.2.2.2.1 with
      | none => rw [o1] at h; cases h
      | some x1 =>
        cases o2 : qEv vl y.2.2.2.2.2 with
        | none => rw [o1, o2] at h; cases h
        | some x2 =>
          rw [o1, o2] at h
          have h' : (if cmB y.2.1 x1 x2 = 1 then some (b, vl) else none) = some (b', v') := h
          split at h'
          · rename_i cc
            injection h' with h'
            injection h' with _ h'
            rw [← h']
            exact ⟨fun _ _ => rfl, x1, x2, o1, o2, (cmB_c hk).2.mp cc⟩
          · cases h'
/-- what a choice gives -/
theorem chs_s {p : Nat} {pr : List Nat} {b : Nat} {vl d : Nat → Int} {D : List (Nat → Int)} (hC : wsC Ls nv R) (hp : p < Ls.length) (hq : qBh (Ls.getD p dLt) b ≠ none) (h : chs Ls a br R lo hi p pr b vl D) (hd : d ∈ D) : (∀ k, b.testBit k = true → d k = vl k) ∧ ∀ v, (∀ k, (b ||| qLv (Ls.getD p dLt)).testBit k = true → v k = d k) → litO Ls R lo hi p v := by
  rcases hC p hp with ⟨c1, c2, c3, c4⟩ | ⟨c1, c2, c3, c4⟩
  · rcases h with ⟨h1, D0, h2, h3, h4⟩ | ⟨h1, h2, h3⟩ | ⟨h1, _⟩
    · obtain ⟨z, z1, z2⟩ : ∃ z, z ∈ D0 ∧ z.2 = d := by
        by_cases cm : mre Ls a br (Ls.getD p dLt) pr b
        · rw [h3 cm] at hd
          exact List.mem_map.mp hd
        · rw [h4 cm] at hd
          obtain ⟨z, z1, z2⟩ := List.mem_map.mp hd
          exact ⟨z, List.mem_of_mem_take z1, z2⟩
      obtain ⟨y1, y2, y3, b', y4⟩ := (h2.2 z).mp z1
      have hm : (R (Ls.getD p dLt).2.1.toNat).getD z.1 dRw ∈ R (Ls.getD p dLt).2.1.toNat := by rw [getD_e y2]; exact List.getElem_mem y2
      obtain ⟨s1, s2, s3, s4⟩ := fit_s c2 (c4 _ hm) y4
      rw [z2] at s3 s4
      refine ⟨s3, fun v hv => ⟨fun _ => ⟨_, hm, s1, sTs_on s4 (fun k hk => hv k ?_)⟩, fun q => by omega, fun q => by omega⟩⟩
      rw [qT_lv (by omega), Nat.testBit_or, hk, Bool.or_true]
    · by_cases cn : ∀ j, j < (R (Ls.getD p dLt).2.1.toNat).length → fitR (Ls.getD p dLt).2.2.2.1 (lo p) (hi p) b vl ((R (Ls.getD p dLt).2.1.toNat).getD j dRw) = none
      · rw [h2 cn] at hd
        have ed := List.mem_singleton.mp hd
        subst ed
        refine ⟨fun _ _ => rfl, fun v hv => ⟨fun q => by omega, fun _ ⟨r, r1, r2, r3⟩ => ?_, fun q => by omega⟩⟩
        obtain ⟨j, hj, ej⟩ := List.getElem_of_mem r1
        have nn := cn j hj
        rw [getD_e hj, ej] at nn
        obtain ⟨v', e, _⟩ := fit_w (vl := d) (w := v) c2 (c4 r r1) r2 (fun k hk => hv k (by rw [Nat.testBit_or, hk]; rfl)) r3
        rw [nn] at e; cases e
      · rw [h3 cn] at hd; cases hd
    · omega
  · rcases h with ⟨h1, _⟩ | ⟨h1, _⟩ | ⟨h1, h2, h3⟩
    · omega
    · omega
    · cases hc : cmpV (Ls.getD p dLt) b vl with
      | none => rw [h3 hc] at hd; cases hd
      | some z =>
        obtain ⟨b', v'⟩ := z
        rw [h2 _ _ hc] at hd
        have ed := List.mem_singleton.mp hd
        subst ed
        have hB := cmpV_b c1 hq hc
        have hlv : qLv (Ls.getD p dLt) = qVm (Ls.getD p dLt).2.2.2.2.1 ||| qVm (Ls.getD p dLt).2.2.2.2.2 := by unfold qLv; rw [if_pos c1]
        have key := cmpV_s c1 hq c2.1 c3.1 c4 hc
        refine ⟨key.1, fun v hv => ⟨fun q => by omega, fun q => by omega, fun _ => ?_⟩⟩
        obtain ⟨x1, x2, e1, e2, e3⟩ := key.2
        refine ⟨x1, x2, ?_, ?_, e3⟩
        · rw [qEv_xt c2.1 (w := d) (fun k hk => hv k (by rw [hlv, Nat.testBit_or, Nat.testBit_or, hk, Bool.true_or, Bool.or_true]))]; exact e1
        · rw [qEv_xt c3.1 (w := d) (fun k hk => hv k (by rw [hlv, Nat.testBit_or, Nat.testBit_or, hk, Bool.or_true, Bool.or_true]))]; exact e2
end
