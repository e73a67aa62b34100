/-! The house: what always holds of its lines, behind back, branch, merge, line, forget -/
theorem lUp_f {lns : Nat → sLn} {hr : Nat} {g : sLn → sLn} : (fun k => if k = hr then g (lns k) else lns k) = lUp lns hr (g (lns hr)) := by
  funext k
  by_cases d : k = hr
  · rw [d, lUp_s, if_pos rfl]
  · rw [lUp_n d, if_neg d]
section
variable {T : List (List Int)} {lns lns' : Nat → sLn} {hr : Nat}
theorem lInv.fk {ln : sLn} {fk : Int × Int} (h : lInv T ln) : lInv T (lnK ln fk) := h
theorem lInv.bk {ln : sLn} {i : Nat} (h : lInv T ln) (hi : i ≤ ln.2.1.2.1) : lInv T (lnB ln i) := ⟨fun r r1 r2 => h.1 r r1 (by have r2' : r ≤ ln.2.1.1 + i := r2; omega), fun r r1 r2 => h.2.1 r r1 (by have r2' : r ≤ ln.2.1.1 + i := r2; omega), .inl rfl⟩
theorem lInv.br {ln : sLn} {i : Nat} {fk : Int × Int} (h : lInv T ln) (hi : i ≤ ln.2.1.2.1) : lInv T (lnC ln i fk) := ⟨fun r r1 r2 => h.1 r r1 (by have r2' : r ≤ ln.2.1.1 + i := r2; omega), fun r r1 r2 => h.2.1 r r1 (by have r2' : r ≤ ln.2.1.1 + i := r2; omega), .inl rfl⟩
theorem hInv.bk {r v : Int} (h : hInv T lns) (hst : stBk lns hr r v lns') : hInv T lns' := by
  rcases hst with ⟨i, hi, er, _, e⟩ | ⟨_, _, e⟩
  · have es : lns' hr = lnK (lnB (lns hr) i) (fkB r (fkL (hr : Int) r (lns hr).2.2.2.2)) := by rw [e]; exact if_pos rfl
    have en : ∀ k, k ≠ hr → lns' k = lnK (lns k) (fkL (hr : Int) r (lns k).2.2.2.2) := fun k hk => by rw [e]; exact if_neg hk
    have eH : ∀ k, (lns' k).1 = (lns k).1 := fun k => by
      by_cases d : k = hr
      · rw [d, es]; rfl
      · rw [en k d]; rfl
    refine ⟨fun y hy => ?_, fun y hy => ?_⟩
    · by_cases d : y = hr
      · rw [d] at hy ⊢
        rw [es]
        exact (h.1 hr hy).bk hi
      · rw [en y d]; exact h.1 y hy
    · -- a fork that stays
      have keep : (lns' y).2.2.2.2.1 ≠ -1 → (lns' y).2.2.2.2 = (lns y).2.2.2.2 ∧ ¬ ((lns y).2.2.2.2.1 = (hr : Int) ∧ r < (lns y).2.2.2.2.2) ∧ (y = hr → ¬ ((lns y).2.2.2.2.1 ≠ -1 ∧ r < (lns y).2.2.2.2.2)) := fun hne => by
        by_cases d : y = hr
        · rw [d] at hne ⊢
          rw [es] at hne ⊢
          have hne' : (fkB r (fkL (hr : Int) r (lns hr).2.2.2.2)).1 ≠ -1 := hne
          show fkB r (fkL (hr : Int) r (lns hr).2.2.2.2) = _ ∧ _
          unfold fkB at hne' ⊢
          by_cases c1 : (fkL (hr : Int) r (lns hr).2.2.2.2).1 ≠ -1 ∧ r < (fkL (hr : Int) r (lns hr).2.2.2.2).2
          · rw [if_pos c1] at hne'; exact absurd rfl hne'
          · rw [if_neg c1] at hne' ⊢
            unfold fkL at hne' c1 ⊢
            by_cases c2 : (lns hr).2.2.2.2.1 = (hr : Int) ∧ r < (lns hr).2.2.2.2.2
            · rw [if_pos c2] at hne'; exact absurd rfl hne'
            · rw [if_neg c2] at c1 ⊢
              exact ⟨rfl, c2, fun _ => c1⟩
        · rw [en y d] at hne ⊢
          have hne' : (fkL (hr : Int) r (lns y).2.2.2.2).1 ≠ -1 := hne
          show fkL (hr : Int) r (lns y).2.2.2.2 = _ ∧ _
          unfold fkL at hne' ⊢
          by_cases c2 : (lns y).2.2.2.2.1 = (hr : Int) ∧ r < (lns y).2.2.2.2.2
          · rw [if_pos c2] at hne'; exact absurd rfl hne'
          · rw [if_neg c2]
            exact ⟨rfl, c2, fun q => absurd q d⟩
      by_cases c0 : (lns' y).2.2.2.2.1 = -1
      · exact .inl c0
      · obtain ⟨k1, k2, k3⟩ := keep c0
        rw [k1] at c0
        rcases h.2 y hy with q | ⟨x, r', q1, q2, q3, q4, q5, q6⟩
        · exact absurd q c0
        · rw [q3] at k2 k3
          have lhr : (lns' hr).2.1.1 + (lns' hr).2.1.2.1 = (lns hr).2.1.1 + i := by rw [es]; rfl
          have lln : ∀ k, k ≠ hr → (lns' k).2.1 = (lns k).2.1 := fun k hk => by rw [en k hk]; rfl
          refine .inr ⟨x, r', q1, q2, by rw [k1]; exact q3, ?_, ?_, by rw [eH, eH]; exact q6⟩
          · by_cases dx : x = hr
            · rw [dx, lhr]
              have : ¬ (r < (r' : Int)) := fun z => k2 ⟨by rw [dx], z⟩
              omega
            · rw [lln x dx]; exact q4
          · by_cases dy : y = hr
            · rw [dy, lhr]
              have : ¬ (r < (r' : Int)) := fun z => k3 dy ⟨by show (x : Int) ≠ -1; omega, z⟩
              omega
            · rw [lln y dy]; exact q5
  · rw [e]; exact h
theorem hInv.br {x r v : Int} (hh : hr < 4) (h : hInv T lns) (hst : stBr lns hr x r v lns') : hInv T lns' := by
  rcases hst with ⟨x0, x1, x2, i, hi, er, _, e⟩ | ⟨_, _, e⟩
  · obtain ⟨x, rfl⟩ : ∃ z : Nat, x = (z : Int) := ⟨x.toNat, by omega⟩
    rw [Int.toNat_natCast] at e
    have hxr : x ≠ hr := by omega
    have es : lns' x = lnC (lns hr) i ((hr : Int), r) := by rw [e]; exact if_pos rfl
    have en : ∀ k, k ≠ x → lns' k = lnK (lns k) (fkL (x : Int) (-1) (lns k).2.2.2.2) := fun k hk => by rw [e]; exact if_neg hk
    have eHn : ∀ k, k ≠ x → (lns' k).1 = (lns k).1 ∧ (lns' k).2.1 = (lns k).2.1 := fun k hk => by rw [en k hk]; exact ⟨rfl, rfl⟩
    refine ⟨fun y hy => ?_, fun y hy => ?_⟩
    · by_cases d : y = x
      · rw [d, es]; exact (h.1 hr hh).br hi
      · rw [en y d]; exact h.1 y hy
    · by_cases d : y = x
      · rw [d]
        refine .inr ⟨hr, (lns hr).2.1.1 + i, hh, fun q => hxr q.symm, ?_, ?_, ?_, ?_⟩
        · rw [es, er]; rfl
        · rw [(eHn hr (fun q => hxr q.symm)).2]; omega
        · rw [es]; exact Nat.le_refl _
        · rw [(eHn hr (fun q => hxr q.symm)).1, es]; rfl
      · have ef : (lns' y).2.2.2.2 = fkL (x : Int) (-1) (lns y).2.2.2.2 := by rw [en y d]; rfl
        rcases h.2 y hy with q | ⟨x', r', q1, q2, q3, q4, q5, q6⟩
        · refine .inl ?_
          rw [ef]
          unfold fkL
          split
          · rfl
          · exact q
        · by_cases dx : x' = x
          · refine .inl ?_
            rw [ef, q3]
            unfold fkL
            rw [if_pos ⟨by rw [dx], by show (-1 : Int) < (r' : Int); omega⟩]
          · refine .inr ⟨x', r', q1, q2, ?_, by rw [(eHn x' dx).2]; exact q4, by rw [(eHn y d).2]; exact q5, by rw [(eHn y d).1, (eHn x' dx).1]; exact q6⟩
            rw [ef, q3]
            unfold fkL
            rw [if_neg (fun z => dx (by have : ((x' : Nat) : Int) = (x : Int) := z.1; omega))]
  · rw [e]; exact h
theorem hInv.mg {k v : Int} {mt mt' : Int × List Int} (hh : hr < 4) (h : hInv T lns) (hst : stMg T lns hr k mt v mt' lns') : hInv T lns' := by
  rcases hst with ⟨_, _, _, e⟩ | ⟨_, _, _, _, e⟩ | ⟨_, s, Ma, Mb, Mz, _, _, _, _, ⟨_, _, _, _, _, e⟩ | ⟨_, _, ⟨_, _, e⟩ | ⟨_, _, e⟩⟩⟩
  · rw [e]; exact h
  · rw [e]; exact h
  · rw [e]; exact h
  · rw [e]; exact h
  · rw [e, lUp_f (g := fun l => lnP l _)]
    exact h.pd (h.1 hr hh).2.2
end
