/-- WHATEVER THE ABSTRACT MACHINE ANSWERS, THE INTERPRETER ANSWERS -/
theorem xcall_ok {P : Nat → Option xmt} (hP : xpok P) {n : Nat} (hn : 262144 ≤ n) : ∀ d, xcok (xj_call n d) (xcall P d) := by
  intro d
  induction d with
  | zero => intro j as A r B vs M h; cases h
  | succ d ih =>
    intro j as A r B vs M h hv hA
    obtain ⟨m, hm, c, hq⟩ := xcall_in h
    obtain ⟨row, r1, r2⟩ := hP j m hm
    have hS : xsr none ((xj_tab j, d, (none : Option (List Int32))) : xj_X).2.2 := fun bx e => by cases e
    have hKr : xKr (0, xl_args as, [], A) (0, lv_args 0 vs, [], M) := ⟨rfl, xlr_args hv, trivial, hA⟩
    have hrun := xrun_ok (call := xj_call n d) (ac := xcall P d) (X := (xj_tab j, d, none)) (row := row) (S := none) (m := m) ih hS r2 m.1 (0, xl_args as, [], A) (0, lv_args 0 vs, [], M) (.inr (r, B)) hKr hq
    obtain ⟨z, hz, r', M', g1, g2, g3⟩ := hrun
    have hz3 : 2 ^ m.1 ≤ 2 ^ 18 := Nat.pow_le_pow_right (by decide) r2.2.1
    have hz4 : (2 : Nat) ^ 18 = 262144 := by decide
    have hz2 : z ≤ 262144 := Nat.le_trans hz (Nat.le_trans hz3 (Nat.le_of_eq hz4))
    have hlen : (lg_sl vs).length ≤ row.2.2.2.1 := by
      rw [lg_sl_sum vs (xvs_cat _ _ hv), xsum_ok _ _ hv, ← r2.1]; exact c
    have g4 := g3 (n - z)
    rw [show n - z + z = n from Nat.sub_add_cancel (Nat.le_trans hz2 hn)] at g4
    exact ⟨r', M', (xj_call_s r1 hlen).trans g4, g1, g2⟩
