/-- EVERY SCRIPT OF AT MOST SIX INTS: the law answers 1, within the room -/
theorem xgood6 (ys : List Int32) (h : ys.length ≤ 6) : ∃ (n d : Nat) (Mf : xj_M), d ≤ 20 ∧ xj_law n d ys = some (.inl (some (.int 1)), Mf) ∧ Mf.1.length ≤ 2000 ∧ Mf.2 ≤ 1000000 := by
  obtain ⟨z0, hz0, K', g1, g2⟩ := xhead_ok ys
  have fin : ∀ (z : Nat) (Mf : xj_M), z ≤ 8192 → Mf.1.length ≤ 2000 → Mf.2 ≤ 1000000 → (∀ n, xj_loop (xj_call 524288 20) (none, 20, some ys) xj_lr (n + z) K' = some (.inl (some (.int 1)), Mf)) → ∃ (n d : Nat) (Mf : xj_M), d ≤ 20 ∧ xj_law n d ys = some (.inl (some (.int 1)), Mf) ∧ Mf.1.length ≤ 2000 ∧ Mf.2 ≤ 1000000 := by
    intro z Mf hz f1 f2 f3
    refine ⟨524288, 20, Mf, Nat.le_refl _, ?_, f1, f2⟩
    unfold xj_law
    have e : 524288 = 524288 - z - z0 + z + z0 := by omega
    have g3 := g2 (524288 - z - z0 + z)
    rw [← e] at g3
    exact g3.trans (f3 _)
  have short : xfinal (xL (xtops ys.length) 6 xKh) = true → ∃ (n d : Nat) (Mf : xj_M), d ≤ 20 ∧ xj_law n d ys = some (.inl (some (.int 1)), Mf) ∧ Mf.1.length ≤ 2000 ∧ Mf.2 ≤ 1000000 := by
    intro hf
    obtain ⟨z, Mf, hz, f1, f2, f3⟩ := xshort hf (by omega) g1
    exact fin z Mf (by omega) f1 f2 f3
  have hc : ys.length = 0 ∨ ys.length = 1 ∨ ys.length = 2 ∨ ys.length = 3 ∨ ys.length = 4 ∨ ys.length = 5 ∨ ys.length = 6 := by omega
  rcases hc with q | q | q | q | q | q | q
  · exact short (by rw [q]; exact xsh_0)
  · exact short (by rw [q]; exact xsh_1)
  · exact short (by rw [q]; exact xsh_2)
  · exact short (by rw [q]; exact xsh_3)
  · exact short (by rw [q]; exact xsh_4)
  · exact short (by rw [q]; exact xsh_5)
  · obtain ⟨z, Mf, hz, f1, f2, f3⟩ := xsix xstk6 xops q g1
    exact fin z Mf hz f1 f2 f3
