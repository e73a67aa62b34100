/-! THE CLASS: the SHEET: settle(), up to its end -/
section
variable {f ah be ln tp ac A sl : Nat} {S : Nat → Nat × Nat × Nat} {G : xG_} {m : Nat × Nat} {ch : Int}
/-- what settle() writes first -/
def sG9 (G : xG_) (be tp ac : Nat) : xG_ := xup2 (xup2 (xup2 G 216 0 (be : Int)) be 2 (tp : Int)) be 3 (ac : Int)
theorem sG9_n {a j : Nat} (h1 : ¬ (a = 216 ∧ j = 0)) (h2 : ¬ (a = be ∧ (j = 2 ∨ j = 3))) : sG9 G be tp ac a j = G a j := by
  unfold sG9
  rw [xup2_n (by omega), xup2_n (by omega), xup2_n (by omega)]
theorem sG9_s (hb : be ≠ 216) : sG9 G be tp ac 216 0 = (be : Int) ∧ sG9 G be tp ac be 2 = (tp : Int) ∧ sG9 G be tp ac be 3 = (ac : Int) := by
  unfold sG9
  refine ⟨?_, ?_, xup2_s _ _ _ _⟩
  · rw [xup2_n (by omega), xup2_n (by omega), xup2_s]
  · rw [xup2_n (by omega), xup2_s]
theorem sw_99s (hs : cSs S) (hb : S be = (1, 2, 8)) (ha : S ah = (1, 2, 8)) (hne : be ≠ 216 ∧ ah ≠ 216 ∧ be ≠ ah) (h2 : G ah 2 = (tp : Int)) (h3 : G ah 3 = (ac : Int)) : c99 f 216 ah be ln ch (S, G, m) = c99_27 f f 216 ah be ln ch 0 0 (S, sG9 G be tp ac, m) := by
  have e2 : xup2 G 216 0 (be : Int) ah 2 = (tp : Int) := by rw [xup2_n (by omega)]; exact h2
  have e3 : xup2 (xup2 G 216 0 (be : Int)) be 2 (tp : Int) ah 3 = (ac : Int) := by rw [xup2_n (by omega), xup2_n (by omega)]; exact h3
  unfold c99
  rw [o_pr (s216 hs), Option.bind_some, o_gr ha e2, Option.bind_some, o_pr hb, Option.bind_some, o_gr ha e3, Option.bind_some, o_pr hb, Option.bind_some]
  rfl
/-- settle(), its texts -/
theorem k_99a (hf : 100 < f) (hs : cSs S) (hb : S be = (1, 2, 8)) (ha : S ah = (1, 2, 8)) (hne : be ≠ 216 ∧ ah ≠ 216 ∧ be ≠ ah) (h2 : G ah 2 = (tp : Int)) (h3 : G ah 3 = (ac : Int)) (h5 : G be 5 = 0) (hE : sE9 S (sG9 G be tp ac) A ah be ln tp) : ∃ fu S' G' m' n u, c99 f 216 ah be ln ch (S, G, (A, sl)) = c99_27 f (fu + 1) 216 ah be ln ch u ((72 : Nat) : Int) (S', G', m') ∧ sI9 S (sG9 G be tp ac) A sl be ln tp 72 S' G' m' n u := by
  have e0 := sw_99s (f := f) (ln := ln) (ch := ch) (m := (A, sl)) hs hb ha hne h2 h3
  obtain ⟨fu, S', G', m', n, u, a1, a2, a3⟩ := k_99l (f := f) (sl := sl) (ch := ch) hE 72 0 f S (sG9 G be tp ac) (A, sl) 0 0 (by omega) (by omega) ⟨fun _ _ => rfl, fun _ _ _ _ => rfl, ⟨by rw [sG9_n (by omega) (by omega)]; exact h5, Nat.le_refl _, rfl⟩, .inl ⟨rfl, (sG9_s hne.1).2.1, rfl, rfl, fun y hy => absurd hy (Nat.not_lt_zero y)⟩, .inr ⟨rfl, fun ⟨y, y1, _⟩ => absurd y1 (Nat.not_lt_zero y)⟩⟩
  obtain ⟨fu, rfl⟩ : ∃ t, fu = t + 1 := ⟨fu - 1, by omega⟩
  exact ⟨fu, S', G', m', n, u, e0.trans a2, a3⟩
end
