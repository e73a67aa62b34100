/-! THE CLASS: programFault(), its first three -/
def c62a (f : Nat) (a0 : Nat) (R150 : (Int × xT_)) : Option (Int × xT_) := ((cq_p 4 2 20 (a0) (R150.1) R150.2).bind fun T157 => ((cq_gi 4 2 20 (a0) T157).bind fun v161 => (if (v161) = (-1) then ((cq_is 4 20 (a0) T157).bind fun _ => ((c66 f (a0) T157).bind fun R164 => ((cq_p 4 2 20 (a0) (R164.1) R164.2).bind fun T171 => ((cq_gi 4 2 20 (a0) T171).bind fun v175 => (if (v175) = (-1) then ((cq_is 4 20 (a0) T171).bind fun _ => ((c67 f (a0) T171).bind fun R178 => ((cq_p 4 2 20 (a0) (R178.1) R178.2).bind fun T185 => ((cq_gi 4 2 20 (a0) T185).bind fun v189 => (if (v189) = (-1) then c62_56  f f (a0) (0) T185 else (some (3, T185))))))) else (some (2, T171))))))) else (some (1, T157)))))
theorem c62a_e (f : Nat) (a0 : Nat) (T : xT_) : c62 f a0 T = ((cq_is 4 20 (a0) T).bind fun _ => ((c65 f (a0) T).bind fun R150 => c62a f a0 R150)) := rfl
def c62b (f : Nat) (a0 : Nat) (R164 : (Int × xT_)) : Option (Int × xT_) := ((cq_p 4 2 20 (a0) (R164.1) R164.2).bind fun T171 => ((cq_gi 4 2 20 (a0) T171).bind fun v175 => (if (v175) = (-1) then ((cq_is 4 20 (a0) T171).bind fun _ => ((c67 f (a0) T171).bind fun R178 => ((cq_p 4 2 20 (a0) (R178.1) R178.2).bind fun T185 => ((cq_gi 4 2 20 (a0) T185).bind fun v189 => (if (v189) = (-1) then c62_56  f f (a0) (0) T185 else (some (3, T185))))))) else (some (2, T171)))))
theorem c62b_e (f : Nat) (a0 : Nat) (R150 : (Int × xT_)) : c62a f a0 R150 = ((cq_p 4 2 20 (a0) (R150.1) R150.2).bind fun T157 => ((cq_gi 4 2 20 (a0) T157).bind fun v161 => (if (v161) = (-1) then ((cq_is 4 20 (a0) T157).bind fun _ => ((c66 f (a0) T157).bind fun R164 => c62b f a0 R164)) else (some (1, T157))))) := rfl
def c62c (f : Nat) (a0 : Nat) (R178 : (Int × xT_)) : Option (Int × xT_) := ((cq_p 4 2 20 (a0) (R178.1) R178.2).bind fun T185 => ((cq_gi 4 2 20 (a0) T185).bind fun v189 => (if (v189) = (-1) then c62_56  f f (a0) (0) T185 else (some (3, T185)))))
theorem c62c_e (f : Nat) (a0 : Nat) (R164 : (Int × xT_)) : c62b f a0 R164 = ((cq_p 4 2 20 (a0) (R164.1) R164.2).bind fun T171 => ((cq_gi 4 2 20 (a0) T171).bind fun v175 => (if (v175) = (-1) then ((cq_is 4 20 (a0) T171).bind fun _ => ((c67 f (a0) T171).bind fun R178 => c62c f a0 R178)) else (some (2, T171))))) := rfl
section
variable {f : Nat} {S : Nat → Nat × Nat × Nat} {G : xG_} {m : Nat × Nat} {x : Int} {R : Int × xT_}
theorem st_62_0 (s72' : S 72 = (1, 4, 20)) (e : c65 f 72 (S, G, m) = some R) : c62 f 72 (S, G, m) = c62a f 72 R := by
  rw [c62a_e]
  simp (disch := omega) only [cq_gi, cq_gr, cq_a, cq_s, cq_p, cq_pr, cq_is, cq_ar, cq_ab, cq_ln, xq_nz, Option.bind_some, xup2_n, xup2_s, Int.toNat_natCast, Int.reduceToNat, if_pos, if_neg, true_and, and_true, and_self, eq_self, if_true, reduceIte, not_true_eq_false, not_false_eq_true, or_true, true_or, s72', e]
theorem st_62_1 (s72' : S 72 = (1, 4, 20)) : (x ≠ -1 → c62a f 72 (x, (S, G, m)) = some (1, (S, xup2 G 72 2 x, m))) ∧ (x = -1 → ∀ {R : Int × xT_}, c66 f 72 (S, xup2 G 72 2 x, m) = some R → c62a f 72 (x, (S, G, m)) = c62b f 72 R) := by
  refine ⟨fun c => ?_, fun c R e => ?_⟩
  · rw [c62b_e]
    simp (disch := omega) only [cq_gi, cq_gr, cq_a, cq_s, cq_p, cq_pr, cq_is, cq_ar, cq_ab, cq_ln, xq_nz, Option.bind_some, xup2_n, xup2_s, Int.toNat_natCast, Int.reduceToNat, if_pos, if_neg, true_and, and_true, and_self, eq_self, if_true, reduceIte, not_true_eq_false, not_false_eq_true, or_true, true_or, s72', c]
  · rw [c62b_e]
    rw [c] at e ⊢
    simp (disch := omega) only [cq_gi, cq_gr, cq_a, cq_s, cq_p, cq_pr, cq_is, cq_ar, cq_ab, cq_ln, xq_nz, Option.bind_some, xup2_n, xup2_s, Int.toNat_natCast, Int.reduceToNat, if_pos, if_neg, true_and, and_true, and_self, eq_self, if_true, reduceIte, not_true_eq_false, not_false_eq_true, or_true, true_or, s72', e]
theorem st_62_2 (s72' : S 72 = (1, 4, 20)) : (x ≠ -1 → c62b f 72 (x, (S, G, m)) = some (2, (S, xup2 G 72 2 x, m))) ∧ (x = -1 → ∀ {R : Int × xT_}, c67 f 72 (S, xup2 G 72 2 x, m) = some R → c62b f 72 (x, (S, G, m)) = c62c f 72 R) := by
  refine ⟨fun c => ?_, fun c R e => ?_⟩
  · rw [c62c_e]
    simp (disch := omega) only [cq_gi, cq_gr, cq_a, cq_s, cq_p, cq_pr, cq_is, cq_ar, cq_ab, cq_ln, xq_nz, Option.bind_some, xup2_n, xup2_s, Int.toNat_natCast, Int.reduceToNat, if_pos, if_neg, true_and, and_true, and_self, eq_self, if_true, reduceIte, not_true_eq_false, not_false_eq_true, or_true, true_or, s72', c]
  · rw [c62c_e]
    rw [c] at e ⊢
    simp (disch := omega) only [cq_gi, cq_gr, cq_a, cq_s, cq_p, cq_pr, cq_is, cq_ar, cq_ab, cq_ln, xq_nz, Option.bind_some, xup2_n, xup2_s, Int.toNat_natCast, Int.reduceToNat, if_pos, if_neg, true_and, and_true, and_self, eq_self, if_true, reduceIte, not_true_eq_false, not_false_eq_true, or_true, true_or, s72', e]
theorem st_62_3 (s72' : S 72 = (1, 4, 20)) : (x ≠ -1 → c62c f 72 (x, (S, G, m)) = some (3, (S, xup2 G 72 2 x, m))) ∧ (x = -1 → c62c f 72 (x, (S, G, m)) = c62_56 f f 72 0 (S, xup2 G 72 2 x, m)) := by
  refine ⟨fun c => ?_, fun c => ?_⟩
  · unfold c62c
    simp (disch := omega) only [cq_gi, cq_gr, cq_a, cq_s, cq_p, cq_pr, cq_is, cq_ar, cq_ab, cq_ln, xq_nz, Option.bind_some, xup2_n, xup2_s, Int.toNat_natCast, Int.reduceToNat, if_pos, if_neg, true_and, and_true, and_self, eq_self, if_true, reduceIte, not_true_eq_false, not_false_eq_true, or_true, true_or, s72', c]
  · unfold c62c
    rw [c]
    simp (disch := omega) only [cq_gi, cq_gr, cq_a, cq_s, cq_p, cq_pr, cq_is, cq_ar, cq_ab, cq_ln, xq_nz, Option.bind_some, xup2_n, xup2_s, Int.toNat_natCast, Int.reduceToNat, if_pos, if_neg, true_and, and_true, and_self, eq_self, if_true, reduceIte, not_true_eq_false, not_false_eq_true, or_true, true_or, s72']
end
