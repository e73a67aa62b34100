/-! merge: differences, whole -/
section
variable {f o h p b : Nat} {nm sh : Int}
theorem l_328_6 {B Z : List pFc} (hf : 3500 < f) (hh : h < 4) (ho : o = 123 + 29 * h) (hsh : sh = 0 ∨ sh = 1) (hb : isFb (b + 1)) (hbo : b + 4 < o ∨ o + 28 < b + 1) (hsB : B.Pairwise fLt) (hsZ : Z.Pairwise fLt) (hp : p < 16) : ∀ (d i fu x5 : Nat) (G : xG_) (ps : List pPe), i + d = Z.length → d < fu → x5 + d + B.length < 100000 → rFa G (b + 1) B → rFa G 253 Z → G (2 + 1) p = nm → rPe G o ps → (sh = 1 → ps.length + (dfC (-1) nm (Z.drop i) B).length + (dfC 1 nm B Z).length ≤ 400) →
    ∃ G', g328_6 f fu o b (p : Int) sh (x5 : Int) (i : Int) G = some (((x5 + (dfC (-1) nm (Z.drop i) B).length + (dfC 1 nm B Z).length : Nat) : Int), G') ∧ rPe G' o (ps ++ shP sh (dfC (-1) nm (Z.drop i) B) ++ shP sh (dfC 1 nm B Z)) ∧ xfq o G G' := by
  have h253 : isFb 253 := by unfold isFb; omega
  intro d
  induction d with
  | zero =>
    intro i fu x5 G ps h1 h2 h3 h4 h5 h6 h7 h8
    obtain ⟨fu, rfl⟩ : ∃ t, fu = t + 1 := ⟨fu - 1, by omega⟩
    rw [List.drop_eq_nil_of_le (by omega)] at h8 ⊢
    have hl := h4.2.1
    have e0 : shP sh (dfC (-1) nm [] B) = [] := by
      unfold shP
      exact ite_self _
    obtain ⟨G', u1, u2, u3⟩ := l_328_113 (f := f) (b := b) (nm := nm) (sh := sh) hf hh ho hsh hb hbo hsZ hp B.length 0 f x5 G ps (by omega) (by omega) (by omega) h4 h5 h6 h7 (fun s => by rw [List.drop_zero]; exact h8 s)
    rw [List.drop_zero] at u1 u2
    refine ⟨G', ?_, by rw [e0, List.append_nil]; exact u2, u3⟩
    show g328_6b (g328_6 f fu) f _ _ _ _ _ _ _ = _
    unfold g328_6b
    rw [h5.1, if_pos (by omega)]
    exact u1
  | succ d ih =>
    intro i fu x5 G ps h1 h2 h3 h4 h5 h6 h7 h8
    obtain ⟨fu, rfl⟩ : ∃ t, fu = t + 1 := ⟨fu - 1, by omega⟩
    have hi : i < Z.length := by omega
    have hl := h5.2.1
    obtain ⟨q1, q2, q3, q4⟩ := h5.2.2 i hi
    have ei : xwr ((i : Int) + 1) = ((i + 1 : Nat) : Int) := by rw [xwr_g _ (by omega) (by omega)]; omega
    have e0 : g328_6 f (fu + 1) o b (p : Int) sh (x5 : Int) (i : Int) G = g328_6b (g328_6 f fu) f o b (p : Int) sh (x5 : Int) (i : Int) G := rfl
    rw [drop_d (d := dFc) hi] at h8 ⊢
    by_cases cn : (Z.getD i dFc).1 = nm
    · by_cases cm : Z.getD i dFc ∈ B
      · -- it lies there too
        have hv := rFa.tk (k := (Z.getD i dFc).2.length) h253 h5 hi (Nat.le_refl _)
        rw [List.take_length] at hv
        have hhas := l_197 (f := f) (b := b + 1) (x := Z.getD i dFc) hf hb h4 hsB hv
        have ei4 : xwr (4 * (i : Int)) = ((4 * i : Nat) : Int) := by rw [xwr_g _ (by omega) (by omega)]; omega
        have e322 : g322 f (b + 1) 253 (i : Int) G = some (1, G) := by
          unfold g322
          rw [if_pos (by omega), if_pos (by omega), Int.toNat_natCast, q1, q2, ei4, hhas, Option.bind_some, if_pos cm, if_pos (Or.inr rfl)]
        rw [dfC_out (fun q => q.2 cm)] at h8 ⊢
        obtain ⟨G', u1, u2, u3⟩ := ih (i + 1) fu x5 G ps (by omega) (by omega) (by omega) h4 h5 h6 h7 h8
        refine ⟨G', ?_, u2, u3⟩
        have n1 : ¬ ((1 : Int), G).1 = 0 := fun q => absurd (show (1 : Int) = 0 from q) (by decide)
        rw [e0]
        unfold g328_6b g328_104
        rw [h5.1, if_neg (by omega), if_pos (by omega), if_pos (by omega), Int.toNat_natCast, Int.toNat_natCast, q1, h6, if_neg (fun q => q cn), e322, Option.bind_some, if_neg n1, ei]
        exact u1
      · have e1 : dfC (-1) nm [Z.getD i dFc] B = [(-1, nm, (Z.getD i dFc).2)] := dfC_in ⟨cn, cm⟩
        rw [dfC_in ⟨cn, cm⟩, List.length_cons] at h8
        rw [dfC_in ⟨cn, cm⟩, List.length_cons, shP_c]
        obtain ⟨G1, v1, v2, v3⟩ := l_df1 (f := f) (o := o) (h := h) (sh := sh) (nm := nm) (c := 253) (c' := b + 1) (i := i) (F := Z) (F' := B) (ps := ps) (sg := -1) (x5 := x5) (G := G) (K := fun v Z => g328_6 f fu o b (p : Int) sh v ((i + 1 : Nat) : Int) Z) hf hh ho hsh h253 hb (by omega) h5 h4 hsB hi h7 (fun s => by have := h8 s; omega) (by omega) cn
        rw [e1] at v1 v2
        obtain ⟨G', u1, u2, u3⟩ := ih (i + 1) fu (x5 + 1) G1 (ps ++ shP sh [(-1, nm, (Z.getD i dFc).2)]) (by omega) (by omega) (by omega) (h4.q v3 (by omega)) (h5.q v3 (by omega)) (by rw [v3 _ _ (by omega) (by omega) (by omega) (by omega) (by omega)]; exact h6) v2 (fun s => by
          have := h8 s
          rw [List.length_append]
          unfold shP
          rw [if_pos s]
          show ps.length + 1 + _ + _ ≤ 400
          omega)
        refine ⟨G', ?_, by rw [← List.append_assoc ps]; exact u2, fun a j z1 z2 z3 z4 z5 => (u3 a j z1 z2 z3 z4 z5).trans (v3 a j z1 z2 z3 z4 z5)⟩
        have e2 : g328_6b (g328_6 f fu) f o b (p : Int) sh (x5 : Int) (i : Int) G = g328_6 f fu o b (p : Int) sh ((x5 + 1 : Nat) : Int) ((i + 1 : Nat) : Int) G1 := by
          refine Eq.trans ?_ v1
          unfold g328_6b g328_104
          rw [h5.1, if_neg (by omega), if_pos (by omega), if_pos (by omega), Int.toNat_natCast, Int.toNat_natCast, q1, h6, if_neg (fun q => q cn), ei]
        rw [e0, e2, u1, show x5 + 1 + (dfC (-1) nm (Z.drop (i + 1)) B).length = x5 + ((dfC (-1) nm (Z.drop (i + 1)) B).length + 1) by omega]
    · obtain ⟨G', u1, u2, u3⟩ := ih (i + 1) fu x5 G ps (by omega) (by omega) (by omega) h4 h5 h6 h7 (fun s => by have := h8 s; rw [dfC_out (fun q => cn q.1)] at this; exact this)
      rw [dfC_out (fun q => cn q.1)]
      refine ⟨G', ?_, u2, u3⟩
      rw [e0]
      unfold g328_6b g328_104
      rw [h5.1, if_neg (by omega), if_pos (by omega), if_pos (by omega), Int.toNat_natCast, Int.toNat_natCast, q1, h6, if_pos cn, ei]
      exact u1
theorem l_328 {G : xG_} {B Z : List pFc} {ps : List pPe} (hf : 3500 < f) (hh : h < 4) (ho : o = 123 + 29 * h) (hsh : sh = 0 ∨ sh = 1) (hb : isFb (b + 1)) (hbo : b + 4 < o ∨ o + 28 < b + 1) (hsB : B.Pairwise fLt) (hsZ : Z.Pairwise fLt) (hp : p < 16) (hB : rFa G (b + 1) B) (hZ : rFa G 253 Z) (h3 : G (2 + 1) p = nm) (hps : rPe G o ps) (hcap : sh = 1 → ps.length + (dfC (-1) nm Z B ++ dfC 1 nm B Z).length ≤ 400) :
    ∃ G', g328 f o b (p : Int) sh G = some (((dfC (-1) nm Z B ++ dfC 1 nm B Z).length : Int), G') ∧ rPe G' o (ps ++ shP sh (dfC (-1) nm Z B ++ dfC 1 nm B Z)) ∧ xfq o G G' := by
  have h1 := hB.2.1
  have h2 := hZ.2.1
  obtain ⟨G', u1, u2, u3⟩ := l_328_6 (f := f) (b := b) (nm := nm) (sh := sh) hf hh ho hsh hb hbo hsB hsZ hp Z.length 0 f 0 G ps (by omega) (by omega) (by omega) hB hZ h3 hps (fun s => by
    have := hcap s
    rw [List.length_append] at this
    rw [List.drop_zero]
    omega)
  rw [List.drop_zero] at u1 u2
  refine ⟨G', ?_, ?_, u3⟩
  · rw [List.length_append, show (dfC (-1) nm Z B).length + (dfC 1 nm B Z).length = 0 + (dfC (-1) nm Z B).length + (dfC 1 nm B Z).length by omega]
    exact u1
  · have : shP sh (dfC (-1) nm Z B ++ dfC 1 nm B Z) = shP sh (dfC (-1) nm Z B) ++ shP sh (dfC 1 nm B Z) := by
      unfold shP
      split <;> rfl
    rw [this, ← List.append_assoc]
    exact u2
end
