/-! merge: differences -/
/-- the facts of nm in F that aren't in F', as CHANGES -/
def dfC (sg nm : Int) (F F' : List pFc) : List pPe := (F.filter (fun y => decide (y.1 = nm ∧ y ∉ F'))).map (fun y => (sg, nm, y.2))
theorem dfC_in {sg nm : Int} {F F' : List pFc} {y : pFc} (h : y.1 = nm ∧ y ∉ F') : dfC sg nm (y :: F) F' = (sg, nm, y.2) :: dfC sg nm F F' := by
  unfold dfC
  rw [List.filter_cons_of_pos (by rw [decide_eq_true_iff]; exact h)]
  rfl
theorem dfC_out {sg nm : Int} {F F' : List pFc} {y : pFc} (h : ¬ (y.1 = nm ∧ y ∉ F')) : dfC sg nm (y :: F) F' = dfC sg nm F F' := by
  unfold dfC
  rw [List.filter_cons_of_neg (by rw [decide_eq_true_iff]; exact h)]
theorem dfC_len {sg nm : Int} {F F' : List pFc} : (dfC sg nm F F').length ≤ F.length := by
  unfold dfC
  rw [List.length_map]
  exact List.length_filter_le _ _
section
variable {f o h p b : Nat} {nm sh : Int}
def shP (sh : Int) (X : List pPe) : List pPe := if sh = 1 then X else []
theorem shP_c (sh : Int) (e : pPe) (X : List pPe) : shP sh (e :: X) = shP sh [e] ++ shP sh X := by
  unfold shP
  split <;> rfl
theorem rFa.q {G G' : xG_} {b : Nat} {F : List pFc} (hF : rFa G b F) (hx : xfq o G G') (hb : b + 3 < o ∨ o + 28 < b ∨ o < b ∧ b + 3 < o + 24) : rFa G' b F := hF.ge (hx _ _ (by omega) (by omega) (by omega) (by omega) (by omega)) (fun a j _ _ => hx _ _ (by omega) (by omega) (by omega) (by omega) (by omega))
/-- one of the two loops: facts F at c, not in F' at c' -/
theorem l_df1 {G : xG_} {c c' i : Nat} {F F' : List pFc} {ps : List pPe} {sg : Int} {K : Int → xG_ → Option (Int × xG_)} {x5 : Nat} (hf : 3500 < f) (hh : h < 4) (ho : o = 123 + 29 * h) (hsh : sh = 0 ∨ sh = 1) (hc : isFb c) (hc' : isFb c') (hco : c + 3 < o ∨ o + 28 < c) (hF : rFa G c F) (hF' : rFa G c' F') (hs' : F'.Pairwise fLt) (hi : i < F.length) (hps : rPe G o ps) (hcap : sh = 1 → ps.length < 400) (hx5 : x5 < 100000) (hn : (F.getD i dFc).1 = nm) :
    ∃ G', ((g322 f c' c (i : Int) G).bind fun R => (if (R.1) = 0 then (if sh = 0 then K (xwr ((x5 : Int) + 1)) R.2 else (if 0 ≤ (i : Int) ∧ (i : Int) < 3400 then (if 0 ≤ (i : Int) ∧ (i : Int) < 3400 then ((g329 f o sg (R.2 (c + 1) (i : Int).toNat) (R.2 (c + 3) (i : Int).toNat) (c + 2) (xwr ((4) * (i : Int))) R.2).bind fun R114 => K (xwr ((x5 : Int) + 1)) R114) else none) else none)) else K (x5 : Int) R.2)) = K ((x5 + (dfC sg nm [F.getD i dFc] F').length : Nat) : Int) G' ∧ rPe G' o (ps ++ shP sh (dfC sg nm [F.getD i dFc] F')) ∧ xfq o G G' := by
  obtain ⟨q1, q2, q3, q4⟩ := hF.2.2 i hi
  have hl := hF.2.1
  have ei : xwr (4 * (i : Int)) = ((4 * i : Nat) : Int) := by rw [xwr_g _ (by omega) (by omega)]; omega
  have e5 : xwr ((x5 : Int) + 1) = ((x5 + 1 : Nat) : Int) := by rw [xwr_g _ (by omega) (by omega)]; omega
  have hv := rFa.tk (k := (F.getD i dFc).2.length) hc hF hi (Nat.le_refl _)
  rw [List.take_length] at hv
  have hhas := l_197 (f := f) (b := c') (x := F.getD i dFc) hf hc' hF' hs' hv
  have e322 : g322 f c' c (i : Int) G = some (if F.getD i dFc ∈ F' then 1 else 0, G) := by
    unfold g322
    rw [if_pos (by omega), if_pos (by omega), Int.toNat_natCast, q1, q2, ei, hhas, Option.bind_some]
    by_cases cm : F.getD i dFc ∈ F'
    · rw [if_pos cm, if_pos (Or.inr rfl)]
    · rw [if_neg cm, if_pos (Or.inl rfl)]
  rw [e322, Option.bind_some]
  by_cases cm : F.getD i dFc ∈ F'
  · have s1 : ¬ ((if F.getD i dFc ∈ F' then (1 : Int) else 0, G) : Int × xG_).1 = 0 := by
      rw [if_pos cm]; show ¬ (1 : Int) = 0; decide
    have e1 : dfC sg nm [F.getD i dFc] F' = [] := dfC_out (fun q => q.2 cm)
    rw [if_neg s1, e1]
    refine ⟨G, rfl, ?_, fun _ _ _ _ _ _ _ => rfl⟩
    unfold shP
    rw [ite_self, List.append_nil]
    exact hps
  · have s1 : ((if F.getD i dFc ∈ F' then (1 : Int) else 0, G) : Int × xG_).1 = 0 := by
      rw [if_neg cm]
    have e1 : dfC sg nm [F.getD i dFc] F' = [(sg, nm, (F.getD i dFc).2)] := dfC_in ⟨hn, cm⟩
    rw [if_pos s1, e1, e5]
    rcases hsh with s | s
    · rw [if_pos s]
      refine ⟨G, rfl, ?_, fun _ _ _ _ _ _ _ => rfl⟩
      unfold shP
      rw [if_neg (by omega), List.append_nil]
      exact hps
    · rw [if_neg (by omega), if_pos (by omega), if_pos (by omega), ei]
      simp only [Int.toNat_natCast]
      rw [q1, q2, hn]
      obtain ⟨G', u1, u2, u3⟩ := l_pend (f := f) (o := o) (sg := sg) (nm := nm) (vs := (F.getD i dFc).2) (m := (F.getD i dFc).2.length) (b := c + 2) (c := 4 * i) (by omega) hh ho hps (hcap s) rfl q3 (by omega) (by omega) (by omega) (by omega) (by omega) hv.1 hv.2.1 (fun k hk => hv.2.2.2 k hk)
      rw [u1, Option.bind_some]
      refine ⟨G', rfl, ?_, u3⟩
      unfold shP
      rw [if_pos s]
      exact u2
theorem l_328_113 {B Z : List pFc} (hf : 3500 < f) (hh : h < 4) (ho : o = 123 + 29 * h) (hsh : sh = 0 ∨ sh = 1) (hb : isFb (b + 1)) (hbo : b + 4 < o ∨ o + 28 < b + 1) (hsZ : Z.Pairwise fLt) (hp : p < 16) : ∀ (d i fu x5 : Nat) (G : xG_) (ps : List pPe), i + d = B.length → d < fu → x5 + d < 100000 → rFa G (b + 1) B → rFa G 253 Z → G (2 + 1) p = nm → rPe G o ps → (sh = 1 → ps.length + (dfC 1 nm (B.drop i) Z).length ≤ 400) →
    ∃ G', g328_113 f fu o b (p : Int) sh (x5 : Int) (i : Int) G = some (((x5 + (dfC 1 nm (B.drop i) Z).length : Nat) : Int), G') ∧ rPe G' o (ps ++ shP sh (dfC 1 nm (B.drop i) Z)) ∧ xfq o G G' := by
  have h253 : isFb 253 := by unfold isFb; omega
  intro d
  induction d with
  | zero =>
    intro i fu x5 G ps h1 h2 h3 h4 h5 h6 h7 h8
    obtain ⟨fu, rfl⟩ : ∃ t, fu = t + 1 := ⟨fu - 1, by omega⟩
    rw [List.drop_eq_nil_of_le (by omega)]
    refine ⟨G, ?_, ?_, fun _ _ _ _ _ _ _ => rfl⟩
    · show g328_113b (g328_113 f fu) f _ _ _ _ _ _ _ = _
      unfold g328_113b
      rw [h4.1, if_pos (by omega)]
      rfl
    · have : shP sh (dfC 1 nm [] Z) = [] := by
        unfold shP
        exact ite_self _
      rw [this, List.append_nil]
      exact h7
  | succ d ih =>
    intro i fu x5 G ps h1 h2 h3 h4 h5 h6 h7 h8
    obtain ⟨fu, rfl⟩ : ∃ t, fu = t + 1 := ⟨fu - 1, by omega⟩
    have hi : i < B.length := by omega
    have hl := h4.2.1
    obtain ⟨q1, q2, q3, q4⟩ := h4.2.2 i hi
    have ei : xwr ((i : Int) + 1) = ((i + 1 : Nat) : Int) := by rw [xwr_g _ (by omega) (by omega)]; omega
    have e0 : g328_113 f (fu + 1) o b (p : Int) sh (x5 : Int) (i : Int) G = g328_113b (g328_113 f fu) f o b (p : Int) sh (x5 : Int) (i : Int) G := rfl
    rw [drop_d (d := dFc) hi] at h8 ⊢
    by_cases cn : (B.getD i dFc).1 = nm
    · by_cases cm : B.getD i dFc ∈ Z
      · -- it lies there too
        have hv := rFa.tk (k := (B.getD i dFc).2.length) hb h4 hi (Nat.le_refl _)
        rw [List.take_length] at hv
        have hhas := l_197 (f := f) (b := 253) (x := B.getD i dFc) hf h253 h5 hsZ hv
        have ei4 : xwr (4 * (i : Int)) = ((4 * i : Nat) : Int) := by rw [xwr_g _ (by omega) (by omega)]; omega
        have e322 : g322 f 253 (b + 1) (i : Int) G = some (1, G) := by
          unfold g322
          rw [if_pos (by omega), if_pos (by omega), Int.toNat_natCast, q1, q2, ei4, hhas, Option.bind_some, if_pos cm, if_pos (Or.inr rfl)]
        rw [dfC_out (fun q => q.2 cm)] at h8 ⊢
        obtain ⟨G', u1, u2, u3⟩ := ih (i + 1) fu x5 G ps (by omega) (by omega) (by omega) h4 h5 h6 h7 h8
        refine ⟨G', ?_, u2, u3⟩
        have n1 : ¬ ((1 : Int), G).1 = 0 := fun q => absurd (show (1 : Int) = 0 from q) (by decide)
        rw [e0]
        unfold g328_113b g328_211
        rw [h4.1, if_neg (by omega), if_pos (by omega), if_pos (by omega), Int.toNat_natCast, Int.toNat_natCast, q1, h6, if_neg (fun q => q cn), e322, Option.bind_some, if_neg n1, ei]
        exact u1
      · have e1 : dfC 1 nm [B.getD i dFc] Z = [(1, nm, (B.getD i dFc).2)] := dfC_in ⟨cn, cm⟩
        rw [dfC_in ⟨cn, cm⟩, List.length_cons] at h8
        rw [dfC_in ⟨cn, cm⟩, List.length_cons, shP_c]
        obtain ⟨G1, v1, v2, v3⟩ := l_df1 (f := f) (o := o) (h := h) (sh := sh) (nm := nm) (c := b + 1) (c' := 253) (i := i) (F := B) (F' := Z) (ps := ps) (sg := 1) (x5 := x5) (G := G) (K := fun v Z => g328_113 f fu o b (p : Int) sh v ((i + 1 : Nat) : Int) Z) hf hh ho hsh hb h253 (by omega) h4 h5 hsZ hi h7 (fun s => by have := h8 s; omega) (by omega) cn
        rw [e1] at v1 v2
        obtain ⟨G', u1, u2, u3⟩ := ih (i + 1) fu (x5 + 1) G1 (ps ++ shP sh [(1, nm, (B.getD i dFc).2)]) (by omega) (by omega) (by omega) (h4.q v3 (by omega)) (h5.q v3 (by omega)) (by rw [v3 _ _ (by omega) (by omega) (by omega) (by omega) (by omega)]; exact h6) v2 (fun s => by
          have := h8 s
          rw [List.length_append]
          unfold shP
          rw [if_pos s]
          show ps.length + 1 + _ ≤ 400
          omega)
        refine ⟨G', ?_, by rw [← List.append_assoc]; exact u2, fun a j z1 z2 z3 z4 z5 => (u3 a j z1 z2 z3 z4 z5).trans (v3 a j z1 z2 z3 z4 z5)⟩
        have e2 : g328_113b (g328_113 f fu) f o b (p : Int) sh (x5 : Int) (i : Int) G = g328_113 f fu o b (p : Int) sh ((x5 + 1 : Nat) : Int) ((i + 1 : Nat) : Int) G1 := by
          refine Eq.trans ?_ v1
          unfold g328_113b g328_211
          rw [h4.1, if_neg (by omega), if_pos (by omega), if_pos (by omega), Int.toNat_natCast, Int.toNat_natCast, q1, h6, if_neg (fun q => q cn), ei]
        rw [e0, e2, u1, show x5 + 1 + (dfC 1 nm (B.drop (i + 1)) Z).length = x5 + ((dfC 1 nm (B.drop (i + 1)) Z).length + 1) by omega]
    · obtain ⟨G', u1, u2, u3⟩ := ih (i + 1) fu x5 G ps (by omega) (by omega) (by omega) h4 h5 h6 h7 (fun s => by have := h8 s; rw [dfC_out (fun q => cn q.1)] at this; exact this)
      rw [dfC_out (fun q => cn q.1)]
      refine ⟨G', ?_, u2, u3⟩
      rw [e0]
      unfold g328_113b g328_211
      rw [h4.1, if_neg (by omega), if_pos (by omega), if_pos (by omega), Int.toNat_natCast, Int.toNat_natCast, q1, h6, if_pos cn, ei]
      exact u1
end
