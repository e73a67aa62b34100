/-! THE CLASS: a text into TOKENS -/
/-- the class's number for a TOKEN -/
def cco (B : Nat → Int) (n s : Nat) : Int :=
  if tSm (B s) then tncode B s (tnend B n s)
  else if tGr (B s) then tvco B s (tvend B n s)
  else if tDi (B s) then tnum 1000000000001 B s (tdend B n s - s)
  else 0
/-- the first N TOKENS stand in the list -/
def cTl (G : xG_) (B : Nat → Int) (n N : Nat) : Prop := ∀ i, i < N → G 67 i = tkd B n (tS B n i) ∧ G 68 i = (tS B n i : Int) ∧ G 69 i = (ten B n (tS B n i) : Int) ∧ G 70 i = cco B n (tS B n i) ∧ (tSm (B (tS B n i)) ∨ tGr (B (tS B n i)) → G 71 i = tse B n (tS B n i))
/-- all TOKENS: N, and END -/
def cTks (G : xG_) (B : Nat → Int) (n N : Nat) : Prop := N ≤ n ∧ G 65 2 = ((N + 1 : Nat) : Int) ∧ tS B n N = n ∧ (∀ i, i < N → tS B n i < n) ∧ cTl G B n (N + 1)
def xfTp (G G' : xG_) : Prop := ∀ a j, ¬ (a = 65 ∧ j = 2) → ¬ (67 ≤ a ∧ a ≤ 71) → G' a j = G a j
theorem cTl.ge {G G' : xG_} {B : Nat → Int} {n N : Nat} (h : cTl G B n N) (hf : ∀ a j, 67 ≤ a → a ≤ 71 → j < N → G' a j = G a j) : cTl G' B n N := fun i hi => by
  obtain ⟨h1, h2, h3, h4, h5⟩ := h i hi
  exact ⟨by rw [hf _ _ (by omega) (by omega) hi]; exact h1, by rw [hf _ _ (by omega) (by omega) hi]; exact h2, by rw [hf _ _ (by omega) (by omega) hi]; exact h3, by rw [hf _ _ (by omega) (by omega) hi]; exact h4, fun q => by rw [hf _ _ (by omega) (by omega) hi]; exact h5 q⟩
theorem cTks.ge {G G' : xG_} {B : Nat → Int} {n N : Nat} (h : cTks G B n N) (h0 : G' 65 2 = G 65 2) (hf : ∀ a j, 67 ≤ a → a ≤ 71 → G' a j = G a j) : cTks G' B n N := ⟨h.1, by rw [h0]; exact h.2.1, h.2.2.1, h.2.2.2.1, h.2.2.2.2.ge (fun a j q1 q2 _ => hf a j q1 q2)⟩
section
variable {f n : Nat} {S : Nat → Nat × Nat × Nat} {G : xG_} {m : Nat × Nat} {B : Nat → Int}
theorem tS_ge (h : tTx B n) : ∀ k, (∀ i, i < k → tS B n i < n) → k ≤ tS B n k := by
  intro k
  induction k with
  | zero => intro _; exact Nat.zero_le _
  | succ k ih =>
    intro hk
    have h1 := ih (fun i hi => hk i (by omega))
    have h2 := hk k (by omega)
    have h3 := ten_le h (Nat.le_of_lt h2)
    have h4 : 0 ≤ B (tS B n k) := ((h _).1 h2).1
    have h5 := (tsk_le h _ (ten B n (tS B n k)) false rfl h3.2.1).1
    have h6 := h3.2.2 h4
    show k + 1 ≤ tsk B n false (ten B n (tS B n k))
    omega
/-- one TOKEN -/
theorem cTl.put {t : Nat} (h : cTl G B n t) {k c z : Int} {e : Nat} {Z : xG_} (hZ : ∀ a j, ¬ (a = 71 ∧ j = t) → Z a j = G a j) (hk : k = tkd B n (tS B n t)) (he : e = ten B n (tS B n t)) (hc : c = cco B n (tS B n t)) (hz : tSm (B (tS B n t)) ∨ tGr (B (tS B n t)) → Z 71 t = tse B n (tS B n t)) : cTl (cPut Z t k (tS B n t : Int) (e : Int) c) B n (t + 1) := fun i hi => by
  by_cases ci : i = t
  · subst ci
    unfold cPut
    refine ⟨?_, ?_, ?_, ?_, fun q => ?_⟩
    · simp (disch := omega) only [xup2_n, xup2_s]; exact hk
    · simp (disch := omega) only [xup2_n, xup2_s]
    · simp (disch := omega) only [xup2_n, xup2_s]; rw [he]
    · simp (disch := omega) only [xup2_n, xup2_s]; exact hc
    · simp (disch := omega) only [xup2_n]; exact hz q
  · obtain ⟨h1, h2, h3, h4, h5⟩ := h i (by omega)
    have z : ∀ a, 67 ≤ a → a ≤ 71 → cPut Z t k (tS B n t : Int) (e : Int) c a i = G a i := fun a _ _ => by rw [cPut_o (by omega) (by omega), hZ _ _ (by omega)]
    exact ⟨by rw [z _ (by omega) (by omega)]; exact h1, by rw [z _ (by omega) (by omega)]; exact h2, by rw [z _ (by omega) (by omega)]; exact h3, by rw [z _ (by omega) (by omega)]; exact h4, fun q => by rw [z _ (by omega) (by omega)]; exact h5 q⟩
theorem k_112_13 (hs : cSs S) (hf : 3100 < f) : ∀ (d t fu : Nat) (G : xG_), tS B n t + d = n → d < fu → cPs G → cTx G B n → G 65 2 = (t : Int) → (∀ i, i < t → tS B n i < n) → cTl G B n t →
    ∃ G' N, c112_13 f fu 65 (tS B n t : Int) (t : Int) (S, G, m) = some (S, G', m) ∧ cTks G' B n N ∧ xfTp G G' := by
  intro d
  induction d using Nat.strongRecOn with
  | _ d ih =>
    intro t fu G h1 h2 hp hB ht hlt hT
    obtain ⟨fu, rfl⟩ : ∃ t, fu = t + 1 := ⟨fu - 1, by omega⟩
    have hB' := hB
    obtain ⟨b1, b2, b3, b4⟩ := hB
    have hge := tS_ge b3 t hlt
    by_cases cn : tS B n t = n
    · -- END
      have e3 := k_120 (f := f) (m := m) (k := 0) (a := (n : Int)) (b := (n : Int)) (c := 0) hs hp ht (by omega)
      have hneg : B (tS B n t) = -1 := by rw [cn]; exact (b3 n).2 (Nat.le_refl _)
      have nsm : ¬ tSm (B (tS B n t)) := by rw [hneg]; decide
      have ngr : ¬ tGr (B (tS B n t)) := by rw [hneg]; decide
      have ndi : ¬ tDi (B (tS B n t)) := by rw [hneg]; decide
      have hl := hT.put (Z := G) (k := 0) (c := 0) (z := 0) (e := n) (fun _ _ _ => rfl) (by unfold tkd; rw [if_pos (by omega)]) (by unfold ten; rw [if_pos (by omega)]; exact cn.symm) (by unfold cco; rw [if_neg nsm, if_neg ngr, if_neg ndi]) (fun q => by rcases q with q | q; exact absurd q nsm; exact absurd q ngr)
      rw [cn] at hl
      refine ⟨cPut G t 0 (n : Int) (n : Int) 0, t, ?_, ⟨by omega, ?_, cn, hlt, hl⟩, fun a j q1 q2 => cPut_o q1 (by omega)⟩
      · show c112_13b (c112_13 f fu) f 65 _ _ _ = _
        unfold c112_13b c112_106
        rw [cn]
        by_cases c3 : (3000 : Int) ≤ (t : Int)
        · rw [if_pos c3]
          simp (disch := omega) only [cq_gi, cq_gr, cq_a, cq_s, cq_p, cq_pr, cq_is, cq_ar, cq_ab, cq_ln, xq_nz, Option.bind_some, xup2_n, xup2_s, Int.toNat_natCast, Int.reduceToNat, if_pos, if_neg, true_and, and_true, and_self, eq_self, if_true, reduceIte, not_true_eq_false, not_false_eq_true, or_true, true_or, s65 hs, b1, e3]
          rfl
        · rw [if_neg c3]
          simp (disch := omega) only [cq_gi, cq_gr, cq_a, cq_s, cq_p, cq_pr, cq_is, cq_ar, cq_ab, cq_ln, xq_nz, Option.bind_some, xup2_n, xup2_s, Int.toNat_natCast, Int.reduceToNat, if_pos, if_neg, true_and, and_true, and_self, eq_self, if_true, reduceIte, not_true_eq_false, not_false_eq_true, or_true, true_or, s65 hs, b1, e3]
          rfl
      · unfold cPut
        exact xup2_s _ _ _ _
    · have hle := (tS_le b3 t).1
      have hlt' : tS B n t < n := by omega
      have hb := b4 _ hlt'
      have hbr := (b3 _).1 hlt'
      have hten := ten_le b3 (Nat.le_of_lt hlt')
      have et : xwr ((t : Int) + 1) = ((t + 1 : Nat) : Int) := by rw [xwr_g _ (by omega) (by omega)]; omega
      -- behind the TOKEN
      have go : ∀ Z : xG_, cPs Z → cTx Z B n → Z 65 2 = ((t + 1 : Nat) : Int) → cTl Z B n (t + 1) → xfTp G Z → ∃ G' N, c112_93 (c112_13 f fu) f 65 (t : Int) (ten B n (tS B n t) : Int) (S, Z, m) = some (S, G', m) ∧ cTks G' B n N ∧ xfTp G G' := fun Z z1 z2 z3 z4 z5 => by
        have e1 := k_113 (f := f) (m := m) hs z1 z2 (by omega) hten.2.1
        have hsk := (tsk_le b3 _ (ten B n (tS B n t)) false rfl hten.2.1)
        have e2 : tS B n (t + 1) = tsk B n false (ten B n (tS B n t)) := rfl
        obtain ⟨G', N, k1, k2, k3⟩ := ih (n - tS B n (t + 1)) (by have := hten.2.2 hbr.1; omega) (t + 1) fu Z (by omega) (by have := hten.2.2 hbr.1; omega) z1 z2 z3 (fun i hi => by
          by_cases ci : i = t
          · rw [ci]; exact hlt'
          · exact hlt i (by omega)) z4
        refine ⟨G', N, ?_, k2, fun a j q1 q2 => (k3 a j q1 q2).trans (z5 a j q1 q2)⟩
        unfold c112_93
        simp (disch := omega) only [cq_gi, cq_gr, cq_a, cq_s, cq_p, cq_pr, cq_is, cq_ar, cq_ab, cq_ln, xq_nz, Option.bind_some, xup2_n, xup2_s, Int.toNat_natCast, Int.reduceToNat, if_pos, if_neg, true_and, and_true, and_self, eq_self, if_true, reduceIte, not_true_eq_false, not_false_eq_true, or_true, true_or, s65 hs, e1, et]
        rw [← e2]
        exact k1
      have fr : ∀ {Z : xG_} {k a b c : Int}, (∀ x j, ¬ (x = 71 ∧ j = t) → Z x j = G x j) → xfTp G (cPut Z t k a b c) := fun {Z k a b c} hZ x j q1 q2 => by rw [cPut_o q1 (by omega), hZ x j (by omega)]
      have pk : ∀ {Z : xG_}, xfTp G Z → cPs Z ∧ cTx Z B n := fun {Z} hx => ⟨hp.tape (fun a j q1 q2 => hx a j (by omega) (by omega)), hB'.ge (hx _ _ (by omega) (by omega)) (fun p => hx _ _ (by omega) (by omega))⟩
      have p2 : ∀ {Z : xG_} {k a b c : Int}, cPut Z t k a b c 65 2 = ((t + 1 : Nat) : Int) := by
        intro Z k a b c
        unfold cPut
        exact xup2_s _ _ _ _
      have n0 : ¬ B (tS B n t) < 0 := by omega
      show ∃ G' N, c112_13b (c112_13 f fu) f 65 _ _ _ = _ ∧ _
      unfold c112_13b
      rw [if_neg (by omega)]
      simp (disch := omega) only [cq_gi, cq_gr, cq_a, cq_s, cq_p, cq_pr, cq_is, cq_ar, cq_ab, cq_ln, xq_nz, Option.bind_some, xup2_n, xup2_s, Int.toNat_natCast, Int.reduceToNat, if_pos, if_neg, true_and, and_true, and_self, eq_self, if_true, reduceIte, not_true_eq_false, not_false_eq_true, or_true, true_or, s65 hs, s66 hs, p65_0 hp, b1, hb, k_121, k_122, k_123]
      by_cases d1 : tSm (B (tS B n t))
      · rw [if_pos d1, if_neg (by decide)]
        have e1 := k_114 (f := f) (m := m) hs hp hB' hf ht (by omega) hlt'
        have ee : ten B n (tS B n t) = tnend B n (tS B n t) := by unfold ten; rw [if_neg n0, if_pos d1]
        simp (disch := omega) only [cq_gi, cq_gr, cq_a, cq_s, cq_p, cq_pr, cq_is, cq_ar, cq_ab, cq_ln, xq_nz, Option.bind_some, xup2_n, xup2_s, Int.toNat_natCast, Int.reduceToNat, if_pos, if_neg, true_and, and_true, and_self, eq_self, if_true, reduceIte, not_true_eq_false, not_false_eq_true, or_true, true_or, e1]
        rw [← ee]
        have hz : ∀ x j, ¬ (x = 71 ∧ j = t) → xup2 G 71 t (tsens B (tS B n t) (tnend B n (tS B n t))) x j = G x j := fun x j q => xup2_n (by omega)
        obtain ⟨w1, w2⟩ := pk (fr hz (k := tres (tncode B (tS B n t) (tnend B n (tS B n t)))) (a := (tS B n t : Int)) (b := (ten B n (tS B n t) : Int)) (c := tncode B (tS B n t) (tnend B n (tS B n t))))
        rw [← ee] at w1 w2 hz
        refine go _ w1 w2 p2 (hT.put (z := 0) hz (by unfold tkd; rw [if_neg n0, if_pos d1, ee]) rfl (by unfold cco; rw [if_pos d1, ee]) (fun _ => by rw [xup2_s]; unfold tse; rw [if_pos d1, ee])) (fr hz)
      · rw [if_neg d1, if_pos rfl]
        by_cases d2 : tGr (B (tS B n t))
        · rw [if_pos d2, if_neg (by decide)]
          have e1 := k_117 (f := f) (m := m) hs hp hB' hf ht (by omega) hlt' d2
          have ee : ten B n (tS B n t) = tvend B n (tS B n t) := by unfold ten; rw [if_neg n0, if_neg d1, if_pos d2]
          simp (disch := omega) only [cq_gi, cq_gr, cq_a, cq_s, cq_p, cq_pr, cq_is, cq_ar, cq_ab, cq_ln, xq_nz, Option.bind_some, xup2_n, xup2_s, Int.toNat_natCast, Int.reduceToNat, if_pos, if_neg, true_and, and_true, and_self, eq_self, if_true, reduceIte, not_true_eq_false, not_false_eq_true, or_true, true_or, e1]
          rw [← ee]
          have hz : ∀ x j, ¬ (x = 71 ∧ j = t) → xup2 G 71 t (tcell B (tS B n t) (ten B n (tS B n t))) x j = G x j := fun x j q => xup2_n (by omega)
          obtain ⟨w1, w2⟩ := pk (fr hz (k := 2) (a := (tS B n t : Int)) (b := (ten B n (tS B n t) : Int)) (c := tvco B (tS B n t) (ten B n (tS B n t))))
          refine go _ w1 w2 p2 (hT.put (z := 0) hz (by unfold tkd; rw [if_neg n0, if_neg d1, if_pos d2]) rfl (by unfold cco; rw [if_neg d1, if_pos d2, ee]) (fun _ => by rw [xup2_s]; unfold tse; rw [if_neg d1, if_pos d2, ee])) (fr hz)
        · rw [if_neg d2, if_pos rfl]
          by_cases d3 : tDi (B (tS B n t))
          · rw [if_pos d3, if_neg (by decide)]
            have e1 := k_118 (f := f) (m := m) hs hp hB' hf ht (by omega) hlt' d3
            have ee : ten B n (tS B n t) = tdend B n (tS B n t) := by unfold ten; rw [if_neg n0, if_neg d1, if_neg d2, if_pos d3]
            simp (disch := omega) only [cq_gi, cq_gr, cq_a, cq_s, cq_p, cq_pr, cq_is, cq_ar, cq_ab, cq_ln, xq_nz, Option.bind_some, xup2_n, xup2_s, Int.toNat_natCast, Int.reduceToNat, if_pos, if_neg, true_and, and_true, and_self, eq_self, if_true, reduceIte, not_true_eq_false, not_false_eq_true, or_true, true_or, e1]
            rw [← ee]
            obtain ⟨w1, w2⟩ := pk (fr (Z := G) (fun _ _ _ => rfl) (k := 4) (a := (tS B n t : Int)) (b := (ten B n (tS B n t) : Int)) (c := tnum 1000000000001 B (tS B n t) (ten B n (tS B n t) - tS B n t)))
            refine go _ w1 w2 p2 (hT.put (z := 0) (fun _ _ _ => rfl) (by unfold tkd; rw [if_neg n0, if_neg d1, if_neg d2, if_pos d3]) rfl (by unfold cco; rw [if_neg d1, if_neg d2, if_pos d3, ee]) (fun q => by rcases q with q | q; exact absurd q d1; exact absurd q d2)) (fr (fun _ _ _ => rfl))
          · rw [if_neg d3, if_pos rfl]
            have e1 := k_119 (f := f) (m := m) hs hp hB' hf ht (by omega) hlt'
            have ee : ten B n (tS B n t) = (if 256 ≤ tsgn (B (tS B n t)) (B (tS B n t + 1)) then tS B n t + 2 else tS B n t + 1) := by unfold ten; rw [if_neg n0, if_neg d1, if_neg d2, if_neg d3]
            simp only [e1, Option.bind_some, cq_is, s65 hs, if_pos]
            rw [← ee]
            obtain ⟨w1, w2⟩ := pk (fr (Z := G) (fun _ _ _ => rfl) (k := tsgn (B (tS B n t)) (B (tS B n t + 1))) (a := (tS B n t : Int)) (b := (ten B n (tS B n t) : Int)) (c := 0))
            refine go _ w1 w2 p2 (hT.put (z := 0) (fun _ _ _ => rfl) (by unfold tkd; rw [if_neg n0, if_neg d1, if_neg d2, if_neg d3]) rfl (by unfold cco; rw [if_neg d1, if_neg d2, if_neg d3]) (fun q => by rcases q with q | q; exact absurd q d1; exact absurd q d2)) (fr (fun _ _ _ => rfl))
/-- split() -/
theorem k_112 (hs : cSs S) (hp : cPs G) (hB : cTx G B n) (hf : 3100 < f) : ∃ G' N, c112 f 65 (S, G, m) = some (S, G', m) ∧ cTks G' B n N ∧ xfTp G G' := by
  have z : xfTp G (xup2 G 65 2 0) := fun a j q1 q2 => xup2_n (by omega)
  have hp1 : cPs (xup2 G 65 2 0) := hp.tape (fun a j q1 q2 => z a j (by omega) (by omega))
  have hB1 : cTx (xup2 G 65 2 0) B n := hB.ge (z _ _ (by omega) (by omega)) (fun p => z _ _ (by omega) (by omega))
  have e1 := k_113 (f := f) (m := m) (p := 0) hs hp1 hB1 (by omega) (Nat.zero_le _)
  have e1' : c113 f 65 0 (S, xup2 G 65 2 0, m) = some ((tS B n 0 : Int), (S, xup2 G 65 2 0, m)) := e1
  have hle := (tS_le hB.2.2.1 0).1
  obtain ⟨G', N, k1, k2, k3⟩ := k_112_13 (B := B) (n := n) (m := m) hs hf (n - tS B n 0) 0 f (xup2 G 65 2 0) (by omega) (by have := hB.2.1; omega) hp1 hB1 (xup2_s _ _ _ _) (fun i hi => absurd hi (Nat.not_lt_zero i)) (fun i hi => absurd hi (Nat.not_lt_zero i))
  refine ⟨G', N, ?_, k2, fun a j q1 q2 => (k3 a j q1 q2).trans (z a j q1 q2)⟩
  unfold c112
  simp (disch := omega) only [cq_gi, cq_gr, cq_a, cq_s, cq_p, cq_pr, cq_is, cq_ar, cq_ab, cq_ln, xq_nz, Option.bind_some, xup2_n, xup2_s, Int.toNat_natCast, Int.reduceToNat, if_pos, if_neg, true_and, and_true, and_self, eq_self, if_true, reduceIte, not_true_eq_false, not_false_eq_true, or_true, true_or, s65 hs, e1']
  exact k1
end
