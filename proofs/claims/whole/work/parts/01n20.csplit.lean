section
/-! THE CLASS: a text into TOKENS -/
/-- the class's number for a TOKEN -/
def cco (B : Nat → Int) (n s : Nat) : Int :=
  if tSm (B s) then tncode B s (tnend B n s)
  else if tGr (B s) then tvco B s (tvend B n s)
  else if tDi (B s) then tnum 1000000000001 B s (tdend B n s - s)
  else 0
/-- the first N TOKENS stand in the list -/
def cTl (G : xG_) (B : Nat → Int) (n N : Nat) : Prop := ∀ i, i < N → G 67 i = tkd B n (tS B n i) ∧ G 68 i = (tS B n i : Int) ∧ G 69 i = (ten B n (tS B n i) : Int) ∧ G 70 i = cco B n (tS B n i) ∧ (tSm (B (tS B n i)) ∨ tGr (B (tS B n i)) → G 71 i = tse B n (tS B n i))
/-- all TOKENS: N, and END -/
def cTks (G : xG_) (B : Nat → Int) (n N : Nat) : Prop := N ≤ n ∧ G 65 2 = ((N + 1 : Nat) : Int) ∧ tS B n N = n ∧ (∀ i, i < N → tS B n i < n) ∧ cTl G B n (N + 1)
def xfTp (G G' : xG_) : Prop := ∀ a j, ¬ (a = 65 ∧ j = 2) → ¬ (67 ≤ a ∧ a ≤ 71) → G' a j = G a j
theorem cTl.ge {G G' : xG_} {B : Nat → Int} {n N : Nat} (h : cTl G B n N) (hf : ∀ a j, 67 ≤ a → a ≤ 71 → j < N → G' a j = G a j) : cTl G' B n N := fun i hi => by
  obtain ⟨h1, h2, h3, h4, h5⟩ := h i hi
  exact ⟨by rw [hf _ _ (by omega) (by omega) hi]; exact h1, by rw [hf _ _ (by omega) (by omega) hi]; exact h2, by rw [hf _ _ (by omega) (by omega) hi]; exact h3, by rw [hf _ _ (by omega) (by omega) hi]; exact h4, fun q => by rw [hf _ _ (by omega) (by omega) hi]; exact h5 q⟩
theorem cTks.ge {G G' : xG_} {B : Nat → Int} {n N : Nat} (h : cTks G B n N) (h0 : G' 65 2 = G 65 2) (hf : ∀ a j, 67 ≤ a → a ≤ 71 → G' a j = G a j) : cTks G' B n N := ⟨h.1, by rw [h0]; exact h.2.1, h.2.2.1, h.2.2.2.1, h.2.2.2.2.ge (fun a j q1 q2 _ => hf a j q1 q2)⟩
section
variable {f n : Nat} {S : Nat → Nat × Nat × Nat} {G : xG_} {m : Nat × Nat} {B : Nat → Int}
theorem tS_ge (h : tTx B n) : ∀ k, (∀ i, i < k → tS B n i < n) → k ≤ tS B n k := by
  intro k
  induction k with
  | zero => intro _; exact Nat.zero_le _
  | succ k ih =>
    intro hk
    have h1 := ih (fun i hi => hk i (by omega))
    have h2 := hk k (by omega)
    have h3 := ten_le h (Nat.le_of_lt h2)
    have h4 : 0 ≤ B (tS B n k) := ((h _).1 h2).1
    have h5 := (tsk_le h _ (ten B n (tS B n k)) false rfl h3.2.1).1
    have h6 := h3.2.2 h4
    show k + 1 ≤ tsk B n false (ten B n (tS B n k))
    omega
/-- one TOKEN -/
theorem cTl.put {t : Nat} (h : cTl G B n t) {k c z : Int} {e : Nat} {Z : xG_} (hZ : ∀ a j, ¬ (a = 71 ∧ j = t) → Z a j = G a j) (hk : k = tkd B n (tS B n t)) (he : e = ten B n (tS B n t)) (hc : c = cco B n (tS B n t)) (hz : tSm (B (tS B n t)) ∨ tGr (B (tS B n t)) → Z 71 t = tse B n (tS B n t)) : cTl (cPut Z t k (tS B n t : Int) (e : Int) c) B n (t + 1) := fun i hi => by
  by_cases ci : i = t
  · subst ci
    unfold cPut
    refine ⟨?_, ?_, ?_, ?_, fun q => ?_⟩
    · simp (disch := omega) only [xup2_n, xup2_s]; exact hk
    · simp (disch := omega) only [xup2_n, xup2_s]
    · simp (disch := omega) only [xup2_n, xup2_s]; rw [he]
    · simp (disch := omega) only [xup2_n, xup2_s]; exact hc
    · simp (disch := omega) only [xup2_n]; exact hz q
  · obtain ⟨h1, h2, h3, h4, h5⟩ := h i (by omega)
    have z : ∀ a, 67 ≤ a → a ≤ 71 → cPut Z t k (tS B n t : Int) (e : Int) c a i = G a i := fun a _ _ => by rw [cPut_o (by omega) (by omega), hZ _ _ (by omega)]
    exact ⟨by rw [z _ (by omega) (by omega)]; exact h1, by rw [z _ (by omega) (by omega)]; exact h2, by rw [z _ (by omega) (by omega)]; exact h3, by rw [z _ (by omega) (by omega)]; exact h4, fun q => by rw [z _ (by omega) (by omega)]; exact h5 q⟩
theorem k_112_13 (hs : cSs S) (hf : 3100 < f) : ∀ (d t fu : Nat) (G : xG_), tS B n t + d = n → d < fu → cPs G → cTx G B n → G 65 2 = (t : Int) → (∀ i, i < t → tS B n i < n) → cTl G B n t →
    ∃ G' N, c112_13 f fu 65 (tS B n t : Int) (t : Int) (S, G, m) = some (S, G', m) ∧ cTks G' B n N ∧ xfTp G G' := by
  intro d
  induction d using Nat.strongRecOn with
  | _ d ih =>
    intro t fu G h1 h2 hp hB ht hlt hT
    obtain ⟨fu, rfl⟩ : ∃ t, fu = t + 1 := ⟨fu - 1, by omega⟩
    have hB' := hB
    obtain ⟨b1, b2, b3, b4⟩ := hB
    have hge := tS_ge b3 t hlt
    by_cases cn : tS B n t = n
    · -- END
      have e3 := k_120 (f := f) (m := m) (k := 0) (a := (n : Int)) (b := (n : Int)) (c := 0) hs hp ht (by omega)
      have hneg : B (tS B n t) = -1 := by rw [cn]; exact (b3 n).2 (Nat.le_refl _)
      have nsm : ¬ tSm (B (tS B n t)) := by rw [hneg]; decide
      have ngr : ¬ tGr (B (tS B n t)) := by rw [hneg]; decide
      have ndi : ¬ tDi (B (tS B n t)) := by rw [hneg]; decide
      have hl := hT.put (Z := G) (k := 0) (c := 0) (z := 0) (e := n) (fun _ _ _ => rfl) (by unfold tkd; rw [if_pos (by omega)]) (by unfold ten; rw [if_pos (by omega)]; exact cn.symm) (by unfold cco; rw [if_neg nsm, if_neg ngr, if_neg ndi]) (fun q => by rcases q with q | q; exact absurd q nsm; exact absurd q ngr)
      rw [cn] at hl
      refine ⟨cPut G t 0 (n : Int) (n : Int) 0, t, ?_, ⟨by omega, ?_, cn, hlt, hl⟩, fun a j q1 q2 => cPut_o q1 (by omega)⟩
      · show c112_13b (c112_13 f fu) f 65 _ _ _ = _
        unfold c112_13b c112_106
        rw [cn]
        by_cases c3 : (3000 : Int) ≤ (t : Int)
        · rw [if_pos c3]
          simp (disch := omega) only [cq_gi, cq_gr, cq_a, cq_s, cq_p, cq_pr, cq_is, cq_ar, cq_ab, cq_ln, xq_nz, Option.bind_some, xup2_n, xup2_s, Int.toNat_natCast, Int.reduceToNat, if_pos, if_neg, true_and, and_true, and_self, eq_self, if_true, reduceIte, not_true_eq_false, not_false_eq_true, or_true, true_or, s65 hs, b1, e3]
          rfl
        · rw [if_neg c3]
          simp (disch := omega) only [cq_gi, cq_gr, cq_a, cq_s, cq_p, cq_pr, cq_is, cq_ar, cq_ab, cq_ln, xq_nz, Option.bind_some, xup2_n, xup2_s, Int.toNat_natCast, Int.reduceToNat, if_pos, if_neg, true_and, and_true, and_self, eq_self, if_true, reduceIte, not_true_eq_false, not_false_eq_true, or_true, true_or, s65 hs, b1, e3]
          rfl
      · unfold cPut
        exact xup2_s _ _ _ _
    · have hle := (tS_le b3 t).1
      have hlt' : tS B n t < n := by omega
      have hb := b4 _ hlt'
      have hbr := (b3 _).1 hlt'
      have hten := ten_le b3 (Nat.le_of_lt hlt')
      have et : xwr ((t : Int) + 1) = ((t + 1 : Nat) : Int) := by rw [xwr_g _ (by omega) (by omega)]; omega
      -- behind the TOKEN
      have go : ∀ Z : xG_, cPs Z → cTx Z B n → Z 65 2 = ((t + 1 : Nat) : Int) → cTl Z B n (t + 1) → xfTp G Z → ∃ G' N, c112_93 (c112_13 f fu) f 65 (t : Int) (ten B n (tS B n t) : Int) (S, Z, m) = some (S, G', m) ∧ cTks G' B n N ∧ xfTp G G' := fun Z z1 z2 z3 z4 z5 => by
        have e1 := k_113 (f := f) (m := m) hs z1 z2 (by omega) hten.2.1
        have hsk := (tsk_le b3 _ (ten B n (tS B n t)) false rfl hten.2.1)
        have e2 : tS B n (t + 1) = tsk B n false (ten B n (tS B n t)) := rfl
        obtain ⟨G', N, k1, k2, k3⟩ := ih (n - tS B n (t + 1)) (by have := hten.2.2 hbr.1; omega) (t + 1) fu Z (by omega) (by have := hten.2.2 hbr.1; omega) z1 z2 z3 (fun i hi => by
          by_cases ci : i = t
          · rw [ci]; exact hlt'
          · exact hlt i (by omega)) z4
        refine ⟨G', N, ?_, k2, fun a j q1 q2 => (k3 a j q1 q2).trans (z5 a j q1 q2)⟩
        unfold c112_93
        simp (disch := omega) only [cq_gi, cq_gr, cq_a, cq_s, cq_p, cq_pr, cq_is, cq_ar, cq_ab, cq_ln, xq_nz, Option.bind_some, xup2_n, xup2_s, Int.toNat_natCast, Int.reduceToNat, if_pos, if_neg, true_and, and_true, and_self, eq_self, if_true, reduceIte, not_true_eq_false, not_false_eq_true, or_true, true_or, s65 hs, e1, et]
        rw [← e2]
        exact k1
      have fr : ∀ {Z : xG_} {k a b c : Int}, (∀ x j, ¬ (x = 71 ∧ j = t) → Z x j = G x j) → xfTp G (cPut Z t k a b c) := fun {Z k a b c} hZ x j q1 q2 => by rw [cPut_o q1 (by omega), hZ x j (by omega)]
      have pk : ∀ {Z : xG_}, xfTp G Z → cPs Z ∧ cTx Z B n := fun {Z} hx => ⟨hp.tape (fun a j q1 q2 => hx a j (by omega) (by omega)), hB'.ge (hx _ _ (by omega) (by omega)) (fun p => hx _ _ (by omega) (by omega))⟩
      have p2 : ∀ {Z : xG_} {k a b c : Int}, cPut Z t k a b c 65 2 = ((t + 1 : Nat) : Int) := by
        intro Z k a b c
        unfold cPut
        exact xup2_s _ _ _ _
      have n0 : ¬ B (tS B n t) < 0 := by omega
      show ∃ G' N, c112_13b (c112_13 f fu) f 65 _ _ _ = _ ∧ _
      unfold c112_13b
      rw [if_neg (by omega)]
      simp (disch := omega) only [cq_gi, cq_gr, cq_a, cq_s, cq_p, cq_pr, cq_is, cq_ar, cq_ab, cq_ln, xq_nz, Option.bind_some, xup2_n, xup2_s, Int.toNat_natCast, Int.reduceToNat, if_pos, if_neg, true_and, and_true, and_self, eq_self, if_true, reduceIte, not_true_eq_false, not_false_eq_true, or_true, true_or, s65 hs, s66 hs, p65_0 hp, b1, hb, k_121, k_122, k_123]
      by_cases d1 : tSm (B (tS B n t))
      · rw [if_pos d1, if_neg (by decide)]
        have e1 := k_114 (f := f) (m := m) hs hp hB' hf ht (by omega) hlt'
        have ee : ten B n (tS B n t) = tnend B n (tS B n t) := by unfold ten; rw [if_neg n0, if_pos d1]
        simp (disch := omega) only [cq_gi, cq_gr, cq_a, cq_s, cq_p, cq_pr, cq_is, cq_ar, cq_ab, cq_ln, xq_nz, Option.bind_some, xup2_n, xup2_s, Int.toNat_natCast, Int.reduceToNat, if_pos, if_neg, true_and, and_true, and_self, eq_self, if_true, reduceIte, not_true_eq_false, not_false_eq_true, or_true, true_or, e1]
        rw [← ee]
        have hz : ∀ x j, ¬ (x = 71 ∧ j = t) → xup2 G 71 t (tsens B (tS B n t) (tnend B n (tS B n t))) x j = G x j := fun x j q => xup2_n (by omega)
        obtain ⟨w1, w2⟩ := pk (fr hz (k := tres (tncode B (tS B n t) (tnend B n (tS B n t)))) (a := (tS B n t : Int)) (b := (ten B n (tS B n t) : Int)) (c := tncode B (tS B n t) (tnend B n (tS B n t))))
        rw [← ee] at w1 w2 hz
        refine go _ w1 w2 p2 (hT.put (z := 0) hz (by unfold tkd; rw [if_neg n0, if_pos d1, ee]) rfl (by unfold cco; rw [if_pos d1, ee]) (fun _ => by rw [xup2_s]; unfold tse; rw [if_pos d1, ee])) (fr hz)
      · rw [if_neg d1, if_pos rfl]
        by_cases d2 : tGr (B (tS B n t))
        · rw [if_pos d2, if_neg (by decide)]
          have e1 := k_117 (f := f) (m := m) hs hp hB' hf ht (by omega) hlt' d2
          have ee : ten B n (tS B n t) = tvend B n (tS B n t) := by unfold ten; rw [if_neg n0, if_neg d1, if_pos d2]
          simp (disch := omega) only [cq_gi, cq_gr, cq_a, cq_s, cq_p, cq_pr, cq_is, cq_ar, cq_ab, cq_ln, xq_nz, Option.bind_some, xup2_n, xup2_s, Int.toNat_natCast, Int.reduceToNat, if_pos, if_neg, true_and, and_true, and_self, eq_self, if_true, reduceIte, not_true_eq_false, not_false_eq_true, or_true, true_or, e1]
          rw [← ee]
          have hz : ∀ x j, ¬ (x = 71 ∧ j = t) → xup2 G 71 t (tcell B (tS B n t) (ten B n (tS B n t))) x j = G x j := fun x j q => xup2_n (by omega)
          obtain ⟨w1, w2⟩ := pk (fr hz (k := 2) (a := (tS B n t : Int)) (b := (ten B n (tS B n t) : Int)) (c := tvco B (tS B n t) (ten B n (tS B n t))))
          refine go _ w1 w2 p2 (hT.put (z := 0) hz (by unfold tkd; rw [if_neg n0, if_neg d1, if_pos d2]) rfl (by unfold cco; rw [if_neg d1, if_pos d2, ee]) (fun _ => by rw [xup2_s]; unfold tse; rw [if_neg d1, if_pos d2, ee])) (fr hz)
        · rw [if_neg d2, if_pos rfl]
          by_cases d3 : tDi (B (tS B n t))
          · rw [if_pos d3, if_neg (by decide)]
            have e1 := k_118 (f := f) (m := m) hs hp hB' hf ht (by omega) hlt' d3
            have ee : ten B n (tS B n t) = tdend B n (tS B n t) := by unfold ten; rw [if_neg n0, if_neg d1, if_neg d2, if_pos d3]
            simp (disch := omega) only [cq_gi, cq_gr, cq_a, cq_s, cq_p, cq_pr, cq_is, cq_ar, cq_ab, cq_ln, xq_nz, Option.bind_some, xup2_n, xup2_s, Int.toNat_natCast, Int.reduceToNat, if_pos, if_neg, true_and, and_true, and_self, eq_self, if_true, reduceIte, not_true_eq_false, not_false_eq_true, or_true, true_or, e1]
            rw [← ee]
            obtain ⟨w1, w2⟩ := pk (fr (Z := G) (fun _ _ _ => rfl) (k := 4) (a := (tS B n t : Int)) (b := (ten B n (tS B n t) : Int)) (c := tnum 1000000000001 B (tS B n t) (ten B n (tS B n t) - tS B n t)))
            refine go _ w1 w2 p2 (hT.put (z := 0) (fun _ _ _ => rfl) (by unfold tkd; rw [if_neg n0, if_neg d1, if_neg d2, if_pos d3]) rfl (by unfold cco; rw [if_neg d1, if_neg d2, if_pos d3, ee]) (fun q => by rcases q with q | q; exact absurd q d1; exact absurd q d2)) (fr (fun _ _ _ => rfl))
          · rw [if_neg d3, if_pos rfl]
            have e1 := k_119 (f := f) (m := m) hs hp hB' hf ht (by omega) hlt'
            have ee : ten B n (tS B n t) = (if 256 ≤ tsgn (B (tS B n t)) (B (tS B n t + 1)) then tS B n t + 2 else tS B n t + 1) := by unfold ten; rw [if_neg n0, if_neg d1, if_neg d2, if_neg d3]
            simp only [e1, Option.bind_some, cq_is, s65 hs, if_pos]
            rw [← ee]
            obtain ⟨w1, w2⟩ := pk (fr (Z := G) (fun _ _ _ => rfl) (k := tsgn (B (tS B n t)) (B (tS B n t + 1))) (a := (tS B n t : Int)) (b := (ten B n (tS B n t) : Int)) (c := 0))
            refine go _ w1 w2 p2 (hT.put (z := 0) (fun _ _ _ => rfl) (by unfold tkd; rw [if_neg n0, if_neg d1, if_neg d2, if_neg d3]) rfl (by unfold cco; rw [if_neg d1, if_neg d2, if_neg d3]) (fun q => by rcases q with q | q; exact absurd q d1; exact absurd q d2)) (fr (fun _ _ _ => rfl))
/-- split() -/
theorem k_112 (hs : cSs S) (hp : cPs G) (hB : cTx G B n) (hf : 3100 < f) : ∃ G' N, c112 f 65 (S, G, m) = some (S, G', m) ∧ cTks G' B n N ∧ xfTp G G' := by
  have z : xfTp G (xup2 G 65 2 0) := fun a j q1 q2 => xup2_n (by omega)
  have hp1 : cPs (xup2 G 65 2 0) := hp.tape (fun a j q1 q2 => z a j (by omega) (by omega))
  have hB1 : cTx (xup2 G 65 2 0) B n := hB.ge (z _ _ (by omega) (by omega)) (fun p => z _ _ (by omega) (by omega))
  have e1 := k_113 (f := f) (m := m) (p := 0) hs hp1 hB1 (by omega) (Nat.zero_le _)
  have e1' : c113 f 65 0 (S, xup2 G 65 2 0, m) = some ((tS B n 0 : Int), (S, xup2 G 65 2 0, m)) := e1
  have hle := (tS_le hB.2.2.1 0).1
  obtain ⟨G', N, k1, k2, k3⟩ := k_112_13 (B := B) (n := n) (m := m) hs hf (n - tS B n 0) 0 f (xup2 G 65 2 0) (by omega) (by have := hB.2.1; omega) hp1 hB1 (xup2_s _ _ _ _) (fun i hi => absurd hi (Nat.not_lt_zero i)) (fun i hi => absurd hi (Nat.not_lt_zero i))
  refine ⟨G', N, ?_, k2, fun a j q1 q2 => (k3 a j q1 q2).trans (z a j q1 q2)⟩
  unfold c112
  simp (disch := omega) only [cq_gi, cq_gr, cq_a, cq_s, cq_p, cq_pr, cq_is, cq_ar, cq_ab, cq_ln, xq_nz, Option.bind_some, xup2_n, xup2_s, Int.toNat_natCast, Int.reduceToNat, if_pos, if_neg, true_and, and_true, and_self, eq_self, if_true, reduceIte, not_true_eq_false, not_false_eq_true, or_true, true_or, s65 hs, e1']
  exact k1
end
end
section
/-! THE CLASS reads TOKENS -/
/-- the TOKENS of the list are those of t, up to w; END is the N-th -/
def cEv (S : Nat → Nat × Nat × Nat) (G : xG_) (B : Nat → Int) (n : Nat) (t : tStr) (N w : Nat) : Prop := cSs S ∧ cPs G ∧ cTx G B n ∧ (G 65 2 = ((N + 1 : Nat) : Int) ∧ N ≤ 3000) ∧ (∀ i, N ≤ i → kK t i = 0 ∧ kS t i = kS t N) ∧ (w = N ∨ w < N ∧ kK t w = 5) ∧
  ∀ i, i ≤ w → (G 67 i = kK t i ∧ G 68 i = (kS t i : Int) ∧ G 69 i = (kE t i : Int)) ∧ (kK t i = 1 ∨ kK t i = 4 → G 70 i = kC t i) ∧ (kK t i = 1 ∨ kK t i = 2 → G 71 i = kW t i) ∧ (kS t i ≤ kE t i ∧ kE t i ≤ n ∧ (kD t i = true ↔ tDi (B (kE t i))) ∧ (kK t i = 2 → G 70 i = cco B n (kS t i)))
/-- the class is at the i-th TOKEN -/
def cAt (G : xG_) (N w i : Nat) : Prop := G 72 1 = ((min i N : Nat) : Int) ∧ (i ≤ w ∨ w = N)
/-- what is WRONG ends the reading -/
def cWr (S : Nat → Nat × Nat × Nat) (G : xG_) (m : Nat × Nat) (w : Int) : xT_ := cq_ex (S, xup2 G 72 2 w, m)
theorem cPs.read {G G' : xG_} (h : cPs G) (hf : ∀ a j, ¬ (a = 72 ∧ (1 ≤ j ∧ j ≤ 6 ∨ j = 9 ∨ j = 12 ∨ j = 14)) → ¬ (73 ≤ a ∧ a ≤ 82) → a < 279 → G' a j = G a j) : cPs G' := h.ge (fun a j hz => hf a j (by
  rcases hz with z | z | z | z | z | z | z | ⟨z, z1, z2, k, z3⟩ | z | z | z | ⟨k, z1, z2, z3⟩ <;> omega) (by
  rcases hz with z | z | z | z | z | z | z | ⟨z, z1, z2, k, z3⟩ | z | z | z | ⟨k, z1, z2, z3⟩ <;> omega) (by
  rcases hz with z | z | z | z | z | z | z | ⟨z, z1, z2, k, z3⟩ | z | z | z | ⟨k, z1, z2, z3⟩ <;> omega))
section
variable {f n N w i : Nat} {S : Nat → Nat × Nat × Nat} {G G' : xG_} {m : Nat × Nat} {B : Nat → Int} {t : tStr}
theorem cEv.ge {S' : Nat → Nat × Nat × Nat} (h : cEv S G B n t N w) (hS : ∀ a, a < 279 → S' a = S a) (hf : ∀ a j, ¬ (a = 72 ∧ (1 ≤ j ∧ j ≤ 6 ∨ j = 9 ∨ j = 12 ∨ j = 14)) → ¬ (73 ≤ a ∧ a ≤ 82) → a < 279 → G' a j = G a j) : cEv S' G' B n t N w := by
  obtain ⟨h1, h2, h3, h4, h5, h6, h7⟩ := h
  have z : ∀ a j, 65 ≤ a → a ≤ 71 → G' a j = G a j := fun a j _ _ => hf a j (by omega) (by omega) (by omega)
  refine ⟨fun k hk => by rw [hS _ (by omega)]; exact h1 k hk, h2.read hf, h3.ge (z _ _ (by omega) (by omega)) (fun p => z _ _ (by omega) (by omega)), ⟨by rw [z _ _ (by omega) (by omega)]; exact h4.1, h4.2⟩, h5, h6, fun i hi => ?_⟩
  obtain ⟨⟨a1, a2, a3⟩, a4, a5, a6⟩ := h7 i hi
  exact ⟨⟨by rw [z _ _ (by omega) (by omega)]; exact a1, by rw [z _ _ (by omega) (by omega)]; exact a2, by rw [z _ _ (by omega) (by omega)]; exact a3⟩, fun q => by rw [z _ _ (by omega) (by omega)]; exact a4 q, fun q => by rw [z _ _ (by omega) (by omega)]; exact a5 q, a6.1, a6.2.1, a6.2.2.1, fun q => by rw [z _ _ (by omega) (by omega)]; exact a6.2.2.2 q⟩
theorem cEv.u1 {v : Int} (h : cEv S G B n t N w) : cEv S (xup2 G 72 1 v) B n t N w := h.ge (fun _ _ => rfl) (fun a j q _ _ => xup2_n (by omega))
theorem cAt.u1 (h : i ≤ w ∨ w = N) : cAt (xup2 G 72 1 ((min i N : Nat) : Int)) N w i := ⟨xup2_s _ _ _ _, h⟩
theorem cAt.wle (hE : cEv S G B n t N w) (hA : cAt G N w i) : min i N ≤ w := by
  rcases hE.2.2.2.2.2.1 with q | q
  · omega
  · rcases hA.2 with z | z <;> omega
/-- kind, begin, end of the TOKEN that the class is at -/
theorem cEv.tk (hE : cEv S G B n t N w) (hA : cAt G N w i) : G 67 (min i N) = kK t i ∧ G 68 (min i N) = (kS t i : Int) ∧ G 72 1 = ((min i N : Nat) : Int) ∧ min i N ≤ 3000 := by
  obtain ⟨⟨a1, a2, a3⟩, _⟩ := hE.2.2.2.2.2.2 (min i N) (hA.wle hE)
  have hN := hE.2.2.2.1.2
  rw [a1, a2]
  by_cases c : i ≤ N
  · rw [Nat.min_eq_left c]
    exact ⟨rfl, rfl, by rw [hA.1, Nat.min_eq_left c], by omega⟩
  · have e1 := hE.2.2.2.2.1 i (by omega)
    have e2 := hE.2.2.2.2.1 N (Nat.le_refl _)
    rw [Nat.min_eq_right (by omega)]
    exact ⟨by rw [e1.1, e2.1], by rw [e1.2], by rw [hA.1, Nat.min_eq_right (by omega)], hN⟩
theorem cEv.lt (hE : cEv S G B n t N w) (hA : cAt G N w i) (h : kK t i ≠ 0) : i < N ∧ i ≤ w := by
  have hl : i < N := Nat.lt_of_not_le (fun q => h (hE.2.2.2.2.1 i q).1)
  have := hA.wle hE
  exact ⟨hl, by omega⟩
/-- advance() -/
theorem k_37 (hE : cEv S G B n t N w) (hA : cAt G N w i) (h5 : kK t i ≠ 5) : c37 f 72 (S, G, m) = some (S, xup2 G 72 1 ((min (i + 1) N : Nat) : Int), m) ∧ cAt (xup2 G 72 1 ((min (i + 1) N : Nat) : Int)) N w (i + 1) := by
  obtain ⟨h1, h2, h3, ⟨h4, h4'⟩, h5', h6, h7⟩ := hE
  have e1 : xwr (((N + 1 : Nat) : Int) - 1) = (N : Int) := by rw [xwr_g _ (by omega) (by omega)]; omega
  have hw : i + 1 ≤ w ∨ w = N := by
    rcases h6 with q | ⟨q1, q2⟩
    · exact .inr q
    · rcases hA.2 with z | z
      · by_cases c : i = w
        · rw [c] at h5; exact absurd q2 h5
        · exact .inl (by omega)
      · exact .inr z
  refine ⟨?_, .u1 hw⟩
  unfold c37 c37_26
  by_cases c : N ≤ i
  · have e2 : min i N = N := Nat.min_eq_right c
    have e3 : min (i + 1) N = N := Nat.min_eq_right (by omega)
    have hA1 : G 72 1 = (N : Int) := by rw [hA.1, e2]
    rw [e3, xup2_id hA1]
    simp (disch := omega) only [cq_gi, cq_gr, cq_a, cq_s, cq_p, cq_pr, cq_is, cq_ar, cq_ab, cq_ln, xq_nz, Option.bind_some, xup2_n, xup2_s, Int.toNat_natCast, Int.reduceToNat, if_pos, if_neg, true_and, and_true, and_self, eq_self, if_true, reduceIte, not_true_eq_false, not_false_eq_true, or_true, true_or, s72 h1, s65 h1, p72_0 h2, h4, hA1, e1]
  · have e2 : min i N = i := Nat.min_eq_left (by omega)
    have e3 : min (i + 1) N = i + 1 := Nat.min_eq_left (by omega)
    have hA1 : G 72 1 = (i : Int) := by rw [hA.1, e2]
    have e4 : xwr ((i : Int) + 1) = ((i + 1 : Nat) : Int) := by rw [xwr_g _ (by omega) (by omega)]; omega
    rw [e3]
    simp (disch := omega) only [cq_gi, cq_gr, cq_a, cq_s, cq_p, cq_pr, cq_is, cq_ar, cq_ab, cq_ln, xq_nz, Option.bind_some, xup2_n, xup2_s, Int.toNat_natCast, Int.reduceToNat, if_pos, if_neg, true_and, and_true, and_self, eq_self, if_true, reduceIte, not_true_eq_false, not_false_eq_true, or_true, true_or, s72 h1, s65 h1, p72_0 h2, h4, hA1, e1, e4]
theorem k_36 {v : Int} (h1 : cSs S) : c36 f 72 v (S, G, m) = some (.inl 0, cWr S G m v) := by
  unfold c36
  simp (disch := omega) only [cq_gi, cq_gr, cq_a, cq_s, cq_p, cq_pr, cq_is, cq_ar, cq_ab, cq_ln, xq_nz, Option.bind_some, xup2_n, xup2_s, Int.toNat_natCast, Int.reduceToNat, if_pos, if_neg, true_and, and_true, and_self, eq_self, if_true, reduceIte, not_true_eq_false, not_false_eq_true, or_true, true_or, s72 h1]
  rfl
/-- need() -/
theorem k_38 {c : Int} (hc : c ≠ 5) (hE : cEv S G B n t N w) (hA : cAt G N w i) : pok (pNeed t c i) (fun x => c38 f 72 c (S, G, m) = some (.inl 0, cWr S G m (x : Int))) (fun j => c38 f 72 c (S, G, m) = some (.inr (), (S, xup2 G 72 1 ((min j N : Nat) : Int), m)) ∧ j = i + 1 ∧ kK t i = c ∧ cAt (xup2 G 72 1 ((min j N : Nat) : Int)) N w j) := by
  obtain ⟨k1, k2, k3, k4⟩ := hE.tk hA
  have hs := hE.1
  have hp := hE.2.1
  have e1 : c38 f 72 c (S, G, m) = if kK t i = c then c38_32 f 72 (S, G, m) else some (.inl 0, cWr S G m (kS t i : Int)) := by
    unfold c38
    simp (disch := omega) only [cq_gi, cq_gr, cq_a, cq_s, cq_p, cq_pr, cq_is, cq_ar, cq_ab, cq_ln, xq_nz, Option.bind_some, xup2_n, xup2_s, Int.toNat_natCast, Int.reduceToNat, if_pos, if_neg, true_and, and_true, and_self, eq_self, if_true, reduceIte, not_true_eq_false, not_false_eq_true, or_true, true_or, s72 hs, s65 hs, s67 hs, s68 hs, p72_0 hp, p65_3 hp, p65_4 hp, k1, k2, k3, k_36 hs, cth]
  unfold pNeed
  by_cases c1 : kK t i = c
  · rw [if_pos c1] at e1 ⊢
    obtain ⟨a1, a2⟩ := k_37 (f := f) (m := m) hE hA (by omega)
    refine ⟨?_, rfl, c1, a2⟩
    rw [e1]
    unfold c38_32
    simp (disch := omega) only [cq_gi, cq_gr, cq_a, cq_s, cq_p, cq_pr, cq_is, cq_ar, cq_ab, cq_ln, xq_nz, Option.bind_some, xup2_n, xup2_s, Int.toNat_natCast, Int.reduceToNat, if_pos, if_neg, true_and, and_true, and_self, eq_self, if_true, reduceIte, not_true_eq_false, not_false_eq_true, or_true, true_or, s72 hs, a1]
  · rw [if_neg c1] at e1 ⊢
    exact e1
/-- goesOn() -/
theorem k_39 (hE : cEv S G B n t N w) (hA : cAt G N w i) : (kK t i = 44 → c39 f 72 (S, G, m) = some (1, (S, xup2 G 72 1 ((min (i + 1) N : Nat) : Int), m)) ∧ cAt (xup2 G 72 1 ((min (i + 1) N : Nat) : Int)) N w (i + 1)) ∧ (kK t i ≠ 44 → c39 f 72 (S, G, m) = some (0, (S, G, m))) := by
  obtain ⟨k1, k2, k3, k4⟩ := hE.tk hA
  have hs := hE.1
  have hp := hE.2.1
  have e1 : c39 f 72 (S, G, m) = if ¬ kK t i = 44 then c39_22 f 72 0 (S, G, m) else c39_22 f 72 1 (S, G, m) := by
    unfold c39
    simp (disch := omega) only [cq_gi, cq_gr, cq_a, cq_s, cq_p, cq_pr, cq_is, cq_ar, cq_ab, cq_ln, xq_nz, Option.bind_some, xup2_n, xup2_s, Int.toNat_natCast, Int.reduceToNat, if_pos, if_neg, true_and, and_true, and_self, eq_self, if_true, reduceIte, not_true_eq_false, not_false_eq_true, or_true, true_or, s72 hs, s65 hs, s67 hs, p72_0 hp, p65_3 hp, k1, k3]
  refine ⟨fun c => ?_, fun c => ?_⟩
  · rw [if_neg (fun q => q c)] at e1
    obtain ⟨a1, a2⟩ := k_37 (f := f) (m := m) hE hA (by omega)
    refine ⟨?_, a2⟩
    rw [e1]
    unfold c39_22 c39_31
    rw [if_neg (by decide)]
    simp (disch := omega) only [cq_gi, cq_gr, cq_a, cq_s, cq_p, cq_pr, cq_is, cq_ar, cq_ab, cq_ln, xq_nz, Option.bind_some, xup2_n, xup2_s, Int.toNat_natCast, Int.reduceToNat, if_pos, if_neg, true_and, and_true, and_self, eq_self, if_true, reduceIte, not_true_eq_false, not_false_eq_true, or_true, true_or, s72 hs, a1]
  · rw [if_pos c] at e1
    rw [e1]
    rfl
/-- lengthOf() -/
theorem k_124 (hE : cEv S G B n t N w) (hi : i ≤ w) (h3 : i ≤ 3000) : c124 f 65 (i : Int) (S, G, m) = some (((kE t i - kS t i : Nat) : Int), (S, G, m)) := by
  obtain ⟨⟨a1, a2, a3⟩, _, _, a4, a5, _⟩ := hE.2.2.2.2.2.2 i hi
  have hn := hE.2.2.1.2.1
  have e : xwr ((kE t i : Int) - (kS t i : Int)) = ((kE t i - kS t i : Nat) : Int) := by rw [xwr_g _ (by omega) (by omega)]; omega
  unfold c124
  simp (disch := omega) only [cq_gi, cq_gr, cq_a, cq_s, cq_p, cq_pr, cq_is, cq_ar, cq_ab, cq_ln, xq_nz, Option.bind_some, xup2_n, xup2_s, Int.toNat_natCast, Int.reduceToNat, if_pos, if_neg, true_and, and_true, and_self, eq_self, if_true, reduceIte, not_true_eq_false, not_false_eq_true, or_true, true_or, s65 hE.1, s68 hE.1, s69 hE.1, p65_4 hE.2.1, p65_5 hE.2.1, a2, a3, e]
/-- readName() -/
theorem k_47 (hE : cEv S G B n t N w) (hA : cAt G N w i) : pok (pName t i) (fun x => c47 f 72 (S, G, m) = some (.inl 0, cWr S G m (x : Int))) (fun r => c47 f 72 (S, G, m) = some (.inr r.1, (S, xup2 G 72 1 ((min r.2 N : Nat) : Int), m)) ∧ r.2 = i + 1 ∧ kK t i = 1 ∧ cAt (xup2 G 72 1 ((min r.2 N : Nat) : Int)) N w r.2) := by
  obtain ⟨k1, k2, k3, k4⟩ := hE.tk hA
  have hs := hE.1
  have hp := hE.2.1
  have hn := hE.2.2.1.2.1
  have e1 : c47 f 72 (S, G, m) = if kK t i = 1 then c47_34 f 72 (kS t i : Int) (S, G, m) else some (.inl 0, cWr S G m (kS t i : Int)) := by
    unfold c47
    simp (disch := omega) only [cq_gi, cq_gr, cq_a, cq_s, cq_p, cq_pr, cq_is, cq_ar, cq_ab, cq_ln, xq_nz, Option.bind_some, xup2_n, xup2_s, Int.toNat_natCast, Int.reduceToNat, if_pos, if_neg, true_and, and_true, and_self, eq_self, if_true, reduceIte, not_true_eq_false, not_false_eq_true, or_true, true_or, s72 hs, s65 hs, s67 hs, s68 hs, p72_0 hp, p65_3 hp, p65_4 hp, k1, k2, k3, k_36 hs, cth]
  unfold pName
  by_cases c1 : kK t i = 1
  · rw [if_pos c1] at e1
    rw [if_neg (fun q => q c1)]
    obtain ⟨l1, l2⟩ := hE.lt hA (by omega)
    have em : min i N = i := Nat.min_eq_left (by omega)
    rw [em] at k1 k2 k3 k4
    have e124 := k_124 (f := f) (m := m) hE l2 k4
    obtain ⟨⟨_, _, a3⟩, a4, _, a6, a7, _⟩ := hE.2.2.2.2.2.2 i l2
    have e70 := a4 (.inl c1)
    have e2 : xwr ((kS t i : Int) + 12) = ((kS t i + 12 : Nat) : Int) := by rw [xwr_g _ (by omega) (by omega)]; omega
    by_cases c2 : 12 < kE t i - kS t i
    · rw [if_pos c2]
      show c47 f 72 (S, G, m) = _
      rw [e1]
      unfold c47_34
      simp (disch := omega) only [cq_gi, cq_gr, cq_a, cq_s, cq_p, cq_pr, cq_is, cq_ar, cq_ab, cq_ln, xq_nz, Option.bind_some, xup2_n, xup2_s, Int.toNat_natCast, Int.reduceToNat, if_pos, if_neg, true_and, and_true, and_self, eq_self, if_true, reduceIte, not_true_eq_false, not_false_eq_true, or_true, true_or, s72 hs, s65 hs, p72_0 hp, k3, e124, e2, k_36 hs, cth]
    · rw [if_neg c2]
      obtain ⟨b1, b2⟩ := k_37 (f := f) (m := m) hE hA (by omega)
      refine ⟨?_, rfl, c1, b2⟩
      rw [e1]
      unfold c47_34 c47_58
      simp (disch := omega) only [cq_gi, cq_gr, cq_a, cq_s, cq_p, cq_pr, cq_is, cq_ar, cq_ab, cq_ln, xq_nz, Option.bind_some, xup2_n, xup2_s, Int.toNat_natCast, Int.reduceToNat, if_pos, if_neg, true_and, and_true, and_self, eq_self, if_true, reduceIte, not_true_eq_false, not_false_eq_true, or_true, true_or, s72 hs, s65 hs, s70 hs, p72_0 hp, p65_6 hp, k3, e124, e70, b1]
  · rw [if_neg c1] at e1
    rw [if_pos c1]
    exact e1
/-- readNumber() -/
theorem k_50 {hi : Nat} (h4 : hi ≤ 4) (hE : cEv S G B n t N w) (hA : cAt G N w i) : pok (pNum t (hi : Int) i) (fun x => c50 f 72 (hi : Int) (S, G, m) = some (.inl 0, cWr S G m (x : Int))) (fun r => c50 f 72 (hi : Int) (S, G, m) = some (.inr r.1, (S, xup2 G 72 1 ((min r.2 N : Nat) : Int), m)) ∧ r.2 = i + 1 ∧ 1 ≤ r.1 ∧ r.1 ≤ hi ∧ cAt (xup2 G 72 1 ((min r.2 N : Nat) : Int)) N w r.2) := by
  obtain ⟨k1, k2, k3, k4⟩ := hE.tk hA
  have hs := hE.1
  have hp := hE.2.1
  have e51 : c50_51 f 72 (S, G, m) = some (.inl 0, cWr S G m (kS t i : Int)) := by
    unfold c50_51
    simp (disch := omega) only [cq_gi, cq_gr, cq_a, cq_s, cq_p, cq_pr, cq_is, cq_ar, cq_ab, cq_ln, xq_nz, Option.bind_some, xup2_n, xup2_s, Int.toNat_natCast, Int.reduceToNat, if_pos, if_neg, true_and, and_true, and_self, eq_self, if_true, reduceIte, not_true_eq_false, not_false_eq_true, or_true, true_or, s72 hs, s65 hs, s68 hs, p72_0 hp, p65_4 hp, k2, k3, k_36 hs, cth]
  unfold pNum
  by_cases c1 : kK t i = 4
  · obtain ⟨l1, l2⟩ := hE.lt hA (by omega)
    have em : min i N = i := Nat.min_eq_left (by omega)
    rw [em] at k1 k2 k3 k4
    have e70 := (hE.2.2.2.2.2.2 i l2).2.1 (.inr c1)
    have e1 : c50 f 72 (hi : Int) (S, G, m) = if kC t i < 1 then c50_51 f 72 (S, G, m) else if kC t i ≤ (hi : Int) then c50_67 f 72 (S, G, m) else c50_51 f 72 (S, G, m) := by
      unfold c50
      simp (disch := omega) only [cq_gi, cq_gr, cq_a, cq_s, cq_p, cq_pr, cq_is, cq_ar, cq_ab, cq_ln, xq_nz, Option.bind_some, xup2_n, xup2_s, Int.toNat_natCast, Int.reduceToNat, if_pos, if_neg, true_and, and_true, and_self, eq_self, if_true, reduceIte, not_true_eq_false, not_false_eq_true, or_true, true_or, s72 hs, s65 hs, s67 hs, s70 hs, p72_0 hp, p65_3 hp, p65_6 hp, k1, k3, c1, e70]
    by_cases c2 : 1 ≤ kC t i ∧ kC t i ≤ (hi : Int)
    · rw [if_pos ⟨c1, c2⟩]
      obtain ⟨b1, b2⟩ := k_37 (f := f) (m := m) hE hA (by omega)
      refine ⟨?_, rfl, c2.1, c2.2, b2⟩
      rw [e1, if_neg (by omega), if_pos c2.2]
      have ew : xwr (kC t i) = kC t i := xwr_g _ (by omega) (by omega)
      unfold c50_67
      simp (disch := omega) only [cq_gi, cq_gr, cq_a, cq_s, cq_p, cq_pr, cq_is, cq_ar, cq_ab, cq_ln, xq_nz, Option.bind_some, xup2_n, xup2_s, Int.toNat_natCast, Int.reduceToNat, if_pos, if_neg, true_and, and_true, and_self, eq_self, if_true, reduceIte, not_true_eq_false, not_false_eq_true, or_true, true_or, s72 hs, s65 hs, s70 hs, p72_0 hp, p65_6 hp, k3, e70, b1, ew]
    · rw [if_neg (fun q => c2 q.2)]
      show c50 f 72 (hi : Int) (S, G, m) = _
      rw [e1, e51]
      by_cases c3 : kC t i < 1
      · rw [if_pos c3]
      · rw [if_neg c3, if_neg (by omega)]
  · rw [if_neg (fun q => c1 q.1)]
    show c50 f 72 (hi : Int) (S, G, m) = _
    rw [← e51]
    unfold c50
    simp (disch := omega) only [cq_gi, cq_gr, cq_a, cq_s, cq_p, cq_pr, cq_is, cq_ar, cq_ab, cq_ln, xq_nz, Option.bind_some, xup2_n, xup2_s, Int.toNat_natCast, Int.reduceToNat, if_pos, if_neg, true_and, and_true, and_self, eq_self, if_true, reduceIte, not_true_eq_false, not_false_eq_true, or_true, true_or, s72 hs, s65 hs, s67 hs, p72_0 hp, p65_3 hp, k1, k3]
/-- readCellName() -/
theorem k_52 (hck : ∀ i, kK t i = 2 → kW t i ≠ -1 → 0 ≤ kW t i ∧ kW t i < 72) (hE : cEv S G B n t N w) (hA : cAt G N w i) : pok (pCell t i) (fun x => c52 f 72 (S, G, m) = some (.inl 0, cWr S G m (x : Int))) (fun r => c52 f 72 (S, G, m) = some (.inr r.1, (S, xup2 G 72 1 ((min r.2 N : Nat) : Int), m)) ∧ r.2 = i + 1 ∧ 0 ≤ r.1 ∧ r.1 < 72 ∧ cAt (xup2 G 72 1 ((min r.2 N : Nat) : Int)) N w r.2) := by
  obtain ⟨k1, k2, k3, k4⟩ := hE.tk hA
  have hs := hE.1
  have hp := hE.2.1
  have e51 : c52_35 f 72 (S, G, m) = some (.inl 0, cWr S G m (kS t i : Int)) := by
    unfold c52_35
    simp (disch := omega) only [cq_gi, cq_gr, cq_a, cq_s, cq_p, cq_pr, cq_is, cq_ar, cq_ab, cq_ln, xq_nz, Option.bind_some, xup2_n, xup2_s, Int.toNat_natCast, Int.reduceToNat, if_pos, if_neg, true_and, and_true, and_self, eq_self, if_true, reduceIte, not_true_eq_false, not_false_eq_true, or_true, true_or, s72 hs, s65 hs, s68 hs, p72_0 hp, p65_4 hp, k2, k3, k_36 hs, cth]
  unfold pCell
  by_cases c1 : kK t i = 2
  · obtain ⟨l1, l2⟩ := hE.lt hA (by omega)
    have em : min i N = i := Nat.min_eq_left (by omega)
    rw [em] at k1 k2 k3 k4
    have e71 := (hE.2.2.2.2.2.2 i l2).2.2.1 (.inr c1)
    have e1 : c52 f 72 (S, G, m) = if ¬ kW t i = -1 then c52_51 f 72 (S, G, m) else c52_35 f 72 (S, G, m) := by
      unfold c52
      simp (disch := omega) only [cq_gi, cq_gr, cq_a, cq_s, cq_p, cq_pr, cq_is, cq_ar, cq_ab, cq_ln, xq_nz, Option.bind_some, xup2_n, xup2_s, Int.toNat_natCast, Int.reduceToNat, if_pos, if_neg, true_and, and_true, and_self, eq_self, if_true, reduceIte, not_true_eq_false, not_false_eq_true, or_true, true_or, s72 hs, s65 hs, s67 hs, s71 hs, p72_0 hp, p65_3 hp, p65_7 hp, k1, k3, c1, e71]
    by_cases c2 : kW t i = -1
    · rw [if_neg (fun q => q.2 c2)]
      show c52 f 72 (S, G, m) = _
      rw [e1, if_neg (fun q => q c2), e51]
    · rw [if_pos ⟨c1, c2⟩]
      obtain ⟨b1, b2⟩ := k_37 (f := f) (m := m) hE hA (by omega)
      have hk := hck i c1 c2
      refine ⟨?_, rfl, hk.1, hk.2, b2⟩
      rw [e1, if_pos c2]
      have ew : xwr (kW t i) = kW t i := xwr_g _ (by omega) (by omega)
      unfold c52_51
      simp (disch := omega) only [cq_gi, cq_gr, cq_a, cq_s, cq_p, cq_pr, cq_is, cq_ar, cq_ab, cq_ln, xq_nz, Option.bind_some, xup2_n, xup2_s, Int.toNat_natCast, Int.reduceToNat, if_pos, if_neg, true_and, and_true, and_self, eq_self, if_true, reduceIte, not_true_eq_false, not_false_eq_true, or_true, true_or, s72 hs, s65 hs, s71 hs, p72_0 hp, p65_7 hp, k3, e71, b1, ew]
  · rw [if_neg (fun q => c1 q.1)]
    show c52 f 72 (S, G, m) = _
    rw [← e51]
    unfold c52
    simp (disch := omega) only [cq_gi, cq_gr, cq_a, cq_s, cq_p, cq_pr, cq_is, cq_ar, cq_ab, cq_ln, xq_nz, Option.bind_some, xup2_n, xup2_s, Int.toNat_natCast, Int.reduceToNat, if_pos, if_neg, true_and, and_true, and_self, eq_self, if_true, reduceIte, not_true_eq_false, not_false_eq_true, or_true, true_or, s72 hs, s65 hs, s67 hs, p72_0 hp, p65_3 hp, k1, k3]
end
end
section
/-! THE CLASS reads values, NAMES of predicates, VARIABLES -/
/-- a program of the class at q: the places of its rows -/
def cPgS (S : Nat → Nat × Nat × Nat) (q : Nat) : Prop := S q = (1, 3, 14) ∧ S (q + 1) = (2, 4, 16) ∧ S (q + 2) = (2, 3, 16) ∧ S (q + 3) = (2, 3, 16) ∧ S (q + 4) = (2, 0, 16) ∧ S (q + 5) = (2, 0, 16) ∧ S (q + 6) = (2, 0, 16) ∧ S (q + 7) = (2, 11, 24) ∧ S (q + 8) = (2, 3, 16) ∧ S (q + 9) = (2, 3, 16) ∧ S (q + 10) = (2, 3, 16)
def cPgP (G : xG_) (q : Nat) : Prop := G q 2 = ((q + 1 : Nat) : Int) ∧ G q 3 = ((q + 2 : Nat) : Int) ∧ G q 4 = ((q + 3 : Nat) : Int) ∧ G q 5 = ((q + 4 : Nat) : Int) ∧ G q 6 = ((q + 5 : Nat) : Int) ∧ G q 7 = ((q + 6 : Nat) : Int) ∧ G q 9 = ((q + 7 : Nat) : Int) ∧ G q 10 = ((q + 8 : Nat) : Int) ∧ G q 11 = ((q + 9 : Nat) : Int) ∧ G q 13 = ((q + 10 : Nat) : Int)
/-- its NAMES -/
def cNs (G : xG_) (q : Nat) (L : List Int) : Prop := G q 1 = (L.length : Int) ∧ L.length ≤ 16 ∧ ∀ k, k < L.length → G (q + 1) k = L.getD k 0
/-- a rule of the class at u: the places of its rows -/
def cRuS (S : Nat → Nat × Nat × Nat) (u : Nat) : Prop := S u = (1, 6, 20) ∧ S (u + 1) = (2, 3, 8) ∧ S (u + 2) = (2, 3, 8) ∧ S (u + 3) = (2, 3, 8) ∧ S (u + 4) = (2, 3, 8) ∧ S (u + 5) = (2, 3, 32) ∧ S (u + 6) = (2, 4, 32) ∧ S (u + 7) = (2, 3, 20) ∧ S (u + 8) = (2, 3, 20) ∧ S (u + 9) = (2, 3, 8) ∧ S (u + 10) = (2, 3, 8)
def cRuP (G : xG_) (u : Nat) : Prop := G u 7 = ((u + 1 : Nat) : Int) ∧ G u 9 = ((u + 2 : Nat) : Int) ∧ G u 10 = ((u + 3 : Nat) : Int) ∧ G u 11 = ((u + 4 : Nat) : Int) ∧ G u 12 = ((u + 5 : Nat) : Int) ∧ G u 13 = ((u + 6 : Nat) : Int) ∧ G u 14 = ((u + 7 : Nat) : Int) ∧ G u 15 = ((u + 8 : Nat) : Int) ∧ G u 18 = ((u + 9 : Nat) : Int) ∧ G u 19 = ((u + 10 : Nat) : Int)
/-- its VARIABLES -/
def cVs (G : xG_) (B : Nat → Int) (n u : Nat) (V : List (Int × Nat)) : Prop := G u 6 = (V.length : Int) ∧ V.length ≤ 8 ∧ ∀ v, v < V.length → G 77 v = cco B n (V.getD v (0, 0)).2 ∧ G (u + 1) v = ((V.getD v (0, 0)).2 : Int)
def vVs (t : tStr) (V : List (Int × Nat)) : Prop := ∀ v, v < V.length → ∃ j, kK t j = 2 ∧ kE t j - kS t j ≤ 8 ∧ V.getD v (0, 0) = (kC t j, kS t j)
/-- numbers of VARIABLES tell them apart in the class as in the reference -/
def vIn (t : tStr) (B : Nat → Int) (n : Nat) : Prop := ∀ i j, kK t i = 2 → kK t j = 2 → kE t i - kS t i ≤ 8 → kE t j - kS t j ≤ 8 → (cco B n (kS t i) = cco B n (kS t j) ↔ kC t i = kC t j)
section
variable {f n N w i : Nat} {S : Nat → Nat × Nat × Nat} {G G' : xG_} {m : Nat × Nat} {B : Nat → Int} {t : tStr}
/-- digitBehind() -/
theorem k_126 (hE : cEv S G B n t N w) (hi : i ≤ w) (h3 : i ≤ 3000) : c126 f 65 (i : Int) (S, G, m) = some (if kD t i = true then 1 else 0, (S, G, m)) := by
  obtain ⟨⟨a1, a2, a3⟩, _, _, a4, a5, a6, _⟩ := hE.2.2.2.2.2.2 i hi
  obtain ⟨hs, hp, ⟨b1, b2, b3, b4⟩, _⟩ := hE
  unfold c126 c126_41 c126_42
  by_cases c : n ≤ kE t i
  · have hB : B (kE t i) = -1 := (b3 _).2 c
    have hd : (if kD t i = true then (1 : Int) else 0) = 0 := if_neg (fun q => by have := a6.mp q; rw [hB] at this; exact absurd this (by decide))
    rw [hd]
    simp (disch := omega) only [cq_gi, cq_gr, cq_a, cq_s, cq_p, cq_pr, cq_is, cq_ar, cq_ab, cq_ln, xq_nz, Option.bind_some, xup2_n, xup2_s, Int.toNat_natCast, Int.reduceToNat, if_pos, if_neg, true_and, and_true, and_self, eq_self, if_true, reduceIte, not_true_eq_false, not_false_eq_true, or_true, true_or, s65 hs, s69 hs, p65_5 hp, a3, b1]
  · have hb := b4 (kE t i) (by omega)
    by_cases cd : tDi (B (kE t i))
    · have hd : (if kD t i = true then (1 : Int) else 0) = 1 := if_pos (a6.mpr cd)
      rw [hd]
      unfold tDi at cd
      simp (disch := omega) only [cq_gi, cq_gr, cq_a, cq_s, cq_p, cq_pr, cq_is, cq_ar, cq_ab, cq_ln, xq_nz, Option.bind_some, xup2_n, xup2_s, Int.toNat_natCast, Int.reduceToNat, if_pos, if_neg, true_and, and_true, and_self, eq_self, if_true, reduceIte, not_true_eq_false, not_false_eq_true, or_true, true_or, s65 hs, s66 hs, s69 hs, p65_0 hp, p65_5 hp, a3, b1, hb]
    · have hd : (if kD t i = true then (1 : Int) else 0) = 0 := if_neg (fun q => cd (a6.mp q))
      rw [hd]
      unfold tDi at cd
      by_cases c2 : B (kE t i) < 48
      · simp (disch := omega) only [cq_gi, cq_gr, cq_a, cq_s, cq_p, cq_pr, cq_is, cq_ar, cq_ab, cq_ln, xq_nz, Option.bind_some, xup2_n, xup2_s, Int.toNat_natCast, Int.reduceToNat, if_pos, if_neg, true_and, and_true, and_self, eq_self, if_true, reduceIte, not_true_eq_false, not_false_eq_true, or_true, true_or, s65 hs, s66 hs, s69 hs, p65_0 hp, p65_5 hp, a3, b1, hb]
      · simp (disch := omega) only [cq_gi, cq_gr, cq_a, cq_s, cq_p, cq_pr, cq_is, cq_ar, cq_ab, cq_ln, xq_nz, Option.bind_some, xup2_n, xup2_s, Int.toNat_natCast, Int.reduceToNat, if_pos, if_neg, true_and, and_true, and_self, eq_self, if_true, reduceIte, not_true_eq_false, not_false_eq_true, or_true, true_or, s65 hs, s66 hs, s69 hs, p65_0 hp, p65_5 hp, a3, b1, hb]
/-- readValue() -/
theorem k_51 (hok : tOk t) (hE : cEv S G B n t N w) (hA : cAt G N w i) : pok (pVal t i) (fun x => ∃ v, c51 f 72 (S, G, m) = some (.inl 0, cWr S (xup2 G 72 1 v) m (x : Int))) (fun r => c51 f 72 (S, G, m) = some (.inr r.1, (S, xup2 G 72 1 ((min r.2 N : Nat) : Int), m)) ∧ cAt (xup2 G 72 1 ((min r.2 N : Nat) : Int)) N w r.2) := by
  -- from the TOKEN of the number on
  have num : ∀ {G : xG_} {i : Nat} (x2 : Int), (x2 = 0 ∨ x2 = 1) → cEv S G B n t N w → cAt G N w i → (kK t i = 4 ∧ kC t i ≤ 1000000000000 → c51_86 f 72 0 x2 (S, G, m) = some (.inr (if x2 = 0 then kC t i else xneg8 (kC t i)), (S, xup2 G 72 1 ((min (i + 1) N : Nat) : Int), m)) ∧ cAt (xup2 G 72 1 ((min (i + 1) N : Nat) : Int)) N w (i + 1)) ∧ (¬ (kK t i = 4 ∧ kC t i ≤ 1000000000000) → c51_86 f 72 0 x2 (S, G, m) = some (.inl 0, cWr S G m (kS t i : Int))) := by
    intro G i x2 hx2 hE hA
    obtain ⟨k1, k2, k3, k4⟩ := hE.tk hA
    have hs := hE.1
    have hp := hE.2.1
    have e125 : c51_125 f 72 0 x2 (S, G, m) = some (.inl 0, cWr S G m (kS t i : Int)) := by
      unfold c51_125
      simp (disch := omega) only [cq_gi, cq_gr, cq_a, cq_s, cq_p, cq_pr, cq_is, cq_ar, cq_ab, cq_ln, xq_nz, Option.bind_some, xup2_n, xup2_s, Int.toNat_natCast, Int.reduceToNat, if_pos, if_neg, true_and, and_true, and_self, eq_self, if_true, reduceIte, not_true_eq_false, not_false_eq_true, or_true, true_or, s72 hs, s65 hs, s68 hs, p72_0 hp, p65_4 hp, k2, k3, k_36 hs, cth]
    by_cases c1 : kK t i = 4
    · obtain ⟨l1, l2⟩ := hE.lt hA (by omega)
      have em : min i N = i := Nat.min_eq_left (by omega)
      rw [em] at k1 k2 k3 k4
      have e70 := (hE.2.2.2.2.2.2 i l2).2.1 (.inr c1)
      have e1 : c51_86 f 72 0 x2 (S, G, m) = if kC t i ≤ 1000000000000 then c51_141 f 72 0 x2 (S, G, m) else c51_125 f 72 0 x2 (S, G, m) := by
        unfold c51_86
        rw [if_neg (fun q => q rfl)]
        simp (disch := omega) only [cq_gi, cq_gr, cq_a, cq_s, cq_p, cq_pr, cq_is, cq_ar, cq_ab, cq_ln, xq_nz, Option.bind_some, xup2_n, xup2_s, Int.toNat_natCast, Int.reduceToNat, if_pos, if_neg, true_and, and_true, and_self, eq_self, if_true, reduceIte, not_true_eq_false, not_false_eq_true, or_true, true_or, s72 hs, s65 hs, s67 hs, s70 hs, p72_0 hp, p65_3 hp, p65_6 hp, k1, k3, c1, e70]
      refine ⟨fun h => ?_, fun h => ?_⟩
      · obtain ⟨b1, b2⟩ := k_37 (f := f) (m := m) hE hA (by omega)
        refine ⟨?_, b2⟩
        rw [e1, if_pos h.2]
        unfold c51_141 c51_172 c51_187
        rw [if_pos rfl]
        simp (disch := omega) only [cq_gi, cq_gr, cq_a, cq_s, cq_p, cq_pr, cq_is, cq_ar, cq_ab, cq_ln, xq_nz, Option.bind_some, xup2_n, xup2_s, Int.toNat_natCast, Int.reduceToNat, if_pos, if_neg, true_and, and_true, and_self, eq_self, if_true, reduceIte, not_true_eq_false, not_false_eq_true, or_true, true_or, s72 hs, s65 hs, s70 hs, p72_0 hp, p65_6 hp, k3, e70, b1]
        rcases hx2 with q | q
        · rw [if_pos q, if_pos q]
        · rw [if_neg (by omega), if_neg (by omega)]
      · rw [e1, if_neg (fun q => h ⟨c1, q⟩), e125]
    · refine ⟨fun h => absurd h.1 c1, fun _ => ?_⟩
      rw [← e125]
      unfold c51_86
      rw [if_neg (fun q => q rfl)]
      simp (disch := omega) only [cq_gi, cq_gr, cq_a, cq_s, cq_p, cq_pr, cq_is, cq_ar, cq_ab, cq_ln, xq_nz, Option.bind_some, xup2_n, xup2_s, Int.toNat_natCast, Int.reduceToNat, if_pos, if_neg, true_and, and_true, and_self, eq_self, if_true, reduceIte, not_true_eq_false, not_false_eq_true, or_true, true_or, s72 hs, s65 hs, s67 hs, p72_0 hp, p65_3 hp, k1, k3]
  obtain ⟨k1, k2, k3, k4⟩ := hE.tk hA
  have hs := hE.1
  have hp := hE.2.1
  have hid : xup2 G 72 1 (G 72 1) = G := xup2_id rfl
  unfold pVal
  by_cases w1 : kK t i = 1 ∧ kW t i ≠ -1
  · -- a WORD
    obtain ⟨l1, l2⟩ := hE.lt hA (by omega)
    have em : min i N = i := Nat.min_eq_left (by omega)
    rw [em] at k1 k2 k3 k4
    have e71 := (hE.2.2.2.2.2.2 i l2).2.2.1 (.inl w1.1)
    obtain ⟨b1, b2⟩ := k_37 (f := f) (m := m) hE hA (by omega)
    rw [if_neg (by omega), if_neg (by omega), if_pos w1]
    refine ⟨?_, b2⟩
    have hw2 := w1.2
    have hw1 := w1.1
    unfold c51 c51_40 c51_76 c51_77 c51_86 c51_141 c51_172 c51_187
    simp (disch := omega) only [cq_gi, cq_gr, cq_a, cq_s, cq_p, cq_pr, cq_is, cq_ar, cq_ab, cq_ln, xq_nz, Option.bind_some, xup2_n, xup2_s, Int.toNat_natCast, Int.reduceToNat, if_pos, if_neg, true_and, and_true, and_self, eq_self, if_true, reduceIte, not_true_eq_false, not_false_eq_true, or_true, true_or, s72 hs, s65 hs, s67 hs, s71 hs, p72_0 hp, p65_3 hp, p65_7 hp, k1, k3, hw1, e71, b1]
  · have e0 : c51 f 72 (S, G, m) = c51_40 f 72 0 (S, G, m) := by
      by_cases c1 : kK t i = 1
      · obtain ⟨l1, l2⟩ := hE.lt hA (by omega)
        have em : min i N = i := Nat.min_eq_left (by omega)
        rw [em] at k1 k2 k3 k4
        have e71 := (hE.2.2.2.2.2.2 i l2).2.2.1 (.inl c1)
        have hw : kW t i = -1 := Classical.not_not.mp (fun q => w1 ⟨c1, q⟩)
        unfold c51 c51_39
        simp (disch := omega) only [cq_gi, cq_gr, cq_a, cq_s, cq_p, cq_pr, cq_is, cq_ar, cq_ab, cq_ln, xq_nz, Option.bind_some, xup2_n, xup2_s, Int.toNat_natCast, Int.reduceToNat, if_pos, if_neg, true_and, and_true, and_self, eq_self, if_true, reduceIte, not_true_eq_false, not_false_eq_true, or_true, true_or, s72 hs, s65 hs, s67 hs, s71 hs, p72_0 hp, p65_3 hp, p65_7 hp, k1, k3, c1, e71, hw]
      · unfold c51 c51_39
        simp (disch := omega) only [cq_gi, cq_gr, cq_a, cq_s, cq_p, cq_pr, cq_is, cq_ar, cq_ab, cq_ln, xq_nz, Option.bind_some, xup2_n, xup2_s, Int.toNat_natCast, Int.reduceToNat, if_pos, if_neg, true_and, and_true, and_self, eq_self, if_true, reduceIte, not_true_eq_false, not_false_eq_true, or_true, true_or, s72 hs, s65 hs, s67 hs, p72_0 hp, p65_3 hp, k1, k3]
    obtain ⟨n1, n2⟩ := num 0 (.inl rfl) hE hA
    by_cases c4 : kK t i = 4 ∧ kC t i ≤ 1000000000000
    · rw [if_pos c4]
      obtain ⟨a1, a2⟩ := n1 c4
      refine ⟨?_, a2⟩
      rw [e0]
      have h4 := c4.1
      unfold c51_40 c51_76 c51_77
      simp (disch := omega) only [cq_gi, cq_gr, cq_a, cq_s, cq_p, cq_pr, cq_is, cq_ar, cq_ab, cq_ln, xq_nz, Option.bind_some, xup2_n, xup2_s, Int.toNat_natCast, Int.reduceToNat, if_pos, if_neg, true_and, and_true, and_self, eq_self, if_true, reduceIte, not_true_eq_false, not_false_eq_true, or_true, true_or, s72 hs, s65 hs, s67 hs, p72_0 hp, p65_3 hp, k1, k3, h4]
      rw [a1, if_pos rfl]
    · rw [if_neg c4]
      by_cases c5 : kK t i = 45 ∧ kD t i = true
      · rw [if_pos c5]
        obtain ⟨l1, l2⟩ := hE.lt hA (by omega)
        have em : min i N = i := Nat.min_eq_left (by omega)
        rw [em] at k1 k2 k3 k4
        obtain ⟨b1, b2⟩ := k_37 (f := f) (m := m) hE hA (by omega)
        have e126 := k_126 (f := f) (m := m) hE l2 k4
        rw [if_pos c5.2] at e126
        have h45 := c5.1
        have e1 : c51 f 72 (S, G, m) = c51_86 f 72 0 1 (S, xup2 G 72 1 ((min (i + 1) N : Nat) : Int), m) := by
          rw [e0]
          unfold c51_40 c51_76 c51_77
          simp (disch := omega) only [cq_gi, cq_gr, cq_a, cq_s, cq_p, cq_pr, cq_is, cq_ar, cq_ab, cq_ln, xq_nz, Option.bind_some, xup2_n, xup2_s, Int.toNat_natCast, Int.reduceToNat, if_pos, if_neg, true_and, and_true, and_self, eq_self, if_true, reduceIte, not_true_eq_false, not_false_eq_true, or_true, true_or, s72 hs, s65 hs, s67 hs, p72_0 hp, p65_3 hp, k1, k3, h45, e126, b1]
        obtain ⟨n3, n4⟩ := num 1 (.inr rfl) hE.u1 b2
        by_cases c6 : kK t (i + 1) = 4 ∧ kC t (i + 1) ≤ 1000000000000
        · rw [if_pos c6]
          obtain ⟨a1, a2⟩ := n3 c6
          rw [xup2_w] at a1 a2
          refine ⟨?_, a2⟩
          rw [e1, a1, if_neg (by decide)]
          have hv := hok (i + 1) (kC t (i + 1), i + 2) (by unfold pVal; rw [if_pos c6])
          unfold vOk at hv
          rw [xneg8_g _ (by show -9223372036854775808 < kC t (i + 1); omega) (by show kC t (i + 1) < 9223372036854775808; omega)]
        · rw [if_neg c6]
          exact ⟨_, by rw [e1]; exact n4 c6⟩
      · rw [if_neg c5, if_neg w1]
        refine ⟨G 72 1, ?_⟩
        rw [hid, ← n2 c4, e0]
        unfold c51_40 c51_76 c51_77
        by_cases c6 : kK t i = 45
        · obtain ⟨l1, l2⟩ := hE.lt hA (by omega)
          have em : min i N = i := Nat.min_eq_left (by omega)
          rw [em] at k1 k2 k3 k4
          have e126 := k_126 (f := f) (m := m) hE l2 k4
          rw [if_neg (fun q => c5 ⟨c6, q⟩)] at e126
          simp (disch := omega) only [cq_gi, cq_gr, cq_a, cq_s, cq_p, cq_pr, cq_is, cq_ar, cq_ab, cq_ln, xq_nz, Option.bind_some, xup2_n, xup2_s, Int.toNat_natCast, Int.reduceToNat, if_pos, if_neg, true_and, and_true, and_self, eq_self, if_true, reduceIte, not_true_eq_false, not_false_eq_true, or_true, true_or, s72 hs, s65 hs, s67 hs, p72_0 hp, p65_3 hp, k1, k3, c6, e126]
        · simp (disch := omega) only [cq_gi, cq_gr, cq_a, cq_s, cq_p, cq_pr, cq_is, cq_ar, cq_ab, cq_ln, xq_nz, Option.bind_some, xup2_n, xup2_s, Int.toNat_natCast, Int.reduceToNat, if_pos, if_neg, true_and, and_true, and_self, eq_self, if_true, reduceIte, not_true_eq_false, not_false_eq_true, or_true, true_or, s72 hs, s65 hs, s67 hs, p72_0 hp, p65_3 hp, k1, k3]
/-- find() of a program -/
theorem k_20_2 {q : Nat} {L : List Int} {x : Int} (hS : cPgS S q) (hP : cPgP G q) (hN : cNs G q L) : ∀ (d k fu : Nat), k + d = L.length → d < fu → (∀ j, j < k → L.getD j 0 ≠ x) → c20_2 f fu q x (k : Int) (S, G, m) = some (pIdx L x, (S, G, m)) := by
  obtain ⟨n1, n2, n3⟩ := hN
  intro d
  induction d with
  | zero =>
    intro k fu h1 h2 h3
    obtain ⟨fu, rfl⟩ : ∃ t, fu = t + 1 := ⟨fu - 1, by omega⟩
    rw [pIdx_no (fun j hj => h3 j (by omega))]
    show c20_2b (c20_2 f fu) f q _ _ _ = _
    unfold c20_2b
    simp (disch := omega) only [cq_gi, cq_gr, cq_a, cq_s, cq_p, cq_pr, cq_is, cq_ar, cq_ab, cq_ln, xq_nz, Option.bind_some, xup2_n, xup2_s, Int.toNat_natCast, Int.reduceToNat, if_pos, if_neg, true_and, and_true, and_self, eq_self, if_true, reduceIte, not_true_eq_false, not_false_eq_true, or_true, true_or, hS.1, n1]
  | succ d ih =>
    intro k fu h1 h2 h3
    obtain ⟨fu, rfl⟩ : ∃ t, fu = t + 1 := ⟨fu - 1, by omega⟩
    have hv := n3 k (by omega)
    have ek : xwr ((k : Int) + 1) = ((k + 1 : Nat) : Int) := by rw [xwr_g _ (by omega) (by omega)]; omega
    have e1 : c20_2 f (fu + 1) q x (k : Int) (S, G, m) = if ¬ L.getD k 0 = x then c20_2 f fu q x ((k + 1 : Nat) : Int) (S, G, m) else some ((k : Int), (S, G, m)) := by
      show c20_2b (c20_2 f fu) f q _ _ _ = _
      unfold c20_2b
      simp (disch := omega) only [cq_gi, cq_gr, cq_a, cq_s, cq_p, cq_pr, cq_is, cq_ar, cq_ab, cq_ln, xq_nz, Option.bind_some, xup2_n, xup2_s, Int.toNat_natCast, Int.reduceToNat, if_pos, if_neg, true_and, and_true, and_self, eq_self, if_true, reduceIte, not_true_eq_false, not_false_eq_true, or_true, true_or, hS.1, hS.2.1, hP.1, n1, hv, ek]
    rw [e1]
    by_cases c : L.getD k 0 = x
    · rw [if_neg (fun q => q c), pIdx_yes (by omega) h3 c]
    · rw [if_pos c]
      refine ih (k + 1) fu (by omega) (by omega) (fun j hj => ?_)
      by_cases cj : j = k
      · rw [cj]; exact c
      · exact h3 j (by omega)
theorem k_20 {q : Nat} {L : List Int} {x : Int} (hf : 20 < f) (hS : cPgS S q) (hP : cPgP G q) (hN : cNs G q L) : c20 f q x (S, G, m) = some (pIdx L x, (S, G, m)) := k_20_2 hS hP hN L.length 0 f (by omega) (by have := hN.2.1; omega) (fun j hj => absurd hj (Nat.not_lt_zero j))
/-- predicateOf() -/
theorem k_48 {q : Nat} {L : List Int} {x y : Int} {tell : Bool} (hf : 20 < f) (hs : cSs S) (h3 : G 72 3 = (q : Int)) (hq : 82 < q) (h4 : G 72 4 = b01 tell) (hS : cPgS S q) (hP : cPgP G q) (hN : cNs G q L) : (pIdx L x = -1 ∧ tell = true ∧ L.length = 16 → c48 f 72 x y (S, G, m) = some (.inl 0, cWr S G m y)) ∧
    (pIdx L x = -1 ∧ tell = true ∧ L.length ≠ 16 → c48 f 72 x y (S, G, m) = some (.inr (L.length : Int), (S, xup2 (xup2 G (q + 1) L.length x) q 1 ((L.length + 1 : Nat) : Int), m)) ∧ cNs (xup2 (xup2 G (q + 1) L.length x) q 1 ((L.length + 1 : Nat) : Int)) q (L ++ [x])) ∧
    (¬ (pIdx L x = -1 ∧ tell = true) → c48 f 72 x y (S, G, m) = some (.inr (pIdx L x), (S, G, m))) := by
  have e20 := k_20 (f := f) (m := m) (x := x) hf hS hP hN
  obtain ⟨n1, n2, n3⟩ := hN
  have el : xwr ((L.length : Int) + 1) = ((L.length + 1 : Nat) : Int) := by rw [xwr_g _ (by omega) (by omega)]; omega
  refine ⟨fun ⟨c1, c2, c3⟩ => ?_, fun ⟨c1, c2, c3⟩ => ⟨?_, ?_, ?_, fun k hk => ?_⟩, fun c => ?_⟩
  · have h4' : G 72 4 = 1 := by rw [h4, c2]; rfl
    have n1' : G q 1 = 16 := by rw [n1, c3]; rfl
    unfold c48
    simp (disch := omega) only [cq_gi, cq_gr, cq_a, cq_s, cq_p, cq_pr, cq_is, cq_ar, cq_ab, cq_ln, xq_nz, Option.bind_some, xup2_n, xup2_s, Int.toNat_natCast, Int.reduceToNat, if_pos, if_neg, true_and, and_true, and_self, eq_self, if_true, reduceIte, not_true_eq_false, not_false_eq_true, or_true, true_or, s72 hs, hS.1, h3, e20, c1, h4', n1', k_36 hs, cth]
  · have h4' : G 72 4 = 1 := by rw [h4, c2]; rfl
    have e0 : c48 f 72 x y (S, G, m) = c48_40 f 72 x (S, G, m) := by
      unfold c48
      simp (disch := omega) only [cq_gi, cq_gr, cq_a, cq_s, cq_p, cq_pr, cq_is, cq_ar, cq_ab, cq_ln, xq_nz, Option.bind_some, xup2_n, xup2_s, Int.toNat_natCast, Int.reduceToNat, if_pos, if_neg, true_and, and_true, and_self, eq_self, if_true, reduceIte, not_true_eq_false, not_false_eq_true, or_true, true_or, s72 hs, hS.1, h3, e20, c1, h4', n1]
    rw [e0]
    unfold c48_40 c48_73
    simp (disch := omega) only [cq_gi, cq_gr, cq_a, cq_s, cq_p, cq_pr, cq_is, cq_ar, cq_ab, cq_ln, xq_nz, Option.bind_some, xup2_n, xup2_s, Int.toNat_natCast, Int.reduceToNat, if_pos, if_neg, true_and, and_true, and_self, eq_self, if_true, reduceIte, not_true_eq_false, not_false_eq_true, or_true, true_or, s72 hs, hS.1, hS.2.1, hP.1, h3, n1, el]
  · rw [xup2_s, List.length_append]; rfl
  · rw [List.length_append, List.length_singleton]; omega
  · rw [List.length_append, List.length_singleton] at hk
    rw [xup2_n (by omega)]
    by_cases ck : k = L.length
    · rw [ck, xup2_s]
      exact (getD_apr [x] 0).symm
    · rw [xup2_n (by omega), getD_app _ (by omega)]
      exact n3 k (by omega)
  · unfold c48 c48_73
    by_cases c1 : pIdx L x = -1
    · have h4' : G 72 4 = 0 := by
        rw [h4]
        cases tell with
        | true => exact absurd ⟨c1, rfl⟩ c
        | false => rfl
      simp (disch := omega) only [cq_gi, cq_gr, cq_a, cq_s, cq_p, cq_pr, cq_is, cq_ar, cq_ab, cq_ln, xq_nz, Option.bind_some, xup2_n, xup2_s, Int.toNat_natCast, Int.reduceToNat, if_pos, if_neg, true_and, and_true, and_self, eq_self, if_true, reduceIte, not_true_eq_false, not_false_eq_true, or_true, true_or, s72 hs, hS.1, h3, e20, c1, h4']
    · simp (disch := omega) only [cq_gi, cq_gr, cq_a, cq_s, cq_p, cq_pr, cq_is, cq_ar, cq_ab, cq_ln, xq_nz, Option.bind_some, xup2_n, xup2_s, Int.toNat_natCast, Int.reduceToNat, if_pos, if_neg, true_and, and_true, and_self, eq_self, if_true, reduceIte, not_true_eq_false, not_false_eq_true, or_true, true_or, s72 hs, hS.1, h3, e20]
/-- mention() -/
def cMn (G : xG_) (M : List pMn) : Prop := G 72 14 = (M.length : Int) ∧ ∀ k, k < M.length → G 78 k = (M.getD k (0, 0, 0, 0)).1 ∧ G 80 k = ((M.getD k (0, 0, 0, 0)).2.1 : Int)
theorem k_40 {c : Nat} {k p s d : Int} (hs : cSs S) (hp : cPs G) (h : G 72 14 = (c : Int)) (hc : c < 1024) : c40 f 72 k p s d (S, G, m) = some (S, xup2 (xup2 (xup2 (xup2 (xup2 G 79 c k) 78 c p) 80 c s) 81 c d) 72 14 ((c + 1 : Nat) : Int), m) := by
  have e : xwr ((c : Int) + 1) = ((c + 1 : Nat) : Int) := by rw [xwr_g _ (by omega) (by omega)]; omega
  unfold c40 c40_61
  simp (disch := omega) only [cq_gi, cq_gr, cq_a, cq_s, cq_p, cq_pr, cq_is, cq_ar, cq_ab, cq_ln, xq_nz, Option.bind_some, xup2_n, xup2_s, Int.toNat_natCast, Int.reduceToNat, if_pos, if_neg, true_and, and_true, and_self, eq_self, if_true, reduceIte, not_true_eq_false, not_false_eq_true, or_true, true_or, s72 hs, s78 hs, s79 hs, s80 hs, s81 hs, p72_15 hp, p72_16 hp, p72_17 hp, p72_18 hp, h, e]
end
end
section
/-! THE CLASS reads EXPRESSIONS: VARIABLES, code, signs that wait -/
def cOp (x : Int × Int) : Int × Int := if x.1 = 3 then (x.2, 0) else x
/-- the code so far -/
def cCo (G : xG_) (K : pCd) : Prop := G 72 9 = (K.length : Int) ∧ ∀ k, k < K.length → G 73 k = (K.getD k (0, 0)).1 ∧ G 74 k = (K.getD k (0, 0)).2
/-- signs and brackets that wait -/
def cSk (G : xG_) (st : List Int) : Prop := G 72 12 = (st.length : Int) ∧ ∀ k, k < st.length → G 75 k = st.getD k 0
/-- the rule that is read -/
def cRu0 (S : Nat → Nat × Nat × Nat) (G : xG_) (u : Nat) : Prop := G 72 5 = (u : Int) ∧ 278 < u ∧ cRuS S u ∧ cRuP G u
def cXs (S : Nat → Nat × Nat × Nat) (G : xG_) (B : Nat → Int) (n : Nat) (t : tStr) (N w u : Nat) (V : List (Int × Nat)) (K : pCd) (st : List Int) (i : Nat) : Prop := cEv S G B n t N w ∧ cAt G N w i ∧ i ≤ N ∧ cRu0 S G u ∧ cVs G B n u V ∧ vVs t V ∧ cCo G K ∧ cSk G st
/-- without what waits -/
def cXr (S : Nat → Nat × Nat × Nat) (G : xG_) (B : Nat → Int) (n : Nat) (t : tStr) (N w u : Nat) (V : List (Int × Nat)) (K : pCd) (i : Nat) : Prop := cEv S G B n t N w ∧ cAt G N w i ∧ i ≤ N ∧ cRu0 S G u ∧ cVs G B n u V ∧ vVs t V ∧ cCo G K
def xF0 (u : Nat) (G G' : xG_) : Prop := ∀ a j, ¬ (a = 72 ∧ (j = 1 ∨ j = 2)) → a ≠ 77 → ¬ (a = u ∧ j = 6) → a ≠ u + 1 → G' a j = G a j
/-- what reading an EXPRESSION leaves as it was -/
def xF1 (u : Nat) (G G' : xG_) : Prop := ∀ a j, ¬ (a = 72 ∧ (j = 1 ∨ j = 2 ∨ j = 9 ∨ j = 12)) → ¬ (73 ≤ a ∧ a ≤ 77) → ¬ (a = u ∧ j = 6) → a ≠ u + 1 → G' a j = G a j
def cStr (x : Int) : Int := if x = 42 ∨ x = 47 ∨ x = 37 then 2 else if x = 43 ∨ x = 45 then 1 else 0
def nBr (st : List Int) : Nat := (st.filter (fun x => decide (cStr x = 0))).length
def cZ (x : Int) : Int × Int := (x, 0)
section
variable {f n N w i u : Nat} {S : Nat → Nat × Nat × Nat} {G G' G'' : xG_} {m : Nat × Nat} {B : Nat → Int} {t : tStr} {V V' : List (Int × Nat)} {K K' : pCd} {st st' : List Int}
theorem xF1.id : xF1 u G G := fun _ _ _ _ _ _ => rfl
theorem xF1.tr (h : xF1 u G G') (h' : xF1 u G' G'') : xF1 u G G'' := fun a j p q r s => by rw [h' a j p q r s, h a j p q r s]
theorem xF1.ev (h : xF1 u G G') (hu : 278 < u) (hE : cEv S G B n t N w) : cEv S G' B n t N w := hE.ge (fun _ _ => rfl) (fun a j h1 h2 h3 => h a j (by omega) (by omega) (by omega) (by omega))
theorem xF1.ru (h : xF1 u G G') (hr : cRu0 S G u) : cRu0 S G' u := by
  obtain ⟨h1, h2, h3, h4, h5, h6, h7, h8, h9, h10, h11, h12, h13⟩ := hr
  have z : ∀ j, j ≠ 6 → G' u j = G u j := fun j hj => h u j (by omega) (by omega) (by omega) (by omega)
  refine ⟨by rw [h 72 5 (by omega) (by omega) (by omega) (by omega)]; exact h1, h2, h3, ?_⟩
  unfold cRuP
  rw [z 7 (by decide), z 9 (by decide), z 10 (by decide), z 11 (by decide), z 12 (by decide), z 13 (by decide), z 14 (by decide), z 15 (by decide), z 18 (by decide), z 19 (by decide)]
  exact ⟨h4, h5, h6, h7, h8, h9, h10, h11, h12, h13⟩
theorem cXs.mv {i' : Nat} (h : cXs S G B n t N w u V K st i) (hx : xF1 u G G') (h1 : cAt G' N w i') (h2 : i' ≤ N) (h3 : cVs G' B n u V') (h4 : vVs t V') (h5 : cCo G' K') (h6 : cSk G' st') : cXs S G' B n t N w u V' K' st' i' :=
  ⟨hx.ev h.2.2.2.1.2.1 h.1, h1, h2, hx.ru h.2.2.2.1, h3, h4, h5, h6⟩
theorem cVs.ge (h : cVs G B n u V) (h1 : G' u 6 = G u 6) (h2 : ∀ j, G' 77 j = G 77 j) (h3 : ∀ j, G' (u + 1) j = G (u + 1) j) : cVs G' B n u V := by
  refine ⟨by rw [h1]; exact h.1, h.2.1, fun v hv => ?_⟩
  rw [h2, h3]
  exact h.2.2 v hv
theorem cCo.ge (h : cCo G K) (h1 : G' 72 9 = G 72 9) (h2 : ∀ j, G' 73 j = G 73 j) (h3 : ∀ j, G' 74 j = G 74 j) : cCo G' K := by
  refine ⟨by rw [h1]; exact h.1, fun v hv => ?_⟩
  rw [h2, h3]
  exact h.2 v hv
theorem cSk.ge (h : cSk G st) (h1 : G' 72 12 = G 72 12) (h2 : ∀ j, G' 75 j = G 75 j) : cSk G' st := by
  refine ⟨by rw [h1]; exact h.1, fun v hv => ?_⟩
  rw [h2]
  exact h.2 v hv
/-- the class is at another TOKEN -/
theorem cXs.at {i' : Nat} (h : cXs S G B n t N w u V K st i) (h1 : cAt (xup2 G 72 1 ((min i' N : Nat) : Int)) N w i') (h2 : i' ≤ N) : xF1 u G (xup2 G 72 1 ((min i' N : Nat) : Int)) ∧ cXs S (xup2 G 72 1 ((min i' N : Nat) : Int)) B n t N w u V K st i' := by
  have hu := h.2.2.2.1.2.1
  have hx : xF1 u G (xup2 G 72 1 ((min i' N : Nat) : Int)) := fun a j p q r s => xup2_n (by omega)
  exact ⟨hx, h.mv hx h1 h2 (h.2.2.2.2.1.ge (xup2_n (by omega)) (fun j => xup2_n (by omega)) (fun j => xup2_n (by omega))) h.2.2.2.2.2.1 (h.2.2.2.2.2.2.1.ge (xup2_n (by omega)) (fun j => xup2_n (by omega)) (fun j => xup2_n (by omega))) (h.2.2.2.2.2.2.2.ge (xup2_n (by omega)) (fun j => xup2_n (by omega)))⟩
theorem xF0.id : xF0 u G G := fun _ _ _ _ _ _ => rfl
theorem xF0.tr (h : xF0 u G G') (h' : xF0 u G' G'') : xF0 u G G'' := fun a j p q r s => by rw [h' a j p q r s, h a j p q r s]
theorem xF0.f1 (h : xF0 u G G') : xF1 u G G' := fun a j p q r s => h a j (by omega) (by omega) (by omega) (by omega)
theorem cXs.r (h : cXs S G B n t N w u V K st i) : cXr S G B n t N w u V K i := ⟨h.1, h.2.1, h.2.2.1, h.2.2.2.1, h.2.2.2.2.1, h.2.2.2.2.2.1, h.2.2.2.2.2.2.1⟩
theorem cXr.s (h : cXr S G B n t N w u V K i) (hs : cSk G st) : cXs S G B n t N w u V K st i := ⟨h.1, h.2.1, h.2.2.1, h.2.2.2.1, h.2.2.2.2.1, h.2.2.2.2.2.1, h.2.2.2.2.2.2, hs⟩
theorem cXr.mv {i' : Nat} (h : cXr S G B n t N w u V K i) (hx : xF1 u G G') (h1 : cAt G' N w i') (h2 : i' ≤ N) (h3 : cVs G' B n u V') (h4 : vVs t V') (h5 : cCo G' K') : cXr S G' B n t N w u V' K' i' :=
  ⟨hx.ev h.2.2.2.1.2.1 h.1, h1, h2, hx.ru h.2.2.2.1, h3, h4, h5⟩
theorem cXr.at {i' : Nat} (h : cXr S G B n t N w u V K i) (h1 : cAt (xup2 G 72 1 ((min i' N : Nat) : Int)) N w i') (h2 : i' ≤ N) : xF0 u G (xup2 G 72 1 ((min i' N : Nat) : Int)) ∧ cXr S (xup2 G 72 1 ((min i' N : Nat) : Int)) B n t N w u V K i' := by
  have hu := h.2.2.2.1.2.1
  have hx : xF0 u G (xup2 G 72 1 ((min i' N : Nat) : Int)) := fun a j p q r s => xup2_n (by omega)
  exact ⟨hx, h.mv hx.f1 h1 h2 (h.2.2.2.2.1.ge (xup2_n (by omega)) (fun j => xup2_n (by omega)) (fun j => xup2_n (by omega))) h.2.2.2.2.2.1 (h.2.2.2.2.2.2.ge (xup2_n (by omega)) (fun j => xup2_n (by omega)) (fun j => xup2_n (by omega)))⟩
theorem k_55 {x : Int} {T : xT_} : c55 f x T = some (cStr x, T) := by
  unfold c55 c55_18 c55_32 c55_37 cStr
  by_cases c1 : x = 42
  · rw [if_pos c1, if_pos (.inl c1)]
  · rw [if_neg c1]
    by_cases c2 : x = 47
    · rw [if_pos c2, if_pos (.inr (.inl c2))]
    · rw [if_neg c2]
      by_cases c3 : x = 37
      · rw [if_neg (fun q => q c3), if_pos (.inr (.inr c3))]
      · rw [if_pos c3, if_neg (show ¬ (x = 42 ∨ x = 47 ∨ x = 37) by omega)]
        by_cases c4 : x = 43
        · rw [if_pos c4, if_pos (.inl c4)]
        · rw [if_neg c4]
          by_cases c5 : x = 45
          · rw [if_neg (fun q => q c5), if_pos (.inr c5)]
          · rw [if_pos c5, if_neg (show ¬ (x = 43 ∨ x = 45) by omega)]
/-- emit() -/
theorem k_56 {a b : Int} (h : cXs S G B n t N w u V K st i) (hl : K.length < 3001) : ∃ G', c56 f 72 a b (S, G, m) = some (S, G', m) ∧ xF1 u G G' ∧ cXs S G' B n t N w u V (K ++ [(a, b)]) st i := by
  have hs := h.1.1
  have hp := h.1.2.1
  have hu := h.2.2.2.1.2.1
  have h9 := h.2.2.2.2.2.2.1.1
  have e : xwr ((K.length : Int) + 1) = ((K.length + 1 : Nat) : Int) := by rw [xwr_g _ (by omega) (by omega)]; omega
  refine ⟨xup2 (xup2 (xup2 G 73 K.length a) 74 K.length b) 72 9 ((K.length + 1 : Nat) : Int), ?_, ?_, ?_⟩
  · unfold c56 c56_42
    simp (disch := omega) only [cq_gi, cq_gr, cq_a, cq_s, cq_p, cq_pr, cq_is, cq_ar, cq_ab, cq_ln, xq_nz, Option.bind_some, xup2_n, xup2_s, Int.toNat_natCast, Int.reduceToNat, if_pos, if_neg, true_and, and_true, and_self, eq_self, if_true, reduceIte, not_true_eq_false, not_false_eq_true, or_true, true_or, s72 hs, s73 hs, s74 hs, p72_7 hp, p72_8 hp, h9, e]
  · intro a j p q r s
    rw [xup2_n (by omega), xup2_n (by omega), xup2_n (by omega)]
  · refine h.mv (fun a j p q r s => by rw [xup2_n (by omega), xup2_n (by omega), xup2_n (by omega)]) ⟨?_, h.2.1.2⟩ h.2.2.1 (h.2.2.2.2.1.ge ?_ (fun j => ?_) (fun j => ?_)) h.2.2.2.2.2.1 ⟨?_, fun k hk => ?_⟩ (h.2.2.2.2.2.2.2.ge ?_ (fun j => ?_))
    · rw [xup2_n (by omega), xup2_n (by omega), xup2_n (by omega)]; exact h.2.1.1
    · rw [xup2_n (by omega), xup2_n (by omega), xup2_n (by omega)]
    · rw [xup2_n (by omega), xup2_n (by omega), xup2_n (by omega)]
    · rw [xup2_n (by omega), xup2_n (by omega), xup2_n (by omega)]
    · rw [xup2_s, len1]
    · rw [len1] at hk
      rw [getD_1, xup2_n (by omega), xup2_n (by omega), xup2_n (by omega : ¬ (74 = 72 ∧ k = 9))]
      by_cases ck : k = K.length
      · rw [if_pos ck, ck, xup2_s, xup2_s]; exact ⟨rfl, rfl⟩
      · rw [if_neg ck, xup2_n (by omega), xup2_n (by omega), xup2_n (by omega)]
        exact h.2.2.2.2.2.2.1.2 k (by omega)
    · rw [xup2_n (by omega), xup2_n (by omega), xup2_n (by omega)]
    · rw [xup2_n (by omega), xup2_n (by omega), xup2_n (by omega)]
/-- push() -/
theorem k_57 {x : Int} (h : cXs S G B n t N w u V K st i) (hl : st.length < 32) : ∃ G', c57 f 72 x (S, G, m) = some (S, G', m) ∧ xF1 u G G' ∧ cXs S G' B n t N w u V K (st ++ [x]) i := by
  have hs := h.1.1
  have hp := h.1.2.1
  have hu := h.2.2.2.1.2.1
  have h12 := h.2.2.2.2.2.2.2.1
  have e : xwr ((st.length : Int) + 1) = ((st.length + 1 : Nat) : Int) := by rw [xwr_g _ (by omega) (by omega)]; omega
  refine ⟨xup2 (xup2 G 75 st.length x) 72 12 ((st.length + 1 : Nat) : Int), ?_, ?_, ?_⟩
  · unfold c57 c57_29
    simp (disch := omega) only [cq_gi, cq_gr, cq_a, cq_s, cq_p, cq_pr, cq_is, cq_ar, cq_ab, cq_ln, xq_nz, Option.bind_some, xup2_n, xup2_s, Int.toNat_natCast, Int.reduceToNat, if_pos, if_neg, true_and, and_true, and_self, eq_self, if_true, reduceIte, not_true_eq_false, not_false_eq_true, or_true, true_or, s72 hs, s75 hs, p72_10 hp, h12, e]
  · intro a j p q r s
    rw [xup2_n (by omega), xup2_n (by omega)]
  · refine h.mv (fun a j p q r s => by rw [xup2_n (by omega), xup2_n (by omega)]) ⟨?_, h.2.1.2⟩ h.2.2.1 (h.2.2.2.2.1.ge ?_ (fun j => ?_) (fun j => ?_)) h.2.2.2.2.2.1 (h.2.2.2.2.2.2.1.ge ?_ (fun j => ?_) (fun j => ?_)) ⟨?_, fun k hk => ?_⟩
    · rw [xup2_n (by omega), xup2_n (by omega)]; exact h.2.1.1
    · rw [xup2_n (by omega), xup2_n (by omega)]
    · rw [xup2_n (by omega), xup2_n (by omega)]
    · rw [xup2_n (by omega), xup2_n (by omega)]
    · rw [xup2_n (by omega), xup2_n (by omega)]
    · rw [xup2_n (by omega), xup2_n (by omega)]
    · rw [xup2_n (by omega), xup2_n (by omega)]
    · rw [xup2_s, len1]
    · rw [len1] at hk
      rw [getD_1, xup2_n (by omega)]
      by_cases ck : k = st.length
      · rw [if_pos ck, ck, xup2_s]
      · rw [if_neg ck, xup2_n (by omega)]
        exact h.2.2.2.2.2.2.2.2 k (by omega)
/-- height less -/
theorem cXs.pop {x : Int} (h : cXs S G B n t N w u V K (st ++ [x]) i) : xF1 u G (xup2 G 72 12 (st.length : Int)) ∧ cXs S (xup2 G 72 12 (st.length : Int)) B n t N w u V K st i := by
  have hu := h.2.2.2.1.2.1
  have hx : xF1 u G (xup2 G 72 12 (st.length : Int)) := fun a j p q r s => xup2_n (by omega)
  refine ⟨hx, h.mv hx ⟨?_, h.2.1.2⟩ h.2.2.1 (h.2.2.2.2.1.ge ?_ (fun j => ?_) (fun j => ?_)) h.2.2.2.2.2.1 (h.2.2.2.2.2.2.1.ge ?_ (fun j => ?_) (fun j => ?_)) ⟨xup2_s _ _ _ _, fun k hk => ?_⟩⟩
  · rw [xup2_n (by omega)]; exact h.2.1.1
  · rw [xup2_n (by omega)]
  · rw [xup2_n (by omega)]
  · rw [xup2_n (by omega)]
  · rw [xup2_n (by omega)]
  · rw [xup2_n (by omega)]
  · rw [xup2_n (by omega)]
  · rw [xup2_n (by omega)]
    have := h.2.2.2.2.2.2.2.2 k (by rw [len1]; omega)
    rw [getD_1, if_neg (by omega)] at this
    exact this
theorem nBr_1 (x : Int) : nBr (st ++ [x]) = nBr st + if cStr x = 0 then 1 else 0 := by
  unfold nBr
  rw [List.filter_append, List.length_append]
  by_cases c : cStr x = 0
  · rw [if_pos c, List.filter_cons_of_pos (by simp [c])]; rfl
  · rw [if_neg c, List.filter_cons_of_neg (by simp [c])]; rfl
/-- countBrackets() -/
theorem k_58_4 (hs : cSs S) (hp : cPs G) (h : cSk G st) (hl : st.length ≤ 32) : ∀ (d k a fu : Nat), k + d = st.length → d < fu → a ≤ k → c58_4 f fu 72 (a : Int) (k : Int) (S, G, m) = some (((a + nBr (st.drop k) : Nat) : Int), (S, G, m)) := by
  intro d
  induction d with
  | zero =>
    intro k a fu h1 h2 h3
    obtain ⟨fu, rfl⟩ : ∃ t, fu = t + 1 := ⟨fu - 1, by omega⟩
    rw [List.drop_of_length_le (by omega)]
    show c58_4b (c58_4 f fu) f 72 _ _ _ = _
    have h12 := h.1
    unfold c58_4b
    simp (disch := omega) only [cq_gi, cq_gr, cq_a, cq_s, cq_p, cq_pr, cq_is, cq_ar, cq_ab, cq_ln, xq_nz, Option.bind_some, xup2_n, xup2_s, Int.toNat_natCast, Int.reduceToNat, if_pos, if_neg, true_and, and_true, and_self, eq_self, if_true, reduceIte, not_true_eq_false, not_false_eq_true, or_true, true_or, s72 hs, h12]
    rfl
  | succ d ih =>
    intro k a fu h1 h2 h3
    obtain ⟨fu, rfl⟩ : ∃ t, fu = t + 1 := ⟨fu - 1, by omega⟩
    have h12 := h.1
    have hv := h.2 k (by omega)
    have ek : xwr ((k : Int) + 1) = ((k + 1 : Nat) : Int) := by rw [xwr_g _ (by omega) (by omega)]; omega
    have ea : xwr ((a : Int) + 1) = ((a + 1 : Nat) : Int) := by rw [xwr_g _ (by omega) (by omega)]; omega
    have ea0 : xwr ((a : Int) + 0) = (a : Int) := by rw [xwr_g _ (by omega) (by omega)]; omega
    have e1 : c58_4 f (fu + 1) 72 (a : Int) (k : Int) (S, G, m) = if ¬ cStr (st.getD k 0) = 0 then c58_4 f fu 72 (a : Int) ((k + 1 : Nat) : Int) (S, G, m) else c58_4 f fu 72 ((a + 1 : Nat) : Int) ((k + 1 : Nat) : Int) (S, G, m) := by
      show c58_4b (c58_4 f fu) f 72 _ _ _ = _
      unfold c58_4b c58_30
      simp (disch := omega) only [cq_gi, cq_gr, cq_a, cq_s, cq_p, cq_pr, cq_is, cq_ar, cq_ab, cq_ln, xq_nz, Option.bind_some, xup2_n, xup2_s, Int.toNat_natCast, Int.reduceToNat, if_pos, if_neg, true_and, and_true, and_self, eq_self, if_true, reduceIte, not_true_eq_false, not_false_eq_true, or_true, true_or, s72 hs, s75 hs, p72_10 hp, h12, hv, k_55, ek, ea, ea0]
    have ed : nBr (st.drop k) = nBr (st.drop (k + 1)) + if cStr (st.getD k 0) = 0 then 1 else 0 := by
      rw [List.drop_eq_getElem_cons (by omega : k < st.length), getD_e (by omega : k < st.length)]
      unfold nBr
      by_cases c : cStr st[k] = 0
      · rw [if_pos c, List.filter_cons_of_pos (by simp [c])]; rfl
      · rw [if_neg c, List.filter_cons_of_neg (by simp [c])]; rfl
    rw [e1, ed]
    by_cases c : cStr (st.getD k 0) = 0
    · rw [if_neg (fun q => q c), if_pos c, ih (k + 1) (a + 1) fu (by omega) (by omega) (by omega)]
      have : a + 1 + nBr (st.drop (k + 1)) = a + (nBr (st.drop (k + 1)) + 1) := by omega
      rw [this]
    · rw [if_pos c, if_neg c, ih (k + 1) a fu (by omega) (by omega) (by omega)]
      rfl
theorem k_58 (hf : 33 < f) (h : cXs S G B n t N w u V K st i) (hl : st.length ≤ 32) : c58 f 72 (S, G, m) = some ((nBr st : Int), (S, G, m)) := by
  have := k_58_4 (f := f) (m := m) h.1.1 h.1.2.1 h.2.2.2.2.2.2.2 hl st.length 0 0 f (by omega) (by omega) (Nat.le_refl _)
  rw [List.drop_zero, Nat.zero_add] at this
  exact this
/-- settleSigns() -/
theorem k_59_0 {ls : Int} (hls : 0 < ls) (hb : st = [] ∨ ∃ z x, st = z ++ [x] ∧ cStr x < ls) : ∀ (Q : List Int) (G : xG_) (K : pCd) (fu : Nat), (∀ x, x ∈ Q → ls ≤ cStr x) → Q.length < fu → (st ++ Q.reverse).length ≤ 32 → K.length + Q.length ≤ 3001 → cXs S G B n t N w u V K (st ++ Q.reverse) i → ∃ G', c59_0 f fu 72 ls (S, G, m) = some (S, G', m) ∧ xF1 u G G' ∧ cXs S G' B n t N w u V (K ++ Q.map cZ) st i := by
  intro Q
  induction Q with
  | nil =>
    intro G K fu h1 h2 hl h3 h
    obtain ⟨fu, rfl⟩ : ∃ t, fu = t + 1 := ⟨fu - 1, by omega⟩
    rw [List.reverse_nil, List.append_nil] at h hl
    refine ⟨G, ?_, .id, by rw [List.map_nil, List.append_nil]; exact h⟩
    have hs := h.1.1
    have hp := h.1.2.1
    have h12 := h.2.2.2.2.2.2.2.1
    show c59_0b (c59_0 f fu) f 72 _ _ = _
    unfold c59_0b c59_52
    rcases hb with q | ⟨z, x, q1, q2⟩
    · rw [q] at h12
      have h12' : G 72 12 = 0 := h12
      simp (disch := omega) only [cq_gi, cq_gr, cq_a, cq_s, cq_p, cq_pr, cq_is, cq_ar, cq_ab, cq_ln, xq_nz, Option.bind_some, xup2_n, xup2_s, Int.toNat_natCast, Int.reduceToNat, if_pos, if_neg, true_and, and_true, and_self, eq_self, if_true, reduceIte, not_true_eq_false, not_false_eq_true, or_true, true_or, s72 hs, h12']
    · have hv := h.2.2.2.2.2.2.2.2 z.length (by rw [q1, len1]; omega)
      rw [q1, len1] at h12
      rw [q1, len1] at hl
      rw [q1, getD_1, if_pos rfl] at hv
      have e1 : xwr (((z.length + 1 : Nat) : Int) - 1) = (z.length : Int) := by rw [xwr_g _ (by omega) (by omega)]; omega
      simp (disch := omega) only [cq_gi, cq_gr, cq_a, cq_s, cq_p, cq_pr, cq_is, cq_ar, cq_ab, cq_ln, xq_nz, Option.bind_some, xup2_n, xup2_s, Int.toNat_natCast, Int.reduceToNat, if_pos, if_neg, true_and, and_true, and_self, eq_self, if_true, reduceIte, not_true_eq_false, not_false_eq_true, or_true, true_or, s72 hs, s75 hs, p72_10 hp, h12, hv, k_55, e1]
  | cons s Q ih =>
    intro G K fu h1 h2 hl h3 h
    obtain ⟨fu, rfl⟩ : ∃ t, fu = t + 1 := ⟨fu - 1, by omega⟩
    rw [List.length_cons] at h2 h3
    rw [List.reverse_cons, ← List.append_assoc] at h hl
    rw [len1] at hl
    have hs := h.1.1
    have hp := h.1.2.1
    have h12 := h.2.2.2.2.2.2.2.1
    rw [len1] at h12
    have hv := h.2.2.2.2.2.2.2.2 (st ++ Q.reverse).length (by rw [len1]; omega)
    rw [getD_1, if_pos rfl] at hv
    have e1 : xwr ((((st ++ Q.reverse).length + 1 : Nat) : Int) - 1) = ((st ++ Q.reverse).length : Int) := by rw [xwr_g _ (by omega) (by omega)]; omega
    have hls' := h1 s (List.mem_cons_self ..)
    obtain ⟨x1, x2⟩ := h.pop
    obtain ⟨G2, y1, y2, y3⟩ := k_56 (f := f) (m := m) (a := s) (b := 0) x2 (by omega)
    obtain ⟨G3, z1, z2, z3⟩ := ih G2 (K ++ [(s, 0)]) fu (fun x hx => h1 x (List.mem_cons_of_mem _ hx)) (by omega) (by omega) (by rw [len1]; omega) y3
    refine ⟨G3, ?_, (x1.tr y2).tr z2, ?_⟩
    · rw [← z1]
      show c59_0b (c59_0 f fu) f 72 _ _ = _
      unfold c59_0b
      simp (disch := omega) only [cq_gi, cq_gr, cq_a, cq_s, cq_p, cq_pr, cq_is, cq_ar, cq_ab, cq_ln, xq_nz, Option.bind_some, xup2_n, xup2_s, Int.toNat_natCast, Int.reduceToNat, if_pos, if_neg, true_and, and_true, and_self, eq_self, if_true, reduceIte, not_true_eq_false, not_false_eq_true, or_true, true_or, s72 hs, s75 hs, p72_10 hp, h12, hv, k_55, e1, y1]
    · rw [List.append_assoc] at z3
      exact z3
/-- readVariable() -/
theorem k_49_74 {x1 : Int} (hv : vIn t B n) (h : cXr S G B n t N w u V K i) (h2 : kK t i = 2) (h8 : kE t i - kS t i ≤ 8) : ∀ (d k fu : Nat), k + d = V.length → d < fu → (∀ j, j < k → (V.getD j (0, 0)).1 ≠ kC t i) → c49_74 f fu 72 x1 (cco B n (kS t i)) (k : Int) (S, G, m) = c49_104 f 72 x1 (cco B n (kS t i)) (if pVix V (kC t i) = -1 then (V.length : Int) else pVix V (kC t i)) (S, G, m) := by
  have hs := h.1.1
  have hp := h.1.2.1
  obtain ⟨u1, u2, ⟨us, _⟩, ⟨up, _⟩⟩ := h.2.2.2.1
  obtain ⟨v1, v2, v3⟩ := h.2.2.2.2.1
  have hvv := h.2.2.2.2.2.1
  intro d
  induction d with
  | zero =>
    intro k fu h1 h2' h3
    obtain ⟨fu, rfl⟩ : ∃ t, fu = t + 1 := ⟨fu - 1, by omega⟩
    rw [pVix_no (fun j hj => h3 j (by omega)), if_pos rfl]
    have hk : (V.length : Int) = (k : Int) := by omega
    rw [hk] at v1 ⊢
    show c49_74b (c49_74 f fu) f 72 _ _ _ _ = _
    unfold c49_74b
    simp (disch := omega) only [cq_gi, cq_gr, cq_a, cq_s, cq_p, cq_pr, cq_is, cq_ar, cq_ab, cq_ln, xq_nz, Option.bind_some, xup2_n, xup2_s, Int.toNat_natCast, Int.reduceToNat, if_pos, if_neg, true_and, and_true, and_self, eq_self, if_true, reduceIte, not_true_eq_false, not_false_eq_true, or_true, true_or, s72 hs, us, u1, v1]
  | succ d ih =>
    intro k fu h1 h2' h3
    obtain ⟨fu, rfl⟩ : ∃ t, fu = t + 1 := ⟨fu - 1, by omega⟩
    have e77 := (v3 k (by omega)).1
    have ek : xwr ((k : Int) + 1) = ((k + 1 : Nat) : Int) := by rw [xwr_g _ (by omega) (by omega)]; omega
    obtain ⟨j, j1, j2, j3⟩ := hvv k (by omega)
    rw [j3] at e77
    have hiff : cco B n (kS t j) = cco B n (kS t i) ↔ (V.getD k (0, 0)).1 = kC t i := by rw [j3]; exact hv j i j1 h2 j2 h8
    have e1 : c49_74 f (fu + 1) 72 x1 (cco B n (kS t i)) (k : Int) (S, G, m) = if cco B n (kS t j) = cco B n (kS t i) then c49_104 f 72 x1 (cco B n (kS t i)) (k : Int) (S, G, m) else c49_74 f fu 72 x1 (cco B n (kS t i)) ((k + 1 : Nat) : Int) (S, G, m) := by
      show c49_74b (c49_74 f fu) f 72 _ _ _ _ = _
      unfold c49_74b
      simp (disch := omega) only [cq_gi, cq_gr, cq_a, cq_s, cq_p, cq_pr, cq_is, cq_ar, cq_ab, cq_ln, xq_nz, Option.bind_some, xup2_n, xup2_s, Int.toNat_natCast, Int.reduceToNat, if_pos, if_neg, true_and, and_true, and_self, eq_self, if_true, reduceIte, not_true_eq_false, not_false_eq_true, or_true, true_or, s72 hs, s77 hs, p72_13 hp, us, u1, v1, e77, ek]
    rw [e1]
    by_cases c : (V.getD k (0, 0)).1 = kC t i
    · rw [if_pos (hiff.mpr c), pVix_yes (by omega) h3 c, if_neg (by omega)]
    · rw [if_neg (fun q => c (hiff.mp q))]
      refine ih (k + 1) fu (by omega) (by omega) (fun j hj => ?_)
      by_cases cj : j = k
      · rw [cj]; exact c
      · exact h3 j (by omega)
theorem k_49r (hf : 20 < f) (hv : vIn t B n) (h : cXr S G B n t N w u V K i) : pok (pVar t V i) (fun x => c49 f 72 (S, G, m) = some (.inl 0, cWr S G m (x : Int))) (fun r => ∃ G', c49 f 72 (S, G, m) = some (.inr r.1, (S, G', m)) ∧ xF0 u G G' ∧ cXr S G' B n t N w u r.2.1 K r.2.2) := by
  have hE := h.1
  have hA := h.2.1
  obtain ⟨k1, k2, k3, k4⟩ := hE.tk hA
  have hs := hE.1
  have hp := hE.2.1
  have hn := hE.2.2.1.2.1
  have hru := h.2.2.2.1
  obtain ⟨u1, u2, ⟨us, us1, _⟩, ⟨up, _⟩⟩ := hru
  obtain ⟨v1, v2, v3⟩ := h.2.2.2.2.1
  have e1 : c49 f 72 (S, G, m) = if kK t i = 2 then c49_34 f 72 (kS t i : Int) (S, G, m) else some (.inl 0, cWr S G m (kS t i : Int)) := by
    unfold c49
    simp (disch := omega) only [cq_gi, cq_gr, cq_a, cq_s, cq_p, cq_pr, cq_is, cq_ar, cq_ab, cq_ln, xq_nz, Option.bind_some, xup2_n, xup2_s, Int.toNat_natCast, Int.reduceToNat, if_pos, if_neg, true_and, and_true, and_self, eq_self, if_true, reduceIte, not_true_eq_false, not_false_eq_true, or_true, true_or, s72 hs, s65 hs, s67 hs, s68 hs, p72_0 hp, p65_3 hp, p65_4 hp, k1, k2, k3, k_36 hs, cth]
  unfold pVar
  by_cases c1 : kK t i = 2
  · rw [if_pos c1] at e1
    rw [if_neg (fun q => q c1)]
    obtain ⟨l1, l2⟩ := hE.lt hA (by omega)
    have em : min i N = i := Nat.min_eq_left (by omega)
    rw [em] at k1 k2 k3 k4
    have e124 := k_124 (f := f) (m := m) hE l2 k4
    obtain ⟨⟨_, _, a3⟩, _, _, a6, a7, _, a8⟩ := hE.2.2.2.2.2.2 i l2
    have e70 := a8 c1
    have e2 : xwr ((kS t i : Int) + 8) = ((kS t i + 8 : Nat) : Int) := by rw [xwr_g _ (by omega) (by omega)]; omega
    by_cases c2 : 8 < kE t i - kS t i
    · rw [if_pos c2]
      show c49 f 72 (S, G, m) = _
      rw [e1]
      unfold c49_34
      simp (disch := omega) only [cq_gi, cq_gr, cq_a, cq_s, cq_p, cq_pr, cq_is, cq_ar, cq_ab, cq_ln, xq_nz, Option.bind_some, xup2_n, xup2_s, Int.toNat_natCast, Int.reduceToNat, if_pos, if_neg, true_and, and_true, and_self, eq_self, if_true, reduceIte, not_true_eq_false, not_false_eq_true, or_true, true_or, s72 hs, s65 hs, p72_0 hp, k3, e124, e2, k_36 hs, cth]
    · rw [if_neg c2]
      have e3 : c49 f 72 (S, G, m) = c49_104 f 72 (kS t i : Int) (cco B n (kS t i)) (if pVix V (kC t i) = -1 then (V.length : Int) else pVix V (kC t i)) (S, G, m) := by
        rw [e1, ← k_49_74 hv h c1 (by omega) V.length 0 f (by omega) (by omega) (fun j hj => absurd hj (Nat.not_lt_zero j))]
        unfold c49_34 c49_58
        simp (disch := omega) only [cq_gi, cq_gr, cq_a, cq_s, cq_p, cq_pr, cq_is, cq_ar, cq_ab, cq_ln, xq_nz, Option.bind_some, xup2_n, xup2_s, Int.toNat_natCast, Int.reduceToNat, if_pos, if_neg, true_and, and_true, and_self, eq_self, if_true, reduceIte, not_true_eq_false, not_false_eq_true, or_true, true_or, s72 hs, s65 hs, s70 hs, p72_0 hp, p65_6 hp, k3, e124, e70]
        rfl
      by_cases c3 : pVix V (kC t i) = -1
      · rw [if_pos c3] at e3 ⊢
        by_cases c4 : V.length = 8
        · rw [if_pos c4]
          show c49 f 72 (S, G, m) = _
          rw [e3, c4]
          rw [c4] at v1
          unfold c49_104
          simp (disch := omega) only [cq_gi, cq_gr, cq_a, cq_s, cq_p, cq_pr, cq_is, cq_ar, cq_ab, cq_ln, xq_nz, Option.bind_some, xup2_n, xup2_s, Int.toNat_natCast, Int.reduceToNat, if_pos, if_neg, true_and, and_true, and_self, eq_self, if_true, reduceIte, not_true_eq_false, not_false_eq_true, or_true, true_or, s72 hs, us, u1, v1, k_36 hs, cth]
        · rw [if_neg c4]
          have ev : xwr ((V.length : Int) + 1) = ((V.length + 1 : Nat) : Int) := by rw [xwr_g _ (by omega) (by omega)]; omega
          have hx : xF0 u G (xup2 (xup2 (xup2 G 77 V.length (cco B n (kS t i))) (u + 1) V.length (kS t i : Int)) u 6 ((V.length + 1 : Nat) : Int)) := fun a j p q r s => by rw [xup2_n (by omega), xup2_n (by omega), xup2_n (by omega)]
          have hX : cXr S (xup2 (xup2 (xup2 G 77 V.length (cco B n (kS t i))) (u + 1) V.length (kS t i : Int)) u 6 ((V.length + 1 : Nat) : Int)) B n t N w u (V ++ [(kC t i, kS t i)]) K i := by
            refine h.mv hx.f1 ⟨?_, hA.2⟩ h.2.2.1 ⟨?_, ?_, fun v hv => ?_⟩ (fun v hv => ?_) (h.2.2.2.2.2.2.ge ?_ (fun j => ?_) (fun j => ?_))
            · rw [xup2_n (by omega), xup2_n (by omega), xup2_n (by omega)]; exact hA.1
            · rw [xup2_s, len1]
            · rw [len1]; omega
            · rw [len1] at hv
              rw [getD_1, xup2_n (by omega), xup2_n (by omega), xup2_n (by omega : ¬ (u + 1 = u ∧ v = 6))]
              by_cases ck : v = V.length
              · rw [if_pos ck, ck, xup2_s, xup2_s]; exact ⟨rfl, rfl⟩
              · rw [if_neg ck, xup2_n (by omega), xup2_n (by omega), xup2_n (by omega)]
                exact v3 v (by omega)
            · rw [len1] at hv
              rw [getD_1]
              by_cases ck : v = V.length
              · rw [if_pos ck]; exact ⟨i, c1, by omega, rfl⟩
              · rw [if_neg ck]; exact h.2.2.2.2.2.1 v (by omega)
            · rw [xup2_n (by omega), xup2_n (by omega), xup2_n (by omega)]
            · rw [xup2_n (by omega), xup2_n (by omega), xup2_n (by omega)]
            · rw [xup2_n (by omega), xup2_n (by omega), xup2_n (by omega)]
          obtain ⟨b1, b2⟩ := k_37 (f := f) (m := m) hX.1 hX.2.1 (by omega)
          obtain ⟨d1, d2⟩ := hX.at b2 (by omega)
          refine ⟨_, ?_, hx.tr d1, d2⟩
          rw [e3]
          unfold c49_104 c49_128 c49_160
          simp (disch := omega) only [cq_gi, cq_gr, cq_a, cq_s, cq_p, cq_pr, cq_is, cq_ar, cq_ab, cq_ln, xq_nz, Option.bind_some, xup2_n, xup2_s, Int.toNat_natCast, Int.reduceToNat, if_pos, if_neg, true_and, and_true, and_self, eq_self, if_true, reduceIte, not_true_eq_false, not_false_eq_true, or_true, true_or, s72 hs, s77 hs, us, us1, u1, up, p72_13 hp, v1, ev, b1]
      · rw [if_neg c3] at e3 ⊢
        obtain ⟨b1, b2⟩ := k_37 (f := f) (m := m) hE hA (by omega)
        obtain ⟨d1, d2⟩ := h.at b2 (by omega)
        refine ⟨_, ?_, d1, d2⟩
        rw [e3]
        have hr := pVix_in V (kC t i)
        unfold c49_104 c49_160
        simp (disch := omega) only [cq_gi, cq_gr, cq_a, cq_s, cq_p, cq_pr, cq_is, cq_ar, cq_ab, cq_ln, xq_nz, Option.bind_some, xup2_n, xup2_s, Int.toNat_natCast, Int.reduceToNat, if_pos, if_neg, true_and, and_true, and_self, eq_self, if_true, reduceIte, not_true_eq_false, not_false_eq_true, or_true, true_or, s72 hs, us, u1, v1, b1]
  · rw [if_neg c1] at e1
    rw [if_pos c1]
    exact e1
theorem k_49 (hf : 20 < f) (hv : vIn t B n) (h : cXs S G B n t N w u V K st i) : pok (pVar t V i) (fun x => c49 f 72 (S, G, m) = some (.inl 0, cWr S G m (x : Int))) (fun r => ∃ G', c49 f 72 (S, G, m) = some (.inr r.1, (S, G', m)) ∧ xF1 u G G' ∧ cXs S G' B n t N w u r.2.1 K st r.2.2) := by
  have p := k_49r (m := m) hf hv h.r
  have hu := h.2.2.2.1.2.1
  cases hp : pVar t V i with
  | inl x => rw [hp] at p; exact p
  | inr r =>
    rw [hp] at p
    obtain ⟨G1, a1, a2, a3⟩ := p
    exact ⟨G1, a1, a2.f1, a3.s (h.2.2.2.2.2.2.2.ge (a2 _ _ (by omega) (by omega) (by omega) (by omega)) (fun j => a2 _ _ (by omega) (by omega) (by omega) (by omega)))⟩
end
end
section
/-! THE CLASS reads EXPRESSIONS: the loop -/
/-- turns of the loop lead from here to there -/
def lSt (f : Nat) (x1 wn wn' : Int) (it d : Nat) (T T' : xT_) : Prop := ∀ fu, c53_9 f (fu + d) 72 x1 wn (it : Int) T = c53_9 f fu 72 x1 wn' ((it + d : Nat) : Int) T'
def lWr (f : Nat) (x1 wn : Int) (it d : Nat) (T T' : xT_) : Prop := ∀ fu, c53_9 f (fu + d) 72 x1 wn (it : Int) T = some (.inl 0, T')
section
variable {f n N w i u it : Nat} {S : Nat → Nat × Nat × Nat} {G G' G'' : xG_} {m : Nat × Nat} {B : Nat → Int} {t : tStr} {V V' : List (Int × Nat)} {K K' : pCd} {st st' : List Int} {x1 : Int}
theorem lSt.id {a : Int} {T : xT_} : lSt f x1 a a it 0 T T := fun _ => rfl
theorem lSt.tr {a b c : Int} {d e : Nat} {T T' T'' : xT_} (h : lSt f x1 a b it d T T') (h' : lSt f x1 b c (it + d) e T' T'') : lSt f x1 a c it (d + e) T T'' := fun fu => by
  have q : fu + (d + e) = fu + e + d := by omega
  rw [q, h (fu + e), h' fu, Nat.add_assoc]
theorem lSt.wr {a b : Int} {d e : Nat} {T T' T'' : xT_} (h : lSt f x1 a b it d T T') (h' : lWr f x1 b (it + d) e T' T'') : lWr f x1 a it (d + e) T T'' := fun fu => by
  have q : fu + (d + e) = fu + e + d := by omega
  rw [q, h (fu + e), h' fu]
/-- a turn: the kind of the TOKEN -/
theorem kx_turn {wn : Int} (h : cXs S G B n t N w u V K st i) (hi : it ≤ i) (fu : Nat) (hw : wn = 0 ∨ kK t i = 40 ∨ x1 = 0) : c53_9 f (fu + 1) 72 x1 wn (it : Int) (S, G, m) = (if wn = 0 then c53_68 (c53_9 f fu) f 72 x1 wn (it : Int) (kK t i) (S, G, m) else if kK t i = 40 then c53_59 (c53_9 f fu) f 72 x1 wn (it : Int) (kK t i) (S, G, m) else c53_68 (c53_9 f fu) f 72 x1 wn (it : Int) (kK t i) (S, G, m)) := by
  have hE := h.1
  obtain ⟨k1, k2, k3, k4⟩ := hE.tk h.2.1
  have hs := hE.1
  have hp := hE.2.1
  have hN := hE.2.2.2.1.2
  have hi' := h.2.2.1
  show c53_9b (c53_9 f fu) f 72 _ _ _ _ = _
  unfold c53_9b
  rw [if_neg (by omega)]
  by_cases c : wn = 0
  · rw [if_pos c]
    simp (disch := omega) only [cq_gi, cq_gr, cq_a, cq_s, cq_p, cq_pr, cq_is, cq_ar, cq_ab, cq_ln, xq_nz, Option.bind_some, xup2_n, xup2_s, Int.toNat_natCast, Int.reduceToNat, if_pos, if_neg, true_and, and_true, and_self, eq_self, if_true, reduceIte, not_true_eq_false, not_false_eq_true, or_true, true_or, s72 hs, s65 hs, s67 hs, p72_0 hp, p65_3 hp, k1, k3]
  · rw [if_neg c]
    by_cases c2 : kK t i = 40
    · rw [if_pos c2]
      simp (disch := omega) only [cq_gi, cq_gr, cq_a, cq_s, cq_p, cq_pr, cq_is, cq_ar, cq_ab, cq_ln, xq_nz, Option.bind_some, xup2_n, xup2_s, Int.toNat_natCast, Int.reduceToNat, if_pos, if_neg, true_and, and_true, and_self, eq_self, if_true, reduceIte, not_true_eq_false, not_false_eq_true, or_true, true_or, s72 hs, s65 hs, s67 hs, p72_0 hp, p65_3 hp, k1, k3]
    · rw [if_neg c2]
      have hx : x1 = 0 := by rcases hw with q | q | q <;> first | exact absurd q c | exact absurd q c2 | exact q
      simp (disch := omega) only [cq_gi, cq_gr, cq_a, cq_s, cq_p, cq_pr, cq_is, cq_ar, cq_ab, cq_ln, xq_nz, Option.bind_some, xup2_n, xup2_s, Int.toNat_natCast, Int.reduceToNat, if_pos, if_neg, true_and, and_true, and_self, eq_self, if_true, reduceIte, not_true_eq_false, not_false_eq_true, or_true, true_or, s72 hs, s65 hs, s67 hs, p72_0 hp, p65_3 hp, k1, k3]
theorem it_1 (h : cXs S G B n t N w u V K st i) (hi : it ≤ i) : xwr ((it : Int) + 1) = ((it + 1 : Nat) : Int) := by
  have hN := h.1.2.2.2.1.2
  have hi' := h.2.2.1
  rw [xwr_g _ (by omega) (by omega)]; omega
/-- a sign -/
theorem kx_sign {Q : List Int} (hf : 33 < f) (h : cXs S G B n t N w u V K (st ++ Q.reverse) i) (hi : it ≤ i) (hk : 0 < cStr (kK t i)) (hb : st = [] ∨ ∃ z x, st = z ++ [x] ∧ cStr x < cStr (kK t i)) (hQ : ∀ x, x ∈ Q → cStr (kK t i) ≤ cStr x) (hl : (st ++ Q.reverse).length ≤ 31) (hK : K.length + Q.length ≤ 3001) : ∃ G', lSt f x1 0 1 it 1 (S, G, m) (S, G', m) ∧ xF1 u G G' ∧ cXs S G' B n t N w u V (K ++ Q.map cZ) (st ++ [kK t i]) (i + 1) := by
  have hs := h.1.1
  rw [List.length_append, List.length_reverse] at hl
  obtain ⟨G1, a1, a2, a3⟩ := k_59_0 (f := f) (m := m) hk hb Q G K f hQ (by omega) (by rw [List.length_append, List.length_reverse]; omega) hK h
  obtain ⟨G2, b1, b2, b3⟩ := k_57 (f := f) (m := m) (x := kK t i) a3 (by omega)
  have hne : kK t i ≠ 0 ∧ kK t i ≠ 5 := by
    refine ⟨fun q => ?_, fun q => ?_⟩ <;> (rw [q] at hk; exact absurd hk (by decide))
  obtain ⟨l1, l2⟩ := b3.1.lt b3.2.1 hne.1
  obtain ⟨d1, d2⟩ := k_37 (f := f) (m := m) b3.1 b3.2.1 hne.2
  obtain ⟨e1, e2⟩ := b3.at d2 (by omega)
  refine ⟨_, fun fu => ?_, (a2.tr b2).tr e1, e2⟩
  have ei := it_1 h hi
  rw [kx_turn h hi fu (.inl rfl), if_pos rfl]
  unfold c53_68 c53_202
  rw [if_pos rfl]
  have a1' : c59 f 72 (cStr (kK t i)) (S, G, m) = some (S, G1, m) := a1
  simp (disch := omega) only [cq_gi, cq_gr, cq_a, cq_s, cq_p, cq_pr, cq_is, cq_ar, cq_ab, cq_ln, xq_nz, Option.bind_some, xup2_n, xup2_s, Int.toNat_natCast, Int.reduceToNat, if_pos, if_neg, true_and, and_true, and_self, eq_self, if_true, reduceIte, not_true_eq_false, not_false_eq_true, or_true, true_or, s72 hs, k_55, a1', b1, d1, ei]
/-- behind an EXPRESSION -/
theorem kx_end {Q : List Int} (hf : 33 < f) (h : cXs S G B n t N w u V K (st ++ Q.reverse) i) (hi : it ≤ i) (hk : cStr (kK t i) = 0) (hb : st = [] ∨ ∃ z x, st = z ++ [x] ∧ cStr x < 1) (hQ : ∀ x, x ∈ Q → 1 ≤ cStr x) (hl : (st ++ Q.reverse).length ≤ 32) (hK : K.length + Q.length ≤ 3001) : ∃ G', xF1 u G G' ∧ cXs S G' B n t N w u V (K ++ Q.map cZ) st i ∧
    ∀ fu, c53_9 f (fu + 1) 72 x1 0 (it : Int) (S, G, m) = if st = [] then some (.inr (), (S, G', m)) else ((c61 f 72 (kK t i) (S, G', m)).bind fun R163 => cth R163 (fun v169 => ((cq_is 4 20 72 R163.2).bind fun _ => ((c37 f 72 R163.2).bind fun R171 => c53_9 f fu 72 x1 v169 ((it + 1 : Nat) : Int) R171)))) := by
  have hs := h.1.1
  rw [List.length_append, List.length_reverse] at hl
  obtain ⟨G1, a1, a2, a3⟩ := k_59_0 (f := f) (m := m) (ls := 1) (by decide) hb Q G K f hQ (by omega) (by rw [List.length_append, List.length_reverse]; omega) hK h
  refine ⟨G1, a2, a3, fun fu => ?_⟩
  have ei := it_1 h hi
  have h12 := a3.2.2.2.2.2.2.2.1
  rw [kx_turn h hi fu (.inl rfl), if_pos rfl]
  unfold c53_68 c53_202 c53_208
  rw [if_pos rfl]
  have a1' : c59 f 72 1 (S, G, m) = some (S, G1, m) := a1
  by_cases c : st = []
  · rw [if_pos c]
    rw [c] at h12
    have h12' : G1 72 12 = 0 := h12
    simp (disch := omega) only [cq_gi, cq_gr, cq_a, cq_s, cq_p, cq_pr, cq_is, cq_ar, cq_ab, cq_ln, xq_nz, Option.bind_some, xup2_n, xup2_s, Int.toNat_natCast, Int.reduceToNat, if_pos, if_neg, true_and, and_true, and_self, eq_self, if_true, reduceIte, not_true_eq_false, not_false_eq_true, or_true, true_or, s72 hs, k_55, hk, a1', h12']
  · rw [if_neg c]
    have hl' : 0 < st.length := List.length_pos_iff.mpr c
    simp (disch := omega) only [cq_gi, cq_gr, cq_a, cq_s, cq_p, cq_pr, cq_is, cq_ar, cq_ab, cq_ln, xq_nz, Option.bind_some, xup2_n, xup2_s, Int.toNat_natCast, Int.reduceToNat, if_pos, if_neg, true_and, and_true, and_self, eq_self, if_true, reduceIte, not_true_eq_false, not_false_eq_true, or_true, true_or, s72 hs, k_55, hk, a1', h12, ei]
/-- a bracket is closed -/
theorem kx_close {Q : List Int} (hf : 33 < f) (h : cXs S G B n t N w u V K (st ++ [1] ++ Q.reverse) i) (hi : it ≤ i) (hk : cStr (kK t i) = 0) (hQ : ∀ x, x ∈ Q → 1 ≤ cStr x) (hl : (st ++ [1] ++ Q.reverse).length ≤ 32) (hK : K.length + Q.length ≤ 3001) : pok (pNeed t 41 i) (fun x => ∃ G', lWr f x1 0 it 1 (S, G, m) (cWr S G' m (x : Int)) ∧ xF1 u G G') (fun j => ∃ G', lSt f x1 0 0 it 1 (S, G, m) (S, G', m) ∧ xF1 u G G' ∧ cXs S G' B n t N w u V (K ++ Q.map cZ) st j) := by
  have hs := h.1.1
  obtain ⟨G1, a1, a2, a3⟩ := kx_end (f := f) (m := m) (x1 := x1) hf h hi hk (.inr ⟨st, 1, rfl, by decide⟩) hQ hl hK
  have hne : st ++ [1] ≠ [] := by simp
  have hE := a2.1
  have hp := hE.2.1
  obtain ⟨k1, k2, k3, k4⟩ := hE.tk a2.2.1
  have h12 := a2.2.2.2.2.2.2.2.1
  rw [len1] at h12
  have hl1 : st.length ≤ 31 := by rw [List.length_append, len1] at hl; omega
  have hv := a2.2.2.2.2.2.2.2.2 st.length (by rw [len1]; omega)
  rw [getD_1, if_pos rfl] at hv
  have e1 : xwr (((st.length + 1 : Nat) : Int) - 1) = (st.length : Int) := by rw [xwr_g _ (by omega) (by omega)]; omega
  have e61 : c61 f 72 (kK t i) (S, G1, m) = if kK t i = 41 then some (.inr 0, (S, xup2 G1 72 12 (st.length : Int), m)) else some (.inl 0, cWr S G1 m (kS t i : Int)) := by
    unfold c61
    simp (disch := omega) only [cq_gi, cq_gr, cq_a, cq_s, cq_p, cq_pr, cq_is, cq_ar, cq_ab, cq_ln, xq_nz, Option.bind_some, xup2_n, xup2_s, Int.toNat_natCast, Int.reduceToNat, if_pos, if_neg, true_and, and_true, and_self, eq_self, if_true, reduceIte, not_true_eq_false, not_false_eq_true, or_true, true_or, s72 hs, s75 hs, p72_10 hp, h12, hv, e1]
    unfold c61_21 c61_32 c61_37
    rw [if_pos rfl, if_neg (by decide)]
    unfold c61_52 c61_71 c61_160 c61_187 c61_197
    rw [if_neg (by decide : ¬ ((1 : Int) = 0)), if_pos (by decide : ¬ ((1 : Int) = 2)), if_pos (by decide : ¬ ((1 : Int) = 3)), if_pos (by decide : ¬ ((1 : Int) = 4))]
    simp (disch := omega) only [cq_gi, cq_gr, cq_a, cq_s, cq_p, cq_pr, cq_is, cq_ar, cq_ab, cq_ln, xq_nz, Option.bind_some, xup2_n, xup2_s, Int.toNat_natCast, Int.reduceToNat, if_pos, if_neg, true_and, and_true, and_self, eq_self, if_true, reduceIte, not_true_eq_false, not_false_eq_true, or_true, true_or, s72 hs, s65 hs, s68 hs, p72_0 hp, p65_4 hp, h12, e1, k2, k3, k_36 hs, cth]
  unfold pNeed
  by_cases c : kK t i = 41
  · rw [if_pos c] at e61 ⊢
    obtain ⟨x2, x3⟩ := a2.pop
    obtain ⟨l1, l2⟩ := x3.1.lt x3.2.1 (by omega)
    obtain ⟨d1, d2⟩ := k_37 (f := f) (m := m) x3.1 x3.2.1 (by omega)
    obtain ⟨y1, y2⟩ := x3.at d2 (by omega)
    refine ⟨_, fun fu => ?_, (a1.tr x2).tr y1, y2⟩
    rw [a3 fu, if_neg hne, e61]
    simp (disch := omega) only [cq_gi, cq_gr, cq_a, cq_s, cq_p, cq_pr, cq_is, cq_ar, cq_ab, cq_ln, xq_nz, Option.bind_some, xup2_n, xup2_s, Int.toNat_natCast, Int.reduceToNat, if_pos, if_neg, true_and, and_true, and_self, eq_self, if_true, reduceIte, not_true_eq_false, not_false_eq_true, or_true, true_or, s72 hs, cth, d1]
  · rw [if_neg c] at e61 ⊢
    refine ⟨G1, fun fu => ?_, a1⟩
    rw [a3 fu, if_neg hne, e61]
    rfl
/-- a bracket is opened -/
theorem kx_openb (hf : 33 < f) (h : cXs S G B n t N w u V K st i) (hi : it ≤ i) (hk : kK t i = 40) (hl : st.length ≤ 31) : (nBr st = 4 → lWr f x1 1 it 1 (S, G, m) (cWr S G m (kS t i : Int))) ∧ (nBr st ≠ 4 → ∃ G', lSt f x1 1 1 it 1 (S, G, m) (S, G', m) ∧ xF1 u G G' ∧ cXs S G' B n t N w u V K (st ++ [1]) (i + 1)) := by
  have hE := h.1
  obtain ⟨k1, k2, k3, k4⟩ := hE.tk h.2.1
  have hs := hE.1
  have hp := hE.2.1
  have e58 := k_58 (m := m) hf h (by omega)
  have ei := it_1 h hi
  have e60 : ∀ r9 : Nat → Int → Int → Int → xT_ → Option ((Nat ⊕ Unit) × xT_), c53_59 r9 f 72 x1 1 (it : Int) 40 (S, G, m) = ((c60_20 f 72 1 (S, G, m)).bind fun R101 => cth R101 (fun _ => c53_202 r9 f 72 x1 1 (it : Int) R101.2)) := by
    intro r9
    unfold c53_59 c60 c60_11
    rw [if_neg (by decide : ¬ ¬ ((40 : Int) = 40)), if_pos (by decide : ¬ ((1 : Int) = 0))]
    simp (disch := omega) only [cq_gi, cq_gr, cq_a, cq_s, cq_p, cq_pr, cq_is, cq_ar, cq_ab, cq_ln, xq_nz, Option.bind_some, xup2_n, xup2_s, Int.toNat_natCast, Int.reduceToNat, if_pos, if_neg, true_and, and_true, and_self, eq_self, if_true, reduceIte, not_true_eq_false, not_false_eq_true, or_true, true_or, s72 hs]
  refine ⟨fun c fu => ?_, fun c => ?_⟩
  · rw [kx_turn h hi fu (.inr (.inl hk)), if_neg (by decide), if_pos hk, hk, e60]
    rw [c] at e58
    have e58' : c58 f 72 (S, G, m) = some (4, (S, G, m)) := e58
    unfold c60_20 c60_45
    simp (disch := omega) only [cq_gi, cq_gr, cq_a, cq_s, cq_p, cq_pr, cq_is, cq_ar, cq_ab, cq_ln, xq_nz, Option.bind_some, xup2_n, xup2_s, Int.toNat_natCast, Int.reduceToNat, if_pos, if_neg, true_and, and_true, and_self, eq_self, if_true, reduceIte, not_true_eq_false, not_false_eq_true, or_true, true_or, s72 hs, s65 hs, s67 hs, s68 hs, p72_0 hp, p65_3 hp, p65_4 hp, k1, k2, k3, hk, e58', k_36 hs, cth]
  · obtain ⟨l1, l2⟩ := hE.lt h.2.1 (by omega)
    obtain ⟨d1, d2⟩ := k_37 (f := f) (m := m) hE h.2.1 (by omega)
    obtain ⟨y1, y2⟩ := h.at d2 (by omega)
    obtain ⟨G2, b1, b2, b3⟩ := k_57 (f := f) (m := m) (x := 1) y2 (by omega)
    refine ⟨G2, fun fu => ?_, y1.tr b2, b3⟩
    rw [kx_turn h hi fu (.inr (.inl hk)), if_neg (by decide), if_pos hk, hk, e60]
    unfold c60_20 c60_61 c60_75 c53_202
    simp (disch := omega) only [cq_gi, cq_gr, cq_a, cq_s, cq_p, cq_pr, cq_is, cq_ar, cq_ab, cq_ln, xq_nz, Option.bind_some, xup2_n, xup2_s, Int.toNat_natCast, Int.reduceToNat, if_pos, if_neg, true_and, and_true, and_self, eq_self, if_true, reduceIte, not_true_eq_false, not_false_eq_true, or_true, true_or, s72 hs, s65 hs, s67 hs, s68 hs, p72_0 hp, p65_3 hp, p65_4 hp, k1, k2, k3, hk, e58, cth, d1, b1, ei]
/-- an operand of a rule -/
theorem kx_opnd (hf : 33 < f) (hok : tOk t) (hvi : vIn t B n) (h : cXs S G B n t N w u V K st i) (hi : it ≤ i) (hk : kK t i ≠ 40) (hK : K.length < 3001) : pok (if kK t i = 2 then pbind (pVar t V i) fun r => .inr (r.2.1, [((2 : Int), r.1)], r.2.2) else pbind (pVal t i) fun r => .inr (V, [((1 : Int), r.1)], r.2)) (fun x => ∃ G', lWr f 0 1 it 1 (S, G, m) (cWr S G' m (x : Int)) ∧ xF1 u G G') (fun e => ∃ G', lSt f 0 1 0 it 1 (S, G, m) (S, G', m) ∧ xF1 u G G' ∧ cXs S G' B n t N w u e.1 (K ++ e.2.1) st e.2.2) := by
  have hs := h.1.1
  have ei := it_1 h hi
  have hu := h.2.2.2.1.2.1
  have e1 : ∀ fu, c53_9 f (fu + 1) 72 0 1 (it : Int) (S, G, m) = c53_99 (c53_9 f fu) f 72 0 (it : Int) (kK t i) (S, G, m) := by
    intro fu
    rw [kx_turn h hi fu (.inr (.inr rfl)), if_neg (by decide), if_neg hk]
    unfold c53_68
    rw [if_neg (by decide), if_pos rfl]
  by_cases c : kK t i = 2
  · rw [if_pos c]
    have h49 := k_49 (m := m) (by omega : 20 < f) hvi h
    cases hp : pVar t V i with
    | inl x =>
      rw [hp] at h49
      refine ⟨G, fun fu => ?_, .id⟩
      rw [e1]
      unfold c53_99
      rw [if_neg (fun q => q c), if_pos rfl]
      have h49' : c49 f 72 (S, G, m) = _ := h49
      simp (disch := omega) only [cq_gi, cq_gr, cq_a, cq_s, cq_p, cq_pr, cq_is, cq_ar, cq_ab, cq_ln, xq_nz, Option.bind_some, xup2_n, xup2_s, Int.toNat_natCast, Int.reduceToNat, if_pos, if_neg, true_and, and_true, and_self, eq_self, if_true, reduceIte, not_true_eq_false, not_false_eq_true, or_true, true_or, s72 hs, h49', cth]
    | inr r =>
      rw [hp] at h49
      obtain ⟨G1, a1, a2, a3⟩ := h49
      obtain ⟨G2, b1, b2, b3⟩ := k_56 (f := f) (m := m) (a := 2) (b := r.1) a3 hK
      refine ⟨G2, fun fu => ?_, a2.tr b2, b3⟩
      rw [e1]
      unfold c53_99 c53_124 c53_139 c53_202
      rw [if_neg (fun q => q c), if_pos rfl]
      simp (disch := omega) only [cq_gi, cq_gr, cq_a, cq_s, cq_p, cq_pr, cq_is, cq_ar, cq_ab, cq_ln, xq_nz, Option.bind_some, xup2_n, xup2_s, Int.toNat_natCast, Int.reduceToNat, if_pos, if_neg, true_and, and_true, and_self, eq_self, if_true, reduceIte, not_true_eq_false, not_false_eq_true, or_true, true_or, s72 hs, a1, cth, b1, ei]
  · rw [if_neg c]
    have h51 := k_51 (f := f) (m := m) hok h.1 h.2.1
    cases hp : pVal t i with
    | inl x =>
      rw [hp] at h51
      obtain ⟨v, h51⟩ := h51
      refine ⟨xup2 G 72 1 v, fun fu => ?_, fun a j p q r s => xup2_n (by omega)⟩
      rw [e1]
      unfold c53_99
      rw [if_pos c]
      simp (disch := omega) only [cq_gi, cq_gr, cq_a, cq_s, cq_p, cq_pr, cq_is, cq_ar, cq_ab, cq_ln, xq_nz, Option.bind_some, xup2_n, xup2_s, Int.toNat_natCast, Int.reduceToNat, if_pos, if_neg, true_and, and_true, and_self, eq_self, if_true, reduceIte, not_true_eq_false, not_false_eq_true, or_true, true_or, s72 hs, h51, cth]
    | inr r =>
      rw [hp] at h51
      obtain ⟨a1, a2⟩ := h51
      have hr : r.2 ≤ N := by
        unfold pVal at hp
        repeat' split at hp
        all_goals first
          | (cases hp; done)
          | skip
        · rename_i q
          cases hp
          exact (h.1.lt h.2.1 (by omega)).1
        · rename_i q1 q2 q3
          cases hp
          have z0 := h.1.lt h.2.1 (by omega)
          exact Nat.lt_of_not_le (fun q => by have := (h.1.2.2.2.2.1 (i + 1) q).1; omega)
        · rename_i q1 q2 q3
          cases hp
          exact (h.1.lt h.2.1 (by omega)).1
      obtain ⟨y1, y2⟩ := h.at a2 hr
      obtain ⟨G2, b1, b2, b3⟩ := k_56 (f := f) (m := m) (a := 1) (b := r.1) y2 hK
      refine ⟨G2, fun fu => ?_, y1.tr b2, b3⟩
      rw [e1]
      unfold c53_99 c53_139 c53_202
      rw [if_pos c]
      simp (disch := omega) only [cq_gi, cq_gr, cq_a, cq_s, cq_p, cq_pr, cq_is, cq_ar, cq_ab, cq_ln, xq_nz, Option.bind_some, xup2_n, xup2_s, Int.toNat_natCast, Int.reduceToNat, if_pos, if_neg, true_and, and_true, and_self, eq_self, if_true, reduceIte, not_true_eq_false, not_false_eq_true, or_true, true_or, s72 hs, a1, cth, b1, ei]
end
end
section
/-! THE CLASS reads EXPRESSIONS as the spec says -/
def xWr (f : Nat) (S : Nat → Nat × Nat × Nat) (m : Nat × Nat) (u N : Nat) (x1 wn : Int) (it : Nat) (G : xG_) (x : Nat) : Prop := ∃ d G', lWr f x1 wn it d (S, G, m) (cWr S G' m (x : Int)) ∧ xF1 u G G' ∧ it + d ≤ N + 1
/-- what comes behind an EXPRESSION whose last signs still wait -/
def xRt (f : Nat) (S : Nat → Nat × Nat × Nat) (m : Nat × Nat) (B : Nat → Int) (n : Nat) (t : tStr) (N w u : Nat) (K0 : pCd) (st : List Int) (l q : Nat) (wn : Int) (it : Nat) (G : xG_) (e : pEx) : Prop := ∃ (d : Nat) (G' : xG_) (K : pCd) (Q : List Int), lSt f 0 wn 0 it d (S, G, m) (S, G', m) ∧ xF1 u G G' ∧ cXs S G' B n t N w u e.1 K (st ++ Q.reverse) e.2.2 ∧ K ++ Q.map cZ = K0 ++ e.2.1.map cOp ∧ (∀ x, x ∈ Q → (l : Int) ≤ cStr x) ∧ Q.length ≤ q ∧ it + d ≤ e.2.2 ∧ cStr (kK t e.2.2) < l
theorem cStr_w {x : Int} (h : x = 43 ∨ x = 45) : cStr x = 1 := by rcases h with q | q <;> rw [q] <;> rfl
theorem cStr_s {x : Int} (h : x = 42 ∨ x = 47 ∨ x = 37) : cStr x = 2 := by rcases h with q | q | q <;> rw [q] <;> rfl
theorem cStr_0 {x : Int} (h : ¬ (x = 42 ∨ x = 47 ∨ x = 37)) (h' : ¬ (x = 43 ∨ x = 45)) : cStr x = 0 := by unfold cStr; rw [if_neg h, if_neg h']
theorem cStr_1 {x : Int} (h : ¬ (x = 42 ∨ x = 47 ∨ x = 37)) : cStr x < 2 := by unfold cStr; rw [if_neg h]; split <;> decide
theorem cStr_nn (x : Int) : 0 ≤ cStr x ∧ cStr x ≤ 2 := by
  by_cases c : x = 42 ∨ x = 47 ∨ x = 37
  · rw [cStr_s c]; decide
  · by_cases c2 : x = 43 ∨ x = 45
    · rw [cStr_w c2]; decide
    · rw [cStr_0 c c2]; decide
theorem cStr_n2 {x : Int} (h : cStr x < 2) : ¬ (x = 42 ∨ x = 47 ∨ x = 37) := fun q => by have := cStr_s q; omega
section
variable {f n N w u : Nat} {S : Nat → Nat × Nat × Nat} {m : Nat × Nat} {B : Nat → Int} {t : tStr} {K0 : pCd}
theorem cOp_1 {E : pCd} {x : Int} {Q : List Int} {K : pCd} (h : K ++ Q.map cZ = K0 ++ E.map cOp) : K ++ (Q ++ [x]).map cZ = K0 ++ (E ++ [(3, x)]).map cOp := by
  rw [List.map_append, ← List.append_assoc, h, List.map_append, List.append_assoc]
  rfl
theorem kx_all (hf : 33 < f) (hok : tOk t) (hvi : vIn t B n) (hN : N ≤ 3000) : ∀ F,
    (∀ (G : xG_) (V : List (Int × Nat)) (E : pCd) (i it : Nat) (st : List Int) (b : Nat), cXs S G B n t N w u V (K0 ++ E.map cOp) st i → K0.length + E.length ≤ i → it ≤ i → nBr st = b → b ≤ 4 → st.length ≤ 3 * b + 2 → 4 * (N - i) + 1 ≤ F → pok (pX t F 0 b (V, E, i)) (xWr f S m u N 0 1 it G) (fun e => ∃ d G', lSt f 0 1 0 it d (S, G, m) (S, G', m) ∧ xF1 u G G' ∧ cXs S G' B n t N w u e.1 (K0 ++ e.2.1.map cOp) st e.2.2 ∧ it + d ≤ e.2.2)) ∧
    (∀ (G : xG_) (V : List (Int × Nat)) (E : pCd) (i it : Nat) (st : List Int) (b : Nat), cXs S G B n t N w u V (K0 ++ E.map cOp) st i → K0.length + E.length ≤ i → it ≤ i → nBr st = b → b ≤ 4 → st.length ≤ 3 * b → (st = [] ∨ ∃ z x, st = z ++ [x] ∧ cStr x < 1) → 4 * (N - i) + 2 ≤ F → pok (pX t F 1 b (V, E, i)) (xWr f S m u N 0 1 it G) (xRt f S m B n t N w u K0 st 1 2 1 it G)) ∧
    (∀ (G : xG_) (V : List (Int × Nat)) (E : pCd) (i it : Nat) (st : List Int) (b : Nat), cXs S G B n t N w u V (K0 ++ E.map cOp) st i → K0.length + E.length ≤ i → it ≤ i → nBr st = b → b ≤ 4 → st.length ≤ 3 * b → (st = [] ∨ ∃ z x, st = z ++ [x] ∧ cStr x < 1) → 4 * (N - i) + 2 ≤ F → pok (pX t F 2 b (V, E, i)) (xWr f S m u N 0 0 it G) (xRt f S m B n t N w u K0 st 1 2 0 it G)) ∧
    (∀ (G : xG_) (V : List (Int × Nat)) (E K : pCd) (i it : Nat) (st Q : List Int) (b : Nat), cXs S G B n t N w u V K (st ++ Q.reverse) i → K ++ Q.map cZ = K0 ++ E.map cOp → (∀ x, x ∈ Q → 2 ≤ cStr x) → Q.length ≤ 1 → K0.length + E.length ≤ i → it ≤ i → nBr st = b → b ≤ 4 → st.length ≤ 3 * b + 1 → (st = [] ∨ ∃ z x, st = z ++ [x] ∧ cStr x < 2) → 4 * (N - i) + 1 ≤ F → pok (pX t F 3 b (V, E, i)) (xWr f S m u N 0 0 it G) (xRt f S m B n t N w u K0 st 2 1 0 it G)) ∧
    (∀ (G : xG_) (V : List (Int × Nat)) (E K : pCd) (i it : Nat) (st Q : List Int) (b : Nat), cXs S G B n t N w u V K (st ++ Q.reverse) i → K ++ Q.map cZ = K0 ++ E.map cOp → (∀ x, x ∈ Q → 1 ≤ cStr x) → Q.length ≤ 2 → K0.length + E.length ≤ i → it ≤ i → nBr st = b → b ≤ 4 → st.length ≤ 3 * b → (st = [] ∨ ∃ z x, st = z ++ [x] ∧ cStr x < 1) → cStr (kK t i) < 2 → 4 * (N - i) + 1 ≤ F → pok (pX t F 4 b (V, E, i)) (xWr f S m u N 0 0 it G) (xRt f S m B n t N w u K0 st 1 2 0 it G)) := by
  intro F
  induction F with
  | zero =>
    refine ⟨?_, ?_, ?_, ?_, ?_⟩ <;> intros <;> omega
  | succ F ih =>
    obtain ⟨P0, P1, P2, P3, P4⟩ := ih
    refine ⟨?_, ?_, ?_, ?_, ?_⟩
    · -- an operand
      intro G V E i it st b h hK hi hb hb4 hl hF
      have hlen : (K0 ++ E.map cOp).length = K0.length + E.length := by rw [List.length_append, List.length_map]
      have hiN := h.2.2.1
      rw [pX_0]
      show pok (if kK t i = 2 then pbind (pVar t V i) fun r => .inr (r.2.1, E ++ [(2, r.1)], r.2.2) else if kK t i = 40 then (if b = 4 then .inl (kS t i) else pbind (pX t F 1 (b + 1) (V, E, i + 1)) fun e' => pbind (pNeed t 41 e'.2.2) fun i => .inr (e'.1, e'.2.1, i)) else pbind (pVal t i) fun r => .inr (V, E ++ [(1, r.1)], r.2)) _ _
      by_cases c : kK t i = 40
      · rw [if_neg (by omega), if_pos c]
        obtain ⟨o1, o2⟩ := kx_openb (f := f) (m := m) (x1 := 0) hf h hi c (by omega)
        by_cases c4 : b = 4
        · rw [if_pos c4]
          exact ⟨1, G, o1 (by omega), .id, by omega⟩
        · rw [if_neg c4]
          obtain ⟨G1, a1, a2, a3⟩ := o2 (by omega)
          have hlt := (h.1.lt h.2.1 (by omega)).1
          have p1 := P1 G1 V E (i + 1) (it + 1) (st ++ [1]) (b + 1) a3 (by omega) (by omega) (by rw [nBr_1, if_pos (by decide)]; omega) (by omega) (by rw [len1]; omega) (.inr ⟨st, 1, rfl, by decide⟩) (by omega)
          cases hp : pX t F 1 (b + 1) (V, E, i + 1) with
          | inl x =>
            rw [hp] at p1
            obtain ⟨d, G2, b1, b2, b3⟩ := p1
            exact ⟨1 + d, G2, a1.wr b1, a2.tr b2, by omega⟩
          | inr e =>
            rw [hp] at p1
            obtain ⟨d, G2, K, Q, b1, b2, b3, b4, b5, b6, b7, b8⟩ := p1
            obtain ⟨_, _, _, q4, _, _⟩ := pX_le F 1 (b + 1) _ e (by decide) hp
            have hle := congrArg List.length b4
            rw [List.length_append, List.length_append, List.length_map, List.length_map] at hle
            have he2 := b3.2.2.1
            have q4' : e.2.1.length + (i + 1) ≤ E.length + e.2.2 := q4
            have cl := kx_close (f := f) (m := m) (x1 := 0) (it := it + (1 + d)) hf b3 (by omega) (by have := (cStr_nn (kK t e.2.2)).1; omega) b5 (by rw [List.length_append, len1, List.length_reverse]; omega) (by omega)
            show pok (pbind (pNeed t 41 e.2.2) fun i => .inr (e.1, e.2.1, i)) _ _
            cases hn : pNeed t 41 e.2.2 with
            | inl x =>
              rw [hn] at cl
              obtain ⟨G3, d1, d2⟩ := cl
              exact ⟨1 + d + 1, G3, (a1.tr b1).wr d1, (a2.tr b2).tr d2, by omega⟩
            | inr j =>
              rw [hn] at cl
              obtain ⟨G3, d1, d2, d3⟩ := cl
              have hj := (pNeed_le hn).1
              rw [b4] at d3
              exact ⟨1 + d + 1, G3, (a1.tr b1).tr d1, (a2.tr b2).tr d2, d3, by show it + (1 + d + 1) ≤ j; omega⟩
      · have op := kx_opnd (f := f) (m := m) (it := it) hf hok hvi h hi c (by omega)
        by_cases c2 : kK t i = 2
        · rw [if_pos c2] at op ⊢
          cases hp : pVar t V i with
          | inl x =>
            rw [hp] at op
            obtain ⟨G1, a1, a2⟩ := op
            exact ⟨1, G1, a1, a2, by omega⟩
          | inr r =>
            rw [hp] at op
            obtain ⟨G1, a1, a2, a3⟩ := op
            have hr := (pVar_le hp).1
            refine ⟨1, G1, a1, a2, ?_, by show it + 1 ≤ r.2.2; omega⟩
            show cXs S G1 B n t N w u r.2.1 (K0 ++ (E ++ [((2 : Int), r.1)]).map cOp) st r.2.2
            rw [List.map_append, ← List.append_assoc]
            exact a3
        · rw [if_neg c2] at op ⊢
          rw [if_neg c]
          cases hp : pVal t i with
          | inl x =>
            rw [hp] at op
            obtain ⟨G1, a1, a2⟩ := op
            exact ⟨1, G1, a1, a2, by omega⟩
          | inr r =>
            rw [hp] at op
            obtain ⟨G1, a1, a2, a3⟩ := op
            have hr := (pVal_le hp).1
            refine ⟨1, G1, a1, a2, ?_, by show it + 1 ≤ r.2; omega⟩
            show cXs S G1 B n t N w u V (K0 ++ (E ++ [((1 : Int), r.1)]).map cOp) st r.2
            rw [List.map_append, ← List.append_assoc]
            exact a3
    · -- all
      intro G V E i it st b h hK hi hb hb4 hl hbt hF
      rw [pX_1]
      have p0 := P0 G V E i it st b h hK hi hb hb4 (by omega) (by omega)
      cases hp : pX t F 0 b (V, E, i) with
      | inl x =>
        rw [hp] at p0
        exact p0
      | inr e =>
        rw [hp] at p0
        obtain ⟨d, G1, a1, a2, a3, a4⟩ := p0
        obtain ⟨_, q2, _, q4, _, _⟩ := pX_le F 0 b _ e (by decide) hp
        have q2' : i < e.2.2 := q2 (by decide)
        have q4' : e.2.1.length + i ≤ E.length + e.2.2 := q4
        have hiN := a3.2.2.1
        have p2 := P2 G1 e.1 e.2.1 e.2.2 (it + d) st b a3 (by omega) a4 hb hb4 hl hbt (by omega)
        show pok (pX t F 2 b e) _ _
        cases hq : pX t F 2 b e with
        | inl x =>
          rw [hq] at p2
          obtain ⟨d', G2, b1, b2, b3⟩ := p2
          exact ⟨d + d', G2, a1.wr b1, a2.tr b2, by omega⟩
        | inr e' =>
          rw [hq] at p2
          obtain ⟨d', G2, K, Q, b1, b2, b3, b4, b5, b6, b7, b8⟩ := p2
          exact ⟨d + d', G2, K, Q, a1.tr b1, a2.tr b2, b3, b4, b5, b6, by omega, b8⟩
    · -- behind the first operand
      intro G V E i it st b h hK hi hb hb4 hl hbt hF
      rw [pX_2]
      have p0 := P3 G V E (K0 ++ E.map cOp) i it st [] b (by rw [List.reverse_nil, List.append_nil]; exact h) (by rw [List.map_nil, List.append_nil]) (fun x hx => by cases hx) (by simp) hK hi hb hb4 (by omega) (by rcases hbt with q | ⟨z, x, q1, q2⟩; exact .inl q; exact .inr ⟨z, x, q1, by omega⟩) (by omega)
      cases hp : pX t F 3 b (V, E, i) with
      | inl x =>
        rw [hp] at p0
        exact p0
      | inr e =>
        rw [hp] at p0
        obtain ⟨d, G1, K, Q, a1, a2, a3, a4, a5, a6, a7, a8⟩ := p0
        obtain ⟨q1, _, _, q4, _, _⟩ := pX_le F 3 b _ e (by decide) hp
        have q1' : i ≤ e.2.2 := q1
        have q4' : e.2.1.length + i ≤ E.length + e.2.2 := q4
        have hiN := a3.2.2.1
        have p2 := P4 G1 e.1 e.2.1 K e.2.2 (it + d) st Q b a3 a4 (fun x hx => by have := a5 x hx; omega) (by omega) (by omega) a7 hb hb4 hl hbt a8 (by omega)
        show pok (pX t F 4 b e) _ _
        cases hq : pX t F 4 b e with
        | inl x =>
          rw [hq] at p2
          obtain ⟨d', G2, b1, b2, b3⟩ := p2
          exact ⟨d + d', G2, a1.wr b1, a2.tr b2, by omega⟩
        | inr e' =>
          rw [hq] at p2
          obtain ⟨d', G2, K, Q, b1, b2, b3, b4, b5, b6, b7, b8⟩ := p2
          exact ⟨d + d', G2, K, Q, a1.tr b1, a2.tr b2, b3, b4, b5, b6, by omega, b8⟩
    · -- strong signs
      intro G V E K i it st Q b h hE hQ hQ1 hK hi hb hb4 hl hbt hF
      rw [pX_3]
      show pok (if kK t i = 42 ∨ kK t i = 47 ∨ kK t i = 37 then pbind (pX t F 0 b (V, E, i + 1)) fun e' => pX t F 3 b (e'.1, e'.2.1 ++ [(3, kK t i)], e'.2.2) else .inr (V, E, i)) _ _
      by_cases c : kK t i = 42 ∨ kK t i = 47 ∨ kK t i = 37
      · rw [if_pos c]
        have hs2 := cStr_s c
        have hle := congrArg List.length hE
        rw [List.length_append, List.length_append, List.length_map, List.length_map] at hle
        obtain ⟨G1, a1, a2, a3⟩ := kx_sign (f := f) (m := m) (x1 := 0) hf h hi (by omega) (by rw [hs2]; exact hbt) (by rw [hs2]; exact hQ) (by rw [List.length_append, List.length_reverse]; omega) (by have := h.2.2.1; omega)
        rw [hE] at a3
        have hlt := (h.1.lt h.2.1 (by omega)).1
        have p0 := P0 G1 V E (i + 1) (it + 1) (st ++ [kK t i]) b a3 (by omega) (by omega) (by rw [nBr_1, if_neg (by omega)]; omega) hb4 (by rw [len1]; omega) (by omega)
        cases hp : pX t F 0 b (V, E, i + 1) with
        | inl x =>
          rw [hp] at p0
          obtain ⟨d, G2, b1, b2, b3⟩ := p0
          exact ⟨1 + d, G2, a1.wr b1, a2.tr b2, by omega⟩
        | inr e =>
          rw [hp] at p0
          obtain ⟨d, G2, b1, b2, b3, b4⟩ := p0
          obtain ⟨_, q2, _, q4, _, _⟩ := pX_le F 0 b _ e (by decide) hp
          have q2' : i + 1 < e.2.2 := q2 (by decide)
          have q4' : e.2.1.length + (i + 1) ≤ E.length + e.2.2 := q4
          have hiN := b3.2.2.1
          have p2 := P3 G2 e.1 (e.2.1 ++ [(3, kK t i)]) (K0 ++ e.2.1.map cOp) e.2.2 (it + (1 + d)) st [kK t i] b b3 (by have := cOp_1 (K0 := K0) (E := e.2.1) (x := kK t i) (Q := []) (K := K0 ++ e.2.1.map cOp) (by rw [List.map_nil, List.append_nil]); exact this) (fun x hx => by rw [List.mem_singleton] at hx; rw [hx]; omega) (by simp) (by rw [len1]; omega) (by omega) hb hb4 hl hbt (by omega)
          show pok (pX t F 3 b (e.1, e.2.1 ++ [(3, kK t i)], e.2.2)) _ _
          cases hq : pX t F 3 b (e.1, e.2.1 ++ [(3, kK t i)], e.2.2) with
          | inl x =>
            rw [hq] at p2
            obtain ⟨d', G3, c1, c2, c3⟩ := p2
            exact ⟨1 + d + d', G3, (a1.tr b1).wr c1, (a2.tr b2).tr c2, by omega⟩
          | inr e' =>
            rw [hq] at p2
            obtain ⟨d', G3, K3, Q3, c1, c2, c3, c4, c5, c6, c7, c8⟩ := p2
            exact ⟨1 + d + d', G3, K3, Q3, (a1.tr b1).tr c1, (a2.tr b2).tr c2, c3, c4, c5, c6, by omega, c8⟩
      · rw [if_neg c]
        exact ⟨0, G, K, Q, .id, .id, h, hE, hQ, hQ1, hi, by show cStr (kK t i) < 2; exact cStr_1 c⟩
    · -- weak signs
      intro G V E K i it st Q b h hE hQ hQ1 hK hi hb hb4 hl hbt hk2 hF
      rw [pX_4]
      show pok (if kK t i = 43 ∨ kK t i = 45 then pbind (pX t F 0 b (V, E, i + 1)) fun e1 => pbind (pX t F 3 b e1) fun e' => pX t F 4 b (e'.1, e'.2.1 ++ [(3, kK t i)], e'.2.2) else .inr (V, E, i)) _ _
      by_cases c : kK t i = 43 ∨ kK t i = 45
      · rw [if_pos c]
        have hs2 := cStr_w c
        have hle := congrArg List.length hE
        rw [List.length_append, List.length_append, List.length_map, List.length_map] at hle
        obtain ⟨G1, a1, a2, a3⟩ := kx_sign (f := f) (m := m) (x1 := 0) hf h hi (by omega) (by rw [hs2]; exact hbt) (by rw [hs2]; exact hQ) (by rw [List.length_append, List.length_reverse]; omega) (by have := h.2.2.1; omega)
        rw [hE] at a3
        have hlt := (h.1.lt h.2.1 (by omega)).1
        have p0 := P0 G1 V E (i + 1) (it + 1) (st ++ [kK t i]) b a3 (by omega) (by omega) (by rw [nBr_1, if_neg (by omega)]; omega) hb4 (by rw [len1]; omega) (by omega)
        cases hp : pX t F 0 b (V, E, i + 1) with
        | inl x =>
          rw [hp] at p0
          obtain ⟨d, G2, b1, b2, b3⟩ := p0
          exact ⟨1 + d, G2, a1.wr b1, a2.tr b2, by omega⟩
        | inr e =>
          rw [hp] at p0
          obtain ⟨d, G2, b1, b2, b3, b4⟩ := p0
          obtain ⟨_, q2, _, q4, _, _⟩ := pX_le F 0 b _ e (by decide) hp
          have q2' : i + 1 < e.2.2 := q2 (by decide)
          have q4' : e.2.1.length + (i + 1) ≤ E.length + e.2.2 := q4
          have hiN := b3.2.2.1
          have p2 := P3 G2 e.1 e.2.1 (K0 ++ e.2.1.map cOp) e.2.2 (it + (1 + d)) (st ++ [kK t i]) [] b (by rw [List.reverse_nil, List.append_nil]; exact b3) (by rw [List.map_nil, List.append_nil]) (fun x hx => by cases hx) (by simp) (by omega) (by omega) (by rw [nBr_1, if_neg (by omega)]; omega) hb4 (by rw [len1]; omega) (.inr ⟨st, kK t i, rfl, by omega⟩) (by omega)
          show pok (pbind (pX t F 3 b e) fun e' => pX t F 4 b (e'.1, e'.2.1 ++ [(3, kK t i)], e'.2.2)) _ _
          cases hq : pX t F 3 b e with
          | inl x =>
            rw [hq] at p2
            obtain ⟨d', G3, c1, c2, c3⟩ := p2
            exact ⟨1 + d + d', G3, (a1.tr b1).wr c1, (a2.tr b2).tr c2, by omega⟩
          | inr e' =>
            rw [hq] at p2
            obtain ⟨d', G3, K3, Q3, c1, c2, c3, c4, c5, c6, c7, c8⟩ := p2
            obtain ⟨r1, _, _, r4, _, _⟩ := pX_le F 3 b _ e' (by decide) hq
            have hiN' := c3.2.2.1
            have c3' : cXs S G3 B n t N w u e'.1 K3 (st ++ (Q3 ++ [kK t i]).reverse) e'.2.2 := by
              rw [List.reverse_append, ← List.append_assoc]
              exact c3
            have p4 := P4 G3 e'.1 (e'.2.1 ++ [(3, kK t i)]) K3 e'.2.2 (it + (1 + d + d')) st (Q3 ++ [kK t i]) b c3' (cOp_1 c4) (fun x hx => by
              rw [List.mem_append, List.mem_singleton] at hx
              rcases hx with q | q
              · have := c5 x q; omega
              · rw [q]; omega) (by rw [len1]; omega) (by rw [len1]; omega) (by omega) hb hb4 hl hbt c8 (by omega)
            show pok (pX t F 4 b (e'.1, e'.2.1 ++ [(3, kK t i)], e'.2.2)) _ _
            cases hz : pX t F 4 b (e'.1, e'.2.1 ++ [(3, kK t i)], e'.2.2) with
            | inl x =>
              rw [hz] at p4
              obtain ⟨d2, G4, y1, y2, y3⟩ := p4
              exact ⟨1 + d + d' + d2, G4, ((a1.tr b1).tr c1).wr y1, ((a2.tr b2).tr c2).tr y2, by omega⟩
            | inr e2 =>
              rw [hz] at p4
              obtain ⟨d2, G4, K4, Q4, y1, y2, y3, y4, y5, y6, y7, y8⟩ := p4
              exact ⟨1 + d + d' + d2, G4, K4, Q4, ((a1.tr b1).tr c1).tr y1, ((a2.tr b2).tr c2).tr y2, y3, y4, y5, y6, by omega, y8⟩
      · rw [if_neg c]
        exact ⟨0, G, K, Q, .id, .id, h, hE, hQ, hQ1, hi, by show cStr (kK t i) < 1; rw [cStr_0 (cStr_n2 hk2) c]; decide⟩
/-- readExpression() of a rule -/
theorem k_53 {F i : Nat} {G : xG_} {V : List (Int × Nat)} (hf : 3010 < f) (hok : tOk t) (hvi : vIn t B n) (h : cXr S G B n t N w u V K0 i) (hK : K0.length ≤ i) (hF : 4 * (N - i) + 2 ≤ F) : pok (pX t F 1 0 (V, [], i)) (fun x => ∃ G', c53 f 72 0 (S, G, m) = some (.inl 0, cWr S G' m (x : Int)) ∧ xF1 u G G') (fun e => ∃ G', c53 f 72 0 (S, G, m) = some (.inr (), (S, G', m)) ∧ xF1 u G G' ∧ cXr S G' B n t N w u e.1 (K0 ++ e.2.1.map cOp) e.2.2) := by
  have hs := h.1.1
  have hu := h.2.2.2.1.2.1
  have hN := h.1.2.2.2.1.2
  have hx : xF1 u G (xup2 G 72 12 0) := fun a j p q r s => xup2_n (by omega)
  have h' : cXs S (xup2 G 72 12 0) B n t N w u V (K0 ++ ([] : pCd).map cOp) [] i := by
    rw [List.map_nil, List.append_nil]
    refine (h.mv hx ⟨?_, h.2.1.2⟩ h.2.2.1 (h.2.2.2.2.1.ge ?_ (fun j => ?_) (fun j => ?_)) h.2.2.2.2.2.1 (h.2.2.2.2.2.2.ge ?_ (fun j => ?_) (fun j => ?_))).s ⟨xup2_s _ _ _ _, fun k hk => absurd hk (Nat.not_lt_zero k)⟩
    · rw [xup2_n (by omega)]; exact h.2.1.1
    · rw [xup2_n (by omega)]
    · rw [xup2_n (by omega)]
    · rw [xup2_n (by omega)]
    · rw [xup2_n (by omega)]
    · rw [xup2_n (by omega)]
    · rw [xup2_n (by omega)]
  have e1 : c53 f 72 0 (S, G, m) = c53_9 f f 72 0 1 ((0 : Nat) : Int) (S, xup2 G 72 12 0, m) := by
    unfold c53
    simp (disch := omega) only [cq_gi, cq_gr, cq_a, cq_s, cq_p, cq_pr, cq_is, cq_ar, cq_ab, cq_ln, xq_nz, Option.bind_some, xup2_n, xup2_s, Int.toNat_natCast, Int.reduceToNat, if_pos, if_neg, true_and, and_true, and_self, eq_self, if_true, reduceIte, not_true_eq_false, not_false_eq_true, or_true, true_or, s72 hs]
    rfl
  have p := (kx_all (f := f) (m := m) (w := w) (u := u) (S := S) (K0 := K0) (by omega) hok hvi hN F).2.1 _ V [] i 0 [] 0 h' (by simp; omega) (by omega) rfl (by omega) (by simp) (.inl rfl) hF
  cases hp : pX t F 1 0 (V, [], i) with
  | inl x =>
    rw [hp] at p
    obtain ⟨d, G', a1, a2, a3⟩ := p
    refine ⟨G', ?_, hx.tr a2⟩
    rw [e1]
    have := a1 (f - d)
    have q : f - d + d = f := by omega
    rw [q] at this
    exact this
  | inr e =>
    rw [hp] at p
    obtain ⟨d, G', K, Q, a1, a2, a3, a4, a5, a6, a7, a8⟩ := p
    obtain ⟨_, _, _, q4, _, _⟩ := pX_le F 1 0 _ e (by decide) hp
    have q4' : e.2.1.length + i ≤ 0 + e.2.2 := q4
    have hle := congrArg List.length a4
    rw [List.length_append, List.length_append, List.length_map, List.length_map] at hle
    have he := a3.2.2.1
    obtain ⟨G2, b1, b2, b3⟩ := kx_end (f := f) (m := m) (x1 := 0) (it := 0 + d) (by omega) a3 a7 (by have := (cStr_nn (kK t e.2.2)).1; omega) (.inl rfl) a5 (by simp; omega) (by omega)
    refine ⟨G2, ?_, (hx.tr a2).tr b1, ?_⟩
    · rw [e1]
      have := a1 (f - d)
      have q : f - d + d = f := by omega
      rw [q] at this
      rw [this]
      have q' : f - d = (f - d - 1) + 1 := by omega
      rw [q', b3, if_pos rfl]
    · rw [← a4]; exact b2.r
end
end
