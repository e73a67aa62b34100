/-! THE CLASS reads ATOMS: all -/
def xFa (tell : Bool) (q u l : Nat) (G G' : xG_) : Prop := ∀ a j, ¬ (a = 72 ∧ (j = 1 ∨ j = 14)) → ¬ (78 ≤ a ∧ a ≤ 81) → ¬ (tell = true ∧ a = q + 2) → ¬ (a = u ∧ j = 8) → ¬ ((u + 2 ≤ a ∧ a ≤ u + 4) ∧ j = l) → G' a j = G a j
section
variable {f n N w i u q l : Nat} {S : Nat → Nat × Nat × Nat} {G G' G'' : xG_} {m : Nat × Nat} {B : Nat → Int} {t : tStr} {V V' : List (Int × Nat)} {K K' : pCd} {L : List Int} {tell : Bool} {M : List pMn}
theorem xFa.f2 (h : xFa tell q u l G G') : xF2 tell q u G G' := fun a j p1 p2 p3 p4 p5 p6 => h a j (by omega) (by omega) (fun z => p3 ⟨z.1, by omega⟩) (by omega) (by omega)
/-- the stores behind an ATOM -/
def aUp (G : xG_) (u l : Nat) (kd p c : Int) : xG_ := xup2 (xup2 (xup2 (xup2 G (u + 2) l kd) (u + 3) l p) (u + 4) l c) u 8 ((l + 1 : Nat) : Int)
theorem aUp_n {kd p c : Int} (a j : Nat) (h : ¬ (a = u ∧ j = 8)) (h' : ¬ ((u + 2 ≤ a ∧ a ≤ u + 4) ∧ j = l)) : aUp G u l kd p c a j = G a j := by
  unfold aUp
  rw [xup2_n (by omega), xup2_n (by omega), xup2_n (by omega), xup2_n (by omega)]
theorem aUp_s {kd p c : Int} : aUp G u l kd p c (u + 2) l = kd ∧ aUp G u l kd p c (u + 3) l = p ∧ aUp G u l kd p c (u + 4) l = c ∧ aUp G u l kd p c u 8 = ((l + 1 : Nat) : Int) := by
  unfold aUp
  refine ⟨?_, ?_, ?_, xup2_s _ _ _ _⟩
  · rw [xup2_n (by omega), xup2_n (by omega), xup2_n (by omega), xup2_s]
  · rw [xup2_n (by omega), xup2_n (by omega), xup2_s]
  · rw [xup2_n (by omega), xup2_s]
theorem aUp_x {kd p c : Int} (h : cXr S G B n t N w u V K i) : cXr S (aUp G u l kd p c) B n t N w u V K i := by
  have hu := h.2.2.2.1.2.1
  exact h.st (fun b k z => aUp_n b k (by omega) (by omega)) (fun k p q r s => aUp_n u k (by omega) (by omega)) (fun k => aUp_n (u + 1) k (by omega) (by omega))
/-- the stores of a mention -/
def mSt (G : xG_) (c : Nat) (k p s d : Int) : xG_ := xup2 (xup2 (xup2 (xup2 (xup2 G 79 c k) 78 c p) 80 c s) 81 c d) 72 14 ((c + 1 : Nat) : Int)
theorem mSt_n {k p s d : Int} {c : Nat} (a j : Nat) (h : ¬ (a = 72 ∧ j = 14)) (h' : ¬ (78 ≤ a ∧ a ≤ 81)) : mSt G c k p s d a j = G a j := by
  unfold mSt
  exact mUp a j h h'
theorem mSt_m {k p s d : Int} {y : pMn} (h : cMe G M) (h1 : p = y.1) (h2 : k = mKd y.2.2.2) (h3 : s = (y.2.1 : Int)) (h4 : y.2.2.1 ≠ -1 → d = y.2.2.1) : cMe (mSt G M.length k p s d) (M ++ [y]) := by
  unfold mSt
  exact h.add h1 h2 h3 h4
theorem mSt_40 {c : Nat} {k p s d : Int} (hs : cSs S) (hp : cPs G) (h : G 72 14 = (c : Int)) (hc : c < 1024) : c40 f 72 k p s d (S, G, m) = some (S, mSt G c k p s d, m) := by
  unfold mSt
  exact k_40 hs hp h hc
theorem mSt_x {k p s d : Int} {c : Nat} (h : cXr S G B n t N w u V K i) : cXr S (mSt G c k p s d) B n t N w u V K i := by
  have hu := h.2.2.2.1.2.1
  exact h.st (fun b k z => mSt_n b k (by omega) (by omega)) (fun k p q r s => mSt_n u k (by omega) (by omega)) (fun k => mSt_n (u + 1) k (by omega) (by omega))
theorem cPr0.fa (hr : cPr0 S G q tell L) (hqu : q + 10 < u) (h : xFa false 0 u l G G') : cPr0 S G' q tell L := by
  have hq82 := hr.2.1
  exact hr.ge (h 72 3 (by omega) (by omega) (fun z => nomatch z.1) (by omega) (by omega)) (h 72 4 (by omega) (by omega) (fun z => nomatch z.1) (by omega) (by omega)) (fun k z1 z2 z3 => h q k (by omega) (by omega) (fun z => nomatch z.1) (by omega) (by omega)) (fun k => h (q + 1) k (by omega) (by omega) (fun z => nomatch z.1) (by omega) (by omega))
theorem cWd.fa (hw : cWd G q M) (hq82 : 82 < q) (hqu : q + 10 < u) (h : xFa false 0 u l G G') : cWd G' q M := hw.ge (fun k => h (q + 2) k (by omega) (by omega) (fun z => nomatch z.1) (by omega) (by omega))
theorem aUp_f {kd p c : Int} (h : ∀ a j, ¬ (a = 72 ∧ j = 1) → G' a j = G a j) : ∀ a j, ¬ (a = 72 ∧ j = 1) → ¬ (a = u ∧ j = 8) → ¬ ((u + 2 ≤ a ∧ a ≤ u + 4) ∧ j = l) → aUp G' u l kd p c a j = G a j := fun a j z1 z2 z3 => by rw [aUp_n a j z2 z3, h a j z1]
theorem aUp_m {kd p c : Int} (hu : 278 < u) (h : cMe G M) : cMe (aUp G u l kd p c) M := h.ge (aUp_n _ _ (by omega) (by omega)) (fun a k z1 z2 => aUp_n _ _ (by omega) (by omega))
theorem at_m {v : Int} (h : cMe G M) : cMe (xup2 G 72 1 v) M := h.ge (xup2_n (by omega)) (fun a k z1 z2 => xup2_n (by omega))
theorem aUp_fa {kd p c v : Int} {k' s' d' : Int} {e : Nat} (hu : 278 < u) : xFa false 0 u l G (mSt (aUp (xup2 G 72 1 v) u l kd p c) e k' p s' d') := fun a j z1 z2 z3 z4 z5 => by
  rw [mSt_n a j (by omega) z2, aUp_n a j z4 z5, xup2_n (by omega)]
theorem aUp_ss {kd p c : Int} {k' s' d' : Int} {e : Nat} (hu : 278 < u) : mSt (aUp G u l kd p c) e k' p s' d' (u + 2) l = kd ∧ mSt (aUp G u l kd p c) e k' p s' d' (u + 3) l = p ∧ mSt (aUp G u l kd p c) e k' p s' d' (u + 4) l = c ∧ mSt (aUp G u l kd p c) e k' p s' d' u 8 = ((l + 1 : Nat) : Int) := by
  rw [mSt_n _ _ (by omega) (by omega), mSt_n _ _ (by omega) (by omega), mSt_n _ _ (by omega) (by omega), mSt_n _ _ (by omega) (by omega)]
  exact aUp_s
theorem k_149_1 {kd p sp : Int} {c : Nat} (h : cXr S G B n t N w u V K i) (hM : cMe G M) (hl8 : G u 8 = (l : Int)) (hl : l < 8) (hm : M.length < 1024) {s : Nat} (hsp : sp = (s : Int)) :
    pok (pNeed t 41 i) (fun x => c46_149 f 72 kd sp p (l : Int) (c : Int) (S, G, m) = some (.inl 0, cWr S G m (x : Int)))
      (fun j => ∃ G', c46_149 f 72 kd sp p (l : Int) (c : Int) (S, G, m) = ((cq_gi 4 4 20 72 (S, G', m)).bind fun v151 => (if v151 = 0 then c46_229 f (S, G', m) else ((cq_gr 4 3 20 72 (S, G', m)).bind fun v154 => ((cq_is 3 14 v154 (S, G', m)).bind fun _ => ((c23 f v154 p (c : Int) (S, G', m)).bind fun R156 => c46_229 f R156))))) ∧ j = i + 1 ∧ cXr S G' B n t N w u V K j ∧ cMe G' (M ++ [(p, s, (c : Int), 4)]) ∧ (G' (u + 2) l = kd ∧ G' (u + 3) l = p ∧ G' (u + 4) l = (c : Int) ∧ G' u 8 = ((l + 1 : Nat) : Int)) ∧ xFa false 0 u l G G') := by
  have hs := h.1.1
  obtain ⟨u1, u2, ⟨us, us1, us2, us3, us4, _⟩, w7, w9, w10, w11, _⟩ := h.2.2.2.1
  have p38 := k_38 (f := f) (m := m) (c := 41) (by decide) h.1 h.2.1
  cases hn : pNeed t 41 i with
  | inl x =>
    rw [hn] at p38
    have p38' : c38 f 72 41 (S, G, m) = _ := p38
    show c46_149 f 72 kd sp p (l : Int) (c : Int) (S, G, m) = _
    unfold c46_149
    simp (disch := omega) only [cq_gi, cq_gr, cq_a, cq_s, cq_p, cq_pr, cq_is, cq_ar, cq_ab, cq_ln, xq_nz, Option.bind_some, xup2_n, xup2_s, Int.toNat_natCast, Int.reduceToNat, if_pos, if_neg, true_and, and_true, and_self, eq_self, if_true, reduceIte, not_true_eq_false, not_false_eq_true, or_true, true_or, s72 hs, p38', cth]
  | inr j =>
    rw [hn] at p38
    obtain ⟨a1, a2, a3, a4⟩ := p38
    have hlt := (h.1.lt h.2.1 (by omega)).1
    obtain ⟨b1, b2⟩ := h.at a4 (by omega)
    have el : xwr ((l : Int) + 1) = ((l + 1 : Nat) : Int) := by rw [xwr_g _ (by omega) (by omega)]; omega
    have d2 := aUp_x (l := l) (kd := kd) (p := p) (c := (c : Int)) b2
    have hM2 := aUp_m (u := u) (l := l) (kd := kd) (p := p) (c := (c : Int)) u2 (at_m (v := ((min j N : Nat) : Int)) hM)
    have e40 := mSt_40 (f := f) (m := m) (k := 15) (p := p) (s := sp) (d := (c : Int)) hs d2.1.2.1 hM2.1 hm
    have e1 : c46_149 f 72 kd sp p (l : Int) (c : Int) (S, G, m) = ((c40 f 72 15 p sp (c : Int) (S, aUp (xup2 G 72 1 ((min j N : Nat) : Int)) u l kd p (c : Int), m)).bind fun R145 => ((cq_gi 4 4 20 72 R145).bind fun v151 => (if v151 = 0 then c46_229 f R145 else ((cq_gr 4 3 20 72 R145).bind fun v154 => ((cq_is 3 14 v154 R145).bind fun _ => ((c23 f v154 p (c : Int) R145).bind fun R156 => c46_229 f R156)))))) := by
      clear e40 hM2 d2
      unfold c46_149 aUp
      simp (disch := omega) only [cq_gi, cq_gr, cq_a, cq_s, cq_p, cq_pr, cq_is, cq_ar, cq_ab, cq_ln, xq_nz, Option.bind_some, xup2_n, xup2_s, Int.toNat_natCast, Int.reduceToNat, if_pos, if_neg, true_and, and_true, and_self, eq_self, if_true, reduceIte, not_true_eq_false, not_false_eq_true, or_true, true_or, s72 hs, us, us2, us3, us4, a1, cth, u1, w9, w10, w11, hl8, el]
    refine ⟨_, by rw [e1, e40]; rfl, a2, mSt_x d2, mSt_m (k := 15) (p := p) (s := sp) (d := (c : Int)) (y := (p, s, (c : Int), 4)) hM2 rfl rfl hsp (fun _ => rfl), aUp_ss u2, aUp_fa u2⟩
theorem k_46_149a {kd p sp : Int} {c : Nat} (hT : tell = true → cWd G q M ∧ mPos M ∧ ∃ p' : Nat, p = p' ∧ p' < 16) (h : cXr S G B n t N w u V K i) (hr : cPr0 S G q tell L) (hqu : q + 10 < u) (hM : cMe G M) (hl8 : G u 8 = (l : Int)) (hl : l < 8) (hc1 : 1 ≤ c) (hm : M.length < 1024) {s : Nat} (hsp : sp = (s : Int)) :
    pok (pNeed t 41 i) (fun x => c46_149 f 72 kd sp p (l : Int) (c : Int) (S, G, m) = some (.inl 0, cWr S G m (x : Int)))
      (fun j => ∃ G', c46_149 f 72 kd sp p (l : Int) (c : Int) (S, G, m) = some (.inr (), (S, G', m)) ∧ j = i + 1 ∧ cXr S G' B n t N w u V K j ∧ cPr0 S G' q tell L ∧ cMe G' (M ++ [(p, s, (c : Int), 4)]) ∧ (tell = true → cWd G' q (M ++ [(p, s, (c : Int), 4)])) ∧ (G' (u + 2) l = kd ∧ G' (u + 3) l = p ∧ G' (u + 4) l = (c : Int) ∧ G' u 8 = ((l + 1 : Nat) : Int)) ∧ xFa tell q u l G G') := by
  have hs := h.1.1
  have pp := k_149_1 (f := f) (m := m) (kd := kd) (p := p) (c := c) h hM hl8 hl hm hsp
  cases hn : pNeed t 41 i with
  | inl x => rw [hn] at pp; exact pp
  | inr j =>
    rw [hn] at pp
    obtain ⟨G3, e1, a2, d3, hM3, hs3, zz⟩ := pp
    have hr3 := hr.fa hqu zz
    have h4 := hr3.2.2.2.1
    cases tell with
    | false =>
      refine ⟨G3, ?_, a2, d3, hr3, hM3, (by intro z; cases z), hs3, fun a k z1 z2 z3 z4 z5 => zz a k z1 z2 (fun z => nomatch z.1) z4 z5⟩
      have h4' : G3 72 4 = (0 : Int) := h4
      rw [e1]
      unfold c46_229
      simp (disch := omega) only [cq_gi, cq_gr, cq_a, cq_s, cq_p, cq_pr, cq_is, cq_ar, cq_ab, cq_ln, xq_nz, Option.bind_some, xup2_n, xup2_s, Int.toNat_natCast, Int.reduceToNat, if_pos, if_neg, true_and, and_true, and_self, eq_self, if_true, reduceIte, not_true_eq_false, not_false_eq_true, or_true, true_or, s72 hs, h4']
    | true =>
      obtain ⟨t1, t2, p', t3, t4⟩ := hT rfl
      have hq := hr.2.2.1 rfl
      have hW3 := t1.fa hr.2.1 hqu zz
      obtain ⟨G5, f1, f2, f3⟩ := k_23 (f := f) (m := m) (p := p') (c := c) hr3.2.2.2.2.1 hr3.2.2.2.2.2.1 t4 t2 hW3 (y := (p, s, (c : Int), 4)) t3 rfl hc1
      have h4' : G3 72 4 = (1 : Int) := h4
      have h3' := hr3.1
      have hq1 := hr3.2.2.2.2.1.1
      rw [← t3] at f1
      refine ⟨G5, ?_, a2, ?_, ?_, ?_, fun _ => f2, ?_, fun a k z1 z2 z3 z4 z5 => ?_⟩
      · rw [e1]
        unfold c46_229
        simp (disch := omega) only [cq_gi, cq_gr, cq_a, cq_s, cq_p, cq_pr, cq_is, cq_ar, cq_ab, cq_ln, xq_nz, Option.bind_some, xup2_n, xup2_s, Int.toNat_natCast, Int.reduceToNat, if_pos, if_neg, true_and, and_true, and_self, eq_self, if_true, reduceIte, not_true_eq_false, not_false_eq_true, or_true, true_or, s72 hs, h4', h3', hq1, f1]
      · clear h4 h4' h3' e1 hs3 hM hM3 hl8
        exact d3.st (fun a k z => f3 a k (by omega)) (fun k z1 z2 z3 z4 => f3 u k (by omega)) (fun k => f3 (u + 1) k (by omega))
      · clear h4 h4' h3' e1 hs3 hM hM3 hl8
        exact hr3.ge (f3 _ _ (by omega)) (f3 _ _ (by omega)) (fun k z1 z2 z3 => f3 _ _ (by omega)) (fun k => f3 _ _ (by omega))
      · clear h4 h4' h3' e1 hs3 hl8
        exact hM3.ge (f3 _ _ (by omega)) (fun a k z1 z2 => f3 _ _ (by omega))
      · rw [f3 (u + 2) l (by omega), f3 (u + 3) l (by omega), f3 (u + 4) l (by omega), f3 u 8 (by omega)]; exact hs3
      · rw [f3 a k (fun y => z3 ⟨rfl, y⟩)]; exact zz a k z1 z2 (fun z => nomatch z.1) z4 z5
end
