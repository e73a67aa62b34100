/-! THE CLASS: the SHEET: over rows, reckon() with its ERRORS, operand() -/
section
variable {f nx mo cc q rp : Nat} {S : Nat → Nat × Nat × Nat} {G : xG_} {m : Nat × Nat} {s : pPg} {xr cr : Nat → Nat} {M : Nat → List pRw} {C : fCs} {D : Nat → Prop}
theorem st_109e {op col v : Int} {x fu i : Nat} (hx : S x = (1, 5, 4)) (h1 : G x 1 = (i : Int)) : c109_71 f (fu + 1) op col x v (i : Int) (S, G, m) = some (if op = 11 then eW (fBd v) else v, (S, G, m)) := by
  show c109_71b (c109_71 f fu) f _ _ _ _ _ _ = _
  unfold c109_71b c109_179
  by_cases c : op = 11
  · rw [if_pos c]
    simp (disch := omega) only [cq_gi, cq_gr, cq_a, cq_s, cq_p, cq_pr, cq_is, cq_ar, cq_ab, cq_ln, xq_nz, Option.bind_some, xup2_n, xup2_s, Int.toNat_natCast, Int.reduceToNat, if_pos, if_neg, true_and, and_true, and_self, eq_self, if_true, reduceIte, not_true_eq_false, not_false_eq_true, or_true, true_or, hx, h1, c, k_108]
  · rw [if_neg c]
    simp (disch := omega) only [cq_gi, cq_gr, cq_a, cq_s, cq_p, cq_pr, cq_is, cq_ar, cq_ab, cq_ln, xq_nz, Option.bind_some, xup2_n, xup2_s, Int.toNat_natCast, Int.reduceToNat, if_pos, if_neg, true_and, and_true, and_self, eq_self, if_true, reduceIte, not_true_eq_false, not_false_eq_true, or_true, true_or, hx, h1, c, k_108]
theorem st_109i {op col v w : Int} {x fu i L : Nat} (hx : S x = (1, 5, 4)) (h1 : G x 1 = (L : Int)) (hi : i < L) (hL : L ≤ 512) (e70 : c70 f x (i : Int) col (S, G, m) = some (w, (S, G, m))) : c109_71 f (fu + 1) op col x v (i : Int) (S, G, m) = c109_71 f fu op col x (if op = 11 then xwl (v + (if w ≤ 1000000000000 then w else 0)) else if (i : Int) = 0 then w else if op = 12 then xmin v w else xmax v w) ((i + 1 : Nat) : Int) (S, G, m) := by
  have ei : xwr ((i : Int) + 1) = ((i + 1 : Nat) : Int) := by rw [xwr_g _ (by omega) (by omega)]; omega
  have hi' : ¬ (L : Int) ≤ (i : Int) := by omega
  show c109_71b (c109_71 f fu) f _ _ _ _ _ _ = _
  unfold c109_71b c109_114 c109_155 c109_157
  by_cases c : op = 11
  · rw [if_pos c]
    by_cases c3 : w ≤ 1000000000000
    · rw [if_pos c3]
      simp (disch := omega) only [cq_gi, cq_gr, cq_a, cq_s, cq_p, cq_pr, cq_is, cq_ar, cq_ab, cq_ln, xq_nz, Option.bind_some, xup2_n, xup2_s, Int.toNat_natCast, Int.reduceToNat, if_pos, if_neg, true_and, and_true, and_self, eq_self, if_true, reduceIte, not_true_eq_false, not_false_eq_true, or_true, true_or, hx, h1, c, e70, ei, hi', c3]
    · rw [if_neg c3]
      simp (disch := omega) only [cq_gi, cq_gr, cq_a, cq_s, cq_p, cq_pr, cq_is, cq_ar, cq_ab, cq_ln, xq_nz, Option.bind_some, xup2_n, xup2_s, Int.toNat_natCast, Int.reduceToNat, if_pos, if_neg, true_and, and_true, and_self, eq_self, if_true, reduceIte, not_true_eq_false, not_false_eq_true, or_true, true_or, hx, h1, c, e70, ei, hi', c3]
  · rw [if_neg c]
    by_cases c0 : (i : Int) = 0
    · rw [if_pos c0]
      simp (disch := omega) only [cq_gi, cq_gr, cq_a, cq_s, cq_p, cq_pr, cq_is, cq_ar, cq_ab, cq_ln, xq_nz, Option.bind_some, xup2_n, xup2_s, Int.toNat_natCast, Int.reduceToNat, if_pos, if_neg, true_and, and_true, and_self, eq_self, if_true, reduceIte, not_true_eq_false, not_false_eq_true, or_true, true_or, hx, h1, c, e70, ei, hi']
    · rw [if_neg c0]
      by_cases c2 : op = 12
      · rw [if_pos c2]
        simp (disch := omega) only [cq_gi, cq_gr, cq_a, cq_s, cq_p, cq_pr, cq_is, cq_ar, cq_ab, cq_ln, xq_nz, Option.bind_some, xup2_n, xup2_s, Int.toNat_natCast, Int.reduceToNat, if_pos, if_neg, true_and, and_true, and_self, eq_self, if_true, reduceIte, not_true_eq_false, not_false_eq_true, or_true, true_or, hx, h1, c, e70, ei, hi', c0, c2]
      · rw [if_neg c2]
        simp (disch := omega) only [cq_gi, cq_gr, cq_a, cq_s, cq_p, cq_pr, cq_is, cq_ar, cq_ab, cq_ln, xq_nz, Option.bind_some, xup2_n, xup2_s, Int.toNat_natCast, Int.reduceToNat, if_pos, if_neg, true_and, and_true, and_self, eq_self, if_true, reduceIte, not_true_eq_false, not_false_eq_true, or_true, true_or, hx, h1, c, e70, ei, hi', c0, c2]
theorem k_109l {op : Int} {x W cap k : Nat} {R : List pRw} (hR : cRw S G x W cap R) (hk : k < W) (hv : ∀ r ∈ R, ∀ y ∈ r.1, vOk y) (hop : 11 ≤ op ∧ op ≤ 13) : ∀ (D P : List pRw) (fu : Nat) (v : Int), R = P ++ D → D.length < fu → (-(P.length : Int) * 3000000000000 ≤ v ∧ v ≤ (P.length : Int) * 3000000000000) → c109_71 f fu op (k : Int) x v (P.length : Int) (S, G, m) = some (if op = 11 then eW (fBd (fRl (op - 4) k D P.length v)) else fRl (op - 4) k D P.length v, (S, G, m)) := by
  have xs : S x = (1, 5, 4) := hR.1
  obtain ⟨_, _, _, ⟨_, w1, _, _⟩, hl, hcap, hW, hRi⟩ := id hR
  intro D
  induction D with
  | nil =>
    intro P fu v e1 e2 e3
    obtain ⟨fu, rfl⟩ : ∃ t, fu = t + 1 := ⟨fu - 1, by omega⟩
    rw [List.append_nil] at e1
    rw [e1] at w1
    rw [st_109e xs w1]
    rfl
  | cons r D ih =>
    intro P fu v e1 e2 e3
    obtain ⟨fu, rfl⟩ : ∃ t, fu = t + 1 := ⟨fu - 1, by omega⟩
    rw [List.length_cons] at e2
    have hlen : P.length < R.length := by rw [e1, List.length_append, List.length_cons]; omega
    have eg : R.getD P.length dRw = r := by
      rw [e1, List.getD_eq_getElem?_getD, List.getElem?_append_right (Nat.le_refl _), Nat.sub_self]
      rfl
    have e70 := k_70 (f := f) (m := m) hR hlen hk
    rw [eg] at e70
    have hrl := (hRi P.length hlen).1
    rw [eg] at hrl
    have hw : vOk (r.1.getD k 0) := by
      rw [getD_e (by omega : k < r.1.length)]
      exact hv r (by rw [e1]; exact List.mem_append_right _ (List.mem_cons_self ..)) _ (List.getElem_mem _)
    rw [st_109i xs w1 hlen (by omega) e70]
    have eP : P.length + 1 = (P ++ [r]).length := by rw [len1]
    have ev : (if op = 11 then xwl (v + (if r.1.getD k 0 ≤ 1000000000000 then r.1.getD k 0 else 0)) else if (P.length : Int) = 0 then r.1.getD k 0 else if op = 12 then xmin v (r.1.getD k 0) else xmax v (r.1.getD k 0)) = (if op - 4 = 7 then v + (if 2000000000000 ≤ r.1.getD k 0 then 0 else r.1.getD k 0) else if P.length = 0 then r.1.getD k 0 else if op - 4 = 8 then xmin v (r.1.getD k 0) else xmax v (r.1.getD k 0)) := by
      unfold vOk at hw
      by_cases c : op = 11
      · rw [if_pos c, if_pos (show op - 4 = 7 by omega)]
        by_cases c3 : r.1.getD k 0 ≤ 1000000000000
        · rw [if_pos c3, if_neg (show ¬ 2000000000000 ≤ r.1.getD k 0 by omega), xwl_g _ (by omega) (by omega)]
        · rw [if_neg c3, if_pos (show 2000000000000 ≤ r.1.getD k 0 by omega), xwl_g _ (by omega) (by omega)]
      · rw [if_neg c, if_neg (show ¬ op - 4 = 7 by omega)]
        by_cases c0 : P.length = 0
        · rw [if_pos (show (P.length : Int) = 0 by omega), if_pos c0]
        · rw [if_neg (show ¬ (P.length : Int) = 0 by omega), if_neg c0]
          by_cases c2 : op = 12
          · rw [if_pos c2, if_pos (show op - 4 = 8 by omega)]
          · rw [if_neg c2, if_neg (show ¬ op - 4 = 8 by omega)]
    have bd : -((P.length + 1 : Nat) : Int) * 3000000000000 ≤ (if op - 4 = 7 then v + (if 2000000000000 ≤ r.1.getD k 0 then 0 else r.1.getD k 0) else if P.length = 0 then r.1.getD k 0 else if op - 4 = 8 then xmin v (r.1.getD k 0) else xmax v (r.1.getD k 0)) ∧ (if op - 4 = 7 then v + (if 2000000000000 ≤ r.1.getD k 0 then 0 else r.1.getD k 0) else if P.length = 0 then r.1.getD k 0 else if op - 4 = 8 then xmin v (r.1.getD k 0) else xmax v (r.1.getD k 0)) ≤ ((P.length + 1 : Nat) : Int) * 3000000000000 := by
      unfold vOk at hw
      unfold xmin xmax
      repeat' split
      all_goals omega
    rw [ev, eP, ih (P ++ [r]) fu _ (by rw [e1, List.append_assoc]; rfl) (by omega) (by rw [← eP]; exact bd), ← eP]
    rfl
/-- overRows() -/
theorem k_109 {op k x : Int} (hf : 600 < f) (h : cSe S G nx mo cc q rp s xr cr M C D) (hop : 10 ≤ op ∧ op ≤ 13) (hk : op = 10 ∧ k = 0 ∨ 11 ≤ op ∧ 1 ≤ k ∧ k ≤ 4) : c109 f 216 op (k - 1) x (S, G, m) = some (eW (fRo s M (op - 4) k x), (S, G, m)) := by
  obtain ⟨hs, hp, ⟨h0, _⟩, _, ⟨m1, m2, m3, m4, m5⟩, hP, hok, _, hM, hl, ⟨g1, g2, g3, g4⟩, _⟩ := h
  have e20 := k_20 (f := f) (m := m) (x := x) (by omega) hP.1 hP.2.1 hP.2.2.1
  have hnp : s.1.length ≤ 16 := hP.2.2.1.2.1
  obtain ⟨q0, q1, q2, _⟩ := hP.1
  have p3 := hP.2.1.2.1
  unfold fRo
  by_cases c : pIdx s.1 x = -1
  · rw [if_pos (.inl c)]
    rw [c] at e20
    unfold c109 c109_36
    simp (disch := omega) only [cq_gi, cq_gr, cq_a, cq_s, cq_p, cq_pr, cq_is, cq_ar, cq_ab, cq_ln, xq_nz, Option.bind_some, xup2_n, xup2_s, Int.toNat_natCast, Int.reduceToNat, if_pos, if_neg, true_and, and_true, and_self, eq_self, if_true, reduceIte, not_true_eq_false, not_false_eq_true, or_true, true_or, s216 hs, h0, m1, m2, q0, e20]
    rfl
  · obtain ⟨p, p2, p1, _⟩ := (pIdx_get (x := x) hok.1.2.1).resolve_left (fun q => c q.1)
    rw [p1] at e20
    have hp16 : p < 16 := by omega
    have hwd : G (q + 2) p = ((qN s p : Nat) : Int) := by rw [(qN_c hok.1 p).1]; exact hP.2.2.2.1 p hp16
    obtain ⟨r1, r2, r3⟩ := m5 p p2
    have xs : S (xr p) = (1, 5, 4) := r3.1
    have w1 : G (xr p) 1 = ((M p).length : Int) := r3.2.2.2.1.2.1
    rw [p1, Int.toNat_natCast]
    have hpl : (p : Int) ≠ -1 := by omega
    by_cases cw : (qN s p : Int) < k
    · rw [if_pos (.inr cw)]
      have cw' : ¬ k - 1 < ((qN s p : Nat) : Int) := by omega
      unfold c109 c109_36
      simp (disch := omega) only [cq_gi, cq_gr, cq_a, cq_s, cq_p, cq_pr, cq_is, cq_ar, cq_ab, cq_ln, xq_nz, Option.bind_some, xup2_n, xup2_s, Int.toNat_natCast, Int.reduceToNat, if_pos, if_neg, true_and, and_true, and_self, eq_self, if_true, reduceIte, not_true_eq_false, not_false_eq_true, or_true, true_or, s216 hs, h0, m1, m2, q0, q2, p3, e20, hpl, hwd, cw']
      rfl
    · rw [if_neg (by omega)]
      have cw' : k - 1 < ((qN s p : Nat) : Int) := by omega
      have ear : cq_ar rp (p : Int) (S, G, m) = some (xr p) := by
        unfold cq_ar
        show (if (S rp).1 = 2 ∧ 5 ≤ (S rp).2.1 ∧ 0 ≤ (p : Int) ∧ (p : Int) < ((S rp).2.2 : Int) then some (G rp (p : Int).toNat).toNat else none) = _
        rw [m4, if_pos ⟨rfl, by show 5 ≤ 10; decide, by omega, by show (p : Int) < ((s.1.length : Nat) : Int); omega⟩, Int.toNat_natCast, r1, Int.toNat_natCast]
      have e0 : c109 f 216 op (k - 1) x (S, G, m) = if ¬ op = 10 then c109_71 f f op (k - 1) (xr p) 0 0 (S, G, m) else some (((M p).length : Int), (S, G, m)) := by
        unfold c109
        simp (disch := omega) only [cq_gi, cq_gr, cq_a, cq_s, cq_p, cq_pr, cq_is, cq_ar, cq_ab, cq_ln, xq_nz, Option.bind_some, xup2_n, xup2_s, Int.toNat_natCast, Int.reduceToNat, if_pos, if_neg, true_and, and_true, and_self, eq_self, if_true, reduceIte, not_true_eq_false, not_false_eq_true, or_true, true_or, s216 hs, h0, m1, m2, m3, m4, r1, p2, q0, q2, p3, e20, hpl, hwd, cw', xs, w1]
      rw [e0]
      by_cases c10 : op = 10
      · rw [if_neg (fun z => z c10), if_pos (by omega)]
        rfl
      · rw [if_pos c10, if_neg (by omega)]
        have ek : k - 1 = (((k - 1).toNat : Nat) : Int) := by omega
        have hlp := hl p p2
        have key := k_109l (f := f) (m := m) (op := op) (k := (k - 1).toNat) r3 (by omega) (hM p p2) (by omega) (M p) [] f 0 rfl (by omega) (by simp)
        rw [← ek] at key
        have key' : c109_71 f f op (k - 1) (xr p) 0 0 (S, G, m) = some (if op = 11 then eW (fBd (fRl (op - 4) (k - 1).toNat (M p) 0 0)) else fRl (op - 4) (k - 1).toNat (M p) 0 0, (S, G, m)) := key
        rw [key']
        by_cases c11 : op = 11
        · rw [if_pos c11, if_pos (by omega)]
        · rw [if_neg c11, if_neg (by omega)]
          rfl
end
