/-! THE CLASS: differing() -/
/-- a row with these values is there -/
def hasV (L : List pRw) (xs : List Int) : Bool := L.any (fun z => decide (z.1 = xs))
theorem hasV_t {L : List pRw} {xs : List Int} : hasV L xs = true ↔ ∃ z ∈ L, z.1 = xs := by
  unfold hasV
  rw [List.any_eq_true]
  exact ⟨fun ⟨z, z1, z2⟩ => ⟨z, z1, of_decide_eq_true z2⟩, fun ⟨z, z1, z2⟩ => ⟨z, z1, decide_eq_true z2⟩⟩
/-- rows that came or went -/
def dfN (R R2 : List pRw) : Nat := R.countP (fun r => ! hasV R2 r.1) + R2.countP (fun r => ! hasV R r.1)
theorem cmp_lt {W : Nat} {a b : List Int} (ha : a.length = W) (hb : b.length = W) : vLt a b ↔ vCmp a b < 0 := by
  show fCmp (0, a) (0, b) < 0 ↔ _
  unfold fCmp
  rw [if_pos rfl, if_pos (by show a.length = b.length; omega)]
theorem countP_not {α : Type} (p : α → Bool) (l : List α) : l.countP p + l.countP (fun x => ! p x) = l.length := by
  induction l with
  | nil => rfl
  | cons a l ih =>
    rw [List.length_cons]
    cases h : p a with
    | true => rw [List.countP_cons_of_pos h, List.countP_cons_of_neg (by rw [h]; decide)]; omega
    | false => rw [List.countP_cons_of_neg (by rw [h]; decide), List.countP_cons_of_pos (by rw [h]; rfl)]; omega
theorem same_c {R R2 : List pRw} (h : R.Pairwise rwLt) (h2 : R2.Pairwise rwLt) : R.countP (fun r => hasV R2 r.1) = R2.countP (fun r => hasV R r.1) := by
  have side : ∀ {A B : List pRw}, A.Pairwise rwLt → B.Pairwise rwLt → A.countP (fun r => hasV B r.1) ≤ B.countP (fun r => hasV A r.1) := fun {A B} hA hB => by
    rw [List.countP_eq_length_filter, List.countP_eq_length_filter]
    have hnd : ((A.filter (fun r => hasV B r.1)).map (·.1)).Nodup := by
      rw [List.nodup_iff_pairwise_ne, List.pairwise_map]
      exact (hA.filter _).imp (fun {r1 r2} hab => fun (e : r1.1 = r2.1) => vLt_irr r2.1 (by have hab' : vLt r1.1 r2.1 := hab; rw [e] at hab'; exact hab'))
    have := nodup_len _ ((B.filter (fun r => hasV A r.1)).map (·.1)) hnd (fun x hx => by
      obtain ⟨r, r1, rfl⟩ := List.mem_map.mp hx
      obtain ⟨r2, r3⟩ := List.mem_filter.mp r1
      obtain ⟨z, z1, z2⟩ := hasV_t.mp r3
      exact List.mem_map.mpr ⟨z, List.mem_filter.mpr ⟨z1, hasV_t.mpr ⟨r, r2, z2.symm⟩⟩, z2⟩)
    rw [List.length_map, List.length_map] at this
    exact this
  exact Nat.le_antisymm (side h h2) (side h2 h)
theorem dfN_e {R R2 : List pRw} (h : R.Pairwise rwLt) (h2 : R2.Pairwise rwLt) : dfN R R2 + 2 * R.countP (fun r => hasV R2 r.1) = R.length + R2.length := by
  have a1 := countP_not (fun r => hasV R2 r.1) R
  have a2 := countP_not (fun r => hasV R r.1) R2
  have a3 := same_c h h2
  unfold dfN
  omega
section
variable {f x y W cap cap2 i j n n2 sm : Nat} {S : Nat → Nat × Nat × Nat} {G : xG_} {m : Nat × Nat} {R R2 : List pRw} {v : Int} {r7 r16 : Nat → Nat → Int → Int → Int → xT_ → Option (Int × xT_)}
theorem st_83z (xs : S x = (1, 5, 4)) (ys : S y = (1, 5, 4)) (h1 : G x 1 = (n : Int)) (h2 : G y 1 = (n2 : Int)) (e : xwr (xwr ((n : Int) + (n2 : Int)) - xwr (2 * (sm : Int))) = v) : c83_7b r7 f x y (sm : Int) (j : Int) (n : Int) (S, G, m) = some (v, (S, G, m)) := by
  unfold c83_7b
  simp (disch := omega) only [cq_gi, cq_gr, cq_a, cq_s, cq_p, cq_pr, cq_is, cq_ar, cq_ab, cq_ln, xq_nz, Option.bind_some, xup2_n, xup2_s, Int.toNat_natCast, Int.reduceToNat, if_pos, if_neg, true_and, and_true, and_self, eq_self, if_true, reduceIte, not_true_eq_false, not_false_eq_true, or_true, true_or, xs, ys, h1, h2, e]
theorem st_83s (xs : S x = (1, 5, 4)) (h1 : G x 1 = (n : Int)) (hi : i < n) : c83_7b r7 f x y (sm : Int) (j : Int) (i : Int) (S, G, m) = c83_16 r7 f f x y (sm : Int) (j : Int) (i : Int) (S, G, m) := by
  unfold c83_7b
  simp (disch := omega) only [cq_gi, cq_gr, cq_a, cq_s, cq_p, cq_pr, cq_is, cq_ar, cq_ab, cq_ln, xq_nz, Option.bind_some, xup2_n, xup2_s, Int.toNat_natCast, Int.reduceToNat, if_pos, if_neg, true_and, and_true, and_self, eq_self, if_true, reduceIte, not_true_eq_false, not_false_eq_true, or_true, true_or, xs, h1]
theorem st_83e (ys : S y = (1, 5, 4)) (h2 : G y 1 = (n2 : Int)) (hj : n2 ≤ j) (ei : xwr ((i : Int) + 1) = ((i + 1 : Nat) : Int)) (es : xwr ((sm : Int) + 0) = (sm : Int)) : c83_16b r7 r16 f x y (sm : Int) (j : Int) (i : Int) (S, G, m) = r7 x y (sm : Int) (j : Int) ((i + 1 : Nat) : Int) (S, G, m) := by
  unfold c83_16b c83_45 c83_73 c83_74
  simp (disch := omega) only [cq_gi, cq_gr, cq_a, cq_s, cq_p, cq_pr, cq_is, cq_ar, cq_ab, cq_ln, xq_nz, Option.bind_some, xup2_n, xup2_s, Int.toNat_natCast, Int.reduceToNat, if_pos, if_neg, true_and, and_true, and_self, eq_self, if_true, reduceIte, not_true_eq_false, not_false_eq_true, or_true, true_or, ys, h2, ei, es]
theorem st_83n (xs : S x = (1, 5, 4)) (ys : S y = (1, 5, 4)) (h0 : G x 0 = (W : Int)) (h2 : G y 1 = (n2 : Int)) (hj : j < n2) (e : c72 f y (j : Int) x (i : Int) (W : Int) (S, G, m) = some (v, (S, G, m))) (hv : v < 0) (ej : xwr ((j : Int) + 1) = ((j + 1 : Nat) : Int)) : c83_16b r7 r16 f x y (sm : Int) (j : Int) (i : Int) (S, G, m) = r16 x y (sm : Int) ((j + 1 : Nat) : Int) (i : Int) (S, G, m) := by
  have hv' : ¬ 0 ≤ v := by omega
  unfold c83_16b
  simp (disch := omega) only [cq_gi, cq_gr, cq_a, cq_s, cq_p, cq_pr, cq_is, cq_ar, cq_ab, cq_ln, xq_nz, Option.bind_some, xup2_n, xup2_s, Int.toNat_natCast, Int.reduceToNat, if_pos, if_neg, true_and, and_true, and_self, eq_self, if_true, reduceIte, not_true_eq_false, not_false_eq_true, or_true, true_or, xs, ys, h0, h2, e, hv', ej]
theorem st_83y (xs : S x = (1, 5, 4)) (ys : S y = (1, 5, 4)) (h0 : G x 0 = (W : Int)) (h2 : G y 1 = (n2 : Int)) (hj : j < n2) (e : c72 f y (j : Int) x (i : Int) (W : Int) (S, G, m) = some (v, (S, G, m))) (hv : 0 ≤ v) (ei : xwr ((i : Int) + 1) = ((i + 1 : Nat) : Int)) (es : xwr ((sm : Int) + 0) = (sm : Int)) (es1 : xwr ((sm : Int) + 1) = ((sm + 1 : Nat) : Int)) : c83_16b r7 r16 f x y (sm : Int) (j : Int) (i : Int) (S, G, m) = r7 x y ((if v = 0 then sm + 1 else sm : Nat) : Int) (j : Int) ((i + 1 : Nat) : Int) (S, G, m) := by
  by_cases c : v = 0
  · subst c
    rw [if_pos rfl]
    unfold c83_16b c83_45 c83_74
    simp (disch := omega) only [cq_gi, cq_gr, cq_a, cq_s, cq_p, cq_pr, cq_is, cq_ar, cq_ab, cq_ln, xq_nz, Option.bind_some, xup2_n, xup2_s, Int.toNat_natCast, Int.reduceToNat, if_pos, if_neg, true_and, and_true, and_self, eq_self, if_true, reduceIte, not_true_eq_false, not_false_eq_true, or_true, true_or, xs, ys, h0, h2, e, ei, es1, Int.le_refl]
  · rw [if_neg c]
    unfold c83_16b c83_45 c83_73 c83_74
    simp (disch := omega) only [cq_gi, cq_gr, cq_a, cq_s, cq_p, cq_pr, cq_is, cq_ar, cq_ab, cq_ln, xq_nz, Option.bind_some, xup2_n, xup2_s, Int.toNat_natCast, Int.reduceToNat, if_pos, if_neg, true_and, and_true, and_self, eq_self, if_true, reduceIte, not_true_eq_false, not_false_eq_true, or_true, true_or, xs, ys, h0, h2, e, hv, c, ei, es]
theorem k_83i (hf : 20 < f) (h : cRw S G x W cap R) (h2 : cRw S G y W cap2 R2) (hi : i < R.length) (hs2 : R2.Pairwise rwLt) (hsm : sm ≤ i) : ∀ (d j fu : Nat), j + d = R2.length → d < fu → (∀ t, t < j → vLt (R2.getD t dRw).1 (R.getD i dRw).1) → ∃ j', j ≤ j' ∧ j' ≤ R2.length ∧ (∀ t, t < j' → vLt (R2.getD t dRw).1 (R.getD i dRw).1) ∧ c83_16 r7 f fu x y (sm : Int) (j : Int) (i : Int) (S, G, m) = r7 x y ((if hasV R2 (R.getD i dRw).1 = true then sm + 1 else sm : Nat) : Int) (j' : Int) ((i + 1 : Nat) : Int) (S, G, m) := by
  have hR := h.2.2.2.2.1
  have hR2 := h2.2.2.2.2.1
  have hcap := h.2.2.2.2.2.1
  have hcap2 := h2.2.2.2.2.2.1
  have hx := (h.2.2.2.2.2.2.2 i hi).1
  have ei : xwr ((i : Int) + 1) = ((i + 1 : Nat) : Int) := by rw [xwr_g _ (by omega) (by omega)]; omega
  have es : xwr ((sm : Int) + 0) = (sm : Int) := by rw [xwr_g _ (by omega) (by omega)]; omega
  have es1 : xwr ((sm : Int) + 1) = ((sm + 1 : Nat) : Int) := by rw [xwr_g _ (by omega) (by omega)]; omega
  intro d
  induction d with
  | zero =>
    intro j fu e1 e2 hj
    obtain ⟨fu, rfl⟩ : ∃ t, fu = t + 1 := ⟨fu - 1, by omega⟩
    have hn : ¬ hasV R2 (R.getD i dRw).1 = true := fun q => by
      obtain ⟨z, z1, z2⟩ := hasV_t.mp q
      obtain ⟨t, ht, et⟩ := mem_get.mp z1
      have := hj t (by omega)
      rw [et, z2] at this
      exact vLt_irr _ this
    refine ⟨j, Nat.le_refl _, by omega, hj, ?_⟩
    rw [if_neg hn]
    exact st_83e (r16 := c83_16 r7 f fu) h2.1 h2.2.2.2.1.2.1 (by omega) ei es
  | succ d ih =>
    intro j fu e1 e2 hj
    obtain ⟨fu, rfl⟩ : ∃ t, fu = t + 1 := ⟨fu - 1, by omega⟩
    have hjl : j < R2.length := by omega
    have hy := (h2.2.2.2.2.2.2.2 j hjl).1
    have ec := k_72 (f := f) (m := m) (k := W) hf h2 h hjl hi (Nat.le_refl _) (Nat.le_refl _)
    rw [List.take_of_length_le (by omega), List.take_of_length_le (by omega)] at ec
    by_cases c : vCmp (R2.getD j dRw).1 (R.getD i dRw).1 < 0
    · have st : c83_16 r7 f (fu + 1) x y (sm : Int) (j : Int) (i : Int) (S, G, m) = _ := st_83n (r16 := c83_16 r7 f fu) h.1 h2.1 h.2.2.2.1.1 h2.2.2.2.1.2.1 hjl ec c (by rw [xwr_g _ (by omega) (by omega)]; omega)
      obtain ⟨j', i1, i2, i3, i4⟩ := ih (j + 1) fu (by omega) (by omega) (fun t ht => by
        by_cases ct : t = j
        · rw [ct]; exact (cmp_lt hy hx).mpr c
        · exact hj t (by omega))
      exact ⟨j', by omega, i2, i3, st.trans i4⟩
    · have st : c83_16 r7 f (fu + 1) x y (sm : Int) (j : Int) (i : Int) (S, G, m) = _ := st_83y (r16 := c83_16 r7 f fu) h.1 h2.1 h.2.2.2.1.1 h2.2.2.2.1.2.1 hjl ec (by omega) ei es es1
      refine ⟨j, Nat.le_refl _, by omega, hj, ?_⟩
      have hiff : hasV R2 (R.getD i dRw).1 = true ↔ vCmp (R2.getD j dRw).1 (R.getD i dRw).1 = 0 := by
        constructor
        · intro q
          obtain ⟨z, z1, z2⟩ := hasV_t.mp q
          obtain ⟨t, ht, et⟩ := mem_get.mp z1
          by_cases c1 : t < j
          · have := hj t c1
            rw [et, z2] at this
            exact (vLt_irr _ this).elim
          · by_cases c2 : t = j
            · rw [← c2, et, z2]; exact vCmp_self _
            · have hlt : vLt (R2.getD j dRw).1 (R2.getD t dRw).1 := srt_get (d := dRw) hs2 (by omega) ht
              rw [et, z2] at hlt
              exact absurd ((cmp_lt hy hx).mp hlt) c
        · intro q
          exact hasV_t.mpr ⟨_, mem_get.mpr ⟨j, hjl, rfl⟩, vCmp_eq (by omega) q⟩
      rw [st]
      by_cases c0 : vCmp (R2.getD j dRw).1 (R.getD i dRw).1 = 0
      · rw [if_pos c0, if_pos (hiff.mpr c0)]
      · rw [if_neg c0, if_neg (fun q => c0 (hiff.mp q))]
/-- differing() -/
theorem k_83 (hf : 600 < f) (h : cRw S G x W cap R) (h2 : cRw S G y W cap2 R2) (hs : R.Pairwise rwLt) (hs2 : R2.Pairwise rwLt) : c83 f x y (S, G, m) = some ((dfN R R2 : Int), (S, G, m)) := by
  have hR := h.2.2.2.2.1
  have hR2 := h2.2.2.2.2.1
  have hcap := h.2.2.2.2.2.1
  have hcap2 := h2.2.2.2.2.2.1
  have hd := dfN_e hs hs2
  have loop : ∀ (d i fu j : Nat), i + d = R.length → d < fu → j ≤ R2.length → (i < R.length → ∀ t, t < j → vLt (R2.getD t dRw).1 (R.getD i dRw).1) → c83_7 f fu x y ((((R.take i).countP (fun r => hasV R2 r.1) : Nat)) : Int) (j : Int) (i : Int) (S, G, m) = some ((dfN R R2 : Int), (S, G, m)) := by
    intro d
    induction d with
    | zero =>
      intro i fu j e1 e2 e3 _
      obtain ⟨fu, rfl⟩ : ∃ t, fu = t + 1 := ⟨fu - 1, by omega⟩
      have e : i = R.length := by omega
      subst e
      rw [List.take_length]
      have hc := List.countP_le_length (p := fun r : pRw => hasV R2 r.1) (l := R)
      exact st_83z (r7 := c83_7 f fu) h.1 h2.1 h.2.2.2.1.2.1 h2.2.2.2.1.2.1 (by rw [xwr_g ((R.length : Int) + (R2.length : Int)) (by omega) (by omega), xwr_g (2 * _) (by omega) (by omega), xwr_g _ (by omega) (by omega)]; omega)
    | succ d ih =>
      intro i fu j e1 e2 e3 hj
      obtain ⟨fu, rfl⟩ : ∃ t, fu = t + 1 := ⟨fu - 1, by omega⟩
      have hi : i < R.length := by omega
      have st : c83_7 f (fu + 1) x y ((((R.take i).countP (fun r => hasV R2 r.1) : Nat)) : Int) (j : Int) (i : Int) (S, G, m) = _ := st_83s (r7 := c83_7 f fu) h.1 h.2.2.2.1.2.1 hi
      have hc := List.countP_le_length (p := fun r : pRw => hasV R2 r.1) (l := R.take i)
      rw [List.length_take] at hc
      obtain ⟨j', i1, i2, i3, i4⟩ := k_83i (f := f) (m := m) (r7 := c83_7 f fu) (sm := (R.take i).countP (fun r => hasV R2 r.1)) (by omega) h h2 hi hs2 (by omega) (R2.length - j) j f (by omega) (by omega) (hj hi)
      rw [st, i4]
      have ec : (if hasV R2 (R.getD i dRw).1 = true then (R.take i).countP (fun r => hasV R2 r.1) + 1 else (R.take i).countP (fun r => hasV R2 r.1)) = (R.take (i + 1)).countP (fun r => hasV R2 r.1) := by
        rw [List.take_succ_eq_append_getElem hi, List.countP_append, getD_e hi]
        by_cases c : hasV R2 R[i].1 = true
        · rw [if_pos c, List.countP_cons_of_pos (p := fun r : pRw => hasV R2 r.1) c]; rfl
        · rw [if_neg c, List.countP_cons_of_neg (p := fun r : pRw => hasV R2 r.1) c]; rfl
      rw [ec]
      refine ih (i + 1) fu j' (by omega) (by omega) i2 (fun hi1 t ht => ?_)
      exact vLt_tr (i3 t ht) (srt_get (d := dRw) hs (Nat.lt_succ_self i) hi1)
  have := loop R.length 0 f 0 (by omega) (by omega) (Nat.zero_le _) (fun _ t ht => absurd ht (Nat.not_lt_zero t))
  rw [List.take_zero] at this
  exact this
end
