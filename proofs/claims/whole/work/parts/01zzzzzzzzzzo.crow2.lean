/-! THE CLASS: rows: search(), find(), findKey() -/
theorem vCmp_t2 : ∀ (k : Nat) {xs ys : List Int}, vCmp xs ys < 0 → vCmp (xs.take k) (ys.take k) ≤ 0
  | 0, xs, ys, _ => by rw [List.take_zero, List.take_zero]; exact Int.le_refl 0
  | k + 1, [], _, _ => by rw [List.take_nil]; exact Int.le_refl 0
  | k + 1, _ :: _, [], _ => by rw [List.take_nil]; exact Int.le_refl 0
  | k + 1, x :: xs, y :: ys, h => by
    rw [List.take_succ_cons, List.take_succ_cons]
    unfold vCmp at h ⊢
    by_cases c : x = y
    · rw [if_pos c] at h ⊢
      exact vCmp_t2 k h
    · rw [if_neg c] at h ⊢
      exact Int.le_of_lt h
theorem vCmp_mn {xs ys zs : List Int} (h1 : xs.length = ys.length) (h2 : ys.length = zs.length) (h : vCmp xs ys ≤ 0) : vCmp xs zs ≤ vCmp ys zs := by
  rcases vCmp_in xs ys with a | a | a
  · rcases vCmp_in ys zs with b | b | b
    · have := vCmp_tr h1 h2 (by omega) (by omega : vCmp ys zs < 0)
      rcases vCmp_in xs zs with q | q | q <;> omega
    · have e := vCmp_eq h2 b
      rw [← e, vCmp_self, a]; omega
    · rcases vCmp_in xs zs with q | q | q <;> omega
  · rw [vCmp_eq h1 a]; exact Int.le_refl _
  · omega
section
variable {f x y i j c k W kz a cap : Nat} {S : Nat → Nat × Nat × Nat} {G : xG_} {m : Nat × Nat} {R : List pRw} {kl : List Int} {ab : Int}
/-- a key of k values at a -/
def cKl (S : Nat → Nat × Nat × Nat) (G : xG_) (a : Nat) (kl : List Int) : Prop := (∃ kz, S a = (2, 4, kz) ∧ kl.length ≤ kz) ∧ ∀ c, c < kl.length → G a c = kl.getD c 0
theorem k_71k (hf : 20 < f) (h : cRw S G x W cap R) (hi : i < R.length) (hk : kl.length ≤ W) (hK : cKl S G a kl) : c71 f x (i : Int) a (kl.length : Int) (S, G, m) = some (vCmp ((R.getD i dRw).1.take kl.length) kl, (S, G, m)) := by
  obtain ⟨⟨kz, k1, k2⟩, k3⟩ := hK
  rw [k_71r hf h hi hk k1 k2]
  rw [nCmp_x (u' := fun c => (R.getD i dRw).1.getD c 0) (v' := fun c => kl.getD c 0) kl.length 0 (fun c _ hc => ⟨rfl, k3 c (by omega)⟩)]
  have r1 := (h.2.2.2.2.2.2.2 i hi).1
  rw [nCmp_l _ _ kl.length 0 (by omega) (by omega), List.drop_zero, List.drop_zero, List.take_length]
theorem rw_mn (h : cRw S G x W cap R) (hs : R.Pairwise rwLt) (hk : kl.length ≤ W) (hij : i < j) (hj : j < R.length) : vCmp ((R.getD i dRw).1.take kl.length) kl ≤ vCmp ((R.getD j dRw).1.take kl.length) kl := by
  have hR := h.2.2.2.2.2.2.2
  have hi : i < R.length := by omega
  have l1 := (hR i hi).1
  have l2 := (hR j hj).1
  have hp := List.pairwise_iff_getElem.mp hs i j hi hj hij
  rw [← getD_e (d := dRw) hi, ← getD_e (d := dRw) hj] at hp
  have hp' := (vLt_iff (by omega)).mp hp
  refine vCmp_mn (by rw [List.length_take, List.length_take]; omega) (by rw [List.length_take]; omega) (vCmp_t2 _ hp')
/-- where a key stands: how many rows are below it -/
def isSr (R : List pRw) (kl : List Int) (ab : Int) (lo : Nat) : Prop := lo ≤ R.length ∧ (∀ i, i < lo → vCmp ((R.getD i dRw).1.take kl.length) kl < ab) ∧ ∀ i, lo ≤ i → i < R.length → ab ≤ vCmp ((R.getD i dRw).1.take kl.length) kl
theorem st_73z {r9 : Nat → Nat → Int → Int → Int → Int → xT_ → Option (Int × xT_)} {lo hi : Nat} (h : hi ≤ lo) : c73_9b r9 f x a (k : Int) ab (lo : Int) (hi : Int) (S, G, m) = some ((lo : Int), (S, G, m)) := by
  unfold c73_9b
  rw [if_pos (by omega)]
theorem st_73 {r9 : Nat → Nat → Int → Int → Int → Int → xT_ → Option (Int × xT_)} {lo hi : Nat} {md : Nat} {v : Int} (h : lo < hi) (xs : S x = (1, 5, 4)) (em : xush (xwr ((lo : Int) + (hi : Int))) 1 = (md : Int)) (e : c71 f x (md : Int) a (k : Int) (S, G, m) = some (v, (S, G, m))) (e1 : xwr ((md : Int) + 1) = ((md + 1 : Nat) : Int)) : c73_9b r9 f x a (k : Int) ab (lo : Int) (hi : Int) (S, G, m) = if ab ≤ v then r9 x a (k : Int) ab (lo : Int) (md : Int) (S, G, m) else r9 x a (k : Int) ab ((md + 1 : Nat) : Int) (hi : Int) (S, G, m) := by
  by_cases q : ab ≤ v
  · rw [if_pos q]
    unfold c73_9b c73_50
    simp (disch := omega) only [cq_gi, cq_gr, cq_a, cq_s, cq_p, cq_pr, cq_is, cq_ar, cq_ab, cq_ln, xq_nz, Option.bind_some, xup2_n, xup2_s, Int.toNat_natCast, Int.reduceToNat, if_pos, if_neg, true_and, and_true, and_self, eq_self, if_true, reduceIte, not_true_eq_false, not_false_eq_true, or_true, true_or, xs, em, e, q]
  · rw [if_neg q]
    unfold c73_9b c73_50
    simp (disch := omega) only [cq_gi, cq_gr, cq_a, cq_s, cq_p, cq_pr, cq_is, cq_ar, cq_ab, cq_ln, xq_nz, Option.bind_some, xup2_n, xup2_s, Int.toNat_natCast, Int.reduceToNat, if_pos, if_neg, true_and, and_true, and_self, eq_self, if_true, reduceIte, not_true_eq_false, not_false_eq_true, or_true, true_or, xs, em, e, q, e1]
theorem k_73 (hf : 600 < f) (h : cRw S G x W cap R) (hs : R.Pairwise rwLt) (hk : kl.length ≤ W) (hK : cKl S G a kl) : ∃ lo : Nat, c73 f x a (kl.length : Int) ab (S, G, m) = some ((lo : Int), (S, G, m)) ∧ isSr R kl ab lo := by
  obtain ⟨xs, ⟨z, cs, z1, z2⟩, _, ⟨w0, w1, w2, w3⟩, hl, hcap, hW, hR⟩ := id h
  have loop : ∀ (d lo hi fu : Nat), lo + d = hi → hi ≤ R.length → d < fu → (∀ i, i < lo → vCmp ((R.getD i dRw).1.take kl.length) kl < ab) → (∀ i, hi ≤ i → i < R.length → ab ≤ vCmp ((R.getD i dRw).1.take kl.length) kl) → ∃ lo' : Nat, c73_9 f fu x a (kl.length : Int) ab (lo : Int) (hi : Int) (S, G, m) = some ((lo' : Int), (S, G, m)) ∧ isSr R kl ab lo' := by
    intro d
    induction d using Nat.strongRecOn with
    | _ d ih =>
      intro lo hi fu h1 h2 h3 h4 h5
      obtain ⟨fu, rfl⟩ : ∃ t, fu = t + 1 := ⟨fu - 1, by omega⟩
      by_cases c : hi ≤ lo
      · have : hi = lo := by omega
        exact ⟨lo, st_73z (r9 := c73_9 f fu) c, by omega, h4, fun i y1 y2 => h5 i (by omega) y2⟩
      · obtain ⟨md, hmd⟩ : ∃ md, md = (lo + hi) / 2 := ⟨_, rfl⟩
        have em : xush (xwr ((lo : Int) + (hi : Int))) 1 = (md : Int) := by
          rw [xwr_g _ (by omega) (by omega), xush_1 _ (by omega) (by omega)]
          omega
        have e1 : xwr ((md : Int) + 1) = ((md + 1 : Nat) : Int) := by rw [xwr_g _ (by omega) (by omega)]; omega
        have st : c73_9 f (fu + 1) x a (kl.length : Int) ab (lo : Int) (hi : Int) (S, G, m) = _ := st_73 (r9 := c73_9 f fu) (by omega) xs em (k_71k (by omega) h (by omega : md < R.length) hk hK) e1
        by_cases q : ab ≤ vCmp ((R.getD md dRw).1.take kl.length) kl
        · rw [if_pos q] at st
          rw [st]
          refine ih (md - lo) (by omega) lo md fu (by omega) (by omega) (by omega) h4 (fun i y1 y2 => ?_)
          by_cases ci : i = md
          · rw [ci]; exact q
          · exact Int.le_trans q (rw_mn h hs hk (by omega) y2)
        · rw [if_neg q] at st
          rw [st]
          refine ih (hi - (md + 1)) (by omega) (md + 1) hi fu (by omega) (by omega) (by omega) (fun i y1 => ?_) h5
          by_cases ci : i = md
          · rw [ci]; omega
          · have := rw_mn (kl := kl) h hs hk (by omega : i < md) (by omega)
            omega
  obtain ⟨lo, l1, l2⟩ := loop R.length 0 R.length f (by omega) (Nat.le_refl _) (by omega) (fun i hi => absurd hi (Nat.not_lt_zero i)) (fun i y1 y2 => by omega)
  refine ⟨lo, ?_, l2⟩
  unfold c73
  simp (disch := omega) only [cq_gi, cq_gr, cq_a, cq_s, cq_p, cq_pr, cq_is, cq_ar, cq_ab, cq_ln, xq_nz, Option.bind_some, xup2_n, xup2_s, Int.toNat_natCast, Int.reduceToNat, if_pos, if_neg, true_and, and_true, and_self, eq_self, if_true, reduceIte, not_true_eq_false, not_false_eq_true, or_true, true_or, xs, w1]
  exact l1
end
