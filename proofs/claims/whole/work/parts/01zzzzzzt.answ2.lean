/-! A QUERY: all its WAYS, sorted -/
theorem vLe_tr {a b c : List Int} (h1 : a.length = b.length) (h2 : b.length = c.length) (q1 : vLe a b) (q2 : vLe b c) : vLe a c := by
  unfold vLe at *
  by_cases e1 : vCmp a b = 0
  · rw [vCmp_eq h1 e1]; exact q2
  · by_cases e2 : vCmp b c = 0
    · rw [← vCmp_eq h2 e2]; exact q1
    · have := vCmp_tr h1 h2 (by omega) (by omega)
      omega
theorem mem_tk {α : Type} {l : List α} {d a : α} {j : Nat} (h : a ∈ l.take j) : ∃ t, t < j ∧ t < l.length ∧ l.getD t d = a := by
  obtain ⟨t, ht, e⟩ := List.getElem_of_mem h
  rw [List.length_take] at ht
  refine ⟨t, by omega, by omega, ?_⟩
  rw [getD_e (by omega), ← e, List.getElem_take]
theorem mem_dr {α : Type} {l : List α} {d a : α} {j : Nat} (h : a ∈ l.drop j) : ∃ t, j ≤ t ∧ t < l.length ∧ l.getD t d = a := by
  obtain ⟨t, ht, e⟩ := List.getElem_of_mem h
  rw [List.length_drop] at ht
  refine ⟨j + t, by omega, by omega, ?_⟩
  rw [getD_e (by omega), ← e, List.getElem_drop]
theorem ins_srt {nv j : Nat} {S : List (List Int)} {v : List Int} (hl : ∀ t, t < S.length → (S.getD t []).length = nv) (hv : v.length = nv) (hS : S.Pairwise vLe) (hj : j ≤ S.length) (h1 : ∀ t, t + 1 = j → vCmp (S.getD t []) v ≤ 0) (h2 : ∀ t, j ≤ t → t < S.length → 0 < vCmp (S.getD t []) v) : (S.take j ++ v :: S.drop j).Pairwise vLe := by
  have low : ∀ a ∈ S.take j, vLe a v := fun a ha => by
    obtain ⟨t, t1, t2, t3⟩ := mem_tk (d := []) ha
    rw [← t3]
    by_cases c : t + 1 = j
    · exact h1 t c
    · refine vLe_tr (b := S.getD (j - 1) []) (by rw [hl t t2, hl (j - 1) (by omega)]) (by rw [hl (j - 1) (by omega), hv]) ?_ (h1 (j - 1) (by omega))
      rw [getD_e t2, getD_e (by omega : j - 1 < S.length)]
      exact (List.pairwise_iff_getElem.mp hS) t (j - 1) t2 (by omega) (by omega)
  have high : ∀ b ∈ S.drop j, vLe v b := fun b hb => by
    obtain ⟨t, t1, t2, t3⟩ := mem_dr (d := []) hb
    have := h2 t t1 t2
    rw [← t3]
    unfold vLe
    rw [vCmp_anti]
    omega
  refine List.pairwise_append.mpr ⟨hS.sublist (List.take_sublist _ _), List.Pairwise.cons high (hS.sublist (List.drop_sublist _ _)), fun a ha b hb => ?_⟩
  rcases List.mem_cons.mp hb with q | q
  · rw [q]; exact low a ha
  · obtain ⟨t, t1, t2, t3⟩ := mem_tk (d := []) ha
    obtain ⟨u, u1, u2, u3⟩ := mem_dr (d := []) q
    rw [← t3, ← u3, getD_e t2, getD_e u2]
    exact (List.pairwise_iff_getElem.mp hS) t u t2 u2 (by omega)
/-- the WAYS found so far are answers -/
def pAn (nv : Nat) (W : List (List Int)) (G : xG_) : Prop := G 0 38 = 3 ∧ G 0 53 = (nv : Int) ∧ ((G 0 43 = 0 ∧ ∃ S, rAn G nv S ∧ S.Pairwise vLe ∧ S.Perm W) ∨ (G 0 43 ≠ 0 ∧ 500 < W.length))
section
variable {f nv c np : Nat} {l : List pLt} {R : Nat → List pRw} {N : Nat → Nat}
theorem l_an1 {G : xG_} {W : List (List Int)} (hf : 600 < f) (hnv : nv ≤ 8) (hP : pAn nv W G) (h43 : G 0 43 = 0) : ∃ G', g283 f G = some G' ∧ pAn nv (W ++ [vOf G nv]) G' ∧ xUs G G' := by
  obtain ⟨p1, p2, p3⟩ := hP
  rcases p3 with ⟨_, S, s1, s2, s3⟩ | ⟨q, _⟩
  · have hlen := s3.length_eq
    have e0 : g283 f G = (g285 f G).bind fun R145 => g283_118 f R145 := by
      unfold g283
      rw [p1, if_neg (by decide), if_neg (by decide), if_neg (by decide)]
    by_cases c5 : S.length = 500
    · refine ⟨xup2 (xup2 G 0 43 1) 0 52 501, ?_, ⟨?_, ?_, .inr ⟨?_, ?_⟩⟩, fun o j q1 q2 => ?_⟩
      · have e52 : G 0 52 = 500 := by rw [s1.1, c5]; rfl
        have ew : xwr (500 + 1) = 501 := xwr_g _ (by decide) (by decide)
        rw [e0]
        unfold g285
        rw [e52, if_neg (fun q => q rfl), Option.bind_some, xup2_n (by omega), e52, ew]
        rfl
      · rw [xup2_n (by omega), xup2_n (by omega)]; exact p1
      · rw [xup2_n (by omega), xup2_n (by omega)]; exact p2
      · rw [xup2_n (by omega), xup2_s]; decide
      · rw [List.length_append, ← hlen, c5]
        show 500 < 500 + 1
        decide
      · rw [xup2_n (by omega), xup2_n (by omega)]
    · have hS5 : S.length < 500 := by have := s1.2.1; omega
      have hl : ∀ t, t < S.length → (S.getD t []).length = nv := fun t ht => (s1.2.2 t ht).1
      obtain ⟨G', j, u1, u2, u3, u4, u5, u6⟩ := l_285_31 (f := f) (nv := nv) (S := S) (v := vOf G nv) hf hnv hS5 hl (vOf_len G nv) S.length f G (Nat.le_refl _) (by omega) s1.1 p2 (fun k hk => (vOf_get hk).symm) (fun t ht k hk => (s1.2.2 t ht).2 k hk) (fun t t1 t2 => by omega)
      refine ⟨G', ?_, ⟨by rw [u6 _ _ (by omega) (by omega)]; exact p1, by rw [u6 _ _ (by omega) (by omega)]; exact p2, .inl ⟨by rw [u6 _ _ (by omega) (by omega)]; exact h43, _, u3, ins_srt hl (vOf_len G nv) s2 u2 u4 u5, ?_⟩⟩, fun o j q1 q2 => u6 o j (by omega) (by omega)⟩
      · rw [e0]
        unfold g285
        rw [s1.1, if_pos (by omega), u1, Option.bind_some]
        rfl
      · refine List.perm_middle.trans ?_
        rw [List.take_append_drop]
        refine (List.Perm.cons _ s3).trans ?_
        exact (List.perm_append_singleton (vOf G nv) W).symm
  · exact absurd h43 q
/-- the answers of a QUERY: at most 500, sorted; or too many -/
theorem l_ask {G : xG_} (hf : 6300 < f) (hnv : nv ≤ 8) (hnp : np ≤ 16) (hc : c ≤ 6200) (hat : pAtoms l ≤ 3) (hw : ∀ y ∈ l, wLt np nv y ∧ (y.1 ≠ 3 → 0 ≤ y.2.1)) (hsafe : ∀ k, k < nv → (qBd l).testBit k = true) (hL : rLs G 2 24 c l) (h39 : G 0 39 = 24) (h38 : G 0 38 = 3) (h40 : G 0 40 = -1) (h37 : G 0 37 = 0) (h43 : G 0 43 = 0) (h52 : G 0 52 = 0) (h53 : G 0 53 = (nv : Int)) (hT : rTb G np N R) (hR : ∀ p, p < np → (R p).length ≤ 100 ∧ ∀ w ∈ R p, ∀ x ∈ w.1, vOk x) :
    ∃ G', g275 f 0 G = some G' ∧ xE G G' ∧ G' 0 53 = (nv : Int) ∧ ((G' 0 43 = 0 ∧ ∃ S, rAn G' nv S ∧ S.Pairwise vLe ∧ isAll l nv R (fun _ _ => True) S) ∨ (G' 0 43 ≠ 0 ∧ ∃ V : List (List Int), V.Nodup ∧ 500 < V.length ∧ ∀ v ∈ V, isW l nv R (fun _ _ => True) v)) := by
  have hop : ∀ v, isW l nv R (qOp (fun _ => 0) (-1) 0) v ↔ isW l nv R (fun _ _ => True) v := fun v => by
    have e : qOp (fun _ => 0) (-1) 0 = fun _ _ => True := funext (fun p => funext (fun w => propext ⟨fun _ => trivial, fun _ => .inl rfl⟩))
    rw [e]
  obtain ⟨G', V, u1, u2, u3, u4, u5, u6, u7, u8⟩ := l_275 (f := f) (P := pAn nv) (K := fun _ => 0) (ra := -1) (rb := 0) (N := N) (R := R) (np := np) (c := c) (nv := nv) (l := l) (r := 24) (G := G) hf (by decide) hnv hnp hc hat hw hsafe hL h39 h40 (fun q => absurd rfl q) (fun q => absurd rfl q) hT hR (fun W G1 G2 hP hx => by
    obtain ⟨p1, p2, p3⟩ := hP
    refine ⟨by rw [hx _ _ (by omega) (by omega) (by omega)]; exact p1, by rw [hx _ _ (by omega) (by omega) (by omega)]; exact p2, ?_⟩
    rw [hx _ _ (by omega) (by omega) (by omega)]
    rcases p3 with ⟨q1, S, s1, s2, s3⟩ | q
    · exact .inl ⟨q1, S, ⟨by rw [hx _ _ (by omega) (by omega) (by omega)]; exact s1.1, s1.2.1, fun i hi => ⟨(s1.2.2 i hi).1, fun k hk => by rw [hx _ _ (by omega) (by omega) (by omega)]; exact (s1.2.2 i hi).2 k hk⟩⟩, s2, s3⟩
    · exact .inr q) (fun W G1 m hP q43 _ _ _ _ _ => l_an1 (by omega) hnv hP q43) h37 h43 ⟨h38, h53, .inl ⟨h43, [], ⟨h52, by decide, fun i hi => absurd hi (Nat.not_lt_zero i)⟩, List.Pairwise.nil, List.Perm.nil⟩⟩
  refine ⟨G', u1, u2, u4.2.1, ?_⟩
  rcases u4.2.2 with ⟨q1, S, s1, s2, s3⟩ | ⟨q1, q2⟩
  · refine .inl ⟨q1, S, s1, s2, (s3.nodup_iff).mpr u6, fun v => ?_⟩
    rw [s3.mem_iff]
    exact ⟨fun hv => (hop v).mp (u7 v hv).1, fun hv => u8 q1 v ((hop v).mpr hv)⟩
  · exact .inr ⟨q1, V, u6, q2, fun v hv => (hop v).mp (u7 v hv).1⟩
end
