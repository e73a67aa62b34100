/-! What a FORMULA is worth: over rows, and whole -/
section
variable {f o : Nat} {G : xG_} {C : fCs} {s : pPg} {M : Nat → List pRw}
theorem xmin_ok {a b : Int} (ha : vOk a) (hb : vOk b) : vOk (xmin a b) := by
  unfold xmin
  split
  · exact hb
  · exact ha
theorem xmax_ok {a b : Int} (ha : vOk a) (hb : vOk b) : vOk (xmax a b) := by
  unfold xmax
  split
  · exact hb
  · exact ha
theorem fRl_ok {kd : Int} {k : Nat} (hk : kd ≠ 7) : ∀ (R : List pRw) (i : Nat) (v : Int), vOk v → (∀ r ∈ R, vOk (r.1.getD k 0)) → vOk (fRl kd k R i v)
  | [], _, _, hv, _ => hv
  | r :: R, i, v, hv, hR => by
    unfold fRl
    rw [if_neg hk]
    have h1 := hR r (List.mem_cons_self ..)
    refine fRl_ok hk R (i + 1) _ ?_ (fun r' h => hR r' (List.mem_cons_of_mem _ h))
    split
    · exact h1
    · split
      · exact xmin_ok hv h1
      · exact xmax_ok hv h1
theorem getD_vok {L : List Int} {k : Nat} (h : ∀ x ∈ L, vOk x) : vOk (L.getD k 0) := by
  by_cases c : k < L.length
  · have e : L.getD k 0 = L[k] := by rw [List.getD_eq_getElem?_getD, List.getElem?_eq_getElem c]; rfl
    rw [e]
    exact h _ (List.getElem_mem c)
  · have e : L.getD k 0 = 0 := by rw [List.getD_eq_getElem?_getD, List.getElem?_eq_none (by omega)]; rfl
    rw [e]
    unfold vOk
    omega
theorem fRo_ok {kd k x : Int} (hM : okM s M) (hl : ∀ p, p < s.1.length → (M p).length ≤ 520) : okW (fRo s M kd k x) := by
  unfold fRo
  split
  · exact ⟨by decide, by decide⟩
  · rename_i c
    have hp := pIdx_in s.1 x
    have hp2 : (pIdx s.1 x).toNat < s.1.length := by omega
    split
    · show vOk _
      have := hl _ hp2
      unfold vOk
      omega
    · split
      · exact fBd_ok _
      · rename_i c7
        exact fRl_ok c7 _ _ _ (by unfold vOk; omega) (fun r hr => getD_vok (hM _ hp2 r hr))
theorem drop_step {R : List pRw} {x : Nat} (h : x < R.length) : R.drop x = R.getD x dRw :: R.drop (x + 1) := by
  rw [List.drop_eq_getElem_cons h]
  congr 1
  rw [List.getD_eq_getElem?_getD, List.getElem?_eq_getElem h]
  rfl
theorem l_353_73 {i p k n : Nat} {kd : Int} {R : List pRw} (hR : rRw G p n R) (hM : ∀ r ∈ R, ∀ x ∈ r.1, vOk x) (hp : p < 16) (hk : k < 4) (hi : i < 140) (h3 : G 258 i = kd) (h0 : G 0 91 = 0) : ∀ (d x fu : Nat) (v : Int), x + d = R.length → d < fu → (kd = 7 → -1000000000000 * (x : Int) ≤ v ∧ v ≤ 1000000000000 * (x : Int)) →
    rWo G (g353_73 f fu (i : Int) (p : Int) (k : Int) v (x : Int) G) (if kd = 7 then fBd (fRl kd k (R.drop x) x v) else .inr (fRl kd k (R.drop x) x v)) := by
  obtain ⟨a1, a2, a3⟩ := hR
  intro d
  induction d with
  | zero =>
    intro x fu v y1 y2 y3
    obtain ⟨fu, rfl⟩ : ∃ t, fu = t + 1 := ⟨fu - 1, by omega⟩
    rw [List.drop_eq_nil_of_le (by omega)]
    show rWo G (g353_73b (g353_73 f fu) f (i : Int) (p : Int) (k : Int) v (x : Int) G) (if kd = 7 then fBd v else .inr v)
    unfold g353_73b g353_213 g353_208
    rw [if_pos (by omega), Int.toNat_natCast, a1, if_pos (by omega), if_pos (by omega), Int.toNat_natCast, h3]
    by_cases c : kd = 7
    · rw [if_neg (fun q => q c), if_pos c]
      unfold fBd
      by_cases c1 : 1000000000000 < v
      · rw [if_pos c1, if_pos (Or.inl c1)]
        exact ⟨v, _, rfl, fun a j q => xup2_n (by omega), xup2_s _ _ _ _⟩
      · rw [if_neg c1]
        by_cases c2 : -1000000000000 ≤ v
        · rw [if_pos c2, if_neg (by omega)]
          exact ⟨v, _, rfl, fun _ _ _ => rfl, h0, rfl⟩
        · rw [if_neg c2, if_pos (by omega)]
          exact ⟨v, _, rfl, fun a j q => xup2_n (by omega), xup2_s _ _ _ _⟩
    · rw [if_pos c, if_neg c]
      exact ⟨v, _, rfl, fun _ _ _ => rfl, h0, rfl⟩
  | succ d ih =>
    intro x fu v y1 y2 y3
    obtain ⟨fu, rfl⟩ : ∃ t, fu = t + 1 := ⟨fu - 1, by omega⟩
    have hx : x < R.length := by omega
    obtain ⟨b1, b2, b3⟩ := a3 x hx
    have e : xwr ((x : Int) + 1) = ((x + 1 : Nat) : Int) := by rw [xwr_g _ (by omega) (by omega)]; omega
    have e2 : xwr ((((p * 520 + x) * 4 : Nat) : Int) + (k : Int)) = (((p * 520 + x) * 4 + k : Nat) : Int) := by rw [xwr_g _ (by omega) (by omega)]; omega
    have hi2 : 0 ≤ (i : Int) ∧ (i : Int) < 140 := by omega
    have hm : R.getD x dRw ∈ R := by
      have e : R.getD x dRw = R[x] := by rw [List.getD_eq_getElem?_getD, List.getElem?_eq_getElem hx]; rfl
      rw [e]
      exact List.getElem_mem hx
    have hv : vOk ((R.getD x dRw).1.getD k 0) := getD_vok (hM _ hm)
    have g7 := b2 k hk
    rw [drop_step hx]
    show rWo G (g353_73b (g353_73 f fu) f (i : Int) (p : Int) (k : Int) v (x : Int) G) _
    unfold g353_73b g353_127 g353_171 g353_173 fRl
    generalize (R.getD x dRw).1.getD k 0 = w at hv g7 ⊢
    rw [if_pos (by omega), Int.toNat_natCast, a1, if_neg (by omega), l_261 hp (by omega), Option.bind_some]
    simp only [e2]
    rw [if_pos (by omega), if_pos hi2, Int.toNat_natCast, Int.toNat_natCast, h3, g7]
    by_cases c : kd = 7
    · unfold vOk at hv
      have y4 := y3 c
      rw [if_neg (fun q => q c), l_267, Option.bind_some, if_pos c, if_pos c]
      have ih' := fun (v' : Int) (q : -1000000000000 * ((x + 1 : Nat) : Int) ≤ v' ∧ v' ≤ 1000000000000 * ((x + 1 : Nat) : Int)) => ih (x + 1) fu v' (by omega) (by omega) (fun _ => q)
      simp only [if_pos c] at ih'
      by_cases c3 : w < 2000000000000
      · have s3 : ((if w < 2000000000000 then (0 : Int) else 1, G) : Int × xG_).1 = 0 := by
          rw [if_pos c3]
        rw [if_pos s3, xwl_g _ (by omega) (by omega), e, if_neg (by omega : ¬ 2000000000000 ≤ w)]
        exact ih' (v + w) (by omega)
      · have s3 : ¬ ((if w < 2000000000000 then (0 : Int) else 1, G) : Int × xG_).1 = 0 := by
          rw [if_neg c3]; show ¬ (1 : Int) = 0; decide
        rw [if_neg s3, xwl_g _ (by omega) (by omega), e, if_pos (by omega : 2000000000000 ≤ w)]
        exact ih' (v + 0) (by omega)
    · have ih' := fun (v' : Int) => ih (x + 1) fu v' (by omega) (by omega) (fun q => absurd q c)
      simp only [if_neg c] at ih'
      rw [if_pos c, if_neg c, if_neg c]
      by_cases c0 : x = 0
      · rw [if_neg (by omega), if_pos c0, e]
        exact ih' w
      · rw [if_pos (by omega), if_neg c0, if_pos hi2]
        by_cases c8 : kd = 8
        · rw [if_neg (fun q => q c8), if_pos c8, e]
          exact ih' _
        · rw [if_pos c8, if_neg c8, e]
          exact ih' _
theorem l_353 {i : Nat} {kd k x : Int} (hf : 600 < f) (hN : rNs G 2 s.1) (hn : rPn G 2 s) (hn2 : ∀ p, p < s.1.length → 0 ≤ pNn s.2.2.2.1 (p : Int)) (hT : rTb G s.1.length (qN s) M) (hM : okM s M) (hi : i < 140) (h1 : G 259 i = k) (h3 : G 258 i = kd) (h4 : G 262 i = x) (hk : kd = 6 ∧ k = 0 ∨ 7 ≤ kd ∧ kd ≤ 9 ∧ 1 ≤ k ∧ k ≤ 4) (h0 : G 0 91 = 0) :
    rWo G (g353 f (i : Int) G) (fRo s M kd k x) := by
  have hi2 : 0 ≤ (i : Int) ∧ (i : Int) < 140 := by omega
  have hk2 : 0 ≤ k ∧ k ≤ 4 := by omega
  unfold g353 g353_41 fRo
  rw [if_pos hi2, Int.toNat_natCast, h4, hN.idx (by decide) (by omega), Option.bind_some, if_pos hi2]
  simp only []
  by_cases c : pIdx s.1 x = -1
  · rw [if_pos c, if_pos (Or.inl c)]
    exact ⟨_, _, rfl, fun a j q => xup2_n (by omega), xup2_s _ _ _ _⟩
  · have hp := pIdx_in s.1 x
    have hl := hN.2.1
    obtain ⟨p, hpe⟩ : ∃ p : Nat, pIdx s.1 x = (p : Int) := ⟨(pIdx s.1 x).toNat, by omega⟩
    rw [hpe] at hp c ⊢
    have hp2 : p < s.1.length := by omega
    have hq : (qN s p : Int) = pNn s.2.2.2.1 (p : Int) := by
      have := hn2 p hp2
      unfold qN
      omega
    have g2 : G (2 + 2) p = (qN s p : Int) := by rw [hq]; exact hn p hp2
    obtain ⟨t1, t2⟩ := hT p hp2
    rw [if_neg c, if_pos (by omega), Int.toNat_natCast, h1, g2, xwr_g _ (by omega) (by omega), h3]
    by_cases c2 : (qN s p : Int) < k
    · rw [if_neg (by omega), if_pos (Or.inr c2)]
      exact ⟨_, _, rfl, fun a j q => xup2_n (by omega), xup2_s _ _ _ _⟩
    · have cn : ¬ ((p : Int) = -1 ∨ (qN s p : Int) < k) := by omega
      rw [if_pos (by omega : k - 1 < (qN s p : Int)), if_neg cn, if_pos hi2]
      by_cases c6 : kd = 6
      · rw [if_neg (fun q => q c6), if_pos c6, if_pos (by omega)]
        exact ⟨_, _, rfl, fun _ _ _ => rfl, h0, t1.1⟩
      · rw [if_pos c6, if_neg c6]
        obtain ⟨k', hk'⟩ : ∃ k' : Nat, k - 1 = (k' : Int) := ⟨(k - 1).toNat, by omega⟩
        rw [hk', Int.toNat_natCast]
        have := l_353_73 (f := f) (k := k') t1 (hM p hp2) (by omega) (by omega) hi h3 h0 (M p).length 0 f 0 (by omega) (by have := t1.2.1; omega) (fun _ => by omega)
        rw [List.drop_zero] at this
        exact this
/-- the worth of a node does not hang on turns -/
theorem fW_f {N : List pNd} (hN : wFm N) : ∀ (n i m : Nat), i < n → i < m → i < N.length → fW N C s M n i = fW N C s M m i := by
  intro n
  induction n with
  | zero => intro i m h; omega
  | succ n ih =>
    intro i m h1 h2 h3
    obtain ⟨m, rfl⟩ : ∃ t, m = t + 1 := ⟨m - 1, by omega⟩
    have hw := hN i h3
    unfold wNd at hw
    unfold fW
    by_cases c1 : (N.getD i dNd).1 = 1
    · rw [if_pos c1, if_pos c1]
    · rw [if_neg c1, if_neg c1]
      by_cases c2 : (N.getD i dNd).1 = 2
      · rw [if_pos c2, if_pos c2]
      · rw [if_neg c2, if_neg c2]
        by_cases c3 : (N.getD i dNd).1 = 3
        · have q : (0 ≤ (N.getD i dNd).2.1 ∧ (N.getD i dNd).2.1 < i) ∧ (0 ≤ (N.getD i dNd).2.2.1 ∧ (N.getD i dNd).2.2.1 < i) := by
            clear ih
            rcases hw with q | q | q | q | q | q
            · omega
            · omega
            · exact ⟨q.2.1, q.2.2.1⟩
            · omega
            · omega
            · omega
          rw [if_pos c3, if_pos c3, ih _ m (by omega) (by omega) (by omega), ih _ m (by omega) (by omega) (by omega)]
        · rw [if_neg c3, if_neg c3]
          by_cases c4 : (N.getD i dNd).1 = 4 ∨ (N.getD i dNd).1 = 5
          · rw [if_pos c4, if_pos c4]
          · rw [if_neg c4, if_neg c4]
            by_cases c5 : (N.getD i dNd).1 = 10
            · have q : (0 ≤ (N.getD i dNd).2.1 ∧ (N.getD i dNd).2.1 < i) ∧ (0 ≤ (N.getD i dNd).2.2.1 ∧ (N.getD i dNd).2.2.1 < i) ∧ 0 ≤ (N.getD i dNd).2.2.2.1 ∧ (N.getD i dNd).2.2.2.1 < i := by
                clear ih
                rcases hw with q | q | q | q | q | q
                · omega
                · omega
                · omega
                · omega
                · omega
                · exact q.2
              rw [if_pos c5, if_pos c5, ih _ m (by omega) (by omega) (by omega), ih _ m (by omega) (by omega) (by omega), ih _ m (by omega) (by omega) (by omega)]
            · rw [if_neg c5, if_neg c5]
theorem ebind_ok {x : fWo} {k : Int → fWo} (h1 : okW x) (h2 : ∀ v, vOk v → okW (k v)) : okW (ebind x k) := by
  cases x with
  | inl e => exact h1
  | inr v => exact h2 v h1
theorem fW_ok {N : List pNd} (hN : wFm N) (hC : okC C) (hM : okM s M) (hl : ∀ p, p < s.1.length → (M p).length ≤ 520) : ∀ (n i : Nat), i < n → i < N.length → okW (fW N C s M n i) := by
  intro n
  induction n with
  | zero => intro i h; omega
  | succ n ih =>
    intro i h1 h3
    have hw := hN i h3
    unfold wNd at hw
    unfold fW
    split
    · rename_i c
      rcases hw with q | q | q | q | q | q
      · exact q.2
      · omega
      · omega
      · omega
      · omega
      · omega
    · rename_i c1
      split
      · rename_i c2
        have q : 0 ≤ (N.getD i dNd).2.1 ∧ (N.getD i dNd).2.1 < 72 := by
          clear ih
          rcases hw with q | q | q | q | q | q
          · omega
          · exact q.2
          · omega
          · omega
          · omega
          · omega
        unfold fCe
        rcases hC (N.getD i dNd).2.1.toNat (by omega) with u | u | u
        · rw [if_neg (by omega), if_neg (by omega)]
          show vOk 0
          unfold vOk
          omega
        · rw [if_neg (by omega), if_pos u.1]
          exact u.2
        · rw [if_pos u.1]
          exact u.2
      · rename_i c2
        split
        · rename_i c3
          have q : (0 ≤ (N.getD i dNd).2.1 ∧ (N.getD i dNd).2.1 < i) ∧ (0 ≤ (N.getD i dNd).2.2.1 ∧ (N.getD i dNd).2.2.1 < i) := by
            clear ih
            rcases hw with q | q | q | q | q | q
            · omega
            · omega
            · exact ⟨q.2.1, q.2.2.1⟩
            · omega
            · omega
            · omega
          exact ebind_ok (ih _ (by omega) (by omega)) (fun a _ => ebind_ok (ih _ (by omega) (by omega)) (fun b _ => fSg_ok _ _ _))
        · rename_i c3
          split
          · exact fOv_ok hC
          · split
            · rename_i c5
              have q : (0 ≤ (N.getD i dNd).2.1 ∧ (N.getD i dNd).2.1 < i) ∧ (0 ≤ (N.getD i dNd).2.2.1 ∧ (N.getD i dNd).2.2.1 < i) ∧ 0 ≤ (N.getD i dNd).2.2.2.1 ∧ (N.getD i dNd).2.2.2.1 < i := by
                clear ih
                rcases hw with q | q | q | q | q | q
                · omega
                · omega
                · omega
                · omega
                · omega
                · exact q.2
              refine ebind_ok (ih _ (by omega) (by omega)) (fun a _ => ?_)
              split
              · exact ih _ (by omega) (by omega)
              · exact ih _ (by omega) (by omega)
            · exact fRo_ok hM hl
end
