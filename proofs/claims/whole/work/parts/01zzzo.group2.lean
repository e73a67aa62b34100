/-! GATHERING of the reference: a value comes to its group -/
theorem getD_set {α : Type} {l : List α} {d x : α} {i j : Nat} (hi : i < l.length) : (l.set i x).getD j d = if j = i then x else l.getD j d := by
  rw [List.getD_eq_getElem?_getD, List.getElem?_set]
  by_cases c : i = j
  · rw [if_pos c, if_pos hi, if_pos c.symm]
    rfl
  · rw [if_neg c, if_neg (fun q => c q.symm), ← List.getD_eq_getElem?_getD]
section
variable {f n : Nat} {x kk : Int} {S : List pRw} {xs : List Int}
theorem rGr.ve {G : xG_} {i : Nat} (h : rGr G n S) (hn : n ≤ 4) (hi : i < S.length) : rVe G 119 (4 * i) (S.getD i dRw).1 := by
  obtain ⟨a1, a2, a3⟩ := h
  obtain ⟨b1, b2, b3⟩ := a3 i hi
  exact ⟨by rw [xl119, b1]; omega, by omega, by omega, fun j hj => b2 j (by omega)⟩
theorem rGr.at {G G' : xG_} {i i' : Nat} (h : rGr G n S) (hi : i < S.length) (hr : gRw G i G' i') : (S.getD i dRw).1.length = n ∧ (∀ j, j < 4 → G' 119 (4 * i' + j) = (S.getD i dRw).1.getD j 0) ∧ G' 120 i' = (S.getD i dRw).2 := by
  obtain ⟨q1, q2, q3⟩ := h.2.2 i hi
  exact ⟨q1, fun j hj => by rw [hr.1 j hj]; exact q2 j hj, by rw [hr.2]; exact q3⟩
/-- where a key stands, or would -/
def gPl (S : List pRw) (xs : List Int) (k : Nat) : Prop := k ≤ S.length ∧ (∀ i, i < k → vCmp (S.getD i dRw).1 xs < 0) ∧ (k < S.length → ¬ vCmp (S.getD k dRw).1 xs < 0)
def xfg1 (G G' : xG_) : Prop := ∀ o z, ¬ (o = 0 ∧ (z = 58 ∨ z = 60)) → o ≠ 119 → o ≠ 120 → G' o z = G o z
theorem l_287_114 {G : xG_} (hf : 1100 < f) (hn : n ≤ 4) (h : rGr G n S) (hx : rVe G 112 0 xs) (hxn : xs.length = n) : ∀ (d i fu : Nat), i + d = S.length → d < fu → (∀ j, j < i → vCmp (S.getD j dRw).1 xs < 0) → ∃ k : Nat, g287_114 f fu kk x (n : Int) (i : Int) G = g287_150 f kk x (n : Int) (k : Int) G ∧ gPl S xs k := by
  have hl := h.2.1
  intro d
  induction d with
  | zero =>
    intro i fu h1 h2 h3
    obtain ⟨fu, rfl⟩ : ∃ t, fu = t + 1 := ⟨fu - 1, by omega⟩
    refine ⟨i, ?_, by omega, h3, fun q => by omega⟩
    show g287_114b (g287_114 f fu) f _ _ _ _ _ = _
    unfold g287_114b
    rw [h.1, if_pos (by omega)]
  | succ d ih =>
    intro i fu h1 h2 h3
    obtain ⟨fu, rfl⟩ : ∃ t, fu = t + 1 := ⟨fu - 1, by omega⟩
    have hi : i < S.length := by omega
    have e4 : xwr (4 * (i : Int)) = ((4 * i : Nat) : Int) := by rw [xwr_g _ (by omega) (by omega)]; omega
    have e5 : xwr ((i : Int) + 1) = ((i + 1 : Nat) : Int) := by rw [xwr_g _ (by omega) (by omega)]; omega
    have ec : g262 f 119 ((4 * i : Nat) : Int) 112 0 (n : Int) G = some (vCmp (S.getD i dRw).1 xs, G) := l_262 (by omega) (h.ve hn hi) hx (h.2.2 i hi).1 hxn
    have step : g287_114 f (fu + 1) kk x (n : Int) (i : Int) G = if 0 ≤ vCmp (S.getD i dRw).1 xs then g287_150 f kk x (n : Int) (i : Int) G else g287_114 f fu kk x (n : Int) ((i + 1 : Nat) : Int) G := by
      show g287_114b (g287_114 f fu) f _ _ _ _ _ = _
      unfold g287_114b
      rw [h.1, if_neg (by omega), e4, ec, Option.bind_some, e5]
    rw [step]
    by_cases c : 0 ≤ vCmp (S.getD i dRw).1 xs
    · rw [if_pos c]
      exact ⟨i, rfl, by omega, h3, fun _ q => by omega⟩
    · rw [if_neg c]
      refine ih (i + 1) fu (by omega) (by omega) (fun j hj => ?_)
      by_cases cj : j = i
      · rw [cj]; omega
      · exact h3 j (by omega)
theorem len_t {α : Type} (l : List α) (k : Nat) : (l.take k).length = min k l.length := List.length_take
theorem getD_tk {α : Type} {l : List α} {d : α} {k j : Nat} (h : j < k) : (l.take k).getD j d = l.getD j d := by
  rw [List.getD_eq_getElem?_getD, List.getElem?_take_of_lt h, ← List.getD_eq_getElem?_getD]
/-- a value comes to its group -/
theorem l_287_111 {G : xG_} (hf : 1100 < f) (hn : n ≤ 4) (h : rGr G n S) (hs : S.Pairwise rwLt) (hx : ∀ k, k < n → G 112 k = xs.getD k 0) (hxn : xs.length = n) (hkk : kk = 1 ∨ kk = 2 ∨ kk = 3 ∨ kk = 4) (hx1 : -4000000000000 ≤ x ∧ x ≤ 4000000000000) (hb : ∀ y ∈ S, -4000000000000000000 ≤ y.2 ∧ y.2 ≤ 4000000000000000000) :
    ∃ G' S', g287_111 f kk x (n : Int) G = some G' ∧ rGr G' n S' ∧ S'.Pairwise rwLt ∧ xfg1 G G' ∧ ((∃ i, i < S.length ∧ (S.getD i dRw).1 = xs ∧ S' = S.set i (xs, qCo kk (S.getD i dRw).2 x) ∧ G' 0 60 = G 0 60) ∨ ((∀ y ∈ S, y.1 ≠ xs) ∧ ∃ i, i ≤ S.length ∧ S' = (S.take i ++ (xs, x) :: S.drop i).take 1024 ∧ (∀ j, j < i → vLt (S.getD j dRw).1 xs) ∧ (∀ j, i ≤ j → j < S.length → vLt xs (S.getD j dRw).1) ∧ G' 0 60 = (if S.length = 1024 then 1 else G 0 60))) := by
  have hl := h.2.1
  have hve : rVe G 112 0 xs := ⟨by rw [xl112]; omega, by omega, by omega, fun k hk => by rw [Nat.zero_add]; exact hx k (by omega)⟩
  obtain ⟨i, e1, p1, p2, p3⟩ := l_287_114 (f := f) (kk := kk) (x := x) hf hn h hve hxn S.length 0 f (by omega) (by omega) (fun j hj => absurd hj (by omega))
  have e1' : g287_111 f kk x (n : Int) G = g287_150 f kk x (n : Int) (i : Int) G := e1
  have e4 : xwr (4 * (i : Int)) = ((4 * i : Nat) : Int) := by rw [xwr_g _ (by omega) (by omega)]; omega
  have hnl : ∀ j, j < S.length → (S.getD j dRw).1.length = xs.length := fun j hj => by rw [(h.2.2 j hj).1, hxn]
  by_cases c0 : i < S.length ∧ vCmp (S.getD i dRw).1 xs = 0
  · obtain ⟨c1, c2⟩ := c0
    have ek : (S.getD i dRw).1 = xs := vCmp_eq (hnl i c1) c2
    have ec : g262 f 119 ((4 * i : Nat) : Int) 112 0 (n : Int) G = some (vCmp (S.getD i dRw).1 xs, G) := l_262 (by omega) (h.ve hn c1) hve (h.2.2 i c1).1 hxn
    obtain ⟨q1, q2, q3⟩ := h.2.2 i c1
    have hbi := hb (S.getD i dRw) (by rw [getD_e c1]; exact List.getElem_mem c1)
    have hii : 0 ≤ (i : Int) ∧ (i : Int) < 1025 := by omega
    have eq : g287_150 f kk x (n : Int) (i : Int) G = some (xup2 G 120 i (qCo kk (S.getD i dRw).2 x)) := by
      have n1 : ¬ ¬ (vCmp (S.getD i dRw).1 xs, G).1 = 0 := fun q => q c2
      unfold g287_150 g287_205 g287_232
      rw [h.1, if_neg (by omega), e4, ec, Option.bind_some, if_neg n1, if_pos hii, xl120, Int.toNat_natCast]
      show (if kk = 1 then (if _ then Option.bind (some (xup2 G 120 i (xwl (G 120 i + x)))) _ else _) else (if ¬ kk = 2 then (if ¬ kk = 3 then (if _ then Option.bind (some (xup2 G 120 i (xmax (G 120 i) x))) _ else _) else (if _ then Option.bind (some (xup2 G 120 i (xmin (G 120 i) x))) _ else _)) else (if _ then Option.bind (some (xup2 G 120 i (xwl (G 120 i + x)))) _ else _))) = _
      rw [q3, xwl_g _ (by omega) (by omega)]
      simp only [if_pos hii, Option.bind_some]
      unfold qCo xmax xmin
      rcases hkk with k | k | k | k
      · rw [if_pos k, if_pos (Or.inl k)]
      · rw [if_neg (by omega), if_neg (fun q => q k), if_pos (Or.inr k)]
      · have n2 : ¬ ¬ kk = 3 := fun q => q k
        have n3 : ¬ (kk = 1 ∨ kk = 2) := by omega
        rw [if_neg (by omega), if_pos (by omega), if_neg n2, if_neg n3, if_pos k]
      · have n3 : ¬ (kk = 1 ∨ kk = 2) := by omega
        have n4 : ¬ kk = 3 := by omega
        rw [if_neg (by omega), if_pos (by omega), if_pos n4, if_neg n3, if_neg n4]
    refine ⟨xup2 G 120 i (qCo kk (S.getD i dRw).2 x), S.set i (xs, qCo kk (S.getD i dRw).2 x), by rw [e1']; exact eq, ⟨by rw [List.length_set, xup2_n (by omega)]; exact h.1, by rw [List.length_set]; exact hl, fun j hj => ?_⟩, ?_, fun o z y1 y2 y3 => xup2_n (fun q => y3 q.1), .inl ⟨i, c1, ek, rfl, xup2_n (by omega)⟩⟩
    · rw [List.length_set] at hj
      rw [getD_set c1]
      by_cases cj : j = i
      · rw [if_pos cj, cj]
        exact ⟨hxn, fun z hz => by rw [xup2_n (by omega), q2 z hz, ek], xup2_s _ _ _ _⟩
      · rw [if_neg cj]
        obtain ⟨w1, w2, w3⟩ := h.2.2 j hj
        exact ⟨w1, fun z hz => by rw [xup2_n (by omega)]; exact w2 z hz, by rw [xup2_n (by omega)]; exact w3⟩
    · rw [List.pairwise_iff_getElem]
      intro a b ha hb' hab
      rw [List.length_set] at ha hb'
      have hk : ∀ j, (hj : j < S.length) → ((S.set i (xs, qCo kk (S.getD i dRw).2 x)).getD j dRw).1 = (S.getD j dRw).1 := fun j hj => by
        rw [getD_set c1]
        by_cases cj : j = i
        · rw [if_pos cj, cj, ek]
        · rw [if_neg cj]
      have := srt_get (d := dRw) hs hab hb'
      rw [← getD_e (d := dRw) (by rw [List.length_set]; exact ha), ← getD_e (d := dRw) (by rw [List.length_set]; exact hb')]
      show vLt _ _
      rw [hk a ha, hk b hb']
      exact this
  · have eq : g287_150 f kk x (n : Int) (i : Int) G = g287_234 f x (n : Int) (i : Int) G := by
      unfold g287_150
      rw [h.1]
      by_cases c1 : i < S.length
      · have ec : g262 f 119 ((4 * i : Nat) : Int) 112 0 (n : Int) G = some (vCmp (S.getD i dRw).1 xs, G) := l_262 (by omega) (h.ve hn c1) hve (h.2.2 i c1).1 hxn
        have n1 : ¬ (vCmp (S.getD i dRw).1 xs, G).1 = 0 := fun q => c0 ⟨c1, q⟩
        rw [if_neg (by omega), e4, ec, Option.bind_some, if_pos n1]
      · rw [if_pos (by omega)]
    have below : ∀ j, j < i → vLt (S.getD j dRw).1 xs := fun j hj => (vLt_iff (hnl j (by omega))).mpr (p2 j hj)
    have above : ∀ j, i ≤ j → j < S.length → vLt xs (S.getD j dRw).1 := fun j h1 h2 => by
      have hi0 : vLt xs (S.getD i dRw).1 := by
        have z1 := p3 (by omega)
        have z2 : vCmp (S.getD i dRw).1 xs ≠ 0 := fun q => c0 ⟨by omega, q⟩
        have z3 := vCmp_anti (S.getD i dRw).1 xs
        exact (vLt_iff (hnl i (by omega)).symm).mpr (by omega)
      by_cases cj : j = i
      · rw [cj]; exact hi0
      · exact vLt_tr hi0 (srt_get hs (by omega) h2)
    have hne : ∀ y ∈ S, y.1 ≠ xs := fun y hy q => by
      obtain ⟨j, hj, rfl⟩ := List.getElem_of_mem hy
      rw [← getD_e (d := dRw) hj] at q
      by_cases cj : j < i
      · have := below j cj; rw [q] at this; exact vLt_irr _ this
      · have := above j (by omega) hj; rw [q] at this; exact vLt_irr _ this
    have srt : (S.take i ++ (xs, x) :: S.drop i).Pairwise rwLt := srt_ins hs (fun y hy => by
        obtain ⟨j, hj, rfl⟩ := List.getElem_of_mem hy
        rw [List.length_take] at hj
        rw [List.getElem_take]
        have := below j (by omega)
        rw [getD_e (by omega : j < S.length)] at this
        exact this) (fun y hy => by
        obtain ⟨j, hj, rfl⟩ := List.getElem_of_mem hy
        rw [List.length_drop] at hj
        rw [List.getElem_drop]
        have := above (i + j) (by omega) (by omega)
        rw [getD_e (by omega : i + j < S.length)] at this
        exact this)
    have hlen : (S.take i ++ (xs, x) :: S.drop i).length = S.length + 1 := len_ins p1
    by_cases c2 : i = 1024
    · have hS : S.length = 1024 := by omega
      refine ⟨xup2 G 0 60 1, S, ?_, ⟨by rw [xup2_n (by omega)]; exact h.1, hl, fun j hj => ?_⟩, hs, fun o z y1 y2 y3 => xup2_n (by omega), .inr ⟨hne, i, p1, ?_, below, above, by rw [xup2_s, if_pos hS]⟩⟩
      · have n1 : ¬ ¬ (i : Int) = 1024 := fun q => q (by omega)
        rw [e1', eq]
        unfold g287_234
        rw [if_neg n1]
        rfl
      · obtain ⟨w1, w2, w3⟩ := h.2.2 j hj
        exact ⟨w1, fun z hz => by rw [xup2_n (by omega)]; exact w2 z hz, by rw [xup2_n (by omega)]; exact w3⟩
      · have e9 : S.take i = S := List.take_of_length_le (by omega)
        rw [e9, ← hS, List.take_left]
    · have n1 : ¬ (i : Int) = 1024 := by omega
      obtain ⟨G1, a1, a2, a3, a4⟩ := l_287_254 (f := f) (x := x) (a := (n : Int)) (i := i) (by omega) (S.length - i) f G (by omega) (by omega)
      obtain ⟨G2, b1, b2, b3, b4, b5, b6⟩ := l_287_327 (f := f) (x := x) (n := n) (xs := xs) (i := i) (L := S.length) (by omega) hl hn 4 0 f G1 (by omega) (by omega) (by rw [a4 _ _ (by omega) (by omega)]; exact h.1) (fun k hk => by rw [a4 _ _ (by omega) (by omega)]; exact hx k hk) hxn
      have keep : ∀ j, j ≠ i → gRw G1 j G2 j := fun j hj => ⟨fun z hz => b6 _ _ (by omega) (by omega) (by omega), b6 _ _ (by omega) (by omega) (by omega)⟩
      refine ⟨G2, (S.take i ++ (xs, x) :: S.drop i).take 1024, ?_, ⟨by rw [b4, len_t, hlen]; omega, by rw [len_t]; omega, fun j hj => ?_⟩, srt.sublist (List.take_sublist _ _), fun o z y1 y2 y3 => by rw [b6 o z (by omega) (by omega) y1, a4 o z y2 y3], .inr ⟨hne, i, p1, rfl, below, above, by rw [b5, a4 _ _ (by omega) (by omega)]⟩⟩
      · rw [e1', eq]
        unfold g287_234
        rw [if_pos n1, h.1]
        have a1' := a1
        rw [show i + (S.length - i) = S.length by omega] at a1'
        rw [a1']
        exact b1
      · rw [len_t, hlen] at hj
        rw [getD_tk (by omega), getD_ins p1]
        by_cases j1 : j < i
        · rw [if_pos j1]
          exact h.at (by omega) ((a3 j (by omega)).tr (keep j (by omega)))
        · rw [if_neg j1]
          by_cases j2 : j = i
          · rw [if_pos j2, j2]
            exact ⟨hxn, fun z hz => b2 z (by omega) hz, b3⟩
          · rw [if_neg j2]
            obtain ⟨j, rfl⟩ : ∃ t, j = t + 1 := ⟨j - 1, by omega⟩
            rw [Nat.add_sub_cancel]
            exact h.at (by omega) ((a2 j (by omega) (by omega)).tr (keep (j + 1) (by omega)))
end
