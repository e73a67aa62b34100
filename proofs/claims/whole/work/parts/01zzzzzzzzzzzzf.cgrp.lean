/-! THE CLASS: groups, at most N at a time (as gIv of the reference, with any N) -/
section
variable {α : Type} {key : α → Option (List Int)} {val : α → Int} {N : Nat}
def gIw (N : Nat) (kk : Int) (key : α → Option (List Int)) (val : α → Int) (W : List α) (S : List pRw) (m : Int) : Prop := S.Pairwise rwLt ∧ S.length ≤ N ∧ (m = 0 ∨ m = 1) ∧ (∀ y ∈ S, gVs key val W y.1 ≠ [] ∧ y.2 = gAg kk (gVs key val W y.1)) ∧ (∀ v ∈ W, ∀ xs, key v = some xs → (∃ w, (xs, w) ∈ S) ∨ (m = 1 ∧ S.length = N ∧ ∀ y ∈ S, vLt y.1 xs)) ∧ (m = 1 → S.length = N)
theorem gIw_0 (N : Nat) (kk : Int) : gIw N kk key val [] [] 0 := ⟨List.Pairwise.nil, Nat.zero_le _, .inl rfl, fun y hy => absurd hy (by simp), fun v hv => absurd hv (by simp), fun h => by cases h⟩
theorem gIw.skip {kk m : Int} {W : List α} {S : List pRw} {v : α} (h : gIw N kk key val W S m) (hv : key v = none) : gIw N kk key val (W ++ [v]) S m := by
  obtain ⟨a1, a2, a3, a4, a5, a6⟩ := h
  have e : ∀ xs, gVs key val (W ++ [v]) xs = gVs key val W xs := fun xs => by
    rw [gVs_s, if_neg (by rw [hv]; exact fun q => by cases q)]
  refine ⟨a1, a2, a3, fun y hy => by rw [e]; exact a4 y hy, fun u hu xs hk => ?_, a6⟩
  rcases List.mem_append.mp hu with hu | hu
  · exact a5 u hu xs hk
  · rw [List.mem_singleton.mp hu, hv] at hk
    cases hk
/-- the group is there -/
theorem gIw.upd {kk m : Int} {W : List α} {S : List pRw} {v : α} {xs : List Int} {i : Nat} (h : gIw N kk key val W S m) (hv : key v = some xs) (hi : i < S.length) (hx : (S.getD i dRw).1 = xs) : gIw N kk key val (W ++ [v]) (S.set i (xs, qCo kk (S.getD i dRw).2 (val v))) m := by
  obtain ⟨a1, a2, a3, a4, a5, a6⟩ := h
  have hkey : ∀ j, ((S.set i (xs, qCo kk (S.getD i dRw).2 (val v))).getD j dRw).1 = (S.getD j dRw).1 := fun j => by
    rw [getD_set hi]
    by_cases cj : j = i
    · rw [if_pos cj, cj, hx]
    · rw [if_neg cj]
  have hSi : S.getD i dRw ∈ S := by rw [getD_e hi]; exact List.getElem_mem hi
  have other : ∀ j, j < S.length → j ≠ i → (S.getD j dRw).1 ≠ xs := fun j hj hne q => by
    by_cases c : j < i
    · have : vLt (S.getD j dRw).1 (S.getD i dRw).1 := srt_get (d := dRw) a1 c hi
      rw [q, hx] at this
      exact vLt_irr _ this
    · have : vLt (S.getD i dRw).1 (S.getD j dRw).1 := srt_get (d := dRw) a1 (by omega) hj
      rw [q, hx] at this
      exact vLt_irr _ this
  refine ⟨?_, by rw [List.length_set]; exact a2, a3, fun y hy => ?_, fun u hu ys hk => ?_, by rw [List.length_set]; exact a6⟩
  · rw [List.pairwise_iff_getElem]
    intro a b ha hb hab
    have ha' : a < S.length := by rw [List.length_set] at ha; exact ha
    have hb' : b < S.length := by rw [List.length_set] at hb; exact hb
    rw [← getD_e (d := dRw) ha, ← getD_e (d := dRw) hb]
    show vLt _ _
    rw [hkey, hkey]
    exact srt_get (d := dRw) a1 hab hb'
  · obtain ⟨j, hj, rfl⟩ := mem_get.mp hy
    rw [List.length_set] at hj
    rw [getD_set hi]
    by_cases cj : j = i
    · rw [if_pos cj, gVs_s]
      show (if key v = some xs then _ else _) ≠ [] ∧ qCo kk (S.getD i dRw).2 (val v) = gAg kk (if key v = some xs then _ else _)
      obtain ⟨b1, b2⟩ := a4 _ hSi
      rw [hx] at b1 b2
      rw [if_pos hv, gAg_s b1, ← b2]
      exact ⟨by simp, rfl⟩
    · rw [if_neg cj, gVs_s, if_neg (by rw [hv]; intro q; injection q with q; exact other j hj cj q.symm)]
      exact a4 _ (mem_get.mpr ⟨j, hj, rfl⟩)
  · have cover : ∀ ys w, (ys, w) ∈ S → ∃ w, (ys, w) ∈ S.set i (xs, qCo kk (S.getD i dRw).2 (val v)) := fun ys w hm => by
      obtain ⟨j, hj, e⟩ := mem_get.mp hm
      refine ⟨((S.set i (xs, qCo kk (S.getD i dRw).2 (val v))).getD j dRw).2, mem_get.mpr ⟨j, by rw [List.length_set]; exact hj, ?_⟩⟩
      refine Prod.ext ?_ rfl
      rw [hkey, e]
    rcases List.mem_append.mp hu with hu | hu
    · rcases a5 u hu ys hk with ⟨w, hw⟩ | ⟨b1, b2, b3⟩
      · exact .inl (cover ys w hw)
      · refine .inr ⟨b1, by rw [List.length_set]; exact b2, fun y hy => ?_⟩
        obtain ⟨j, hj, rfl⟩ := mem_get.mp hy
        rw [List.length_set] at hj
        rw [hkey]
        exact b3 _ (mem_get.mpr ⟨j, hj, rfl⟩)
    · rw [List.mem_singleton.mp hu, hv] at hk
      injection hk with hk
      rw [← hk]
      exact .inl (cover xs (S.getD i dRw).2 (by rw [← hx]; exact hSi))
/-- a new group -/
theorem gIw.new {kk m : Int} {W : List α} {S : List pRw} {v : α} {xs : List Int} {i : Nat} (h : gIw N kk key val W S m) (hv : key v = some xs) (hne : ∀ y ∈ S, y.1 ≠ xs) (hi : i ≤ S.length) (hb : ∀ j, j < i → vLt (S.getD j dRw).1 xs) (ha : ∀ j, i ≤ j → j < S.length → vLt xs (S.getD j dRw).1) :
    gIw N kk key val (W ++ [v]) ((S.take i ++ (xs, val v) :: S.drop i).take N) (if S.length = N then 1 else m) := by
  obtain ⟨a1, a2, a3, a4, a5, a6⟩ := h
  have hlen : (S.take i ++ (xs, val v) :: S.drop i).length = S.length + 1 := len_ins hi
  have hget : ∀ j, (S.take i ++ (xs, val v) :: S.drop i).getD j dRw = if j < i then S.getD j dRw else if j = i then (xs, val v) else S.getD (j - 1) dRw := fun j => getD_ins hi
  have srt : (S.take i ++ (xs, val v) :: S.drop i).Pairwise rwLt := srt_ins a1 (fun y hy => by
      obtain ⟨j, hj, rfl⟩ := List.getElem_of_mem hy
      rw [List.length_take] at hj
      rw [List.getElem_take]
      have := hb j (by omega)
      rw [getD_e (by omega : j < S.length)] at this
      exact this) (fun y hy => by
      obtain ⟨j, hj, rfl⟩ := List.getElem_of_mem hy
      rw [List.length_drop] at hj
      rw [List.getElem_drop]
      have := ha (i + j) (by omega) (by omega)
      rw [getD_e (by omega : i + j < S.length)] at this
      exact this)
  have tlen : ((S.take i ++ (xs, val v) :: S.drop i).take N).length = min N (S.length + 1) := by rw [len_t, hlen]
  have tmem : ∀ y, y ∈ (S.take i ++ (xs, val v) :: S.drop i).take N → y ∈ S ∨ y = (xs, val v) := fun y hy => srt_ins_mem.mp (List.mem_of_mem_take hy)
  have tin : ∀ y, (y ∈ S ∨ y = (xs, val v)) → y ∈ (S.take i ++ (xs, val v) :: S.drop i).take N ∨ (S.length = N ∧ ∀ z ∈ (S.take i ++ (xs, val v) :: S.drop i).take N, vLt z.1 y.1) := fun y hy => by
    obtain ⟨j, hj, e⟩ := mem_get.mp (srt_ins_mem (k := i).mpr hy)
    by_cases c : j < N
    · refine .inl (mem_get.mpr ⟨j, by rw [tlen]; omega, ?_⟩)
      rw [getD_tk c]
      exact e
    · refine .inr ⟨by omega, fun z hz => ?_⟩
      obtain ⟨k, hk, ek⟩ := mem_get.mp hz
      rw [tlen] at hk
      rw [getD_tk (by omega)] at ek
      have := srt_get (d := dRw) srt (by omega : k < j) hj
      rw [e, ek] at this
      exact this
  -- if the group has come before, it lies behind all
  have old : gVs key val W xs ≠ [] → i = N ∧ m = 1 ∧ S.length = N := fun hg => by
    obtain ⟨u, hu, hku⟩ := gVs_ne hg
    rcases a5 u hu xs hku with ⟨w, hw⟩ | ⟨b1, b2, b3⟩
    · exact absurd rfl (hne _ hw)
    · refine ⟨?_, b1, b2⟩
      by_cases c : i < S.length
      · exact absurd (vLt_tr (ha i (Nat.le_refl _) c) (b3 _ (mem_get.mpr ⟨i, c, rfl⟩))) (vLt_irr _)
      · omega
  refine ⟨srt.sublist (List.take_sublist _ _), by rw [tlen]; omega, ?_, fun y hy => ?_, fun u hu ys hk => ?_, fun hm1 => ?_⟩
  · by_cases c : S.length = N
    · rw [if_pos c]; exact .inr rfl
    · rw [if_neg c]; exact a3
  · rcases tmem y hy with hS | hS
    · rw [gVs_s, if_neg (by rw [hv]; intro q; injection q with q; exact hne y hS q.symm)]
      exact a4 y hS
    · rw [hS, gVs_s]
      show (if key v = some xs then _ else _) ≠ [] ∧ val v = gAg kk (if key v = some xs then _ else _)
      rw [if_pos hv]
      by_cases hg : gVs key val W xs = []
      · rw [hg]
        exact ⟨by simp, rfl⟩
      · exfalso
        obtain ⟨o1, o2, o3⟩ := old hg
        rw [hS] at hy
        obtain ⟨j, hj, e⟩ := mem_get.mp hy
        rw [tlen] at hj
        rw [getD_tk (by omega), hget, if_pos (by omega)] at e
        exact hne (S.getD j dRw) (mem_get.mpr ⟨j, by omega, rfl⟩) (by rw [e])
  · have third : ∀ y : pRw, S.length = N → (∀ z ∈ (S.take i ++ (xs, val v) :: S.drop i).take N, vLt z.1 y.1) → ((if S.length = N then (1 : Int) else m) = 1 ∧ ((S.take i ++ (xs, val v) :: S.drop i).take N).length = N ∧ ∀ z ∈ (S.take i ++ (xs, val v) :: S.drop i).take N, vLt z.1 y.1) := fun y h1 h2 => ⟨by rw [if_pos h1], by rw [tlen, h1]; omega, h2⟩
    rcases List.mem_append.mp hu with hu | hu
    · rcases a5 u hu ys hk with ⟨w, hw⟩ | ⟨b1, b2, b3⟩
      · rcases tin (ys, w) (.inl hw) with t | ⟨t1, t2⟩
        · exact .inl ⟨w, t⟩
        · exact .inr (third (ys, w) t1 t2)
      · refine .inr (third (ys, 0) b2 (fun z hz => ?_))
        rcases tmem z hz with hS | hS
        · exact b3 z hS
        · rw [hS] at hz ⊢
          obtain ⟨j, hj, e⟩ := mem_get.mp hz
          rw [tlen] at hj
          have hij : i < S.length := by
            rw [getD_tk (by omega), hget] at e
            by_cases c1 : j < i
            · rw [if_pos c1] at e
              exact absurd (by rw [e]) (hne (S.getD j dRw) (mem_get.mpr ⟨j, by omega, rfl⟩))
            · rw [if_neg c1] at e
              by_cases c2 : j = i
              · omega
              · rw [if_neg c2] at e
                exact absurd (by rw [e]) (hne (S.getD (j - 1) dRw) (mem_get.mpr ⟨j - 1, by omega, rfl⟩))
          exact vLt_tr (ha i (Nat.le_refl _) hij) (b3 _ (mem_get.mpr ⟨i, hij, rfl⟩))
    · rw [List.mem_singleton.mp hu, hv] at hk
      injection hk with hk
      rw [← hk]
      rcases tin (xs, val v) (.inr rfl) with t | ⟨t1, t2⟩
      · exact .inl ⟨val v, t⟩
      · exact .inr (third (xs, val v) t1 t2)
  · by_cases c : S.length = N
    · rw [tlen, c]; omega
    · rw [if_neg c] at hm1
      exact absurd (a6 hm1) c
end
