/-! Orders: values, rows, facts; lists that stand in order -/
def vCmp : List Int → List Int → Int
  | x :: xs, y :: ys => if x = y then vCmp xs ys else if x < y then -1 else 1
  | _, _ => 0
theorem vCmp_in : ∀ (xs ys : List Int), vCmp xs ys = -1 ∨ vCmp xs ys = 0 ∨ vCmp xs ys = 1
  | [], [] => .inr (.inl rfl)
  | [], _ :: _ => .inr (.inl rfl)
  | _ :: _, [] => .inr (.inl rfl)
  | x :: xs, y :: ys => by
    unfold vCmp
    by_cases c : x = y
    · rw [if_pos c]; exact vCmp_in xs ys
    · rw [if_neg c]
      by_cases d : x < y
      · rw [if_pos d]; exact .inl rfl
      · rw [if_neg d]; exact .inr (.inr rfl)
theorem vCmp_self : ∀ (xs : List Int), vCmp xs xs = 0
  | [] => rfl
  | x :: xs => by
    unfold vCmp
    rw [if_pos rfl]
    exact vCmp_self xs
theorem vCmp_eq : ∀ {xs ys : List Int}, xs.length = ys.length → vCmp xs ys = 0 → xs = ys
  | [], [], _, _ => rfl
  | [], _ :: _, h, _ => by simp at h
  | _ :: _, [], h, _ => by simp at h
  | x :: xs, y :: ys, h, h0 => by
    unfold vCmp at h0
    by_cases c : x = y
    · rw [if_pos c] at h0
      rw [c, vCmp_eq (by simpa using h) h0]
    · rw [if_neg c] at h0
      by_cases d : x < y
      · rw [if_pos d] at h0; omega
      · rw [if_neg d] at h0; omega
theorem vCmp_anti : ∀ (xs ys : List Int), vCmp ys xs = - vCmp xs ys
  | [], [] => rfl
  | [], _ :: _ => rfl
  | _ :: _, [] => rfl
  | x :: xs, y :: ys => by
    unfold vCmp
    by_cases c : x = y
    · rw [if_pos c, if_pos c.symm]; exact vCmp_anti xs ys
    · rw [if_neg c, if_neg (fun h => c h.symm)]
      by_cases d : x < y
      · rw [if_pos d, if_neg (by omega)]; rfl
      · rw [if_neg d, if_pos (by omega)]
theorem vCmp_tr : ∀ {xs ys zs : List Int}, xs.length = ys.length → ys.length = zs.length → vCmp xs ys < 0 → vCmp ys zs < 0 → vCmp xs zs < 0
  | [], [], _, _, _, h, _ => by unfold vCmp at h; omega
  | [], _ :: _, _, h, _, _, _ => by simp at h
  | _ :: _, [], _, h, _, _, _ => by simp at h
  | _ :: _, _ :: _, [], _, h, _, _ => by simp at h
  | x :: xs, y :: ys, z :: zs, h1, h2, h3, h4 => by
    unfold vCmp at h3 h4 ⊢
    by_cases c : x = y
    · rw [if_pos c] at h3
      by_cases d : y = z
      · rw [if_pos d] at h4
        rw [if_pos (c.trans d)]
        exact vCmp_tr (by simpa using h1) (by simpa using h2) h3 h4
      · rw [if_neg d] at h4
        rw [c, if_neg d]
        exact h4
    · rw [if_neg c] at h3
      by_cases d : y = z
      · rw [← d, if_neg c]
        exact h3
      · rw [if_neg d] at h4
        have k1 : x < y := by
          by_cases e : x < y
          · exact e
          · rw [if_neg e] at h3; omega
        have k2 : y < z := by
          by_cases e : y < z
          · exact e
          · rw [if_neg e] at h4; omega
        rw [if_neg (by omega), if_pos (by omega)]
        omega
/-- a fact: NAME, values -/
abbrev pFc : Type := Int × List Int
abbrev dFc : pFc := (0, [])
def fCmp (a b : pFc) : Int := if a.1 = b.1 then (if a.2.length = b.2.length then vCmp a.2 b.2 else if a.2.length < b.2.length then -1 else 1) else if a.1 < b.1 then -1 else 1
theorem fCmp_in (a b : pFc) : fCmp a b = -1 ∨ fCmp a b = 0 ∨ fCmp a b = 1 := by
  unfold fCmp
  have := vCmp_in a.2 b.2
  repeat' split
  all_goals first | exact this | exact .inl rfl | exact .inr (.inr rfl)
theorem fCmp_self (a : pFc) : fCmp a a = 0 := by
  unfold fCmp
  rw [if_pos rfl, if_pos rfl, vCmp_self]
theorem fCmp_eq {a b : pFc} (h : fCmp a b = 0) : a = b := by
  unfold fCmp at h
  by_cases c : a.1 = b.1
  · rw [if_pos c] at h
    by_cases d : a.2.length = b.2.length
    · rw [if_pos d] at h
      exact Prod.ext c (vCmp_eq d h)
    · rw [if_neg d] at h
      split at h <;> omega
  · rw [if_neg c] at h
    split at h <;> omega
theorem fCmp_anti (a b : pFc) : fCmp b a = - fCmp a b := by
  unfold fCmp
  by_cases c : a.1 = b.1
  · rw [if_pos c, if_pos c.symm]
    by_cases d : a.2.length = b.2.length
    · rw [if_pos d, if_pos d.symm, vCmp_anti]
    · rw [if_neg d, if_neg (fun h => d h.symm)]
      by_cases e : a.2.length < b.2.length
      · rw [if_pos e, if_neg (by omega)]; rfl
      · rw [if_neg e, if_pos (by omega)]
  · rw [if_neg c, if_neg (fun h => c h.symm)]
    by_cases e : a.1 < b.1
    · rw [if_pos e, if_neg (by omega)]; rfl
    · rw [if_neg e, if_pos (by omega)]
def fLt (a b : pFc) : Prop := fCmp a b < 0
theorem fLt_irr (a : pFc) : ¬ fLt a a := by
  unfold fLt
  rw [fCmp_self]
  omega
theorem fLt_tr {a b c : pFc} (h1 : fLt a b) (h2 : fLt b c) : fLt a c := by
  unfold fLt fCmp at *
  by_cases c1 : a.1 = b.1
  · by_cases c2 : b.1 = c.1
    · rw [if_pos c1] at h1
      rw [if_pos c2] at h2
      rw [if_pos (c1.trans c2)]
      by_cases d1 : a.2.length = b.2.length
      · by_cases d2 : b.2.length = c.2.length
        · rw [if_pos d1] at h1
          rw [if_pos d2] at h2
          rw [if_pos (d1.trans d2)]
          exact vCmp_tr d1 d2 h1 h2
        · rw [if_neg d2] at h2
          rw [d1, if_neg d2]
          exact h2
      · rw [if_neg d1] at h1
        by_cases d2 : b.2.length = c.2.length
        · rw [← d2, if_neg d1]
          exact h1
        · rw [if_neg d2] at h2
          have k1 : a.2.length < b.2.length := by
            by_cases e : a.2.length < b.2.length
            · exact e
            · rw [if_neg e] at h1; omega
          have k2 : b.2.length < c.2.length := by
            by_cases e : b.2.length < c.2.length
            · exact e
            · rw [if_neg e] at h2; omega
          rw [if_neg (by omega), if_pos (by omega)]
          omega
    · rw [if_neg c2] at h2
      rw [c1, if_neg c2]
      exact h2
  · rw [if_neg c1] at h1
    by_cases c2 : b.1 = c.1
    · rw [← c2, if_neg c1]
      exact h1
    · rw [if_neg c2] at h2
      have k1 : a.1 < b.1 := by
        by_cases e : a.1 < b.1
        · exact e
        · rw [if_neg e] at h1; omega
      have k2 : b.1 < c.1 := by
        by_cases e : b.1 < c.1
        · exact e
        · rw [if_neg e] at h2; omega
      rw [if_neg (by omega), if_pos (by omega)]
      omega
theorem fLt_tot (a b : pFc) : fLt a b ∨ a = b ∨ fLt b a := by
  unfold fLt
  have h := fCmp_anti a b
  rcases fCmp_in a b with e | e | e
  · exact .inl (by omega)
  · exact .inr (.inl (fCmp_eq e))
  · exact .inr (.inr (by omega))
/-! lists in order -/
theorem srt_ext {α : Type} {lt : α → α → Prop} (irr : ∀ a, ¬ lt a a) (tr : ∀ a b c, lt a b → lt b c → lt a c) : ∀ (l l' : List α), l.Pairwise lt → l'.Pairwise lt → (∀ y, y ∈ l ↔ y ∈ l') → l = l'
  | [], [], _, _, _ => rfl
  | [], b :: l', _, _, h => absurd ((h b).mpr (List.mem_cons_self)) (by simp)
  | a :: l, [], _, _, h => absurd ((h a).mp (List.mem_cons_self)) (by simp)
  | a :: l, b :: l', h1, h2, h => by
    rw [List.pairwise_cons] at h1 h2
    have e : a = b := by
      have ha := (h a).mp (List.mem_cons_self)
      have hb := (h b).mpr (List.mem_cons_self)
      rw [List.mem_cons] at ha hb
      rcases ha with ha | ha
      · exact ha
      · rcases hb with hb | hb
        · exact hb.symm
        · exact absurd (tr _ _ _ (h1.1 b hb) (h2.1 a ha)) (irr a)
    subst e
    have hh : ∀ y, y ∈ l ↔ y ∈ l' := by
      intro y
      constructor
      · intro hy
        have := (h y).mp (List.mem_cons_of_mem _ hy)
        rw [List.mem_cons] at this
        rcases this with rfl | k
        · exact absurd (h1.1 _ hy) (irr _)
        · exact k
      · intro hy
        have := (h y).mpr (List.mem_cons_of_mem _ hy)
        rw [List.mem_cons] at this
        rcases this with rfl | k
        · exact absurd (h2.1 _ hy) (irr _)
        · exact k
    rw [srt_ext irr tr l l' h1.2 h2.2 hh]
theorem srt_ins {α : Type} {lt : α → α → Prop} {l : List α} {x : α} {k : Nat} (h : l.Pairwise lt) (h1 : ∀ y, y ∈ l.take k → lt y x) (h2 : ∀ y, y ∈ l.drop k → lt x y) : (l.take k ++ x :: l.drop k).Pairwise lt := by
  have hs := h
  rw [← List.take_append_drop k l, List.pairwise_append] at hs
  rw [List.pairwise_append]
  refine ⟨hs.1, ?_, ?_⟩
  · rw [List.pairwise_cons]
    exact ⟨h2, hs.2.1⟩
  · intro a ha b hb
    rw [List.mem_cons] at hb
    rcases hb with rfl | hb
    · exact h1 a ha
    · exact hs.2.2 a ha b hb
theorem srt_ins_mem {α : Type} {l : List α} {x y : α} {k : Nat} : y ∈ l.take k ++ x :: l.drop k ↔ y ∈ l ∨ y = x := by
  rw [List.mem_append, List.mem_cons]
  constructor
  · rintro (h | h | h)
    · exact .inl (List.mem_of_mem_take h)
    · exact .inr h
    · exact .inl (List.mem_of_mem_drop h)
  · rintro (h | h)
    · rw [← List.take_append_drop k l, List.mem_append] at h
      rcases h with h | h
      · exact .inl h
      · exact .inr (.inr h)
    · exact .inr (.inl h)
theorem srt_get {α : Type} {lt : α → α → Prop} {l : List α} {d : α} (h : l.Pairwise lt) {i j : Nat} (hij : i < j) (hj : j < l.length) : lt (l.getD i d) (l.getD j d) := by
  rw [getD_e (by omega : i < l.length), getD_e hj]
  exact (List.pairwise_iff_getElem.mp h) i j (by omega) hj hij
theorem srt_del {α : Type} {lt : α → α → Prop} {l : List α} (h : l.Pairwise lt) (k : Nat) : (l.take k ++ l.drop (k + 1)).Pairwise lt := by
  have hs := h
  rw [← List.take_append_drop k l, List.pairwise_append] at hs
  rw [List.pairwise_append]
  have hd : ∀ y, y ∈ l.drop (k + 1) → y ∈ l.drop k := fun y hy => by
    rw [← List.drop_drop] at hy
    exact List.mem_of_mem_drop hy
  refine ⟨hs.1, ?_, fun a ha b hb => hs.2.2 a ha b (hd b hb)⟩
  have : l.drop (k + 1) = (l.drop k).drop 1 := by rw [List.drop_drop]
  rw [this]
  exact hs.2.1.sublist (List.drop_sublist _ _)
theorem srt_del_mem {α : Type} {lt : α → α → Prop} (irr : ∀ a, ¬ lt a a) {l : List α} {d y : α} (h : l.Pairwise lt) {k : Nat} (hk : k < l.length) : y ∈ l.take k ++ l.drop (k + 1) ↔ y ∈ l ∧ y ≠ l.getD k d := by
  have e : l = l.take k ++ l.getD k d :: l.drop (k + 1) := by
    have := List.take_append_drop k l
    rw [List.drop_eq_getElem_cons hk] at this
    rw [getD_e hk]
    exact this.symm
  have hs := h
  rw [e, List.pairwise_append, List.pairwise_cons] at hs
  have hm : y ∈ l ↔ y ∈ l.take k ∨ y = l.getD k d ∨ y ∈ l.drop (k + 1) := by
    have : y ∈ l ↔ y ∈ l.take k ++ l.getD k d :: l.drop (k + 1) := by rw [← e]
    rw [this, List.mem_append, List.mem_cons]
  rw [hm, List.mem_append]
  constructor
  · rintro (q | q)
    · exact ⟨.inl q, fun z => irr y (by have := hs.2.2 y q (l.getD k d) List.mem_cons_self; rw [← z] at this; exact this)⟩
    · exact ⟨.inr (.inr q), fun z => irr y (by have := hs.2.1.1 y q; rw [← z] at this; exact this)⟩
  · rintro ⟨q | q | q, z⟩
    · exact .inl q
    · exact absurd q z
    · exact .inr q
