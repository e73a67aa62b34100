/-! The reference lexes: signs; a TOKEN -/
theorem xidx_is : ∀ c : Fin 256, decide (0 ≤ xidx (xi2ch ((c.val : Nat) : Int))) = decide (c.val = 40 ∨ c.val = 41 ∨ c.val = 44 ∨ c.val = 46 ∨ c.val = 47 ∨ c.val = 58 ∨ c.val = 43 ∨ c.val = 45 ∨ c.val = 42 ∨ c.val = 37 ∨ c.val = 61 ∨ c.val = 60 ∨ c.val = 62) := by decide +kernel
theorem xidx_g {c : Int} (h0 : 0 ≤ c) (h1 : c ≤ 255) : 0 ≤ xidx (xi2ch c) ↔ (c = 40 ∨ c = 41 ∨ c = 44 ∨ c = 46 ∨ c = 47 ∨ c = 58 ∨ c = 43 ∨ c = 45 ∨ c = 42 ∨ c = 37 ∨ c = 61 ∨ c = 60 ∨ c = 62) := by
  have h := xidx_is ⟨c.toNat, by omega⟩
  rw [decide_eq_decide] at h
  have e : ((c.toNat : Nat) : Int) = c := by omega
  simp only [e] at h
  rw [h]
  omega
theorem xand_10 : ∀ c : Fin 256, decide (xand (((c.val : Nat) : Int) - 128) 255 = 10) = decide (c.val = 138) := by decide +kernel
theorem xand_10g {c : Int} (h0 : -128 ≤ c) (h1 : c ≤ 127) : xand c 255 = 10 ↔ c = 10 := by
  have h := xand_10 ⟨(c + 128).toNat, by omega⟩
  rw [decide_eq_decide] at h
  have e : (((c + 128).toNat : Nat) : Int) - 128 = c := by omega
  simp only [e] at h
  rw [h]
  omega
theorem rl_sg {f q n s : Nat} {B : Nat → Int} {G : xG_} {L : Nat → Int} (h : rTx G q B n) (hs : s < n) (h4 : L 4 = (q : Int) + s) (hu : B s ≠ 95) :
    g219 f (B s) (xlx G L) = some (xlx G (xu (xu (xu L 2 (if tsgn (B s) (B (s + 1)) = 5 then 1 else 6)) 5 ((q : Int) + (if 256 ≤ tsgn (B s) (B (s + 1)) then s + 2 else s + 1 : Nat))) 3 (if 256 ≤ tsgn (B s) (B (s + 1)) then tsgn (B s) (B (s + 1)) + 44 else B s))) := by
  have hl := h.len
  have hB := (h.2.1 s).1 hs
  have hx := xidx_g hB.1 hB.2
  have e1 : xwr ((q : Int) + s + 1) = (q : Int) + (s + 1 : Nat) := by rw [xwr_g _ (by omega) (by omega)]; omega
  have e2 : xwr ((q : Int) + s + 2) = (q : Int) + (s + 2 : Nat) := by rw [xwr_g _ (by omega) (by omega)]; omega
  unfold g219 g219_49 g219_71 g219_93 g219_115 g219_145
  simp only [xlx_2, xlx_3, xlx_4, xlx_5, xlx_6, xlx_7, xlx_8, xlx_9, xlx_10, xlx_u2, xlx_u3, xlx_u4, xlx_u5, xlx_u6, xlx_u7, xlx_u8, xlx_u9, xlx_u10, xu_e, eq_self, reduceIte, Nat.reduceEqDiff, if_true, if_false, not_true_eq_false, not_false_eq_true, Option.bind_some, h4, e1, e2, h.see (p := s + 1) rfl, hx]
  generalize B s = c at *
  generalize B (s + 1) = d at *
  unfold tsgn
  by_cases c1 : c = 58
  · by_cases d1 : d = 45
    · simp [c1, d1]
      try exact xlx_ext (fun j => by unfold xu; grind)
    · simp [c1, d1]
      try exact xlx_ext (fun j => by unfold xu; grind)
  by_cases c2 : c = 33
  · by_cases d1 : d = 61
    · simp [c2, d1]
      try exact xlx_ext (fun j => by unfold xu; grind)
    · simp [c2, d1]
      try exact xlx_ext (fun j => by unfold xu; grind)
  by_cases c3 : c = 60
  · by_cases d1 : d = 61
    · simp [c3, d1]
      try exact xlx_ext (fun j => by unfold xu; grind)
    · simp [c3, d1]
      try exact xlx_ext (fun j => by unfold xu; grind)
  by_cases c4 : c = 62
  · by_cases d1 : d = 61
    · simp [c4, d1]
      try exact xlx_ext (fun j => by unfold xu; grind)
    · simp [c4, d1]
      try exact xlx_ext (fun j => by unfold xu; grind)
  simp only [c1, c2, c3, c4, hu, not_false_eq_true, if_true, false_and, if_false, or_false, or_false, false_or]
  by_cases c5 : c = 40 ∨ c = 41 ∨ c = 44 ∨ c = 46 ∨ c = 47 ∨ c = 43 ∨ c = 45 ∨ c = 42 ∨ c = 37 ∨ c = 61
  · rw [if_pos c5, if_pos c5, if_neg (by omega), if_neg (by omega), if_neg (by omega)]
    exact congrArg some (xlx_ext (fun j => by unfold xu; grind))
  · rw [if_neg c5, if_neg c5, if_pos rfl, if_neg (by omega), if_neg (by omega)]
    exact congrArg some (xlx_ext (fun j => by unfold xu; grind))
/-- a remark's end -/
theorem rl_rm {f q n : Nat} {B : Nat → Int} {G : xG_} {L : Nat → Int} {r : Int → Int → xG_ → Option xG_} (h : rTx G q B n) : ∀ (k p fu : Nat), n - p = k → k < fu → p ≤ n →
    ∃ e, p ≤ e ∧ e ≤ n ∧ g214_47 r f fu ((q : Int) + p) (xlx G L) = r ((q : Int) + e) (B e) (xlx G L) ∧ tsk B n true p = tsk B n false e ∧ (e < n → B e = 10) := by
  have hl := h.len
  have h1 := h.2.2.1
  have hT := h.1.1
  have hT2 := h.1.2.2
  intro k
  induction k with
  | zero =>
    intro p fu hk hfu hp
    obtain ⟨fu, rfl⟩ : ∃ t, fu = t + 1 := ⟨fu - 1, by omega⟩
    refine ⟨p, Nat.le_refl _, hp, ?_, ?_, fun c => by omega⟩
    · show g214_47b r (g214_47 r f fu) f _ _ = _
      unfold g214_47b g214_75
      rw [if_pos (show xlx G L 0 1 ≤ _ by show G 0 1 ≤ _; omega), h.see rfl]
      rfl
    · have hb := h.2.1.neg (p := p)
      rw [tsk_eq h.2.1 _ hp, tsk_eq h.2.1 _ hp, if_pos (hb.mpr (by omega)), if_pos (hb.mpr (by omega))]
  | succ k ih =>
    intro p fu hk hfu hp
    obtain ⟨fu, rfl⟩ : ∃ t, fu = t + 1 := ⟨fu - 1, by omega⟩
    have hb := (h.2.1 p).1 (by omega)
    have hy := h.2.2.2.2 p (by omega)
    have hg : B p = xand (G (G 0 0).toNat (q + p)) 255 := by
      rw [← h.2.2.2.1 p]
      unfold gB
      rw [if_neg (by omega), show ((q : Int) + p).toNat = q + p by omega]
    have h10 := xand_10g hy.1 hy.2
    rw [← hg] at h10
    have ebuf : xlx G L (G 0 0).toNat ((q : Int) + p).toNat = G (G 0 0).toNat (q + p) := by
      rw [show ((q : Int) + p).toNat = q + p by omega]
      exact if_neg (by omega)
    have e0 : xlx G L 0 0 = G 0 0 := rfl
    have e1 : xlx G L 0 1 = G 0 1 := rfl
    have es : g214_47 r f (fu + 1) ((q : Int) + p) (xlx G L) = if B p = 10 then r ((q : Int) + p) (B p) (xlx G L) else g214_47 r f fu ((q : Int) + (p + 1 : Nat)) (xlx G L) := by
      show g214_47b r (g214_47 r f fu) f _ _ = _
      unfold g214_47b g214_75
      rw [e0, e1, if_neg (show ¬ G 0 1 ≤ (q : Int) + p by omega), if_neg (show ¬ G 0 0 < 0 by omega), if_pos (show 0 ≤ (q : Int) + p ∧ _ by omega), ebuf, h.see rfl, xwr_g _ (by omega) (by omega), show (q : Int) + p + 1 = (q : Int) + (p + 1 : Nat) by omega]
      simp only [Option.bind_some, h10]
    rw [es, tsk_eq h.2.1 _ hp, if_neg (show ¬ B p < 0 by omega)]
    by_cases c : B p = 10
    · rw [if_pos c, if_neg (fun q => q.1 c)]
      exact ⟨p, Nat.le_refl _, hp, rfl, by rw [tsk_eq h.2.1 false hp]; simp [c], fun _ => c⟩
    · rw [if_neg c, if_pos ⟨c, .inl rfl⟩]
      obtain ⟨e, a1, a2, a3⟩ := ih (p + 1) fu (by omega) (by omega) (by omega)
      exact ⟨e, by omega, a2, a3⟩
theorem rl_sk {f q n : Nat} {B : Nat → Int} {G : xG_} {L : Nat → Int} (h : rTx G q B n) (hf : n < f) : ∀ (k p fu : Nat), n - p ≤ k → k < fu → p ≤ n →
    ∃ fu', g214_11 f fu ((q : Int) + p) (B p) (xlx G L) = g214_11 f (fu' + 1) ((q : Int) + (tsk B n false p : Nat)) (B (tsk B n false p)) (xlx G L) := by
  have hl := h.len
  intro k
  induction k with
  | zero =>
    intro p fu hk hfu hp
    obtain ⟨fu, rfl⟩ : ∃ t, fu = t + 1 := ⟨fu - 1, by omega⟩
    rw [tsk_eq h.2.1 _ hp, if_pos (h.2.1.neg.mpr (by omega))]
    exact ⟨fu, rfl⟩
  | succ k ih =>
    intro p fu hk hfu hp
    obtain ⟨fu, rfl⟩ : ∃ t, fu = t + 1 := ⟨fu - 1, by omega⟩
    by_cases cn : n ≤ p
    · rw [tsk_eq h.2.1 _ hp, if_pos (h.2.1.neg.mpr (by omega))]
      exact ⟨fu, rfl⟩
    replace cn : p < n := by omega
    have hb := (h.2.1 p).1 cn
    by_cases c35 : B p = 35
    · obtain ⟨e, a1, a2, a3, a4, a5⟩ := rl_rm (f := f) (L := L) (r := g214_11 f fu) h (n - p) p f rfl (by omega) hp
      have es : g214_11 f (fu + 1) ((q : Int) + p) (B p) (xlx G L) = g214_47 (g214_11 f fu) f f ((q : Int) + p) (xlx G L) := by
        show g214_11b (g214_11 f fu) f _ _ _ = _
        unfold g214_11b g214_41
        rw [c35]
        rfl
      have ep : p < e := by
        apply Nat.lt_of_le_of_ne a1
        intro he
        have := a5 (by omega)
        rw [← he, c35] at this
        exact absurd this (by decide)
      have et : tsk B n false p = tsk B n false e := by
        rw [← a4, tsk_eq h.2.1 false hp, tsk_eq h.2.1 true hp, if_neg (show ¬ B p < 0 by omega), if_neg (show ¬ B p < 0 by omega), if_pos ⟨by omega, .inr c35⟩, if_pos ⟨by omega, .inl rfl⟩]
      rw [es, a3, et]
      exact ih e fu (by omega) (by omega) a2
    · by_cases cb : tBl (B p)
      · have es : g214_11 f (fu + 1) ((q : Int) + p) (B p) (xlx G L) = g214_11 f fu ((q : Int) + (p + 1 : Nat)) (B (p + 1)) (xlx G L) := by
          show g214_11b (g214_11 f fu) f _ _ _ = _
          have eq : g214_11b (g214_11 f fu) f ((q : Int) + p) (B p) (xlx G L) = g214_41 (g214_11 f fu) f ((q : Int) + p) (B p) (xlx G L) := by
            unfold g214_11b
            unfold tBl at cb
            grind
          rw [eq]
          unfold g214_41 g214_75
          rw [if_pos c35, xwr_g _ (by omega) (by omega), show (q : Int) + p + 1 = (q : Int) + (p + 1 : Nat) by omega, h.see rfl]
          rfl
        have et : tsk B n false p = tsk B n false (p + 1) := by
          rw [tsk_eq h.2.1 false hp, if_neg (show ¬ B p < 0 by omega), if_neg (by rintro ⟨_, q | q⟩; exact absurd q (by decide); exact c35 q), if_pos cb]
        rw [es, et]
        exact ih (p + 1) fu (by omega) (by omega) (by omega)
      · rw [tsk_eq h.2.1 _ hp, if_neg (show ¬ B p < 0 by omega), if_neg (by rintro ⟨_, q | q⟩; exact absurd q (by decide); exact c35 q), if_neg cb]
        exact ⟨fu, rfl⟩
