/-! WHOLE: constants of String -/
theorem sB_len : ∀ i : Fin 10, (xj_sB i.val).length < 2147483648 := by decide +kernel
theorem l389 {f x : Nat} {M : xj_M} (h : 1 ≤ x ∧ x ≤ 10) : f389 f x M = some (0, M) := by
  unfold f389 f389_14 xq_st
  rw [if_neg (by decide), if_pos h, Option.bind_some, if_pos (by decide +kernel)]
theorem l390 {f x : Nat} {M : xj_M} (h : 1 ≤ x ∧ x ≤ 10) : f390 f x M = some (1, M) := by
  unfold f390 f390_18 xq_st
  rw [if_neg (by decide), if_pos h, Option.bind_some, if_neg (by decide), if_pos (.inr rfl)]
theorem lbl {x : Nat} {M : xj_M} (h : 1 ≤ x ∧ x ≤ 10) : xq_bl (x + 10) M = some ((xj_sB (x - 1)).length : Int) := by
  unfold xq_bl
  rw [if_pos (by omega), show x + 10 - 11 = x - 1 by omega, if_pos (sB_len ⟨x - 1, by omega⟩)]
theorem l385 {f x : Nat} {M : xj_M} (h : 1 ≤ x ∧ x ≤ 10) : f385 f x M = some (((xj_sB (x - 1)).length : Int), M) := by
  have hl := sB_len ⟨x - 1, by omega⟩
  have e : xshr (((xj_sB (x - 1)).length : Nat) : Int) ((0 : Nat) : Int) = (((xj_sB (x - 1)).length >>> 0 : Nat) : Int) := xshr_nat hl (by decide)
  unfold f385 xq_sv xq_st
  rw [if_pos h, Option.bind_some, lbl h, Option.bind_some, if_pos h, Option.bind_some, l389 h, Option.bind_some]
  show some (xshr (((xj_sB (x - 1)).length : Nat) : Int) ((0 : Nat) : Int), M) = _
  rw [e]
  rfl
theorem sB_ch : ∀ i : Fin 10, ((List.range (xj_sB i.val).length).all fun z => decide (xnar .char (xi2ch (xand ((xj_sB i.val).getD z 0).toInt 255)) = xi2ch (xand ((xj_sB i.val).getD z 0).toInt 255) ∧ xi2ch (xand ((xj_sB i.val).getD z 0).toInt 255) = xand ((xj_sB i.val).getD z 0).toInt 255 ∧ xin (xand ((xj_sB i.val).getD z 0).toInt 255))) = true := by decide +kernel
theorem l386 {f x : Nat} {z : Int} {M : xj_M} (h : 1 ≤ x ∧ x ≤ 10) (hz : 0 ≤ z ∧ z < (xj_sB (x - 1)).length) : f386 f x z M = some (xand ((xj_sB (x - 1)).getD z.toNat 0).toInt 255, M) ∧ xin (xand ((xj_sB (x - 1)).getD z.toNat 0).toInt 255) := by
  have q := of_decide_eq_true (List.all_eq_true.mp (sB_ch ⟨x - 1, by omega⟩) z.toNat (List.mem_range.mpr (by show z.toNat < (xj_sB (x - 1)).length; omega)))
  obtain ⟨q1, q2, q3⟩ := q
  have hl := sB_len ⟨x - 1, by omega⟩
  refine ⟨?_, q3⟩
  have e3 : f393 f (x + 10) z M = some (xand ((xj_sB (x - 1)).getD z.toNat 0).toInt 255, M) := by
    unfold f393 f391 xq_bb
    have ck : xq_ck z ((xj_sB (x - 1)).length : Int) = some () := if_pos (by omega)
    rw [lbl h, Option.bind_some, ck, Option.bind_some, Option.bind_some, if_pos (by omega), show x + 10 - 11 = x - 1 by omega, if_pos hz, Option.bind_some, if_pos q1, q2]
  unfold f386 xq_st xq_sv
  rw [if_pos h, Option.bind_some, l390 h, Option.bind_some, if_neg (show ¬ (1 : Int) = 0 by decide), if_pos h, Option.bind_some, e3, Option.bind_some]
  rw [q2] at q1
  rw [if_pos q1]
def fxB (b : Int) : Nat → Nat → Int
  | _, 0 => -1
  | i, d + 1 => if ((xj_sB 8).getD i 0).toInt = b then (i : Int) else fxB b (i + 1) d
theorem sB_8 : (xj_sB 8).length = 13 := by decide +kernel
theorem l396 {f : Nat} {b : Int} {M : xj_M} : ∀ (d i fu : Nat), i + d = 13 → d < fu → f396_7 f fu 19 13 b (i : Int) M = some (fxB b i d, M) := by
  intro d
  induction d with
  | zero =>
    intro i fu e1 e2
    obtain ⟨fu, rfl⟩ : ∃ t, fu = t + 1 := ⟨fu - 1, by omega⟩
    show f396_7b (f396_7 f fu) f _ _ _ _ _ = _
    unfold f396_7b
    rw [if_pos (by omega)]
    rfl
  | succ d ih =>
    intro i fu e1 e2
    obtain ⟨fu, rfl⟩ : ∃ t, fu = t + 1 := ⟨fu - 1, by omega⟩
    have eb : xq_bb 19 (i : Int) M = some ((xj_sB 8).getD i 0).toInt := by
      unfold xq_bb
      rw [if_pos (by decide), if_pos (by show 0 ≤ (i : Int) ∧ (i : Int) < (xj_sB 8).length; rw [sB_8]; omega)]
      rfl
    have w : xwr ((i : Int) + 1) = ((i + 1 : Nat) : Int) := by rw [xwr_g _ (by omega) (by omega)]; omega
    show f396_7b (f396_7 f fu) f _ _ _ _ _ = some ((if ((xj_sB 8).getD i 0).toInt = b then (i : Int) else fxB b (i + 1) d), M)
    unfold f396_7b
    rw [if_neg (by omega), eb, Option.bind_some]
    by_cases c : ((xj_sB 8).getD i 0).toInt = b
    · rw [if_neg (fun z => z c), if_pos c]
    · rw [if_pos c, if_neg c, w]
      exact ih (i + 1) fu (by omega) (by omega)
theorem fx_in : ∀ c : Fin 256, fxB (xi2b ((c.val : Nat) : Int)) 0 13 = xidx ((c.val : Nat) : Int) := by decide +kernel
theorem xidx_in (c : Int) : xin (xidx c) ∧ (¬ (0 ≤ c ∧ c ≤ 255) → xidx c = -1) := by
  unfold xidx
  cases hq : [40, 41, 44, 46, 47, 58, 43, 45, 42, 37, 61, 60, 62].findIdx? (fun q : Int => decide (q = c)) with
  | none => exact ⟨by decide, fun _ => rfl⟩
  | some i =>
    obtain ⟨h1, h2, _⟩ := List.findIdx?_eq_some_iff_getElem.mp hq
    have h1' : i < 13 := h1
    refine ⟨⟨by show -2147483648 ≤ (i : Int); omega, by show (i : Int) < 2147483648; omega⟩, fun hn => ?_⟩
    have h3 := of_decide_eq_true h2
    have hm : c ∈ ([40, 41, 44, 46, 47, 58, 43, 45, 42, 37, 61, 60, 62] : List Int) := by rw [← h3]; exact List.getElem_mem _
    simp only [List.mem_cons, List.not_mem_nil, or_false] at hm
    omega
theorem l387 {f : Nat} {c : Int} {M : xj_M} (hf : 20 < f) : f387 f 9 c M = some (xidx c, M) := by
  have h9 : (1 : Nat) ≤ 9 ∧ (9 : Nat) ≤ 10 := by decide
  have e5 : f385 f 9 M = some (13, M) := by
    rw [l385 h9]
    show some (((xj_sB 8).length : Int), M) = _
    rw [sB_8]
    rfl
  have e9 : f395 f 19 c 0 13 M = some (xidx c, M) := by
    unfold f395 f394 f394_15 f394_16
    by_cases c1 : c < 0
    · rw [if_pos c1, if_pos (.inl rfl), Option.bind_some, if_neg (fun z => z rfl), (xidx_in c).2 (by omega)]
    · by_cases c2 : 255 < c
      · rw [if_neg c1, if_pos c2, if_pos (.inl rfl), Option.bind_some, if_neg (fun z => z rfl), (xidx_in c).2 (by omega)]
      · obtain ⟨k, rfl⟩ : ∃ k : Nat, c = (k : Int) := ⟨c.toNat, by omega⟩
        have eb : xq_bl 19 M = some 13 := by
          rw [show (19 : Nat) = 9 + 10 from rfl, lbl h9]
          show some (((xj_sB 8).length : Nat) : Int) = _
          rw [sB_8]
          rfl
        have l := l396 (f := f) (b := xi2b (k : Int)) (M := M) 13 0 f (by omega) (by omega)
        have l' : f396 f 19 (k : Int) 0 13 M = some (xidx (k : Int), M) := by
          unfold f396
          rw [← fx_in ⟨k, by omega⟩]
          exact l
        have m0 : xmax 0 0 = 0 := by decide +kernel
        have m1 : xmin 13 13 = 13 := by decide +kernel
        rw [if_neg c1, if_neg c2, if_pos (.inr rfl), Option.bind_some, if_pos (show ¬ (1 : Int) = 0 by decide), eb, Option.bind_some, m0, m1, if_pos (by decide), l', Option.bind_some]
  unfold f387 f388 xq_st xq_sv
  rw [if_pos h9, Option.bind_some, Option.bind_some, l390 h9, Option.bind_some, if_neg (show ¬ (1 : Int) = 0 by decide), if_pos h9, Option.bind_some, Option.bind_some, e5, Option.bind_some]
  show ((f395 f 19 c 0 13 M).bind _).bind _ = _
  rw [e9, Option.bind_some, Option.bind_some]
theorem hI00 {f : Nat} (hf : 20 < f) : xHI f := fun c M _ => ⟨l387 hf, (xidx_in c).1⟩
theorem hS00 {f : Nat} (hf : 20 < f) : xHS f := by
  refine ⟨fun {x v} M h => ?_, fun {x z v} _ M h => ?_, fun {x c v} _ M h => ?_⟩
  · unfold xcsl at h
    by_cases c : 1 ≤ x ∧ x ≤ 10
    · rw [if_pos c] at h
      cases h
      have hl := sB_len ⟨x - 1, by omega⟩
      exact ⟨l385 c, by show -2147483648 ≤ ((xj_sB (x - 1)).length : Int); omega, by show ((xj_sB (x - 1)).length : Int) < 2147483648; have : (xj_sB (x - 1)).length < 2147483648 := hl; omega⟩
    · rw [if_neg c] at h; cases h
  · unfold xcsa at h
    by_cases c : 1 ≤ x ∧ x ≤ 10 ∧ 0 ≤ z ∧ z < (xj_sB (x - 1)).length
    · rw [if_pos c] at h
      cases h
      exact l386 ⟨c.1, c.2.1⟩ c.2.2
    · rw [if_neg c] at h; cases h
  · unfold xcsx at h
    by_cases c : x = 9
    · rw [if_pos c] at h
      cases h
      rw [c]
      exact ⟨l387 hf, (xidx_in _).1⟩
    · rw [if_neg c] at h; cases h
