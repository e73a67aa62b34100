/-! WHOLE: the reference as it is made -/
def g00 : xG_ := fun o i => if xh_t (xl_t o) i = 2 then (if t03.2.1 (279 + o) i = 0 then -1 else t03.2.1 (279 + o) i - 279) else t03.2.1 (279 + o) i
theorem g00_t : ∀ o, o < 276 → t03.1 (279 + o) = xl_t o := al_r (P := fun o => t03.1 (279 + o) = xl_t o) (by decide +kernel)
theorem g00_r : ∀ o, o < 276 → ((xl_t o).1 = 2 ∧ (xl_t o).2.1 < 5) ∨ ((List.range (xl_t o).2.2).all fun i => decide (xh_t (xl_t o) i = 2 → t03.2.1 (279 + o) i = 0 ∨ 279 ≤ t03.2.1 (279 + o) i ∧ t03.2.1 (279 + o) i < 555)) = true := al_r (P := fun o => ((xl_t o).1 = 2 ∧ (xl_t o).2.1 < 5) ∨ ((List.range (xl_t o).2.2).all fun i => decide (xh_t (xl_t o) i = 2 → t03.2.1 (279 + o) i = 0 ∨ 279 ≤ t03.2.1 (279 + o) i ∧ t03.2.1 (279 + o) i < 555)) = true) (by decide +kernel)
theorem g00_p : ∀ q, q ∈ xl_P → g00 q.1 q.2.1 = (q.2.2 : Int) := by decide +kernel
theorem g00_z : (g00 0 0 = -1 ∨ g00 0 0 = 239 ∨ g00 0 0 = 240) ∧ (g00 0 22 = -1 ∨ g00 0 22 = 2 ∨ g00 0 22 = 37 ∨ g00 0 22 = 72) := by decide +kernel
theorem xh_tk {n kk : Nat} (h : kk < 5) (i : Nat) : xh_t (2, kk, n) i ≠ 2 := by
  rcases (by omega : kk = 0 ∨ kk = 1 ∨ kk = 2 ∨ kk = 3 ∨ kk = 4) with rfl | rfl | rfl | rfl | rfl
  · exact (by decide : (3 : Nat) ≠ 2)
  · exact (by decide : (4 : Nat) ≠ 2)
  · exact (by decide : (5 : Nat) ≠ 2)
  · exact (by decide : (0 : Nat) ≠ 2)
  · exact (by decide : (1 : Nat) ≠ 2)
theorem rx_0 {M : xj_M} (h : xCX 0 ([], 0) M t03) : xRX 279 M M g00 := by
  have hh : xHl 0 = 0 := rfl
  refine ⟨by decide, fun o ho => ?_, fun _ _ => rfl, rfl, rfl, g00_p, g00_z.1, g00_z.2⟩
  obtain ⟨a1, a2⟩ := h.1 (279 + o) (by rw [hh]; omega)
  have et := g00_t o ho
  rw [et] at a1 a2
  refine ⟨a1, fun i hi => ?_⟩
  obtain ⟨b1, b2⟩ := a2 i hi
  by_cases c : xh_t (xl_t o) i = 2
  · have hv : t03.2.1 (279 + o) i = 0 ∨ 279 ≤ t03.2.1 (279 + o) i ∧ t03.2.1 (279 + o) i < 555 := by
      rcases g00_r o ho with ⟨q1, q2⟩ | q
      · exfalso
        have e : xl_t o = (2, (xl_t o).2.1, (xl_t o).2.2) := by rw [← q1]
        rw [e] at c
        exact xh_tk q2 i c
      · exact of_decide_eq_true (List.all_eq_true.mp q i (List.mem_range.mpr hi)) c
    have eg : g00 o i = if t03.2.1 (279 + o) i = 0 then -1 else t03.2.1 (279 + o) i - 279 := if_pos c
    rw [c] at b1 ⊢
    rw [b1, eg]
    rcases hv with hv | hv
    · rw [if_pos hv, hv]
      exact ⟨rfl, by show (-1 : Int) ≤ -1 ∧ (-1 : Int) < 276; decide⟩
    · rw [if_neg (by omega)]
      refine ⟨?_, by show (-1 : Int) ≤ t03.2.1 (279 + o) i - 279 ∧ t03.2.1 (279 + o) i - 279 < 276; omega⟩
      show xR_ (t03.2.1 (279 + o) i).toNat = if t03.2.1 (279 + o) i - 279 < 0 then .null else .ref (279 + (t03.2.1 (279 + o) i - 279).toNat)
      rw [if_neg (by omega), show 279 + (t03.2.1 (279 + o) i - 279).toNat = (t03.2.1 (279 + o) i).toNat by omega]
      unfold xR_
      rw [if_neg (by omega)]
  · have eg : g00 o i = t03.2.1 (279 + o) i := if_neg c
    rw [eg, b1]
    generalize t03.2.1 (279 + o) i = v at *
    generalize xh_t (xl_t o) i = t at *
    unfold xGv xCv xGin
    unfold xCin at b2
    refine ⟨?_, ?_⟩
    · split
      · rfl
      · exact absurd rfl c
      · rename_i y1 y2
        split
        · exact absurd rfl y1
        · exact absurd rfl y2
        · rfl
    · split
      · exact b2
      · exact absurd rfl c
      · exact b2
      · exact b2
      · exact b2
      · rename_i y1 y2 y3 y4 y5
        split at b2
        · exact absurd rfl y1
        · exact absurd rfl y2
        · exact absurd rfl y3
        · exact absurd rfl y4
        · exact absurd rfl y5
        · exact b2
theorem cx_0 {M : xj_M} (h : xCX 0 ([], 0) M t03) : xCX 279 M M (S00, t03.2.1, (556, 936535)) := by
  have hh : xHl 279 = 276 := rfl
  have h0 : xHl 0 = 0 := rfl
  have e1 : t03.2.2.1 = 556 := by rw [t03_n]
  have e2 : t03.2.2.2 = 936535 := by rw [t03_n]
  refine ⟨fun a ha => ?_, fun a ha => ?_, ?_, ?_, by rw [hh]; decide⟩
  · have es : S00 a = t03.1 a := if_neg (by rw [hh] at ha; omega)
    show xh_sh M a = S00 a ∧ ∀ i, i < (S00 a).2.2 → xh_v M a i = xCv (xh_t (S00 a) i) (t03.2.1 a i) ∧ xCin (xh_t (S00 a) i) (t03.2.1 a i)
    rw [es]
    exact h.1 a (by rw [h0]; omega)
  · rw [hh] at ha
    exact ⟨if_pos (by omega), rfl⟩
  · exact h.2.2.1.trans e1
  · exact h.2.2.2.1.trans e2
theorem ini_1 : rC g00 ∧ (g00 0 62 = 0 ∧ g00 0 63 = 0 ∧ g00 0 64 = 0 ∧ g00 0 65 = -1) ∧ (g00 0 71 = 1 ∧ g00 0 72 = 0 ∧ g00 0 73 = 0 ∧ g00 0 75 = -1) ∧ (g00 0 82 = -1 ∧ g00 0 83 = 0 ∧ g00 0 105 = 0 ∧ g00 0 106 = 0) ∧ (g00 241 0 = 0 ∧ g00 242 0 = 0) := by
  unfold rC
  decide +kernel
theorem ini_2 : ∀ k, k < 4 → ((List.range 37).all fun j => decide ((1 ≤ j ∧ j ≤ 4 ∨ j = 10 ∨ j = 16 ∨ j = 17 ∨ j = 27 ∨ j = 33 ∨ j = 36) → g00 (123 + 29 * k) j = 0)) = true ∧ (g00 (123 + 29 * k) 34 = -1 ∧ g00 (123 + 29 * k) 35 = -1) ∧ g00 (123 + 29 * k + 1) 3 = 0 := al_r (P := fun k => ((List.range 37).all fun j => decide ((1 ≤ j ∧ j ≤ 4 ∨ j = 10 ∨ j = 16 ∨ j = 17 ∨ j = 27 ∨ j = 33 ∨ j = 36) → g00 (123 + 29 * k) j = 0)) = true ∧ (g00 (123 + 29 * k) 34 = -1 ∧ g00 (123 + 29 * k) 35 = -1) ∧ g00 (123 + 29 * k + 1) 3 = 0) (by decide +kernel)
theorem ini_3 : ∀ k, k < 4 → ((List.range 6).all fun a => (List.range 72).all fun j => decide (g00 (123 + 29 * k + (15 + a)) j = 0)) = true := al_r (P := fun k => ((List.range 6).all fun a => (List.range 72).all fun j => decide (g00 (123 + 29 * k + (15 + a)) j = 0)) = true) (by decide +kernel)
theorem ini_4 : ∀ k, k < 4 → ((List.range 72).all fun j => decide (g00 (123 + 29 * k + 26) j = -1)) = true := al_r (P := fun k => ((List.range 72).all fun j => decide (g00 (123 + 29 * k + 26) j = -1)) = true) (by decide +kernel)
theorem ini_0 : xIni g00 := by
  obtain ⟨a1, a2, a3, a4, a5⟩ := ini_1
  refine ⟨a1, a2, a3, a4, a5, fun k hk => ?_⟩
  obtain ⟨b1, b2, b3⟩ := ini_2 k hk
  refine ⟨fun j hj => of_decide_eq_true (List.all_eq_true.mp b1 j (List.mem_range.mpr (by omega))) hj, b2, b3, fun a j y1 y2 y3 => ?_, fun j hj => of_decide_eq_true (List.all_eq_true.mp (ini_4 k hk) j (List.mem_range.mpr hj))⟩
  obtain ⟨b, rfl⟩ : ∃ b, a = 15 + b := ⟨a - 15, by omega⟩
  exact of_decide_eq_true (List.all_eq_true.mp (List.all_eq_true.mp (ini_3 k hk) b (List.mem_range.mpr (by omega))) j (List.mem_range.mpr y3))
