/-! THE CLASS: the SHEET: readsAny(), turns of workCells() -/
theorem bv_nz (x : BitVec 64) : x ≠ 0#64 ↔ ∃ i, i < 64 ∧ x.getLsbD i = true := by
  constructor
  · intro h
    refine Classical.byContradiction (fun q => h ?_)
    apply BitVec.eq_of_getLsbD_eq
    intro i hi
    rw [BitVec.getLsbD_zero]
    cases hb : x.getLsbD i with
    | false => rfl
    | true => exact (q ⟨i, hi, hb⟩).elim
  · rintro ⟨i, _, h2⟩ e
    rw [e, BitVec.getLsbD_zero] at h2
    cases h2
theorem xand8_nz (u v : Int) : ¬ xand8 u v = 0 ↔ ∃ i, i < 64 ∧ (BitVec.ofInt 64 u).getLsbD i = true ∧ (BitVec.ofInt 64 v).getLsbD i = true := by
  have e1 : xand8 u v = (BitVec.ofInt 64 u &&& BitVec.ofInt 64 v).toInt := rfl
  have e2 : xand8 u v = 0 ↔ BitVec.ofInt 64 u &&& BitVec.ofInt 64 v = 0#64 := by
    rw [e1]
    constructor
    · intro h
      apply BitVec.eq_of_toInt_eq
      rw [h]
      rfl
    · intro h
      rw [h]
      rfl
  rw [e2]
  refine (bv_nz _).trans ?_
  constructor
  · rintro ⟨i, h1, h2⟩
    rw [BitVec.getLsbD_and, Bool.and_eq_true] at h2
    exact ⟨i, h1, h2⟩
  · rintro ⟨i, h1, h2, h3⟩
    exact ⟨i, h1, by rw [BitVec.getLsbD_and, h2, h3]; rfl⟩
theorem xxor8_t (u : Int) {i : Nat} (hi : i < 64) : (BitVec.ofInt 64 (xxor8 u (-1))).getLsbD i = !(BitVec.ofInt 64 u).getLsbD i := by
  have e1 : BitVec.ofInt 64 (xxor8 u (-1)) = BitVec.ofInt 64 u ^^^ BitVec.ofInt 64 (-1) := by
    unfold xxor8
    rw [ofInt_toInt8]
    rfl
  have e2 : BitVec.ofInt 64 (-1) = BitVec.allOnes 64 := by decide
  rw [e1, e2, BitVec.getLsbD_xor, BitVec.getLsbD_allOnes]
  simp [hi]
/-- one mask and another meet -/
theorem rM9_and {lo hi lo' hi' : Int} {a b : Nat} (h : rM9 lo hi a) (h' : rM8 lo' hi' b) : (¬ xand8 lo lo' = 0 ∨ ¬ xand8 hi hi' = 0) ↔ ∃ x, x < 72 ∧ a.testBit x = true ∧ b.testBit x = true := by
  rw [xand8_nz, xand8_nz]
  constructor
  · rintro (⟨i, h1, h2, h3⟩ | ⟨i, h1, h2, h3⟩)
    · have q1 := h.1.2 i (by omega)
      have q2 := h'.2 i (by omega)
      unfold hb8 at q1 q2
      rw [if_pos h1] at q1 q2
      exact ⟨i, by omega, by rw [← q1]; exact h2, by rw [← q2]; exact h3⟩
    · have hi8 : i < 8 := by
        refine Classical.byContradiction (fun q => ?_)
        rw [h.2 i (by omega) h1] at h2
        cases h2
      have q1 := h.1.2 (i + 64) (by omega)
      have q2 := h'.2 (i + 64) (by omega)
      unfold hb8 at q1 q2
      rw [if_neg (by omega), show i + 64 - 64 = i by omega] at q1 q2
      exact ⟨i + 64, by omega, by rw [← q1]; exact h2, by rw [← q2]; exact h3⟩
  · rintro ⟨x, h1, h2, h3⟩
    have q1 := h.1.2 x h1
    have q2 := h'.2 x h1
    unfold hb8 at q1 q2
    by_cases c : x < 64
    · rw [if_pos c] at q1 q2
      exact .inl ⟨x, c, by rw [q1]; exact h2, by rw [q2]; exact h3⟩
    · rw [if_neg c] at q1 q2
      exact .inr ⟨x - 64, by omega, by rw [q1]; exact h2, by rw [q2]; exact h3⟩
/-- one mask is not all within another -/
theorem rM9_out {lo hi lo' hi' : Int} {a b : Nat} (h : rM9 lo hi a) (h' : rM8 lo' hi' b) : (¬ xand8 lo (xxor8 lo' (-1)) = 0 ∨ ¬ xand8 hi (xxor8 hi' (-1)) = 0) ↔ ∃ x, x < 72 ∧ a.testBit x = true ∧ ¬ b.testBit x = true := by
  rw [xand8_nz, xand8_nz]
  constructor
  · rintro (⟨i, h1, h2, h3⟩ | ⟨i, h1, h2, h3⟩)
    · have q1 := h.1.2 i (by omega)
      have q2 := h'.2 i (by omega)
      unfold hb8 at q1 q2
      rw [if_pos h1] at q1 q2
      rw [xxor8_t _ h1, q2] at h3
      exact ⟨i, by omega, by rw [← q1]; exact h2, by intro z; rw [z] at h3; cases h3⟩
    · have hi8 : i < 8 := by
        refine Classical.byContradiction (fun q => ?_)
        rw [h.2 i (by omega) h1] at h2
        cases h2
      have q1 := h.1.2 (i + 64) (by omega)
      have q2 := h'.2 (i + 64) (by omega)
      unfold hb8 at q1 q2
      rw [if_neg (by omega), show i + 64 - 64 = i by omega] at q1 q2
      rw [xxor8_t _ h1, q2] at h3
      exact ⟨i + 64, by omega, by rw [← q1]; exact h2, by intro z; rw [z] at h3; cases h3⟩
  · rintro ⟨x, h1, h2, h3⟩
    have q1 := h.1.2 x h1
    have q2 := h'.2 x h1
    have h3' : b.testBit x = false := by
      cases hb : b.testBit x with
      | false => rfl
      | true => exact (h3 hb).elim
    unfold hb8 at q1 q2
    by_cases c : x < 64
    · rw [if_pos c] at q1 q2
      exact .inl ⟨x, c, by rw [q1]; exact h2, by rw [xxor8_t _ c, q2, h3']; rfl⟩
    · rw [if_neg c] at q1 q2
      exact .inr ⟨x - 64, by omega, by rw [q1]; exact h2, by rw [xxor8_t _ (by omega), q2, h3']; rfl⟩
section
variable {f o nx mo cc q rp : Nat} {S : Nat → Nat × Nat × Nat} {G G' : xG_} {m : Nat × Nat} {s : pPg} {xr cr : Nat → Nat} {M : Nat → List pRw} {C : fCs} {D : Nat → Prop}
/-- readsAny() -/
theorem k_3 {l h : Int} (hs : S o = (1, 0, 5)) : c3 f o l h (S, G, m) = some (if ¬ xand8 (G o 2) l = 0 ∨ ¬ xand8 (G o 3) h = 0 then 1 else 0, (S, G, m)) := by
  have g2 : cq_gi 0 2 5 o (S, G, m) = some (G o 2) := if_pos hs
  have g3 : cq_gi 0 3 5 o (S, G, m) = some (G o 3) := if_pos hs
  unfold c3 c3_22 c3_27
  rw [g2, Option.bind_some]
  by_cases c1 : xand8 (G o 2) l = 0
  · rw [if_neg (fun z => z c1), g3, Option.bind_some]
    by_cases c2 : xand8 (G o 3) h = 0
    · rw [if_pos c2, if_neg (show ¬ (¬ xand8 (G o 2) l = 0 ∨ ¬ xand8 (G o 3) h = 0) from fun z => by rcases z with z | z; exact z c1; exact z c2)]
      rfl
    · rw [if_neg c2, if_pos (show ¬ xand8 (G o 2) l = 0 ∨ ¬ xand8 (G o 3) h = 0 from .inr c2)]
      rfl
  · rw [if_pos c1, if_pos (show ¬ xand8 (G o 2) l = 0 ∨ ¬ xand8 (G o 3) h = 0 from .inl c1)]
    rfl
/-- a CELL more stands -/
theorem cSe.put {c : Nat} {v : Int} (h : cSe S G nx mo cc q rp s xr cr M C D) (hc : c < 72) (hv : v = eC (C c)) (h1 : nx ≤ cc) (h2 : mo < cc) (h3 : rp < cc) (h4 : 278 < cc) : cSe S (xup2 G cc c v) nx mo cc q rp s xr cr M C (fun x => D x ∨ x = c) := by
  obtain ⟨hs, hp, ⟨a1, a2⟩, ⟨a3, a4⟩, a5, a6, a7, a8, a9, a10, ⟨g1, g2, g3, g4⟩, a11⟩ := h
  have z : ∀ a j, a ≠ cc → xup2 G cc c v a j = G a j := fun a j q => xup2_n (by omega)
  have m5 := a5.2.2.2.2
  refine ⟨hs, ?_, ⟨by rw [z _ _ (by omega)]; exact a1, by rw [z _ _ (by omega)]; exact a2⟩, ⟨a3, fun x x1 x2 => ?_⟩, a5.ge2 (Nat.le_refl _) (fun _ _ => rfl) (fun a j hz => z a j (by
    rcases hz with ⟨z, _⟩ | z | ⟨p, hp, z1, z2⟩
    · omega
    · omega
    · have := (m5 p hp).2.1; omega)), a6.ge (Nat.le_refl _) (fun _ _ => rfl) (fun a j z1 z2 => z a j (by omega)), a7, a8, a9, a10, ⟨g1, g2, g3, g4⟩, a11⟩
  · refine hp.ge (fun a j hz => z a j ?_)
    rcases hz with z | z | z | z | z | z | z | ⟨z, z1, z2, k, z3⟩ | z | z | z | ⟨k, z1, z2, z3⟩ <;> omega
  · by_cases cx : x = c
    · rw [cx, xup2_s, hv]
    · rw [xup2_n (by omega)]
      exact a4 x x1 (x2.resolve_right cx)
end
