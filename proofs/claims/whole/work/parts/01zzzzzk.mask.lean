/-! Masks of CELLS: two longs -/
def hb8 (lo hi : Int) (x : Nat) : Bool := if x < 64 then (BitVec.ofInt 64 lo).getLsbD x else (BitVec.ofInt 64 hi).getLsbD (x - 64)
theorem ofInt_toInt8 (x : Int64) : BitVec.ofInt 64 x.toInt = x.toBitVec := by
  show BitVec.ofInt 64 x.toBitVec.toInt = _
  exact BitVec.ofInt_toInt
theorem xor8_bv (a b : Int) : BitVec.ofInt 64 (xor8 a b) = BitVec.ofInt 64 a ||| BitVec.ofInt 64 b := by
  unfold xor8
  rw [ofInt_toInt8]
  rfl
theorem xshl8_bv : ∀ m : Fin 64, BitVec.ofInt 64 (xshl8 1 ((m.val : Nat) : Int)) = BitVec.twoPow 64 m.val := by decide +kernel
theorem xshr8_t : ∀ m : Fin 64, ((((Int32.ofInt ((m.val : Nat) : Int)).toInt64 &&& 63).toBitVec).smod 64#64).toNat = m.val := by decide +kernel
theorem xshr8_bv {a : Int} {m : Nat} (hm : m < 64) : BitVec.ofInt 64 (xshr8 a (m : Int)) = (BitVec.ofInt 64 a).sshiftRight m := by
  have e1 : (Int64.ofInt a >>> ((Int32.ofInt (m : Int)).toInt64 &&& 63)).toBitVec = (BitVec.ofInt 64 a).sshiftRight ((((Int32.ofInt (m : Int)).toInt64 &&& 63).toBitVec).smod 64#64).toNat := rfl
  unfold xshr8
  rw [ofInt_toInt8, e1, xshr8_t ⟨m, hm⟩]
theorem xand8_1 (a : Int) : xand8 a 1 = if (BitVec.ofInt 64 a).getLsbD 0 = true then 1 else 0 := by
  have e1 : xand8 a 1 = (BitVec.ofInt 64 a &&& 1#64).toInt := rfl
  rw [e1, BitVec.and_one_eq_setWidth_ofBool_getLsbD]
  cases (BitVec.ofInt 64 a).getLsbD 0 <;> rfl
theorem hb8_is {a : Int} {m : Nat} (hm : m < 64) : xand8 (xshr8 a (m : Int)) 1 = if (BitVec.ofInt 64 a).getLsbD m = true then 1 else 0 := by
  rw [xand8_1, xshr8_bv hm, BitVec.getLsbD_sshiftRight]
  have e : (!decide (64 ≤ 0) && if m + 0 < 64 then (BitVec.ofInt 64 a).getLsbD (m + 0) else (BitVec.ofInt 64 a).msb) = (BitVec.ofInt 64 a).getLsbD m := by
    rw [if_pos (by omega)]
    simp
  rw [e]
/-- the mask of two longs -/
def rM8 (lo hi : Int) (a : Nat) : Prop := a < 2 ^ 72 ∧ ∀ x, x < 72 → hb8 lo hi x = a.testBit x
theorem rM8.z : rM8 0 0 0 := by
  refine ⟨by decide, ?_⟩
  decide +kernel
theorem rM8.or {lo hi lo' hi' : Int} {a b : Nat} (h1 : rM8 lo hi a) (h2 : rM8 lo' hi' b) : rM8 (xor8 lo lo') (xor8 hi hi') (a ||| b) := by
  refine ⟨Nat.or_lt_two_pow h1.1 h2.1, fun x hx => ?_⟩
  rw [Nat.testBit_or, ← h1.2 x hx, ← h2.2 x hx]
  unfold hb8
  rw [xor8_bv, xor8_bv]
  by_cases c : x < 64
  · rw [if_pos c, if_pos c, if_pos c, BitVec.getLsbD_or]
  · rw [if_neg c, if_neg c, if_neg c, BitVec.getLsbD_or]
theorem rM8.lo {lo hi : Int} {a m : Nat} (h1 : rM8 lo hi a) (hm : m < 64) : rM8 (xor8 lo (xshl8 1 (m : Int))) hi (a ||| 2 ^ m) := by
  refine ⟨or_lt h1.1 (by omega), fun x hx => ?_⟩
  rw [or_bit, ← h1.2 x hx]
  unfold hb8
  rw [xor8_bv, xshl8_bv ⟨m, hm⟩]
  by_cases c : x < 64
  · rw [if_pos c, if_pos c, BitVec.getLsbD_or, BitVec.getLsbD_twoPow]
    simp [hm]
  · rw [if_neg c, if_neg c]
    have : ¬ m = x := by omega
    simp [this]
theorem rM8.hi {lo hi : Int} {a m : Nat} (h1 : rM8 lo hi a) (hm : 64 ≤ m) (hm2 : m < 72) : rM8 lo (xor8 hi (xshl8 1 ((m - 64 : Nat) : Int))) (a ||| 2 ^ m) := by
  refine ⟨or_lt h1.1 (by omega), fun x hx => ?_⟩
  rw [or_bit, ← h1.2 x hx]
  unfold hb8
  rw [xor8_bv, xshl8_bv ⟨m - 64, by omega⟩]
  by_cases c : x < 64
  · rw [if_pos c, if_pos c]
    have : ¬ m = x := by omega
    simp [this]
  · rw [if_neg c, if_neg c, BitVec.getLsbD_or, BitVec.getLsbD_twoPow]
    have e1 : decide (m - 64 < 64) = true := by rw [decide_eq_true_iff]; omega
    have e2 : decide (m - 64 = x - 64) = decide (m = x) := by
      rw [decide_eq_decide]
      omega
    show ((BitVec.ofInt 64 hi).getLsbD (x - 64) || (decide (m - 64 < 64) && decide (m - 64 = x - 64))) = _
    rw [e1, e2, Bool.true_and]
section
variable {f : Nat} {G : xG_}
theorem l_343 {lo hi : Int} {x a : Nat} (h : rM8 lo hi a) (hx : x < 72) : g343 f lo hi (x : Int) G = some (if a.testBit x = true then 1 else 0, G) := by
  have k := h.2 x hx
  unfold hb8 at k
  have fin : ∀ b : Bool, g343_21 f (xshr8 0 0) G = g343_21 f (xshr8 0 0) G → True := fun _ _ => trivial
  have sel : ∀ (y : Int) (b : Bool), xand8 y 1 = (if b = true then 1 else 0) → g343_21 f y G = some (if b = true then 1 else 0, G) := fun y b hb => by
    unfold g343_21 g343_33
    rw [hb]
    cases b with
    | true => rfl
    | false => rfl
  unfold g343
  by_cases c : x < 64
  · rw [if_pos c] at k
    rw [if_neg (by omega)]
    refine sel _ _ ?_
    rw [hb8_is c, k]
  · rw [if_neg c] at k
    have e : xwr ((x : Int) - 64) = ((x - 64 : Nat) : Int) := by rw [xwr_g _ (by omega) (by omega)]; omega
    rw [if_pos (by omega), e]
    refine sel _ _ ?_
    rw [hb8_is (by omega), k]
/-- what cells x reads: one more -/
def pRm (G : xG_) (c x : Nat) : xG_ := if x < 64 then xup2 G 263 c (xor8 (G 263 c) (xshl8 1 (x : Int))) else xup2 G 264 c (xor8 (G 264 c) (xshl8 1 ((x - 64 : Nat) : Int)))
theorem pRm_fr {c x : Nat} {a j : Nat} (h : ¬ (a = 263 ∧ j = c)) (h2 : ¬ (a = 264 ∧ j = c)) : pRm G c x a j = G a j := by
  unfold pRm
  split
  · exact xup2_n (by omega)
  · exact xup2_n (by omega)
theorem pRm_m {c x a : Nat} (hx : x < 72) (h : rM8 (G 263 c) (G 264 c) a) : rM8 (pRm G c x 263 c) (pRm G c x 264 c) (a ||| 2 ^ x) := by
  unfold pRm
  by_cases k : x < 64
  · rw [if_pos k, xup2_s, xup2_n (by omega)]
    exact h.lo k
  · rw [if_neg k, xup2_s, xup2_n (by omega)]
    exact h.hi (by omega) hx
theorem l_342 {c x : Nat} (hc : c < 72) (hx : x < 72) : g342 f (c : Int) (x : Int) G = some (pRm G c x) := by
  unfold g342 g342_36 pRm
  by_cases k : x < 64
  · rw [if_neg (by omega), if_pos (by omega), if_pos (by omega), if_pos k]
    rfl
  · have e : xwr ((x : Int) - 64) = ((x - 64 : Nat) : Int) := by rw [xwr_g _ (by omega) (by omega)]; omega
    rw [if_pos (by omega), if_pos (by omega), if_pos (by omega), if_neg k, e]
    rfl
end
/-! What a FORMULA reads -/
def nBx (a b : Int) : Nat → Nat
  | 0 => 0
  | k + 1 => if fIn k a b then nBx a b k ||| 2 ^ k else nBx a b k
def nR1 (y : pNd) : Nat := if y.1 = 2 then 2 ^ y.2.1.toNat else if y.1 = 4 ∨ y.1 = 5 then nBx y.2.1 y.2.2.1 72 else 0
def nRd : List pNd → Nat
  | [] => 0
  | y :: N => nR1 y ||| nRd N
def nO1 (s : pPg) (y : pNd) : Nat := if 6 ≤ y.1 ∧ y.1 ≤ 9 ∧ pIdx s.1 y.2.2.2.2 ≠ -1 then 2 ^ (pIdx s.1 y.2.2.2.2).toNat else 0
def nOf (s : pPg) : List pNd → Nat
  | [] => 0
  | y :: N => nO1 s y ||| nOf s N
def nNm : List pNd → Bool
  | [] => false
  | y :: N => decide (6 ≤ y.1 ∧ y.1 ≤ 9) || nNm N
theorem nBx_t {a b : Int} : ∀ (k x : Nat), (nBx a b k).testBit x = true ↔ x < k ∧ fIn x a b
  | 0, x => by
    unfold nBx
    rw [Nat.zero_testBit]
    constructor
    · intro h; cases h
    · intro h; omega
  | k + 1, x => by
    unfold nBx
    have ih := nBx_t (a := a) (b := b) k x
    by_cases c : fIn k a b
    · rw [if_pos c, or_bit, Bool.or_eq_true, ih, decide_eq_true_iff]
      constructor
      · rintro (h | h)
        · exact ⟨by omega, h.2⟩
        · rw [← h]; exact ⟨by omega, c⟩
      · rintro ⟨h1, h2⟩
        by_cases d : k = x
        · exact .inr d
        · exact .inl ⟨by omega, h2⟩
    · rw [if_neg c, ih]
      constructor
      · rintro ⟨h1, h2⟩; exact ⟨by omega, h2⟩
      · rintro ⟨h1, h2⟩
        refine ⟨?_, h2⟩
        by_cases d : k = x
        · rw [d] at c; exact absurd h2 c
        · omega
