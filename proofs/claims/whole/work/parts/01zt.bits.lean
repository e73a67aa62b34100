/-! Masks: ints as sets of small numbers -/
theorem i32_nat (a : Nat) : (Int32.ofInt (a : Int)).toBitVec = BitVec.ofNat 32 a := BitVec.ofInt_natCast 32 a
theorem bv_int {x : BitVec 32} (h : x.toNat < 2147483648) : x.toInt = (x.toNat : Int) := BitVec.toInt_eq_toNat_of_lt (by omega)
theorem xor_nat {a b : Nat} (ha : a < 2147483648) (hb : b < 2147483648) : xor_ (a : Int) (b : Int) = ((a ||| b : Nat) : Int) := by
  have h : ((BitVec.ofNat 32 a ||| BitVec.ofNat 32 b).toNat) = a ||| b := by
    rw [BitVec.toNat_or, BitVec.toNat_ofNat, BitVec.toNat_ofNat, Nat.mod_eq_of_lt (by omega), Nat.mod_eq_of_lt (by omega)]
  have hlt : a ||| b < 2147483648 := Nat.or_lt_two_pow (n := 31) ha hb
  show ((Int32.ofInt (a : Int)).toBitVec ||| (Int32.ofInt (b : Int)).toBitVec).toInt = _
  rw [i32_nat, i32_nat, bv_int (by rw [h]; exact hlt), h]
theorem xand_nat {a b : Nat} (ha : a < 2147483648) (hb : b < 2147483648) : xand (a : Int) (b : Int) = ((a &&& b : Nat) : Int) := by
  have h : ((BitVec.ofNat 32 a &&& BitVec.ofNat 32 b).toNat) = a &&& b := by
    rw [BitVec.toNat_and, BitVec.toNat_ofNat, BitVec.toNat_ofNat, Nat.mod_eq_of_lt (by omega), Nat.mod_eq_of_lt (by omega)]
  have hlt : a &&& b < 2147483648 := Nat.lt_of_le_of_lt Nat.and_le_left ha
  show ((Int32.ofInt (a : Int)).toBitVec &&& (Int32.ofInt (b : Int)).toBitVec).toInt = _
  rw [i32_nat, i32_nat, bv_int (by rw [h]; exact hlt), h]
theorem xshr_t : ∀ m : Fin 32, (Int32.ofInt ((m.val : Nat) : Int) &&& 31).toBitVec = BitVec.ofNat 32 m.val := by decide +kernel
theorem xshl_t : ∀ m : Fin 31, xshl 1 ((m.val : Nat) : Int) = ((2 ^ m.val : Nat) : Int) := by decide +kernel
theorem xshl_nat {m : Nat} (hm : m < 31) : xshl 1 (m : Int) = ((2 ^ m : Nat) : Int) := xshl_t ⟨m, hm⟩
theorem xshr_nat {a m : Nat} (ha : a < 2147483648) (hm : m < 32) : xshr (a : Int) (m : Int) = ((a >>> m : Nat) : Int) := by
  have e1 : (Int32.ofInt (a : Int) >>> (Int32.ofInt (m : Int) &&& 31)).toBitVec = (Int32.ofInt (a : Int)).toBitVec.sshiftRight ((Int32.ofInt (m : Int) &&& 31).toBitVec.smod 32#32).toNat := rfl
  have e2 := xshr_t ⟨m, hm⟩
  have e3 : ∀ k : Fin 32, ((BitVec.ofNat 32 k.val).smod 32#32).toNat = k.val := by decide +kernel
  show (Int32.ofInt (a : Int) >>> (Int32.ofInt (m : Int) &&& 31)).toBitVec.toInt = _
  rw [e1, e2, e3 ⟨m, hm⟩, i32_nat]
  have hs : ((BitVec.ofNat 32 a).sshiftRight m).toInt = (BitVec.ofNat 32 a).toInt >>> m := BitVec.toInt_sshiftRight
  rw [hs, bv_int (by rw [BitVec.toNat_ofNat, Nat.mod_eq_of_lt (by omega)]; exact ha), BitVec.toNat_ofNat, Nat.mod_eq_of_lt (by omega)]
  rfl
/-- whether a number is in a mask -/
theorem xbit {a m : Nat} (ha : a < 2147483648) (hm : m < 32) : xand (xshr (a : Int) (m : Int)) 1 = 1 ↔ a.testBit m = true := by
  have h1 : a >>> m < 2147483648 := by rw [Nat.shiftRight_eq_div_pow]; exact Nat.lt_of_le_of_lt (Nat.div_le_self _ _) ha
  rw [xshr_nat ha hm, show (1 : Int) = ((1 : Nat) : Int) from rfl, xand_nat h1 (by decide), Nat.testBit, Nat.and_comm]
  have h2 : 1 &&& a >>> m = a >>> m % 2 := by rw [Nat.and_comm]; exact Nat.and_one_is_mod _
  rw [h2]
  have : a >>> m % 2 = 0 ∨ a >>> m % 2 = 1 := by omega
  rcases this with h | h <;> rw [h] <;> simp
theorem xbit0 {a m : Nat} (ha : a < 2147483648) (hm : m < 32) : xand (xshr (a : Int) (m : Int)) 1 = 0 ↔ a.testBit m = false := by
  have h1 : a >>> m < 2147483648 := by rw [Nat.shiftRight_eq_div_pow]; exact Nat.lt_of_le_of_lt (Nat.div_le_self _ _) ha
  rw [xshr_nat ha hm, show (1 : Int) = ((1 : Nat) : Int) from rfl, xand_nat h1 (by decide), Nat.testBit, Nat.and_comm]
  have h2 : 1 &&& a >>> m = a >>> m % 2 := by rw [Nat.and_comm]; exact Nat.and_one_is_mod _
  rw [h2]
  have : a >>> m % 2 = 0 ∨ a >>> m % 2 = 1 := by omega
  rcases this with h | h <;> rw [h] <;> simp
/-- one number more -/
theorem xorb {a m : Nat} (ha : a < 2147483648) (hm : m < 31) : xor_ (a : Int) (xshl 1 (m : Int)) = ((a ||| 2 ^ m : Nat) : Int) := by
  rw [xshl_nat hm, xor_nat ha (Nat.lt_of_lt_of_le (Nat.pow_lt_pow_right (by decide) hm) (by decide))]
theorem or_bit (a m j : Nat) : (a ||| 2 ^ m).testBit j = (a.testBit j || decide (m = j)) := by rw [Nat.testBit_or, Nat.testBit_two_pow]
theorem or_lt {a m k : Nat} (ha : a < 2 ^ k) (hm : m < k) : a ||| 2 ^ m < 2 ^ k := Nat.or_lt_two_pow ha (Nat.pow_lt_pow_right (by decide) hm)
/-- what a mask has and another hasn't: none -/
theorem xsub {a b : Nat} (ha : a < 2147483648) (hb : b < 2147483648) : xand (a : Int) (xxor (b : Int) (-1)) = 0 ↔ ∀ j, a.testBit j = true → b.testBit j = true := by
  have e : (Int32.ofInt (-1)).toBitVec = BitVec.allOnes 32 := rfl
  have h1 : xand (a : Int) (xxor (b : Int) (-1)) = (BitVec.ofNat 32 a &&& ~~~ BitVec.ofNat 32 b).toInt := by
    have hx : Int32.ofInt (xxor (b : Int) (-1)) = Int32.ofInt (b : Int) ^^^ Int32.ofInt (-1) := by
      unfold xxor
      rw [Int32.ofInt_toInt]
    unfold xand
    rw [hx]
    show ((Int32.ofInt (a : Int)).toBitVec &&& ((Int32.ofInt (b : Int)).toBitVec ^^^ (Int32.ofInt (-1)).toBitVec)).toInt = _
    rw [i32_nat, i32_nat, e, BitVec.xor_allOnes]
  have h2 : (BitVec.ofNat 32 a &&& ~~~ BitVec.ofNat 32 b).toNat < 2147483648 := by
    rw [BitVec.toNat_and, BitVec.toNat_ofNat, Nat.mod_eq_of_lt (by omega)]
    exact Nat.lt_of_le_of_lt Nat.and_le_left ha
  rw [h1, bv_int h2]
  constructor
  · intro h j hj
    have h3 : (BitVec.ofNat 32 a &&& ~~~ BitVec.ofNat 32 b) = 0#32 := by
      apply BitVec.eq_of_toNat_eq
      rw [BitVec.toNat_ofNat]
      omega
    have hj32 : j < 32 := by
      by_cases c : j < 32
      · exact c
      · have hp : 2 ^ 31 ≤ 2 ^ j := Nat.pow_le_pow_right (by decide) (by omega)
        rw [Nat.testBit_lt_two_pow (Nat.lt_of_lt_of_le ha hp)] at hj
        exact absurd hj (by decide)
    have h4 := congrArg (fun x => x.getLsbD j) h3
    simp only [BitVec.getLsbD_and, BitVec.getLsbD_not, BitVec.getLsbD_ofNat, hj32, decide_true, Bool.true_and, hj] at h4
    simpa using h4
  · intro h
    have h3 : (BitVec.ofNat 32 a &&& ~~~ BitVec.ofNat 32 b) = 0#32 := by
      apply BitVec.eq_of_getLsbD_eq
      intro j hj
      simp only [BitVec.getLsbD_and, BitVec.getLsbD_not, BitVec.getLsbD_ofNat, hj, decide_true, Bool.true_and]
      cases hb1 : a.testBit j with
      | false => simp
      | true => simp [h j hb1]
    rw [h3]
    rfl
