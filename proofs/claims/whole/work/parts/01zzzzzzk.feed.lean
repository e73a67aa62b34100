/-! feed(), end() -/
def fdB (w sh : Int) : Int := xand (xshr w sh) 255
def fdT (a b c d e : Int) : List Int := [fdB a 24, fdB a 16, fdB a 8, fdB a 0, fdB b 24, fdB b 16, fdB b 8, fdB b 0, fdB c 24, fdB c 16, fdB c 8, fdB c 0, fdB d 24, fdB d 16, fdB d 8, fdB d 0, fdB e 24, fdB e 16, fdB e 8, fdB e 0]
theorem fd_by (v : Int) : xand (xnar .byte (xi2b v)) 255 = xand v 255 := by
  have e1 : xnar .byte (xi2b v) = (Int32.ofInt (xi2b v)).toInt8.toInt32.toInt := rfl
  have h := xnar_in v
  have e2 : xnar .byte v = xi2b v := rfl
  rw [e2] at h
  rw [xnar_b _ h.1 h.2]
  have e3 : Int32.ofInt (xi2b v) = (Int32.ofInt v).toInt8.toInt32 := by
    unfold xi2b
    rw [Int32.ofInt_toInt]
  unfold xand
  rw [e3]
  have e4 : ((Int32.ofInt v).toInt8.toInt32 &&& Int32.ofInt 255).toBitVec = ((Int32.ofInt v) &&& Int32.ofInt 255).toBitVec := by
    show ((Int32.ofInt v).toBitVec.signExtend 8).signExtend 32 &&& 255#32 = (Int32.ofInt v).toBitVec &&& 255#32
    generalize (Int32.ofInt v).toBitVec = x
    apply BitVec.eq_of_getLsbD_eq
    intro i hi
    have h255 : ∀ i, i < 32 → (255#32).getLsbD i = decide (i < 8) := by decide
    rw [BitVec.getLsbD_and, BitVec.getLsbD_and, h255 i hi]
    by_cases c : i < 8
    · rw [decide_eq_true c, Bool.and_true, Bool.and_true, BitVec.getLsbD_signExtend, BitVec.getLsbD_signExtend]
      simp [c, hi]
    · rw [decide_eq_false c, Bool.and_false, Bool.and_false]
  show ((Int32.ofInt v).toInt8.toInt32 &&& Int32.ofInt 255).toBitVec.toInt = ((Int32.ofInt v) &&& Int32.ofInt 255).toBitVec.toInt
  rw [e4]
theorem fd_sh : ∀ k : Nat, k < 20 → xwr (24 - xwr (xrem (k : Int) 4 * 8)) = 24 - 8 * ((k % 4 : Nat) : Int) := by decide +kernel
section
variable {f : Nat}
theorem l_359_23 {a b c d e : Int} {t : List Int} (ht : t.length + 20 ≤ 3000) : ∀ (x k fu : Nat) (G : xG_), k + x = 20 → x < fu → rTp G (t ++ (fdT a b c d e).take k) →
    ∃ G', g359_23 f fu a b c d e (k : Int) G = some (1, G') ∧ rTp G' (t ++ fdT a b c d e) ∧ ∀ a j, ¬ (a = 0 ∧ j = 73) → a ≠ 240 → G' a j = G a j := by
  have h240 : ((xl_t 240).2.2 : Int) = 3000 := by decide +kernel
  intro x
  induction x with
  | zero =>
    intro k fu G h1 h2 h3
    obtain ⟨fu, rfl⟩ : ∃ t, fu = t + 1 := ⟨fu - 1, by omega⟩
    have hk : k = 20 := by omega
    subst hk
    refine ⟨G, ?_, h3, fun _ _ _ _ => rfl⟩
    show g359_23b (g359_23 f fu) f _ _ _ _ _ _ _ = _
    unfold g359_23b
    rw [if_pos (by omega)]
  | succ x ih =>
    intro k fu G h1 h2 h3
    obtain ⟨fu, rfl⟩ : ∃ t, fu = t + 1 := ⟨fu - 1, by omega⟩
    have hk : k < 20 := by omega
    obtain ⟨p1, p2, p3⟩ := h3
    have hlen : (t ++ (fdT a b c d e).take k).length = t.length + k := by
      rw [List.length_append, List.length_take]
      show t.length + min k 20 = _
      omega
    rw [hlen] at p1 p2
    have ek : xwr ((k : Int) + 1) = ((k + 1 : Nat) : Int) := by rw [xwr_g _ (by omega) (by omega)]; omega
    have e73 : xwr (((t.length + k : Nat) : Int) + 1) = ((t.length + k + 1 : Nat) : Int) := by rw [xwr_g _ (by omega) (by omega)]; omega
    have htk : (fdT a b c d e).take (k + 1) = (fdT a b c d e).take k ++ [(fdT a b c d e).getD k 0] := by
      have hk' : k < (fdT a b c d e).length := hk
      rw [List.take_succ_eq_append_getElem hk', getD_e hk']
    -- one byte
    have go : ∀ w : Int, fdB w (24 - 8 * ((k % 4 : Nat) : Int)) = (fdT a b c d e).getD k 0 → ∃ G', g359_76 (g359_23 f fu) f a b c d e (k : Int) w G = some (1, G') ∧ rTp G' (t ++ fdT a b c d e) ∧ ∀ a j, ¬ (a = 0 ∧ j = 73) → a ≠ 240 → G' a j = G a j := fun w hw => by
      let B := xnar .byte (xi2b (xshr w (24 - 8 * ((k % 4 : Nat) : Int))))
      have hB := xnar_in (xi2b (xshr w (24 - 8 * ((k % 4 : Nat) : Int))))
      let G1 := xup2 (xup2 G 240 (t.length + k) B) 0 73 ((t.length + k + 1 : Nat) : Int)
      have z1 : ∀ a j, ¬ (a = 240 ∧ j = t.length + k) → ¬ (a = 0 ∧ j = 73) → G1 a j = G a j := fun a j q1 q2 => by
        show xup2 _ _ _ _ _ _ = _
        rw [xup2_n (by omega), xup2_n (by omega)]
      have zB : G1 240 (t.length + k) = B := by
        show xup2 _ _ _ _ _ _ = _
        rw [xup2_n (by omega), xup2_s]
      have hl1 : (t ++ (fdT a b c d e).take (k + 1)).length = t.length + k + 1 := by
        rw [htk, ← List.append_assoc, List.length_append, hlen]; rfl
      have hT1 : rTp G1 (t ++ (fdT a b c d e).take (k + 1)) := by
        refine ⟨by rw [hl1]; exact xup2_s _ _ _ _, by omega, ⟨.inr rfl, by rw [h240, hl1]; omega, fun p hp => ?_⟩, fun p hp => ?_⟩
        · rw [hl1] at hp
          rw [Nat.zero_add]
          by_cases cp : p = t.length + k
          · rw [cp, zB]; exact hB
          · rw [z1 _ _ (by omega) (by omega)]
            have := p3.1.2.2 p (by rw [hlen]; omega)
            rw [Nat.zero_add] at this
            exact this
        · rw [hl1] at hp
          rw [Nat.zero_add, htk, ← List.append_assoc, getD_1, hlen]
          by_cases cp : p = t.length + k
          · rw [if_pos cp, cp, zB, ← hw]
            exact fd_by _
          · rw [if_neg cp, z1 _ _ (by omega) (by omega)]
            have := p3.2 p (by rw [hlen]; omega)
            rw [Nat.zero_add] at this
            exact this
      obtain ⟨G', u1, u2, u3⟩ := ih (k + 1) fu G1 (by omega) (by omega) hT1
      refine ⟨G', ?_, u2, fun a j q1 q2 => by rw [u3 a j q1 q2, z1 a j (by omega) q1]⟩
      unfold g359_76
      rw [p1, if_pos (by omega), Int.toNat_natCast, fd_sh k hk, Option.bind_some, xup2_n (by omega), p1, e73, Option.bind_some, ek]
      exact u1
    have sel : ∃ w : Int, g359_23 f (fu + 1) a b c d e (k : Int) G = g359_76 (g359_23 f fu) f a b c d e (k : Int) w G ∧ fdB w (24 - 8 * ((k % 4 : Nat) : Int)) = (fdT a b c d e).getD k 0 := by
      have e0 : g359_23 f (fu + 1) a b c d e (k : Int) G = g359_23b (g359_23 f fu) f a b c d e (k : Int) G := rfl
      rw [e0]
      unfold g359_23b
      rw [if_neg (by omega)]
      by_cases c4 : k < 4
      · refine ⟨a, by rw [if_neg (by omega)], ?_⟩
        obtain rfl | rfl | rfl | rfl : k = 0 ∨ k = 1 ∨ k = 2 ∨ k = 3 := by omega
        all_goals rfl
      rw [if_pos (by omega)]
      by_cases c8 : k < 8
      · refine ⟨b, by rw [if_neg (by omega)], ?_⟩
        obtain rfl | rfl | rfl | rfl : k = 4 ∨ k = 5 ∨ k = 6 ∨ k = 7 := by omega
        all_goals rfl
      rw [if_pos (by omega)]
      by_cases c12 : k < 12
      · refine ⟨c, by rw [if_neg (by omega)], ?_⟩
        obtain rfl | rfl | rfl | rfl : k = 8 ∨ k = 9 ∨ k = 10 ∨ k = 11 := by omega
        all_goals rfl
      rw [if_pos (by omega)]
      by_cases c16 : k < 16
      · refine ⟨d, by rw [if_neg (by omega)], ?_⟩
        obtain rfl | rfl | rfl | rfl : k = 12 ∨ k = 13 ∨ k = 14 ∨ k = 15 := by omega
        all_goals rfl
      · refine ⟨e, by rw [if_pos (by omega)], ?_⟩
        obtain rfl | rfl | rfl | rfl : k = 16 ∨ k = 17 ∨ k = 18 ∨ k = 19 := by omega
        all_goals rfl
    obtain ⟨w, s1, s2⟩ := sel
    rw [s1]
    exact go w s2
/-- feed() -/
def stFe (t : List Int) (a b c d e v : Int) (t' : List Int) : Prop := (t.length + 20 ≤ 3000 ∧ v = 1 ∧ t' = t ++ fdT a b c d e) ∨ (¬ t.length + 20 ≤ 3000 ∧ v = 0 ∧ t' = t)
theorem rTp.ge {G G' : xG_} {t : List Int} (h : rTp G t) (h0 : G' 0 73 = G 0 73) (h1 : ∀ j, G' 240 j = G 240 j) : rTp G' t := ⟨by rw [h0]; exact h.1, h.2.1, h.2.2.ge h1⟩
theorem l_359 {G : xG_} {a b c d e : Int} {t : List Int} (hf : 100 < f) (h : rTp G t) :
    ∃ v G' t', g359 f a b c d e G = some (v, G') ∧ stFe t a b c d e v t' ∧ rTp G' t' ∧ G' 0 74 = 0 ∧ ∀ a j, ¬ (a = 0 ∧ (j = 73 ∨ j = 74)) → a ≠ 240 → G' a j = G a j := by
  have h1 : rTp (xup2 G 0 74 0) t := h.ge (xup2_n (by omega)) (fun j => xup2_n (by omega))
  have hl := h.2.1
  have ew : xwr ((t.length : Int) + 20) = ((t.length + 20 : Nat) : Int) := by rw [xwr_g _ (by omega) (by omega)]; omega
  unfold g359
  rw [Option.bind_some, h1.1, ew]
  by_cases k : t.length + 20 ≤ 3000
  · rw [if_pos (by omega)]
    obtain ⟨G', u1, u2, u3⟩ := l_359_23 (f := f) (a := a) (b := b) (c := c) (d := d) (e := e) k 20 0 f (xup2 G 0 74 0) rfl (by omega) (by rw [List.take_zero, List.append_nil]; exact h1)
    refine ⟨1, G', _, u1, .inl ⟨k, rfl, rfl⟩, u2, ?_, fun x j q1 q2 => by rw [u3 x j (by omega) q2, xup2_n (by omega)]⟩
    rw [u3 _ _ (by omega) (by omega), xup2_s]
  · rw [if_neg (by omega)]
    exact ⟨0, _, t, rfl, .inr ⟨k, rfl, rfl⟩, h1, xup2_s _ _ _ _, fun x j q1 q2 => xup2_n (by omega)⟩
/-- end() -/
def stEn (t : List Int) (k v : Int) (t' : List Int) : Prop := ((0 ≤ k ∧ k ≤ t.length) ∧ v = 1 ∧ t' = t.take k.toNat) ∨ (¬ (0 ≤ k ∧ k ≤ t.length) ∧ v = 0 ∧ t' = t)
theorem l_360 {G : xG_} {k : Int} {t : List Int} (h : rTp G t) :
    ∃ v G' t', g360 f k G = some (v, G') ∧ stEn t k v t' ∧ rTp G' t' ∧ G' 0 74 = 0 ∧ ∀ a j, ¬ (a = 0 ∧ (j = 73 ∨ j = 74)) → G' a j = G a j := by
  have h1 : rTp (xup2 G 0 74 0) t := h.ge (xup2_n (by omega)) (fun j => xup2_n (by omega))
  have hl := h.2.1
  have no : ¬ (0 ≤ k ∧ k ≤ (t.length : Int)) → g360 f k G = some (0, xup2 G 0 74 0) → ∃ v G' t', g360 f k G = some (v, G') ∧ stEn t k v t' ∧ rTp G' t' ∧ G' 0 74 = 0 ∧ ∀ a j, ¬ (a = 0 ∧ (j = 73 ∨ j = 74)) → G' a j = G a j := fun hc he => ⟨0, _, t, he, .inr ⟨hc, rfl, rfl⟩, h1, xup2_s _ _ _ _, fun x j q1 => xup2_n (by omega)⟩
  have e0 : g360 f k G = (if k < 0 then g360_17 f (xup2 G 0 74 0) else (if k ≤ (t.length : Int) then ((some (xup2 (xup2 G 0 74 0) 0 73 k)).bind fun G110 => (some (1, G110))) else g360_17 f (xup2 G 0 74 0))) := by
    unfold g360
    rw [Option.bind_some, h1.1]
  by_cases c1 : k < 0
  · exact no (by omega) (by rw [e0, if_pos c1]; rfl)
  by_cases c2 : k ≤ (t.length : Int)
  · obtain ⟨x, rfl⟩ : ∃ x : Nat, k = (x : Int) := ⟨k.toNat, by omega⟩
    have hx : (t.take x).length = x := by rw [List.length_take]; omega
    refine ⟨1, xup2 (xup2 G 0 74 0) 0 73 (x : Int), t.take x, by rw [e0, if_neg c1, if_pos c2]; rfl, .inl ⟨⟨by omega, c2⟩, rfl, by rw [Int.toNat_natCast]⟩, ⟨by rw [hx]; exact xup2_s _ _ _ _, by omega, ⟨.inr rfl, ?_, fun p hp => ?_⟩, fun p hp => ?_⟩, ?_, fun a j q => by rw [xup2_n (by omega), xup2_n (by omega)]⟩
    · have := h.2.2.1.2.1
      rw [hx]
      omega
    · rw [hx] at hp
      rw [xup2_n (by omega), xup2_n (by omega)]
      exact h.2.2.1.2.2 p (by omega)
    · rw [hx] at hp
      rw [xup2_n (by omega), xup2_n (by omega), getD_tk hp]
      exact h.2.2.2 p (by omega)
    · rw [xup2_n (by omega), xup2_s]
  · exact no (by omega) (by rw [e0, if_neg c1, if_neg c2]; rfl)
end
