/-! THE CLASS: reckon() -/
/-- a value, or an ERROR below all values -/
def eVl (o : Option Int) (v : Int) : Prop := match o with
  | some x => v = x ∧ vOk x
  | none => v < -1000000000000
section
variable {f : Nat} {T : xT_}
theorem k_192b {x : Int} : c192_138 f x T = some (if 1000000000000 < x ∨ x < -1000000000000 then -8999999999999999997 else x, T) := by
  unfold c192_138 c192_156 c192_164
  by_cases c : 1000000000000 < x
  · rw [if_pos c, if_pos (.inl c)]
  · rw [if_neg c]
    by_cases d : -1000000000000 ≤ x
    · rw [if_pos d, if_neg (by omega)]
    · rw [if_neg d, if_pos (.inr (by omega))]
theorem eVl_b {x : Int} {op a b : Int} (hx : x = qWv op a b) (h0 : ¬ (2000000000000 ≤ a ∨ 2000000000000 ≤ b ∨ ((op = 47 ∨ op = 37) ∧ b = 0))) : eVl (qWk op a b) (if 1000000000000 < x ∨ x < -1000000000000 then -8999999999999999997 else x) := by
  unfold qWk
  rw [← hx]
  by_cases c : 1000000000000 < x ∨ x < -1000000000000
  · rw [if_pos c, if_pos (.inr (.inr (.inr c)))]
    show (-8999999999999999997 : Int) < -1000000000000
    decide
  · rw [if_neg c, if_neg (fun q => by rcases q with q | q | q | q | q; exact h0 (.inl q); exact h0 (.inr (.inl q)); exact h0 (.inr (.inr q)); exact c (.inl q); exact c (.inr q))]
    exact ⟨rfl, .inl (by omega)⟩
theorem k_192 {op a b : Int} {oa ob : Option Int} (ho : op = 43 ∨ op = 45 ∨ op = 42 ∨ op = 47 ∨ op = 37) (ha : eVl oa a) (hb : eVl ob b) : ∃ v, c192 f op a b T = some (v, T) ∧ eVl (oa.bind fun x => ob.bind fun y => qWk op x y) v := by
  cases oa with
  | none =>
    have ha' : a < -1000000000000 := ha
    refine ⟨a, ?_, ha'⟩
    unfold c192
    rw [if_neg (by omega)]
  | some x =>
    obtain ⟨rfl, hx⟩ : a = x ∧ vOk x := ha
    have ax : -1000000000000 ≤ a := by rcases hx with q | q <;> omega
    cases ob with
    | none =>
      have hb' : b < -1000000000000 := hb
      refine ⟨b, ?_, hb'⟩
      unfold c192
      rw [if_pos ax, if_neg (by omega)]
    | some y =>
      obtain ⟨rfl, hy⟩ : b = y ∧ vOk y := hb
      have bx : -1000000000000 ≤ b := by rcases hy with q | q <;> omega
      show ∃ v, _ ∧ eVl (qWk op a b) v
      by_cases wa : 1000000000000 < a
      · have : 2000000000000 ≤ a := by rcases hx with q | q <;> omega
        refine ⟨_, by unfold c192 c192_36; rw [if_pos ax, if_pos bx, if_pos wa], ?_⟩
        unfold qWk
        rw [if_pos (.inl this)]
        show (-8999999999999999998 : Int) < -1000000000000
        decide
      · by_cases wb' : ¬ b ≤ 1000000000000
        · have : 2000000000000 ≤ b := by rcases hy with q | q <;> omega
          refine ⟨_, by unfold c192 c192_36; rw [if_pos ax, if_pos bx, if_neg wa, if_neg wb'], ?_⟩
          unfold qWk
          rw [if_pos (.inr (.inl this))]
          show (-8999999999999999998 : Int) < -1000000000000
          decide
        have wb : b ≤ 1000000000000 := Decidable.not_not.mp wb'
        rcases ho with rfl | rfl | rfl | rfl | rfl
        · refine ⟨_, by unfold c192; rw [if_pos ax, if_pos bx, if_neg wa, if_pos wb, if_neg (by decide), k_192b, xwl_g _ (by omega) (by omega)], eVl_b (by unfold qWv; rw [if_pos rfl]) (by omega)⟩
        · refine ⟨_, by unfold c192; rw [if_pos ax, if_pos bx, if_neg wa, if_pos wb, if_pos (by decide), if_neg (by decide), k_192b, xwl_g _ (by omega) (by omega)], eVl_b (by unfold qWv; rw [if_neg (by decide), if_pos rfl]) (by omega)⟩
        · have eq : qWv 42 a b = a * b := by unfold qWv; rw [if_neg (by decide), if_neg (by decide), if_pos rfl]
          by_cases za : a = 0
          · refine ⟨_, by unfold c192 c192_103; rw [if_pos ax, if_pos bx, if_neg wa, if_pos wb, if_pos (by decide), if_pos (by decide), if_neg (by decide), if_pos za, k_192b], eVl_b (by rw [eq, za, Int.zero_mul]; rfl) (by omega)⟩
          · have hp : 0 < a.natAbs := by omega
            have e1 : Int.tdiv 1000000000000 (a.natAbs : Int) = ((1000000000000 / a.natAbs : Nat) : Int) := rfl
            have e2 : (b.natAbs : Int) ≤ ((1000000000000 / a.natAbs : Nat) : Int) ↔ ¬ 1000000000000 < (a * b).natAbs := by
              rw [Int.natAbs_mul, Int.ofNat_le, Nat.le_div_iff_mul_le hp, Nat.mul_comm]
              omega
            have base : c192 f 42 a b T = if (b.natAbs : Int) ≤ ((1000000000000 / a.natAbs : Nat) : Int) then c192_103 f a b T else some (-8999999999999999997, T) := by
              unfold c192
              rw [if_pos ax, if_pos bx, if_neg wa, if_pos wb, if_pos (by decide), if_pos (by decide), if_neg (by decide), if_neg za, xabs8_g (by omega) (by omega), xabs8_g (by omega) (by omega), if_neg (by omega), xdiv8_g (by omega) (by omega) (by omega) (by omega), e1]
            by_cases c2 : 1000000000000 < (a * b).natAbs
            · rw [if_neg (fun h => (e2.mp h) c2)] at base
              refine ⟨_, base, ?_⟩
              unfold qWk
              rw [eq, if_pos (.inr (.inr (.inr (by omega))))]
              show (-8999999999999999997 : Int) < -1000000000000
              decide
            · rw [if_pos (e2.mpr c2)] at base
              refine ⟨_, by rw [base]; unfold c192_103; rw [k_192b, xwl_g _ (by omega) (by omega)], eVl_b eq.symm (by omega)⟩
        · by_cases zb : b = 0
          · refine ⟨_, by unfold c192; rw [if_pos ax, if_pos bx, if_neg wa, if_pos wb, if_pos (by decide), if_pos (by decide), if_pos (by decide), if_neg (fun q => q zb)], ?_⟩
            unfold qWk
            rw [if_pos (.inr (.inr (.inl ⟨.inl rfl, zb⟩)))]
            show (-8999999999999999997 : Int) < -1000000000000
            decide
          · refine ⟨_, by unfold c192 c192_136; rw [if_pos ax, if_pos bx, if_neg wa, if_pos wb, if_pos (by decide), if_pos (by decide), if_pos (by decide), if_pos zb, if_neg (by decide), if_neg zb, k_192b, xdiv8_g (by omega) (by omega) (by omega) (by omega)], eVl_b (by unfold qWv; rw [if_neg (by decide), if_neg (by decide), if_neg (by decide), if_pos rfl]) (by omega)⟩
        · by_cases zb : b = 0
          · refine ⟨_, by unfold c192; rw [if_pos ax, if_pos bx, if_neg wa, if_pos wb, if_pos (by decide), if_pos (by decide), if_pos (by decide), if_neg (fun q => q zb)], ?_⟩
            unfold qWk
            rw [if_pos (.inr (.inr (.inl ⟨.inr rfl, zb⟩)))]
            show (-8999999999999999997 : Int) < -1000000000000
            decide
          · refine ⟨_, by unfold c192 c192_136; rw [if_pos ax, if_pos bx, if_neg wa, if_pos wb, if_pos (by decide), if_pos (by decide), if_pos (by decide), if_pos zb, if_pos (by decide), if_neg zb, k_192b, xrem8_g (by omega) (by omega) (by omega) (by omega)], eVl_b (by unfold qWv; rw [if_neg (by decide), if_neg (by decide), if_neg (by decide), if_neg (by decide)]) (by omega)⟩
end
