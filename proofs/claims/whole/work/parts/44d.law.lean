/-! The law's own instructions: the script -/
abbrev xS (_ : Nat) : Value := .ref 0
def xq_scl (xs : List Int32) : Option Int := if xs.length < 2147483648 then some (xs.length : Int) else none
def xq_sci (xs : List Int32) (z : Int) : Option Int := if 0 ≤ z ∧ z < xs.length then some (xs.getD z.toNat 0).toInt else none
theorem xq_scl_in {xs : List Int32} {v : Int} (h : xq_scl xs = some v) : xin v := by
  unfold xq_scl at h
  split at h
  · cases h; exact ⟨by omega, by omega⟩
  · cases h
theorem xq_sci_in {xs : List Int32} {z v : Int} (h : xq_sci xs z = some v) : xin v := by
  unfold xq_sci at h
  split at h
  · cases h; exact xin_of _
  · cases h
section
variable {d : Nat} {X : xj_X} {row : xj_mR} {pc nx n : Nat} {lv : xj_L} {st : List Value} {M : xj_M} {Q : xj_R → xj_M → Prop} {z v : Int} {xs : List Int32}
theorem xe_scl (hX : X.2.2 = some xs) (hd : decode row.2.2.1 pc = .ok (.arraylength, 1)) (hm : xq_scl xs = some v) (hn : pc + 1 = nx) (k : xW d X row (nx, lv, xI v :: st, M) Q) : xW d X row (pc, lv, xS n :: st, M) Q := by
  subst hn
  unfold xq_scl at hm
  split at hm
  · cases hm
    refine xW_go (fun _ => xk_sc hd rfl rfl rfl rfl rfl rfl (st' := xI (xs.length : Int) :: st) ?_) k
    rw [hX]
    show some (Value.int (Int32.ofNat xs.length) :: st) = _
    rw [← Int32.ofInt_eq_ofNat]
  · cases hm
theorem xe_sci (hX : X.2.2 = some xs) (hd : decode row.2.2.1 pc = .ok (.iaload, 1)) (hz : xin z) (hm : xq_sci xs z = some v) (hn : pc + 1 = nx) (k : xW d X row (nx, lv, xI v :: st, M) Q) : xW d X row (pc, lv, xI z :: xS n :: st, M) Q := by
  subst hn
  unfold xq_sci at hm
  split at hm
  · rename_i h
    cases hm
    rw [xI_toInt] at k
    have hc : (Int32.ofInt z).toNatClampNeg = z.toNat := xs_clamp hz h.1
    refine xW_go (fun _ => xk_sc hd rfl rfl rfl rfl rfl rfl (st' := Value.int (xs.getD z.toNat 0) :: st) ?_) k
    rw [hX]
    show (if ¬ (Int32.ofInt z < 0 ∨ xs.length ≤ (Int32.ofInt z).toNatClampNeg) then some (Value.int (xs.getD (Int32.ofInt z).toNatClampNeg 0) :: st) else none) = _
    rw [hc, if_pos]
    rintro (g | g)
    · exact xs_nneg hz h.1 g
    · omega
  · cases hm
end
