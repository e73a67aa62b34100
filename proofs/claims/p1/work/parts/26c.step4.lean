section
variable {call : xj_F} {ac : xFa} {X : xj_X} {row : xj_mR} {S : Option (List xa)} {h : xha} {pc len : Nat} {q : xo} {lv' st' : List xa} {A : xme} {lv : xj_L} {st : List Value} {M : xj_M} {N : xNa}
theorem xo_of_inv (hq : xo_of row pc = some q) : ∃ ins len, decode row.2.2.1 pc = .ok (ins, len) ∧ xj_lenok ins len = true ∧ xo_ins row pc len ins = some q := by
  unfold xo_of at hq
  split at hq
  · rename_i ins len hd
    split at hq
    · rename_i hl
      exact ⟨ins, len, hd, hl, hq⟩
    · cases hq
  · cases hq
end
