section
variable {call : xj_F} {ac : xFa} {X : xj_X} {row : xj_mR} {S : Option (List xa)} {m : xmt}
theorem xone_eq (d pc : Nat) (lv st : List xa) (A : xme) : xone ac d S m (pc, lv, st, A) = (match xat m.2.2.2 pc with | some q => xst ac d S m.2.2.1 q pc lv st A | none => none) := rfl
theorem xone_ok (hcall : xcok call ac) (hS : xsr S X.2.2) (hm : xrok row X.1 m) {pc : Nat} {lv' st' : List xa} {A : xme} {lv : xj_L} {st : List Value} {M : xj_M} {N : xNa} (h1 : xlr lv' lv) (h2 : xvs st' st) (h3 : xmr A M) (hN : xone ac X.2.1 S m (pc, lv', st', A) = some N) : ∃ N', xj_step call X row (pc, lv, st, M) = some N' ∧ xNr N N' := by
  rw [xone_eq] at hN
  cases hq : xat m.2.2.2 pc with
  | none => rw [hq] at hN; cases hN
  | some q =>
    rw [hq] at hN
    have hN2 : xst ac X.2.1 S m.2.2.1 q pc lv' st' A = some N := hN
    have hof : xo_of row pc = some q := hm.2.2.2 (pc, q) (xat_ok m.2.2.2 pc q hq)
    obtain ⟨ins, len, d1, d2, d3⟩ := xo_of_inv hof
    exact xst_ok (call := call) (ac := ac) (X := X) (row := row) (S := S) (h := m.2.2.1) (pc := pc) (len := len) (q := q) (lv' := lv') (st' := st') (A := A) (lv := lv) (st := st) (M := M) (N := N) hcall hS hm.2.2.1 (ins := ins) d1 d2 d3 h1 h2 h3 hN2
end
