section
variable {lv' st' : List xa} {A : xme} {lv : xj_L} {st : List Value} {M : xj_M} {N : xNa} {s a b nx : Nat}
theorem xout_ok {h : xha} {X : xj_X} {row : xj_mR} (hh : xhr row X.1 h) {nt : Bool} {pc : Nat} {rest' : List xa} {rest : List Value} {ra : xRa} {B : xme} {r' : xj_R} {M' : xj_M} (hN : xout h nt pc (pc + 3) lv' rest' (some (ra, B)) = some N) (hl : xlr lv' lv) (hs : xvs rest' rest) (hr : xrr ra r') (hB : xmr B M') : ∃ N', xj_out X row nt pc lv rest (some (r', M')) = some N' ∧ xNr N N' := by
  replace hN : xret h nt pc (pc + 3) lv' rest' ra B = some N := hN
  cases ra with
  | inl o =>
    cases o with
    | none =>
      have e : r' = .inl none := hr
      subst e
      replace hN : xgo (pc + 3) lv' rest' B = some N := hN
      exact ⟨.inl (pc + 3, lv, rest, M'), rfl, xNr_go hN hl hs hB⟩
    | some v =>
      obtain ⟨v', e, hv⟩ := hr
      subst e
      replace hN : xgo (pc + 3) lv' (v :: rest') B = some N := hN
      exact ⟨.inl (pc + 3, lv, v' :: rest, M'), rfl, xNr_go hN hl (st := v' :: rest) ⟨hv, hs⟩ hB⟩
  | inr k =>
    have e : r' = .inr k := hr
    subst e
    replace hN : xif nt none (xhan h k pc lv' B) = some N := hN
    cases nt with
    | true => cases hN
    | false =>
      replace hN : xhan h k pc lv' B = some N := hN
      cases h with
      | none =>
        have hX : X.1 = none := hh
        replace hN : some (Sum.inr (Sum.inr k, B)) = some N := hN
        cases hN
        refine ⟨.inr (.inr k, M'), ?_, .inr k, M', rfl, rfl, hB⟩
        show xj_hand X row pc lv k M' = _
        unfold xj_hand
        rw [hX]
      | some t =>
        obtain ⟨u, hu, e1, e2, e3, e4, e5⟩ := hh
        replace hN : xif (xif (Nat.ble t.1 pc) (xif (Nat.blt pc t.2.1) (Nat.beq k t.2.2.2.2) false) false) (xgo t.2.2.1 (xl_set (xl_kill lv' t.2.2.2.1) t.2.2.2.1 (9, 0, 0)) [] B) none = some N := hN
        obtain ⟨c, hN⟩ := xif_some hN
        obtain ⟨c1, c2⟩ := xif_and c
        obtain ⟨c2, c3⟩ := xif_and c2
        have c1 : t.1 ≤ pc := xble c1
        have c2 : pc < t.2.1 := xblt c2
        have c3 := xbeq c3
        have hcond : u.1 ≤ pc ∧ pc < u.2.1 ∧ k = u.2.2.2.2 := by
          rw [← e1, ← e2, ← e3]; exact ⟨c1, c2, c3⟩
        rcases e5 with ⟨i, f1, f2, f3⟩ | ⟨f2, f3⟩
        · refine ⟨.inl (t.2.2.1, (xj_s1 lv t.2.2.2.1 .null).tail, [], M'), ?_, xNr_go hN (xlr_h hl) (st := []) trivial hB⟩
          show xj_hand X row pc lv k M' = _
          unfold xj_hand
          rw [hu]
          simp only
          rw [if_pos hcond, f2]
          simp only [f1]
          rw [if_pos e4, f3]
        · refine ⟨.inl (t.2.2.1, (xj_s1 lv t.2.2.2.1 .null).tail, [], M'), ?_, xNr_go hN (xlr_h hl) (st := []) trivial hB⟩
          show xj_hand X row pc lv k M' = _
          unfold xj_hand
          rw [hu]
          simp only
          rw [if_pos hcond, f2]
          simp only
          rw [if_pos e4, f3]
theorem xout_some {h : xha} {nt : Bool} {pc : Nat} {rest' : List xa} {r : Option (xRa × xme)} (hN : xout h nt pc nx lv' rest' r = some N) : ∃ ra B, r = some (ra, B) := by
  cases r with
  | none => cases hN
  | some q => exact ⟨q.1, q.2, rfl⟩
end
