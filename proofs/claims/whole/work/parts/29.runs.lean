/-! Runs of the law on a script of at most six ints: by the abstract machine, and what they say of the interpreter -/
noncomputable def xK0 : xKa := (nat_lit 0, [(nat_lit 2, nat_lit 0, nat_lit 0)], [], (xs_no xcl 11, nat_lit 0, nat_lit 0))
noncomputable def xL (bx : List xa) (k : Nat) (K : xKa) : xOn := xrun (xcall xP (nat_lit 20)) (nat_lit 20) (some bx) xt_2000 k K
noncomputable def xbind (o : xOn) (k : xKa → xOn) : xOn := Option.casesOn (motive := fun _ => xOn) o none (fun N => Sum.casesOn (motive := fun _ => xOn) N (fun K => k K) (fun r => some (.inr r)))
noncomputable def xfin1 (r : xRa) : Bool := Sum.casesOn (motive := fun _ => Bool) r (fun o => Option.casesOn (motive := fun _ => Bool) o false (fun v => xaeq v (0, 2147483649, 2147483649))) (fun _ => false)
noncomputable def xfinal (o : xOn) : Bool := Option.casesOn (motive := fun _ => Bool) o false (fun N => Sum.casesOn (motive := fun _ => Bool) N (fun _ => false) (fun r => xif (xfin1 r.1) (xif (Nat.ble r.2.2.1 601024) (Nat.ble r.2.2.2 7293034) false) false))
noncomputable def xtops (n : Nat) : List xa := Nat.rec (motive := fun _ => List xa) [] (fun _ ih => (nat_lit 0, nat_lit 0, nat_lit 4294967295) :: ih) n
noncomputable def xst6 : xOn := xbind (xL (xtops 6) 4 xK0) (fun K => xL (xtops 6) 3 K)
noncomputable def xat40 (o : xOn) : Bool := Option.casesOn (motive := fun _ => Bool) o false (fun N => Sum.casesOn (motive := fun _ => Bool) N (fun K => Nat.beq K.1 40) (fun _ => false))
theorem xtest0 : xat40 xst6 = true := by decide +kernel
