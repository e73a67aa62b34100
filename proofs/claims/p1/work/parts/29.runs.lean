/-! Runs of the law on a script of at most six ints: by the abstract machine, and what they say of the interpreter -/
noncomputable def xK0 : xKa := (nat_lit 0, [(nat_lit 2, nat_lit 0, nat_lit 0)], [], (xs_no xcl 11, nat_lit 0, nat_lit 0))
noncomputable def xL (bx : List xa) (k : Nat) (K : xKa) : xOn := xrun (xcall xP (nat_lit 20)) (nat_lit 20) (some bx) xt_2000 k K
noncomputable def xbind (o : xOn) (k : xKa → xOn) : xOn := Option.casesOn (motive := fun _ => xOn) o none (fun N => Sum.casesOn (motive := fun _ => xOn) N (fun K => k K) (fun r => some (.inr r)))
noncomputable def xfin1 (r : xRa) : Bool := Sum.casesOn (motive := fun _ => Bool) r (fun o => Option.casesOn (motive := fun _ => Bool) o false (fun v => xaeq v (0, 2147483649, 2147483649))) (fun _ => false)
noncomputable def xfinal (o : xOn) : Bool := Option.casesOn (motive := fun _ => Bool) o false (fun N => Sum.casesOn (motive := fun _ => Bool) N (fun _ => false) (fun r => xif (xfin1 r.1) (xif (Nat.ble r.2.2.1 2000) (Nat.ble r.2.2.2 1000000) false) false))
noncomputable def xtops (n : Nat) : List xa := Nat.rec (motive := fun _ => List xa) [] (fun _ ih => (nat_lit 0, nat_lit 0, nat_lit 4294967295) :: ih) n
/-- with no script: the constructors -/
noncomputable def xLn (k : Nat) (K : xKa) : xOn := xrun (xcall xP (nat_lit 20)) (nat_lit 20) none xt_2000 k K
noncomputable def xhead : xOn := xbind (xbind (xLn 3 xK0) (fun K => xLn 2 K)) (fun K => xLn 0 K)
/-- equality of states -/
noncomputable def xoeq {α : Type} (e : α → α → Bool) (a b : Option α) : Bool := Option.casesOn (motive := fun _ => Bool) a (Option.casesOn (motive := fun _ => Bool) b true (fun _ => false)) (fun p => Option.casesOn (motive := fun _ => Bool) b false (fun q => e p q))
theorem xoeq_ok {α : Type} {e : α → α → Bool} (he : ∀ p q, e p q = true → p = q) {a b : Option α} (h : xoeq e a b = true) : a = b := by
  cases a with
  | none => cases b with
    | none => rfl
    | some q => exact Bool.noConfusion h
  | some p => cases b with
    | none => exact Bool.noConfusion h
    | some q => rw [he p q h]
noncomputable def xseq {α : Type} (e : α → α → Bool) (n : Nat) : xs α n → xs α n → Bool := Nat.rec (motive := fun n => xs α n → xs α n → Bool) (fun (a b : Option α) => xoeq e a b)
  (fun n ih (a b : Option (xs α n × xs α n)) => xoeq (fun p q => xif (ih p.1 q.1) (ih p.2 q.2) false) a b) n
theorem xseq_ok {α : Type} {e : α → α → Bool} (he : ∀ p q, e p q = true → p = q) : ∀ (n : Nat) (a b : xs α n), xseq e n a b = true → a = b := by
  intro n
  induction n with
  | zero => intro a b h; exact xoeq_ok (α := α) he h
  | succ n ih =>
    intro a b h
    refine xoeq_ok (α := xs α n × xs α n) (e := fun p q => xif (xseq e n p.1 q.1) (xseq e n p.2 q.2) false) (fun p q hpq => ?_) h
    obtain ⟨h1, h2⟩ := xif_and hpq
    obtain ⟨p1, p2⟩ := p
    obtain ⟨q1, q2⟩ := q
    have e1 : p1 = q1 := ih _ _ h1
    have e2 : p2 = q2 := ih _ _ h2
    rw [e1, e2]
noncomputable def xleq (a : List xa) : List xa → Bool := List.rec (motive := fun _ => List xa → Bool) (fun b => List.casesOn (motive := fun _ => Bool) b true (fun _ _ => false)) (fun p _ ih b => List.casesOn (motive := fun _ => Bool) b false (fun q t => xif (xaeq p q) (ih t) false)) a
theorem xleq_ok : ∀ a b : List xa, xleq a b = true → a = b := by
  intro a
  induction a with
  | nil => intro b h; cases b with
    | nil => rfl
    | cons q t => exact Bool.noConfusion h
  | cons p a ih => intro b h; cases b with
    | nil => exact Bool.noConfusion h
    | cons q t =>
      have h : xif (xaeq p q) (xleq a t) false = true := h
      obtain ⟨h1, h2⟩ := xif_and h
      rw [xaeq_eq h1, ih t h2]
noncomputable def xceq (a b : xcl) : Bool := xif (Nat.beq a.1 b.1) (xif (Nat.beq a.2.1 b.2.1) (xif (Nat.beq a.2.2.1 b.2.2.1) (xif (xaeq a.2.2.2.1 b.2.2.2.1) (xif (xleq a.2.2.2.2.1 b.2.2.2.2.1) (xseq xaeq 17 a.2.2.2.2.2 b.2.2.2.2.2) false) false) false) false) false
theorem xceq_ok (a b : xcl) (h : xceq a b = true) : a = b := by
  unfold xceq at h
  obtain ⟨h1, h⟩ := xif_and h
  obtain ⟨h2, h⟩ := xif_and h
  obtain ⟨h3, h⟩ := xif_and h
  obtain ⟨h4, h⟩ := xif_and h
  obtain ⟨h5, h6⟩ := xif_and h
  obtain ⟨a1, a2, a3, a4, a5, a6⟩ := a
  obtain ⟨b1, b2, b3, b4, b5, b6⟩ := b
  have e1 : a1 = b1 := xbeq h1
  have e2 : a2 = b2 := xbeq h2
  have e3 : a3 = b3 := xbeq h3
  have e4 : a4 = b4 := xaeq_eq h4
  have e5 : a5 = b5 := xleq_ok _ _ h5
  have e6 : a6 = b6 := xseq_ok (fun p q => xaeq_eq) 17 _ _ h6
  rw [e1, e2, e3, e4, e5, e6]
noncomputable def xKeq (a b : xKa) : Bool := xif (Nat.beq a.1 b.1) (xif (xleq a.2.1 b.2.1) (xif (xleq a.2.2.1 b.2.2.1) (xif (Nat.beq a.2.2.2.2.1 b.2.2.2.2.1) (xif (Nat.beq a.2.2.2.2.2 b.2.2.2.2.2) (xseq xceq 11 a.2.2.2.1 b.2.2.2.1) false) false) false) false) false
theorem xKeq_ok (a b : xKa) (h : xKeq a b = true) : a = b := by
  unfold xKeq at h
  obtain ⟨h1, h⟩ := xif_and h
  obtain ⟨h2, h⟩ := xif_and h
  obtain ⟨h3, h⟩ := xif_and h
  obtain ⟨h4, h⟩ := xif_and h
  obtain ⟨h5, h6⟩ := xif_and h
  obtain ⟨a1, a2, a3, a4, a5, a6⟩ := a
  obtain ⟨b1, b2, b3, b4, b5, b6⟩ := b
  have e1 : a1 = b1 := xbeq h1
  have e2 : a2 = b2 := xleq_ok _ _ h2
  have e3 : a3 = b3 := xleq_ok _ _ h3
  have e5 : a5 = b5 := xbeq h4
  have e6 : a6 = b6 := xbeq h5
  have e4 : a4 = b4 := xseq_ok xceq_ok 11 _ _ h6
  rw [e1, e2, e3, e4, e5, e6]
noncomputable def xOeq (o : xOn) (K : xKa) : Bool := Option.casesOn (motive := fun _ => Bool) o false (fun N => Sum.casesOn (motive := fun _ => Bool) N (fun L => xKeq L K) (fun _ => false))
theorem xOeq_ok {o : xOn} {K : xKa} (h : xOeq o K = true) : o = some (.inl K) := by
  cases o with
  | none => exact Bool.noConfusion h
  | some N => cases N with
    | inl L => rw [xKeq_ok L K h]
    | inr r => exact Bool.noConfusion h
