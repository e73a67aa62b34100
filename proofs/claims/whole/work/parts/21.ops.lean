/-! The abstract machine's steps -/
abbrev xo : Type := Nat × Nat × Nat × Nat × Nat × List Nat
abbrev xcl : Type := Nat × Nat × Nat × xa × List xa × xs xa 17
abbrev xme : Type := xs xcl 11 × Nat × Nat
abbrev xKa : Type := Nat × List xa × List xa × xme
abbrev xRa : Type := Option xa ⊕ Nat
abbrev xNa : Type := xKa ⊕ (xRa × xme)
abbrev yxFa : Type := Nat → List xa → xme → Option (xRa × xme)
abbrev xha : Type := Option (Nat × Nat × Nat × Nat × Nat)
/-- a method: how many doublings its run may take, its locals, its handler, its steps -/
abbrev xmt : Type := Nat × Nat × xha × List (Nat × xo)
abbrev xif {α : Type} (c : Bool) (t e : α) : α := Bool.casesOn (motive := fun _ => α) c e t
/-- locals -/
noncomputable def xl_get (l : List xa) : Nat → Option xa := List.rec (motive := fun _ => Nat → Option xa) (fun _ => none) (fun a _ ih i => Nat.casesOn (motive := fun _ => Option xa) i (some a) (fun j => ih j)) l
noncomputable def xl_pad (i : Nat) (v : xa) : List xa := Nat.rec (motive := fun _ => List xa) [v] (fun _ ih => (9, 0, 0) :: ih) i
noncomputable def xl_set (l : List xa) : Nat → xa → List xa := List.rec (motive := fun _ => Nat → xa → List xa) (fun i v => xl_pad i v) (fun a t ih i v => Nat.casesOn (motive := fun _ => List xa) i (v :: t) (fun j => a :: ih j v)) l
noncomputable def xl_kill (l : List xa) (i : Nat) : List xa := Nat.casesOn (motive := fun _ => List xa) i l (fun j => Option.casesOn (motive := fun _ => List xa) (xl_get l j) l (fun a => xif (Nat.beq a.1 1) (xl_set l j (9, 0, 0)) l))
noncomputable def xl_s1 (l : List xa) (i : Nat) (v : xa) : List xa := xl_set (xl_kill l i) i v
noncomputable def xl_s2 (l : List xa) (i : Nat) (v : xa) : List xa := xl_set (xl_set (xl_kill l i) (Nat.succ i) (9, 0, 0)) i v
/-- an argument list as locals -/
noncomputable def xl_args (as : List xa) : List xa := List.rec (motive := fun _ => List xa) [] (fun a _ ih => xif (Nat.beq a.1 1) (a :: (9, 0, 0) :: ih) (a :: ih)) as
noncomputable def xsum (as : List xa) : Nat := List.rec (motive := fun _ => Nat) 0 (fun a _ ih => xif (Nat.beq a.1 1) (Nat.succ (Nat.succ ih)) (Nat.succ ih)) as
noncomputable def xsp (n : Nat) : List xa → List xa → Option (List xa × List xa) := Nat.rec (motive := fun _ => List xa → List xa → Option (List xa × List xa)) (fun acc st => some (acc, st)) (fun _ ih acc st => List.casesOn (motive := fun _ => Option (List xa × List xa)) st none (fun v r => ih (v :: acc) r)) n
noncomputable def xcon (a : xa) : Bool := Nat.beq a.2.1 a.2.2
noncomputable def xaeq (a b : xa) : Bool := xif (Nat.beq a.1 b.1) (xif (Nat.beq a.2.1 b.2.1) (Nat.beq a.2.2 b.2.2) false) false
abbrev xtop : xa := (0, 0, 4294967295)
abbrev xTop : xa := (1, 0, 18446744073709551615)
/-- comparisons: 1 eq, 2 ne, 3 lt, 4 ge, 5 gt, 6 le -/
noncomputable def xlt (x y : xa) : Option Bool := xif (Nat.blt x.2.2 y.2.1) (some true) (xif (Nat.ble y.2.2 x.2.1) (some false) none)
noncomputable def xeq (x y : xa) : Option Bool := xif (Nat.blt x.2.2 y.2.1) (some false) (xif (Nat.blt y.2.2 x.2.1) (some false) (xif (xif (xcon x) (xcon y) false) (some true) none))
noncomputable def xnot (b : Option Bool) : Option Bool := Option.casesOn (motive := fun _ => Option Bool) b none (fun c => some (xif c false true))
noncomputable def xcmp (k : Nat) (x y : xa) : Option Bool := match k with
  | 1 => xeq x y
  | 2 => xnot (xeq x y)
  | 3 => xlt x y
  | 4 => xnot (xlt x y)
  | 5 => xlt y x
  | 6 => xnot (xlt y x)
  | _ => none
/-- two ints -/
noncomputable def xi2 (s : Nat) (x y : Int32) : Int32 := match s with
  | 0 => x + y
  | 1 => x - y
  | 2 => x * y
  | 3 => x &&& y
  | 4 => x ||| y
  | 5 => x <<< (y &&& 31)
  | 6 => x >>> (y &&& 31)
  | _ => (x.toUInt32 >>> (y.toUInt32 &&& Int32.toUInt32 31)).toInt32
noncomputable def xc2 (s l1 l2 : Nat) : Nat := match s with
  | 0 => Nat.mod (Nat.add (Nat.add l1 l2) 2147483648) 4294967296
  | 1 => Nat.mod (Nat.sub (Nat.add l1 6442450944) l2) 4294967296
  | s => xa_e (xi2 s (xa_d l1) (xa_d l2))
/-- not both known -/
noncomputable def xn2 (s : Nat) (x y : xa) : xa := match s with
  | 0 => xif (Nat.ble 2147483648 (Nat.add x.2.1 y.2.1)) (xif (Nat.blt (Nat.add x.2.2 y.2.2) 6442450944) (0, Nat.sub (Nat.add x.2.1 y.2.1) 2147483648, Nat.sub (Nat.add x.2.2 y.2.2) 2147483648) xtop) xtop
  | 2 => xif (Nat.ble 2147483648 x.2.1) (xif (Nat.ble 2147483648 y.2.1) (xif (Nat.blt (Nat.mul (Nat.sub x.2.2 2147483648) (Nat.sub y.2.2 2147483648)) 2147483648) (0, Nat.add (Nat.mul (Nat.sub x.2.1 2147483648) (Nat.sub y.2.1 2147483648)) 2147483648, Nat.add (Nat.mul (Nat.sub x.2.2 2147483648) (Nat.sub y.2.2 2147483648)) 2147483648) xtop) xtop) xtop
  | 3 => xif (xcon y) (xif (Nat.ble 2147483648 y.2.1) (0, 2147483648, y.2.1) xtop) xtop
  | _ => xtop
noncomputable def xr2 (s : Nat) (x y : xa) : xa := xif (xif (xcon x) (xcon y) false) (xg (xc2 s x.2.1 y.2.1) (fun c => (0, c, c))) (xn2 s x y)
/-- longs -/
noncomputable def xj2 (s : Nat) (x y : Int64) : Int64 := match s with
  | 0 => x + y
  | 1 => x * y
  | _ => x &&& y
noncomputable def xR2 (s : Nat) (x y : xa) : xa := xif (xif (xcon x) (xcon y) false) (xg (xa_E (xj2 s (xa_D x.2.1) (xa_D y.2.1))) (fun c => (1, c, c))) xTop
noncomputable def xlc (x y : xa) : Option xa := xif (Nat.blt x.2.2 y.2.1) (some (0, 2147483647, 2147483647)) (xif (Nat.blt y.2.2 x.2.1) (some (0, 2147483649, 2147483649)) (xif (xif (xcon x) (xcon y) false) (some (0, 2147483648, 2147483648)) none))
/-- memory -/
noncomputable def xm_cell (A : xme) (a : Nat) : Option xcl := xif (Nat.ble 64 a) (xif (Nat.blt a 2112) (xs_get 11 A.1 (Nat.sub a 64)) none) none
noncomputable def xm_put (A : xme) (a : Nat) (c : xcl) : xme := (xs_set 11 A.1 (Nat.sub a 64) c, A.2)
noncomputable def xm_new (A : xme) (c : xcl) (n : Nat) : xme := xg (Nat.succ A.2.1) (fun k => xg (Nat.add A.2.2 n) (fun z => (xs_set 11 A.1 A.2.1 c, k, z)))
noncomputable def xel (c : xcl) (i : Nat) : xa := Option.casesOn (motive := fun _ => xa) (xs_get 17 c.2.2.2.2.2 i) c.2.2.2.1 (fun v => v)
noncomputable def xm_arr (A : xme) (a kk : Nat) : Option xcl := match xm_cell A a with
  | some c => xif (Nat.beq c.1 1) (xif (Nat.beq c.2.1 kk) (some c) none) none
  | none => none
/-- all elements from i on, n of them, are v -/
noncomputable def xall (c : xcl) (v : xa) (n : Nat) : Nat → Bool := Nat.rec (motive := fun _ => Nat → Bool) (fun _ => true) (fun _ ih i => xif (xaeq (xel c i) v) (ih (Nat.succ i)) false) n
noncomputable def xload (c : xcl) (i : xa) : Option xa := xif (Nat.ble 2147483648 i.2.1) (xif (Nat.blt i.2.2 (Nat.add c.2.2.1 2147483648)) (xif (xcon i) (some (xel c (Nat.sub i.2.1 2147483648))) (xif (xall c (xel c (Nat.sub i.2.1 2147483648)) (Nat.succ (Nat.sub i.2.2 i.2.1)) (Nat.sub i.2.1 2147483648)) (some (xel c (Nat.sub i.2.1 2147483648))) none)) none) none
noncomputable def xstore (A : xme) (a : Nat) (c : xcl) (i : xa) (w : xa) : Option xme := xif (xcon i) (xif (Nat.ble 2147483648 i.2.1) (xif (Nat.blt i.2.1 (Nat.add c.2.2.1 2147483648)) (xif (xaeq (xel c (Nat.sub i.2.1 2147483648)) w) (some A) (some (xm_put A a (c.1, c.2.1, c.2.2.1, c.2.2.2.1, c.2.2.2.2.1, xs_set 17 c.2.2.2.2.2 (Nat.sub i.2.1 2147483648) w)))) none) none) none
/-- the first n elements are ints -/
noncomputable def xalt (c : xcl) (n : Nat) : Bool := Nat.rec (motive := fun _ => Bool) true (fun i ih => xif (Nat.beq (xel c i).1 0) ih false) n
/-- what a narrow element becomes: 0 boolean, 1 byte, 2 char -/
noncomputable def xnr (k : Nat) (x : Int32) : Int32 := match k with
  | 0 => x &&& 1
  | 1 => x.toInt8.toInt32
  | _ => x.toUInt32.toUInt16.toUInt32.toInt32
noncomputable def xnw (k : Nat) (v : xa) : xa := xif (xcon v) (xg (xa_e (xnr k (xa_d v.2.1))) (fun c => (0, c, c))) xtop
/-- the default of a field or element, by a type's code: 0 int, 1 long, 2 reference, 3 boolean -/
noncomputable def xdf (t : Nat) : xa := match t with
  | 1 => (1, 9223372036854775808, 9223372036854775808)
  | 2 => (3, 0, 0)
  | _ => (0, 2147483648, 2147483648)
noncomputable def xdfs (l : List Nat) : List xa := List.rec (motive := fun _ => List xa) [] (fun t _ ih => xdf t :: ih) l
/-- may a field of that type hold the value? -/
noncomputable def xfit (t : Nat) (v : xa) : Bool := match t with
  | 0 => Nat.beq v.1 0
  | 1 => Nat.beq v.1 1
  | 2 => xif (Nat.beq v.1 2) true (Nat.beq v.1 3)
  | _ => xif (Nat.beq v.1 0) (xif (Nat.ble 2147483648 v.2.1) (Nat.ble v.2.2 2147483649) false) false
abbrev xOn : Type := Option xNa
noncomputable def xgo (pc : Nat) (lv st : List xa) (A : xme) : xOn := some (.inl (pc, lv, st, A))
/-- group 1: locals -/
noncomputable def xG1 (s a b nx : Nat) (lv st : List xa) (A : xme) : xOn := match s with
  | 0 => (match xl_get lv a with | some v => xif (Nat.beq v.1 0) (xgo nx lv (v :: st) A) none | none => none)
  | 1 => (match xl_get lv a with | some v => xif (Nat.beq v.1 1) (xgo nx lv (v :: st) A) none | none => none)
  | 2 => (match xl_get lv a with | some v => xif (xfit 2 v) (xgo nx lv (v :: st) A) none | none => none)
  | 3 => (match st with | v :: r => xif (Nat.beq v.1 0) (xgo nx (xl_s1 lv a v) r A) none | [] => none)
  | 4 => (match st with | v :: r => xif (Nat.beq v.1 1) (xgo nx (xl_s2 lv a v) r A) none | [] => none)
  | 5 => (match st with | v :: r => xif (xfit 2 v) (xgo nx (xl_s1 lv a v) r A) none | [] => none)
  | 6 => (match xl_get lv a with | some v => xif (Nat.beq v.1 0) (xw (xr2 0 v (0, b, b)) (fun w => xgo nx (xl_s1 lv a w) st A)) none | none => none)
  | _ => none
/-- group 2: conditional jumps -/
noncomputable def xG2 (s a nx : Nat) (lv st : List xa) (A : xme) : xOn := xif (Nat.ble s 6) (match st with | x :: r => xif (Nat.beq x.1 0) (match xcmp s x (0, 2147483648, 2147483648) with | some b => xgo (xif b a nx) lv r A | none => none) none | [] => none) (match st with | y :: x :: r => xif (xif (Nat.beq x.1 0) (Nat.beq y.1 0) false) (match xcmp (Nat.sub s 6) x y with | some b => xgo (xif b a nx) lv r A | none => none) none | _ => none)
/-- group 3: getfield -/
noncomputable def yxG3 (a b nx : Nat) (lv st : List xa) (A : xme) : xOn := match st with
  | x :: r => xif (Nat.beq x.1 2) (match xm_cell A x.2.1 with
    | some c => xif (xif (Nat.beq c.1 0) (Nat.beq c.2.1 a) false) (match xl_get c.2.2.2.2.1 b with | some v => xw v (fun v => xgo nx lv (v :: r) A) | none => none) none
    | none => none) none
  | [] => none
/-- group 4: putfield -/
noncomputable def xG4 (s a b nx : Nat) (lv st : List xa) (A : xme) : xOn := match st with
  | v :: x :: r => xif (xif (Nat.beq x.1 2) (xfit s v) false) (match xm_cell A x.2.1 with
    | some c => xif (xif (Nat.beq c.1 0) (Nat.beq c.2.1 a) false) (match xl_get c.2.2.2.2.1 b with | some _ => xgo nx lv r (xm_put A x.2.1 (c.1, c.2.1, c.2.2.1, c.2.2.2.1, xl_set c.2.2.2.2.1 b v, c.2.2.2.2.2)) | none => none) none
    | none => none) none
  | _ => none
/-- group 5: array loads; the script; String constants' bytes -/
noncomputable def xG5 (S : Option (List xa)) (s nx : Nat) (lv st : List xa) (A : xme) : xOn := match st with
  | i :: x :: r => xif (xif (Nat.beq i.1 0) (Nat.beq x.1 2) false) (xif (Nat.ble 64 x.2.1) (match xm_cell A x.2.1 with
      | some c => xif (xif (Nat.beq c.1 1) (xif (Nat.beq s 5) (Nat.ble 5 c.2.1) (xif (Nat.beq s 1) (Nat.ble c.2.1 1) (Nat.beq c.2.1 s))) false) (match xload c i with | some v => xw v (fun v => xgo nx lv (v :: r) A) | none => none) none
      | none => none) (xif (Nat.beq x.2.1 0) (xif (Nat.beq s 3) (match S with | some bx => xif (xif (xcon i) (Nat.ble 2147483648 i.2.1) false) (match xl_get bx (Nat.sub i.2.1 2147483648) with | some v => xgo nx lv (v :: r) A | none => none) none | none => none) none) (xif (xif (Nat.beq s 1) (xif (xif (Nat.ble 11 x.2.1) (Nat.ble x.2.1 20) false) (xif (xcon i) (Nat.ble 2147483648 i.2.1) false) false) false) (match (xj_sB (Nat.sub x.2.1 11))[Nat.sub i.2.1 2147483648]? with | some v => xg (xa_e v) (fun c => xgo nx lv ((0, c, c) :: r) A) | none => none) none))) none
  | _ => none
noncomputable def xfin (nx : Nat) (lv r : List xa) (o : Option xme) : xOn := match o with | some B => xgo nx lv r B | none => none
/-- group 6: array stores -/
noncomputable def xG6 (s nx : Nat) (lv st : List xa) (A : xme) : xOn := match st with
  | v :: i :: x :: r => xif (xif (Nat.beq i.1 0) (Nat.beq x.1 2) false) (match xm_cell A x.2.1 with
    | some c => xif (Nat.beq c.1 1) (xif (Nat.beq s 5) (xif (Nat.beq v.1 3) (xif (Nat.ble 5 c.2.1) (xfin nx lv r (xstore A x.2.1 c i v)) none) (xif (Nat.beq v.1 2) (match xm_cell A v.2.1 with | some ob => xif (xif (Nat.beq ob.1 0) (Nat.beq c.2.1 (Nat.add ob.2.1 5)) false) (xfin nx lv r (xstore A x.2.1 c i v)) none | none => none) none)) (xif (Nat.beq s 4) (xif (xif (Nat.beq c.2.1 4) (Nat.beq v.1 1) false) (xfin nx lv r (xstore A x.2.1 c i v)) none) (xif (Nat.beq v.1 0) (xif (Nat.beq s 3) (xif (Nat.beq c.2.1 3) (xfin nx lv r (xstore A x.2.1 c i v)) none) (xif (xif (Nat.beq s 1) (Nat.ble c.2.1 1) (Nat.beq c.2.1 s)) (xw (xnw c.2.1 v) (fun w => xfin nx lv r (xstore A x.2.1 c i w))) none)) none))) none
    | none => none) none
  | _ => none
/-- group 7: goto, ifnull, ifnonnull -/
noncomputable def xG7 (s a nx : Nat) (lv st : List xa) (A : xme) : xOn := match s with
  | 0 => xgo a lv st A
  | 1 => (match st with | x :: r => xif (Nat.beq x.1 3) (xgo a lv r A) (xif (Nat.beq x.1 2) (xgo nx lv r A) none) | [] => none)
  | 2 => (match st with | x :: r => xif (Nat.beq x.1 3) (xgo nx lv r A) (xif (Nat.beq x.1 2) (xgo a lv r A) none) | [] => none)
  | _ => none
/-- group 8: two ints; 8: rem -/
noncomputable def xG8r (nx : Nat) (lv st : List xa) (A : xme) : xOn := match st with
  | y :: x :: r => xif (xif (Nat.beq x.1 0) (Nat.beq y.1 0) false) (xif (xif (xif (xcon x) (xcon y) false) (xif (Nat.beq y.2.1 2147483648) false true) false) (xg (xa_e (xa_d x.2.1 - xa_d x.2.1 / xa_d y.2.1 * xa_d y.2.1)) (fun c => xgo nx lv ((0, c, c) :: r) A)) none) none
  | _ => none
noncomputable def xG8n (s nx : Nat) (lv st : List xa) (A : xme) : xOn := match st with
  | y :: x :: r => xif (xif (Nat.beq x.1 0) (Nat.beq y.1 0) false) (xw (xr2 s x y) (fun v => xgo nx lv (v :: r) A)) none
  | _ => none
noncomputable def xG8 (s nx : Nat) (lv st : List xa) (A : xme) : xOn := xif (Nat.beq s 8) (xG8r nx lv st A) (xG8n s nx lv st A)
/-- group 9: i2b, i2c, i2l; ladd, lmul, land, lcmp, lshr -/
noncomputable def xG9u (s : Nat) (x : xa) : xa := match s with
  | 0 => xnw 1 x
  | 1 => xnw 2 x
  | _ => (1, Nat.add x.2.1 9223372034707292160, Nat.add x.2.2 9223372034707292160)
noncomputable def xG9a (s nx : Nat) (lv st : List xa) (A : xme) : xOn := match st with
  | x :: r => xif (Nat.beq x.1 0) (xw (xG9u s x) (fun v => xgo nx lv (v :: r) A)) none
  | [] => none
noncomputable def xG9b (nx : Nat) (lv st : List xa) (A : xme) : xOn := match st with
  | y :: x :: r => xif (xif (Nat.beq x.1 1) (Nat.beq y.1 0) false) (xif (xif (xcon x) (xcon y) false) (xg (xa_E (xa_D x.2.1 >>> ((xa_d y.2.1).toInt64 &&& 63))) (fun c => xgo nx lv ((1, c, c) :: r) A)) (xgo nx lv (xTop :: r) A)) none
  | _ => none
noncomputable def xG9c (nx : Nat) (lv st : List xa) (A : xme) : xOn := match st with
  | y :: x :: r => xif (xif (Nat.beq x.1 1) (Nat.beq y.1 1) false) (match xlc x y with | some v => xgo nx lv (v :: r) A | none => none) none
  | _ => none
noncomputable def xG9d (s nx : Nat) (lv st : List xa) (A : xme) : xOn := match st with
  | y :: x :: r => xif (xif (Nat.beq x.1 1) (Nat.beq y.1 1) false) (xw (xR2 (Nat.sub s 3) x y) (fun v => xgo nx lv (v :: r) A)) none
  | _ => none
noncomputable def xG9 (s nx : Nat) (lv st : List xa) (A : xme) : xOn := xif (Nat.ble s 2) (xG9a s nx lv st A) (xif (Nat.beq s 7) (xG9b nx lv st A) (xif (Nat.beq s 6) (xG9c nx lv st A) (xG9d s nx lv st A)))
/-- group 10: dup, dup2 of two -/
noncomputable def xG10 (s nx : Nat) (lv st : List xa) (A : xme) : xOn := match s with
  | 0 => (match st with | x :: r => xif (Nat.beq x.1 1) none (xgo nx lv (x :: x :: r) A) | [] => none)
  | _ => (match st with | x :: y :: r => xif (Nat.beq x.1 1) none (xif (Nat.beq y.1 1) none (xgo nx lv (x :: y :: x :: y :: r) A)) | _ => none)
/-- group 11: returns -/
noncomputable def xG11 (s a b : Nat) (st : List xa) (A : xme) : xOn := match s with
  | 0 => (match st with | [] => some (.inr (.inl none, A)) | _ :: _ => none)
  | 1 => (match st with | [v] => xif (xif (Nat.beq v.1 0) (xif (Nat.ble a v.2.1) (Nat.ble v.2.2 b) false) false) (some (.inr (.inl (some v), A))) none | _ => none)
  | 2 => (match st with | [v] => xif (Nat.beq v.1 1) (some (.inr (.inl (some v), A))) none | _ => none)
  | _ => (match st with | [v] => xif (xfit 2 v) (some (.inr (.inl (some v), A))) none | _ => none)
/-- what comes of a call -/
noncomputable def xhan (h : xha) (k pc : Nat) (lv : List xa) (A : xme) : xOn := match h with
  | none => some (.inr (.inr k, A))
  | some t => xif (xif (Nat.ble t.1 pc) (xif (Nat.blt pc t.2.1) (Nat.beq k t.2.2.2.2) false) false) (xgo t.2.2.1 (xl_set (xl_kill lv t.2.2.2.1) t.2.2.2.1 (9, 0, 0)) [] A) none
noncomputable def xret (h : xha) (nt : Bool) (pc nx : Nat) (lv rest : List xa) (r : xRa) (A : xme) : xOn := match r with
  | .inl none => xgo nx lv rest A
  | .inl (some v) => xgo nx lv (v :: rest) A
  | .inr k => xif nt none (xhan h k pc lv A)
noncomputable def xout (h : xha) (nt : Bool) (pc nx : Nat) (lv rest : List xa) (r : Option (xRa × xme)) : xOn := match r with
  | some q => xret h nt pc nx lv rest q.1 q.2
  | none => none
/-- a list of values, each worked out before it is handed on -/
noncomputable def yxfk {α : Type} (l : List xa) : (List xa → α) → α := List.rec (motive := fun _ => (List xa → α) → α) (fun k => k []) (fun a _ ih k => xw a (fun a => ih (fun t => k (a :: t)))) l
theorem xfk_eq {α : Type} (l : List xa) : ∀ k : List xa → α, yxfk l k = k l := by
  induction l with
  | nil => intro k; rfl
  | cons a l ih =>
    intro k
    show xw a (fun a => yxfk l (fun t => k (a :: t))) = _
    rw [xw_eq, ih]
/-- group 12: calls: 0 virtual, 1 special, 2 static, 3 String's -/
noncomputable def xG12 (call : yxFa) (h : xha) (s a b : Nat) (l : List Nat) (pc nx : Nat) (lv st : List xa) (A : xme) : xOn := match xsp b [] st with
  | none => none
  | some q => match s with
    | 2 => xif (Nat.ble (xsum q.2) 8) (yxfk q.1 (fun as => xout h false pc nx lv q.2 (call a as A))) none
    | s => (match q.2 with
      | [] => none
      | x :: rest => xif (xif (Nat.beq x.1 2) (Nat.ble (xsum rest) 8) false) (match s with
        | 0 => (match xm_cell A x.2.1 with
          | some c => (match l with | ci :: _ => xif (xif (Nat.beq c.1 0) (Nat.beq c.2.1 ci) false) (yxfk (x :: q.1) (fun as => xout h false pc nx lv rest (call a as A))) none | [] => none)
          | none => none)
        | 1 => yxfk (x :: q.1) (fun as => xout h true pc nx lv rest (call a as A))
        | _ => xif (xif (Nat.ble 1 x.2.1) (Nat.ble x.2.1 10) false) (yxfk (x :: q.1) (fun as => xout h false pc nx lv rest (call a as A))) none) none)
/-- group 13: new, newarray, anewarray, clone, checkcast, arraylength -/
noncomputable def xG13 (S : Option (List xa)) (s a b nx : Nat) (l : List Nat) (lv st : List xa) (A : xme) : xOn := match s with
  | 0 => xif (Nat.blt A.2.1 2048) (xw (2, Nat.add 64 A.2.1, Nat.add 64 A.2.1) (fun v => xgo nx lv (v :: st) (xm_new A (0, a, 0, (3, 0, 0), xdfs l, xs_no xa 17) b))) none
  | 1 => (match st with | n :: r => xif (xif (xif (Nat.beq n.1 0) (xcon n) false) (xif (Nat.ble 2147483648 n.2.1) (xif (Nat.ble n.2.1 2147614720) (Nat.blt A.2.1 2048) false) false) false) (xg (Nat.sub n.2.1 2147483648) (fun m => xw (2, Nat.add 64 A.2.1, Nat.add 64 A.2.1) (fun v => xgo nx lv (v :: r) (xm_new A (1, a, m, xdf b, [], xs_no xa 17) m)))) none | [] => none)
  | 2 => (match st with | x :: r => xif (xif (Nat.beq x.1 2) (xif (Nat.ble (xsum r) 8) (Nat.blt A.2.1 2048) false) false) (match xm_arr A x.2.1 a with | some c => xif (xif (Nat.beq a 3) (xalt c c.2.2.1) false) (xw (2, Nat.add 64 A.2.1, Nat.add 64 A.2.1) (fun v => xgo nx lv (v :: r) (xm_new A c c.2.2.1))) none | none => none) none | [] => none)
  | 3 => (match st with | x :: r => xif (Nat.beq x.1 2) (match xm_arr A x.2.1 a with | some _ => xgo nx lv (x :: r) A | none => none) none | [] => none)
  | _ => (match st with | x :: r => xif (Nat.beq x.1 2) (xif (Nat.ble 64 x.2.1) (match xm_cell A x.2.1 with | some c => xif (Nat.beq c.1 1) (xg (Nat.add c.2.2.1 2147483648) (fun n => xgo nx lv ((0, n, n) :: r) A)) none | none => none) (xif (Nat.beq x.2.1 0) (match S with | some bx => xg (Nat.add bx.length 2147483648) (fun n => xgo nx lv ((0, n, n) :: r) A) | none => none) (xif (xif (Nat.ble 11 x.2.1) (Nat.ble x.2.1 20) false) (xg (Nat.add (xj_sB (Nat.sub x.2.1 11)).length 2147483648) (fun n => xgo nx lv ((0, n, n) :: r) A)) none))) none | [] => none)
/-- group 14: tableswitch -/
noncomputable def xG14 (a b : Nat) (l : List Nat) (lv st : List xa) (A : xme) : xOn := match st with
  | x :: r => xif (Nat.beq x.1 0) (xif (Nat.blt x.2.2 a) (xgo b lv r A) (xif (Nat.ble (Nat.add a l.length) x.2.1) (xgo b lv r A) (xif (xif (xcon x) (Nat.ble a x.2.1) false) (match l[Nat.sub x.2.1 a]? with | some t => xgo t lv r A | none => none) none))) none
  | [] => none
/-- group 15: Object's constructor, checkIndex, throw, a String's value and coder -/
noncomputable def xG15 (h : xha) (d s a nx : Nat) (lv st : List xa) (A : xme) : xOn := match s with
  | 0 => (match st with | x :: r => xif (xif (Nat.beq x.1 2) (Nat.ble (xsum r) 8) false) (xgo nx lv r A) none | [] => none)
  | 1 => (match st with | n :: x :: r => xif (xif (xif (Nat.beq n.1 0) (Nat.beq x.1 0) false) (xif (Nat.ble 2147483648 x.2.1) (xif (Nat.blt x.2.2 n.2.1) (xif (Nat.ble 1 d) (Nat.ble (xsum r) 8) false) false) false) false) (xgo nx lv r A) none | _ => none)
  | 2 => (match h with | none => (match st with | [] => xif (xif (Nat.ble 5 d) (Nat.blt A.2.1 2048) false) (some (.inr (.inr a, (A.1, Nat.succ A.2.1, Nat.add A.2.2 6)))) none | _ :: _ => none) | some _ => none)
  | 3 => (match st with | x :: r => xif (xif (Nat.beq x.1 2) (xif (Nat.ble 1 x.2.1) (Nat.ble x.2.1 10) false) false) (xw (2, Nat.add x.2.1 10, Nat.add x.2.1 10) (fun v => xgo nx lv (v :: r) A)) none | [] => none)
  | _ => (match st with | x :: r => xif (xif (Nat.beq x.1 2) (xif (Nat.ble 1 x.2.1) (Nat.ble x.2.1 10) false) false) (xgo nx lv ((0, 2147483648, 2147483648) :: r) A) none | [] => none)
/-- a step -/
noncomputable def xst (call : yxFa) (d : Nat) (S : Option (List xa)) (h : xha) (q : xo) (pc : Nat) (lv st : List xa) (A : xme) : xOn :=
  match q with
  | (g, s, a, b, nx, l) => xif (Nat.ble g 3) (xif (Nat.ble g 1) (xif (Nat.beq g 0) (xgo nx lv ((s, a, a) :: st) A) (xG1 s a b nx lv st A)) (xif (Nat.beq g 2) (xG2 s a nx lv st A) (yxG3 a b nx lv st A))) (xif (Nat.ble g 7) (xif (Nat.ble g 5) (xif (Nat.beq g 4) (xG4 s a b nx lv st A) (xG5 S s nx lv st A)) (xif (Nat.beq g 6) (xG6 s nx lv st A) (xG7 s a nx lv st A))) (xif (Nat.ble g 11) (xif (Nat.ble g 9) (xif (Nat.beq g 8) (xG8 s nx lv st A) (xG9 s nx lv st A)) (xif (Nat.beq g 10) (xG10 s nx lv st A) (xG11 s a b st A))) (xif (Nat.ble g 13) (xif (Nat.beq g 12) (xG12 call h s a b l pc nx lv st A) (xG13 S s a b nx l lv st A)) (xif (Nat.beq g 14) (xG14 a b l lv st A) (xG15 h d s a nx lv st A)))))
noncomputable def xat (l : List (Nat × xo)) (pc : Nat) : Option xo := List.rec (motive := fun _ => Option xo) none (fun r _ ih => xif (Nat.beq r.1 pc) (some r.2) ih) l
noncomputable def xone (call : yxFa) (d : Nat) (S : Option (List xa)) (m : xmt) (K : xKa) : xOn := match K with
  | (pc, lv, st, A) => match xat m.2.2.2 pc with | some q => xst call d S m.2.2.1 q pc lv st A | none => none
/-- 2^k steps at most -/
noncomputable def xrun (call : yxFa) (d : Nat) (S : Option (List xa)) (m : xmt) (k : Nat) : xKa → xOn := Nat.rec (motive := fun _ => xKa → xOn) (fun K => xone call d S m K) (fun _ ih K => match ih K with | some (.inl K2) => ih K2 | r => r) k
noncomputable def xcall (P : Nat → Option xmt) (d : Nat) : yxFa := Nat.rec (motive := fun _ => yxFa) (fun _ _ _ => none) (fun d ih j as A => match P j with
    | some m => xif (Nat.ble (xsum as) m.2.1) (match xrun ih d none m m.1 (0, xl_args as, [], A) with | some (.inr r) => some r | _ => none) none
    | none => none) d
