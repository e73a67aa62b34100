/-! What the functions g.., c.. are made of -/
abbrev xG_ : Type := Nat → Nat → Int
def xwr (a : Int) : Int := (Int32.ofInt a).toInt
def xup2 (G : xG_) (o i : Nat) (v : Int) : xG_ := fun p j => if p = o ∧ j = i then v else G p j
def xl_T : List (Nat × Nat × Nat) := [(1, 15, 107), (2, 3, 16), (1, 14, 38), (2, 4, 16), (2, 3, 16), (2, 3, 16), (2, 3, 16), (2, 3, 16), (2, 0, 16), (2, 0, 16), (2, 0, 16), (2, 3, 420), (2, 3, 420), (2, 3, 420), (2, 3, 420), (2, 3, 25), (2, 3, 25), (2, 3, 25), (2, 3, 25), (2, 3, 25), (2, 3, 25), (2, 3, 25), (2, 3, 25), (2, 3, 100), (2, 3, 100), (2, 4, 200), (2, 3, 200), (2, 3, 200), (2, 3, 200), (2, 3, 200), (2, 3, 200), (2, 3, 200), (2, 3, 200), (2, 3, 800), (2, 4, 800), (2, 3, 6200), (2, 4, 6200), (1, 14, 38), (2, 4, 16), (2, 3, 16), (2, 3, 16), (2, 3, 16), (2, 3, 16), (2, 0, 16), (2, 0, 16), (2, 0, 16), (2, 3, 420), (2, 3, 420), (2, 3, 420), (2, 3, 420), (2, 3, 25), (2, 3, 25), (2, 3, 25), (2, 3, 25), (2, 3, 25), (2, 3, 25), (2, 3, 25), (2, 3, 25), (2, 3, 100), (2, 3, 100), (2, 4, 200), (2, 3, 200), (2, 3, 200), (2, 3, 200), (2, 3, 200), (2, 3, 200), (2, 3, 200), (2, 3, 200), (2, 3, 800), (2, 4, 800), (2, 3, 6200), (2, 4, 6200), (1, 14, 38), (2, 4, 16), (2, 3, 16), (2, 3, 16), (2, 3, 16), (2, 3, 16), (2, 0, 16), (2, 0, 16), (2, 0, 16), (2, 3, 420), (2, 3, 420), (2, 3, 420), (2, 3, 420), (2, 3, 25), (2, 3, 25), (2, 3, 25), (2, 3, 25), (2, 3, 25), (2, 3, 25), (2, 3, 25), (2, 3, 25), (2, 3, 100), (2, 3, 100), (2, 4, 200), (2, 3, 200), (2, 3, 200), (2, 3, 200), (2, 3, 200), (2, 3, 200), (2, 3, 200), (2, 3, 200), (2, 3, 800), (2, 4, 800), (2, 3, 6200), (2, 4, 6200), (2, 4, 33280), (2, 3, 16), (2, 3, 8320), (2, 4, 8), (2, 4, 6200), (2, 4, 4), (2, 3, 3400), (2, 4, 13600), (2, 3, 16), (2, 4, 4008), (2, 4, 8), (2, 4, 4), (2, 4, 4100), (2, 4, 1025), (2, 4, 4), (2, 18, 4), (1, 13, 37), (1, 12, 4), (2, 4, 3400), (2, 4, 13600), (2, 3, 3400), (2, 3, 12000), (2, 3, 12000), (2, 3, 12000), (2, 4, 12000), (2, 4, 48000), (2, 3, 200), (2, 3, 200), (2, 3, 200), (2, 3, 20), (2, 3, 20), (2, 3, 72), (2, 3, 72), (2, 3, 72), (2, 3, 16), (2, 3, 16), (2, 4, 72), (2, 3, 3400), (2, 3, 3400), (2, 4, 13600), (2, 3, 400), (2, 3, 400), (2, 3, 72), (2, 4, 400), (2, 4, 1600), (1, 13, 37), (1, 12, 4), (2, 4, 3400), (2, 4, 13600), (2, 3, 3400), (2, 3, 12000), (2, 3, 12000), (2, 3, 12000), (2, 4, 12000), (2, 4, 48000), (2, 3, 200), (2, 3, 200), (2, 3, 200), (2, 3, 20), (2, 3, 20), (2, 3, 72), (2, 3, 72), (2, 3, 72), (2, 3, 16), (2, 3, 16), (2, 4, 72), (2, 3, 3400), (2, 3, 3400), (2, 4, 13600), (2, 3, 400), (2, 3, 400), (2, 3, 72), (2, 4, 400), (2, 4, 1600), (1, 13, 37), (1, 12, 4), (2, 4, 3400), (2, 4, 13600), (2, 3, 3400), (2, 3, 12000), (2, 3, 12000), (2, 3, 12000), (2, 4, 12000), (2, 4, 48000), (2, 3, 200), (2, 3, 200), (2, 3, 200), (2, 3, 20), (2, 3, 20), (2, 3, 72), (2, 3, 72), (2, 3, 72), (2, 3, 16), (2, 3, 16), (2, 4, 72), (2, 3, 3400), (2, 3, 3400), (2, 4, 13600), (2, 3, 400), (2, 3, 400), (2, 3, 72), (2, 4, 400), (2, 4, 1600), (1, 13, 37), (1, 12, 4), (2, 4, 3400), (2, 4, 13600), (2, 3, 3400), (2, 3, 12000), (2, 3, 12000), (2, 3, 12000), (2, 4, 12000), (2, 4, 48000), (2, 3, 200), (2, 3, 200), (2, 3, 200), (2, 3, 20), (2, 3, 20), (2, 3, 72), (2, 3, 72), (2, 3, 72), (2, 3, 16), (2, 3, 16), (2, 4, 72), (2, 3, 3400), (2, 3, 3400), (2, 4, 13600), (2, 3, 400), (2, 3, 400), (2, 3, 72), (2, 4, 400), (2, 4, 1600), (2, 1, 90000), (2, 1, 3000), (2, 3, 4200), (2, 3, 4200), (1, 12, 4), (2, 4, 3400), (2, 4, 13600), (2, 3, 3400), (1, 12, 4), (2, 4, 3400), (2, 4, 13600), (2, 3, 3400), (2, 3, 72), (2, 4, 72), (1, 12, 4), (2, 4, 3400), (2, 4, 13600), (2, 3, 3400), (2, 4, 4), (2, 3, 140), (2, 3, 140), (2, 3, 140), (2, 3, 140), (2, 4, 140), (2, 4, 72), (2, 4, 72), (2, 3, 72), (2, 0, 72), (2, 0, 72), (2, 0, 72), (2, 4, 72), (2, 4, 72), (2, 3, 600), (2, 3, 600), (2, 4, 600), (2, 4, 2400), (2, 4, 4000)]
def xl_t (k : Nat) : Nat × Nat × Nat := xl_T.getD k (0, 0, 0)
def xush (a b : Int) : Int := (((Int32.ofInt a).toUInt32 >>> ((Int32.ofInt b).toUInt32 &&& Int32.toUInt32 31)).toInt32).toInt
def xand (a b : Int) : Int := (Int32.ofInt a &&& Int32.ofInt b).toInt
def xwl (a : Int) : Int := (Int64.ofInt a).toInt
def xmin (a b : Int) : Int := if b < a then b else a
def xidx (c : Int) : Int := match [40, 41, 44, 46, 47, 58, 43, 45, 42, 37, 61, 60, 62].findIdx? (fun q : Int => decide (q = c)) with | some i => (i : Int) | none => -1
def xi2ch (a : Int) : Int := ((Int32.ofInt a).toUInt32 % 65536).toInt32.toInt
def xor_ (a b : Int) : Int := (Int32.ofInt a ||| Int32.ofInt b).toInt
def xshl (a b : Int) : Int := (Int32.ofInt a <<< (Int32.ofInt b &&& 31)).toInt
def xxor (a b : Int) : Int := (Int32.ofInt a ^^^ Int32.ofInt b).toInt
def xshr (a b : Int) : Int := (Int32.ofInt a >>> (Int32.ofInt b &&& 31)).toInt
def xneg8 (a : Int) : Int := (-(Int64.ofInt a)).toInt
def xabs8 (a : Int) : Int := if 0 < a then a else xneg8 a
def xdiv8 (a b : Int) : Int := (Int64.ofInt a / Int64.ofInt b).toInt
def xmax (a b : Int) : Int := if a < b then b else a
abbrev xI (a : Int) : Value := .int (Int32.ofInt a)
def xnar (ty : FieldType) (v : Int) : Int := match narrow ty (xI v) with
  | .int w => w.toInt
  | _ => 0
def xor8 (a b : Int) : Int := (Int64.ofInt a ||| Int64.ofInt b).toInt
def xshl8 (a b : Int) : Int := (Int64.ofInt a <<< ((Int32.ofInt b).toInt64 &&& 63)).toInt
def xand8 (a b : Int) : Int := (Int64.ofInt a &&& Int64.ofInt b).toInt
def xshr8 (a b : Int) : Int := (Int64.ofInt a >>> ((Int32.ofInt b).toInt64 &&& 63)).toInt
def xrem (a b : Int) : Int := (Int32.ofInt a - Int32.ofInt a / Int32.ofInt b * Int32.ofInt b).toInt
def xdiv (a b : Int) : Int := (Int32.ofInt a / Int32.ofInt b).toInt
def xi2b (a : Int) : Int := (Int32.ofInt a).toInt8.toInt32.toInt
def xrem8 (a b : Int) : Int := (Int64.ofInt a - Int64.ofInt a / Int64.ofInt b * Int64.ofInt b).toInt
abbrev xT_ : Type := (Nat → Nat × Nat × Nat) × xG_ × Nat × Nat
def cq_gi (c k n x : Nat) (T : xT_) : Option Int := if T.1 x = (1, c, n) then some (T.2.1 x k) else none
def cq_p (c k n x : Nat) (v : Int) (T : xT_) : Option xT_ := if T.1 x = (1, c, n) then some (T.1, xup2 T.2.1 x k v, T.2.2) else none
def xq_nz (x : Nat) : Option Unit := if x = 0 then none else some ()
def xup1 (S : Nat → Nat × Nat × Nat) (a : Nat) (s : Nat × Nat × Nat) : Nat → Nat × Nat × Nat := fun b => if b = a then s else S b
def xz1 (G : xG_) (a : Nat) (g : Nat → Int) : xG_ := fun b i => if b = a then g i else G b i
def cq_mk (s : Nat × Nat × Nat) (g : Nat → Int) (n : Nat) (T : xT_) : xT_ := (xup1 T.1 T.2.2.1 s, xz1 T.2.1 T.2.2.1 g, T.2.2.1 + 1, T.2.2.2 + n)
def cq_an (ci : Nat) (z : Int) (T : xT_) : Option (Nat × xT_) := if 0 ≤ z ∧ z.toNat * 4 ≤ 536870912 then some (T.2.2.1, cq_mk (2, ci + 5, z.toNat) (fun _ => 0) z.toNat T) else none
def cq_pr (c k n x v : Nat) (T : xT_) : Option xT_ := if T.1 x = (1, c, n) then some (T.1, xup2 T.2.1 x k (v : Int), T.2.2) else none
def xj_kty : Nat → FieldType := fun k => match k with
  | 0 => .boolean
  | 1 => .byte
  | 2 => .char
  | 3 => .int
  | 4 => .long
  | k + 5 => .object (match vwCl[k]? with | some r => r.1 | none => "")
def cq_na (kk : Nat) (z : Int) (T : xT_) : Option (Nat × xT_) := if 0 ≤ z ∧ z.toNat * componentBytes (xj_kty kk) ≤ 536870912 then some (T.2.2.1, cq_mk (2, kk, z.toNat) (fun _ => 0) z.toNat T) else none
def cq_gr (c k n x : Nat) (T : xT_) : Option Nat := if T.1 x = (1, c, n) then some (T.2.1 x k).toNat else none
def cq_sr (x : Nat) (z : Int) (y : Nat) (T : xT_) : Option xT_ := if (T.1 x).1 = 2 ∧ 5 ≤ (T.1 x).2.1 ∧ 0 ≤ z ∧ z < (T.1 x).2.2 ∧ (y = 0 ∨ (T.1 y).1 = 1 ∧ (T.1 x).2.1 = (T.1 y).2.1 + 5) then some (T.1, xup2 T.2.1 x z.toNat (y : Int), T.2.2) else none
def cq_ar (x : Nat) (z : Int) (T : xT_) : Option Nat := if (T.1 x).1 = 2 ∧ 5 ≤ (T.1 x).2.1 ∧ 0 ≤ z ∧ z < (T.1 x).2.2 then some (T.2.1 x z.toNat).toNat else none
def cq_s (kk x : Nat) (z v : Int) (T : xT_) : Option xT_ := if (T.1 x).1 = 2 ∧ (T.1 x).2.1 = kk ∧ 0 ≤ z ∧ z < (T.1 x).2.2 then some (T.1, xup2 T.2.1 x z.toNat v, T.2.2) else none
def cq_sb (x : Nat) (z v : Int) (T : xT_) : Option xT_ := if (T.1 x).2.1 = 1 then cq_s 1 x z (xnar .byte v) T else if (T.1 x).2.1 = 0 then cq_s 0 x z (xnar .boolean v) T else none
def cq_cp (a0 : Nat) (sp : Int) (a : Nat) (dp n : Int) (T : xT_) : Option xT_ := if (T.1 a0).1 = 2 ∧ (T.1 a).1 = 2 ∧ (T.1 a0).2.1 = (T.1 a).2.1 ∧ ((T.1 a).2.1 = 3 ∨ (T.1 a).2.1 = 4) ∧ 0 ≤ sp ∧ 0 ≤ dp ∧ 0 ≤ n ∧ sp.toNat + n.toNat ≤ (T.1 a0).2.2 ∧ dp.toNat + n.toNat ≤ (T.1 a).2.2 then some (T.1, xz1 T.2.1 a (fun i => if dp.toNat ≤ i ∧ i < dp.toNat + n.toNat then T.2.1 a0 (sp.toNat + (i - dp.toNat)) else T.2.1 a i), T.2.2) else none
def cq_a (kk x : Nat) (z : Int) (T : xT_) : Option Int := if (T.1 x).1 = 2 ∧ (T.1 x).2.1 = kk ∧ 0 ≤ z ∧ z < (T.1 x).2.2 then some (T.2.1 x z.toNat) else none
def cq_is (c n x : Nat) (T : xT_) : Option Unit := if T.1 x = (1, c, n) then some () else none
def cq_ab (x : Nat) (z : Int) (T : xT_) : Option Int := if (T.1 x).1 = 2 ∧ (T.1 x).2.1 < 2 ∧ 0 ≤ z ∧ z < (T.1 x).2.2 then some (T.2.1 x z.toNat) else none
def cq_pb (c k n x : Nat) (v : Int) (T : xT_) : Option xT_ := if T.1 x = (1, c, n) ∧ (v = 0 ∨ v = 1) then some (T.1, xup2 T.2.1 x k v, T.2.2) else none
def cq_ex (T : xT_) : xT_ := cq_mk (0, 0, 0) (fun _ => 0) 6 T
def cth {α β : Type} (R : (Nat ⊕ α) × xT_) (k : α → Option ((Nat ⊕ β) × xT_)) : Option ((Nat ⊕ β) × xT_) := match R.1 with
  | .inl e => some (.inl e, R.2)
  | .inr v => k v
def cq_ln (x : Nat) (T : xT_) : Option Int := if (T.1 x).1 = 2 ∧ (T.1 x).2.2 < 2147483648 then some ((T.1 x).2.2 : Int) else none
def cq_nw (ci n : Nat) (T : xT_) : Option (Nat × xT_) := some (T.2.2.1, cq_mk (1, ci, n) (fun _ => 0) n T)
def xq_st (x : Nat) : Option Unit := if 1 ≤ x ∧ x ≤ 10 then some () else none
def xj_sB : Nat → List Int32 := fun k => match k with
  | 0 => [105, 110, 112, 117, 116]
  | 1 => [111, 117, 116, 112, 117, 116]
  | 2 => [107, 101, 121]
  | 3 => [110, 111, 116]
  | 4 => [99, 111, 117, 110, 116]
  | 5 => [115, 117, 109]
  | 6 => [108, 101, 97, 115, 116]
  | 7 => [109, 111, 115, 116]
  | 8 => [40, 41, 44, 46, 47, 58, 43, 45, 42, 37, 61, 60, 62]
  | 9 => [105, 102]
  | _ => []
def xcsl (x : Nat) : Option Int := if 1 ≤ x ∧ x ≤ 10 then some ((xj_sB (x - 1)).length : Int) else none
def xcsa (x : Nat) (z : Int) : Option Int := if 1 ≤ x ∧ x ≤ 10 ∧ 0 ≤ z ∧ z < (xj_sB (x - 1)).length then some (xand ((xj_sB (x - 1)).getD z.toNat 0).toInt 255) else none
def cq_cl (kk x : Nat) (T : xT_) : Option (Nat × xT_) := if (T.1 x).1 = 2 ∧ (T.1 x).2.1 = kk ∧ (kk = 3 ∨ 5 ≤ kk) then some (T.2.2.1, cq_mk (T.1 x) (T.2.1 x) (T.1 x).2.2 T) else none
def cq_ca (kk x : Nat) (T : xT_) : Option Unit := if (T.1 x).1 = 2 ∧ (T.1 x).2.1 = kk then some () else none
def chd {α β : Type} (R : (Nat ⊕ α) × xT_) (e0 : Nat) (c : Option β) (k : α → Option β) : Option β := match R.1 with
  | .inl e => if e = e0 then c else none
  | .inr v => k v
def xcsx (x : Nat) (c : Int) : Option Int := if x = 9 then some (xidx c) else none
def xxor8 (a b : Int) : Int := (Int64.ofInt a ^^^ Int64.ofInt b).toInt
