/-! What the instructions do to the memory, as functions; their rules -/
def xq_gi (c k x : Nat) (M : xj_M) : Option Int := match xj_obj M x with
  | some o => if o.1 = c then (match o.2[k]? with | some (.int v) => some v.toInt | _ => none) else none
  | none => none
def xq_gl (c k x : Nat) (M : xj_M) : Option Int := match xj_obj M x with
  | some o => if o.1 = c then (match o.2[k]? with | some (.long v) => some v.toInt | _ => none) else none
  | none => none
def xq_rn (v : Value) : Option Nat := match v with
  | .null => some 0
  | .ref a => if a = 0 then none else some a
  | _ => none
def xq_gr (c k x : Nat) (M : xj_M) : Option Nat := match xj_obj M x with
  | some o => if o.1 = c then (match o.2[k]? with | some v => xq_rn v | none => none) else none
  | none => none
/-- a store into a field: any value that its type allows -/
def xq_p (c k x : Nat) (v : Value) (M : xj_M) : Option xj_M := match xj_obj M x with
  | some o => if o.1 = c ∧ xj_okv (xj_ty c k) v = true then some (xj_put M x (.inr (.inr (o.1, o.2.set k v)))) else none
  | none => none
abbrev xq_pi (c k x : Nat) (v : Int) (M : xj_M) : Option xj_M := xq_p c k x (xI v) M
abbrev xq_pl (c k x : Nat) (v : Int) (M : xj_M) : Option xj_M := xq_p c k x (xZ v) M
abbrev xq_pr (c k x v : Nat) (M : xj_M) : Option xj_M := xq_p c k x (xR_ v) M
/-- arrays -/
def xq_ai (kk x : Nat) (z : Int) (M : xj_M) : Option Int := match xj_arr M x with
  | some q => if q.1 = kk ∧ 0 ≤ z ∧ z < q.2.1 then (match q.2.2 z.toNat with | .int v => some v.toInt | _ => none) else none
  | none => none
/-- bytes or booleans -/
def xq_ab (x : Nat) (z : Int) (M : xj_M) : Option Int := match xj_arr M x with
  | some q => if q.1 < 2 ∧ 0 ≤ z ∧ z < q.2.1 then (match q.2.2 z.toNat with | .int v => some v.toInt | _ => none) else none
  | none => none
def xq_al (x : Nat) (z : Int) (M : xj_M) : Option Int := match xj_arr M x with
  | some q => if q.1 = 4 ∧ 0 ≤ z ∧ z < q.2.1 then (match q.2.2 z.toNat with | .long v => some v.toInt | _ => none) else none
  | none => none
def xq_ar (x : Nat) (z : Int) (M : xj_M) : Option Nat := match xj_arr M x with
  | some q => if 5 ≤ q.1 ∧ 0 ≤ z ∧ z < q.2.1 then xq_rn (q.2.2 z.toNat) else none
  | none => none
def xq_s (kk x : Nat) (z : Int) (v : Value) (M : xj_M) : Option xj_M := match xj_arr M x with
  | some q => if q.1 = kk ∧ 0 ≤ z ∧ z < q.2.1 then some (xj_put M x (.inr (.inl (kk, q.2.1, updV q.2.2 z.toNat v)))) else none
  | none => none
abbrev xq_si (x : Nat) (z v : Int) (M : xj_M) : Option xj_M := xq_s 3 x z (xI v) M
abbrev xq_sl (x : Nat) (z v : Int) (M : xj_M) : Option xj_M := xq_s 4 x z (xZ v) M
/-- what a narrow element keeps: booleans the last bit, bytes and chars their bits -/
def xq_sb (x : Nat) (z v : Int) (M : xj_M) : Option xj_M := match xj_arr M x with
  | some q => if q.1 = 1 then xq_s 1 x z (xI (xnar .byte v)) M else if q.1 = 0 then xq_s 0 x z (xI (xnar .boolean v)) M else none
  | none => none
abbrev xq_sc (x : Nat) (z v : Int) (M : xj_M) : Option xj_M := xq_s 2 x z (xI (xnar .char v)) M
def xq_sr (x : Nat) (z : Int) (v : Nat) (M : xj_M) : Option xj_M := match xj_arr M x with
  | some q => if 5 ≤ q.1 ∧ 0 ≤ z ∧ z < q.2.1 then (if v = 0 then some (xj_put M x (.inr (.inl (q.1, q.2.1, updV q.2.2 z.toNat .null)))) else match xj_obj M v with
    | some o => if q.1 = o.1 + 5 then some (xj_put M x (.inr (.inl (q.1, q.2.1, updV q.2.2 z.toNat (.ref v))))) else none
    | none => none) else none
  | none => none
def xq_ln (x : Nat) (M : xj_M) : Option Int := match xj_arr M x with
  | some q => if q.2.1 < 2147483648 then some (q.2.1 : Int) else none
  | none => none
/-- what is made -/
def xq_nw (ci : Nat) (M : xj_M) : Option (Nat × xj_M) := match vwCl[ci]? with
  | some r => some (xj_nx M, xj_new M (.inr (.inr (ci, (List.range r.2.2).map (fun k => defaultValue (xj_ty ci k))))) r.2.2)
  | none => none
def xq_na (kk : Nat) (z : Int) (M : xj_M) : Option (Nat × xj_M) := if 0 ≤ z ∧ z.toNat * componentBytes (xj_kty kk) ≤ 536870912 then some (xj_nx M, xj_new M (.inr (.inl (kk, z.toNat, fun _ => defaultValue (xj_kty kk)))) z.toNat) else none
def xq_an (ci : Nat) (z : Int) (M : xj_M) : Option (Nat × xj_M) := if 0 ≤ z ∧ z.toNat * 4 ≤ 536870912 then some (xj_nx M, xj_new M (.inr (.inl (ci + 5, z.toNat, fun _ => .null))) z.toNat) else none
theorem xq_gi_in {c k x : Nat} {M : xj_M} {v : Int} (h : xq_gi c k x M = some v) : xin v := by
  unfold xq_gi at h
  split at h
  · split at h
    · split at h
      · cases h; exact xin_of _
      · cases h
    · cases h
  · cases h
theorem xq_gl_in {c k x : Nat} {M : xj_M} {v : Int} (h : xq_gl c k x M = some v) : xiN v := by
  unfold xq_gl at h
  split at h
  · split at h
    · split at h
      · cases h; exact xiN_of _
      · cases h
    · cases h
  · cases h
theorem xq_ai_in {kk x : Nat} {z : Int} {M : xj_M} {v : Int} (h : xq_ai kk x z M = some v) : xin v := by
  unfold xq_ai at h
  split at h
  · split at h
    · split at h
      · cases h; exact xin_of _
      · cases h
    · cases h
  · cases h
theorem xq_ab_in {x : Nat} {z : Int} {M : xj_M} {v : Int} (h : xq_ab x z M = some v) : xin v := by
  unfold xq_ab at h
  split at h
  · split at h
    · split at h
      · cases h; exact xin_of _
      · cases h
    · cases h
  · cases h
theorem xq_al_in {x : Nat} {z : Int} {M : xj_M} {v : Int} (h : xq_al x z M = some v) : xiN v := by
  unfold xq_al at h
  split at h
  · split at h
    · split at h
      · cases h; exact xiN_of _
      · cases h
    · cases h
  · cases h
theorem xq_ln_in {x : Nat} {M : xj_M} {v : Int} (h : xq_ln x M = some v) : xin v := by
  unfold xq_ln at h
  split at h
  · split at h
    · cases h; exact ⟨by omega, by omega⟩
    · cases h
  · cases h
theorem xq_rn_V {v : Value} {a : Nat} (h : xq_rn v = some a) : v = xR_ a := by
  unfold xq_rn at h
  split at h
  · cases h; rfl
  · split at h
    · cases h
    · rename_i a' hz; cases h; unfold xR_; rw [if_neg hz]
  · cases h
theorem xbnd {α β : Type} {o : Option α} {k : α → Option β} {r : β} (h : o.bind k = some r) : ∃ v, o = some v ∧ k v = some r := by
  cases o with
  | none => cases h
  | some v => exact ⟨v, rfl, h⟩
theorem xh_ix {n : Nat} {z : Int} (hz : xin z) (h0 : 0 ≤ z) (h1 : z < n) : xj_ix n (Int32.ofInt z) = some z.toNat := by
  have h2 : (Int32.ofInt z).toNatClampNeg = z.toNat := by
    show (Int32.ofInt z).toInt.toNat = _
    rw [xin_to hz]
  unfold xj_ix
  rw [if_neg, h2]
  rintro (h | h)
  · rw [show (0 : Int32) = Int32.ofInt 0 from rfl, xin_lt hz xin_0] at h
    omega
  · rw [h2] at h
    omega
section
variable {d : Nat} {X : xj_X} {row : xj_mR} {pc nx i c k x : Nat} {lv : xj_L} {st : List Value} {M M1 : xj_M} {Q : xj_R → xj_M → Prop} {v z : Int}
theorem xs_fx0 (ho : row.1 ≠ 18) (a : Nat) : xj_fx row.1 (.getfield i) (.ref a :: st) = none := by
  show (if row.1 = 18 ∧ i = 9 ∧ 1 ≤ a ∧ a ≤ 10 then some (Value.ref (a + 10) :: st) else if row.1 = 18 ∧ i = 15 ∧ 1 ≤ a ∧ a ≤ 10 then some (Value.int 0 :: st) else none) = none
  rw [if_neg (fun q => ho q.1), if_neg (fun q => ho q.1)]
theorem xs_g {w : Value} {o : Nat × List Value} (hd : decode row.2.2.1 pc = .ok (.getfield i, 3)) (ho : row.1 ≠ 18) (hf : xj_fld row.1 i = some (c, k)) (h1 : xj_obj M x = some o) (h2 : o.1 = c) (h3 : o.2[k]? = some w) (hn : pc + 3 = nx) (kt : xW d X row (nx, lv, w :: st, M) Q) : xW d X row (pc, lv, xR_ x :: st, M) Q := by
  subst hn
  rw [xR_ref (xj_obj_inv h1).1]
  refine xW_go (fun _ => xk_mem hd rfl rfl rfl rfl rfl (xs_fx0 ho x) (by cases X.2.2 <;> rfl) (q := (w :: st, M)) ?_) kt
  show xj_gf row.1 i (.ref x :: st) M = _
  unfold xj_gf
  simp only [hf, h1, if_pos h2, h3]
theorem xs_gi (hd : decode row.2.2.1 pc = .ok (.getfield i, 3)) (ho : row.1 ≠ 18) (hf : xj_fld row.1 i = some (c, k)) (hm : xq_gi c k x M = some v) (hn : pc + 3 = nx) (kt : xW d X row (nx, lv, xI v :: st, M) Q) : xW d X row (pc, lv, xR_ x :: st, M) Q := by
  unfold xq_gi at hm
  split at hm
  · rename_i o h1
    split at hm
    · rename_i h2
      split at hm
      · rename_i w h3
        cases hm
        rw [xI_toInt] at kt
        exact xs_g hd ho hf h1 h2 h3 hn kt
      · cases hm
    · cases hm
  · cases hm
theorem xs_gl (hd : decode row.2.2.1 pc = .ok (.getfield i, 3)) (ho : row.1 ≠ 18) (hf : xj_fld row.1 i = some (c, k)) (hm : xq_gl c k x M = some v) (hn : pc + 3 = nx) (kt : xW d X row (nx, lv, xZ v :: st, M) Q) : xW d X row (pc, lv, xR_ x :: st, M) Q := by
  unfold xq_gl at hm
  split at hm
  · rename_i o h1
    split at hm
    · rename_i h2
      split at hm
      · rename_i w h3
        cases hm
        rw [xZ_toInt] at kt
        exact xs_g hd ho hf h1 h2 h3 hn kt
      · cases hm
    · cases hm
  · cases hm
theorem xs_gr {a : Nat} (hd : decode row.2.2.1 pc = .ok (.getfield i, 3)) (ho : row.1 ≠ 18) (hf : xj_fld row.1 i = some (c, k)) (hm : xq_gr c k x M = some a) (hn : pc + 3 = nx) (kt : xW d X row (nx, lv, xR_ a :: st, M) Q) : xW d X row (pc, lv, xR_ x :: st, M) Q := by
  unfold xq_gr at hm
  split at hm
  · rename_i o h1
    split at hm
    · rename_i h2
      split at hm
      · rename_i w h3
        rw [← xq_rn_V hm] at kt
        exact xs_g hd ho hf h1 h2 h3 hn kt
      · cases hm
    · cases hm
  · cases hm
theorem xs_p {w : Value} (hd : decode row.2.2.1 pc = .ok (.putfield i, 3)) (hf : xj_fld row.1 i = some (c, k)) (hfin : xj_fin c k = false ∨ row.2.2.2.2.2.2.1 = true ∧ xj_nm c = xj_nm row.1) (hm : xq_p c k x w M = some M1) (hn : pc + 3 = nx) (kt : xW d X row (nx, lv, st, M1) Q) : xW d X row (pc, lv, w :: xR_ x :: st, M) Q := by
  subst hn
  unfold xq_p at hm
  split at hm
  · rename_i o h1
    split at hm
    · rename_i h2
      cases hm
      rw [xR_ref (xj_obj_inv h1).1]
      refine xW_go (fun _ => xk_mem hd rfl rfl rfl rfl rfl rfl (by cases X.2.2 <;> rfl) (q := (st, xj_put M x (.inr (.inr (o.1, o.2.set k w))))) ?_) kt
      show xj_pf row.1 row.2.2.2.2.2.2.1 i (w :: .ref x :: st) M = _
      unfold xj_pf
      simp only [hf, h1]
      rw [if_pos ⟨h2.1, h2.2, hfin⟩]
    · cases hm
  · cases hm
theorem xs_al {kk : Nat} {q : Nat × Nat × (Nat → Value)} (h1 : xj_arr M x = some q) (h2 : q.1 = kk) (hz : xin z) (h0 : 0 ≤ z) (h3 : z < q.2.1) : xj_al kk (xI z :: .ref x :: st) M = some (q.2.2 z.toNat :: st, M) := by
  unfold xj_al
  simp only [h1, if_pos h2, xh_ix hz h0 h3]
theorem xs_iald (hX : X.2.2 = none) (hd : decode row.2.2.1 pc = .ok (.iaload, 1)) (hz : xin z) (hm : xq_ai 3 x z M = some v) (hn : pc + 1 = nx) (kt : xW d X row (nx, lv, xI v :: st, M) Q) : xW d X row (pc, lv, xI z :: xR_ x :: st, M) Q := by
  subst hn
  unfold xq_ai at hm
  split at hm
  · rename_i q h1
    split at hm
    · rename_i h2
      split at hm
      · rename_i w h3
        cases hm
        rw [xI_toInt, ← h3] at kt
        rw [xR_ref (xj_arr_inv h1).1]
        exact xW_go (fun _ => xk_mem hd rfl rfl rfl rfl rfl rfl (by rw [hX]; rfl) (q := (q.2.2 z.toNat :: st, M)) (xs_al h1 h2.1 hz h2.2.1 h2.2.2)) kt
      · cases hm
    · cases hm
  · cases hm
theorem xs_cald (hd : decode row.2.2.1 pc = .ok (.caload, 1)) (hz : xin z) (hm : xq_ai 2 x z M = some v) (hn : pc + 1 = nx) (kt : xW d X row (nx, lv, xI v :: st, M) Q) : xW d X row (pc, lv, xI z :: xR_ x :: st, M) Q := by
  subst hn
  unfold xq_ai at hm
  split at hm
  · rename_i q h1
    split at hm
    · rename_i h2
      split at hm
      · rename_i w h3
        cases hm
        rw [xI_toInt, ← h3] at kt
        rw [xR_ref (xj_arr_inv h1).1]
        exact xW_go (fun _ => xk_mem hd rfl rfl rfl rfl rfl rfl (by cases X.2.2 <;> rfl) (q := (q.2.2 z.toNat :: st, M)) (xs_al h1 h2.1 hz h2.2.1 h2.2.2)) kt
      · cases hm
    · cases hm
  · cases hm
theorem xs_lald (hd : decode row.2.2.1 pc = .ok (.laload, 1)) (hz : xin z) (hm : xq_al x z M = some v) (hn : pc + 1 = nx) (kt : xW d X row (nx, lv, xZ v :: st, M) Q) : xW d X row (pc, lv, xI z :: xR_ x :: st, M) Q := by
  subst hn
  unfold xq_al at hm
  split at hm
  · rename_i q h1
    split at hm
    · rename_i h2
      split at hm
      · rename_i w h3
        cases hm
        rw [xZ_toInt, ← h3] at kt
        rw [xR_ref (xj_arr_inv h1).1]
        exact xW_go (fun _ => xk_mem hd rfl rfl rfl rfl rfl rfl (by cases X.2.2 <;> rfl) (q := (q.2.2 z.toNat :: st, M)) (xs_al h1 h2.1 hz h2.2.1 h2.2.2)) kt
      · cases hm
    · cases hm
  · cases hm
theorem xs_fxb (h64 : 64 ≤ x) (o : Nat) : xj_fx o .baload (xI z :: .ref x :: st) = none := by
  show (if 11 ≤ x ∧ x ≤ 20 ∧ ¬ (Int32.ofInt z < 0 ∨ (xj_sB (x - 11)).length ≤ (Int32.ofInt z).toNatClampNeg) then _ else none) = none
  rw [if_neg (fun q => by omega)]
theorem xs_bald (hd : decode row.2.2.1 pc = .ok (.baload, 1)) (hz : xin z) (hm : xq_ab x z M = some v) (hn : pc + 1 = nx) (kt : xW d X row (nx, lv, xI v :: st, M) Q) : xW d X row (pc, lv, xI z :: xR_ x :: st, M) Q := by
  subst hn
  unfold xq_ab at hm
  split at hm
  · rename_i q h1
    split at hm
    · rename_i h2
      split at hm
      · rename_i w h3
        cases hm
        rw [xI_toInt, ← h3] at kt
        have h64 := (xj_arr_inv h1).1
        rw [xR_ref h64]
        refine xW_go (fun _ => xk_mem hd rfl rfl rfl rfl rfl (xs_fxb h64 _) (by cases X.2.2 <;> rfl) (q := (q.2.2 z.toNat :: st, M)) ?_) kt
        show xj_or (xj_al 1 (xI z :: .ref x :: st) M) (xj_al 0 (xI z :: .ref x :: st) M) = _
        by_cases e : q.1 = 1
        · rw [xs_al h1 e hz h2.2.1 h2.2.2]; rfl
        · have e0 : q.1 = 0 := by omega
          have hno : xj_al 1 (xI z :: .ref x :: st) M = none := by unfold xj_al; simp only [h1]; rw [if_neg e]
          rw [hno, xs_al h1 e0 hz h2.2.1 h2.2.2]; rfl
      · cases hm
    · cases hm
  · cases hm
theorem xs_aald {a : Nat} (hd : decode row.2.2.1 pc = .ok (.aaload, 1)) (hz : xin z) (hm : xq_ar x z M = some a) (hn : pc + 1 = nx) (kt : xW d X row (nx, lv, xR_ a :: st, M) Q) : xW d X row (pc, lv, xI z :: xR_ x :: st, M) Q := by
  subst hn
  unfold xq_ar at hm
  split at hm
  · rename_i q h1
    split at hm
    · rename_i h2
      rw [← xq_rn_V hm] at kt
      rw [xR_ref (xj_arr_inv h1).1]
      refine xW_go (fun _ => xk_mem hd rfl rfl rfl rfl rfl rfl (by cases X.2.2 <;> rfl) (q := (q.2.2 z.toNat :: st, M)) ?_) kt
      show xj_aq (xI z :: .ref x :: st) M = _
      unfold xj_aq
      simp only [h1]
      rw [if_pos h2.1, xh_ix hz h2.2.1 h2.2.2]
    · cases hm
  · cases hm
theorem xs_as {kk : Nat} {w u : Value} {ok : Value → Option Value} (hv : ok u = some w) (hz : xin z) (hm : xq_s kk x z w M = some M1) : 64 ≤ x ∧ xj_as kk ok (u :: xI z :: .ref x :: st) M = some (st, M1) := by
  unfold xq_s at hm
  split at hm
  · rename_i q h1
    split at hm
    · rename_i h2
      cases hm
      refine ⟨(xj_arr_inv h1).1, ?_⟩
      unfold xj_as
      simp only [hv, h1, if_pos h2.1, xh_ix hz h2.2.1 h2.2.2]
    · cases hm
  · cases hm
theorem xs_iast (hd : decode row.2.2.1 pc = .ok (.iastore, 1)) (hz : xin z) (hm : xq_si x z v M = some M1) (hn : pc + 1 = nx) (kt : xW d X row (nx, lv, st, M1) Q) : xW d X row (pc, lv, xI v :: xI z :: xR_ x :: st, M) Q := by
  subst hn
  obtain ⟨h64, h⟩ := xs_as (st := st) (ok := xj_oki) (u := xI v) rfl hz hm
  rw [xR_ref h64]
  exact xW_go (fun _ => xk_mem hd rfl rfl rfl rfl rfl rfl (by cases X.2.2 <;> rfl) (q := (st, M1)) h) kt
theorem xs_last (hd : decode row.2.2.1 pc = .ok (.lastore, 1)) (hz : xin z) (hm : xq_sl x z v M = some M1) (hn : pc + 1 = nx) (kt : xW d X row (nx, lv, st, M1) Q) : xW d X row (pc, lv, xZ v :: xI z :: xR_ x :: st, M) Q := by
  subst hn
  obtain ⟨h64, h⟩ := xs_as (st := st) (ok := xj_okl) (u := xZ v) rfl hz hm
  rw [xR_ref h64]
  exact xW_go (fun _ => xk_mem hd rfl rfl rfl rfl rfl rfl (by cases X.2.2 <;> rfl) (q := (st, M1)) h) kt
theorem xnar_eq {ty : FieldType} (h : ty = .byte ∨ ty = .boolean ∨ ty = .char) (v : Int) : narrow ty (xI v) = xI (xnar ty v) := by
  rcases h with rfl | rfl | rfl <;> (unfold xnar; exact (xI_toInt _).symm)
theorem xs_cast (hd : decode row.2.2.1 pc = .ok (.castore, 1)) (hz : xin z) (hm : xq_sc x z v M = some M1) (hn : pc + 1 = nx) (kt : xW d X row (nx, lv, st, M1) Q) : xW d X row (pc, lv, xI v :: xI z :: xR_ x :: st, M) Q := by
  subst hn
  obtain ⟨h64, h⟩ := xs_as (st := st) (ok := xj_okn .char) (u := xI v) (by show some (narrow .char (xI v)) = _; rw [xnar_eq (Or.inr (Or.inr rfl))]) hz hm
  rw [xR_ref h64]
  exact xW_go (fun _ => xk_mem hd rfl rfl rfl rfl rfl rfl (by cases X.2.2 <;> rfl) (q := (st, M1)) h) kt
theorem xs_bast (hd : decode row.2.2.1 pc = .ok (.bastore, 1)) (hz : xin z) (hm : xq_sb x z v M = some M1) (hn : pc + 1 = nx) (kt : xW d X row (nx, lv, st, M1) Q) : xW d X row (pc, lv, xI v :: xI z :: xR_ x :: st, M) Q := by
  subst hn
  unfold xq_sb at hm
  split at hm
  · rename_i q h1
    rw [xR_ref (xj_arr_inv h1).1]
    refine xW_go (fun _ => xk_mem hd rfl rfl rfl rfl rfl rfl (by cases X.2.2 <;> rfl) (q := (st, M1)) ?_) kt
    show xj_or (xj_as 1 (xj_okn .byte) (xI v :: xI z :: .ref x :: st) M) (xj_as 0 (xj_okn .boolean) (xI v :: xI z :: .ref x :: st) M) = _
    split at hm
    · obtain ⟨-, h⟩ := xs_as (st := st) (ok := xj_okn .byte) (u := xI v) (by show some (narrow .byte (xI v)) = _; rw [xnar_eq (Or.inl rfl)]) hz hm
      rw [h]; rfl
    · rename_i e
      split at hm
      · obtain ⟨-, h⟩ := xs_as (st := st) (ok := xj_okn .boolean) (u := xI v) (by show some (narrow .boolean (xI v)) = _; rw [xnar_eq (Or.inr (Or.inl rfl))]) hz hm
        have hno : xj_as 1 (xj_okn .byte) (xI v :: xI z :: .ref x :: st) M = none := by
          unfold xj_as
          show (match some (narrow .byte (xI v)) with | some w => _ | none => none) = none
          simp only [h1]
          rw [if_neg e]
        rw [hno, h]; rfl
      · cases hm
  · cases hm
theorem xs_alen (hX : X.2.2 = none) (hd : decode row.2.2.1 pc = .ok (.arraylength, 1)) (hm : xq_ln x M = some v) (hn : pc + 1 = nx) (kt : xW d X row (nx, lv, xI v :: st, M) Q) : xW d X row (pc, lv, xR_ x :: st, M) Q := by
  subst hn
  unfold xq_ln at hm
  split at hm
  · rename_i q h1
    split at hm
    · cases hm
      have h64 := (xj_arr_inv h1).1
      rw [xR_ref h64]
      have h4 : xj_fx row.1 .arraylength (.ref x :: st) = none := by
        show (if 11 ≤ x ∧ x ≤ 20 then _ else none) = none
        rw [if_neg (fun q => by omega)]
      refine xW_go (fun _ => xk_mem hd rfl rfl rfl rfl rfl h4 (by rw [hX]; rfl) (q := (xI q.2.1 :: st, M)) ?_) kt
      show xj_ln (.ref x :: st) M = _
      unfold xj_ln
      simp only [h1]
      rw [← Int32.ofInt_eq_ofNat]
    · cases hm
  · cases hm
end
