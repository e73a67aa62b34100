/-- what a run that ends well says -/
noncomputable def xend (ys : List Int32) (K : xj_K) : Prop := ∃ (z : Nat) (Mf : xj_M), z ≤ 4096 ∧ Mf.1.length ≤ 2000 ∧ Mf.2 ≤ 1000000 ∧ ∀ n, xj_loop (xj_call 524288 20) (none, 20, some ys) xj_lr (n + z) K = some (.inl (some (.int 1)), Mf)
theorem xfin1_in {r : xRa} (h : xfin1 r = true) : r = .inl (some (0, 2147483649, 2147483649)) := by
  cases r with
  | inl o =>
    cases o with
    | none => cases h
    | some v =>
      have h : xaeq v (0, 2147483649, 2147483649) = true := h
      rw [xaeq_eq h]
  | inr k => cases h
theorem xfinal_in {o : xOn} (h : xfinal o = true) : ∃ (r : xRa) (A : xme), o = some (.inr (r, A)) ∧ r = .inl (some (0, 2147483649, 2147483649)) ∧ A.2.1 ≤ 2000 ∧ A.2.2 ≤ 1000000 := by
  cases o with
  | none => exact (Bool.noConfusion h)
  | some N =>
    cases N with
    | inl K => exact (Bool.noConfusion h)
    | inr r =>
      have h : xif (xfin1 r.1) (xif (Nat.ble r.2.2.1 2000) (Nat.ble r.2.2.2 1000000) false) false = true := h
      obtain ⟨h1, h2⟩ := xif_and h
      obtain ⟨h2, h3⟩ := xif_and h2
      exact ⟨r.1, r.2, rfl, xfin1_in h1, xble h2, xble h3⟩
theorem xL_ok {bx : List xa} {ys : List Int32} (hb : xvs bx (ys.map Value.int)) (hlen : ys.length < 131072) (k : Nat) (K : xKa) (K' : xj_K) (N : xNa) (hK : xKr K K') (h : xL bx k K = some N) :
    ∃ z, z ≤ 2 ^ k ∧ match N with
      | .inl K2 => ∃ K2', xKr K2 K2' ∧ ∀ n, xj_loop (xj_call 524288 20) (none, 20, some ys) xj_lr (n + z) K' = xj_loop (xj_call 524288 20) (none, 20, some ys) xj_lr n K2'
      | .inr r => ∃ r' M', xrr r.1 r' ∧ xmr r.2 M' ∧ ∀ n, xj_loop (xj_call 524288 20) (none, 20, some ys) xj_lr (n + z) K' = some (r', M') := by
  have hS : xsr (some bx) (((none : xj_H), (20 : Nat), some ys) : xj_X).2.2 := fun bx2 e => ⟨ys, rfl, hlen, by cases e; exact hb⟩
  obtain ⟨z, hz, h1⟩ := xrun_ok (call := xj_call 524288 20) (ac := xcall xP 20) (X := (none, 20, some ys)) (row := xj_lr) (S := some bx) (m := xt_2000) (xcall_ok xP_ok (by decide) 20) hS xlaw_ok k K K' N hK h
  refine ⟨z, hz, ?_⟩
  cases N with
  | inl K2 => exact h1
  | inr r => exact h1
theorem xL_end {bx : List xa} {ys : List Int32} (hb : xvs bx (ys.map Value.int)) (hlen : ys.length < 131072) {k : Nat} (hk : 2 ^ k ≤ 4096) {K : xKa} {K' : xj_K} (hK : xKr K K') (h : xfinal (xL bx k K) = true) : xend ys K' := by
  obtain ⟨r, A, h1, h2, h3, h4⟩ := xfinal_in h
  obtain ⟨z, hz, r', M', g1, g2, g3⟩ := xL_ok hb hlen k K K' _ hK h1
  have g1 : xrr r r' := g1
  have g2 : xmr A M' := g2
  subst h2
  obtain ⟨v, rfl, hv⟩ := g1
  obtain ⟨x, rfl, e1, e2⟩ := xv_i hv rfl
  have e3 : x = 1 := xa_inj.mp (by
    have : xa_e (1 : Int32) = 2147483649 := by decide
    rw [this]
    exact Nat.le_antisymm e2 e1)
  subst e3
  exact ⟨z, M', Nat.le_trans hz hk, by rw [← g2.1]; exact h3, by rw [← g2.2.1]; exact h4, g3⟩
/-- the start -/
noncomputable def xtop1 : xa := (nat_lit 0, nat_lit 0, nat_lit 4294967295)
theorem xtops_ok : ∀ ys : List Int32, xvs (xtops ys.length) (ys.map Value.int) := by
  intro ys
  induction ys with
  | nil => trivial
  | cons y ys ih =>
    show xv (0, 0, 4294967295) (.int y) ∧ xvs (xtops ys.length) (ys.map Value.int)
    exact ⟨xv_top, ih⟩
theorem xmr_0 : xmr (xs_no xcl 11, 0, 0) ([], 0) := ⟨rfl, rfl, Nat.zero_le _, fun i c hi hc => by
  have : xs_get 11 (xs_no xcl 11) i = some c := hc
  rw [xs_no_get] at this
  cases this⟩
theorem xK0_ok : xKr xK0 (0, [(0, .ref 0)], [], ([], 0)) := by
  refine ⟨rfl, fun i a h h9 => ?_, trivial, xmr_0⟩
  have h : xl_get [(2, 0, 0)] i = some a := h
  cases i with
  | zero => cases h; exact ⟨.ref 0, rfl, rfl, rfl⟩
  | succ i => cases h
/-- the constructors: from the law's first step to its loop's head, whatever the script -/
theorem xhead_lit : xOeq xhead xKh = true := by decide +kernel
theorem xLn_ok (ys : List Int32) (k : Nat) (K : xKa) (K' : xj_K) (K2 : xKa) (hK : xKr K K') (h : xLn k K = some (.inl K2)) :
    ∃ z, z ≤ 2 ^ k ∧ ∃ K2', xKr K2 K2' ∧ ∀ n, xj_loop (xj_call 524288 20) (none, 20, some ys) xj_lr (n + z) K' = xj_loop (xj_call 524288 20) (none, 20, some ys) xj_lr n K2' := by
  have hS : xsr none (((none : xj_H), (20 : Nat), some ys) : xj_X).2.2 := fun bx2 e => by cases e
  obtain ⟨z, hz, h1⟩ := xrun_ok (call := xj_call 524288 20) (ac := xcall xP 20) (X := (none, 20, some ys)) (row := xj_lr) (S := none) (m := xt_2000) (xcall_ok xP_ok (by decide) 20) hS xlaw_ok k K K' (.inl K2) hK h
  exact ⟨z, hz, h1⟩
theorem xbind_in {o : xOn} {k : xKa → xOn} {K : xKa} (h : xbind o k = some (.inl K)) : ∃ K1, o = some (.inl K1) ∧ k K1 = some (.inl K) := by
  cases o with
  | none => exact (xsome_ne h).elim
  | some N =>
    cases N with
    | inl K1 => exact ⟨K1, rfl, h⟩
    | inr r =>
      have h : some (Sum.inr r) = some (Sum.inl K) := h
      exact nomatch (xsome_in h)
theorem xhead_ok (ys : List Int32) : ∃ z, z ≤ 16 ∧ ∃ K', xKr xKh K' ∧ ∀ n, xj_loop (xj_call 524288 20) (none, 20, some ys) xj_lr (n + z) (0, [(0, .ref 0)], [], ([], 0)) = xj_loop (xj_call 524288 20) (none, 20, some ys) xj_lr n K' := by
  have h : xbind (xbind (xLn 3 xK0) (fun K => xLn 2 K)) (fun K => xLn 0 K) = some (.inl xKh) := xOeq_ok xhead_lit
  obtain ⟨K2, h1, h2⟩ := xbind_in h
  obtain ⟨K1, h3, h4⟩ := xbind_in h1
  obtain ⟨z1, hz1, K1', g1, g2⟩ := xLn_ok ys 3 xK0 _ K1 xK0_ok h3
  obtain ⟨z2, hz2, K2', g3, g4⟩ := xLn_ok ys 2 K1 K1' K2 g1 h4
  obtain ⟨z3, hz3, K3', g5, g6⟩ := xLn_ok ys 0 K2 K2' xKh g3 h2
  have a1 : (2 : Nat) ^ 3 = 8 := by decide
  have a2 : (2 : Nat) ^ 2 = 4 := by decide
  have a3 : (2 : Nat) ^ 0 = 1 := by decide
  rw [a1] at hz1
  rw [a2] at hz2
  rw [a3] at hz3
  refine ⟨z3 + z2 + z1, by omega, K3', g5, fun n => ?_⟩
  rw [← Nat.add_assoc, g2, ← Nat.add_assoc, g4, g6]
/-- a script of six: up to the switch -/
noncomputable def xst6 : xOn := xbind (xbind (xL (xtops 6) 3 xKh) (fun K => xL (xtops 6) 1 K)) (fun K => xL (xtops 6) 0 K)
noncomputable def xstk (o : xOn) : Bool := Option.casesOn (motive := fun _ => Bool) o false (fun N => Sum.casesOn (motive := fun _ => Bool) N (fun K => List.casesOn (motive := fun _ => Bool) K.2.2.1 false (fun v t => List.casesOn (motive := fun _ => Bool) t (xif (Nat.beq v.1 0) (xif (Nat.ble 2147483648 v.2.1) (Nat.ble v.2.2 2147483679) false) false) (fun _ _ => false))) (fun _ => false))
theorem xstk_in {o : xOn} (h : xstk o = true) : ∃ (K : xKa) (v : xa), o = some (.inl K) ∧ K.2.2.1 = [v] ∧ v.1 = 0 ∧ 2147483648 ≤ v.2.1 ∧ v.2.2 ≤ 2147483679 := by
  cases o with
  | none => exact (Bool.noConfusion h)
  | some N =>
    cases N with
    | inr r => exact (Bool.noConfusion h)
    | inl K =>
      obtain ⟨pc, lv, st, A⟩ := K
      cases st with
      | nil => exact (Bool.noConfusion h)
      | cons v t =>
        cases t with
        | cons w t => exact (Bool.noConfusion h)
        | nil =>
          have h : xif (Nat.beq v.1 0) (xif (Nat.ble 2147483648 v.2.1) (Nat.ble v.2.2 2147483679) false) false = true := h
          obtain ⟨h1, h2⟩ := xif_and h
          obtain ⟨h2, h3⟩ := xif_and h2
          exact ⟨(pc, lv, [v], A), v, rfl, rfl, xbeq h1, xble h2, xble h3⟩
noncomputable def xgo6 (bx : List xa) (c : Nat) : Bool := xfinal (xbind xst6 (fun K => xL bx 7 (K.1, K.2.1, [(0, c, c)], K.2.2.2)))
/-- what is owed of a kind of call and a box of arguments -/
def xG (c : Nat) (bx : List xa) : Prop := ∀ ys : List Int32, ys.length = 6 → xvs bx (ys.map Value.int) → ∀ K : xKa, xst6 = some (.inl K) → ∀ (lv : xj_L) (M : xj_M) (v : Int32), xa_e v = c → xlr K.2.1 lv → xmr K.2.2.2 M → xend ys (K.1, lv, [.int v], M)
theorem xleaf {c : Nat} {bx : List xa} (h : xgo6 bx c = true) : xG c bx := by
  intro ys h6 hb K hK lv M v hv hl hM
  unfold xgo6 at h
  rw [hK] at h
  have h : xfinal (xL bx 7 (K.1, K.2.1, [(0, c, c)], K.2.2.2)) = true := h
  refine xL_end hb (by rw [h6]; decide) (by decide) (K := (K.1, K.2.1, [(0, c, c)], K.2.2.2)) ⟨rfl, hl, ⟨⟨rfl, ?_, ?_⟩, trivial⟩, hM⟩ h
  · exact Nat.le_of_eq hv.symm
  · exact Nat.le_of_eq hv
theorem xvs_mid : ∀ (pre : List xa) {a : xa} {post : List xa} {ws : List Value}, xvs (pre ++ a :: post) ws → ∃ w1 w w2, ws = w1 ++ w :: w2 ∧ xvs pre w1 ∧ xv a w ∧ xvs post w2 := by
  intro pre
  induction pre with
  | nil =>
    intro a post ws h
    obtain ⟨v, vs, rfl, h1, h2⟩ := xvs_c h
    exact ⟨[], v, vs, rfl, trivial, h1, h2⟩
  | cons p pre ih =>
    intro a post ws h
    obtain ⟨v, vs, rfl, h1, h2⟩ := xvs_c h
    obtain ⟨w1, w, w2, rfl, g1, g2, g3⟩ := ih h2
    exact ⟨v :: w1, w, w2, rfl, ⟨h1, g1⟩, g2, g3⟩
theorem xvs_put : ∀ (pre : List xa) {a : xa} {post : List xa} {w1 : List Value} {w : Value} {w2 : List Value}, xvs pre w1 → xv a w → xvs post w2 → xvs (pre ++ a :: post) (w1 ++ w :: w2) := by
  intro pre
  induction pre with
  | nil =>
    intro a post w1 w w2 h1 h2 h3
    rw [xvs_n h1]
    exact ⟨h2, h3⟩
  | cons p pre ih =>
    intro a post w1 w w2 h1 h2 h3
    obtain ⟨v, vs, rfl, g1, g2⟩ := xvs_c h1
    exact ⟨g1, ih g2 h2 h3⟩
theorem xspl {c : Nat} (pre post : List xa) (lo m hi : Nat) (h1 : xG c (pre ++ (0, lo, m) :: post)) (h2 : xG c (pre ++ (0, m + 1, hi) :: post)) : xG c (pre ++ (0, lo, hi) :: post) := by
  intro ys h6 hb
  obtain ⟨w1, w, w2, e, g1, g2, g3⟩ := xvs_mid pre hb
  obtain ⟨x, rfl, b1, b2⟩ := xv_i g2 rfl
  rcases Nat.lt_or_ge m (xa_e x) with q | q
  · exact h2 ys h6 (by rw [e]; exact xvs_put pre g1 ⟨rfl, q, b2⟩ g3)
  · exact h1 ys h6 (by rw [e]; exact xvs_put pre g1 ⟨rfl, b1, q⟩ g3)
theorem xsix (hst : xstk xst6 = true) (hall : ∀ j, j < 32 → xG (2147483648 + j) (xtops 6)) {ys : List Int32} (h6 : ys.length = 6) {K' : xj_K} (hK' : xKr xKh K') : ∃ (z : Nat) (Mf : xj_M), z ≤ 8192 ∧ Mf.1.length ≤ 2000 ∧ Mf.2 ≤ 1000000 ∧ ∀ n, xj_loop (xj_call 524288 20) (none, 20, some ys) xj_lr (n + z) K' = some (.inl (some (.int 1)), Mf) := by
  obtain ⟨K, v, hK, e1, e2, e3, e4⟩ := xstk_in hst
  have hb : xvs (xtops 6) (ys.map Value.int) := by rw [← h6]; exact xtops_ok ys
  have hl : ys.length < 131072 := by rw [h6]; decide
  have hK2 : xbind (xbind (xL (xtops 6) 3 xKh) (fun K => xL (xtops 6) 1 K)) (fun K => xL (xtops 6) 0 K) = some (.inl K) := hK
  obtain ⟨Kb, k0, k3⟩ := xbind_in hK2
  obtain ⟨Ka, k1, k2⟩ := xbind_in k0
  obtain ⟨z1, hz1, K1', g1, g2⟩ := xL_ok hb hl 3 xKh K' _ hK' k1
  obtain ⟨z2, hz2, Kb', g3, g4⟩ := xL_ok hb hl 1 Ka K1' _ g1 k2
  obtain ⟨z4, hz4, K2', g5, g6⟩ := xL_ok hb hl 0 Kb Kb' _ g3 k3
  obtain ⟨pc', lv, st, M⟩ := K2'
  obtain ⟨p1, p2, p3, p4⟩ := g5
  have p1 : K.1 = pc' := p1
  have p2 : xlr K.2.1 lv := p2
  have p3 : xvs K.2.2.1 st := p3
  have p4 : xmr K.2.2.2 M := p4
  subst p1
  rw [e1] at p3
  obtain ⟨w, ws, rfl, q1, q2⟩ := xvs_c p3
  cases xvs_n q2
  obtain ⟨x, rfl, q3, q4⟩ := xv_i q1 e2
  have hj : xa_e x = 2147483648 + (xa_e x - 2147483648) := by omega
  obtain ⟨z3, Mf, hz3, f1, f2, f3⟩ := hall (xa_e x - 2147483648) (by omega) ys h6 hb K hK lv M x hj p2 p4
  have a1 : (2 : Nat) ^ 3 = 8 := by decide
  have a2 : (2 : Nat) ^ 1 = 2 := by decide
  have a3 : (2 : Nat) ^ 0 = 1 := by decide
  rw [a1] at hz1
  rw [a2] at hz2
  rw [a3] at hz4
  refine ⟨z3 + z4 + z2 + z1, Mf, by omega, f1, f2, fun n => ?_⟩
  rw [← Nat.add_assoc, g2, ← Nat.add_assoc, g4, ← Nat.add_assoc, g6]
  exact f3 n
/-- a script shorter than six -/
theorem xshort {ys : List Int32} (h : xfinal (xL (xtops ys.length) 6 xKh) = true) (hl : ys.length < 131072) {K' : xj_K} (hK' : xKr xKh K') : xend ys K' := xL_end (xtops_ok ys) hl (by decide) hK' h
