/-! Calls over a base that answers one method by what was proved of it -/
noncomputable def xcres (o : xOn) : Option (xRa × xme) := Option.casesOn (motive := fun _ => Option (xRa × xme)) o none (fun N => Sum.casesOn (motive := fun _ => Option (xRa × xme)) N (fun _ => none) (fun r => some r))
theorem xcres_in {o : xOn} {q : xRa × xme} (h : xcres o = some q) : o = some (.inr q) := by
  cases o with
  | none => exact (xsome_ne h).elim
  | some N =>
    cases N with
    | inl K => exact (xsome_ne h).elim
    | inr r => rw [xsome_in (p := r) h]
noncomputable def xcB (P : Nat → Option xmt) (d : Nat) (ih : xFa) (j : Nat) (as : List xa) (A : xme) : Option (xRa × xme) := Option.casesOn (motive := fun _ => Option (xRa × xme)) (P j) none (fun m => xif (Nat.ble (xsum as) m.2.1) (xcres (xrun ih d none m m.1 (0, xl_args as, [], A))) none)
noncomputable def xcallB (P : Nat → Option xmt) (base : xFa) (d0 : Nat) (d : Nat) : xFa := Nat.rec (motive := fun _ => xFa) base (fun d ih => xcB P (Nat.add d0 d) ih) d
theorem xcB_in {P : Nat → Option xmt} {d j : Nat} {ih : xFa} {as : List xa} {A : xme} {q : xRa × xme} (h : xcB P d ih j as A = some q) : ∃ m, P j = some m ∧ xsum as ≤ m.2.1 ∧ xrun ih d none m m.1 (0, xl_args as, [], A) = some (.inr q) := by
  unfold xcB at h
  cases hm : P j with
  | none => rw [hm] at h; exact (xsome_ne h).elim
  | some m =>
    rw [hm] at h
    replace h : xif (Nat.ble (xsum as) m.2.1) (xcres (xrun ih d none m m.1 (0, xl_args as, [], A))) none = some q := h
    obtain ⟨c, h⟩ := xif_some h
    exact ⟨m, rfl, xble c, xcres_in h⟩
theorem xcB_ok {P : Nat → Option xmt} (hP : xpok P) {n d : Nat} (hn : 262144 ≤ n) {ac : xFa} (ih : xcok (xj_call n d) ac) : xcok (xj_call n (d + 1)) (xcB P d ac) := by
  intro j as A r B vs M h hv hA
  obtain ⟨m, hm, c, hq⟩ := xcB_in h
  obtain ⟨row, r1, r2⟩ := hP j m hm
  have hS : xsr none ((xj_tab j, d, (none : Option (List Int32))) : xj_X).2.2 := fun bx e => by cases e
  have hKr : xKr (0, xl_args as, [], A) (0, lv_args 0 vs, [], M) := ⟨rfl, xlr_args hv, trivial, hA⟩
  have hrun := xrun_ok (call := xj_call n d) (ac := ac) (X := (xj_tab j, d, none)) (row := row) (S := none) (m := m) ih hS r2 m.1 (0, xl_args as, [], A) (0, lv_args 0 vs, [], M) (.inr (r, B)) hKr hq
  obtain ⟨z, hz, r', M', g1, g2, g3⟩ := hrun
  have hz3 : 2 ^ m.1 ≤ 2 ^ 18 := Nat.pow_le_pow_right (by decide) r2.2.1
  have hz4 : (2 : Nat) ^ 18 = 262144 := by decide
  have hz2 : z ≤ 262144 := Nat.le_trans hz (Nat.le_trans hz3 (Nat.le_of_eq hz4))
  have hlen : (lg_sl vs).length ≤ row.2.2.2.1 := by
    rw [lg_sl_sum vs (xvs_cat _ _ hv), xsum_ok _ _ hv, ← r2.1]; exact c
  have g4 := g3 (n - z)
  rw [show n - z + z = n from Nat.sub_add_cancel (Nat.le_trans hz2 hn)] at g4
  exact ⟨r', M', (xj_call_s r1 hlen).trans g4, g1, g2⟩
theorem xcallB_s (P : Nat → Option xmt) (base : xFa) (d0 d : Nat) : xcallB P base d0 (d + 1) = xcB P (d0 + d) (xcallB P base d0 d) := rfl
theorem xcallB_ok {P : Nat → Option xmt} (hP : xpok P) {n d0 : Nat} (hn : 262144 ≤ n) {base : xFa} (hb : xcok (xj_call n d0) base) : ∀ d, xcok (xj_call n (d0 + d)) (xcallB P base d0 d) := by
  intro d
  induction d with
  | zero => exact hb
  | succ d ih =>
    rw [xcallB_s]
    exact xcB_ok hP hn ih
/-- one method's answer by what was proved of it -/
noncomputable def xmeq (A B : xme) : Bool := xif (Nat.beq A.2.1 B.2.1) (xif (Nat.beq A.2.2 B.2.2) (xseq xceq 11 A.1 B.1) false) false
theorem xmeq_ok {A B : xme} (h : xmeq A B = true) : A = B := by
  unfold xmeq at h
  obtain ⟨h1, h⟩ := xif_and h
  obtain ⟨h2, h3⟩ := xif_and h
  obtain ⟨a1, a2, a3⟩ := A
  obtain ⟨b1, b2, b3⟩ := B
  have e1 : a2 = b2 := xbeq h1
  have e2 : a3 = b3 := xbeq h2
  have e3 : a1 = b1 := xseq_ok xceq_ok 11 _ _ h3
  rw [e1, e2, e3]
noncomputable def xov (jv : Nat) (la : List xa) (lA lB : xme) (f : xFa) : xFa := fun j as A => xif (xif (Nat.beq j jv) (xif (xleq as la) (xmeq A lA) false) false) (some (.inl none, lB)) (f j as A)
theorem xov_ok {call : xj_F} {f : xFa} {jv : Nat} {la : List xa} {lA lB : xme} (hf : xcok call f) (hv : ∀ vs M, xvs la vs → xmr lA M → ∃ M', call jv vs M = some (.inl none, M') ∧ xmr lB M') : xcok call (xov jv la lA lB f) := by
  intro j as A r B vs M h hvs hA
  replace h : xif (xif (Nat.beq j jv) (xif (xleq as la) (xmeq A lA) false) false) (some (.inl none, lB)) (f j as A) = some (r, B) := h
  cases c : xif (Nat.beq j jv) (xif (xleq as la) (xmeq A lA) false) false with
  | false => rw [c, xif_f] at h; exact hf j as A r B vs M h hvs hA
  | true =>
    rw [c, xif_t] at h
    obtain ⟨c1, c2⟩ := xif_and c
    obtain ⟨c2, c3⟩ := xif_and c2
    have e1 := xbeq c1
    have e2 := xleq_ok _ _ c2
    have e3 := xmeq_ok c3
    subst e1
    subst e2
    subst e3
    have e := xsome_in h
    obtain ⟨M', g1, g2⟩ := hv vs M hvs hA
    cases e
    exact ⟨.inl none, M', g1, rfl, g2⟩
/-- a method's run in segments -/
noncomputable def xV (ac : xFa) (d : Nat) (m : xmt) (ks : List Nat) : xKa → xOn := List.rec (motive := fun _ => xKa → xOn) (fun K => some (.inl K)) (fun k _ ih K => xbind (xrun ac d none m k K) ih) ks
def xgoes (n d : Nat) (row : xj_mR) (K K2 : xKa) (z : Nat) : Prop := ∀ K', xKr K K' → ∃ w, w ≤ z ∧ ∃ K2', xKr K2 K2' ∧ ∀ t, xj_loop (xj_call n d) (none, d, none) row (t + w) K' = xj_loop (xj_call n d) (none, d, none) row t K2'
theorem xgoes.tr {n d : Nat} {row : xj_mR} {K K2 K3 : xKa} {z1 z2 : Nat} (h1 : xgoes n d row K K2 z1) (h2 : xgoes n d row K2 K3 z2) : xgoes n d row K K3 (z1 + z2) := by
  intro K' hK
  obtain ⟨w1, a1, K2', b1, c1⟩ := h1 K' hK
  obtain ⟨w2, a2, K3', b2, c2⟩ := h2 K2' b1
  exact ⟨w2 + w1, by omega, K3', b2, fun t => by rw [← Nat.add_assoc, c1, c2]⟩
theorem xV_ok {n d : Nat} {row : xj_mR} {ac : xFa} {m : xmt} (hac : xcok (xj_call n d) ac) (hm : xrok row none m) : ∀ (ks : List Nat) (K K2 : xKa), xV ac d m ks K = some (.inl K2) → xgoes n d row K K2 ((ks.map (fun k => 2 ^ k)).sum) := by
  intro ks
  induction ks with
  | nil =>
    intro K K2 h K' hK
    have h : (some (Sum.inl K) : xOn) = some (Sum.inl K2) := h
    have e : K = K2 := Sum.inl.inj (xsome_in h)
    subst e
    exact ⟨0, Nat.le_refl _, K', hK, fun t => rfl⟩
  | cons k ks ih =>
    intro K K2 h
    have h : xbind (xrun ac d none m k K) (xV ac d m ks) = some (.inl K2) := h
    obtain ⟨K1, h1, h2⟩ := xbind_in h
    have g2 := ih K1 K2 h2
    have g1 : xgoes n d row K K1 (2 ^ k) := by
      intro K' hK
      have hS : xsr none (((none : xj_H), d, (none : Option (List Int32))) : xj_X).2.2 := fun bx e => by cases e
      obtain ⟨z, hz, h3⟩ := xrun_ok (call := xj_call n d) (ac := ac) (X := (none, d, none)) (row := row) (S := none) (m := m) hac hS hm k K K' (.inl K1) hK h1
      exact ⟨z, hz, h3⟩
    simp only [List.map_cons, List.sum_cons]
    exact g1.tr g2
noncomputable def xOend (o : xOn) (lB : xme) : Bool := Option.casesOn (motive := fun _ => Bool) o false (fun N => Sum.casesOn (motive := fun _ => Bool) N (fun _ => false) (fun r => Sum.casesOn (motive := fun _ => Bool) r.1 (fun v => Option.casesOn (motive := fun _ => Bool) v (xmeq r.2 lB) (fun _ => false)) (fun _ => false)))
theorem xOend_ok {o : xOn} {lB : xme} (h : xOend o lB = true) : o = some (.inr (.inl none, lB)) := by
  cases o with
  | none => exact Bool.noConfusion h
  | some N =>
    cases N with
    | inl K => exact Bool.noConfusion h
    | inr r =>
      obtain ⟨r1, r2⟩ := r
      cases r1 with
      | inr k => exact Bool.noConfusion h
      | inl v =>
        cases v with
        | some v => exact Bool.noConfusion h
        | none =>
          have h : xmeq r2 lB = true := h
          rw [xmeq_ok h]
/-- a method's call out of its segments -/
theorem xV_call {n d j z k : Nat} {row : xj_mR} {ac : xFa} {m : xmt} (hac : xcok (xj_call n d) ac) (hj : xj_row j = some row) (ht : xj_tab j = none) (hm : xrok row none m) {la : List xa} {lA lB : xme} {K2 : xKa} (hla : xsum la ≤ row.2.2.2.1) (h1 : xgoes n d row (0, xl_args la, [], lA) K2 z) (h2 : xrun ac d none m k K2 = some (.inr (.inl none, lB))) (hz : z + 2 ^ k ≤ n) :
    ∀ vs M, xvs la vs → xmr lA M → ∃ M', xj_call n (d + 1) j vs M = some (.inl none, M') ∧ xmr lB M' := by
  intro vs M hv hA
  have hKr : xKr (0, xl_args la, [], lA) (0, lv_args 0 vs, [], M) := ⟨rfl, xlr_args hv, trivial, hA⟩
  obtain ⟨w, hw, K2', g1, g2⟩ := h1 _ hKr
  have hS : xsr none (((none : xj_H), d, (none : Option (List Int32))) : xj_X).2.2 := fun bx e => by cases e
  obtain ⟨y, hy, r', M', g3, g4, g5⟩ := xrun_ok (call := xj_call n d) (ac := ac) (X := (none, d, none)) (row := row) (S := none) (m := m) hac hS hm k K2 K2' (.inr (.inl none, lB)) g1 h2
  have hlen : (lg_sl vs).length ≤ row.2.2.2.1 := by
    rw [lg_sl_sum vs (xvs_cat _ _ hv), xsum_ok _ _ hv]; exact hla
  have g3 : r' = .inl none := g3
  have e : n = n - y - w + y + w := by omega
  have g6 := g2 (n - y - w + y)
  rw [← e] at g6
  have g7 := (xj_call_s (n := n) (d := d) (M := M) hj hlen)
  rw [ht] at g7
  rw [g3] at g5
  exact ⟨M', g7.trans (g6.trans (g5 _)), g4⟩
/-- a leaf with another call function -/
noncomputable def xgo6b (ac : xFa) (bx : List xa) (c : Nat) : Bool := xfinal (xbind xst6 (fun K => xrun ac 20 (some bx) xt_2000 7 (K.1, K.2.1, [(0, c, c)], K.2.2.2)))
theorem xleafb {ac : xFa} (hac : xcok (xj_call 524288 20) ac) {c : Nat} {bx : List xa} (h : xgo6b ac bx c = true) : xG c bx := by
  intro ys h6 hb K hK lv M v hv hl hM
  unfold xgo6b at h
  rw [hK] at h
  have h : xfinal (xrun ac 20 (some bx) xt_2000 7 (K.1, K.2.1, [(0, c, c)], K.2.2.2)) = true := h
  obtain ⟨r, A, h1, h2, h3, h4⟩ := xfinal_in h
  have hS : xsr (some bx) (((none : xj_H), (20 : Nat), some ys) : xj_X).2.2 := fun bx2 e => ⟨ys, rfl, by rw [h6]; decide, by cases e; exact hb⟩
  have hK2 : xKr (K.1, K.2.1, [(0, c, c)], K.2.2.2) (K.1, lv, [.int v], M) := ⟨rfl, hl, ⟨⟨rfl, Nat.le_of_eq hv.symm, Nat.le_of_eq hv⟩, trivial⟩, hM⟩
  obtain ⟨z, hz, r', M', g1, g2, g3⟩ := xrun_ok (call := xj_call 524288 20) (ac := ac) (X := (none, 20, some ys)) (row := xj_lr) (S := some bx) (m := xt_2000) hac hS xlaw_ok 7 (K.1, K.2.1, [(0, c, c)], K.2.2.2) (K.1, lv, [.int v], M) (.inr (r, A)) hK2 h1
  have g1 : xrr r r' := g1
  have g2 : xmr A M' := g2
  subst h2
  obtain ⟨w, rfl, hw⟩ := g1
  obtain ⟨x, rfl, e1, e2⟩ := xv_i hw rfl
  have e3 : x = 1 := xa_inj.mp (by
    have : xa_e (1 : Int32) = 2147483649 := by decide
    rw [this]
    exact Nat.le_antisymm e2 e1)
  subst e3
  have a7 : (2 : Nat) ^ 7 = 128 := by decide
  rw [a7] at hz
  exact ⟨z, M', by omega, by rw [← g2.1]; exact h3, by rw [← g2.2.1]; exact h4, g3⟩
