/-! Arrays, arithmetic, returns, calls -/
theorem xix_ok {n : Nat} {x : Int32} (h1 : 2147483648 ≤ xa_e x) (h2 : xa_e x < n + 2147483648) : xj_ix n x = some (xa_e x - 2147483648) := by
  have h3 := xa_e_int x
  have e : x.toNatClampNeg = xa_e x - 2147483648 := by
    show x.toInt.toNat = _
    omega
  unfold xj_ix
  rw [if_neg, e]
  rintro (q | q)
  · have : x.toInt < 0 := Int32.lt_iff_toInt_lt.mp q
    omega
  · omega
theorem xall_ok {c : xcl} {v : xa} : ∀ n i, xall c v n i = true → ∀ k, k < n → xel c (i + k) = v := by
  intro n
  induction n with
  | zero => intro i h k hk; omega
  | succ n ih =>
    intro i h k hk
    have h : xif (xaeq (xel c i) v) (xall c v n (Nat.succ i)) false = true := h
    obtain ⟨h1, h2⟩ := xif_and h
    cases k with
    | zero => exact xaeq_eq h1
    | succ k =>
      have := ih (i + 1) h2 k (by omega)
      rw [show i + (k + 1) = i + 1 + k by omega]
      exact this
theorem xload_ok {c : xcl} {i v : xa} {x : Int32} {n : Nat} {f : Nat → Value} (hc : c.2.2.1 = n) (hf : ∀ j, j < n → xv (xel c j) (f j)) (h1 : i.2.1 ≤ xa_e x) (h2 : xa_e x ≤ i.2.2) (h : xload c i = some v) : ∃ j, xj_ix n x = some j ∧ xv v (f j) := by
  unfold xload at h
  obtain ⟨c1, h⟩ := xif_some h
  obtain ⟨c2, h⟩ := xif_some h
  have c1 : 2147483648 ≤ i.2.1 := xble c1
  have c2 : i.2.2 < c.2.2.1 + 2147483648 := xblt c2
  refine ⟨_, xix_ok (by omega) (by omega), ?_⟩
  cases c3 : xcon i with
  | true =>
    rw [c3, xif_t] at h
    cases h
    have c3 := xcon_eq c3
    have : xa_e x = i.2.1 := by omega
    rw [this]
    exact hf _ (show i.2.1 - 2147483648 < n by omega)
  | false =>
    rw [c3, xif_f] at h
    obtain ⟨c4, h⟩ := xif_some h
    cases h
    have := xall_ok _ _ c4 (xa_e x - i.2.1) (by show _ < i.2.2 - i.2.1 + 1; omega)
    rw [← this]
    have e : Nat.sub i.2.1 2147483648 + (xa_e x - i.2.1) = xa_e x - 2147483648 := by
      show i.2.1 - 2147483648 + (xa_e x - i.2.1) = _
      omega
    rw [e]
    exact hf _ (by omega)
theorem xel_set {c : xcl} {j : Nat} {w : xa} (hj : j < 131072) (i : Nat) (hi : i < 131072) : xel (c.1, c.2.1, c.2.2.1, c.2.2.2.1, c.2.2.2.2.1, xs_set 17 c.2.2.2.2.2 j w) i = if i = j then w else xel c i := by
  unfold xel
  simp only
  rw [xs_get_set 17 c.2.2.2.2.2 j i w (by omega) (by omega)]
  split <;> rfl
theorem xstore_ok {A B : xme} {M : xj_M} {a : Nat} {c : xcl} {i w : xa} {x : Int32} {w' : Value} {q : Nat × Nat × (Nat → Value)} (hA : xmr A M) (hcc : xm_cell A a = some c) (h0 : c.1 = 1) (hq : xj_arr M a = some q) (h1 : i.2.1 ≤ xa_e x) (h2 : xa_e x ≤ i.2.2) (hw : xv w w') (h : xstore A a c i w = some B) : ∃ j, xj_ix q.2.1 x = some j ∧ xmr B (xj_put M a (.inr (.inl (q.1, q.2.1, updV q.2.2 j w')))) := by
  obtain ⟨g1, g2, q', g3, g4, g5, g6, g7, g8⟩ := xm_arr_ok hA hcc h0
  rw [hq] at g3
  cases g3
  unfold xstore at h
  obtain ⟨c1, h⟩ := xif_some h
  obtain ⟨c2, h⟩ := xif_some h
  obtain ⟨c3, h⟩ := xif_some h
  have c1 := xcon_eq c1
  have c2 : 2147483648 ≤ i.2.1 := xble c2
  have c3 : i.2.1 < c.2.2.1 + 2147483648 := xblt c3
  have e : xa_e x = i.2.1 := by omega
  refine ⟨_, xix_ok (by omega) (by omega), ?_⟩
  rw [e]
  have hj : i.2.1 - 2147483648 < q.2.1 := by omega
  cases c4 : xaeq (xel c (Nat.sub i.2.1 2147483648)) w with
  | true =>
    rw [c4, xif_t] at h
    cases h
    have c4 : xel c (i.2.1 - 2147483648) = w := xaeq_eq c4
    refine xmr_same hA g4 (fun c' h3 h4 => ?_)
    have : c' = c := by
      unfold xm_cell at hcc
      obtain ⟨-, hcc⟩ := xif_some hcc
      obtain ⟨-, hcc⟩ := xif_some hcc
      have hcc : xs_get 11 A.1 (a - 64) = some c := hcc
      rw [h4] at hcc
      cases hcc; rfl
    subst this
    refine ⟨h0, g5, g6, g7, fun k hk => ?_⟩
    show xv (xel c' k) (if k = i.2.1 - 2147483648 then w' else q.2.2 k)
    split
    · rename_i ek
      rw [ek, c4]; exact hw
    · exact g8 k hk
  | false =>
    rw [c4, xif_f] at h
    cases h
    refine xmr_put hA g2 g4 ⟨h0, g5, g6, g7, fun k hk => ?_⟩
    have hk : k < q.2.1 := hk
    have ee := xel_set (c := c) (j := i.2.1 - 2147483648) (w := w) (by omega) k (by omega)
    show xv (xel (c.1, c.2.1, c.2.2.1, c.2.2.2.1, c.2.2.2.2.1, xs_set 17 c.2.2.2.2.2 (i.2.1 - 2147483648) w) k) (if k = i.2.1 - 2147483648 then w' else q.2.2 k)
    rw [ee]
    split
    · exact hw
    · exact g8 k hk
theorem xnr_ok (k : Nat) (x : Int32) (hk : k ≤ 2) : narrow (xj_kty k) (.int x) = .int (xnr k x) := by
  match k, hk with
  | 0, _ => rfl
  | 1, _ => rfl
  | 2, _ => rfl
  | k + 3, h => omega
theorem xnw_ok {k : Nat} {v : xa} {x : Int32} (h1 : v.2.1 ≤ xa_e x) (h2 : xa_e x ≤ v.2.2) : xv (xnw k v) (.int (xnr k x)) := by
  unfold xnw
  cases c : xcon v with
  | false => exact xv_top
  | true =>
    have c := xcon_eq c
    have e : xa_e x = v.2.1 := by omega
    rw [xif_t, xg_eq, ← e, xa_d_e]
    exact xv_ci _
