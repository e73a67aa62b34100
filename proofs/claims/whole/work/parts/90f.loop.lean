/-! WHOLE: the law's loop -/
/-- class and reference stand at one state -/
def jSt (M : xj_M) (S : Nat → Nat × Nat × Nat) (G : xG_) (A sl : Nat) (Gr : xG_) (H : sHs) (n : Nat) : Prop := xCX 279 M M (S, G, (A, sl)) ∧ xRX 279 M M Gr ∧ cHs S G A H n ∧ rHs Gr H n ∧ S 555 = (2, 4, 1)
theorem is_sh {M : xj_M} {x c n : Nat} (h : xh_sh M x = (1, c, n)) : xq_is c x M = some () := by
  unfold xh_sh at h
  unfold xq_is xj_obj
  split at h
  · cases h
  · rename_i o e
    rw [e]
    simp only [Prod.mk.injEq] at h
    show (if o.1 = c then some () else none) = some ()
    rw [if_pos h.2.1]
  · cases h
theorem rx_is {M0 M : xj_M} {G : xG_} (h : xRX 279 M0 M G) : xq_is 15 279 M = some () := by
  have h1 := (h.2.1 0 (by decide)).1
  exact is_sh (n := 107) h1
section
variable {xs : List Int32} {r23 : Nat → Nat → Nat → Nat → Int → xj_M → Option (Int × xj_M)} {M : xj_M} {S : Nat → Nat × Nat × Nat} {G Gr : xG_} {A sl n i : Nat} {H : sHs}
/-- one call -/
theorem j_step (hG2 : ∀ S m, gG2 f00 S m) (hJ : jSt M S G A sl Gr H n) (hn : n ≤ 515) (hx : xs.length ≤ 3072) (hi : i + 6 ≤ xs.length) : ∃ M' S' G' A' sl' Gr' H' n', f2000_23b xs r23 f00 0 64 279 555 (i : Int) M = r23 0 64 279 555 ((i + 6 : Nat) : Int) M' ∧ jSt M' S' G' A' sl' Gr' H' n' ∧ n' ≤ n + 1 ∧ A' ≤ A + 330 ∧ sl' ≤ sl + 10400 := by
  obtain ⟨hcx, hrx, hC, hRh, h5⟩ := hJ
  have hS := hS00 (f := f00) (by decide)
  have hI := hI00 (f := f00) (by decide)
  have hh : xHl 279 = 276 := rfl
  have f1 : 100003010 < f00 := by decide
  have f2 : 1000100 < f00 := by decide
  have hl : xq_scl xs = some (xs.length : Int) := if_pos (by omega)
  have hL : ¬ xwr ((xs.length : Int) - 6) < (i : Int) := by rw [xwr_g _ (by omega) (by omega)]; omega
  have sc : ∀ j : Nat, j < 6 → xq_sci xs (xwr ((i : Int) + (j : Int))) = some (xs.getD (i + j) 0).toInt := fun j hj => by
    rw [xwr_g _ (by omega) (by omega)]
    unfold xq_sci
    rw [if_pos (by omega), show ((i : Int) + (j : Int)).toNat = i + j by omega]
  have sc0 : xq_sci xs (i : Int) = some (xs.getD i 0).toInt := by
    unfold xq_sci
    rw [if_pos (by omega), show (i : Int).toNat = i by omega]
  have w6 : xwr ((i : Int) + 6) = ((i + 6 : Nat) : Int) := by rw [xwr_g _ (by omega) (by omega)]; omega
  obtain ⟨B, hBd⟩ : ∃ B : sAr, B = ((xs.getD (i + 1) 0).toInt, (xs.getD (i + 2) 0).toInt, (xs.getD (i + 3) 0).toInt, (xs.getD (i + 4) 0).toInt, (xs.getD (i + 5) 0).toInt) := ⟨_, rfl⟩
  have hB : xB5 B := by rw [hBd]; exact ⟨xin_of _, xin_of _, xin_of _, xin_of _, xin_of _⟩
  have s1 : xq_sci xs (xwr ((i : Int) + 1)) = some B.1 := by rw [hBd]; exact sc 1 (by omega)
  have s2 : xq_sci xs (xwr ((i : Int) + 2)) = some B.2.1 := by rw [hBd]; exact sc 2 (by omega)
  have s3 : xq_sci xs (xwr ((i : Int) + 3)) = some B.2.2.1 := by rw [hBd]; exact sc 3 (by omega)
  have s4 : xq_sci xs (xwr ((i : Int) + 4)) = some B.2.2.2.1 := by rw [hBd]; exact sc 4 (by omega)
  have s5 : xq_sci xs (xwr ((i : Int) + 5)) = some B.2.2.2.2 := by rw [hBd]; exact sc 5 (by omega)
  by_cases cc : xand (xs.getD i 0).toInt 31 < 0 ∨ 24 < xand (xs.getD i 0).toInt 31
  · refine ⟨M, S, G, A, sl, Gr, H, n, ?_, ⟨hcx, hrx, hC, hRh, h5⟩, by omega, by omega, by omega⟩
    unfold f2000_23b f2000_1186
    rw [hl, Option.bind_some, if_neg hL, sc0, Option.bind_some, if_pos cc, w6]
  · obtain ⟨c, hc⟩ : ∃ c : Nat, xand (xs.getD i 0).toInt 31 = (c : Int) := ⟨(xand (xs.getD i 0).toInt 31).toNat, by omega⟩
    have hc24 : c ≤ 24 := by omega
    -- the reference
    obtain ⟨v, t, Gr', H', g1, g2, g3, g4⟩ := r_step (c := c) (A := B) f2 (by omega) hc24 hB.2.2.1.2 hRh
    -- the class
    obtain ⟨w, ⟨S', G', A', sl'⟩, k1, k2, k3, k4, k5, k6⟩ := c_step (c := c) (B := B) (sl := sl) f1 hn hc24 hB.1.2 (hG2 S) hC h5 (rh_in hRh) g2 (rh_in g3)
    have k4' : cHs S' G' A' H' (n + 1) := k4
    have k6' : S' 555 = (2, 4, 1) := k6
    have k5' : A ≤ A' ∧ A' ≤ A + 330 ∧ sl' ≤ sl + 10400 := k5
    obtain ⟨⟨v1, M1⟩, y1, y2, y3⟩ := tC_all hc24 hS hB hcx k1
    have y2' : v1 = w := y2
    subst y2'
    have y3' : xCX 279 M M1 (S', G', (A', sl')) := y3
    have hrx1 : xRX 279 M1 M1 Gr := rx_mv hrx (fun a ha => (y3'.2.1 a (by rw [hh]; exact ha)).2)
    obtain ⟨⟨v2, M2⟩, u1, u2, u3⟩ := sC_all hc24 hI hB hrx1 g1
    have u2' : v2 = v := u2
    subst u2'
    have u3' : xRX 279 M1 M2 Gr' := u3
    have hcx2 : xCX 279 M2 M2 (S', G', (A', sl')) := cx_mv (by decide) y3' (fun a ha => u3'.2.2.1 a ha) u3'.2.2.2.1 u3'.2.2.2.2.1
    have hrx2 : xRX 279 M2 M2 Gr' := rx_mv u3' (fun _ _ => rfl)
    cases ht : isTh c with
    | false =>
      have e := k2 ht
      subst e
      have i1 : xq_is 11 64 M = some () := hcx.is (n := 17) (u := ()) (if_pos (s64 hC.ss))
      refine ⟨M2, S', G', A', sl', Gr', H', n + 1, ?_, ⟨hcx2, hrx2, k4', g3, k6'⟩, Nat.le_refl _, k5'.2.1, k5'.2.2⟩
      rw [lw_n hc24 ht hl hL sc0 hc s1 s2 s3 s4 s5 i1 y1 (rx_is hrx1) u1, w6]
    | true =>
      obtain ⟨e, e5⟩ := k3 ht
      subst e
      obtain ⟨⟨v3, M3⟩, z1, z2, z3, _⟩ := sg358 hI hrx2 (show g358 f00 Gr' = some (Gr' 0 74, Gr') from rfl)
      have z2' : v3 = Gr' 0 74 := z2
      rw [g4] at z2'
      subst z2'
      have z3' : xRX 279 M2 M3 Gr' := z3
      have hcx3 : xCX 279 M3 M3 (S', G', (A', sl')) := cx_mv (by decide) hcx2 (fun a ha => z3'.2.2.1 a ha) z3'.2.2.2.1 z3'.2.2.2.2.1
      have hrx3 : xRX 279 M3 M3 Gr' := rx_mv z3' (fun _ _ => rfl)
      refine ⟨M3, S', G', A', sl', Gr', H', n + 1, ?_, ⟨hcx3, hrx3, k4', g3, k6'⟩, Nat.le_refl _, k5'.2.1, k5'.2.2⟩
      rw [lw_t hc24 ht hl hL sc0 hc s1 s2 s3 s4 s5 y1 (rx_is hrx1) u1 (rx_is hrx2) z1 (fun z => ?_), w6]
      have ea : cq_a 4 555 0 (S', G', (A', sl')) = some v2 := by
        have q : G' 555 0 = v2 := e5 z
        rw [← q]
        exact o_a (z := 0) k6' (by omega)
      exact (hcx3.al ea).1
theorem j_loop (hG2 : ∀ S m, gG2 f00 S m) (hx : xs.length ≤ 3072) : ∀ (d i fu : Nat) (M : xj_M) (S : Nat → Nat × Nat × Nat) (G : xG_) (A sl : Nat) (Gr : xG_) (H : sHs) (n : Nat), xs.length < i + 6 * d + 6 → i + 6 * d ≤ xs.length → d < fu → jSt M S G A sl Gr H n → n + d ≤ 512 → A + 330 * d ≤ 600000 → sl + 10400 * d ≤ 7293034 → ∃ Mf, f2000_23 xs f00 fu 0 64 279 555 (i : Int) M = some (1, Mf) ∧ Mf.1.length ≤ 601024 ∧ Mf.2 ≤ 7293034 := by
  intro d
  induction d with
  | zero =>
    intro i fu M S G A sl Gr H n h1 h2 h3 hJ hn hA hs
    obtain ⟨fu, rfl⟩ : ∃ t, fu = t + 1 := ⟨fu - 1, by omega⟩
    have q1 : 64 + M.1.length = A := hJ.1.2.2.1
    have q2 : M.2 = sl := hJ.1.2.2.2.1
    refine ⟨M, ?_, by omega, by omega⟩
    have hl : xq_scl xs = some (xs.length : Int) := if_pos (by omega)
    show f2000_23b xs (f2000_23 xs f00 fu) f00 0 64 279 555 (i : Int) M = _
    unfold f2000_23b
    rw [hl, Option.bind_some, if_pos (by rw [xwr_g _ (by omega) (by omega)]; omega)]
  | succ d ih =>
    intro i fu M S G A sl Gr H n h1 h2 h3 hJ hn hA hs
    obtain ⟨fu, rfl⟩ : ∃ t, fu = t + 1 := ⟨fu - 1, by omega⟩
    obtain ⟨M', S', G', A', sl', Gr', H', n', e, j1, j2, j3, j4⟩ := j_step (r23 := f2000_23 xs f00 fu) (i := i) hG2 hJ (by omega) hx (by omega)
    obtain ⟨Mf, m1, m2⟩ := ih (i + 6) fu M' S' G' A' sl' Gr' H' n' (by omega) (by omega) (by omega) j1 (by omega) (by omega) (by omega)
    exact ⟨Mf, Eq.trans e m1, m2⟩
end
theorem xpure_of (hG2 : ∀ S m, gG2 f00 S m) : xpure := by
  intro xs hx
  obtain ⟨M1, M1', M2, M2', M3, q1, q2, q3, q4, q5, h⟩ := m_init
  have hJ : jSt M3 S00 t03.2.1 556 936535 g00 hs0 0 := ⟨cx_0 h, rx_0 h, c_init, r_init ini_0, S00_5⟩
  obtain ⟨Mf, m1, m2, m3⟩ := j_loop (xs := xs) hG2 hx (xs.length / 6) 0 f00 M3 S00 t03.2.1 556 936535 g00 hs0 0 (by omega) (by omega) (by show xs.length / 6 < 100003011; omega) hJ (by omega) (by omega) (by omega)
  refine ⟨f00, Mf, ?_, m2, m3⟩
  unfold f2000
  rw [q1, Option.bind_some, q2, Option.bind_some, q3, Option.bind_some, q4, Option.bind_some, q5, Option.bind_some]
  exact m1
