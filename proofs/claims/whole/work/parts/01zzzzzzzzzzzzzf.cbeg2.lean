/-! THE CLASS: begin() -/
/-- where the rows of a predicate ahead of a round, and at its start, lie -/
def bgP (so s : pPg) (xr : Nat → Nat) (tk : Int) (p a x : Nat) : Prop := (tk = 0 ∧ a = xr p ∧ x = xr p) ∨ (tk = 1 ∧ (∃ r, r < so.1.length ∧ qNm so r = qNm s p ∧ qN so r = qN s p ∧ a = xr r ∧ ((kpC so s p ∧ x = a) ∨ (¬ kpC so s p ∧ x = 201 + 3 * qN s p)))) ∨ (tk = 1 ∧ (∀ r, r < so.1.length → qNm so r = qNm s p → qN so r ≠ qN s p) ∧ a = 201 + 3 * qN s p ∧ x = 201 + 3 * qN s p)
section
variable {f q qo nx nxo mp rp : Nat} {S : Nat → Nat × Nat × Nat} {m : Nat × Nat} {s so : pPg} {xr cr : Nat → Nat} {Mo : Nat → List pRw} {tk : Int}
theorem kpC_i (hoko : qOk so) {p r : Nat} (hr : r < so.1.length) (h1 : qNm so r = qNm s p) (h2 : qN so r = qN s p) : kpC so s p ↔ pIn s.2.1 (p : Int) = true ∧ pIn so.2.1 (r : Int) = true ∧ pKy so.2.1 (r : Int) = pKy s.2.1 (p : Int) := by
  constructor
  · rintro ⟨a1, r', a2, a3, a4, a5, a6⟩
    have : r' = r := nm_inj hoko a2 hr (a3.trans h1.symm)
    subst this
    exact ⟨a1, a4, a6⟩
  · rintro ⟨a1, a2, a3⟩
    exact ⟨a1, r, hr, h1, a2, h2, a3⟩
theorem k_145i (hf : 20 < f) (hs : cSs S) (hmp : 203 < mp) (hrp : 203 < rp) (hq226 : 226 < q) (ho226 : 226 < qo) (hoks : qOc s) (hoko : qOc so) (htk : tk = 0 ∧ s = so ∨ tk = 1) :
    ∀ (d p fu : Nat) (G : xG_), p + d = s.1.length → d < fu → cPs G → cPgm S G q nx s → cPgm S G qo nxo so → cMr S G nx mp qo rp so xr cr Mo → (∀ j, j < p → ∃ a x : Nat, G 95 j = (a : Int) ∧ G 94 j = (x : Int) ∧ bgP so s xr tk j a x) → ∃ G', c145_38 f fu 93 mp q tk (p : Int) (S, G, m) = some (S, G', m) ∧ (∀ b j, b ≠ 94 → b ≠ 95 → G' b j = G b j) ∧ cPs G' ∧ ∀ j, j < s.1.length → ∃ a x : Nat, G' 95 j = (a : Int) ∧ G' 94 j = (x : Int) ∧ bgP so s xr tk j a x := by
  intro d
  induction d with
  | zero =>
    intro p fu G e1 e2 hp hP ho hM hD
    obtain ⟨fu, rfl⟩ : ∃ t, fu = t + 1 := ⟨fu - 1, by omega⟩
    have e : p = s.1.length := by omega
    subst e
    exact ⟨G, st_38z (r38 := c145_38 f fu) hP.1.1 hP.2.2.1.1, fun _ _ _ _ => rfl, hp, hD⟩
  | succ d ih =>
    intro p fu G e1 e2 hp hP ho hM hD
    obtain ⟨fu, rfl⟩ : ∃ t, fu = t + 1 := ⟨fu - 1, by omega⟩
    have hnp : s.1.length ≤ 16 := hoks.1.1.1
    have hnpo : so.1.length ≤ 16 := hoko.1.1.1
    have hpn : p < s.1.length := by omega
    have ep : xwr ((p : Int) + 1) = ((p + 1 : Nat) : Int) := by rw [xwr_g _ (by omega) (by omega)]; omega
    obtain ⟨w1, w4⟩ := qN_pos hoks hpn
    obtain ⟨m1, m2, m3, m4, m5⟩ := hM
    obtain ⟨es, _, _⟩ := em_s (w := qN s p) hs w1 w4
    obtain ⟨g98, _, _⟩ := em_p (w := qN s p) hp w1 w4
    have hwd : G (q + 2) p = ((qN s p : Nat) : Int) := by rw [(qN_c hoks.1.1 p).1]; exact hP.2.2.2.1 p (by omega)
    have p95 : ∀ {a : Nat}, cPs (xup2 G 95 p (a : Int)) := fun {a} => hp.ge (fun b j hz => xup2_n (by
      rcases hz with z | z | z | z | z | z | z | ⟨z, z1, z2, k, z3⟩ | z | z | z | ⟨k, z1, z2, z3⟩ <;> omega))
    -- the step
    have step : ∃ a x : Nat, bgP so s xr tk p a x ∧ c145_38 f (fu + 1) 93 mp q tk (p : Int) (S, G, m) = c145_38 f fu 93 mp q tk ((p + 1 : Nat) : Int) (S, xup2 (xup2 G 95 p (a : Int)) 94 p (x : Int), m) := by
      rcases htk with ⟨rfl, rfl⟩ | rfl
      · obtain ⟨n1, n2, n3⟩ := m5 p hpn
        refine ⟨xr p, xr p, .inl ⟨rfl, rfl, rfl⟩, ?_⟩
        have t1 : c145_38 f (fu + 1) 93 mp q 0 (p : Int) (S, G, m) = _ := st_38n (r38 := c145_38 f fu) hP.1.1 hP.2.2.1.1 hpn
        have t2 := t1.trans (st_66y' hs hp hP.1.1 hP.1.2.2.1 hP.2.1.2.1 (by omega) hwd (by omega) g98 m1 m3 m4 hpn n1)
        have t3 := t2.trans (st_106n hs (by omega) n3.1)
        exact t3.trans (st_165 hs p95 (by omega) true (xup2_s _ _ _ _) n3.1 es ep)
      · obtain ⟨v, v1, v2⟩ := k_21 (f := f) (m := m) hf hP ho hoks.1 hoko.1 hpn
        have t1 : c145_38 f (fu + 1) 93 mp q 1 (p : Int) (S, G, m) = _ := st_38t (r38 := c145_38 f fu) hP.1.1 hP.2.2.1.1 hpn m1 m2 ho.1.1 v1
        rcases v2 with ⟨r, rfl, r1, r2, r3⟩ | ⟨rfl, r1⟩
        · obtain ⟨n1, n2, n3⟩ := m5 r r1
          have t2 := t1.trans (st_66y' hs hp hP.1.1 hP.1.2.2.1 hP.2.1.2.1 (by omega) hwd (by omega) g98 m1 m3 m4 r1 n1)
          have hki : ∀ {q' nx' : Nat} {s' : pPg} {k : Nat}, cPgm S G q' nx' s' → qOc s' → k < 16 → G (q' + 3) k = pKy s'.2.1 (k : Int) ∧ G (q' + 4) k = b01 (pIn s'.2.1 (k : Int)) := fun {q' nx' s' k} h hk hk16 => by
            have := h.2.2.2.2.1 k hk16
            exact ⟨by rw [this.1, pKl_e hk.2.2.2.2.2.1], this.2.1⟩
          obtain ⟨k1, k2⟩ := hki hP hoks (by omega : p < 16)
          obtain ⟨k3, k4⟩ := hki ho hoko (by omega : r < 16)
          have t3 := t2.trans (st_106t hs (by omega) n3.1 (by omega) (by omega) hmp (by omega) hP.1.1 hP.1.2.2.2.1 hP.1.2.2.2.2.1 hP.2.1.2.2.1 hP.2.1.2.2.2.1 m1 m2 ho.1.1 ho.1.2.2.2.1 ho.1.2.2.2.2.1 ho.2.1.2.2.1 ho.2.1.2.2.2.1 k2 k4 k1 k3)
          have t4 := t3.trans (st_165 hs p95 (by omega) _ (xup2_s _ _ _ _) n3.1 es ep)
          refine ⟨_, _, .inr (.inl ⟨rfl, r, r1, r2, r3, rfl, ?_⟩), t4⟩
          rw [kpC_i hoko.1 r1 r2 r3]
          by_cases c : pIn s.2.1 (p : Int) = true ∧ pIn so.2.1 (r : Int) = true ∧ pKy so.2.1 (r : Int) = pKy s.2.1 (p : Int)
          · refine .inl ⟨c, ?_⟩
            rw [if_pos (by rw [c.1, c.2.1, decide_eq_true c.2.2.symm]; rfl)]
          · refine .inr ⟨c, ?_⟩
            rw [if_neg]
            intro hb
            simp only [Bool.and_eq_true, decide_eq_true_eq] at hb
            exact c ⟨hb.1.1, hb.1.2, hb.2.symm⟩
        · have t2 := t1.trans (st_66n' hs hp hP.1.1 hP.1.2.2.1 hP.2.1.2.1 (by omega) hwd (by omega) g98)
          have t3 := t2.trans (st_106o hs (by omega) es)
          have t4 := t3.trans (st_165 hs p95 (by omega) false (xup2_s _ _ _ _) es es ep)
          exact ⟨_, _, .inr (.inr ⟨rfl, r1, rfl, rfl⟩), t4⟩
    obtain ⟨a, x, b1, b2⟩ := step
    have z : ∀ b j, b ≠ 94 → b ≠ 95 → xup2 (xup2 G 95 p (a : Int)) 94 p (x : Int) b j = G b j := fun b j y1 y2 => by rw [xup2_n (by omega), xup2_n (by omega)]
    obtain ⟨G', i1, i2, i3, i4⟩ := ih (p + 1) fu (xup2 (xup2 G 95 p (a : Int)) 94 p (x : Int)) (by omega) (by omega) ((p95 (a := a)).ge (fun b j hz => xup2_n (by
      rcases hz with z | z | z | z | z | z | z | ⟨z, z1, z2, k, z3⟩ | z | z | z | ⟨k, z1, z2, z3⟩ <;> omega))) (hP.ge (Nat.le_refl _) (fun _ _ => rfl) (fun b j y _ => z b j (by omega) (by omega))) (ho.ge (Nat.le_refl _) (fun _ _ => rfl) (fun b j y _ => z b j (by omega) (by omega))) ⟨m1, by rw [z _ _ (by omega) (by omega)]; exact m2, by rw [z _ _ (by omega) (by omega)]; exact m3, m4, fun r hr => by
        obtain ⟨n1, n2, n3⟩ := m5 r hr
        have hrp : rp ≠ 94 ∧ rp ≠ 95 := by omega
        exact ⟨by rw [z _ _ hrp.1 hrp.2]; exact n1, n2, n3.ge (fun _ _ _ => rfl) (fun j => z _ _ (by omega) (by omega)) (fun j => z _ _ (by omega) (by omega)) (fun j => z _ _ (by omega) (by omega))⟩⟩ (fun j hj => by
      by_cases c : j = p
      · subst c
        exact ⟨a, x, by rw [xup2_n (by omega), xup2_s], xup2_s _ _ _ _, b1⟩
      · obtain ⟨a', x', y1, y2, y3⟩ := hD j (by omega)
        exact ⟨a', x', by rw [xup2_n (by omega), xup2_n (by omega)]; exact y1, by rw [xup2_n (by omega), xup2_n (by omega)]; exact y2, y3⟩)
    exact ⟨G', b2.trans i1, fun b j y1 y2 => by rw [i2 b j y1 y2, z b j y1 y2], i3, i4⟩
end
