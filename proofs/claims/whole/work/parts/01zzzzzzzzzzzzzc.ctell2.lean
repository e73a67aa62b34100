/-! THE CLASS: tell() -/
def xTl (p : Nat) (G G' : xG_) : Prop := ∀ b j, ¬ (99 ≤ b ∧ b ≤ 101) → b ≠ 103 → ¬ (b = 94 ∧ j = p) → ¬ (108 + 6 * p ≤ b ∧ b ≤ 110 + 6 * p) → G' b j = G b j
theorem ps_tl {p : Nat} {G G' : xG_} (hp16 : p < 16) (hp : cPs G) (z : ∀ b j, ¬ (b = 99 ∧ j ≤ 1) → ¬ (100 ≤ b ∧ b ≤ 101) → b ≠ 103 → ¬ (b = 94 ∧ j = p) → ¬ (b = 108 + 6 * p ∧ j ≤ 1) → ¬ (109 + 6 * p ≤ b ∧ b ≤ 110 + 6 * p) → G' b j = G b j) : cPs G' := hp.ge (fun b j hz => by
  have : ¬ (b = 99 ∧ j ≤ 1) ∧ ¬ (100 ≤ b ∧ b ≤ 101) ∧ b ≠ 103 ∧ ¬ (b = 94 ∧ j = p) ∧ ¬ (b = 108 + 6 * p ∧ j ≤ 1) ∧ ¬ (109 + 6 * p ≤ b ∧ b ≤ 110 + 6 * p) := by
    rcases hz with z | z | z | z | z | z | z | ⟨z, z1, z2, k, z3⟩ | z | z | z | ⟨k, z1, z2, z3⟩ <;> omega
  exact z b j this.1 this.2.1 this.2.2.1 this.2.2.2.1 this.2.2.2.2.1 this.2.2.2.2.2)
section
variable {f q nx p i kk : Nat} {S : Nat → Nat × Nat × Nat} {m : Nat × Nat} {s : pPg} {xp cp yp ap : Nat → Nat} {R Ri Rf A : Nat → List pRw} {E : List pPe} {Lf : List pRw} {r2 : Nat → Nat → Int → xT_ → Option (Int × xT_)}
/-- one predicate: all CHANGES for it -/
theorem k_146i (hf : 600 < f) (hp : p < s.1.length) (hkk : kk < 4) : ∀ (d i fu : Nat) (G : xG_) (L : List pRw) (t : Int), i + d = E.length → d < fu → cWk S G q nx s xp cp R → cPn G (243 + 9 * kk) s E → chA1 s p (E.drop i) L Lf → L.Pairwise rwLt → L.length ≤ 100 + i → kU (qKy s p) L → (∀ y ∈ L, y.1.length = qN s p) → (t = 0 ∧ L = R p ∨ t = 1 ∧ cRw S G 99 (qN s p) 512 L) →
    ∃ G', xTl p G G' ∧ cPs G' ∧ ((c146_18 r2 f fu 93 (243 + 9 * kk) (p : Int) t (i : Int) (S, G, m) = c146_143 r2 f 93 (243 + 9 * kk) (p : Int) (S, G', m) ∧ Lf = R p ∧ (∀ j, G' 94 j = G 94 j) ∧ ∀ b j, 105 < b → G' b j = G b j) ∨
      (c146_18 r2 f fu 93 (243 + 9 * kk) (p : Int) t (i : Int) (S, G, m) = some (0, (S, G', m)) ∧ 100 < Lf.length) ∨
      (c146_18 r2 f fu 93 (243 + 9 * kk) (p : Int) t (i : Int) (S, G, m) = c146_143 r2 f 93 (243 + 9 * kk) (p : Int) (S, G', m) ∧ G' 94 p = ((108 + 6 * p : Nat) : Int) ∧ cRw S G' (108 + 6 * p) (qN s p) 100 Lf)) := by
  intro d
  induction d with
  | zero =>
    intro i fu G L t e1 e2 h hE hA hLs hLl hU hLn ht
    obtain ⟨fu, rfl⟩ : ∃ t, fu = t + 1 := ⟨fu - 1, by omega⟩
    obtain ⟨⟨a1, a2, a3, a4, a5, a6⟩, b⟩ := id h
    have hnp : s.1.length ≤ 16 := a6.1.1.1
    have e : i = E.length := by omega
    subst e
    rw [List.drop_length] at hA
    have hA' : Lf = L := hA
    have ls := lnSt_of a1 hkk
    rcases ht with ⟨rfl, hL⟩ | ⟨rfl, hL⟩
    · exact ⟨G, fun _ _ _ _ _ _ => rfl, a2, .inl ⟨st_18z (r18 := c146_18 r2 f fu) ls.1 hE.1, hA'.trans hL, fun _ => rfl, fun _ _ _ => rfl⟩⟩
    · by_cases c : L.length ≤ 100
      · obtain ⟨s1, s2, s3, _⟩ := s_mk (p := p) a1 (by omega)
        obtain ⟨t1, t2, _⟩ := p_pt (p := p) a2 (by omega)
        have hW := (qN_c a6.1.1 p).2
        obtain ⟨G1, g1, g2, g3⟩ := k_79 (f := f) (m := m) (x := 108 + 6 * p) (z := 400) (cap := 100) (y := 99) ⟨s1, by rw [show 108 + 6 * p + 1 = 109 + 6 * p by omega]; exact s2, by rw [show 108 + 6 * p + 2 = 110 + 6 * p by omega]; exact s3, by rw [t1]; omega, by rw [t2]; omega⟩ ⟨by omega, by decide⟩ (by decide) (by omega) hL c
        have hp1 : cPs G1 := ps_tl (p := p) (by omega) a2 (fun b j _ _ _ _ y1 y2 => g2 b j y1 (by omega) (by omega))
        have zz : ∀ b j, ¬ (b = 94 ∧ j = p) → ¬ (108 + 6 * p ≤ b ∧ b ≤ 110 + 6 * p) → xup2 G1 94 p ((108 + 6 * p : Nat) : Int) b j = G b j := fun b j y1 y2 => by rw [xup2_n y1, g2 b j (by omega) (by omega) (by omega)]
        refine ⟨_, fun b j y1 y2 y3 y4 => zz b j y3 y4, ps_tl (p := p) (by omega) hp1 (fun b j _ _ _ y3 _ _ => xup2_n y3), .inr (.inr ⟨st_18w (r18 := c146_18 r2 f fu) a1 a2 hp1 (by omega) ls.1 hE.1 hL.2.2.2.1.2.1 c g1, xup2_s _ _ _ _, ?_⟩)⟩
        rw [hA']
        exact g3.ge (fun _ _ _ => rfl) (fun j => xup2_n (by omega)) (fun j => xup2_n (by omega)) (fun j => xup2_n (by omega))
      · exact ⟨G, fun _ _ _ _ _ _ => rfl, a2, .inr (.inl ⟨st_18f (r18 := c146_18 r2 f fu) a1 a2 ls.1 hE.1 hL.2.2.2.1.2.1 (by omega), by rw [hA']; omega⟩)⟩
  | succ d ih =>
    intro i fu G L t e1 e2 h hE hA hLs hLl hU hLn ht
    obtain ⟨fu, rfl⟩ : ∃ t, fu = t + 1 := ⟨fu - 1, by omega⟩
    obtain ⟨⟨a1, a2, a3, a4, a5, a6⟩, b⟩ := id h
    have hnp : s.1.length ≤ 16 := a6.1.1.1
    have ls := lnSt_of a1 hkk
    have lp := lnPt_of a2 hkk
    have hE4 := hE.2.1
    have hi : i < E.length := by omega
    have ei : xwr ((i : Int) + 1) = ((i + 1 : Nat) : Int) := by rw [xwr_g _ (by omega) (by omega)]; omega
    rw [List.drop_eq_getElem_cons hi, ← getD_e (d := dPe) hi] at hA
    obtain ⟨L1, c1, c2⟩ := hA
    obtain ⟨b1, b2, b3⟩ := hE.2.2 i hi
    have hW := (qN_c a6.1.1 p).2
    by_cases ct : chT s (E.getD i dPe) p
    · -- this one is for p
      have hv : G (243 + 9 * kk + 4) i = (p : Int) := by
        rcases b1 with ⟨p', y1, y2, y3⟩ | ⟨y1, _⟩
        · have : p' = p := nm_inj a6.1 y1 hp (y2.1.trans ct.1.symm)
          rw [y3, this]
        · exact absurd ct (y1 p hp)
      have hkl : (E.getD i dPe).2.2.length = qN s p := ct.2.2
      -- loose has L in it
      have main : ∀ (G0 : xG_), xTl p G G0 → cPs G0 → (∀ j, G0 94 j = G 94 j) → (∀ b j, 105 < b → G0 b j = G b j) → cRw S G0 99 (qN s p) 512 L → c146_18 r2 f (fu + 1) 93 (243 + 9 * kk) (p : Int) t (i : Int) (S, G, m) = c146_57 r2 (c146_18 r2 f fu) f 93 (243 + 9 * kk) (p : Int) 1 (i : Int) (S, G0, m) → ∃ G', xTl p G G' ∧ cPs G' ∧ ((c146_18 r2 f (fu + 1) 93 (243 + 9 * kk) (p : Int) t (i : Int) (S, G, m) = c146_143 r2 f 93 (243 + 9 * kk) (p : Int) (S, G', m) ∧ Lf = R p ∧ (∀ j, G' 94 j = G 94 j) ∧ ∀ b j, 105 < b → G' b j = G b j) ∨ (c146_18 r2 f (fu + 1) 93 (243 + 9 * kk) (p : Int) t (i : Int) (S, G, m) = some (0, (S, G', m)) ∧ 100 < Lf.length) ∨ (c146_18 r2 f (fu + 1) 93 (243 + 9 * kk) (p : Int) t (i : Int) (S, G, m) = c146_143 r2 f 93 (243 + 9 * kk) (p : Int) (S, G', m) ∧ G' 94 p = ((108 + 6 * p : Nat) : Int) ∧ cRw S G' (108 + 6 * p) (qN s p) 100 Lf)) := by
        intro G0 f0 p0 n0 z0 hL0 st0
        have ec := cp_ok (G := G0) (m := m) (a0 := 243 + 9 * kk + 6) (a := 103) (sp := 4 * i) (dp := 0) (n := 4) ls.2.2.2.2.2.2.1 (s103 a1) (.inr rfl) (by omega) (by omega)
        obtain ⟨G1, hG1⟩ : ∃ G1, G1 = cpG G0 (243 + 9 * kk + 6) (4 * i) 103 0 4 := ⟨_, rfl⟩
        rw [← hG1] at ec
        have z1 : ∀ b j, b ≠ 103 → G1 b j = G0 b j := fun b j y => by rw [hG1, cpG_n y]
        have p1 : cPs G1 := ps_tl (p := p) (by omega) p0 (fun b j _ _ y _ _ _ => z1 b j y)
        have hK1 : cKl S G1 103 (E.getD i dPe).2.2 := ⟨⟨4, s103 a1, by omega⟩, fun c hc => by
          rw [hG1, cpG_i (Nat.zero_le _) (by omega), Nat.sub_zero, z0 _ _ (by omega), b3 c hc]⟩
        have hL1 : cRw S G1 99 (qN s p) 512 L := hL0.ge (fun _ _ _ => rfl) (fun j => z1 _ _ (by omega)) (fun j => z1 _ _ (by omega)) (fun j => z1 _ _ (by omega))
        have hky : qKy s p ≤ qN s p := Nat.le_of_lt (a6.2.2.2.2.2.2 p hp ct.2.1)
        obtain ⟨G2, L2, k1, k2, k3, k4, k5, k6, k7⟩ := k_147 (f := f) (m := m) (ad := (if (E.getD i dPe).1 < 0 then 0 else 1)) (k := qKy s p) hf a1 p1 hL1 hLs hkl hW hK1 (by omega) hky hU
        have eL : L2 = L1 := srt_ext (lt := rwLt) (fun a => vLt_irr a.1) (fun a b c => vLt_tr) _ _ k5 c1.1 (fun y => by
          rw [k7 y, c1.2.2 y]
          exact ⟨fun q => .inr ⟨ct, q⟩, fun q => q.elim (fun q => absurd ct q.1) (fun q => q.2)⟩)
        subst eL
        have zq : ∀ j, G1 q j = G q j := fun j => by rw [z1 _ _ (by omega), z0 _ _ (by omega)]
        have st1 := st0.trans (st_57 (r18 := c146_18 r2 f fu) (k := qKy s p) (q := q) a1 p0 p1 (by omega : p < 16) ls.1 ls.2.2.2.2.2.1 (by rw [z1 _ _ (by omega), z0 _ _ (by omega)]; exact lp.2.2.2.2.1) (by rw [z0 _ _ (by omega)]; exact lp.2.2.2.2.2.1) (by omega) (by rw [xwr_g _ (by omega) (by omega)]; omega) ec (by rw [z1 _ _ (by omega), z0 _ _ (by omega)]; exact b2) (by rw [z1 _ _ (by omega), f0 _ _ (by omega) (by omega) (by omega) (by omega)]; exact a3) a5.1.1 a5.1.2.2.2.1 (by rw [zq]; exact a5.2.1.2.2.1) (by
          rw [z1 _ _ (by omega), z0 _ _ (by omega), (a5.2.2.2.2.1 p (by omega)).1, pKl_e a6.2.2.2.2.2.1]
          unfold qKy
          have := (pKy_in a6.1.1 p).1
          omega) k1 ei)
        have z2 : ∀ b j, ¬ (99 ≤ b ∧ b ≤ 101) → b ≠ 103 → G2 b j = G0 b j := fun b j y1 y2 => by rw [k2 b j (by omega) (by omega) (by omega), z1 b j y2]
        have z3 : ∀ b j, ¬ (99 ≤ b ∧ b ≤ 101) → b ≠ 103 → ¬ (b = 94 ∧ j = p) → ¬ (108 + 6 * p ≤ b ∧ b ≤ 110 + 6 * p) → G2 b j = G b j := fun b j y1 y2 y3 y4 => by rw [z2 b j y1 y2, f0 b j y1 y2 y3 y4]
        have hW2 : cWk S G2 q nx s xp cp R := h.ge k3 (z3 _ _ (by omega) (by omega) (by omega) (by omega)) (fun j => by rw [z2 _ _ (by omega) (by omega), n0]) (fun k hk b y1 y2 j => by rw [z2 _ _ (by omega) (by omega), z0 _ _ (by omega)]) (fun b j y => by rw [z2 _ _ (by omega) (by omega), z0 _ _ (by omega)])
        obtain ⟨G3, i1, i2, i3⟩ := ih (i + 1) fu G2 L2 1 (by omega) (by omega) hW2 (hE.ge (fun a j y1 y2 => by rw [z2 _ _ (by omega) (by omega), z0 _ _ (by omega)])) c2 k5 (by omega) (c1.ku hU) (fun y hy => by
          obtain ⟨j, hj, ej⟩ := List.getElem_of_mem hy
          have := (k4.2.2.2.2.2.2.2 j hj).1
          rw [getD_e hj, ej] at this
          exact this) (.inr ⟨rfl, k4⟩)
        refine ⟨G3, fun b j y1 y2 y3 y4 => by rw [i1 b j y1 y2 y3 y4, z3 b j y1 y2 y3 y4], i2, ?_⟩
        rw [st1]
        rcases i3 with ⟨j1, j2, j3, j4⟩ | j1 | j1
        · exact .inl ⟨j1, j2, fun j => by rw [j3, z2 _ _ (by omega) (by omega), n0], fun b j y => by rw [j4 b j y, z2 _ _ (by omega) (by omega), z0 _ _ y]⟩
        · exact .inr (.inl j1)
        · exact .inr (.inr j1)
      rcases ht with ⟨rfl, hL⟩ | ⟨rfl, hL⟩
      · obtain ⟨d1, d2, d3, d4, d5, _⟩ := b p hp
        obtain ⟨G1, g1, g2, g3⟩ := k_79 (f := f) (m := m) (x := 99) (z := 2048) (cap := 512) (y := xp p) ⟨s99 a1, s100 a1, s101 a1, p99_2 a2, p99_3 a2⟩ ⟨by omega, by decide⟩ (by decide) (by omega) d3 (by omega)
        have z1 : ∀ b j, ¬ (99 ≤ b ∧ b ≤ 101) → G1 b j = G b j := fun b j y => g2 b j (by omega) (by omega) (by omega)
        refine main G1 (fun b j y1 _ _ _ => z1 b j y1) (ps_tl (p := p) (by omega) a2 (fun b j y1 y2 _ _ _ _ => g2 b j y1 (by omega) (by omega))) (fun j => z1 _ _ (by omega)) (fun b j y => z1 b j (by omega)) (by rw [hL]; exact g3) ?_
        exact st_18u (r18 := c146_18 r2 f fu) a1 a2 (by omega) ls.1 ls.2.2.2.2.1 lp.2.2.2.1 hE.1 hi hE4 hv d1 g1
      · exact main G (fun _ _ _ _ _ _ => rfl) a2 (fun _ => rfl) (fun _ _ _ => rfl) hL (st_18t (r18 := c146_18 r2 f fu) ls.1 ls.2.2.2.2.1 lp.2.2.2.1 hE.1 hi hE4 hv)
    · have eL : L1 = L := srt_ext (lt := rwLt) (fun a => vLt_irr a.1) (fun a b c => vLt_tr) _ _ c1.1 hLs (fun y => by
        rw [c1.2.2 y]
        exact ⟨fun q => q.elim (fun q => q.2) (fun q => absurd q.1 ct), fun q => .inl ⟨ct, q⟩⟩)
      rw [eL] at c2
      have hv : ∃ v, G (243 + 9 * kk + 4) i = v ∧ v ≠ (p : Int) := by
        rcases b1 with ⟨p', y1, y2, y3⟩ | ⟨y1, y2⟩
        · refine ⟨_, y3, fun e => ct ?_⟩
          have : p' = p := by omega
          rw [← this]; exact y2
        · exact ⟨_, y2, by omega⟩
      obtain ⟨v, v1, v2⟩ := hv
      have st : c146_18 r2 f (fu + 1) 93 (243 + 9 * kk) (p : Int) t (i : Int) (S, G, m) = _ := st_18n (r18 := c146_18 r2 f fu) ls.1 ls.2.2.2.2.1 lp.2.2.2.1 hE.1 hi hE4 v1 v2 ei
      rw [st]
      exact ih (i + 1) fu G L t (by omega) (by omega) h hE c2 hLs (by omega) hU hLn ht
end
