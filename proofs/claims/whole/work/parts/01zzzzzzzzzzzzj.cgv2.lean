/-! THE CLASS: giveGroups() -/
section
variable {f u n p i sl gA W kz a : Nat} {S : Nat → Nat × Nat × Nat} {G G' : xG_} {m : Nat × Nat} {L M F : List pRw} {kk x cm v w : Int}
theorem cGr.ge (h : cGr S G n L) (h0 : ∀ b j, 99 ≤ b → b ≤ 102 → G' b j = G b j) : cGr S G' n L := by
  obtain ⟨T, a1, a2, a3, a4⟩ := h
  refine ⟨T, a1.ge (fun _ _ _ => rfl) (fun j => h0 _ _ (by omega) (by omega)) (fun j => h0 _ _ (by omega) (by omega)) (fun j => h0 _ _ (by omega) (by omega)), a2, fun i hi => ?_, a4⟩
  obtain ⟨e, k, k1, k2, k3⟩ := a3 i hi
  exact ⟨e, k, k1, k2, by rw [h0 _ _ (by omega) (by omega)]; exact k3⟩
theorem gRo_no (h : kk = 2 ∧ (1000000000000 < x ∨ x < -1000000000000)) (xs : List Int) : gRo kk gA xs x = none := by unfold gRo; rw [if_pos h]
theorem gRo_so (h : ¬ (kk = 2 ∧ (1000000000000 < x ∨ x < -1000000000000))) (xs : List Int) : gRo kk gA xs x = some (xs.set gA x) := by unfold gRo; rw [if_neg h]
theorem k_161l (hf : 600 < f) (hs : cSs S) (hp16 : p < 16) (hn : n ≤ 4) (us : S u = (1, 6, 20)) (hu : 278 < u) (hgA : gA < n) (hMs : M.Pairwise rwLt) (hl5 : L.length ≤ 512) : ∀ (d i fu : Nat) (G : xG_) (F : List pRw) (cm : Int), i + d = L.length → d < fu → cPs G → cGr S G n L → G u 4 = kk + 9 → G u 3 = (gA : Int) → G u 0 = (p : Int) → cRw S G (108 + 6 * p) n 100 M → cRw S G (111 + 6 * p) n 100 F → F.Pairwise rwLt → (∀ r ∈ F, r.2 = 0) → G 93 15 = cm → 0 ≤ cm → cm + 100 * (d : Int) ≤ 10000000 →
    ∃ v G', c161_2 f fu 93 u (i : Int) (S, G, m) = some (v, (S, G', m)) ∧ (∀ b j, b ≠ 104 → b ≠ 105 → ¬ (b = 93 ∧ j = 15) → ¬ (111 + 6 * p ≤ b ∧ b ≤ 113 + 6 * p) → G' b j = G b j) ∧ cPs G' ∧ gvO S G' p n M F cm (fun z => ∃ j, i ≤ j ∧ j < L.length ∧ gRo kk gA (L.getD j dRw).1 (L.getD j dRw).2 = some z) v ∧ (v = 1 → i < L.length → ∀ c, c < n → G' 104 c = (L.getD (L.length - 1) dRw).1.getD c 0) := by
  intro d
  induction d with
  | zero =>
    intro i fu G F cm e1 e2 hp hG h4 h3 h0 hM hF hFs hF0 hcm hc0 hc1
    obtain ⟨fu, rfl⟩ : ∃ t, fu = t + 1 := ⟨fu - 1, by omega⟩
    obtain ⟨T, t1, t2, t3, t4⟩ := hG
    have e : i = T.length := by omega
    have st : c161_2 f (fu + 1) 93 u (i : Int) (S, G, m) = some (1, (S, G, m)) := by rw [e]; exact st_161z (r2 := c161_2 f fu) hs hp t1.2.2.2.1.2.1
    exact ⟨1, G, st, fun _ _ _ _ _ _ => rfl, hp, gvO.no hF hFs hF0 hcm (fun xs ⟨j, j1, j2, _⟩ => by omega), fun _ y => by omega⟩
  | succ d ih =>
    intro i fu G F cm e1 e2 hp hG h4 h3 h0 hM hF hFs hF0 hcm hc0 hc1
    obtain ⟨fu, rfl⟩ : ∃ t, fu = t + 1 := ⟨fu - 1, by omega⟩
    have hG0 := hG
    obtain ⟨T, t1, t2, t3, t4⟩ := hG
    have hi : i < L.length := by omega
    have ei : xwr ((i : Int) + 1) = ((i + 1 : Nat) : Int) := by rw [xwr_g _ (by omega) (by omega)]; omega
    obtain ⟨eT, sl, k1, k2, k3⟩ := t3 i hi
    have hxl : (L.getD i dRw).1.length = n := by rw [← eT]; exact (t1.2.2.2.2.2.2.2 i (by omega)).1
    obtain ⟨G1, g1, g2, g3⟩ := k_78 (f := f) (m := m) (i := i) (a := 104) t1 (by omega) (s104 hs) (by omega) (by omega)
    have t1' := t1.ge (G' := G1) (fun _ _ _ => rfl) (fun j => g2 _ _ (by omega)) (fun j => g2 _ _ (by omega)) (fun j => g2 _ _ (by omega))
    obtain ⟨G2, i1, i2, i3⟩ := k_78 (f := f) (m := m) (i := i) (a := 105) t1' (by omega) (s105 hs) (by omega) (by omega)
    have z2 : ∀ b j, b ≠ 104 → b ≠ 105 → G2 b j = G b j := fun b j y1 y2 => by rw [i2 b j (by omega), g2 b j (by omega)]
    have ps : ∀ {G3 : xG_}, (∀ b j, b ≠ 104 → b ≠ 105 → G3 b j = G b j) → cPs G3 := fun {G3} z => hp.ge (fun b j hz => by
      have : b ≠ 104 ∧ b ≠ 105 := by
        rcases hz with z | z | z | z | z | z | z | ⟨z, z1, z2, k, z3⟩ | z | z | z | ⟨k, z1, z2, z3⟩ <;> omega
      exact z b j this.1 this.2)
    have hp1 : cPs G1 := ps (fun b j y1 y2 => g2 b j (by omega))
    have hp2 : cPs G2 := ps z2
    have st0 : c161_2 f (fu + 1) 93 u (i : Int) (S, G, m) = _ := ((st_161a (r2 := c161_2 f fu) hs hp t1.2.2.2.1.2.1 (by omega) g1).trans (st_161b hs hp1 i1)).trans (st_161c (sl := sl) (gA := gA) (x := (L.getD i dRw).2) hs hp2 us hu (by rw [z2 _ _ (by omega) (by omega)]; exact t1.2.2.2.1.2.2.2) (by omega) (by rw [z2 _ _ (by omega) (by omega), (t1.2.2.2.2.2.2.2 i (by omega)).2.2]; exact k1) (by omega) (by rw [z2 _ _ (by omega) (by omega)]; exact k3) (by rw [z2 _ _ (by omega) (by omega)]; exact h3) (by omega) (st_397 (kk := kk) us (by rw [xup2_n (by omega), z2 _ _ (by omega) (by omega)]; exact h4)))
    obtain ⟨G3, hG3⟩ : ∃ G3, G3 = xup2 G2 105 gA (L.getD i dRw).2 := ⟨_, rfl⟩
    rw [← hG3] at st0
    have z3 : ∀ b j, b ≠ 104 → b ≠ 105 → G3 b j = G b j := fun b j y1 y2 => by rw [hG3, xup2_n (by omega), z2 b j y1 y2]
    have hp3 : cPs G3 := ps z3
    have h104 : ∀ c, c < n → G3 104 c = (L.getD i dRw).1.getD c 0 := fun c hc => by rw [hG3, xup2_n (by omega), i2 _ _ (by omega), g3 c hc, eT]
    have hM3 : cRw S G3 (108 + 6 * p) n 100 M := hM.ge (fun _ _ _ => rfl) (fun j => z3 _ _ (by omega) (by omega)) (fun j => z3 _ _ (by omega) (by omega)) (fun j => z3 _ _ (by omega) (by omega))
    have hF3 : cRw S G3 (111 + 6 * p) n 100 F := hF.ge (fun _ _ _ => rfl) (fun j => z3 _ _ (by omega) (by omega)) (fun j => z3 _ _ (by omega) (by omega)) (fun j => z3 _ _ (by omega) (by omega))
    -- the rows that come behind
    have rest : ∀ (G4 : xG_) (F1 : List pRw) (cm1 : Int), (∀ b j, b ≠ 105 → ¬ (b = 93 ∧ j = 15) → ¬ (111 + 6 * p ≤ b ∧ b ≤ 113 + 6 * p) → G4 b j = G3 b j) → cPs G4 → cRw S G4 (111 + 6 * p) n 100 F1 → F1.Pairwise rwLt → (∀ r ∈ F1, r.2 = 0) → G4 93 15 = cm1 → 0 ≤ cm1 → cm1 + 100 * (d : Int) ≤ 10000000 → (F.length ≤ F1.length ∧ (M.length + F.length ≤ 100 → M.length + F1.length ≤ 100)) → cm1 = cm + ((F1.length - F.length : Nat) : Int) → (∀ xs, (∃ r ∈ F1, r.1 = xs) ↔ (∃ r ∈ F, r.1 = xs) ∨ ((∀ r ∈ M, r.1 ≠ xs) ∧ gRo kk gA (L.getD i dRw).1 (L.getD i dRw).2 = some xs)) → ∃ v G', c161_2 f fu 93 u ((i + 1 : Nat) : Int) (S, G4, m) = some (v, (S, G', m)) ∧ (∀ b j, b ≠ 104 → b ≠ 105 → ¬ (b = 93 ∧ j = 15) → ¬ (111 + 6 * p ≤ b ∧ b ≤ 113 + 6 * p) → G' b j = G b j) ∧ cPs G' ∧ gvO S G' p n M F cm (fun z => ∃ j, i ≤ j ∧ j < L.length ∧ gRo kk gA (L.getD j dRw).1 (L.getD j dRw).2 = some z) v ∧ (v = 1 → i < L.length → ∀ c, c < n → G' 104 c = (L.getD (L.length - 1) dRw).1.getD c 0) := by
      intro G4 F1 cm1 q1 q2 q3 q4 q5 q6 q7 q8 q9 q10 q11
      obtain ⟨v, G5, j1, j2, j3, j4, j5⟩ := ih (i + 1) fu G4 F1 cm1 (by omega) (by omega) q2 (hG0.ge (fun b j y1 y2 => by rw [q1 b j (by omega) (by omega) (by omega), z3 b j (by omega) (by omega)])) (by rw [q1 _ _ (by omega) (by omega) (by omega), z3 _ _ (by omega) (by omega)]; exact h4) (by rw [q1 _ _ (by omega) (by omega) (by omega), z3 _ _ (by omega) (by omega)]; exact h3) (by rw [q1 _ _ (by omega) (by omega) (by omega), z3 _ _ (by omega) (by omega)]; exact h0) (hM3.ge (fun _ _ _ => rfl) (fun j => q1 _ _ (by omega) (by omega) (by omega)) (fun j => q1 _ _ (by omega) (by omega) (by omega)) (fun j => q1 _ _ (by omega) (by omega) (by omega))) q3 q4 q5 q6 q7 q8
      refine ⟨v, G5, j1, fun b j y1 y2 y3 y4 => by rw [j2 b j y1 y2 y3 y4, q1 b j y2 y3 y4, z3 b j y1 y2], j3, (gvO.add q9 q10 q11 j4).cg (fun xs _ => ?_), fun y1 _ c hc => ?_⟩
      · constructor
        · rintro (q | ⟨j, a1, a2, a3⟩)
          · exact ⟨i, Nat.le_refl _, hi, q⟩
          · exact ⟨j, by omega, a2, a3⟩
        · rintro ⟨j, a1, a2, a3⟩
          by_cases cj : j = i
          · subst cj; exact .inl a3
          · exact .inr ⟨j, by omega, a2, a3⟩
      · by_cases ci : i + 1 < L.length
        · exact j5 y1 ci c hc
        · have e0 : d = 0 := by omega
          subst e0
          obtain ⟨fu, rfl⟩ : ∃ t, fu = t + 1 := ⟨fu - 1, by omega⟩
          have hg4 := hG0.ge (G' := G4) (fun b j y1 y2 => by rw [q1 b j (by omega) (by omega) (by omega), z3 b j (by omega) (by omega)])
          obtain ⟨T', t1', t2', _⟩ := hg4
          have e : i + 1 = T'.length := by omega
          have st : c161_2 f (fu + 1) 93 u ((i + 1 : Nat) : Int) (S, G4, m) = some (1, (S, G4, m)) := by rw [e]; exact st_161z (r2 := c161_2 f fu) hs q2 t1'.2.2.2.1.2.1
          rw [st] at j1
          injection j1 with j1
          injection j1 with _ j1
          injection j1 with _ j1
          injection j1 with j1 _
          rw [← j1, q1 _ _ (by omega) (by omega) (by omega), h104 c hc]
          have : L.length - 1 = i := by omega
          rw [this]
    by_cases co : kk = 2 ∧ (1000000000000 < (L.getD i dRw).2 ∨ (L.getD i dRw).2 < -1000000000000)
    · rw [if_pos co] at st0
      have st1 := st0.trans (st_161o ei)
      obtain ⟨v, G', r1, r2⟩ := rest G3 F cm (fun _ _ _ _ _ => rfl) hp3 hF3 hFs hF0 (by rw [z3 _ _ (by omega) (by omega)]; exact hcm) hc0 (by omega) ⟨Nat.le_refl _, id⟩ (by rw [Nat.sub_self]; show cm = cm + 0; omega) (fun xs => ⟨.inl, fun q => q.elim id (fun y => by rw [gRo_no co] at y; exact nomatch y.2)⟩)
      exact ⟨v, G', st1.trans r1, r2⟩
    · rw [if_neg co] at st0
      have hK : cKl S G3 105 ((L.getD i dRw).1.set gA (L.getD i dRw).2) := by
        refine ⟨⟨4, s105 hs, by rw [List.length_set]; omega⟩, fun c hc => ?_⟩
        rw [List.length_set] at hc
        rw [getD_st (by omega : gA < (L.getD i dRw).1.length), hG3]
        by_cases cc : c = gA
        · subst cc; rw [xup2_s, if_pos rfl]
        · rw [if_neg cc, xup2_n (by omega), i3 c (by omega), eT]
      obtain ⟨v, G4, w1, w2, w3, w4⟩ := k_156g (f := f) (m := m) (a := 105) (cm := cm) hf hs hp3 hp16 hM3 hF3 hMs hFs hF0 (by rw [List.length_set]; exact hxl) hK (s105 hs) (by omega) (by omega) (by rw [z3 _ _ (by omega) (by omega)]; exact hcm) (by omega)
      have st1 := st0.trans (st_161g (v := v) (G1 := G4) hs hp3 us (by rw [z3 _ _ (by omega) (by omega)]; exact h0) ei w1)
      rcases w4 with ⟨a1, F', a2, a3, a4, a5, a6, a7⟩ | ⟨a1, W, a2, a3, a4⟩
      · rw [if_neg (by omega)] at st1
        have hF'l := a2.2.2.2.2.1
        obtain ⟨v, G', r1, r2⟩ := rest G4 F' _ (fun b j y1 y2 y3 => w2 b j y2 y3) w3 a2 a3 a4 a6 (by omega) (by omega) a5 rfl (fun xs => (a7 xs).trans (or_congr Iff.rfl (and_congr Iff.rfl (by rw [gRo_so co]; exact ⟨fun y => by rw [y], fun y => by injection y with y; exact y.symm⟩))))
        exact ⟨v, G', st1.trans r1, r2⟩
      · rw [if_pos a1] at st1
        refine ⟨0, G4, st1, fun b j y1 y2 y3 y4 => by rw [w2 b j y3 y4, z3 b j y1 y2], w3, .inr ⟨rfl, W, a2, a3, fun xs hx => (a4 xs hx).imp id (fun q => ⟨q.1, i, Nat.le_refl _, hi, by rw [gRo_so co, q.2]⟩)⟩, fun y => by cases y⟩
end
