/-! THE CLASS: reason() in the house -/
section
variable {f A hr n sl : Nat} {S : Nat → Nat × Nat × Nat} {G G' : xG_} {m : Nat × Nat} {T : List (List Int)} {P : Nat → Nat} {lns : Nat → sLn} {tx : List Int} {kp : Nat × List (List Int)} {mt : Int × List Int} {pl rf : Int}
/-- what works and ways use doesn't stand in the house -/
theorem cHs.wk {n' : Nat} {H : sHs} (h : cHs S G A H n) (hn : n ≤ n') (hp : cPs G') (hG : ∀ a j, ¬ (72 ≤ a ∧ a ≤ 203) → G' a j = G a j) : cHs S G' A H n' := by
  obtain ⟨T, lns, hr, tx, kp, mt, pl, rf⟩ := H
  obtain ⟨⟨a1, a2, a3, a4⟩, ⟨P, d1, d2, d3⟩, ⟨c1, c2⟩, ⟨c3, c4⟩, c5', c6', c7', ⟨an, sp, k1, k2, k3, k4⟩, c9'⟩ := h
  have sf : xSf A G G' := fun a j y1 y2 => hG a j (by omega)
  have id1 : ∀ a, a < A → S a = S a := fun _ _ => rfl
  refine ⟨⟨a1, hp, a3.ge (fun a j y1 y2 => hG a j (by omega)), a4⟩, ⟨P, d1.ge (Nat.le_refl _) id1 sf (by rw [hG _ _ (by omega)]; exact Int.le_refl _), fun y hy => (d2 y hy).ge (Nat.le_refl _) id1 sf (fun a j y1 y2 => hG a j (by omega)), d3.ge (Nat.le_refl _) id1 sf ⟨hG _ _ (by omega), hG _ _ (by omega)⟩⟩, ⟨c1, by rw [hG _ _ (by omega)]; exact c2⟩, ⟨by rw [hG _ _ (by omega)]; exact c3, by rw [hG _ _ (by omega)]; omega⟩, by rw [hG _ _ (by omega)]; exact c5', by rw [hG _ _ (by omega)]; exact c6', c7'.ge (hG _ _ (by omega)) (fun p => hG _ _ (by omega)), ⟨an, sp, k1, by rw [hG _ _ (by omega)]; exact k2, by rw [hG _ _ (by omega)]; exact k3, k4.ge (fun _ _ _ => rfl) (fun j => hG _ _ (by omega)) (fun j => hG _ _ (by omega)) (fun j => hG _ _ (by omega))⟩, c9'.ge ⟨hG _ _ (by omega), hG _ _ (by omega)⟩ (fun j => hG _ _ (by omega))⟩
def gG2 (f : Nat) (S : Nat → Nat × Nat × Nat) (m : Nat × Nat) : Prop := ∀ (q nq nx mp rp : Nat) (s : pPg) (xr cr : Nat → Nat) (M : Nat → List pRw) (p : Nat) (as : List Int) (G : xG_), cSs S → cPgm S G q nq s → qOc s → cMr S G nx mp q rp s xr cr M → okM8 s M → 203 < rp → 226 < q → p < s.1.length → as.length = qN s p → (∀ c, c < as.length → vOk (as.getD c 0)) → gG1 f S m q rp s M p as G
/-- reason() -/
theorem k_182 {pp i k v t : Int} (hf : 100003010 < f) (hG2 : gG2 f S m) (h : cHs S G A (T, lns, hr, tx, kp, mt, pl, rf) n) (hb : (lns hr).2.1.1 + (lns hr).2.1.2.1 < 520) (hst : stRe T (lns hr) pp i k t v) : (t = 0 ∧ ∃ G', c182 f 64 pp i k (S, G, m) = some (.inr v, (S, G', m)) ∧ cHs S G' A (T, lns, hr, tx, kp, mt, pl, rf) (n + 1)) ∨ (t = 1 ∧ c182 f 64 pp i k (S, G, m) = some (.inl 1, cq_ex (S, G, m))) := by
  obtain ⟨P, mp, b1, b2, b3, b4, b5, b6, b7, b8, b9, b10⟩ := hs_ln h hb
  have hh := h
  obtain ⟨⟨a1, a2, a3, a4⟩, _⟩ := h
  obtain ⟨s, M, i1, i2⟩ := hst
  obtain ⟨rp, xr, cr, nq, r1, r2, r3, r4, r5, r6, r7, r8, r9⟩ := b2.pm b1 i1
  have t7 := r7.2
  have t8 := r8.2
  obtain ⟨q, hq⟩ : ∃ q, q = P (lMo (lns hr)).1 := ⟨_, rfl⟩
  rw [← hq] at r1 r2 r6
  have q226 : 226 < q := by omega
  have i3 : cq_is 1 14 (243 + 9 * hr) (S, G, m) = some () := if_pos b4.1
  have i4 : cq_is 2 8 mp (S, G, m) = some () := if_pos r1.1
  have g6 : cq_gi 11 6 17 64 (S, G, m) = some (hr : Int) := by rw [o_gi (s64 a1), b9]
  have e15 := k_15 (f := f) (m := m) (p := pp) (i := i) (col := 0) r4.1 r1 r2
  have h16 : s.1.length ≤ 16 := r2.2.2.1.2.1
  have e0 := Eq.refl (c182 f 64 pp i k (S, G, m))
  conv at e0 => { rhs; unfold c182 }
  rw [o_gr (y := 220) (s64 a1) (p64_5 a2), Option.bind_some, g6, Option.bind_some, o_ar (s220 a1) (by decide) b8 b6, Option.bind_some, i3, Option.bind_some, b7, Option.bind_some, i4, Option.bind_some] at e0
  by_cases c1 : (0 ≤ pp ∧ pp < s.1.length) ∧ 0 ≤ i ∧ i < (M pp.toNat).length
  · obtain ⟨p, rfl⟩ : ∃ p : Nat, pp = (p : Int) := ⟨pp.toNat, by omega⟩
    obtain ⟨j, rfl⟩ : ∃ j : Nat, i = (j : Int) := ⟨i.toNat, by omega⟩
    have ep : ((p : Nat) : Int).toNat = p := by omega
    have ej : ((j : Nat) : Int).toNat = j := by omega
    have hp : p < s.1.length := by omega
    have hn := (qN_pos r4 hp)
    rw [if_pos ⟨c1, by omega, by rw [ep]; omega⟩] at e15
    rw [e15, Option.bind_some, if_pos (show ¬ (1 : Int) = 0 by decide)] at e0
    rw [ep, ej] at i2
    have hj : j < (M p).length := by rw [ep] at c1; omega
    rcases i2 with ⟨_, rfl, hv⟩ | ⟨z, _⟩
    · refine .inl ⟨rfl, ?_⟩
      have same : c182 f 64 (p : Int) (j : Int) k (S, G, m) = some (.inr v, (S, G, m)) → ∃ G', c182 f 64 (p : Int) (j : Int) k (S, G, m) = some (.inr v, (S, G', m)) ∧ cHs S G' A (T, lns, hr, tx, kp, mt, pl, rf) (n + 1) := fun e => ⟨G, e, hh.wk (Nat.le_succ _) a2 (fun _ _ _ => rfl)⟩
      unfold c182_55 at e0
      by_cases k0 : k < 0
      · rw [if_pos k0] at e0
        rcases hv with ⟨_, e⟩ | ⟨_, z, _⟩
        · rw [e] at same ⊢; exact same e0
        · omega
      rw [if_neg k0] at e0
      -- no REASON has more rows
      have big : 3 < k → pIn s.2.1 (p : Int) = true ∨ rsA s M p ((M p).getD j dRw).1 ((M p).getD j dRw).2 k v → v = -1 ∨ pIn s.2.1 (p : Int) = true := fun hk hA => by
        rcases hA with z | hA
        · exact .inr z
        · refine .inl ?_
          rcases hA with ⟨r, q1, q2, q3, ⟨z, _⟩ | ⟨_, _, z⟩ | ⟨_, _, b, _, _, z⟩⟩ | ⟨_, z⟩
          · omega
          · exact z
          · have hm : s.2.2.2.2.1.getD r dRu ∈ s.2.2.2.2.1 := by rw [getD_e q1]; exact List.getElem_mem q1
            obtain ⟨w1, w2, w3, w4, w5, w6, w7, w8, w9⟩ := r4.1.1.2.2.2.2.2.2 _ hm
            unfold rsT at z
            have : ((s.2.2.2.2.1.getD r dRu).2.2.2.2.2.filter (fun y => decide (y.1 = 1)))[(k - 1).toNat]? = none := List.getElem?_eq_none (by unfold pAtoms at w8; omega)
            rw [this] at z
            exact z
          · exact z
      by_cases k3 : 3 < k
      · rw [if_pos k3] at e0
        have : v = -1 := by
          rcases hv with ⟨_, e⟩ | ⟨z1, _, z⟩
          · exact e
          · rcases big k3 (.inr z) with e | e
            · exact e
            · rw [z1] at e; cases e
        rw [this] at same ⊢
        exact same e0
      have gi : cq_ab (q + 4) (p : Int) (S, G, m) = some (b01 (pIn s.2.1 (p : Int))) := by
        rw [← (r2.2.2.2.2.1 p (by omega)).2.1]
        exact o_ab r2.1.2.2.2.2.1 (by omega)
      rw [if_neg k3, o_gr r1.1 r1.2.1, Option.bind_some, o_gr r2.1.1 r2.2.1.2.2.2.1, Option.bind_some, gi, Option.bind_some] at e0
      cases hi : pIn s.2.1 (p : Int) with
      | true =>
        rw [hi, if_neg (by decide)] at e0
        rcases hv with ⟨_, e⟩ | ⟨z, _⟩
        · rw [e] at same ⊢; exact same e0
        · rw [hi] at z; cases z
      | false =>
        rw [hi, if_pos (by decide)] at e0
        have hA : rsA s M p ((M p).getD j dRw).1 ((M p).getD j dRw).2 k v := by
          rcases hv with ⟨z | z, _⟩ | ⟨_, _, z⟩
          · rw [hi] at z; cases z
          · exact absurd z k0
          · exact z
        -- explain
        obtain ⟨d1, d2, d3⟩ := r1.2.2.2.2 p hp
        obtain ⟨o1, o2, o3, o4⟩ := r5 p hp
        have hlr := (d3.2.2.2.2.2.2.2 j hj).1
        have hrk := (d3.2.2.2.2.2.2.2 j hj).2.2
        have rkb := o4 _ (get_in hj)
        have avs : ∀ c, c < ((M p).getD j dRw).1.length → vOk (((M p).getD j dRw).1.getD c 0) := fun c hc => o3 _ (get_in hj) _ (by rw [getD_e hc]; exact List.getElem_mem hc)
        have z93 : ∀ (G : xG_) (w : Int) (x : Nat), cPs G → (x = 1 ∨ x = 16) → cPs (xup2 G 93 x w) := fun G w x hp hx => hp.ge (fun b j hz => xup2_n (by
          rcases hz with z | z | z | z | z | z | z | ⟨z, z1, z2, k, z3⟩ | z | z | z | ⟨k, z1, z2, z3⟩ <;> omega))
        have p1 := z93 G (q : Int) 1 a2 (.inl rfl)
        have p2 := z93 _ (-1) 16 p1 (.inr rfl)
        obtain ⟨G3, f1, f2, f3⟩ := k_382f (f := f) (m := m) (x := 107) (L := 3) (v := -1) (S := S) (G := xup2 (xup2 G 93 1 (q : Int)) 93 16 (-1)) (by omega) (by omega) (s107 a1)
        have z3 : ∀ a j, ¬ (a = 93 ∧ (j = 1 ∨ j = 16)) → a ≠ 107 → G3 a j = G a j := fun a j y1 y2 => by rw [f3 a j y2, xup2_n (by omega), xup2_n (by omega)]
        have p3 : cPs G3 := p2.ge (fun b j hz => f3 b j (by
          rcases hz with z | z | z | z | z | z | z | ⟨z, z1, z2, k, z3⟩ | z | z | z | ⟨k, z1, z2, z3⟩ <;> omega))
        have d33 : cRw S G3 (xr p) (qN s p) (cr p) (M p) := d3.ge (fun _ _ _ => rfl) (fun j => z3 _ _ (by omega) (by omega)) (fun j => z3 _ _ (by omega) (by omega)) (fun j => z3 _ _ (by omega) (by omega))
        obtain ⟨G4, l1, l2, l3⟩ := k_78 (f := f) (m := m) d33 hj (s105 a1) hn.2 (by omega : 105 ≠ xr p + 1)
        have z4 : ∀ a j, ¬ (a = 93 ∧ (j = 1 ∨ j = 16)) → a ≠ 105 → a ≠ 107 → G4 a j = G a j := fun a j y1 y2 y3 => by rw [l2 a j (by omega), z3 a j y1 y3]
        have p4 : cPs G4 := p3.ge (fun b j hz => l2 b j (by
          rcases hz with z | z | z | z | z | z | z | ⟨z, z1, z2, k, z3⟩ | z | z | z | ⟨k, z1, z2, z3⟩ <;> omega))
        have q41 : G4 93 1 = (q : Int) := by rw [l2 _ _ (by omega), f3 _ _ (by omega), xup2_n (by omega), xup2_s]
        have q416 : G4 93 16 = -1 := by rw [l2 _ _ (by omega), f3 _ _ (by omega), xup2_s]
        obtain ⟨G5, m1, m2, m3, m4⟩ := k_163l (f := f) (m := m) (G0 := G) (rk := ((M p).getD j dRw).2) (as := ((M p).getD j dRw).1) (p := p) (mp := mp) hf a1 q226 r2 r4 r1 r5 (by omega) (by omega) hp rkb hlr avs (hG2 q nq A mp rp s xr cr M p _ G a1 r2 r4 r1 r5 (by omega) q226 hp hlr avs) s.2.2.2.2.1.length 0 f G4 (by omega) (by have := r2.2.2.2.2.2.1.2.1; omega) p4 (fun a j y => z4 a j (by omega) (by omega) (by omega)) q41 q416 (fun k hk => by rw [l2 _ _ (by omega)]; exact f2 k hk) (fun c hc => l3 c (by omega)) (fun i hi => absurd hi (Nat.not_lt_zero _))
        have z5 : ∀ a j, ¬ (83 ≤ a ∧ a ≤ 107) → G5 a j = G a j := fun a j y => by rw [m3 a j (by omega) (by omega) (by omega) (by omega) (by omega), z4 a j (by omega) (by omega) (by omega)]
        have e163 : c163 f 93 mp (p : Int) (j : Int) (S, G, m) = some (S, G5, m) := by
          have i5 : cq_is 5 4 (xr p) (S, G3, m) = some () := if_pos d3.1
          unfold c163
          rw [o_gr r1.1 r1.2.1, Option.bind_some, o_pr (s93 a1), Option.bind_some, o_p (s93 a1), Option.bind_some, o_gr (y := 107) (s93 a1) (p93_17 p2), Option.bind_some, f1, Option.bind_some, o_gr (x := mp) (y := rp) r1.1 (by rw [z3 _ _ (by omega) (by omega)]; exact r1.2.2.1), Option.bind_some, o_ar (x := rp) (y := xr p) r1.2.2.2.1 (by decide) hp (by rw [z3 _ _ (by omega) (by omega)]; exact d1), Option.bind_some, o_gr d3.1 d33.2.2.2.1.2.2.2, Option.bind_some, o_a d3.2.2.1 (by have := d3.2.2.2.2.1; omega), Option.bind_some, Option.bind_some, o_ar (x := rp) (y := xr p) r1.2.2.2.1 (by decide) hp (by rw [z3 _ _ (by omega) (by omega)]; exact d1), Option.bind_some, o_gr (y := 105) (s93 a1) (p93_11 p3), Option.bind_some, i5, Option.bind_some, l1, Option.bind_some, z3 _ _ (by omega) (by omega), hrk]
          exact m1
        have i93 : cq_is 10 18 93 (S, G, m) = some () := if_pos (s93 a1)
        rw [o_gr (y := 93) (s64 a1) (p64_3 a2), Option.bind_some, i93, Option.bind_some, e163, Option.bind_some] at e0
        refine ⟨G5, ?_, hh.wk (Nat.le_succ _) m2 (fun a j y => z5 a j (by omega))⟩
        rw [e0]
        unfold c182_93
        -- one answer
        have key : v = (if k = 0 then G5 93 16 else G5 107 (k - 1).toNat) := by
          rcases m4 with ⟨r, x1, x2, x3, x4, x5⟩ | ⟨x1, x2, x3⟩
          · rcases hA with ⟨r', y1, y2, y3, y4⟩ | ⟨y1, _⟩
            · have er : r' = r := by
                rcases Nat.lt_trichotomy r' r with c | c | c
                · exact absurd y2 (x3 r' c)
                · exact c
                · exact absurd x2 (y3 r c)
              subst er
              rcases y4 with ⟨z0, z1⟩ | ⟨z0, z1, z2⟩ | ⟨z0, z1, b, z2, z3, z4⟩
              · rw [if_pos z0, x4]; exact z1
              · rw [if_neg z0]
                rcases x5 with ⟨_, u2⟩ | ⟨u1, _⟩
                · rw [z2, u2 _ (by omega)]
                · exact absurd u1 z1
              · rw [if_neg z0]
                rcases x5 with ⟨u1, _⟩ | ⟨_, b', u2, u3, u4⟩
                · exact absurd z1 u1
                · have eb : b = b' := by
                    have q1 : vCmp b b' ≤ 0 := z3 b' u2
                    have q2 : vCmp b' b ≤ 0 := u3 b z2
                    have q3 := vCmp_anti b b'
                    exact vCmp_eq (z2.1.1.trans u2.1.1.symm) (by omega)
                  rw [eb] at z4
                  exact rsT_u z4 (u4 _ (by omega))
            · exact absurd x2 (y1 r x1)
          · rcases hA with ⟨r', y1, y2, _⟩ | ⟨_, y2⟩
            · exact absurd y2 (x1 r' y1)
            · rw [y2]
              by_cases z0 : k = 0
              · rw [if_pos z0, x2]
              · rw [if_neg z0, x3 _ (by omega)]
        by_cases z0 : k = 0
        · rw [if_neg (fun z => z z0), o_gr (y := 93) (s64 a1) (by rw [z5 _ _ (by omega)]; exact p64_3 a2), Option.bind_some, o_gi (s93 a1), Option.bind_some, key, if_pos z0]
        · obtain ⟨w, rfl⟩ : ∃ w : Nat, k = ((w + 1 : Nat) : Int) := ⟨(k - 1).toNat, by omega⟩
          have e1 : xwr (((w + 1 : Nat) : Int) - 1) = (w : Int) := by rw [xwr_g _ (by omega) (by omega)]; omega
          have e2 : (((w + 1 : Nat) : Int) - 1).toNat = w := by omega
          rw [if_pos z0, o_gr (y := 93) (s64 a1) (by rw [z5 _ _ (by omega)]; exact p64_3 a2), Option.bind_some, o_gr (y := 107) (s93 a1) (p93_17 m2), Option.bind_some, e1, o_a (s107 a1) (by omega), Option.bind_some, key, if_neg z0, e2]
    · rw [ep] at c1
      exact absurd c1 z
  · rw [if_neg (fun z => c1 z.1)] at e15
    rw [e15, Option.bind_some, if_neg (fun z => z rfl)] at e0
    rcases i2 with ⟨z, _⟩ | ⟨_, z, _⟩
    · exact absurd z c1
    · exact .inr ⟨z, e0⟩
end
