/-! THE CLASS: each WAY once -/
section
variable {Ls : List pLt} {a nv : Nat} {R : Nat → List pRw} {lo hi : Nat → Int}
theorem mkP_in {k : Nat} : ∀ (pr : List Nat) (b : Nat), (mkP Ls pr b).testBit k = true ↔ b.testBit k = true ∨ ∃ p ∈ pr, (qLv (Ls.getD p dLt)).testBit k = true
  | [], b => ⟨.inl, fun h => h.elim id (fun ⟨q, q1, _⟩ => nomatch q1)⟩
  | p :: pr, b => by
    show (mkP Ls pr (b ||| qLv (Ls.getD p dLt))).testBit k = true ↔ _
    rw [mkP_in pr, Nat.testBit_or, Bool.or_eq_true]
    constructor
    · rintro ((h | h) | ⟨q, q1, q2⟩)
      · exact .inl h
      · exact .inr ⟨p, List.mem_cons_self, h⟩
      · exact .inr ⟨q, List.mem_cons_of_mem _ q1, q2⟩
    · rintro (h | ⟨q, q1, q2⟩)
      · exact .inl (.inl h)
      · rcases List.mem_cons.mp q1 with e | e
        · subst e; exact .inl (.inr q2)
        · exact .inr ⟨q, e, q2⟩
/-- two values differ on a mask -/
def dfO (B : Nat) (v w : Nat → Int) : Prop := ∃ k, B.testBit k = true ∧ v k ≠ w k
theorem chs_u {p : Nat} {pr : List Nat} {b : Nat} {vl : Nat → Int} {D : List (Nat → Int)} (hC : wsC Ls nv R) (hp : p < Ls.length) (h : chs Ls a 0 R lo hi p pr b vl D) : D.Pairwise (dfO (b ||| qLv (Ls.getD p dLt))) := by
  rcases hC p hp with ⟨c1, c2, c3, c4⟩ | ⟨c1, c2, c3, c4⟩
  · rcases h with ⟨h1, D0, h2, h3, h4⟩ | ⟨h1, h2, h3⟩ | ⟨h1, _⟩
    · by_cases cm : mre Ls a 0 (Ls.getD p dLt) pr b
      · rw [h3 cm, List.pairwise_map]
        refine h2.1.imp_of_mem (fun {x y} hx hy hxy => ?_)
        obtain ⟨x1, x2, x3, bx, x4⟩ := (h2.2 x).mp hx
        obtain ⟨y1, y2, y3, bY, y4⟩ := (h2.2 y).mp hy
        have hmx : (R (Ls.getD p dLt).2.1.toNat).getD x.1 dRw ∈ R (Ls.getD p dLt).2.1.toNat := by rw [getD_e x2]; exact List.getElem_mem x2
        have hmy : (R (Ls.getD p dLt).2.1.toNat).getD y.1 dRw ∈ R (Ls.getD p dLt).2.1.toNat := by rw [getD_e y2]; exact List.getElem_mem y2
        obtain ⟨sx1, sx2, sx3, sx4⟩ := fit_s c2 (c4 _ hmx) x4
        obtain ⟨sy1, sy2, sy3, sy4⟩ := fit_s c2 (c4 _ hmy) y4
        refine Classical.byContradiction (fun hn => ?_)
        have heq : ∀ k, (qT (Ls.getD p dLt).2.2.2.1).testBit k = true → x.2 k = y.2 k := fun k hk => Classical.byContradiction (fun q => hn ⟨k, by rw [qT_lv (by omega), Nat.testBit_or, hk, Bool.or_true], q⟩)
        have sm : sameT (Ls.getD p dLt).2.2.2.1 ((R (Ls.getD p dLt).2.1.toNat).getD y.1 dRw).1 ((R (Ls.getD p dLt).2.1.toNat).getD x.1 dRw).1 := fun c hc => by
          have hm : (Ls.getD p dLt).2.2.2.1.getD c (0, 0) ∈ (Ls.getD p dLt).2.2.2.1 := by rw [getD_e hc]; exact List.getElem_mem hc
          rcases c2 _ hm with q | q | q
          · refine .inr ?_
            rw [← (sy4 c hc).1 q.1, ← (sx4 c hc).1 q.1]
            exact (heq _ (qT_get.mpr ⟨c, hc, q.1, rfl⟩)).symm
          · exact .inl q
          · refine .inr ?_
            rw [← (sy4 c hc).2 q.1, ← (sx4 c hc).2 q.1]
        -- y is no repetition
        obtain ⟨b2, v2, e1, e2⟩ := y3
        have nrep : ¬ isRp (Ls.getD p dLt).2.2.2.1 (lo p) (hi p) (R (Ls.getD p dLt).2.1.toNat) y.1 := by
          rcases e2 with q | q | q
          · exact absurd rfl q
          · exfalso
            rw [e1] at y4
            injection y4 with y4
            injection y4 with y4 _
            obtain ⟨j, j1, j2, _⟩ := cm
            rw [qT_lv (by omega), ← sy2, ← y4, q, j2] at j1
            cases j1
          · exact q
        by_cases ca : ∃ c, c < (Ls.getD p dLt).2.2.2.1.length ∧ ((Ls.getD p dLt).2.2.2.1.getD c (0, 0)).1 = 2
        · exact nrep ⟨ca, x.1, hxy, sx1, sm⟩
        · have hp1 := List.pairwise_iff_getElem.mp c3 x.1 y.1 x2 y2 hxy
          rw [← getD_e (d := dRw) x2, ← getD_e (d := dRw) y2] at hp1
          have lx := c4 _ hmx
          have ly := c4 _ hmy
          have er : ((R (Ls.getD p dLt).2.1.toNat).getD x.1 dRw).1 = ((R (Ls.getD p dLt).2.1.toNat).getD y.1 dRw).1 := by
            refine List.ext_getElem (by omega) (fun c d1 d2 => ?_)
            have q := sm c (by omega)
            rcases q with q | q
            · exact absurd ⟨c, by omega, q⟩ ca
            · have q1 : ((R (Ls.getD p dLt).2.1.toNat).getD y.1 dRw).1.getD c 0 = ((R (Ls.getD p dLt).2.1.toNat).getD y.1 dRw).1[c] := getD_e d2
              have q2 : ((R (Ls.getD p dLt).2.1.toNat).getD x.1 dRw).1.getD c 0 = ((R (Ls.getD p dLt).2.1.toNat).getD x.1 dRw).1[c] := getD_e d1
              exact q2.symm.trans (q.symm.trans q1)
          exact vLt_irr _ (by have hp2 : vLt ((R (Ls.getD p dLt).2.1.toNat).getD x.1 dRw).1 ((R (Ls.getD p dLt).2.1.toNat).getD y.1 dRw).1 := hp1; rw [er] at hp2; exact hp2)
      · rw [h4 cm]
        match D0 with
        | [] => exact List.Pairwise.nil
        | z :: _ => exact List.pairwise_singleton _ _
    · by_cases cn : ∀ j, j < (R (Ls.getD p dLt).2.1.toNat).length → fitR (Ls.getD p dLt).2.2.2.1 (lo p) (hi p) b vl ((R (Ls.getD p dLt).2.1.toNat).getD j dRw) = none
      · rw [h2 cn]; exact List.pairwise_singleton _ _
      · rw [h3 cn]; exact List.Pairwise.nil
    · omega
  · rcases h with ⟨h1, _⟩ | ⟨h1, _⟩ | ⟨h1, h2, h3⟩
    · omega
    · omega
    · cases hc : cmpV (Ls.getD p dLt) b vl with
      | none => rw [h3 hc]; exact List.Pairwise.nil
      | some z => rw [h2 z.1 z.2 hc]; exact List.pairwise_singleton _ _
theorem wyS_u {P : (Nat → Int) → List (Nat → Int) → Nat → Prop} {B C : Nat} (hBC : ∀ k, C.testBit k = true → B.testBit k = true) (hP : ∀ d V k, P d V k → V.Pairwise (dfO B) ∧ ∀ v ∈ V, ∀ k, C.testBit k = true → v k = d k) : ∀ {D V : List (Nat → Int)} {k : Nat}, wyS P D V k → D.Pairwise (dfO C) → V.Pairwise (dfO B)
  | [], V, k, h, _ => by
    obtain ⟨rfl, _⟩ := wyS_n h
    exact List.Pairwise.nil
  | d :: D, V, k, h, hD => by
    obtain ⟨V1, k1, V2, k2, h1, h2, rfl, _⟩ := wyS_c h
    obtain ⟨p1, p2⟩ := List.pairwise_cons.mp hD
    obtain ⟨q1, q2⟩ := hP d V1 k1 h1
    refine List.pairwise_append.mpr ⟨q1, wyS_u hBC hP h2 p2, fun v hv w hw => ?_⟩
    obtain ⟨e, e1, V3, k3, e2, e3⟩ := (wyS_mem h2).1 w hw
    obtain ⟨j, j1, j2⟩ := p1 e e1
    exact ⟨j, hBC j j1, by rw [q2 v hv j j1, (hP e V3 k3 e2).2 w e3 j j1]; exact j2⟩
theorem wy_uni (hC : wsC Ls nv R) : ∀ (pr : List Nat) (b : Nat) (vl : Nat → Int) (V : List (Nat → Int)) (k : Nat), (∀ p ∈ pr, p < Ls.length) → okP Ls pr b → wyE Ls a 0 R lo hi pr b vl V k → V.Pairwise (dfO (mkP Ls pr b))
  | [], b, vl, V, k, _, _, h => by
    obtain ⟨rfl, _⟩ : V = [vl] ∧ k = 1 := h
    exact List.pairwise_singleton _ _
  | p :: pr, b, vl, V, k, hp, hok, h => by
    obtain ⟨D, k', h1, h2, _⟩ := h
    have hp' : ∀ q ∈ pr, q < Ls.length := fun q hq => hp q (List.mem_cons_of_mem _ hq)
    exact wyS_u (fun k hk => (mkP_in pr _).mpr (.inl hk)) (fun d V1 k1 e => ⟨wy_uni hC pr _ d V1 k1 hp' hok.2 e, fun v hv => (wy_snd hC pr _ d V1 k1 hp' hok.2 e v hv).1⟩) h2 (chs_u hC (hp p List.mem_cons_self) h1)
end
