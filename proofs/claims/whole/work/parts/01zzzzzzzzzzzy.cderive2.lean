/-! THE CLASS: derive() -/
section
variable {f u np nv a p fn : Nat} {S : Nat → Nat × Nat × Nat} {G G' : xG_} {m : Nat × Nat} {K : pCd} {Ls : List pLt} {pl : List Nat} {br : Int} {qn xp cp : Nat → Nat} {R : Nat → List pRw} {lo hi : Nat → Int} {Bf : Nat} {I : List pCd} {g : Int × Int × Int} {M : List pRw}
theorem k_155l (hf : 100003010 < f) (hp16 : p < 16) (hxp : ∀ q, q < np → 103 < xp q ∧ ∀ b, xp q ≤ b → b ≤ xp q + 2 → ¬ (111 + 6 * p ≤ b ∧ b ≤ 113 + 6 * p)) (hnI : I.length ≤ 4) (hwI : wIe nv I (-1)) (hBf : ∀ j, j < nv → Bf.testBit j = true) (hMs : M.Pairwise rwLt) : ∀ (V : List (Nat → Int)) (k i fu : Nat) (G : xG_) (F : List pRw) (cm : Int), cWE S G u K Ls pl 94 fn np nv a br qn xp cp R lo hi → wSt8 Ls pl a br R lo hi G Bf V k → k ≤ 100000000 → V.length < fu → i + V.length < 10000000 → cIt G u K g I → G u 3 = -1 → G u 0 = (p : Int) → cRw S G (108 + 6 * p) I.length 100 M → cRw S G (111 + 6 * p) I.length 100 F → F.Pairwise rwLt → (∀ r ∈ F, r.2 = 0) → G 93 15 = cm → 0 ≤ cm → cm + (V.length : Int) ≤ 10000000 → ∃ v G', c155_2 f fu 93 u (i : Int) (S, G, m) = some (v, (S, G', m)) ∧ (∀ b j, ¬ (83 ≤ b ∧ b ≤ 92) → ¬ (b = 93 ∧ j = 15) → b ≠ 103 → ¬ (111 + 6 * p ≤ b ∧ b ≤ 113 + 6 * p) → G' b j = G b j) ∧ cPs G' ∧
    ((v = 1 ∧ ∃ F', cRw S G' (111 + 6 * p) I.length 100 F' ∧ F'.Pairwise rwLt ∧ (∀ r ∈ F', r.2 = 0) ∧ (F.length ≤ F'.length ∧ (M.length + F.length ≤ 100 → M.length + F'.length ≤ 100)) ∧ G' 93 15 = cm + ((F'.length - F.length : Nat) : Int) ∧ ∀ xs, (∃ r ∈ F', r.1 = xs) ↔ (∃ r ∈ F, r.1 = xs) ∨ ((∀ r ∈ M, r.1 ≠ xs) ∧ ∃ v ∈ V, qMk I (-1) v I.length = some xs)) ∨
     (v = 0 ∧ ∃ W : List (List Int), W.Nodup ∧ 100 < M.length + W.length ∧ ∀ xs ∈ W, (∃ r ∈ F, r.1 = xs) ∨ ((∀ r ∈ M, r.1 ≠ xs) ∧ ∃ v ∈ V, qMk I (-1) v I.length = some xs))) := by
  intro V
  induction V with
  | nil =>
    intro k i fu G F cm h hs hk hfu hii hI hg h0 hM hF hFs hF0 hcm hc0 hc1
    obtain ⟨fu, rfl⟩ : ∃ t, fu = t + 1 := ⟨fu - 1, by omega⟩
    rcases k_next (m := m) hf h hs hk with ⟨G1, e1, e2, e3⟩ | ⟨G1, v, V', k', e1, e2, e3, _⟩
    · have st : c155_2 f (fu + 1) 93 u (i : Int) (S, G, m) = _ := (st_155a (r2 := c155_2 f fu) (u := u) h.1.1 h.1.2.1 (by simp at hii; omega) e1).trans st_155z
      refine ⟨1, G1, st, fun b j y1 _ _ _ => e2 b j (by omega) (by omega) (by omega), (h.ge e2).1.2.1, .inl ⟨rfl, F, hF.ge (fun _ _ _ => rfl) (fun j => e2 _ _ (by omega) (by omega) (by omega)) (fun j => e2 _ _ (by omega) (by omega) (by omega)) (fun j => e2 _ _ (by omega) (by omega) (by omega)), hFs, hF0, ⟨Nat.le_refl _, id⟩, ?_, fun xs => ⟨.inl, fun q => q.elim id (fun ⟨_, v, v1, _⟩ => nomatch v1)⟩⟩⟩
      rw [e2 _ _ (by omega) (by omega) (by omega), hcm, Nat.sub_self]
      show cm = cm + 0
      omega
    · cases e3
  | cons v0 V ih =>
    intro k i fu G F cm h hs hk hfu hii hI hg h0 hM hF hFs hF0 hcm hc0 hc1
    rw [List.length_cons] at hfu hii hc1
    obtain ⟨fu, rfl⟩ : ∃ t, fu = t + 1 := ⟨fu - 1, by omega⟩
    rcases k_next (m := m) hf h hs hk with ⟨G1, e1, e2, e3⟩ | ⟨G1, v, V', k', e1, e2, e3, e4, e5, e6⟩
    · cases e3
    · injection e3 with q1 q2
      subst q1 q2
      have h1 := h.ge e2
      have hu := h.2.1.2.2.2.2.1
      have ei : xwr ((i : Int) + 1) = ((i + 1 : Nat) : Int) := by rw [xwr_g _ (by omega) (by omega)]; omega
      have hI1 : cIt G1 u K g I := hI.fx hu (fun b j y => e2 b j (by omega) (by omega) (by omega))
      have hV1 : ∀ c, c < I.length → (c : Int) ≠ -1 → cVl G1 (qVm (I.getD c [])) v0 := fun c hc hn j hj => e6 j (hBf j (qVm_in (hwI c hc hn).1.1 j hj))
      obtain ⟨b, G2, g1, g2, g3⟩ := k_142h (f := f) (m := m) (vl := v0) (by omega) hnI hwI h1.wy hI1 (by rw [e2 _ _ (by omega) (by omega) (by omega)]; exact hg) hV1
      have st1 : c155_2 f (fu + 1) 93 u (i : Int) (S, G, m) = _ := (st_155a (r2 := c155_2 f fu) (u := u) h.1.1 h.1.2.1 (by omega) e1).trans (st_155b h.1.1 h1.1.2.1 g1)
      have ps2 : cPs G2 := h1.1.2.1.ge (fun b j hz => g2 b j (by
        rcases hz with z | z | z | z | z | z | z | ⟨z, z1, z2, k, z3⟩ | z | z | z | ⟨k, z1, z2, z3⟩ <;> omega) (by
        rcases hz with z | z | z | z | z | z | z | ⟨z, z1, z2, k, z3⟩ | z | z | z | ⟨k, z1, z2, z3⟩ <;> omega))
      have z2 : ∀ b j, ¬ (83 ≤ b ∧ b ≤ 92) → b ≠ 103 → G2 b j = G b j := fun b j y1 y2 => by rw [g2 b j (by omega) y2, e2 b j (by omega) (by omega) (by omega)]
      have ws2 : cWE S G2 u K Ls pl 94 fn np nv a br qn xp cp R lo hi := by
        obtain ⟨⟨a1, a2, a3, a4, a5, a6, a7, a8⟩, b1, c1, ⟨d1, d2⟩, e1', f1⟩ := h1
        refine ⟨⟨a1, ps2, by rw [g2 _ _ (by omega) (by omega)]; exact a3, by rw [g2 _ _ (by omega) (by omega)]; exact a4, by rw [g2 _ _ (by omega) (by omega)]; exact a5, a6, a7, a8⟩, b1.fx (fun b j y => g2 b j (by omega) (by omega)), c1, ⟨d1, fun k hk => ?_⟩, fun q hq => ?_, fun l hl => ?_⟩
        · rw [g2 _ _ (by omega) (by omega), g2 _ _ (by omega) (by omega)]; exact d2 k hk
        · obtain ⟨q1, q2, q3, q4⟩ := e1' q hq
          have := (hxp q hq).1
          exact ⟨by rw [g2 _ _ (by omega) (by omega)]; exact q1, q2, q3.ge (fun _ _ _ => rfl) (fun j => g2 _ _ (by omega) (by omega)) (fun j => g2 _ _ (by omega) (by omega)) (fun j => g2 _ _ (by omega) (by omega)), q4⟩
        · rw [g2 _ _ (by omega) (by omega), g2 _ _ (by omega) (by omega)]; exact f1 l hl
      have wst2 : wSt8 Ls pl a br R lo hi G2 Bf V k' := by
        rcases e5 with ⟨st, b, vl, V1, k1, V2, k2, a1, a2, a3, a4, a5, a6, a7, a8, a9, a10⟩ | ⟨n, B, a1, a2, a3, a4, a5⟩
        · exact .inl ⟨st, b, vl, V1, k1, V2, k2, a1, by rw [g2 _ _ (by omega) (by omega)]; exact a2, by rw [g2 _ _ (by omega) (by omega)]; exact a3, a4.ge (g2 _ _ (by omega) (by omega)) (fun j _ => g2 _ _ (by omega) (by omega)), a5, a6, a7, a8.ge _ _ _ _ (fun a j _ _ _ => g2 _ _ (by omega) (by omega)) (g2 _ _ (by omega) (by omega)) (fun j _ => g2 _ _ (by omega) (by omega)), a9, a10⟩
        · exact .inr ⟨n, B, a1, by rw [g2 _ _ (by omega) (by omega)]; exact a2, by rw [g2 _ _ (by omega) (by omega)]; exact a3, a4, a5.ge _ _ _ _ (fun a j _ _ _ => g2 _ _ (by omega) (by omega)) (g2 _ _ (by omega) (by omega)) (fun j _ => g2 _ _ (by omega) (by omega))⟩
      have hI2 : cIt G2 u K g I := hI.fx hu (fun b j y => z2 b j (by omega) (by omega))
      have hM2 : cRw S G2 (108 + 6 * p) I.length 100 M := hM.ge (fun _ _ _ => rfl) (fun j => z2 _ _ (by omega) (by omega)) (fun j => z2 _ _ (by omega) (by omega)) (fun j => z2 _ _ (by omega) (by omega))
      have hF2 : cRw S G2 (111 + 6 * p) I.length 100 F := hF.ge (fun _ _ _ => rfl) (fun j => z2 _ _ (by omega) (by omega)) (fun j => z2 _ _ (by omega) (by omega)) (fun j => z2 _ _ (by omega) (by omega))
      have hg2 : G2 u 3 = -1 := by rw [z2 _ _ (by omega) (by omega)]; exact hg
      have h02 : G2 u 0 = (p : Int) := by rw [z2 _ _ (by omega) (by omega)]; exact h0
      have hcm2 : G2 93 15 = cm := by rw [z2 _ _ (by omega) (by omega)]; exact hcm
      -- the WAYS that come behind: nothing new from v0
      have skip : (∀ xs, qMk I (-1) v0 I.length = some xs → (∃ r ∈ F, r.1 = xs) ∨ ∃ r ∈ M, r.1 = xs) → ∀ (G3 : xG_), G3 = G2 → c155_2 f (fu + 1) 93 u (i : Int) (S, G, m) = c155_2 f fu 93 u ((i + 1 : Nat) : Int) (S, G3, m) → ∃ v G', c155_2 f (fu + 1) 93 u (i : Int) (S, G, m) = some (v, (S, G', m)) ∧ (∀ b j, ¬ (83 ≤ b ∧ b ≤ 92) → ¬ (b = 93 ∧ j = 15) → b ≠ 103 → ¬ (111 + 6 * p ≤ b ∧ b ≤ 113 + 6 * p) → G' b j = G b j) ∧ cPs G' ∧ ((v = 1 ∧ ∃ F', cRw S G' (111 + 6 * p) I.length 100 F' ∧ F'.Pairwise rwLt ∧ (∀ r ∈ F', r.2 = 0) ∧ (F.length ≤ F'.length ∧ (M.length + F.length ≤ 100 → M.length + F'.length ≤ 100)) ∧ G' 93 15 = cm + ((F'.length - F.length : Nat) : Int) ∧ ∀ xs, (∃ r ∈ F', r.1 = xs) ↔ (∃ r ∈ F, r.1 = xs) ∨ ((∀ r ∈ M, r.1 ≠ xs) ∧ ∃ v ∈ v0 :: V, qMk I (-1) v I.length = some xs)) ∨ (v = 0 ∧ ∃ W : List (List Int), W.Nodup ∧ 100 < M.length + W.length ∧ ∀ xs ∈ W, (∃ r ∈ F, r.1 = xs) ∨ ((∀ r ∈ M, r.1 ≠ xs) ∧ ∃ v ∈ v0 :: V, qMk I (-1) v I.length = some xs))) := fun hn G3 hG3 est => by
        subst hG3
        obtain ⟨v, G4, i1, i2, i3, i4⟩ := ih k' (i + 1) fu G3 F cm ws2 wst2 (by omega) (by omega) (by omega) hI2 hg2 h02 hM2 hF2 hFs hF0 hcm2 hc0 (by omega)
        refine ⟨v, G4, est.trans i1, fun b j y1 y2 y3 y4 => by rw [i2 b j y1 y2 y3 y4, z2 b j y1 y3], i3, ?_⟩
        rcases i4 with ⟨j1, F', j2, j3, j4, j5, j6, j7⟩ | ⟨j1, W, j2, j3, j4⟩
        · refine .inl ⟨j1, F', j2, j3, j4, j5, j6, fun xs => (j7 xs).trans ⟨fun q => q.imp id (fun ⟨q1, v, q2, q3⟩ => ⟨q1, v, List.mem_cons_of_mem _ q2, q3⟩), fun q => ?_⟩⟩
          rcases q with q | ⟨q1, v, q2, q3⟩
          · exact .inl q
          · rcases List.mem_cons.mp q2 with e | e
            · subst e
              rcases hn xs q3 with z | ⟨r, r1, r2⟩
              · exact .inl z
              · exact absurd r2 (q1 r r1)
            · exact .inr ⟨q1, v, e, q3⟩
        · exact .inr ⟨j1, W, j2, j3, fun xs hx => (j4 xs hx).imp id (fun ⟨q1, v, q2, q3⟩ => ⟨q1, v, List.mem_cons_of_mem _ q2, q3⟩)⟩
      rcases g3 with ⟨b1, ys, y1, y2⟩ | ⟨b0, y1⟩
      · subst b1
        have ly : ys.length = I.length := qMk_len _ _ y1
        have hK : cKl S G2 103 ys := ⟨⟨4, s103 h.1.1, by omega⟩, fun c hc => y2 c (by omega)⟩
        obtain ⟨v, G3, k1, k2, k3, k4⟩ := k_156 (f := f) (m := m) (kl := ys) (a := 103) (cm := cm) (by omega) h.1.1 ps2 hp16 hM2 hF2 hMs hFs ly hK (s103 h.1.1) (by omega) (by omega) hcm2 (by omega)
        have st2 := st1.trans (st_155c h.1.1 ps2 hu h.wy.2.2.2.2.1.1 h02 k1)
        rcases k4 with ⟨rfl, rfl, q⟩ | ⟨rfl, rfl, q1, q2, q3⟩ | ⟨rfl, q1, q2, q3, F1, q4, q5, q6, q7⟩
        · refine skip (fun xs hx => ?_) _ rfl (st2.trans (st_155y ei))
          rw [y1] at hx
          injection hx with hx
          subst hx
          exact q
        · refine ⟨0, _, st2.trans st_155o, fun b j w1 w2 w3 w4 => z2 b j w1 w3, ps2, .inr ⟨rfl, ys :: F.map (·.1), ?_, by rw [List.length_cons, List.length_map]; omega, fun xs hx => ?_⟩⟩
          · refine List.nodup_cons.mpr ⟨fun q => ?_, ?_⟩
            · obtain ⟨r, r1, r2⟩ := List.mem_map.mp q
              exact q2 r r1 r2
            · rw [List.nodup_iff_pairwise_ne, List.pairwise_map]
              exact hFs.imp (fun {r1 r2} hab => fun (e : r1.1 = r2.1) => vLt_irr r2.1 (by have hab' : vLt r1.1 r2.1 := hab; rw [e] at hab'; exact hab'))
          · rcases List.mem_cons.mp hx with e | e
            · subst e; exact .inr ⟨q3, v0, List.mem_cons_self, y1⟩
            · obtain ⟨r, r1, r2⟩ := List.mem_map.mp e
              exact .inl ⟨r, r1, r2⟩
        · have z3 : ∀ b j, ¬ (83 ≤ b ∧ b ≤ 92) → ¬ (b = 93 ∧ j = 15) → b ≠ 103 → ¬ (111 + 6 * p ≤ b ∧ b ≤ 113 + 6 * p) → G3 b j = G b j := fun b j w1 w2 w3 w4 => by rw [k2 b j w2 (by omega) (by omega) (by omega), z2 b j w1 w3]
          have z4 : ∀ b j, ¬ (b = 93 ∧ j = 15) → ¬ (111 + 6 * p ≤ b ∧ b ≤ 113 + 6 * p) → G3 b j = G2 b j := fun b j w2 w4 => k2 b j w2 (by omega) (by omega) (by omega)
          have ws3 : cWE S G3 u K Ls pl 94 fn np nv a br qn xp cp R lo hi := ws2.out (fun q hq b w1 w2 j => z4 b j (by have := (hxp q hq).1; omega) ((hxp q hq).2 b w1 w2)) k3 (fun b j w1 w2 => z4 b j (by omega) (by omega)) (fun j => z4 _ _ (by omega) (by omega)) (fun b j w => z4 b j (by omega) (by omega))
          obtain ⟨v, G4, i1, i2, i3, i4⟩ := ih k' (i + 1) fu G3 F1 (cm + 1) ws3 (wst2.ge (fun b j w1 w2 => z4 b j (by omega) (by omega))) (by omega) (by omega) (by omega) (hI.fx hu (fun b j w => z3 b j (by omega) (by omega) (by omega) (by omega))) (by rw [z3 _ _ (by omega) (by omega) (by omega) (by omega)]; exact hg) (by rw [z3 _ _ (by omega) (by omega) (by omega) (by omega)]; exact h0) (hM.ge (fun _ _ _ => rfl) (fun j => z3 _ _ (by omega) (by omega) (by omega) (by omega)) (fun j => z3 _ _ (by omega) (by omega) (by omega) (by omega)) (fun j => z3 _ _ (by omega) (by omega) (by omega) (by omega))) q4 q5 (fun r hr => by
            rcases (q7 r).mp hr with e | e
            · exact hF0 r e
            · rw [e]) q3 (by omega) (by omega)
          have mem : ∀ xs, (∃ r ∈ F1, r.1 = xs) ↔ (∃ r ∈ F, r.1 = xs) ∨ xs = ys := fun xs => by
            constructor
            · rintro ⟨r, r1, r2⟩
              rcases (q7 r).mp r1 with e | e
              · exact .inl ⟨r, e, r2⟩
              · rw [e] at r2; exact .inr r2.symm
            · rintro (⟨r, r1, r2⟩ | e)
              · exact ⟨r, (q7 r).mpr (.inl r1), r2⟩
              · exact ⟨_, (q7 _).mpr (.inr rfl), e.symm⟩
          refine ⟨v, G4, (st2.trans (st_155y ei)).trans i1, fun b j w1 w2 w3 w4 => by rw [i2 b j w1 w2 w3 w4, z3 b j w1 w2 w3 w4], i3, ?_⟩
          rcases i4 with ⟨j1, F', j2, j3, j4, j5, j6, j7⟩ | ⟨j1, W, j2, j3, j4⟩
          · refine .inl ⟨j1, F', j2, j3, j4, by omega, by rw [j6, q6.1]; omega, fun xs => (j7 xs).trans ?_⟩
            rw [mem]
            constructor
            · rintro ((e | e) | ⟨e1, v, e2, e3⟩)
              · exact .inl e
              · subst e; exact .inr ⟨q2, v0, List.mem_cons_self, y1⟩
              · exact .inr ⟨e1, v, List.mem_cons_of_mem _ e2, e3⟩
            · rintro (e | ⟨e1, v, e2, e3⟩)
              · exact .inl (.inl e)
              · rcases List.mem_cons.mp e2 with e | e
                · subst e
                  rw [y1] at e3
                  injection e3 with e3
                  exact .inl (.inr e3.symm)
                · exact .inr ⟨e1, v, e, e3⟩
          · refine .inr ⟨j1, W, j2, j3, fun xs hx => ?_⟩
            rcases j4 xs hx with e | ⟨e1, v, e2, e3⟩
            · rcases (mem xs).mp e with e | e
              · exact .inl e
              · subst e; exact .inr ⟨q2, v0, List.mem_cons_self, y1⟩
            · exact .inr ⟨e1, v, List.mem_cons_of_mem _ e2, e3⟩
      · subst b0
        exact skip (fun xs hx => by rw [y1] at hx; cases hx) _ rfl (st1.trans (st_155n ei))
end
