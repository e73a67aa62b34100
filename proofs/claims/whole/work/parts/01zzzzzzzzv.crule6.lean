/-! THE CLASS reads rules: readRule() -/
theorem wf_rule {np : Nat} {hd : Int} {pl : Nat} {g : Int × Int × Int} {I : List pCd} {V : List (Int × Nat)} {Ls : List pLt} (h : wRu np (hd, pl, g, I, V, Ls)) : (∀ y ∈ Ls, wLv V.length y) ∧ (∀ E ∈ I, wC V.length E) ∧ (g.1 = 0 ∨ g.1 = 10 ∨ 0 ≤ g.2.2 ∧ g.2.2 < V.length) := by
  obtain ⟨_, _, _, _, ⟨b1, b2⟩, _, _, _, a9⟩ := h
  refine ⟨fun y hy => ?_, fun E hE => ?_, ?_⟩
  · rcases (a9 y hy).1 with ⟨c1, _, _, _, _, c2⟩ | ⟨c1, _, c2, c3⟩
    · exact .inl ⟨c1, c2⟩
    · exact .inr ⟨c1, c2.1, c3.1⟩
  · obtain ⟨k, hk, e⟩ := List.mem_iff_getElem.mp hE
    rcases b2 k hk with ⟨_, c⟩ | ⟨_, c⟩
    · have c' : I.getD k [] = [] := c
      rw [getD_e hk, e] at c'
      rw [c']
      exact fun x hx => by cases hx
    · have c' : wEx V.length (I.getD k []) := c
      rw [getD_e hk, e] at c'
      exact c'.1
  · rcases b1 with ⟨c, _⟩ | ⟨_, _, _, c⟩
    · exact .inl c
    · rcases c with ⟨c, _⟩ | ⟨_, c1, c2⟩
      · exact .inr (.inl c)
      · exact .inr (.inr ⟨c1, c2⟩)
theorem pRule_x {t : tStr} {F : Nat} {s : pPg} : pRule t F s = if s.2.2.2.2.1.length = 24 then .inl (kS t s.2.2.2.2.2) else pbind (pbind (pPred t s.1 s.2.2.2.2.2) fun p => pbind (pNeed t 40 p.2.2) fun j => .inr (p.1, p.2.1, j)) fun p => pbind (pbind (pItem t F ([], (0, -1, -1), [], p.2.2)) (pItems t F 3)) fun a => pbind (pNeed t 41 a.2.2.2) fun j => pbind (if kK t j = 256 then pbind (pLit t true F (p.2.1, a.1, [], s.2.2.2.1 ++ [(p.1, kS t s.2.2.2.2.2, (a.2.2.1.length : Int), 3)], j + 1)) (pLits t true F 9) else .inr (p.2.1, a.1, [], s.2.2.2.1 ++ [(p.1, kS t s.2.2.2.2.2, (a.2.2.1.length : Int), 3)], j)) fun l => pbind (pNeed t 46 l.2.2.2.2) fun j => .inr (l.1, s.2.1, s.2.2.1, l.2.2.2.1, s.2.2.2.2.1 ++ [(p.1, kS t s.2.2.2.2.2, a.2.1, a.2.2.1, l.2.1, l.2.2.1)], j) := by
  unfold pRule
  congr 1
  rw [pbind_as]
  congr 1
  funext p
  rw [pbind_as]
  congr 1
  funext j
  rw [pbind_r, pbind_as]
section
variable {f n N w u q F sl : Nat} {S : Nat → Nat × Nat × Nat} {G : xG_} {B : Nat → Int} {t : tStr} {s : pPg}
/-- WRONG in a rule -/
def rW (S : Nat → Nat × Nat × Nat) (G : xG_) (q u sl : Nat) (T : Option ((Nat ⊕ Unit) × xT_)) (x : Nat) : Prop := ∃ (S' : Nat → Nat × Nat × Nat) (G' : xG_) (m' : Nat × Nat), T = some (.inl 0, cWr S' G' m' (x : Int)) ∧ (∀ a, a < u → S' a = S a) ∧ xFp q u G G' ∧ (m' = (u, sl) ∨ m' = (u + 11, sl + 172))
theorem k_43 (hf : 3010 < f) (hok : tOk t) (hvi : vIn t B n) (hF : 4 * N + 2 ≤ F) (hw : wPg s) (hu : 278 < u) (h : cPS S G B n t N w q u s) : pok (pRule t F s) (rW S G q u sl (c43 f 72 (S, G, (u, sl)))) (fun s' => ∃ S' G' sl', c43 f 72 (S, G, (u, sl)) = some (.inr (), (S', G', (u + 13, sl'))) ∧ (∀ a, a < u → S' a = S a) ∧ xFp q u G G' ∧ cPS S' G' B n t N w q (u + 13) s' ∧ sl' + 2 * s.2.2.2.2.2 ≤ sl + 172 + 2 * s'.2.2.2.2.2 ∧ s.2.2.2.2.2 < s'.2.2.2.2.2) := by
  obtain ⟨hE, hA, hi, hr, ⟨hM, hW, hmp, h3⟩, hP, hH, hqu⟩ := h
  have hs := hE.1
  obtain ⟨k1, k2, k3, k4⟩ := hE.tk hA
  have hq := hr.2.2.1 rfl
  have hN := hE.2.2.2.1.2
  have e43 := st_43 (f := f) (m := (u, sl)) hs hE.2.1 k4 hr.2.1 hr.2.2.2.2.1.1 hr.1 hP.2.1.1 k2 k3
  have hfull : ∀ s', pRule t F s = .inr s' → wPg s' := fun s' h' => pRule_wf hok h' hw
  rw [pRule_x] at hfull ⊢
  by_cases c24 : s.2.2.2.2.1.length = 24
  · rw [if_pos c24] at e43 ⊢
    exact ⟨S, G, (u, sl), e43, fun _ _ => rfl, .id, .inl rfl⟩
  rw [if_neg c24] at e43 hfull ⊢
  have hR24 : s.2.2.2.2.1.length < 24 := by have := hP.2.1.2.1; omega
  obtain ⟨S1, G1, b1, b2, b3, b4, b5, b6, b7, b8⟩ := k_35 (f := f) (sl := sl) (G := G) hs hu
  have e1 : c43 f 72 (S, G, (u, sl)) = c43_30t f 72 (kS t s.2.2.2.2.2 : Int) (S1, G1, (u + 11, sl + 172)) := by rw [e43]; exact st_43_30 hs b1
  obtain ⟨x1, hI1, hL1⟩ := cXr.new hu hE hA hi b2 b3 b4 b5 b6 b7 b8
  have hr1 := new_r b2 b3 hr hqu
  obtain ⟨gp1, gh1, gx1⟩ := new_p b3 hq hqu
  obtain ⟨hM1, hW1⟩ := new_m b3 hM hW hq hqu
  have hz1 : ∀ k, k < 8 → G1 (u + 9) k = 0 := fun k _ => b6.2.2.2.2.2 _ _ (by omega) (by omega)
  have hP1 := hP.ge b2 gp1
  have hH1 := hH.ge gh1
  have p1 := k_43h (f := f) (m := (u + 11, sl + 172)) (by omega) x1 hr1 hqu hI1
  rw [e1]
  cases hX : (pbind (pPred t s.1 s.2.2.2.2.2) fun p => pbind (pNeed t 40 p.2.2) fun j => .inr (p.1, p.2.1, j)) with
  | inl x =>
    rw [hX] at p1
    obtain ⟨G2, c1, c2⟩ := p1
    exact ⟨S1, G2, _, c1, b2, gx1.tr (c2.gp hq hqu).2.2, .inr rfl⟩
  | inr p =>
    rw [hX] at p1 hfull
    obtain ⟨G2, c1, c2, c3, c4, c5, ⟨pn, c6, c6'⟩, c7, c8, c9⟩ := p1
    obtain ⟨gp2, gh2, gx2⟩ := c2.gp hq hqu
    obtain ⟨hM2, hW2⟩ := c2.me hM1 hW1 hq hqu
    have hd2 := c2.hd hu hqu
    have p2 := k_64 (f := f) (m := (u + 11, sl + 172)) (x1 := (kS t s.2.2.2.2.2 : Int)) (i0 := s.2.2.2.2.2) hf hok hvi hF 3 [] (0, -1, -1) [] p.2.2 f G2 [] rfl (by omega) c4 (by show 0 + s.2.2.2.2.2 ≤ p.2.2; omega) c7
    rw [c1]
    show pok (pbind (pbind (pItem t F ([], (0, -1, -1), [], p.2.2)) (pItems t F 3)) _) _ _
    cases hY : pbind (pItem t F ([], (0, -1, -1), [], p.2.2)) (pItems t F 3) with
    | inl x =>
      rw [hY] at p2
      obtain ⟨G3, d1, d2⟩ := p2
      exact ⟨S1, G3, _, d1, b2, (gx1.tr gx2).tr (d2.gp hq hqu).2.2, .inr rfl⟩
    | inr a =>
      rw [hY] at p2
      obtain ⟨G3, K3, d1, d2, d3, d4, d5, d6⟩ := p2
      obtain ⟨gp3, gh3, gx3⟩ := d2.gp hq hqu
      obtain ⟨hM3, hW3⟩ := d2.me hM2 hW2 hq hqu
      have hd3 := d2.hd hu
      have hr3 := d2.pr c5 hqu
      have ha1 : 1 ≤ a.2.2.1.length := by
        obtain ⟨y, y1, y2⟩ := pbind_inr hY
        have w0 : wIt (([], (0, -1, -1), [], p.2.2) : pIt) := ⟨.inl ⟨rfl, rfl, rfl⟩, fun k hk => absurd hk (Nat.not_lt_zero k)⟩
        have l1 : y.2.2.1.length = 1 := by
          unfold pItem at y1
          split at y1
          · split at y1
            · cases y1
            · obtain ⟨_, _, y1⟩ := pbind_inr y1
              split at y1
              · obtain ⟨_, _, y1⟩ := pbind_inr y1
                cases y1; rfl
              · obtain ⟨_, _, y1⟩ := pbind_inr y1
                obtain ⟨_, _, y1⟩ := pbind_inr y1
                cases y1; rfl
          · obtain ⟨_, _, y1⟩ := pbind_inr y1
            cases y1; rfl
        have l2 : ∀ (k : Nat) (y a : pIt), pItems t F k y = .inr a → y.2.2.1.length ≤ a.2.2.1.length := by
          intro k
          induction k with
          | zero => intro y a h; cases h; exact Nat.le_refl _
          | succ k ih =>
            intro y a h
            unfold pItems at h
            split at h
            · obtain ⟨z, z1, z2⟩ := pbind_inr h
              have z3 := ih z a z2
              have z4 : y.2.2.1.length ≤ z.2.2.1.length := by
                unfold pItem at z1
                split at z1
                · split at z1
                  · cases z1
                  · obtain ⟨_, _, z1⟩ := pbind_inr z1
                    split at z1
                    · obtain ⟨_, _, z1⟩ := pbind_inr z1
                      cases z1; show _ ≤ (y.2.2.1 ++ [_]).length; rw [len1]; omega
                    · obtain ⟨_, _, z1⟩ := pbind_inr z1
                      obtain ⟨_, _, z1⟩ := pbind_inr z1
                      cases z1; show _ ≤ (y.2.2.1 ++ [_]).length; rw [len1]; omega
                · obtain ⟨_, _, z1⟩ := pbind_inr z1
                  cases z1; show _ ≤ (y.2.2.1 ++ [_]).length; rw [len1]; omega
              omega
            · cases h; exact Nat.le_refl _
        have := l2 3 y a y2
        omega
      have h03 : G3 u 0 = (pn : Int) := by rw [hd3.1, c8, c6]
      have h13 : G3 u 1 = (kS t s.2.2.2.2.2 : Int) := by rw [hd3.2.1, c9]
      have haN := d3.2.2.1
      have p3 := k_99 (f := f) (m := (u + 11, sl + 172)) (s := kS t s.2.2.2.2.2) d3 hr3 hqu hM3 hW3 hmp h03 c6' d6.1 ha1 (by omega)
      rw [d1]
      show pok (pbind (pNeed t 41 a.2.2.2) _) _ _
      cases hZ : pNeed t 41 a.2.2.2 with
      | inl x =>
        rw [hZ] at p3
        exact ⟨S1, G3, _, p3, b2, (gx1.tr gx2).tr gx3, .inr rfl⟩
      | inr j =>
        rw [hZ] at p3
        obtain ⟨G4, f1, f2, f3, f4, f5, f6, f7, f8⟩ := p3
        obtain ⟨gp4, gh4, gx4⟩ := f8.gp (u := u) hq hqu
        have hd4 := f8.hd hu hqu
        have hI4 := d6.f9 f8 hu hqu
        have hL4 : cLs G4 u K3 [] := ⟨by rw [hd4.2.2.2, hd3.2.2.2, hd2.2, b6.2.2.2.2.1]; rfl, by decide, fun l hl => absurd hl (Nat.not_lt_zero l)⟩
        have hm4 : mPos (s.2.2.2.1 ++ [((pn : Int), kS t s.2.2.2.2.2, (a.2.2.1.length : Int), 3)]) := mPos_1 hmp (.inr (by show (1 : Int) ≤ (a.2.2.1.length : Int); omega))
        rw [← c6] at f5 f6 hm4
        have hRL : cRL S1 G4 B n t N w q u true (p.2.1, a.1, [], s.2.2.2.1 ++ [(p.1, kS t s.2.2.2.2.2, (a.2.2.1.length : Int), 3)], j) K3 s.2.2.2.2.2 := ⟨f3, f4, hqu, f5, fun _ => ⟨f6, hm4⟩, hL4, by show 3 * (s.2.2.2.1 ++ [_]).length ≤ j; rw [len1]; omega, by show K3.length + s.2.2.2.2.2 ≤ j; omega⟩
        have p4 := k_169a (f := f) (m := (u + 11, sl + 172)) hf hok hvi hF rfl hRL
        rw [f1]
        show pok (pbind (if kK t j = 256 then pbind (pLit t true F (p.2.1, a.1, [], s.2.2.2.1 ++ [(p.1, kS t s.2.2.2.2.2, (a.2.2.1.length : Int), 3)], j + 1)) (pLits t true F 9) else .inr (p.2.1, a.1, [], s.2.2.2.1 ++ [(p.1, kS t s.2.2.2.2.2, (a.2.2.1.length : Int), 3)], j)) _) _ _
        have gx := ((gx1.tr gx2).tr gx3).tr gx4
        cases hV : (if kK t j = 256 then pbind (pLit t true F (p.2.1, a.1, [], s.2.2.2.1 ++ [(p.1, kS t s.2.2.2.2.2, (a.2.2.1.length : Int), 3)], j + 1)) (pLits t true F 9) else .inr (p.2.1, a.1, [], s.2.2.2.1 ++ [(p.1, kS t s.2.2.2.2.2, (a.2.2.1.length : Int), 3)], j)) with
        | inl x =>
          rw [hV] at p4
          obtain ⟨G5, g1, g2⟩ := p4
          exact ⟨S1, G5, _, g1, b2, gx.tr (g2.gp hq hqu).2.2, .inr rfl⟩
        | inr z =>
          rw [hV] at p4
          obtain ⟨G5, K5, g1, g2, ⟨D, hD⟩, g3⟩ := p4
          obtain ⟨gp5, gh5, gx5⟩ := g2.gp hq hqu
          have hd5 := g2.hd hu hqu
          have hI5 : cIt G5 u K5 a.2.1 a.2.2.1 := by rw [hD]; exact hI4.f2 g2 hu hqu
          have hP5 := ((((hP1.ge (fun _ _ => rfl) gp2).ge (fun _ _ => rfl) gp3).ge (fun _ _ => rfl) gp4).ge (fun _ _ => rfl) gp5)
          have hwf : ∀ j', pNeed t 46 z.2.2.2.2 = .inr j' → (∀ y ∈ z.2.2.1, wLv z.2.1.length y) ∧ (∀ E ∈ a.2.2.1, wC z.2.1.length E) ∧ (a.2.1.1 = 0 ∨ a.2.1.1 = 10 ∨ 0 ≤ a.2.1.2.2 ∧ a.2.1.2.2 < z.2.1.length) := by
            intro j' hj
            have hh := hfull (z.1, s.2.1, s.2.2.1, z.2.2.2.1, s.2.2.2.2.1 ++ [(p.1, kS t s.2.2.2.2.2, a.2.1, a.2.2.1, z.2.1, z.2.2.1)], j') (by
              show pbind (pbind (pItem t F ([], (0, -1, -1), [], p.2.2)) (pItems t F 3)) _ = _
              rw [hY]
              show pbind (pNeed t 41 a.2.2.2) _ = _
              rw [hZ]
              show pbind (if kK t j = 256 then pbind (pLit t true F (p.2.1, a.1, [], s.2.2.2.1 ++ [(p.1, kS t s.2.2.2.2.2, (a.2.2.1.length : Int), 3)], j + 1)) (pLits t true F 9) else .inr (p.2.1, a.1, [], s.2.2.2.1 ++ [(p.1, kS t s.2.2.2.2.2, (a.2.2.1.length : Int), 3)], j)) _ = _
              rw [hV]
              show pbind (pNeed t 46 z.2.2.2.2) _ = _
              rw [hj]
              rfl)
            exact wf_rule (hh.2.2.2.2.2.2 _ (List.mem_append_right _ (List.mem_singleton.mpr rfl)))
          have p5 := k_208 (f := f) (sl := sl + 172) (hd := p.1) (pl := kS t s.2.2.2.2.2) (R := s.2.2.2.2.1) hf g3 hI5 (fun k hk => by rw [hd5.2.2, hd4.2.2.1, hd3.2.2.1, hd2.1]; exact hz1 k hk) (by rw [hd5.1, hd4.1, h03, c6]) (by rw [hd5.2.1, hd4.2.1, h13]) hP5.2.1 hR24 hwf
          rw [g1]
          show pok (pbind (pNeed t 46 z.2.2.2.2) _) _ _
          cases hj : pNeed t 46 z.2.2.2.2 with
          | inl x =>
            rw [hj] at p5
            exact ⟨S1, G5, _, p5, b2, gx.tr gx5, .inr rfl⟩
          | inr j' =>
            rw [hj] at p5
            obtain ⟨S6, G6, q1, q2, q3, q4, q5, q6, q7⟩ := p5
            obtain ⟨y1, y2, y3, y4, y5, y6, y7, y8⟩ := g3
            have zE : cEv S6 G6 B n t N w := y1.1.ge (fun a ha => q5 a (by omega)) (fun a k z1 z2 z3 => q6 a k (by omega) (by omega) (by omega) (by omega))
            have hH5 : cHd G5 q (s.2.2.2.2.1 ++ [(p.1, kS t s.2.2.2.2.2, a.2.1, a.2.2.1, z.2.1, z.2.2.1)]) := fun x hx => by
              rw [pHd_1, gh5]
              show _ = if (x : Int) = p.1 then 1 else _
              rw [c6]
              by_cases cx : x = pn
              · rw [if_pos (by omega), cx]; exact f7
              · rw [if_neg (by omega), gh4 x cx, gh3, gh2]; exact hH1 x hx
            refine ⟨S6, G6, sl + 172 + 2 * K5.length, q1, fun a ha => by rw [q5 a ha, b2 a ha], ?_, ⟨zE, q4, q3, ?_, ⟨?_, ?_, (y5 rfl).2, ?_⟩, ⟨?_, q7, ?_, ?_⟩, ?_, by omega⟩, ?_, ?_⟩
            · exact (gx.tr gx5).tr (fun a k z1 z2 z3 z4 => q6 a k z1 (by omega) (by omega) (by omega))
            · exact y2.sg (fun a z1 z2 => q5 a (by omega)) (q6 _ _ (by omega) (by omega) (by omega) (by omega)) (q6 _ _ (by omega) (by omega) (by omega) (by omega)) (fun k _ _ _ => q6 _ _ (by omega) (by omega) (by omega) (by omega)) (fun k => q6 _ _ (by omega) (by omega) (by omega) (by omega))
            · exact y4.ge (q6 _ _ (by omega) (by omega) (by omega) (by omega)) (fun a k z1 z2 => q6 _ _ (by omega) (by omega) (by omega) (by omega))
            · exact (y5 rfl).1.ge (fun k => q6 _ _ (by omega) (by omega) (by omega) (by omega))
            · show 3 * z.2.2.2.1.length ≤ j'
              omega
            · intro x hx
              rw [q6 (q + 3) x (by omega) (by omega) (by omega) (by omega), q6 (q + 4) x (by omega) (by omega) (by omega) (by omega), q6 (q + 5) x (by omega) (by omega) (by omega) (by omega)]
              exact hP5.1 x hx
            · intro b k z1 z2
              rw [q6 b k (by omega) (by omega) (by omega) (by omega)]
              exact hP5.2.2.1 b k z1 z2
            · rw [q6 _ _ (by omega) (by omega) (by omega) (by omega)]
              exact hP5.2.2.2
            · exact hH5.ge (fun k => q6 _ _ (by omega) (by omega) (by omega) (by omega))
            · show sl + 172 + 2 * K5.length + 2 * s.2.2.2.2.2 ≤ sl + 172 + 2 * j'
              omega
            · show s.2.2.2.2.2 < j'
              omega
end
