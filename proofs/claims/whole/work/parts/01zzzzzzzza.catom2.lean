/-! THE CLASS reads ATOMS: readAtom() -/
section
variable {f n N w i i' u q l : Nat} {S : Nat → Nat × Nat × Nat} {G G' G'' : xG_} {m : Nat × Nat} {B : Nat → Int} {t : tStr} {V V' : List (Int × Nat)} {K K' : pCd} {L L' : List Int} {tell : Bool} {M : List pMn}
theorem cXr.fn (h : cXr S G B n t N w u V K i) (hx : xFn tell q G G') (hq : tell = true → 278 < q) (hqu : q + 10 < u) (h1 : cAt G' N w i') (h2 : i' ≤ N) : cXr S G' B n t N w u V K i' := by
  have hu := h.2.2.2.1.2.1
  have z : ∀ a j, a < 279 → ¬ (a = 72 ∧ j = 1) → G' a j = G a j := fun a j p p' => hx a j p' (fun y => by have := hq y.1; omega)
  have z' : ∀ a j, q + 10 < a → 278 < a → G' a j = G a j := fun a j p p' => hx a j (by omega) (fun y => by omega)
  exact h.b (fun a j p q r => z a j r (by omega)) (fun j p q r s => z' u j (by omega) hu) h1 h2 (h.2.2.2.2.1.ge (z' _ _ (by omega) (by omega)) (fun j => z _ _ (by omega) (by omega)) (fun j => z' _ _ (by omega) (by omega))) h.2.2.2.2.2.1 (h.2.2.2.2.2.2.ge (z _ _ (by omega) (by omega)) (fun j => z _ _ (by omega) (by omega)) (fun j => z _ _ (by omega) (by omega)))
theorem cMe.fn (h : cMe G M) (hx : xFn tell q G G') (hq : tell = true → 278 < q) : cMe G' M := by
  have z : ∀ a j, a < 279 → ¬ (a = 72 ∧ j = 1) → G' a j = G a j := fun a j p p' => hx a j p' (fun y => by have := hq y.1; omega)
  exact h.ge (z _ _ (by omega) (by omega)) (fun a k z1 z2 => z _ _ (by omega) (by omega))
theorem cWd.fn (h : cWd G q M) (hx : xFn tell q G G') (hq : 82 < q) : cWd G' q M := h.ge (fun j => hx _ _ (by omega) (fun y => by omega))
theorem cPr0.fn (h : cPr0 S G q tell L) (hx : xFn tell q G G') (hn : cNs G' q L') : cPr0 S G' q tell L' := by
  obtain ⟨a1, a2, a3, a4, a5, a6, a7⟩ := h
  have z : ∀ j, j ≠ 1 → G' 72 j = G 72 j := fun j p' => hx 72 j (by omega) (fun y => by have := a3 y.1; omega)
  exact ⟨by rw [z 3 (by decide)]; exact a1, a2, a3, by rw [z 4 (by decide)]; exact a4, a5, a6.ge (fun j p r s => hx q j (by omega) (fun y => by omega)), hn⟩
theorem cPr0.at {v : Int} (h : cPr0 S G q tell L) : cPr0 S (xup2 G 72 1 v) q tell L := by
  have hq := h.2.1
  exact h.ge (xup2_n (by omega)) (xup2_n (by omega)) (fun j _ _ _ => xup2_n (by omega)) (fun j => xup2_n (by omega))
theorem cWd.at {v : Int} (h : cWd G q M) (hq : 82 < q) : cWd (xup2 G 72 1 v) q M := h.ge (fun j => xup2_n (by omega))
theorem cPr0.ft (h : cPr0 S G q tell L) (hx : xFt u l G G') (hqu : q + 10 < u) : cPr0 S G' q tell L := by
  have hq := h.2.1
  exact h.ge (hx _ _ (by omega) (by omega) (by omega) (by omega) (by omega)) (hx _ _ (by omega) (by omega) (by omega) (by omega) (by omega)) (fun j _ _ _ => hx _ _ (by omega) (by omega) (by omega) (by omega) (by omega)) (fun j => hx _ _ (by omega) (by omega) (by omega) (by omega) (by omega))
theorem cWd.ft (h : cWd G q M) (hx : xFt u l G G') (hq : 82 < q) (hqu : q + 10 < u) : cWd G' q M := h.ge (fun j => hx _ _ (by omega) (by omega) (by omega) (by omega) (by omega))
theorem cMe.ft (h : cMe G M) (hx : xFt u l G G') (hu : 278 < u) : cMe G' M := h.ge (hx _ _ (by omega) (by omega) (by omega) (by omega) (by omega)) (fun a k z1 z2 => hx _ _ (by omega) (by omega) (by omega) (by omega) (by omega))
theorem xFn.u8 (hx : xFn tell q G G') (hqu : q + 10 < u) (hu : 278 < u) (a j : Nat) (h : u ≤ a) : G' a j = G a j := hx a j (by omega) (fun y => by omega)
theorem pPred_nat {r : Int × List Int × Nat} (h : pPred t L i = .inr r) (hL : L.length ≤ 16) : ∃ p' : Nat, r.1 = p' ∧ p' < 16 := by
  unfold pPred at h
  obtain ⟨x, _, h⟩ := pbind_inr h
  split at h
  · split at h
    · cases h
    · cases h
      exact ⟨L.length, rfl, by omega⟩
  · rename_i c
    cases h
    have : pIdx L x.1 = -1 ∨ 0 ≤ pIdx L x.1 ∧ pIdx L x.1 < L.length := by
      unfold pIdx
      cases e : L.findIdx? (fun y => decide (y = x.1)) with
      | none => exact .inl rfl
      | some p =>
        rw [List.findIdx?_eq_some_iff_getElem] at e
        obtain ⟨e1, _⟩ := e
        exact .inr ⟨Int.natCast_nonneg p, Int.ofNat_lt.mpr e1⟩
    exact ⟨(pIdx L x.1).toNat, by show pIdx L x.1 = _; omega, by omega⟩
/-- the NAME and the bracket ahead of the TERMS -/
theorem k_46_h {kd : Int} (hf : 20 < f) (h : cXr S G B n t N w u V K i) (hr : cPr0 S G q tell L) (hqu : q + 10 < u) (hl8 : G u 8 = (l : Int)) :
    pok (pbind (if tell = true then pPred t L i else pbind (pName t i) fun r => .inr (pIdx L r.1, L, r.2)) fun p => pbind (pNeed t 40 p.2.2) fun j => .inr (p.1, p.2.1, j)) (fun x => ∃ G', c46 f 72 kd (S, G, m) = some (.inl 0, cWr S G' m (x : Int)) ∧ xFn tell q G G')
      (fun p => ∃ G', c46 f 72 kd (S, G, m) = c46_41 f f 72 kd (kS t i : Int) p.1 (l : Int) 0 (S, G', m) ∧ xFn tell q G G' ∧ p.2.2 = i + 2 ∧ cXr S G' B n t N w u V K p.2.2 ∧ cPr0 S G' q tell p.2.1 ∧ (tell = true → ∃ p' : Nat, p.1 = p' ∧ p' < 16)) := by
  have hs := h.1.1
  have hp := h.1.2.1
  obtain ⟨k1, k2, k3, k4⟩ := h.1.tk h.2.1
  obtain ⟨u1, u2, ⟨us, _⟩, _⟩ := h.2.2.2.1
  have pp := k_pred (m := m) hf h.1 h.2.1 hr
  cases hX : (if tell = true then pPred t L i else pbind (pName t i) fun r => .inr (pIdx L r.1, L, r.2)) with
  | inl x =>
    rw [hX] at pp
    rcases pp with p1 | ⟨v, G1, p1, p2, p3⟩
    · refine ⟨G, ?_, fun _ _ _ _ => rfl⟩
      unfold c46
      simp (disch := omega) only [cq_gi, cq_gr, cq_a, cq_s, cq_p, cq_pr, cq_is, cq_ar, cq_ab, cq_ln, xq_nz, Option.bind_some, xup2_n, xup2_s, Int.toNat_natCast, Int.reduceToNat, if_pos, if_neg, true_and, and_true, and_self, eq_self, if_true, reduceIte, not_true_eq_false, not_false_eq_true, or_true, true_or, s72 hs, s65 hs, s68 hs, p72_0 hp, p65_4 hp, k2, k3, p1, cth]
    · refine ⟨G1, ?_, fun a j y _ => p3 a j y (fun z => nomatch z.1)⟩
      unfold c46
      simp (disch := omega) only [cq_gi, cq_gr, cq_a, cq_s, cq_p, cq_pr, cq_is, cq_ar, cq_ab, cq_ln, xq_nz, Option.bind_some, xup2_n, xup2_s, Int.toNat_natCast, Int.reduceToNat, if_pos, if_neg, true_and, and_true, and_self, eq_self, if_true, reduceIte, not_true_eq_false, not_false_eq_true, or_true, true_or, s72 hs, s65 hs, s68 hs, p72_0 hp, p65_4 hp, k2, k3, p1, p2, cth]
  | inr p =>
    rw [hX] at pp
    obtain ⟨v, G1, G2, p1, p2, p3, p4, p5, p6, p7⟩ := pp
    have h2 := h.fn p3 hr.2.2.1 hqu p6 p5
    have hr2 := hr.fn p3 p7
    have p38 := k_38 (f := f) (m := m) (c := 40) (by decide) h2.1 h2.2.1
    show pok (pbind (pNeed t 40 p.2.2) fun j => .inr (p.1, p.2.1, j)) _ _
    rw [p4]
    cases hn : pNeed t 40 (i + 1) with
    | inl x =>
      rw [hn] at p38
      have p38' : c38 f 72 40 (S, G2, m) = _ := p38
      refine ⟨G2, ?_, p3⟩
      unfold c46
      simp (disch := omega) only [cq_gi, cq_gr, cq_a, cq_s, cq_p, cq_pr, cq_is, cq_ar, cq_ab, cq_ln, xq_nz, Option.bind_some, xup2_n, xup2_s, Int.toNat_natCast, Int.reduceToNat, if_pos, if_neg, true_and, and_true, and_self, eq_self, if_true, reduceIte, not_true_eq_false, not_false_eq_true, or_true, true_or, s72 hs, s65 hs, s68 hs, p72_0 hp, p65_4 hp, k2, k3, p1, p2, p38', cth]
    | inr j =>
      rw [hn] at p38
      obtain ⟨a1, a2, a3, a4⟩ := p38
      have hlt := (h2.1.lt h2.2.1 (by omega)).1
      obtain ⟨b1, b2⟩ := h2.at a4 (by omega)
      have e8 : G2 u 8 = (l : Int) := by rw [p3.u8 hqu u2 u 8 (by omega)]; exact hl8
      have e5 : G2 72 5 = (u : Int) := h2.2.2.2.1.1
      refine ⟨_, ?_, fun a k y y' => by rw [xup2_n (by omega)]; exact p3 a k y y', by show j = i + 2; omega, b2, hr2.at, fun tt => ?_⟩
      · unfold c46
        simp (disch := omega) only [cq_gi, cq_gr, cq_a, cq_s, cq_p, cq_pr, cq_is, cq_ar, cq_ab, cq_ln, xq_nz, Option.bind_some, xup2_n, xup2_s, Int.toNat_natCast, Int.reduceToNat, if_pos, if_neg, true_and, and_true, and_self, eq_self, if_true, reduceIte, not_true_eq_false, not_false_eq_true, or_true, true_or, s72 hs, s65 hs, s68 hs, us, p72_0 hp, p65_4 hp, k2, k3, p1, p2, a1, cth, e5, e8]
      · rw [if_pos tt] at hX
        show ∃ p' : Nat, p.1 = p' ∧ p' < 16
        exact pPred_nat hX hr.2.2.2.2.2.2.2.1
theorem cLt.new {x : pLt} (k : Int) (hk : k = 1 ∨ k = 2) (h1 : x.1 = k) (h2 : G (u + 2) l = (if k = 1 then 15 else 9)) (h3 : G (u + 3) l = x.2.1) (h4 : G (u + 4) l = (x.2.2.2.1.length : Int)) (h5 : x.2.2.2.1.length ≤ 4) (h6 : cTs G u l x.2.2.2.1) : cLt G u K l x := .inl ⟨by omega, by rw [h1]; exact h2, h3, h4, h5, h6⟩
/-- one LITERAL more -/
theorem cLs.add {Ls : List pLt} {x : pLt} (h : cLs G u K Ls) (hl : Ls.length < 8) (h8 : G' u 8 = ((Ls.length + 1 : Nat) : Int)) (hx : cLt G' u (K ++ K') Ls.length x) (h0 : ∀ a l, l < Ls.length → u + 2 ≤ a → a ≤ u + 4 → G' a l = G a l) (h5 : ∀ j, j < 4 * Ls.length → G' (u + 5) j = G (u + 5) j ∧ G' (u + 6) j = G (u + 6) j) (h7 : ∀ j, j < 4 + 2 * Ls.length → 4 ≤ j → G' (u + 7) j = G (u + 7) j ∧ G' (u + 8) j = G (u + 8) j) : cLs G' u (K ++ K') (Ls ++ [x]) := by
  refine ⟨by rw [h8, len1], by rw [len1]; omega, fun l hl' => ?_⟩
  rw [len1] at hl'
  rw [getD_1]
  by_cases c : l = Ls.length
  · rw [if_pos c, c]; exact hx
  · rw [if_neg c]
    exact (h.2.2 l (by omega)).ge (fun a z1 z2 => h0 a l (by omega) z1 z2) (fun j hj => h5 j (by omega)) (fun j hj z => h7 j (by omega) z)
/-- readAtom() -/
theorem k_46 {k : Int} {s : pRs} {i0 : Nat} (hf : 20 < f) (hok : tOk t) (hvi : vIn t B n) (hk : k = 1 ∨ k = 2) (h : cRL S G B n t N w q u tell s K i0) (hl : s.2.2.1.length < 8) :
    pok (pAtom t tell k s) (fun x => ∃ G', c46 f 72 (if k = 1 then 15 else 9) (S, G, m) = some (.inl 0, cWr S G' m (x : Int)) ∧ xF2 tell q u G G')
      (fun s' => ∃ G', c46 f 72 (if k = 1 then 15 else 9) (S, G, m) = some (.inr (), (S, G', m)) ∧ xF2 tell q u G G' ∧ cRL S G' B n t N w q u tell s' K i0) := by
  obtain ⟨h1, h2, h3, h4, h5, h6, h7, h8⟩ := h
  have hu := h1.2.2.2.1.2.1
  have hd := k_46_h (m := m) (kd := if k = 1 then 15 else 9) hf h1 h2 h3 h6.1
  have e0 : pAtom t tell k s = pbind (pbind (if tell = true then pPred t s.1 s.2.2.2.2 else pbind (pName t s.2.2.2.2) fun r => .inr (pIdx s.1 r.1, s.1, r.2)) fun p => pbind (pNeed t 40 p.2.2) fun j => .inr (p.1, p.2.1, j)) (fun p => pbind (pbind (pTerm t s.2.1 p.2.2) fun r => pTerms t 3 ([] ++ [r.1]) r.2.1 r.2.2) fun q => pbind (pNeed t 41 q.2.2) fun i => .inr (p.2.1, q.2.1, s.2.2.1 ++ [(k, p.1, kS t s.2.2.2.2, q.1, [], [])], s.2.2.2.1 ++ [(p.1, kS t s.2.2.2.2, (q.1.length : Int), 4)], i)) := by
    unfold pAtom
    rw [pbind_as]
    congr 1
    funext p
    rw [pbind_as]
    congr 1
    funext j
    rw [pbind_r, pbind_as]
    rfl
  rw [e0]
  cases hX : (pbind (if tell = true then pPred t s.1 s.2.2.2.2 else pbind (pName t s.2.2.2.2) fun r => .inr (pIdx s.1 r.1, s.1, r.2)) fun p => pbind (pNeed t 40 p.2.2) fun j => .inr (p.1, p.2.1, j)) with
  | inl x =>
    rw [hX] at hd
    obtain ⟨G1, a1, a2⟩ := hd
    exact ⟨G1, a1, a2.f2⟩
  | inr p =>
    rw [hX] at hd
    obtain ⟨G1, a1, a2, a3, a4, a5, a6⟩ := hd
    have hT := k_terms (f := f) (m := m) (kd := if k = 1 then 15 else 9) (sp := (kS t s.2.2.2.2 : Int)) (p := p.1) (l := s.2.2.1.length) hf hok hvi hl 3 [] s.2.1 p.2.2 G1 f rfl (by omega) a4 (fun c hc => absurd hc (Nat.not_lt_zero c))
    show pok (pbind (pbind (pTerm t s.2.1 p.2.2) fun r => pTerms t 3 ([] ++ [r.1]) r.2.1 r.2.2) fun q => pbind (pNeed t 41 q.2.2) fun i => .inr (p.2.1, q.2.1, s.2.2.1 ++ [(k, p.1, kS t s.2.2.2.2, q.1, [], [])], s.2.2.2.1 ++ [(p.1, kS t s.2.2.2.2, (q.1.length : Int), 4)], i)) _ _
    cases hY : (pbind (pTerm t s.2.1 p.2.2) fun r => pTerms t 3 ([] ++ [r.1]) r.2.1 r.2.2) with
    | inl x =>
      rw [hY] at hT
      obtain ⟨G2, b1, b2⟩ := hT
      exact ⟨G2, by rw [a1]; exact b1, a2.f2.tr b2.f2⟩
    | inr r =>
      rw [hY] at hT
      obtain ⟨G2, b1, b2, b3, b4, b5, b6, b7⟩ := hT
      have hM2 := (h4.fn a2 h2.2.2.1).ft b2 hu
      have hr2 := a5.ft b2 h3
      have ht2 : tell = true → cWd G2 q s.2.2.2.1 ∧ mPos s.2.2.2.1 ∧ ∃ p' : Nat, p.1 = p' ∧ p' < 16 := fun z => ⟨((h5 z).1.fn a2 h2.2.1).ft b2 h2.2.1 h3, (h5 z).2, a6 z⟩
      have e8 : G2 u 8 = (s.2.2.1.length : Int) := by rw [b2 u 8 (by omega) (by omega) (by omega) (by omega) (by omega), a2.u8 h3 hu u 8 (by omega)]; exact h6.1
      have hN := b3.1.2.2.2.1.2
      have hrN := b3.2.2.1
      have hfin := k_46_149a (f := f) (m := m) (kd := if k = 1 then 15 else 9) (c := r.1.length) (sp := (kS t s.2.2.2.2 : Int)) ht2 b3 hr2 h3 hM2 e8 hl b6 (by omega) rfl
      show pok (pbind (pNeed t 41 r.2.2) fun i => .inr (p.2.1, r.2.1, s.2.2.1 ++ [(k, p.1, kS t s.2.2.2.2, r.1, [], [])], s.2.2.2.1 ++ [(p.1, kS t s.2.2.2.2, (r.1.length : Int), 4)], i)) _ _
      cases hn : pNeed t 41 r.2.2 with
      | inl x =>
        rw [hn] at hfin
        exact ⟨G2, by rw [a1]; exact b1.trans hfin, a2.f2.tr b2.f2⟩
      | inr j =>
        rw [hn] at hfin
        obtain ⟨G3, c1, c2, c3, c4, c5, c6, c7, c8⟩ := hfin
        refine ⟨G3, by rw [a1]; exact b1.trans c1, (a2.f2.tr b2.f2).tr c8.f2, c3, c4, h3, c5, fun z => ⟨c6 z, mPos_1 (h5 z).2 (.inr (by show (1 : Int) ≤ (r.1.length : Int); omega))⟩, ?_, ?_, ?_⟩
        · have zz : ∀ a j, u + 2 ≤ a → ¬ (a ≤ u + 4 ∧ j = s.2.2.1.length) → ¬ ((a = u + 5 ∨ a = u + 6) ∧ 4 * s.2.2.1.length ≤ j) → G3 a j = G a j := fun a j z1 z2 z3 => by
            rw [c8 a j (by omega) (by omega) (fun y => by omega) (by omega) (by omega), b2 a j (by omega) (by omega) (by omega) (by omega) z3, a2.u8 h3 hu a j (by omega)]
          have hts : cTs G3 u s.2.2.1.length r.1 := b5.ge (fun j hj => ⟨c8 _ _ (by omega) (by omega) (fun y => by omega) (by omega) (by omega), c8 _ _ (by omega) (by omega) (fun y => by omega) (by omega) (by omega)⟩) b7
          have := cLs.add (K' := []) (x := (k, p.1, kS t s.2.2.2.2, r.1, [], [])) h6 hl c7.2.2.2 (cLt.new k hk rfl c7.1 c7.2.1 c7.2.2.1 b7 hts) (fun a l z1 z2 z3 => zz a l (by omega) (by omega) (by omega)) (fun j hj => ⟨zz _ j (by omega) (by omega) (by omega), zz _ j (by omega) (by omega) (by omega)⟩) (fun j hj z => ⟨zz _ j (by omega) (by omega) (by omega), zz _ j (by omega) (by omega) (by omega)⟩)
          rw [List.append_nil] at this
          exact this
        · show 3 * (s.2.2.2.1 ++ [_]).length ≤ j
          rw [len1]; omega
        · show K.length + i0 ≤ j
          omega
end
