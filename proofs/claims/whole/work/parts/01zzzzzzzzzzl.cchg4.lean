/-! THE CLASS: readChanges() whole -/
section
variable {f n N i j q x : Nat} {S : Nat → Nat × Nat × Nat} {G G1 G2 G' : xG_} {m : Nat × Nat} {B : Nat → Int} {t : tStr} {L : List Int} {cs : List pCh} {sg : Int} {r8 : Nat → Int → xT_ → Option ((Nat ⊕ Unit) × xT_)}
theorem k_71 (hf : 20 < f) (hok : tOk t) (hx : x < 1024) (hl : cs.length = x) (hk : kK t i ≠ 0 ∧ kK t i ≠ 5) (h : cCe S G B n t N q L i) (hC : cCs G L cs) :
    pok (pC1 t (i + 1)) (fun w => ∃ G', c32_71 r8 f 72 (x : Int) sg (S, G, m) = some (.inl 0, cWr S G' m (w : Int)) ∧ xFw G G')
      (fun r => ∃ G', c32_71 r8 f 72 (x : Int) sg (S, G, m) = r8 72 ((x + 1 : Nat) : Int) (S, G', m) ∧ xFw G G' ∧ i + 6 ≤ r.2.2 ∧ cCe S G' B n t N q L r.2.2 ∧ cCs G' L (cs ++ [(sg, r.1, kS t (i + 1), r.2.1)])) := by
  have hs := h.1.1
  have hlt := (h.1.lt h.2.1 hk.1).1
  obtain ⟨d1, d2⟩ := k_37 (f := f) (m := m) h.1 h.2.1 hk.2
  have h1 := h.fr .a1 d2 (by omega)
  have hC1 := hC.fr (G' := xup2 G 72 1 ((min (i + 1) N : Nat) : Int)) (xup2_n (by omega)) (fun a k _ _ => xup2_n (by omega)) (fun k _ => xup2_n (by omega))
  obtain ⟨k1, k2, k3, k4⟩ := h1.1.tk h1.2.1
  have p47 := k_47 (f := f) (m := m) h1.1 h1.2.1
  have e1 : ∀ {Ri : (Nat ⊕ Int) × xT_}, c47 f 72 (S, xup2 G 72 1 ((min (i + 1) N : Nat) : Int), m) = some Ri → c32_71 r8 f 72 (x : Int) sg (S, G, m) = c32_71t r8 f 72 (x : Int) sg (kS t (i + 1) : Int) Ri := fun e => (st_71a hs d1).trans (st_71b hs h1.1.2.1 k4 k2 k3 e)
  unfold pC1
  cases hn : pName t (i + 1) with
  | inl w =>
    rw [hn] at p47
    exact ⟨_, by rw [e1 p47]; rfl, .a1⟩
  | inr y =>
    rw [hn] at p47
    obtain ⟨b1, b2, b3, b4⟩ := p47
    have hlt1 := (h1.1.lt h1.2.1 (by omega)).1
    have h2 := h1.fr .a1 b4 (by omega)
    have hC2 := hC1.fr (G' := xup2 (xup2 G 72 1 ((min (i + 1) N : Nat) : Int)) 72 1 ((min y.2 N : Nat) : Int)) (xup2_n (by omega)) (fun a k _ _ => xup2_n (by omega)) (fun k _ => xup2_n (by omega))
    have hr2 := h2.2.2.2
    have e48 := (k_48 (f := f) (m := m) (x := y.1) (y := (kS t (i + 1) : Int)) hf hs hr2.1 hr2.2.1 hr2.2.2.2.1 hr2.2.2.2.2.1 hr2.2.2.2.2.2.1 hr2.2.2.2.2.2.2).2.2 (fun z => by cases z.2)
    have e2 := (e1 b1).trans (st_71c hs e48)
    have p38 := k_38 (f := f) (m := m) (c := 40) (by decide) h2.1 h2.2.1
    show pok (pbind (pNeed t 40 y.2) _) _ _
    cases hn2 : pNeed t 40 y.2 with
    | inl w =>
      rw [hn2] at p38
      exact ⟨_, by rw [e2, st_71d hs p38]; rfl, xFw.a1.tr .a1⟩
    | inr j =>
      rw [hn2] at p38
      obtain ⟨g1, g2, g3, g4⟩ := p38
      have hlt2 := (h2.1.lt h2.2.1 (by omega)).1
      have h3 := h2.fr .a1 g4 (by omega)
      have hC3 := hC2.fr (G' := xup2 (xup2 (xup2 G 72 1 ((min (i + 1) N : Nat) : Int)) 72 1 ((min y.2 N : Nat) : Int)) 72 1 ((min j N : Nat) : Int)) (xup2_n (by omega)) (fun a k _ _ => xup2_n (by omega)) (fun k _ => xup2_n (by omega))
      have e3 := e2.trans (st_71d hs g1)
      have p := k_110 (f := f) (m := m) (r8 := r8) (sg := sg) (nm := y.1) (sp := kS t (i + 1)) hok hx hl rfl 3 0 f j [] _ rfl rfl (by omega) h3 hC3 (fun k hk => absurd hk (Nat.not_lt_zero k))
      have e4 : c32_71 r8 f 72 (x : Int) sg (S, G, m) = c32_110 r8 f f 72 (x : Int) sg (kS t (i + 1) : Int) (pIdx L y.1) ((0 : Nat) : Int) (S, xup2 (xup2 (xup2 G 72 1 ((min (i + 1) N : Nat) : Int)) 72 1 ((min y.2 N : Nat) : Int)) 72 1 ((min j N : Nat) : Int), m) := e3
      rw [e4]
      show pok (pbind (pCv t 3 [] j) _) _ _
      cases hn3 : pCv t 3 [] j with
      | inl w =>
        rw [hn3] at p
        obtain ⟨G3, q1, q2⟩ := p
        exact ⟨G3, q1, ((xFw.a1.tr .a1).tr .a1).tr q2⟩
      | inr r =>
        rw [hn3] at p
        obtain ⟨G3, q1, q2, q3, q4, q5⟩ := p
        exact ⟨G3, q1, ((xFw.a1.tr .a1).tr .a1).tr q2, by show i + 6 ≤ r.2; omega, q4, q5⟩
theorem k_32l (hf : 3010 < f) (hok : tOk t) : ∀ (k x fu i : Nat) (cs : List pCh) (G : xG_), cs.length = x → 6 * x ≤ i → N < k + i → N < fu + i → cCe S G B n t N q L i → cCs G L cs →
    pok (pCs t k cs i) (fun w => ∃ G', c32_8 f fu 72 (x : Int) (S, G, m) = some (.inl 0, cWr S G' m (w : Int)) ∧ xFw G G')
      (fun r => ∃ G', c32_8 f fu 72 (x : Int) (S, G, m) = some (.inr (), (S, G', m)) ∧ xFw G G' ∧ cCs G' L r ∧ r.length ≤ 500) := by
  intro k
  induction k with
  | zero =>
    intro x fu i cs G h1 h2 h3 h4 h hC
    have := h.2.2.1
    omega
  | succ k ih =>
    intro x fu i cs G h1 h2 h3 h4 h hC
    have hiN := h.2.2.1
    have hN := h.1.2.2.2.1.2
    obtain ⟨fu, rfl⟩ : ∃ t, fu = t + 1 := ⟨fu - 1, by omega⟩
    have hs := h.1.1
    obtain ⟨k1, k2, k3, k4⟩ := h.1.tk h.2.1
    have e0 : c32_8 f (fu + 1) 72 (x : Int) (S, G, m) = _ := st_8 (r8 := c32_8 f fu) (f := f) (m := m) (x := x) hs h.1.2.1 (by omega) k4 k1 k2 k3
    unfold pCs
    by_cases c0 : kK t i = 0
    · rw [if_pos c0] at e0 ⊢
      exact ⟨G, e0, .id, hC, by omega⟩
    · rw [if_neg c0] at e0 ⊢
      by_cases c1 : kK t i = 43 ∨ kK t i = 45
      · rw [if_pos c1] at e0
        rw [if_neg (by omega)]
        have p := k_71 (f := f) (m := m) (r8 := c32_8 f fu) (sg := kK t i) (by omega) hok (by omega) h1 ⟨c0, by omega⟩ h hC
        rw [e0]
        cases hn : pC1 t (i + 1) with
        | inl w =>
          rw [hn] at p
          exact p
        | inr r =>
          rw [hn] at p
          obtain ⟨G3, q1, q2, q3, q4, q5⟩ := p
          rw [q1]
          have q := ih (x + 1) fu r.2.2 (cs ++ [(kK t i, r.1, kS t (i + 1), r.2.1)]) G3 (by rw [len1, h1]) (by omega) (by omega) (by omega) q4 q5
          show pok (pCs t k (cs ++ [(kK t i, r.1, kS t (i + 1), r.2.1)]) r.2.2) _ _
          cases hn2 : pCs t k (cs ++ [(kK t i, r.1, kS t (i + 1), r.2.1)]) r.2.2 with
          | inl w =>
            rw [hn2] at q
            obtain ⟨G4, w1, w2⟩ := q
            exact ⟨G4, w1, q2.tr w2⟩
          | inr z =>
            rw [hn2] at q
            obtain ⟨G4, w1, w2, w3, w4⟩ := q
            exact ⟨G4, w1, q2.tr w2, w3, w4⟩
      · rw [if_neg c1] at e0
        rw [if_pos (by omega)]
        exact ⟨G, e0, .id⟩
theorem k_32 {K : Nat} (hf : 3010 < f) (hok : tOk t) (hK : N < K) (hE : cEv S G B n t N N) (hq : 82 < q) (h1 : cPgS S q) (h2 : cPgP G q) (h3 : cNs G q L) :
    pok (pCs t K [] 0) (fun w => ∃ G', c32 f 72 q (S, G, m) = some (.inl 0, cWr S G' m (w : Int)) ∧ xFw (bUp G q 0) G')
      (fun r => ∃ G', c32 f 72 q (S, G, m) = some (.inr (), (S, G', m)) ∧ xFw (bUp G q 0) G' ∧ cCs G' L r ∧ r.length ≤ 500) := by
  have hs := hE.1
  have hN := hE.2.2.2.1.2
  obtain ⟨b1, b2, b3, b4, b5⟩ := bUp_s (G := G) (q := q) (b := 0)
  have z : ∀ a j, a ≠ 72 → bUp G q 0 a j = G a j := fun a j h => bUp_n a j (fun y => h y.1)
  have e : c32 f 72 q (S, G, m) = c32_8 f f 72 ((0 : Nat) : Int) (S, bUp G q 0, m) := by
    unfold c32
    simp (disch := omega) only [cq_gi, cq_gr, cq_a, cq_s, cq_p, cq_pr, cq_is, cq_ar, cq_ab, cq_ln, xq_nz, Option.bind_some, xup2_n, xup2_s, Int.toNat_natCast, Int.reduceToNat, if_pos, if_neg, true_and, and_true, and_self, eq_self, if_true, reduceIte, not_true_eq_false, not_false_eq_true, or_true, true_or, s72 hs, k_34 hs (.inl rfl)]
    rfl
  rw [e]
  refine k_32l hf hok K 0 f 0 [] (bUp G q 0) rfl (Nat.zero_le _) (by omega) (by omega) ⟨bUp_e hE, ⟨by rw [b3, Nat.zero_min]; rfl, .inr rfl⟩, Nat.zero_le _, b1, hq, (fun y => by cases y), b2, h1, h2.ge (fun j _ _ _ => z q j (by omega)), h3.ge (z _ _ (by omega)) (fun j => z _ _ (by omega))⟩ ⟨b5, fun k hk => absurd hk (Nat.not_lt_zero k)⟩
end
