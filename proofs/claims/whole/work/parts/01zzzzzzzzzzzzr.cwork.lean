/-! THE CLASS: what Works holds: a program, and the rows as they are now; a rule's WAYS of a level -/
def cWk (S : Nat → Nat × Nat × Nat) (G : xG_) (q nx : Nat) (s : pPg) (xp cp : Nat → Nat) (R : Nat → List pRw) : Prop :=
  (cSs S ∧ cPs G ∧ G 93 1 = (q : Int) ∧ 226 < q ∧ cPgm S G q nx s ∧ qOc s) ∧
  ∀ p, p < s.1.length → G 94 p = ((xp p : Nat) : Int) ∧ (xp p = 108 + 6 * p ∨ 203 < xp p ∧ xp p + 2 < nx) ∧ cRw S G (xp p) (qN s p) (cp p) (R p) ∧ (R p).Pairwise rwLt ∧ (R p).length ≤ 100 ∧ (∀ r ∈ R p, ∀ x ∈ r.1, vOk x) ∧ ∀ r ∈ R p, 0 ≤ r.2 ∧ r.2 ≤ 1700
section
variable {f q nx r : Nat} {S : Nat → Nat × Nat × Nat} {G G' : xG_} {m : Nat × Nat} {s : pPg} {xp cp : Nat → Nat} {R : Nat → List pRw}
theorem cWk.ge (h : cWk S G q nx s xp cp R) (hp : cPs G') (h1 : G' 93 1 = G 93 1) (h94 : ∀ j, G' 94 j = G 94 j) (hm : ∀ p, p < 16 → ∀ b, 108 + 6 * p ≤ b → b ≤ 110 + 6 * p → ∀ j, G' b j = G b j) (hg : ∀ a j, 203 < a → G' a j = G a j) : cWk S G' q nx s xp cp R := by
  obtain ⟨⟨a1, a2, a3, a4, a5, a6⟩, b⟩ := h
  have hnp : s.1.length ≤ 16 := a5.2.2.1.2.1
  refine ⟨⟨a1, hp, by rw [h1]; exact a3, a4, a5.ge (Nat.le_refl _) (fun _ _ => rfl) (fun a j y _ => hg a j (by omega)), a6⟩, fun p hpn => ?_⟩
  obtain ⟨b1, b2, b3, b4⟩ := b p hpn
  have hz : ∀ c j, xp p ≤ c → c ≤ xp p + 2 → G' c j = G c j := fun c j y1 y2 => by
    rcases b2 with e | e
    · exact hm p (by omega) c (by omega) (by omega) j
    · exact hg c j (by omega)
  exact ⟨by rw [h94]; exact b1, b2, b3.ge (fun _ _ _ => rfl) (fun j => hz _ _ (by omega) (by omega)) (fun j => hz _ _ (by omega) (by omega)) (fun j => hz _ _ (by omega) (by omega)), b4⟩
/-- ITEMS of a rule -/
theorem ru_it {u : pRu} (hok : qOc s) (hu : u ∈ s.2.2.2.2.1) : wIe u.2.2.2.2.1.length u.2.2.2.1 u.2.2.1.2.1 ∧ (∀ E ∈ u.2.2.2.1, wC u.2.2.2.2.1.length E) ∧ qAs u.2.2.1 u.2.2.2.1 < 2 ^ 8 := by
  obtain ⟨w1, w2, w3, w4, w5, w6, w7, w8, w9⟩ := hok.1.1.2.2.2.2.2.2 u hu
  obtain ⟨d1, d2⟩ := hok.2.1 u hu
  have hI : ∀ E ∈ u.2.2.2.1, wC u.2.2.2.2.1.length E := fun E hE => by
    obtain ⟨k, hk, ek⟩ := List.getElem_of_mem hE
    have := w5.2 k hk
    rcases this with ⟨_, z⟩ | ⟨_, z⟩
    · have z' : u.2.2.2.1.getD k [] = [] := z
      rw [getD_e hk, ek] at z'
      rw [z']
      exact fun x hx => by cases hx
    · have z' : wEx u.2.2.2.2.1.length (u.2.2.2.1.getD k []) := z
      rw [getD_e hk, ek] at z'
      exact z'.1
  refine ⟨fun c hc hn => ⟨?_, ?_⟩, hI, Nat.or_lt_two_pow ?_ (qIm_8 w6 hI)⟩
  · rcases w5.2 c hc with ⟨z, _⟩ | ⟨_, z⟩
    · exact absurd z hn
    · exact z
  · rw [getD_e hc]; exact d1 _ (List.getElem_mem hc)
  · by_cases c : u.2.2.1.1 = 0 ∨ u.2.2.1.1 = 10
    · rw [if_pos c]; decide
    · rw [if_neg c]
      rcases w5.1 with z | ⟨_, _, _, z | z⟩
      · exact absurd (.inl z.1) c
      · exact absurd (.inr z.1) c
      · have z1 : 0 ≤ u.2.2.1.2.2 := z.2.1
        have z2 : u.2.2.1.2.2 < (u.2.2.2.2.1.length : Int) := z.2.2
        exact Nat.pow_lt_pow_right (by decide) (by omega)
theorem cWk.rule (h : cWk S G q nx s xp cp R) (hr : r < s.2.2.2.2.1.length) : ∃ u K pl, G (q + 7) r = ((u : Nat) : Int) ∧ G u 0 = (s.2.2.2.2.1.getD r dRu).1 ∧ cWX S G u K (s.2.2.2.2.1.getD r dRu).2.2.2.2.2 pl s.1.length (s.2.2.2.2.1.getD r dRu).2.2.2.2.1.length (qAs (s.2.2.2.2.1.getD r dRu).2.2.1 (s.2.2.2.2.1.getD r dRu).2.2.2.1) (qN s) xp cp R ∧ cIt G u K (s.2.2.2.2.1.getD r dRu).2.2.1 (s.2.2.2.2.1.getD r dRu).2.2.2.1 ∧ pl.Nodup ∧ ∃ dd, plB (s.2.2.2.2.1.getD r dRu).2.2.2.2.2 pl 0 = some dd := by
  obtain ⟨⟨a1, a2, a3, a4, a5, a6⟩, b⟩ := h
  obtain ⟨u, e7, _, _, ⟨K, c1, c2, ⟨pl, l1, l2, l3⟩, _⟩, e0, _⟩ := a5.2.2.2.2.2.1.2.2 r hr
  have hm : s.2.2.2.2.1.getD r dRu ∈ s.2.2.2.2.1 := by rw [getD_e hr]; exact List.getElem_mem hr
  obtain ⟨w1, w2, w3, w4, w5, w6, w7, w8, w9⟩ := a6.1.1.2.2.2.2.2.2 _ hm
  obtain ⟨i1, i2, i3⟩ := ru_it a6 hm
  obtain ⟨n1, n2⟩ := l3 (a6.1.2.1 _ hm).1
  have hlt : ∀ p ∈ pl, p < (s.2.2.2.2.1.getD r dRu).2.2.2.2.2.length := fun p hp => by
    obtain ⟨k, hk, ek⟩ := List.getElem_of_mem hp
    have := (l2 k (by omega)).2.1
    rw [getD_e hk, ek] at this
    exact this
  refine ⟨u, K, pl, e7, e0, ⟨⟨a1, a2, a5.2.2.1.2.1⟩, c1, ⟨w6, fun y hy => ⟨(w9 y hy).1, fun h3 => wAm_n a6.1 a6.2.2.1 hm hy h3⟩, (a6.2.1 _ hm).2⟩, ⟨l1, fun k hk => ?_⟩, fun p hp => ?_⟩, c2, n1, n2⟩
  · obtain ⟨z1, z2, z3⟩ := l2 k hk
    exact ⟨z1, z2, z3, plA_8 i3 (fun y hy => (w9 y hy).1.lv) w6 _ (fun p hp => hlt p (List.mem_of_mem_drop hp))⟩
  · obtain ⟨z1, z2, z3, z4, z5, z6, _⟩ := b p hp
    exact ⟨z1, by omega, z3, z4, z5, z6⟩
end
theorem qIm_in {j : Nat} : ∀ (I : List pCd) (c : Nat), (qVm (I.getD c [])).testBit j = true → (qIm I).testBit j = true
  | [], c, h => by
    have : (([] : List pCd).getD c []) = [] := by rw [List.getD_eq_getElem?_getD]; rfl
    rw [this] at h
    have h' : (0 : Nat).testBit j = true := h
    rw [Nat.zero_testBit] at h'
    cases h'
  | E :: I, 0, h => by
    show (qVm E ||| qIm I).testBit j = true
    rw [Nat.testBit_or, Bool.or_eq_true]
    exact .inl h
  | E :: I, c + 1, h => by
    show (qVm E ||| qIm I).testBit j = true
    rw [Nat.testBit_or, Bool.or_eq_true]
    exact .inr (qIm_in I c h)
theorem qMk_xa {I : List pCd} {g : Int} {nv : Nat} {v w : Nat → Int} (hw : ∀ k, k < I.length → (k : Int) ≠ g → wC nv (I.getD k [])) (h : ∀ j, (qIm I).testBit j = true → v j = w j) : ∀ k, k ≤ I.length → qMk I g v k = qMk I g w k
  | 0, _ => rfl
  | k + 1, hk => by
    show ((qMk I g v k).bind _) = ((qMk I g w k).bind _)
    rw [qMk_xa hw h k (by omega)]
    congr 1
    funext xs
    by_cases c : (k : Int) = g
    · rw [if_pos c, if_pos c]
    · rw [if_neg c, if_neg c, qEv_xt (hw k (by omega) c) (fun j hj => h j (qIm_in I k hj))]
section
variable {f u np nv a p n ld mb : Nat} {S : Nat → Nat × Nat × Nat} {G : xG_} {m : Nat × Nat} {K : pCd} {Ls : List pLt} {pl : List Nat} {qn xp cp : Nat → Nat} {R : Nat → List pRw} {I : List pCd} {g : Int × Int × Int} {cm lv : Int} {F : List pRw} {dd : Nat}
/-- openLevel(), derive(): one LITERAL leads -/
theorem k_lead (hf : 100003010 < f) (hp16 : p < 16) (hxp : ∀ q, q < np → ∀ b, xp q ≤ b → b ≤ xp q + 2 → ¬ (111 + 6 * p ≤ b ∧ b ≤ 113 + 6 * p)) (hX : cWX S G u K Ls pl np nv (qAs g I) qn xp cp R) (hI : cIt G u K g I) (hnI : I.length = n) (hwI : wIe nv I (-1)) (h3 : G u 3 = -1) (h0 : G u 0 = (p : Int)) (hat : pAtoms Ls ≤ 3) (hsf : sfe Ls nv) (hnd : pl.Nodup) (hpB : plB Ls pl 0 = some dd) (hmb : mb < 2 ^ 16) (hlv : 0 ≤ lv ∧ lv ≤ 2000) (hM : cRw S G (108 + 6 * p) n 100 (R p)) (hMs : (R p).Pairwise rwLt) (hF : cRw S G (111 + 6 * p) n 100 F) (hFs : F.Pairwise rwLt) (hF0 : ∀ r ∈ F, r.2 = 0) (hcm : G 93 15 = cm) (hc0 : 0 ≤ cm) (hc1 : cm ≤ 1000000) :
    ∃ G1 v G2, c153 f 93 u (mb : Int) lv (ld : Int) (S, G, m) = some (S, G1, m) ∧ G1 u 3 = -1 ∧ c155 f 93 u (S, G1, m) = some (v, (S, G2, m)) ∧ (∀ b j, ¬ (83 ≤ b ∧ b ≤ 92) → ¬ (99 ≤ b ∧ b ≤ 105) → ¬ (b = 93 ∧ j = 15) → ¬ (111 + 6 * p ≤ b ∧ b ≤ 113 + 6 * p) → G2 b j = G b j) ∧ cPs G2 ∧ gvO S G2 p n (R p) F cm (fun xs => ∃ w, (∀ l, l < Ls.length → litO Ls R (lvLo Ls mb lv ld) (lvHi Ls mb lv ld) l w) ∧ qMk I (-1) w I.length = some xs) v := by
  have hs := hX.1.1
  have hp := hX.1.2.1
  have hu : 278 < u := hX.2.1.2.2.2.2.1
  have hw16 : ∀ l, l < Ls.length → (Ls.getD l dLt).1 = 1 → 0 ≤ (Ls.getD l dLt).2.1 ∧ (Ls.getD l dLt).2.1 < 16 := fun l hl h1 => by
    obtain ⟨y1, y2⟩ := hX.2.2.1.2.1 _ (lt_in hl)
    have := (y2 (by omega)).1
    have := hX.1.2.2
    rcases y1 with ⟨_, _, z, _⟩ | ⟨z, _⟩ <;> omega
  obtain ⟨G1, e1, e2, e3, e4, e5, e6, e7, e8, e9, e10⟩ := k_153 (f := f) (m := m) (ld := ld) (lv := lv) (by omega) hs hp hX.2.1 hmb hw16 hlv
  have f1 : ∀ b j, ¬ (83 ≤ b ∧ b ≤ 92) → G1 b j = G b j := fun b j y => e2 b j (by omega) (by omega) (by omega) (by omega)
  have hE : cWE S G1 u K Ls pl 94 16 np nv (qAs g I) 1 qn xp cp R (lvLo Ls mb lv ld) (lvHi Ls mb lv ld) := hX.we e2 e3 e4 e5 e6 e10
  obtain ⟨V, k, Bf, w1, w2, w3, w4, w5, _, w6⟩ := ways_start hE e7 e8 (b := 0) (vl := fun _ => 0) ⟨e9, by decide, fun k hk => by rw [Nat.zero_testBit] at hk; cases hk⟩ hat hsf hnd hpB
  have w7 := w6 (by decide)
  obtain ⟨v, G2, i1, i2, i3, i4⟩ := k_155l (f := f) (m := m) (g := g) hf hp16 (fun q hq => ⟨by have := (hX.2.2.2.2 q hq).2.1; omega, hxp q hq⟩) hI.2.1 hwI w4 hMs V k 0 f G1 F cm hE w3 w1 (by omega) (by omega) (hI.fx hu (fun b j y => f1 b j (by omega))) (by rw [f1 _ _ (by omega)]; exact h3) (by rw [f1 _ _ (by omega)]; exact h0) (by rw [hnI]; exact hM.ge (fun _ _ _ => rfl) (fun j => f1 _ _ (by omega)) (fun j => f1 _ _ (by omega)) (fun j => f1 _ _ (by omega))) (by rw [hnI]; exact hF.ge (fun _ _ _ => rfl) (fun j => f1 _ _ (by omega)) (fun j => f1 _ _ (by omega)) (fun j => f1 _ _ (by omega))) hFs hF0 (by rw [f1 _ _ (by omega)]; exact hcm) hc0 (by omega)
  refine ⟨G1, v, G2, e1, by rw [f1 _ _ (by omega)]; exact h3, i1, fun b j y1 y2 y3 y4 => by rw [i2 b j y1 y3 (by omega) y4, f1 b j y1], i3, ?_⟩
  rw [hnI] at i4
  have iff : ∀ xs, (∃ v ∈ V, qMk I (-1) v n = some xs) ↔ ∃ w, (∀ l, l < Ls.length → litO Ls R (lvLo Ls mb lv ld) (lvHi Ls mb lv ld) l w) ∧ qMk I (-1) w I.length = some xs := fun xs => by
    rw [hnI]
    constructor
    · rintro ⟨v, v1, v2⟩
      exact ⟨v, (w5 v v1).2, v2⟩
    · rintro ⟨w, x1, x2⟩
      obtain ⟨v, v1, v2⟩ := w7 w (fun j hj => by rw [Nat.zero_testBit] at hj; cases hj) x1
      refine ⟨v, v1, ?_⟩
      rw [qMk_xa (nv := nv) (w := w) (fun k hk hn => (hwI k hk hn).1.1) (fun j hj => ?_) n (by omega)]
      · exact x2
      · have hja : (qAs g I).testBit j = true := by
          unfold qAs
          rw [Nat.testBit_or, Bool.or_eq_true]
          exact .inr hj
        by_cases cb : Bf.testBit j = true
        · exact v2 j cb hja
        · exfalso
          have : j < nv := by
            have key : ∀ (I : List pCd), (qIm I).testBit j = true → ∃ E ∈ I, (qVm E).testBit j = true := by
              intro I
              induction I with
              | nil => intro h; have h' : (0 : Nat).testBit j = true := h; rw [Nat.zero_testBit] at h'; cases h'
              | cons E I ih =>
                intro h
                have h' : (qVm E ||| qIm I).testBit j = true := h
                rw [Nat.testBit_or, Bool.or_eq_true] at h'
                rcases h' with h' | h'
                · exact ⟨E, List.mem_cons_self, h'⟩
                · obtain ⟨E', a1, a2⟩ := ih h'
                  exact ⟨E', List.mem_cons_of_mem _ a1, a2⟩
            obtain ⟨E, a1, a2⟩ := key I hj
            obtain ⟨c, hc, ec⟩ := List.getElem_of_mem a1
            have hwc := (hwI c hc (by omega)).1.1
            rw [getD_e hc, ec] at hwc
            exact qVm_in hwc j a2
          exact cb (w4 j this)
  rcases i4 with ⟨j1, F', j2, j3, j4, j5, j6, j7⟩ | ⟨j1, W, j2, j3, j4⟩
  · exact .inl ⟨j1, F', j2, j3, j4, j5, j6, fun xs => (j7 xs).trans (or_congr Iff.rfl (and_congr Iff.rfl (iff xs)))⟩
  · exact .inr ⟨j1, W, j2, j3, fun xs hx => (j4 xs hx).imp id (fun q => ⟨q.1, (iff xs).mp q.2⟩)⟩
end
