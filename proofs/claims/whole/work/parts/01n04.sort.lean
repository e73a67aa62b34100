section
/-! Mentions stand in the order of their places -/
def wSo (M : List pMn) (b : Nat) : Prop := M.Pairwise (fun x y => x.2.1 < y.2.1) ∧ ∀ m ∈ M, m.2.1 < b
theorem wSo.add {M : List pMn} {b c : Nat} {m : pMn} (h : wSo M b) (h1 : b ≤ m.2.1) (h2 : m.2.1 < c) : wSo (M ++ [m]) c := by
  refine ⟨List.pairwise_append.mpr ⟨h.1, by simp, fun x hx y hy => ?_⟩, fun x hx => ?_⟩
  · rw [List.mem_singleton.mp hy]
    have := h.2 x hx
    omega
  · rcases List.mem_append.mp hx with q | q
    · have := h.2 x q
      omega
    · rw [List.mem_singleton.mp q]; exact h2
theorem wSo.mo {M : List pMn} {b c : Nat} (h : wSo M b) (hb : b ≤ c) : wSo M c := ⟨h.1, fun m hm => by have := h.2 m hm; omega⟩
section
variable {B : Nat → Int} {n F : Nat} {lm tell : Bool}
theorem pAtom_so (hB : tTx B n) {k : Int} {s s' : pRs} (h : pAtom (tstr B n lm) tell k s = .inr s') (hs : wSo s.2.2.2.1 (kS (tstr B n lm) s.2.2.2.2)) : wSo s'.2.2.2.1 (kS (tstr B n lm) s'.2.2.2.2) := by
  have a := pAtom_pos h
  have q := kS_to (lm := lm) hB (show s.2.2.2.2 < s'.2.2.2.2 by omega) (by rw [a.2.1]; decide)
  unfold pAtom at h
  obtain ⟨p, h1, h2⟩ := pbind_inr h
  obtain ⟨j, h3, h4⟩ := pbind_inr h2
  obtain ⟨y, h5, h6⟩ := pbind_inr h4
  obtain ⟨z, h7, h8⟩ := pbind_inr h6
  obtain ⟨u, h9, h10⟩ := pbind_inr h8
  cases h10
  simp only at q a ⊢
  exact hs.add (Nat.le_refl _) (by show kS (tstr B n lm) s.2.2.2.2 < _; omega)
theorem pCmp_so (hB : tTx B n) {s s' : pRs} (h : pCmp (tstr B n lm) F s = .inr s') (hs : wSo s.2.2.2.1 (kS (tstr B n lm) s.2.2.2.2)) : wSo s'.2.2.2.1 (kS (tstr B n lm) s'.2.2.2.2) := by
  have h2 := pCmp_le h
  have h3 := kS_mo (lm := lm) hB (Nat.le_of_lt h2.2.2.2.2)
  unfold pCmp at h
  obtain ⟨a, g1, g2⟩ := pbind_inr h
  split at g2
  · obtain ⟨b, g3, g4⟩ := pbind_inr g2
    cases g4
    exact hs.mo h3
  · cases g2
theorem pLit_so (hB : tTx B n) {s s' : pRs} (h : pLit (tstr B n lm) tell F s = .inr s') (hs : wSo s.2.2.2.1 (kS (tstr B n lm) s.2.2.2.2)) : wSo s'.2.2.2.1 (kS (tstr B n lm) s'.2.2.2.2) := by
  unfold pLit at h
  split at h
  · cases h
  split at h
  · exact pAtom_so hB h (hs.mo (kS_mo hB (Nat.le_succ _)))
  split at h
  · split at h
    · cases h
    split at h
    · split at h
      · cases h
      · exact pAtom_so hB h hs
    split at h
    · cases h
    · exact pCmp_so hB h hs
  · exact pCmp_so hB h hs
theorem pLits_so (hB : tTx B n) : ∀ {k : Nat} {s s' : pRs}, pLits (tstr B n lm) tell F k s = .inr s' → wSo s.2.2.2.1 (kS (tstr B n lm) s.2.2.2.2) → wSo s'.2.2.2.1 (kS (tstr B n lm) s'.2.2.2.2) := by
  intro k
  induction k with
  | zero => intro s s' h hs; cases h; exact hs
  | succ k ih =>
    intro s s' h hs
    unfold pLits at h
    split at h
    · obtain ⟨u, g1, g2⟩ := pbind_inr h
      exact ih g2 (pLit_so hB g1 (hs.mo (kS_mo hB (Nat.le_succ _))))
    · cases h; exact hs
theorem pRule_so (hB : tTx B n) {s s' : pPg} (h : pRule (tstr B n lm) F s = .inr s') (hs : wSo s.2.2.2.1 (kS (tstr B n lm) s.2.2.2.2.2)) : wSo s'.2.2.2.1 (kS (tstr B n lm) s'.2.2.2.2.2) := by
  have e : s = (s.1, s.2.1, s.2.2.1, s.2.2.2.1, s.2.2.2.2.1, s.2.2.2.2.2) := rfl
  rw [e, pRule_e] at h
  split at h
  · cases h
  · obtain ⟨p, h1, h⟩ := pbind_inr h
    obtain ⟨z, h2, h⟩ := pbind_inr h
    obtain ⟨j, h3, h2⟩ := pbind_inr h2
    obtain ⟨a, h4, h2⟩ := pbind_inr h2
    unfold pRest pBody at h2
    obtain ⟨b, h5, h2⟩ := pbind_inr h2
    obtain ⟨j3, h6, h2⟩ := pbind_inr h2
    obtain ⟨z2, h7, h2⟩ := pbind_inr h2
    obtain ⟨l, h8, h7⟩ := pbind_inr h7
    obtain ⟨j4, h9, h7⟩ := pbind_inr h7
    have a1 := pPred_le h1
    have a3 := pNeed_le h3
    have a4 := pItem_le h4
    have a6 := pNeed_le h6
    have a9 := pNeed_le h9
    have a5 : ∀ (k : Nat) (x y : pIt), pItems (tstr B n lm) F k x = .inr y → x.2.2.2 ≤ y.2.2.2 := by
      intro k
      induction k with
      | zero => intro x y hh; cases hh; exact Nat.le_refl _
      | succ k ih =>
        intro x y hh
        unfold pItems at hh
        split at hh
        · obtain ⟨u, g1, g2⟩ := pbind_inr hh
          have := pItem_le g1
          have := ih _ _ g2
          simp only at *
          omega
        · cases hh; exact Nat.le_refl _
    have a5' := a5 _ _ _ h5
    simp only [List.length_nil] at a4
    have q3 := kS_to (lm := lm) hB (show s.2.2.2.2.2 < j3 by omega) (by rw [a6.1, Nat.add_sub_cancel, a6.2]; decide)
    have s0 : wSo (s.2.2.2.1 ++ [(p.1, kS (tstr B n lm) s.2.2.2.2.2, (b.2.2.1.length : Int), (3 : Int))]) (kS (tstr B n lm) j3) := hs.add (Nat.le_refl _) (by show kS (tstr B n lm) s.2.2.2.2.2 < _; omega)
    have key : wSo l.2.2.2.1 (kS (tstr B n lm) l.2.2.2.2) := by
      split at h8
      · obtain ⟨u, g1, g2⟩ := pbind_inr h8
        exact pLits_so hB g2 (pLit_so hB g1 (s0.mo (kS_mo hB (Nat.le_succ _))))
      · cases h8
        exact s0
    cases h7
    cases h2
    cases h
    simp only
    exact key.mo (by rw [a9.1]; exact kS_mo hB (Nat.le_succ _))
theorem pProg_so (hB : tTx B n) : ∀ {k : Nat} {s s' : pPg}, pProg (tstr B n lm) F k s = .inr s' → wSo s.2.2.2.1 (kS (tstr B n lm) s.2.2.2.2.2) → wSo s'.2.2.2.1 (kS (tstr B n lm) s'.2.2.2.2.2) := by
  intro k
  induction k with
  | zero => intro s s' h; cases h
  | succ k ih =>
    intro s s' h hs
    unfold pProg at h
    split at h
    · cases h; exact hs
    · obtain ⟨u, g1, g2⟩ := pbind_inr h
      refine ih g2 ?_
      split at g1
      · have lt := (pPg_i (F := F)).1 g1
        unfold pInput at g1
        obtain ⟨p, h1, g1⟩ := pbind_inr g1
        obtain ⟨j, h2, g1⟩ := pbind_inr g1
        obtain ⟨m, h3, g1⟩ := pbind_inr g1
        obtain ⟨q, h4, g1⟩ := pbind_inr g1
        obtain ⟨j2, h5, g1⟩ := pbind_inr g1
        have a1 := pPred_le h1
        have a2 := pNeed_le h2
        have a5 := pNeed_le h5
        have a3 : j < m.2 := by
          unfold pNum at h3
          split at h3
          · cases h3; simp only; omega
          · cases h3
        have a4 : m.2 ≤ q.2 := by
          split at h4
          · unfold pNum at h4
            split at h4
            · cases h4; simp only; omega
            · cases h4
          · cases h4; simp only; omega
        have q2 := kS_to (lm := lm) hB (show s.2.2.2.2.2 + 1 < j2 by omega) (by rw [a5.1, Nat.add_sub_cancel, a5.2]; decide)
        cases g1
        exact hs.add (kS_mo hB (Nat.le_succ _)) (by show kS (tstr B n lm) (s.2.2.2.2.2 + 1) < kS (tstr B n lm) j2; omega)
      · split at g1
        · unfold pOutput at g1
          obtain ⟨p, h1, g1⟩ := pbind_inr g1
          obtain ⟨j, h2, g1⟩ := pbind_inr g1
          have a1 := pPred_le h1
          have a2 := pNeed_le h2
          have q2 := kS_to (lm := lm) hB (show s.2.2.2.2.2 + 1 < j by omega) (by rw [a2.1, Nat.add_sub_cancel, a2.2]; decide)
          cases g1
          exact hs.add (kS_mo hB (Nat.le_succ _)) (by show kS (tstr B n lm) (s.2.2.2.2.2 + 1) < kS (tstr B n lm) j; omega)
        · exact pRule_so hB g1 hs
theorem pProg_sorted (hB : tTx B n) {k : Nat} {s : pPg} (h : pProg (tstr B n lm) F k ([], [], [], [], [], 0) = .inr s) : s.2.2.2.1.Pairwise (fun x y => x.2.1 < y.2.1) := (pProg_so hB h ⟨by simp, by simp⟩).1
end
end
section
/-! FAULTS of the reference: the first kind, of this the first place -/
def rF (G : xG_) (S : Int → Int → Prop) : Prop := (G 0 26 = 0 ∧ ∀ k a, ¬ S k a) ∨ (G 0 26 ≠ 0 ∧ S (G 0 26) (G 0 27) ∧ ∀ k a, S k a → G 0 26 < k ∨ G 0 26 = k ∧ G 0 27 ≤ a)
def xf26 (G G' : xG_) : Prop := ∀ x j, ¬ (x = 0 ∧ (j = 26 ∨ j = 27)) → G' x j = G x j
theorem xf26.rf (G : xG_) : xf26 G G := fun _ _ _ => rfl
theorem xf26.tr {G G1 G2 : xG_} (h : xf26 G G1) (h1 : xf26 G1 G2) : xf26 G G2 := fun x j hj => by rw [h1 x j hj, h x j hj]
theorem l_faulty {f : Nat} {G : xG_} {S : Int → Int → Prop} {k a : Int} (hk : k ≠ 0) (h : rF G S) : ∃ G', g251 f k a G = some G' ∧ rF G' (fun k' a' => S k' a' ∨ k' = k ∧ a' = a) ∧ xf26 G G' := by
  have e26 : xup2 (xup2 G 0 26 k) 0 27 a 0 26 = k := by rw [xup2_n (by omega), xup2_s]
  have e27 : xup2 (xup2 G 0 26 k) 0 27 a 0 27 = a := xup2_s _ _ _ _
  have fr : xf26 G (xup2 (xup2 G 0 26 k) 0 27 a) := fun x j hj => by rw [xup2_n (by omega), xup2_n (by omega)]
  unfold g251 g251_31 g251_32
  rcases h with ⟨h0, hn⟩ | ⟨h0, hs, hm⟩
  · rw [if_pos h0]
    refine ⟨_, rfl, .inr ⟨by rw [e26]; exact hk, by rw [e26, e27]; exact .inr ⟨rfl, rfl⟩, fun k' a' h => ?_⟩, fr⟩
    rcases h with q | q
    · exact absurd q (hn _ _)
    · rw [e26, e27]
      omega
  · rw [if_neg h0]
    by_cases c1 : G 0 26 < k
    · rw [if_pos c1]
      refine ⟨G, rfl, .inr ⟨h0, .inl hs, fun k' a' h => ?_⟩, .rf _⟩
      rcases h with q | q
      · exact hm _ _ q
      · omega
    · rw [if_neg c1]
      by_cases c2 : G 0 26 = k
      · rw [if_neg (fun q => q c2)]
        by_cases c3 : a < G 0 27
        · rw [if_pos c3]
          refine ⟨_, rfl, .inr ⟨by rw [e26]; exact hk, by rw [e26, e27]; exact .inr ⟨rfl, rfl⟩, fun k' a' h => ?_⟩, fr⟩
          rw [e26, e27]
          rcases h with q | q
          · have := hm _ _ q
            omega
          · omega
        · rw [if_neg c3]
          refine ⟨G, rfl, .inr ⟨h0, .inl hs, fun k' a' h => ?_⟩, .rf _⟩
          rcases h with q | q
          · exact hm _ _ q
          · omega
      · rw [if_pos c2]
        refine ⟨_, rfl, .inr ⟨by rw [e26]; exact hk, by rw [e26, e27]; exact .inr ⟨rfl, rfl⟩, fun k' a' h => ?_⟩, fr⟩
        rw [e26, e27]
        rcases h with q | q
        · have := hm _ _ q
          omega
        · omega
theorem rF.iff {G : xG_} {S S' : Int → Int → Prop} (h : rF G S) (he : ∀ k a, S k a ↔ S' k a) : rF G S' := by
  rcases h with ⟨h0, hn⟩ | ⟨h0, hs, hm⟩
  · exact .inl ⟨h0, fun k a q => hn k a ((he k a).mpr q)⟩
  · exact .inr ⟨h0, (he _ _).mp hs, fun k a q => hm k a ((he k a).mpr q)⟩
/-- told twice -/
abbrev twc (a b : Int) : Prop := a = b ∧ (a = 1 ∨ a = 2) ∨ a = 1 ∧ b = 3 ∨ a = 3 ∧ b = 1
theorem l_twc {f : Nat} {a b : Int} {G : xG_} : g253 f a b G = some (if twc a b then 1 else 0, G) := by
  unfold g253 g253_15 g253_25 g253_35 g253_39 g253_40
  grind
/-- the mentions as they stand, all of them -/
def rMM (G : xG_) (o q : Nat) (M : List pMn) : Prop := M.length ≤ 376 ∧ G o 14 = (M.length : Int) ∧ ∀ k, k < M.length → G (o + 9) k = (M.getD k (0, 0, 0, 0)).1 ∧ G (o + 10) k = (q : Int) + (M.getD k (0, 0, 0, 0)).2.1 ∧ G (o + 11) k = (M.getD k (0, 0, 0, 0)).2.2.1 ∧ G (o + 12) k = (M.getD k (0, 0, 0, 0)).2.2.2
theorem rMM.fr {G G' : xG_} {o q : Nat} {M : List pMn} (h : rMM G o q M) (ho : 0 < o) (hf : xf26 G G') : rMM G' o q M := ⟨h.1, by rw [hf _ _ (by omega)]; exact h.2.1, fun k hk => by rw [hf _ _ (by omega), hf _ _ (by omega), hf _ _ (by omega), hf _ _ (by omega)]; exact h.2.2 k hk⟩
def mN (M : List pMn) (i : Nat) : Int := (M.getD i (0, 0, 0, 0)).1
def mP (M : List pMn) (i : Nat) : Nat := (M.getD i (0, 0, 0, 0)).2.1
def mK (M : List pMn) (i : Nat) : Int := (M.getD i (0, 0, 0, 0)).2.2.1
def mW (M : List pMn) (i : Nat) : Int := (M.getD i (0, 0, 0, 0)).2.2.2
/-- a mention that is a FAULT of kind 1 with an earlier one, from j on; of kind 2 -/
def isF1 (M : List pMn) (i j : Nat) : Prop := ∃ k, j ≤ k ∧ k < i ∧ mN M k = mN M i ∧ twc (mW M k) (mW M i)
def isF2 (ins : List (Int × Int × Int)) (R : List pRu) (M : List pMn) (i : Nat) : Prop := (mW M i = 4 ∨ mW M i = 2) ∧ pIn ins (mN M i) = false ∧ pHd R (mN M i) = false
def rFg (G : xG_) (o : Nat) (ins : List (Int × Int × Int)) (R : List pRu) : Prop := ∀ p : Nat, p < 16 → G (o + 6) p = b01 (pIn ins p) ∧ G (o + 8) p = b01 (pHd R p)
theorem b01_0 {b : Bool} : b01 b = 0 ↔ b = false := by cases b <;> decide
section
variable {f o q : Nat} {ins : List (Int × Int × Int)} {R : List pRu} {M : List pMn}
theorem l_f99 {r : Nat → Int → xG_ → Option xG_} {i : Nat} {G : xG_} {S : Int → Int → Prop} (ho : 0 < o) (hi : i < M.length) (hN : 0 ≤ mN M i ∧ mN M i < 16) (hM : rMM G o q M) (hg : rFg G o ins R) (hS : rF G S) : ∃ G', g252_99 r f o (i : Int) (mN M i) G = r o ((i + 1 : Nat) : Int) G' ∧ rF G' (fun k a => S k a ∨ k = 2 ∧ a = (q : Int) + mP M i ∧ pIn ins (mN M i) = false ∧ pHd R (mN M i) = false) ∧ xf26 G G' := by
  have hM1 := hM.1
  have hx : xwr ((i : Int) + 1) = ((i + 1 : Nat) : Int) := by rw [xwr_g _ (by omega) (by omega)]; omega
  obtain ⟨g6, g8⟩ := hg (mN M i).toNat (by omega)
  rw [show (((mN M i).toNat : Nat) : Int) = mN M i by omega] at g6 g8
  unfold g252_99 g252_128
  rw [if_pos hN, g6, hx]
  by_cases c1 : pIn ins (mN M i) = false
  · rw [if_neg (fun h => h (b01_0.mpr c1)), if_pos hN, g8]
    by_cases c2 : pHd R (mN M i) = false
    · rw [if_neg (fun h => h (b01_0.mpr c2)), if_pos (by omega), Int.toNat_natCast, (hM.2.2 i hi).2.1]
      obtain ⟨G', a1, a2, a3⟩ := l_faulty (f := f) (k := 2) (a := (q : Int) + (M.getD i (0, 0, 0, 0)).2.1) (by decide) hS
      refine ⟨G', by rw [a1]; rfl, a2.iff (fun k a => ?_), a3⟩
      constructor
      · rintro (h | h)
        · exact .inl h
        · exact .inr ⟨h.1, h.2, c1, c2⟩
      · rintro (h | h)
        · exact .inl h
        · exact .inr ⟨h.1, h.2.1⟩
    · rw [if_pos (fun h => c2 (b01_0.mp h))]
      exact ⟨G, rfl, hS.iff (fun k a => ⟨.inl, fun h => h.elim id (fun h => absurd h.2.2.2 c2)⟩), .rf _⟩
  · rw [if_pos (fun h => c1 (b01_0.mp h))]
    exact ⟨G, rfl, hS.iff (fun k a => ⟨.inl, fun h => h.elim id (fun h => absurd h.2.2.1 c1)⟩), .rf _⟩
theorem l_f17 {r : Nat → Int → xG_ → Option xG_} {i : Nat} (ho : 0 < o) (hi : i < M.length) (hN : 0 ≤ mN M i ∧ mN M i < 16) : ∀ (k j fu : Nat) (G : xG_) (S : Int → Int → Prop), j + k = i → k < fu → rMM G o q M → rFg G o ins R → rF G S → ∃ G', g252_17 r f fu o (i : Int) (j : Int) G = r o ((i + 1 : Nat) : Int) G' ∧ rF G' (fun k a => S k a ∨ k = 1 ∧ a = (q : Int) + mP M i ∧ isF1 M i j ∨ k = 2 ∧ a = (q : Int) + mP M i ∧ isF2 ins R M i) ∧ xf26 G G' := by
  intro k
  induction k with
  | zero =>
    intro j fu G S hk hfu hM hg hS
    have hM1 := hM.1
    obtain ⟨fu, rfl⟩ : ∃ t, fu = t + 1 := ⟨fu - 1, by omega⟩
    obtain rfl : j = i := by omega
    obtain ⟨m1, m2, m3, m4⟩ := hM.2.2 j hi
    have es : g252_17 r f (fu + 1) o (j : Int) (j : Int) G = if mW M j = 4 ∨ mW M j = 2 then g252_99 r f o (j : Int) (mN M j) G else r o ((j + 1 : Nat) : Int) G := by
      show g252_17b r (g252_17 r f fu) f _ _ _ _ = _
      unfold g252_17b g252_128
      rw [if_pos (by omega), if_pos (by omega), if_pos (by omega), Int.toNat_natCast, m4, m1, xwr_g _ (by omega) (by omega)]
      show (if mW M j = 4 then g252_99 r f o (j : Int) (mN M j) G else if 0 ≤ (j : Int) ∧ (j : Int) < 420 then (if ¬ mW M j = 2 then r o ((j : Int) + 1) G else g252_99 r f o (j : Int) (mN M j) G) else none) = _
      by_cases c4 : mW M j = 4
      · rw [if_pos c4, if_pos (.inl c4)]
      · rw [if_neg c4, if_pos (by omega)]
        by_cases c2 : mW M j = 2
        · rw [if_neg (fun h => h c2), if_pos (.inr c2)]
        · rw [if_pos c2, if_neg (by omega)]
          rfl
    have nf1 : ¬ isF1 M j j := by rintro ⟨k, h1, h2, _⟩; omega
    rw [es]
    by_cases c : mW M j = 4 ∨ mW M j = 2
    · rw [if_pos c]
      obtain ⟨G', a1, a2, a3⟩ := l_f99 (r := r) (f := f) ho hi hN hM hg hS
      refine ⟨G', a1, a2.iff (fun k a => ?_), a3⟩
      constructor
      · rintro (h | h)
        · exact .inl h
        · exact .inr (.inr ⟨h.1, h.2.1, c, h.2.2⟩)
      · rintro (h | h | h)
        · exact .inl h
        · exact absurd h.2.2 nf1
        · exact .inr ⟨h.1, h.2.1, h.2.2.2⟩
    · rw [if_neg c]
      refine ⟨G, rfl, hS.iff (fun k a => ⟨.inl, ?_⟩), .rf _⟩
      rintro (h | h | h)
      · exact h
      · exact absurd h.2.2 nf1
      · exact absurd h.2.2.1 c
  | succ k ih =>
    intro j fu G S hk hfu hM hg hS
    have hM1 := hM.1
    obtain ⟨fu, rfl⟩ : ∃ t, fu = t + 1 := ⟨fu - 1, by omega⟩
    obtain ⟨m1, m2, m3, m4⟩ := hM.2.2 i hi
    obtain ⟨n1, n2, n3, n4⟩ := hM.2.2 j (by omega)
    have hx : xwr ((j : Int) + 1) = ((j + 1 : Nat) : Int) := by rw [xwr_g _ (by omega) (by omega)]; omega
    have es : g252_17 r f (fu + 1) o (i : Int) (j : Int) G = if mN M j = mN M i ∧ twc (mW M j) (mW M i) then (g251 f 1 ((q : Int) + mP M i) G).bind (fun R129 => g252_17 r f fu o (i : Int) ((j + 1 : Nat) : Int) R129) else g252_17 r f fu o (i : Int) ((j + 1 : Nat) : Int) G := by
      show g252_17b r (g252_17 r f fu) f _ _ _ _ = _
      unfold g252_17b g252_66
      rw [if_neg (by omega), if_pos (by omega), if_pos (by omega), Int.toNat_natCast, Int.toNat_natCast, n1, m1, n4, m4, hx, l_twc]
      simp only [Option.bind_some, i10]
      show (if ¬ mN M j = mN M i then g252_17 r f fu o (i : Int) ((j + 1 : Nat) : Int) G else if 0 ≤ (j : Int) ∧ (j : Int) < 420 then (if 0 ≤ (i : Int) ∧ (i : Int) < 420 then (if ¬ twc (mW M j) (mW M i) then g252_17 r f fu o (i : Int) ((j + 1 : Nat) : Int) G else if 0 ≤ (i : Int) ∧ (i : Int) < 420 then (g251 f 1 (G (o + 10) i) G).bind (fun R129 => g252_17 r f fu o (i : Int) ((j + 1 : Nat) : Int) R129) else none) else none) else none) = _
      by_cases c1 : mN M j = mN M i
      · rw [if_neg (fun h => h c1), if_pos (by omega), if_pos (by omega)]
        by_cases c2 : twc (mW M j) (mW M i)
        · rw [if_neg (fun h => h c2), if_pos (by omega), if_pos ⟨c1, c2⟩, m2]
          rfl
        · rw [if_pos c2, if_neg (fun h => c2 h.2)]
      · rw [if_pos c1, if_neg (fun h => c1 h.1)]
    rw [es]
    by_cases c : mN M j = mN M i ∧ twc (mW M j) (mW M i)
    · rw [if_pos c]
      obtain ⟨G1, a1, a2, a3⟩ := l_faulty (f := f) (k := 1) (a := (q : Int) + mP M i) (by decide) hS
      rw [a1]
      simp only [Option.bind_some]
      obtain ⟨G', b1, b2, b3⟩ := ih (j + 1) fu G1 _ (by omega) (by omega) (hM.fr ho a3) (fun p hp => by rw [a3 _ _ (by omega), a3 _ _ (by omega)]; exact hg p hp) a2
      refine ⟨G', b1, b2.iff (fun k a => ?_), a3.tr b3⟩
      have hF : isF1 M i j := ⟨j, Nat.le_refl _, by omega, c.1, c.2⟩
      constructor
      · rintro ((h | h) | h | h)
        · exact .inl h
        · exact .inr (.inl ⟨h.1, h.2, hF⟩)
        · exact .inr (.inl ⟨h.1, h.2.1, hF⟩)
        · exact .inr (.inr h)
      · rintro (h | h | h)
        · exact .inl (.inl h)
        · exact .inl (.inr ⟨h.1, h.2.1⟩)
        · exact .inr (.inr h)
    · rw [if_neg c]
      obtain ⟨G', b1, b2, b3⟩ := ih (j + 1) fu G S (by omega) (by omega) hM hg hS
      refine ⟨G', b1, b2.iff (fun k a => ?_), b3⟩
      have hF : isF1 M i (j + 1) ↔ isF1 M i j := by
        constructor
        · rintro ⟨k, h1, h2, h3⟩; exact ⟨k, by omega, h2, h3⟩
        · rintro ⟨k, h1, h2, h3⟩
          refine ⟨k, ?_, h2, h3⟩
          by_cases e : k = j
          · exact absurd (e ▸ h3) c
          · omega
      rw [hF]
end
end
section
/-! FAULTS of the reference: numbers of parts -/
/-- the first mention of a predicate that has parts, from i on (n: how many mentions) -/
def pFst (M : List pMn) (x : Int) : Nat → Nat → Option Nat
  | 0, _ => none
  | k + 1, i => if mN M i = x ∧ mK M i ≠ -1 then some i else pFst M x k (i + 1)
def pNn (M : List pMn) (x : Int) : Int := match pFst M x M.length 0 with
  | some i => mK M i
  | none => 0
def xfn (o : Nat) (G G' : xG_) : Prop := ∀ x j, ¬ (x = 0 ∧ (j = 26 ∨ j = 27)) → x ≠ o + 2 → G' x j = G x j
theorem xfn.rf (o : Nat) (G : xG_) : xfn o G G := fun _ _ _ _ => rfl
theorem xfn.tr {o : Nat} {G G1 G2 : xG_} (h : xfn o G G1) (h1 : xfn o G1 G2) : xfn o G G2 := fun x j hj hx => by rw [h1 x j hj hx, h x j hj hx]
theorem xf26.fn {o : Nat} {G G1 : xG_} (h : xf26 G G1) : xfn o G G1 := fun x j hj _ => h x j hj
theorem rMM.fn {G G' : xG_} {o q : Nat} {M : List pMn} (h : rMM G o q M) (ho : 0 < o) (hf : xfn o G G') : rMM G' o q M := ⟨h.1, by rw [hf _ _ (by omega) (by omega)]; exact h.2.1, fun k hk => by rw [hf _ _ (by omega) (by omega), hf _ _ (by omega) (by omega), hf _ _ (by omega) (by omega), hf _ _ (by omega) (by omega)]; exact h.2.2 k hk⟩
theorem rF.up {G : xG_} {S : Int → Int → Prop} {a j : Nat} {v : Int} (h : rF G S) (ha : a ≠ 0) : rF (xup2 G a j v) S := by
  unfold rF at *
  rw [xup2_n (show ¬ (0 = a ∧ 26 = j) by omega), xup2_n (show ¬ (0 = a ∧ 27 = j) by omega)]
  exact h
def oI : Option Nat → Int
  | some j => (j : Int)
  | none => -1
def rPo (G G' : xG_) (o x q : Nat) (M : List pMn) (S : Int → Int → Prop) : Option Nat → Prop
  | none => G' (o + 2) x = G (o + 2) x ∧ rF G' S
  | some j => G' (o + 2) x = mK M j ∧ rF G' (fun k' a => S k' a ∨ k' = 3 ∧ ∃ y, y < M.length ∧ a = (q : Int) + mP M y ∧ mN M y = (x : Int) ∧ mK M y ≠ -1 ∧ mK M y ≠ mK M j)
section
variable {f o q : Nat} {M : List pMn}
theorem l_p99 {r : Nat → Int → xG_ → Option xG_} {x : Nat} {nx : Int} (ho : 0 < o) (hx : x < 16) : ∀ (k i fu : Nat) (G : xG_) (S : Int → Int → Prop), i + k = M.length → k < fu → rMM G o q M → G (o + 2) x = nx → rF G S →
    ∃ G', g254_99 r f fu o (x : Int) (i : Int) G = r o ((x + 1 : Nat) : Int) G' ∧ rF G' (fun k' a => S k' a ∨ k' = 3 ∧ ∃ j, i ≤ j ∧ j < M.length ∧ a = (q : Int) + mP M j ∧ mN M j = (x : Int) ∧ mK M j ≠ -1 ∧ mK M j ≠ nx) ∧ xf26 G G' := by
  intro k
  induction k with
  | zero =>
    intro i fu G S hk hfu hM hn hS
    have hM1 := hM.1
    obtain ⟨fu, rfl⟩ : ∃ t, fu = t + 1 := ⟨fu - 1, by omega⟩
    refine ⟨G, ?_, hS.iff (fun k a => ⟨.inl, ?_⟩), .rf _⟩
    · show g254_99b r (g254_99 r f fu) f _ _ _ _ = _
      unfold g254_99b g254_164
      rw [hM.2.1, if_pos (by omega), xwr_g _ (by omega) (by omega)]
      rfl
    · rintro (h | ⟨_, j, h1, h2, _⟩)
      · exact h
      · omega
  | succ k ih =>
    intro i fu G S hk hfu hM hn hS
    have hM1 := hM.1
    obtain ⟨fu, rfl⟩ : ∃ t, fu = t + 1 := ⟨fu - 1, by omega⟩
    obtain ⟨m1, m2, m3, m4⟩ := hM.2.2 i (by omega)
    have es : g254_99 r f (fu + 1) o (x : Int) (i : Int) G = if mN M i = (x : Int) ∧ mK M i ≠ -1 ∧ mK M i ≠ nx then (g251 f 3 ((q : Int) + mP M i) G).bind (fun R => g254_99 r f fu o (x : Int) ((i + 1 : Nat) : Int) R) else g254_99 r f fu o (x : Int) ((i + 1 : Nat) : Int) G := by
      show g254_99b r (g254_99 r f fu) f _ _ _ _ = _
      unfold g254_99b g254_158
      rw [hM.2.1, if_neg (by omega), if_pos (by omega), Int.toNat_natCast, Int.toNat_natCast, m1, m3, m2, hn, xwr_g _ (by omega) (by omega)]
      show (if ¬ mN M i = (x : Int) then g254_99 r f fu o (x : Int) ((i + 1 : Nat) : Int) G else if 0 ≤ (i : Int) ∧ (i : Int) < 420 then (if mK M i = -1 then g254_99 r f fu o (x : Int) ((i + 1 : Nat) : Int) G else if 0 ≤ (i : Int) ∧ (i : Int) < 420 then (if 0 ≤ (x : Int) ∧ (x : Int) < 16 then (if mK M i = nx then g254_99 r f fu o (x : Int) ((i + 1 : Nat) : Int) G else if 0 ≤ (i : Int) ∧ (i : Int) < 420 then (g251 f 3 ((q : Int) + mP M i) G).bind (fun R => g254_99 r f fu o (x : Int) ((i + 1 : Nat) : Int) R) else none) else none) else none) else none) = _
      by_cases c1 : mN M i = (x : Int)
      · rw [if_neg (fun h => h c1), if_pos (by omega)]
        by_cases c2 : mK M i = -1
        · rw [if_pos c2, if_neg (fun h => h.2.1 c2)]
        · rw [if_neg c2, if_pos (by omega), if_pos (by omega)]
          by_cases c3 : mK M i = nx
          · rw [if_pos c3, if_neg (fun h => h.2.2 c3)]
          · rw [if_neg c3, if_pos (by omega), if_pos ⟨c1, c2, c3⟩]
      · rw [if_pos c1, if_neg (fun h => c1 h.1)]
    rw [es]
    by_cases c : mN M i = (x : Int) ∧ mK M i ≠ -1 ∧ mK M i ≠ nx
    · rw [if_pos c]
      obtain ⟨G1, a1, a2, a3⟩ := l_faulty (f := f) (k := 3) (a := (q : Int) + mP M i) (by decide) hS
      rw [a1]
      simp only [Option.bind_some]
      obtain ⟨G', b1, b2, b3⟩ := ih (i + 1) fu G1 _ (by omega) (by omega) (hM.fr ho a3) (by rw [a3 _ _ (by omega)]; exact hn) a2
      refine ⟨G', b1, b2.iff (fun k a => ?_), a3.tr b3⟩
      constructor
      · rintro ((h | h) | ⟨h, j, h1, h2, h3⟩)
        · exact .inl h
        · exact .inr ⟨h.1, i, Nat.le_refl _, by omega, h.2, c⟩
        · exact .inr ⟨h, j, by omega, h2, h3⟩
      · rintro (h | ⟨h, j, h1, h2, h3, h4⟩)
        · exact .inl (.inl h)
        · by_cases e : j = i
          · exact .inl (.inr ⟨h, by rw [h3, e]⟩)
          · exact .inr ⟨h, j, by omega, h2, h3, h4⟩
    · rw [if_neg c]
      obtain ⟨G', b1, b2, b3⟩ := ih (i + 1) fu G S (by omega) (by omega) hM hn hS
      refine ⟨G', b1, b2.iff (fun k a => ?_), b3⟩
      constructor
      · rintro (h | ⟨h, j, h1, h2, h3⟩)
        · exact .inl h
        · exact .inr ⟨h, j, by omega, h2, h3⟩
      · rintro (h | ⟨h, j, h1, h2, h3, h4⟩)
        · exact .inl h
        · by_cases e : j = i
          · exact absurd (e ▸ h4) c
          · exact .inr ⟨h, j, by omega, h2, h3, h4⟩
/-- the first mention is looked for; then the others are held against it -/
theorem l_p15 {r : Nat → Int → xG_ → Option xG_} {x : Nat} (hf : M.length + 2 < f) (ho : 0 < o) (hx : x < 16) (hso : ∀ i j, i < j → j < M.length → mP M i < mP M j) : ∀ (k i fu : Nat) (w : Option Nat) (G : xG_) (S : Int → Int → Prop), i + k = M.length → k < fu → (∀ j, w = some j → j < i) → rMM G o q M → rF G S →
    ∃ G', g254_15 r f fu o (x : Int) (oI w) (i : Int) G = r o ((x + 1 : Nat) : Int) G' ∧ xfn o G G' ∧ (∀ j, j ≠ x → G' (o + 2) j = G (o + 2) j) ∧
      rPo G G' o x q M S (w.or (pFst M x k i)) := by
  intro k
  induction k with
  | zero =>
    intro i fu w G S hk hfu hw hM hS
    have hM1 := hM.1
    obtain ⟨fu, rfl⟩ : ∃ t, fu = t + 1 := ⟨fu - 1, by omega⟩
    have e1 : ∀ v, g254_15 r f (fu + 1) o (x : Int) v (i : Int) G = if ¬ v = -1 then (if 0 ≤ v ∧ v < 420 then (if 0 ≤ (x : Int) ∧ (x : Int) < 16 then g254_99 r f f o (x : Int) (0 : Int) (xup2 G (o + 2) x (G (o + 11) v.toNat)) else none) else none) else r o ((x + 1 : Nat) : Int) G := by
      intro v
      show g254_15b r (g254_15 r f fu) f _ _ _ _ _ = _
      unfold g254_15b g254_164
      rw [hM.2.1, if_pos (by omega), Int.toNat_natCast, xwr_g _ (by omega) (by omega)]
      rfl
    cases w with
    | none =>
      rw [show oI none = -1 from rfl, e1, if_neg (fun h => h rfl)]
      exact ⟨G, rfl, .rf _ _, fun _ _ => rfl, rfl, hS⟩
    | some j =>
      have hj := hw j rfl
      obtain ⟨m1, m2, m3, m4⟩ := hM.2.2 j (by omega)
      rw [show oI (some j) = (j : Int) from rfl, e1, if_pos (by omega), if_pos (by omega), if_pos (by omega), Int.toNat_natCast, m3]
      have f1 : xfn o G (xup2 G (o + 2) x (mK M j)) := fun a b _ hb => xup2_n (by omega)
      obtain ⟨G', b1, b2, b3⟩ := l_p99 (r := r) (f := f) (x := x) (nx := mK M j) ho hx M.length 0 f (xup2 G (o + 2) x (mK M j)) S (by omega) (by omega) (hM.fn ho f1) (xup2_s _ _ _ _) (hS.up (by omega))
      refine ⟨G', b1, f1.tr b3.fn, fun y hy => by rw [b3 _ _ (by omega), xup2_n (by omega)], by rw [b3 _ _ (by omega), xup2_s], b2.iff (fun k a => ?_)⟩
      constructor
      · rintro (h | ⟨h, y, _, h2⟩)
        · exact .inl h
        · exact .inr ⟨h, y, h2⟩
      · rintro (h | ⟨h, y, h2⟩)
        · exact .inl h
        · exact .inr ⟨h, y, Nat.zero_le _, h2⟩
  | succ k ih =>
    intro i fu w G S hk hfu hw hM hS
    have hM1 := hM.1
    obtain ⟨fu, rfl⟩ : ∃ t, fu = t + 1 := ⟨fu - 1, by omega⟩
    obtain ⟨m1, m2, m3, m4⟩ := hM.2.2 i (by omega)
    have hx1 : xwr ((i : Int) + 1) = ((i + 1 : Nat) : Int) := by rw [xwr_g _ (by omega) (by omega)]; omega
    have ep : pFst M x (k + 1) i = if mN M i = (x : Int) ∧ mK M i ≠ -1 then some i else pFst M x k (i + 1) := rfl
    have es : g254_15 r f (fu + 1) o (x : Int) (oI w) (i : Int) G = g254_15 r f fu o (x : Int) (oI (if w = none ∧ mN M i = (x : Int) ∧ mK M i ≠ -1 then some i else w)) ((i + 1 : Nat) : Int) G := by
      show g254_15b r (g254_15 r f fu) f _ _ _ _ _ = _
      unfold g254_15b g254_70 g254_67
      unfold g254_70
      rw [hM.2.1, if_neg (by omega), if_pos (by omega), Int.toNat_natCast, m1, m3, hx1]
      show (if ¬ mN M i = (x : Int) then _ else if 0 ≤ (i : Int) ∧ (i : Int) < 420 then (if mK M i = -1 then _ else _) else none) = _
      by_cases c1 : mN M i = (x : Int)
      · rw [if_neg (fun h => h c1), if_pos (by omega)]
        by_cases c2 : mK M i = -1
        · rw [if_pos c2, if_neg (fun h => h.2.2 c2)]
        · rw [if_neg c2]
          cases w with
          | none =>
            rw [if_pos (show oI none = -1 from rfl), if_pos ⟨rfl, c1, c2⟩]
            rfl
          | some j =>
            have hj := hw j rfl
            obtain ⟨n1, n2, n3, n4⟩ := hM.2.2 j (by omega)
            have hlt := hso j i hj (by omega)
            show (if (j : Int) = -1 then _ else if 0 ≤ (i : Int) ∧ (i : Int) < 420 then (if 0 ≤ (j : Int) ∧ (j : Int) < 420 then (if G (o + 10) (j : Int).toNat ≤ G (o + 10) i then _ else _) else none) else none) = _
            rw [if_neg (by omega), if_pos (by omega), if_pos (by omega), Int.toNat_natCast, n2, m2, if_pos (by show (q : Int) + (mP M j : Int) ≤ (q : Int) + (mP M i : Int); omega), if_neg (fun h => absurd h.1 (by simp))]
      · rw [if_pos c1, if_neg (fun h => c1 h.2.1)]
    rw [es]
    obtain ⟨G', b1, b2, b3, b4⟩ := ih (i + 1) fu (if w = none ∧ mN M i = (x : Int) ∧ mK M i ≠ -1 then some i else w) G S (by omega) (by omega) (fun j hj => by
      split at hj
      · cases hj; omega
      · have := hw j hj; omega) hM hS
    refine ⟨G', b1, b2, b3, ?_⟩
    have eo : ((if w = none ∧ mN M i = (x : Int) ∧ mK M i ≠ -1 then some i else w).or (pFst M x k (i + 1))) = (w.or (pFst M x (k + 1) i)) := by
      rw [ep]
      cases w with
      | none =>
        by_cases c : mN M i = (x : Int) ∧ mK M i ≠ -1
        · rw [if_pos ⟨rfl, c⟩, if_pos c]
          rfl
        · rw [if_neg (fun h => c h.2), if_neg c]
      | some j =>
        rw [if_neg (fun h => absurd h.1 (by simp))]
        rfl
    rw [eo] at b4
    exact b4
end
end
section
/-! FAULTS of the reference: all numbers of parts; VARIABLES of EXPRESSIONS -/
def isF3 (M : List pMn) (x : Nat) (y : Nat) : Prop := y < M.length ∧ mN M y = (x : Int) ∧ mK M y ≠ -1 ∧ mK M y ≠ pNn M x
theorem pFst_some {M : List pMn} {x : Int} : ∀ (k i j : Nat), pFst M x k i = some j → i ≤ j ∧ j < i + k ∧ mN M j = x ∧ mK M j ≠ -1 ∧ ∀ y, i ≤ y → y < j → ¬ (mN M y = x ∧ mK M y ≠ -1) := by
  intro k
  induction k with
  | zero => intro i j h; cases h
  | succ k ih =>
    intro i j h
    have e : pFst M x (k + 1) i = if mN M i = x ∧ mK M i ≠ -1 then some i else pFst M x k (i + 1) := rfl
    rw [e] at h
    split at h
    · rename_i c
      cases h
      exact ⟨Nat.le_refl _, by omega, c.1, c.2, fun y h1 h2 => by omega⟩
    · rename_i c
      have := ih _ _ h
      refine ⟨by omega, by omega, this.2.2.1, this.2.2.2.1, fun y h1 h2 => ?_⟩
      by_cases e2 : y = i
      · rw [e2]; exact c
      · exact this.2.2.2.2 y (by omega) h2
theorem pFst_none {M : List pMn} {x : Int} : ∀ (k i : Nat), pFst M x k i = none → ∀ y, i ≤ y → y < i + k → ¬ (mN M y = x ∧ mK M y ≠ -1) := by
  intro k
  induction k with
  | zero => intro i h y h1 h2; omega
  | succ k ih =>
    intro i h y h1 h2
    have e : pFst M x (k + 1) i = if mN M i = x ∧ mK M i ≠ -1 then some i else pFst M x k (i + 1) := rfl
    rw [e] at h
    split at h
    · cases h
    · rename_i c
      by_cases e2 : y = i
      · rw [e2]; exact c
      · exact ih _ h y (by omega) (by omega)
section
variable {f o q np : Nat} {M : List pMn}
theorem l_parts (hf : M.length + 20 < f) (ho : 0 < o) (hnp : np ≤ 16) (hso : ∀ i j, i < j → j < M.length → mP M i < mP M j) : ∀ (k x fu : Nat) (G : xG_) (S : Int → Int → Prop), x + k = np → k < fu → G o 8 = (np : Int) → rMM G o q M → (∀ y, x ≤ y → y < np → G (o + 2) y = 0) → rF G S →
    ∃ G', g254_2 f fu o (x : Int) G = some G' ∧ xfn o G G' ∧ (∀ y, y < x ∨ np ≤ y → G' (o + 2) y = G (o + 2) y) ∧ (∀ y, x ≤ y → y < np → G' (o + 2) y = pNn M y) ∧ rF G' (fun k' a => S k' a ∨ k' = 3 ∧ ∃ z y, x ≤ z ∧ z < np ∧ isF3 M z y ∧ a = (q : Int) + mP M y) := by
  intro k
  induction k with
  | zero =>
    intro x fu G S hk hfu h8 hM h0 hS
    obtain ⟨fu, rfl⟩ : ∃ t, fu = t + 1 := ⟨fu - 1, by omega⟩
    refine ⟨G, ?_, .rf _ _, fun _ _ => rfl, fun y h1 h2 => by omega, hS.iff (fun k a => ⟨.inl, ?_⟩)⟩
    · show g254_2b (g254_2 f fu) f _ _ _ = _
      unfold g254_2b
      rw [h8, if_pos (by omega)]
    · rintro (h | ⟨_, z, y, h1, h2, _⟩)
      · exact h
      · omega
  | succ k ih =>
    intro x fu G S hk hfu h8 hM h0 hS
    have hM1 := hM.1
    obtain ⟨fu, rfl⟩ : ∃ t, fu = t + 1 := ⟨fu - 1, by omega⟩
    have es : g254_2 f (fu + 1) o (x : Int) G = g254_15 (g254_2 f fu) f f o (x : Int) (oI none) ((0 : Nat) : Int) G := by
      show g254_2b (g254_2 f fu) f _ _ _ = _
      unfold g254_2b
      rw [h8, if_neg (by omega)]
      rfl
    obtain ⟨G1, a1, a2, a3, a4⟩ := l_p15 (r := g254_2 f fu) (f := f) (q := q) (by omega) ho (show x < 16 by omega) hso M.length 0 f none G S (by omega) (by omega) (fun j h => by cases h) hM hS
    have key : G1 (o + 2) x = pNn M x ∧ rF G1 (fun k' a => S k' a ∨ k' = 3 ∧ ∃ y, isF3 M x y ∧ a = (q : Int) + mP M y) := by
      have e0 : (none : Option Nat).or (pFst M x M.length 0) = pFst M x M.length 0 := rfl
      rw [e0] at a4
      cases hp : pFst M x M.length 0 with
      | none =>
        rw [hp] at a4
        have en : pNn M x = 0 := by unfold pNn; rw [hp]
        have hno := pFst_none _ _ hp
        refine ⟨by rw [a4.1, en]; exact h0 x (Nat.le_refl _) (by omega), a4.2.iff (fun k a => ⟨.inl, ?_⟩)⟩
        rintro (h | ⟨_, y, h1, _⟩)
        · exact h
        · exact absurd ⟨h1.2.1, h1.2.2.1⟩ (hno y (Nat.zero_le _) (by have := h1.1; omega))
      | some j =>
        rw [hp] at a4
        have en : pNn M x = mK M j := by unfold pNn; rw [hp]
        refine ⟨by rw [a4.1, en], a4.2.iff (fun k a => ?_)⟩
        constructor
        · rintro (h | ⟨h, y, h1, h2, h3⟩)
          · exact .inl h
          · exact .inr ⟨h, y, ⟨h1, h3.1, h3.2.1, by rw [en]; exact h3.2.2⟩, h2⟩
        · rintro (h | ⟨h, y, h1, h2⟩)
          · exact .inl h
          · exact .inr ⟨h, y, h1.1, h2, h1.2.1, h1.2.2.1, by have := h1.2.2.2; rw [en] at this; exact this⟩
    obtain ⟨G', b1, b2, b3, b4, b5⟩ := ih (x + 1) fu G1 _ (by omega) (by omega) (by rw [a2 _ _ (by omega) (by omega)]; exact h8) (hM.fn ho a2) (fun y h1 h2 => by rw [a3 y (by omega)]; exact h0 y (by omega) h2) key.2
    refine ⟨G', by rw [es, a1]; exact b1, a2.tr b2, fun y hy => by rw [b3 y (by omega), a3 y (by omega)], fun y h1 h2 => ?_, b5.iff (fun k a => ?_)⟩
    · by_cases e : y = x
      · rw [e, b3 x (by omega)]; exact key.1
      · exact b4 y (by omega) h2
    · constructor
      · rintro ((h | ⟨h, y, h1, h2⟩) | ⟨h, z, y, h1, h2, h3⟩)
        · exact .inl h
        · exact .inr ⟨h, x, y, Nat.le_refl _, by omega, h1, h2⟩
        · exact .inr ⟨h, z, y, by omega, h2, h3⟩
      · rintro (h | ⟨h, z, y, h1, h2, h3, h4⟩)
        · exact .inl (.inl h)
        · by_cases e : z = x
          · exact .inl (.inr ⟨h, y, e ▸ h3, h4⟩)
          · exact .inr ⟨h, z, y, by omega, h2, h3, h4⟩
end
/-- VARIABLES in codes, as a mask -/
def qVm : pCd → Nat
  | [] => 0
  | x :: q => (if x.1 = 2 then 2 ^ x.2.toNat else 0) ||| qVm q
theorem qVm_ap (Q R : pCd) : qVm (Q ++ R) = qVm Q ||| qVm R := by
  induction Q with
  | nil => simp [qVm]
  | cons x q ih =>
    show (if x.1 = 2 then 2 ^ x.2.toNat else 0) ||| qVm (q ++ R) = ((if x.1 = 2 then 2 ^ x.2.toNat else 0) ||| qVm q) ||| qVm R
    rw [ih, Nat.or_assoc]
theorem qVm_lt {nv : Nat} {Q : pCd} (h : wC nv Q) (hv : nv ≤ 8) : qVm Q < 2 ^ 8 := by
  induction Q with
  | nil => decide
  | cons x q ih =>
    have h1 := ih (fun y hy => h y (List.mem_cons_of_mem _ hy))
    have h2 : (if x.1 = 2 then 2 ^ x.2.toNat else 0) < 2 ^ 8 := by
      split
      · rename_i c
        rcases h x (List.mem_cons_self ..) with a | a | a
        · omega
        · exact Nat.pow_lt_pow_right (by decide) (by omega)
        · omega
      · decide
    exact Nat.or_lt_two_pow h2 h1
/-- whether an EXPRESSION is a VARIABLE alone -/
def qAl (Q : pCd) : Prop := Q.length = 1 ∧ (Q.getD 0 (0, 0)).1 = 2
section
variable {f o nv : Nat} {Q : pCd} {G : xG_}
theorem l_vof {a : Nat} (hf : 6300 < f) (hQ : wC nv Q) (hv : nv ≤ 8) (hC : rCo G o a Q) (ha : a + Q.length ≤ 6200) : g255 f o (a : Int) ((a + Q.length : Nat) : Int) G = some ((qVm Q : Int), G) := by
  have loop : ∀ (k i fu : Nat), i + k = Q.length → k < fu → g255_5 f fu o ((a + Q.length : Nat) : Int) ((qVm (Q.take i) : Nat) : Int) ((a + i : Nat) : Int) G = some ((qVm Q : Int), G) := by
    intro k
    induction k with
    | zero =>
      intro i fu hk hfu
      obtain ⟨fu, rfl⟩ : ∃ t, fu = t + 1 := ⟨fu - 1, by omega⟩
      show g255_5b (g255_5 f fu) f _ _ _ _ _ = _
      unfold g255_5b
      rw [if_pos (by omega), show i = Q.length by omega, List.take_length]
    | succ k ih =>
      intro i fu hk hfu
      obtain ⟨fu, rfl⟩ : ∃ t, fu = t + 1 := ⟨fu - 1, by omega⟩
      have hi : i < Q.length := by omega
      obtain ⟨c1, c2⟩ := hC i hi
      have hx1 : xwr (((a + i : Nat) : Int) + 1) = ((a + (i + 1) : Nat) : Int) := by rw [xwr_g _ (by omega) (by omega)]; omega
      have hm : Q.getD i (0, 0) ∈ Q := by rw [getD_e hi]; exact List.getElem_mem hi
      have hlt : qVm (Q.take i) < 2 ^ 8 := qVm_lt (fun y hy => hQ y (List.mem_of_mem_take hy)) hv
      have ht : Q.take (i + 1) = Q.take i ++ [Q.getD i (0, 0)] := by rw [getD_e hi, List.take_succ_eq_append_getElem hi]
      have hstep : qVm (Q.take (i + 1)) = qVm (Q.take i) ||| (if (Q.getD i (0, 0)).1 = 2 then 2 ^ (Q.getD i (0, 0)).2.toNat else 0) := by
        rw [ht, qVm_ap]
        show _ ||| ((if (Q.getD i (0, 0)).1 = 2 then 2 ^ (Q.getD i (0, 0)).2.toNat else 0) ||| 0) = _
        rw [Nat.or_zero]
      show g255_5b (g255_5 f fu) f _ _ _ _ _ = _
      unfold g255_5b g255_35
      rw [if_neg (by omega), if_pos (by omega), Int.toNat_natCast, c1, c2, hx1]
      by_cases c : (Q.getD i (0, 0)).1 = 2
      · rw [if_neg (fun h => h c), if_pos (by omega)]
        have hb : 0 ≤ (Q.getD i (0, 0)).2 ∧ (Q.getD i (0, 0)).2 < nv := by
          rcases hQ _ hm with q | q | q
          · omega
          · exact q.2
          · omega
        rw [xwr_g _ (by omega) (by omega), show (Q.getD i (0, 0)).2 = (((Q.getD i (0, 0)).2.toNat : Nat) : Int) by omega, xorb (by omega) (by omega)]
        have := ih (i + 1) fu (by omega) (by omega)
        rw [hstep, if_pos c] at this
        exact this
      · rw [if_pos c]
        have := ih (i + 1) fu (by omega) (by omega)
        rw [hstep, if_neg c, Nat.or_zero] at this
        exact this
  have := loop Q.length 0 f (by omega) (by omega)
  exact this
theorem l_alone {a : Nat} (hC : rCo G o a Q) (ha : a + Q.length ≤ 6200) (hl : 1 ≤ Q.length) : g256 f o (a : Int) ((a + Q.length : Nat) : Int) G = some (if Q.length = 1 ∧ (Q.getD 0 (0, 0)).1 = 2 then 1 else 0, G) := by
  unfold g256 g256_21 g256_22
  rw [xwr_g _ (by omega) (by omega)]
  by_cases c1 : Q.length = 1
  · have this : G (o + 33) a = (Q.getD 0 (0, 0)).1 := (hC 0 (by omega)).1
    rw [if_neg (by omega), if_pos (by omega), Int.toNat_natCast, this]
    by_cases c2 : (Q.getD 0 (0, 0)).1 = 2
    · rw [if_neg (fun h => h c2), if_pos (.inr rfl)]
      rw [if_pos (⟨c1, c2⟩ : Q.length = 1 ∧ (Q.getD 0 (0, 0)).1 = 2)]
    · rw [if_pos c2, if_pos (.inl rfl)]
      rw [if_neg (fun h : Q.length = 1 ∧ (Q.getD 0 (0, 0)).1 = 2 => c2 h.2)]
  · rw [if_pos (by omega), if_pos (.inl rfl)]
    rw [if_neg (fun h : Q.length = 1 ∧ (Q.getD 0 (0, 0)).1 = 2 => c1 h.1)]
end
end
section
/-! FAULTS of the reference: what is BOUND -/
def qT : pCd → Nat
  | [] => 0
  | x :: q => (if x.1 = 1 then 2 ^ x.2.toNat else 0) ||| qT q
def qA : List pLt → Nat
  | [] => 0
  | l :: r => (if l.1 = 1 then qT l.2.2.2.1 else 0) ||| qA r
abbrev qSub (a b : Nat) : Prop := a ||| b = b
abbrev qAl2 (Q : pCd) : Prop := Q.length = 1 ∧ (Q.getD 0 (0, 0)).1 = 2
/-- one = more: its left side, its right side -/
def qL1 (y : pLt) (s : Nat) : Nat := if qAl2 y.2.2.2.2.1 ∧ qSub (qVm y.2.2.2.2.2) s then s ||| qVm y.2.2.2.2.1 else s
def qR1 (y : pLt) (s : Nat) : Nat := if qAl2 y.2.2.2.2.2 ∧ qSub (qVm y.2.2.2.2.1) s then s ||| qVm y.2.2.2.2.2 else s
def qS1 (y : pLt) (s : Nat) : Nat := if y.1 = 3 ∧ y.2.1 = 61 then qR1 y (qL1 y s) else s
def qSt : List pLt → Nat → Nat
  | [], s => s
  | y :: r, s => qSt r (qS1 y s)
def qIt (l : List pLt) : Nat → Nat → Nat
  | 0, s => s
  | k + 1, s => if qSt l s = s then s else qIt l k (qSt l s)
def qBd (l : List pLt) : Nat := qIt l 256 (qA l)
theorem qSub_t {a b : Nat} : qSub a b ↔ ∀ j, a.testBit j = true → b.testBit j = true := by
  constructor
  · intro h j hj
    have := congrArg (fun x => x.testBit j) h
    simp only [Nat.testBit_or, hj, Bool.true_or] at this
    exact this.symm
  · intro h
    apply Nat.eq_of_testBit_eq
    intro j
    rw [Nat.testBit_or]
    cases hb : a.testBit j with
    | false => simp
    | true => simp [h j hb]
theorem or_ge (a b : Nat) : a ≤ a ||| b := Nat.left_le_or
theorem qT_lt {nv : Nat} {T : pCd} (h : ∀ x ∈ T, wT1 nv x) (hv : nv ≤ 8) : qT T < 2 ^ 8 := by
  induction T with
  | nil => decide
  | cons x q ih =>
    have h1 := ih (fun y hy => h y (List.mem_cons_of_mem _ hy))
    have h2 : (if x.1 = 1 then 2 ^ x.2.toNat else 0) < 2 ^ 8 := by
      split
      · rename_i c
        rcases h x (List.mem_cons_self ..) with a | a | a
        · exact Nat.pow_lt_pow_right (by decide) (by omega)
        · omega
        · omega
      · decide
    exact Nat.or_lt_two_pow h2 h1
theorem qA_lt {np nv : Nat} {l : List pLt} (h : ∀ y ∈ l, wLt np nv y) (hv : nv ≤ 8) : qA l < 2 ^ 8 := by
  induction l with
  | nil => decide
  | cons y r ih =>
    have h1 := ih (fun z hz => h z (List.mem_cons_of_mem _ hz))
    have h2 : (if y.1 = 1 then qT y.2.2.2.1 else 0) < 2 ^ 8 := by
      split
      · rename_i c
        rcases h y (List.mem_cons_self ..) with a | a
        · exact qT_lt a.2.2.2.2.2 hv
        · omega
      · decide
    exact Nat.or_lt_two_pow h2 h1
theorem qS1_lt {np nv s : Nat} {y : pLt} (h : wLt np nv y) (hv : nv ≤ 8) (hs : s < 2 ^ 8) : qS1 y s < 2 ^ 8 ∧ s ≤ qS1 y s := by
  unfold qS1
  split
  · rename_i c
    rcases h with a | a
    · have := a.1; omega
    · have l1 := qVm_lt a.2.2.1.1 hv
      have l2 := qVm_lt a.2.2.2.1 hv
      have g1 : qL1 y s < 2 ^ 8 ∧ s ≤ qL1 y s := by
        unfold qL1
        split
        · exact ⟨Nat.or_lt_two_pow hs l1, or_ge _ _⟩
        · exact ⟨hs, Nat.le_refl _⟩
      unfold qR1
      split
      · exact ⟨Nat.or_lt_two_pow g1.1 l2, Nat.le_trans g1.2 (or_ge _ _)⟩
      · exact g1
  · exact ⟨hs, Nat.le_refl _⟩
theorem qSt_lt {np nv : Nat} {l : List pLt} (h : ∀ y ∈ l, wLt np nv y) (hv : nv ≤ 8) : ∀ s, s < 2 ^ 8 → qSt l s < 2 ^ 8 ∧ s ≤ qSt l s := by
  induction l with
  | nil => intro s hs; exact ⟨hs, Nat.le_refl _⟩
  | cons y r ih =>
    intro s hs
    have h1 := qS1_lt (h y (List.mem_cons_self ..)) hv hs
    have h2 := ih (fun z hz => h z (List.mem_cons_of_mem _ hz)) _ h1.1
    exact ⟨h2.1, Nat.le_trans h1.2 h2.2⟩
section
variable {f o r c nv np : Nat} {G : xG_} {l : List pLt}
/-- VARIABLES of an ATOM's TERMS -/
theorem l_t25 {r4 : Nat → Int → Int → Int → xG_ → Option (Int × xG_)} {y : pLt} {i x : Nat} (hx : x < 200) (hi : i < 8) (hy : rLt G o x c y) (hw : wLt np nv y) (hv : nv ≤ 8) : ∀ (k j fu a : Nat), j + k = y.2.2.2.1.length → k < fu → a < 2 ^ 8 → g257_25 r4 f fu o (r : Int) ((a : Nat) : Int) (i : Int) (x : Int) (j : Int) G = r4 o (r : Int) ((a ||| (if y.1 = 1 then qT (y.2.2.2.1.drop j) else 0) : Nat) : Int) ((i + 1 : Nat) : Int) G := by
  obtain ⟨h1, h2, h3, h4⟩ := hy
  intro k
  have hx1 : xwr ((i : Int) + 1) = ((i + 1 : Nat) : Int) := by rw [xwr_g _ (by omega) (by omega)]; omega
  induction k with
  | zero =>
    intro j fu a hk hfu ha
    obtain ⟨fu, rfl⟩ : ∃ t, fu = t + 1 := ⟨fu - 1, by omega⟩
    show g257_25b r4 (g257_25 r4 f fu) f _ _ _ _ _ _ _ = _
    unfold g257_25b g257_88
    rw [if_pos (by omega), Int.toNat_natCast, h1, hx1]
    by_cases c1 : y.1 = 1
    · obtain ⟨_, p2, _⟩ := h3 (by omega)
      rw [if_neg (fun h => h c1), if_pos (by omega), p2, if_pos (by omega), if_pos c1, List.drop_eq_nil_of_le (by omega)]
      rw [show qT [] = 0 from rfl, Nat.or_zero]
    · rw [if_pos c1, if_neg c1, Nat.or_zero]
  | succ k ih =>
    intro j fu a hk hfu ha
    obtain ⟨fu, rfl⟩ : ∃ t, fu = t + 1 := ⟨fu - 1, by omega⟩
    have hj : j < y.2.2.2.1.length := by omega
    have hx2 : xwr (xwr ((x : Int) * 4) + (j : Int)) = ((4 * x + j : Nat) : Int) := by rw [xwr_g ((x : Int) * 4) (by omega) (by omega), xwr_g _ (by omega) (by omega)]; omega
    have hx3 : xwr ((j : Int) + 1) = ((j + 1 : Nat) : Int) := by rw [xwr_g _ (by omega) (by omega)]; omega
    show g257_25b r4 (g257_25 r4 f fu) f _ _ _ _ _ _ _ = _
    unfold g257_25b g257_88 g257_82
    rw [if_pos (by omega), Int.toNat_natCast, h1, hx1]
    by_cases c1 : y.1 = 1
    · obtain ⟨_, p2, p3⟩ := h3 (by omega)
      obtain ⟨q1, q2⟩ := p3 j hj
      have hd : y.2.2.2.1.drop j = y.2.2.2.1.getD j (0, 0) :: y.2.2.2.1.drop (j + 1) := by rw [getD_e hj]; exact List.drop_eq_getElem_cons hj
      have hm : y.2.2.2.1.getD j (0, 0) ∈ y.2.2.2.1 := by rw [getD_e hj]; exact List.getElem_mem hj
      have hwt : wT1 nv (y.2.2.2.1.getD j (0, 0)) := by
        rcases hw with q | q
        · exact q.2.2.2.2.2 _ hm
        · omega
      rw [if_neg (fun h => h c1), if_pos (by omega), p2, if_neg (by omega), hx2, if_pos (by omega), Int.toNat_natCast, q1, hx3, if_pos c1, hd]
      show _ = r4 o (r : Int) ((a ||| ((if (y.2.2.2.1.getD j (0, 0)).1 = 1 then 2 ^ (y.2.2.2.1.getD j (0, 0)).2.toNat else 0) ||| qT (y.2.2.2.1.drop (j + 1))) : Nat) : Int) _ G
      by_cases c2 : (y.2.2.2.1.getD j (0, 0)).1 = 1
      · have hb : 0 ≤ (y.2.2.2.1.getD j (0, 0)).2 ∧ (y.2.2.2.1.getD j (0, 0)).2 < nv := by
          rcases hwt with q | q | q
          · exact q.2
          · omega
          · omega
        rw [if_neg (fun h => h c2), if_pos (by omega), q2 (by omega), xwr_g _ (by omega) (by omega), if_pos c2]
        have e2 : (y.2.2.2.1.getD j (0, 0)).2 = (((y.2.2.2.1.getD j (0, 0)).2.toNat : Nat) : Int) := by omega
        rw [show xshl 1 (y.2.2.2.1.getD j (0, 0)).2 = xshl 1 (((y.2.2.2.1.getD j (0, 0)).2.toNat : Nat) : Int) by rw [← e2], xorb (by omega) (by omega)]
        have := ih (j + 1) fu (a ||| 2 ^ (y.2.2.2.1.getD j (0, 0)).2.toNat) (by omega) (by omega) (or_lt ha (by omega))
        rw [this, if_pos c1, Nat.or_assoc]
      · rw [if_pos c2, if_neg c2, Nat.zero_or]
        have := ih (j + 1) fu a (by omega) (by omega) ha
        rw [this, if_pos c1]
    · rw [if_pos c1, if_neg c1, Nat.or_zero]
end
end
section
/-! FAULTS of the reference: what is BOUND, all of it -/
theorem xsubq {a b : Nat} (ha : a < 2 ^ 8) (hb : b < 2 ^ 8) : xand (a : Int) (xxor (b : Int) (-1)) = 0 ↔ qSub a b := by
  rw [xsub (by omega) (by omega), qSub_t]
theorem rsc61 {s : Int} (h : isCs s) : rsc s = 61 ↔ s = 61 := by
  unfold isCs at h
  unfold rsc
  split <;> omega
theorem wSt_ne {Q : pCd} (h : wSt 0 Q = some 1) : 1 ≤ Q.length := by
  cases Q with
  | nil => exact absurd h (by decide)
  | cons x q => exact Nat.succ_pos _
theorem xorm {a b : Nat} (ha : a < 2 ^ 8) (hb : b < 2 ^ 8) : xor_ (a : Int) (b : Int) = ((a ||| b : Nat) : Int) := xor_nat (by omega) (by omega)
section
variable {f o r c nv np : Nat} {G : xG_} {l : List pLt}
/-- a side of an =: it stands alone, the other side is BOUND -/
theorem l_side {α : Type} {Q R : pCd} {s : Nat} (K : Int → xG_ → α) (hs : s < 2 ^ 8) (hQ : wC nv Q) (hR : wC nv R) (hv : nv ≤ 8) :
    (if (if Q.length = 1 ∧ (Q.getD 0 (0, 0)).1 = 2 then (1 : Int) else 0) = 0 then K (s : Int) G else (if ¬ xand (qVm R : Int) (xxor (s : Int) (-1)) = 0 then K (s : Int) G else K (xor_ (s : Int) (qVm Q : Int)) G)) = K ((if qAl2 Q ∧ qSub (qVm R) s then s ||| qVm Q else s : Nat) : Int) G := by
  have l1 := qVm_lt hQ hv
  have l2 := qVm_lt hR hv
  by_cases c1 : qAl2 Q
  · rw [if_pos c1, if_neg (by decide)]
    by_cases c2 : qSub (qVm R) s
    · rw [if_neg (fun h => h ((xsubq l2 hs).mpr c2)), if_pos ⟨c1, c2⟩, xorm hs l1]
    · rw [if_pos (fun h => c2 ((xsubq l2 hs).mp h)), if_neg (fun h => c2 h.2)]
  · rw [if_neg c1, if_pos rfl, if_neg (fun h => c1 h.1)]
theorem l_227 {r96 : Nat → Int → Int → Int → xG_ → Option (Int × xG_)} {r106 : Nat → Int → Int → Int → Int → xG_ → Option (Int × xG_)} {w : Int} {y : pLt} {i x s : Nat} (hx : x < 200) (hi : i < 8) (hc : c ≤ 6200) (hy : rLt G o x c y) (c1 : y.1 = 3) (hw : wLt np nv y) (hv : nv ≤ 8) (hs : s < 2 ^ 8) : g257_227 r96 r106 f o (r : Int) (s : Int) w (i : Int) (x : Int) (qVm y.2.2.2.2.1 : Int) (qVm y.2.2.2.2.2 : Int) G = r106 o (r : Int) ((qR1 y s : Nat) : Int) w ((i + 1 : Nat) : Int) G := by
  obtain ⟨z1, a, z2, z3, z4, z5, z6, z7⟩ := hy.2.2.2 c1
  have hx3 : xwr ((i : Int) + 1) = ((i + 1 : Nat) : Int) := by rw [xwr_g _ (by omega) (by omega)]; omega
  have hb : (0 : Int) ≤ (x : Int) ∧ (x : Int) < 200 := by omega
  rcases hw with q | q
  · have := q.1; omega
  obtain ⟨_, _, ⟨q3, q3l⟩, ⟨q4, q4l⟩⟩ := q
  unfold g257_227 g257_262
  rw [if_pos hb, if_pos hb, Int.toNat_natCast, z3, z4, l_alone z7 (by omega) (wSt_ne q4l), hx3]
  exact l_side (G := G) (fun t G => r106 o (r : Int) t w ((i + 1 : Nat) : Int) G) hs q4 q3 hv
/-- one = and what comes after it -/
theorem l_106 {r96 : Nat → Int → Int → Int → xG_ → Option (Int × xG_)} {w : Int} (hf : 6300 < f) (hr : r < 25) (hc : c ≤ 6200) (hL : rLs G o r c l) (hw : ∀ y ∈ l, wLt np nv y) (hv : nv ≤ 8) : ∀ (k i fu s : Nat), i + k = l.length → k < fu → s < 2 ^ 8 → g257_106 r96 f fu o (r : Int) (s : Int) w (i : Int) G = r96 o (r : Int) ((qSt (l.drop i) s : Nat) : Int) w G := by
  obtain ⟨h1, h2, h3⟩ := hL
  intro k
  induction k with
  | zero =>
    intro i fu s hk hfu hs
    obtain ⟨fu, rfl⟩ : ∃ t, fu = t + 1 := ⟨fu - 1, by omega⟩
    show g257_106b r96 (g257_106 r96 f fu) f _ _ _ _ _ _ = _
    unfold g257_106b
    rw [if_pos (by omega), Int.toNat_natCast, h1, if_pos (by omega), List.drop_eq_nil_of_le (by omega)]
    rfl
  | succ k ih =>
    intro i fu s hk hfu hs
    obtain ⟨fu, rfl⟩ : ∃ t, fu = t + 1 := ⟨fu - 1, by omega⟩
    have hi : i < l.length := by omega
    have hy := h3 i hi
    have hd : l.drop i = l.getD i dLt :: l.drop (i + 1) := by rw [getD_e hi]; exact List.drop_eq_getElem_cons hi
    have hm : l.getD i dLt ∈ l := by rw [getD_e hi]; exact List.getElem_mem hi
    have hwy := hw _ hm
    have hx2 : xwr (xwr ((r : Int) * 8) + (i : Int)) = ((8 * r + i : Nat) : Int) := by rw [xwr_g ((r : Int) * 8) (by omega) (by omega), xwr_g _ (by omega) (by omega)]; omega
    have hx3 : xwr ((i : Int) + 1) = ((i + 1 : Nat) : Int) := by rw [xwr_g _ (by omega) (by omega)]; omega
    have hq := (qS1_lt hwy hv hs).1
    have ih := fun s hs => ih (i + 1) fu s (by omega) (by omega) hs
    rw [hd]
    show _ = r96 o (r : Int) ((qSt (l.drop (i + 1)) (qS1 (l.getD i dLt) s) : Nat) : Int) w G
    generalize l.getD i dLt = y at hy hwy hq
    have hy' := hy
    obtain ⟨y1, y2, y3, y4⟩ := hy
    have hb : (0 : Int) ≤ ((8 * r + i : Nat) : Int) ∧ ((8 * r + i : Nat) : Int) < 200 := by omega
    show g257_106b r96 (g257_106 r96 f fu) f _ _ _ _ _ _ = _
    unfold g257_106b
    rw [if_pos (by omega), Int.toNat_natCast, h1, if_neg (by omega), hx2, if_pos hb, Int.toNat_natCast, y1]
    by_cases c1 : y.1 = 3
    · obtain ⟨z1, a, z2, z3, z4, z5, z6, z7⟩ := y4 c1
      have hwy' := hwy
      rcases hwy with q | q
      · have := q.1; omega
      obtain ⟨_, q2, ⟨q3, q3l⟩, ⟨q4, q4l⟩⟩ := q
      rw [if_neg (fun h => h c1), if_pos hb, z1]
      by_cases c2 : y.2.1 = 61
      · have c3 : y.1 = 3 ∧ y.2.1 = 61 := And.intro c1 c2
        have e1 : qS1 y s = qR1 y (qL1 y s) := by unfold qS1; rw [if_pos c3]
        rw [e1] at hq ⊢
        have l1 := qVm_lt q3 hv
        have g1 : qL1 y s < 2 ^ 8 := by
          unfold qL1
          split
          · exact Nat.or_lt_two_pow hs l1
          · exact hs
        rw [if_pos ((rsc61 q2).mpr c2), if_pos hb, if_pos hb, z2, z3, l_vof hf q3 hv z6 (by omega), Option.bind_some]
        rw [if_pos hb, if_pos hb]
        show Option.bind (g255 f o (G (o + 29) (8 * r + i)) (G (o + 30) (8 * r + i)) G) _ = _
        rw [z3, z4, l_vof hf q4 hv z7 (by omega), Option.bind_some, if_pos hb, if_pos hb]
        show Option.bind (g256 f o (G (o + 28) (8 * r + i)) (G (o + 29) (8 * r + i)) G) _ = _
        rw [z2, z3, l_alone z6 (by omega) (wSt_ne q3l), Option.bind_some]
        have := l_side (G := G) (fun t G => g257_227 r96 (g257_106 r96 f fu) f o (r : Int) t w (i : Int) ((8 * r + i : Nat) : Int) (qVm y.2.2.2.2.1 : Int) (qVm y.2.2.2.2.2 : Int) G) hs q3 q4 hv
        refine Eq.trans this ?_
        have e2 := l_227 (r := r) (r96 := r96) (r106 := g257_106 r96 f fu) (w := w) (f := f) (i := i) (x := 8 * r + i) (by omega) (by omega) hc hy' c1 hwy' hv g1
        refine Eq.trans e2 ?_
        exact ih _ hq
      · rw [if_neg (fun h => c2 ((rsc61 q2).mp h))]
        have e1 : qS1 y s = s := by unfold qS1; rw [if_neg (fun h => c2 h.2)]
        unfold g257_262
        rw [e1, hx3]
        exact ih s hs
    · rw [if_pos c1]
      have e1 : qS1 y s = s := by unfold qS1; rw [if_neg (fun h => c1 h.1)]
      unfold g257_262
      rw [e1, hx3]
      exact ih s hs
/-- until nothing more is BOUND -/
theorem l_96 (hf : 6300 < f) (hr : r < 25) (hc : c ≤ 6200) (hL : rLs G o r c l) (hw : ∀ y ∈ l, wLt np nv y) (hv : nv ≤ 8) : ∀ (k fu s : Nat) (w : Int), 256 ≤ s + k → k + 1 < fu → s < 2 ^ 8 → w ≠ (s : Int) → g257_96 f fu o (r : Int) (s : Int) w G = some ((qIt l k s : Int), G) := by
  intro k
  induction k with
  | zero => intro fu s w h1 h2 h3 h4; omega
  | succ k ih =>
    intro fu s w h1 h2 h3 h4
    obtain ⟨fu, rfl⟩ : ∃ t, fu = t + 1 := ⟨fu - 1, by omega⟩
    show g257_96b (g257_96 f fu) f _ _ _ _ _ = _
    unfold g257_96b
    have h8 := hL.2.1
    have e := l_106 (r96 := g257_96 f fu) (w := (s : Int)) hf hr hc hL hw hv l.length 0 f s (by omega) (by omega) h3
    rw [List.drop_zero] at e
    have hg := qSt_lt hw hv s h3
    rw [if_neg h4]
    refine Eq.trans e ?_
    show _ = some (((if qSt l s = s then s else qIt l k (qSt l s) : Nat) : Int), G)
    by_cases c1 : qSt l s = s
    · rw [if_pos c1, c1]
      obtain ⟨fu, rfl⟩ : ∃ t, fu = t + 1 := ⟨fu - 1, by omega⟩
      show g257_96b (g257_96 f fu) f _ _ _ _ _ = _
      unfold g257_96b
      rw [if_pos rfl]
    · rw [if_neg c1]
      exact ih fu (qSt l s) s (by omega) (by omega) hg.1 (by omega)
/-- all ATOMS, then the rest -/
theorem l_4 (hf : 6300 < f) (hr : r < 25) (hc : c ≤ 6200) (hL : rLs G o r c l) (hw : ∀ y ∈ l, wLt np nv y) (hv : nv ≤ 8) : ∀ (k i fu a : Nat), i + k = l.length → k < fu → a < 2 ^ 8 → g257_4 f fu o (r : Int) (a : Int) (i : Int) G = some ((qIt l 256 (a ||| qA (l.drop i)) : Int), G) := by
  intro k
  induction k with
  | zero =>
    intro i fu a hk hfu ha
    obtain ⟨fu, rfl⟩ : ∃ t, fu = t + 1 := ⟨fu - 1, by omega⟩
    show g257_4b (g257_4 f fu) f _ _ _ _ _ = _
    unfold g257_4b
    rw [if_pos (by omega), Int.toNat_natCast, hL.1, if_pos (by omega), List.drop_eq_nil_of_le (by omega)]
    show _ = some ((qIt l 256 (a ||| 0) : Int), G)
    rw [Nat.or_zero]
    exact l_96 hf hr hc hL hw hv 256 f a (-1) (by omega) (by omega) ha (by omega)
  | succ k ih =>
    intro i fu a hk hfu ha
    obtain ⟨fu, rfl⟩ : ∃ t, fu = t + 1 := ⟨fu - 1, by omega⟩
    have h8 := hL.2.1
    have hi : i < l.length := by omega
    have hy := hL.2.2 i hi
    have hd : l.drop i = l.getD i dLt :: l.drop (i + 1) := by rw [getD_e hi]; exact List.drop_eq_getElem_cons hi
    have hm : l.getD i dLt ∈ l := by rw [getD_e hi]; exact List.getElem_mem hi
    have hwy := hw _ hm
    have hx2 : xwr (xwr ((r : Int) * 8) + (i : Int)) = ((8 * r + i : Nat) : Int) := by rw [xwr_g ((r : Int) * 8) (by omega) (by omega), xwr_g _ (by omega) (by omega)]; omega
    show g257_4b (g257_4 f fu) f _ _ _ _ _ = _
    unfold g257_4b
    rw [if_pos (by omega), Int.toNat_natCast, hL.1, if_neg (by omega), hx2, hd]
    have e := l_t25 (f := f) (r := r) (G := G) (r4 := g257_4 f fu) (i := i) (x := 8 * r + i) (by omega) (by omega) hy hwy hv (l.getD i dLt).2.2.2.1.length 0 f a (by omega) (by have := hy.2.1; omega) ha
    refine Eq.trans e ?_
    rw [List.drop_zero]
    have hlt : (if (l.getD i dLt).1 = 1 then qT (l.getD i dLt).2.2.2.1 else 0) < 2 ^ 8 := by
      split
      · rename_i c0
        rcases hwy with q | q
        · exact qT_lt q.2.2.2.2.2 hv
        · omega
      · decide
    refine Eq.trans (ih (i + 1) fu _ (by omega) (by omega) (Nat.or_lt_two_pow ha hlt)) ?_
    show _ = some ((qIt l 256 (a ||| ((if (l.getD i dLt).1 = 1 then qT (l.getD i dLt).2.2.2.1 else 0) ||| qA (l.drop (i + 1)))) : Int), G)
    rw [Nat.or_assoc]
theorem l_bd (hf : 6300 < f) (hr : r < 25) (hc : c ≤ 6200) (hL : rLs G o r c l) (hw : ∀ y ∈ l, wLt np nv y) (hv : nv ≤ 8) : g257 f o (r : Int) G = some ((qBd l : Int), G) := by
  have h8 := hL.2.1
  have e := l_4 hf hr hc hL hw hv l.length 0 f 0 (by omega) (by omega) (by decide)
  rw [List.drop_zero, Nat.zero_or] at e
  exact e
end
end
section
/-! FAULTS of the reference: kind 4 -/
theorem qIt_lt {np nv : Nat} {l : List pLt} (h : ∀ y ∈ l, wLt np nv y) (hv : nv ≤ 8) : ∀ k s, s < 2 ^ 8 → qIt l k s < 2 ^ 8 := by
  intro k
  induction k with
  | zero => intro s hs; exact hs
  | succ k ih =>
    intro s hs
    show (if qSt l s = s then s else qIt l k (qSt l s)) < 2 ^ 8
    split
    · exact hs
    · exact ih _ (qSt_lt h hv s hs).1
theorem qBd_lt {np nv : Nat} {l : List pLt} (h : ∀ y ∈ l, wLt np nv y) (hv : nv ≤ 8) : qBd l < 2 ^ 8 := qIt_lt h hv _ _ (qA_lt h hv)
section
variable {f o q r c nv np : Nat} {l : List pLt} {V : List (Int × Nat)}
theorem rVs.f26 {G G' : xG_} (h : rVs G o q r V) (ho : 0 < o) (hf : xf26 G G') : rVs G' o q r V := ⟨by rw [hf _ _ (by omega)]; exact h.1, h.2.1, fun v hv => by rw [hf _ _ (by omega), hf _ _ (by omega)]; exact h.2.2 v hv⟩
def isF4 (V : List (Int × Nat)) (l : List pLt) (v : Nat) : Prop := v < V.length ∧ (qBd l).testBit v = false
theorem l_258 {b : Nat} (ho : 0 < o) (hr : r < 25) (hb : b < 2 ^ 8) : ∀ (k v fu : Nat) (G : xG_) (S : Int → Int → Prop), v + k = V.length → k < fu → rVs G o q r V → rF G S → ∃ G', g258_9 f fu o (r : Int) (b : Int) (v : Int) G = some G' ∧ xf26 G G' ∧ rF G' (fun k a => S k a ∨ k = 4 ∧ ∃ y, v ≤ y ∧ y < V.length ∧ b.testBit y = false ∧ a = (q : Int) + (V.getD y (0, 0)).2) := by
  intro k
  induction k with
  | zero =>
    intro v fu G S h1 h2 hV hF
    obtain ⟨fu, rfl⟩ : ∃ t, fu = t + 1 := ⟨fu - 1, by omega⟩
    refine ⟨G, ?_, xf26.rf _, hF.iff (fun k a => ⟨fun h => Or.inl h, fun h => h.elim id (fun h => absurd h.2 (fun ⟨y, a1, a2, _⟩ => by omega))⟩)⟩
    show g258_9b (g258_9 f fu) f _ _ _ _ _ = _
    unfold g258_9b
    rw [if_pos (by omega), Int.toNat_natCast, hV.1, if_pos (by omega)]
  | succ k ih =>
    intro v fu G S h1 h2 hV hF
    obtain ⟨fu, rfl⟩ : ∃ t, fu = t + 1 := ⟨fu - 1, by omega⟩
    have h8 := hV.2.1
    have hx2 : xwr (xwr ((r : Int) * 8) + (v : Int)) = ((8 * r + v : Nat) : Int) := by rw [xwr_g ((r : Int) * 8) (by omega) (by omega), xwr_g _ (by omega) (by omega)]; omega
    have hx3 : xwr ((v : Int) + 1) = ((v + 1 : Nat) : Int) := by rw [xwr_g _ (by omega) (by omega)]; omega
    have hp := (hV.2.2 v (by omega)).2
    cases hbt : b.testBit v with
    | true =>
      obtain ⟨G', e1, e2, e3⟩ := ih (v + 1) fu G S (by omega) (by omega) hV hF
      refine ⟨G', ?_, e2, e3.iff (fun k a => ?_)⟩
      · show g258_9b (g258_9 f fu) f _ _ _ _ _ = _
        unfold g258_9b g258_46
        rw [if_pos (by omega), Int.toNat_natCast, hV.1, if_neg (by omega), if_pos (fun h => by rw [xbit0 (by omega) (by omega), hbt] at h; exact absurd h (by decide)), hx3]
        exact e1
      · constructor
        · rintro (h | ⟨h, y, a1, a2, a3, a4⟩)
          · exact Or.inl h
          · exact Or.inr ⟨h, y, by omega, a2, a3, a4⟩
        · rintro (h | ⟨h, y, a1, a2, a3, a4⟩)
          · exact Or.inl h
          · by_cases cy : y = v
            · rw [cy, hbt] at a3; exact absurd a3 (by decide)
            · exact Or.inr ⟨h, y, by omega, a2, a3, a4⟩
    | false =>
      obtain ⟨G1, d1, d2, d3⟩ := l_faulty (f := f) (k := 4) (a := (q : Int) + (V.getD v (0, 0)).2) (by decide) hF
      obtain ⟨G', e1, e2, e3⟩ := ih (v + 1) fu G1 _ (by omega) (by omega) (hV.f26 ho d3) d2
      refine ⟨G', ?_, d3.tr e2, e3.iff (fun k a => ?_)⟩
      · show g258_9b (g258_9 f fu) f _ _ _ _ _ = _
        unfold g258_9b g258_46
        rw [if_pos (by omega), Int.toNat_natCast, hV.1, if_neg (by omega), if_neg (fun h => h (by rw [xbit0 (by omega) (by omega)]; exact hbt)), hx2, if_pos (by omega), Int.toNat_natCast, hp, d1, Option.bind_some, hx3]
        exact e1
      · constructor
        · rintro ((h | ⟨h, h'⟩) | ⟨h, y, a1, a2, a3, a4⟩)
          · exact Or.inl h
          · exact Or.inr ⟨h, v, Nat.le_refl _, by omega, hbt, h'⟩
          · exact Or.inr ⟨h, y, by omega, a2, a3, a4⟩
        · rintro (h | ⟨h, y, a1, a2, a3, a4⟩)
          · exact Or.inl (Or.inl h)
          · by_cases cy : y = v
            · rw [cy] at a4; exact Or.inl (Or.inr ⟨h, a4⟩)
            · exact Or.inr ⟨h, y, by omega, a2, a3, a4⟩
theorem l_unsafe {G : xG_} {S : Int → Int → Prop} (hf : 6300 < f) (ho : 0 < o) (hr : r < 25) (hc : c ≤ 6200) (hL : rLs G o r c l) (hV : rVs G o q r V) (hw : ∀ y ∈ l, wLt np V.length y) (hF : rF G S) : ∃ G', g258 f o (r : Int) G = some G' ∧ xf26 G G' ∧ rF G' (fun k a => S k a ∨ k = 4 ∧ ∃ v, isF4 V l v ∧ a = (q : Int) + (V.getD v (0, 0)).2) := by
  have hv := hV.2.1
  obtain ⟨G', e1, e2, e3⟩ := l_258 (f := f) (b := qBd l) ho hr (qBd_lt hw hv) V.length 0 f G S (by omega) (by omega) hV hF
  refine ⟨G', ?_, e2, e3.iff (fun k a => ?_)⟩
  · unfold g258
    rw [l_bd hf hr hc hL hw hv, Option.bind_some]
    exact e1
  · constructor
    · rintro (h | ⟨h, y, a1, a2, a3, a4⟩)
      · exact Or.inl h
      · exact Or.inr ⟨h, y, ⟨a2, a3⟩, a4⟩
    · rintro (h | ⟨h, y, ⟨a2, a3⟩, a4⟩)
      · exact Or.inl h
      · exact Or.inr ⟨h, y, Nat.zero_le _, a2, a3, a4⟩
end
end
section
/-! RINGS of the reference: who reads whom -/
def qRg (T : Nat → Nat) (x : Nat) : Nat → Nat → Nat
  | 0, c => c
  | k + 1, c => qRg T x k (if (T x).testBit k = true ∧ (T k).testBit x = true then k else c)
def qRing (T : Nat → Nat) (x : Nat) : Nat := qRg T x x x
def qW1 (T : Nat → Nat) (m i p : Nat) : Nat := if p < i ∧ (T p).testBit m = true then T p ||| T m else T p
def qWm (np : Nat) (T : Nat → Nat) : Nat → Nat → Nat
  | 0 => T
  | k + 1 => qW1 (qWm np T k) k np
def rMk (G : xG_) (x np : Nat) (T : Nat → Nat) : Prop := ∀ p, p < np → G x p = (T p : Int)
abbrev b16 (T : Nat → Nat) : Prop := ∀ p, T p < 2 ^ 16
theorem qW1_lt {T : Nat → Nat} {m i : Nat} (h : b16 T) : b16 (qW1 T m i) := by
  intro p
  unfold qW1
  split
  · exact Nat.or_lt_two_pow (h p) (h m)
  · exact h p
theorem qWm_lt {np : Nat} {T : Nat → Nat} (h : b16 T) : ∀ k, b16 (qWm np T k) := by
  intro k
  induction k with
  | zero => exact h
  | succ k ih => exact qW1_lt ih
theorem xl1 : ((xl_t 1).2.2 : Int) = 16 := by decide +kernel
section
variable {f o np : Nat} {T : Nat → Nat}
/-- the least of a RING -/
theorem l_207 {r187 : Nat → Nat → Int → xG_ → Option xG_} {x : Nat} (hT : b16 T) (hnp : np ≤ 16) (hx : x < np) (ho : 1 < o) : ∀ (k fu c : Nat) (G : xG_), k ≤ x → k < fu → rMk G 1 np T → G (o + 5) x = (c : Int) → ∃ G', g259_207 r187 f fu o 1 (x : Int) ((k : Int) - 1) G = r187 o 1 ((x + 1 : Nat) : Int) G' ∧ G' (o + 5) x = (qRg T x k c : Int) ∧ ∀ a j, ¬ (a = o + 5 ∧ j = x) → G' a j = G a j := by
  have hx1 : xwr ((x : Int) + 1) = ((x + 1 : Nat) : Int) := by rw [xwr_g _ (by omega) (by omega)]; omega
  intro k
  induction k with
  | zero =>
    intro fu c G h1 h2 hM hc
    obtain ⟨fu, rfl⟩ : ∃ t, fu = t + 1 := ⟨fu - 1, by omega⟩
    refine ⟨G, ?_, hc, fun _ _ _ => rfl⟩
    show g259_207b r187 (g259_207 r187 f fu) f _ _ _ _ _ = _
    unfold g259_207b
    rw [if_pos (by omega), hx1]
  | succ k ih =>
    intro fu c G h1 h2 hM hc
    obtain ⟨fu, rfl⟩ : ∃ t, fu = t + 1 := ⟨fu - 1, by omega⟩
    have e0 : (((k + 1 : Nat) : Int) - 1) = (k : Int) := by omega
    have ek : xwr ((k : Int) + -1) = (k : Int) - 1 := by rw [xwr_g _ (by omega) (by omega)]; omega
    have m1 := hM x hx
    have m2 := hM k (by omega)
    have t1 := hT x
    have t2 := hT k
    rw [e0]
    show ∃ G', g259_207b r187 (g259_207 r187 f fu) f o 1 (x : Int) (k : Int) G = _ ∧ _
    unfold g259_207b g259_244
    rw [if_neg (by omega), xl1, if_pos (by omega), Int.toNat_natCast, m1, Int.toNat_natCast, m2]
    by_cases c1 : (T x).testBit k = true
    · rw [if_neg (fun h => h ((xbit (by omega) (by omega)).mpr c1)), if_pos (by omega)]
      by_cases c2 : (T k).testBit x = true
      · have c3 : (T x).testBit k = true ∧ (T k).testBit x = true := And.intro c1 c2
        rw [if_neg (fun h => h ((xbit (by omega) (by omega)).mpr c2)), if_pos (by omega), Option.bind_some, ek]
        obtain ⟨G', e1, e2, e3⟩ := ih fu k (xup2 G (o + 5) x (k : Int)) (by omega) (by omega) (fun p hp => by rw [xup2_n (by omega)]; exact hM p hp) (xup2_s _ _ _ _)
        refine ⟨G', e1, ?_, fun a j hj => by rw [e3 a j hj, xup2_n (by omega)]⟩
        show _ = ((qRg T x k (if (T x).testBit k = true ∧ (T k).testBit x = true then k else c) : Nat) : Int)
        rw [if_pos c3]; exact e2
      · rw [if_pos (fun h => c2 ((xbit (by omega) (by omega)).mp h)), ek]
        obtain ⟨G', e1, e2, e3⟩ := ih fu c G (by omega) (by omega) hM hc
        refine ⟨G', e1, ?_, e3⟩
        show _ = ((qRg T x k (if (T x).testBit k = true ∧ (T k).testBit x = true then k else c) : Nat) : Int)
        rw [if_neg (fun h => c2 h.2)]; exact e2
    · rw [if_pos (fun h => c1 ((xbit (by omega) (by omega)).mp h)), ek]
      obtain ⟨G', e1, e2, e3⟩ := ih fu c G (by omega) (by omega) hM hc
      refine ⟨G', e1, ?_, e3⟩
      show _ = ((qRg T x k (if (T x).testBit k = true ∧ (T k).testBit x = true then k else c) : Nat) : Int)
      rw [if_neg (fun h => c1 h.1)]; exact e2
theorem l_187 (hf : 100 < f) (hT : b16 T) (hnp : np ≤ 16) (ho : 1 < o) : ∀ (k x fu : Nat) (G : xG_), x + k = np → k < fu → G o 8 = (np : Int) → rMk G 1 np T → ∃ G', g259_187 f fu o 1 (x : Int) G = some G' ∧ (∀ y, x ≤ y → y < np → G' (o + 5) y = (qRing T y : Int)) ∧ ∀ a j, ¬ (a = o + 5 ∧ x ≤ j) → G' a j = G a j := by
  intro k
  induction k with
  | zero =>
    intro x fu G h1 h2 h8 hM
    obtain ⟨fu, rfl⟩ : ∃ t, fu = t + 1 := ⟨fu - 1, by omega⟩
    refine ⟨G, ?_, fun y _ _ => by omega, fun _ _ _ => rfl⟩
    show g259_187b (g259_187 f fu) f _ _ _ _ = _
    unfold g259_187b
    rw [h8, if_pos (by omega)]
  | succ k ih =>
    intro x fu G h1 h2 h8 hM
    obtain ⟨fu, rfl⟩ : ∃ t, fu = t + 1 := ⟨fu - 1, by omega⟩
    have ek : xwr ((x : Int) - 1) = (x : Int) - 1 := by rw [xwr_g _ (by omega) (by omega)]
    obtain ⟨G1, e1, e2, e3⟩ := l_207 (f := f) (r187 := g259_187 f fu) (x := x) hT hnp (by omega) ho x f x (xup2 G (o + 5) x (x : Int)) (Nat.le_refl _) (by omega) (fun p hp => by rw [xup2_n (by omega)]; exact hM p hp) (xup2_s _ _ _ _)
    obtain ⟨G', d1, d2, d3⟩ := ih (x + 1) fu G1 (by omega) (by omega) (by rw [e3 _ _ (by omega), xup2_n (by omega)]; exact h8) (fun p hp => by rw [e3 _ _ (by omega), xup2_n (by omega)]; exact hM p hp)
    refine ⟨G', ?_, fun y a1 a2 => ?_, fun a j hj => by rw [d3 _ _ (by omega), e3 _ _ (by omega), xup2_n (by omega)]⟩
    · show g259_187b (g259_187 f fu) f _ _ _ _ = _
      unfold g259_187b
      rw [h8, if_neg (by omega), if_pos (by omega), Option.bind_some, Int.toNat_natCast, ek]
      exact Eq.trans e1 d1
    · by_cases cy : y = x
      · rw [cy, d3 _ _ (by omega)]; exact e2
      · exact d2 y (by omega) a2
/-- one step of the closure -/
theorem l_142 {r131 : Nat → Nat → Int → xG_ → Option xG_} {m : Nat} (hT : b16 T) (hnp : np ≤ 16) (hm : m < np) (ho : 1 < o) : ∀ (k i fu : Nat) (G : xG_), i + k = np → k < fu → G o 8 = (np : Int) → rMk G 1 np (qW1 T m i) → ∃ G', g259_142 r131 f fu o 1 (m : Int) (i : Int) G = r131 o 1 ((m + 1 : Nat) : Int) G' ∧ rMk G' 1 np (qW1 T m np) ∧ ∀ a j, a ≠ 1 → G' a j = G a j := by
  have hx1 : xwr ((m : Int) + 1) = ((m + 1 : Nat) : Int) := by rw [xwr_g _ (by omega) (by omega)]; omega
  intro k
  induction k with
  | zero =>
    intro i fu G h1 h2 h8 hM
    obtain ⟨fu, rfl⟩ : ∃ t, fu = t + 1 := ⟨fu - 1, by omega⟩
    have hi : i = np := by omega
    rw [hi] at hM
    refine ⟨G, ?_, hM, fun _ _ _ => rfl⟩
    show g259_142b r131 (g259_142 r131 f fu) f _ _ _ _ _ = _
    unfold g259_142b
    rw [h8, if_pos (by omega), hx1]
  | succ k ih =>
    intro i fu G h1 h2 h8 hM
    obtain ⟨fu, rfl⟩ : ∃ t, fu = t + 1 := ⟨fu - 1, by omega⟩
    have ek : xwr ((i : Int) + 1) = ((i + 1 : Nat) : Int) := by rw [xwr_g _ (by omega) (by omega)]; omega
    have t1 := hT i
    have t2 := hT m
    have m1 : G 1 i = (T i : Int) := by rw [hM i (by omega)]; unfold qW1; rw [if_neg (by omega)]
    have m2 : G 1 m = (T m : Int) := by rw [hM m hm]; unfold qW1; split
                                        · rw [Nat.or_self]
                                        · rfl
    have ne : ∀ p, p ≠ i → qW1 T m (i + 1) p = qW1 T m i p := by
      intro p hp
      unfold qW1
      by_cases cp : p < i
      · have : p < i + 1 := by omega
        simp only [cp, this]
      · have : ¬ p < i + 1 := by omega
        simp only [cp, this]
    show ∃ G', g259_142b r131 (g259_142 r131 f fu) f o 1 (m : Int) (i : Int) G = _ ∧ _
    unfold g259_142b g259_173
    rw [h8, if_neg (by omega), xl1, if_pos (by omega), Int.toNat_natCast, m1, Int.toNat_natCast, m2, ek]
    by_cases c1 : (T i).testBit m = true
    · rw [if_neg (fun h => h ((xbit (by omega) (by omega)).mpr c1)), if_pos (by omega), if_pos (by omega), if_pos (by omega), Option.bind_some, xor_nat (by omega) (by omega)]
      obtain ⟨G', e1, e2, e3⟩ := ih (i + 1) fu (xup2 G 1 i ((T i ||| T m : Nat) : Int)) (by omega) (by omega) (by rw [xup2_n (by omega)]; exact h8) (fun p hp => by
        by_cases cp : p = i
        · have hc : i < i + 1 ∧ (T i).testBit m = true := And.intro (by omega) c1
          rw [cp, xup2_s]; unfold qW1; rw [if_pos hc]
        · rw [xup2_n (by omega), ne p cp]; exact hM p hp)
      exact ⟨G', e1, e2, fun a j hj => by rw [e3 a j hj, xup2_n (by omega)]⟩
    · rw [if_pos (fun h => c1 ((xbit (by omega) (by omega)).mp h))]
      obtain ⟨G', e1, e2, e3⟩ := ih (i + 1) fu G (by omega) (by omega) h8 (fun p hp => by
        by_cases cp : p = i
        · rw [cp, m1]; unfold qW1; rw [if_neg (fun h => c1 h.2)]
        · rw [ne p cp]; exact hM p hp)
      exact ⟨G', e1, e2, e3⟩
theorem l_131 (hf : 100 < f) (hT : b16 T) (hnp : np ≤ 16) (ho : 1 < o) : ∀ (k m fu : Nat) (G : xG_), m + k = np → k < fu → G o 8 = (np : Int) → rMk G 1 np (qWm np T m) → ∃ G', g259_131 f fu o 1 (m : Int) G = some G' ∧ (∀ y, y < np → G' (o + 5) y = (qRing (qWm np T np) y : Int)) ∧ ∀ a j, a ≠ 1 → a ≠ o + 5 → G' a j = G a j := by
  intro k
  induction k with
  | zero =>
    intro m fu G h1 h2 h8 hM
    obtain ⟨fu, rfl⟩ : ∃ t, fu = t + 1 := ⟨fu - 1, by omega⟩
    have hi : m = np := by omega
    rw [hi] at hM
    obtain ⟨G', e1, e2, e3⟩ := l_187 hf (qWm_lt hT np) hnp ho np 0 f G (by omega) (by omega) h8 hM
    refine ⟨G', ?_, fun y hy => e2 y (Nat.zero_le _) hy, fun a j h _ => e3 a j (by omega)⟩
    show g259_131b (g259_131 f fu) f _ _ _ _ = _
    unfold g259_131b
    rw [h8, if_pos (by omega)]
    exact e1
  | succ k ih =>
    intro m fu G h1 h2 h8 hM
    obtain ⟨fu, rfl⟩ : ∃ t, fu = t + 1 := ⟨fu - 1, by omega⟩
    obtain ⟨G1, e1, e2, e3⟩ := l_142 (f := f) (r131 := g259_131 f fu) (m := m) (qWm_lt (np := np) hT m) hnp (by omega) ho np 0 f G (by omega) (by omega) h8 (fun p hp => by
      rw [hM p hp]; show _ = ((qW1 (qWm np T m) m 0 p : Nat) : Int); unfold qW1; rw [if_neg (by omega)])
    obtain ⟨G', d1, d2, d3⟩ := ih (m + 1) fu G1 (by omega) (by omega) (by rw [e3 _ _ (by omega)]; exact h8) e2
    refine ⟨G', ?_, d2, fun a j h h' => by rw [d3 a j h h', e3 a j h]⟩
    show g259_131b (g259_131 f fu) f _ _ _ _ = _
    unfold g259_131b
    rw [h8, if_neg (by omega)]
    exact Eq.trans e1 d1
theorem l_r106 (hf : 100 < f) (hT : b16 T) (hnp : np ≤ 16) (ho : 1 < o) : ∀ (k x fu : Nat) (G : xG_), x + k = np → k < fu → G o 8 = (np : Int) → rMk G (o + 4) np T → (∀ p, p < x → G 1 p = (T p : Int)) → ∃ G', g259_106 f fu o 1 (x : Int) G = some G' ∧ (∀ y, y < np → G' (o + 5) y = (qRing (qWm np T np) y : Int)) ∧ ∀ a j, a ≠ 1 → a ≠ o + 5 → G' a j = G a j := by
  intro k
  induction k with
  | zero =>
    intro x fu G h1 h2 h8 hM hp
    obtain ⟨fu, rfl⟩ : ∃ t, fu = t + 1 := ⟨fu - 1, by omega⟩
    obtain ⟨G', e1, e2, e3⟩ := l_131 hf hT hnp ho np 0 f G (by omega) (by omega) h8 (fun p q => hp p (by omega))
    refine ⟨G', ?_, e2, e3⟩
    show g259_106b (g259_106 f fu) f _ _ _ _ = _
    unfold g259_106b
    rw [h8, if_pos (by omega)]
    exact e1
  | succ k ih =>
    intro x fu G h1 h2 h8 hM hp
    obtain ⟨fu, rfl⟩ : ∃ t, fu = t + 1 := ⟨fu - 1, by omega⟩
    have ek : xwr ((x : Int) + 1) = ((x + 1 : Nat) : Int) := by rw [xwr_g _ (by omega) (by omega)]; omega
    obtain ⟨G', e1, e2, e3⟩ := ih (x + 1) fu (xup2 G 1 x (T x : Int)) (by omega) (by omega) (by rw [xup2_n (by omega)]; exact h8) (fun p q => by rw [xup2_n (by omega)]; exact hM p q) (fun p q => by
      by_cases cp : p = x
      · rw [cp, xup2_s]
      · rw [xup2_n (by omega)]; exact hp p (by omega))
    refine ⟨G', ?_, e2, fun a j h h' => by rw [e3 a j h h', xup2_n (by omega)]⟩
    show g259_106b (g259_106 f fu) f _ _ _ _ = _
    unfold g259_106b
    rw [h8, if_neg (by omega), if_pos (by omega), xl1, if_pos (by omega), Int.toNat_natCast, hM x (by omega), Option.bind_some, ek]
    exact e1
end
end
section
/-! RINGS of the reference: what a rule reads; kind 5 -/
def qLm : List pLt → Nat
  | [] => 0
  | y :: r => (if y.1 = 3 then 0 else 2 ^ y.2.1.toNat) ||| qLm r
def qRd : List pRu → Nat → Nat
  | [], _ => 0
  | u :: r, p => (if (p : Int) = u.1 then qLm u.2.2.2.2.2 else 0) ||| qRd r p
def rRb (G : xG_) (o : Nat) (R : List pRu) : Prop := G o 9 = (R.length : Int) ∧ R.length ≤ 24 ∧ ∀ r, r < R.length → G (o + 13) r = (R.getD r dRu).1 ∧ G (o + 19) r = ((R.getD r dRu).2.2.2.2.2.length : Int) ∧ (R.getD r dRu).2.2.2.2.2.length ≤ 8 ∧ ∀ k, k < (R.getD r dRu).2.2.2.2.2.length → G (o + 25) (8 * r + k) = ((R.getD r dRu).2.2.2.2.2.getD k dLt).1 ∧ (((R.getD r dRu).2.2.2.2.2.getD k dLt).1 ≠ 3 → G (o + 26) (8 * r + k) = ((R.getD r dRu).2.2.2.2.2.getD k dLt).2.1)
def wLb (np : Nat) (y : pLt) : Prop := y.1 ≠ 3 → 0 ≤ y.2.1 ∧ y.2.1 < np
def wRq (np : Nat) (R : List pRu) : Prop := ∀ u ∈ R, 0 ≤ u.1 ∧ u.1 < np ∧ ∀ y ∈ u.2.2.2.2.2, wLb np y
theorem rRb.fr {G G' : xG_} {o : Nat} {R : List pRu} (h : rRb G o R) (ho : 1 < o) (hf : ∀ a j, a ≠ 1 → a ≠ o + 4 → a ≠ o + 5 → G' a j = G a j) : rRb G' o R := by
  obtain ⟨a1, a2, a3⟩ := h
  refine ⟨by rw [hf _ _ (by omega) (by omega) (by omega)]; exact a1, a2, fun r hr => ?_⟩
  obtain ⟨b1, b2, b3, b4⟩ := a3 r hr
  refine ⟨by rw [hf _ _ (by omega) (by omega) (by omega)]; exact b1, by rw [hf _ _ (by omega) (by omega) (by omega)]; exact b2, b3, fun k hk => ?_⟩
  obtain ⟨d1, d2⟩ := b4 k hk
  exact ⟨by rw [hf _ _ (by omega) (by omega) (by omega)]; exact d1, fun h => by rw [hf _ _ (by omega) (by omega) (by omega)]; exact d2 h⟩
theorem qLm_lt {np : Nat} {l : List pLt} (h : ∀ y ∈ l, wLb np y) (hnp : np ≤ 16) : qLm l < 2 ^ 16 := by
  induction l with
  | nil => decide
  | cons y r ih =>
    have h1 := ih (fun z hz => h z (List.mem_cons_of_mem _ hz))
    have h2 : (if y.1 = 3 then 0 else 2 ^ y.2.1.toNat) < 2 ^ 16 := by
      split
      · decide
      · rename_i c
        have := h y (List.mem_cons_self ..) c
        exact Nat.pow_lt_pow_right (by decide) (by omega)
    exact Nat.or_lt_two_pow h2 h1
theorem qRd_lt {np : Nat} {R : List pRu} (h : wRq np R) (hnp : np ≤ 16) : b16 (qRd R) := by
  intro p
  induction R with
  | nil => exact Nat.two_pow_pos _
  | cons u r ih =>
    have h1 := ih (fun z hz => h z (List.mem_cons_of_mem _ hz))
    have h2 : (if (p : Int) = u.1 then qLm u.2.2.2.2.2 else 0) < 2 ^ 16 := by
      split
      · exact qLm_lt (h u (List.mem_cons_self ..)).2.2 hnp
      · exact Nat.two_pow_pos _
    exact Nat.or_lt_two_pow h2 h1
section
variable {f o np r : Nat} {R : List pRu}
theorem l_35 {r25 : Nat → Int → xG_ → Option xG_} {h : Nat} {l : List pLt} (ho : 1 < o) (hnp : np ≤ 16) (hr : r < 25) (hh : h < np) (hw : ∀ y ∈ l, wLb np y) (h8 : l.length ≤ 8) : ∀ (k i fu : Nat) (G : xG_) (T : Nat → Nat), i + k = l.length → k < fu → b16 T → rMk G (o + 4) np T → G (o + 13) r = (h : Int) → G (o + 19) r = (l.length : Int) → (∀ k, k < l.length → G (o + 25) (8 * r + k) = (l.getD k dLt).1 ∧ ((l.getD k dLt).1 ≠ 3 → G (o + 26) (8 * r + k) = (l.getD k dLt).2.1)) →
    ∃ G', g259_35 r25 f fu o (r : Int) (i : Int) G = r25 o ((r + 1 : Nat) : Int) G' ∧ rMk G' (o + 4) np (fun p => T p ||| (if p = h then qLm (l.drop i) else 0)) ∧ ∀ a j, a ≠ o + 4 → G' a j = G a j := by
  have hx1 : xwr ((r : Int) + 1) = ((r + 1 : Nat) : Int) := by rw [xwr_g _ (by omega) (by omega)]; omega
  intro k
  induction k with
  | zero =>
    intro i fu G T h1 h2 hT hM g13 g19 hl
    obtain ⟨fu, rfl⟩ : ∃ t, fu = t + 1 := ⟨fu - 1, by omega⟩
    refine ⟨G, ?_, fun p hp => ?_, fun _ _ _ => rfl⟩
    · show g259_35b r25 (g259_35 r25 f fu) f _ _ _ _ = _
      unfold g259_35b
      rw [if_pos (by omega), Int.toNat_natCast, g19, if_pos (by omega), hx1]
    · show _ = ((T p ||| (if p = h then qLm (l.drop i) else 0) : Nat) : Int)
      rw [List.drop_eq_nil_of_le (by omega), show qLm [] = 0 from rfl, ite_self, Nat.or_zero]
      exact hM p hp
  | succ k ih =>
    intro i fu G T h1 h2 hT hM g13 g19 hl
    obtain ⟨fu, rfl⟩ : ∃ t, fu = t + 1 := ⟨fu - 1, by omega⟩
    have hi : i < l.length := by omega
    have hd : l.drop i = l.getD i dLt :: l.drop (i + 1) := by rw [getD_e hi]; exact List.drop_eq_getElem_cons hi
    have hm : l.getD i dLt ∈ l := by rw [getD_e hi]; exact List.getElem_mem hi
    have hwy := hw _ hm
    obtain ⟨d1, d2⟩ := hl i hi
    have hx2 : xwr (xwr ((r : Int) * 8) + (i : Int)) = ((8 * r + i : Nat) : Int) := by rw [xwr_g ((r : Int) * 8) (by omega) (by omega), xwr_g _ (by omega) (by omega)]; omega
    have hx3 : xwr ((i : Int) + 1) = ((i + 1 : Nat) : Int) := by rw [xwr_g _ (by omega) (by omega)]; omega
    rw [hd]
    show ∃ G', g259_35b r25 (g259_35 r25 f fu) f o (r : Int) (i : Int) G = _ ∧ rMk G' (o + 4) np (fun p => T p ||| (if p = h then (if (l.getD i dLt).1 = 3 then 0 else 2 ^ (l.getD i dLt).2.1.toNat) ||| qLm (l.drop (i + 1)) else 0)) ∧ _
    unfold g259_35b g259_87
    rw [if_pos (by omega), Int.toNat_natCast, g19, if_neg (by omega), hx2, if_pos (by omega), Int.toNat_natCast, d1, hx3]
    by_cases c1 : (l.getD i dLt).1 = 3
    · rw [if_pos c1]
      obtain ⟨G', e1, e2, e3⟩ := ih (i + 1) fu G T (by omega) (by omega) hT hM g13 g19 hl
      refine ⟨G', e1, fun p hp => ?_, e3⟩
      rw [e2 p hp, if_pos c1, Nat.zero_or]
    · have hb := hwy c1
      have d3 := d2 c1
      have e0 : (l.getD i dLt).2.1 = (((l.getD i dLt).2.1.toNat : Nat) : Int) := by omega
      have th := hT h
      have hxo : xor_ (T h : Int) (xshl 1 (l.getD i dLt).2.1) = ((T h ||| 2 ^ (l.getD i dLt).2.1.toNat : Nat) : Int) := by
        rw [show xshl 1 (l.getD i dLt).2.1 = xshl 1 (((l.getD i dLt).2.1.toNat : Nat) : Int) by rw [← e0], xorb (by omega) (by omega)]
      rw [if_neg c1, if_pos (by omega), g13, if_pos (by omega), if_pos (by omega), if_pos (by omega), Int.toNat_natCast, hM h hh, d3, hxo, Option.bind_some]
      obtain ⟨G', e1, e2, e3⟩ := ih (i + 1) fu (xup2 G (o + 4) h ((T h ||| 2 ^ (l.getD i dLt).2.1.toNat : Nat) : Int)) (fun p => T p ||| (if p = h then 2 ^ (l.getD i dLt).2.1.toNat else 0)) (by omega) (by omega) (fun p => by
          show T p ||| (if p = h then 2 ^ (l.getD i dLt).2.1.toNat else 0) < 2 ^ 16
          split
          · exact or_lt (hT p) (by omega)
          · rw [Nat.or_zero]; exact hT p) (fun p hp => by
          show _ = ((T p ||| (if p = h then 2 ^ (l.getD i dLt).2.1.toNat else 0) : Nat) : Int)
          by_cases cp : p = h
          · rw [cp, xup2_s, if_pos rfl]
          · rw [xup2_n (by omega), if_neg cp, Nat.or_zero]; exact hM p hp) (by rw [xup2_n (by omega)]; exact g13) (by rw [xup2_n (by omega)]; exact g19) (fun k hk => by
          rw [xup2_n (by omega), xup2_n (by omega)]; exact hl k hk)
      refine ⟨G', e1, fun p hp => ?_, fun a j hj => by rw [e3 a j hj, xup2_n (by omega)]⟩
      rw [e2 p hp, if_neg c1]
      show (((T p ||| (if p = h then 2 ^ (l.getD i dLt).2.1.toNat else 0)) ||| (if p = h then qLm (l.drop (i + 1)) else 0) : Nat) : Int) = ((T p ||| (if p = h then 2 ^ (l.getD i dLt).2.1.toNat ||| qLm (l.drop (i + 1)) else 0) : Nat) : Int)
      by_cases cp : p = h
      · rw [if_pos cp, if_pos cp, if_pos cp, Nat.or_assoc]
      · rw [if_neg cp, if_neg cp, if_neg cp, Nat.or_zero]
theorem l_25 (hf : 100 < f) (ho : 1 < o) (hnp : np ≤ 16) (hw : wRq np R) : ∀ (k r fu : Nat) (G : xG_) (T : Nat → Nat), r + k = R.length → k < fu → b16 T → G o 8 = (np : Int) → rMk G (o + 4) np T → rRb G o R →
    ∃ G', g259_25 f fu o (r : Int) G = some G' ∧ rMk G' (o + 4) np (fun p => T p ||| qRd (R.drop r) p) ∧ (∀ y, y < np → G' (o + 5) y = (qRing (qWm np (fun p => T p ||| qRd (R.drop r) p) np) y : Int)) ∧ ∀ a j, a ≠ 1 → a ≠ o + 4 → a ≠ o + 5 → G' a j = G a j := by
  intro k
  induction k with
  | zero =>
    intro r fu G T h1 h2 hT h8 hM hR
    obtain ⟨fu, rfl⟩ : ∃ t, fu = t + 1 := ⟨fu - 1, by omega⟩
    have e0 : (fun p => T p ||| qRd (R.drop r) p) = T := by
      funext p
      rw [List.drop_eq_nil_of_le (by omega)]
      exact Nat.or_zero _
    rw [e0]
    obtain ⟨G', e1, e2, e3⟩ := l_r106 hf hT hnp ho np 0 f G (by omega) (by omega) h8 hM (fun p hp => by omega)
    refine ⟨G', ?_, fun p hp => by rw [e3 _ _ (by omega) (by omega)]; exact hM p hp, e2, fun a j x1 x2 x3 => e3 a j x1 x3⟩
    show g259_25b (g259_25 f fu) f _ _ _ = _
    unfold g259_25b
    rw [hR.1, if_pos (by omega)]
    exact e1
  | succ k ih =>
    intro r fu G T h1 h2 hT h8 hM hR
    obtain ⟨fu, rfl⟩ : ∃ t, fu = t + 1 := ⟨fu - 1, by omega⟩
    have hr : r < R.length := by omega
    have hd : R.drop r = R.getD r dRu :: R.drop (r + 1) := by rw [getD_e hr]; exact List.drop_eq_getElem_cons hr
    have hm : R.getD r dRu ∈ R := by rw [getD_e hr]; exact List.getElem_mem hr
    obtain ⟨w1, w2, w3⟩ := hw _ hm
    have h24 := hR.2.1
    obtain ⟨b1, b2, b3, b4⟩ := hR.2.2 r hr
    have e0 : (R.getD r dRu).1 = (((R.getD r dRu).1.toNat : Nat) : Int) := by omega
    obtain ⟨G1, e1, e2, e3⟩ := l_35 (f := f) (r := r) (r25 := g259_25 f fu) (h := (R.getD r dRu).1.toNat) (l := (R.getD r dRu).2.2.2.2.2) ho hnp (by omega) (by omega) w3 b3 _ 0 f G T (Nat.zero_add _) (by omega) hT hM (by rw [← e0]; exact b1) b2 b4
    rw [List.drop_zero] at e2
    have e4 : (fun p => T p ||| qRd (R.drop r) p) = (fun p => (fun p => T p ||| (if p = (R.getD r dRu).1.toNat then qLm (R.getD r dRu).2.2.2.2.2 else 0)) p ||| qRd (R.drop (r + 1)) p) := by
      funext p
      rw [hd]
      show T p ||| ((if (p : Int) = (R.getD r dRu).1 then qLm (R.getD r dRu).2.2.2.2.2 else 0) ||| qRd (R.drop (r + 1)) p) = (T p ||| (if p = (R.getD r dRu).1.toNat then qLm (R.getD r dRu).2.2.2.2.2 else 0)) ||| qRd (R.drop (r + 1)) p
      by_cases cp : p = (R.getD r dRu).1.toNat
      · rw [if_pos cp, if_pos (by omega), Nat.or_assoc]
      · rw [if_neg cp, if_neg (by omega), Nat.or_assoc]
    rw [e4]
    obtain ⟨G', d1, d2, d3, d4⟩ := ih (r + 1) fu G1 (fun p => T p ||| (if p = (R.getD r dRu).1.toNat then qLm (R.getD r dRu).2.2.2.2.2 else 0)) (by omega) (by omega) (fun p => by
      refine Nat.or_lt_two_pow (hT p) ?_
      split
      · exact qLm_lt w3 hnp
      · exact Nat.two_pow_pos _) (by rw [e3 _ _ (by omega)]; exact h8) e2 (hR.fr ho (fun a j _ x2 _ => e3 a j x2))
    refine ⟨G', ?_, d2, d3, fun a j x1 x2 x3 => by rw [d4 a j x1 x2 x3, e3 a j x2]⟩
    show g259_25b (g259_25 f fu) f _ _ _ = _
    unfold g259_25b
    rw [hR.1, if_neg (by omega)]
    exact Eq.trans e1 d1
theorem l_rings (hf : 100 < f) (ho : 1 < o) (hnp : np ≤ 16) (hw : wRq np R) : ∀ (k x fu : Nat) (G : xG_), x + k = np → k < fu → G o 8 = (np : Int) → (∀ p, p < x → G (o + 4) p = 0) → rRb G o R →
    ∃ G', g259_2 f fu o (x : Int) G = some G' ∧ rMk G' (o + 4) np (qRd R) ∧ (∀ y, y < np → G' (o + 5) y = (qRing (qWm np (qRd R) np) y : Int)) ∧ ∀ a j, a ≠ 1 → a ≠ o + 4 → a ≠ o + 5 → G' a j = G a j := by
  intro k
  induction k with
  | zero =>
    intro x fu G h1 h2 h8 h0 hR
    obtain ⟨fu, rfl⟩ : ∃ t, fu = t + 1 := ⟨fu - 1, by omega⟩
    have h24 := hR.2.1
    obtain ⟨G', e1, e2, e3, e4⟩ := l_25 hf ho hnp hw R.length 0 f G (fun _ => 0) (by omega) (by omega) (fun _ => Nat.two_pow_pos _) h8 (fun p hp => by rw [h0 p (by omega)]; rfl) hR
    have e0 : (fun p => (fun _ => 0) p ||| qRd (R.drop 0) p) = qRd R := by
      funext p
      rw [List.drop_zero]
      exact Nat.zero_or _
    rw [e0] at e2 e3
    refine ⟨G', ?_, e2, e3, e4⟩
    show g259_2b (g259_2 f fu) f _ _ _ = _
    unfold g259_2b
    rw [h8, if_pos (by omega)]
    exact e1
  | succ k ih =>
    intro x fu G h1 h2 h8 h0 hR
    obtain ⟨fu, rfl⟩ : ∃ t, fu = t + 1 := ⟨fu - 1, by omega⟩
    have ek : xwr ((x : Int) + 1) = ((x + 1 : Nat) : Int) := by rw [xwr_g _ (by omega) (by omega)]; omega
    obtain ⟨G', e1, e2, e3, e4⟩ := ih (x + 1) fu (xup2 G (o + 4) x 0) (by omega) (by omega) (by rw [xup2_n (by omega)]; exact h8) (fun p hp => by
      by_cases cp : p = x
      · rw [cp, xup2_s]
      · rw [xup2_n (by omega)]; exact h0 p (by omega)) (hR.fr ho (fun a j _ x2 _ => by rw [xup2_n (by omega)]))
    refine ⟨G', ?_, e2, e3, fun a j x1 x2 x3 => by rw [e4 a j x1 x2 x3, xup2_n (by omega)]⟩
    show g259_2b (g259_2 f fu) f _ _ _ = _
    unfold g259_2b
    rw [h8, if_neg (by omega), if_pos (by omega), Option.bind_some, Int.toNat_natCast, ek]
    exact e1
end
end
section
/-! FAULTS of the reference: kind 5 -/
def qOw (K : Nat → Nat) (h g : Int) (y : pLt) : Bool := decide (y.1 ≠ 3 ∧ K y.2.1.toNat = K h.toNat ∧ (y.1 = 2 ∨ g ≠ 0))
def qG (u : pRu) : Int := if u.2.2.1.1 = 0 then 0 else u.2.2.1.1 - 9
def isF5 (K : Nat → Nat) (u : pRu) : Prop := u.2.2.2.2.2.any (qOw K u.1 (qG u)) = true
def rRc (G : xG_) (o q : Nat) (R : List pRu) : Prop := ∀ r, r < R.length → G (o + 16) r = qG (R.getD r dRu) ∧ G (o + 14) r = (q : Int) + (R.getD r dRu).2.1
theorem rRb.f26 {G G' : xG_} {o : Nat} {R : List pRu} (h : rRb G o R) (ho : 1 < o) (hf : xf26 G G') : rRb G' o R := by
  obtain ⟨a1, a2, a3⟩ := h
  refine ⟨by rw [hf _ _ (by omega)]; exact a1, a2, fun r hr => ?_⟩
  obtain ⟨b1, b2, b3, b4⟩ := a3 r hr
  refine ⟨by rw [hf _ _ (by omega)]; exact b1, by rw [hf _ _ (by omega)]; exact b2, b3, fun k hk => ?_⟩
  obtain ⟨d1, d2⟩ := b4 k hk
  exact ⟨by rw [hf _ _ (by omega)]; exact d1, fun h => by rw [hf _ _ (by omega)]; exact d2 h⟩
theorem rRc.f26 {G G' : xG_} {o q : Nat} {R : List pRu} (h : rRc G o q R) (ho : 1 < o) (hf : xf26 G G') : rRc G' o q R := fun r hr => by
  rw [hf _ _ (by omega), hf _ _ (by omega)]; exact h r hr
theorem rMk.f26 {G G' : xG_} {x np : Nat} {T : Nat → Nat} (h : rMk G x np T) (ho : 0 < x) (hf : xf26 G G') : rMk G' x np T := fun p hp => by
  rw [hf _ _ (by omega)]; exact h p hp
section
variable {f o q np r : Nat} {R : List pRu} {K : Nat → Nat}
theorem l_260 {G : xG_} {h : Nat} {g : Int} {l : List pLt} (ho : 1 < o) (hnp : np ≤ 16) (hr : r < 25) (hh : h < np) (hw : ∀ y ∈ l, wLb np y) (h8 : l.length ≤ 8) (hK : rMk G (o + 5) np K) (g13 : G (o + 13) r = (h : Int)) (g16 : G (o + 16) r = g) (g19 : G (o + 19) r = (l.length : Int)) (hl : ∀ k, k < l.length → G (o + 25) (8 * r + k) = (l.getD k dLt).1 ∧ ((l.getD k dLt).1 ≠ 3 → G (o + 26) (8 * r + k) = (l.getD k dLt).2.1)) : ∀ (k i fu : Nat), i + k = l.length → k < fu → g260_2 f fu o (r : Int) (i : Int) G = some (b01 ((l.drop i).any (qOw K (h : Int) g)), G) := by
  intro k
  induction k with
  | zero =>
    intro i fu h1 h2
    obtain ⟨fu, rfl⟩ : ∃ t, fu = t + 1 := ⟨fu - 1, by omega⟩
    show g260_2b (g260_2 f fu) f _ _ _ _ = _
    unfold g260_2b
    rw [if_pos (by omega), Int.toNat_natCast, g19, if_pos (by omega), List.drop_eq_nil_of_le (by omega)]
    rfl
  | succ k ih =>
    intro i fu h1 h2
    obtain ⟨fu, rfl⟩ : ∃ t, fu = t + 1 := ⟨fu - 1, by omega⟩
    have hi : i < l.length := by omega
    have hd : l.drop i = l.getD i dLt :: l.drop (i + 1) := by rw [getD_e hi]; exact List.drop_eq_getElem_cons hi
    have hm : l.getD i dLt ∈ l := by rw [getD_e hi]; exact List.getElem_mem hi
    have hwy := hw _ hm
    obtain ⟨d1, d2⟩ := hl i hi
    have hx2 : xwr (xwr ((r : Int) * 8) + (i : Int)) = ((8 * r + i : Nat) : Int) := by rw [xwr_g ((r : Int) * 8) (by omega) (by omega), xwr_g _ (by omega) (by omega)]; omega
    have hx3 : xwr ((i : Int) + 1) = ((i + 1 : Nat) : Int) := by rw [xwr_g _ (by omega) (by omega)]; omega
    have ih := ih (i + 1) fu (by omega) (by omega)
    rw [hd, List.any_cons]
    generalize l.getD i dLt = y at d1 d2 hwy
    have no : ¬ (y.1 ≠ 3 ∧ K y.2.1.toNat = K ((h : Nat) : Int).toNat ∧ (y.1 = 2 ∨ g ≠ 0)) → (qOw K (h : Int) g y || (l.drop (i + 1)).any (qOw K (h : Int) g)) = (l.drop (i + 1)).any (qOw K (h : Int) g) := by
      intro hn
      have : qOw K (h : Int) g y = false := decide_eq_false hn
      rw [this, Bool.false_or]
    have yes : (y.1 ≠ 3 ∧ K y.2.1.toNat = K ((h : Nat) : Int).toNat ∧ (y.1 = 2 ∨ g ≠ 0)) → (qOw K (h : Int) g y || (l.drop (i + 1)).any (qOw K (h : Int) g)) = true := by
      intro hn
      have : qOw K (h : Int) g y = true := decide_eq_true hn
      rw [this, Bool.true_or]
    show g260_2b (g260_2 f fu) f _ _ _ _ = _
    unfold g260_2b g260_78 g260_76
    rw [if_pos (by omega), Int.toNat_natCast, g19, if_neg (by omega), hx2, if_pos (by omega), Int.toNat_natCast, d1, hx3]
    by_cases c1 : y.1 = 3
    · rw [if_pos c1, no (fun h => h.1 c1)]; exact ih
    · have hb := hwy c1
      have d3 := d2 c1
      have kh := hK h hh
      have ky := hK y.2.1.toNat (by omega)
      rw [if_neg c1, if_pos (by omega), d3, if_pos (by omega), if_pos (by omega), g13, if_pos (by omega), Int.toNat_natCast, kh, ky]
      by_cases c2 : K y.2.1.toNat = K h
      · rw [if_pos (by omega), if_pos (by omega)]
        by_cases c3 : y.1 = 2
        · rw [if_pos c3, yes ⟨c1, c2, Or.inl c3⟩]; rfl
        · rw [if_neg c3, if_pos (by omega), g16]
          by_cases c4 : g = 0
          · rw [if_pos c4, no (fun h => h.2.2.elim c3 (fun h => h c4))]; exact ih
          · rw [if_neg c4, yes ⟨c1, c2, Or.inr c4⟩]; rfl
      · rw [if_neg (by omega), no (fun h => c2 h.2.1)]; exact ih
theorem l_own {G : xG_} (hf : 100 < f) (ho : 1 < o) (hnp : np ≤ 16) (hw : wRq np R) (hK : rMk G (o + 5) np K) (hR : rRb G o R) (hRc : rRc G o q R) (hr : r < R.length) : g260 f o (r : Int) G = some (b01 ((R.getD r dRu).2.2.2.2.2.any (qOw K (R.getD r dRu).1 (qG (R.getD r dRu)))), G) := by
  have hm : R.getD r dRu ∈ R := by rw [getD_e hr]; exact List.getElem_mem hr
  obtain ⟨w1, w2, w3⟩ := hw _ hm
  have h24 := hR.2.1
  obtain ⟨b1, b2, b3, b4⟩ := hR.2.2 r hr
  have e0 : (R.getD r dRu).1 = (((R.getD r dRu).1.toNat : Nat) : Int) := by omega
  have := l_260 (f := f) (r := r) (h := (R.getD r dRu).1.toNat) ho hnp (by omega) (by omega) w3 b3 hK (by rw [← e0]; exact b1) (hRc r hr).1 b2 b4 _ 0 f (Nat.zero_add _) (by omega)
  rw [List.drop_zero, ← e0] at this
  exact this
theorem l_176 (hf : 100 < f) (ho : 1 < o) (hnp : np ≤ 16) (hw : wRq np R) : ∀ (k r fu : Nat) (G : xG_) (S : Int → Int → Prop), r + k = R.length → k < fu → rMk G (o + 5) np K → rRb G o R → rRc G o q R → rF G S → ∃ G', g252_176 f fu o (r : Int) G = some G' ∧ xf26 G G' ∧ rF G' (fun k a => S k a ∨ k = 5 ∧ ∃ y, r ≤ y ∧ y < R.length ∧ isF5 K (R.getD y dRu) ∧ a = (q : Int) + (R.getD y dRu).2.1) := by
  intro k
  induction k with
  | zero =>
    intro r fu G S h1 h2 hK hR hRc hF
    obtain ⟨fu, rfl⟩ : ∃ t, fu = t + 1 := ⟨fu - 1, by omega⟩
    refine ⟨G, ?_, xf26.rf _, hF.iff (fun k a => ⟨fun h => Or.inl h, fun h => h.elim id (fun h => absurd h.2 (fun ⟨y, a1, a2, _⟩ => by omega))⟩)⟩
    show g252_176b (g252_176 f fu) f _ _ _ = _
    unfold g252_176b
    rw [hR.1, if_pos (by omega)]
  | succ k ih =>
    intro r fu G S h1 h2 hK hR hRc hF
    obtain ⟨fu, rfl⟩ : ∃ t, fu = t + 1 := ⟨fu - 1, by omega⟩
    have hr : r < R.length := by omega
    have h24 := hR.2.1
    have hx3 : xwr ((r : Int) + 1) = ((r + 1 : Nat) : Int) := by rw [xwr_g _ (by omega) (by omega)]; omega
    have e0 := l_own (f := f) hf ho hnp hw hK hR hRc hr
    have hp := (hRc r hr).2
    show ∃ G', g252_176b (g252_176 f fu) f o (r : Int) G = _ ∧ _
    unfold g252_176b g252_203
    rw [hR.1, if_neg (by omega), e0, Option.bind_some, hx3]
    cases hb : (R.getD r dRu).2.2.2.2.2.any (qOw K (R.getD r dRu).1 (qG (R.getD r dRu))) with
    | false =>
      obtain ⟨G', e1, e2, e3⟩ := ih (r + 1) fu G S (by omega) (by omega) hK hR hRc hF
      refine ⟨G', e1, e2, e3.iff (fun k a => ?_)⟩
      constructor
      · rintro (h | ⟨h, y, a1, a2, a3, a4⟩)
        · exact Or.inl h
        · exact Or.inr ⟨h, y, by omega, a2, a3, a4⟩
      · rintro (h | ⟨h, y, a1, a2, a3, a4⟩)
        · exact Or.inl h
        · by_cases cy : y = r
          · rw [cy] at a3; unfold isF5 at a3; rw [hb] at a3; exact absurd a3 (by decide)
          · exact Or.inr ⟨h, y, by omega, a2, a3, a4⟩
    | true =>
      obtain ⟨G1, d1, d2, d3⟩ := l_faulty (f := f) (k := 5) (a := (q : Int) + (R.getD r dRu).2.1) (by decide) hF
      obtain ⟨G', e1, e2, e3⟩ := ih (r + 1) fu G1 _ (by omega) (by omega) (hK.f26 (by omega) d3) (hR.f26 ho d3) (hRc.f26 ho d3) d2
      refine ⟨G', ?_, d3.tr e2, e3.iff (fun k a => ?_)⟩
      · show (if (1 : Int) = 0 then _ else _) = _
        rw [if_neg (by decide), if_pos (by omega)]
        show Option.bind (g251 f 5 (G (o + 14) r) G) _ = _
        rw [hp, d1, Option.bind_some]
        exact e1
      · constructor
        · rintro ((h | ⟨h, h'⟩) | ⟨h, y, a1, a2, a3, a4⟩)
          · exact Or.inl h
          · exact Or.inr ⟨h, r, Nat.le_refl _, by omega, hb, h'⟩
          · exact Or.inr ⟨h, y, by omega, a2, a3, a4⟩
        · rintro (h | ⟨h, y, a1, a2, a3, a4⟩)
          · exact Or.inl (Or.inl h)
          · by_cases cy : y = r
            · rw [cy] at a4; exact Or.inl (Or.inr ⟨h, a4⟩)
            · exact Or.inr ⟨h, y, by omega, a2, a3, a4⟩
end
end
section
/-! FAULTS of the reference: findFaults -/
theorem rRu.ge {G G' : xG_} {o q r c : Nat} {u : pRu} (h : rRu G o q r c u) (hf : ∀ a j, 13 ≤ a → a ≤ 34 → G' (o + a) j = G (o + a) j) : rRu G' o q r c u := by
  unfold rRu rGa rIc rVs rLs rLt rTs rCo at *
  simp (disch := decide) only [hf]
  exact h
theorem wRq_of {np : Nat} {R : List pRu} (h : ∀ u ∈ R, wRu np u) : wRq np R := by
  intro u hu
  obtain ⟨a1, a2, a3, a4, a5, a6, a7, a8, a9⟩ := h u hu
  refine ⟨a1, a2, fun y hy c => ?_⟩
  obtain ⟨b1, b2⟩ := a9 y hy
  rcases b1 with b | b
  · exact ⟨b2 c, b.2.2.1⟩
  · exact absurd b.1 c
def rRR (G : xG_) (o q c : Nat) (R : List pRu) : Prop := G o 9 = (R.length : Int) ∧ R.length ≤ 24 ∧ ∀ r, r < R.length → rRu G o q r c (R.getD r dRu)
theorem rRR.b {G : xG_} {o q c : Nat} {R : List pRu} (h : rRR G o q c R) : rRb G o R ∧ rRc G o q R := by
  obtain ⟨a1, a2, a3⟩ := h
  constructor
  · refine ⟨a1, a2, fun r hr => ?_⟩
    obtain ⟨b1, b2, b3, b4, b5, b6, b7, b8⟩ := a3 r hr
    exact ⟨b1, b8.1, b8.2.1, fun k hk => ⟨(b8.2.2 k hk).1, fun c => ((b8.2.2 k hk).2.2.1 c).1⟩⟩
  · intro r hr
    obtain ⟨b1, b2, b3, b4, b5, b6, b7, b8⟩ := a3 r hr
    exact ⟨b3.1, b2⟩
theorem rRR.ge {G G' : xG_} {o q c : Nat} {R : List pRu} (h : rRR G o q c R) (h9 : G' o 9 = G o 9) (hf : ∀ a j, 13 ≤ a → a ≤ 34 → G' (o + a) j = G (o + a) j) : rRR G' o q c R := ⟨by rw [h9]; exact h.1, h.2.1, fun r hr => (h.2.2 r hr).ge hf⟩
/-- the FAULTS of each kind: (kind, place) -/
def q12 (ins : List (Int × Int × Int)) (R : List pRu) (M : List pMn) (q i : Nat) (k a : Int) : Prop := ∃ y, i ≤ y ∧ y < M.length ∧ (k = 1 ∧ a = (q : Int) + mP M y ∧ isF1 M y 0 ∨ k = 2 ∧ a = (q : Int) + mP M y ∧ isF2 ins R M y)
def q3 (M : List pMn) (q np : Nat) (k a : Int) : Prop := k = 3 ∧ ∃ z y, 0 ≤ z ∧ z < np ∧ isF3 M z y ∧ a = (q : Int) + mP M y
def q4 (R : List pRu) (q x : Nat) (k a : Int) : Prop := k = 4 ∧ ∃ y, x ≤ y ∧ y < R.length ∧ ∃ v, isF4 (R.getD y dRu).2.2.2.2.1 (R.getD y dRu).2.2.2.2.2 v ∧ a = (q : Int) + ((R.getD y dRu).2.2.2.2.1.getD v (0, 0)).2
def qRs (np : Nat) (R : List pRu) : Nat → Nat := qRing (qWm np (qRd R) np)
def q5 (R : List pRu) (q np : Nat) (k a : Int) : Prop := k = 5 ∧ ∃ y, 0 ≤ y ∧ y < R.length ∧ isF5 (qRs np R) (R.getD y dRu) ∧ a = (q : Int) + (R.getD y dRu).2.1
def qS5 (S : Int → Int → Prop) (R : List pRu) (q np : Nat) (k a : Int) : Prop := S k a ∨ (∀ k a, ¬ S k a) ∧ q5 R q np k a
def xfF (o : Nat) (G G' : xG_) : Prop := ∀ a j, ¬ (a = 0 ∧ (j = 26 ∨ j = 27)) → a ≠ 1 → a ≠ o + 2 → a ≠ o + 4 → a ≠ o + 5 → G' a j = G a j
section
variable {f o q c np : Nat} {R : List pRu} {M : List pMn} {ins : List (Int × Int × Int)}
theorem l_141 (hf : 6300 < f) (ho : 1 < o) (hnp : np ≤ 16) (hc : c ≤ 6200) (hw : ∀ u ∈ R, wRu np u) : ∀ (k x fu : Nat) (G : xG_) (S : Int → Int → Prop), x + k = R.length → k < fu → G o 8 = (np : Int) → rRR G o q c R → rF G S →
    ∃ G', g252_141 f fu o (x : Int) G = some G' ∧ (∀ a j, ¬ (a = 0 ∧ (j = 26 ∨ j = 27)) → a ≠ 1 → a ≠ o + 4 → a ≠ o + 5 → G' a j = G a j) ∧ rF G' (qS5 (fun k a => S k a ∨ q4 R q x k a) R q np) ∧ ((∀ k a, ¬ (S k a ∨ q4 R q x k a)) → rMk G' (o + 4) np (qRd R) ∧ rMk G' (o + 5) np (qRs np R)) := by
  intro k
  induction k with
  | zero =>
    intro x fu G S h1 h2 h8 hR hF
    obtain ⟨fu, rfl⟩ : ∃ t, fu = t + 1 := ⟨fu - 1, by omega⟩
    have h24 := hR.2.1
    have e0 : (fun k a => S k a ∨ q4 R q x k a) = S := by
      funext k a
      apply propext
      constructor
      · rintro (h | ⟨_, y, a1, a2, _⟩)
        · exact h
        · omega
      · exact Or.inl
    have e0' : ∀ k a, (S k a ∨ q4 R q x k a) ↔ S k a := fun k a => by
      have := congrFun (congrFun e0 k) a
      exact iff_of_eq this
    rw [e0]
    show ∃ G', g252_141b (g252_141 f fu) f o (x : Int) G = _ ∧ _
    unfold g252_141b
    rw [hR.1, if_pos (by omega)]
    by_cases c0 : G 0 26 = 0
    · rw [if_pos c0]
      have hn : ∀ k a, ¬ S k a := by
        rcases hF with a | a
        · exact a.2
        · exact absurd c0 a.1
      obtain ⟨G1, d1, d2, d3, d4⟩ := l_rings (f := f) (by omega) ho hnp (wRq_of hw) np 0 f G (by omega) (by omega) h8 (fun p hp => absurd hp (Nat.not_lt_zero _)) hR.b.1
      have hF1 : rF G1 S := by
        unfold rF
        rw [d4 0 26 (by omega) (by omega) (by omega), d4 0 27 (by omega) (by omega) (by omega)]
        exact hF
      have hR1 : rRR G1 o q c R := hR.ge (d4 _ _ (by omega) (by omega) (by omega)) (fun a j _ _ => d4 _ _ (by omega) (by omega) (by omega))
      obtain ⟨G', e1, e2, e3⟩ := l_176 (f := f) (q := q) (K := qRs np R) (by omega) ho hnp (wRq_of hw) R.length 0 f G1 S (by omega) (by omega) d3 hR1.b.1 hR1.b.2 hF1
      refine ⟨G', ?_, fun a j x1 x2 x3 x4 => by rw [e2 a j x1, d4 a j x2 x3 x4], e3.iff (fun k a => ⟨?_, ?_⟩), fun _ => ⟨rMk.f26 d2 (by omega) e2, rMk.f26 d3 (by omega) e2⟩⟩
      · show Option.bind (g259_2 f f o ((0 : Nat) : Int) G) _ = _
        rw [d1, Option.bind_some]
        exact e1
      · rintro (h | h)
        · exact Or.inl h
        · exact Or.inr ⟨hn, h⟩
      · rintro (h | h)
        · exact Or.inl h
        · exact Or.inr h.2
    · rw [if_neg c0]
      have hs : S (G 0 26) (G 0 27) := by
        rcases hF with a | a
        · exact absurd a.1 c0
        · exact a.2.1
      refine ⟨G, rfl, fun _ _ _ _ _ _ => rfl, hF.iff (fun k a => ⟨Or.inl, ?_⟩), fun h => absurd hs (fun hs => h _ _ (Or.inl hs))⟩
      rintro (h | h)
      · exact h
      · exact absurd hs (h.1 _ _)
  | succ k ih =>
    intro x fu G S h1 h2 h8 hR hF
    obtain ⟨fu, rfl⟩ : ∃ t, fu = t + 1 := ⟨fu - 1, by omega⟩
    have h24 := hR.2.1
    have hx : x < R.length := by omega
    have hx3 : xwr ((x : Int) + 1) = ((x + 1 : Nat) : Int) := by rw [xwr_g _ (by omega) (by omega)]; omega
    have hm : R.getD x dRu ∈ R := by rw [getD_e hx]; exact List.getElem_mem hx
    have hu := hw _ hm
    obtain ⟨b1, b2, b3, b4, b5, b6, b7, b8⟩ := hR.2.2 x hx
    obtain ⟨G1, d1, d2, d3⟩ := l_unsafe (f := f) (np := np) hf (by omega) (by omega) hc b8 b7 (fun y hy => (hu.2.2.2.2.2.2.2.2 y hy).1) hF
    obtain ⟨G', e1, e2, e3, e4⟩ := ih (x + 1) fu G1 _ (by omega) (by omega) (by rw [d2 _ _ (by omega)]; exact h8) (hR.ge (d2 _ _ (by omega)) (fun a j _ _ => d2 _ _ (by omega))) d3
    have es : (fun k a => (S k a ∨ k = 4 ∧ ∃ v, isF4 (R.getD x dRu).2.2.2.2.1 (R.getD x dRu).2.2.2.2.2 v ∧ a = (q : Int) + ((R.getD x dRu).2.2.2.2.1.getD v (0, 0)).2) ∨ q4 R q (x + 1) k a) = (fun k a => S k a ∨ q4 R q x k a) := by
      funext k a
      apply propext
      constructor
      · rintro ((h | ⟨h, v, h', h''⟩) | ⟨h, y, a1, a2, a3⟩)
        · exact Or.inl h
        · exact Or.inr ⟨h, x, Nat.le_refl _, hx, v, h', h''⟩
        · exact Or.inr ⟨h, y, by omega, a2, a3⟩
      · rintro (h | ⟨h, y, a1, a2, a3⟩)
        · exact Or.inl (Or.inl h)
        · by_cases cy : y = x
          · rw [cy] at a3
            exact Or.inl (Or.inr ⟨h, a3⟩)
          · exact Or.inr ⟨h, y, by omega, a2, a3⟩
    have e4' : (∀ k a, ¬ (fun k a => (S k a ∨ k = 4 ∧ ∃ v, isF4 (R.getD x dRu).2.2.2.2.1 (R.getD x dRu).2.2.2.2.2 v ∧ a = (q : Int) + ((R.getD x dRu).2.2.2.2.1.getD v (0, 0)).2) ∨ q4 R q (x + 1) k a) k a) → rMk G' (o + 4) np (qRd R) ∧ rMk G' (o + 5) np (qRs np R) := e4
    rw [es] at e3 e4'
    refine ⟨G', ?_, fun a j x1 x2 x3 x4 => by rw [e2 a j x1 x2 x3 x4, d2 a j x1], e3, e4'⟩
    show g252_141b (g252_141 f fu) f _ _ _ = _
    unfold g252_141b
    rw [hR.1, if_neg (by omega), d1, Option.bind_some, hx3]
    exact e1
end
end
section
/-! FAULTS of the reference: findFaults, all -/
section
variable {f o q c np : Nat} {R : List pRu} {M : List pMn} {ins : List (Int × Int × Int)}
def qSa (ins : List (Int × Int × Int)) (R : List pRu) (M : List pMn) (q np i : Nat) (k a : Int) : Prop := (q12 ins R M q i k a ∨ q3 M q np k a) ∨ q4 R q 0 k a
theorem l_7 (hf : 6300 < f) (ho : 1 < o) (hnp : np ≤ 16) (hc : c ≤ 6200) (hw : ∀ u ∈ R, wRu np u) (hm : ∀ m ∈ M, wMn np m) (hso : ∀ i j, i < j → j < M.length → mP M i < mP M j) : ∀ (k i fu : Nat) (G : xG_) (S : Int → Int → Prop), i + k = M.length → k < fu → G o 8 = (np : Int) → rMM G o q M → rFg G o ins R → rRR G o q c R → (∀ y, y < np → G (o + 2) y = 0) → rF G S →
    ∃ G', g252_7 f fu o (i : Int) G = some G' ∧ xfF o G G' ∧ rMk G' (o + 2) 0 (fun _ => 0) ∧ (∀ y : Nat, y < np → G' (o + 2) y = pNn M y) ∧ (∀ y, np ≤ y → G' (o + 2) y = G (o + 2) y) ∧ rF G' (qS5 (fun k a => S k a ∨ qSa ins R M q np i k a) R q np) ∧ ((∀ k a, ¬ (S k a ∨ qSa ins R M q np i k a)) → rMk G' (o + 4) np (qRd R) ∧ rMk G' (o + 5) np (qRs np R)) := by
  intro k
  induction k with
  | zero =>
    intro i fu G S h1 h2 h8 hM hFg hR hz hF
    obtain ⟨fu, rfl⟩ : ∃ t, fu = t + 1 := ⟨fu - 1, by omega⟩
    have hM3 := hM.1
    obtain ⟨G1, d1, d2, d3, d4, d5⟩ := l_parts (f := f) (o := o) (q := q) (M := M) (np := np) (by omega) (by omega) hnp hso np 0 f G S (by omega) (by omega) h8 hM (fun y _ hy => hz y hy) hF
    have h24 := hR.2.1
    obtain ⟨G', e1, e2, e3, e4⟩ := l_141 (f := f) hf ho hnp hc hw R.length 0 f G1 _ (by omega) (by omega) (by rw [d2 _ _ (by omega) (by omega)]; exact h8) (hR.ge (d2 _ _ (by omega) (by omega)) (fun a j _ _ => d2 _ _ (by omega) (by omega))) d5
    have es : (fun k a => (S k a ∨ k = 3 ∧ ∃ z y, 0 ≤ z ∧ z < np ∧ isF3 M z y ∧ a = (q : Int) + mP M y) ∨ q4 R q 0 k a) = (fun k a => S k a ∨ qSa ins R M q np i k a) := by
      funext k a
      apply propext
      constructor
      · rintro ((h | h) | h)
        · exact Or.inl h
        · exact Or.inr (Or.inl (Or.inr h))
        · exact Or.inr (Or.inr h)
      · rintro (h | (⟨y, a1, a2, _⟩ | h) | h)
        · exact Or.inl (Or.inl h)
        · omega
        · exact Or.inl (Or.inr h)
        · exact Or.inr h
    have e4' : (∀ k a, ¬ (fun k a => (S k a ∨ k = 3 ∧ ∃ z y, 0 ≤ z ∧ z < np ∧ isF3 M z y ∧ a = (q : Int) + mP M y) ∨ q4 R q 0 k a) k a) → rMk G' (o + 4) np (qRd R) ∧ rMk G' (o + 5) np (qRs np R) := e4
    rw [es] at e3 e4'
    refine ⟨G', ?_, fun a j x1 x2 x3 x4 x5 => by rw [e2 a j x1 x2 x4 x5, d2 a j x1 x3], fun p hp => absurd hp (Nat.not_lt_zero _), fun y hy => by rw [e2 _ _ (by omega) (by omega) (by omega) (by omega)]; exact d4 y (Nat.zero_le _) hy, fun y hy => by rw [e2 _ _ (by omega) (by omega) (by omega) (by omega)]; exact d3 y (Or.inr hy), e3, e4'⟩
    show g252_7b (g252_7 f fu) f _ _ _ = _
    unfold g252_7b
    rw [hM.2.1, if_pos (by omega)]
    show Option.bind (g254_2 f f o ((0 : Nat) : Int) G) _ = _
    rw [d1, Option.bind_some]
    exact e1
  | succ k ih =>
    intro i fu G S h1 h2 h8 hM hFg hR hz hF
    obtain ⟨fu, rfl⟩ : ∃ t, fu = t + 1 := ⟨fu - 1, by omega⟩
    have hM3 := hM.1
    have hi : i < M.length := by omega
    have hmm : M.getD i (0, 0, 0, 0) ∈ M := by rw [getD_e hi]; exact List.getElem_mem hi
    have hu := hm _ hmm
    obtain ⟨G1, d1, d2, d3⟩ := l_f17 (f := f) (q := q) (ins := ins) (R := R) (r := g252_7 f fu) (i := i) (by omega) hi ⟨hu.1, by have := hu.2.1; show (M.getD i (0, 0, 0, 0)).1 < 16; omega⟩ i 0 f G S (by omega) (by omega) hM hFg hF
    obtain ⟨G', e1, e2, e3, e4, e5, e6, e7⟩ := ih (i + 1) fu G1 _ (by omega) (by omega) (by rw [d3 _ _ (by omega)]; exact h8) (hM.fr (by omega) d3) (fun p hp => by rw [d3 _ _ (by omega), d3 _ _ (by omega)]; exact hFg p hp) (hR.ge (d3 _ _ (by omega)) (fun a j _ _ => d3 _ _ (by omega))) (fun y hy => by rw [d3 _ _ (by omega)]; exact hz y hy) d2
    have es : (fun k a => (S k a ∨ k = 1 ∧ a = (q : Int) + mP M i ∧ isF1 M i 0 ∨ k = 2 ∧ a = (q : Int) + mP M i ∧ isF2 ins R M i) ∨ qSa ins R M q np (i + 1) k a) = (fun k a => S k a ∨ qSa ins R M q np i k a) := by
      funext k a
      apply propext
      constructor
      · rintro ((h | h) | (⟨y, a1, a2, a3⟩ | h) | h)
        · exact Or.inl h
        · exact Or.inr (Or.inl (Or.inl ⟨i, Nat.le_refl _, hi, h⟩))
        · exact Or.inr (Or.inl (Or.inl ⟨y, by omega, a2, a3⟩))
        · exact Or.inr (Or.inl (Or.inr h))
        · exact Or.inr (Or.inr h)
      · rintro (h | (⟨y, a1, a2, a3⟩ | h) | h)
        · exact Or.inl (Or.inl h)
        · by_cases cy : y = i
          · rw [cy] at a3
            exact Or.inl (Or.inr a3)
          · exact Or.inr (Or.inl (Or.inl ⟨y, by omega, a2, a3⟩))
        · exact Or.inr (Or.inl (Or.inr h))
        · exact Or.inr (Or.inr h)
    have e7' : (∀ k a, ¬ (fun k a => (S k a ∨ k = 1 ∧ a = (q : Int) + mP M i ∧ isF1 M i 0 ∨ k = 2 ∧ a = (q : Int) + mP M i ∧ isF2 ins R M i) ∨ qSa ins R M q np (i + 1) k a) k a) → rMk G' (o + 4) np (qRd R) ∧ rMk G' (o + 5) np (qRs np R) := e7
    rw [es] at e6 e7'
    refine ⟨G', ?_, fun a j x1 x2 x3 x4 x5 => by rw [e2 a j x1 x2 x3 x4 x5, d3 a j x1], e3, e4, fun y hy => by rw [e5 y hy, d3 _ _ (by omega)], e6, e7'⟩
    show g252_7b (g252_7 f fu) f _ _ _ = _
    unfold g252_7b
    rw [hM.2.1, if_neg (by omega)]
    exact Eq.trans d1 e1
/-- findFaults: the FAULTS of a program that was read -/
theorem l_ff {G : xG_} (hf : 6300 < f) (ho : 1 < o) (hnp : np ≤ 16) (hc : c ≤ 6200) (hw : ∀ u ∈ R, wRu np u) (hm : ∀ m ∈ M, wMn np m) (hso : ∀ i j, i < j → j < M.length → mP M i < mP M j) (h8 : G o 8 = (np : Int)) (hM : rMM G o q M) (hFg : rFg G o ins R) (hR : rRR G o q c R) (hz : ∀ y, y < np → G (o + 2) y = 0) :
    ∃ G', g252 f o G = some G' ∧ xfF o G G' ∧ (∀ y : Nat, y < np → G' (o + 2) y = pNn M y) ∧ (∀ y, np ≤ y → G' (o + 2) y = G (o + 2) y) ∧ rF G' (qS5 (qSa ins R M q np 0) R q np) ∧ ((∀ k a, ¬ qSa ins R M q np 0 k a) → rMk G' (o + 4) np (qRd R) ∧ rMk G' (o + 5) np (qRs np R)) := by
  have hM3 := hM.1
  have fr : ∀ a j, ¬ (a = 0 ∧ j = 26) → xup2 G 0 26 0 a j = G a j := fun a j h => xup2_n (by omega)
  obtain ⟨G', e1, e2, e3, e4, e5, e6, e7⟩ := l_7 (f := f) (ins := ins) hf ho hnp hc hw hm hso M.length 0 f (xup2 G 0 26 0) (fun _ _ => False) (by omega) (by omega) (by rw [fr _ _ (by omega)]; exact h8) (hM.fr (by omega) (fun a j _ => fr a j (by omega))) (fun p hp => by rw [fr _ _ (by omega), fr _ _ (by omega)]; exact hFg p hp) (hR.ge (fr _ _ (by omega)) (fun a j _ _ => fr _ _ (by omega))) (fun y hy => by rw [fr _ _ (by omega)]; exact hz y hy) (Or.inl ⟨xup2_s _ _ _ _, fun _ _ h => h⟩)
  have es : (fun k a => (fun _ _ => False) k a ∨ qSa ins R M q np 0 k a) = qSa ins R M q np 0 := by
    funext k a
    apply propext
    exact ⟨fun h => h.elim False.elim id, Or.inr⟩
  rw [es] at e6
  refine ⟨G', ?_, fun a j x1 x2 x3 x4 x5 => by rw [e2 a j x1 x2 x3 x4 x5, fr _ _ (by omega)], e4, fun y hy => by rw [e5 y hy, fr _ _ (by omega)], e6, fun h => e7 (fun k a q => h k a (q.elim False.elim id))⟩
  unfold g252
  rw [Option.bind_some]
  exact e1
end
end
section
/-! the reference: a program READ, with its FAULTS -/
def rFlg (G : xG_) (o : Nat) (s : pPg) : Prop := ∀ p : Nat, p < 16 → G (o + 6) p = b01 (pIn s.2.1 p) ∧ G (o + 3) p = pKy s.2.1 p ∧ G (o + 7) p = b01 (pOu s.2.2.1 p) ∧ G (o + 8) p = b01 (pHd s.2.2.2.2.1 p)
/-- the program s lies at o, its text at q -/
def rPr (G : xG_) (o q c : Nat) (s : pPg) : Prop := rNs G o s.1 ∧ rMM G o q s.2.2.2.1 ∧ rRR G o q c s.2.2.2.2.1 ∧ rFlg G o s ∧ c ≤ 3000 ∧ G o 37 = (c : Int)
def rPn (G : xG_) (o : Nat) (s : pPg) : Prop := ∀ y : Nat, y < s.1.length → G (o + 2) y = pNn s.2.2.2.1 y
def rPk (G : xG_) (o : Nat) (s : pPg) : Prop := rMk G (o + 4) s.1.length (qRd s.2.2.2.2.1) ∧ rMk G (o + 5) s.1.length (qRs s.1.length s.2.2.2.2.1)
/-- the FAULTS of a program -/
def pFa (s : pPg) (q : Nat) (k a : Int) : Prop := qS5 (qSa s.2.1 s.2.2.2.2.1 s.2.2.2.1 q s.1.length 0) s.2.2.2.2.1 q s.1.length k a
def xfp (o : Nat) (G G' : xG_) : Prop := ∀ a j, ¬ (a = 0 ∧ (j ≤ 11 ∨ 21 ≤ j ∧ j ≤ 27)) → a ≠ 1 → ¬ (o ≤ a ∧ a ≤ o + 34) → G' a j = G a j
theorem xlx_a {G : xG_} {L : Nat → Int} {a j : Nat} (h : a ≠ 0) : xlx G L a j = G a j := by
  unfold xlx
  rw [if_neg (by omega)]
theorem rPr.ge {G G' : xG_} {o q c : Nat} {s : pPg} (h : rPr G o q c s) (h0 : ∀ j, G' o j = G o j) (hf : ∀ a j, 1 ≤ a → a ≤ 34 → a ≠ 2 → a ≠ 4 → a ≠ 5 → G' (o + a) j = G (o + a) j) : rPr G' o q c s := by
  obtain ⟨a1, a2, a3, a4, a5⟩ := h
  refine ⟨⟨by rw [h0]; exact a1.1, a1.2.1, fun k hk => ?_⟩, ⟨a2.1, by rw [h0]; exact a2.2.1, fun k hk => ?_⟩, a3.ge (h0 _) (fun a j _ _ => hf a j (by omega) (by omega) (by omega) (by omega) (by omega)), fun p hp => ?_, a5.1, by rw [h0]; exact a5.2⟩
  · rw [hf 1 _ (by omega) (by omega) (by omega) (by omega) (by omega)]; exact a1.2.2 k hk
  · rw [hf 9 _ (by omega) (by omega) (by omega) (by omega) (by omega), hf 10 _ (by omega) (by omega) (by omega) (by omega) (by omega), hf 11 _ (by omega) (by omega) (by omega) (by omega) (by omega), hf 12 _ (by omega) (by omega) (by omega) (by omega) (by omega)]; exact a2.2.2 k hk
  · rw [hf 6 _ (by omega) (by omega) (by omega) (by omega) (by omega), hf 3 _ (by omega) (by omega) (by omega) (by omega) (by omega), hf 7 _ (by omega) (by omega) (by omega) (by omega) (by omega), hf 8 _ (by omega) (by omega) (by omega) (by omega) (by omega)]; exact a4 p hp
/-- readProgram, for a text of at most 3000 -/
theorem l_rd {f o b q n F K : Nat} {G : xG_} (hf : n + 20 < f) (hn : n ≤ 3000) (hF : 4 * (n + 1) + 4 ≤ F) (hK : n + 1 < K) (ho : o = 2 ∨ o = 37 ∨ o = 72) (hC : rC G) (h : rTt G b q n) :
    pok (pProg (tstr (rBy G b q n) n false) F K ([], [], [], [], [], 0)) (fun w => ∃ G', g231 f o b q ((q : Int) + n) G = some G' ∧ G' 0 7 = (q : Int) + w ∧ xfp o G G')
      (fun s => ∃ G', ∃ c : Nat, g231 f o b q ((q : Int) + n) G = some G' ∧ G' 0 7 = -1 ∧ G' 0 22 = (o : Int) ∧ xfp o G G' ∧ rPr G' o q c s ∧ (∀ y, y < 16 → G' (o + 2) y = 0) ∧ wPg s ∧ ∀ i j, i < j → j < s.2.2.2.1.length → mP s.2.2.2.1 i < mP s.2.2.2.1 j) := by
  have h2 := l_readp (f := f) (F := F) (K := K) hf (by omega) hF hK ho hC h
  have fr : ∀ {G' L'}, xfr2 o G G' → xfp o G (xlx G' L') := by
    intro G' L' hg a j k1 k2 k3
    by_cases ca : a = 0
    · have : ¬ (2 ≤ j ∧ j ≤ 10) := by omega
      unfold xlx
      rw [if_neg (by omega)]
      exact hg a j (by omega) (by omega)
    · rw [xlx_a ca]
      exact hg a j (by omega) (by omega)
  have e7 : ∀ (G' : xG_) (L' : Nat → Int), xlx G' L' 0 7 = L' 7 := fun _ _ => by unfold xlx; rw [if_pos (by omega)]
  cases hp : pProg (tstr (rBy G b q n) n false) F K ([], [], [], [], [], 0) with
  | inl w =>
    rw [hp] at h2
    obtain ⟨G', L', a1, a2, a3⟩ := h2
    exact ⟨xlx G' L', a1, by rw [e7]; exact a2, fr a3⟩
  | inr s =>
    rw [hp] at h2
    obtain ⟨G', L', c, a1, a2, a3, a4, a5, a6⟩ := h2
    obtain ⟨w1, w2⟩ := pProg_420 (rBy_tx G b q n) hn hp
    have w3 := pProg_sorted (rBy_tx G b q n) hp
    obtain ⟨b1, b2, b3, b4, b5, b6, b7, b8⟩ := a4
    have hmin : min s.2.2.2.1.length 420 = s.2.2.2.1.length := by omega
    have hpr : rPr G' o q c s := ⟨b2, ⟨w2, by have := b3.1; rw [hmin] at this; exact this, fun k hk => b3.2 k (by omega)⟩, ⟨b5, b6, b7⟩, b8, by omega⟩
    refine ⟨xlx G' L', c, a1, by rw [e7]; exact a2, b1.2.2.2.1, fr a3, hpr.ge (fun j => xlx_a (by omega)) (fun a j _ _ _ _ _ => xlx_a (by omega)), fun y hy => by rw [xlx_a (by omega)]; exact a5 y hy, w1, fun i j hi hj => ?_⟩
    unfold mP
    rw [getD_e (by omega : i < s.2.2.2.1.length), getD_e hj]
    exact (List.pairwise_iff_getElem.mp w3) i j (by omega) hj hi
/-- readProgram and findFaults -/
theorem l_fa {f o q c : Nat} {G : xG_} {s : pPg} (hf : 6300 < f) (ho : 1 < o) (h : rPr G o q c s) (hz : ∀ y, y < 16 → G (o + 2) y = 0) (hw : wPg s) (hso : ∀ i j, i < j → j < s.2.2.2.1.length → mP s.2.2.2.1 i < mP s.2.2.2.1 j) :
    ∃ G', g252 f o G = some G' ∧ xfF o G G' ∧ rPr G' o q c s ∧ rPn G' o s ∧ rF G' (pFa s q) ∧ ((∀ k a, ¬ pFa s q k a) → rPk G' o s) := by
  obtain ⟨a1, a2, a3, a4, a5⟩ := h
  obtain ⟨w1, w2, w3, w4, w5, w6, w7⟩ := hw
  obtain ⟨G', e1, e2, e3, e4, e5, e6⟩ := l_ff (f := f) (ins := s.2.1) hf ho w1 (by omega) w7 w5 hso a1.1 a2 (fun p hp => ⟨(a4 p hp).1, (a4 p hp).2.2.2⟩) a3 (fun y hy => hz y (by omega))
  refine ⟨G', e1, e2, rPr.ge ⟨a1, a2, a3, a4, a5⟩ (fun j => e2 _ _ (by omega) (by omega) (by omega) (by omega) (by omega)) (fun a j _ _ _ _ _ => e2 _ _ (by omega) (by omega) (by omega) (by omega) (by omega)), e3, e5, fun h => e6 (fun k a q => h k a (Or.inl q))⟩
end
section
/-! CHANGES as the reference reads them: the VALUES of one -/
def xfc (x : Nat) (G G' : xG_) : Prop := ∀ a j, ¬ (a = 0 ∧ j = 21) → ¬ (a = 272 ∧ j = x) → ¬ (a = 274 ∧ 4 * x ≤ j ∧ j < 4 * x + 4) → G' a j = G a j
theorem xfc.rf (x : Nat) (G : xG_) : xfc x G G := fun _ _ _ _ _ => rfl
theorem xfc.tr {x : Nat} {G G1 G2 : xG_} (h : xfc x G G1) (h1 : xfc x G1 G2) : xfc x G G2 := fun a j x1 x2 x3 => by rw [h1 a j x1 x2 x3, h a j x1 x2 x3]
theorem rEv.fc {G G' : xG_} {q n o x : Nat} {B : Nat → Int} {lm : Bool} (h : rEv G q B n lm o) (hf : xfc x G G') : rEv G' q B n lm o := by
  obtain ⟨⟨⟨a1, a2, a3⟩, a4, a5, a6, a7⟩, b1, b2, b3, b4⟩ := h
  have e0 : G' 0 0 = G 0 0 := hf _ _ (by omega) (by omega) (by omega)
  have e1 : G' 0 1 = G 0 1 := hf _ _ (by omega) (by omega) (by omega)
  have eb : ∀ j, G' (G 0 0).toNat j = G (G 0 0).toNat j := fun j => hf _ _ (by omega) (by omega) (by omega)
  refine ⟨⟨⟨by rw [e0]; exact a1, by rw [e1]; exact a2, by rw [e0, e1]; exact a3⟩, a4, by rw [e1]; exact a5, fun p => ?_, fun p hp => ?_⟩, by rw [hf _ _ (by omega) (by omega) (by omega)]; exact b1, ?_, by rw [hf _ _ (by omega) (by omega) (by omega)]; exact b3, b4⟩
  · have := a6 p
    unfold gB at this ⊢
    rw [e0, e1, eb]
    exact this
  · rw [e0, eb]
    exact a7 p hp
  · obtain ⟨k1, k2, k3, k4, k5, k6, k7, k8, k9⟩ := b2
    unfold rC
    simp (disch := omega) only [hf _ _]
    exact ⟨k1, k2, k3, k4, k5, k6, k7, k8, k9⟩
section
variable {f o q n i x : Nat} {B : Nat → Int} {lm : Bool} {G : xG_} {L : Nat → Int}
/-- the end of a CHANGE: ) and . -/
theorem l_c106 (hf : n + 20 < f) (hE : rEv G q B n lm o) (hA : rAt q B n lm i L) (hx : x < 600) (m : Int) :
    pok (pbind (pNeed (tstr B n lm) 41 i) fun j => pNeed (tstr B n lm) 46 j) (fun w => ∃ L', g366_106 f (x : Int) m (xlx G L) = some (xlx (xup2 G 272 x m) L') ∧ L' 7 = (q : Int) + w)
      (fun j => ∃ L', g366_106 f (x : Int) m (xlx G L) = some (xlx (xup2 G 272 x m) L') ∧ rAt q B n lm j L') := by
  have hE1 : rEv (xup2 G 272 x m) q B n lm o := hE.fc (x := x) (fun a j _ h _ => xup2_n (by omega))
  have e0 : xup2 (xlx G L) 272 x m = xlx (xup2 G 272 x m) L := by
    funext a j
    unfold xlx xup2
    grind
  have h41 : isSg 41 := by unfold isSg; omega
  have h46 : isSg 46 := by unfold isSg; omega
  unfold g366_106
  rw [if_pos (by omega), Option.bind_some, Int.toNat_natCast, e0]
  unfold pNeed
  by_cases c1 : kK (tstr B n lm) i = 41
  · obtain ⟨L1, d1, d2⟩ := l_need hf hE1 hA h41 c1
    have d1' : g222 f 41 (xlx (xup2 G 272 x m) L) = some (xlx (xup2 G 272 x m) L1) := d1
    rw [if_pos c1, d1', Option.bind_some]
    show pok (if kK (tstr B n lm) (i + 1) = 46 then .inr (i + 1 + 1) else .inl (kS (tstr B n lm) (i + 1))) _ _
    by_cases c2 : kK (tstr B n lm) (i + 1) = 46
    · obtain ⟨L2, f1, f2⟩ := l_need hf hE1 d2 h46 c2
      have f1' : g222 f 46 (xlx (xup2 G 272 x m) L1) = some (xlx (xup2 G 272 x m) L2) := f1
      rw [if_pos c2, f1']
      exact ⟨L2, rfl, f2⟩
    · have f1 := l_need_no (f := f) hE1 d2 h46 c2
      have f1' : g222 f 46 (xlx (xup2 G 272 x m) L1) = _ := f1
      rw [if_neg c2, f1']
      exact ⟨_, rfl, rfl⟩
  · have d1 := l_need_no (f := f) hE1 hA h41 c1
    have d1' : g222 f 41 (xlx (xup2 G 272 x m) L) = _ := d1
    rw [if_neg c1, d1', Option.bind_some]
    have hne : xu L 7 ((q : Int) + kS (tstr B n lm) i) 7 ≠ -1 := by
      show (q : Int) + kS (tstr B n lm) i ≠ -1
      omega
    rw [l_need_bad hne, Option.bind_some]
    exact ⟨_, rfl, rfl⟩
end
end
