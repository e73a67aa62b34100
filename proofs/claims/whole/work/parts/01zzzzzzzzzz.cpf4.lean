/-! THE CLASS: programFault() -/
def cFt (S : Nat → Nat × Nat × Nat) (G : xG_) (q nx : Nat) (s : pPg) : Prop := cSs S ∧ cPs G ∧ cPr0 S G q true s.1 ∧ cMe G s.2.2.2.1 ∧ cWd G q s.2.2.2.1 ∧ cPp S G q nx s.2.1 s.2.2.1 s.2.2.2.2.1 ∧ cHd G q s.2.2.2.2.1 ∧ 278 < q ∧ q + 10 < nx
section
variable {f q nx A sl : Nat} {S S' : Nat → Nat × Nat × Nat} {G G' : xG_} {s : pPg}
theorem cFt.fr (h : cFt S G q nx s) (hS : ∀ a, a < nx → S' a = S a) (hG : ∀ a j, a < nx → ¬ (a = 72 ∧ j = 2) → G' a j = G a j) : cFt S' G' q nx s := by
  obtain ⟨a1, a2, a3, a4, a5, a6, a7, a8, a9⟩ := h
  refine ⟨fun k hk => by rw [hS _ (by omega)]; exact a1 k hk, a2.read (fun a j z1 _ z3 => hG a j (by omega) (by omega)), a3.sg (fun a _ _ => hS a (by omega)) (hG _ _ (by omega) (by omega)) (hG _ _ (by omega) (by omega)) (fun j _ _ _ => hG _ _ (by omega) (by omega)) (fun j => hG _ _ (by omega) (by omega)), a4.ge (hG _ _ (by omega) (by omega)) (fun a j _ _ => hG _ _ (by omega) (by omega)), a5.ge (fun j => hG _ _ (by omega) (by omega)), a6.ge hS (fun a j z => hG _ _ (by omega) (by omega)), a7.ge (fun j => hG _ _ (by omega) (by omega)), a8, a9⟩
theorem cFt.pl {x : Int} (h : cFt S G q nx s) : cFt S (xup2 G 72 2 x) q nx s := h.fr (fun _ _ => rfl) (fun a j _ z => xup2_n z)
/-- what programFault() leaves -/
def xFf (q nx : Nat) (G G' : xG_) : Prop := ∀ a j, a < nx → ¬ (a = 72 ∧ j = 2) → ¬ (q + 8 ≤ a ∧ a ≤ q + 10) → ¬ (a = q ∧ j = 12) → G' a j = G a j
theorem k_62a (hf : 3010 < f) (h : cFt S G q nx s) (hA : nx ≤ A) (hw : wPg s) (hM : s.2.2.2.1.length ≤ 376) : ∃ x S' G', c62 f 72 (S, G, (A, sl)) = c62a f 72 (x, (S', G', (A + 1, sl + 16))) ∧ (∀ a, a < A → S' a = S a) ∧ (∀ a j, a < A → G' a j = G a j) ∧ cFt S' G' q nx s ∧ fMp s.2.2.2.1 (fun i => isF1 s.2.2.2.1 i 0) 0 x := by
  have hb := h
  obtain ⟨a1, a2, a3, a4, a5, a6, a7, a8, a9⟩ := h
  have h16 := hw.1
  have hn : ∀ k, k < s.2.2.2.1.length → (0 ≤ mN s.2.2.2.1 k ∧ mN s.2.2.2.1 k < 16) ∧ (mW s.2.2.2.1 k = 1 ∨ mW s.2.2.2.1 k = 2 ∨ mW s.2.2.2.1 k = 3 ∨ mW s.2.2.2.1 k = 4) := fun k hk => by
    obtain ⟨b1, b2, b3⟩ := hw.2.2.2.2.1 _ (mm_at hk)
    replace b1 : 0 ≤ mN s.2.2.2.1 k := b1
    replace b2 : mN s.2.2.2.1 k < s.1.length := b2
    replace b3 : mW s.2.2.2.1 k = 2 ∧ mK s.2.2.2.1 k = -1 ∨ (mW s.2.2.2.1 k = 1 ∨ mW s.2.2.2.1 k = 3 ∨ mW s.2.2.2.1 k = 4) ∧ 1 ≤ mK s.2.2.2.1 k ∧ mK s.2.2.2.1 k ≤ 4 := b3
    omega
  obtain ⟨x, S', G', e1, e2, e3, e4⟩ := k_65 (f := f) (A := A) (sl := sl) (by omega) a1 a2 (by omega) a4 (by omega) hn
  exact ⟨x, S', G', st_62_0 (s72 a1) e1, e2, e3, hb.fr (fun a ha => e2 a (by omega)) (fun a j ha _ => e3 a j (by omega)), e4⟩
theorem k_66' {m : Nat × Nat} (hf : 3010 < f) (h : cFt S G q nx s) (hw : wPg s) (hM : s.2.2.2.1.length ≤ 376) : ∃ x, c66 f 72 (S, G, m) = some (x, (S, G, m)) ∧ fMp s.2.2.2.1 (isK2 s) 0 x := by
  obtain ⟨a1, a2, a3, a4, a5, a6, a7, a8, a9⟩ := h
  have h16 := hw.1
  have hn : ∀ k, k < s.2.2.2.1.length → mN s.2.2.2.1 k = -1 ∨ 0 ≤ mN s.2.2.2.1 k ∧ mN s.2.2.2.1 k < 16 := fun k hk => by
    obtain ⟨b1, b2, b3⟩ := hw.2.2.2.2.1 _ (mm_at hk)
    replace b1 : 0 ≤ mN s.2.2.2.1 k := b1
    replace b2 : mN s.2.2.2.1 k < s.1.length := b2
    omega
  exact k_66 (f := f) (m := m) (fi := fun p => pIn s.2.1 (p : Int)) (fh := fun p => pHd s.2.2.2.2.1 (p : Int)) (by omega) a1 a2 a3 a4 (by omega) (fun p hp => ⟨(a6.1 p hp).2.1, a7 p hp⟩) hn
theorem k_67' {m : Nat × Nat} (hf : 3010 < f) (h : cFt S G q nx s) (hw : wPg s) (hM : s.2.2.2.1.length ≤ 376) : ∃ x, c67 f 72 (S, G, m) = some (x, (S, G, m)) ∧ fMp s.2.2.2.1 (isK3 s) 0 x := by
  obtain ⟨a1, a2, a3, a4, a5, a6, a7, a8, a9⟩ := h
  have h16 := hw.1
  have hn : ∀ k, k < s.2.2.2.1.length → (0 ≤ mN s.2.2.2.1 k ∧ mN s.2.2.2.1 k < 16) ∧ (mW s.2.2.2.1 k = 2 ∧ mK s.2.2.2.1 k = -1 ∨ mW s.2.2.2.1 k ≠ 2 ∧ mK s.2.2.2.1 k ≠ -1) := fun k hk => by
    obtain ⟨b1, b2, b3⟩ := hw.2.2.2.2.1 _ (mm_at hk)
    replace b1 : 0 ≤ mN s.2.2.2.1 k := b1
    replace b2 : mN s.2.2.2.1 k < s.1.length := b2
    replace b3 : mW s.2.2.2.1 k = 2 ∧ mK s.2.2.2.1 k = -1 ∨ (mW s.2.2.2.1 k = 1 ∨ mW s.2.2.2.1 k = 3 ∨ mW s.2.2.2.1 k = 4) ∧ 1 ≤ mK s.2.2.2.1 k ∧ mK s.2.2.2.1 k ≤ 4 := b3
    omega
  exact k_67 (f := f) (m := m) (fw := fun p => pNn s.2.2.2.1 (p : Int)) (by omega) a1 a2 a3 a4 (by omega) a5 hn
theorem k_62b (hf : 3010 < f) (h : cFt S G q nx s) (hA : nx ≤ A) (hw : wPg s) : ∃ x G', (∀ a j, ¬ (a = 72 ∧ j = 2) → G' a j = G a j) ∧ fUp s.2.2.2.2.1 0 x ∧ (x ≠ -1 → c62_56 f f 72 0 (S, G, (A, sl)) = some (4, (S, G', (A, sl))) ∧ G' 72 2 = x) ∧
    (x = -1 → ∃ S'' G'', c62_56 f f 72 0 (S, G, (A, sl)) = c62_56t f 72 (S'', G'', (A + 1, sl + 16)) ∧ (∀ a, a < A → S'' a = S a) ∧ xFf q A G G'' ∧ cRg G'' q s.1.length s.2.2.2.2.1) := by
  obtain ⟨a1, a2, a3, a4, a5, a6, a7, a8, a9⟩ := h
  have hR := a6.2.1
  have h16 := hw.1
  have hwl : ∀ u ∈ s.2.2.2.2.1, ∀ y ∈ u.2.2.2.2.2, wLt s.1.length u.2.2.2.2.1.length y := fun u hu y hy => ((hw.2.2.2.2.2.2 u hu).2.2.2.2.2.2.2.2 y hy).1
  obtain ⟨x, G', e1, e2, e3, e4⟩ := k_62r (f := f) (m := (A, sl)) hf a1 a8 a3.2.2.2.2.1 hwl s.2.2.2.2.1.length 0 f G (by omega) (by have := hR.2.1; omega) a2 a3.1 a3.2.2.2.2.2.1 hR
  refine ⟨x, G', e1, e2, e3, fun c => ?_⟩
  obtain ⟨fu', e5⟩ := e4 c
  have hT := (qWm_tr (np := s.1.length) (T := qRd s.2.2.2.2.1))
  have hP : cPgS S q := a3.2.2.2.2.1
  have hG' : cPgP G' q := a3.2.2.2.2.2.1.ge (fun j _ _ _ => e1 _ _ (by omega))
  have hRl : cRl S G' q nx s.2.2.2.2.1 := hR.ge (Nat.le_refl _) (e1 _ _ (by omega)) (fun j _ => e1 _ _ (by omega)) (fun _ _ => rfl) (fun a j _ _ => e1 _ _ (by omega))
  have hw16 : ∀ u ∈ s.2.2.2.2.1, (0 ≤ u.1 ∧ u.1 < 16) ∧ ∀ y ∈ u.2.2.2.2.2, y.1 ≠ 3 → 0 ≤ y.2.1 ∧ y.2.1 < 16 := fun u hu => by
    have z := hw.2.2.2.2.2.2 u hu
    refine ⟨⟨z.1, by have := z.2.1; omega⟩, fun y hy hy3 => ?_⟩
    obtain ⟨y1, y2⟩ := z.2.2.2.2.2.2.2.2 y hy
    refine ⟨y2 hy3, ?_⟩
    rcases y1 with ⟨_, _, y4, _⟩ | ⟨y4, _⟩
    · omega
    · exact absurd y4 hy3
  have hD : ∀ x, x < s.1.length → ∀ j, (qRd s.2.2.2.2.1 x).testBit j = true → (qWm s.1.length (qRd s.2.2.2.2.1) s.1.length x).testBit j = true ∧ j < s.1.length := fun x hx j hj => by
    refine ⟨hT.1 x hx j hj, ?_⟩
    obtain ⟨u, u1, u2, y, y1, y2, y3⟩ := (qRd_in _ _ _).mp hj
    obtain ⟨z1, z2⟩ := (hw.2.2.2.2.2.2 u u1).2.2.2.2.2.2.2.2 y y1
    rcases z1 with ⟨_, _, y4, _⟩ | ⟨y4, _⟩
    · omega
    · exact absurd y4 y2
  obtain ⟨S'', G'', g1, g2, g3, g4⟩ := k_24 (f := f) (A := A) (sl := sl) (by omega) a8 (by omega) hA h16 hP hG' (by rw [e1 _ _ (by omega)]; exact a3.2.2.2.2.2.2.1) (by rw [e1 _ _ (by omega)]; exact a6.2.2.2) hRl (fun j => by rw [e1 _ _ (by omega)]; exact a6.2.2.1 _ _ (by omega) (by omega)) hw16 hT.2 hD
  have st : c62_56 f (fu' + 1) 72 (s.2.2.2.2.1.length : Int) (S, G', (A, sl)) = _ := st_62e (r56 := c62_56 f fu') a1 (by omega) hP.1 (by rw [e1 _ _ (by omega)]; exact a3.1) (by rw [e1 _ _ (by omega)]; exact hR.1) g1
  exact ⟨S'', G'', e5.trans st, g2, fun a j z1 z2 z3 z4 => by rw [g3 a j z1 z3 z4, e1 a j z2], g4⟩
end
