/-! the reference: a program READ, with its FAULTS -/
def rFlg (G : xG_) (o : Nat) (s : pPg) : Prop := ∀ p : Nat, p < 16 → G (o + 6) p = b01 (pIn s.2.1 p) ∧ G (o + 3) p = pKy s.2.1 p ∧ G (o + 7) p = b01 (pOu s.2.2.1 p) ∧ G (o + 8) p = b01 (pHd s.2.2.2.2.1 p)
/-- the program s lies at o, its text at q -/
def rPr (G : xG_) (o q c : Nat) (s : pPg) : Prop := rNs G o s.1 ∧ rMM G o q s.2.2.2.1 ∧ rRR G o q c s.2.2.2.2.1 ∧ rFlg G o s ∧ c ≤ 3000 ∧ G o 37 = (c : Int)
def rPn (G : xG_) (o : Nat) (s : pPg) : Prop := ∀ y : Nat, y < s.1.length → G (o + 2) y = pNn s.2.2.2.1 y
def rPk (G : xG_) (o : Nat) (s : pPg) : Prop := rMk G (o + 4) s.1.length (qRd s.2.2.2.2.1) ∧ rMk G (o + 5) s.1.length (qRs s.1.length s.2.2.2.2.1)
/-- the FAULTS of a program -/
def pFa (s : pPg) (q : Nat) (k a : Int) : Prop := qS5 (qSa s.2.1 s.2.2.2.2.1 s.2.2.2.1 q s.1.length 0) s.2.2.2.2.1 q s.1.length k a
def xfp (o : Nat) (G G' : xG_) : Prop := ∀ a j, ¬ (a = 0 ∧ (j ≤ 11 ∨ 21 ≤ j ∧ j ≤ 27)) → a ≠ 1 → ¬ (o ≤ a ∧ a ≤ o + 34) → G' a j = G a j
theorem xlx_a {G : xG_} {L : Nat → Int} {a j : Nat} (h : a ≠ 0) : xlx G L a j = G a j := by
  unfold xlx
  rw [if_neg (by omega)]
theorem rPr.ge {G G' : xG_} {o q c : Nat} {s : pPg} (h : rPr G o q c s) (h0 : ∀ j, G' o j = G o j) (hf : ∀ a j, 1 ≤ a → a ≤ 34 → a ≠ 2 → a ≠ 4 → a ≠ 5 → G' (o + a) j = G (o + a) j) : rPr G' o q c s := by
  obtain ⟨a1, a2, a3, a4, a5⟩ := h
  refine ⟨⟨by rw [h0]; exact a1.1, a1.2.1, fun k hk => ?_⟩, ⟨a2.1, by rw [h0]; exact a2.2.1, fun k hk => ?_⟩, a3.ge (h0 _) (fun a j _ _ => hf a j (by omega) (by omega) (by omega) (by omega) (by omega)), fun p hp => ?_, a5.1, by rw [h0]; exact a5.2⟩
  · rw [hf 1 _ (by omega) (by omega) (by omega) (by omega) (by omega)]; exact a1.2.2 k hk
  · rw [hf 9 _ (by omega) (by omega) (by omega) (by omega) (by omega), hf 10 _ (by omega) (by omega) (by omega) (by omega) (by omega), hf 11 _ (by omega) (by omega) (by omega) (by omega) (by omega), hf 12 _ (by omega) (by omega) (by omega) (by omega) (by omega)]; exact a2.2.2 k hk
  · rw [hf 6 _ (by omega) (by omega) (by omega) (by omega) (by omega), hf 3 _ (by omega) (by omega) (by omega) (by omega) (by omega), hf 7 _ (by omega) (by omega) (by omega) (by omega) (by omega), hf 8 _ (by omega) (by omega) (by omega) (by omega) (by omega)]; exact a4 p hp
/-- readProgram, for a text of at most 3000 -/
theorem l_rd {f o b q n F K : Nat} {G : xG_} (hf : n + 20 < f) (hn : n ≤ 3000) (hF : 4 * (n + 1) + 4 ≤ F) (hK : n + 1 < K) (ho : o = 2 ∨ o = 37 ∨ o = 72) (hC : rC G) (h : rTt G b q n) :
    pok (pProg (tstr (rBy G b q n) n false) F K ([], [], [], [], [], 0)) (fun w => ∃ G', g231 f o b q ((q : Int) + n) G = some G' ∧ G' 0 7 = (q : Int) + w ∧ xfp o G G')
      (fun s => ∃ G', ∃ c : Nat, g231 f o b q ((q : Int) + n) G = some G' ∧ G' 0 7 = -1 ∧ G' 0 22 = (o : Int) ∧ xfp o G G' ∧ rPr G' o q c s ∧ (∀ y, y < 16 → G' (o + 2) y = 0) ∧ wPg s ∧ ∀ i j, i < j → j < s.2.2.2.1.length → mP s.2.2.2.1 i < mP s.2.2.2.1 j) := by
  have h2 := l_readp (f := f) (F := F) (K := K) hf (by omega) hF hK ho hC h
  have fr : ∀ {G' L'}, xfr2 o G G' → xfp o G (xlx G' L') := by
    intro G' L' hg a j k1 k2 k3
    by_cases ca : a = 0
    · have : ¬ (2 ≤ j ∧ j ≤ 10) := by omega
      unfold xlx
      rw [if_neg (by omega)]
      exact hg a j (by omega) (by omega)
    · rw [xlx_a ca]
      exact hg a j (by omega) (by omega)
  have e7 : ∀ (G' : xG_) (L' : Nat → Int), xlx G' L' 0 7 = L' 7 := fun _ _ => by unfold xlx; rw [if_pos (by omega)]
  cases hp : pProg (tstr (rBy G b q n) n false) F K ([], [], [], [], [], 0) with
  | inl w =>
    rw [hp] at h2
    obtain ⟨G', L', a1, a2, a3⟩ := h2
    exact ⟨xlx G' L', a1, by rw [e7]; exact a2, fr a3⟩
  | inr s =>
    rw [hp] at h2
    obtain ⟨G', L', c, a1, a2, a3, a4, a5, a6⟩ := h2
    obtain ⟨w1, w2⟩ := pProg_420 (rBy_tx G b q n) hn hp
    have w3 := pProg_sorted (rBy_tx G b q n) hp
    obtain ⟨b1, b2, b3, b4, b5, b6, b7, b8⟩ := a4
    have hmin : min s.2.2.2.1.length 420 = s.2.2.2.1.length := by omega
    have hpr : rPr G' o q c s := ⟨b2, ⟨w2, by have := b3.1; rw [hmin] at this; exact this, fun k hk => b3.2 k (by omega)⟩, ⟨b5, b6, b7⟩, b8, by omega⟩
    refine ⟨xlx G' L', c, a1, by rw [e7]; exact a2, b1.2.2.2.1, fr a3, hpr.ge (fun j => xlx_a (by omega)) (fun a j _ _ _ _ _ => xlx_a (by omega)), fun y hy => by rw [xlx_a (by omega)]; exact a5 y hy, w1, fun i j hi hj => ?_⟩
    unfold mP
    rw [getD_e (by omega : i < s.2.2.2.1.length), getD_e hj]
    exact (List.pairwise_iff_getElem.mp w3) i j (by omega) hj hi
/-- readProgram and findFaults -/
theorem l_fa {f o q c : Nat} {G : xG_} {s : pPg} (hf : 6300 < f) (ho : 1 < o) (h : rPr G o q c s) (hz : ∀ y, y < 16 → G (o + 2) y = 0) (hw : wPg s) (hso : ∀ i j, i < j → j < s.2.2.2.1.length → mP s.2.2.2.1 i < mP s.2.2.2.1 j) :
    ∃ G', g252 f o G = some G' ∧ xfF o G G' ∧ rPr G' o q c s ∧ rPn G' o s ∧ rF G' (pFa s q) ∧ ((∀ k a, ¬ pFa s q k a) → rPk G' o s) := by
  obtain ⟨a1, a2, a3, a4, a5⟩ := h
  obtain ⟨w1, w2, w3, w4, w5, w6, w7⟩ := hw
  obtain ⟨G', e1, e2, e3, e4, e5, e6⟩ := l_ff (f := f) (ins := s.2.1) hf ho w1 (by omega) w7 w5 hso a1.1 a2 (fun p hp => ⟨(a4 p hp).1, (a4 p hp).2.2.2⟩) a3 (fun y hy => hz y (by omega))
  refine ⟨G', e1, e2, rPr.ge ⟨a1, a2, a3, a4, a5⟩ (fun j => e2 _ _ (by omega) (by omega) (by omega) (by omega) (by omega)) (fun a j _ _ _ _ _ => e2 _ _ (by omega) (by omega) (by omega) (by omega) (by omega)), e3, e5, fun h => e6 (fun k a q => h k a (Or.inl q))⟩
