/-! WAYS of the reference: whether a row fits an ATOM -/
def isB (b : Int) (P : Prop) : Prop := b = 1 ∧ P ∨ b = 0 ∧ ¬ P
theorem isB.iff {b : Int} {P Q : Prop} (h : isB b P) (e : P ↔ Q) : isB b Q := by
  rcases h with ⟨a, c⟩ | ⟨a, c⟩
  · exact .inl ⟨a, e.mp c⟩
  · exact .inr ⟨a, fun q => c (e.mpr q)⟩
/-- the TERM at k lets the row xs through, with the VARIABLES of m having values vl -/
def pF1 (m : Nat) (vl : Nat → Int) (T : pCd) (xs : List Int) (k : Nat) : Prop :=
  ((T.getD k (0, 0)).1 = 3 → (T.getD k (0, 0)).2 = xs.getD k 0) ∧ ((T.getD k (0, 0)).1 = 1 → m.testBit (T.getD k (0, 0)).2.toNat = true → vl (T.getD k (0, 0)).2.toNat = xs.getD k 0) ∧
  ((T.getD k (0, 0)).1 = 1 → ∀ j, j < k → (T.getD j (0, 0)).1 = 1 → (T.getD j (0, 0)).2 = (T.getD k (0, 0)).2 → xs.getD j 0 = xs.getD k 0)
def pFit (m : Nat) (vl : Nat → Int) (T : pCd) (xs : List Int) : Prop := ∀ k, k < T.length → pF1 m vl T xs k
/-- a literal's TERMS at x of the program at 2 -/
def rTm (G : xG_) (x : Nat) (T : pCd) : Prop := x < 200 ∧ G 29 x = (T.length : Int) ∧ T.length ≤ 4 ∧ ∀ k, k < T.length → G 33 (4 * x + k) = (T.getD k (0, 0)).1 ∧ ((T.getD k (0, 0)).1 ≠ 2 → G 34 (4 * x + k) = (T.getD k (0, 0)).2)
section
variable {f p n x i m nv : Nat} {G : xG_} {R : List pRw} {T : pCd}
theorem l_270 {v : Nat} (hm : m < 256) (hv : v < 8) (h : G 0 37 = (m : Int)) : g270 f (v : Int) G = some (if m.testBit v = true then 1 else 0, G) := by
  unfold g270 g270_17
  rw [h]
  by_cases c : m.testBit v = true
  · rw [if_neg (fun z => z ((xbit (by omega) (by omega)).mpr c)), if_pos (Or.inr rfl), if_pos c]
  · rw [if_pos (fun z => c ((xbit (by omega) (by omega)).mp z)), if_pos (Or.inl rfl), if_neg c]
theorem l_272_132 {r3 : Int → Int → Int → Int → xG_ → Option (Int × xG_)} {k : Nat} {z : Int} (hp : p < 16) (hi : i < 520) (hT : rTm G x T) (hw : ∀ y ∈ T, wT1 nv y) (hk : k < T.length) (hr : ∀ j, j < 4 → G 107 ((p * 520 + i) * 4 + j) = (R.getD i dRw).1.getD j 0) (hz : z = (R.getD i dRw).1.getD k 0) : ∀ (d j fu : Nat), j + d = k → d < fu →
    ((∀ j', j ≤ j' → j' < k → (T.getD k (0, 0)).1 = 1 → (T.getD j' (0, 0)).1 = 1 → (T.getD j' (0, 0)).2 = (T.getD k (0, 0)).2 → (R.getD i dRw).1.getD j' 0 = z) → g272_132 r3 f fu (x : Int) (p : Int) (i : Int) (k : Int) ((4 * x + k : Nat) : Int) z (j : Int) G = r3 (x : Int) (p : Int) (i : Int) ((k + 1 : Nat) : Int) G) ∧
    ((∃ j', j ≤ j' ∧ j' < k ∧ (T.getD k (0, 0)).1 = 1 ∧ (T.getD j' (0, 0)).1 = 1 ∧ (T.getD j' (0, 0)).2 = (T.getD k (0, 0)).2 ∧ (R.getD i dRw).1.getD j' 0 ≠ z) → g272_132 r3 f fu (x : Int) (p : Int) (i : Int) (k : Int) ((4 * x + k : Nat) : Int) z (j : Int) G = some (0, G)) := by
  obtain ⟨t1, t2, t3, t4⟩ := hT
  have e3 : xwr ((k : Int) + 1) = ((k + 1 : Nat) : Int) := by rw [xwr_g _ (by omega) (by omega)]; omega
  intro d
  induction d with
  | zero =>
    intro j fu h1 h2
    obtain ⟨fu, rfl⟩ : ∃ t, fu = t + 1 := ⟨fu - 1, by omega⟩
    refine ⟨fun _ => ?_, fun ⟨j', q1, q2, _⟩ => by omega⟩
    show g272_132b r3 (g272_132 r3 f fu) f _ _ _ _ _ _ _ _ = _
    unfold g272_132b g272_227
    rw [if_pos (by omega), e3]
  | succ d ih =>
    intro j fu h1 h2
    obtain ⟨fu, rfl⟩ : ∃ t, fu = t + 1 := ⟨fu - 1, by omega⟩
    obtain ⟨a1, a2⟩ := t4 k hk
    obtain ⟨b1, b2⟩ := t4 j (by omega)
    obtain ⟨i1, i2⟩ := ih (j + 1) fu (by omega) (by omega)
    have e1 : xwr (xwr ((x : Int) * 4) + (j : Int)) = ((4 * x + j : Nat) : Int) := by
      rw [xwr_g ((x : Int) * 4) (by omega) (by omega), xwr_g _ (by omega) (by omega)]; omega
    have e2 : xwr ((((p * 520 + i) * 4 : Nat) : Int) + (j : Int)) = (((p * 520 + i) * 4 + j : Nat) : Int) := by rw [xwr_g _ (by omega) (by omega)]; omega
    have e4 : xwr ((j : Int) + 1) = ((j + 1 : Nat) : Int) := by rw [xwr_g _ (by omega) (by omega)]; omega
    have step : g272_132 r3 f (fu + 1) (x : Int) (p : Int) (i : Int) (k : Int) ((4 * x + k : Nat) : Int) z (j : Int) G = if ¬ (T.getD k (0, 0)).1 = 1 then r3 (x : Int) (p : Int) (i : Int) ((k + 1 : Nat) : Int) G else if ¬ (T.getD j (0, 0)).1 = 1 then g272_132 r3 f fu (x : Int) (p : Int) (i : Int) (k : Int) ((4 * x + k : Nat) : Int) z ((j + 1 : Nat) : Int) G else if ¬ (T.getD j (0, 0)).2 = (T.getD k (0, 0)).2 then g272_132 r3 f fu (x : Int) (p : Int) (i : Int) (k : Int) ((4 * x + k : Nat) : Int) z ((j + 1 : Nat) : Int) G else if (R.getD i dRw).1.getD j 0 = z then g272_132 r3 f fu (x : Int) (p : Int) (i : Int) (k : Int) ((4 * x + k : Nat) : Int) z ((j + 1 : Nat) : Int) G else some (0, G) := by
      show g272_132b r3 (g272_132 r3 f fu) f _ _ _ _ _ _ _ _ = _
      unfold g272_132b g272_227 g272_221
      rw [if_neg (by omega), if_pos (by omega), e1, e3, e4, Int.toNat_natCast, Int.toNat_natCast]
      show (if ¬ G 33 (4 * x + k) = 1 then _ else (if _ then (if ¬ G 33 (4 * x + j) = 1 then _ else (if _ then (if _ then (if ¬ G 34 (4 * x + j) = G 34 (4 * x + k) then _ else _) else _) else _)) else _)) = _
      rw [a1, b1]
      by_cases c1 : (T.getD k (0, 0)).1 = 1
      · have n1 : ¬ ¬ (T.getD k (0, 0)).1 = 1 := fun q => q c1
        rw [if_neg n1, if_neg n1, if_pos (by omega)]
        by_cases c2 : (T.getD j (0, 0)).1 = 1
        · have n2 : ¬ ¬ (T.getD j (0, 0)).1 = 1 := fun q => q c2
          rw [if_neg n2, if_neg n2, if_pos (by omega), if_pos (by omega), a2 (by omega), b2 (by omega)]
          by_cases c3 : (T.getD j (0, 0)).2 = (T.getD k (0, 0)).2
          · have n3 : ¬ ¬ (T.getD j (0, 0)).2 = (T.getD k (0, 0)).2 := fun q => q c3
            rw [if_neg n3, if_neg n3, l_261 hp (by omega), Option.bind_some]
            simp only [e2]
            rw [if_pos (by omega), Int.toNat_natCast, hr j (by omega)]
          · rw [if_pos c3, if_pos c3]
        · rw [if_pos c2, if_pos c2]
      · rw [if_pos c1, if_pos c1]
    rw [step]
    constructor
    · intro q
      by_cases c1 : (T.getD k (0, 0)).1 = 1
      · rw [if_neg (fun q => q c1)]
        have rest := i1 (fun j' y1 y2 y3 y4 y5 => q j' (by omega) y2 y3 y4 y5)
        by_cases c2 : (T.getD j (0, 0)).1 = 1
        · rw [if_neg (fun q => q c2)]
          by_cases c3 : (T.getD j (0, 0)).2 = (T.getD k (0, 0)).2
          · rw [if_neg (fun q => q c3), if_pos (q j (by omega) (by omega) c1 c2 c3)]
            exact rest
          · rw [if_pos c3]
            exact rest
        · rw [if_pos c2]
          exact rest
      · rw [if_pos c1]
    · rintro ⟨j', q1, q2, q3, q4, q5, q6⟩
      rw [if_neg (fun q => q q3)]
      by_cases cj : j' = j
      · rw [cj] at q4 q5 q6
        rw [if_neg (fun q => q q4), if_neg (fun q => q q5), if_neg q6]
      · have rest := i2 ⟨j', by omega, q2, q3, q4, q5, q6⟩
        by_cases c2 : (T.getD j (0, 0)).1 = 1
        · rw [if_neg (fun q => q c2)]
          by_cases c3 : (T.getD j (0, 0)).2 = (T.getD k (0, 0)).2
          · rw [if_neg (fun q => q c3)]
            by_cases c4 : (R.getD i dRw).1.getD j 0 = z
            · rw [if_pos c4]
              exact rest
            · rw [if_neg c4]
          · rw [if_pos c3]
            exact rest
        · rw [if_pos c2]
          exact rest
/-- fits -/
theorem l_272 (hf : 20 < f) (hp : p < 16) (hT : rTm G x T) (hw : ∀ y ∈ T, wT1 nv y) (hnv : nv ≤ 8) (hR : rRw G p n R) (hi : i < R.length) (hm : m < 256) (h37 : G 0 37 = (m : Int)) : ∃ b, g272 f (x : Int) (p : Int) (i : Int) G = some (b, G) ∧ isB b (pFit m (G 110) T (R.getD i dRw).1) := by
  obtain ⟨t1, t2, t3, t4⟩ := hT
  have hl := hR.2.1
  obtain ⟨r1, r2, r3⟩ := hR.2.2 i hi
  have loop : ∀ (d k fu : Nat), k + d = T.length → d < fu → ∃ b, g272_3 f fu (x : Int) (p : Int) (i : Int) (k : Int) G = some (b, G) ∧ isB b (∀ j, k ≤ j → j < T.length → pF1 m (G 110) T (R.getD i dRw).1 j) := by
    intro d
    induction d with
    | zero =>
      intro k fu h1 h2
      obtain ⟨fu, rfl⟩ : ∃ t, fu = t + 1 := ⟨fu - 1, by omega⟩
      refine ⟨1, ?_, .inl ⟨rfl, fun j hj hj2 => by omega⟩⟩
      show g272_3b (g272_3 f fu) f _ _ _ _ _ = _
      unfold g272_3b
      rw [if_pos (by omega), Int.toNat_natCast]
      show (if G 29 x ≤ (k : Int) then _ else _) = _
      rw [t2, if_pos (by omega)]
    | succ d ih =>
      intro k fu h1 h2
      obtain ⟨fu, rfl⟩ : ∃ t, fu = t + 1 := ⟨fu - 1, by omega⟩
      have hk : k < T.length := by omega
      obtain ⟨a1, a2⟩ := t4 k hk
      have hwk : wT1 nv (T.getD k (0, 0)) := hw _ (by rw [getD_e hk]; exact List.getElem_mem hk)
      have e1 : xwr (xwr ((x : Int) * 4) + (k : Int)) = ((4 * x + k : Nat) : Int) := by
        rw [xwr_g ((x : Int) * 4) (by omega) (by omega), xwr_g _ (by omega) (by omega)]; omega
      have e2 : xwr ((((p * 520 + i) * 4 : Nat) : Int) + (k : Int)) = (((p * 520 + i) * 4 + k : Nat) : Int) := by rw [xwr_g _ (by omega) (by omega)]; omega
      have step : g272_3 f (fu + 1) (x : Int) (p : Int) (i : Int) (k : Int) G = if ¬ (T.getD k (0, 0)).1 = 3 then g272_73 (g272_3 f fu) f (x : Int) (p : Int) (i : Int) (k : Int) ((4 * x + k : Nat) : Int) ((R.getD i dRw).1.getD k 0) G else if (T.getD k (0, 0)).2 = (R.getD i dRw).1.getD k 0 then g272_73 (g272_3 f fu) f (x : Int) (p : Int) (i : Int) (k : Int) ((4 * x + k : Nat) : Int) ((R.getD i dRw).1.getD k 0) G else some (0, G) := by
        show g272_3b (g272_3 f fu) f _ _ _ _ _ = _
        unfold g272_3b
        rw [if_pos (by omega), Int.toNat_natCast]
        show (if G 29 x ≤ (k : Int) then _ else _) = _
        rw [t2, if_neg (by omega), l_261 hp (by omega), Option.bind_some]
        simp only [e1, e2]
        rw [if_pos (by omega), if_pos (by omega), Int.toNat_natCast, Int.toNat_natCast, r2 k (by omega)]
        show (if ¬ G 33 (4 * x + k) = 3 then _ else (if _ then (if G 34 (4 * x + k) = _ then _ else _) else _)) = _
        rw [a1]
        by_cases c1 : (T.getD k (0, 0)).1 = 3
        · have n1 : ¬ ¬ (T.getD k (0, 0)).1 = 3 := fun q => q c1
          rw [if_neg n1, if_neg n1, if_pos (by omega), a2 (by omega)]
        · rw [if_pos c1, if_pos c1]
      obtain ⟨b, u1, u2⟩ := ih (k + 1) fu (by omega) (by omega)
      have good : pF1 m (G 110) T (R.getD i dRw).1 k → isB b (∀ j, k ≤ j → j < T.length → pF1 m (G 110) T (R.getD i dRw).1 j) := fun hk1 => u2.iff ⟨fun q j y1 y2 => by
        by_cases cj : j = k
        · rw [cj]; exact hk1
        · exact q j (by omega) y2, fun q j y1 y2 => q j (by omega) y2⟩
      have bad : ¬ pF1 m (G 110) T (R.getD i dRw).1 k → isB 0 (∀ j, k ≤ j → j < T.length → pF1 m (G 110) T (R.getD i dRw).1 j) := fun q => .inr ⟨rfl, fun z => q (z k (Nat.le_refl _) hk)⟩
      obtain ⟨i1, i2⟩ := l_272_132 (f := f) (r3 := g272_3 f fu) (z := (R.getD i dRw).1.getD k 0) hp (by omega : i < 520) ⟨t1, t2, t3, t4⟩ hw hk r2 rfl k 0 f (by omega) (by omega)
      have e129 : ∃ b', g272_129 (g272_3 f fu) f (x : Int) (p : Int) (i : Int) (k : Int) ((4 * x + k : Nat) : Int) ((R.getD i dRw).1.getD k 0) G = some (b', G) ∧ (((T.getD k (0, 0)).1 = 3 → (T.getD k (0, 0)).2 = (R.getD i dRw).1.getD k 0) → ((T.getD k (0, 0)).1 = 1 → m.testBit (T.getD k (0, 0)).2.toNat = true → G 110 (T.getD k (0, 0)).2.toNat = (R.getD i dRw).1.getD k 0) → isB b' (∀ j, k ≤ j → j < T.length → pF1 m (G 110) T (R.getD i dRw).1 j)) := by
        unfold g272_129
        by_cases ce : ∃ j', 0 ≤ j' ∧ j' < k ∧ (T.getD k (0, 0)).1 = 1 ∧ (T.getD j' (0, 0)).1 = 1 ∧ (T.getD j' (0, 0)).2 = (T.getD k (0, 0)).2 ∧ (R.getD i dRw).1.getD j' 0 ≠ (R.getD i dRw).1.getD k 0
        · refine ⟨0, i2 ce, fun _ _ => bad (fun hh => ?_)⟩
          obtain ⟨j', _, q2, q3, q4, q5, q6⟩ := ce
          exact q6 (hh.2.2 q3 j' q2 q4 q5)
        · have hall : ∀ j', 0 ≤ j' → j' < k → (T.getD k (0, 0)).1 = 1 → (T.getD j' (0, 0)).1 = 1 → (T.getD j' (0, 0)).2 = (T.getD k (0, 0)).2 → (R.getD i dRw).1.getD j' 0 = (R.getD i dRw).1.getD k 0 := fun j' y1 y2 y3 y4 y5 => Decidable.byContradiction (fun z => ce ⟨j', y1, y2, y3, y4, y5, z⟩)
          exact ⟨b, (i1 hall).trans u1, fun y1 y2 => good ⟨y1, y2, fun y3 j' y4 => hall j' (by omega) y4 y3⟩⟩
      obtain ⟨b', v1, v2⟩ := e129
      have e73 : ∃ b', g272_73 (g272_3 f fu) f (x : Int) (p : Int) (i : Int) (k : Int) ((4 * x + k : Nat) : Int) ((R.getD i dRw).1.getD k 0) G = some (b', G) ∧ (((T.getD k (0, 0)).1 = 3 → (T.getD k (0, 0)).2 = (R.getD i dRw).1.getD k 0) → isB b' (∀ j, k ≤ j → j < T.length → pF1 m (G 110) T (R.getD i dRw).1 j)) := by
        unfold g272_73
        rw [if_pos (by omega), Int.toNat_natCast]
        simp only [Nat.reduceAdd]
        rw [a1]
        by_cases c1 : (T.getD k (0, 0)).1 = 1
        · have n1 : ¬ ¬ (T.getD k (0, 0)).1 = 1 := fun q => q c1
          have hb : 0 ≤ (T.getD k (0, 0)).2 ∧ (T.getD k (0, 0)).2 < 8 := by
            rcases hwk with z | z | z
            · omega
            · omega
            · omega
          obtain ⟨w, hw1⟩ : ∃ w : Nat, (T.getD k (0, 0)).2 = (w : Int) := ⟨(T.getD k (0, 0)).2.toNat, by omega⟩
          have a2' := a2 (by omega)
          have ew : xwr (w : Int) = (w : Int) := xwr_g _ (by omega) (by omega)
          rw [hw1] at a2' hb v2
          rw [if_neg n1, if_pos (by omega), a2', ew, l_270 hm (by omega) h37, Option.bind_some]
          rw [Int.toNat_natCast] at v2
          by_cases c2 : m.testBit w = true
          · have nb : ¬ ((1 : Int), G).1 = 0 := fun h => absurd (show (1 : Int) = 0 from h) (by decide)
            rw [if_pos c2, if_neg nb, if_pos (by omega)]
            simp only [a2', ew, Int.toNat_natCast]
            rw [if_pos (by omega)]
            by_cases c3 : G 110 w = (R.getD i dRw).1.getD k 0
            · rw [if_pos c3]
              exact ⟨b', v1, fun y => by rw [hw1] at y; exact v2 y (fun _ _ => c3)⟩
            · rw [if_neg c3]
              exact ⟨0, rfl, fun _ => bad (fun hh => c3 (by have := hh.2.1 c1; rw [hw1, Int.toNat_natCast] at this; exact this c2))⟩
          · rw [if_neg c2, if_pos rfl]
            exact ⟨b', v1, fun y => by rw [hw1] at y; exact v2 y (fun _ z => absurd z c2)⟩
        · rw [if_pos c1]
          exact ⟨b', v1, fun y => v2 y (fun z => absurd z c1)⟩
      obtain ⟨b2, w1, w2⟩ := e73
      rw [step]
      by_cases c1 : (T.getD k (0, 0)).1 = 3
      · have n1 : ¬ ¬ (T.getD k (0, 0)).1 = 3 := fun q => q c1
        rw [if_neg n1]
        by_cases c2 : (T.getD k (0, 0)).2 = (R.getD i dRw).1.getD k 0
        · rw [if_pos c2]
          exact ⟨b2, w1, w2 (fun _ => c2)⟩
        · rw [if_neg c2]
          exact ⟨0, rfl, bad (fun hh => c2 (hh.1 c1))⟩
      · rw [if_pos c1]
        exact ⟨b2, w1, w2 (fun z => absurd z c1)⟩
  unfold g272
  obtain ⟨b, k1, k2⟩ := loop T.length 0 f (by omega) (by omega)
  exact ⟨b, k1, k2.iff ⟨fun q j hj => q j (by omega) hj, fun q j _ hj => q j hj⟩⟩
end
