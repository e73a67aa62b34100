/-! WAYS of the reference: rows that are open, rows alike, what a NOT and a compare say -/
/-- which rows may be used: of a ring ra only those below a RANK -/
def qOp (K : Nat → Nat) (ra rb : Int) (p : Nat) (w : pRw) : Prop := ra = -1 ∨ (K p : Int) ≠ ra ∨ w.2 < rb
def aLk (T : pCd) (xs ys : List Int) : Prop := ∀ k, k < T.length → (T.getD k (0, 0)).1 ≠ 2 → xs.getD k 0 = ys.getD k 0
/-- a sign between two values -/
def cCm (s a b : Int) : Prop := (s = 61 → a = b) ∧ (s = 257 → a ≠ b) ∧ (s = 60 → a < b) ∧ (s = 258 → a ≤ b) ∧ (s = 62 → b < a) ∧ (s = 259 → b ≤ a)
def sCm (v : Nat → Int) (y : pLt) : Prop := ∃ a b, qEv v y.2.2.2.2.1 = some a ∧ qEv v y.2.2.2.2.2 = some b ∧ cCm y.2.1 a b
section
variable {f p n x i m nv : Nat} {G : xG_} {R : List pRw} {T : pCd}
theorem l_271 {K : Nat → Nat} {ra rb : Int} (hp : p < 16) (hR : rRw G p n R) (hi : i < R.length) (h40 : G 0 40 = ra) (h41 : G 0 41 = rb) (hK : ra ≠ -1 → G 7 p = (K p : Int)) : ∃ b, g271 f (p : Int) (i : Int) G = some (b, G) ∧ isB b (qOp K ra rb p (R.getD i dRw)) := by
  have hl := hR.2.1
  obtain ⟨r1, r2, r3⟩ := hR.2.2 i hi
  have e1 : xwr (xwr ((p : Int) * 520) + (i : Int)) = ((p * 520 + i : Nat) : Int) := by
    rw [xwr_g ((p : Int) * 520) (by omega) (by omega), xwr_g _ (by omega) (by omega)]; omega
  have eg : g271 f (p : Int) (i : Int) G = if ra = -1 then some (1, G) else if ¬ (K p : Int) = ra then some (1, G) else if rb ≤ (R.getD i dRw).2 then some (0, G) else some (1, G) := by
    unfold g271 g271_43 g271_48
    rw [h40, h41, e1]
    by_cases c1 : ra = -1
    · rw [if_pos c1, if_pos c1]; rfl
    · rw [if_neg c1, if_neg c1, if_pos (by omega), Int.toNat_natCast]
      show (if ¬ G 7 p = ra then _ else _) = _
      rw [hK c1]
      by_cases c2 : (K p : Int) = ra
      · have n2 : ¬ ¬ (K p : Int) = ra := fun q => q c2
        rw [if_neg n2, if_neg n2, if_pos (by omega), Int.toNat_natCast, r3]
        rfl
      · rw [if_pos c2, if_pos c2]
        rfl
  unfold qOp
  rw [eg]
  by_cases c1 : ra = -1
  · rw [if_pos c1]
    exact ⟨1, rfl, .inl ⟨rfl, .inl c1⟩⟩
  · rw [if_neg c1]
    by_cases c2 : (K p : Int) = ra
    · rw [if_neg (fun q => q c2)]
      by_cases c3 : rb ≤ (R.getD i dRw).2
      · rw [if_pos c3]
        exact ⟨0, rfl, .inr ⟨rfl, by rintro (q | q | q) <;> omega⟩⟩
      · rw [if_neg c3]
        exact ⟨1, rfl, .inl ⟨rfl, .inr (.inr (by omega))⟩⟩
    · rw [if_pos c2]
      exact ⟨1, rfl, .inl ⟨rfl, .inr (.inl c2)⟩⟩
theorem l_273 {j : Nat} (hf : 20 < f) (hp : p < 16) (hT : rTm G x T) (hR : rRw G p n R) (hi : i < R.length) (hj : j < R.length) : ∃ b, g273 f (x : Int) (p : Int) (i : Int) (j : Int) G = some (b, G) ∧ isB b (aLk T (R.getD i dRw).1 (R.getD j dRw).1) := by
  obtain ⟨t1, t2, t3, t4⟩ := hT
  have hl := hR.2.1
  obtain ⟨r1, r2, r3⟩ := hR.2.2 i hi
  obtain ⟨s1, s2, s3⟩ := hR.2.2 j hj
  have loop : ∀ (d k fu : Nat), k + d = T.length → d < fu → ∃ b, g273_3 f fu (x : Int) (p : Int) (i : Int) (j : Int) (k : Int) G = some (b, G) ∧ isB b (∀ z, k ≤ z → z < T.length → (T.getD z (0, 0)).1 ≠ 2 → (R.getD i dRw).1.getD z 0 = (R.getD j dRw).1.getD z 0) := by
    intro d
    induction d with
    | zero =>
      intro k fu h1 h2
      obtain ⟨fu, rfl⟩ : ∃ t, fu = t + 1 := ⟨fu - 1, by omega⟩
      refine ⟨1, ?_, .inl ⟨rfl, fun z y1 y2 => by omega⟩⟩
      show g273_3b (g273_3 f fu) f _ _ _ _ _ _ = _
      unfold g273_3b
      rw [if_pos (by omega), Int.toNat_natCast]
      show (if G 29 x ≤ (k : Int) then _ else _) = _
      rw [t2, if_pos (by omega)]
    | succ d ih =>
      intro k fu h1 h2
      obtain ⟨fu, rfl⟩ : ∃ t, fu = t + 1 := ⟨fu - 1, by omega⟩
      have hk : k < T.length := by omega
      obtain ⟨a1, a2⟩ := t4 k hk
      have e1 : xwr (xwr ((x : Int) * 4) + (k : Int)) = ((4 * x + k : Nat) : Int) := by
        rw [xwr_g ((x : Int) * 4) (by omega) (by omega), xwr_g _ (by omega) (by omega)]; omega
      have e2 : xwr ((((p * 520 + i) * 4 : Nat) : Int) + (k : Int)) = (((p * 520 + i) * 4 + k : Nat) : Int) := by rw [xwr_g _ (by omega) (by omega)]; omega
      have e3 : xwr ((((p * 520 + j) * 4 : Nat) : Int) + (k : Int)) = (((p * 520 + j) * 4 + k : Nat) : Int) := by rw [xwr_g _ (by omega) (by omega)]; omega
      have e4 : xwr ((k : Int) + 1) = ((k + 1 : Nat) : Int) := by rw [xwr_g _ (by omega) (by omega)]; omega
      have step : g273_3 f (fu + 1) (x : Int) (p : Int) (i : Int) (j : Int) (k : Int) G = if (T.getD k (0, 0)).1 = 2 then g273_3 f fu (x : Int) (p : Int) (i : Int) (j : Int) ((k + 1 : Nat) : Int) G else if (R.getD i dRw).1.getD k 0 = (R.getD j dRw).1.getD k 0 then g273_3 f fu (x : Int) (p : Int) (i : Int) (j : Int) ((k + 1 : Nat) : Int) G else some (0, G) := by
        show g273_3b (g273_3 f fu) f _ _ _ _ _ _ = _
        unfold g273_3b g273_70
        rw [if_pos (by omega), Int.toNat_natCast]
        show (if G 29 x ≤ (k : Int) then _ else _) = _
        rw [t2, if_neg (by omega), e1, if_pos (by omega), Int.toNat_natCast]
        show (if G 33 (4 * x + k) = 2 then _ else _) = _
        rw [a1]
        by_cases c1 : (T.getD k (0, 0)).1 = 2
        · rw [if_pos c1, if_pos c1, e4]
        · rw [if_neg c1, if_neg c1, l_261 hp (by omega), Option.bind_some]
          simp only [e2]
          rw [if_pos (by omega), l_261 hp (by omega), Option.bind_some]
          simp only [e3]
          rw [if_pos (by omega), Int.toNat_natCast, Int.toNat_natCast, r2 k (by omega), s2 k (by omega), e4]
      obtain ⟨b, u1, u2⟩ := ih (k + 1) fu (by omega) (by omega)
      rw [step]
      by_cases c1 : (T.getD k (0, 0)).1 = 2
      · rw [if_pos c1]
        refine ⟨b, u1, u2.iff ⟨fun q z y1 y2 y3 => ?_, fun q z y1 y2 y3 => q z (by omega) y2 y3⟩⟩
        by_cases cz : z = k
        · rw [cz] at y3; exact absurd c1 y3
        · exact q z (by omega) y2 y3
      · rw [if_neg c1]
        by_cases c2 : (R.getD i dRw).1.getD k 0 = (R.getD j dRw).1.getD k 0
        · rw [if_pos c2]
          refine ⟨b, u1, u2.iff ⟨fun q z y1 y2 y3 => ?_, fun q z y1 y2 y3 => q z (by omega) y2 y3⟩⟩
          by_cases cz : z = k
          · rw [cz]; exact c2
          · exact q z (by omega) y2 y3
        · rw [if_neg c2]
          exact ⟨0, rfl, .inr ⟨rfl, fun q => c2 (q k (Nat.le_refl _) hk c1)⟩⟩
  unfold g273
  obtain ⟨b, k1, k2⟩ := loop T.length 0 f (by omega) (by omega)
  exact ⟨b, k1, k2.iff ⟨fun q j hj => q j (by omega) hj, fun q j _ hj => q j hj⟩⟩
/-- hasFirst -/
theorem l_274 {K : Nat → Nat} {ra rb : Int} (hf : 600 < f) (hp : p < 16) (hT : rTm G x T) (hR : rRw G p n R) (hi : i < R.length) (h40 : G 0 40 = ra) (h41 : G 0 41 = rb) (hK : ra ≠ -1 → G 7 p = (K p : Int)) : ∃ b, g274 f (x : Int) (p : Int) (i : Int) G = some (b, G) ∧ isB b (∃ j, j < i ∧ qOp K ra rb p (R.getD j dRw) ∧ aLk T (R.getD i dRw).1 (R.getD j dRw).1) := by
  have hl := hR.2.1
  have loop : ∀ (d j fu : Nat), j + d = i → d < fu → ∃ b, g274_3 f fu (x : Int) (p : Int) (i : Int) (j : Int) G = some (b, G) ∧ isB b (∃ z, j ≤ z ∧ z < i ∧ qOp K ra rb p (R.getD z dRw) ∧ aLk T (R.getD i dRw).1 (R.getD z dRw).1) := by
    intro d
    induction d with
    | zero =>
      intro j fu h1 h2
      obtain ⟨fu, rfl⟩ : ∃ t, fu = t + 1 := ⟨fu - 1, by omega⟩
      refine ⟨0, ?_, .inr ⟨rfl, fun ⟨z, y1, y2, _⟩ => by omega⟩⟩
      show g274_3b (g274_3 f fu) f _ _ _ _ _ = _
      unfold g274_3b
      rw [if_pos (by omega)]
    | succ d ih =>
      intro j fu h1 h2
      obtain ⟨fu, rfl⟩ : ∃ t, fu = t + 1 := ⟨fu - 1, by omega⟩
      have e4 : xwr ((j : Int) + 1) = ((j + 1 : Nat) : Int) := by rw [xwr_g _ (by omega) (by omega)]; omega
      obtain ⟨b1, o1, o2⟩ := l_271 (f := f) hp hR (by omega : j < R.length) h40 h41 hK
      obtain ⟨b2, q1, q2⟩ := l_273 (f := f) (by omega) hp hT hR hi (by omega : j < R.length)
      obtain ⟨b, u1, u2⟩ := ih (j + 1) fu (by omega) (by omega)
      have step : g274_3 f (fu + 1) (x : Int) (p : Int) (i : Int) (j : Int) G = if b1 = 0 then some (b, G) else if b2 = 0 then some (b, G) else some (1, G) := by
        show g274_3b (g274_3 f fu) f _ _ _ _ _ = _
        unfold g274_3b g274_33
        rw [if_neg (by omega), o1, Option.bind_some, e4, u1]
        show (if b1 = 0 then _ else Option.bind (g273 f _ _ _ _ G) _) = _
        rw [q1, Option.bind_some, u1]
      rw [step]
      have skip : ¬ (qOp K ra rb p (R.getD j dRw) ∧ aLk T (R.getD i dRw).1 (R.getD j dRw).1) → isB b (∃ z, j ≤ z ∧ z < i ∧ qOp K ra rb p (R.getD z dRw) ∧ aLk T (R.getD i dRw).1 (R.getD z dRw).1) := fun hn => u2.iff ⟨fun ⟨z, y1, y2⟩ => ⟨z, by omega, y2⟩, fun ⟨z, y1, y2, y3⟩ => ⟨z, by
        by_cases cz : z = j
        · rw [cz] at y3; exact absurd y3 hn
        · omega, y2, y3⟩⟩
      rcases o2 with ⟨c1, c2⟩ | ⟨c1, c2⟩
      · rw [if_neg (by omega)]
        rcases q2 with ⟨c3, c4⟩ | ⟨c3, c4⟩
        · rw [if_neg (by omega)]
          exact ⟨1, rfl, .inl ⟨rfl, j, Nat.le_refl _, by omega, c2, c4⟩⟩
        · rw [if_pos c3]
          exact ⟨b, rfl, skip (fun z => c4 z.2)⟩
      · rw [if_pos c1]
        exact ⟨b, rfl, skip (fun z => c2 z.1)⟩
  unfold g274
  obtain ⟨b, k1, k2⟩ := loop i 0 f (by omega) (by omega)
  exact ⟨b, k1, k2.iff ⟨fun ⟨z, _, y2⟩ => ⟨z, y2⟩, fun ⟨z, y2⟩ => ⟨z, by omega, y2⟩⟩⟩
/-- isSome -/
theorem l_280 (hf : 600 < f) (hp : p < 16) (hT : rTm G x T) (hof : G 28 x = (p : Int)) (hw : ∀ y ∈ T, wT1 nv y) (hnv : nv ≤ 8) (hR : rRw G p n R) (hm : m < 256) (h37 : G 0 37 = (m : Int)) : ∃ b, g280 f (x : Int) G = some (b, G) ∧ isB b (∃ w, w ∈ R ∧ pFit m (G 110) T w.1) := by
  have hl := hR.2.1
  have hx := hT.1
  have loop : ∀ (d i fu : Nat), i + d = R.length → d < fu → ∃ b, g280_2 f fu (x : Int) (i : Int) G = some (b, G) ∧ isB b (∃ z, i ≤ z ∧ z < R.length ∧ pFit m (G 110) T (R.getD z dRw).1) := by
    intro d
    induction d with
    | zero =>
      intro i fu h1 h2
      obtain ⟨fu, rfl⟩ : ∃ t, fu = t + 1 := ⟨fu - 1, by omega⟩
      refine ⟨0, ?_, .inr ⟨rfl, fun ⟨z, y1, y2, _⟩ => by omega⟩⟩
      show g280_2b (g280_2 f fu) f _ _ _ = _
      unfold g280_2b
      rw [if_pos (by omega), Int.toNat_natCast]
      show (if 0 ≤ G 28 x ∧ G 28 x < 16 then (if G 108 (G 28 x).toNat ≤ (i : Int) then _ else _) else _) = _
      rw [hof, if_pos (by omega), Int.toNat_natCast, hR.1, if_pos (by omega)]
    | succ d ih =>
      intro i fu h1 h2
      obtain ⟨fu, rfl⟩ : ∃ t, fu = t + 1 := ⟨fu - 1, by omega⟩
      have e4 : xwr ((i : Int) + 1) = ((i + 1 : Nat) : Int) := by rw [xwr_g _ (by omega) (by omega)]; omega
      obtain ⟨b1, q1, q2⟩ := l_272 (f := f) (by omega) hp hT hw hnv hR (by omega : i < R.length) hm h37
      obtain ⟨b, u1, u2⟩ := ih (i + 1) fu (by omega) (by omega)
      have step : g280_2 f (fu + 1) (x : Int) (i : Int) G = if b1 = 0 then some (b, G) else some (1, G) := by
        show g280_2b (g280_2 f fu) f _ _ _ = _
        unfold g280_2b
        rw [if_pos (by omega), Int.toNat_natCast]
        show (if 0 ≤ G 28 x ∧ G 28 x < 16 then (if G 108 (G 28 x).toNat ≤ (i : Int) then _ else (if _ then Option.bind (g272 f _ (G 28 x) _ G) _ else _)) else _) = _
        rw [hof, if_pos (by omega), Int.toNat_natCast, hR.1, if_neg (by omega), if_pos (by omega), q1, Option.bind_some, e4, u1]
      rw [step]
      rcases q2 with ⟨c1, c2⟩ | ⟨c1, c2⟩
      · rw [if_neg (by omega)]
        exact ⟨1, rfl, .inl ⟨rfl, i, Nat.le_refl _, by omega, c2⟩⟩
      · rw [if_pos c1]
        refine ⟨b, rfl, u2.iff ⟨fun ⟨z, y1, y2⟩ => ⟨z, by omega, y2⟩, fun ⟨z, y1, y2, y3⟩ => ⟨z, ?_, y2, y3⟩⟩⟩
        by_cases cz : z = i
        · rw [cz] at y3; exact absurd y3 c2
        · omega
  unfold g280
  obtain ⟨b, k1, k2⟩ := loop R.length 0 f (by omega) (by omega)
  refine ⟨b, k1, k2.iff ⟨fun ⟨z, _, y2, y3⟩ => ⟨R.getD z dRw, by rw [getD_e y2]; exact List.getElem_mem y2, y3⟩, fun ⟨w, y1, y2⟩ => ?_⟩⟩
  obtain ⟨z, hz, rfl⟩ := List.getElem_of_mem y1
  exact ⟨z, by omega, hz, by rw [getD_e hz]; exact y2⟩
/-- compares -/
theorem l_281 {v : Nat → Int} {c : Nat} {y : pLt} (hf : 6300 < f) (hx : x < 200) (hL : rLt G 2 x c y) (h3 : y.1 = 3) (hc : c ≤ 6200) (hs : isCs y.2.1) (hw1 : wEx nv y.2.2.2.2.1) (hw2 : wEx nv y.2.2.2.2.2) (hnv : nv ≤ 8) (hl1 : rVl G (qVm y.2.2.2.2.1) v) (hl2 : rVl G (qVm y.2.2.2.2.2) v) :
    ∃ G' b, g281 f (x : Int) G = some (b, G') ∧ xfu G G' ∧ isB b (sCm v y) := by
  obtain ⟨q1, q2, q3, q4⟩ := hL
  obtain ⟨z1, a, z2, z3, z4, z5, z6, z7⟩ := q4 h3
  obtain ⟨G1, w1, k1, k2, k3⟩ := l_266 (f := f) (v := v) hf hnv (by omega : a + y.2.2.2.2.1.length ≤ 6200) z6 hw1 hl1
  have fr1 : ∀ o j, ¬ (o = 0 ∧ j = 42) → o ≠ 111 → G1 o j = G o j := k2
  obtain ⟨G2, w2, m1, m2, m3⟩ := l_266 (f := f) (v := v) (G := G1) hf hnv (by omega : a + y.2.2.2.2.1.length + y.2.2.2.2.2.length ≤ 6200) (fun j hj => by rw [fr1 _ _ (by omega) (by omega), fr1 _ _ (by omega) (by omega)]; exact z7 j hj) hw2 (fun k hk => by rw [fr1 _ _ (by omega) (by omega)]; exact hl2 k hk)
  have fr2 : xfu G G2 := fun o j y1 y2 => by rw [m2 o j y1 y2, k2 o j y1 y2]
  have z1' : G 28 x = rsc y.2.1 := z1
  have z2' : G 30 x = (a : Int) := z2
  have z3' : G 31 x = ((a + y.2.2.2.2.1.length : Nat) : Int) := z3
  have z4' : G 32 x = ((a + y.2.2.2.2.1.length + y.2.2.2.2.2.length : Nat) : Int) := z4
  have e1 : g281 f (x : Int) G = (if G1 0 42 = 0 then (if G2 0 42 = 0 then (if (60 : Int) = rsc y.2.1 then (if w2 ≤ w1 then some (0, G2) else some (1, G2)) else (if (61 : Int) = rsc y.2.1 then (if ¬ w1 = w2 then some (0, G2) else some (1, G2)) else (if (62 : Int) = rsc y.2.1 then (if w1 ≤ w2 then some (0, G2) else some (1, G2)) else (if (301 : Int) = rsc y.2.1 then (if w1 = w2 then some (0, G2) else some (1, G2)) else (if (302 : Int) = rsc y.2.1 then (if w2 < w1 then some (0, G2) else some (1, G2)) else (if w1 < w2 then some (0, G2) else some (1, G2))))))) else some (0, G2)) else some (0, G1)) := by
    have hxx : 0 ≤ (x : Int) ∧ (x : Int) < 200 := by omega
    unfold g281 g281_201 g281_188 g281_175 g281_162 g281_149 g281_136
    simp only [Nat.reduceAdd, Int.toNat_natCast, if_pos hxx]
    rw [z2', z3', k1]
    simp only [Option.bind_some]
    rw [fr1 31 x (by omega) (by omega), fr1 32 x (by omega) (by omega), z3', z4', m1]
    simp only [Option.bind_some, fr2 28 x (by omega) (by omega), z1', eq_self, true_or, or_true, if_true]
  rw [e1]
  rcases k3 with ⟨k4, k5, k6⟩ | ⟨k4, k5, k6⟩
  · rw [if_pos k6]
    rcases m3 with ⟨m4, m5, m6⟩ | ⟨m4, m5, m6⟩
    · rw [if_pos m6]
      have iff : sCm v y ↔ cCm y.2.1 w1 w2 := by
        constructor
        · rintro ⟨a', b', h1, h2, h3⟩
          rw [k4] at h1
          rw [m4] at h2
          injection h1 with h1
          injection h2 with h2
          rw [h1, h2]
          exact h3
        · exact fun h => ⟨w1, w2, k4, m4, h⟩
      have fin : ∀ {Q : Prop} [Decidable Q], (Q ↔ ¬ cCm y.2.1 w1 w2) → ∃ G' b, (if Q then some ((0 : Int), G2) else some (1, G2)) = some (b, G') ∧ xfu G G' ∧ isB b (sCm v y) := by
        intro Q _ h
        by_cases c : Q
        · rw [if_pos c]
          exact ⟨G2, 0, rfl, fr2, .inr ⟨rfl, fun z => (h.mp c) (iff.mp z)⟩⟩
        · rw [if_neg c]
          exact ⟨G2, 1, rfl, fr2, .inl ⟨rfl, iff.mpr (Classical.byContradiction (fun z => c (h.mpr z)))⟩⟩
      unfold isCs at hs
      rcases hs with hs | hs | hs | hs | hs | hs
      · rw [hs, show rsc 61 = 61 from rfl, if_neg (by decide), if_pos rfl]
        exact fin (by rw [hs]; unfold cCm; omega)
      · rw [hs, show rsc 257 = 301 from rfl, if_neg (by decide), if_neg (by decide), if_neg (by decide), if_pos rfl]
        exact fin (by rw [hs]; unfold cCm; omega)
      · rw [hs, show rsc 60 = 60 from rfl, if_pos rfl]
        exact fin (by rw [hs]; unfold cCm; omega)
      · rw [hs, show rsc 258 = 302 from rfl, if_neg (by decide), if_neg (by decide), if_neg (by decide), if_neg (by decide), if_pos rfl]
        exact fin (by rw [hs]; unfold cCm; omega)
      · rw [hs, show rsc 62 = 62 from rfl, if_neg (by decide), if_neg (by decide), if_pos rfl]
        exact fin (by rw [hs]; unfold cCm; omega)
      · rw [hs, show rsc 259 = 303 from rfl, if_neg (by decide), if_neg (by decide), if_neg (by decide), if_neg (by decide), if_neg (by decide)]
        exact fin (by rw [hs]; unfold cCm; omega)
    · rw [if_neg (by omega)]
      exact ⟨G2, 0, rfl, fr2, .inr ⟨rfl, fun ⟨a', b', h1, h2, h3⟩ => by rw [m4] at h2; cases h2⟩⟩
  · rw [if_neg (by omega)]
    exact ⟨G1, 0, rfl, k2, .inr ⟨rfl, fun ⟨a', b', h1, h2, h3⟩ => by rw [k4] at h1; cases h1⟩⟩
end
