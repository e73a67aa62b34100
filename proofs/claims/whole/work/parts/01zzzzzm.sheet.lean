/-! The SHEET: what its CELLS are worth -/
section
variable {C D : fCs} {s : pPg} {M : Nat → List pRw}
theorem fOc_l {a b : Int} : ∀ (k x : Nat) (v n : Int), x + k = 72 → (∀ y, y < 72 → fIn y a b → C y = D y) → fOc C a b k x v n = fOc D a b k x v n
  | 0, _, _, _, _, _ => rfl
  | k + 1, x, v, n, h1, h2 => by
    unfold fOc
    have ih := fun v n => fOc_l k (x + 1) v n (by omega) h2
    by_cases c : fIn x a b
    · rw [h2 x (by omega) c, ih, ih]
    · rw [if_neg (fun q => c q.1), if_neg (fun q => c q.1), ih]
theorem nRd_mem {x : Nat} : ∀ (N : List pNd) (i : Nat), i < N.length → (nR1 (N.getD i dNd)).testBit x = true → (nRd N).testBit x = true
  | [], i, h, _ => absurd h (Nat.not_lt_zero i)
  | y :: N, 0, _, h2 => by
    show (nR1 y ||| nRd N).testBit x = true
    rw [Nat.testBit_or, Bool.or_eq_true]
    exact .inl h2
  | y :: N, i + 1, h1, h2 => by
    show (nR1 y ||| nRd N).testBit x = true
    rw [Nat.testBit_or, Bool.or_eq_true]
    exact .inr (nRd_mem N i (by simpa using h1) h2)
theorem nRd_of {x : Nat} : ∀ (N : List pNd), (nRd N).testBit x = true → ∃ i, i < N.length ∧ (nR1 (N.getD i dNd)).testBit x = true
  | [], h => by
    have h' : (0 : Nat).testBit x = true := h
    rw [Nat.zero_testBit] at h'
    cases h'
  | y :: N, h => by
    have h' : (nR1 y ||| nRd N).testBit x = true := h
    rw [Nat.testBit_or, Bool.or_eq_true] at h'
    rcases h' with h' | h'
    · exact ⟨0, Nat.zero_lt_succ _, h'⟩
    · obtain ⟨i, a1, a2⟩ := nRd_of N h'
      exact ⟨i + 1, Nat.succ_lt_succ a1, a2⟩
theorem nRd_72 {N : List pNd} (hw : wFm N) {x : Nat} (h : (nRd N).testBit x = true) : x < 72 := by
  obtain ⟨i, a1, a2⟩ := nRd_of N h
  have hi := hw i a1
  unfold wNd at hi
  unfold nR1 at a2
  generalize N.getD i dNd = y at *
  by_cases c2 : y.1 = 2
  · rw [if_pos c2, Nat.testBit_two_pow, decide_eq_true_iff] at a2
    have : 0 ≤ y.2.1 ∧ y.2.1 < 72 := by
      rcases hi with q | q | q | q | q | q
      · omega
      · exact q.2
      · omega
      · omega
      · omega
      · omega
    omega
  · rw [if_neg c2] at a2
    by_cases c4 : y.1 = 4 ∨ y.1 = 5
    · rw [if_pos c4] at a2
      exact ((nBx_t _ _).mp a2).1
    · rw [if_neg c4, Nat.zero_testBit] at a2
      cases a2
/-- a worth hangs on what is read alone -/
theorem fW_l {N : List pNd} (hw : wFm N) (h : ∀ x, x < 72 → (nRd N).testBit x = true → C x = D x) : ∀ (n i : Nat), i < n → i < N.length → fW N C s M n i = fW N D s M n i := by
  intro n
  induction n with
  | zero => intro i h; omega
  | succ n ih =>
    intro i h1 h2
    have hi := hw i h2
    unfold wNd at hi
    have hm := fun x => nRd_mem (x := x) N i h2
    unfold nR1 at hm
    unfold fW
    generalize N.getD i dNd = y at *
    by_cases c1 : y.1 = 1
    · rw [if_pos c1, if_pos c1]
    rw [if_neg c1, if_neg c1]
    by_cases c2 : y.1 = 2
    · have q : 0 ≤ y.2.1 ∧ y.2.1 < 72 := by
        clear ih hm h
        rcases hi with q | q | q | q | q | q
        · omega
        · exact q.2
        · omega
        · omega
        · omega
        · omega
      have hm' := hm y.2.1.toNat
      rw [if_pos c2, Nat.testBit_two_pow, decide_eq_true rfl] at hm'
      rw [if_pos c2, if_pos c2, h y.2.1.toNat (by omega) (hm' rfl)]
    rw [if_neg c2, if_neg c2]
    by_cases c3 : y.1 = 3
    · have q : (0 ≤ y.2.1 ∧ y.2.1 < i) ∧ (0 ≤ y.2.2.1 ∧ y.2.2.1 < i) := by
        clear ih hm h
        rcases hi with q | q | q | q | q | q
        · omega
        · omega
        · exact ⟨q.2.1, q.2.2.1⟩
        · omega
        · omega
        · omega
      rw [if_pos c3, if_pos c3, ih _ (by omega) (by omega), ih _ (by omega) (by omega)]
    rw [if_neg c3, if_neg c3]
    by_cases c4 : y.1 = 4 ∨ y.1 = 5
    · rw [if_pos c4, if_pos c4]
      unfold fOv
      rw [fOc_l (D := D) 72 0 0 0 rfl (fun x x1 x2 => h x x1 (hm x (by rw [if_neg c2, if_pos c4]; exact (nBx_t _ _).mpr ⟨x1, x2⟩)))]
    rw [if_neg c4, if_neg c4]
    by_cases c5 : y.1 = 10
    · have q : (0 ≤ y.2.1 ∧ y.2.1 < i) ∧ (0 ≤ y.2.2.1 ∧ y.2.2.1 < i) ∧ 0 ≤ y.2.2.2.1 ∧ y.2.2.2.1 < i := by
        clear ih hm h
        rcases hi with q | q | q | q | q | q
        · omega
        · omega
        · omega
        · omega
        · omega
        · exact q.2
      rw [if_pos c5, if_pos c5, ih _ (by omega) (by omega), ih _ (by omega) (by omega), ih _ (by omega) (by omega)]
    rw [if_neg c5, if_neg c5]
theorem fWr_l {N : List pNd} {r : Int} (hw : wFm N) (hl : N.length ≤ 62) (hr : 0 ≤ r ∧ r < N.length) (h : ∀ x, x < 72 → (nRd N).testBit x = true → C x = D x) : fWr N r C s M = fWr N r D s M := fW_l hw h 64 r.toNat (by omega) (by omega)
end
/-- how many numbers below k a mask has -/
def nct : Nat → Nat → Nat
  | 0, _ => 0
  | k + 1, a => nct k a + if a.testBit k = true then 1 else 0
theorem nct_le {a b : Nat} : ∀ k, (∀ x, x < k → a.testBit x = true → b.testBit x = true) → nct k a ≤ nct k b
  | 0, _ => Nat.le_refl _
  | k + 1, h => by
    have ih := nct_le k (fun x hx => h x (by omega))
    unfold nct
    by_cases c : a.testBit k = true
    · rw [if_pos c, if_pos (h k (by omega) c)]; omega
    · rw [if_neg c]; omega
theorem nct_lt {a b x : Nat} : ∀ k, (∀ x, x < k → a.testBit x = true → b.testBit x = true) → x < k → b.testBit x = true → ¬ a.testBit x = true → nct k a < nct k b
  | 0, _, h, _, _ => absurd h (Nat.not_lt_zero x)
  | k + 1, h, h1, h2, h3 => by
    unfold nct
    by_cases c : x = k
    · have := nct_le k (fun x hx => h x (by omega))
      rw [c] at h2 h3
      rw [if_neg h3, if_pos h2]; omega
    · have ih := nct_lt k (fun x hx => h x (by omega)) (by omega) h2 h3
      by_cases d : a.testBit k = true
      · rw [if_pos d, if_pos (h k (by omega) d)]; omega
      · rw [if_neg d]; omega
theorem nct_k (a : Nat) : ∀ k, nct k a ≤ k
  | 0 => Nat.le_refl _
  | k + 1 => by
    have := nct_k a k
    unfold nct
    split <;> omega
theorem nct_pos {a x k : Nat} (h1 : x < k) (h2 : a.testBit x = true) : 0 < nct k a := by
  have := nct_lt (a := 0) (b := a) (x := x) k (fun y _ h => by rw [Nat.zero_testBit] at h; cases h) h1 h2 (by rw [Nat.zero_testBit]; decide)
  omega
section
variable {X : fXs} {s : pPg} {M : Nat → List pRw}
/-- what a CELL reads, round about too -/
def xFr (X : fXs) : Nat → Nat := qWm 72 (xRd X) 72
abbrev xCy (X : fXs) (c : Nat) : Prop := (xFr X c).testBit c = true
def wCv (x : fWo) : Int × Int := match x with
  | .inl e => (2, e)
  | .inr v => (1, v)
def qCv (X : fXs) (s : pPg) (M : Nat → List pRw) (C : fCs) (c : Nat) : Int × Int := match X c with
  | none => (0, 0)
  | some e => if xCy X c then (2, 1) else wCv (fWr e.1 e.2 C s M)
def fShI (X : fXs) (s : pPg) (M : Nat → List pRw) : Nat → fCs
  | 0 => fun _ => (0, 0)
  | k + 1 => qCv X s M (fShI X s M k)
/-- THE SHEET -/
def fSh (X : fXs) (s : pPg) (M : Nat → List pRw) : fCs := fShI X s M 73
theorem xRd_72 (hX : okX X) {c x : Nat} (hc : c < 72) (h : (xRd X c).testBit x = true) : x < 72 := by
  unfold xRd at h
  cases hx : X c with
  | none => rw [hx] at h; rw [Nat.zero_testBit] at h; cases h
  | some e => rw [hx] at h; exact nRd_72 (hX c hc e hx).1 h
/-- a CELL outside all rings reaches more than what it reads -/
theorem xFr_lt (hX : okX X) {c x : Nat} (hc : c < 72) (h : (xRd X c).testBit x = true) (hr : ¬ xCy X x) : nct 72 (xFr X x) < nct 72 (xFr X c) := by
  obtain ⟨a1, a2⟩ := qWm_tr (np := 72) (T := xRd X)
  have hx := xRd_72 hX hc h
  have h1 := a1 c hc x h
  exact nct_lt 72 (fun y _ hy => a2 c x y hc hx h1 hy) hx h1 hr
theorem qCv_l (hX : okX X) {C D : fCs} {c : Nat} (hc : c < 72) (h : ∀ x, x < 72 → (xRd X c).testBit x = true → C x = D x) : qCv X s M C c = qCv X s M D c := by
  unfold qCv
  cases hx : X c with
  | none => rfl
  | some e =>
    obtain ⟨q1, q2, q3, q4⟩ := hX c hc e hx
    have hh : xRd X c = nRd e.1 := by unfold xRd; rw [hx]
    rw [hh] at h
    show (if xCy X c then _ else wCv (fWr e.1 e.2 C s M)) = (if xCy X c then _ else wCv (fWr e.1 e.2 D s M))
    rw [fWr_l q1 q2 ⟨q3, q4⟩ h]
theorem qCv_r {C D : fCs} {c : Nat} (h : X c = none ∨ xCy X c) : qCv X s M C c = qCv X s M D c := by
  unfold qCv
  cases hx : X c with
  | none => rfl
  | some e =>
    rcases h with h | h
    · rw [hx] at h; cases h
    · show (if xCy X c then _ else _) = (if xCy X c then _ else _)
      rw [if_pos h, if_pos h]
theorem fShI_st (hX : okX X) : ∀ (k c : Nat), c < 72 → 1 ≤ k → (¬ xCy X c → nct 72 (xFr X c) < k) → fShI X s M k c = fShI X s M (k + 1) c := by
  intro k
  induction k with
  | zero => intro c _ h; omega
  | succ k ih =>
    intro c hc _ h2
    show qCv X s M (fShI X s M k) c = qCv X s M (fShI X s M (k + 1)) c
    by_cases hr : xCy X c
    · exact qCv_r (.inr hr)
    · refine qCv_l hX hc (fun x hx hx2 => ?_)
      have h3 := h2 hr
      obtain ⟨a1, a2⟩ := qWm_tr (np := 72) (T := xRd X)
      have h4 := nct_pos hx (a1 c hc x hx2)
      have h5 : nct 72 (xFr X c) = nct 72 (qWm 72 (xRd X) 72 c) := rfl
      refine ih x hx (by omega) (fun hrx => ?_)
      have := xFr_lt hX hc hx2 hrx
      omega
theorem fSh_fix (hX : okX X) {c : Nat} (hc : c < 72) : fSh X s M c = qCv X s M (fSh X s M) c := by
  have := fShI_st (s := s) (M := M) hX 73 c hc (by decide) (fun _ => by have := nct_k (xFr X c) 72; omega)
  exact this
theorem wCv_ok {x : fWo} (h : okW x) : (((wCv x).1 = 0 ∧ (wCv x).2 = 0) ∨ ((wCv x).1 = 1 ∧ vOk (wCv x).2) ∨ ((wCv x).1 = 2 ∧ 1 ≤ (wCv x).2 ∧ (wCv x).2 ≤ 4)) := by
  cases x with
  | inl e => exact .inr (.inr ⟨rfl, h⟩)
  | inr v => exact .inr (.inl ⟨rfl, h⟩)
theorem qCv_ok (hX : okX X) (hM : okM s M) (hl : ∀ p, p < s.1.length → (M p).length ≤ 520) {C : fCs} (hC : okC C) : okC (qCv X s M C) := by
  intro c hc
  unfold qCv
  cases hx : X c with
  | none => exact .inl ⟨rfl, rfl⟩
  | some e =>
    obtain ⟨q1, q2, q3, q4⟩ := hX c hc e hx
    show ((if xCy X c then ((2 : Int), (1 : Int)) else wCv (fWr e.1 e.2 C s M)).1 = 0 ∧ (if xCy X c then ((2 : Int), (1 : Int)) else wCv (fWr e.1 e.2 C s M)).2 = 0) ∨ ((if xCy X c then ((2 : Int), (1 : Int)) else wCv (fWr e.1 e.2 C s M)).1 = 1 ∧ vOk (if xCy X c then ((2 : Int), (1 : Int)) else wCv (fWr e.1 e.2 C s M)).2) ∨ ((if xCy X c then ((2 : Int), (1 : Int)) else wCv (fWr e.1 e.2 C s M)).1 = 2 ∧ 1 ≤ (if xCy X c then ((2 : Int), (1 : Int)) else wCv (fWr e.1 e.2 C s M)).2 ∧ (if xCy X c then ((2 : Int), (1 : Int)) else wCv (fWr e.1 e.2 C s M)).2 ≤ 4)
    by_cases r : xCy X c
    · rw [if_pos r]
      exact .inr (.inr ⟨rfl, by decide, by decide⟩)
    · rw [if_neg r]
      exact wCv_ok (fW_ok q1 hC hM hl 64 e.2.toNat (by omega) (by omega))
theorem fShI_ok (hX : okX X) (hM : okM s M) (hl : ∀ p, p < s.1.length → (M p).length ≤ 520) : ∀ k, okC (fShI X s M k)
  | 0 => fun _ _ => .inl ⟨rfl, rfl⟩
  | k + 1 => qCv_ok hX hM hl (fShI_ok hX hM hl k)
theorem fSh_ok (hX : okX X) (hM : okM s M) (hl : ∀ p, p < s.1.length → (M p).length ≤ 520) : okC (fSh X s M) := fShI_ok hX hM hl 73
/-- among CELLS that are not worked yet there is one that may be -/
theorem sh_next (hX : okX X) {D : Nat → Prop} (hD : ∀ c, c < 72 → xCy X c → D c) : ∀ (n c : Nat), c < 72 → ¬ D c → nct 72 (xFr X c) < n → ∃ x, x < 72 ∧ ¬ D x ∧ ∀ y, y < 72 → (xRd X x).testBit y = true → D y := by
  intro n
  induction n with
  | zero => intro c _ _ h; omega
  | succ n ih =>
    intro c hc hd hn
    by_cases h : ∀ y, y < 72 → (xRd X c).testBit y = true → D y
    · exact ⟨c, hc, hd, h⟩
    · obtain ⟨y, hy⟩ := Classical.not_forall.mp h
      obtain ⟨y1, hy⟩ := Classical.not_imp.mp hy
      obtain ⟨y2, y3⟩ := Classical.not_imp.mp hy
      have hr : ¬ xCy X y := fun q => y3 (hD y y1 q)
      have := xFr_lt hX hc y2 hr
      exact ih y y1 y3 (by omega)
end
