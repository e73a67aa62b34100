/-! THE CLASS: the house: programs, moments -/
/-- no call changes what was made: rows that are never there, the moment nothing, all that calls made -/
def xSf (A : Nat) (G G' : xG_) : Prop := ∀ a j, a < A → (203 < a ∧ a < 216 ∨ 227 < a ∧ a < 243 ∨ 555 < a) → G' a j = G a j
def sfP (A a : Nat) : Prop := a < A ∧ (227 < a ∧ a < 243 ∨ 555 < a)
/-- the program of the text e stands at q -/
def cPx (T : List (List Int)) (S : Nat → Nat × Nat × Nat) (G : xG_) (A q e : Nat) : Prop := ∃ s nq, qPr (T.getD e []) = .inr s ∧ qOc s ∧ cPgm S G q nq s ∧ nq ≤ A ∧ (q = 229 ∧ nq ≤ 243 ∨ 555 < q)
/-- a moment of the class -/
def cMo (T : List (List Int)) (S : Nat → Nat × Nat × Nat) (G : xG_) (A : Nat) (P : Nat → Nat) (mp : Nat) (mo : sMo) : Prop :=
  ∃ (s : pPg) (M : Nat → List pRw) (rp : Nat) (xr cr : Nat → Nat) (tp ac : Nat) (to : Nat → Nat), isMo T mo s M ∧ okM8 s M ∧ cMr S G A mp (P mo.1) rp s xr cr M ∧ (G mp 2 = (tp : Int) ∧ cTt S G tp (xOf T mo.2.2.1) to) ∧ (G mp 3 = (ac : Int) ∧ S ac = (2, 4, 72) ∧ ∀ x, x < 72 → G ac x = eC (fSh (xOf T mo.2.2.1) s M x)) ∧ P mo.1 ≠ 0 ∧
    (sfP A mp ∧ sfP A rp ∧ sfP A tp ∧ sfP A ac) ∧ (∀ p, p < s.1.length → xr p + 2 < 216 ∨ 555 < xr p) ∧ ∀ c, c < 72 → to c = 0 ∨ 555 < to c ∧ to c + 2 < A
section
variable {T : List (List Int)} {S S' : Nat → Nat × Nat × Nat} {G G' : xG_} {A A' q e mp : Nat} {P P' : Nat → Nat} {mo : sMo}
theorem cPx.ge (h : cPx T S G A q e) (hA : A ≤ A') (hS : ∀ a, a < A → S' a = S a) (hG : xSf A G G') : cPx T S' G' A' q e := by
  obtain ⟨s, nq, a1, a2, a3, a4, a5⟩ := h
  exact ⟨s, nq, a1, a2, a3.ge (Nat.le_refl _) (fun a y => hS a (by omega)) (fun a j y1 y2 => hG a j (by omega) (by omega)), by omega, a5⟩
theorem cPx.app (t : List Int) (h : cPx T S G A q e) (he : e < T.length) : cPx (T ++ [t]) S G A q e := by
  obtain ⟨s, nq, a1, a2⟩ := h
  exact ⟨s, nq, by rw [getD_app _ he]; exact a1, a2⟩
theorem cMo.ge (h : cMo T S G A P mp mo) (hA : A ≤ A') (hS : ∀ a, a < A → S' a = S a) (hG : xSf A G G') : cMo T S' G' A' P mp mo := by
  obtain ⟨s, M, rp, xr, cr, tp, ac, to, a1, a2, a3, ⟨a4, a5⟩, ⟨a6, a7, a8⟩, a9, ⟨b1, b2, b3, b4⟩, b5, b6⟩ := h
  have up : ∀ {a : Nat}, sfP A a → sfP A' a := fun {a} z => ⟨Nat.lt_of_lt_of_le z.1 hA, z.2⟩
  have gm : ∀ {a : Nat} (j : Nat), sfP A a → G' a j = G a j := fun {a} j z => hG a j z.1 (.inr z.2)
  refine ⟨s, M, rp, xr, cr, tp, ac, to, a1, a2, a3.ge2 hA (fun a hz => hS a (by
    rcases hz with z | z | ⟨p, hp, y1, y2⟩
    · rw [z]; exact b1.1
    · rw [z]; exact b2.1
    · have := (a3.2.2.2.2 p hp).2.1; omega)) (fun a j hz => by
    rcases hz with ⟨z, zj⟩ | z | ⟨p, hp, y1, y2⟩
    · rw [z]; exact gm j b1
    · rw [z]; exact gm j b2
    · have u1 := (a3.2.2.2.2 p hp).2.1
      have u2 := b5 p hp
      exact hG a j (by omega) (by omega)), ⟨by rw [gm _ b1]; exact a4, a5.lt b3.1 (fun c hc => by
    have := b6 c hc
    have := b3
    unfold sfP at this
    omega) hS (fun c hc => gm _ b3) (fun c hc z a j y1 y2 => by
    have := b6 c hc
    exact hG a j (by omega) (by omega))⟩, ⟨by rw [gm _ b1]; exact a6, by rw [hS _ b4.1]; exact a7, fun x hx => by rw [gm _ b4]; exact a8 x hx⟩, a9, ⟨up b1, up b2, up b3, up b4⟩, b5, fun c hc => ?_⟩
  rcases b6 c hc with z | z
  · exact .inl z
  · exact .inr ⟨z.1, by omega⟩
theorem cMo.app (t : List Int) (h : cMo T S G A P mp mo) (hP : ∀ e, e < T.length → P' e = P e) : cMo (T ++ [t]) S G A P' mp mo := by
  obtain ⟨s, M, rp, xr, cr, tp, ac, to, a1, a2, a3, ⟨a4, a5⟩, ⟨a6, a7, a8⟩, a9, b⟩ := h
  have hk := a1.2.2.2.2.2.2.1
  have e1 := hP _ a1.1
  have e2 := xOf_app t hk
  refine ⟨s, M, rp, xr, cr, tp, ac, to, a1.app t, a2, by rw [e1]; exact a3, ⟨a4, by rw [e2]; exact a5⟩, ⟨a6, a7, by rw [e2]; exact a8⟩, by rw [e1]; exact a9, b⟩
end
/-- programs: P tells where that of the text e stands (0: none) -/
def cEd (T : List (List Int)) (S : Nat → Nat × Nat × Nat) (G : xG_) (A : Nat) (P : Nat → Nat) : Prop := (∀ e, P e ≠ 0 → e < T.length ∧ cPx T S G A (P e) e ∧ 0 ≤ G (P e) 0 ∧ G (P e) 0 ≤ G 64 7) ∧ ∀ e e', P e ≠ 0 → P e' ≠ 0 → G (P e) 0 = G (P e') 0 → e = e'
/-- the texts that CELLS were told -/
def cCt (T : List (List Int)) (S : Nat → Nat × Nat × Nat) (G : xG_) (A ln : Nat) (W : Nat → Int) : Prop := ∃ lt : Nat → Nat, ∀ c, c < 72 → (G (ln + 7) c = 0 ↔ W c = -1) ∧ G (ln + 8) c = (lt c : Int) ∧ (lt c = 0 ∧ xOf T (fun c => (W c).toNat) c = none ∨ 555 < lt c ∧ lt c + 2 < A ∧ ∃ e, xOf T (fun c => (W c).toNat) c = some e ∧ cFm S G (lt c) e)
/-- rounds of a line -/
def cRo (T : List (List Int)) (S : Nat → Nat × Nat × Nat) (G : xG_) (A : Nat) (P : Nat → Nat) (ln : Nat) (H : Nat → sMo) (b k ed : Nat) : Prop := (G ln 1 = ((b + k : Nat) : Int) ∧ G ln 2 = (b : Int)) ∧ ∃ mp : Nat → Nat, (∀ r, b ≤ r → r ≤ b + k → G (ln + 1) r = (mp r : Int) ∧ cMo T S G A P (mp r) (H r) ∧ ∃ x : Nat, G (mp r) 7 = (x : Int) ∧ x + (hCat (hEg H) r (b + k - r)).length = ed) ∧ ∀ r, b < r → r ≤ b + k → G (mp r) 4 = ((hLg H r).length : Int) ∧ G (mp r) 5 = ((hCg H r).length : Int) ∧ G (mp r) 6 = ((hEg H r).length : Int)
/-- a line of the class -/
def cLn (T : List (List Int)) (S : Nat → Nat × Nat × Nat) (G : xG_) (A : Nat) (P : Nat → Nat) (ln : Nat) (l : sLn) : Prop :=
  cRo T S G A P ln l.1 l.2.1.1 l.2.1.2.1 l.2.1.2.2 ∧ ((∀ p, p < 16 → G (ln + 2) p = l.2.2.1.1 p) ∧ ∀ c, c < 72 → G (ln + 3) c = l.2.2.1.2.1 c) ∧
  (l.2.2.2.1.2.1 = -1 ∧ G ln 7 = 0 ∨ 0 ≤ l.2.2.2.1.2.1 ∧ P l.2.2.2.1.2.1.toNat ≠ 0 ∧ G ln 7 = ((P l.2.2.2.1.2.1.toNat : Nat) : Int)) ∧ (∃ s, qPr (T.getD (lnE l) []) = .inr s ∧ cPn G ln s l.2.2.2.1.1) ∧ cCt T S G A ln l.2.2.2.1.2.2 ∧ G ln 3 = l.2.2.2.2.1 ∧ (l.2.2.2.2.1 ≠ -1 → G ln 4 = l.2.2.2.2.2)
/-- rows of answers; where there is none, their width is nothing -/
def cKw (S : Nat → Nat × Nat × Nat) (G : xG_) (an : Nat) (kp : Nat × List (List Int)) : Prop := ∃ W : Nat, (kp.2 ≠ [] → W = kp.1) ∧ cRw S G an W 500 (kp.2.map (fun v => (v, 0)))
theorem cKw.ge {S S' : Nat → Nat × Nat × Nat} {G G' : xG_} {an : Nat} {kp : Nat × List (List Int)} (h : cKw S G an kp) (hS : ∀ a, an ≤ a → a ≤ an + 2 → S' a = S a) (h0 : ∀ j, G' an j = G an j) (h1 : ∀ j, G' (an + 1) j = G (an + 1) j) (h2 : ∀ j, G' (an + 2) j = G (an + 2) j) : cKw S' G' an kp := by
  obtain ⟨W, w1, w2⟩ := h
  exact ⟨W, w1, w2.ge hS h0 h1 h2⟩
/-- what answers are kept -/
def cKp (S : Nat → Nat × Nat × Nat) (G : xG_) (kp : Nat × List (List Int)) : Prop := ∃ an sp : Nat, (an = 221 ∧ sp = 224 ∨ an = 224 ∧ sp = 221) ∧ G 64 10 = (an : Int) ∧ G 64 11 = (sp : Int) ∧ cKw S G an kp
/-- what merge met -/
def cMt (G : xG_) (mt : Int × List Int) : Prop := G 64 15 = mt.1 ∧ G 64 16 = (mt.2.length : Int) ∧ mt.2.length ≤ 4 ∧ ∀ j, j < mt.2.length → G 227 j = mt.2.getD j 0
/-- the round whose edits are told -/
def cEe (T : List (List Int)) (S : Nat → Nat × Nat × Nat) (G : xG_) (A : Nat) (P : Nat → Nat) (l : sLn) : Prop := (l.2.2.1.2.2 = false → G 64 13 = 0) ∧ (l.2.2.1.2.2 = true → ∃ ea eb : Nat, G 64 12 = (ea : Int) ∧ G 64 13 = (eb : Int) ∧ cMo T S G A P ea (l.1 (l.2.1.1 + l.2.1.2.1 - 1)) ∧ cMo T S G A P eb (lMo l))
/-- the class stands at the house's state; n calls were done -/
def cHs (S : Nat → Nat × Nat × Nat) (G : xG_) (A : Nat) (H : sHs) (n : Nat) : Prop := match H with
  | (T, lns, hr, tx, kp, mt, pl, rf) => (cSs S ∧ cPs G ∧ cEm G ∧ 555 < A) ∧ (∃ P, cEd T S G A P ∧ (∀ y, y < 4 → cLn T S G A P (243 + 9 * y) (lns y)) ∧ cEe T S G A P (lns hr)) ∧ (hr < 4 ∧ G 64 6 = (hr : Int)) ∧ (0 ≤ G 64 7 ∧ G 64 7 ≤ n) ∧ G 64 8 = rf ∧ G 64 9 = pl ∧ cTx G (tBt tx) tx.length ∧ cKp S G kp ∧ cMt G mt
