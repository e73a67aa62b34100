/-! The SHEET: what a FORMULA is worth -/
/-- each CELL's kind (0 empty, 1 a value, 2 an ERROR) and its value -/
abbrev fCs : Type := Nat → Int × Int
abbrev fWo : Type := Int ⊕ Int
def ebind (x : fWo) (k : Int → fWo) : fWo := match x with
  | .inl e => .inl e
  | .inr v => k v
def eok (x : fWo) (P : Int → Prop) (Q : Int → Prop) : Prop := match x with
  | .inl e => P e
  | .inr v => Q v
abbrev fIn (x : Nat) (a b : Int) : Prop := (a % 6 ≤ (x : Int) % 6 ∧ (x : Int) % 6 ≤ b % 6) ∧ a / 6 ≤ (x : Int) / 6 ∧ (x : Int) / 6 ≤ b / 6
/-- over the CELLS from x on, k of them: the first ERROR, or sum and number -/
def fOc (C : fCs) (a b : Int) : Nat → Nat → Int → Int → Int ⊕ (Int × Int)
  | 0, _, v, n => .inr (v, n)
  | k + 1, x, v, n => if fIn x a b ∧ ¬ (C x).1 = 0 then (if (C x).1 = 2 then .inl (C x).2 else fOc C a b k (x + 1) (if 2000000000000 ≤ (C x).2 then v else v + (C x).2) (n + 1)) else fOc C a b k (x + 1) v n
def fBd (v : Int) : fWo := if 1000000000000 < v ∨ v < -1000000000000 then .inl 3 else .inr v
def fOv (C : fCs) (kd a b : Int) : fWo := match fOc C a b 72 0 0 0 with
  | .inl e => .inl e
  | .inr r => if kd = 5 then .inr r.2 else fBd r.1
/-- over rows -/
def fRl (kd : Int) (k : Nat) : List pRw → Nat → Int → Int
  | [], _, v => v
  | r :: R, i, v => fRl kd k R (i + 1) (if kd = 7 then v + (if 2000000000000 ≤ r.1.getD k 0 then 0 else r.1.getD k 0) else if i = 0 then r.1.getD k 0 else if kd = 8 then xmin v (r.1.getD k 0) else xmax v (r.1.getD k 0))
def fRo (s : pPg) (M : Nat → List pRw) (kd k x : Int) : fWo :=
  if pIdx s.1 x = -1 ∨ (qN s (pIdx s.1 x).toNat : Int) < k then .inl 4
  else if kd = 6 then .inr ((M (pIdx s.1 x).toNat).length : Int)
  else if kd = 7 then fBd (fRl kd (k - 1).toNat (M (pIdx s.1 x).toNat) 0 0)
  else .inr (fRl kd (k - 1).toNat (M (pIdx s.1 x).toNat) 0 0)
def fSg (op a b : Int) : fWo := if 2000000000000 ≤ a ∨ 2000000000000 ≤ b then .inl 2 else match qWk op a b with
  | none => .inl 3
  | some w => .inr w
def fCe (c : Int × Int) : fWo := if c.1 = 2 then .inl c.2 else if c.1 = 1 then .inr c.2 else .inr 0
/-- a node's worth -/
def fW (N : List pNd) (C : fCs) (s : pPg) (M : Nat → List pRw) : Nat → Nat → fWo
  | 0, _ => .inl 0
  | F + 1, i =>
    if (N.getD i dNd).1 = 1 then .inr (N.getD i dNd).2.2.2.2
    else if (N.getD i dNd).1 = 2 then fCe (C (N.getD i dNd).2.1.toNat)
    else if (N.getD i dNd).1 = 3 then ebind (fW N C s M F (N.getD i dNd).2.1.toNat) fun a => ebind (fW N C s M F (N.getD i dNd).2.2.1.toNat) fun b => fSg (N.getD i dNd).2.2.2.1 a b
    else if (N.getD i dNd).1 = 4 ∨ (N.getD i dNd).1 = 5 then fOv C (N.getD i dNd).1 (N.getD i dNd).2.1 (N.getD i dNd).2.2.1
    else if (N.getD i dNd).1 = 10 then ebind (fW N C s M F (N.getD i dNd).2.1.toNat) fun a => if a = 0 then fW N C s M F (N.getD i dNd).2.2.2.1.toNat else fW N C s M F (N.getD i dNd).2.2.1.toNat
    else fRo s M (N.getD i dNd).1 (N.getD i dNd).2.1 (N.getD i dNd).2.2.2.2
def okC (C : fCs) : Prop := ∀ x, x < 72 → ((C x).1 = 0 ∧ (C x).2 = 0) ∨ ((C x).1 = 1 ∧ vOk (C x).2) ∨ ((C x).1 = 2 ∧ 1 ≤ (C x).2 ∧ (C x).2 ≤ 4)
def okM (s : pPg) (M : Nat → List pRw) : Prop := ∀ p, p < s.1.length → ∀ r ∈ M p, ∀ x ∈ r.1, vOk x
/-- a worth is a value, or an ERROR -/
def okW (x : fWo) : Prop := eok x (fun e => 1 ≤ e ∧ e ≤ 4) vOk
def rCs (G : xG_) (o : Nat) (C : fCs) : Prop := ∀ x, x < 72 → G (o + 17) x = (C x).1 ∧ G (o + 20) x = (C x).2
/-- ERROR and isNone alone have changed -/
def xfE (G G' : xG_) : Prop := ∀ a j, ¬ (a = 0 ∧ (j = 91 ∨ j = 42)) → G' a j = G a j
/-- what an evaluation answers -/
def rWo (G : xG_) (r : Option (Int × xG_)) (x : fWo) : Prop := ∃ v G', r = some (v, G') ∧ xfE G G' ∧ eok x (fun e => G' 0 91 = e) (fun w => G' 0 91 = 0 ∧ v = w)
theorem fBd_ok (v : Int) : okW (fBd v) := by
  unfold fBd
  split
  · exact ⟨by decide, by decide⟩
  · show vOk v
    unfold vOk
    omega
theorem fSg_ok (op a b : Int) : okW (fSg op a b) := by
  unfold fSg
  split
  · exact ⟨by decide, by decide⟩
  · cases h : qWk op a b with
    | none => exact ⟨by decide, by decide⟩
    | some w => exact qWk_ok h
section
variable {f o : Nat} {G : xG_} {C : fCs}
theorem l_345 {x : Nat} {a b : Int} (hx : x < 72) (ha : 0 ≤ a ∧ a < 72) (hb : 0 ≤ b ∧ b < 72) : g345 f (x : Int) a b G = some (if fIn x a b then 1 else 0, G) := by
  have k1 := x6i (a := (x : Int)) (by omega) (by omega)
  have k2 := x6i ha.1 ha.2
  have k3 := x6i hb.1 hb.2
  unfold g345 g345_48 g345_49
  rw [k1.1, k1.2, k2.1, k2.2, k3.1, k3.2, if_pos (Or.inl rfl), if_pos (Or.inr rfl)]
  by_cases h : fIn x a b
  · rw [if_pos h]
    unfold fIn at h
    rw [if_neg (by omega), if_neg (by omega), if_neg (by omega), if_neg (by omega)]
  · rw [if_neg h]
    unfold fIn at h
    by_cases c1 : (x : Int) % 6 < a % 6
    · rw [if_pos c1]
    · rw [if_neg c1]
      by_cases c2 : b % 6 < (x : Int) % 6
      · rw [if_pos c2]
      · rw [if_neg c2]
        by_cases c3 : (x : Int) / 6 < a / 6
        · rw [if_pos c3]
        · rw [if_neg c3, if_pos (by omega)]
theorem fOc_ok (hC : okC C) {a b : Int} : ∀ (k x : Nat) (v n : Int), x + k = 72 → 0 ≤ n → n ≤ (x : Int) → (match fOc C a b k x v n with | .inl e => 1 ≤ e ∧ e ≤ 4 | .inr r => 0 ≤ r.2 ∧ r.2 ≤ 72)
  | 0, x, v, n, h1, h2, h3 => by
    show 0 ≤ n ∧ n ≤ 72
    omega
  | k + 1, x, v, n, h1, h2, h3 => by
    unfold fOc
    by_cases c : fIn x a b ∧ ¬ (C x).1 = 0
    · rw [if_pos c]
      by_cases d : (C x).1 = 2
      · rw [if_pos d]
        rcases hC x (by omega) with q | q | q
        · omega
        · omega
        · exact q.2
      · rw [if_neg d]
        exact fOc_ok hC k (x + 1) _ (n + 1) (by omega) (by omega) (by omega)
    · rw [if_neg c]
      exact fOc_ok hC k (x + 1) v n (by omega) (by omega) (by omega)
theorem l_352_8 {i : Nat} {a b kd : Int} (hC : okC C) (hr : rCs G o C) (hi : i < 140) (ha : 0 ≤ a ∧ a < 72) (hb : 0 ≤ b ∧ b < 72) (h1 : G 259 i = a) (h2 : G 260 i = b) (h3 : G 258 i = kd) (hk : kd = 4 ∨ kd = 5) (h0 : G 0 91 = 0) : ∀ (k x fu : Nat) (v : Int) (n : Nat), x + k = 72 → k < fu → n ≤ x → -1000000000000 * (x : Int) ≤ v → v ≤ 1000000000000 * (x : Int) →
    rWo G (g352_8 f fu o (i : Int) v (n : Int) (x : Int) G) (match fOc C a b k x v (n : Int) with | .inl e => .inl e | .inr r => if kd = 5 then .inr r.2 else fBd r.1) := by
  intro k
  induction k with
  | zero =>
    intro x fu v n y1 y2 y3 y4 y5
    obtain ⟨fu, rfl⟩ : ∃ t, fu = t + 1 := ⟨fu - 1, by omega⟩
    have hx : x = 72 := by omega
    subst hx
    show rWo G (g352_8b (g352_8 f fu) f o (i : Int) v (n : Int) ((72 : Nat) : Int) G) (if kd = 5 then .inr (n : Int) else fBd v)
    unfold g352_8b g352_135 g352_140
    rw [if_pos (by omega), if_pos (by omega), Int.toNat_natCast, h3]
    by_cases c : kd = 5
    · rw [if_neg (fun q => q c), if_pos c]
      exact ⟨_, _, rfl, fun _ _ _ => rfl, h0, rfl⟩
    · rw [if_pos c, if_neg c]
      unfold fBd
      by_cases c1 : 1000000000000 < v
      · rw [if_pos c1, if_pos (Or.inl c1)]
        exact ⟨v, _, rfl, fun a j q => xup2_n (by omega), xup2_s _ _ _ _⟩
      · rw [if_neg c1]
        by_cases c2 : -1000000000000 ≤ v
        · rw [if_pos c2, if_neg (by omega)]
          exact ⟨v, _, rfl, fun _ _ _ => rfl, h0, rfl⟩
        · rw [if_neg c2, if_pos (by omega)]
          exact ⟨v, _, rfl, fun a j q => xup2_n (by omega), xup2_s _ _ _ _⟩
  | succ k ih =>
    intro x fu v n y1 y2 y3 y4 y5
    obtain ⟨fu, rfl⟩ : ∃ t, fu = t + 1 := ⟨fu - 1, by omega⟩
    have hx : x < 72 := by omega
    have e : xwr ((x : Int) + 1) = ((x + 1 : Nat) : Int) := by rw [xwr_g _ (by omega) (by omega)]; omega
    have en : xwr ((n : Int) + 1) = ((n + 1 : Nat) : Int) := by rw [xwr_g _ (by omega) (by omega)]; omega
    obtain ⟨r1, r2⟩ := hr x hx
    have hx2 : 0 ≤ (x : Int) ∧ (x : Int) < 72 := by omega
    have hi2 : 0 ≤ (i : Int) ∧ (i : Int) < 140 := by omega
    have hc := hC x hx
    show rWo G (g352_8b (g352_8 f fu) f o (i : Int) v (n : Int) (x : Int) G) _
    unfold g352_8b g352_99 fOc
    rw [if_neg (by omega), if_pos hi2, if_pos hi2, Int.toNat_natCast, h1, h2, l_345 hx ha hb, Option.bind_some]
    by_cases c : fIn x a b
    · have s1 : ¬ ((if fIn x a b then (1 : Int) else 0, G) : Int × xG_).1 = 0 := by
        rw [if_pos c]; show ¬ (1 : Int) = 0; decide
      rw [if_neg s1, if_pos hx2]
      simp only [Int.toNat_natCast]
      rw [r1]
      by_cases c0 : (C x).1 = 0
      · have cn : ¬ (fIn x a b ∧ ¬ (C x).1 = 0) := fun q => q.2 c0
        have nn : ¬ ¬ (C x).1 = 0 := fun q => q c0
        rw [if_neg nn, if_neg cn, e]
        exact ih (x + 1) fu v n (by omega) (by omega) (by omega) (by omega) (by omega)
      · have cc : fIn x a b ∧ ¬ (C x).1 = 0 := ⟨c, c0⟩
        rw [if_pos c0, if_pos hx2, if_pos cc]
        by_cases c2 : (C x).1 = 2
        · have nn : ¬ ¬ (C x).1 = 2 := fun q => q c2
          rw [if_neg nn, if_pos hx2, if_pos c2, r2]
          have hv : 1 ≤ (C x).2 ∧ (C x).2 ≤ 4 := by
            rcases hc with q | q | q
            · omega
            · omega
            · exact q.2
          rw [xwr_g _ (by omega) (by omega)]
          exact ⟨_, _, rfl, fun a j q => xup2_n (by omega), xup2_s _ _ _ _⟩
        · have hv : vOk (C x).2 := by
            rcases hc with q | q | q
            · exact absurd q.1 c0
            · exact q.2
            · exact absurd q.1 c2
          unfold vOk at hv
          rw [if_pos c2, if_pos hx2, if_neg c2, r2, l_267, Option.bind_some]
          by_cases c3 : (C x).2 < 2000000000000
          · have s3 : ¬ ¬ ((if (C x).2 < 2000000000000 then (0 : Int) else 1, G) : Int × xG_).1 = 0 := by
              rw [if_pos c3]; exact fun q => q rfl
            rw [if_neg s3, if_pos hx2]
            simp only [Int.toNat_natCast]
            rw [r2, xwl_g _ (by omega) (by omega), en, e, if_neg (by omega : ¬ 2000000000000 ≤ (C x).2)]
            exact ih (x + 1) fu _ (n + 1) (by omega) (by omega) (by omega) (by omega) (by omega)
          · have s3 : ¬ ((if (C x).2 < 2000000000000 then (0 : Int) else 1, G) : Int × xG_).1 = 0 := by
              rw [if_neg c3]; show ¬ (1 : Int) = 0; decide
            rw [if_pos s3, en, e, if_pos (by omega : 2000000000000 ≤ (C x).2)]
            exact ih (x + 1) fu _ (n + 1) (by omega) (by omega) (by omega) (by omega) (by omega)
    · have s1 : ((if fIn x a b then (1 : Int) else 0, G) : Int × xG_).1 = 0 := by
        rw [if_neg c]
      have cn : ¬ (fIn x a b ∧ ¬ (C x).1 = 0) := fun q => c q.1
      rw [if_pos s1, if_neg cn, e]
      exact ih (x + 1) fu v n (by omega) (by omega) (by omega) (by omega) (by omega)
theorem l_352 {i : Nat} {a b kd : Int} (hf : 100 < f) (hC : okC C) (hr : rCs G o C) (hi : i < 140) (ha : 0 ≤ a ∧ a < 72) (hb : 0 ≤ b ∧ b < 72) (h1 : G 259 i = a) (h2 : G 260 i = b) (h3 : G 258 i = kd) (hk : kd = 4 ∨ kd = 5) (h0 : G 0 91 = 0) :
    rWo G (g352 f o (i : Int) G) (fOv C kd a b) := by
  have := l_352_8 (f := f) hC hr hi ha hb h1 h2 h3 hk h0 72 0 f 0 0 rfl (by omega) (by omega) (by decide) (by decide)
  exact this
theorem fOv_ok {kd a b : Int} (hC : okC C) : okW (fOv C kd a b) := by
  have h := fOc_ok hC (a := a) (b := b) 72 0 0 0 rfl (by decide) (by decide)
  unfold fOv
  cases hh : fOc C a b 72 0 0 0 with
  | inl e => rw [hh] at h; exact h
  | inr r =>
    rw [hh] at h
    show okW (if kd = 5 then .inr r.2 else fBd r.1)
    split
    · show vOk r.2
      have h' : 0 ≤ r.2 ∧ r.2 ≤ 72 := h
      unfold vOk
      omega
    · exact fBd_ok _
theorem l_351 {op a b : Int} (hop : wSg op) (ha : vOk a) (hb : vOk b) (h0 : G 0 91 = 0) : rWo G (g351 f op a b G) (fSg op a b) := by
  have w2 : (2000000000000 ≤ a ∨ 2000000000000 ≤ b) → fSg op a b = .inl 2 := fun q => by
    unfold fSg
    rw [if_pos q]
  have bad : rWo G (some (0, xup2 G 0 91 2)) (.inl 2) := ⟨_, _, rfl, fun a j q => xup2_n (by omega), xup2_s _ _ _ _⟩
  unfold g351 g351_15 g351_49
  rw [l_267, Option.bind_some]
  by_cases c1 : a < 2000000000000
  · have s1 : ¬ ¬ ((if a < 2000000000000 then (0 : Int) else 1, G) : Int × xG_).1 = 0 := by
      rw [if_pos c1]; exact fun q => q rfl
    rw [if_neg s1, l_267, Option.bind_some]
    by_cases c2 : b < 2000000000000
    · have s2 : ((if b < 2000000000000 then (0 : Int) else 1, G) : Int × xG_).1 = 0 := by
        rw [if_pos c2]
      have cs : ¬ (2000000000000 ≤ a ∨ 2000000000000 ≤ b) := by omega
      obtain ⟨v, k1, k2⟩ := l_268 (f := f) (G := xup2 G 0 42 0) hop ha hb
      rw [if_pos s2, Option.bind_some, k1, Option.bind_some]
      unfold fSg
      rw [if_neg cs]
      simp only [xup2_s]
      cases hq : qWk op a b with
      | none =>
        show rWo G (if (1 : Int) = 0 then _ else _) (.inl 3)
        rw [if_neg (by decide)]
        exact ⟨v, _, rfl, fun a j q => by
          rw [xup2_n (by omega), xup2_n (by omega), xup2_n (by omega)], xup2_s _ _ _ _⟩
      | some w =>
        show rWo G (if (0 : Int) = 0 then _ else _) (.inr w)
        rw [if_pos rfl]
        refine ⟨v, _, rfl, fun a j q => ?_, ?_, k2 w hq⟩
        · rw [xup2_n (by omega), xup2_n (by omega)]
        · rw [xup2_n (by omega), xup2_n (by omega)]
          exact h0
    · have s2 : ¬ ((if b < 2000000000000 then (0 : Int) else 1, G) : Int × xG_).1 = 0 := by
        rw [if_neg c2]; show ¬ (1 : Int) = 0; decide
      rw [if_neg s2, w2 (by omega)]
      exact bad
  · have s1 : ¬ ((if a < 2000000000000 then (0 : Int) else 1, G) : Int × xG_).1 = 0 := by
      rw [if_neg c1]; show ¬ (1 : Int) = 0; decide
    rw [if_pos s1, w2 (by omega)]
    exact bad
end
