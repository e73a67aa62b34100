/-! The reference's log: all that came and went in a round -/
def lgD (rd sg : Int) (A B : List pFc) : List pLg := (A.filter (fun y => ! decide (y ∈ B))).map (fun y => (rd, sg, y))
theorem lgD_in {rd sg : Int} {A B : List pFc} {y : pFc} (h : y ∈ B) : lgD rd sg (y :: A) B = lgD rd sg A B := by
  unfold lgD
  rw [List.filter_cons_of_neg (by rw [decide_eq_true h]; decide)]
theorem lgD_out {rd sg : Int} {A B : List pFc} {y : pFc} (h : y ∉ B) : lgD rd sg (y :: A) B = (rd, sg, y) :: lgD rd sg A B := by
  unfold lgD
  rw [List.filter_cons_of_pos (by rw [decide_eq_false h]; decide)]
  rfl
theorem lgD_len {rd sg : Int} {A B : List pFc} : (lgD rd sg A B).length ≤ A.length := by
  unfold lgD
  rw [List.length_map]
  exact List.length_filter_le _ _
theorem lgD_mem {rd sg : Int} {A B : List pFc} {x : pLg} : x ∈ lgD rd sg A B ↔ x.1 = rd ∧ x.2.1 = sg ∧ x.2.2 ∈ A ∧ x.2.2 ∉ B := by
  unfold lgD
  rw [List.mem_map]
  constructor
  · rintro ⟨y, h1, rfl⟩
    rw [List.mem_filter] at h1
    refine ⟨rfl, rfl, h1.1, fun q => ?_⟩
    have := h1.2
    rw [decide_eq_true q] at this
    cases this
  · rintro ⟨h1, h2, h3, h4⟩
    obtain ⟨a, b, y⟩ := x
    refine ⟨y, ?_, ?_⟩
    · rw [List.mem_filter]
      exact ⟨h3, by rw [decide_eq_false h4]; rfl⟩
    · have h1' : a = rd := h1
      have h2' : b = sg := h2
      rw [h1', h2']
theorem drop_d {α : Type} {d : α} {xs : List α} {k : Nat} (h : k < xs.length) : xs.drop k = xs.getD k d :: xs.drop (k + 1) := by
  rw [getD_e h]
  exact List.drop_eq_getElem_cons h
/-- which predicates have changed -/
def rCh (G : xG_) (o : Nat) (s : pPg) (T : List pLg) : Prop := ∀ p, p < 16 → (G (o + 19) p = 1 ↔ ∃ x, x ∈ T ∧ ofP s x.2.2 p) ∧ (G (o + 19) p = 0 ∨ G (o + 19) p = 1)
def fLg (o : Nat) (G G' : xG_) : Prop := ∀ a j, ¬ (a = o ∧ j = 10) → ¬ (o + 5 ≤ a ∧ a ≤ o + 9) → a ≠ o + 19 → G' a j = G a j
/-- where a round's facts stand -/
def eLg (G : xG_) (o : Nat) (s : pPg) (rd : Int) (A B : List pFc) : Prop := rNs G 2 s.1 ∧ rPn G 2 s ∧ rFa G 243 B ∧ rFa G 247 A ∧ G o 2 = rd
theorem eLg.ge {G G' : xG_} {o h : Nat} {s : pPg} {rd : Int} {A B : List pFc} (hh : h < 4) (ho : o = 123 + 29 * h) (e : eLg G o s rd A B) (fr : fLg o G G') : eLg G' o s rd A B := by
  obtain ⟨e1, e2, e3, e4, e5⟩ := e
  refine ⟨⟨by rw [fr _ _ (by omega) (by omega) (by omega)]; exact e1.1, e1.2.1, fun k hk => by rw [fr _ _ (by omega) (by omega) (by omega)]; exact e1.2.2 k hk⟩, fun y hy => by rw [fr _ _ (by omega) (by omega) (by omega)]; exact e2 y hy, e3.ge (fr _ _ (by omega) (by omega) (by omega)) (fun a j _ _ => fr _ _ (by omega) (by omega) (by omega)), e4.ge (fr _ _ (by omega) (by omega) (by omega)) (fun a j _ _ => fr _ _ (by omega) (by omega) (by omega)), by rw [fr _ _ (by omega) (by omega) (by omega)]; exact e5⟩
theorem fLg.tr {o : Nat} {G G' G2 : xG_} (h : fLg o G G') (h' : fLg o G' G2) : fLg o G G2 := fun a j y1 y2 y3 => by rw [h' a j y1 y2 y3]; exact h a j y1 y2 y3
section
variable {f o h : Nat} {s : pPg} {A B : List pFc} {L : List pLg} {rd : Int}
theorem l_lg1 {G : xG_} {T : List pLg} {sg : Int} {b i : Nat} {F : List pFc} (hf : 40 < f) (hw : wPg s) (hh : h < 4) (ho : o = 123 + 29 * h) (he : eLg G o s rd A B) (hbF : b = 243 ∧ F = B ∨ b = 247 ∧ F = A) (hi : i < F.length) (hL : rLg G o (L ++ T)) (hl : (L ++ T).length < 12000) (hC : rCh G o s T) :
    ∃ G', g303 f o sg b (i : Int) G = some G' ∧ fLg o G G' ∧ rLg G' o (L ++ (T ++ [(rd, sg, F.getD i dFc)])) ∧ rCh G' o s (T ++ [(rd, sg, F.getD i dFc)]) := by
  have hF : rFa G b F := by
    rcases hbF with ⟨rfl, rfl⟩ | ⟨rfl, rfl⟩
    · exact he.2.2.1
    · exact he.2.2.2.1
  obtain ⟨G', k1, k2, k3, k4, k5, k6⟩ := l_303 (sg := sg) hf hw hh ho (by rcases hbF with h | h <;> omega) he.1 he.2.1 hF hi hL hl he.2.2.2.2
  refine ⟨G', k1, k6, by rw [← List.append_assoc]; exact k2, fun p hp => ?_⟩
  by_cases c : ofP s (F.getD i dFc) p
  · exact ⟨⟨fun _ => ⟨_, List.mem_append_right _ (List.mem_singleton.mpr rfl), c⟩, fun _ => k4 p c⟩, .inr (k4 p c)⟩
  · rw [k5 p hp c]
    refine ⟨?_, (hC p hp).2⟩
    rw [(hC p hp).1]
    constructor
    · rintro ⟨x, x1, x2⟩
      exact ⟨x, List.mem_append_left _ x1, x2⟩
    · rintro ⟨x, x1, x2⟩
      rcases List.mem_append.mp x1 with x1 | x1
      · exact ⟨x, x1, x2⟩
      · rw [List.mem_singleton.mp x1] at x2
        exact absurd x2 c
theorem l_304_75 {n0 : Nat} (hf : 3600 < f) (hw : wPg s) (hh : h < 4) (ho : o = 123 + 29 * h) (hsB : B.Pairwise fLt) : ∀ (d i fu : Nat) (G : xG_) (T : List pLg), i + d = A.length → d < fu → eLg G o s rd A B → rLg G o (L ++ T) → (L ++ T).length + d ≤ 12000 → rCh G o s T →
    ∃ G', g304_75 f fu o (n0 : Int) (i : Int) G = some (xwr (((L ++ (T ++ lgD rd 1 (A.drop i) B)).length : Int) - (n0 : Int)), G') ∧ fLg o G G' ∧ rLg G' o (L ++ (T ++ lgD rd 1 (A.drop i) B)) ∧ rCh G' o s (T ++ lgD rd 1 (A.drop i) B) := by
  intro d
  induction d with
  | zero =>
    intro i fu G T h1 h2 he hL hl hC
    obtain ⟨fu, rfl⟩ : ∃ t, fu = t + 1 := ⟨fu - 1, by omega⟩
    have e : T ++ lgD rd 1 (A.drop i) B = T := by
      rw [List.drop_eq_nil_of_le (by omega)]
      exact List.append_nil T
    rw [e]
    refine ⟨G, ?_, fun _ _ _ _ _ => rfl, hL, hC⟩
    show g304_75b (g304_75 f fu) f _ _ _ _ = _
    unfold g304_75b
    rw [he.2.2.2.1.1, if_pos (by omega), hL.1]
  | succ d ih =>
    intro i fu G T h1 h2 he hL hl hC
    obtain ⟨fu, rfl⟩ : ∃ t, fu = t + 1 := ⟨fu - 1, by omega⟩
    have hi : i < A.length := by omega
    have hA := he.2.2.2.1
    have hlA := hA.2.1
    obtain ⟨q1, q2, q3, q4⟩ := hA.2.2 i hi
    have hii : 0 ≤ (i : Int) ∧ (i : Int) < 3400 := by omega
    have e1 : xwr (4 * (i : Int)) = ((4 * i : Nat) : Int) := by rw [xwr_g _ (by omega) (by omega)]; omega
    have e2 : xwr ((i : Int) + 1) = ((i + 1 : Nat) : Int) := by rw [xwr_g _ (by omega) (by omega)]; omega
    have hv : rVe G (247 + 2) (4 * i) (A.getD i dFc).2 := hA.ve (by unfold isFb; omega) hi
    have h97 := l_197 (f := f) (b := 243) (x := A.getD i dFc) (by omega) (by unfold isFb; omega) he.2.2.1 hsB hv
    have st : g304_75 f (fu + 1) o (n0 : Int) (i : Int) G = (if A.getD i dFc ∈ B then g304_75 f fu o (n0 : Int) ((i + 1 : Nat) : Int) G else (g303 f o 1 247 (i : Int) G).bind fun G1 => g304_75 f fu o (n0 : Int) ((i + 1 : Nat) : Int) G1) := by
      show g304_75b (g304_75 f fu) f _ _ _ _ = _
      unfold g304_75b g304_135
      rw [hA.1, if_neg (by omega), if_pos hii, if_pos hii, Int.toNat_natCast, q1, q2, e1, h97, Option.bind_some, e2]
      by_cases c : A.getD i dFc ∈ B
      · rw [if_pos c, if_pos c]
        rfl
      · rw [if_neg c, if_neg c]
        rfl
    rw [drop_d (d := dFc) hi]
    by_cases c : A.getD i dFc ∈ B
    · rw [lgD_in c]
      obtain ⟨G', k1, k2⟩ := ih (i + 1) fu G T (by omega) (by omega) he hL (by omega) hC
      exact ⟨G', by rw [st, if_pos c]; exact k1, k2⟩
    · obtain ⟨G1, r1, r2, r3, r4⟩ := l_lg1 (f := f) (sg := 1) (b := 247) (F := A) (by omega) hw hh ho he (.inr ⟨rfl, rfl⟩) hi hL (by omega) hC
      obtain ⟨G', k1, k2, k3, k4⟩ := ih (i + 1) fu G1 (T ++ [(rd, 1, A.getD i dFc)]) (by omega) (by omega) (he.ge hh ho r2) r3 (by rw [List.length_append, List.length_append, List.length_singleton] at *; omega) r4
      have e : T ++ [(rd, 1, A.getD i dFc)] ++ lgD rd 1 (A.drop (i + 1)) B = T ++ lgD rd 1 (A.getD i dFc :: A.drop (i + 1)) B := by
        rw [lgD_out c, List.append_assoc]
        rfl
      rw [e] at k1 k3 k4
      exact ⟨G', by rw [st, if_neg c, r1]; exact k1, r2.tr k2, k3, k4⟩
theorem l_304_7 {n0 : Nat} (hf : 3600 < f) (hw : wPg s) (hh : h < 4) (ho : o = 123 + 29 * h) (hsA : A.Pairwise fLt) (hsB : B.Pairwise fLt) : ∀ (d i fu : Nat) (G : xG_) (T : List pLg), i + d = B.length → d < fu → eLg G o s rd A B → rLg G o (L ++ T) → (L ++ T).length + d + A.length ≤ 12000 → rCh G o s T →
    ∃ G', g304_7 f fu o (n0 : Int) (i : Int) G = some (xwr (((L ++ (T ++ lgD rd (-1) (B.drop i) A ++ lgD rd 1 A B)).length : Int) - (n0 : Int)), G') ∧ fLg o G G' ∧ rLg G' o (L ++ (T ++ lgD rd (-1) (B.drop i) A ++ lgD rd 1 A B)) ∧ rCh G' o s (T ++ lgD rd (-1) (B.drop i) A ++ lgD rd 1 A B) := by
  intro d
  induction d with
  | zero =>
    intro i fu G T h1 h2 he hL hl hC
    obtain ⟨fu, rfl⟩ : ∃ t, fu = t + 1 := ⟨fu - 1, by omega⟩
    have hlA := he.2.2.2.1.2.1
    have e : T ++ lgD rd (-1) (B.drop i) A = T := by
      rw [List.drop_eq_nil_of_le (by omega)]
      exact List.append_nil T
    rw [e]
    obtain ⟨G', k1, k2, k3, k4⟩ := l_304_75 (f := f) (n0 := n0) (rd := rd) hf hw hh ho hsB A.length 0 f G T (by omega) (by omega) he hL (by omega) hC
    rw [List.drop_zero] at k1 k3 k4
    refine ⟨G', ?_, k2, k3, k4⟩
    rw [← k1]
    show g304_7b (g304_7 f fu) f _ _ _ _ = _
    unfold g304_7b
    rw [he.2.2.1.1, if_pos (by omega)]
    rfl
  | succ d ih =>
    intro i fu G T h1 h2 he hL hl hC
    obtain ⟨fu, rfl⟩ : ∃ t, fu = t + 1 := ⟨fu - 1, by omega⟩
    have hi : i < B.length := by omega
    have hB := he.2.2.1
    have hlB := hB.2.1
    obtain ⟨q1, q2, q3, q4⟩ := hB.2.2 i hi
    have hii : 0 ≤ (i : Int) ∧ (i : Int) < 3400 := by omega
    have e1 : xwr (4 * (i : Int)) = ((4 * i : Nat) : Int) := by rw [xwr_g _ (by omega) (by omega)]; omega
    have e2 : xwr ((i : Int) + 1) = ((i + 1 : Nat) : Int) := by rw [xwr_g _ (by omega) (by omega)]; omega
    have hv : rVe G (243 + 2) (4 * i) (B.getD i dFc).2 := hB.ve (by unfold isFb; omega) hi
    have h97 := l_197 (f := f) (b := 247) (x := B.getD i dFc) (by omega) (by unfold isFb; omega) he.2.2.2.1 hsA hv
    have st : g304_7 f (fu + 1) o (n0 : Int) (i : Int) G = (if B.getD i dFc ∈ A then g304_7 f fu o (n0 : Int) ((i + 1 : Nat) : Int) G else (g303 f o (-1) 243 (i : Int) G).bind fun G1 => g304_7 f fu o (n0 : Int) ((i + 1 : Nat) : Int) G1) := by
      show g304_7b (g304_7 f fu) f _ _ _ _ = _
      unfold g304_7b g304_67
      rw [hB.1, if_neg (by omega), if_pos hii, if_pos hii, Int.toNat_natCast, q1, q2, e1, h97, Option.bind_some, e2]
      by_cases c : B.getD i dFc ∈ A
      · rw [if_pos c, if_pos c]
        rfl
      · rw [if_neg c, if_neg c]
        rfl
    rw [drop_d (d := dFc) hi]
    by_cases c : B.getD i dFc ∈ A
    · rw [lgD_in c]
      obtain ⟨G', k1, k2⟩ := ih (i + 1) fu G T (by omega) (by omega) he hL (by omega) hC
      exact ⟨G', by rw [st, if_pos c]; exact k1, k2⟩
    · obtain ⟨G1, r1, r2, r3, r4⟩ := l_lg1 (f := f) (sg := -1) (b := 243) (F := B) (by omega) hw hh ho he (.inl ⟨rfl, rfl⟩) hi hL (by omega) hC
      obtain ⟨G', k1, k2, k3, k4⟩ := ih (i + 1) fu G1 (T ++ [(rd, -1, B.getD i dFc)]) (by omega) (by omega) (he.ge hh ho r2) r3 (by rw [List.length_append, List.length_append, List.length_singleton] at *; omega) r4
      have e : T ++ [(rd, -1, B.getD i dFc)] ++ lgD rd (-1) (B.drop (i + 1)) A = T ++ lgD rd (-1) (B.getD i dFc :: B.drop (i + 1)) A := by
        rw [lgD_out c, List.append_assoc]
        rfl
      rw [e] at k1 k3 k4
      exact ⟨G', by rw [st, if_neg c, r1]; exact k1, r2.tr k2, k3, k4⟩
/-- what a round logs -/
def lgR (rd : Int) (A B : List pFc) : List pLg := lgD rd (-1) B A ++ lgD rd 1 A B
theorem l_304 {G : xG_} (hf : 3600 < f) (hw : wPg s) (hh : h < 4) (ho : o = 123 + 29 * h) (hsA : A.Pairwise fLt) (hsB : B.Pairwise fLt) (he : eLg G o s rd A B) (hL : rLg G o L) (hl : L.length + B.length + A.length ≤ 12000) (hC : ∀ p, p < 16 → G (o + 19) p = 0) :
    ∃ G', g304 f o G = some (((lgR rd A B).length : Int), G') ∧ fLg o G G' ∧ rLg G' o (L ++ lgR rd A B) ∧ rCh G' o s (lgR rd A B) := by
  have hlB := he.2.2.1.2.1
  obtain ⟨G', k1, k2, k3, k4⟩ := l_304_7 (f := f) (n0 := L.length) (rd := rd) (L := L) hf hw hh ho hsA hsB B.length 0 f G [] (by omega) (by omega) he (by rw [List.append_nil]; exact hL) (by rw [List.append_nil]; omega) (fun p hp => by
    rw [hC p hp]
    exact ⟨⟨fun q => absurd q (by decide), fun ⟨x, x1, _⟩ => by cases x1⟩, .inl rfl⟩)
  rw [List.drop_zero, List.nil_append] at k1 k3 k4
  refine ⟨G', ?_, k2, k3, k4⟩
  have z : ((L ++ lgR rd A B).length : Int) - (L.length : Int) = ((lgR rd A B).length : Int) := by rw [List.length_append]; omega
  have z2 : (lgR rd A B).length ≤ 12000 := by
    unfold lgR
    rw [List.length_append]
    have := lgD_len (rd := rd) (sg := -1) (A := B) (B := A)
    have := lgD_len (rd := rd) (sg := 1) (A := A) (B := B)
    omega
  have k1' : g304_7 f f o (L.length : Int) (0 : Nat) G = some (xwr (((L ++ lgR rd A B).length : Int) - (L.length : Int)), G') := k1
  rw [z, xwr_g _ (by omega) (by omega)] at k1'
  rw [← k1']
  unfold g304
  rw [hL.1]
  rfl
end
