/-! The reference tells a round's edits -/
theorem tk_mem {α : Type} {d : α} {l : List α} {i : Nat} (hi : i < l.length) (y : α) : y ∈ l.take (i + 1) ↔ y ∈ l.take i ∨ y = l.getD i d := by
  rw [List.take_succ_eq_append_getElem hi, List.mem_append, List.mem_singleton, getD_e hi]
theorem tk_get {α : Type} {d : α} {l : List α} {i : Nat} {y : α} (h : y ∈ l.take i) : ∃ a, a < i ∧ a < l.length ∧ l.getD a d = y := by
  obtain ⟨a, ha, rfl⟩ := List.getElem_of_mem h
  rw [List.length_take] at ha
  refine ⟨a, by omega, by omega, ?_⟩
  rw [getD_e (by omega), List.getElem_take]
section
variable {f o h p : Nat} {s : pPg} {A B : List pFc}
def edD (A B : List pFc) (i j : Nat) (sg : Int) (y : pFc) : Prop := sg = 0 ∧ y ∈ B.take i ∨ sg = 1 ∧ y ∈ A.take j
def eEd (G : xG_) (s : pPg) (A B : List pFc) : Prop := rNs G 2 s.1 ∧ rPn G 2 s ∧ rFa G 243 B ∧ rFa G 247 A
theorem eEd.ge {G G' : xG_} (hh : h < 4) (ho : o = 123 + 29 * h) (e : eEd G s A B) (fr : fEd o G G') : eEd G' s A B := by
  obtain ⟨e1, e2, e3, e4⟩ := e
  exact ⟨⟨by rw [fr _ _ (by omega) (by omega)]; exact e1.1, e1.2.1, fun k hk => by rw [fr _ _ (by omega) (by omega)]; exact e1.2.2 k hk⟩, fun y hy => by rw [fr _ _ (by omega) (by omega)]; exact e2 y hy, e3.ge (fr _ _ (by omega) (by omega)) (fun a j _ _ => fr _ _ (by omega) (by omega)), e4.ge (fr _ _ (by omega) (by omega)) (fun a j _ _ => fr _ _ (by omega) (by omega))⟩
/-- one edit more, or none -/
theorem l_ed1 {G : xG_} {sg : Int} {b i : Nat} {F : List pFc} {E : List pEd} {D D' : Int → pFc → Prop} (hf : 40 < f) (hok : qOk s) (hh : h < 4) (ho : o = 123 + 29 * h) (he : eEd G s A B) (hAB : B.length + A.length < 3400) (hbF : b = 243 ∧ F = B ∨ b = 247 ∧ F = A) (hi : i < F.length) (hp : p < s.1.length) (hout : pOu s.2.2.1 (p : Int) = true) (hE : rEd G o E) (hI : edI s A B p D E) (hD : ∀ g y, D' g y ↔ D g y ∨ g = sg ∧ y = F.getD i dFc) (hq : edQ A B sg (F.getD i dFc)) (hlt : ∀ g y, edQ A B g y → D g y → fLt y (F.getD i dFc)) :
    ∃ G' E', g307 f o (p : Int) sg b (i : Int) G = some G' ∧ fEd o G G' ∧ rEd G' o E' ∧ edI s A B p D' E' := by
  have hF : rFa G b F := by
    rcases hbF with ⟨rfl, rfl⟩ | ⟨rfl, rfl⟩
    · exact he.2.2.1
    · exact he.2.2.2
  have hl := hI.len hok
  obtain ⟨G', k1, k2, k3, k4⟩ := l_307 (sg := sg) hf hok.1 hh ho (by rcases hbF with h | h <;> omega) he.1 he.2.1 hp hF hi hE (by omega)
  by_cases c : ofP s (F.getD i dFc) p
  · exact ⟨G', _, k1, k2, k3 c, hI.add hD c hout hq hlt⟩
  · exact ⟨G', _, k1, k2, k4 c, hI.not hD c⟩
theorem l_306_33 {r2 : Nat → Int → xG_ → Option xG_} (hf : 40 < f) (hok : qOk s) (hh : h < 4) (ho : o = 123 + 29 * h) (hp : p < s.1.length) (hout : pOu s.2.2.1 (p : Int) = true) (hsA : A.Pairwise fLt) (hsB : B.Pairwise fLt) (hAB : B.length + A.length < 3400) : ∀ (d i j fu : Nat) (G : xG_) (E : List pEd), i ≤ B.length → j ≤ A.length → B.length + A.length ≤ i + j + d → d < fu → eEd G s A B → rEd G o E → edI s A B p (edD A B i j) E → (∀ a b, a < i → j ≤ b → b < A.length → fLt (B.getD a dFc) (A.getD b dFc)) → (∀ a b, b < j → i ≤ a → a < B.length → fLt (A.getD b dFc) (B.getD a dFc)) →
    ∃ G' E', g306_33 r2 f fu o (p : Int) (i : Int) (j : Int) G = r2 o ((p + 1 : Nat) : Int) G' ∧ fEd o G G' ∧ rEd G' o E' ∧ edI s A B p (edD A B B.length A.length) E' := by
  have hnp := hok.1.1
  have ep : xwr ((p : Int) + 1) = ((p + 1 : Nat) : Int) := by rw [xwr_g _ (by omega) (by omega)]; omega
  -- the end
  have fin : ∀ (fu : Nat) (G : xG_) (E : List pEd), eEd G s A B → rEd G o E → edI s A B p (edD A B B.length A.length) E → ∃ G' E', g306_33 r2 f (fu + 1) o (p : Int) (B.length : Int) (A.length : Int) G = r2 o ((p + 1 : Nat) : Int) G' ∧ fEd o G G' ∧ rEd G' o E' ∧ edI s A B p (edD A B B.length A.length) E' := by
    intro fu G E he hE hI
    refine ⟨G, E, ?_, fun _ _ _ _ => rfl, hE, hI⟩
    show g306_33b r2 (g306_33 r2 f fu) f _ _ _ _ _ = _
    unfold g306_33b g306_217
    rw [he.2.2.1.1, if_neg (by omega), he.2.2.2.1, if_pos (by omega), ep]
  intro d
  induction d with
  | zero =>
    intro i j fu G E hi hj h1 h2 he hE hI _ _
    obtain ⟨fu, rfl⟩ : ∃ t, fu = t + 1 := ⟨fu - 1, by omega⟩
    have : i = B.length := by omega
    subst this
    have : j = A.length := by omega
    subst this
    exact fin fu G E he hE hI
  | succ d ih =>
    intro i j fu G E hi hj h1 h2 he hE hI hI1 hI2
    obtain ⟨fu, rfl⟩ : ∃ t, fu = t + 1 := ⟨fu - 1, by omega⟩
    by_cases cend : i = B.length ∧ j = A.length
    · obtain ⟨rfl, rfl⟩ := cend
      exact fin fu G E he hE hI
    have hB := he.2.2.1
    have hA := he.2.2.2
    -- which is the less
    have st : ∃ c : Int, g306_33 r2 f (fu + 1) o (p : Int) (i : Int) (j : Int) G = g306_149 r2 (g306_33 r2 f fu) f o (p : Int) (i : Int) (j : Int) c G ∧ ((c < 0 ∧ i < B.length ∧ (∀ b, j ≤ b → b < A.length → fLt (B.getD i dFc) (A.getD b dFc))) ∨ (0 < c ∧ j < A.length ∧ (∀ a, i ≤ a → a < B.length → fLt (A.getD j dFc) (B.getD a dFc))) ∨ (c = 0 ∧ i < B.length ∧ j < A.length ∧ B.getD i dFc = A.getD j dFc)) := by
      have e0 : g306_33 r2 f (fu + 1) o (p : Int) (i : Int) (j : Int) G = g306_56 r2 (g306_33 r2 f fu) f o (p : Int) (i : Int) (j : Int) G := by
        show g306_33b r2 (g306_33 r2 f fu) f _ _ _ _ _ = _
        unfold g306_33b
        rw [hB.1, hA.1]
        by_cases c1 : i < B.length
        · rw [if_pos (by omega)]
        · rw [if_neg (by omega), if_neg (by omega)]
      by_cases c1 : i < B.length
      · by_cases c2 : j < A.length
        · refine ⟨fCmp (B.getD i dFc) (A.getD j dFc), ?_, ?_⟩
          · have hlB := hB.2.1
            have hlA := hA.2.1
            have e1 : xwr (4 * (i : Int)) = ((4 * i : Nat) : Int) := by rw [xwr_g _ (by omega) (by omega)]; omega
            have e2 : xwr (4 * (j : Int)) = ((4 * j : Nat) : Int) := by rw [xwr_g _ (by omega) (by omega)]; omega
            have hii : 0 ≤ (i : Int) ∧ (i : Int) < 3400 := by omega
            have hjj : 0 ≤ (j : Int) ∧ (j : Int) < 3400 := by omega
            obtain ⟨q1, q2, q3, q4⟩ := hB.2.2 i c1
            obtain ⟨u1, u2, u3, u4⟩ := hA.2.2 j c2
            have n1 : ¬ (i : Int) = (B.length : Int) := by omega
            have n2 : ¬ (j : Int) = (A.length : Int) := by omega
            rw [e0]
            unfold g306_56
            rw [hB.1, hA.1, if_pos n1, if_pos n2, if_pos hii, if_pos hii, if_pos hjj, if_pos hjj, Int.toNat_natCast, Int.toNat_natCast, q1, q2, u1, u2, e1, e2, l_195 (by omega) (hB.ve (by unfold isFb; omega) c1) (hA.ve (by unfold isFb; omega) c2), Option.bind_some]
          · by_cases k1 : fCmp (B.getD i dFc) (A.getD j dFc) < 0
            · refine .inl ⟨k1, c1, fun b b1 b2 => ?_⟩
              by_cases cb : b = j
              · rw [cb]; exact k1
              · exact fLt_tr k1 (srt_get hsA (by omega) b2)
            · by_cases k2 : fCmp (B.getD i dFc) (A.getD j dFc) = 0
              · exact .inr (.inr ⟨k2, c1, c2, fCmp_eq k2⟩)
              · have k3 : fLt (A.getD j dFc) (B.getD i dFc) := by
                  unfold fLt
                  rw [fCmp_anti]
                  omega
                refine .inr (.inl ⟨by omega, c2, fun a a1 a2 => ?_⟩)
                by_cases ca : a = i
                · rw [ca]; exact k3
                · exact fLt_tr k3 (srt_get hsB (by omega) a2)
        · refine ⟨-1, ?_, .inl ⟨by decide, c1, fun b b1 b2 => absurd b2 (by omega)⟩⟩
          have n1 : ¬ (i : Int) = (B.length : Int) := by omega
          have n2 : ¬ ¬ (j : Int) = (A.length : Int) := fun q => q (by omega)
          rw [e0]
          unfold g306_56
          rw [hB.1, hA.1, if_pos n1, if_neg n2]
      · refine ⟨1, ?_, .inr (.inl ⟨by decide, by omega, fun a a1 a2 => absurd a2 (by omega)⟩)⟩
        have n1 : ¬ ¬ (i : Int) = (B.length : Int) := fun q => q (by omega)
        rw [e0]
        unfold g306_56
        rw [hB.1, if_neg n1]
    obtain ⟨c, st, cc⟩ := st
    have ei : xwr ((i : Int) + 1) = ((i + 1 : Nat) : Int) := by have := hB.2.1; rw [xwr_g _ (by omega) (by omega)]; omega
    have ei0 : xwr ((i : Int) + 0) = (i : Int) := by have := hB.2.1; rw [xwr_g _ (by omega) (by omega)]; omega
    have ej : xwr ((j : Int) + 1) = ((j + 1 : Nat) : Int) := by have := hA.2.1; rw [xwr_g _ (by omega) (by omega)]; omega
    have ej0 : xwr ((j : Int) + 0) = (j : Int) := by have := hA.2.1; rw [xwr_g _ (by omega) (by omega)]; omega
    rcases cc with ⟨c0, c1, c2⟩ | ⟨c0, c1, c2⟩ | ⟨c0, c1, c2, c3⟩
    · -- one has gone
      have nin : B.getD i dFc ∉ A := fun q => by
        obtain ⟨b, hb, hb'⟩ := List.getElem_of_mem q
        have e : A.getD b dFc = B.getD i dFc := by rw [getD_e hb]; exact hb'
        by_cases cb : b < j
        · have := hI2 i b cb (by omega) c1
          rw [e] at this
          exact fLt_irr _ this
        · have := c2 b (by omega) hb
          rw [e] at this
          exact fLt_irr _ this
      obtain ⟨G1, E1, r1, r2', r3, r4⟩ := l_ed1 (f := f) (sg := 0) (b := 243) (F := B) (D' := edD A B (i + 1) j) hf hok hh ho he hAB (.inl ⟨rfl, rfl⟩) c1 hp hout hE hI (fun g y => by
        unfold edD
        rw [tk_mem (d := dFc) c1]
        constructor
        · rintro (⟨a, b | b⟩ | a)
          · exact .inl (.inl ⟨a, b⟩)
          · exact .inr ⟨a, b⟩
          · exact .inl (.inr a)
        · rintro ((⟨a, b⟩ | a) | ⟨a, b⟩)
          · exact .inl ⟨a, .inl b⟩
          · exact .inr a
          · exact .inl ⟨a, .inr b⟩) (.inl ⟨rfl, by rw [getD_e c1]; exact List.getElem_mem c1, nin⟩) (fun g y _ hd => by
        rcases hd with ⟨_, hd⟩ | ⟨_, hd⟩
        · obtain ⟨a, a1, a2, rfl⟩ := tk_get (d := dFc) hd
          exact srt_get hsB a1 c1
        · obtain ⟨a, a1, a2, rfl⟩ := tk_get (d := dFc) hd
          exact hI2 i a a1 (by omega) c1)
      obtain ⟨G', E', k1, k2, k3, k4⟩ := ih (i + 1) j fu G1 E1 (by omega) hj (by omega) (by omega) (he.ge hh ho r2') r3 r4 (fun a b a1 b1 b2 => by
        by_cases ca : a = i
        · rw [ca]; exact c2 b b1 b2
        · exact hI1 a b (by omega) b1 b2) (fun a b b1 a1 a2 => hI2 a b b1 (by omega) a2)
      refine ⟨G', E', ?_, r2'.tr k2, k3, k4⟩
      rw [← k1, st]
      unfold g306_149
      rw [if_neg (by omega), r1, Option.bind_some]
      unfold g306_168 g306_186 g306_197 g306_211
      rw [if_pos (by omega), if_neg (by omega), if_pos c0, ei, ej0]
    · -- one has come
      have nin : A.getD j dFc ∉ B := fun q => by
        obtain ⟨b, hb, hb'⟩ := List.getElem_of_mem q
        have e : B.getD b dFc = A.getD j dFc := by rw [getD_e hb]; exact hb'
        by_cases cb : b < i
        · have := hI1 b j cb (by omega) c1
          rw [e] at this
          exact fLt_irr _ this
        · have := c2 b (by omega) hb
          rw [e] at this
          exact fLt_irr _ this
      obtain ⟨G1, E1, r1, r2', r3, r4⟩ := l_ed1 (f := f) (sg := 1) (b := 247) (F := A) (D' := edD A B i (j + 1)) hf hok hh ho he hAB (.inr ⟨rfl, rfl⟩) c1 hp hout hE hI (fun g y => by
        unfold edD
        rw [tk_mem (d := dFc) c1]
        constructor
        · rintro (a | ⟨a, b | b⟩)
          · exact .inl (.inl a)
          · exact .inl (.inr ⟨a, b⟩)
          · exact .inr ⟨a, b⟩
        · rintro ((a | ⟨a, b⟩) | ⟨a, b⟩)
          · exact .inl a
          · exact .inr ⟨a, .inl b⟩
          · exact .inr ⟨a, .inr b⟩) (.inr ⟨rfl, by rw [getD_e c1]; exact List.getElem_mem c1, nin⟩) (fun g y _ hd => by
        rcases hd with ⟨_, hd⟩ | ⟨_, hd⟩
        · obtain ⟨a, a1, a2, rfl⟩ := tk_get (d := dFc) hd
          exact hI1 a j a1 (by omega) c1
        · obtain ⟨a, a1, a2, rfl⟩ := tk_get (d := dFc) hd
          exact srt_get hsA a1 c1)
      obtain ⟨G', E', k1, k2, k3, k4⟩ := ih i (j + 1) fu G1 E1 hi (by omega) (by omega) (by omega) (he.ge hh ho r2') r3 r4 (fun a b a1 b1 b2 => hI1 a b a1 (by omega) b2) (fun a b b1 a1 a2 => by
        by_cases cb : b = j
        · rw [cb]; exact c2 a a1 a2
        · exact hI2 a b (by omega) a1 a2)
      refine ⟨G', E', ?_, r2'.tr k2, k3, k4⟩
      rw [← k1, st]
      unfold g306_149 g306_168
      rw [if_pos (by omega), if_neg (by omega), r1, Option.bind_some]
      unfold g306_186 g306_197 g306_211
      rw [if_pos (by omega), if_neg (by omega), ei0, ej]
    · -- both have it
      obtain ⟨G', E', k1, k2, k3, k4⟩ := ih (i + 1) (j + 1) fu G E (by omega) (by omega) (by omega) (by omega) he hE (hI.skip (fun g y hq => by
        unfold edD
        rw [tk_mem (d := dFc) c1, tk_mem (d := dFc) c2]
        have mA : A.getD j dFc ∈ A := by rw [getD_e c2]; exact List.getElem_mem c2
        have mB : B.getD i dFc ∈ B := by rw [getD_e c1]; exact List.getElem_mem c1
        constructor
        · rintro (⟨a, b | b⟩ | ⟨a, b | b⟩)
          · exact .inl ⟨a, b⟩
          · rcases hq with ⟨q1, q2, q3⟩ | ⟨q1, q2, q3⟩
            · exact absurd (by rw [b, c3]; exact mA) q3
            · omega
          · exact .inr ⟨a, b⟩
          · rcases hq with ⟨q1, q2, q3⟩ | ⟨q1, q2, q3⟩
            · omega
            · exact absurd (by rw [b, ← c3]; exact mB) q3
        · rintro (⟨a, b⟩ | ⟨a, b⟩)
          · exact .inl ⟨a, .inl b⟩
          · exact .inr ⟨a, .inl b⟩)) (fun a b a1 b1 b2 => by
        by_cases ca : a = i
        · rw [ca, c3]; exact srt_get hsA (by omega) b2
        · exact hI1 a b (by omega) (by omega) b2) (fun a b b1 a1 a2 => by
        by_cases cb : b = j
        · rw [cb, ← c3]; exact srt_get hsB (by omega) a2
        · exact hI2 a b (by omega) (by omega) a2)
      refine ⟨G', E', ?_, k2, k3, k4⟩
      rw [← k1, st]
      unfold g306_149 g306_168 g306_186 g306_197 g306_211
      rw [if_pos (by omega), if_pos (by omega), if_neg (by omega), if_neg (by omega), ei, ej]
theorem l_306_2 (hf : 7000 < f) (hok : qOk s) (hh : h < 4) (ho : o = 123 + 29 * h) (hsA : A.Pairwise fLt) (hsB : B.Pairwise fLt) (hAB : B.length + A.length < 3400) : ∀ (d p fu : Nat) (G : xG_) (E : List pEd), p + d = s.1.length → d < fu → eEd G s A B → (∀ p, p < 16 → G 9 p = b01 (pOu s.2.2.1 (p : Int))) → rEd G o E → edI s A B p (fun _ _ => False) E →
    ∃ G' E', g306_2 f fu o (p : Int) G = some G' ∧ fEd o G G' ∧ rEd G' o E' ∧ qEd s A B E' := by
  have hnp := hok.1.1
  intro d
  induction d with
  | zero =>
    intro p fu G E h1 h2 he h9 hE hI
    obtain ⟨fu, rfl⟩ : ∃ t, fu = t + 1 := ⟨fu - 1, by omega⟩
    refine ⟨G, E, ?_, fun _ _ _ _ => rfl, hE, hI.1, fun e => ?_⟩
    · show g306_2b (g306_2 f fu) f _ _ _ = _
      unfold g306_2b
      rw [he.1.1, if_pos (by omega)]
    · rw [hI.2 e]
      exact ⟨fun ⟨a1, a2, a3, a4, _⟩ => ⟨a1, a2, a3, a4⟩, fun ⟨a1, a2, a3, a4⟩ => ⟨a1, a2, a3, a4, .inl (by omega)⟩⟩
  | succ d ih =>
    intro p fu G E h1 h2 he h9 hE hI
    obtain ⟨fu, rfl⟩ : ∃ t, fu = t + 1 := ⟨fu - 1, by omega⟩
    have hp : p < s.1.length := by omega
    have hpp : 0 ≤ (p : Int) ∧ (p : Int) < 16 := by omega
    have e : xwr ((p : Int) + 1) = ((p + 1 : Nat) : Int) := by rw [xwr_g _ (by omega) (by omega)]; omega
    by_cases c : pOu s.2.2.1 (p : Int) = true
    · obtain ⟨G1, E1, r1, r2, r3, r4⟩ := l_306_33 (f := f) (r2 := g306_2 f fu) (by omega) hok hh ho hp c hsA hsB hAB (B.length + A.length) 0 0 f G E (by omega) (by omega) (by omega) (by omega) he hE (hI.skip (fun g y _ => by
        unfold edD
        rw [List.take_zero, List.take_zero]
        constructor
        · rintro (⟨_, q⟩ | ⟨_, q⟩) <;> cases q
        · exact False.elim)) (fun a b a1 _ _ => absurd a1 (by omega)) (fun a b b1 _ _ => absurd b1 (by omega))
      obtain ⟨G', E', k1, k2, k3, k4⟩ := ih (p + 1) fu G1 E1 (by omega) (by omega) (he.ge hh ho r2) (fun x hx => by rw [r2 _ _ (by omega) (by omega)]; exact h9 x hx) r3 ⟨r4.1, fun e => by
        rw [r4.2 e]
        constructor
        · rintro ⟨a1, a2, a3, a4, a5 | a5⟩
          · exact ⟨a1, a2, a3, a4, .inl (by omega)⟩
          · exact ⟨a1, a2, a3, a4, .inl (by omega)⟩
        · rintro ⟨a1, a2, a3, a4, a5 | a5⟩
          · refine ⟨a1, a2, a3, a4, ?_⟩
            by_cases ce : e.1 = p
            · refine .inr ⟨ce, ?_⟩
              unfold edD
              rw [List.take_length, List.take_length]
              rcases a4 with ⟨x1, x2, _⟩ | ⟨x1, x2, _⟩
              · exact .inl ⟨x1, x2⟩
              · exact .inr ⟨x1, x2⟩
            · exact .inl (by omega)
          · exact a5.2.elim⟩
      refine ⟨G', E', ?_, r2.tr k2, k3, k4⟩
      rw [← k1, ← r1]
      have n1 : ¬ b01 (pOu s.2.2.1 (p : Int)) = 0 := by rw [c]; decide
      show g306_2b (g306_2 f fu) f _ _ _ = _
      unfold g306_2b
      simp only [Nat.reduceAdd]
      rw [he.1.1, if_neg (by omega), if_pos hpp, Int.toNat_natCast, h9 p (by omega), if_pos n1]
      rfl
    · have c' : pOu s.2.2.1 (p : Int) = false := Bool.eq_false_iff.mpr c
      obtain ⟨G', E', k1, k2, k3, k4⟩ := ih (p + 1) fu G E (by omega) (by omega) he h9 hE ⟨hI.1, fun e => by
        rw [hI.2 e]
        constructor
        · rintro ⟨a1, a2, a3, a4, a5 | a5⟩
          · exact ⟨a1, a2, a3, a4, .inl (by omega)⟩
          · exact a5.2.elim
        · rintro ⟨a1, a2, a3, a4, a5 | a5⟩
          · refine ⟨a1, a2, a3, a4, .inl ?_⟩
            have : e.1 ≠ p := fun q => by rw [q, c'] at a2; cases a2
            omega
          · exact a5.2.elim⟩
      refine ⟨G', E', ?_, k2, k3, k4⟩
      rw [← k1]
      have n1 : ¬ ¬ b01 (pOu s.2.2.1 (p : Int)) = 0 := fun q => q (by rw [c']; decide)
      show g306_2b (g306_2 f fu) f _ _ _ = _
      unfold g306_2b g306_217
      simp only [Nat.reduceAdd]
      rw [he.1.1, if_neg (by omega), if_pos hpp, Int.toNat_natCast, h9 p (by omega), if_neg n1, e]
/-- tellEdits -/
theorem l_306 {G : xG_} {q c : Nat} (hf : 7000 < f) (hok : qOk s) (hh : h < 4) (ho : o = 123 + 29 * h) (hP : rPr G 2 q c s) (hPn : rPn G 2 s) (hA : rFa G 247 A) (hB : rFa G 243 B) (hsA : A.Pairwise fLt) (hsB : B.Pairwise fLt) (hAB : B.length + A.length < 3400) (h0 : G o 27 = 0) :
    ∃ G' E', g306 f o G = some G' ∧ fEd o G G' ∧ rEd G' o E' ∧ qEd s A B E' := by
  have hnp := hok.1.1
  exact l_306_2 (f := f) hf hok hh ho hsA hsB hAB s.1.length 0 f G [] (by omega) (by omega) ⟨hP.1, hPn, hB, hA⟩ (fun p hp => (hP.2.2.2.1 p hp).2.2.1) ⟨h0, by decide, fun i hi => absurd hi (Nat.not_lt_zero i)⟩ ⟨List.Pairwise.nil, fun e => ⟨fun q => (by cases q), fun ⟨_, _, _, _, q⟩ => q.elim (fun q => absurd q (Nat.not_lt_zero _)) (fun q => q.2.elim)⟩⟩
end
