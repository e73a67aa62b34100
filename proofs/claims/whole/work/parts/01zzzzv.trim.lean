/-! The reference forgets its oldest rounds: trim, forget, forgetRound -/
/-- so much may be kept -/
def tmOk (L : List pLg) (C : List pCg) (E : List pEg) (x : Int) : Prop := (lgK x L).length ≤ 8000 ∧ (lgK x C).length ≤ 100 ∧ (lgK x E).length ≤ 7
def tmIs (L : List pLg) (C : List pCg) (E : List pEg) (old x : Int) : Prop := old ≤ x ∧ tmOk L C E x ∧ ∀ y, old ≤ y → y < x → ¬ tmOk L C E y
/-- the logs of a line -/
def rHi (G : xG_) (o : Nat) (L : List pLg) (C : List pCg) (E : List pEg) : Prop := rLg G o L ∧ rCg G o C ∧ rEg G o E ∧ lgS L ∧ lgS C ∧ lgS E
theorem lgK_nil {α : Type} {x : Int} {l : List (Int × α)} (h : ∀ a ∈ l, a.1 ≤ x) : lgK x l = [] := by
  refine List.eq_nil_iff_forall_not_mem.mpr (fun a ha => ?_)
  obtain ⟨h1, h2⟩ := lgK_mem.mp ha
  have := h a h1
  omega
theorem getD_dr {α : Type} {l : List α} {d : α} {k i : Nat} : (l.drop k).getD i d = l.getD (i + k) d := by
  rw [List.getD_eq_getElem?_getD, List.getD_eq_getElem?_getD, List.getElem?_drop, Nat.add_comm k i]
section
variable {f o h : Nat} {L : List pLg} {C : List pCg} {E : List pEg}
theorem rLg.dr {G G' : xG_} {k : Nat} (h : rLg G o L) (hk : k ≤ L.length) (h0 : G' o 10 = ((L.length - k : Nat) : Int)) (s5 : shf G G' (o + 5) k (L.length - k)) (s6 : shf G G' (o + 6) k (L.length - k)) (s7 : shf G G' (o + 7) k (L.length - k)) (s8 : shf G G' (o + 8) k (L.length - k)) (s9 : shf G G' (o + 9) (4 * k) (4 * (L.length - k))) : rLg G' o (L.drop k) := by
  obtain ⟨a1, a2, a3⟩ := h
  refine ⟨by rw [List.length_drop]; exact h0, by rw [List.length_drop]; omega, fun i hi => ?_⟩
  rw [List.length_drop] at hi
  obtain ⟨b1, b2, b3, b4, b5, b6⟩ := a3 (i + k) (by omega)
  rw [getD_dr]
  refine ⟨by rw [s5 i, if_pos hi]; exact b1, by rw [s6 i, if_pos hi]; exact b2, by rw [s8 i, if_pos hi]; exact b3, by rw [s7 i, if_pos hi]; exact b4, b5, fun j hj => ?_⟩
  rw [s9 (4 * i + j), if_pos (by omega), ← b6 j hj]
  exact congrArg _ (by omega)
theorem rCg.dr {G G' : xG_} {k : Nat} (h : rCg G o C) (hk : k ≤ C.length) (h0 : G' o 16 = ((C.length - k : Nat) : Int)) (s5 : shf G G' (o + 10) k (C.length - k)) (s6 : shf G G' (o + 11) k (C.length - k)) (s7 : shf G G' (o + 12) k (C.length - k)) : rCg G' o (C.drop k) := by
  obtain ⟨a1, a2, a3⟩ := h
  refine ⟨by rw [List.length_drop]; exact h0, by rw [List.length_drop]; omega, fun i hi => ?_⟩
  rw [List.length_drop] at hi
  obtain ⟨b1, b2, b3⟩ := a3 (i + k) (by omega)
  rw [getD_dr]
  exact ⟨by rw [s5 i, if_pos hi]; exact b1, by rw [s6 i, if_pos hi]; exact b2, by rw [s7 i, if_pos hi]; exact b3⟩
theorem rEg.dr {G G' : xG_} {k : Nat} (h : rEg G o E) (hk : k ≤ E.length) (h0 : G' o 17 = ((E.length - k : Nat) : Int)) (s5 : shf G G' (o + 13) k (E.length - k)) (s6 : shf G G' (o + 14) k (E.length - k)) : rEg G' o (E.drop k) := by
  obtain ⟨a1, a2, a3⟩ := h
  refine ⟨by rw [List.length_drop]; exact h0, by rw [List.length_drop]; omega, fun i hi => ?_⟩
  rw [List.length_drop] at hi
  obtain ⟨b1, b2⟩ := a3 (i + k) (by omega)
  rw [getD_dr]
  exact ⟨by rw [s5 i, if_pos hi]; exact b1, by rw [s6 i, if_pos hi]; exact b2⟩
theorem bh5 {G : xG_} {x : Int} (hf : 12100 < f) (hh : h < 4) (ho : o = 123 + 29 * h) (hL : rLg G o L) (hs : lgS L) : g309 f (o + 5) (G o 10) x G = some (((lgK x L).length : Int), G) := by
  have := hL.2.1
  rw [hL.1]
  exact l_309 (d := dLg) (by omega) hs (by rw [(len5 hh ho).1]; omega) (by omega) (fun i hi => (hL.2.2 i hi).1)
theorem bh10 {G : xG_} {x : Int} (hf : 12100 < f) (hh : h < 4) (ho : o = 123 + 29 * h) (hL : rCg G o C) (hs : lgS C) : g309 f (o + 10) (G o 16) x G = some (((lgK x C).length : Int), G) := by
  have := hL.2.1
  rw [hL.1]
  exact l_309 (d := (0, 0, 0)) (by omega) hs (by rw [(len5 hh ho).2.1]; omega) (by omega) (fun i hi => (hL.2.2 i hi).1)
theorem bh13 {G : xG_} {x : Int} (hf : 12100 < f) (hh : h < 4) (ho : o = 123 + 29 * h) (hL : rEg G o E) (hs : lgS E) : g309 f (o + 13) (G o 17) x G = some (((lgK x E).length : Int), G) := by
  have := hL.2.1
  rw [hL.1]
  exact l_309 (d := (0, 0)) (by omega) hs (by rw [(len5 hh ho).2.2]; omega) (by omega) (fun i hi => (hL.2.2 i hi).1)
def fTm (o : Nat) (G G' : xG_) : Prop := ∀ a j, ¬ (a = o ∧ (j = 3 ∨ j = 10 ∨ j = 16 ∨ j = 17)) → ¬ (o + 5 ≤ a ∧ a ≤ o + 14) → G' a j = G a j
theorem lgK_cut {α : Type} {d : Int × α} {x : Int} {l : List (Int × α)} (hs : lgS l) : ∃ k, k ≤ l.length ∧ lgK x l = l.drop k ∧ (lgK x l).length = l.length - k := by
  obtain ⟨k, k1, k2, _⟩ := lg_cut (d := d) (x := x) l hs
  exact ⟨k, k1, k2, by rw [k2, List.length_drop]⟩
theorem l_308_338' {x : Int} {G : xG_} (hf : 12100 < f) (hh : h < 4) (ho : o = 123 + 29 * h) (h3 : G o 3 = x) (hE : rEg G o E) (hs : lgS E) :
    ∃ G', ((g309 f (o + 13) (G o 17) (G o 3) G).bind fun R126 => ((some (xup2 R126.2 o 17 (xwr ((R126.2 o 17) - (xwr ((G o 17) - (R126.1))))))).bind fun G134 => g308_338 f f o (xwr ((G o 17) - (R126.1))) 0 G134)) = some G' ∧ rEg G' o (lgK x E) ∧ ∀ a j, ¬ (a = o ∧ j = 17) → ¬ (o + 13 ≤ a ∧ a ≤ o + 14) → G' a j = G a j := by
  have hl := hE.2.1
  obtain ⟨k, k1, k2, k3⟩ := lgK_cut (d := (0, 0)) (x := x) hs
  rw [h3, bh13 hf hh ho hE hs, Option.bind_some]
  have e1 : xwr ((E.length : Int) - ((lgK x E).length : Int)) = (k : Int) := by rw [xwr_g _ (by omega) (by omega)]; omega
  have e2 : xwr ((E.length : Int) - (k : Int)) = ((E.length - k : Nat) : Int) := by rw [xwr_g _ (by omega) (by omega)]; omega
  show ∃ G', (Option.bind (some (xup2 G o 17 (xwr ((G o 17) - (xwr ((G o 17) - ((lgK x E).length : Int))))))) fun G134 => g308_338 f f o (xwr ((G o 17) - ((lgK x E).length : Int))) 0 G134) = some G' ∧ _
  rw [hE.1, e1, e2, Option.bind_some]
  obtain ⟨G', j1, j2, j3, j4⟩ := l_308_338 (f := f) (o := o) (g := k) (n := E.length - k) (by omega) (G0 := G) (E.length - k) 0 f (xup2 G o 17 ((E.length - k : Nat) : Int)) (by omega) (by omega) (xup2_s _ _ _ _) (shf.z fun t => xup2_n (by omega)) (shf.z fun t => xup2_n (by omega))
  refine ⟨G', j1, ?_, fun a j y1 y2 => by rw [j4 a j y2, xup2_n y1]⟩
  rw [k2]
  exact hE.dr k1 (by rw [j4 _ _ (by omega)]; exact xup2_s _ _ _ _) j2 j3
theorem l_308_249' {x : Int} {G : xG_} (hf : 12100 < f) (hh : h < 4) (ho : o = 123 + 29 * h) (h3 : G o 3 = x) (hC : rCg G o C) (hsC : lgS C) (hE : rEg G o E) (hs : lgS E) :
    ∃ G', ((g309 f (o + 10) (G o 16) (G o 3) G).bind fun R154 => ((some (xup2 R154.2 o 16 (xwr ((R154.2 o 16) - (xwr ((G o 16) - (R154.1))))))).bind fun G162 => g308_249 f f o (xwr ((G o 16) - (R154.1))) 0 G162)) = some G' ∧ rCg G' o (lgK x C) ∧ rEg G' o (lgK x E) ∧ ∀ a j, ¬ (a = o ∧ (j = 16 ∨ j = 17)) → ¬ (o + 10 ≤ a ∧ a ≤ o + 14) → G' a j = G a j := by
  have hl := hC.2.1
  obtain ⟨k, k1, k2, k3⟩ := lgK_cut (d := (0, 0, 0)) (x := x) hsC
  have e1 : xwr ((C.length : Int) - ((lgK x C).length : Int)) = (k : Int) := by rw [xwr_g _ (by omega) (by omega)]; omega
  have e2 : xwr ((C.length : Int) - (k : Int)) = ((C.length - k : Nat) : Int) := by rw [xwr_g _ (by omega) (by omega)]; omega
  obtain ⟨G1, fu, j1, j2, j3, j4, j5⟩ := l_308_249 (f := f) (o := o) (g := k) (n := C.length - k) (by omega) (G0 := G) (C.length - k) 0 f (xup2 G o 16 ((C.length - k : Nat) : Int)) (by omega) (by omega) (xup2_s _ _ _ _) (shf.z fun t => xup2_n (by omega)) (shf.z fun t => xup2_n (by omega)) (shf.z fun t => xup2_n (by omega))
  have fr : ∀ a j, ¬ (a = o ∧ j = 16) → ¬ (o + 10 ≤ a ∧ a ≤ o + 12) → G1 a j = G a j := fun a j y1 y2 => by rw [j5 a j y2, xup2_n y1]
  have h16 : G1 o 16 = ((C.length - k : Nat) : Int) := by rw [j5 _ _ (by omega)]; exact xup2_s _ _ _ _
  have hC1 : rCg G1 o (lgK x C) := by rw [k2]; exact hC.dr k1 h16 j2 j3 j4
  obtain ⟨G', r1, r2, r3⟩ := l_308_338' (f := f) (x := x) hf hh ho (by rw [fr _ _ (by omega) (by omega)]; exact h3) (hE.ge (fr _ _ (by omega) (by omega)) (fun a j _ _ => fr _ _ (by omega) (by omega))) hs
  refine ⟨G', ?_, hC1.ge (r3 _ _ (by omega) (by omega)) (fun a j _ _ => r3 _ _ (by omega) (by omega)), r2, fun a j y1 y2 => by rw [r3 a j (by omega) (by omega), fr a j (by omega) (by omega)]⟩
  rw [← r1, h3, bh10 hf hh ho hC hsC, Option.bind_some]
  show (Option.bind (some (xup2 G o 16 (xwr ((G o 16) - (xwr ((G o 16) - ((lgK x C).length : Int))))))) fun G162 => g308_249 f f o (xwr ((G o 16) - ((lgK x C).length : Int))) 0 G162) = _
  rw [hC.1, e1, e2, Option.bind_some]
  refine Eq.trans j1 ?_
  show g308_249b (g308_249 f fu) f _ _ _ _ = _
  unfold g308_249b
  rw [h16, if_pos (by omega)]
theorem l_308_107' {x : Int} {G : xG_} (hf : 12100 < f) (hh : h < 4) (ho : o = 123 + 29 * h) (h3 : G o 3 = x) (hH : rHi G o L C E) :
    ∃ G', ((g309 f (o + 5) (G o 10) (G o 3) G).bind fun R205 => ((some (xup2 R205.2 o 10 (xwr ((R205.2 o 10) - (xwr ((G o 10) - (R205.1))))))).bind fun G213 => g308_107 f f o (xwr ((G o 10) - (R205.1))) 0 G213)) = some G' ∧ rHi G' o (lgK x L) (lgK x C) (lgK x E) ∧ G' o 3 = x ∧ fTm o G G' := by
  obtain ⟨hL, hC, hE, hsL, hsC, hs⟩ := hH
  have hl := hL.2.1
  obtain ⟨k, k1, k2, k3⟩ := lgK_cut (d := dLg) (x := x) hsL
  have e1 : xwr ((L.length : Int) - ((lgK x L).length : Int)) = (k : Int) := by rw [xwr_g _ (by omega) (by omega)]; omega
  have e2 : xwr ((L.length : Int) - (k : Int)) = ((L.length - k : Nat) : Int) := by rw [xwr_g _ (by omega) (by omega)]; omega
  obtain ⟨G1, fu, j1, j2, j3, j4, j5, j6, j7⟩ := l_308_107 (f := f) (o := o) (g := k) (n := L.length - k) (by omega) (by omega) (G0 := G) (L.length - k) 0 f (xup2 G o 10 ((L.length - k : Nat) : Int)) (by omega) (by omega) (xup2_s _ _ _ _) (shf.z fun t => xup2_n (by omega)) (shf.z fun t => xup2_n (by omega)) (shf.z fun t => xup2_n (by omega)) (shf.z fun t => xup2_n (by omega)) (shf.z fun t => xup2_n (by omega))
  have fr : ∀ a j, ¬ (a = o ∧ j = 10) → ¬ (o + 5 ≤ a ∧ a ≤ o + 9) → G1 a j = G a j := fun a j y1 y2 => by rw [j7 a j y2, xup2_n y1]
  have h10 : G1 o 10 = ((L.length - k : Nat) : Int) := by rw [j7 _ _ (by omega)]; exact xup2_s _ _ _ _
  have hL1 : rLg G1 o (lgK x L) := by rw [k2]; exact hL.dr k1 h10 j2 j3 j4 j5 j6
  have h31 : G1 o 3 = x := by rw [fr _ _ (by omega) (by omega)]; exact h3
  obtain ⟨G', r1, r2, r3, r4⟩ := l_308_249' (f := f) (x := x) hf hh ho h31 (hC.ge (fr _ _ (by omega) (by omega)) (fun a j _ _ => fr _ _ (by omega) (by omega))) hsC (hE.ge (fr _ _ (by omega) (by omega)) (fun a j _ _ => fr _ _ (by omega) (by omega))) hs
  refine ⟨G', ?_, ⟨hL1.ge (r4 _ _ (by omega) (by omega)) (fun a j _ _ => r4 _ _ (by omega) (by omega)), r2, r3, lgK_s hsL, lgK_s hsC, lgK_s hs⟩, by rw [r4 _ _ (by omega) (by omega)]; exact h31, fun a j y1 y2 => by rw [r4 a j (by omega) (by omega), fr a j (by omega) (by omega)]⟩
  rw [← r1, h3, bh5 hf hh ho hL hsL, Option.bind_some]
  show (Option.bind (some (xup2 G o 10 (xwr ((G o 10) - (xwr ((G o 10) - ((lgK x L).length : Int))))))) fun G213 => g308_107 f f o (xwr ((G o 10) - ((lgK x L).length : Int))) 0 G213) = _
  rw [hL.1, e1, e2, Option.bind_some]
  refine Eq.trans j1 ?_
  show g308_107b (g308_107 f fu) f _ _ _ _ = _
  unfold g308_107b
  rw [h10, if_pos (by omega)]
/-- trim -/
theorem l_308_0 {rd : Int} (hf : 12100 < f) (hh : h < 4) (ho : o = 123 + 29 * h) (hrd : rd < 1000000) (hm : (∀ a ∈ L, a.1 ≤ rd) ∧ (∀ a ∈ C, a.1 ≤ rd) ∧ ∀ a ∈ E, a.1 ≤ rd) : ∀ (d fu : Nat) (G : xG_) (x : Int), x + d = rd → d < fu → 0 ≤ x → G o 3 = x → rHi G o L C E →
    ∃ G' y, g308_0 f fu o G = some G' ∧ tmIs L C E x y ∧ y ≤ rd ∧ rHi G' o (lgK y L) (lgK y C) (lgK y E) ∧ G' o 3 = y ∧ fTm o G G' := by
  intro d
  induction d with
  | zero =>
    intro fu G x h1 h2 h0 h3 hH
    obtain ⟨fu, rfl⟩ : ∃ t, fu = t + 1 := ⟨fu - 1, by omega⟩
    have ex : x = rd := by omega
    subst ex
    have ok : tmOk L C E x := by
      unfold tmOk
      rw [lgK_nil hm.1, lgK_nil hm.2.1, lgK_nil hm.2.2]
      exact ⟨by decide, by decide, by decide⟩
    obtain ⟨G', k1, k2, k3, k4⟩ := l_308_107' (f := f) hf hh ho h3 hH
    refine ⟨G', x, ?_, ⟨Int.le_refl _, ok, fun y y1 y2 => by omega⟩, Int.le_refl _, k2, k3, k4⟩
    rw [← k1]
    obtain ⟨hL, hC, hE, hsL, hsC, hs⟩ := hH
    have o1 := ok.1
    have o2 := ok.2.1
    have o3 := ok.2.2
    have n1 : ¬ (8000 : Int) < ((lgK x L).length : Int) := by omega
    have n2 : ¬ (100 : Int) < ((lgK x C).length : Int) := by omega
    have n3 : ((lgK x E).length : Int) ≤ 7 := by omega
    show g308_0b (g308_0 f fu) f _ _ = _
    unfold g308_0b
    rw [h3, bh5 hf hh ho hL hsL, Option.bind_some]
    simp only [h3, if_neg n1, bh10 hf hh ho hC hsC, Option.bind_some, if_neg n2, bh13 hf hh ho hE hs, if_pos n3, bh5 hf hh ho hL hsL]
  | succ d ih =>
    intro fu G x h1 h2 h0 h3 hH
    obtain ⟨fu, rfl⟩ : ∃ t, fu = t + 1 := ⟨fu - 1, by omega⟩
    have hH' := hH
    obtain ⟨hL, hC, hE, hsL, hsC, hs⟩ := hH
    by_cases ok : tmOk L C E x
    · obtain ⟨G', k1, k2, k3, k4⟩ := l_308_107' (f := f) hf hh ho h3 hH'
      refine ⟨G', x, ?_, ⟨Int.le_refl _, ok, fun y y1 y2 => by omega⟩, by omega, k2, k3, k4⟩
      rw [← k1]
      have o1 := ok.1
      have o2 := ok.2.1
      have o3 := ok.2.2
      have n1 : ¬ (8000 : Int) < ((lgK x L).length : Int) := by omega
      have n2 : ¬ (100 : Int) < ((lgK x C).length : Int) := by omega
      have n3 : ((lgK x E).length : Int) ≤ 7 := by omega
      show g308_0b (g308_0 f fu) f _ _ = _
      unfold g308_0b
      rw [h3, bh5 hf hh ho hL hsL, Option.bind_some]
      simp only [h3, if_neg n1, bh10 hf hh ho hC hsC, Option.bind_some, if_neg n2, bh13 hf hh ho hE hs, if_pos n3, bh5 hf hh ho hL hsL]
    · have e : xwr (x + 1) = x + 1 := xwr_g _ (by omega) (by omega)
      have fr : ∀ a j, ¬ (a = o ∧ j = 3) → xup2 G o 3 (x + 1) a j = G a j := fun a j y => xup2_n y
      have hH1 : rHi (xup2 G o 3 (x + 1)) o L C E := ⟨hL.ge (fr _ _ (by omega)) (fun a j _ _ => fr _ _ (by omega)), hC.ge (fr _ _ (by omega)) (fun a j _ _ => fr _ _ (by omega)), hE.ge (fr _ _ (by omega)) (fun a j _ _ => fr _ _ (by omega)), hsL, hsC, hs⟩
      obtain ⟨G', y, k1, k2, k3, k4, k5, k6⟩ := ih fu (xup2 G o 3 (x + 1)) (x + 1) (by omega) (by omega) (by omega) (xup2_s _ _ _ _) hH1
      refine ⟨G', y, ?_, ⟨by have := k2.1; omega, k2.2.1, fun z z1 z2 => ?_⟩, k3, k4, k5, fun a j y1 y2 => by rw [k6 a j y1 y2, xup2_n (by omega)]⟩
      · rw [← k1]
        show g308_0b (g308_0 f fu) f _ _ = _
        unfold g308_0b g308_61
        rw [h3, bh5 hf hh ho hL hsL, Option.bind_some]
        by_cases n1 : (8000 : Int) < ((lgK x L).length : Int)
        · simp only [h3, if_pos n1, e, Option.bind_some]
        · by_cases n2 : (100 : Int) < ((lgK x C).length : Int)
          · simp only [h3, if_neg n1, bh10 hf hh ho hC hsC, if_pos n2, e, Option.bind_some]
          · have n3 : ¬ ((lgK x E).length : Int) ≤ 7 := fun q => ok ⟨by omega, by omega, by omega⟩
            simp only [h3, if_neg n1, bh10 hf hh ho hC hsC, Option.bind_some, if_neg n2, bh13 hf hh ho hE hs, if_neg n3, e]
      · by_cases cz : z = x
        · rw [cz]; exact ok
        · exact k2.2.2 z (by omega) z2
theorem l_308 {rd x : Int} {G : xG_} (hf : 1000100 < f) (hh : h < 4) (ho : o = 123 + 29 * h) (hrd : rd < 1000000) (hm : (∀ a ∈ L, a.1 ≤ rd) ∧ (∀ a ∈ C, a.1 ≤ rd) ∧ ∀ a ∈ E, a.1 ≤ rd) (h0 : 0 ≤ x) (hx : x ≤ rd) (h3 : G o 3 = x) (hH : rHi G o L C E) :
    ∃ G' y, g308 f o G = some G' ∧ tmIs L C E x y ∧ y ≤ rd ∧ rHi G' o (lgK y L) (lgK y C) (lgK y E) ∧ G' o 3 = y ∧ fTm o G G' :=
  l_308_0 (f := f) (by omega) hh ho hrd hm (rd - x).toNat f G x (by omega) (by omega) h0 h3 hH
/-- forget -/
theorem l_202 {G : xG_} (hf : 100 < f) : ∃ G', g202 f o G = some G' ∧ G' o 33 = 0 ∧ G' o 34 = -1 ∧ (∀ c, c < 72 → G' (o + 26) c = -1) ∧ ∀ a j, ¬ (a = o ∧ (j = 33 ∨ j = 34)) → ¬ (a = o + 26 ∧ j < 72) → G' a j = G a j := by
  have loop : ∀ (d c fu : Nat) (Z : xG_), c + d = 72 → d < fu → (∀ j, j < c → Z (o + 26) j = -1) → ∃ Z', g202_12 f fu o (c : Int) Z = some Z' ∧ (∀ j, j < 72 → Z' (o + 26) j = -1) ∧ ∀ a j, ¬ (a = o + 26 ∧ j < 72) → Z' a j = Z a j := by
    intro d
    induction d with
    | zero =>
      intro c fu Z h1 h2 h3
      obtain ⟨fu, rfl⟩ : ∃ t, fu = t + 1 := ⟨fu - 1, by omega⟩
      refine ⟨Z, ?_, fun j hj => h3 j (by omega), fun _ _ _ => rfl⟩
      show g202_12b (g202_12 f fu) f _ _ _ = _
      unfold g202_12b
      rw [if_pos (by omega)]
    | succ d ih =>
      intro c fu Z h1 h2 h3
      obtain ⟨fu, rfl⟩ : ∃ t, fu = t + 1 := ⟨fu - 1, by omega⟩
      have e : xwr ((c : Int) + 1) = ((c + 1 : Nat) : Int) := by rw [xwr_g _ (by omega) (by omega)]; omega
      obtain ⟨Z', k1, k2, k3⟩ := ih (c + 1) fu (xup2 Z (o + 26) c (-1)) (by omega) (by omega) (fun j hj => by
        by_cases cj : j = c
        · rw [cj, xup2_s]
        · rw [xup2_n (by omega)]; exact h3 j (by omega))
      refine ⟨Z', ?_, k2, fun a j y => by rw [k3 a j y, xup2_n (by omega)]⟩
      rw [← k1]
      show g202_12b (g202_12 f fu) f _ _ _ = _
      unfold g202_12b
      rw [if_neg (by omega), if_pos (by omega), Option.bind_some, Int.toNat_natCast, e]
  obtain ⟨Z, k1, k2, k3⟩ := loop 72 0 f (xup2 (xup2 G o 33 0) o 34 (-1)) (by omega) (by omega) (fun j hj => absurd hj (Nat.not_lt_zero j))
  refine ⟨Z, k1, ?_, ?_, k2, fun a j y1 y2 => ?_⟩
  · rw [k3 _ _ (by omega), xup2_n (by omega), xup2_s]
  · rw [k3 _ _ (by omega), xup2_s]
  · rw [k3 _ _ y2, xup2_n (by omega), xup2_n (by omega)]
/-- forgetRound -/
theorem l_203 {G : xG_} (hf : 100 < f) : ∃ G', g203 f o G = some G' ∧ G' o 27 = 0 ∧ (∀ c, c < 16 → G' (o + 19) c = 0) ∧ ∀ a j, ¬ (a = o ∧ j = 27) → ¬ (a = o + 19 ∧ j < 16) → G' a j = G a j := by
  have loop : ∀ (d c fu : Nat) (Z : xG_), c + d = 16 → d < fu → (∀ j, j < c → Z (o + 19) j = 0) → ∃ Z', g203_7 f fu o (c : Int) Z = some Z' ∧ (∀ j, j < 16 → Z' (o + 19) j = 0) ∧ ∀ a j, ¬ (a = o + 19 ∧ j < 16) → Z' a j = Z a j := by
    intro d
    induction d with
    | zero =>
      intro c fu Z h1 h2 h3
      obtain ⟨fu, rfl⟩ : ∃ t, fu = t + 1 := ⟨fu - 1, by omega⟩
      refine ⟨Z, ?_, fun j hj => h3 j (by omega), fun _ _ _ => rfl⟩
      show g203_7b (g203_7 f fu) f _ _ _ = _
      unfold g203_7b
      rw [if_pos (by omega)]
    | succ d ih =>
      intro c fu Z h1 h2 h3
      obtain ⟨fu, rfl⟩ : ∃ t, fu = t + 1 := ⟨fu - 1, by omega⟩
      have e : xwr ((c : Int) + 1) = ((c + 1 : Nat) : Int) := by rw [xwr_g _ (by omega) (by omega)]; omega
      obtain ⟨Z', k1, k2, k3⟩ := ih (c + 1) fu (xup2 Z (o + 19) c 0) (by omega) (by omega) (fun j hj => by
        by_cases cj : j = c
        · rw [cj, xup2_s]
        · rw [xup2_n (by omega)]; exact h3 j (by omega))
      refine ⟨Z', ?_, k2, fun a j y => by rw [k3 a j y, xup2_n (by omega)]⟩
      rw [← k1]
      show g203_7b (g203_7 f fu) f _ _ _ = _
      unfold g203_7b
      rw [if_neg (by omega), if_pos (by omega), Option.bind_some, Int.toNat_natCast, e]
  obtain ⟨Z, k1, k2, k3⟩ := loop 16 0 f (xup2 G o 27 0) (by omega) (by omega) (fun j hj => absurd hj (Nat.not_lt_zero j))
  refine ⟨Z, k1, ?_, k2, fun a j y1 y2 => ?_⟩
  · rw [k3 _ _ (by omega), xup2_s]
  · rw [k3 _ _ y2, xup2_n (by omega)]
end
