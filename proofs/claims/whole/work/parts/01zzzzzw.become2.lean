/-! become, whole -/
section
variable {f o h : Nat} {H : Nat → sMo}
theorem l_312_122 {r : Nat} {x4 : Int} (ho : 122 < o ∧ o < 211) {C L0 : List pCg} (h0 : ∀ a ∈ L0, a.1 ≤ (r : Int)) (hC : C.length ≤ 200) : ∀ (k fu : Nat) (L1 : List pCg) (G : xG_), C = (L0 ++ hCat (hCg H) r k) ++ L1 → (hCat (hCg H) r k).length < fu → G o 16 = ((L0 ++ hCat (hCg H) r k).length : Int) → (∀ i, i < C.length → G (o + 10) i = (C.getD i (0, 0, 0)).1 ∧ G (o + 11) i = (C.getD i (0, 0, 0)).2.1 ∧ G (o + 12) i = (C.getD i (0, 0, 0)).2.2) → hSt H r k → (∀ c, c < 72 → G (o + 15) c = ((H (r + k)).2.2.1 c : Int)) →
    ∃ G', g312_122 f fu o (r : Int) x4 G = g312_180 f o (r : Int) x4 G' ∧ G' o 16 = (L0.length : Int) ∧ (∀ c, c < 72 → G' (o + 15) c = ((H r).2.2.1 c : Int)) ∧ ∀ a j, ¬ (a = o ∧ j = 16) → a ≠ o + 15 → G' a j = G a j := by
  intro k
  induction k with
  | zero =>
    intro fu L1 G h1 h2 h3 h4 h5 h6
    have en : L0 ++ hCat (hCg H) r 0 = L0 := List.append_nil _
    rw [en] at h1 h3
    obtain ⟨fu, rfl⟩ : ∃ t, fu = t + 1 := ⟨fu - 1, by omega⟩
    refine ⟨G, ?_, h3, h6, fun _ _ _ _ => rfl⟩
    show g312_122b (g312_122 f fu) f o (r : Int) x4 G = _
    unfold g312_122b
    rw [h3]
    by_cases c : L0.length = 0
    · rw [if_pos (by omega)]
    · have hL : C.length = L0.length + L1.length := by rw [h1, List.length_append]
      have e1 : xwr ((L0.length : Int) - 1) = ((L0.length - 1 : Nat) : Int) := by rw [xwr_g _ (by omega) (by omega)]; omega
      have hm : C.getD (L0.length - 1) (0, 0, 0) ∈ L0 := by
        rw [h1, getD_app _ (by omega), getD_e (by omega)]
        exact List.getElem_mem _
      have := h0 _ hm
      rw [if_neg (by omega), e1, if_pos (by omega), Int.toNat_natCast, (h4 _ (by omega)).1, if_pos this]
  | succ k ih =>
    intro fu L1 G h1 h2 h3 h4 h5 h6
    have e1 : L0 ++ hCat (hCg H) r (k + 1) = (L0 ++ hCat (hCg H) r k) ++ hCg H (r + k + 1) := (List.append_assoc _ _ _).symm
    have eh : (hCat (hCg H) r (k + 1)).length = (hCat (hCg H) r k).length + (hCg H (r + k + 1)).length := List.length_append
    have hL : C = (L0 ++ hCat (hCg H) r k) ++ (hCg H (r + k + 1) ++ L1) := by rw [h1, e1, List.append_assoc]
    obtain ⟨s1, s2⟩ := h5 (r + k + 1) (by omega) (by omega)
    have er : r + k + 1 - 1 = r + k := by omega
    rw [er] at s2
    have hb : hCg H (r + k + 1) = cgN ((r + k + 1 : Nat) : Int) (H (r + k)).2.2.1 (H (r + k + 1)).2.2.2.1 72 := by
      unfold hCg
      rw [er]
    obtain ⟨G1, fu', u1, u2, u3, u4, u5⟩ := l_312_122b (f := f) (o := o) (r := (r : Int)) (x4 := x4) (rd := ((r + k + 1 : Nat) : Int)) (by omega) ho (L0 := L0 ++ hCat (hCg H) r k) (K := (H (r + k)).2.2.1) (W := (H (r + k + 1)).2.2.2.1) 72 fu L1 G (Nat.le_refl _) (by rw [← hb]; omega) (.inr ⟨by rw [← hb, ← e1]; exact h3, by rw [← hb, ← hL]; exact h4, by rw [← hb, ← hL]; exact hC⟩) (by rw [← hb, ← e1]; exact h3) (fun c hc => by
      rw [h6 c hc, show r + (k + 1) = r + k + 1 by omega, s2])
    rw [← hb] at u2
    obtain ⟨G', v1, v2, v3, v4⟩ := ih fu' (hCg H (r + k + 1) ++ L1) G1 hL (by omega) u3 (fun i hi => by
      rw [u5 _ _ (by omega) (by omega), u5 _ _ (by omega) (by omega), u5 _ _ (by omega) (by omega)]
      exact h4 i hi) (fun i i1 i2 => h5 i i1 (by omega)) u4
    exact ⟨G', u1.trans v1, v2, v3, fun a j q1 q2 => (v4 a j q1 q2).trans (u5 a j q1 q2)⟩
/-- what become changes -/
def xfB (o : Nat) (G G' : xG_) : Prop := ∀ a j, ¬ (253 ≤ a ∧ a ≤ 256) → ¬ (a = o ∧ (1 ≤ j ∧ j ≤ 4 ∨ j = 10 ∨ j = 16 ∨ j = 17 ∨ j = 27 ∨ j = 33 ∨ j = 34)) → ¬ (o + 1 ≤ a ∧ a ≤ o + 4) → a ≠ o + 15 → a ≠ o + 18 → a ≠ o + 19 → a ≠ o + 26 → G' a j = G a j
theorem l_312 {G : xG_} {b i k ed : Nat} (hf : 12100 < f) (hh : h < 4) (ho : o = 123 + 29 * h) (hP : rPa G o H b (i + k)) (hs : hSt H b (i + k)) (hF : hFc H b (i + k)) (h1 : G o 1 = ((H (b + (i + k))).1 : Int)) (hFa : rFa G (o + 1) (H (b + (i + k))).2.1) (hK : ∀ c, c < 72 → G (o + 15) c = ((H (b + (i + k))).2.2.1 c : Int)) (h4 : G o 4 = ((ed + (hCat (hEg H) (b + i) k).length : Nat) : Int)) (hed : ed < 1000000) :
    ∃ G', g312 f o ((b + i : Nat) : Int) G = some G' ∧ rPa G' o H b i ∧ G' o 1 = ((H (b + i)).1 : Int) ∧ G' o 2 = ((b + i : Nat) : Int) ∧ G' o 3 = G o 3 ∧ G' o 4 = (ed : Int) ∧ rFa G' (o + 1) (H (b + i)).2.1 ∧ (∀ c, c < 72 → G' (o + 15) c = ((H (b + i)).2.2.1 c : Int)) ∧
      G' o 33 = 0 ∧ G' o 34 = -1 ∧ (∀ c, c < 72 → G' (o + 26) c = -1) ∧ G' o 27 = 0 ∧ (∀ p, p < 16 → G' (o + 19) p = 0) ∧ (∀ p, p < 16 → G' (o + 18) p = if (H (b + i)).1 = (H (b + (i + k))).1 then G (o + 18) p else 0) ∧ xfB o G G' := by
  have hob : 122 < o ∧ o < 211 := by omega
  obtain ⟨hL, hC, hE, hsL, hsC, hsE⟩ := hP
  obtain ⟨G1, k1, k2, k3⟩ := l_311 hf hh ho ⟨hL, hC, hE, hsL, hsC, hsE⟩ hs hF h1 hFa
  have z1 : ∀ a j, a < 253 → G1 a j = G a j := fun a j q => k3 a j (by omega) (by omega) (by omega) (by omega)
  obtain ⟨G2, u1, u2, u3⟩ := l_194 (f := f) (b := o + 1) (b1 := 253) (by omega) (by unfold isFb; omega) (by unfold isFb; omega) (by omega) k2
  let G3 := xup2 G2 o 1 ((H (b + i)).1 : Int)
  have z3 : ∀ a j, a < 253 → ¬ (a = o ∧ j = 1) → ¬ (a = o + 1 ∧ j = 3) → ¬ (o + 2 ≤ a ∧ a ≤ o + 4) → G3 a j = G a j := fun a j q1 q2 q3 q4 => by
    show xup2 _ _ _ _ _ _ = _
    rw [xup2_n (by omega), u3 a j (by omega) (by omega) (by omega) (by omega), z1 a j q1]
  -- which edition
  have e0 : ∃ x4 : Int, g312 f o ((b + i : Nat) : Int) G = g312_42 f f o ((b + i : Nat) : Int) x4 G3 ∧ (x4 = 0 ↔ (H (b + i)).1 = (H (b + (i + k))).1) := by
    have e24 : ∀ y : Int, g312_24 f o ((b + i : Nat) : Int) ((H (b + i)).1 : Int) y G1 = g312_42 f f o ((b + i : Nat) : Int) y G3 := fun y => by
      unfold g312_24
      rw [u1, Option.bind_some, Option.bind_some]
    unfold g312
    rw [k1, Option.bind_some]
    simp only []
    rw [z1 _ _ (by omega), h1]
    by_cases c : ((H (b + i)).1 : Int) = ((H (b + (i + k))).1 : Int)
    · rw [if_pos c]
      exact ⟨0, e24 0, fun _ => by omega, fun _ => rfl⟩
    · rw [if_neg c]
      exact ⟨1, e24 1, fun q => absurd q (by decide), fun q => absurd (by rw [q]) c⟩
  obtain ⟨x4, e0, e4⟩ := e0
  have sp := fun (α : Type) (g : Nat → List (Int × α)) => hCat_split (g := g) (b := b) (i := i) k
  have m0 : ∀ {α : Type} {g : Nat → List (Int × α)}, (∀ r, ∀ a ∈ g r, a.1 = (r : Int)) → (∀ a ∈ hCat g b i, a.1 ≤ ((b + i : Nat) : Int)) ∧ ∀ a ∈ hCat g (b + i) k, ((b + i : Nat) : Int) < a.1 := fun hg => ⟨fun a ha => by have := hCat_mem hg i ha; omega, fun a ha => (hCat_mem hg k ha).1⟩
  -- the log
  have hL3 : rLg G3 o (hCat (hLg H) b i ++ hCat (hLg H) (b + i) k) := by
    rw [← sp]
    exact hL.ge (z3 _ _ (by omega) (by omega) (by omega) (by omega)) (fun a j _ _ => z3 _ _ (by omega) (by omega) (by omega) (by omega))
  obtain ⟨G4, v1, v2, v3⟩ := l_312_42 (f := f) (o := o) (x4 := x4) (m0 (hLg_r H)).1 (m0 (hLg_r H)).2 (hCat (hLg H) (b + i) k).length f G3 (Nat.le_refl _) (by have := hL3.2.1; rw [List.length_append] at this; omega) (by rw [hL3.1, List.length_append]) (fun j hj => (hL3.2.2 j hj).1) hL3.2.1
  have z4 : ∀ a j, a < 253 → ¬ (a = o ∧ (j = 1 ∨ j = 10)) → ¬ (a = o + 1 ∧ j = 3) → ¬ (o + 2 ≤ a ∧ a ≤ o + 4) → G4 a j = G a j := fun a j q1 q2 q3 q4 => by rw [v3 a j (by omega), z3 a j q1 (by omega) q3 q4]
  -- the editions
  have hE4 : rEg G4 o (hCat (hEg H) b i ++ hCat (hEg H) (b + i) k) := by
    rw [← sp]
    exact hE.ge (z4 _ _ (by omega) (by omega) (by omega) (by omega)) (fun a j _ _ => z4 _ _ (by omega) (by omega) (by omega) (by omega))
  obtain ⟨G5, w1, w2, w4, w3⟩ := l_312_77 (f := f) (o := o) (x4 := x4) (m0 (hEg_r H)).1 (m0 (hEg_r H)).2 (hCat (hEg H) (b + i) k).length f ed G4 (Nat.le_refl _) (by have := hE4.2.1; rw [List.length_append] at this; omega) (by rw [hE4.1, List.length_append]) (by rw [z4 _ _ (by omega) (by omega) (by omega) (by omega)]; exact h4) hed (fun j hj => (hE4.2.2 j hj).1) hE4.2.1
  have z5 : ∀ a j, a < 253 → ¬ (a = o ∧ (j = 1 ∨ j = 10 ∨ j = 17 ∨ j = 4)) → ¬ (a = o + 1 ∧ j = 3) → ¬ (o + 2 ≤ a ∧ a ≤ o + 4) → G5 a j = G a j := fun a j q1 q2 q3 q4 => by rw [w3 a j (by omega), z4 a j q1 (by omega) q3 q4]
  -- the CELLS
  have hC5 : rCg G5 o (hCat (hCg H) b i ++ hCat (hCg H) (b + i) k) := by
    rw [← sp]
    exact hC.ge (z5 _ _ (by omega) (by omega) (by omega) (by omega)) (fun a j _ _ => z5 _ _ (by omega) (by omega) (by omega) (by omega))
  obtain ⟨G6, x1, x2, x3, x5⟩ := l_312_122 (f := f) (H := H) (r := b + i) (x4 := x4) hob (C := hCat (hCg H) b i ++ hCat (hCg H) (b + i) k) (L0 := hCat (hCg H) b i) (m0 (hCg_r H)).1 hC5.2.1 k f [] G5 (List.append_nil _).symm (by have := hC5.2.1; rw [List.length_append] at this; omega) hC5.1 hC5.2.2 (fun r r1 r2 => hs r (by omega) (by omega)) (fun c hc => by rw [z5 _ _ (by omega) (by omega) (by omega) (by omega), hK c hc, show b + (i + k) = b + i + k by omega])
  have z6 : ∀ a j, a < 253 → ¬ (a = o ∧ (j = 1 ∨ j = 10 ∨ j = 17 ∨ j = 4 ∨ j = 16)) → ¬ (a = o + 1 ∧ j = 3) → ¬ (o + 2 ≤ a ∧ a ≤ o + 4) → a ≠ o + 15 → G6 a j = G a j := fun a j q1 q2 q3 q4 q5 => by rw [x5 a j (by omega) q5, z5 a j q1 (by omega) q3 q4]
  -- forget
  obtain ⟨G7, y1, y2, y3, y4, y5⟩ := l_202 (f := f) (o := o) (G := xup2 G6 o 2 ((b + i : Nat) : Int)) (by omega)
  obtain ⟨G8, t1, t2, t3, t4⟩ := l_203 (f := f) (o := o) (G := G7) (by omega)
  have f8 : ∀ a j, ¬ (a = o ∧ (j = 2 ∨ j = 27 ∨ j = 33 ∨ j = 34)) → ¬ (a = o + 26 ∧ j < 72) → ¬ (a = o + 19 ∧ j < 16) → G8 a j = G6 a j := fun a j q1 q2 q3 => by rw [t4 a j (by omega) (by omega), y5 a j (by omega) q2, xup2_n (by omega)]
  have loop : ∀ (d p fu : Nat) (Z : xG_), p + d = 16 → d < fu → (∀ j, j < p → Z (o + 18) j = 0) → ∃ Z', g312_201 f fu o (p : Int) Z = some Z' ∧ (∀ j, j < 16 → Z' (o + 18) j = 0) ∧ ∀ a j, a ≠ o + 18 → Z' a j = Z a j := by
    intro d
    induction d with
    | zero =>
      intro p fu Z h1 h2 h3
      obtain ⟨fu, rfl⟩ : ∃ t, fu = t + 1 := ⟨fu - 1, by omega⟩
      refine ⟨Z, ?_, fun j hj => h3 j (by omega), fun _ _ _ => rfl⟩
      show g312_201b (g312_201 f fu) f _ _ _ = _
      unfold g312_201b g312_222
      rw [if_pos (by omega)]
    | succ d ih =>
      intro p fu Z h1 h2 h3
      obtain ⟨fu, rfl⟩ : ∃ t, fu = t + 1 := ⟨fu - 1, by omega⟩
      have e : xwr ((p : Int) + 1) = ((p + 1 : Nat) : Int) := by rw [xwr_g _ (by omega) (by omega)]; omega
      obtain ⟨Z', q1, q2, q3⟩ := ih (p + 1) fu (xup2 Z (o + 18) p 0) (by omega) (by omega) (fun j hj => by
        by_cases c : j = p
        · rw [c, xup2_s]
        · rw [xup2_n (by omega)]; exact h3 j (by omega))
      refine ⟨Z', ?_, q2, fun a j q => by rw [q3 a j q, xup2_n (by omega)]⟩
      show g312_201b (g312_201 f fu) f _ _ _ = _
      unfold g312_201b
      rw [if_neg (by omega), if_pos (by omega), Int.toNat_natCast, Option.bind_some, e]
      exact q1
  have fin : ∃ G9, g312_180 f o ((b + i : Nat) : Int) x4 G6 = some G9 ∧ (∀ a j, a ≠ o + 18 → G9 a j = G8 a j) ∧ ∀ p, p < 16 → G9 (o + 18) p = if (H (b + i)).1 = (H (b + (i + k))).1 then G (o + 18) p else 0 := by
    unfold g312_180 g312_222
    rw [Option.bind_some, y1, Option.bind_some, t1, Option.bind_some]
    by_cases c : x4 = 0
    · rw [if_pos c]
      refine ⟨G8, rfl, fun _ _ _ => rfl, fun p hp => ?_⟩
      rw [if_pos (e4.mp c), f8 _ _ (by omega) (by omega) (by omega), z6 _ _ (by omega) (by omega) (by omega) (by omega) (by omega)]
    · rw [if_neg c]
      obtain ⟨Z, q1, q2, q3⟩ := loop 16 0 f G8 rfl (by omega) (fun j hj => absurd hj (Nat.not_lt_zero j))
      refine ⟨Z, q1, q3, fun p hp => ?_⟩
      rw [if_neg (fun q => c (e4.mpr q)), q2 p hp]
  obtain ⟨G9, r1, r2, r3⟩ := fin
  have z9 : ∀ a j, ¬ (a = o ∧ (j = 2 ∨ j = 27 ∨ j = 33 ∨ j = 34)) → ¬ (a = o + 26 ∧ j < 72) → ¬ (a = o + 19 ∧ j < 16) → a ≠ o + 18 → G9 a j = G6 a j := fun a j q1 q2 q3 q4 => by rw [r2 a j q4, f8 a j q1 q2 q3]
  refine ⟨G9, ?_, ⟨?_, ?_, ?_, ?_, ?_, ?_⟩, ?_, ?_, ?_, ?_, ?_, fun c hc => ?_, ?_, ?_, fun c hc => ?_, ?_, fun p hp => ?_, r3, fun a j q1 q2 q3 q4 q5 q6 q7 => ?_⟩
  · rw [e0, v1, w1, x1]
    exact r1
  · refine hL3.tk ?_ (fun a j _ _ => ?_)
    · rw [z9 _ _ (by omega) (by omega) (by omega) (by omega), x5 _ _ (by omega) (by omega), w3 _ _ (by omega), v2]
    · rw [z9 _ _ (by omega) (by omega) (by omega) (by omega), x5 _ _ (by omega) (by omega), w3 _ _ (by omega), v3 _ _ (by omega)]
  · refine hC5.tk ?_ (fun a j _ _ => ?_)
    · rw [z9 _ _ (by omega) (by omega) (by omega) (by omega), x2]
    · rw [z9 _ _ (by omega) (by omega) (by omega) (by omega), x5 _ _ (by omega) (by omega)]
  · refine hE4.tk ?_ (fun a j _ _ => ?_)
    · rw [z9 _ _ (by omega) (by omega) (by omega) (by omega), x5 _ _ (by omega) (by omega), w2]
    · rw [z9 _ _ (by omega) (by omega) (by omega) (by omega), x5 _ _ (by omega) (by omega), w3 _ _ (by omega)]
  · exact hCat_S (hLg_r H) i
  · exact hCat_S (hCg_r H) i
  · exact hCat_S (hEg_r H) i
  · rw [z9 _ _ (by omega) (by omega) (by omega) (by omega), x5 _ _ (by omega) (by omega), w3 _ _ (by omega), v3 _ _ (by omega)]
    exact xup2_s _ _ _ _
  · rw [r2 _ _ (by omega), t4 _ _ (by omega) (by omega), y5 _ _ (by omega) (by omega), xup2_s]
  · rw [z9 _ _ (by omega) (by omega) (by omega) (by omega), z6 _ _ (by omega) (by omega) (by omega) (by omega) (by omega)]
  · rw [z9 _ _ (by omega) (by omega) (by omega) (by omega), x5 _ _ (by omega) (by omega), w4]
  · have hxx : ∀ a j, o + 1 ≤ a → a ≤ o + 4 → G9 a j = G2 a j := fun a j q1 q2 => by
      rw [z9 _ _ (by omega) (by omega) (by omega) (by omega), x5 _ _ (by omega) (by omega), w3 _ _ (by omega), v3 _ _ (by omega)]
      exact xup2_n (by omega)
    exact u2.ge (hxx _ _ (by omega) (by omega)) (fun a j q1 q2 => hxx _ _ (by omega) (by omega))
  · rw [z9 _ _ (by omega) (by omega) (by omega) (by omega)]
    exact x3 c hc
  · rw [r2 _ _ (by omega), t4 _ _ (by omega) (by omega), y2]
  · rw [r2 _ _ (by omega), t4 _ _ (by omega) (by omega), y3]
  · rw [r2 _ _ (by omega), t4 _ _ (by omega) (by omega), y4 c hc]
  · rw [r2 _ _ (by omega), t2]
  · rw [r2 _ _ (by omega), t3 p hp]
  · by_cases cc : a < 253
    · rw [z9 _ _ (by omega) (by omega) (by omega) (by omega), z6 _ _ cc (by omega) (by omega) (by omega) q4]
    · rw [z9 _ _ (by omega) (by omega) (by omega) (by omega), x5 _ _ (by omega) (by omega), w3 _ _ (by omega), v3 _ _ (by omega)]
      show xup2 _ _ _ _ _ _ = _
      rw [xup2_n (by omega), u3 _ _ (by omega) (by omega) (by omega) (by omega), k3 _ _ (by omega) (by omega) (by omega) (by omega)]
end
